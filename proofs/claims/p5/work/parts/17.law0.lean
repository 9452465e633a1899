/-! A call of a method that may throw, in a method with handlers. -/
section X
variable {p : Program} {l : Launch} {e : Env} {R : Room} {s : State} {m : MethodId} {args : Array Value} {below : List Frame} {meth : Method} {c : Code} {T : State} {locs : List Loc} {cells slots : Nat}
theorem x_call (X : Stand p l e R s m args below meth c T locs cells slots) (hexec : p.tables.exec = Jvm.exec) {own C : String} {index : Nat} {y : MethodName} {bytes : ByteArray} {maxL : Nat} {ret : Option FieldType}
    (hown : s.vm.findClass own = some m.cls) (hlink : (Cond.methodLink own index y).before args s = true) (hinst : (Cond.instanceMethod y).before args s = true) (hsel : (Cond.selects C y y).before args s = true)
    (hcode : (Cond.code y bytes maxL ret).before args s = true) (hini : (Cond.initialized y.cls).before args s = true) (hy : y.cls ≠ "java/lang/invoke/MethodHandle" ∧ y.cls ≠ "java/lang/invoke/VarHandle")
    {ws : List Cond} {rm : Room} {Pc : Array Value → State → Prop} {Qc : Array Value → State → Outcome → State → Prop} {mc ms : Nat} {free : Addr → Prop}
    (hM : MetX l y ws rm Pc Qc mc ms free) (hblind : FrameBlind Pc) (hrm : rm.cells = mc ∧ rm.slots = ms ∧ rm.frames + 1 ≤ R.frames ∧ 8 + (maxL + 11) + rm.locals ≤ R.locals) (hws : ∀ w ∈ ws, ∀ (a' : Array Value) (U : State), s.WarmedH U.vm → w.before a' U = true)
    {b : Addr} {cellB : Cell} (hcell : T.heap[b]? = some cellB) (hobj : cellB.vm.isStatics = false) (hcls : s.vm.findClass C = some cellB.cls)
    {g : JFrame} (hg : g.method = m) (hsize : g.locals.size = c.maxLocals) {argsL rest : List Value} (hlen : ∀ sig, parseMethodDescriptor y.desc = some sig → argsL.length = sig.parameters.length)
    (hstack : g.stack = argsL.reverse ++ .ref b :: rest) (hW : 2 * g.monitorRoom + (rest.map fun v => v.category).sum ≤ 8) (hdg : decode c.code g.pc = .ok (.invokevirtual index, 3)) (hcs : cells + mc ≤ R.cells ∧ slots + ms ≤ R.slots)
    (hpre : ∀ vm₁, s.WarmedH vm₁ → Pc (Value.ref b :: argsL).toArray (T.setVm vm₁)) :
    ∃ (o : Outcome) (st₀ t T' : State) (L : List Loc), st₀.heap = T.heap ∧ Stand p l e R s m args below meth c T' (locs ++ L) (cells + mc) (slots + ms) ∧ (∀ q ∈ L, free q.base) ∧ T'.heap = t.heap ∧ T'.vm = t.vm ∧ Qc (Value.ref b :: argsL).toArray st₀ o t ∧
      ((∃ v, o = .returned v ∧ ∀ target, Steps p.tables e below (T'.setTop { g with pc := g.pc + 3, stack := v.toList ++ rest }) target → Steps p.tables e below (T.setTop g) target) ∨
       (∃ a, o = .threw a ∧ ∀ target, Steps p.tables e below ((T'.setTop { g with stack := rest }).pushFrame (.throwing a)) target → Steps p.tables e below (T.setTop g) target)) := by
  obtain ⟨mk, methM, hnamed, hmethM, hstM, habM⟩ := Cond.instanceMethod_spec hinst
  obtain ⟨methM', cM, hmethM', hcM, -, hlM, -, -, -, hsigM⟩ := Cond.code_spec hnamed hcode
  cases hmethM.symm.trans hmethM'
  obtain ⟨c2, r2, m2, q1, q2, q3, q4, kP, hkP, hkPi⟩ := Cond.selects_spec hsel
  cases hcls.symm.trans q1
  cases (State.methodFound?_of_named hnamed hy).symm.trans q2
  cases hnamed.symm.trans q3
  have hselP : selectMethod e.platform s.vm cellB.cls mk = .method mk := by rw [Launch.admits_selectMethod X.admits]; exact q4
  obtain ⟨vm₁, X₁, hstep₁⟩ := X.invokevirtual hexec hown hlink hnamed hmethM hstM hkP hkPi hy (a := b) (cell := cellB) hcell
    (fun z h => by rw [h] at hobj; cases hobj) hselP hmethM habM hkP hkPi (g := g) hg (argsL := argsL) (rest := rest) (hlen _ hsigM) hstack hdg
  have hW₁ := X₁.warmed
  have hn : (T.setVm vm₁).methodNamed? y = some mk := X₁.named hnamed
  have hmY : (T.setVm vm₁).vm.method? mk = some methM := by rw [hW₁.alike.method?]; exact hmethM
  have hini1 : (Cond.initialized y.cls).before args (T.setVm vm₁) = true := word_at hW₁ (Or.inl rfl) hini
  obtain ⟨kY, hkY, -⟩ := className_of_methodNamed hn
  have hinitY : kY.init = .initialized := Cond.initialized_spec (findClass_of_methodNamed hn) hkY hini1
  have h : At (T.setVm vm₁) ({ g with stack := rest } : JFrame).method c below := by show At _ g.method _ _; rw [hg]; exact X₁.here
  have hdg' : decode c.code ({ g with stack := rest } : JFrame).pc = .ok (.invokevirtual index, 3) := hdg
  have hwords : (headSpec ws rm).pre.before (Value.ref b :: argsL).toArray (T.setVm vm₁) = true := atoms_intro fun w hw => hws w hw _ _ hW₁
  have happ : (headSpec ws rm).appliesLoose y e.platform ((T.setVm vm₁).calling ({ g with stack := rest } : JFrame) mk (Value.ref b :: argsL).toArray) = true :=
    Spec.appliesLoose_calling (g := { g with stack := rest }) h hdg' hn hkY hinitY
      (X₁.room_calling (g := { g with stack := rest }) (R' := (headSpec ws rm).room) hsize hmY hcM hrm.2.2.1 (by
        rw [hlM]
        show 2 * g.monitorRoom + (rest.map fun v => v.category).sum + (maxL + 11) + rm.locals ≤ R.locals
        have := hrm.2.2.2
        omega) (by show cells + rm.cells ≤ R.cells; rw [hrm.1]; exact hcs.1) (by show slots + rm.slots ≤ R.slots; rw [hrm.2.1]; exact hcs.2)) hwords
  obtain ⟨mid, hmid⟩ := h.above
  have hfr : ((T.setVm vm₁).setTop ({ g with stack := rest } : JFrame)).frames = (.java { g with stack := rest } :: mid) ++ below := by rw [State.frames_setTop' _ h.top, hmid]; rfl
  obtain ⟨o, s₂, hsteps, -, hend, hq, Lc, hxe, hLf⟩ := Steps.callFree hM p X.admits X.cas X.clock (acts := []) hfr happ (hblind _ _ _ _ (hpre vm₁ hW₁)) trivial
  have hq' : Qc (Value.ref b :: argsL).toArray ((T.setVm vm₁).calling ({ g with stack := rest } : JFrame) mk (Value.ref b :: argsL).toArray) o s₂ := hq
  have hxe' : xEnd ((T.setVm vm₁).calling ({ g with stack := rest } : JFrame) mk (Value.ref b :: argsL).toArray) s₂ Lc mc ms := hxe
  obtain ⟨g₀, hr⟩ := X₁.frames_eq
  have hend' : Ended s₂ (.java { g with stack := rest } :: below) o := by
    rw [State.frames_setTop' _ h.top, hr] at hend
    exact hend
  cases o with
  | returned v =>
    obtain ⟨T', X', hw', hs', ht'⟩ := X₁.outOf (g := { g with stack := rest }) hg hdg' hend' hxe'.1 hxe'.2
    refine ⟨.returned v, (T.setVm vm₁).calling ({ g with stack := rest } : JFrame) mk (Value.ref b :: argsL).toArray, s₂, T', Lc, rfl, X', hLf, ?_, ?_, hq', Or.inl ⟨v, rfl, fun target ht => hstep₁ _ fun acts => ?_⟩⟩
    · rw [ht']; simp [State.setTop, State.modifyTopJava, State.setFrames]
    · rw [ht']; simp [State.setTop, State.modifyTopJava, State.setFrames]
    · rw [doInvoke_state]
      rw [ht'] at hsteps
      exact hsteps.trans ht
  | threw a =>
    obtain ⟨T', X', hw', hs', ht'⟩ := X₁.outOfThrown (g := { g with stack := rest }) hg hend' hxe'.1 hxe'.2
    refine ⟨.threw a, (T.setVm vm₁).calling ({ g with stack := rest } : JFrame) mk (Value.ref b :: argsL).toArray, s₂, T', Lc, rfl, X', hLf, ?_, ?_, hq', Or.inr ⟨a, rfl, fun target ht => hstep₁ _ fun acts => ?_⟩⟩
    · rw [ht']; exact (Stand.throwing_heap T' _ a).symm
    · rw [ht']; exact (Stand.throwing_vm T' _ a).symm
    · rw [doInvoke_state]
      rw [ht'] at hsteps
      exact hsteps.trans ht
end X
