/-! The search for a handler. -/
section X
variable {p : Program} {l : Launch} {e : Env} {R : Room} {s : State} {m : MethodId} {args : Array Value} {below : List Frame} {meth : Method} {c : Code} {T : State} {locs : List Loc} {cells slots : Nat}
theorem x_entry (X : Stand p l e R s m args below meth c T locs cells slots) {own : String} {i k : Nat} (hown : s.vm.findClass own = some m.cls) (hcl : (Cond.classLink own i (xN k)).before args s = true) (hW : s.WarmedH T.vm) : ∃ (cC : ClassId) (vm' : Vm), s.vm.findClass (xN k) = some cC ∧ (Jvm.resolveClass m.cls i).Gives e.toSetting T.vm (.ok cC) vm' ∧ s.WarmedH vm' ∧ vm'.classes.size ≤ T.vm.classes.size := by
  have hpl : e.platform.magicAccessors = ({} : Platform).magicAccessors := by rw [X.admits.platform]
  obtain ⟨cc, hfcc, hc1⟩ := Cond.classLink_spec hown hcl e.platform hpl
  obtain ⟨hg₁, hwarm₁, hready₁⟩ := State.classEntry (e := e) hW hc1
  refine ⟨cc, _, hfcc, hg₁, hwarm₁, ?_⟩
  rw [Vm.size_noted]
  exact Nat.le_refl _
theorem x_cls {vm' : Vm} {C : String} {k : ClassId} (hW : s.WarmedH vm') (h : s.vm.findClass C = some k) : ∃ kk, vm'.classes[k]? = some kk := by
  have h1 : vm'.findClass C = some k := by rw [hW.alike.findClass]; exact h
  exact Vm.classAt_of_findClass h1
theorem x_asg {vm' : Vm} {C : String} {k : ClassId} (hW : s.WarmedH vm') (h : s.vm.findClass C = some k) (hc : va_Nw (.castable C C) s) : vm'.assignable k k = true := by
  have h1 : va_Nw (.castable C C) (s.setVm vm') := va_Nw.warmC (U := s.setVm vm') hW hc
  obtain ⟨c1, t1, e1, e2, e3⟩ := Cond.castable_spec (args := #[]) (first := s.setVm vm') (o := none) (idx := []) h1
  have h2 : (s.setVm vm').vm.findClass C = some k := by show vm'.findClass C = some k; rw [hW.alike.findClass]; exact h
  cases e1.symm.trans h2
  cases e2.symm.trans h2
  exact e3
theorem x_nasg {vm' : Vm} {C D : String} {k k' : ClassId} (hW : s.WarmedH vm') (h : s.vm.findClass C = some k) (h' : s.vm.findClass D = some k') (hc : va_Nc C D s) : vm'.assignable k k' = false := by
  have h1 : va_Nc C D (s.setVm vm') := va_Nc.moved (U := s.setVm vm') hW.alike hc
  obtain ⟨c1, t1, e1, e2, e3⟩ := h1
  have h2 : (s.setVm vm').vm.findClass C = some k := by show vm'.findClass C = some k; rw [hW.alike.findClass]; exact h
  have h3 : (s.setVm vm').vm.findClass D = some k' := by show vm'.findClass D = some k'; rw [hW.alike.findClass]; exact h'
  cases e1.symm.trans h2
  cases e2.symm.trans h3
  exact e3
/-- the first entry takes it -/
theorem x_find1 (X : Stand p l e R s m args below meth c T locs cells slots) {own : String} {i k a0 b0 h0 : Nat} {more : List (Nat × Nat × Nat × Nat)} (hown : s.vm.findClass own = some m.cls) (hcl : (Cond.classLink own i (xN k)).before args s = true) (hca : va_Nw (.castable (xN k) (xN k)) s)
    (hht : c.exceptionTable.toList.map (fun h => (h.startPc, h.endPc, h.handlerPc, h.catchType)) = (a0, b0, h0, i) :: more) {g : JFrame} (hg : g.method = m) (hpc : a0 ≤ g.pc ∧ g.pc < b0) (hi : i ≠ 0) {a : Nat} (hx : xCell k a T) :
    ∃ vm', s.WarmedH vm' ∧ xFinds e ((T.setTop g).pushFrame (.throwing a)) vm' g a (.found h0) := by
  obtain ⟨ce, hce, hst, hfc⟩ := hx
  have hW := X.warmed
  have hfc' : s.vm.findClass (xN k) = some ce.cls := by rw [← hW.alike.findClass]; exact hfc
  obtain ⟨cC, vm', h1, h2, h3, h4⟩ := x_entry X hown hcl hW
  cases hfc'.symm.trans h1
  refine ⟨vm', h3, fun Q E d acts => ?_⟩
  have hvm : ((T.setTop g).pushFrame (.throwing a)).vm = T.vm := Stand.throwing_vm T g a
  have hhp : ((T.setTop g).pushFrame (.throwing a)).heap = T.heap := Stand.throwing_heap T g a
  have hm : ((T.setTop g).pushFrame (.throwing a)).vm.method? g.method = some meth := by rw [hvm, hg]; exact X.method'
  rw [W.findHandler_eq hm X.code]
  cases htl : c.exceptionTable.toList with
  | nil => rw [htl] at hht; cases hht
  | cons x t =>
    rw [htl, List.map_cons] at hht
    have hx0 := (List.cons.inj hht).1
    simp only [Prod.mk.injEq] at hx0
    obtain ⟨e1, e2, e3, e4⟩ := hx0
    rw [x_go_cold (c := ce.cls) (cell := ce) (vm' := vm') (by simp [covers, e1, e2, hpc.1, hpc.2]) (by rw [e4]; exact hi) (by rw [hvm, hg, e4]; exact h2) (by rw [hvm]; exact h4) (by rw [hhp]; exact hce) hst (x_cls h3 hfc') (x_cls h3 hfc'), if_pos (x_asg h3 hfc' hca), e3]
/-- the first entry lets it pass, the second takes it -/
theorem x_find2 (X : Stand p l e R s m args below meth c T locs cells slots) {own : String} {i i' a0 b0 h0 a1 b1 h1' : Nat} {more : List (Nat × Nat × Nat × Nat)} (hown : s.vm.findClass own = some m.cls) (hcl1 : (Cond.classLink own i (xN 1)).before args s = true) (hcl : (Cond.classLink own i' (xN 2)).before args s = true) (hca : va_Nw (.castable (xN 2) (xN 2)) s) (hnc : va_Nc (xN 2) (xN 1) s)
    (hht : c.exceptionTable.toList.map (fun h => (h.startPc, h.endPc, h.handlerPc, h.catchType)) = (a0, b0, h0, i) :: (a1, b1, h1', i') :: more) {g : JFrame} (hg : g.method = m) (hpc : a0 ≤ g.pc ∧ g.pc < b0) (hpc1 : a1 ≤ g.pc ∧ g.pc < b1) (hi : i ≠ 0) (hi' : i' ≠ 0) {a : Nat} (hx : xCell 2 a T) :
    ∃ vm', s.WarmedH vm' ∧ xFinds e ((T.setTop g).pushFrame (.throwing a)) vm' g a (.found h1') := by
  obtain ⟨ce, hce, hst, hfc⟩ := hx
  have hW := X.warmed
  have hfc' : s.vm.findClass (xN 2) = some ce.cls := by rw [← hW.alike.findClass]; exact hfc
  obtain ⟨cC, vm1, h1, h2, h3, h4⟩ := x_entry X hown hcl1 hW
  have X1 := X.noted h3
  obtain ⟨cD, vm2, k1, k2, k3, k4⟩ := x_entry X1 hown hcl h3
  cases hfc'.symm.trans k1
  refine ⟨vm2, k3, fun Q E d acts => ?_⟩
  have hvm : ((T.setTop g).pushFrame (.throwing a)).vm = T.vm := Stand.throwing_vm T g a
  have hhp : ((T.setTop g).pushFrame (.throwing a)).heap = T.heap := Stand.throwing_heap T g a
  have hm : ((T.setTop g).pushFrame (.throwing a)).vm.method? g.method = some meth := by rw [hvm, hg]; exact X.method'
  rw [W.findHandler_eq hm X.code]
  cases htl : c.exceptionTable.toList with
  | nil => rw [htl] at hht; cases hht
  | cons x t =>
    cases t with
    | nil => rw [htl] at hht; cases hht
    | cons x' t' =>
      rw [htl, List.map_cons, List.map_cons] at hht
      have hx0 := (List.cons.inj hht).1
      have hx1 := (List.cons.inj (List.cons.inj hht).2).1
      simp only [Prod.mk.injEq] at hx0 hx1
      obtain ⟨e1, e2, e3, e4⟩ := hx0
      obtain ⟨f1, f2, f3, f4⟩ := hx1
      rw [x_go_cold (c := cC) (cell := ce) (vm' := vm1) (by simp [covers, e1, e2, hpc.1, hpc.2]) (by rw [e4]; exact hi) (by rw [hvm, hg, e4]; exact h2) (by rw [hvm]; exact h4) (by rw [hhp]; exact hce) hst (x_cls h3 hfc') (x_cls h3 h1), if_neg (by rw [x_nasg h3 hfc' h1 hnc]; decide)]
      rw [x_go_cold (s := ((T.setTop g).pushFrame (.throwing a)).setVm vm1) (f := g) (x := x') (c := ce.cls) (cell := ce) (vm' := vm2) (by simp [covers, f1, f2, hpc1.1, hpc1.2]) (by rw [f4]; exact hi') (by rw [hg, f4]; exact k2) k4 (by show ((T.setTop g).pushFrame (.throwing a)).heap[a]? = _; rw [hhp]; exact hce) hst (x_cls k3 hfc') (x_cls k3 hfc'), if_pos (x_asg k3 hfc' hca), f3]
      rfl
end X
/-! The law's helpers: a call that may throw, and the law's long array. -/
abbrev uBh (D : va_G) (cc : Nat → ClassId) (L : List Nat) (A : Nat → Nat) (sz : Nat) (u : (Nat → Int64) × List Nat × (Nat → Nat) × UI × UR) (t : State) : Prop := va_P D cls (uW cc u.2.1 u.2.2.1 u.1 u.2.2.2.1 u.2.2.2.2) t.heap ∧ uEx sz L A u.2.1 u.2.2.1
def uMH (l : Launch) (y : MethodName) (cd : Cond) (rm : Room) (mc ms : Nat) (as : List Value) (D : va_G) (cc : Nat → ClassId) (L : List Nat) (A : Nat → Nat) (J : Nat → Int64) (t16 t32 : Nat) (I : UI) (R : UR) (Q : Int32 → (Nat → Int64) → List Nat → UI → UR → Prop) : Prop :=
  ∀ sz, Met l y (wS cd) rm (va_Pc as (uPre D cc L A J t16 t32 I R sz)) (va_Qi (fun (r : Int32) (u : (Nat → Int64) × List Nat × (Nat → Nat) × UI × UR) => Q r u.1 u.2.1 u.2.2.2.1 u.2.2.2.2) (uBh D cc L A sz) (uA L A sz)) mc ms (uA L A sz)
section U
variable {p : Program} {l : Launch} {e : Env} {Rm : Room} {s : State} {m : MethodId} {args : Array Value} {below : List Frame} {meth : Method} {c : Code} {H : Heap} {locs : List Loc} {cells slots : Nat} {Q : State → Prop}
variable {cb : ByteArray} {pc nL : Nat} {ls : Array Slot} {rest st : List Value} {own : String} {D : va_G} {cc : Nat → ClassId} {L L0 : List Nat} {A A0 : Nat → Nat} {J : Nat → Int64} {t16 t32 : Nat} {I : UI} {R : UR}
theorem u_entryH {y : MethodName} {n sz mc ms : Nat} {ret : Option FieldType} {hh : List (Nat × Nat × Nat × Nat)} {rm : Room} {as : List Value} {Qc : Array Value → State → Outcome → State → Prop} (hy : plainName y.cls = true) (hn : (lg_sl as).length ≤ n)
    (body : ∀ (p : Program) (e : Env) (s : State) (m : MethodId) (args : Array Value) (below : List Frame) (meth : Method) (c : Code), sz = s.heap.size → uX p s m args c cb n y.cls D cc L A t16 t32 → uV s D cc L A J I R s.heap [] → meth.sig.returnType = ret → meth.locks = false → c.exceptionTable.toList.map (fun h => (h.startPc, h.endPc, h.handlerPc, h.catchType)) = hh → ∀ ls : Array Slot, lv_has ls n (lv_args 0 as) →
      W p l e rm s m args below meth c s.heap [] 0 0 (MQ below Qc args s mc ms (uA L A sz)) (F0 m 0 ls [])) :
    Met l y (wS (.codeWith y cb n ret hh)) rm (va_Pc as (uPre D cc L A J t16 t32 I R sz)) Qc mc ms (uA L A sz) := by
  refine va_MetW (cc := cb) (maxL := n) (ret := ret) (hh := hh) hy rfl ?_
  intro p e s m args below meth c s₁ B hml hv
  obtain ⟨rfl, hsz, hP, hK, hD, hFx, hT⟩ := hv
  have hts := atoms_spec (ws := wS (.codeWith y cb n ret hh)) B.pre
  have hown : s.vm.findClass y.cls = some m.cls := findClass_of_methodNamed B.named
  have hl := lv_entry as (n := n) hn
  obtain ⟨m9, meth9, c9, g1, g2, g3, g4, g5, g6, -⟩ := Cond.codeWith_spec (hts _ List.mem_cons_self)
  cases B.named.symm.trans g1
  cases B.method.symm.trans g2
  cases (Stand.of_body B).code.symm.trans g3
  rw [lg_entry_eq]
  refine body p e s m _ below meth c hsz.symm ⟨B.exec, B.bytes, hml, hown, fun w hw => hts w (List.mem_cons_of_mem _ hw), hK, hD, hFx, ?_⟩ ⟨hP, va_S.rf⟩ B.returns B.notSynchronized g6 _ hl
  rw [hsz]; exact hT
theorem u_retH (X : uX p s m args c cb nL own D cc L A t16 t32) (V : uV s D cc L A J I R H locs) (hE : uEx s.heap.size L0 A0 L A) {mc ms : Nat} (hk : cells ≤ mc ∧ slots ≤ ms) (hr : meth.sig.returnType = some .int) (hlk : meth.locks = false) {sz : Nat} (hsz : sz = s.heap.size) {v : Int32} {Q : Int32 → (Nat → Int64) → List Nat → UI → UR → Prop} (hQ : Q v J L I R) (hdg : decode cb pc = .ok (.ireturn, 1)) :
    W p l e Rm s m args below meth c H locs cells slots (MQ below (va_Qi (fun (r : Int32) (u : (Nat → Int64) × List Nat × (Nat → Nat) × UI × UR) => Q r u.1 u.2.1 u.2.2.2.1 u.2.2.2.2) (uBh D cc L0 A0 sz) (uA L0 A0 sz)) args s mc ms (uA L0 A0 sz)) (F0 m pc ls [.int v]) := by
  subst hsz
  have hS := V.2.mono hE.sub
  refine W.widen hk.1 hk.2 ?_
  exact W.iret X.1 X.2.1 hr (fun t ht hW => ⟨⟨v, (J, L, A, I, R), rfl, hQ, by show va_P _ _ _ _; rw [ht]; exact V.1, hE⟩, hS.F ht⟩) hS.2.2 hdg
theorem uW_setJ {q i : Nat} {x : Int64} (hn : L.Nodup) (hq : L[q]? = some 0) : (uW cc L A J I R).set q (A 0, .inl (cc 4, 1, .inr (.inl (vp_updL J i x)))) = uW cc L A (vp_updL J i x) I R := by
  rw [gW_set hn hq]
  refine gW_congr fun o' _ => ?_
  by_cases h : o' = 0
  · subst h; rw [va_up_self, uE_out]
  · rw [va_up_ne _ _ h]
    have hk : kd o' ≠ 0 := by
      by_cases hb : o' < 112
      · have key : ∀ o, o < 112 → o ≠ 0 → kd o ≠ 0 := by decide +kernel
        exact key o' hb h
      · rw [kd_big (by omega)]; decide
    unfold uE
    simp only [hk, if_false]
theorem u_last (X : uX p s m args c cb nL own D cc L A t16 t32) (V : uV s D cc L A J I R H locs) {i : Int32} {x : Int64} (hin : vp_in i 1) (hdg : decode cb pc = .ok (.lastore, 1))
    (kk : ∀ J1 : Nat → Int64, J1 = vp_updL J i.toNatClampNeg x → ∀ (H : Heap) (locs : List Loc), uV s D cc L A J1 I R H locs → W p l e Rm s m args below meth c H locs cells slots Q (F0 m (pc + 1) ls rest)) : W p l e Rm s m args below meth c H locs cells slots Q (F0 m pc ls (.long x :: .int i :: .ref (A 0) :: rest)) := by
  have hD := X.dd (P := uA L A s.heap.size) uA_in (E := uE cc A J I R)
  have ho : 0 ∈ L := X.fix rfl
  obtain ⟨hx, hb, -, hown, hts, hK, -, hFx, -⟩ := X
  obtain ⟨q, hq0, hq⟩ := gW_at (A := A) (E := uE cc A J I R) ho
  rw [uE_out] at hq
  refine va_last hx hb hK V.1 hD V.2 q 4 hq rfl hin hdg (fun H1 locs1 hP1 _ hS1 => kk _ rfl H1 locs1 ⟨?_, hS1⟩)
  rw [← uW_setJ hFx.1 hq0]
  exact hP1
/-- the call: it comes back, or a handler takes what it throws -/
theorem u_cX (X : uX p s m args c cb nL own D cc L A t16 t32) (V : uV s D cc L A J I R H locs) (hE : uEx s.heap.size L0 A0 L A) {index n maxL o κ mc ms : Nat} {y : MethodName} {bytes : ByteArray} {ty : FieldType} {rm : Room} {As : List Value} {Q0 : Int32 → List Nat → UI → UR → Prop} {QE : Nat → Prop} (S : uCv own index y n (.code y bytes maxL (some ty))) (ho : o ∈ L) (hk : kd o = κ) (hO : isO κ = true) (hc : (cls[(lay κ).1]?).map (fun q => q.1) = some y.cls)
    (hM : uMX l y (.code y bytes maxL (some ty)) rm mc ms (.ref (A o) :: As) D cc L A J t16 t32 I R Q0 QE) (hrm : rm.cells = mc ∧ rm.slots = ms ∧ rm.frames + 1 ≤ Rm.frames ∧ 8 + (maxL + 11) + rm.locals ≤ Rm.locals) (hn : As.length = n) (hls : ls.size = nL) (hst : st = As.reverse ++ .ref (A o) :: rest) (hw : (rest.map fun v => v.category).sum ≤ 8) (hdg : decode cb pc = .ok (.invokevirtual index, 3)) (hcs : cells + mc ≤ Rm.cells ∧ slots + ms ≤ Rm.slots) (hp : Nat → Nat)
    (hf : ∀ (k a : Nat) (T : State) (locs : List Loc) (cells slots : Nat), QE k → Stand p l e Rm s m args below meth c T locs cells slots → xCell k a T → ∃ vm', s.WarmedH vm' ∧ xFinds e ((T.setTop (F0 m pc ls rest)).pushFrame (.throwing a)) vm' (F0 m pc ls rest) a (.found (hp k)))
    (kk : ∀ (r : Int32) (L1 : List Nat) (A1 : Nat → Nat) (I1 : UI) (R1 : UR), Q0 r L1 I1 R1 → uEx s.heap.size L A L1 A1 → uEx s.heap.size L0 A0 L1 A1 → uX p s m args c cb nL own D cc L1 A1 t16 t32 → ∀ (H : Heap) (locs : List Loc), uV s D cc L1 A1 J I1 R1 H locs → W p l e Rm s m args below meth c H locs (cells + mc) (slots + ms) Q (F0 m (pc + 3) ls (.int r :: rest)))
    (kt : ∀ k a : Nat, QE k → ∀ (H : Heap) (locs : List Loc), uV s D cc L A J I R H locs → W p l e Rm s m args below meth c H locs (cells + mc) (slots + ms) Q (F0 m (hp k) ls [.ref a])) : W p l e Rm s m args below meth c H locs cells slots Q (F0 m pc ls st) := by
  have X0 := X
  obtain ⟨cellB, r1, r2, r3⟩ := X0.recv V ho hk hO hc
  obtain ⟨hx, hb, hml, hown, hts, hK, hD, hFx, hT⟩ := X
  subst hst
  intro T hT0 St
  have hcd : Cond.code y bytes maxL (some ty) ∈ tb := S.1.2.2.1
  obtain ⟨oc, st₀, t, T', Lc, g0, St', g2, g3, g4, g5, g6⟩ := x_call St hx (own := own) (C := y.cls) (bytes := bytes) (maxL := maxL) (ret := some ty) hown (hts _ S.1.1) (hts _ S.2.1) (hts _ S.2.2) (hts _ hcd) (hts _ S.1.2.1) ⟨S.1.2.2.2.1, S.1.2.2.2.2.1⟩ (hM H.size) uPre_blind hrm (fun w hw a' U hW => by
    rcases List.mem_cons.mp hw with rfl | hw
    · exact word_at hW (tb_good hcd) (hts _ hcd)
    · exact word_at hW (tb_good hw) (hts _ hw)) (b := A o) (cellB := cellB) (by rw [hT0]; exact r1) r2 r3 (g := F0 m pc ls (As.reverse ++ .ref (A o) :: rest)) rfl (hls.trans hml.symm) (argsL := As) (rest := rest) (fun sig h => by
      have h2 := S.1.2.2.2.2.2
      rw [h] at h2
      exact hn.trans (Option.some.inj h2).symm) rfl (lv_room hw) (by rw [hb]; exact hdg) hcs (fun vm₁ hW₁ => uPre_of X0 V _ (T.setVm vm₁) hT0 hW₁)
  obtain ⟨hq, hF⟩ := g5
  rw [hT0] at g0
  have hS1 : va_S (uA L A s.heap.size) s.heap T'.heap (locs ++ Lc) := by
    have f1 := hF.1
    have f2 := hF.2
    rw [g0] at f1 f2
    refine ⟨by rw [g3]; exact Nat.le_trans V.2.1 f1, fun q h1 h2 => ?_, fun q hq => ?_⟩
    · rw [g3, f2 q (Nat.lt_of_lt_of_le h1 V.2.1) (fun z => h2 (uA_le V.2.1 q z))]
      exact V.2.2.1 q h1 h2
    · rcases List.mem_append.mp hq with h | h
      · exact V.2.2.2 q h
      · exact uA_le V.2.1 _ (g2 q h)
  rcases g6 with ⟨v, rfl, go⟩ | ⟨a, rfl, go⟩
  · rcases hq with ⟨r, u, h1, h2, h3⟩ | ⟨k, a, h1, -⟩
    · cases h1
      obtain ⟨hP1, hE1⟩ := h3
      have hE2 : uEx s.heap.size L A u.1 u.2.1 := (uEx.rf hD hFx).tr hE1 V.2.1
      obtain ⟨t2, a1, b1⟩ := kk r u.1 u.2.1 u.2.2.1 u.2.2.2 h2 hE2 (hE.tr hE1 V.2.1) (X0.grow hE2) T'.heap (locs ++ Lc) ⟨by rw [g3]; exact hP1, hS1.mono hE2.sup⟩ T' rfl St'
      exact ⟨t2, go t2 a1, b1⟩
    · cases h1
  · rcases hq with ⟨r, u, h1, -⟩ | ⟨k, a', h1, h2, h3, h4⟩
    · cases h1
    · cases h1
      have hx4 : xCell k a T' := by
        obtain ⟨ce, c1, c2, c3⟩ := h4
        exact ⟨ce, by rw [g3]; exact c1, c2, by rw [g4]; exact c3⟩
      obtain ⟨vm', w1, w2⟩ := hf k a T' (locs ++ Lc) (cells + mc) (slots + ms) h2 St' hx4
      have St2 := St'.noted w1
      obtain ⟨t2, a1, b1⟩ := kt k a h2 T'.heap (locs ++ Lc) ⟨by rw [g3]; exact h3, hS1⟩ (T'.setVm vm') rfl St2
      refine ⟨t2, go t2 (x_caught (g := F0 m pc ls rest) St'.here w2 ?_), b1⟩
      exact a1
theorem u_cXv (X : uX p s m args c cb nL own D cc L A t16 t32) (V : uV s D cc L A J I R H locs) (hE : uEx s.heap.size L0 A0 L A) {index n maxL o κ mc ms : Nat} {y : MethodName} {bytes : ByteArray} {rm : Room} {As : List Value} {Q0 : List Nat → UI → UR → Prop} {QE : Nat → Prop} (S : uCv own index y n (.code y bytes maxL none)) (ho : o ∈ L) (hk : kd o = κ) (hO : isO κ = true) (hc : (cls[(lay κ).1]?).map (fun q => q.1) = some y.cls)
    (hM : uMXv l y (.code y bytes maxL none) rm mc ms (.ref (A o) :: As) D cc L A J t16 t32 I R Q0 QE) (hrm : rm.cells = mc ∧ rm.slots = ms ∧ rm.frames + 1 ≤ Rm.frames ∧ 8 + (maxL + 11) + rm.locals ≤ Rm.locals) (hn : As.length = n) (hls : ls.size = nL) (hst : st = As.reverse ++ .ref (A o) :: rest) (hw : (rest.map fun v => v.category).sum ≤ 8) (hdg : decode cb pc = .ok (.invokevirtual index, 3)) (hcs : cells + mc ≤ Rm.cells ∧ slots + ms ≤ Rm.slots) (hp : Nat → Nat)
    (hf : ∀ (k a : Nat) (T : State) (locs : List Loc) (cells slots : Nat), QE k → Stand p l e Rm s m args below meth c T locs cells slots → xCell k a T → ∃ vm', s.WarmedH vm' ∧ xFinds e ((T.setTop (F0 m pc ls rest)).pushFrame (.throwing a)) vm' (F0 m pc ls rest) a (.found (hp k)))
    (kk : ∀ (L1 : List Nat) (A1 : Nat → Nat) (I1 : UI) (R1 : UR), Q0 L1 I1 R1 → uEx s.heap.size L A L1 A1 → uEx s.heap.size L0 A0 L1 A1 → uX p s m args c cb nL own D cc L1 A1 t16 t32 → ∀ (H : Heap) (locs : List Loc), uV s D cc L1 A1 J I1 R1 H locs → W p l e Rm s m args below meth c H locs (cells + mc) (slots + ms) Q (F0 m (pc + 3) ls rest))
    (kt : ∀ k a : Nat, QE k → ∀ (H : Heap) (locs : List Loc), uV s D cc L A J I R H locs → W p l e Rm s m args below meth c H locs (cells + mc) (slots + ms) Q (F0 m (hp k) ls [.ref a])) : W p l e Rm s m args below meth c H locs cells slots Q (F0 m pc ls st) := by
  have X0 := X
  obtain ⟨cellB, r1, r2, r3⟩ := X0.recv V ho hk hO hc
  obtain ⟨hx, hb, hml, hown, hts, hK, hD, hFx, hT⟩ := X
  subst hst
  intro T hT0 St
  have hcd : Cond.code y bytes maxL none ∈ tb := S.1.2.2.1
  obtain ⟨oc, st₀, t, T', Lc, g0, St', g2, g3, g4, g5, g6⟩ := x_call St hx (own := own) (C := y.cls) (bytes := bytes) (maxL := maxL) (ret := none) hown (hts _ S.1.1) (hts _ S.2.1) (hts _ S.2.2) (hts _ hcd) (hts _ S.1.2.1) ⟨S.1.2.2.2.1, S.1.2.2.2.2.1⟩ (hM H.size) uPre_blind hrm (fun w hw a' U hW => by
    rcases List.mem_cons.mp hw with rfl | hw
    · exact word_at hW (tb_good hcd) (hts _ hcd)
    · exact word_at hW (tb_good hw) (hts _ hw)) (b := A o) (cellB := cellB) (by rw [hT0]; exact r1) r2 r3 (g := F0 m pc ls (As.reverse ++ .ref (A o) :: rest)) rfl (hls.trans hml.symm) (argsL := As) (rest := rest) (fun sig h => by
      have h2 := S.1.2.2.2.2.2
      rw [h] at h2
      exact hn.trans (Option.some.inj h2).symm) rfl (lv_room hw) (by rw [hb]; exact hdg) hcs (fun vm₁ hW₁ => uPre_of X0 V _ (T.setVm vm₁) hT0 hW₁)
  obtain ⟨hq, hF⟩ := g5
  rw [hT0] at g0
  have hS1 : va_S (uA L A s.heap.size) s.heap T'.heap (locs ++ Lc) := by
    have f1 := hF.1
    have f2 := hF.2
    rw [g0] at f1 f2
    refine ⟨by rw [g3]; exact Nat.le_trans V.2.1 f1, fun q h1 h2 => ?_, fun q hq => ?_⟩
    · rw [g3, f2 q (Nat.lt_of_lt_of_le h1 V.2.1) (fun z => h2 (uA_le V.2.1 q z))]
      exact V.2.2.1 q h1 h2
    · rcases List.mem_append.mp hq with h | h
      · exact V.2.2.2 q h
      · exact uA_le V.2.1 _ (g2 q h)
  rcases g6 with ⟨v, rfl, go⟩ | ⟨a, rfl, go⟩
  · rcases hq with ⟨u, h1, h2, h3⟩ | ⟨k, a, h1, -⟩
    · cases h1
      obtain ⟨hP1, hE1⟩ := h3
      have hE2 : uEx s.heap.size L A u.1 u.2.1 := (uEx.rf hD hFx).tr hE1 V.2.1
      obtain ⟨t2, a1, b1⟩ := kk u.1 u.2.1 u.2.2.1 u.2.2.2 h2 hE2 (hE.tr hE1 V.2.1) (X0.grow hE2) T'.heap (locs ++ Lc) ⟨by rw [g3]; exact hP1, hS1.mono hE2.sup⟩ T' rfl St'
      exact ⟨t2, go t2 a1, b1⟩
    · cases h1
  · rcases hq with ⟨u, h1, -⟩ | ⟨k, a', h1, h2, h3, h4⟩
    · cases h1
    · cases h1
      have hx4 : xCell k a T' := by
        obtain ⟨ce, c1, c2, c3⟩ := h4
        exact ⟨ce, by rw [g3]; exact c1, c2, by rw [g4]; exact c3⟩
      obtain ⟨vm', w1, w2⟩ := hf k a T' (locs ++ Lc) (cells + mc) (slots + ms) h2 St' hx4
      have St2 := St'.noted w1
      obtain ⟨t2, a1, b1⟩ := kt k a h2 T'.heap (locs ++ Lc) ⟨by rw [g3]; exact h3, hS1⟩ (T'.setVm vm') rfl St2
      refine ⟨t2, go t2 (x_caught (g := F0 m pc ls rest) St'.here w2 ?_), b1⟩
      exact a1
end U
