/-! THE CLAIM OUT OF ONE WALK OF THE LAW'S BODY. Your part is whole_start (and what it stands on); all else here is the same for every law, but numbers. -/
def R_law : String := "FrameFerryLaw"
def lw_P (b : Addr) (xs : List Int32) (args : Array Value) (s : State) : Prop := args = #[.ref b] ∧ s.IntsAt b xs ∧ xs.length ≤ 3072 ∧ (Jvm.Cond.and given_1 narrow_1).before args s = true
def lw_Q (_ : Array Value) (s : State) (o : Outcome) (t : State) : Prop := o = .returned (some (.int 1)) ∧ Framed s o t [] 601024 7293034
def lw_Z (below : List Frame) (a : Array Value) (s : State) : State → Prop := fun t => ∃ o, t.status = .running ∧ Ended t below o ∧ lw_Q a s o t
/-- the law's own end, with 1 on the stack, nothing written that was there before, its room as the claim has it -/
theorem lw_ret {p : Program} {l : Launch} {e : Env} {s : State} {m : MethodId} {below : List Frame} {meth : Method} {c : Code} {b : Nat} (hx : p.tables.exec = Jvm.exec) (hb : c.code = code) (hr : meth.sig.returnType = ret) (hlocks : meth.locks = false) {pc : Nat} {H : Heap} {ls : Array Slot} (hdg : decode code pc = .ok (.ireturn, 1)) : W p l e room_1 s m #[Value.ref b] below meth c H [] 601024 7293034 (lw_Z below #[Value.ref b] s) (F0 m pc ls [.int 1]) := by
  intro T hT X
  obtain ⟨fs, hret, hrun, hended, hW, hframe⟩ := X.leave (v := some (.int 1)) (hlocks := hlocks) (fun h => by rw [hr] at h; cases h)
  have hmeth' : T.vm.method? m = some meth := X.method'
  refine ⟨T.setFrames fs, ?_, .returned (some (.int 1)), hrun, hended, rfl, ⟨_, rfl⟩, hW, hframe⟩
  jvm_step X.here [X.here.top, hx, hb, hdg, hmeth', hr, ret, narrow_b1]
  (try refine ⟨rfl, ?_⟩); (try refine ⟨rfl, ?_⟩)
  first | (intro acts; rw [hret _ acts rfl rfl rfl]) | rw [hret _ _ rfl rfl rfl]
  exact Steps.refl _
/-- what holds at the law's entry: the machine, the code, the tables' words (any of lw_tbl by 'hts w (by decide +kernel)'), the script of L ints xs at the cell b, what the Statement gives of the start (any of its parts by flat_of_before) -/
def lw_At (p : Program) (s : State) (m : MethodId) (meth : Method) (c : Code) (b L : Nat) (xs : Nat → Int32) : Prop :=
  p.tables.exec = Jvm.exec ∧ c.code = code ∧ meth.sig.returnType = ret ∧ c.maxLocals = 7 ∧ s.vm.findClass R_law = some m.cls ∧ (∀ w ∈ lw_tbl, w.before #[Value.ref b] s = true) ∧ va_X b L xs s s.heap ∧ b < s.heap.size ∧ meth.locks = false ∧ (Jvm.Cond.and given_1 narrow_1).before #[Value.ref b] s = true

/-! The law: calls of its helpers (they have handlers), the script, 0 or 1. -/
section X
variable {p : Program} {l : Launch} {e : Env} {R : Room} {s : State} {m : MethodId} {args : Array Value} {below : List Frame} {meth : Method} {c : Code} {T : State} {locs : List Loc} {cells slots : Nat} {H : Heap}
theorem x_callSW (X : Stand p l e R s m args below meth c T locs cells slots) (hexec : p.tables.exec = Jvm.exec) {own : String} {index : Nat} {y : MethodName} {bytes : ByteArray} {maxL : Nat} {ret : Option FieldType} {hh : List (Nat × Nat × Nat × Nat)}
    (hown : s.vm.findClass own = some m.cls) (hlink : (Cond.methodLink own index y).before args s = true) (hstat : (Cond.static y).before args s = true) (hinit : (Cond.initialized y.cls).before args s = true)
    (hcode : (Cond.codeWith y bytes maxL ret hh).before args s = true) (hy : y.cls ≠ "java/lang/invoke/MethodHandle" ∧ y.cls ≠ "java/lang/invoke/VarHandle")
    {wd : Nat} {Pre : Pt → Array Value → Prop} {Post : Pt → Array Value → Option Value → Pt → Prop} (hK : Back l R p e below s args y 3 wd Pre Post)
    {g : JFrame} (hg : g.method = m) (hsize : g.locals.size = c.maxLocals) {argsL rest : List Value} (hlen : ∀ sig, parseMethodDescriptor y.desc = some sig → argsL.length = sig.parameters.length)
    (hstack : g.stack = argsL.reverse ++ rest) (hW : 2 * g.monitorRoom + (rest.map fun v => v.category).sum ≤ wd) (hdg : decode c.code g.pc = .ok (.invokestatic index, 3))
    (hpre : ∀ vm₁, s.WarmedH vm₁ → Pre ⟨T.setVm vm₁, locs, cells, slots⟩ argsL.toArray) :
    ∃ (v : Option Value) (vm₁ : Vm) (B : Pt), s.WarmedH vm₁ ∧ Stand p l e R s m args below meth c B.U B.locs B.cells B.slots ∧ Post ⟨T.setVm vm₁, locs, cells, slots⟩ argsL.toArray v B ∧
      ∀ target, Steps p.tables e below (B.U.setTop { g with pc := g.pc + 3, stack := v.toList ++ rest }) target → Steps p.tables e below (T.setTop g) target := by
  obtain ⟨mk, methM, cM, hnamed, hmethM, -, -, -, -, -, -, hsigM⟩ := Cond.codeWith_spec hcode
  have hstatic : methM.isStatic = true := Cond.static_spec hnamed hmethM hstat
  obtain ⟨kP, hkP, -⟩ := className_of_methodNamed hnamed
  have hinitP : kP.init = .initialized := Cond.initialized_spec (findClass_of_methodNamed hnamed) hkP hinit
  obtain ⟨vm₁, X₁, hstep₁⟩ := X.invokestatic hexec hown hlink hnamed hmethM hstatic hkP hinitP hy (g := g) hg (argsL := argsL) (rest := rest) (hlen _ hsigM) hstack hdg
  obtain ⟨v, B, X', hpost, hsteps⟩ := hK m meth c ⟨T.setVm vm₁, locs, cells, slots⟩ { g with stack := rest } (.invokestatic index) mk argsL.toArray X₁ hg hsize hdg hW (X₁.named hnamed) (hpre vm₁ X₁.warmed)
  exact ⟨v, vm₁, B, X₁.warmed, X', hpost, fun target h => hstep₁ _ fun acts => by rw [doInvoke_state]; exact hsteps.trans h⟩
theorem x_runSW {cc : ByteArray} {nL n mc ms index maxL : Nat} {own : String} {y : MethodName} {bytes : ByteArray} {ret : Option FieldType} {hh : List (Nat × Nat × Nat × Nat)} {ws : List Cond} {rm : Room} {Pc : Array Value → State → Prop} {Qc : Array Value → State → Outcome → State → Prop} {free : Addr → Prop} {As rest : List Value} {g : JFrame}
    (hx : p.tables.exec = Jvm.exec) (hb : c.code = cc) (hml : c.maxLocals = nL) (hown : s.vm.findClass own = some m.cls) (hM : Met l y ws rm Pc Qc mc ms free) (hrm : rm.cells = mc ∧ rm.slots = ms ∧ rm.frames + 1 ≤ R.frames ∧ 8 + (maxL + 11) + rm.locals ≤ R.locals)
    (hws : ∀ w ∈ ws, ∀ (a' : Array Value) (U : State), s.WarmedH U.vm → w.before a' U = true) (hcw : Cond.codeWith y bytes maxL ret hh ∈ ws) (hini : (Cond.initialized y.cls).before args s = true) (hlink : (Cond.methodLink own index y).before args s = true) (hstt : (Cond.static y).before args s = true) (hcode : (Cond.codeWith y bytes maxL ret hh).before args s = true)
    (hy : y.cls ≠ "java/lang/invoke/MethodHandle" ∧ y.cls ≠ "java/lang/invoke/VarHandle") (hlen : ∀ sig, parseMethodDescriptor y.desc = some sig → n = sig.parameters.length) (hp : PreS s H Pc As)
    (hg : g.method = m) (hn : As.length = n) (hsize : g.locals.size = nL) (hstack : g.stack = As.reverse ++ rest) (hW : 2 * g.monitorRoom + (rest.map fun v => v.category).sum ≤ 8) (hdg : decode cc g.pc = .ok (.invokestatic index, 3)) (hf : cells + mc ≤ R.cells ∧ slots + ms ≤ R.slots) :
    va_Run p l e R s m args below meth c H locs cells slots mc ms g rest (Qc As.toArray) (free) := by
  have hK : Back l R p e below s args y 3 8 (PreOf R mc ms Pc) (PostOf Qc mc ms free) := va_backW (hh := hh) (bytes := bytes) (maxL := maxL) (ret := ret) hM hp.1 hrm.1 hrm.2.1 hrm.2.2.1 hrm.2.2.2 hws hcw (fun a' U hW => word_at hW (Or.inl rfl) hini)
  intro T hT X
  obtain ⟨v, vm₁, ⟨U', l2, c2, s2⟩, hW₁, X', ⟨g', mk, t, L, e1, e2, hq, h1, hL, h2, h3⟩, st⟩ := x_callSW X hx (bytes := bytes) (maxL := maxL) (ret := ret) hown hlink hstt hini hcode hy hK hg (hsize.trans hml.symm) (argsL := As) (rest := rest) (fun sig h => hn.trans (hlen sig h)) hstack hW (by rw [hb]; exact hdg)
    (fun vm₁ hW₁ => ⟨hf.1, hf.2, hp.2 (T.setVm vm₁) hT hW₁⟩)
  dsimp only [Pt.U, Pt.locs, Pt.cells, Pt.slots] at X' e1 e2 h1 h2 h3 st
  subst h1; subst h2; subst h3
  exact ⟨v, (T.setVm vm₁).calling g' mk As.toArray, t, U', L, hT, X', hL, e1, e2, hq, st⟩
end X
def nz (y : Int32) : Int32 := if y = 0 then 0 else 1
theorem nz_zb (y : Int32) : zb (nz y) := by unfold nz; split; exact Or.inl rfl; exact Or.inr rfl
section U
variable {p : Program} {l : Launch} {e : Env} {Rm : Room} {s : State} {m : MethodId} {args : Array Value} {below : List Frame} {meth : Method} {c : Code} {H : Heap} {locs : List Loc} {cells slots : Nat} {Q : State → Prop}
variable {cb : ByteArray} {pc nL : Nat} {ls : Array Slot} {rest st : List Value} {own : String} {D : va_G} {cc : Nat → ClassId} {L L0 : List Nat} {A A0 : Nat → Nat} {J : Nat → Int64} {t16 t32 : Nat} {I : UI} {R : UR}
theorem u_cH (X : uX p s m args c cb nL own D cc L A t16 t32) (V : uV s D cc L A J I R H locs) (hE : uEx s.heap.size L0 A0 L A) {index n maxL mc ms : Nat} {y : MethodName} {bytes : ByteArray} {hh : List (Nat × Nat × Nat × Nat)} {rm : Room} {As : List Value} {Q0 : Int32 → (Nat → Int64) → List Nat → UI → UR → Prop} (S : uCt own index y n (.codeWith y bytes maxL (some .int) hh))
    (hM : uMH l y (.codeWith y bytes maxL (some .int) hh) rm mc ms As D cc L A J t16 t32 I R Q0) (hrm : rm.cells = mc ∧ rm.slots = ms ∧ rm.frames + 1 ≤ Rm.frames ∧ 8 + (maxL + 11) + rm.locals ≤ Rm.locals) (hn : As.length = n) (hls : ls.size = nL) (hst : st = As.reverse ++ rest) (hw : (rest.map fun v => v.category).sum ≤ 8) (hdg : decode cb pc = .ok (.invokestatic index, 3)) (hcs : cells + mc ≤ Rm.cells ∧ slots + ms ≤ Rm.slots)
    (kk : ∀ (r : Int32) (J1 : Nat → Int64) (L1 : List Nat) (A1 : Nat → Nat) (I1 : UI) (R1 : UR), Q0 r J1 L1 I1 R1 → uEx s.heap.size L A L1 A1 → uEx s.heap.size L0 A0 L1 A1 → uX p s m args c cb nL own D cc L1 A1 t16 t32 → ∀ (H : Heap) (locs : List Loc), uV s D cc L1 A1 J1 I1 R1 H locs → W p l e Rm s m args below meth c H locs (cells + mc) (slots + ms) Q (F0 m (pc + 3) ls (.int r :: rest))) : W p l e Rm s m args below meth c H locs cells slots Q (F0 m pc ls st) := by
  have X0 := X
  obtain ⟨hx, hb, hml, hown, hts, hK, hD, hFx, hT⟩ := X
  have hcd : Cond.codeWith y bytes maxL (some .int) hh ∈ tb := S.1.2.2.1
  refine va_calli (x_runSW (hh := hh) (bytes := bytes) (maxL := maxL) (ret := some .int) (n := n) hx hb hml hown (hM H.size) hrm (fun w hw a' U hW => by
    rcases List.mem_cons.mp hw with rfl | hw
    · exact word_at hW (tb_good hcd) (hts _ hcd)
    · exact word_at hW (tb_good hw) (hts _ hw)) List.mem_cons_self (hts _ S.1.2.1) (hts _ S.1.1) (hts _ S.2) (hts _ hcd) ⟨S.1.2.2.2.1, S.1.2.2.2.2.1⟩ (fun sig h => by
      have h2 := S.1.2.2.2.2.2
      rw [h] at h2
      exact (Option.some.inj h2).symm) ⟨uPre_blind, uPre_of X0 V _⟩ rfl hn hls hst (lv_room hw) hdg hcs) V.2 (fun q _ h => uA_le V.2.1 q h) (fun q h => uA_le V.2.1 q h) (fun r u t H1 locs1 ht hvm hq hB hz hke hS1 => ?_)
  obtain ⟨hP1, hE1⟩ := hB
  have hE2 : uEx s.heap.size L A u.2.1 u.2.2.1 := (uEx.rf hD hFx).tr hE1 V.2.1
  exact kk r u.1 u.2.1 u.2.2.1 u.2.2.2.1 u.2.2.2.2 hq hE2 (hE.tr hE1 V.2.1) (X0.grow hE2) H1 locs1 ⟨by rw [← ht]; exact hP1, hS1.mono hE2.sup⟩
theorem u_cViA (X : uX p s m args c cb nL own D cc L A t16 t32) (V : uV s D cc L A J I R H locs) (hE : uEx s.heap.size L0 A0 L A) {index n maxL o κ mc ms : Nat} {y : MethodName} {bytes : ByteArray} {ty : FieldType} {rm : Room} {As : List Value} {Q0 : Int32 → List Nat → UI → UR → Prop} (S : uCv own index y n (.code y bytes maxL (some ty))) (ho : o ∈ L) (hk : kd o = κ) (hO : isO κ = true) (hc : (cls[(lay κ).1]?).map (fun q => q.1) = some y.cls)
    (hM : uMiA l y (.code y bytes maxL (some ty)) rm mc ms (.ref (A o) :: As) D cc L A J t16 t32 I R Q0) (hrm : rm.cells = mc ∧ rm.slots = ms ∧ rm.frames + 1 ≤ Rm.frames ∧ 8 + (maxL + 11) + rm.locals ≤ Rm.locals) (hn : As.length = n) (hls : ls.size = nL) (hst : st = As.reverse ++ .ref (A o) :: rest) (hw : (rest.map fun v => v.category).sum ≤ 8) (hdg : decode cb pc = .ok (.invokevirtual index, 3)) (hcs : cells + mc ≤ Rm.cells ∧ slots + ms ≤ Rm.slots)
    (kk : ∀ (r : Int32) (L1 : List Nat) (A1 : Nat → Nat) (I1 : UI) (R1 : UR), Q0 r L1 I1 R1 → uEx s.heap.size L A L1 A1 → uEx s.heap.size L0 A0 L1 A1 → uX p s m args c cb nL own D cc L1 A1 t16 t32 → ∀ (H : Heap) (locs : List Loc), uV s D cc L1 A1 J I1 R1 H locs → W p l e Rm s m args below meth c H locs (cells + mc) (slots + ms) Q (F0 m (pc + 3) ls (.int r :: rest))) : W p l e Rm s m args below meth c H locs cells slots Q (F0 m pc ls st) := by
  have X0 := X
  obtain ⟨hx, hb, hml, hown, hts, hK, hD, hFx, hT⟩ := X
  refine va_calli (va_runV (Ts := tb) (C := y.cls) ⟨hx, hb, hml, hown, hts⟩ (hM H.size) ⟨u_cbA X0 S.1 hrm, hts _ S.2.1, hts _ S.2.2⟩ ⟨uPre_blind, X0.recv V ho hk hO hc, uPre_of X0 V _⟩ rfl hn hls hst (lv_room hw) hdg hcs) V.2 (fun q _ h => uA_le V.2.1 q h) (fun q h => uA_le V.2.1 q h) (fun r u t H1 locs1 ht hvm hq hB hz hke hS1 => ?_)
  obtain ⟨hP1, hE1⟩ := hB
  have hE2 : uEx s.heap.size L A u.1 u.2.1 := (uEx.rf hD hFx).tr hE1 V.2.1
  exact kk r u.1 u.2.1 u.2.2.1 u.2.2.2 hq hE2 (hE.tr hE1 V.2.1) (X0.grow hE2) H1 locs1 ⟨by rw [← ht]; exact hP1, hS1.mono hE2.sup⟩
/-- all that the law made lies behind what was there -/
theorem u_new0 (hE : uEx s.heap.size L0 A0 L A) (hY : ∀ o, o ∈ L0 → s.heap.size ≤ A0 o) : ∀ q, uA L A s.heap.size q → s.heap.size ≤ q := fun q h => by
  rcases hE.sub q h with ⟨o, ho, rfl⟩ | h
  · exact hY o ho
  · exact h
theorem u_sld (X : uX p s m args c cb nL own D cc L A t16 t32) (V : uV s D cc L A J I R H locs) (hE : uEx s.heap.size L0 A0 L A) (hY : ∀ o, o ∈ L0 → s.heap.size ≤ A0 o) {b n : Nat} {xs : Nat → Int32} (hS : va_X b n xs s s.heap) (hbl : b < s.heap.size) {i y : Int32} (hin : vp_in i n) (hy : xs i.toNatClampNeg = y) (hdg : decode cb pc = .ok (.iaload, 1))
    (kk : W p l e Rm s m args below meth c H locs cells slots Q (F0 m (pc + 1) ls (.int y :: rest))) : W p l e Rm s m args below meth c H locs cells slots Q (F0 m pc ls (.int i :: .ref b :: rest)) := by
  subst hy
  exact va_sld X.1 X.2.1 hS hbl (fun z => Nat.not_le.mpr hbl (u_new0 hE hY b z)) V.2 hin hdg kk
theorem u_slen (X : uX p s m args c cb nL own D cc L A t16 t32) (V : uV s D cc L A J I R H locs) (hE : uEx s.heap.size L0 A0 L A) (hY : ∀ o, o ∈ L0 → s.heap.size ≤ A0 o) {b n : Nat} {xs : Nat → Int32} (hS : va_X b n xs s s.heap) (hbl : b < s.heap.size) (hdg : decode cb pc = .ok (.arraylength, 1))
    (kk : W p l e Rm s m args below meth c H locs cells slots Q (F0 m (pc + 1) ls (.int (Int32.ofNat n) :: rest))) : W p l e Rm s m args below meth c H locs cells slots Q (F0 m pc ls (.ref b :: rest)) :=
  va_slen X.1 X.2.1 hS hbl (fun z => Nat.not_le.mpr hbl (u_new0 hE hY b z)) V.2 hdg kk
theorem lv_nz (hx : p.tables.exec = Jvm.exec) (hb : c.code = cb) {y : Int32} (h0 : decode cb pc = .ok (.ifCond .eq 7, 3)) (h3 : decode cb (pc + 3) = .ok (.iconst 1, 1)) (h4 : decode cb (pc + 4) = .ok (.goto 4, 3)) (h7 : decode cb (pc + 7) = .ok (.iconst 0, 1))
    (kk : W p l e Rm s m args below meth c H locs cells slots Q (F0 m (pc + 8) ls (.int (nz y) :: rest))) : W p l e Rm s m args below meth c H locs cells slots Q (F0 m pc ls (.int y :: rest)) := by
  refine lv_if_eq (tgt := pc + 7) hx hb h0 (by omega) (fun h => ?_) (fun h => ?_)
  · refine lv_iconst (v := 0) hx hb h7 (by decide) ?_
    rw [show nz y = 0 from if_pos h] at kk
    exact kk
  · refine lv_iconst (v := 1) hx hb h3 (by decide) ?_
    refine lv_goto (tgt := pc + 8) hx hb h4 (by omega) ?_
    rw [show nz y = 1 from if_neg h] at kk
    exact kk
end U
