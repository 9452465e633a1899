/-! Contracts of methods that may throw; the throw itself. -/
def xN (k : Nat) : String := if k = 1 then "java/lang/IllegalArgumentException" else "java/lang/IllegalStateException"
def xEnd (first t : State) (L : List Loc) (k n : Nat) : Prop := first.WarmedH t.vm ∧ first.sameButNew ({ t with vm := first.vm } : State) L k n
def MetX (l : Launch) (y : MethodName) (ws : List Cond) (rm : Room) (Pc : Array Value → State → Prop) (Qc : Array Value → State → Outcome → State → Prop) (mc ms : Nat) (free : Addr → Prop) : Prop :=
  MetFree l y (headSpec ws rm) Pc (fun _ _ _ _ _ => True) (fun a st o t => Qc a st o t ∧ ∃ L, xEnd st t L mc ms ∧ ∀ q ∈ L, free q.base)
def MQX (below : List Frame) (Qc : Array Value → State → Outcome → State → Prop) (a : Array Value) (s : State) (mc ms : Nat) (free : Addr → Prop) : State → Prop := fun t =>
  ∃ o, t.status = .running ∧ Ended t below o ∧ Qc a s o t ∧ ∃ L, xEnd s t L mc ms ∧ ∀ q ∈ L, free q.base
theorem MetX.ofW {l : Launch} {y : MethodName} {ws ws' : List Cond} {rm : Room} {Pc : Array Value → State → Prop} {Qc : Array Value → State → Outcome → State → Prop} {mc ms : Nat} {free : Addr → Prop} {cc : ByteArray} {maxL : Nat} {ret : Option FieldType}
    (hy : plainName y.cls = true) (hw : ws = Cond.code y cc maxL ret :: ws')
    (body : ∀ p e s m args below meth c s₁, BodyLoose p l y (headSpec ws rm) cc maxL ret e s m args below meth c s₁ → c.maxLocals = maxL → Pc args s →
      W p l e (headSpec ws rm).room s m args below meth c s.heap [] 0 0 (MQX below Qc args s mc ms free) (entryFrame m args maxL)) : MetX l y ws rm Pc Qc mc ms free := by
  refine MetFree.of_bodyS (code := cc) (maxLocals := maxL) (ret := ret) hy ?_ ?_
  · intro args s m h hn
    obtain ⟨meth, c, h1, h2, h3, h4, h5, h6, -, -⟩ := Cond.code_spec hn (atoms_spec (ws := ws) h _ (by rw [hw]; exact List.mem_cons_self))
    exact ⟨meth, c, h1, h2, h3, h4, h5, h6⟩
  · intro p e s m args below meth c s₁ B hml hP _
    have hh0 : s₁.heap = s.heap := by rw [B.state]; rfl
    obtain ⟨t, a1, o, b1, b2, b3⟩ := body p e s m args below meth c s₁ B hml hP s₁ hh0 (Stand.of_body B)
    exact ⟨t, o, a1, b1, b2, ⟨b3.1, b3.2⟩⟩
/-- the exception that was thrown -/
def xCell (k a : Nat) (t : State) : Prop := ∃ ce : Cell, t.heap[a]? = some ce ∧ (∀ z, ce.vm ≠ .statics z) ∧ t.vm.findClass (xN k) = some ce.cls
def uQX (Q : Int32 → List Nat → UI → UR → Prop) (QE : Nat → Prop) (D : va_G) (cc : Nat → ClassId) (L : List Nat) (A : Nat → Nat) (J : Nat → Int64) (I : UI) (R : UR) (sz : Nat) : Array Value → State → Outcome → State → Prop := fun _ st o t =>
  ((∃ (r : Int32) (u : List Nat × (Nat → Nat) × UI × UR), o = .returned (some (.int r)) ∧ Q r u.1 u.2.2.1 u.2.2.2 ∧ uBa D cc L A J sz u t) ∨
   (∃ k a : Nat, o = .threw a ∧ QE k ∧ va_P D cls (uW cc L A J I R) t.heap ∧ xCell k a t)) ∧ va_F (uA L A sz) st t
def uQXv (Q : List Nat → UI → UR → Prop) (QE : Nat → Prop) (D : va_G) (cc : Nat → ClassId) (L : List Nat) (A : Nat → Nat) (J : Nat → Int64) (I : UI) (R : UR) (sz : Nat) : Array Value → State → Outcome → State → Prop := fun _ st o t =>
  ((∃ (u : List Nat × (Nat → Nat) × UI × UR), o = .returned none ∧ Q u.1 u.2.2.1 u.2.2.2 ∧ uBa D cc L A J sz u t) ∨
   (∃ k a : Nat, o = .threw a ∧ QE k ∧ va_P D cls (uW cc L A J I R) t.heap ∧ xCell k a t)) ∧ va_F (uA L A sz) st t
def uMX (l : Launch) (y : MethodName) (cd : Cond) (rm : Room) (mc ms : Nat) (as : List Value) (D : va_G) (cc : Nat → ClassId) (L : List Nat) (A : Nat → Nat) (J : Nat → Int64) (t16 t32 : Nat) (I : UI) (R : UR) (Q : Int32 → List Nat → UI → UR → Prop) (QE : Nat → Prop) : Prop :=
  ∀ sz, MetX l y (wS cd) rm (va_Pc as (uPre D cc L A J t16 t32 I R sz)) (uQX Q QE D cc L A J I R sz) mc ms (uA L A sz)
def uMXv (l : Launch) (y : MethodName) (cd : Cond) (rm : Room) (mc ms : Nat) (as : List Value) (D : va_G) (cc : Nat → ClassId) (L : List Nat) (A : Nat → Nat) (J : Nat → Int64) (t16 t32 : Nat) (I : UI) (R : UR) (Q : List Nat → UI → UR → Prop) (QE : Nat → Prop) : Prop :=
  ∀ sz, MetX l y (wS cd) rm (va_Pc as (uPre D cc L A J t16 t32 I R sz)) (uQXv Q QE D cc L A J I R sz) mc ms (uA L A sz)
theorem same_old {s t : State} {k n : Nat} (h : s.sameButNew t [] k n) : ∀ q : Nat, q < s.heap.size → t.heap[q]? = s.heap[q]? := by
  intro q hq
  obtain ⟨c, hc⟩ : ∃ c, s.heap[q]? = some c := ⟨_, Array.getElem?_eq_getElem hq⟩
  obtain ⟨c', h1, h2, h3, h4⟩ := h.2.2.2.2.2 q c hc
  rw [h1, hc]
  congr 1
  rw [h2]
  have e1 : c'.slots = c.slots := by
    apply Array.ext_getElem?
    intro i
    exact h4 i (by simp)
  rw [e1]
/-- the words of a throw that the tables of words hold not -/
def xSp : List Cond := [.laysStatic "java/lang/Throwable" "UNASSIGNED_STACK" "[Ljava/lang/StackTraceElement;", .laysStatic "java/lang/Throwable" "SUPPRESSED_SENTINEL" "Ljava/util/List;", .isRef (.static "java/lang/Throwable" "UNASSIGNED_STACK" "[Ljava/lang/StackTraceElement;"), .isRef (.static "java/lang/Throwable" "SUPPRESSED_SENTINEL" "Ljava/util/List;")]
theorem uZ.words {C n d : String} {P : Nat → Prop} {s : State} {args : Array Value} (h : uZ C n d P s s.heap) : (Cond.laysStatic C n d).before args s = true ∧ (Cond.isRef (.static C n d)).before args s = true := by
  obtain ⟨c, k, i, f, a, cell, u, h1, h2, h3, h4, h5, h6, h7, h8, h9, h10, h11⟩ := h
  refine ⟨Cond.laysStatic_of h1 h2 h3 h4 h5 h6 h7 h8 h9, ?_⟩
  have ev : (Term.static C n d).eval args s none [] s = some u := by
    simp [Term.eval, State.fieldNamed?, h2, h3, h4, h5, h6, h10.1]
  rcases h10.2 with rfl | ⟨r, rfl⟩ <;> simp [Cond.before, Cond.holds, Cond.value, ev]
section U
variable {p : Program} {l : Launch} {e : Env} {Rm : Room} {s : State} {m : MethodId} {args : Array Value} {below : List Frame} {meth : Method} {c : Code} {H : Heap} {locs : List Loc} {cells slots : Nat} {Q : State → Prop}
variable {cb : ByteArray} {pc nL : Nat} {ls : Array Slot} {rest st : List Value} {own : String} {D : va_G} {cc : Nat → ClassId} {L L0 : List Nat} {A A0 : Nat → Nat} {J : Nat → Int64} {t16 t32 : Nat} {I I0 : UI} {R R0 : UR}
theorem W.mono {Q' : State → Prop} {g : JFrame} (h : ∀ t, Q t → Q' t) (k : W p l e Rm s m args below meth c H locs cells slots Q g) : W p l e Rm s m args below meth c H locs cells slots Q' g := fun T hT X => by
  obtain ⟨t, a, b⟩ := k T hT X
  exact ⟨t, a, h t b⟩
theorem uX.xw (X : uX p s m args c cb nL own D cc L A t16 t32) {ws : List Cond} (h : ∀ w ∈ ws, w ∈ tb ∨ w ∈ xSp ++ nw) : ∀ w ∈ ws, w.before args s = true := by
  intro w hw
  obtain ⟨hx, hb, hml, hown, hts, hK, hD, hFx, hT⟩ := X
  rcases h w hw with h1 | h1
  · exact hts w h1
  rcases List.mem_append.mp h1 with h1 | h1
  rotate_left
  · have h2 := nw_all w h1
    have h3 := hT.2.1 w h1
    cases w <;> first | (exact va_Nw.use rfl h3) | (exact absurd h2 id)
  · simp only [xSp, List.mem_cons, List.not_mem_nil, or_false] at h1
    rcases h1 with rfl | rfl | rfl | rfl
    · exact hT.2.2.1.words.1
    · exact hT.2.2.2.1.words.1
    · exact hT.2.2.1.words.2
    · exact hT.2.2.2.1.words.2
theorem u_throwG (X : uX p s m args c cb nL own D cc L A t16 t32) (hfl : l.flags = pinnedFlags ++ [noTraceFlag]) (hne : c.exceptionTable.isEmpty = true) (hlk : meth.locks = false) {ix ic k : Nat} {mc ms : Nat} {Qf : State → Prop}
    (S : Cond.classLink own ix (xN k) ∈ tb ∧ Cond.instantiable (xN k) 6 ∈ tb ∧ Cond.initialized (xN k) ∈ tb) (S2 : ∀ w ∈ Bundle.ownAtoms0 own ic (xN k) ["java/lang/RuntimeException", "java/lang/Exception"], w ∈ tb ∨ w ∈ xSp ++ nw) (S3 : Bundle.fit (xN k) = true ∧ Bundle.fit "java/lang/RuntimeException" = true ∧ Bundle.fit "java/lang/Exception" = true)
    (hls : ls.size = nL) (hfr : 5 < Rm.frames) (hlo : (rest.map fun v => v.category).sum + 100 ≤ Rm.locals) (hk : cells + 1 ≤ mc ∧ slots + 6 ≤ ms) (hrm : mc ≤ Rm.cells ∧ ms ≤ Rm.slots)
    (d0 : decode cb pc = .ok (.new ix, 3)) (d3 : decode cb (pc + 3) = .ok (.dup, 1)) (d4 : decode cb (pc + 4) = .ok (.invokespecial ic, 3)) (d7 : decode cb (pc + 7) = .ok (.athrow, 1))
    (hQ : ∀ (t : State) (a : Nat), t.status = .running → Ended t below (.threw a) → xEnd s t [] mc ms → xCell k a t → Qf t) :
    W p l e Rm s m args below meth c s.heap [] cells slots Qf (F0 m pc ls rest) := by
  have hw := X.xw S2
  obtain ⟨hx, hb, hml, hown, hts, hK, hD, hFx, hT⟩ := X
  refine W.newc hx hb hown (hts _ S.1) (hts _ S.2.1) (hts _ S.2.2) rfl d0 (Nat.le_trans hk.1 hrm.1) (Nat.le_trans hk.2 hrm.2) (fun cC kC h1 h2 h3 h4 => ?_)
  refine lv_dup (pc := pc + 3) hx hb d3 rfl ?_
  intro T hT2 St
  have htr := Launch.traces_off hfl St.admits
  obtain ⟨U, u1, u2, u3, u4, u5, ce, u6, u7⟩ := St.ctorThrow0 hx htr (own := own) (cls := xN k) (names := ["java/lang/RuntimeException", "java/lang/Exception"]) (ic := ic) hown S3.1 (by intro n hn; simp only [List.mem_cons, List.not_mem_nil, or_false] at hn; rcases hn with rfl | rfl; exact S3.2.1; exact S3.2.2) hw (fun x hx' => by cases hx') (a := s.heap.size) (cX := cC) (kX := kC) h1 h2 (by rw [hT2]; simp [freshCell]) (Nat.le_refl _) (g := F0 m (pc + 3 + 1) ls (.ref s.heap.size :: .ref s.heap.size :: rest)) rfl (hls.trans hml.symm) rfl rfl rfl (by rw [hb]; exact d4) (by rw [hb]; exact d7) (fun x hx' => by
    have h0 : c.exceptionTable.size = 0 := by simpa [Array.isEmpty] using hne
    have h9 : c.exceptionTable.toList = [] := List.eq_nil_of_length_eq_zero (by simpa using h0)
    rw [h9] at hx'; cases hx') (by simp only [List.length_cons, List.length_nil]; omega) (by
      show 2 * 0 + _ + _ ≤ _
      rw [List.map_cons, List.sum_cons]
      show 2 * 0 + (1 + _) + _ ≤ _
      simp only [List.length_cons, List.length_nil]
      omega) hlk
  refine ⟨U, u1, hQ U s.heap.size u2 u3 ⟨u4, u5.mono hk.1 hk.2⟩ ⟨ce, u6, (fun z => by rw [u7.vm]; exact fun h => by cases h), ?_⟩⟩
  rw [u4.alike.findClass]
  exact u7.cls
theorem u_throw (X : uX p s m args c cb nL own D cc L A t16 t32) (V : uV s D cc L A J I R s.heap []) (hfl : l.flags = pinnedFlags ++ [noTraceFlag]) (hne : c.exceptionTable.isEmpty = true) (hlk : meth.locks = false) {ix ic k : Nat} {mc ms sz : Nat} (hsz : sz = s.heap.size) {Q0 : Int32 → List Nat → UI → UR → Prop} {QE : Nat → Prop} (hQE : QE k)
    (S : Cond.classLink own ix (xN k) ∈ tb ∧ Cond.instantiable (xN k) 6 ∈ tb ∧ Cond.initialized (xN k) ∈ tb) (S2 : ∀ w ∈ Bundle.ownAtoms0 own ic (xN k) ["java/lang/RuntimeException", "java/lang/Exception"], w ∈ tb ∨ w ∈ xSp ++ nw) (S3 : Bundle.fit (xN k) = true ∧ Bundle.fit "java/lang/RuntimeException" = true ∧ Bundle.fit "java/lang/Exception" = true)
    (hls : ls.size = nL) (hfr : 5 < Rm.frames) (hlo : (rest.map fun v => v.category).sum + 100 ≤ Rm.locals) (hk : cells + 1 ≤ mc ∧ slots + 6 ≤ ms) (hrm : mc ≤ Rm.cells ∧ ms ≤ Rm.slots)
    (d0 : decode cb pc = .ok (.new ix, 3)) (d3 : decode cb (pc + 3) = .ok (.dup, 1)) (d4 : decode cb (pc + 4) = .ok (.invokespecial ic, 3)) (d7 : decode cb (pc + 7) = .ok (.athrow, 1)) :
    W p l e Rm s m args below meth c s.heap [] cells slots (MQX below (uQX Q0 QE D cc L A J I R sz) args s mc ms (uA L A sz)) (F0 m pc ls rest) := by
  subst hsz
  refine u_throwG X hfl hne hlk S S2 S3 hls hfr hlo hk hrm d0 d3 d4 d7 (fun t a h1 h2 h3 h4 => ?_)
  have hold := same_old h3.2
  refine ⟨.threw a, h1, h2, ⟨Or.inr ⟨k, a, rfl, hQE, V.1.kept (fun j q hj => hold q.1 ((V.1 j q hj).lt)), h4⟩, h3.2.2.1, fun q hq _ => hold q hq⟩, [], h3, fun q hq => by cases hq⟩
theorem u_throwv (X : uX p s m args c cb nL own D cc L A t16 t32) (V : uV s D cc L A J I R s.heap []) (hfl : l.flags = pinnedFlags ++ [noTraceFlag]) (hne : c.exceptionTable.isEmpty = true) (hlk : meth.locks = false) {ix ic k : Nat} {mc ms sz : Nat} (hsz : sz = s.heap.size) {Q0 : List Nat → UI → UR → Prop} {QE : Nat → Prop} (hQE : QE k)
    (S : Cond.classLink own ix (xN k) ∈ tb ∧ Cond.instantiable (xN k) 6 ∈ tb ∧ Cond.initialized (xN k) ∈ tb) (S2 : ∀ w ∈ Bundle.ownAtoms0 own ic (xN k) ["java/lang/RuntimeException", "java/lang/Exception"], w ∈ tb ∨ w ∈ xSp ++ nw) (S3 : Bundle.fit (xN k) = true ∧ Bundle.fit "java/lang/RuntimeException" = true ∧ Bundle.fit "java/lang/Exception" = true)
    (hls : ls.size = nL) (hfr : 5 < Rm.frames) (hlo : (rest.map fun v => v.category).sum + 100 ≤ Rm.locals) (hk : cells + 1 ≤ mc ∧ slots + 6 ≤ ms) (hrm : mc ≤ Rm.cells ∧ ms ≤ Rm.slots)
    (d0 : decode cb pc = .ok (.new ix, 3)) (d3 : decode cb (pc + 3) = .ok (.dup, 1)) (d4 : decode cb (pc + 4) = .ok (.invokespecial ic, 3)) (d7 : decode cb (pc + 7) = .ok (.athrow, 1)) :
    W p l e Rm s m args below meth c s.heap [] cells slots (MQX below (uQXv Q0 QE D cc L A J I R sz) args s mc ms (uA L A sz)) (F0 m pc ls rest) := by
  subst hsz
  refine u_throwG X hfl hne hlk S S2 S3 hls hfr hlo hk hrm d0 d3 d4 d7 (fun t a h1 h2 h3 h4 => ?_)
  have hold := same_old h3.2
  refine ⟨.threw a, h1, h2, ⟨Or.inr ⟨k, a, rfl, hQE, V.1.kept (fun j q hj => hold q.1 ((V.1 j q hj).lt)), h4⟩, h3.2.2.1, fun q hq _ => hold q hq⟩, [], h3, fun q hq => by cases hq⟩
theorem u_retiX (X : uX p s m args c cb nL own D cc L A t16 t32) (V : uV s D cc L A J I R H locs) (hE : uEx s.heap.size L0 A0 L A) {mc ms : Nat} (hk : cells ≤ mc ∧ slots ≤ ms) (hr : meth.sig.returnType = some .int) (hlk : meth.locks = false) {sz : Nat} (hsz : sz = s.heap.size) {v : Int32} {Q : Int32 → List Nat → UI → UR → Prop} {QE : Nat → Prop} (hQ : Q v L I R) (hdg : decode cb pc = .ok (.ireturn, 1)) :
    W p l e Rm s m args below meth c H locs cells slots (MQX below (uQX Q QE D cc L0 A0 J I0 R0 sz) args s mc ms (uA L0 A0 sz)) (F0 m pc ls [.int v]) := by
  refine W.mono ?_ (u_retiA (Q := Q) X V hE hk hr hlk hsz hQ hdg)
  rintro t ⟨o, h1, h2, ⟨⟨r, u, h3, h4, h5⟩, h6⟩, Lc, h7, h8⟩
  exact ⟨o, h1, h2, ⟨Or.inl ⟨r, u, h3, h4, h5⟩, h6⟩, Lc, ⟨h7.2.1, h7.2.2⟩, h8⟩
theorem u_retzX (X : uX p s m args c cb nL own D cc L A t16 t32) (V : uV s D cc L A J I R H locs) (hE : uEx s.heap.size L0 A0 L A) {mc ms : Nat} (hk : cells ≤ mc ∧ slots ≤ ms) (hr : meth.sig.returnType = some .boolean) (hlk : meth.locks = false) {sz : Nat} (hsz : sz = s.heap.size) {v : Int32} {Q : Int32 → List Nat → UI → UR → Prop} {QE : Nat → Prop} (hz : zb v) (hQ : Q v L I R) (hdg : decode cb pc = .ok (.ireturn, 1)) :
    W p l e Rm s m args below meth c H locs cells slots (MQX below (uQX Q QE D cc L0 A0 J I0 R0 sz) args s mc ms (uA L0 A0 sz)) (F0 m pc ls [.int v]) := by
  subst hsz
  have hS := V.2.mono hE.sub
  refine W.widen hk.1 hk.2 (W.mono ?_ (W.zret (Qc := va_Qi (fun (r : Int32) (u : List Nat × (Nat → Nat) × UI × UR) => Q r u.1 u.2.2.1 u.2.2.2) (uBa D cc L0 A0 J s.heap.size) (uA L0 A0 s.heap.size)) (free := uA L0 A0 s.heap.size) X.1 X.2.1 hr hz.nar (fun t ht hW => ⟨⟨v, (L, A, I, R), rfl, hQ, by show va_P _ _ _ _; rw [ht]; exact V.1, hE⟩, hS.F ht⟩) hS.2.2 hdg))
  rintro t ⟨o, h1, h2, ⟨⟨r, u, h3, h4, h5⟩, h6⟩, Lc, h7, h8⟩
  exact ⟨o, h1, h2, ⟨Or.inl ⟨r, u, h3, h4, h5⟩, h6⟩, Lc, ⟨h7.2.1, h7.2.2⟩, h8⟩
theorem u_retvX (X : uX p s m args c cb nL own D cc L A t16 t32) (V : uV s D cc L A J I R H locs) (hE : uEx s.heap.size L0 A0 L A) {mc ms : Nat} (hk : cells ≤ mc ∧ slots ≤ ms) (hr : meth.sig.returnType = none) (hlk : meth.locks = false) {sz : Nat} (hsz : sz = s.heap.size) {Q : List Nat → UI → UR → Prop} {QE : Nat → Prop} (hQ : Q L I R) (hdg : decode cb pc = .ok (.return_, 1)) :
    W p l e Rm s m args below meth c H locs cells slots (MQX below (uQXv Q QE D cc L0 A0 J I0 R0 sz) args s mc ms (uA L0 A0 sz)) (F0 m pc ls []) := by
  refine W.mono ?_ (u_retvA (Q := Q) X V hE hk hr hlk hsz hQ hdg)
  rintro t ⟨o, h1, h2, ⟨⟨u, h3, h4, h5⟩, h6⟩, Lc, h7, h8⟩
  exact ⟨o, h1, h2, ⟨Or.inl ⟨u, h3, h4, h5⟩, h6⟩, Lc, ⟨h7.2.1, h7.2.2⟩, h8⟩
theorem u_entryX {y : MethodName} {n sz mc ms : Nat} {ret : Option FieldType} {rm : Room} {as : List Value} {Qc : Array Value → State → Outcome → State → Prop} (hy : plainName y.cls = true) (hn : (lg_sl as).length ≤ n)
    (body : ∀ (p : Program) (e : Env) (s : State) (m : MethodId) (args : Array Value) (below : List Frame) (meth : Method) (c : Code), sz = s.heap.size → uX p s m args c cb n y.cls D cc L A t16 t32 → uV s D cc L A J I R s.heap [] → meth.sig.returnType = ret → meth.locks = false → c.exceptionTable.isEmpty = true → ∀ ls : Array Slot, lv_has ls n (lv_args 0 as) →
      W p l e rm s m args below meth c s.heap [] 0 0 (MQX below Qc args s mc ms (uA L A sz)) (F0 m 0 ls [])) :
    MetX l y (wS (.code y cb n ret)) rm (va_Pc as (uPre D cc L A J t16 t32 I R sz)) Qc mc ms (uA L A sz) := by
  refine MetX.ofW (cc := cb) (maxL := n) (ret := ret) hy rfl ?_
  intro p e s m args below meth c s₁ B hml hv
  obtain ⟨rfl, hsz, hP, hK, hD, hFx, hT⟩ := hv
  have hts := atoms_spec (ws := wS (.code y cb n ret)) B.pre
  have hown : s.vm.findClass y.cls = some m.cls := findClass_of_methodNamed B.named
  have hl := lv_entry as (n := n) hn
  rw [lg_entry_eq]
  refine body p e s m _ below meth c hsz.symm ⟨B.exec, B.bytes, hml, hown, fun w hw => hts w (List.mem_cons_of_mem _ hw), hK, hD, hFx, ?_⟩ ⟨hP, va_S.rf⟩ B.returns B.notSynchronized (B.noHandlers (hts _ List.mem_cons_self)) _ hl
  rw [hsz]; exact hT
/-- methods that read alone -/
def uMiP (l : Launch) (y : MethodName) (cd : Cond) (rm : Room) (as : List Value) (D : va_G) (cc : Nat → ClassId) (L : List Nat) (A : Nat → Nat) (J : Nat → Int64) (t16 t32 : Nat) (I : UI) (R : UR) (Q : Int32 → Prop) : Prop :=
  ∀ sz, Met l y (wS cd) rm (va_Pc as (uPre D cc L A J t16 t32 I R sz)) (fun _ st oc t => ∃ r : Int32, oc = .returned (some (.int r)) ∧ Q r ∧ t.heap = st.heap) 0 0 (fun _ => False)
def uMrP (l : Launch) (y : MethodName) (cd : Cond) (rm : Room) (as : List Value) (D : va_G) (cc : Nat → ClassId) (L : List Nat) (A : Nat → Nat) (J : Nat → Int64) (t16 t32 : Nat) (I : UI) (R : UR) (Q : Option Nat → Prop) : Prop :=
  ∀ sz, Met l y (wS cd) rm (va_Pc as (uPre D cc L A J t16 t32 I R sz)) (fun _ st oc t => ∃ i : Option Nat, oc = .returned (some (va_rf (i.map A))) ∧ Q i ∧ t.heap = st.heap) 0 0 (fun _ => False)
theorem u_entryP {y : MethodName} {n sz mc ms : Nat} {ret : Option FieldType} {rm : Room} {as : List Value} {Qc : Array Value → State → Outcome → State → Prop} {free : Addr → Prop} (hy : plainName y.cls = true) (hn : (lg_sl as).length ≤ n)
    (body : ∀ (p : Program) (e : Env) (s : State) (m : MethodId) (args : Array Value) (below : List Frame) (meth : Method) (c : Code), sz = s.heap.size → uX p s m args c cb n y.cls D cc L A t16 t32 → uV s D cc L A J I R s.heap [] → meth.sig.returnType = ret → meth.locks = false → ∀ ls : Array Slot, lv_has ls n (lv_args 0 as) →
      W p l e rm s m args below meth c s.heap [] 0 0 (MQ below Qc args s mc ms free) (F0 m 0 ls [])) :
    Met l y (wS (.code y cb n ret)) rm (va_Pc as (uPre D cc L A J t16 t32 I R sz)) Qc mc ms free := by
  refine Met.ofW (cc := cb) (maxL := n) (ret := ret) hy rfl ?_
  intro p e s m args below meth c s₁ B hml hv
  obtain ⟨rfl, hsz, hP, hK, hD, hFx, hT⟩ := hv
  have hts := atoms_spec (ws := wS (.code y cb n ret)) B.pre
  have hown : s.vm.findClass y.cls = some m.cls := findClass_of_methodNamed B.named
  have hl := lv_entry as (n := n) hn
  rw [lg_entry_eq]
  refine body p e s m _ below meth c hsz.symm ⟨B.exec, B.bytes, hml, hown, fun w hw => hts w (List.mem_cons_of_mem _ hw), hK, hD, hFx, ?_⟩ ⟨hP, va_S.rf⟩ B.returns B.notSynchronized _ hl
  rw [hsz]; exact hT
theorem u_retzP (X : uX p s m args c cb nL own D cc L A t16 t32) (hr : meth.sig.returnType = some .boolean) (hlk : meth.locks = false) {v : Int32} {Q : Int32 → Prop} (hz : zb v) (hQ : Q v) (hdg : decode cb pc = .ok (.ireturn, 1)) :
    W p l e Rm s m args below meth c s.heap [] cells slots (MQ below (fun _ st oc t => ∃ r : Int32, oc = .returned (some (.int r)) ∧ Q r ∧ t.heap = st.heap) args s cells slots (fun _ => False)) (F0 m pc ls [.int v]) :=
  W.zret X.1 X.2.1 hr hz.nar (fun t ht hW => ⟨v, rfl, hQ, ht⟩) (fun q hq => by cases hq) hdg
theorem u_retrP (X : uX p s m args c cb nL own D cc L A t16 t32) {C0 : String} (hr : meth.sig.returnType = some (.object C0)) (hlk : meth.locks = false) {i : Option Nat} {v : Value} (hv : v = va_rf (i.map A)) {Q : Option Nat → Prop} (hQ : Q i) (hdg : decode cb pc = .ok (.areturn, 1)) :
    W p l e Rm s m args below meth c s.heap [] cells slots (MQ below (fun _ st oc t => ∃ i : Option Nat, oc = .returned (some (va_rf (i.map A))) ∧ Q i ∧ t.heap = st.heap) args s cells slots (fun _ => False)) (F0 m pc ls [v]) := by
  subst hv
  exact W.aret X.1 X.2.1 hr (Or.inl ⟨_, rfl⟩) (by cases i with | none => exact Or.inl rfl | some a => exact Or.inr ⟨A a, rfl⟩) (fun t ht hW => ⟨i, rfl, hQ, ht⟩) (fun q hq => by cases hq) hdg
theorem u_runP {α : Type} {vl : α → Value} {Q0 : α → Prop} {st0 : List Value} (hr : va_Run p l e Rm s m args below meth c H locs cells slots 0 0 (F0 m pc ls st0) rest (fun st oc t => ∃ r : α, oc = .returned (some (vl r)) ∧ Q0 r ∧ t.heap = st.heap) (fun _ => False))
    (kk : ∀ r : α, Q0 r → W p l e Rm s m args below meth c H locs cells slots Q (F0 m (pc + 3) ls (vl r :: rest))) : W p l e Rm s m args below meth c H locs cells slots Q (F0 m pc ls st0) := by
  intro T hT X
  obtain ⟨v, st₀, t, T', L, h0, X', hL, e1, e2, ⟨r, hv, hq, hh⟩, st⟩ := hr T hT X
  cases hv
  obtain ⟨t2, a1, b1⟩ := kk r hq T' (by rw [e1, hh, h0]) (Stand.forget X' (fun q h => (hL q h).elim))
  exact ⟨t2, st t2 a1, b1⟩
theorem u_cSiP (X : uX p s m args c cb nL own D cc L A t16 t32) (V : uV s D cc L A J I R H locs) {index n maxL : Nat} {y : MethodName} {bytes : ByteArray} {ty : FieldType} {rm : Room} {As : List Value} {Q0 : Int32 → Prop} (S : uCt own index y n (.code y bytes maxL (some ty)))
    (hM : uMiP l y (.code y bytes maxL (some ty)) rm As D cc L A J t16 t32 I R Q0) (hrm : rOk rm Rm maxL) (hn : As.length = n) (hls : ls.size = nL) (hst : st = As.reverse ++ rest) (hw : (rest.map fun v => v.category).sum ≤ 8) (hdg : decode cb pc = .ok (.invokestatic index, 3)) (hcs : cells ≤ Rm.cells ∧ slots ≤ Rm.slots)
    (kk : ∀ r : Int32, Q0 r → W p l e Rm s m args below meth c H locs cells slots Q (F0 m (pc + 3) ls (.int r :: rest))) : W p l e Rm s m args below meth c H locs cells slots Q (F0 m pc ls st) := by
  have X0 := X
  obtain ⟨hx, hb, hml, hown, hts, hK, hD, hFx, hT⟩ := X
  exact u_runP (vl := Value.int) (va_runS (Ts := tb) ⟨hx, hb, hml, hown, hts⟩ (hM H.size) ⟨u_cb X0 S.1 hrm, hts _ S.2⟩ ⟨uPre_blind, uPre_of X0 V _⟩ rfl hn hls hst (lv_room hw) hdg hcs) kk
theorem u_cViP (X : uX p s m args c cb nL own D cc L A t16 t32) (V : uV s D cc L A J I R H locs) {index n maxL o κ : Nat} {y : MethodName} {bytes : ByteArray} {ty : FieldType} {rm : Room} {As : List Value} {Q0 : Int32 → Prop} (S : uCv own index y n (.code y bytes maxL (some ty))) (ho : o ∈ L) (hk : kd o = κ) (hO : isO κ = true) (hc : (cls[(lay κ).1]?).map (fun q => q.1) = some y.cls)
    (hM : uMiP l y (.code y bytes maxL (some ty)) rm (.ref (A o) :: As) D cc L A J t16 t32 I R Q0) (hrm : rOk rm Rm maxL) (hn : As.length = n) (hls : ls.size = nL) (hst : st = As.reverse ++ .ref (A o) :: rest) (hw : (rest.map fun v => v.category).sum ≤ 8) (hdg : decode cb pc = .ok (.invokevirtual index, 3)) (hcs : cells ≤ Rm.cells ∧ slots ≤ Rm.slots)
    (kk : ∀ r : Int32, Q0 r → W p l e Rm s m args below meth c H locs cells slots Q (F0 m (pc + 3) ls (.int r :: rest))) : W p l e Rm s m args below meth c H locs cells slots Q (F0 m pc ls st) := by
  have X0 := X
  obtain ⟨hx, hb, hml, hown, hts, hK, hD, hFx, hT⟩ := X
  exact u_runP (vl := Value.int) (va_runV (Ts := tb) (C := y.cls) ⟨hx, hb, hml, hown, hts⟩ (hM H.size) ⟨u_cb X0 S.1 hrm, hts _ S.2.1, hts _ S.2.2⟩ ⟨uPre_blind, X0.recv V ho hk hO hc, uPre_of X0 V _⟩ rfl hn hls hst (lv_room hw) hdg hcs) kk
theorem u_cVrP (X : uX p s m args c cb nL own D cc L A t16 t32) (V : uV s D cc L A J I R H locs) {index n maxL o κ : Nat} {y : MethodName} {bytes : ByteArray} {ty : FieldType} {rm : Room} {As : List Value} {Q0 : Option Nat → Prop} (S : uCv own index y n (.code y bytes maxL (some ty))) (ho : o ∈ L) (hk : kd o = κ) (hO : isO κ = true) (hc : (cls[(lay κ).1]?).map (fun q => q.1) = some y.cls)
    (hM : uMrP l y (.code y bytes maxL (some ty)) rm (.ref (A o) :: As) D cc L A J t16 t32 I R Q0) (hrm : rOk rm Rm maxL) (hn : As.length = n) (hls : ls.size = nL) (hst : st = As.reverse ++ .ref (A o) :: rest) (hw : (rest.map fun v => v.category).sum ≤ 8) (hdg : decode cb pc = .ok (.invokevirtual index, 3)) (hcs : cells ≤ Rm.cells ∧ slots ≤ Rm.slots)
    (kk : ∀ i : Option Nat, Q0 i → W p l e Rm s m args below meth c H locs cells slots Q (F0 m (pc + 3) ls (va_rf (i.map A) :: rest))) : W p l e Rm s m args below meth c H locs cells slots Q (F0 m pc ls st) := by
  have X0 := X
  obtain ⟨hx, hb, hml, hown, hts, hK, hD, hFx, hT⟩ := X
  exact u_runP (vl := fun i : Option Nat => va_rf (i.map A)) (va_runV (Ts := tb) (C := y.cls) ⟨hx, hb, hml, hown, hts⟩ (hM H.size) ⟨u_cb X0 S.1 hrm, hts _ S.2.1, hts _ S.2.2⟩ ⟨uPre_blind, X0.recv V ho hk hO hc, uPre_of X0 V _⟩ rfl hn hls hst (lv_room hw) hdg hcs) kk
end U
theorem xFit : Bundle.fit (xN 1) = true ∧ Bundle.fit (xN 2) = true ∧ Bundle.fit "java/lang/RuntimeException" = true ∧ Bundle.fit "java/lang/Exception" = true := by decide +kernel
set_option maxRecDepth 100000 in
theorem xW1 : ∀ w ∈ Bundle.ownAtoms0 "FrameFerry" 32 (xN 1) ["java/lang/RuntimeException", "java/lang/Exception"], w ∈ tb ∨ w ∈ xSp ++ nw := List.forall_mem_cons.mpr ⟨Or.inl (tb_of 9 (by decide +kernel) rfl), List.forall_mem_cons.mpr ⟨Or.inl (tb_of 559 (by decide +kernel) rfl), List.forall_mem_cons.mpr ⟨Or.inl (tb_of 568 (by decide +kernel) rfl), List.forall_mem_cons.mpr ⟨Or.inl (tb_of 571 rfl rfl), List.forall_mem_cons.mpr ⟨Or.inl (tb_of 574 (by decide +kernel) rfl), List.forall_mem_cons.mpr ⟨Or.inl (tb_of 576 (by decide +kernel) rfl), List.forall_mem_cons.mpr ⟨Or.inl (tb_of 560 (by decide +kernel) rfl), List.forall_mem_cons.mpr ⟨Or.inl (tb_of 561 rfl rfl), List.forall_mem_cons.mpr ⟨Or.inl (tb_of 23 (by decide +kernel) rfl), List.forall_mem_cons.mpr ⟨Or.inl (tb_of 24 rfl rfl), List.forall_mem_cons.mpr ⟨Or.inl (tb_of 562 (by decide +kernel) rfl), List.forall_mem_cons.mpr ⟨Or.inl (tb_of 567 (by decide +kernel) rfl), List.forall_mem_cons.mpr ⟨Or.inl (tb_of 572 (by decide +kernel) rfl), List.forall_mem_cons.mpr ⟨Or.inl (tb_of 588 (by decide +kernel) rfl), List.forall_mem_cons.mpr ⟨Or.inl (tb_of 549 (by decide +kernel) rfl), List.forall_mem_cons.mpr ⟨Or.inl (tb_of 589 (by decide +kernel) rfl), List.forall_mem_cons.mpr ⟨Or.inl (tb_of 551 (by decide +kernel) rfl), List.forall_mem_cons.mpr ⟨Or.inl (tb_of 590 (by decide +kernel) rfl), List.forall_mem_cons.mpr ⟨Or.inl (tb_of 553 (by decide +kernel) rfl), List.forall_mem_cons.mpr ⟨Or.inl (tb_of 563 (by decide +kernel) rfl), List.forall_mem_cons.mpr ⟨Or.inr (List.mem_append_left _ (List.mem_of_getElem? (i := 0) rfl)), List.forall_mem_cons.mpr ⟨Or.inl (tb_of 565 (by decide +kernel) rfl), List.forall_mem_cons.mpr ⟨Or.inr (List.mem_append_left _ (List.mem_of_getElem? (i := 1) rfl)), List.forall_mem_cons.mpr ⟨Or.inl (tb_of 555 (by decide +kernel) rfl), List.forall_mem_cons.mpr ⟨Or.inl (tb_of 578 (by decide +kernel) rfl), List.forall_mem_cons.mpr ⟨Or.inl (tb_of 579 rfl rfl), List.forall_mem_cons.mpr ⟨Or.inl (tb_of 580 (by decide +kernel) rfl), List.forall_mem_cons.mpr ⟨Or.inl (tb_of 581 (by decide +kernel) rfl), List.forall_mem_cons.mpr ⟨Or.inr (List.mem_append_right _ (List.mem_of_getElem? (i := 13) rfl)), List.forall_mem_cons.mpr ⟨Or.inl (tb_of 581 (by decide +kernel) rfl), List.forall_mem_cons.mpr ⟨Or.inl (tb_of 582 rfl rfl), List.forall_mem_cons.mpr ⟨Or.inl (tb_of 583 (by decide +kernel) rfl), List.forall_mem_cons.mpr ⟨Or.inl (tb_of 584 (by decide +kernel) rfl), List.forall_mem_cons.mpr ⟨Or.inr (List.mem_append_right _ (List.mem_of_getElem? (i := 14) rfl)), List.forall_mem_cons.mpr ⟨Or.inl (tb_of 584 (by decide +kernel) rfl), List.forall_mem_cons.mpr ⟨Or.inl (tb_of 585 rfl rfl), List.forall_mem_cons.mpr ⟨Or.inl (tb_of 586 (by decide +kernel) rfl), List.forall_mem_cons.mpr ⟨Or.inl (tb_of 560 (by decide +kernel) rfl), List.forall_mem_cons.mpr ⟨Or.inr (List.mem_append_right _ (List.mem_of_getElem? (i := 15) rfl)), List.forall_mem_cons.mpr ⟨Or.inl (tb_of 577 (by decide +kernel) rfl), List.forall_mem_cons.mpr ⟨Or.inl (tb_of 538 (by decide +kernel) rfl), List.forall_mem_cons.mpr ⟨Or.inr (List.mem_append_right _ (List.mem_of_getElem? (i := 16) rfl)), List.forall_mem_cons.mpr ⟨Or.inl (tb_of 546 (by decide +kernel) rfl), List.forall_mem_cons.mpr ⟨Or.inl (tb_of 547 (by decide +kernel) rfl), List.forall_mem_cons.mpr ⟨Or.inl (tb_of 548 (by decide +kernel) rfl), List.forall_mem_cons.mpr ⟨Or.inl (tb_of 550 (by decide +kernel) rfl), List.forall_mem_cons.mpr ⟨Or.inl (tb_of 552 (by decide +kernel) rfl), List.forall_mem_cons.mpr ⟨Or.inl (tb_of 554 (by decide +kernel) rfl), List.forall_mem_cons.mpr ⟨Or.inr (List.mem_append_left _ (List.mem_of_getElem? (i := 2) rfl)), List.forall_mem_cons.mpr ⟨Or.inr (List.mem_append_left _ (List.mem_of_getElem? (i := 3) rfl)), List.forall_mem_cons.mpr ⟨Or.inl (tb_of 558 (by decide +kernel) rfl), List.forall_mem_cons.mpr ⟨Or.inl (tb_of 557 (by decide +kernel) rfl), List.forall_mem_cons.mpr ⟨Or.inl (tb_of 556 (by decide +kernel) rfl), fun _ h => absurd h List.not_mem_nil⟩⟩⟩⟩⟩⟩⟩⟩⟩⟩⟩⟩⟩⟩⟩⟩⟩⟩⟩⟩⟩⟩⟩⟩⟩⟩⟩⟩⟩⟩⟩⟩⟩⟩⟩⟩⟩⟩⟩⟩⟩⟩⟩⟩⟩⟩⟩⟩⟩⟩⟩⟩⟩
set_option maxRecDepth 100000 in
theorem xW2 : ∀ w ∈ Bundle.ownAtoms0 "FrameFerry" 42 (xN 2) ["java/lang/RuntimeException", "java/lang/Exception"], w ∈ tb ∨ w ∈ xSp ++ nw := List.forall_mem_cons.mpr ⟨Or.inl (tb_of 9 (by decide +kernel) rfl), List.forall_mem_cons.mpr ⟨Or.inl (tb_of 559 (by decide +kernel) rfl), List.forall_mem_cons.mpr ⟨Or.inl (tb_of 568 (by decide +kernel) rfl), List.forall_mem_cons.mpr ⟨Or.inl (tb_of 571 rfl rfl), List.forall_mem_cons.mpr ⟨Or.inl (tb_of 574 (by decide +kernel) rfl), List.forall_mem_cons.mpr ⟨Or.inl (tb_of 576 (by decide +kernel) rfl), List.forall_mem_cons.mpr ⟨Or.inl (tb_of 560 (by decide +kernel) rfl), List.forall_mem_cons.mpr ⟨Or.inl (tb_of 561 rfl rfl), List.forall_mem_cons.mpr ⟨Or.inl (tb_of 23 (by decide +kernel) rfl), List.forall_mem_cons.mpr ⟨Or.inl (tb_of 24 rfl rfl), List.forall_mem_cons.mpr ⟨Or.inl (tb_of 562 (by decide +kernel) rfl), List.forall_mem_cons.mpr ⟨Or.inl (tb_of 567 (by decide +kernel) rfl), List.forall_mem_cons.mpr ⟨Or.inl (tb_of 572 (by decide +kernel) rfl), List.forall_mem_cons.mpr ⟨Or.inl (tb_of 588 (by decide +kernel) rfl), List.forall_mem_cons.mpr ⟨Or.inl (tb_of 549 (by decide +kernel) rfl), List.forall_mem_cons.mpr ⟨Or.inl (tb_of 589 (by decide +kernel) rfl), List.forall_mem_cons.mpr ⟨Or.inl (tb_of 551 (by decide +kernel) rfl), List.forall_mem_cons.mpr ⟨Or.inl (tb_of 590 (by decide +kernel) rfl), List.forall_mem_cons.mpr ⟨Or.inl (tb_of 553 (by decide +kernel) rfl), List.forall_mem_cons.mpr ⟨Or.inl (tb_of 563 (by decide +kernel) rfl), List.forall_mem_cons.mpr ⟨Or.inr (List.mem_append_left _ (List.mem_of_getElem? (i := 0) rfl)), List.forall_mem_cons.mpr ⟨Or.inl (tb_of 565 (by decide +kernel) rfl), List.forall_mem_cons.mpr ⟨Or.inr (List.mem_append_left _ (List.mem_of_getElem? (i := 1) rfl)), List.forall_mem_cons.mpr ⟨Or.inl (tb_of 555 (by decide +kernel) rfl), List.forall_mem_cons.mpr ⟨Or.inl (tb_of 609 (by decide +kernel) rfl), List.forall_mem_cons.mpr ⟨Or.inl (tb_of 610 rfl rfl), List.forall_mem_cons.mpr ⟨Or.inl (tb_of 611 (by decide +kernel) rfl), List.forall_mem_cons.mpr ⟨Or.inl (tb_of 581 (by decide +kernel) rfl), List.forall_mem_cons.mpr ⟨Or.inr (List.mem_append_right _ (List.mem_of_getElem? (i := 13) rfl)), List.forall_mem_cons.mpr ⟨Or.inl (tb_of 581 (by decide +kernel) rfl), List.forall_mem_cons.mpr ⟨Or.inl (tb_of 582 rfl rfl), List.forall_mem_cons.mpr ⟨Or.inl (tb_of 583 (by decide +kernel) rfl), List.forall_mem_cons.mpr ⟨Or.inl (tb_of 584 (by decide +kernel) rfl), List.forall_mem_cons.mpr ⟨Or.inr (List.mem_append_right _ (List.mem_of_getElem? (i := 14) rfl)), List.forall_mem_cons.mpr ⟨Or.inl (tb_of 584 (by decide +kernel) rfl), List.forall_mem_cons.mpr ⟨Or.inl (tb_of 585 rfl rfl), List.forall_mem_cons.mpr ⟨Or.inl (tb_of 586 (by decide +kernel) rfl), List.forall_mem_cons.mpr ⟨Or.inl (tb_of 560 (by decide +kernel) rfl), List.forall_mem_cons.mpr ⟨Or.inr (List.mem_append_right _ (List.mem_of_getElem? (i := 15) rfl)), List.forall_mem_cons.mpr ⟨Or.inl (tb_of 608 (by decide +kernel) rfl), List.forall_mem_cons.mpr ⟨Or.inl (tb_of 600 (by decide +kernel) rfl), List.forall_mem_cons.mpr ⟨Or.inr (List.mem_append_right _ (List.mem_of_getElem? (i := 17) rfl)), List.forall_mem_cons.mpr ⟨Or.inl (tb_of 602 (by decide +kernel) rfl), List.forall_mem_cons.mpr ⟨Or.inl (tb_of 570 (by decide +kernel) rfl), List.forall_mem_cons.mpr ⟨Or.inl (tb_of 603 (by decide +kernel) rfl), List.forall_mem_cons.mpr ⟨Or.inl (tb_of 604 (by decide +kernel) rfl), List.forall_mem_cons.mpr ⟨Or.inl (tb_of 605 (by decide +kernel) rfl), List.forall_mem_cons.mpr ⟨Or.inl (tb_of 606 (by decide +kernel) rfl), List.forall_mem_cons.mpr ⟨Or.inr (List.mem_append_left _ (List.mem_of_getElem? (i := 2) rfl)), List.forall_mem_cons.mpr ⟨Or.inr (List.mem_append_left _ (List.mem_of_getElem? (i := 3) rfl)), List.forall_mem_cons.mpr ⟨Or.inl (tb_of 558 (by decide +kernel) rfl), List.forall_mem_cons.mpr ⟨Or.inl (tb_of 557 (by decide +kernel) rfl), List.forall_mem_cons.mpr ⟨Or.inl (tb_of 607 (by decide +kernel) rfl), fun _ h => absurd h List.not_mem_nil⟩⟩⟩⟩⟩⟩⟩⟩⟩⟩⟩⟩⟩⟩⟩⟩⟩⟩⟩⟩⟩⟩⟩⟩⟩⟩⟩⟩⟩⟩⟩⟩⟩⟩⟩⟩⟩⟩⟩⟩⟩⟩⟩⟩⟩⟩⟩⟩⟩⟩⟩⟩⟩
