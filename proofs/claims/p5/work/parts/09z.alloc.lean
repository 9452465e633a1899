/-! A StoredFile is made: the world grows. -/
def uEx (sz : Nat) (L : List Nat) (A : Nat → Nat) (L1 : List Nat) (A1 : Nat → Nat) : Prop :=
  uD L1 A1 ∧ uFix L1 ∧ (∀ o, o ∈ L → o ∈ L1 ∧ A1 o = A o) ∧ ∀ o, o ∈ L1 → o ∉ L → sz ≤ A1 o
theorem uEx.rf {sz : Nat} {L : List Nat} {A : Nat → Nat} (h1 : uD L A) (h2 : uFix L) : uEx sz L A L A := ⟨h1, h2, fun _ h => ⟨h, rfl⟩, fun _ h h' => absurd h h'⟩
theorem uEx.tr {sz sz' : Nat} {L L1 L2 : List Nat} {A A1 A2 : Nat → Nat} (h : uEx sz L A L1 A1) (h' : uEx sz' L1 A1 L2 A2) (hs : sz ≤ sz') : uEx sz L A L2 A2 := by
  refine ⟨h'.1, h'.2.1, fun o ho => ⟨(h'.2.2.1 o (h.2.2.1 o ho).1).1, (h'.2.2.1 o (h.2.2.1 o ho).1).2.trans (h.2.2.1 o ho).2⟩, fun o ho hn => ?_⟩
  by_cases h1 : o ∈ L1
  · rw [(h'.2.2.1 o h1).2]; exact h.2.2.2 o h1 hn
  · exact Nat.le_trans hs (h'.2.2.2 o ho h1)
theorem uEx.sub {sz : Nat} {L L1 : List Nat} {A A1 : Nat → Nat} (h : uEx sz L A L1 A1) : ∀ q, uA L1 A1 sz q → uA L A sz q := fun q hq => by
  rcases hq with ⟨o, ho, rfl⟩ | hq
  · by_cases h1 : o ∈ L
    · exact Or.inl ⟨o, h1, (h.2.2.1 o h1).2.symm⟩
    · exact Or.inr (h.2.2.2 o ho h1)
  · exact Or.inr hq
theorem uEx.sup {sz : Nat} {L L1 : List Nat} {A A1 : Nat → Nat} {sz' : Nat} (h : uEx sz' L A L1 A1) : ∀ q, uA L A sz q → uA L1 A1 sz q := fun q hq => by
  rcases hq with ⟨o, ho, rfl⟩ | hq
  · exact Or.inl ⟨o, (h.2.2.1 o ho).1, (h.2.2.1 o ho).2⟩
  · exact Or.inr hq
theorem va_S.mono {P P' : Nat → Prop} {H0 H : Heap} {locs : List Loc} (h : va_S P H0 H locs) (hp : ∀ q, P q → P' q) : va_S P' H0 H locs := ⟨h.1, fun q h1 h2 => h.2.1 q h1 (fun z => h2 (hp q z)), fun q hq => hp _ (h.2.2 q hq)⟩
def uz (I : UI) (i : Nat) : UI := va_up (va_up I i (fun _ => 0)) (i + 1) (fun _ => 0)
/-- a number that is free for a StoredFile -/
def uFr (L : List Nat) (R : UR) (i : Nat) : Prop := kd i = 12 ∧ kd (i + 1) = 13 ∧ i ∉ L ∧ i + 1 ∉ L ∧ ∀ o k, R o k ≠ some i ∧ R o k ≠ some (i + 1)
theorem kd_big {o : Nat} (h : 112 ≤ o) : kd o = 15 := by
  have h1 : ¬ o < 20 := by omega
  have h2 : ¬ o < 80 := by omega
  simp only [kd, h1, h2, if_false]
  split <;> first | omega | rfl
theorem kd_offB : (List.range 112).all (fun o => (List.range 40).all (fun n => !(isO (kd o)) || kd o == 12 || !((lay (kd o)).2.contains (n + 2)) || (kd (o + (n + 1)) != 12 && kd (o + (n + 1)) != 13))) = true := by decide +kernel
theorem kd_off (o : Nat) (ho : o < 112) (n : Nat) (hn : n < 40) (h1 : isO (kd o) = true) (h2 : kd o ≠ 12) (h3 : (n + 2) ∈ (lay (kd o)).2) : kd (o + (n + 1)) ≠ 12 ∧ kd (o + (n + 1)) ≠ 13 := by
  have h := List.all_eq_true.mp (List.all_eq_true.mp kd_offB o (List.mem_range.mpr ho)) n (List.mem_range.mpr hn)
  have h3' : (lay (kd o)).2.contains (n + 2) = true := List.contains_iff_mem.mpr h3
  simp only [h1, h3', Bool.not_true, Bool.false_or, Bool.or_eq_true, Bool.and_eq_true, beq_iff_eq, bne_iff_ne] at h
  rcases h with (h | h) | h
  · exact absurd h h2
  · cases h
  · exact h
theorem lay_small : ∀ κ, κ < 16 → ∀ x ∈ (lay κ).2, x < 42 := by decide +kernel
theorem fv_A (I : Nat → Int32) (R : Nat → Option Nat) (A A' : Nat → Nat) (o : Nat) : ∀ (l : List Nat) (j : Nat), (∀ n, (n + 2) ∈ l → A' (o + (n + 1)) = A (o + (n + 1))) → (∀ k, (R k).map A' = (R k).map A) → fv I R A' o j l = fv I R A o j l
  | [], _, _, _ => rfl
  | x :: l, j, h, h' => by
    simp only [fv]
    rw [fv_A I R A A' o l (j + 1) (fun n hn => h n (List.mem_cons_of_mem _ hn)) h']
    match x, h with
    | 0, _ => rfl
    | 1, _ => simp only [h' j]
    | n + 2, h => simp only [h n List.mem_cons_self]
theorem map_up {A : Nat → Nat} {i q q2 : Nat} {x : Option Nat} (h : x ≠ some i ∧ x ≠ some (i + 1)) : x.map (va_up (va_up A i q) (i + 1) q2) = x.map A := by
  cases x with
  | none => rfl
  | some a =>
    have h1 : a ≠ i := fun z => h.1 (by rw [z])
    have h2 : a ≠ i + 1 := fun z => h.2 (by rw [z])
    simp [va_up, h1, h2]
theorem kd_lt16 (o : Nat) : kd o < 17 := by
  by_cases h : o < 112
  · have key : ∀ o, o < 112 → kd o < 17 := by decide +kernel
    exact key o h
  · rw [kd_big (by omega)]; omega
theorem uE_grow {cc : Nat → ClassId} {A : Nat → Nat} {J : Nat → Int64} {I : UI} {R : UR} {i q q2 o : Nat} (hf : kd i = 12 ∧ kd (i + 1) = 13) (h1 : o ≠ i) (h2 : o ≠ i + 1) (hR : ∀ k, R o k ≠ some i ∧ R o k ≠ some (i + 1)) : uE cc (va_up (va_up A i q) (i + 1) q2) J (uz I i) R o = uE cc A J I R o := by
  have hI : uz I i o = I o := by simp [uz, va_up, h1, h2]
  have hm : ∀ k, (R o k).map (va_up (va_up A i q) (i + 1) q2) = (R o k).map A := fun k => map_up (hR k)
  by_cases hO : isO (kd o) = true
  · rw [uE_obj rfl hO, uE_obj rfl hO, hI]
    congr 2
    refine fv_A _ _ _ _ _ _ _ (fun n hn => ?_) hm
    have ho : o < 112 := by
      apply Nat.lt_of_not_le
      intro hb
      rw [kd_big hb] at hO
      exact absurd hO (by decide)
    have hne : o + (n + 1) ≠ i ∧ o + (n + 1) ≠ i + 1 := by
      by_cases hk : kd o = 12
      · rw [hk] at hn
        have hn0 : n = 0 := by simp [lay] at hn; omega
        subst hn0
        refine ⟨fun z => ?_, fun z => h1 (by omega)⟩
        have key : ∀ o, o < 112 → kd o = 12 → kd (o + (0 + 1)) = 13 := by decide +kernel
        have := key o ho hk
        rw [z, hf.1] at this
        cases this
      · have hx : n + 2 < 42 := by
          by_cases h16 : kd o < 16
          · exact lay_small (kd o) h16 _ hn
          · have h17 := kd_lt16 o
            have : kd o = 16 := by omega
            rw [this] at hO
            exact absurd hO (by decide)
        have := kd_off o ho n (by omega) hO hk hn
        exact ⟨fun z => this.1 (by rw [z]; exact hf.1), fun z => this.2 (by rw [z]; exact hf.2)⟩
    simp [va_up, hne.1, hne.2]
  · unfold uE
    rw [if_neg hO, if_neg hO, hI]
    simp only [hm]
abbrev uBa (D : va_G) (cc : Nat → ClassId) (L : List Nat) (A : Nat → Nat) (J : Nat → Int64) (sz : Nat) (u : List Nat × (Nat → Nat) × UI × UR) (t : State) : Prop := va_P D cls (uW cc u.1 u.2.1 J u.2.2.1 u.2.2.2) t.heap ∧ uEx sz L A u.1 u.2.1
def uMvA (l : Launch) (y : MethodName) (cd : Cond) (rm : Room) (mc ms : Nat) (as : List Value) (D : va_G) (cc : Nat → ClassId) (L : List Nat) (A : Nat → Nat) (J : Nat → Int64) (t16 t32 : Nat) (I : UI) (R : UR) (Q : List Nat → UI → UR → Prop) : Prop :=
  ∀ sz, Met l y (wS cd) rm (va_Pc as (uPre D cc L A J t16 t32 I R sz)) (va_Qv (fun u : List Nat × (Nat → Nat) × UI × UR => Q u.1 u.2.2.1 u.2.2.2) (uBa D cc L A J sz) (uA L A sz)) mc ms (uA L A sz)
def uMiA (l : Launch) (y : MethodName) (cd : Cond) (rm : Room) (mc ms : Nat) (as : List Value) (D : va_G) (cc : Nat → ClassId) (L : List Nat) (A : Nat → Nat) (J : Nat → Int64) (t16 t32 : Nat) (I : UI) (R : UR) (Q : Int32 → List Nat → UI → UR → Prop) : Prop :=
  ∀ sz, Met l y (wS cd) rm (va_Pc as (uPre D cc L A J t16 t32 I R sz)) (va_Qi (fun (r : Int32) (u : List Nat × (Nat → Nat) × UI × UR) => Q r u.1 u.2.2.1 u.2.2.2) (uBa D cc L A J sz) (uA L A sz)) mc ms (uA L A sz)
section U
variable {p : Program} {l : Launch} {e : Env} {Rm : Room} {s : State} {m : MethodId} {args : Array Value} {below : List Frame} {meth : Method} {c : Code} {H : Heap} {locs : List Loc} {cells slots : Nat} {Q : State → Prop}
variable {cb : ByteArray} {pc nL : Nat} {ls : Array Slot} {rest st : List Value} {own : String} {D : va_G} {cc : Nat → ClassId} {L L0 : List Nat} {A A0 : Nat → Nat} {J : Nat → Int64} {t16 t32 : Nat} {I : UI} {R : UR}
theorem uX.grow (X : uX p s m args c cb nL own D cc L A t16 t32) {L1 : List Nat} {A1 : Nat → Nat} (h : uEx s.heap.size L A L1 A1) : uX p s m args c cb nL own D cc L1 A1 t16 t32 := by
  obtain ⟨hx, hb, hml, hown, hts, hK, hD, hFx, hT⟩ := X
  exact ⟨hx, hb, hml, hown, hts, hK, h.1, h.2.1, hT.narrow h.sub⟩
theorem u_retvA (X : uX p s m args c cb nL own D cc L A t16 t32) (V : uV s D cc L A J I R H locs) (hE : uEx s.heap.size L0 A0 L A) {mc ms : Nat} (hk : cells ≤ mc ∧ slots ≤ ms) (hr : meth.sig.returnType = none) (hlk : meth.locks = false) {sz : Nat} (hsz : sz = s.heap.size) {Q : List Nat → UI → UR → Prop} (hQ : Q L I R) (hdg : decode cb pc = .ok (.return_, 1)) :
    W p l e Rm s m args below meth c H locs cells slots (MQ below (va_Qv (fun u : List Nat × (Nat → Nat) × UI × UR => Q u.1 u.2.2.1 u.2.2.2) (uBa D cc L0 A0 J sz) (uA L0 A0 sz)) args s mc ms (uA L0 A0 sz)) (F0 m pc ls []) := by
  subst hsz
  have hS := V.2.mono hE.sub
  refine W.widen hk.1 hk.2 ?_
  exact W.vret X.1 X.2.1 hr (fun t ht hW => ⟨⟨(L, A, I, R), rfl, hQ, by show va_P _ _ _ _; rw [ht]; exact V.1, hE⟩, hS.F ht⟩) hS.2.2 hdg
theorem u_retiA (X : uX p s m args c cb nL own D cc L A t16 t32) (V : uV s D cc L A J I R H locs) (hE : uEx s.heap.size L0 A0 L A) {mc ms : Nat} (hk : cells ≤ mc ∧ slots ≤ ms) (hr : meth.sig.returnType = some .int) (hlk : meth.locks = false) {sz : Nat} (hsz : sz = s.heap.size) {v : Int32} {Q : Int32 → List Nat → UI → UR → Prop} (hQ : Q v L I R) (hdg : decode cb pc = .ok (.ireturn, 1)) :
    W p l e Rm s m args below meth c H locs cells slots (MQ below (va_Qi (fun (r : Int32) (u : List Nat × (Nat → Nat) × UI × UR) => Q r u.1 u.2.2.1 u.2.2.2) (uBa D cc L0 A0 J sz) (uA L0 A0 sz)) args s mc ms (uA L0 A0 sz)) (F0 m pc ls [.int v]) := by
  subst hsz
  have hS := V.2.mono hE.sub
  refine W.widen hk.1 hk.2 ?_
  exact W.iret X.1 X.2.1 hr (fun t ht hW => ⟨⟨v, (L, A, I, R), rfl, hQ, by show va_P _ _ _ _; rw [ht]; exact V.1, hE⟩, hS.F ht⟩) hS.2.2 hdg
theorem u_cbA (X : uX p s m args c cb nL own D cc L A t16 t32) {index n maxL mc ms : Nat} {y : MethodName} {bytes : ByteArray} {ret : Option FieldType} {rm : Room} (S : uCs own index y n (.code y bytes maxL ret)) (hrm : rm.cells = mc ∧ rm.slots = ms ∧ rm.frames + 1 ≤ Rm.frames ∧ 8 + (maxL + 11) + rm.locals ≤ Rm.locals) :
    CallB Rm s args own index y bytes maxL ret (wS (.code y bytes maxL ret)) rm mc ms n := by
  obtain ⟨hx, hb, hml, hown, hts, hK, hD, hFx, hT⟩ := X
  refine callB_of (Ts := tb) n hts (fun w hw => ?_) rfl hrm.1 hrm.2.1 (hts _ S.2.1) (hts _ S.1) S.2.2.2 ⟨hrm.2.2.1, hrm.2.2.2⟩
  rcases List.mem_cons.mp hw with rfl | hw
  · exact ⟨S.2.2.1, tb_good S.2.2.1⟩
  · exact ⟨hw, tb_good hw⟩
theorem u_cVvA (X : uX p s m args c cb nL own D cc L A t16 t32) (V : uV s D cc L A J I R H locs) (hE : uEx s.heap.size L0 A0 L A) {index n maxL o κ mc ms : Nat} {y : MethodName} {bytes : ByteArray} {rm : Room} {As : List Value} {Q0 : List Nat → UI → UR → Prop} (S : uCv own index y n (.code y bytes maxL none)) (ho : o ∈ L) (hk : kd o = κ) (hO : isO κ = true) (hc : (cls[(lay κ).1]?).map (fun q => q.1) = some y.cls)
    (hM : uMvA l y (.code y bytes maxL none) rm mc ms (.ref (A o) :: As) D cc L A J t16 t32 I R Q0) (hrm : rm.cells = mc ∧ rm.slots = ms ∧ rm.frames + 1 ≤ Rm.frames ∧ 8 + (maxL + 11) + rm.locals ≤ Rm.locals) (hn : As.length = n) (hls : ls.size = nL) (hst : st = As.reverse ++ .ref (A o) :: rest) (hw : (rest.map fun v => v.category).sum ≤ 8) (hdg : decode cb pc = .ok (.invokevirtual index, 3)) (hcs : cells + mc ≤ Rm.cells ∧ slots + ms ≤ Rm.slots)
    (kk : ∀ (L1 : List Nat) (A1 : Nat → Nat) (I1 : UI) (R1 : UR), Q0 L1 I1 R1 → uEx s.heap.size L A L1 A1 → uEx s.heap.size L0 A0 L1 A1 → uX p s m args c cb nL own D cc L1 A1 t16 t32 → ∀ (H : Heap) (locs : List Loc), uV s D cc L1 A1 J I1 R1 H locs → W p l e Rm s m args below meth c H locs (cells + mc) (slots + ms) Q (F0 m (pc + 3) ls rest)) : W p l e Rm s m args below meth c H locs cells slots Q (F0 m pc ls st) := by
  have X0 := X
  obtain ⟨hx, hb, hml, hown, hts, hK, hD, hFx, hT⟩ := X
  refine va_callv (va_runV (Ts := tb) (C := y.cls) ⟨hx, hb, hml, hown, hts⟩ (hM H.size) ⟨u_cbA X0 S.1 hrm, hts _ S.2.1, hts _ S.2.2⟩ ⟨uPre_blind, X0.recv V ho hk hO hc, uPre_of X0 V _⟩ rfl hn hls hst (lv_room hw) hdg hcs) V.2 (fun q _ h => uA_le V.2.1 q h) (fun q h => uA_le V.2.1 q h) (fun u t H1 locs1 ht hvm hq hB hz hke hS1 => ?_)
  obtain ⟨hP1, hE1⟩ := hB
  have hE2 : uEx s.heap.size L A u.1 u.2.1 := (uEx.rf hD hFx).tr hE1 V.2.1
  exact kk u.1 u.2.1 u.2.2.1 u.2.2.2 hq hE2 (hE.tr hE1 V.2.1) (X0.grow hE2) H1 locs1 ⟨by rw [← ht]; exact hP1, hS1.mono hE2.sup⟩
/-- new StoredFile(): new, dup, invokespecial -/
theorem u_newSf (X : uX p s m args c cb nL own D cc L A t16 t32) (V : uV s D cc L A J I R H locs) (hE : uEx s.heap.size L0 A0 L A) {i ix ic : Nat} (hf : uFr L R i) (S : Cond.classLink own ix "FrameFerry$StoredFile" ∈ tb ∧ Cond.instantiable "FrameFerry$StoredFile" 3 ∈ tb ∧ Cond.initialized "FrameFerry$StoredFile" ∈ tb)
    (S2 : (Cond.initialized y_Sf_init.cls ∈ tb ∧ Cond.instanceMethod y_Sf_init ∈ tb ∧ Cond.code y_Sf_init prog_7_method_1_code 1 none ∈ tb) ∧ Cond.methodLinkNest own ic y_Sf_init "FrameFerry" ∈ nw ∧ y_Sf_init.name = "<init>" ∧ (y_Sf_init.cls ≠ "java/lang/invoke/MethodHandle" ∧ y_Sf_init.cls ≠ "java/lang/invoke/VarHandle" ∧ (parseMethodDescriptor y_Sf_init.desc).map (fun d => d.parameters.length) = some 0))
    (hls : ls.size = nL) (hw : ((rest.map fun v => v.category).sum + 1) ≤ 8) (hfr : 2 ≤ Rm.frames ∧ 40 ≤ Rm.locals) (hcs : cells + 2 ≤ Rm.cells ∧ slots + 303 ≤ Rm.slots) (hd0 : decode cb pc = .ok (.new ix, 3)) (hd3 : decode cb (pc + 3) = .ok (.dup, 1)) (hd4 : decode cb (pc + 4) = .ok (.invokespecial ic, 3))
    (kk : ∀ (A1 : Nat → Nat) (I1 : UI), I1 = uz I i → uEx s.heap.size L A (L ++ [i, i + 1]) A1 → uEx s.heap.size L0 A0 (L ++ [i, i + 1]) A1 → uX p s m args c cb nL own D cc (L ++ [i, i + 1]) A1 t16 t32 → ∀ (H : Heap) (locs : List Loc), uV s D cc (L ++ [i, i + 1]) A1 J I1 R H locs → W p l e Rm s m args below meth c H locs (cells + 2) (slots + 303) Q (F0 m (pc + 7) ls (.ref (A1 i) :: rest))) : W p l e Rm s m args below meth c H locs cells slots Q (F0 m pc ls rest) := by
  have hD := X.dd (P := uA L A s.heap.size) uA_in (E := uE cc A J I R)
  have X0 := X
  obtain ⟨hx, hb, hml, hown, hts, hK, hD0, hFx, hT⟩ := X
  obtain ⟨f1, f2, f3, f4, f5⟩ := hf
  refine va_new (ci := 5) (fs := [.null, .int 0, .int 0]) (C := R_Sf) (T := T_Sf) (N := 3) hx hb hts l_Sf ty_Sf ty_Sf_ok hown (hts _ S.1) (hts _ S.2.1) (hts _ S.2.2) hK V.1 hD V.2 (fun q h => Or.inr h) rfl (fun j hj => by rcases (show j = 0 ∨ j = 1 ∨ j = 2 by omega) with rfl | rfl | rfl <;> rfl) (by omega) (by omega) hd0 (fun q H1 hP1 hD1 hS1 => ?_)
  have hq : q = H1.size - 1 ∨ True := Or.inr trivial
  refine lv_dup (pc := pc + 3) hx hb hd3 rfl ?_
  obtain ⟨⟨s1, s2, s3⟩, s4, s5, s6⟩ := S2
  have hlen : (uW cc L A J I R).length = (uW cc L A J I R).length := rfl
  have hC : [(uW cc L A J I R).length].map (fun j => (uW cc L A J I R ++ [(q, (.inr (5, [.null, .int 0, .int 0]) : va_E))])[j]?) = [(q, (.inr (5, [.null, .int 0, .int 0]) : va_E))].map some := by simp
  have hPc : va_P D cls [(q, .inr (5, [.null, .int 0, .int 0]))] H1 := hP1.sub [(uW cc L A J I R).length] (by simp)
  have hDc : va_D (fun _ => True) [(q, .inr (5, [.null, .int 0, .int 0]))] := (hD1.sub [(uW cc L A J I R).length] rfl hC).weaken (fun _ _ _ _ => trivial)
  have hFc := va_free (wc := [(q, .inr (5, [.null, .int 0, .int 0]))]) hD1 hS1 (fun q h => Or.inr h) [(uW cc L A J I R).length] hC
  have hqA : uA L A s.heap.size q := hD1.2 (uW cc L A J I R).length (q, .inr (5, [.null, .int 0, .int 0])) (by simp)
  have hqn : s.heap.size ≤ q := by
    rcases hqA with ⟨o, ho, he⟩ | h
    · obtain ⟨k, hk0, hk1⟩ := gW_at (A := A) (E := uE cc A J I R) ho
      have hk2 : (uW cc L A J I R ++ [(q, (.inr (5, [.null, .int 0, .int 0]) : va_E))])[k]? = some (A o, uE cc A J I R o) := by
        rw [List.getElem?_append_left (List.getElem?_eq_some_iff.mp hk1).1]; exact hk1
      have hk3 := hD1.1 k (uW cc L A J I R).length _ (q, .inr (5, [.null, .int 0, .int 0])) hk2 (by simp) he
      exact absurd hk3 (Nat.ne_of_lt (List.getElem?_eq_some_iff.mp hk1).1)
    · exact h
  refine va_callv (va_runIN (Ts := tb) (As := []) (rest := .ref q :: rest) ⟨hx, hb, hml, hown, hts⟩ (c_Sf_init l D cc q H1.size) ⟨va_cnB 0 hts (fun w hw => ?_) rfl rfl rfl (hT.2.1 _ s4) (hts _ s1) s6 ⟨hfr.1, Nat.le_trans (by decide) hfr.2⟩, s5, hts _ s2⟩ ⟨kPre_blind, fun U hU hW => ⟨rfl, by rw [hU], by rw [hU]; exact hPc, va_K.moved hW.alike hK, hDc, fun w hw => ?_, va_AO.moved hW.alike hT.2.2.2.2.1⟩⟩ rfl rfl hls rfl (lv_room (by rw [List.map_cons, List.sum_cons]; show 1 + _ ≤ 8; omega)) hd4 ⟨Nat.le_trans (by show cells + 1 + 1 ≤ cells + 2; omega) hcs.1, Nat.le_trans (by show slots + 3 + 300 ≤ slots + 303; omega) hcs.2⟩) hS1 (fun q _ h => hFc q h) hFc (fun u t H2 locs2 ht hvm hq2 hB hz hke hS2 => ?_)
  · rcases List.mem_cons.mp hw with rfl | hw
    · exact ⟨s3, tb_good s3⟩
    · exact ⟨hw, tb_good hw⟩
  · exact nw_warm hW hw (hT.2.1 w hw)
  obtain ⟨q2, rfl⟩ := hq2
  obtain ⟨hP3, hD3⟩ := hB
  rw [ht] at hP3
  obtain ⟨hP4, hD4⟩ := va_join hP1 hD1 [(uW cc L A J I R).length] (List.range (uW cc L A J I R).length) hC va_rng (va_nd_range _) (fun i hi h2 => by have := List.mem_range.mp hi; simp at h2; omega) hke hFc hP3 hD3
  have hq2n : s.heap.size ≤ q2 := by
    have h1 : va_A [(q, (.inr (5, [.null, .int 0, .int 0]) : va_E))] H1.size q2 := hD3.2 1 (q2, .inl (cc 0, 300, .inl (fun _ => 0))) rfl
    rcases h1 with ⟨k, e1, h1⟩ | h1
    · have hk0 : k < 1 := (List.getElem?_eq_some_iff.mp h1).1
      have hk1 : k = 0 := by omega
      subst hk1
      have h2 : q = q2 := by
        have h3 : some (q, (.inr (5, [.null, .int 0, .int 0]) : va_E)) = some (q2, e1) := h1
        exact congrArg Prod.fst (Option.some.inj h3)
      rw [← h2]; exact hqn
    · exact Nat.le_trans hS1.1 h1
  have hne : ∀ o, o ∈ L → o ≠ i ∧ o ≠ i + 1 := fun o ho => ⟨fun z => f3 (z ▸ ho), fun z => f4 (z ▸ ho)⟩
  have hw0 : uW cc L A J I R ++ [(q, (.inr (5, [.ref q2, .int 0, .int 0]) : va_E)), (q2, .inl (cc 0, 300, .inl (fun _ => 0)))] = uW cc (L ++ [i, i + 1]) (va_up (va_up A i q) (i + 1) q2) J (uz I i) R := by
    simp only [uW, gW, List.map_append, List.map_cons, List.map_nil]
    congr 1
    · apply List.map_congr_left
      intro o ho
      rw [uE_grow ⟨f1, f2⟩ (hne o ho).1 (hne o ho).2 (f5 o)]
      simp [va_up, (hne o ho).1, (hne o ho).2]
    · have hii : ¬ i = i + 1 := by omega
      rw [uE_obj f1 rfl, uE_byt f2 rfl]
      simp [va_up, uz, lay, fv, lnB, hii]
  rw [hw0] at hP4
  have hnd : (L ++ [i, i + 1]).Nodup := by
    rw [List.nodup_append]
    refine ⟨hFx.1, by simp, fun a ha b hb => ?_⟩
    simp at hb
    rcases hb with rfl | rfl
    · exact (hne a ha).1
    · exact (hne a ha).2
  rw [hw0] at hD4
  have hEx : uEx s.heap.size L A (L ++ [i, i + 1]) (va_up (va_up A i q) (i + 1) q2) := by
    refine ⟨fun o ho o' ho' he => ?_, ⟨hnd, fun o h1 => List.mem_append_left _ (hFx.2 o h1)⟩, fun o ho => ⟨List.mem_append_left _ ho, by simp [va_up, (hne o ho).1, (hne o ho).2]⟩, fun o ho hn => ?_⟩
    · obtain ⟨k, hk0, hk1⟩ := gW_at (A := va_up (va_up A i q) (i + 1) q2) (E := uE cc (va_up (va_up A i q) (i + 1) q2) J (uz I i) R) ho
      obtain ⟨k', hk0', hk1'⟩ := gW_at (A := va_up (va_up A i q) (i + 1) q2) (E := uE cc (va_up (va_up A i q) (i + 1) q2) J (uz I i) R) ho'
      have hkk := hD4.1 k k' _ _ hk1 hk1' he
      subst hkk
      exact Option.some.inj (hk0.symm.trans hk0')
    · simp only [List.mem_append, List.mem_cons, List.not_mem_nil, or_false] at ho
      rcases ho with ho | rfl | rfl
      · exact absurd ho hn
      · have hii : ¬ o = o + 1 := by omega
        simp [va_up, hii, hqn]
      · simp [va_up, hq2n]
  have hAi : va_up (va_up A i q) (i + 1) q2 i = q := by
    have hii : ¬ i = i + 1 := by omega
    simp [va_up, hii]
  have kk' := kk (va_up (va_up A i q) (i + 1) q2) (uz I i) rfl hEx (hE.tr hEx (Nat.le_refl _)) (X0.grow hEx) H2 locs2 ⟨hP4, hS2.mono hEx.sup⟩
  rw [hAi] at kk'
  exact kk'
end U
