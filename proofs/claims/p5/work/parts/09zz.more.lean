/-! More rows: a store into an array of references, a private static of the host. -/
section U
variable {p : Program} {l : Launch} {e : Env} {Rm : Room} {s : State} {m : MethodId} {args : Array Value} {below : List Frame} {meth : Method} {c : Code} {H : Heap} {locs : List Loc} {cells slots : Nat} {Q : State → Prop}
variable {cb : ByteArray} {pc nL : Nat} {ls : Array Slot} {rest st : List Value} {own : String} {D : va_G} {cc : Nat → ClassId} {L : List Nat} {A : Nat → Nat} {J : Nat → Int64} {t16 t32 : Nat} {I : UI} {R : UR}
theorem u_aast (X : uX p s m args c cb nL own D cc L A t16 t32) (V : uV s D cc L A J I R H locs) {o κ n j : Nat} (ho : o ∈ L) (hk : kd o = κ) (hr : κ = 10 ∨ κ = 11) (hn : lnR κ = n) (hj : isSf L j) {i : Int32} (hin : vp_in i n) (hdg : decode cb pc = .ok (.aastore, 1))
    (kk : ∀ R1 : UR, R1 = r2 R o i.toNatClampNeg (some j) → ∀ (H : Heap) (locs : List Loc), uV s D cc L A J I R1 H locs → W p l e Rm s m args below meth c H locs cells slots Q (F0 m (pc + 1) ls rest)) : W p l e Rm s m args below meth c H locs cells slots Q (F0 m pc ls (.ref (A j) :: .int i :: .ref (A o) :: rest)) := by
  have hD := X.dd (P := uA L A s.heap.size) uA_in (E := uE cc A J I R)
  obtain ⟨hx, hb, -, hown, hts, hK, -, hFx, -⟩ := X
  obtain ⟨q, hq0, hq⟩ := gW_at (A := A) (E := uE cc A J I R) ho
  obtain ⟨qj, hj0, hj1⟩ := gW_at (A := A) (E := uE cc A J I R) hj.1
  rw [uE_rar hk hr, hn] at hq
  rw [uE_obj hj.2.1 rfl] at hj1
  refine va_astq (r := (R_Sf, T_Sf, 3)) hx hb hK V.1 hD V.2 q 3 qj 5 hq rfl hj1 rfl hin hdg (fun H1 locs1 hP1 _ hS1 => kk _ rfl H1 locs1 ⟨?_, hS1⟩)
  rw [← uW_setR (k := i.toNatClampNeg) (x := some j) hFx.1 hq0 (by
    rw [uE_rar hk hr, hn])]
  have e1 : (fun k => Option.map A (r2 R o i.toNatClampNeg (some j) o k)) = va_up (fun k => Option.map A (R o k)) i.toNatClampNeg (some (A j)) := by
    funext k
    by_cases hk2 : k = i.toNatClampNeg
    · subst hk2; simp [r2, va_up]
    · simp [r2, va_up, hk2]
  rw [e1]
  exact hP1
theorem u_cSiN (X : uX p s m args c cb nL own D cc L A t16 t32) (V : uV s D cc L A J I R H locs) {index n maxL : Nat} {y : MethodName} {host : String} {bytes : ByteArray} {ty : FieldType} {rm : Room} {As : List Value} {Q0 : Int32 → UI → UR → Prop} (S : (Cond.initialized y.cls ∈ tb ∧ Cond.static y ∈ tb ∧ Cond.code y bytes maxL (some ty) ∈ tb) ∧ Cond.methodLinkNest own index y host ∈ nw ∧ (y.cls ≠ "java/lang/invoke/MethodHandle" ∧ y.cls ≠ "java/lang/invoke/VarHandle" ∧ (parseMethodDescriptor y.desc).map (fun d => d.parameters.length) = some n))
    (hM : uMi l y (.code y bytes maxL (some ty)) rm As D cc L A J t16 t32 I R Q0) (hrm : rOk rm Rm maxL) (hn : As.length = n) (hls : ls.size = nL) (hst : st = As.reverse ++ rest) (hw : (rest.map fun v => v.category).sum ≤ 8) (hdg : decode cb pc = .ok (.invokestatic index, 3)) (hcs : cells ≤ Rm.cells ∧ slots ≤ Rm.slots)
    (kk : ∀ (r : Int32) (I1 : UI) (R1 : UR), Q0 r I1 R1 → ∀ (H : Heap) (locs : List Loc), uV s D cc L A J I1 R1 H locs → W p l e Rm s m args below meth c H locs cells slots Q (F0 m (pc + 3) ls (.int r :: rest))) : W p l e Rm s m args below meth c H locs cells slots Q (F0 m pc ls st) := by
  have X0 := X
  obtain ⟨hx, hb, hml, hown, hts, hK, hD, hFx, hT⟩ := X
  obtain ⟨⟨s1, s2, s3⟩, s4, s6⟩ := S
  refine va_calli (va_runSN (Ts := tb) ⟨hx, hb, hml, hown, hts⟩ (hM H.size) ⟨va_cnB n hts (fun w hw => ?_) rfl hrm.1 hrm.2.1 (hT.2.1 _ s4) (hts _ s1) s6 ⟨hrm.2.2.1, hrm.2.2.2⟩, hts _ s2, trivial⟩ ⟨uPre_blind, uPre_of X0 V _⟩ rfl hn hls hst (lv_room hw) hdg hcs) V.2 (fun q _ h => uA_le V.2.1 q h) (fun q h => uA_le V.2.1 q h) (fun r u t H1 locs1 ht hvm hq hB hz hke hS1 => ?_)
  · rcases List.mem_cons.mp hw with rfl | hw
    · exact ⟨s3, tb_good s3⟩
    · exact ⟨hw, tb_good hw⟩
  · exact kk r u.1 u.2 hq H1 locs1 ⟨by rw [← ht]; exact hB, hS1⟩
end U
