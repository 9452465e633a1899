/-! More rows: references that may be null, Math.min, System.arraycopy of bytes. -/
section U
variable {p : Program} {l : Launch} {e : Env} {Rm : Room} {s : State} {m : MethodId} {args : Array Value} {below : List Frame} {meth : Method} {c : Code} {H : Heap} {locs : List Loc} {cells slots : Nat} {Q : State → Prop}
variable {cb : ByteArray} {pc nL : Nat} {ls : Array Slot} {rest st : List Value} {own : String} {D : va_G} {cc : Nat → ClassId} {L : List Nat} {A : Nat → Nat} {J : Nat → Int64} {t16 t32 : Nat} {I : UI} {R : UR}
theorem u_topo {x : Option Nat} (k : ∀ y : Option Nat, y = x → W p l e Rm s m args below meth c H locs cells slots Q (F0 m pc ls (va_rf (Option.map A y) :: rest))) : W p l e Rm s m args below meth c H locs cells slots Q (F0 m pc ls (va_rf (Option.map A x) :: rest)) := k x rfl
theorem u_aload_n (hx : p.tables.exec = Jvm.exec) (hb : c.code = cb) {k : Fin 4} {i : Nat} {z : Option Nat} (hdg : decode cb pc = .ok (.aload_n k, 1)) (hi : (k : Nat) = i) (hl : ls[i]? = some (.val (va_rf (Option.map A z))))
    (kk : W p l e Rm s m args below meth c H locs cells slots Q (F0 m (pc + 1) ls (va_rf (Option.map A z) :: rest))) : W p l e Rm s m args below meth c H locs cells slots Q (F0 m pc ls rest) := by
  cases z with
  | none => exact lv_aload_nN hx hb hdg hi hl kk
  | some a => exact lv_aload_n hx hb hdg hi hl kk
theorem u_aload (hx : p.tables.exec = Jvm.exec) (hb : c.code = cb) {i : Nat} {z : Option Nat} (hdg : decode cb pc = .ok (.aload i, 2)) (hl : ls[i]? = some (.val (va_rf (Option.map A z))))
    (kk : W p l e Rm s m args below meth c H locs cells slots Q (F0 m (pc + 2) ls (va_rf (Option.map A z) :: rest))) : W p l e Rm s m args below meth c H locs cells slots Q (F0 m pc ls rest) := by
  cases z with
  | none => exact lv_aloadN hx hb hdg hl kk
  | some a => exact lv_aload hx hb hdg hl kk
theorem u_astore_n (hx : p.tables.exec = Jvm.exec) (hb : c.code = cb) {k : Fin 4} {i : Nat} {z : Option Nat} {lv lv' : List (Nat × Value)} (hdg : decode cb pc = .ok (.astore_n k, 1)) (hi : (k : Nat) = i) (h : lv_has ls nL lv) (hn : i < nL) (hl : (i, va_rf (Option.map A z)) :: lv.filter (fun q => !(q.1 == i) && !(q.1 + 1 == i && q.2.category == 2)) = lv')
    (kk : ∀ ls' : Array Slot, lv_has ls' nL lv' → W p l e Rm s m args below meth c H locs cells slots Q (F0 m (pc + 1) ls' rest)) : W p l e Rm s m args below meth c H locs cells slots Q (F0 m pc ls (va_rf (Option.map A z) :: rest)) := by
  cases z with
  | none => exact lv_astore_nN hx hb hdg hi h hn hl kk
  | some a => exact lv_astore_n hx hb hdg hi h hn hl kk
theorem u_astore (hx : p.tables.exec = Jvm.exec) (hb : c.code = cb) {i : Nat} {z : Option Nat} {lv lv' : List (Nat × Value)} (hdg : decode cb pc = .ok (.astore i, 2)) (h : lv_has ls nL lv) (hn : i < nL) (hl : (i, va_rf (Option.map A z)) :: lv.filter (fun q => !(q.1 == i) && !(q.1 + 1 == i && q.2.category == 2)) = lv')
    (kk : ∀ ls' : Array Slot, lv_has ls' nL lv' → W p l e Rm s m args below meth c H locs cells slots Q (F0 m (pc + 2) ls' rest)) : W p l e Rm s m args below meth c H locs cells slots Q (F0 m pc ls (va_rf (Option.map A z) :: rest)) := by
  cases z with
  | none => exact lv_astoreN hx hb hdg h hn hl kk
  | some a => exact lv_astore hx hb hdg h hn hl kk
theorem u_aald (X : uX p s m args c cb nL own D cc L A t16 t32) (V : uV s D cc L A J I R H locs) {o κ n : Nat} (ho : o ∈ L) (hk : kd o = κ) (hr : κ = 10 ∨ κ = 11) (hn : lnR κ = n) {i : Int32} (hin : vp_in i n) (hdg : decode cb pc = .ok (.aaload, 1))
    (kk : ∀ z : Option Nat, z = R o i.toNatClampNeg → W p l e Rm s m args below meth c H locs cells slots Q (F0 m (pc + 1) ls (va_rf (Option.map A z) :: rest))) : W p l e Rm s m args below meth c H locs cells slots Q (F0 m pc ls (.int i :: .ref (A o) :: rest)) := by
  obtain ⟨hx, hb, -, hown, hts, hK, -⟩ := X
  obtain ⟨q, -, hq⟩ := gW_at (A := A) (E := uE cc A J I R) ho
  rw [uE_rar hk hr, hn] at hq
  exact va_aldq hx hb hK V.1 q 3 hq rfl hin hdg (kk _ rfl)
theorem u_min (X : uX p s m args c cb nL own D cc L A t16 t32) {index : Nat} (S : Cond.methodLink own index Lib.Math.min.name ∈ tb ∧ Cond.static Lib.Math.min.name ∈ tb ∧ Cond.initialized "java/lang/Math" ∈ tb ∧ Cond.code Lib.Math.min.name Lib.Math.min.code 2 (some .int) ∈ tb) (hls : ls.size = nL) (hf : 1 ≤ Rm.frames) (hlo : (rest.map fun v => v.category).sum + 13 ≤ Rm.locals) (hcs : cells ≤ Rm.cells ∧ slots ≤ Rm.slots) {x y : Int32} (hdg : decode cb pc = .ok (.invokestatic index, 3))
    (kk : W p l e Rm s m args below meth c H locs cells slots Q (F0 m (pc + 3) ls (.int (if y < x then y else x) :: rest))) : W p l e Rm s m args below meth c H locs cells slots Q (F0 m pc ls (.int y :: .int x :: rest)) := by
  obtain ⟨hx, hb, hml, hown, hts, hK, -⟩ := X
  exact va_mmin hx hb (hml.trans hls.symm) hown (hts _ S.1) (hts _ S.2.1) (hts _ S.2.2.1) (hts _ S.2.2.2) hf hlo hcs.1 hcs.2 hdg kk
def u2c (I : UI) (o sp dp n : Nat) : UI := va_up I o (va_cpy (I o) (I o) sp dp n)
theorem u_copyb (X : uX p s m args c cb nL own D cc L A t16 t32) (V : uV s D cc L A J I R H locs) {index o κ n : Nat} (S : Cond.methodLink own index arraycopyName ∈ tb ∧ Cond.native arraycopyName ∈ tb ∧ Cond.static arraycopyName ∈ tb ∧ Cond.initialized "java/lang/System" ∈ tb) (ho : o ∈ L) (hk : kd o = κ) (hB : isB κ = true) (hn : lnB κ = n) {sp dp k : Int32}
    (hc : (¬ sp < 0 ∧ ¬ dp < 0 ∧ ¬ k < 0) ∧ (sp.toNatClampNeg + k.toNatClampNeg ≤ n ∧ dp.toNatClampNeg + k.toNatClampNeg ≤ n) ∧ ∀ i, i < k.toNatClampNeg → fits .byte (.int (I o (sp.toNatClampNeg + i))) = true) (hls : ls.size = nL) (hf : 1 ≤ Rm.frames) (hlo : (rest.map fun v => v.category).sum + (nativeFrameWords "java/lang/System" "arraycopy" 5 + 11) ≤ Rm.locals) (hdg : decode cb pc = .ok (.invokestatic index, 3))
    (kk : ∀ I1 : UI, I1 = u2c I o sp.toNatClampNeg dp.toNatClampNeg k.toNatClampNeg → ∀ (H : Heap) (locs : List Loc), uV s D cc L A J I1 R H locs → W p l e Rm s m args below meth c H locs cells slots Q (F0 m (pc + 3) ls rest)) : W p l e Rm s m args below meth c H locs cells slots Q (F0 m pc ls (.int k :: .int dp :: .ref (A o) :: .int sp :: .ref (A o) :: rest)) := by
  have hD := X.dd (P := uA L A s.heap.size) uA_in (E := uE cc A J I R)
  obtain ⟨hx, hb, hml, hown, hts, hK, -, hFx, -⟩ := X
  obtain ⟨q, hq0, hq⟩ := gW_at (A := A) (E := uE cc A J I R) ho
  rw [uE_byt hk hB, hn] at hq
  obtain ⟨⟨c1, c2, c3⟩, ⟨c4, c5⟩, c6⟩ := hc
  refine va_copyi hx hb (hml.trans hls.symm) hown (hts _ S.1) (hts _ S.2.1) (hts _ S.2.2.1) (hts _ S.2.2.2) hK V.1 hD V.2 q q 0 0 hq hq rfl rfl rfl c1 c2 c3 c4 c5 c6 hf hlo hdg (fun H1 locs1 hP1 _ hS1 => kk _ rfl H1 locs1 ⟨?_, hS1⟩)
  have hg : (uW cc L A J I R).set q (A o, .inl (cc 0, n, .inl (va_cpy (I o) (I o) sp.toNatClampNeg dp.toNatClampNeg k.toNatClampNeg))) = uW cc L A J (u2c I o sp.toNatClampNeg dp.toNatClampNeg k.toNatClampNeg) R := by
    rw [gW_set hFx.1 hq0]
    refine gW_congr fun o' _ => ?_
    by_cases h : o' = o
    · subst h; rw [va_up_self, uE_byt hk hB, hn]; simp [u2c, va_up]
    · rw [va_up_ne _ _ h]; exact uE_congr (by simp [u2c, va_up, h]) rfl
  rw [← hg]
  exact hP1
end U
