/-! What the class keeps: Sender, Receiver. -/
theorem w2' {I0 I J : UI} {k : Nat} {x : Int32} (c : cC I0 I) (h : k ≠ 1 ∧ k ≠ 9) (e : J = u2 I 2 k x) : cC I0 J := by rw [e]; exact w2 c h
theorem w3' {I0 I J : UI} {k : Nat} {x : Int32} (c : cC I0 I) (e : J = u2 I 3 k x) : cC I0 J := by rw [e]; exact w3 c
/-- the references -/
def cR (L : List Nat) (R : UR) : Prop :=
  (∀ i, R 3 2 = some i → isSf L i) ∧ (∀ k i, k < 4 → R 18 k = some i → i = 20 + 2 * k ∧ isSf L i) ∧ (∀ k i, k < 26 → R 19 k = some i → i = 28 + 2 * k ∧ isSf L i) ∧ (∀ o k i, R o k = some i → i ∈ L) ∧
  (∀ k, k < 4 → R 18 k = none → 20 + 2 * k ∉ L ∧ 21 + 2 * k ∉ L) ∧ (∀ k, k < 26 → R 19 k = none → 28 + 2 * k ∉ L ∧ 29 + 2 * k ∉ L)
theorem cl_lt {x : Int32} {M : Int32} {n : Nat} (hM : M.toInt = n) (h0 : 0 ≤ x) (h1 : x < M) : x.toNatClampNeg < n := by
  rw [ti_clamp]; rw [Int32.le_iff_toInt_le] at h0; rw [Int32.lt_iff_toInt_lt, hM] at h1
  have a0 : (0:Int32).toInt = 0 := rfl
  omega
theorem s_fileAt {I0 I : UI} {R : UR} {L : List Nat} {x : Int32} {Q : Option Nat → UI → UR → Prop} (c : cC I0 I) (r : cR L R) (h0 : Q none I R) (h1 : ∀ i, isSf L i → Q (some i) I R) : wp_Se_fileAt L I R x Q := by
  unfold wp_Se_fileAt
  have b := (r2' c).1
  refine ⟨fun _ => h0, fun a1 => ⟨fun _ => h0, fun a2 => ⟨vp_i (M := 4) rfl (by grind) (by grind), fun z e => ?_⟩⟩⟩
  cases z with
  | none => exact h0
  | some i => exact h1 i (r.2.1 _ i (cl_lt (M := 4) rfl (by grind) (by grind)) e.symm).2
theorem s_hasFileAtHand {I : UI} {R : UR} {L : List Nat} {Q : Int32 → UI → UR → Prop} (hQ : ∀ r, Q r I R) : wp_Se_hasFileAtHand L I R Q := by
  unfold wp_Se_hasFileAtHand wp_Se_hasFileAtHand_L24
  grind [z0, z1]
theorem s_sendForState {I0 I : UI} {R : UR} {L : List Nat} {Q : UI → UR → Prop} (c : cC I0 I) (r : cR L R) (hQ : ∀ I', cC I0 I' → Q I' R) : wp_Se_sendForState L I R Q := by
  have hw : ((8 : Nat) = 8 ∧ (4 : Nat) = 4) ∨ ((8 : Nat) = 10 ∧ (4 : Nat) = 6) := by decide
  have hz := (r2' c).2
  have key : ∀ z, (∀ i, z = some i → isSf L i) → wp_Se_sendForState_L164 L Q I R z := by
    intro z h
    unfold wp_Se_sendForState_L164
    exact ⟨fun _ => hQ _ c, fun _ => ⟨fun _ => hQ _ c, fun i e => ⟨h i e, s_Wr_bytesHeader c hw hz hQ⟩⟩⟩
  have ka : wp_Wr_hexHeader I R 8 4 8 0 (fun I20 R21 => Q I20 R21) := s_Wr_hexHeader c hw hQ
  have kb : wp_Wr_hexHeader I R 8 4 0 0 (fun I20 R21 => Q I20 R21) := s_Wr_hexHeader c hw hQ
  unfold wp_Se_sendForState
  refine s_fileAt c r ?_ (fun i hi => ?_)
  · exact ⟨fun _ => ⟨fun _ => ⟨fun _ => key _ (fun i e => by cases e), fun _ => ⟨fun _ => key _ (fun i e => by cases e), fun i e => by cases e⟩⟩, fun _ => ka⟩, fun _ => kb⟩
  · refine ⟨fun _ => ⟨fun _ => ⟨fun _ => key _ (fun j e => by cases e; exact hi), fun _ => ⟨fun e => (by cases e), fun j e => ?_⟩⟩, fun _ => ka⟩, fun _ => kb⟩
    cases e
    exact s_Wr_bytesHeader c hw hz (fun I1 c1 => s_Wr_beginPacket c1 (by decide) (fun I2 c2 => ⟨hi, s_Wr_packetByte c2 hw (fun I3 c3 => s_Wr_packetByte c3 hw (fun I4 c4 => s_Wr_packetByte c4 hw (fun I5 c5 => s_Wr_endPacket c5 hw hQ)))⟩))
theorem s_sendPacket {I0 I : UI} {R : UR} {L : List Nat} {q : Nat} {Q : UI → UR → Prop} (c : cC I0 I) (hq : isSf L q) (hQ : ∀ I', cC I0 I' → Q I' R) : wp_Se_sendPacket L I R q Q := by
  have hw : ((8 : Nat) = 8 ∧ (4 : Nat) = 4) ∨ ((8 : Nat) = 10 ∧ (4 : Nat) = 6) := by decide
  have key : ∀ (n : Nat) (I : UI) (v x : Int32), cC I0 I → v.toInt - x.toInt < n → wp_Se_sendPacket_L29 L q Q (n + 1) I R v x := by
    intro n
    induction n with
    | zero =>
      intro I v x c h
      rw [wp_Se_sendPacket_L29]
      have hle : v ≤ x := by rw [Int32.le_iff_toInt_le]; omega
      refine ⟨fun _ I5 e5 => ?_, fun h1 => absurd hle h1⟩
      have c5 := w2' c (by decide) e5
      exact ⟨fun _ => s_Wr_endPacket c5 hw (fun I6 c6 I8 e8 => hQ _ (w2' c6 (by decide) e8)), fun _ => s_Wr_endPacket c5 hw hQ⟩
    | succ n ih =>
      intro I v x c h
      rw [wp_Se_sendPacket_L29]
      refine ⟨fun _ I5 e5 => ?_, fun h1 => ?_⟩
      · have c5 := w2' c (by decide) e5
        exact ⟨fun _ => s_Wr_endPacket c5 hw (fun I6 c6 I8 e8 => hQ _ (w2' c6 (by decide) e8)), fun _ => s_Wr_endPacket c5 hw hQ⟩
      · refine s_Sf_byteAt c hq.2.1 (fun r => s_Wr_packetByte c hw (fun I14 c14 v16 e16 => ?_))
        have hx : x < v := by rw [Int32.lt_iff_toInt_lt]; rw [Int32.le_iff_toInt_le] at h1; omega
        refine ih I14 v v16 c14 ?_
        rw [e16, ti_succ hx]; omega
  unfold wp_Se_sendPacket
  intro v1 e1
  refine s_Wr_beginPacket c (by decide) (fun I2 c2 v4 e4 => ⟨(v1.toInt - v4.toInt).toNat + 1 + 1, key _ _ _ _ c2 (by omega)⟩)
theorem s_sendPackets {I0 I : UI} {R : UR} {L : List Nat} {Q : UI → UR → Prop} (c : cC I0 I) (r : cR L R) (hQ : ∀ I', cC I0 I' → Q I' R) : wp_Se_sendPackets L I R Q := by
  have hw : ((8 : Nat) = 8 ∧ (4 : Nat) = 4) ∨ ((8 : Nat) = 10 ∧ (4 : Nat) = 6) := by decide
  have k1 : ∀ I, cC I0 I → wp_Se_sendPackets_L81 L Q I R := by
    intro I c
    unfold wp_Se_sendPackets_L81
    exact ⟨fun _ => hQ _ c, fun _ => s_sendForState c r hQ⟩
  have key : ∀ (n : Nat) (I : UI) (i : Nat) (x : Int32), cC I0 I → isSf L i → 0 ≤ x → x ≤ 4 → 4 < x.toInt + n → wp_Se_sendPackets_L57 L Q n I R (some i) x := by
    intro n
    induction n with
    | zero => intro I i x c hi h0 h1 h2; exact (cnt0 (n := 0) (M := 4) rfl h1 h2).elim
    | succ n ih =>
      intro I i x c hi h0 h1 h2
      rw [wp_Se_sendPackets_L57]
      refine ⟨fun _ => k1 I c, fun h4 => ⟨fun _ => k1 I c, fun _ => ⟨i, rfl, hi, s_sendPacket c hi (fun I8 c8 v e => ?_)⟩⟩⟩
      rw [e]
      exact ih I8 i (x + 1) c8 hi (by grind) (by grind) (cnt1 (y := 4) (by grind) h2)
  have k2 : ∀ I i, cC I0 I → isSf L i → wp_Se_sendPackets_L55 L Q I R (some i) := by
    intro I i c hi
    unfold wp_Se_sendPackets_L55
    exact ⟨5, key 5 I i 0 c hi (by decide) (by decide) (by decide)⟩
  unfold wp_Se_sendPackets
  refine s_fileAt c r ?_ (fun i hi => ?_)
  · exact ⟨fun _ => hQ _ c, fun _ => ⟨fun _ => hQ _ c, fun i e => by cases e⟩⟩
  · refine ⟨fun _ => hQ _ c, fun _ => ⟨fun e => (by cases e), fun j e => ?_⟩⟩
    cases e
    exact ⟨fun _ => k2 _ _ c hi, fun _ => s_Wr_bytesHeader c hw (r2' c).2 (fun I11 c11 => ⟨z0, fun I13 e13 => k2 _ _ (w2' c11 (by decide) e13) hi⟩)⟩
theorem s_goToNextFile {I0 I : UI} {R : UR} {L : List Nat} {Q : UI → UR → Prop} (c : cC I0 I) (hQ : ∀ I', cC I0 I' → Q I' R) : wp_Se_goToNextFile L I R Q := by
  have key : ∀ z, wp_Se_goToNextFile_L18 L Q I R z := by
    intro z
    unfold wp_Se_goToNextFile_L18
    intro I1 e1
    have c1 := w2' c (by decide) e1
    exact ⟨fun _ I2 e2 => hQ _ (w2' c1 (by decide) e2), fun _ I3 e3 I4 e4 => hQ _ (w2' (w2' c1 (by decide) e3) (by decide) e4)⟩
  unfold wp_Se_goToNextFile
  exact ⟨fun _ => key _, fun _ => key _⟩
theorem s_goToPlace {I0 I : UI} {R : UR} {L : List Nat} {x : Int32} {Q : UI → UR → Prop} (c : cC I0 I) (r : cR L R) (hQ : ∀ I', cC I0 I' → Q I' R) : wp_Se_goToPlace L I R x Q := by
  unfold wp_Se_goToPlace
  refine s_fileAt c r (s_hasFileAtHand (fun q => ?_)) (fun i hi => s_hasFileAtHand (fun q => ?_))
  · exact ⟨fun _ => hQ _ c, fun _ => ⟨fun _ => hQ _ c, fun i e => by cases e⟩⟩
  · refine ⟨fun _ => hQ _ c, fun _ => ⟨fun e => (by cases e), fun j e => ?_⟩⟩
    cases e
    exact ⟨fun _ => hQ _ c, fun _ => ⟨hi, fun _ => hQ _ c, fun _ I8 e8 I9 e9 => ⟨z1, fun I10 e10 => hQ _ (w2' (w2' (w2' c (by decide) e8) (by decide) e9) (by decide) e10)⟩⟩⟩
theorem s_leave {I0 I : UI} {R : UR} {L : List Nat} {Q : UI → UR → Prop} (c : cC I0 I) (hQ : ∀ I', cC I0 I' → Q I' R) : wp_Se_leave L I R Q := by
  unfold wp_Se_leave
  exact ⟨fun _ => hQ _ c, fun _ => s_Pi_add c (by decide) (fun I1 c1 => s_Pi_add c1 (by decide) (fun I3 c3 I5 e5 => hQ _ (w2' c3 (by decide) e5)))⟩
theorem s_seTakeHeader {I0 I : UI} {R : UR} {L : List Nat} {Q : UI → UR → Prop} (c : cC I0 I) (r : cR L R) (hQ : ∀ I', cC I0 I' → Q I' R) : wp_Se_takeHeader L I R Q := by
  have key : ∀ I, cC I0 I → wp_Se_takeHeader_L93 L Q I R := by
    intro I c
    unfold wp_Se_takeHeader_L93
    exact s_goToNextFile c (fun I3 c3 => s_sendForState c3 r hQ)
  have k2 : ∀ z, zb z → wp_Se_takeHeader_L75 L Q I R z := by
    intro z hz
    unfold wp_Se_takeHeader_L75
    refine ⟨hz, fun I2 e2 => ?_⟩
    have c2 : cC I0 I2 := by rw [e2]; exact w29 c hz
    exact ⟨fun _ => key _ c2, fun _ => ⟨fun _ => hQ _ c2, fun _ => key _ c2⟩⟩
  have k3 : wp_Se_hasFileAtHand L I R (fun r9 I7 R8 => ((r9 = 0 → Q I7 R8) ∧ (¬ r9 = 0 → wp_Se_goToNextFile L I7 R8 (fun I10 R11 => wp_Se_sendForState L I10 R11 (fun I12 R13 => Q I12 R13))))) :=
    s_hasFileAtHand (fun q => ⟨fun _ => hQ _ c, fun _ => s_goToNextFile c (fun I3 c3 => s_sendForState c3 r hQ)⟩)
  have k4 : wp_Se_sendForState L I R (fun I14 R15 => Q I14 R15) := s_sendForState c r hQ
  have k5 : wp_Se_leave L I R (fun I14 R15 => Q I14 R15) := s_leave c hQ
  have k6 : wp_Se_goToPlace L I R (I 12 4) (fun I14 R15 => Q I14 R15) := s_goToPlace c r hQ
  have k0 := hQ _ c
  unfold wp_Se_takeHeader
  intro v1 _
  exact ⟨fun _ => ⟨fun _ => k2 _ z0, fun _ => k2 _ z1⟩, fun _ => ⟨fun _ => k0, fun _ => ⟨fun _ => k0, fun _ => ⟨fun _ => k0, fun _ => ⟨fun _ => k3, fun _ => ⟨fun _ => k4, fun _ => ⟨fun _ => k0, fun _ => ⟨fun _ => k5, fun _ => ⟨fun _ => k6, fun _ => k0⟩⟩⟩⟩⟩⟩⟩⟩⟩
theorem s_seBegin {I0 I : UI} {R : UR} {L : List Nat} {x : Int32} {Q : UI → UR → Prop} (c : cC I0 I) (r : cR L R) (hQ : ∀ I', cC I0 I' → Q I' R) : wp_Se_begin L I R x Q := by
  unfold wp_Se_begin
  intro I1 e1
  have c1 : cC I0 I1 := by rw [e1]; exact wpi c (by decide) (by decide)
  refine s_Rd_goOutside c1 (by decide) (fun I2 c2 I4 e4 I5 e5 I6 e6 I7 e7 => ⟨z0, fun I8 e8 => s_sendForState ?_ r hQ⟩)
  rw [e8]; exact w29 (w2' (w2' (w2' (w2' c2 (by decide) e4) (by decide) e5) (by decide) e6) (by decide) e7) z0
theorem s_seReadAll {I0 I : UI} {R : UR} {L : List Nat} {q : Nat} {Q : UI → UR → Prop} (c : cC I0 I) (hq : q = 4 ∨ q = 6) (r : cR L R) (hQ : ∀ I', cC I0 I' → Q I' R) : wp_Se_readAll L I R q Q := by
  have key : ∀ (n : Nat) (I : UI) (v x : Int32), cC I0 I → 0 ≤ x → x ≤ v → v.toInt - x.toInt < n → wp_Se_readAll_L7 L q Q n I R v x := by
    intro n
    induction n with
    | zero => intro I v x c h0 h1 h2; rw [Int32.le_iff_toInt_le] at h1; omega
    | succ n ih =>
      intro I v x c h0 h1 h2
      rw [wp_Se_readAll_L7]
      refine ⟨fun _ => s_Pi_drop c hq (fun r' I2 c2 => hQ _ c2), fun h3 => s_Pi_byteAt c hq (fun r7 => s_Rd_take c (by decide) (fun r10 I8 c8 => ?_))⟩
      have hx : x < v := by grind
      have k : ∀ I9, cC I0 I9 → wp_Se_readAll_L32 L q Q (fun I R x2 x3 => wp_Se_readAll_L7 L q Q n I R x2 x3) I9 R v x := by
        intro I9 c9
        unfold wp_Se_readAll_L32
        intro v11 e11
        rw [e11]
        exact ih I9 v (x + 1) c9 (by grind) (by grind) (by rw [ti_succ hx]; omega)
      exact ⟨fun _ => k _ c8, fun _ => s_seTakeHeader c8 r (fun I12 c12 => k _ c12)⟩
  unfold wp_Se_readAll
  intro v1 e1
  have h4 := r4 c hq
  exact ⟨v1.toInt.toNat + 1, key _ _ _ _ c (by decide) (by rw [e1]; exact h4.1) (by rw [show (0 : Int32).toInt = 0 from rfl]; omega)⟩
theorem s_seSendLate {I0 I : UI} {R : UR} {L : List Nat} {Q : UI → UR → Prop} (c : cC I0 I) (r : cR L R) (hQ : ∀ I', cC I0 I' → Q I' R) : wp_Se_sendLate L I R Q := by
  unfold wp_Se_sendLate
  exact ⟨fun _ => s_sendForState c r hQ, fun _ => ⟨z1, fun I3 e3 => s_sendPackets (w2' c (by decide) e3) r hQ⟩⟩
theorem s_numberFor {I : UI} {R : UR} {L : List Nat} {x : Int32} {Q : Int32 → UI → UR → Prop} (r : cR L R) (hQ : ∀ v, Q v I R) : wp_Rc_numberFor L I R x Q := by
  have key : ∀ i, R 3 2 = some i → wp_Rc_numberFor_L37 L Q I R := fun i e => ⟨i, e, r.1 i e, hQ _⟩
  unfold wp_Rc_numberFor
  exact ⟨fun _ z e => ⟨fun _ => hQ _, fun i h => ⟨fun _ => key i (e ▸ h), fun _ => ⟨fun _ => hQ _, fun _ => key i (e ▸ h)⟩⟩⟩, fun _ => ⟨fun _ => hQ _, fun _ => hQ _⟩⟩
theorem s_answer {I0 I : UI} {R : UR} {L : List Nat} {x : Int32} {Q : UI → UR → Prop} (c : cC I0 I) (r : cR L R) (hQ : ∀ I', cC I0 I' → Q I' R) : wp_Rc_answer L I R x Q := by
  unfold wp_Rc_answer
  exact s_numberFor r (fun v => s_Wr_hexHeader c (by decide) hQ)
theorem s_takeContent {I0 I : UI} {R : UR} {L : List Nat} {Q : UI → UR → Prop} (c : cC I0 I) (r : cR L R) (hQ : ∀ I', cC I0 I' → Q I' R) : wp_Rc_takeContent L I R Q := by
  have k1 : ∀ I, cC I0 I → wp_Rc_takeContent_L67 L Q I R := fun I c => by unfold wp_Rc_takeContent_L67; exact s_answer c r hQ
  unfold wp_Rc_takeContent
  refine fun z e => ⟨fun _ => hQ _ c, fun i h => ?_⟩
  have hi : R 3 2 = some i := e ▸ h
  have hs := r.1 i hi
  have key : ∀ (n : Nat) (I : UI) (x : Int32), cC I0 I → 0 ≤ x → x ≤ 64 → 64 < x.toInt + n → wp_Rc_takeContent_L10 L Q n I R x := by
    intro n
    induction n with
    | zero => intro I x c h0 h1 h2; exact (cnt0 (n := 0) (M := 64) rfl h1 h2).elim
    | succ n ih =>
      intro I x c h0 h1 h2
      have b := (r12 (o := 15) c (by decide)).1
      rw [wp_Rc_takeContent_L10]
      refine ⟨fun _ => ⟨fun _ => k1 _ c, fun _ => ⟨fun _ => hQ _ c, fun _ => k1 _ c⟩⟩, fun h3 => ⟨vp_i (M := 64) rfl h0 (by grind), i, hi, hs, s_Sf_append c hs.2.1 hs.2.2.2 (fun I6 c6 v8 e8 => ?_)⟩⟩
      rw [e8]
      exact ih I6 (x + 1) c6 (by grind) (by grind) (cnt1 (y := 64) (by grind) h2)
  exact ⟨65, key 65 I 0 c (by decide) (by decide) (by decide)⟩
theorem r2_at (R : UR) (o k : Nat) (x : Option Nat) (o' k' : Nat) : r2 R o k x o' k' = if o' = o ∧ k' = k then x else R o' k' := by
  by_cases h : o' = o
  · subst h
    by_cases h2 : k' = k
    · subst h2; simp [r2, va_up]
    · simp [r2, va_up, h2]
  · simp [r2, va_up, h]
theorem cR_none {L : List Nat} {R : UR} (r : cR L R) : cR L (r2 R 3 2 none) := by
  have e18 : r2 R 3 2 none 18 = R 18 := by unfold r2; exact va_up_ne _ _ (by decide)
  have e19 : r2 R 3 2 none 19 = R 19 := by unfold r2; exact va_up_ne _ _ (by decide)
  refine ⟨fun i h => ?_, by rw [e18]; exact r.2.1, by rw [e19]; exact r.2.2.1, fun o k i h => ?_, by rw [e18]; exact r.2.2.2.2.1, by rw [e19]; exact r.2.2.2.2.2⟩
  · simp [r2, va_up] at h
  · rw [r2_at] at h
    split at h
    · cases h
    · exact r.2.2.2.1 _ _ _ h
theorem cR_open {L : List Nat} {R : UR} {j : Nat} (r : cR L R) (hj : isSf L j) : cR L (r2 R 3 2 (some j)) := by
  have e18 : r2 R 3 2 (some j) 18 = R 18 := by unfold r2; exact va_up_ne _ _ (by decide)
  have e19 : r2 R 3 2 (some j) 19 = R 19 := by unfold r2; exact va_up_ne _ _ (by decide)
  refine ⟨fun i h => ?_, by rw [e18]; exact r.2.1, by rw [e19]; exact r.2.2.1, fun o k i h => ?_, by rw [e18]; exact r.2.2.2.2.1, by rw [e19]; exact r.2.2.2.2.2⟩
  · simp [r2, va_up] at h; subst h; exact hj
  · rw [r2_at] at h
    split at h
    · cases h; exact hj.1
    · exact r.2.2.2.1 _ _ _ h
theorem s_rcTakeHeader {I0 I : UI} {R : UR} {L : List Nat} {Q : UI → UR → Prop} (c : cC I0 I) (r : cR L R) (hQ : ∀ I' R', cC I0 I' → cR L R' → R' 19 = R 19 → Q I' R') : wp_Rc_takeHeader L I R Q := by
  have k0 := hQ I R c r rfl
  have rn := cR_none r
  have en : r2 R 3 2 none 19 = R 19 := by unfold r2; exact va_up_ne _ _ (by decide)
  have ka : ∀ x, wp_Rc_answer L I R x (fun I2 R3 => Q I2 R3) := fun x => s_answer c r (fun I' c' => hQ _ _ c' r rfl)
  unfold wp_Rc_takeHeader
  intro v1 _
  refine ⟨fun _ => ka 1, fun _ => ⟨fun _ => k0, fun _ => ⟨fun _ => k0, fun _ => ⟨fun _ => k0, fun _ => ⟨fun _ => ⟨fun _ => k0, fun _ R4 e4 => ⟨z1, fun I5 e5 => ?_⟩⟩, fun _ => ⟨fun _ => k0, fun _ => ⟨fun _ => k0, fun _ => ⟨fun _ => k0, fun _ => ⟨fun _ => ?_, fun _ => ⟨fun _ => k0, fun _ => ⟨fun _ => ⟨fun _ => k0, fun _ z e => ⟨fun _ => k0, fun i h => ?_⟩⟩, fun _ => ⟨fun _ z e => ⟨fun _ => k0, fun i h => ?_⟩, fun _ => k0⟩⟩⟩⟩⟩⟩⟩⟩⟩⟩⟩⟩
  · rw [e4]; exact s_Rd_beginPacket (w3' c e5) (by decide) (fun I' c' => hQ _ _ c' rn en)
  · exact s_answer c r (fun I8 c8 => ⟨z1, fun I10 e10 => hQ _ _ (w3' c8 e10) r rfl⟩)
  · have hi : R 3 2 = some i := e ▸ h
    exact ⟨i, hi, r.1 i hi, fun _ => ka 9, fun _ => ⟨z0, fun I16 e16 => s_Rd_beginPacket (w3' c e16) (by decide) (fun I' c' => hQ _ _ c' r rfl)⟩⟩
  · have hi : R 3 2 = some i := e ▸ h
    exact ⟨i, hi, r.1 i hi, fun _ => k0, fun _ R22 e22 => by rw [e22]; exact s_answer c rn (fun I' c' => hQ _ _ c' rn en)⟩
theorem s_beginAnew {I0 I : UI} {R : UR} {L : List Nat} {Q : UI → UR → Prop} (c : cC I0 I) (r : cR L R) (hQ : ∀ I' R', cC I0 I' → cR L R' → Q I' R') : wp_Rc_beginAnew L I R Q := by
  unfold wp_Rc_beginAnew
  exact fun R1 e1 => ⟨z0, fun I2 e2 => s_Rd_goOutside (w3' c e2) (by decide) (fun I' c' => hQ _ _ c' (by rw [e1]; exact cR_none r))⟩
theorem s_rcBegin {I0 I : UI} {R : UR} {L : List Nat} {x : Int32} {Q : UI → UR → Prop} (c : cC I0 I) (r : cR L R) (hz : zb x) (hQ : ∀ I' R', cC I0 I' → cR L R' → Q I' R') : wp_Rc_begin L I R x Q := by
  unfold wp_Rc_begin
  refine fun I1 e1 => ⟨hz, fun I2 e2 I3 e3 I4 e4 I5 e5 I6 e6 => s_beginAnew ?_ r hQ⟩
  have c1 : cC I0 I1 := by rw [e1]; exact wpi c (by decide) (by decide)
  exact w3' (w3' (w3' (w3' (w3' c1 e2) e3) e4) e5) e6
theorem s_rcSendLate {I0 I : UI} {R : UR} {L : List Nat} {Q : UI → UR → Prop} (c : cC I0 I) (r : cR L R) (hQ : ∀ I', cC I0 I' → Q I' R) : wp_Rc_sendLate L I R Q := by
  have key : ∀ I z, cC I0 I → wp_Rc_sendLate_L29 L Q I R z := fun I z c => by unfold wp_Rc_sendLate_L29; exact s_answer c r hQ
  unfold wp_Rc_sendLate
  exact ⟨fun _ => s_Rd_goOutside c (by decide) (fun I1 c1 z e => ⟨fun _ => key _ _ c1, fun i h => key _ _ c1⟩), fun _ => hQ _ c⟩
