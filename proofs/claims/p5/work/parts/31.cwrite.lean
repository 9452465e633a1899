/-! What the class keeps: Writer, Reader. -/
theorem wr' {I0 I J : UI} {o k : Nat} {x : Int32} (c : cC I0 I) (ho : o = 12 ∨ o = 15) (h : k ≠ 1 ∧ k ≠ 8) (e : J = u2 I o k x) : cC I0 J := by rw [e]; exact wr c ho h
theorem z0 : zb 0 := Or.inl rfl
theorem z1 : zb 1 := Or.inr rfl
theorem cnt0 {x M : Int32} {n : Nat} {m : Int} (hM : M.toInt = m) (h1 : x ≤ M) (h2 : m < x.toInt + (0 : Nat)) : False := by
  rw [Int32.le_iff_toInt_le] at h1; omega
theorem cnt1 {x y : Int32} {n : Nat} {m : Int} (h : x < y) (h2 : m < x.toInt + (n + 1 : Nat)) : m < (x + 1).toInt + n := by
  rw [ti_succ h]; omega
theorem s_Wr_endPacket {I0 I : UI} {R : UR} {o q1: Nat} {x : Int32} {Q : UI → UR → Prop} (c : cC I0 I) (hw : (o = 8 ∧ q1 = 4) ∨ (o = 10 ∧ q1 = 6)) (hQ : ∀ I', cC I0 I' → Q I' R) : wp_Wr_endPacket I R o q1 x Q := by
  have key : ∀ (n : Nat) (I : UI) (x : Int32), cC I0 I → 0 ≤ x → x ≤ 4 → 4 < x.toInt + n → wp_Wr_endPacket_L21 o q1 Q n I R x := by
    intro n
    induction n with
    | zero => intro I x c h0 h1 h2; exact (cnt0 (n := 0) (M := 4) rfl h1 h2).elim
    | succ n ih =>
      intro I x c h0 h1 h2
      rw [wp_Wr_endPacket_L21]
      have h3 : ∀ I', cC I0 I' → ¬ (4 ≤ x) → wp_Wr_endPacket_L21 o q1 Q n I' R (x + 1) := fun I' c' h4 => ih I' (x+1) c' (by grind) (by grind) (cnt1 (y := 4) (by grind) h2)
      unfold wp_Ck_size wp_Ck_part
      grind (ematch := 30) (gen := 30) (splits := 40) [s_Wr_addEscaped]
  unfold wp_Wr_endPacket
  have h5 : ∀ I', cC I0 I' → ∃ n, wp_Wr_endPacket_L21 o q1 Q n I' R 0 := fun I' c' => ⟨5, key 5 I' 0 c' (by decide) (by decide) (by decide)⟩
  grind (ematch := 30) (gen := 30) (splits := 40) [s_Pi_add, s_Ck_add]
theorem s_Wr_headerByte {I : UI} {R : UR} {x y z : Int32} {Q : Int32 → UI → UR → Prop} (hQ : ∀ r, Q r I R) : wp_Wr_headerByte I R x y z Q := by
  unfold wp_Wr_headerByte; grind
theorem s_Wr_digit {I : UI} {R : UR} {x : Int32} {Q : Int32 → UI → UR → Prop} (hQ : ∀ r, Q r I R) : wp_Wr_digit I R x Q := by
  unfold wp_Wr_digit; grind
theorem s_Wr_bytesHeader {I0 I : UI} {R : UR} {o q1: Nat} {x2 x3 x4 : Int32} {Q : UI → UR → Prop} (c : cC I0 I) (hw : (o = 8 ∧ q1 = 4) ∨ (o = 10 ∧ q1 = 6)) (hz : zb x4) (hQ : ∀ I', cC I0 I' → Q I' R) : wp_Wr_bytesHeader I R o q1 x2 x3 x4 Q := by
  have key : ∀ (n : Nat) (I : UI) (x : Int32), cC I0 I → 0 ≤ x → x ≤ 4 → 4 < x.toInt + n → wp_Wr_bytesHeader_L85 o q1 Q n I R x := by
    intro n
    induction n with
    | zero => intro I x c h0 h1 h2; exact (cnt0 (n := 0) (M := 4) rfl h1 h2).elim
    | succ n ih =>
      intro I x c h0 h1 h2
      rw [wp_Wr_bytesHeader_L85]
      have h3 : ∀ I', cC I0 I' → ¬ (4 ≤ x) → wp_Wr_bytesHeader_L85 o q1 Q n I' R (x + 1) := fun I' c' h4 => ih I' (x+1) c' (by grind) (by grind) (cnt1 (y := 4) (by grind) h2)
      unfold wp_Ck_size wp_Ck_part
      grind (ematch := 30) (gen := 30) (splits := 40) [s_Wr_addEscaped]
  have h5 : ∀ I', cC I0 I' → ∃ n, wp_Wr_bytesHeader_L85 o q1 Q n I' R 0 := fun I' c' => ⟨5, key 5 I' 0 c' (by decide) (by decide) (by decide)⟩
  have key2 : ∀ (n : Nat) (I : UI) (x : Int32), cC I0 I → 0 ≤ x → x ≤ 5 → 5 < x.toInt + n → wp_Wr_bytesHeader_L46 o q1 Q n I R x2 x3 x := by
    intro n
    induction n with
    | zero => intro I x c h0 h1 h2; exact (cnt0 (n := 0) (M := 5) rfl h1 h2).elim
    | succ n ih =>
      intro I x c h0 h1 h2
      rw [wp_Wr_bytesHeader_L46]
      have h3 : ∀ I', cC I0 I' → ¬ (5 ≤ x) → wp_Wr_bytesHeader_L46 o q1 Q n I' R x2 x3 (x + 1) := fun I' c' h4 => ih I' (x+1) c' (by grind) (by grind) (cnt1 (y := 5) (by grind) h2)
      grind (ematch := 30) (gen := 30) (splits := 40) [s_Wr_addEscaped, s_Wr_headerByte, s_Ck_add]
  have h6 : ∀ I', cC I0 I' → ∃ n, wp_Wr_bytesHeader_L46 o q1 Q n I' R x2 x3 0 := fun I' c' => ⟨6, key2 6 I' 0 c' (by decide) (by decide) (by decide)⟩
  have hq : q1 = 4 ∨ q1 = 6 := by omega
  unfold wp_Wr_bytesHeader
  refine s_Pi_add c hq (fun I1 c1 => s_Pi_add c1 hq (fun I2 c2 => ?_))
  have key3 : ∀ z, wp_Wr_bytesHeader_L25 o q1 Q I2 R x2 x3 x4 z := fun z => by
    unfold wp_Wr_bytesHeader_L25
    exact s_Pi_add c2 hq (fun I3 c3 => ⟨hz, fun I4 e4 => s_Ck_begin (by rw [e4]; exact wwr c3 (by omega) hz) hz (by omega) (fun I5 c5 => h6 I5 c5)⟩)
  exact ⟨fun _ => key3 _, fun _ => key3 _⟩
theorem s_Wr_hexHeader {I0 I : UI} {R : UR} {o q1: Nat} {x2 x3 : Int32} {Q : UI → UR → Prop} (c : cC I0 I) (hw : (o = 8 ∧ q1 = 4) ∨ (o = 10 ∧ q1 = 6)) (hQ : ∀ I', cC I0 I' → Q I' R) : wp_Wr_hexHeader I R o q1 x2 x3 Q := by
  have key : ∀ (n : Nat) (I : UI) (x : Int32), cC I0 I → 0 ≤ x → x ≤ 9 → 9 < x.toInt + n → wp_Wr_hexHeader_L64 o q1 Q n I R x2 x3 x := by
    intro n
    induction n with
    | zero => intro I x c h0 h1 h2; exact (cnt0 (n := 0) (M := 9) rfl h1 h2).elim
    | succ n ih =>
      intro I x c h0 h1 h2
      rw [wp_Wr_hexHeader_L64]
      have h3 : ∀ I', cC I0 I' → ¬ (9 ≤ x) → wp_Wr_hexHeader_L64 o q1 Q n I' R x2 x3 (x + 1) := fun I' c' h4 => ih I' (x+1) c' (by grind) (by grind) (cnt1 (y := 9) (by grind) h2)
      unfold wp_Ck_size wp_Ck_part wp_Wr_hexHeader_L105
      grind (ematch := 30) (gen := 30) (splits := 40) [s_Pi_add, s_Wr_headerByte, s_Wr_digit]
  have h5 : ∀ I', cC I0 I' → ∃ n, wp_Wr_hexHeader_L64 o q1 Q n I' R x2 x3 0 := fun I' c' => ⟨10, key 10 I' 0 c' (by decide) (by decide) (by decide)⟩
  have key2 : ∀ (n : Nat) (I : UI) (x : Int32), cC I0 I → 0 ≤ x → x ≤ 5 → 5 < x.toInt + n → wp_Wr_hexHeader_L35 o q1 Q n I R x2 x3 x := by
    intro n
    induction n with
    | zero => intro I x c h0 h1 h2; exact (cnt0 (n := 0) (M := 5) rfl h1 h2).elim
    | succ n ih =>
      intro I x c h0 h1 h2
      rw [wp_Wr_hexHeader_L35]
      have h3 : ∀ I', cC I0 I' → ¬ (5 ≤ x) → wp_Wr_hexHeader_L35 o q1 Q n I' R x2 x3 (x + 1) := fun I' c' h4 => ih I' (x+1) c' (by grind) (by grind) (cnt1 (y := 5) (by grind) h2)
      grind (ematch := 30) (gen := 30) (splits := 40) [s_Wr_headerByte, s_Ck_add]
  have h6 : ∀ I', cC I0 I' → ∃ n, wp_Wr_hexHeader_L35 o q1 Q n I' R x2 x3 0 := fun I' c' => ⟨6, key2 6 I' 0 c' (by decide) (by decide) (by decide)⟩
  unfold wp_Wr_hexHeader
  have hz := z0
  grind (ematch := 30) (gen := 30) (splits := 40) [s_Pi_add, s_Ck_begin]
theorem s_Wr_beginPacket {I0 I : UI} {R : UR} {o : Nat} {Q : UI → UR → Prop} (c : cC I0 I) (ho : o = 8 ∨ o = 10) (hQ : ∀ I', cC I0 I' → Q I' R) : wp_Wr_beginPacket I R o Q := by
  unfold wp_Wr_beginPacket
  exact s_Ck_begin c (r8 c ho) (by omega) hQ
theorem s_Wr_packetByte {I0 I : UI} {R : UR} {o q1 : Nat} {x : Int32} {Q : UI → UR → Prop} (c : cC I0 I) (hw : (o = 8 ∧ q1 = 4) ∨ (o = 10 ∧ q1 = 6)) (hQ : ∀ I', cC I0 I' → Q I' R) : wp_Wr_packetByte I R o q1 x Q := by
  unfold wp_Wr_packetByte
  grind (ematch := 30) (gen := 30) (splits := 40) [s_Ck_add, s_Wr_addEscaped]
theorem s_Rd_goOutside {I0 I : UI} {R : UR} {o : Nat} {Q : UI → UR → Prop} (c : cC I0 I) (ho : o = 12 ∨ o = 15) (hQ : ∀ I', cC I0 I' → Q I' R) : wp_Rd_goOutside I R o Q := by
  unfold wp_Rd_goOutside
  exact fun I1 e1 => hQ _ (wr' c ho (by decide) e1)
theorem s_Rd_beginCheck {I0 I : UI} {R : UR} {o : Nat} {Q : UI → UR → Prop} (c : cC I0 I) (ho : o = 12 ∨ o = 15) (hQ : ∀ I', cC I0 I' → Q I' R) : wp_Rd_beginCheck I R o Q := by
  unfold wp_Rd_beginCheck
  refine ⟨z0, fun I1 e1 I2 e2 => ⟨z1, fun I3 e3 => ?_⟩⟩
  have c3 := wr' (wr' (wr' c ho (by decide) e1) ho (by decide) e2) ho (by decide) e3
  exact s_Ck_begin c3 (r12 c3 ho).2 (by omega) hQ
theorem s_Rd_beginPacket {I0 I : UI} {R : UR} {o : Nat} {Q : UI → UR → Prop} (c : cC I0 I) (ho : o = 12 ∨ o = 15) (hQ : ∀ I', cC I0 I' → Q I' R) : wp_Rd_beginPacket I R o Q := by
  unfold wp_Rd_beginPacket
  refine fun I1 e1 I2 e2 => s_Rd_beginCheck (o := o) ?_ ho hQ
  rw [e2]; exact wr1 (wr' c ho (by decide) e1) ho (by decide)
theorem s_Rd_passPacket {I0 I : UI} {R : UR} {o : Nat} {Q : UI → UR → Prop} (c : cC I0 I) (ho : o = 12 ∨ o = 15) (hQ : ∀ I', cC I0 I' → Q I' R) : wp_Rd_passPacket I R o Q := by
  unfold wp_Rd_passPacket wp_Rd_passPacket_L18
  grind (ematch := 30) (gen := 30) (splits := 40) [s_Rd_beginPacket]
theorem s_Rd_takeForm {I0 I : UI} {R : UR} {o : Nat} {x : Int32} {Q : UI → UR → Prop} (c : cC I0 I) (ho : o = 12 ∨ o = 15) (hQ : ∀ I', cC I0 I' → Q I' R) : wp_Rd_takeForm I R o x Q := by
  have key : ∀ I z, cC I0 I → zb z → wp_Rd_takeForm_L56 o Q I R z := by
    intro I z c hz
    unfold wp_Rd_takeForm_L56
    refine ⟨hz, fun I3 e3 I4 e4 I5 e5 I6 e6 => s_Rd_beginCheck (o := o) ?_ ho hQ⟩
    exact wr' (wr' (wr' (by rw [e3]; exact wr8 c ho hz) ho (by decide) e4) ho (by decide) e5) ho (by decide) e6
  have key2 : ∀ I z, cC I0 I → zb z → wp_Rd_takeForm_L41 o Q I R x z := by
    intro I z c hz
    unfold wp_Rd_takeForm_L41
    exact ⟨hz, fun I2 e2 => ⟨fun _ => key _ _ (wr' c ho (by decide) e2) z0, fun _ => key _ _ (wr' c ho (by decide) e2) z1⟩⟩
  have key3 : wp_Rd_takeForm_L24 o Q I R x := by
    unfold wp_Rd_takeForm_L24
    exact fun I1 e1 => ⟨fun _ => key2 _ _ (wr' c ho (by decide) e1) z0, fun _ => key2 _ _ (wr' c ho (by decide) e1) z1⟩
  unfold wp_Rd_takeForm
  exact ⟨fun _ => key3, fun _ => ⟨fun _ => key3, fun _ => ⟨fun _ => key3, fun _ I9 e9 => hQ _ (wr' c ho (by decide) e9)⟩⟩⟩
theorem s_Rd_giveUp {I0 I : UI} {R : UR} {o : Nat} {Q : Int32 → UI → UR → Prop} (c : cC I0 I) (ho : o = 12 ∨ o = 15) (hQ : ∀ r I', cC I0 I' → Q r I' R) : wp_Rd_giveUp I R o Q := by
  have key : ∀ z, wp_Rd_giveUp_L13 o Q I R z := fun z => by
    unfold wp_Rd_giveUp_L13
    exact fun I1 e1 => ⟨fun _ => hQ _ _ (wr' c ho (by decide) e1), fun _ => hQ _ _ (wr' c ho (by decide) e1)⟩
  unfold wp_Rd_giveUp
  exact ⟨fun _ => key _, fun _ => key _⟩
theorem s_Rd_digitOf {I : UI} {R : UR} {x : Int32} {Q : Int32 → UI → UR → Prop} (hQ : ∀ r, Q r I R) : wp_Rd_digitOf I R x Q := by
  unfold wp_Rd_digitOf wp_Rd_digitOf_L17 wp_Rd_digitOf_L37; grind
theorem s_Rd_unescaped {I : UI} {R : UR} {x : Int32} {Q : Int32 → UI → UR → Prop} (hQ : ∀ r, Q r I R) : wp_Rd_unescaped I R x Q := by
  unfold wp_Rd_unescaped; grind
theorem s_Rd_takeHeaderByte {I0 I : UI} {R : UR} {o : Nat} {x : Int32} {Q : Int32 → UI → UR → Prop} (c : cC I0 I) (ho : o = 12 ∨ o = 15) (hQ : ∀ r I', cC I0 I' → Q r I' R) : wp_Rd_takeHeaderByte I R o x Q := by
  have key : ∀ I, cC I0 I → wp_Rd_takeHeaderByte_L35 o Q I R x := fun I c => by
    unfold wp_Rd_takeHeaderByte_L35
    exact fun I2 e2 => s_Ck_add (wr' c ho (by decide) e2) (by omega) (fun I' c' => hQ _ _ c')
  unfold wp_Rd_takeHeaderByte
  exact ⟨fun _ I1 e1 => key _ (wr' c ho (by decide) e1), fun _ I1 e1 => key _ (wr' c ho (by decide) e1)⟩
theorem s_Rd_takePacketByte {I0 I : UI} {R : UR} {o : Nat} {x : Int32} {Q : Int32 → UI → UR → Prop} (c : cC I0 I) (ho : o = 12 ∨ o = 15) (hQ : ∀ r I', cC I0 I' → Q r I' R) : wp_Rd_takePacketByte I R o x Q := by
  unfold wp_Rd_takePacketByte
  have h := (r12 c ho).1
  refine ⟨fun h1 => ⟨vp_i (M := 64) rfl h.1 h1, fun I1 e1 I2 e2 => ?_⟩, fun _ => s_Rd_giveUp c ho hQ⟩
  have c1 : cC I0 I1 := by rw [e1]; exact wpk c ho
  have g : I1 o 1 = I o 1 := by rw [e1, u2_ne]; omega
  have c2 : cC I0 I2 := by rw [e2]; exact wr1 c1 ho (by rw [g]; grind)
  exact s_Ck_add c2 (by omega) (fun I' c' => hQ _ _ c')
theorem s_Rd_takeCheckByte {I0 I : UI} {R : UR} {o : Nat} {x : Int32} {Q : Int32 → UI → UR → Prop} (c : cC I0 I) (ho : o = 12 ∨ o = 15) (hQ : ∀ r I', cC I0 I' → Q r I' R) : wp_Rd_takeCheckByte I R o x Q := by
  unfold wp_Rd_takeCheckByte wp_Rd_takeCheckByte_L27 wp_Ck_part
  have key : ∀ z, zb z → wp_Rd_takeCheckByte_L28 o Q I R z := by
    intro z hz
    unfold wp_Rd_takeCheckByte_L28 wp_Ck_size
    refine ⟨hz, fun I1 e1 I2 e2 => ?_⟩
    have c2 := wr' (wr' c ho (by decide) e1) ho (by decide) e2
    have k2 : ∀ z, wp_Rd_takeCheckByte_L82 o Q I2 R z := fun z => by
      unfold wp_Rd_takeCheckByte_L82
      exact fun I6 e6 => ⟨fun _ => hQ _ _ (wr' c2 ho (by decide) e6), fun _ => hQ _ _ (wr' c2 ho (by decide) e6)⟩
    have k3 := s_Rd_giveUp (R := R) c2 ho hQ
    have k4 := hQ 0 I2 c2
    grind
  have a := key 0 z0
  have b := key 1 z1
  grind
theorem s_Rd_takeMeant {I0 I : UI} {R : UR} {o : Nat} {x : Int32} {Q : Int32 → UI → UR → Prop} (c : cC I0 I) (ho : o = 12 ∨ o = 15) (hQ : ∀ r I', cC I0 I' → Q r I' R) : wp_Rd_takeMeant I R o x Q := by
  unfold wp_Rd_takeMeant
  grind (ematch := 30) (gen := 30) (splits := 40) [s_Rd_takeCheckByte, s_Rd_takePacketByte, s_Rd_takeHeaderByte]
theorem s_Rd_takeDigit {I0 I : UI} {R : UR} {o : Nat} {x : Int32} {Q : Int32 → UI → UR → Prop} (c : cC I0 I) (ho : o = 12 ∨ o = 15) (hQ : ∀ r I', cC I0 I' → Q r I' R) : wp_Rd_takeDigit I R o x Q := by
  unfold wp_Rd_takeDigit
  refine s_Rd_digitOf (fun r => ⟨fun _ => ⟨fun _ v4 e4 I5 e5 => s_Rd_takeMeant (wr' c ho (by decide) e5) ho hQ, fun _ I9 e9 => hQ _ _ (wr' c ho (by decide) e9)⟩, fun _ => s_Rd_giveUp c ho hQ⟩)
theorem s_Rd_takeEscaped {I0 I : UI} {R : UR} {o : Nat} {x : Int32} {Q : Int32 → UI → UR → Prop} (c : cC I0 I) (ho : o = 12 ∨ o = 15) (hQ : ∀ r I', cC I0 I' → Q r I' R) : wp_Rd_takeEscaped I R o x Q := by
  have key : ∀ I, cC I0 I → wp_Rd_takeEscaped_L78 o Q I R x := by
    intro I c
    unfold wp_Rd_takeEscaped_L78
    refine s_Rd_unescaped (fun r => ?_)
    grind (ematch := 30) (gen := 30) (splits := 40) [s_Rd_takeMeant, s_Rd_giveUp]
  have k1 : wp_Rd_takeEscaped_L20 o Q I R x := by
    unfold wp_Rd_takeEscaped_L20
    refine ⟨fun _ => ⟨z0, fun I1 e1 => ?_⟩, fun _ => s_Rd_takeMeant c ho hQ⟩
    have c1 := wr' c ho (by decide) e1
    exact ⟨fun _ => key _ c1, fun _ => ⟨fun _ => key _ c1, fun _ => ⟨fun _ => key _ c1, fun _ I11 e11 => s_Ck_add (wr' c1 ho (by decide) e11) (by omega) (fun I12 c12 I14 e14 => hQ _ _ (wr' c12 ho (by decide) e14))⟩⟩⟩
  unfold wp_Rd_takeEscaped
  exact ⟨fun _ => k1, fun _ => ⟨fun _ => k1, fun _ => ⟨z1, fun I18 e18 => hQ _ _ (wr' c ho (by decide) e18)⟩⟩⟩
theorem s_Rd_take {I0 I : UI} {R : UR} {o : Nat} {x : Int32} {Q : Int32 → UI → UR → Prop} (c : cC I0 I) (ho : o = 12 ∨ o = 15) (hQ : ∀ r I', cC I0 I' → Q r I' R) : wp_Rd_take I R o x Q := by
  have k1 : ∀ z, wp_Rd_take_L44 o Q I R z := fun z => by unfold wp_Rd_take_L44; exact fun I2 e2 => hQ _ _ (wr' c ho (by decide) e2)
  have k2 : ∀ z, wp_Rd_take_L71 o Q I R z := fun z => by unfold wp_Rd_take_L71; exact fun I2 e2 => hQ _ _ (wr' c ho (by decide) e2)
  have k3 := s_Rd_takeForm (R := R) (x := x) (Q := fun I4 R5 => Q 0 I4 R5) c ho (fun I' c' => hQ _ _ c')
  have k4 := s_Rd_takeEscaped (R := R) (x := x) c ho hQ
  have k5 := s_Rd_takeDigit (R := R) (x := x) c ho hQ
  unfold wp_Rd_take
  exact fun v1 e1 => ⟨fun _ => ⟨fun _ => k1 _, fun _ => k1 _⟩, fun _ => ⟨fun _ => ⟨fun _ => ⟨fun _ => k2 _, fun _ => k2 _⟩, fun _ => k2 _⟩, fun _ => ⟨fun _ => k3, fun _ => ⟨fun _ => k4, fun _ => k5⟩⟩⟩⟩
