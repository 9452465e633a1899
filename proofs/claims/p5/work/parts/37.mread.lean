/-! What the reference keeps: its readers. -/
theorem bg_many {I J K : UI} {w : Nat} {x y : Int32} (e : J = u2 I 84 w y) (b : bg J K w x) : bg I K w x := by
  refine ⟨fun o k h => ?_, b.2⟩
  rw [b.1 o k h, e, u2_at, if_neg]
  rintro ⟨rfl, rfl⟩
  exact h (by omega) rfl
theorem many0 {B I J K : UI} {y : Int32} (m : M B I) (e : J = u2 I 84 0 y) (b : bg J K 0 0) : M B K := bg0 m (bg_many e b) (by decide)
theorem many1 {B I J K : UI} {y : Int32} (m : M B I) (e : J = u2 I 84 1 y) (b : bg J K 1 0) : M B K := bg1 m (bg_many e b) (by decide) (fun h => absurd h (by decide))
theorem s_bad0 {B I : UI} {R : UR} {Q : UI → UR → Prop} (hb : ∀ J, bg I J 0 0 → M B J) (hQ : ∀ J, M B J → Q J R) : wp_Mo_badHeader I R 0 Q := by
  unfold wp_Mo_badHeader
  exact s_begin (w := 0) (Or.inl ⟨rfl, rfl⟩) (fun J b => ⟨fun _ => hQ _ (hb J b), fun h => absurd h (by decide)⟩)
theorem s_bad1 {B I : UI} {R : UR} {Q : UI → UR → Prop} (hb : ∀ J, bg I J 1 0 → M B J) (hQ : ∀ J, M B J → Q J R) : wp_Mo_badHeader I R 1 Q := by
  unfold wp_Mo_badHeader
  refine s_begin (w := 1) (Or.inr ⟨rfl, rfl⟩) (fun J b => ⟨fun h => absurd rfl h, fun _ => ⟨vp_i (M := 4) rfl (by decide) (by decide), vp_i (M := 4) rfl (by decide) (by decide), fun I3 e3 => ?_⟩⟩)
  have m3 := M_irr (hb J b) (by decide) e3
  exact s_sendHex (PF_rf m3) (Or.inl rfl) (fun J pj => hQ _ (M_PF m3 pj))
theorem s_L63 {I : UI} {R : UR} {x1 x3 : Int32} {Q : UI → UR → Prop} (hx : x1 = 0 ∨ x1 = 1) (h3 : x3 = 7 ∨ x3 = 9) (hk : ∀ x4 s0, wp_Mo_headerByte_L151 Q I R x1 x4 s0) : ∀ (n : Nat) (x4 x5 : Int32), 0 ≤ x5 → x5 ≤ x3 - 5 → (x3 - 5).toInt < x5.toInt + n → wp_Mo_headerByte_L63 Q n I R x1 x3 x4 x5 := by
  have hv : vp_in x1 2 := by rcases hx with rfl | rfl; exact v02; exact v12
  intro n
  induction n with
  | zero => intro x4 x5 h0 h1 h2; exact (cnt0 (n := 0) (M := x3 - 5) rfl h1 h2).elim
  | succ n ih =>
    intro x4 x5 h0 h1 h2
    rw [wp_Mo_headerByte_L63]
    refine ⟨fun _ => ⟨hv, fun _ => hk _ _, fun _ => hk _ _⟩, fun h => ?_⟩
    have k128 : ∀ s, wp_Mo_headerByte_L128 Q (fun I R x1 x3 x4 x5 => wp_Mo_headerByte_L63 Q n I R x1 x3 x4 x5) I R x1 x3 x5 s := by
      intro s
      unfold wp_Mo_headerByte_L128
      intro v e
      rw [e]
      exact ih s (x5 + 1) (by grind) (by grind) (cnt1 (y := x3 - 5) (by grind) h2)
    have k127 : wp_Mo_headerByte_L127 Q (fun I R x1 x3 x4 x5 => wp_Mo_headerByte_L63 Q n I R x1 x3 x4 x5) I R x1 x3 x5 := by
      unfold wp_Mo_headerByte_L127
      exact k128 0
    have k115 : ∀ s0 s4, wp_Mo_headerByte_L115 Q (fun I R x1 x3 x4 x5 => wp_Mo_headerByte_L63 Q n I R x1 x3 x4 x5) I R x1 x3 x5 s0 5 (80 * x1) s4 := by
      intro s0 s4
      unfold wp_Mo_headerByte_L115
      refine s_checkByte (by decide) ?_ ?_ (by decide) (by decide) (fun r => ⟨fun _ => k127, fun _ => k128 _⟩)
      · rcases hx with rfl | rfl <;> decide
      · rcases hx with rfl | rfl <;> decide
    refine ⟨fun _ => k127, fun _ => ⟨v_row ?_ ?_, hv, fun _ => k115 _ _, fun _ => k115 _ _⟩⟩
    · rcases hx with rfl | rfl <;> grind
    · rcases hx with rfl | rfl <;> grind
theorem s_headerByte0 {B I : UI} {R : UR} {x2 : Int32} {Q : UI → UR → Prop} (m : M B I) (h : 3 ≤ I 83 0) (hQ : ∀ J, M B J → Q J R) : wp_Mo_headerByte I R 0 x2 Q := by
  have c := m.2.2.1
  unfold rd0 at c
  have c3 := c.2.2 h
  unfold wp_Mo_headerByte
  simp only [t0]
  refine ⟨v02, v_row (by grind) (by grind), fun I1 e1 => ⟨v02, v02, fun I2 e2 => ?_⟩⟩
  have m1 := M_irr m (by simp [rel]) e1
  have q83 : I1 83 0 = I 83 0 := by rw [e1, u2_ne _ _ _ (by decide)]
  have q84 : I1 84 0 = I 84 0 := by rw [e1, u2_ne _ _ _ (by decide)]
  have q87 : I1 87 0 = I 87 0 := by rw [e1, u2_ne _ _ _ (by decide)]
  have p84 : I2 84 0 = I1 84 0 + 1 := by rw [e2, u2_at, if_pos ⟨rfl, rfl⟩]
  have p87 : I2 87 0 = I1 87 0 := by rw [e2, u2_ne _ _ _ (by decide)]
  have k151 : ∀ x4 s0, wp_Mo_headerByte_L151 Q I2 R 0 x4 s0 := by
    intro x4 s0
    unfold wp_Mo_headerByte_L151
    refine ⟨fun _ => ⟨v_row (by decide) (by decide), v_row (by decide) (by decide), v_row (by decide) (by decide), v_row (by decide) (by decide), fun v e => s_begin (w := 0) (Or.inl ⟨rfl, rfl⟩) (fun J b => ⟨fun _ => ⟨v_row (by decide) (by decide), s_heard (many0 m1 e2 b) hQ⟩, fun h => absurd h (by decide)⟩)⟩, fun _ => s_bad0 (fun J b => many0 m1 e2 b) hQ⟩
  have k45 : ∀ s, (s = 7 ∧ I2 87 0 ≠ 32) ∨ (s = 9 ∧ I2 87 0 = 32) → wp_Mo_headerByte_L45 Q I2 R 0 s := by
    intro s hs
    unfold wp_Mo_headerByte_L45
    refine ⟨v02, fun _ => ⟨5, s_L63 (Or.inl rfl) (hs.imp And.left And.left) k151 5 1 0 (by decide) (by rcases hs with ⟨rfl, _⟩ | ⟨rfl, _⟩ <;> decide) (by rcases hs with ⟨rfl, _⟩ | ⟨rfl, _⟩ <;> decide)⟩, fun h => hQ _ (M_many (w := 0) m1 (Or.inl ⟨rfl, fun _ => ?_⟩) e2)⟩
    simp only [t0] at h
    grind
  exact ⟨v02, fun h => k45 _ (Or.inl ⟨rfl, h⟩), fun h => k45 _ (Or.inr ⟨rfl, h⟩)⟩
theorem s_headerByte1 {B I : UI} {R : UR} {x2 : Int32} {Q : UI → UR → Prop} (m : M B I) (h : 3 ≤ I 83 1) (h' : I 83 1 ≤ 4) (hQ : ∀ J, M B J → Q J R) : wp_Mo_headerByte I R 1 x2 Q := by
  have c := m.2.2.2.1
  unfold rd1 at c
  have c3 := c.2.2.1 h h'
  unfold wp_Mo_headerByte
  simp only [t1]
  refine ⟨v12, v_row (by grind) (by grind), fun I1 e1 => ⟨v12, v12, fun I2 e2 => ?_⟩⟩
  have m1 := M_irr m (by simp [rel]) e1
  have q83 : I1 83 1 = I 83 1 := by rw [e1, u2_ne _ _ _ (by decide)]
  have q84 : I1 84 1 = I 84 1 := by rw [e1, u2_ne _ _ _ (by decide)]
  have q87 : I1 87 1 = I 87 1 := by rw [e1, u2_ne _ _ _ (by decide)]
  have p84 : I2 84 1 = I1 84 1 + 1 := by rw [e2, u2_at, if_pos ⟨rfl, rfl⟩]
  have p87 : I2 87 1 = I1 87 1 := by rw [e2, u2_ne _ _ _ (by decide)]
  have k151 : ∀ x4 s0, wp_Mo_headerByte_L151 Q I2 R 1 x4 s0 := by
    intro x4 s0
    unfold wp_Mo_headerByte_L151
    refine ⟨fun _ => ⟨v_row (by decide) (by decide), v_row (by decide) (by decide), v_row (by decide) (by decide), v_row (by decide) (by decide), fun v e => s_begin (w := 1) (Or.inr ⟨rfl, rfl⟩) (fun J b => ⟨fun h => absurd rfl h, fun _ => ⟨vp_i (M := 4) rfl (by decide) (by decide), vp_i (M := 4) rfl (by decide) (by decide), fun I8 e8 => ⟨v_row (by decide) (by decide), ?_⟩⟩⟩)⟩, fun _ => s_bad1 (fun J b => many1 m1 e2 b) hQ⟩
    exact s_received (M_irr (many1 m1 e2 b) (by decide) e8) (by rw [e8, u2_ne _ _ _ (by decide)]; exact b.2.1) hQ
  have k45 : ∀ s, (s = 7 ∧ I2 87 1 ≠ 32) ∨ (s = 9 ∧ I2 87 1 = 32) → wp_Mo_headerByte_L45 Q I2 R 1 s := by
    intro s hs
    unfold wp_Mo_headerByte_L45
    refine ⟨v12, fun _ => ⟨5, s_L63 (Or.inr rfl) (hs.imp And.left And.left) k151 5 1 0 (by decide) (by rcases hs with ⟨rfl, _⟩ | ⟨rfl, _⟩ <;> decide) (by rcases hs with ⟨rfl, _⟩ | ⟨rfl, _⟩ <;> decide)⟩, fun h => hQ _ (M_many (w := 1) m1 (Or.inr ⟨rfl, fun _ _ => ?_, fun h5 => by grind⟩) e2)⟩
    simp only [t1] at h
    grind
  exact ⟨v12, fun h => k45 _ (Or.inl ⟨rfl, h⟩), fun h => k45 _ (Or.inr ⟨rfl, h⟩)⟩
theorem s_checkPart {B I : UI} {R : UR} {x1 : Int32} {Q : UI → UR → Prop} (m : M B I) (h : I 83 1 = 6) (hQ : ∀ J, M B J → Q J R) : wp_Mo_checkPart I R x1 Q := by
  have k85 : ∀ I s0 s1, M B I → I 83 1 = 6 → wp_Mo_checkPart_L85 Q I R s0 s1 := by
    intro I s0 s1 m h
    unfold wp_Mo_checkPart_L85
    refine ⟨fun _ v5 e5 => ⟨z0, fun I6 e6 => ?_⟩, fun _ => hQ _ m⟩
    have m6 := M_irr m (by decide) e6
    refine ⟨fun _ => ⟨vp_i (M := 4) rfl (by decide) (by decide), vp_i (M := 4) rfl (by decide) (by decide), fun I7 e7 => ?_⟩, fun _ => s_badPacket m6 hQ⟩
    have m7 := M_irr m6 (by decide) e7
    have h7 : I7 83 1 = 6 := by rw [e7, u2_ne _ _ _ (by decide), e6, u2_ne _ _ _ (by decide)]; exact h
    have c := m7.2.2.2.1
    unfold rd1 at c
    have hp := c.2.2.2.2.2 (by rw [h7]; decide)
    have hc := c.2.2.2.2.1 h7
    have k151 : ∀ s, (s = 0 ∨ s = 5) → wp_Mo_checkPart_L151 Q I7 R s 1 := by
      intro s hs
      unfold wp_Mo_checkPart_L151
      refine s_begin (w := 1) (Or.inr ⟨rfl, rfl⟩) (fun J b => ⟨v12, v12, ?_⟩)
      have mj : M B J := bg1 m7 b (by rcases hs with rfl | rfl <;> decide) (fun _ => hp)
      have j89 := bg_ne (o := 89) (k := 1) b (by decide)
      have j91 := bg_ne (o := 91) (k := 1) b (by decide)
      have j25 := bg_ne (o := 80) (k := 25) b (by decide)
      exact s_goodPacket mj (by rw [t1, j89]; exact hc.1) (by rw [t1, j89]; exact hc.2) (by rw [j91, j25]; exact hp) hQ
    have k146 : wp_Mo_checkPart_L146 Q I7 R 1 := by
      unfold wp_Mo_checkPart_L146
      exact k151 0 (Or.inl rfl)
    exact ⟨v12, fun _ => k146, fun _ => ⟨v12, fun _ => k151 5 (Or.inr rfl), fun _ => k146⟩⟩
  have k60 : ∀ I x2, M B I → I 83 1 = 6 → wp_Mo_checkPart_L60 Q I R x2 := by
    intro I x2 m h
    unfold wp_Mo_checkPart_L60
    refine ⟨v12, v12, fun I4 e4 => ?_⟩
    have m4 := M_many (w := 1) m (Or.inr ⟨rfl, fun _ h2 => absurd h2 (by rw [h]; decide), fun h2 => absurd h2 (by rw [h]; decide)⟩) e4
    have h4 : I4 83 1 = 6 := by rw [e4, u2_ne _ _ _ (by decide)]; exact h
    exact ⟨v12, fun _ => k85 _ _ _ m4 h4, fun _ => k85 _ _ _ m4 h4⟩
  have k50 : ∀ x2 s0, wp_Mo_checkPart_L50 Q I R x2 s0 := by
    intro x2 s0
    unfold wp_Mo_checkPart_L50
    exact ⟨fun _ => k60 _ _ m h, fun _ => ⟨z1, fun I14 e14 => k60 _ _ (M_irr m (by decide) e14) (by rw [e14, u2_ne _ _ _ (by decide)]; exact h)⟩⟩
  have c := m.2.2.2.1
  unfold rd1 at c
  have hc := c.2.2.2.2.1 h
  have k16 : ∀ s0, wp_Mo_checkPart_L16 Q I R x1 s0 := by
    intro s0
    unfold wp_Mo_checkPart_L16
    exact ⟨v12, v12, s_checkByte (by decide) (by decide) (by decide) (by rw [t1]; grind) (by rw [t1]; grind) (fun r => ⟨fun _ => k50 _ _, fun _ => k50 _ _⟩)⟩
  unfold wp_Mo_checkPart
  exact ⟨v12, fun _ => k16 _, fun _ => k16 _⟩
theorem s_plain0 {B I : UI} {R : UR} {x2 : Int32} {Q : UI → UR → Prop} (m : M B I) (h : I 83 0 = 4) (hQ : ∀ J, M B J → Q J R) : wp_Mo_plain I R 0 x2 Q := by
  unfold wp_Mo_plain
  exact ⟨v02, fun h1 => absurd h h1, fun _ => s_headerByte0 m (by rw [h]; decide) hQ⟩
theorem s_plain1 {B I : UI} {R : UR} {x2 : Int32} {Q : UI → UR → Prop} (m : M B I) (h : 4 ≤ I 83 1) (hQ : ∀ J, M B J → Q J R) : wp_Mo_plain I R 1 x2 Q := by
  have c := m.2.2.2.1
  unfold rd1 at c
  unfold wp_Mo_plain
  simp only [t1]
  refine ⟨v12, fun h1 => ⟨v12, fun h2 => s_checkPart m (by grind) hQ, fun h2 => ⟨v12, fun h3 => ⟨v12, v_row (by grind) (by grind), fun I3 e3 => ⟨v12, v12, fun I4 e4 => hQ _ ?_⟩⟩, fun _ => s_badPacket m hQ⟩⟩, fun h1 => s_headerByte1 m (by rw [h1]; decide) (by rw [h1]; decide) hQ⟩
  have m3 := M_irr m (by simp [rel]) e3
  have q83 : I3 83 1 = 5 := by rw [e3, u2_ne _ _ _ (by decide)]; exact h2
  have q84 : I3 84 1 = I 84 1 := by rw [e3, u2_ne _ _ _ (by decide)]
  refine M_many (w := 1) m3 (Or.inr ⟨rfl, fun _ h2 => absurd h2 (by rw [q83]; decide), fun _ => ?_⟩) e4
  grind
theorem s_readDigit0 {B I : UI} {R : UR} {x2 : Int32} {Q : UI → UR → Prop} (m : M B I) (h : I 83 0 = 3) (hQ : ∀ J, M B J → Q J R) : wp_Mo_readDigit I R 0 x2 Q := by
  unfold wp_Mo_readDigit
  refine s_digitOfM (fun r => ⟨fun _ => ⟨v02, fun _ => ⟨v02, fun v e => ⟨v02, fun I5 e5 => s_headerByte0 (M_irr m (by simp [rel]) e5) (by rw [e5, u2_ne _ _ _ (by decide), h]; decide) hQ⟩⟩, fun _ => ⟨v02, fun I8 e8 => hQ _ (M_irr m (by simp [rel]) e8)⟩⟩, fun _ => s_badHeader0 m hQ⟩)
theorem s_readDigit1 {B I : UI} {R : UR} {x2 : Int32} {Q : UI → UR → Prop} (m : M B I) (h : I 83 1 = 3) (hQ : ∀ J, M B J → Q J R) : wp_Mo_readDigit I R 1 x2 Q := by
  unfold wp_Mo_readDigit
  refine s_digitOfM (fun r => ⟨fun _ => ⟨v12, fun _ => ⟨v12, fun v e => ⟨v12, fun I5 e5 => s_headerByte1 (M_irr m (by simp [rel]) e5) (by rw [e5, u2_ne _ _ _ (by decide), h]; decide) (by rw [e5, u2_ne _ _ _ (by decide), h]; decide) hQ⟩⟩, fun _ => ⟨v12, fun I8 e8 => hQ _ (M_irr m (by simp [rel]) e8)⟩⟩, fun _ => s_badHeader1 m hQ⟩)
theorem s_readEscaped0 {B I : UI} {R : UR} {x2 : Int32} {Q : UI → UR → Prop} (m : M B I) (h : I 83 0 = 4) (hQ : ∀ J, M B J → Q J R) : wp_Mo_readEscaped I R 0 x2 Q := by
  unfold wp_Mo_readEscaped
  simp only [t0]
  refine ⟨v02, fun _ => ⟨v02, z0, fun I1 e1 => ?_⟩, fun _ => ⟨fun _ => s_plain0 m h hQ, fun _ => ⟨v02, z1, fun I20 e20 => hQ _ (M_irr m (by decide) e20)⟩⟩⟩
  have m1 := M_irr m (by decide) e1
  have h1 : I1 83 0 = 4 := by rw [e1, u2_ne _ _ _ (by decide)]; exact h
  have k88 : ∀ s, wp_Mo_readEscaped_L88 Q I1 R s 0 := fun s => by unfold wp_Mo_readEscaped_L88; exact s_plain0 m1 h1 hQ
  have k72 : wp_Mo_readEscaped_L72 Q I1 R 0 x2 := by unfold wp_Mo_readEscaped_L72; exact ⟨fun _ => k88 _, fun _ => k88 _⟩
  have k169 : wp_Mo_readEscaped_L169 Q I1 R 0 := by
    unfold wp_Mo_readEscaped_L169
    exact ⟨v02, fun h2 => absurd h1 h2, fun _ => s_badHeader0 m1 hQ⟩
  exact ⟨fun _ => ⟨fun _ => k72, fun _ => ⟨fun _ => ⟨v02, fun _ => k169, fun h2 => absurd h2 (by rw [h1]; decide)⟩, fun _ => k72⟩⟩, fun _ => s_plain0 m1 h1 hQ⟩
theorem M_sign {B I I12 I13 I14 J : UI} {k : Nat} {x : Int32} (m : M B I) (h : I 83 1 = 5) (e12 : I12 = u2 I 89 1 (I 84 1)) (e13 : I13 = u2 I12 88 k x) (e14 : I14 = u2 I13 83 1 6) (e : J = u2 I14 84 1 0) : M B J := by
  subst e12 e13 e14 e; obtain ⟨a, b, c, d, f⟩ := m
  refine ⟨?_, ?_, ?_, ?_, fr_u2 (fr_u2 (fr_u2 (fr_u2 f (by decide) (by decide) (by decide)) (by decide) (by decide) (by simp)) (by decide) (by decide) (by decide)) (by decide) (by decide) (by decide)⟩
  · unfold mB at *; simp only [u2_at]; simp; grind
  · unfold mN at *; simp only [u2_at]; simp; grind
  · unfold rd0 at *; simp only [u2_at]; simp; grind
  · unfold rd1 at *; simp only [u2_at]; simp; grind
theorem s_readEscaped1 {B I : UI} {R : UR} {x2 : Int32} {Q : UI → UR → Prop} (m : M B I) (h : 4 ≤ I 83 1) (hQ : ∀ J, M B J → Q J R) : wp_Mo_readEscaped I R 1 x2 Q := by
  unfold wp_Mo_readEscaped
  simp only [t1]
  refine ⟨v12, fun _ => ⟨v12, z0, fun I1 e1 => ?_⟩, fun _ => ⟨fun _ => s_plain1 m h hQ, fun _ => ⟨v12, z1, fun I20 e20 => hQ _ (M_irr m (by decide) e20)⟩⟩⟩
  have m1 := M_irr m (by decide) e1
  have h1 : 4 ≤ I1 83 1 := by rw [e1, u2_ne _ _ _ (by decide)]; exact h
  have k88 : ∀ s, wp_Mo_readEscaped_L88 Q I1 R s 1 := fun s => by unfold wp_Mo_readEscaped_L88; exact s_plain1 m1 h1 hQ
  have k72 : wp_Mo_readEscaped_L72 Q I1 R 1 x2 := by unfold wp_Mo_readEscaped_L72; exact ⟨fun _ => k88 _, fun _ => k88 _⟩
  have k169 : wp_Mo_readEscaped_L169 Q I1 R 1 := by
    unfold wp_Mo_readEscaped_L169
    exact ⟨v12, fun h2 => s_badPacket m1 hQ, fun _ => s_badHeader1 m1 hQ⟩
  refine ⟨fun _ => ⟨fun _ => k72, fun _ => ⟨fun _ => ⟨v12, fun _ => k169, fun h2 => s_isIn (fun _ => ⟨fun _ => k169, fun h => absurd rfl h⟩) (fun _ _ => ⟨fun h => absurd h (by decide), fun _ => ⟨v12, fun I11 e11 => ⟨v12, v12, fun I12 e12 => ⟨v12, ?_, fun I13 e13 => ⟨v12, fun I14 e14 => ⟨v12, fun I15 e15 => hQ _ ?_⟩⟩⟩⟩⟩⟩)⟩, fun _ => k72⟩⟩, fun _ => s_plain1 m1 h1 hQ⟩
  · have c := m1.2.2.2.1
    unfold rd1 at c
    have g : I12 84 1 = I1 84 1 := by rw [e12, u2_ne _ _ _ (by decide), e11, u2_ne _ _ _ (by decide)]
    rw [g]
    exact v_row (by grind) (by grind)
  · have m11 := M_irr m1 (by decide) e11
    exact M_sign m11 (by rw [e11, u2_ne _ _ _ (by decide)]; exact h2) e12 e13 e14 e15
theorem M_mode0 {B I J : UI} {x : Int32} (m : M B I) (h : 0 ≤ x ∧ x ≤ 2) (e : J = u2 I 83 0 x) : M B J := by
  subst e; obtain ⟨a, b, c, d, f⟩ := m
  refine ⟨?_, ?_, ?_, ?_, fr_u2 f (by decide) (by decide) (by decide)⟩
  · unfold mB at *; simp only [u2_at]; simp; grind
  · unfold mN at *; simp only [u2_at]; simp; grind
  · unfold rd0 at *; simp only [u2_at]; simp; grind
  · unfold rd1 at *; simp only [u2_at]; simp; grind
theorem M_mode1 {B I J : UI} {x : Int32} (m : M B I) (h : 0 ≤ x ∧ x ≤ 2) (e : J = u2 I 83 1 x) : M B J := by
  subst e; obtain ⟨a, b, c, d, f⟩ := m
  refine ⟨?_, ?_, ?_, ?_, fr_u2 f (by decide) (by decide) (by decide)⟩
  · unfold mB at *; simp only [u2_at]; simp; grind
  · unfold mN at *; simp only [u2_at]; simp; grind
  · unfold rd0 at *; simp only [u2_at]; simp; grind
  · unfold rd1 at *; simp only [u2_at]; simp; grind
theorem M_wide {B I J : UI} {w : Nat} {x : Int32} (m : M B I) (hw : (w = 0 ∧ I 84 0 = 0) ∨ (w = 1 ∧ (3 ≤ I 83 1 → I 83 1 ≤ 4 → I 84 1 = 0))) (e : J = u2 I 87 w x) : M B J := by
  subst e; obtain ⟨a, b, c, d, f⟩ := m
  refine ⟨?_, ?_, ?_, ?_, fr_u2 f (by decide) (by decide) (by simp)⟩
  · unfold mB at *; simp only [u2_at]; simp; grind
  · unfold mN at *; simp only [u2_at]; simp; grind
  · unfold rd0 at *; rcases hw with ⟨rfl, hw⟩ | ⟨rfl, hw⟩ <;> simp only [u2_at] <;> simp <;> grind
  · unfold rd1 at *; rcases hw with ⟨rfl, hw⟩ | ⟨rfl, hw⟩ <;> simp only [u2_at] <;> simp <;> grind
theorem s_read0 {B I : UI} {R : UR} {x2 : Int32} {Q : UI → UR → Prop} (m : M B I) (hQ : ∀ J, M B J → Q J R) : wp_Mo_read I R 0 x2 Q := by
  have c := m.2.2.1
  unfold rd0 at c
  have k52 : ∀ s, (0 ≤ s ∧ s ≤ 2) → wp_Mo_read_L52 Q I R s 0 := fun s hs => by unfold wp_Mo_read_L52; exact ⟨v02, fun I2 e2 => hQ _ (M_mode0 m hs e2)⟩
  have k82 : ∀ s, (0 ≤ s ∧ s ≤ 2) → wp_Mo_read_L82 Q I R s 0 := fun s hs => by unfold wp_Mo_read_L82; exact ⟨v02, fun I2 e2 => hQ _ (M_mode0 m hs e2)⟩
  have k115 : ∀ s, (0 ≤ s ∧ s ≤ 4) → wp_Mo_read_L115 Q I R 0 x2 s 0 := by
    intro s hs
    unfold wp_Mo_read_L115
    refine s_begin (w := 0) (Or.inl ⟨rfl, rfl⟩) (fun J b => ?_)
    have mj := bg0 m b hs
    have k136 : ∀ s, wp_Mo_read_L136 Q J R s 0 := fun s => by unfold wp_Mo_read_L136; exact ⟨v02, fun I6 e6 => hQ _ (M_wide mj (Or.inl ⟨rfl, b.2.2⟩) e6)⟩
    exact ⟨fun _ => k136 _, fun _ => k136 _⟩
  have k110 : wp_Mo_read_L110 Q I R 0 x2 0 := by unfold wp_Mo_read_L110; exact k115 4 (by decide)
  unfold wp_Mo_read
  simp only [t0]
  exact ⟨v02, fun v e => ⟨fun _ => ⟨fun _ => k52 _ (by decide), fun _ => k52 _ (by decide)⟩, fun n0 => ⟨fun _ => ⟨fun _ => ⟨fun _ => k82 _ (by decide), fun _ => k82 _ (by decide)⟩, fun _ => k82 _ (by decide)⟩, fun n1 => ⟨fun _ => ⟨fun _ => ⟨fun _ => k110, fun _ => ⟨fun _ => k115 _ (by decide), fun _ => k110⟩⟩, fun _ => k115 _ (by decide)⟩, fun n2 => ⟨fun h3 => s_readDigit0 m (by rw [← e]; exact h3) hQ, fun n3 => s_readEscaped0 m (by grind) hQ⟩⟩⟩⟩⟩
theorem s_read1 {B I : UI} {R : UR} {x2 : Int32} {Q : UI → UR → Prop} (m : M B I) (hQ : ∀ J, M B J → Q J R) : wp_Mo_read I R 1 x2 Q := by
  have c := m.2.2.2.1
  unfold rd1 at c
  have k52 : ∀ s, (0 ≤ s ∧ s ≤ 2) → wp_Mo_read_L52 Q I R s 1 := fun s hs => by unfold wp_Mo_read_L52; exact ⟨v12, fun I2 e2 => hQ _ (M_mode1 m hs e2)⟩
  have k82 : ∀ s, (0 ≤ s ∧ s ≤ 2) → wp_Mo_read_L82 Q I R s 1 := fun s hs => by unfold wp_Mo_read_L82; exact ⟨v12, fun I2 e2 => hQ _ (M_mode1 m hs e2)⟩
  have k115 : ∀ s, (0 ≤ s ∧ s ≤ 4) → wp_Mo_read_L115 Q I R 1 x2 s 1 := by
    intro s hs
    unfold wp_Mo_read_L115
    refine s_begin (w := 1) (Or.inr ⟨rfl, rfl⟩) (fun J b => ?_)
    have mj := bg1 m b (by grind) (by grind)
    have k136 : ∀ s, wp_Mo_read_L136 Q J R s 1 := fun s => by unfold wp_Mo_read_L136; exact ⟨v12, fun I6 e6 => hQ _ (M_wide mj (Or.inr ⟨rfl, fun _ _ => b.2.2⟩) e6)⟩
    exact ⟨fun _ => k136 _, fun _ => k136 _⟩
  have k110 : wp_Mo_read_L110 Q I R 1 x2 1 := by unfold wp_Mo_read_L110; exact k115 4 (by decide)
  unfold wp_Mo_read
  simp only [t1]
  exact ⟨v12, fun v e => ⟨fun _ => ⟨fun _ => k52 _ (by decide), fun _ => k52 _ (by decide)⟩, fun n0 => ⟨fun _ => ⟨fun _ => ⟨fun _ => k82 _ (by decide), fun _ => k82 _ (by decide)⟩, fun _ => k82 _ (by decide)⟩, fun n1 => ⟨fun _ => ⟨fun _ => ⟨fun _ => k110, fun _ => ⟨fun _ => k115 _ (by decide), fun _ => k110⟩⟩, fun _ => k115 _ (by decide)⟩, fun n2 => ⟨fun h3 => s_readDigit1 m (by rw [← e]; exact h3) hQ, fun n3 => s_readEscaped1 m (by grind) hQ⟩⟩⟩⟩⟩
