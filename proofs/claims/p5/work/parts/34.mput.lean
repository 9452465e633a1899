/-! What the reference keeps while it writes into a pipe. -/
theorem t0 : (0 : Int32).toNatClampNeg = 0 := rfl
theorem t1 : (1 : Int32).toNatClampNeg = 1 := rfl
theorem v02 : vp_in 0 2 := by rw [vp_in_iff]; decide
theorem v12 : vp_in 1 2 := by rw [vp_in_iff]; decide
theorem s_check16 {I : UI} {R : UR} {w : Nat} {x1 x2 M : Int32} {Q : Int32 → UI → UR → Prop} (hM : M.toInt = ln w) (h0 : 0 ≤ x1) (h1 : x1 ≤ x1 + x2) (h2 : x1 + x2 ≤ M) (hQ : ∀ r, Q r I R) : wp_Mo_check16 I R w x1 x2 Q := by
  have inner : ∀ (K5 : UI → UR → Int32 → Int32 → Int32 → Int32 → Prop) (x4 : Int32), 0 ≤ x4 → x4 < x1 + x2 → (∀ v, K5 I R x1 x2 v (x4 + 1)) → ∀ (n : Nat) (x3 x5 : Int32), -1 ≤ x5 → x5 ≤ 7 → x5.toInt + 1 < n → wp_Mo_check16_L17 w Q K5 n I R x1 x2 x3 x4 x5 := by
    intro K5 x4 g0 g1 hK n
    induction n with
    | zero => intro x3 x5 a b c; rw [Int32.le_iff_toInt_le] at a; have : (-1 : Int32).toInt = -1 := rfl; omega
    | succ n ih =>
      intro x3 x5 a b c
      rw [wp_Mo_check16_L17]
      refine ⟨fun _ v e => by rw [e]; exact hK _, fun h v e => ⟨vp_i hM g0 (by grind), ?_⟩⟩
      have k : ∀ s0 s1, wp_Mo_check16_L57 w Q K5 (fun I R x1 x2 x3 x4 x5 => wp_Mo_check16_L17 w Q K5 n I R x1 x2 x3 x4 x5) I R x1 x2 x4 x5 s0 s1 := by
        intro s0 s1
        unfold wp_Mo_check16_L57
        intro v3 e3 v4 e4
        have e5 : v4.toInt = x5.toInt - 1 := by
          rw [e4]
          rw [Int32.lt_iff_toInt_lt] at h
          have a0 : (0 : Int32).toInt = 0 := rfl
          have a1 : (-1 : Int32).toInt = -1 := rfl
          have := ti_hi x5
          rw [ti_add] <;> rw [a1] <;> omega
        exact ih v3 v4 (by grind) (by grind) (by omega)
      exact ⟨fun _ => k _ _, fun _ => k _ _⟩
  have key : ∀ (n : Nat) (x3 x4 : Int32), x1 ≤ x4 → x4 ≤ x1 + x2 → (x1 + x2).toInt < x4.toInt + n → wp_Mo_check16_L5 w Q n I R x1 x2 x3 x4 := by
    intro n
    induction n with
    | zero => intro x3 x4 a b c; rw [Int32.le_iff_toInt_le] at b; omega
    | succ n ih =>
      intro x3 x4 a b c
      rw [wp_Mo_check16_L5]
      refine ⟨fun _ => hQ _, fun h => ⟨9, inner _ x4 (by grind) (by grind) (fun v => ?_) 9 _ _ (by decide) (by decide) (by decide)⟩⟩
      exact ih v (x4 + 1) (by grind) (by grind) (cnt1 (y := x1 + x2) (by grind) c)
  unfold wp_Mo_check16
  exact ⟨((x1 + x2).toInt - x1.toInt).toNat + 1, key _ _ _ (by grind) h1 (by omega)⟩
theorem s_check32 {I : UI} {R : UR} {w : Nat} {x1 x2 M : Int32} {Q : Int32 → UI → UR → Prop} (hM : M.toInt = ln w) (h0 : 0 ≤ x1) (h1 : x1 ≤ x1 + x2) (h2 : x1 + x2 ≤ M) (hQ : ∀ r, Q r I R) : wp_Mo_check32 I R w x1 x2 Q := by
  have inner : ∀ (K5 : UI → UR → Int32 → Int32 → Int32 → Int32 → Prop) (x4 : Int32), 0 ≤ x4 → x4 < x1 + x2 → (∀ v, K5 I R x1 x2 v (x4 + 1)) → ∀ (n : Nat) (x3 x5 : Int32), 0 ≤ x5 → x5 ≤ 8 → 8 < x5.toInt + n → wp_Mo_check32_L16 w Q K5 n I R x1 x2 x3 x4 x5 := by
    intro K5 x4 g0 g1 hK n
    induction n with
    | zero => intro x3 x5 a b c; exact (cnt0 (n := 0) (M := 8) rfl b c).elim
    | succ n ih =>
      intro x3 x5 a b c
      rw [wp_Mo_check32_L16]
      refine ⟨fun _ v e => by rw [e]; exact hK _, fun h v e => ⟨vp_i hM g0 (by grind), ?_⟩⟩
      have k : ∀ s0 s1, wp_Mo_check32_L51 w Q K5 (fun I R x1 x2 x3 x4 x5 => wp_Mo_check32_L16 w Q K5 n I R x1 x2 x3 x4 x5) I R x1 x2 x4 x5 s0 s1 := by
        intro s0 s1
        unfold wp_Mo_check32_L51
        intro v3 e3 v4 e4
        rw [e4]
        exact ih v3 (x5 + 1) (by grind) (by grind) (cnt1 (y := 8) (by grind) c)
      exact ⟨fun _ => k _ _, fun _ => k _ _⟩
  have key : ∀ (n : Nat) (x3 x4 : Int32), x1 ≤ x4 → x4 ≤ x1 + x2 → (x1 + x2).toInt < x4.toInt + n → wp_Mo_check32_L5 w Q n I R x1 x2 x3 x4 := by
    intro n
    induction n with
    | zero => intro x3 x4 a b c; rw [Int32.le_iff_toInt_le] at b; omega
    | succ n ih =>
      intro x3 x4 a b c
      rw [wp_Mo_check32_L5]
      refine ⟨fun _ => hQ _, fun h => ⟨9, inner _ x4 (by grind) (by grind) (fun v => ?_) 9 _ _ (by decide) (by decide) (by decide)⟩⟩
      exact ih v (x4 + 1) (by grind) (by grind) (cnt1 (y := x1 + x2) (by grind) c)
  unfold wp_Mo_check32
  exact ⟨((x1 + x2).toInt - x1.toInt).toNat + 1, key _ _ _ (by grind) h1 (by omega)⟩
theorem s_checkByte {I : UI} {R : UR} {w : Nat} {x1 x2 x3 x4 : Int32} {Q : Int32 → UI → UR → Prop} (hw : w = 88 ∨ w = 110) (h0 : 0 ≤ x1) (h1 : x1 ≤ 80) (h2 : 0 ≤ x2) (h3 : x2 ≤ 65) (hQ : ∀ r, Q r I R) : wp_Mo_checkByte I R w x1 x2 x3 x4 Q := by
  have hM : (160 : Int32).toInt = ln w := by rcases hw with rfl | rfl <;> rfl
  unfold wp_Mo_checkByte
  exact ⟨fun _ => s_check16 hM h0 (by grind) (by grind) (fun r => hQ _), fun _ => s_check32 hM h0 (by grind) (by grind) (fun r => hQ _)⟩
def PF (B I : UI) : Prop := (∀ o k, o ≠ 81 → o ≠ 82 → o ≠ 110 → (o = 80 → k ≠ 29) → I o k = B o k) ∧ (0 ≤ I 82 0 ∧ I 82 0 ≤ 3000 ∧ B 82 0 ≤ I 82 0) ∧ (0 ≤ I 82 1 ∧ I 82 1 ≤ 3000 ∧ B 82 1 ≤ I 82 1)
theorem PF_word {B I J : UI} {k : Nat} {x : Int32} (p : PF B I) (e : J = u2 I 110 k x) : PF B J := by
  subst e
  obtain ⟨a, b, c⟩ := p
  refine ⟨fun o k' h1 h2 h3 h4 => ?_, ?_, ?_⟩
  · rw [u2_ne _ _ _ h3]; exact a o k' h1 h2 h3 h4
  · rw [u2_ne _ _ _ (by decide)]; exact b
  · rw [u2_ne _ _ _ (by decide)]; exact c
theorem PF_byte {B I J : UI} {k : Nat} {x : Int32} (p : PF B I) (e : J = u2 I 81 k x) : PF B J := by
  subst e
  obtain ⟨a, b, c⟩ := p
  refine ⟨fun o k' h1 h2 h3 h4 => ?_, ?_, ?_⟩
  · rw [u2_ne _ _ _ h1]; exact a o k' h1 h2 h3 h4
  · rw [u2_ne _ _ _ (by decide)]; exact b
  · rw [u2_ne _ _ _ (by decide)]; exact c
theorem PF_sent {B I J : UI} {x : Int32} (p : PF B I) (e : J = u2 I 80 29 x) : PF B J := by
  subst e
  obtain ⟨a, b, c⟩ := p
  refine ⟨fun o k' h1 h2 h3 h4 => ?_, ?_, ?_⟩
  · rw [u2_at, if_neg (by grind)]; exact a o k' h1 h2 h3 h4
  · rw [u2_ne _ _ _ (by decide)]; exact b
  · rw [u2_ne _ _ _ (by decide)]; exact c
theorem s_put {B I : UI} {R : UR} {x1 x2 : Int32} {Q : UI → UR → Prop} (p : PF B I) (hx : x1 = 0 ∨ x1 = 1) (hQ : ∀ I', PF B I' → Q I' R) : wp_Mo_put I R x1 x2 Q := by
  have k : ∀ I', PF B I' → wp_Mo_put_L40 Q I' R := fun I' p' => by
    unfold wp_Mo_put_L40
    exact fun I1 e1 => hQ _ (PF_sent p' e1)
  unfold wp_Mo_put
  rcases hx with rfl | rfl
  · simp only [t0]
    refine ⟨v02, fun _ => k _ p, fun h => ⟨v02, vp_i (M := 6000) rfl (by have := p.2.1; grind) (by have := p.2.1; grind), fun I2 e2 => ⟨v02, v02, fun I3 e3 => k _ ?_⟩⟩⟩
    have p2 := PF_byte p e2
    have g : I2 82 0 = I 82 0 := by rw [e2, u2_ne _ _ _ (by decide)]
    subst e3
    obtain ⟨a, b, c⟩ := p2
    refine ⟨fun o k' h1 h2 h3 h4 => ?_, ?_, ?_⟩
    · rw [u2_ne _ _ _ h2]; exact a o k' h1 h2 h3 h4
    · simp only [u2_at]; simp; grind
    · simp only [u2_at]; simp; grind
  · simp only [t1]
    refine ⟨v12, fun _ => k _ p, fun h => ⟨v12, vp_i (M := 6000) rfl (by have := p.2.2; grind) (by have := p.2.2; grind), fun I2 e2 => ⟨v12, v12, fun I3 e3 => k _ ?_⟩⟩⟩
    have p2 := PF_byte p e2
    have g : I2 82 1 = I 82 1 := by rw [e2, u2_ne _ _ _ (by decide)]
    subst e3
    obtain ⟨a, b, c⟩ := p2
    refine ⟨fun o k' h1 h2 h3 h4 => ?_, ?_, ?_⟩
    · rw [u2_ne _ _ _ h2]; exact a o k' h1 h2 h3 h4
    · simp only [u2_at]; simp; grind
    · simp only [u2_at]; simp; grind
theorem s_putEscaped {B I : UI} {R : UR} {x1 x2 : Int32} {Q : UI → UR → Prop} (p : PF B I) (hx : x1 = 0 ∨ x1 = 1) (hQ : ∀ I', PF B I' → Q I' R) : wp_Mo_putEscaped I R x1 x2 Q := by
  have k : wp_Mo_putEscaped_L45 Q I R x1 x2 := by
    unfold wp_Mo_putEscaped_L45
    exact s_put p hx (fun I1 p1 => s_put p1 hx hQ)
  unfold wp_Mo_putEscaped
  exact ⟨fun _ => k, fun _ => ⟨fun _ => k, fun _ => ⟨fun _ => k, fun _ => ⟨fun _ => k, fun _ => ⟨fun _ => k, fun _ => ⟨fun _ => k, fun _ => ⟨fun _ => s_put p hx hQ, fun _ => k⟩⟩⟩⟩⟩⟩⟩
theorem s_putDigits {B I : UI} {R : UR} {x1 x2 : Int32} {Q : UI → UR → Prop} (p : PF B I) (hx : x1 = 0 ∨ x1 = 1) (hQ : ∀ I', PF B I' → Q I' R) : wp_Mo_putDigits I R x1 x2 Q := by
  have k : ∀ (K2 : UI → UR → Int32 → Int32 → Int32 → Prop) (x3 : Int32) (I : UI), PF B I → (∀ I', PF B I' → K2 I' R x1 x2 (x3 - 4)) → ∀ s, wp_Mo_putDigits_L39 Q K2 I R x1 x2 x3 s x1 := by
    intro K2 x3 I p h s
    unfold wp_Mo_putDigits_L39
    exact s_put p hx (fun I1 p1 v e => by rw [e]; exact h _ p1)
  have a : ∀ I, PF B I → wp_Mo_putDigits_L2 Q 1 I R x1 x2 (0 - 4) := by
    intro I p
    rw [wp_Mo_putDigits_L2]
    exact ⟨fun _ => hQ _ p, fun h => absurd (by decide) h⟩
  have b : ∀ I, PF B I → wp_Mo_putDigits_L2 Q 2 I R x1 x2 (4 - 4) := by
    intro I p
    rw [wp_Mo_putDigits_L2]
    exact ⟨fun h => absurd h (by decide), fun _ v e => ⟨fun _ => k _ _ _ p (fun I' p' => a I' p') _, fun _ => k _ _ _ p (fun I' p' => a I' p') _⟩⟩
  unfold wp_Mo_putDigits
  refine ⟨3, ?_⟩
  rw [wp_Mo_putDigits_L2]
  exact ⟨fun h => absurd h (by decide), fun _ v e => ⟨fun _ => k _ _ _ p b _, fun _ => k _ _ _ p b _⟩⟩
theorem s_header {B I : UI} {R : UR} {x1 x2 : Int32} {Q : UI → UR → Prop} (p : PF B I) (hQ : ∀ I', PF B I' → Q I' R) : wp_Mo_header I R x1 x2 Q := by
  have key : ∀ (n : Nat) (I : UI) (x : Int32), PF B I → 0 ≤ x → x ≤ 4 → 4 < x.toInt + n → wp_Mo_header_L9 Q n I R x2 x := by
    intro n
    induction n with
    | zero => intro I x c h0 h1 h2; exact (cnt0 (n := 0) (M := 4) rfl h1 h2).elim
    | succ n ih =>
      intro I x c h0 h1 h2
      rw [wp_Mo_header_L9]
      refine ⟨fun _ => hQ _ c, fun h => ⟨vp_i (M := 160) rfl (by grind) (by grind), fun I2 e2 v e => ?_⟩⟩
      rw [e]
      exact ih _ _ (PF_word c e2) (by grind) (by grind) (cnt1 (y := 4) (by grind) h2)
  unfold wp_Mo_header
  exact ⟨vp_i (M := 160) rfl (by decide) (by decide), fun I1 e1 => ⟨5, key 5 _ 0 (PF_word p e1) (by decide) (by decide) (by decide)⟩⟩
theorem s_sendHex {B I : UI} {R : UR} {x1 x2 x3 : Int32} {Q : UI → UR → Prop} (p : PF B I) (hx : x1 = 0 ∨ x1 = 1) (hQ : ∀ I', PF B I' → Q I' R) : wp_Mo_sendHex I R x1 x2 x3 Q := by
  have key : ∀ (n : Nat) (I : UI) (x : Int32), PF B I → 0 ≤ x → x ≤ 2 → 2 < x.toInt + n → wp_Mo_sendHex_L64 Q n I R x1 x := by
    intro n
    induction n with
    | zero => intro I x c h0 h1 h2; exact (cnt0 (n := 0) (M := 2) rfl h1 h2).elim
    | succ n ih =>
      intro I x c h0 h1 h2
      rw [wp_Mo_sendHex_L64]
      refine ⟨fun _ => s_put c hx (fun I1 p1 => s_put p1 hx hQ), fun h => s_checkByte (by decide) (by decide) (by decide) (by decide) (by decide) (fun r => s_putDigits c hx (fun I2 p2 v e => ?_))⟩
      rw [e]
      exact ih _ _ p2 (by grind) (by grind) (cnt1 (y := 2) (by grind) h2)
  have key2 : ∀ (n : Nat) (I : UI) (x : Int32), PF B I → 0 ≤ x → x ≤ 5 → 5 < x.toInt + n → wp_Mo_sendHex_L37 Q n I R x1 x := by
    intro n
    induction n with
    | zero => intro I x c h0 h1 h2; exact (cnt0 (n := 0) (M := 5) rfl h1 h2).elim
    | succ n ih =>
      intro I x c h0 h1 h2
      rw [wp_Mo_sendHex_L37]
      refine ⟨fun _ => ⟨3, key 3 _ 0 c (by decide) (by decide) (by decide)⟩, fun h => ⟨vp_i (M := 160) rfl (by grind) (by grind), s_putDigits c hx (fun I2 p2 v e => ?_)⟩⟩
      rw [e]
      exact ih _ _ p2 (by grind) (by grind) (cnt1 (y := 5) (by grind) h2)
  unfold wp_Mo_sendHex
  exact s_header p (fun I1 p1 => s_put p1 hx (fun I2 p2 => s_put p2 hx (fun I3 p3 => s_put p3 hx (fun I4 p4 => s_put p4 hx (fun I5 p5 => ⟨6, key2 6 _ 0 p5 (by decide) (by decide) (by decide)⟩)))))
theorem s_sendBytes {B I : UI} {R : UR} {x1 x2 : Int32} {Q : UI → UR → Prop} (p : PF B I) (hQ : ∀ I', PF B I' → Q I' R) : wp_Mo_sendBytes I R x1 x2 Q := by
  have hx : (1 : Int32) = 0 ∨ (1 : Int32) = 1 := Or.inr rfl
  have key : ∀ (n : Nat) (I : UI) (x : Int32), PF B I → 0 ≤ x → x ≤ 4 → 4 < x.toInt + n → wp_Mo_sendBytes_L65 Q n I R x := by
    intro n
    induction n with
    | zero => intro I x c h0 h1 h2; exact (cnt0 (n := 0) (M := 4) rfl h1 h2).elim
    | succ n ih =>
      intro I x c h0 h1 h2
      rw [wp_Mo_sendBytes_L65]
      have k : ∀ s, s ≤ 4 → wp_Mo_sendBytes_L78 Q (fun I R x3 => wp_Mo_sendBytes_L65 Q n I R x3) I R x s x := by
        intro s hs
        unfold wp_Mo_sendBytes_L78
        refine ⟨fun _ => hQ _ c, fun h => s_checkByte (by decide) (by decide) (by decide) (by decide) (by decide) (fun r => s_putEscaped c hx (fun I2 p2 v e => ?_))⟩
        rw [e]
        exact ih _ _ p2 (by grind) (by grind) (cnt1 (y := 4) (by grind) h2)
      exact ⟨fun _ => k _ (by decide), fun _ => k _ (by decide)⟩
  have key2 : ∀ (n : Nat) (I : UI) (x : Int32), PF B I → 0 ≤ x → x ≤ 5 → 5 < x.toInt + n → wp_Mo_sendBytes_L41 Q n I R x := by
    intro n
    induction n with
    | zero => intro I x c h0 h1 h2; exact (cnt0 (n := 0) (M := 5) rfl h1 h2).elim
    | succ n ih =>
      intro I x c h0 h1 h2
      rw [wp_Mo_sendBytes_L41]
      refine ⟨fun _ => ⟨5, key 5 _ 0 c (by decide) (by decide) (by decide)⟩, fun h => ⟨vp_i (M := 160) rfl (by grind) (by grind), s_putEscaped c hx (fun I2 p2 v e => ?_)⟩⟩
      rw [e]
      exact ih _ _ p2 (by grind) (by grind) (cnt1 (y := 5) (by grind) h2)
  have key3 : ∀ I s, PF B I → wp_Mo_sendBytes_L36 Q I R s 1 := by
    intro I s c
    unfold wp_Mo_sendBytes_L36
    exact s_put c hx (fun I5 p5 => ⟨6, key2 6 _ 0 p5 (by decide) (by decide) (by decide)⟩)
  unfold wp_Mo_sendBytes
  exact s_header p (fun I1 p1 => s_put p1 hx (fun I2 p2 => s_put p2 hx (fun I3 p3 => ⟨fun _ => key3 _ _ p3, fun _ => key3 _ _ p3⟩)))
theorem s_moSendPacket {B I : UI} {R : UR} {x1 x2 : Int32} {Q : UI → UR → Prop} (p : PF B I) (g0 : 0 ≤ x1) (g1 : x1 ≤ 64) (hQ : ∀ I', PF B I' → Q I' R) : wp_Mo_sendPacket I R x1 x2 Q := by
  have hx : (1 : Int32) = 0 ∨ (1 : Int32) = 1 := Or.inr rfl
  have key : ∀ (n : Nat) (I : UI) (x : Int32), PF B I → 0 ≤ x → x ≤ 4 → 4 < x.toInt + n → wp_Mo_sendPacket_L46 Q n I R x1 x := by
    intro n
    induction n with
    | zero => intro I x c h0 h1 h2; exact (cnt0 (n := 0) (M := 4) rfl h1 h2).elim
    | succ n ih =>
      intro I x c h0 h1 h2
      rw [wp_Mo_sendPacket_L46]
      have k : ∀ s, s ≤ 4 → wp_Mo_sendPacket_L59 Q (fun I R x1 x3 => wp_Mo_sendPacket_L46 Q n I R x1 x3) I R x1 x s x := by
        intro s hs
        unfold wp_Mo_sendPacket_L59
        refine ⟨fun _ => hQ _ c, fun h => s_checkByte (by decide) (by decide) (by decide) (by grind) (by grind) (fun r => s_putEscaped c hx (fun I2 p2 v e => ?_))⟩
        rw [e]
        exact ih _ _ p2 (by grind) (by grind) (cnt1 (y := 4) (by grind) h2)
      exact ⟨fun _ => k _ (by decide), fun _ => k _ (by decide)⟩
  have key2 : ∀ (n : Nat) (I : UI) (x : Int32), PF B I → 0 ≤ x → x ≤ x1 → x1.toInt < x.toInt + n → wp_Mo_sendPacket_L2 Q n I R x1 x2 x := by
    intro n
    induction n with
    | zero => intro I x c h0 h1 h2; exact (cnt0 (n := 0) (M := x1) rfl h1 h2).elim
    | succ n ih =>
      intro I x c h0 h1 h2
      rw [wp_Mo_sendPacket_L2]
      refine ⟨fun _ => s_put c hx (fun I1 p1 => s_put p1 hx (fun I3 p3 => ⟨vp_i (M := 160) rfl g0 (by grind), fun I5 e5 => ⟨5, key 5 _ 0 (PF_word p3 e5) (by decide) (by decide) (by decide)⟩⟩)), fun h => ⟨vp_i (M := 160) rfl (by grind) (by grind), s_putEscaped c hx (fun I2 p2 v e => ?_)⟩⟩
      rw [e]
      exact ih _ _ p2 (by grind) (by grind) (cnt1 (y := x1) (by grind) h2)
  unfold wp_Mo_sendPacket
  exact ⟨x1.toInt.toNat + 1, key2 _ _ 0 p (by decide) g0 (by rw [show (0 : Int32).toInt = 0 from rfl]; omega)⟩
