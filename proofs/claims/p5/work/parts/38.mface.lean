/-! What the reference keeps: its face. -/
def MF (B I : UI) : Prop := mB I ∧ mN I ∧ rd0 I ∧ rd1 I ∧ ∀ o k, o < 80 → I o k = B o k
theorem MF_M {B I : UI} (m : MF B I) : M I I := ⟨m.1, m.2.1, m.2.2.1, m.2.2.2.1, fun _ _ _ => rfl, Int32.le_refl _, rfl⟩
theorem MF_of {B I J : UI} (m : MF B I) (h : M I J) : MF B J := ⟨h.1, h.2.1, h.2.2.1, h.2.2.2.1, fun o k ho => by rw [h.2.2.2.2.1 o k ho]; exact m.2.2.2.2 o k ho⟩
theorem MF_irr {B I J : UI} {o k : Nat} {x : Int32} (m : MF B I) (h : rel o k = false) (e : J = u2 I o k x) : MF B J := MF_of m (M_irr (MF_M m) h e)
theorem rows_u2 {B I : UI} {o k : Nat} {x : Int32} (f : ∀ o k, o < 80 → I o k = B o k) (ho : 80 ≤ o) : ∀ o' k', o' < 80 → u2 I o k x o' k' = B o' k' := by
  intro o' k' ho'
  rw [u2_ne _ _ _ (by omega)]; exact f o' k' ho'
theorem MF_ref {B I J : UI} {x : Int32} (m : MF B I) (e : J = u2 I 80 0 x) : MF B J := by
  subst e; obtain ⟨a, b, c, d, f⟩ := m
  refine ⟨?_, ?_, ?_, ?_, rows_u2 f (by decide)⟩
  · unfold mB at *; simp only [u2_at]; simp; grind
  · unfold mN at *; simp only [u2_at]; simp; grind
  · unfold rd0 at *; simp only [u2_at]; simp; grind
  · unfold rd1 at *; simp only [u2_at]; simp; grind
theorem MF_sz {B I J : UI} {w : Nat} {x : Int32} (m : MF B I) (h0 : 0 ≤ x) (h1 : x ≤ 3000) (e : J = u2 I 82 w x) : MF B J := by
  subst e; obtain ⟨a, b, c, d, f⟩ := m
  refine ⟨?_, ?_, ?_, ?_, rows_u2 f (by decide)⟩
  · unfold mB at *; simp only [u2_at]; simp; grind
  · unfold mN at *; simp only [u2_at]; simp; grind
  · unfold rd0 at *; simp only [u2_at]; simp; grind
  · unfold rd1 at *; simp only [u2_at]; simp; grind
theorem MF_size {B I J : UI} {x : Int32} (m : MF B I) (h0 : 1 ≤ x) (h1 : x ≤ 64) (e : J = u2 I 80 12 x) : MF B J := by
  subst e; obtain ⟨a, b, c, d, f⟩ := m
  refine ⟨?_, ?_, ?_, ?_, rows_u2 f (by decide)⟩
  · unfold mB at *; simp only [u2_at]; simp; grind
  · unfold mN at *; simp only [u2_at]; simp; grind
  · unfold rd0 at *; simp only [u2_at]; simp; grind
  · unfold rd1 at *; simp only [u2_at]; simp; grind
theorem MF_cur {B I J : UI} {x : Int32} (m : MF B I) (h0 : 0 ≤ x) (h1 : x ≤ 4) (hs : I 80 17 = 0 ∨ I 80 17 = 5) (e : J = u2 I 80 18 x) : MF B J := by
  subst e; obtain ⟨a, b, c, d, f⟩ := m
  refine ⟨?_, ?_, ?_, ?_, rows_u2 f (by decide)⟩
  · unfold mB at *; simp only [u2_at]; simp; grind
  · unfold mN at *; simp only [u2_at]; simp; grind
  · unfold rd0 at *; simp only [u2_at]; simp; grind
  · unfold rd1 at *; simp only [u2_at]; simp; grind
theorem MF_place {B I J : UI} {x : Int32} (m : MF B I) (hs : I 80 17 = 0 ∨ I 80 17 = 5) (e : J = u2 I 80 19 x) : MF B J := by
  subst e; obtain ⟨a, b, c, d, f⟩ := m
  refine ⟨?_, ?_, ?_, ?_, rows_u2 f (by decide)⟩
  · unfold mB at *; simp only [u2_at]; simp; grind
  · unfold mN at *; simp only [u2_at]; simp; grind
  · unfold rd0 at *; simp only [u2_at]; simp; grind
  · unfold rd1 at *; simp only [u2_at]; simp; grind
theorem MF_files {B I J : UI} {x : Int32} (m : MF B I) (h0 : 0 ≤ x) (h1 : x ≤ 4) (e : J = u2 I 80 13 x) : MF B J := by
  subst e; obtain ⟨a, b, c, d, f⟩ := m
  refine ⟨?_, ?_, ?_, ?_, rows_u2 f (by decide)⟩
  · unfold mB at *; simp only [u2_at]; simp; grind
  · unfold mN at *; simp only [u2_at]; simp; grind
  · unfold rd0 at *; simp only [u2_at]; simp; grind
  · unfold rd1 at *; simp only [u2_at]; simp; grind
theorem MF_len {B I J : UI} {k : Nat} {x : Int32} (m : MF B I) (h0 : 0 ≤ x) (h1 : x ≤ 300) (hs : I 80 17 = 5) (e : J = u2 I 95 k x) : MF B J := by
  subst e; obtain ⟨a, b, c, d, f⟩ := m
  refine ⟨?_, ?_, ?_, ?_, rows_u2 f (by decide)⟩
  · unfold mB at *; simp only [u2_at]; simp; grind
  · unfold mN at *; simp only [u2_at]; simp; grind
  · unfold rd0 at *; simp only [u2_at]; simp; grind
  · unfold rd1 at *; simp only [u2_at]; simp; grind
theorem s_refused {B I : UI} {R : UR} {x : Int32} {Q : Int32 → UI → UR → Prop} (m : MF B I) (h0 : x ≤ 0 → ∀ J, J = u2 I 80 0 x → MF B J → Q 0 J R) (h1 : ¬ x ≤ 0 → ∀ J, J = u2 I 80 0 x → MF B J → Q 1 J R) : wp_Mo_refused I R x Q := by
  unfold wp_Mo_refused
  exact fun J e => ⟨fun h => ⟨z0, h0 h J e (MF_ref m e)⟩, fun h => ⟨z1, h1 h J e (MF_ref m e)⟩⟩
theorem mf_sz {B I : UI} {x : Int32} {w : Nat} (m : MF B I) (hx : (x = 0 ∧ w = 0) ∨ (x = 1 ∧ w = 1)) : x.toNatClampNeg = w ∧ vp_in x 2 ∧ 0 ≤ I 82 w ∧ I 82 w ≤ 3000 := by
  have a := m.1
  unfold mB at a
  rcases hx with ⟨rfl, rfl⟩ | ⟨rfl, rfl⟩
  · exact ⟨rfl, v02, a.1⟩
  · exact ⟨rfl, v12, a.2.1⟩
theorem s_take {B I : UI} {R : UR} {x1 x2 x3 : Int32} {w : Nat} {Q : UI → UR → Prop} (m : MF B I) (hx : (x1 = 0 ∧ w = 0) ∨ (x1 = 1 ∧ w = 1)) (h2 : 0 ≤ x2) (h3 : 0 ≤ x3) (h4 : x3 ≤ I 82 w) (hQ : ∀ J, MF B J → Q J R) : wp_Mo_take I R x1 x2 x3 Q := by
  have hw := (mf_sz m hx).1
  have hv := (mf_sz m hx).2.1
  have hs := (mf_sz m hx).2.2
  have step : ∀ (n : Nat) (I : UI) (x : Int32), MF B I → I 82 w + x3 ≤ 3000 → 0 ≤ x → (x < I 82 w → ∀ I2, MF B I2 → I2 82 w = I 82 w → wp_Mo_take_L17 Q n I2 R x1 x3 (x + 1)) → wp_Mo_take_L17 Q (n + 1) I R x1 x3 x := by
    intro n I x m hl h0 ih
    have hb := (mf_sz m hx).2.2
    rw [wp_Mo_take_L17, hw]
    refine ⟨hv, fun _ => hQ _ m, fun h => ⟨vp_i (M := 6000) rfl ?_ ?_, vp_i (M := 6000) rfl ?_ ?_, fun I2 e2 v e => ?_⟩⟩
    · rcases hx with ⟨rfl, _⟩ | ⟨rfl, _⟩ <;> grind
    · rcases hx with ⟨rfl, _⟩ | ⟨rfl, _⟩ <;> grind
    · rcases hx with ⟨rfl, _⟩ | ⟨rfl, _⟩ <;> grind
    · rcases hx with ⟨rfl, _⟩ | ⟨rfl, _⟩ <;> grind
    · rw [e]
      exact ih (by grind) I2 (MF_irr m (by simp [rel]) e2) (by rw [e2, u2_ne _ _ _ (by decide)])
  have key : ∀ (n : Nat) (I : UI) (x : Int32), MF B I → I 82 w + x3 ≤ 3000 → 0 ≤ x → 3000 ≤ x.toInt + n → wp_Mo_take_L17 Q (n + 1) I R x1 x3 x := by
    intro n
    induction n with
    | zero =>
      intro I x m hl h0 h1
      refine step 0 I x m hl h0 (fun h => ?_)
      have hb := (mf_sz m hx).2.2
      have : (3000 : Int32) ≤ x := by rw [Int32.le_iff_toInt_le]; have : (3000 : Int32).toInt = 3000 := rfl; omega
      exact absurd h (by grind)
    | succ n ih =>
      intro I x m hl h0 h1
      refine step (n + 1) I x m hl h0 (fun h I2 m2 g => ih I2 (x + 1) m2 (by rw [g]; exact hl) ?_ ?_)
      · have hb := (mf_sz m hx).2.2; grind
      · rw [ti_succ h]; omega
  unfold wp_Mo_take
  rw [hw]
  refine ⟨hv, hv, fun I1 e1 => ⟨3001, ?_⟩⟩
  have m1 := MF_sz m (by grind) (by grind) e1
  have g : I1 82 w = I 82 w - x3 := by rw [e1, u2_at, if_pos ⟨rfl, rfl⟩]
  exact key 3000 I1 x2 m1 (by grind) h2 (by rw [Int32.le_iff_toInt_le] at h2; have : (0 : Int32).toInt = 0 := rfl; omega)
theorem s_moOpen {B I : UI} {R : UR} {x : Int32} {Q : Int32 → UI → UR → Prop} (m : MF B I) (hQ : ∀ r J, MF B J → Q r J R) : wp_Mo_open I R x Q := by
  have a := m.1
  unfold mB at a
  have kno : ∀ s, ¬ s ≤ 0 → wp_Mo_open_L82 Q I R x s := by
    intro s hs
    unfold wp_Mo_open_L82
    exact s_refused m (fun h => absurd h hs) (fun _ J _ mj => ⟨fun h => absurd h (by decide), fun _ => hQ _ _ mj⟩)
  have k77 : wp_Mo_open_L77 Q I R x := by unfold wp_Mo_open_L77; exact kno 2 (by decide)
  have kyes : ¬ I 80 13 = 4 → I 80 17 = 5 → wp_Mo_open_L82 Q I R x 0 := by
    intro h4 h5
    unfold wp_Mo_open_L82
    refine s_refused m (fun _ J ej mj => ⟨fun _ => ?_, fun h => absurd rfl h⟩) (fun h => absurd (by decide) h)
    have q13 : J 80 13 = I 80 13 := by rw [ej, u2_at, if_neg (by decide)]
    have q17 : J 80 17 = 5 := by rw [ej, u2_at, if_neg (by decide)]; exact h5
    have hv : vp_in (J 80 13) 4 := vp_i (M := 4) rfl (by grind) (by grind)
    refine ⟨hv, fun I7 e7 => ?_⟩
    have m7 := MF_irr mj (by simp [rel]) e7
    have p13 : I7 80 13 = J 80 13 := by rw [e7, u2_ne _ _ _ (by decide)]
    have p17 : I7 80 17 = 5 := by rw [e7, u2_ne _ _ _ (by decide)]; exact q17
    refine ⟨by rw [p13]; exact hv, fun I8 e8 I9 e9 I10 e10 => hQ _ _ ?_⟩
    have m8 := MF_len m7 (by decide) (by decide) p17 e8
    have r13 : I8 80 13 = I7 80 13 := by rw [e8, u2_ne _ _ _ (by decide)]
    have r17 : I8 80 17 = 5 := by rw [e8, u2_ne _ _ _ (by decide)]; exact p17
    have m9 := MF_files m8 (by grind) (by grind) e9
    have s13 : I9 80 13 = I8 80 13 + 1 := by rw [e9, u2_at, if_pos ⟨rfl, rfl⟩]
    have s17 : I9 80 17 = 5 := by rw [e9, u2_at, if_neg (by decide)]; exact r17
    exact MF_cur m9 (by grind) (by grind) (Or.inr s17) e10
  have key : ∀ (n : Nat) (x2 y : Int32), 0 ≤ y → y ≤ 4 → 4 < y.toInt + n → wp_Mo_open_L18 Q n I R x x2 y := by
    intro n
    induction n with
    | zero => intro x2 y h0 h1 h2; exact (cnt0 (n := 0) (M := 4) rfl h1 h2).elim
    | succ n ih =>
      intro x2 y h0 h1 h2
      rw [wp_Mo_open_L18]
      refine ⟨fun _ => ⟨fun _ => ⟨fun _ => k77, fun h4 => ⟨fun h5 => kyes h4 h5, fun _ => k77⟩⟩, fun _ => kno 1 (by decide)⟩, fun h => ?_⟩
      have k45 : ∀ s, wp_Mo_open_L45 Q (fun I R x1 x2 x3 => wp_Mo_open_L18 Q n I R x1 x2 x3) I R x y s := by
        intro s
        unfold wp_Mo_open_L45
        intro v e
        rw [e]
        exact ih s (y + 1) (by grind) (by grind) (cnt1 (y := 4) (by grind) h2)
      have k40 : wp_Mo_open_L40 Q (fun I R x1 x2 x3 => wp_Mo_open_L18 Q n I R x1 x2 x3) I R x y := by unfold wp_Mo_open_L40; exact k45 1
      exact ⟨fun _ => k40, fun _ => ⟨vp_i (M := 4) rfl h0 (by grind), fun _ => k45 0, fun _ => k40⟩⟩
  have k15 : ∀ s, wp_Mo_open_L15 Q I R x s := fun s => by unfold wp_Mo_open_L15; exact ⟨5, key 5 s 0 (by decide) (by decide) (by decide)⟩
  unfold wp_Mo_open
  exact s_isIn (fun _ => ⟨fun _ => k15 _, fun _ => k15 _⟩) (fun _ _ => ⟨fun _ => k15 _, fun _ => k15 _⟩)
theorem s_moFeed {B I : UI} {R : UR} {x1 x2 x3 x4 x5 : Int32} {Q : Int32 → UI → UR → Prop} (m : MF B I) (hQ : ∀ r J, MF B J → Q r J R) : wp_Mo_feed I R x1 x2 x3 x4 x5 Q := by
  have a := m.1
  unfold mB at a
  have kno : ∀ s v, ¬ s ≤ 0 → wp_Mo_feed_L56 Q I R x1 x2 x3 x4 x5 v s := by
    intro s v hs
    unfold wp_Mo_feed_L56
    exact s_refused m (fun h => absurd h hs) (fun _ J _ mj => ⟨fun h => absurd h (by decide), fun _ => hQ _ _ mj⟩)
  have k51 : ∀ v, wp_Mo_feed_L51 Q I R x1 x2 x3 x4 x5 v := fun v => by unfold wp_Mo_feed_L51; exact kno 2 v (by decide)
  unfold wp_Mo_feed
  refine fun v e => s_isIn (fun _ => ⟨fun h => absurd rfl h, fun _ => kno 1 v (by decide)⟩) (fun g0 g1 => ⟨fun _ => ⟨fun _ => k51 _, fun hv0 => ⟨fun _ => k51 _, fun h5 => ?_⟩⟩, fun h => absurd h (by decide)⟩)
  have b0 : 0 ≤ v := by grind
  have b1 : v < 4 := by grind
  have hv : vp_in v 4 := vp_i (M := 4) rfl b0 b1
  have hl := cl_lt (M := 4) (n := 4) rfl b0 b1
  refine ⟨hv, fun hfit => ?_, fun _ => k51 _⟩
  have key : ∀ (n : Nat) (I : UI) (y : Int32), MF B I → I 80 17 = 5 → 0 ≤ I 95 v.toNatClampNeg → I 95 v.toNatClampNeg + (x1 - y) ≤ 300 → I 95 v.toNatClampNeg ≤ 300 → 0 ≤ y → y ≤ x1 → x1.toInt < y.toInt + n → wp_Mo_feed_L67 Q n I R x1 x2 x3 x4 x5 v y := by
    intro n
    induction n with
    | zero => intro I y m hs l0 l1 l2 h0 h1 h2; exact (cnt0 (n := 0) (M := x1) rfl h1 h2).elim
    | succ n ih =>
      intro I y m hs l0 l1 l2 h0 h1 h2
      rw [wp_Mo_feed_L67]
      refine ⟨fun _ => ⟨hv, hQ _ _ m⟩, fun h3 => ?_⟩
      have k : ∀ z, wp_Mo_feed_L108 Q (fun I R x1 x2 x3 x4 x5 x6 x7 => wp_Mo_feed_L67 Q n I R x1 x2 x3 x4 x5 x6 x7) I R x1 x2 x3 x4 x5 v y z := by
        intro z
        unfold wp_Mo_feed_L108
        refine ⟨hv, vp_i (M := 1200) rfl (by grind) (by grind), fun I8 e8 => ⟨hv, hv, fun I9 e9 w ew => ?_⟩⟩
        have m8 := MF_irr m (by simp [rel]) e8
        have q17 : I8 80 17 = 5 := by rw [e8, u2_ne _ _ _ (by decide)]; exact hs
        have q95 : I8 95 = I 95 := by rw [e8]; unfold u2; rw [va_up_ne _ _ (by decide)]
        have m9 := MF_len m8 (by rw [q95]; grind) (by rw [q95]; grind) q17 e9
        have p17 : I9 80 17 = 5 := by rw [e9, u2_ne _ _ _ (by decide)]; exact q17
        have p95 : I9 95 v.toNatClampNeg = I 95 v.toNatClampNeg + 1 := by rw [e9, u2_at, if_pos ⟨rfl, rfl⟩, q95]
        rw [ew]
        exact ih I9 (y + 1) m9 p17 (by rw [p95]; grind) (by rw [p95]; grind) (by rw [p95]; grind) (by grind) (by grind) (cnt1 (y := x1) (by grind) h2)
      exact ⟨fun _ => ⟨fun _ => ⟨fun _ => k _, fun _ => k _⟩, fun _ => k _⟩, fun _ => k _⟩
  unfold wp_Mo_feed_L56
  refine s_refused m (fun _ J ej mj => ⟨fun _ => ⟨x1.toInt.toNat + 1, ?_⟩, fun h => absurd rfl h⟩) (fun h => absurd (by decide) h)
  have q17 : J 80 17 = 5 := by rw [ej, u2_at, if_neg (by decide)]; exact h5
  have q95 : J 95 = I 95 := by rw [ej]; unfold u2; rw [va_up_ne _ _ (by decide)]
  have hL := a.2.2.2.2.2.1 _ hl
  exact key _ J 0 mj q17 (by rw [q95]; grind) (by rw [q95]; grind) (by rw [q95]; grind) (by decide) g0 (by rw [show (0 : Int32).toInt = 0 from rfl]; omega)
theorem s_moClear {B I : UI} {R : UR} {Q : Int32 → UI → UR → Prop} (m : MF B I) (hQ : ∀ r J, MF B J → Q r J R) : wp_Mo_clear I R Q := by
  unfold wp_Mo_clear
  refine ⟨fun _ => ?_, fun h5 => ?_⟩
  · unfold wp_Mo_clear_L14
    exact s_refused m (fun h => absurd h (by decide)) (fun _ J _ mj => ⟨fun h => absurd h (by decide), fun _ => hQ _ _ mj⟩)
  · unfold wp_Mo_clear_L14
    refine s_refused m (fun _ J ej mj => ⟨fun _ v4 e4 I5 e5 I6 e6 I7 e7 => hQ _ _ ?_, fun h => absurd rfl h⟩) (fun h => absurd (by decide) h)
    have q17 : J 80 17 = 5 := by rw [ej, u2_at, if_neg (by decide)]; exact h5
    have p17 : I5 80 17 = 5 := by rw [e5, u2_at, if_neg (by decide)]; exact q17
    have r17 : I6 80 17 = 5 := by rw [e6, u2_at, if_neg (by decide)]; exact p17
    exact MF_place (MF_cur (MF_files mj (by decide) (by decide) e5) (by decide) (by decide) (Or.inr p17) e6) (Or.inr r17) e7
/-- start: it refuses just where the size is out of range -/
theorem s_moStart {B I : UI} {R : UR} {x1 x2 : Int32} {Q : UI → UR → Prop} (m : MF B I) (hz : zb x1) (h1 : ¬ (1 ≤ x2 ∧ x2 ≤ 64) → ∀ J, MF B J → J 80 0 = 1 → Q J R) (h0 : 1 ≤ x2 ∧ x2 ≤ 64 → ∀ J, MF B J → J 80 0 = 0 → Q J R) : wp_Mo_start I R x1 x2 Q := by
  have hyes : 1 ≤ x2 ∧ x2 ≤ 64 → wp_Mo_start_L16 Q I R x1 x2 0 := by
    intro hx
    have k96 : ∀ (n : Nat) (I : UI) (y : Int32), MF B I → I 80 0 = 0 → 0 ≤ y → y ≤ 4 → 4 < y.toInt + n → wp_Mo_start_L96 Q n I R y := by
      intro n
      induction n with
      | zero => intro I y m h r0 r1 r2; exact (cnt0 (n := 0) (M := 4) rfl r1 r2).elim
      | succ n ih =>
        intro I y m h r0 r1 r2
        rw [wp_Mo_start_L96]
        refine ⟨fun _ => s_again (MF_M m) (fun J pj mj => h0 hx J (MF_of m mj) (by rw [mj.2.2.2.2.2.2]; exact h)), fun h4 => ⟨vp_i (M := 4) rfl r0 (by grind), fun I18 e18 v e => ?_⟩⟩
        rw [e]
        exact ih I18 (y + 1) (MF_irr m (by simp [rel]) e18) (by rw [e18, u2_ne _ _ _ (by decide)]; exact h) (by grind) (by grind) (cnt1 (y := 4) (by grind) r2)
    have kend : ∀ (n : Nat) (I : UI), MF B I → I 80 0 = 0 → I 83 1 = 0 → wp_Mo_start_L30 Q (n + 1) I R x1 2 := by
      intro n I m h h83
      rw [wp_Mo_start_L30]
      refine ⟨fun _ => ⟨z0, fun I8 e8 I9 e9 I10 e10 I11 e11 => ⟨z0, fun I12 e12 I13 e13 => ⟨hz, fun I14 e14 => ⟨z0, fun I15 e15 => ⟨5, k96 5 I15 0 ?_ ?_ (by decide) (by decide) (by decide)⟩⟩⟩⟩⟩, fun h => absurd (by decide) h⟩
      · have m8 := MF_irr m (by decide) e8
        have m9 := MF_of m8 (M_st (MF_M m8) (Or.inl rfl) e9)
        have p9 : I9 80 17 = 0 := by rw [e9, u2_at, if_pos ⟨rfl, rfl⟩]
        have m10 := MF_cur m9 (by decide) (by decide) (Or.inl p9) e10
        have p10 : I10 80 17 = 0 := by rw [e10, u2_at, if_neg (by decide)]; exact p9
        have m11 := MF_place m10 (Or.inl p10) e11
        have m12 := MF_irr m11 (by decide) e12
        have p12 : I12 83 1 = 0 := by rw [e12, u2_ne _ _ _ (by decide), e11, u2_ne _ _ _ (by decide), e10, u2_ne _ _ _ (by decide), e9, u2_ne _ _ _ (by decide), e8, u2_ne _ _ _ (by decide)]; exact h83
        have m13 := MF_of m12 (M_open (MF_M m12) ⟨by decide, fun h => absurd h (by rw [p12]; decide)⟩ e13)
        exact MF_irr (MF_irr m13 (by decide) e14) (by decide) e15
      · rw [e15, u2_at, if_neg (by decide), e14, u2_at, if_neg (by decide), e13, u2_at, if_neg (by decide), e12, u2_at, if_neg (by decide), e11, u2_at, if_neg (by decide), e10, u2_at, if_neg (by decide), e9, u2_at, if_neg (by decide), e8, u2_at, if_neg (by decide)]; exact h
    have k1 : ∀ (n : Nat) (I : UI), MF B I → I 80 0 = 0 → wp_Mo_start_L30 Q (n + 2) I R x1 1 := by
      intro n I m h
      rw [wp_Mo_start_L30]
      refine ⟨fun h => absurd h (by decide), fun _ => ⟨v12, fun I20 e20 => s_begin (w := 1) (Or.inr ⟨rfl, rfl⟩) (fun J b v e => ?_)⟩⟩
      have m20 := MF_sz m (by decide) (by decide) e20
      rw [e]
      exact kend n J (MF_of m20 (bg1 (MF_M m20) b (by decide) (fun h => absurd h (by decide)))) (by rw [bg_ne b (by decide), e20, u2_ne _ _ _ (by decide)]; exact h) b.2.1
    have k0 : ∀ (n : Nat) (I : UI), MF B I → I 80 0 = 0 → wp_Mo_start_L30 Q (n + 3) I R x1 0 := by
      intro n I m h
      rw [wp_Mo_start_L30]
      refine ⟨fun h => absurd h (by decide), fun _ => ⟨v02, fun I20 e20 => s_begin (w := 0) (Or.inl ⟨rfl, rfl⟩) (fun J b v e => ?_)⟩⟩
      have m20 := MF_sz m (by decide) (by decide) e20
      rw [e]
      exact k1 n J (MF_of m20 (bg0 (MF_M m20) b (by decide))) (by rw [bg_ne b (by decide), e20, u2_ne _ _ _ (by decide)]; exact h)
    unfold wp_Mo_start_L16
    refine s_refused m (fun _ J ej mj => ⟨fun _ I7 e7 => ⟨3, k0 0 I7 (MF_size mj hx.1 hx.2 e7) ?_⟩, fun h => absurd rfl h⟩) (fun h => absurd (by decide) h)
    rw [e7, u2_at, if_neg (by decide), ej, u2_at, if_pos ⟨rfl, rfl⟩]
  have hno : ¬ (1 ≤ x2 ∧ x2 ≤ 64) → wp_Mo_start_L16 Q I R x1 x2 1 := by
    intro hx
    unfold wp_Mo_start_L16
    exact s_refused m (fun h => absurd h (by decide)) (fun _ J ej mj => ⟨fun h => absurd h (by decide), fun _ => h1 hx _ mj (by rw [ej, u2_at, if_pos ⟨rfl, rfl⟩])⟩)
  unfold wp_Mo_start
  exact s_isIn (fun h => ⟨fun _ => hno h, fun h => absurd rfl h⟩) (fun g0 g1 => ⟨fun h => absurd h (by decide), fun _ => hyes ⟨g0, g1⟩⟩)
theorem s_moSender {B I : UI} {R : UR} {Q : Int32 → UI → UR → Prop} (m : MF B I) (hQ : ∀ r J, MF B J → Q r J R) : wp_Mo_sender I R Q := by
  unfold wp_Mo_sender
  refine fun I1 e1 I2 e2 => ⟨v02, fun v3 e3 => ⟨v02, fun I4 e4 => ?_⟩⟩
  have m2 := MF_irr (MF_ref m e1) (by decide) e2
  have m4 := MF_sz m2 (by decide) (by decide) e4
  have a := m2.1
  unfold mB at a
  have key : ∀ (n : Nat) (I : UI) (y : Int32), MF B I → 0 ≤ y → y ≤ v3 → v3.toInt < y.toInt + n → wp_Mo_sender_L26 Q n I R v3 y := by
    intro n
    induction n with
    | zero => intro I y m r0 r1 r2; exact (cnt0 (n := 0) (M := v3) rfl r1 r2).elim
    | succ n ih =>
      intro I y m r0 r1 r2
      rw [wp_Mo_sender_L26]
      refine ⟨fun _ => s_sendOn (MF_M m) (fun J mj => hQ _ _ (MF_of m mj)), fun h => ⟨vp_i (M := 6000) rfl r0 (by rw [t0] at e3; grind), s_read0 (MF_M m) (fun J mj v e => ?_)⟩⟩
      rw [e]
      exact ih J (y + 1) (MF_of m mj) (by rw [t0] at e3; grind) (by grind) (cnt1 (y := v3) (by grind) r2)
  exact ⟨v3.toInt.toNat + 1, key _ I4 0 m4 (by decide) (by rw [t0] at e3; grind) (by rw [show (0 : Int32).toInt = 0 from rfl]; omega)⟩
theorem s_moReceiver {B I : UI} {R : UR} {Q : Int32 → UI → UR → Prop} (m : MF B I) (hQ : ∀ r J, MF B J → Q r J R) : wp_Mo_receiver I R Q := by
  unfold wp_Mo_receiver
  refine fun I1 e1 I2 e2 => ?_
  have m2 := MF_irr (MF_ref m e1) (by decide) e2
  have key : ∀ (n : Nat) (I : UI) (y : Int32), MF B I → 0 ≤ y → y ≤ I 82 1 → 3000 < y.toInt + n → wp_Mo_receiver_L12 Q n I R y := by
    intro n
    induction n with
    | zero =>
      intro I y m r0 r1 r2
      have := (mf_sz (w := 1) m (Or.inr ⟨rfl, rfl⟩)).2.2
      exact (cnt0 (n := 0) (M := 3000) rfl (by grind) r2).elim
    | succ n ih =>
      intro I y m r0 r1 r2
      have hb := (mf_sz (w := 1) m (Or.inr ⟨rfl, rfl⟩)).2.2
      have k50 : wp_Mo_receiver_L50 Q I R y := by
        unfold wp_Mo_receiver_L50
        exact s_take (w := 1) m (Or.inr ⟨rfl, rfl⟩) (by decide) r0 r1 (fun J mj => hQ _ _ mj)
      rw [wp_Mo_receiver_L12, t1]
      refine ⟨v12, fun _ => k50, fun h => ⟨fun _ => k50, fun _ => ⟨vp_i (M := 6000) rfl (by grind) (by grind), s_read1 (MF_M m) (fun J mj v e => ?_)⟩⟩⟩
      rw [e]
      have hm := mj.2.2.2.2.2.1
      exact ih J (y + 1) (MF_of m mj) (by grind) (by grind) (cnt1 (y := I 82 1) (by grind) r2)
  have hb := (mf_sz (w := 1) m2 (Or.inr ⟨rfl, rfl⟩)).2.2
  exact ⟨3001, key 3001 I2 0 m2 (by decide) hb.1 (by decide)⟩
theorem s_moLate {B I : UI} {R : UR} {x : Int32} {Q : Int32 → UI → UR → Prop} (m : MF B I) (hQ : ∀ r J, MF B J → Q r J R) : wp_Mo_late I R x Q := by
  unfold wp_Mo_late
  refine fun I1 e1 I2 e2 => ?_
  have m2 := MF_irr (MF_ref m e1) (by decide) e2
  refine ⟨fun _ => ⟨fun _ => hQ _ _ m2, fun _ => s_begin (w := 1) (Or.inr ⟨rfl, rfl⟩) (fun J b => ⟨z0, fun I5 e5 => ?_⟩)⟩, fun _ => ⟨fun _ => s_again (MF_M m2) (fun J _ mj => hQ _ _ (MF_of m2 mj)), fun _ => ⟨z1, fun I10 e10 => ?_⟩⟩⟩
  · have mj := bg1 (MF_M m2) b (by decide) (fun h => absurd h (by decide))
    have m5 := MF_of m2 (M_irr mj (by decide) e5)
    have k : ∀ s, wp_Mo_late_L73 Q I5 R s := fun s => by
      unfold wp_Mo_late_L73
      exact s_answerM (MF_M m5) (fun J' _ m' => hQ _ _ (MF_of m5 m'))
    exact ⟨fun _ => k _, fun _ => k _⟩
  · have m10 := MF_irr m2 (by decide) e10
    exact s_sendOn (MF_M m10) (fun J' m' => hQ _ _ (MF_of m10 m'))
theorem s_moCrash {B I : UI} {R : UR} {Q : UI → UR → Prop} (m : MF B I) (hQ : ∀ J, MF B J → Q J R) : wp_Mo_crash I R Q := by
  unfold wp_Mo_crash
  refine fun I1 e1 I2 e2 => s_begin (w := 1) (Or.inr ⟨rfl, rfl⟩) (fun J b => ⟨z0, fun I5 e5 => ⟨z0, fun I6 e6 => hQ _ ?_⟩⟩)
  have m1 := MF_ref m e1
  have mj : MF B J := by
    have b' : bg I1 J 1 0 ∨ True := Or.inr trivial
    obtain ⟨a, n, c, d, f⟩ := m1
    refine ⟨bg_mB b ?_, bg_mN b ?_, ?_, ?_, fun o k ho => ?_⟩
    · subst e2; unfold mB at *; simp only [u2_at]; simp; grind
    · subst e2; unfold mN at *; simp only [u2_at]; simp; grind
    · have h1 := b.1 83 0 (by omega); have h2 := b.1 84 0 (by omega); have h3 := b.1 87 0 (by omega)
      subst e2
      unfold rd0 at *; rw [h1, h2, h3]; simp only [u2_at]; simp; grind
    · have h1 := b.2.1; have h2 := b.2.2
      unfold rd1; grind
    · rw [b.1 o k (by omega), e2, u2_ne _ _ _ (by omega)]; exact f o k ho
  exact MF_irr (MF_irr mj (by decide) e5) (by decide) e6
theorem s_moFlip {B I : UI} {R : UR} {x1 x2 x3 : Int32} {Q : Int32 → UI → UR → Prop} (m : MF B I) (hQ : ∀ r J, MF B J → Q r J R) : wp_Mo_flip I R x1 x2 x3 Q := by
  have k33 : ∀ I s w, MF B I → ((s = 0 ∧ w = 0) ∨ (s = 1 ∧ w = 1)) → wp_Mo_flip_L33 Q I R x2 x3 s := by
    intro I s w m hx
    have hb := mf_sz m hx
    unfold wp_Mo_flip_L33
    rw [hb.1]
    refine ⟨hb.2.1, s_isIn (fun _ => ⟨fun h => absurd rfl h, fun _ => ⟨z0, hQ _ _ m⟩⟩) (fun g0 g1 => ⟨fun _ => ?_, fun h => absurd h (by decide)⟩)⟩
    have hv : vp_in ((3000 * s) + x2) 6000 := by
      refine vp_i (M := 6000) rfl ?_ ?_
      · rcases hx with ⟨rfl, _⟩ | ⟨rfl, _⟩ <;> grind
      · rcases hx with ⟨rfl, _⟩ | ⟨rfl, _⟩ <;> grind
    exact ⟨hv, hv, fun I10 e10 => ⟨z1, hQ _ _ (MF_irr m (by simp [rel]) e10)⟩⟩
  have k16 : ∀ s, wp_Mo_flip_L16 Q I R x1 x2 x3 s := by
    intro s
    unfold wp_Mo_flip_L16
    exact s_refused m (fun _ J _ mj => ⟨fun _ => ⟨fun _ => k33 _ _ 0 mj (Or.inl ⟨rfl, rfl⟩), fun _ => k33 _ _ 1 mj (Or.inr ⟨rfl, rfl⟩)⟩, fun _ => ⟨z0, hQ _ _ mj⟩⟩) (fun _ J _ mj => ⟨fun h => absurd h (by decide), fun _ => ⟨z0, hQ _ _ mj⟩⟩)
  unfold wp_Mo_flip
  exact s_isIn (fun _ => ⟨fun _ => k16 _, fun _ => k16 _⟩) (fun _ _ => ⟨fun _ => k16 _, fun _ => k16 _⟩)
theorem s_moLose {B I : UI} {R : UR} {x1 x2 x3 : Int32} {Q : Int32 → UI → UR → Prop} (m : MF B I) (hQ : ∀ r J, MF B J → Q r J R) : wp_Mo_lose I R x1 x2 x3 Q := by
  have k31 : ∀ I s w, MF B I → ((s = 0 ∧ w = 0) ∨ (s = 1 ∧ w = 1)) → 0 ≤ x2 → 0 ≤ x3 → wp_Mo_lose_L31 Q I R x2 x3 s := by
    intro I s w m hx h2 h3
    have hb := mf_sz m hx
    unfold wp_Mo_lose_L31
    rw [hb.1]
    refine ⟨hb.2.1, fun v4 e4 => ?_⟩
    have k65 : ∀ g, g ≤ I 82 w → wp_Mo_lose_L65 Q I R x2 s g := by
      intro g hg
      unfold wp_Mo_lose_L65
      exact ⟨fun _ => hQ _ _ m, fun h => s_take m hx h2 (by grind) hg (fun J mj => hQ _ _ mj)⟩
    exact ⟨fun h => ⟨fun h' => k65 _ (by grind), fun h' => k65 _ (by grind)⟩, fun _ => k65 _ hb.2.2.1⟩
  have k14 : ∀ s, (s ≤ 0 → 0 ≤ x2 ∧ 0 ≤ x3) → wp_Mo_lose_L14 Q I R x1 x2 x3 s := by
    intro s hs
    unfold wp_Mo_lose_L14
    exact s_refused m (fun h J _ mj => ⟨fun _ => ⟨fun _ => k31 _ _ 0 mj (Or.inl ⟨rfl, rfl⟩) (hs h).1 (hs h).2, fun _ => k31 _ _ 1 mj (Or.inr ⟨rfl, rfl⟩) (hs h).1 (hs h).2⟩, fun _ => hQ _ _ mj⟩) (fun _ J _ mj => ⟨fun h => absurd h (by decide), fun _ => hQ _ _ mj⟩)
  have k13 : wp_Mo_lose_L13 Q I R x1 x2 x3 := by unfold wp_Mo_lose_L13; exact k14 1 (fun h => absurd h (by decide))
  unfold wp_Mo_lose
  exact ⟨fun _ => k13, fun h2 => ⟨fun _ => k13, fun h3 => k14 0 (fun _ => ⟨by grind, by grind⟩)⟩⟩
theorem s_moPipe {B I : UI} {R : UR} {x1 x2 : Int32} {Q : Int32 → UI → UR → Prop} (m : MF B I) (hQ : ∀ r J, MF B J → Q r J R) : wp_Mo_pipe I R x1 x2 Q := by
  have k14 : ∀ I s w, MF B I → ((s = 0 ∧ w = 0) ∨ (s = 1 ∧ w = 1)) → wp_Mo_pipe_L14 Q I R x2 s := by
    intro I s w m hx
    have hb := mf_sz m hx
    unfold wp_Mo_pipe_L14
    rw [hb.1]
    refine ⟨hb.2.1, s_isIn (fun _ => ⟨fun _ => hQ _ _ m, fun h => absurd rfl h⟩) (fun g0 g1 => ⟨fun h => absurd h (by decide), fun _ => ⟨?_, hQ _ _ m⟩⟩)⟩
    refine vp_i (M := 6000) rfl ?_ ?_
    · rcases hx with ⟨rfl, _⟩ | ⟨rfl, _⟩ <;> grind
    · rcases hx with ⟨rfl, _⟩ | ⟨rfl, _⟩ <;> grind
  unfold wp_Mo_pipe
  exact fun I1 e1 => ⟨fun _ => k14 _ _ 0 (MF_ref m e1) (Or.inl ⟨rfl, rfl⟩), fun _ => k14 _ _ 1 (MF_ref m e1) (Or.inr ⟨rfl, rfl⟩)⟩
theorem s_moGot {B I : UI} {R : UR} {x1 x2 : Int32} {Q : Int32 → UI → UR → Prop} (m : MF B I) (hQ : ∀ r J, MF B J → Q r J R) : wp_Mo_got I R x1 x2 Q := by
  have kno : wp_Mo_got_L16 Q I R x1 x2 1 := by
    unfold wp_Mo_got_L16
    exact s_refused m (fun h => absurd h (by decide)) (fun _ J _ mj => ⟨fun h => absurd h (by decide), fun _ => hQ _ _ mj⟩)
  have kyes : 0 ≤ x1 → x1 ≤ 25 → wp_Mo_got_L16 Q I R x1 x2 0 := by
    intro h0 h1
    have hv : vp_in x1 26 := vp_i (M := 26) rfl h0 (by grind)
    unfold wp_Mo_got_L16
    refine s_refused m (fun _ J _ mj => ⟨fun _ => ⟨hv, fun _ => hQ _ _ mj, fun _ => ⟨hv, s_isIn (fun _ => ⟨fun _ => hQ _ _ mj, fun h => absurd rfl h⟩) (fun g0 g1 => ⟨fun h => absurd h (by decide), fun _ => ⟨?_, hQ _ _ mj⟩⟩)⟩⟩, fun h => absurd rfl h⟩) (fun h => absurd (by decide) h)
    have a := mj.1
    unfold mB at a
    have hg := a.2.2.2.2.2.2 _ (cl_lt (M := 26) (n := 26) rfl h0 (by grind))
    exact vp_i (M := 7800) rfl (by grind) (by grind)
  unfold wp_Mo_got
  exact s_isIn (fun _ => ⟨fun _ => kno, fun h => absurd rfl h⟩) (fun g0 g1 => ⟨fun h => absurd h (by decide), fun _ => kyes g0 g1⟩)
theorem s_moCount {B I : UI} {R : UR} {x : Int32} {Q : Int32 → UI → UR → Prop} (m : MF B I) (hQ : ∀ r J, MF B J → Q r J R) : wp_Mo_count I R x Q := by
  have kno : wp_Mo_count_L16 Q I R x 1 := by
    unfold wp_Mo_count_L16
    exact s_refused m (fun h => absurd h (by decide)) (fun _ J _ mj => ⟨fun h => absurd h (by decide), fun _ => hQ _ _ mj⟩)
  have kyes : 0 ≤ x → x ≤ 11 → wp_Mo_count_L16 Q I R x 0 := by
    intro h0 h1
    unfold wp_Mo_count_L16
    refine s_refused m (fun _ J _ mj => ⟨fun _ v e => ?_, fun h => absurd rfl h⟩) (fun h => absurd (by decide) h)
    have q : ∀ r, Q r J R := fun r => hQ r J mj
    exact ⟨fun _ => q _, fun n0 => ⟨fun _ => q _, fun n1 => ⟨fun _ => q _, fun n2 => ⟨fun _ => ⟨fun _ => q _, fun _ => q _⟩, fun n3 => ⟨fun _ => q _, fun n4 => ⟨fun _ => ⟨fun _ => s_position (MF_M mj) q, fun _ => q _⟩, fun n5 => ⟨fun _ => ⟨v12, q _⟩, fun n6 => ⟨fun _ => ⟨v02, q _⟩, fun n7 => ⟨vp_i (M := 4) rfl (by grind) (by grind), q _⟩⟩⟩⟩⟩⟩⟩⟩⟩
  unfold wp_Mo_count
  exact s_isIn (fun _ => ⟨fun _ => kno, fun h => absurd rfl h⟩) (fun g0 g1 => ⟨fun h => absurd h (by decide), fun _ => kyes g0 g1⟩)
