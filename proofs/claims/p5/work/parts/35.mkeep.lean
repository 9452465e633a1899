/-! What the reference keeps. -/
def mB (I : UI) : Prop := (0 ≤ I 82 0 ∧ I 82 0 ≤ 3000) ∧ (0 ≤ I 82 1 ∧ I 82 1 ≤ 3000) ∧ (0 ≤ I 80 13 ∧ I 80 13 ≤ 4) ∧ (1 ≤ I 80 12 ∧ I 80 12 ≤ 64) ∧ (-1 ≤ I 80 25 ∧ I 80 25 < 26) ∧ (∀ k, k < 4 → 0 ≤ I 95 k ∧ I 95 k ≤ 300) ∧ (∀ k, k < 26 → 0 ≤ I 103 k ∧ I 103 k ≤ 300)
def mN (I : UI) : Prop := 0 ≤ I 80 18 ∧ I 80 18 ≤ 4 ∧ (1 ≤ I 80 17 → I 80 17 ≤ 3 → I 80 18 < 4) ∧ (I 80 17 = 2 → 0 ≤ I 80 19 ∧ I 80 19 ≤ I 95 (I 80 18).toNatClampNeg)
def rd0 (I : UI) : Prop := 0 ≤ I 83 0 ∧ I 83 0 ≤ 4 ∧ (3 ≤ I 83 0 → 0 ≤ I 84 0 ∧ I 84 0 ≤ 8 ∧ (I 87 0 ≠ 32 → I 84 0 ≤ 6))
def rd1 (I : UI) : Prop := 0 ≤ I 83 1 ∧ I 83 1 ≤ 6 ∧ (3 ≤ I 83 1 → I 83 1 ≤ 4 → 0 ≤ I 84 1 ∧ I 84 1 ≤ 8 ∧ (I 87 1 ≠ 32 → I 84 1 ≤ 6)) ∧ (I 83 1 = 5 → 0 ≤ I 84 1 ∧ I 84 1 ≤ 64) ∧ (I 83 1 = 6 → 0 ≤ I 89 1 ∧ I 89 1 ≤ 64) ∧ (5 ≤ I 83 1 → I 91 1 = 4 ∨ 0 ≤ I 80 25)
def fr (B I : UI) : Prop := (∀ o k, o < 80 → I o k = B o k) ∧ B 82 1 ≤ I 82 1 ∧ I 80 0 = B 80 0
def M (B I : UI) : Prop := mB I ∧ mN I ∧ rd0 I ∧ rd1 I ∧ fr B I
def rel (o k : Nat) : Bool := decide (o < 80) || o == 82 || o == 83 || o == 84 || o == 87 || o == 89 || o == 91 || o == 95 || o == 103 || (o == 80 && (k == 0 || k == 12 || k == 13 || k == 17 || k == 18 || k == 19 || k == 25))
theorem M_cong {B I J : UI} (m : M B I) (h : ∀ o k, rel o k = true → J o k = I o k) : M B J := by
  obtain ⟨a, b, c, d, e⟩ := m
  have h82 : ∀ k, J 82 k = I 82 k := fun k => h 82 k (by simp [rel])
  have h83 : ∀ k, J 83 k = I 83 k := fun k => h 83 k (by simp [rel])
  have h84 : ∀ k, J 84 k = I 84 k := fun k => h 84 k (by simp [rel])
  have h87 : ∀ k, J 87 k = I 87 k := fun k => h 87 k (by simp [rel])
  have h89 : ∀ k, J 89 k = I 89 k := fun k => h 89 k (by simp [rel])
  have h91 : ∀ k, J 91 k = I 91 k := fun k => h 91 k (by simp [rel])
  have h95 : ∀ k, J 95 k = I 95 k := fun k => h 95 k (by simp [rel])
  have h103 : ∀ k, J 103 k = I 103 k := fun k => h 103 k (by simp [rel])
  have q0 := h 80 0 (by decide)
  have q12 := h 80 12 (by decide)
  have q13 := h 80 13 (by decide)
  have q17 := h 80 17 (by decide)
  have q18 := h 80 18 (by decide)
  have q19 := h 80 19 (by decide)
  have q25 := h 80 25 (by decide)
  have hl : ∀ o k, o < 80 → J o k = I o k := fun o k ho => h o k (by simp [rel, ho])
  refine ⟨?_, ?_, ?_, ?_, ?_⟩
  · unfold mB at *; simp only [h82, h95, h103, q12, q13, q25]; exact a
  · unfold mN at *; simp only [h95, q17, q18, q19]; exact b
  · unfold rd0 at *; simp only [h83, h84, h87]; exact c
  · unfold rd1 at *; simp only [h83, h84, h87, h89, h91, q25]; exact d
  · unfold fr at *; rw [h82, q0]; exact ⟨fun o k ho => by rw [hl o k ho]; exact e.1 o k ho, e.2⟩
theorem M_irr {B I J : UI} {o k : Nat} {x : Int32} (m : M B I) (h : rel o k = false) (e : J = u2 I o k x) : M B J := by
  refine M_cong m (fun o' k' h' => ?_)
  rw [e, u2_at, if_neg]
  rintro ⟨rfl, rfl⟩
  rw [h] at h'; cases h'
theorem PF_rf {B I : UI} (m : M B I) : PF I I := by
  have a := m.1
  unfold mB at a
  exact ⟨fun _ _ _ _ _ _ => rfl, ⟨a.1.1, a.1.2, Int32.le_refl _⟩, ⟨a.2.1.1, a.2.1.2, Int32.le_refl _⟩⟩
theorem M_PF {B I J : UI} (m : M B I) (p : PF I J) : M B J := by
  obtain ⟨p1, p2, p3⟩ := p
  obtain ⟨a, b, c, d, e⟩ := m
  have h83 : ∀ k, J 83 k = I 83 k := fun k => p1 83 k (by decide) (by decide) (by decide) (by simp)
  have h84 : ∀ k, J 84 k = I 84 k := fun k => p1 84 k (by decide) (by decide) (by decide) (by simp)
  have h87 : ∀ k, J 87 k = I 87 k := fun k => p1 87 k (by decide) (by decide) (by decide) (by simp)
  have h89 : ∀ k, J 89 k = I 89 k := fun k => p1 89 k (by decide) (by decide) (by decide) (by simp)
  have h91 : ∀ k, J 91 k = I 91 k := fun k => p1 91 k (by decide) (by decide) (by decide) (by simp)
  have h95 : ∀ k, J 95 k = I 95 k := fun k => p1 95 k (by decide) (by decide) (by decide) (by simp)
  have h103 : ∀ k, J 103 k = I 103 k := fun k => p1 103 k (by decide) (by decide) (by decide) (by simp)
  have q : ∀ k, k ≠ 29 → J 80 k = I 80 k := fun k hk => p1 80 k (by decide) (by decide) (by decide) (fun _ => hk)
  have q0 := q 0 (by decide)
  have q12 := q 12 (by decide)
  have q13 := q 13 (by decide)
  have q17 := q 17 (by decide)
  have q18 := q 18 (by decide)
  have q19 := q 19 (by decide)
  have q25 := q 25 (by decide)
  have hl : ∀ o k, o < 80 → J o k = I o k := fun o k ho => p1 o k (by omega) (by omega) (by omega) (by omega)
  refine ⟨?_, ?_, ?_, ?_, ?_⟩
  · unfold mB at *; simp only [h95, h103, q12, q13, q25]; exact ⟨⟨p2.1, p2.2.1⟩, ⟨p3.1, p3.2.1⟩, a.2.2⟩
  · unfold mN at *; simp only [h95, q17, q18, q19]; exact b
  · unfold rd0 at *; simp only [h83, h84, h87]; exact c
  · unfold rd1 at *; simp only [h83, h84, h87, h89, h91, q25]; exact d
  · unfold fr at *; rw [q0]; exact ⟨fun o k ho => by rw [hl o k ho]; exact e.1 o k ho, by have := e.2.1; have := p3.2.2; grind, e.2.2⟩
theorem PF_other {B I : UI} {o k : Nat} (p : PF B I) (h : rel o k = true) (ho : o ≠ 82) : I o k = B o k := by
  refine p.1 o k ?_ ho ?_ ?_
  · rintro rfl; simp [rel] at h
  · rintro rfl; simp [rel] at h
  · rintro rfl rfl; simp [rel] at h
theorem fr_u2 {B I : UI} {o k : Nat} {x : Int32} (f : fr B I) (ho : 80 ≤ o) (h82 : o ≠ 82) (h0 : o = 80 → k ≠ 0) : fr B (u2 I o k x) := by
  refine ⟨fun o' k' ho' => ?_, ?_, ?_⟩
  · rw [u2_ne _ _ _ (by omega)]; exact f.1 o' k' ho'
  · rw [u2_ne _ _ _ (by omega)]; exact f.2.1
  · rw [u2_at, if_neg (by omega)]; exact f.2.2
theorem M_purp {B I J : UI} (m : M B I) (e : J = u2 I 91 1 4) : M B J := by
  subst e; obtain ⟨a, b, c, d, f⟩ := m
  refine ⟨?_, ?_, ?_, ?_, fr_u2 f (by decide) (by decide) (by decide)⟩
  · unfold mB at *; simp only [u2_at]; simp; grind
  · unfold mN at *; simp only [u2_at]; simp; grind
  · unfold rd0 at *; simp only [u2_at]; simp; grind
  · unfold rd1 at *; simp only [u2_at]; simp; grind
theorem M_purp' {B I J : UI} {x : Int32} (m : M B I) (h : I 83 1 = 0) (e : J = u2 I 91 1 x) : M B J := by
  subst e; obtain ⟨a, b, c, d, f⟩ := m
  refine ⟨?_, ?_, ?_, ?_, fr_u2 f (by decide) (by decide) (by decide)⟩
  · unfold mB at *; simp only [u2_at]; simp; grind
  · unfold mN at *; simp only [u2_at]; simp; grind
  · unfold rd0 at *; simp only [u2_at]; simp; grind
  · unfold rd1 at *; simp only [u2_at]; simp; grind
theorem M_st {B I J : UI} {x : Int32} (m : M B I) (hx : x = 0 ∨ x = 4 ∨ x = 5) (e : J = u2 I 80 17 x) : M B J := by
  subst e; obtain ⟨a, b, c, d, f⟩ := m
  refine ⟨?_, ?_, ?_, ?_, fr_u2 f (by decide) (by decide) (by decide)⟩
  · unfold mB at *; simp only [u2_at]; simp; grind
  · unfold mN at *; simp only [u2_at]; simp; grind
  · unfold rd0 at *; simp only [u2_at]; simp; grind
  · unfold rd1 at *; simp only [u2_at]; simp; grind
theorem M_st3 {B I J : UI} (m : M B I) (h : I 80 17 = 2) (e : J = u2 I 80 17 3) : M B J := by
  subst e; obtain ⟨a, b, c, d, f⟩ := m
  refine ⟨?_, ?_, ?_, ?_, fr_u2 f (by decide) (by decide) (by decide)⟩
  · unfold mB at *; simp only [u2_at]; simp; grind
  · unfold mN at *; simp only [u2_at]; simp; grind
  · unfold rd0 at *; simp only [u2_at]; simp; grind
  · unfold rd1 at *; simp only [u2_at]; simp; grind
/-- the sender goes on to file x -/
theorem M_next {B I I1 I2 J : UI} {x s : Int32} (m : M B I) (h0 : 0 ≤ x) (h1 : x ≤ 4) (hs : (s = 1 ∧ x < 4) ∨ s = 4) (e1 : I1 = u2 I 80 18 x) (e2 : I2 = u2 I1 80 19 0) (e : J = u2 I2 80 17 s) : M B J := by
  subst e1 e2 e; obtain ⟨a, b, c, d, f⟩ := m
  refine ⟨?_, ?_, ?_, ?_, fr_u2 (fr_u2 (fr_u2 f (by decide) (by decide) (by decide)) (by decide) (by decide) (by decide)) (by decide) (by decide) (by decide)⟩
  · unfold mB at *; simp only [u2_at]; simp; grind
  · unfold mN at *; simp only [u2_at]; simp; grind
  · unfold rd0 at *; simp only [u2_at]; simp; grind
  · unfold rd1 at *; simp only [u2_at]; simp; grind
/-- the sender goes to place x of the file at hand -/
theorem M_go {B I I1 J : UI} {x : Int32} (m : M B I) (h0 : 0 ≤ x) (h1 : x ≤ I 95 (I 80 18).toNatClampNeg) (h2 : 1 ≤ I 80 17) (h3 : I 80 17 ≤ 3) (e1 : I1 = u2 I 80 17 2) (e : J = u2 I1 80 19 x) : M B J := by
  subst e1 e; obtain ⟨a, b, c, d, f⟩ := m
  refine ⟨?_, ?_, ?_, ?_, fr_u2 (fr_u2 f (by decide) (by decide) (by decide)) (by decide) (by decide) (by decide)⟩
  · unfold mB at *; simp only [u2_at]; simp; grind
  · unfold mN at *; simp only [u2_at]; simp; grind
  · unfold rd0 at *; simp only [u2_at]; simp; grind
  · unfold rd1 at *; simp only [u2_at]; simp; grind
theorem M_pl {B I J : UI} {x : Int32} (m : M B I) (h0 : 0 ≤ x) (h1 : x ≤ I 95 (I 80 18).toNatClampNeg) (e : J = u2 I 80 19 x) : M B J := by
  subst e; obtain ⟨a, b, c, d, f⟩ := m
  refine ⟨?_, ?_, ?_, ?_, fr_u2 f (by decide) (by decide) (by decide)⟩
  · unfold mB at *; simp only [u2_at]; simp; grind
  · unfold mN at *; simp only [u2_at]; simp; grind
  · unfold rd0 at *; simp only [u2_at]; simp; grind
  · unfold rd1 at *; simp only [u2_at]; simp; grind
theorem M_open {B I J : UI} {x : Int32} (m : M B I) (h : (-1 ≤ x ∧ x < 26) ∧ (5 ≤ I 83 1 → I 91 1 = 4 ∨ 0 ≤ x)) (e : J = u2 I 80 25 x) : M B J := by
  subst e; obtain ⟨a, b, c, d, f⟩ := m
  refine ⟨?_, ?_, ?_, ?_, fr_u2 f (by decide) (by decide) (by decide)⟩
  · unfold mB at *; simp only [u2_at]; simp; grind
  · unfold mN at *; simp only [u2_at]; simp; grind
  · unfold rd0 at *; simp only [u2_at]; simp; grind
  · unfold rd1 at *; simp only [u2_at]; simp; grind
theorem M_got {B I J : UI} {k : Nat} {x : Int32} (m : M B I) (h0 : 0 ≤ x) (h1 : x ≤ 300) (e : J = u2 I 103 k x) : M B J := by
  subst e; obtain ⟨a, b, c, d, f⟩ := m
  refine ⟨?_, ?_, ?_, ?_, fr_u2 f (by decide) (by decide) (by simp)⟩
  · unfold mB at *; simp only [u2_at]; simp; grind
  · unfold mN at *; simp only [u2_at]; simp; grind
  · unfold rd0 at *; simp only [u2_at]; simp; grind
  · unfold rd1 at *; simp only [u2_at]; simp; grind
theorem M_many {B I J : UI} {w : Nat} {x : Int32} (m : M B I) (hw : (w = 0 ∧ (3 ≤ I 83 0 → 0 ≤ x ∧ x ≤ 8 ∧ (I 87 0 ≠ 32 → x ≤ 6))) ∨ (w = 1 ∧ (3 ≤ I 83 1 → I 83 1 ≤ 4 → 0 ≤ x ∧ x ≤ 8 ∧ (I 87 1 ≠ 32 → x ≤ 6)) ∧ (I 83 1 = 5 → 0 ≤ x ∧ x ≤ 64))) (e : J = u2 I 84 w x) : M B J := by
  subst e; obtain ⟨a, b, c, d, f⟩ := m
  refine ⟨?_, ?_, ?_, ?_, fr_u2 f (by decide) (by decide) (by simp)⟩
  · unfold mB at *; simp only [u2_at]; simp; grind
  · unfold mN at *; simp only [u2_at]; simp; grind
  · unfold rd0 at *; rcases hw with ⟨rfl, hw⟩ | ⟨rfl, hw⟩ <;> simp only [u2_at] <;> simp <;> grind
  · unfold rd1 at *; rcases hw with ⟨rfl, hw⟩ | ⟨rfl, hw⟩ <;> simp only [u2_at] <;> simp <;> grind
