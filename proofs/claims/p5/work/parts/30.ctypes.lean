/-! What the class keeps: ranges of its ints, its files. -/
def cT (κ k : Nat) (x : Int32) : Prop := match κ with
  | 2 => (k = 1 → 0 ≤ x ∧ x ≤ 4) ∧ (k = 9 → zb x)
  | 4 => k = 1 → 0 ≤ x ∧ x ≤ 3000
  | 5 => fits .byte (.int x) = true
  | 6 => k = 1 → zb x
  | 8 => (k = 1 → 0 ≤ x ∧ x ≤ 64) ∧ (k = 8 → zb x)
  | 12 => k = 2 → 0 ≤ x ∧ x ≤ 300
  | _ => True
def cC (I0 I : UI) : Prop := (∀ o k, o < 80 → cT (kd o) k (I o k)) ∧ ∀ o, 80 ≤ o → I o = I0 o
theorem cC_u2 {I0 I : UI} {o k : Nat} {x : Int32} (c : cC I0 I) (ho : o < 80) (h : cT (kd o) k x) : cC I0 (u2 I o k x) := by
  refine ⟨fun o' k' ho' => ?_, fun o' ho' => ?_⟩
  · rw [u2_at]; split
    · rename_i h1; obtain ⟨rfl, rfl⟩ := h1; exact h
    · exact c.1 o' k' ho'
  · rw [← c.2 o' ho']; exact u2_ne I k x (by omega)
theorem vp_i {x M : Int32} {n : Nat} (hM : M.toInt = n) (h0 : 0 ≤ x) (h1 : x < M) : vp_in x n := by
  rw [vp_in_iff]; rw [Int32.le_iff_toInt_le] at h0; rw [Int32.lt_iff_toInt_lt] at h1; rw [hM] at h1; exact ⟨h0, h1⟩
theorem vp_15 (y : Int32) : vp_in (y &&& 15) 16 := pk_andIn y 4 rfl (by decide)
theorem ti_succ {x y : Int32} (h : x < y) : (x + 1).toInt = x.toInt + 1 := by
  rw [Int32.lt_iff_toInt_lt] at h
  have := ti_hi y; have := ti_lo x
  have h1 : (1 : Int32).toInt = 1 := rfl
  rw [ti_add] <;> rw [h1] <;> omega
theorem kd12 {o : Nat} (h : kd o = 12) : o + 1 < 80 := by
  by_cases hb : o < 112
  · have key : ∀ o, o < 112 → kd o = 12 → o + 1 < 80 := by decide +kernel
    exact key o hb h
  · rw [kd_big (by omega)] at h; cases h
theorem w2 {I0 I : UI} {k : Nat} {x : Int32} (c : cC I0 I) (h : k ≠ 1 ∧ k ≠ 9) : cC I0 (u2 I 2 k x) := cC_u2 c (by decide) ⟨fun e => absurd e h.1, fun e => absurd e h.2⟩
theorem w3 {I0 I : UI} {k : Nat} {x : Int32} (c : cC I0 I) : cC I0 (u2 I 3 k x) := cC_u2 c (by decide) trivial
theorem wr {I0 I : UI} {o k : Nat} {x : Int32} (c : cC I0 I) (ho : o = 12 ∨ o = 15) (h : k ≠ 1 ∧ k ≠ 8) : cC I0 (u2 I o k x) := by
  rcases ho with rfl | rfl <;> exact cC_u2 c (by decide) ⟨fun e => absurd e h.1, fun e => absurd e h.2⟩
theorem wr1 {I0 I : UI} {o : Nat} {x : Int32} (c : cC I0 I) (ho : o = 12 ∨ o = 15) (h : 0 ≤ x ∧ x ≤ 64) : cC I0 (u2 I o 1 x) := by
  rcases ho with rfl | rfl <;> exact cC_u2 c (by decide) ⟨fun e => h, fun e => by cases e⟩
theorem wr8 {I0 I : UI} {o : Nat} {x : Int32} (c : cC I0 I) (ho : o = 12 ∨ o = 15) (h : zb x) : cC I0 (u2 I o 8 x) := by
  rcases ho with rfl | rfl <;> exact cC_u2 c (by decide) ⟨fun e => (by cases e), fun e => h⟩
theorem wpk {I0 I : UI} {o k : Nat} {x : Int32} (c : cC I0 I) (ho : o = 12 ∨ o = 15) : cC I0 (u2 I (o + 1) k x) := by
  rcases ho with rfl | rfl <;> exact cC_u2 c (by decide) trivial
theorem wck {I0 I : UI} {o k : Nat} {x : Int32} (c : cC I0 I) (ho : o = 9 ∨ o = 11 ∨ o = 14 ∨ o = 17) : cC I0 (u2 I o k x) := by
  rcases ho with rfl | rfl | rfl | rfl <;> exact cC_u2 c (by decide) trivial
theorem wwr {I0 I : UI} {o : Nat} {x : Int32} (c : cC I0 I) (ho : o = 8 ∨ o = 10) (h : zb x) : cC I0 (u2 I o 1 x) := by
  rcases ho with rfl | rfl <;> exact cC_u2 c (by decide) (fun _ => h)
theorem wsf {I0 I : UI} {o k : Nat} {x : Int32} (c : cC I0 I) (ho : kd o = 12) (h : k = 2 → 0 ≤ x ∧ x ≤ 300) : cC I0 (u2 I o k x) := cC_u2 c (by have := kd12 ho; omega) (by rw [ho]; exact h)
theorem w21 {I0 I : UI} {x : Int32} (c : cC I0 I) (h : 0 ≤ x ∧ x ≤ 4) : cC I0 (u2 I 2 1 x) := cC_u2 c (by decide) ⟨fun _ => h, fun e => by cases e⟩
theorem w29 {I0 I : UI} {x : Int32} (c : cC I0 I) (h : zb x) : cC I0 (u2 I 2 9 x) := cC_u2 c (by decide) ⟨fun e => (by cases e), fun _ => h⟩
theorem wpi {I0 I : UI} {o : Nat} {x : Int32} (c : cC I0 I) (ho : o = 4 ∨ o = 6) (h : 0 ≤ x ∧ x ≤ 3000) : cC I0 (u2 I o 1 x) := by
  rcases ho with rfl | rfl <;> exact cC_u2 c (by decide) (fun _ => h)
theorem r4 {I0 I : UI} {o : Nat} (c : cC I0 I) (ho : o = 4 ∨ o = 6) : 0 ≤ I o 1 ∧ I o 1 ≤ 3000 := by
  rcases ho with rfl | rfl
  · exact c.1 4 1 (by decide) rfl
  · exact c.1 6 1 (by decide) rfl
theorem r5 {I0 I : UI} {o : Nat} (c : cC I0 I) (ho : o = 4 ∨ o = 6) (k : Nat) : fits .byte (.int (I (o + 1) k)) = true := by
  rcases ho with rfl | rfl
  · exact c.1 5 k (by decide)
  · exact c.1 7 k (by decide)
theorem r8 {I0 I : UI} {o : Nat} (c : cC I0 I) (ho : o = 8 ∨ o = 10) : zb (I o 1) := by
  rcases ho with rfl | rfl
  · exact c.1 8 1 (by decide) rfl
  · exact c.1 10 1 (by decide) rfl
theorem r12 {I0 I : UI} {o : Nat} (c : cC I0 I) (ho : o = 12 ∨ o = 15) : (0 ≤ I o 1 ∧ I o 1 ≤ 64) ∧ zb (I o 8) := by
  rcases ho with rfl | rfl
  · exact ⟨(show _ ∧ _ from c.1 12 1 (by decide)).1 rfl, (show _ ∧ _ from c.1 12 8 (by decide)).2 rfl⟩
  · exact ⟨(show _ ∧ _ from c.1 15 1 (by decide)).1 rfl, (show _ ∧ _ from c.1 15 8 (by decide)).2 rfl⟩
theorem r2' {I0 I : UI} (c : cC I0 I) : (0 ≤ I 2 1 ∧ I 2 1 ≤ 4) ∧ zb (I 2 9) := ⟨(show _ ∧ _ from c.1 2 1 (by decide)).1 rfl, (show _ ∧ _ from c.1 2 9 (by decide)).2 rfl⟩
theorem rsf {I0 I : UI} {o : Nat} (c : cC I0 I) (ho : kd o = 12) : 0 ≤ I o 2 ∧ I o 2 ≤ 300 := by
  have := c.1 o 2 (by have := kd12 ho; omega); rw [ho] at this; exact this rfl
theorem s_Pi_add {I0 I : UI} {R : UR} {o : Nat} {x : Int32} {Q : UI → UR → Prop} (c : cC I0 I) (ho : o = 4 ∨ o = 6) (hQ : ∀ I', cC I0 I' → Q I' R) : wp_Pi_add I R o x Q := by
  unfold wp_Pi_add
  intro I1 e1
  have c1 : cC I0 I1 := by rw [e1]; rcases ho with rfl | rfl <;> exact cC_u2 c (by decide) (fun h => by cases h)
  have b1 := r4 c1 ho
  refine ⟨fun _ => hQ _ c1, fun h => ⟨vp_i (M := 3000) rfl b1.1 (by grind), ?_⟩⟩
  intro I2 e2
  have c2 : cC I0 I2 := by rw [e2]; rcases ho with rfl | rfl <;> exact cC_u2 c1 (by decide) (pk_fb _)
  intro I3 e3
  have h2 : I2 o 1 = I1 o 1 := by rw [e2, u2_ne]; omega
  exact hQ _ (by rw [e3]; exact wpi c2 ho (by rw [h2]; grind))
theorem s_Ck_add {I0 I : UI} {R : UR} {o : Nat} {x : Int32} {Q : UI → UR → Prop} (c : cC I0 I) (ho : o = 9 ∨ o = 11 ∨ o = 14 ∨ o = 17) (hQ : ∀ I', cC I0 I' → Q I' R) : wp_Ck_add I R o x Q := by
  unfold wp_Ck_add
  grind [wck, vp_15]
theorem s_Ck_begin {I0 I : UI} {R : UR} {o : Nat} {x : Int32} {Q : UI → UR → Prop} (c : cC I0 I) (hz : zb x) (ho : o = 9 ∨ o = 11 ∨ o = 14 ∨ o = 17) (hQ : ∀ I', cC I0 I' → Q I' R) : wp_Ck_begin I R o x Q := by
  unfold wp_Ck_begin wp_Ck_begin_L15
  grind [wck]
theorem s_Wr_mustEscape {I : UI} {R : UR} {x : Int32} {Q : Int32 → UI → UR → Prop} (hQ : ∀ r, Q r I R) : wp_Wr_mustEscape I R x Q := by
  unfold wp_Wr_mustEscape wp_Wr_mustEscape_L29 zb
  grind
theorem s_Wr_addEscaped {I0 I : UI} {R : UR} {o : Nat} {x : Int32} {Q : UI → UR → Prop} (c : cC I0 I) (ho : o = 4 ∨ o = 6) (hQ : ∀ I', cC I0 I' → Q I' R) : wp_Wr_addEscaped I R o x Q := by
  unfold wp_Wr_addEscaped
  grind [s_Wr_mustEscape, s_Pi_add]
theorem s_Pi_has {I : UI} {R : UR} {o : Nat} {x : Int32} {Q : Int32 → UI → UR → Prop} (h0 : Q 0 I R) (h1 : 0 ≤ x → x < I o 1 → Q 1 I R) : wp_Pi_has I R o x Q := by
  unfold wp_Pi_has zb
  grind
theorem s_Pi_byteAt {I0 I : UI} {R : UR} {o : Nat} {x : Int32} {Q : Int32 → UI → UR → Prop} (c : cC I0 I) (ho : o = 4 ∨ o = 6) (hQ : ∀ r, Q r I R) : wp_Pi_byteAt I R o x Q := by
  unfold wp_Pi_byteAt
  have := r4 c ho
  refine s_Pi_has (by grind) (fun h1 h2 => ⟨by grind, fun _ => ⟨vp_i (M := 3000) rfl h1 (by grind), hQ _⟩⟩)
theorem s_Pi_turnBit {I0 I : UI} {R : UR} {o : Nat} {x y : Int32} {Q : Int32 → UI → UR → Prop} (c : cC I0 I) (ho : o = 4 ∨ o = 6) (hQ : ∀ r I', zb r → cC I0 I' → Q r I' R) : wp_Pi_turnBit I R o x y Q := by
  unfold wp_Pi_turnBit
  have := r4 c ho
  refine s_Pi_has ⟨fun h => absurd rfl h, fun _ => ⟨Or.inl rfl, hQ _ _ (Or.inl rfl) c⟩⟩ (fun h1 h2 => ⟨fun _ => ?_, fun h => absurd h (by decide)⟩)
  have hv : vp_in x 3000 := vp_i (M := 3000) rfl h1 (by grind)
  refine ⟨hv, hv, fun I4 e4 => ⟨Or.inr rfl, hQ _ _ (Or.inr rfl) ?_⟩⟩
  rw [e4]; rcases ho with rfl | rfl <;> exact cC_u2 c (by decide) (pk_fb _)
theorem cC_u2c {I0 I : UI} {o a b n : Nat} (c : cC I0 I) (ho : o = 5 ∨ o = 7) : cC I0 (u2c I o a b n) := by
  have hk : kd o = 5 := by rcases ho with rfl | rfl <;> rfl
  refine ⟨fun o' k' ho' => ?_, fun o' ho' => ?_⟩
  · by_cases h : o' = o
    · subst h
      rw [hk]
      show fits .byte (.int (u2c I o' a b n o' k')) = true
      unfold u2c
      rw [va_up_self]
      unfold va_cpy
      have key : ∀ k, fits .byte (.int (I o' k)) = true := fun k => by have := c.1 o' k ho'; rw [hk] at this; exact this
      split <;> exact key _
    · unfold u2c; rw [va_up_ne _ _ h]; exact c.1 o' k' ho'
  · unfold u2c; rw [va_up_ne _ _ (by omega)]; exact c.2 o' ho'
theorem cl_le {x y : Int32} (h0 : 0 ≤ x) (h : x ≤ y) : x.toNatClampNeg ≤ y.toNatClampNeg := by
  rw [ti_clamp, ti_clamp]; rw [Int32.le_iff_toInt_le] at h h0; omega
theorem cl_add {x y z : Int32} (h0 : 0 ≤ x) (h1 : 0 ≤ y) (h2 : x ≤ 3000) (h3 : y ≤ 3000) (h : x + y ≤ 3000) : x.toNatClampNeg + y.toNatClampNeg ≤ 3000 := by
  have e : (x + y).toInt = x.toInt + y.toInt := by
    rw [Int32.le_iff_toInt_le] at h0 h1 h2 h3
    have a0 : (0:Int32).toInt = 0 := rfl
    have a3 : (3000:Int32).toInt = 3000 := rfl
    exact ti_add (by omega) (by omega)
  rw [ti_clamp, ti_clamp]; rw [Int32.le_iff_toInt_le, e] at h; rw [Int32.le_iff_toInt_le] at h0 h1
  have a0 : (0:Int32).toInt = 0 := rfl
  have a3 : (3000:Int32).toInt = 3000 := rfl
  omega
theorem s_Pi_drop {I0 I : UI} {R : UR} {o : Nat} {x y : Int32} {Q : Int32 → UI → UR → Prop} (c : cC I0 I) (ho : o = 4 ∨ o = 6) (hQ : ∀ r I', cC I0 I' → Q r I' R) : wp_Pi_drop I R o x y Q := by
  unfold wp_Pi_drop
  have h4 := r4 c ho
  refine s_Pi_has ⟨fun _ => hQ _ _ c, fun h => absurd rfl h⟩ (fun h1 h2 => ⟨fun h => absurd h (by decide), fun _ => ⟨fun h3 v4 e4 => ?_, fun _ => hQ _ _ c⟩⟩)
  have v1 : 0 ≤ v4 := by grind
  have v2 : v4 ≤ I o 1 - x := by grind
  refine ⟨⟨⟨by grind, by grind, by grind⟩, ⟨cl_add (z := 0) (by grind) (by grind) (by grind) (by grind) (by grind), cl_add (z := 0) (by grind) (by grind) (by grind) (by grind) (by grind)⟩, fun i _ => r5 c ho _⟩, fun I5 e5 I6 e6 => ?_⟩
  have c5 : cC I0 I5 := by rw [e5]; rcases ho with rfl | rfl <;> exact cC_u2c c (by decide)
  have g5 : I5 o 1 = I o 1 := by rw [e5]; unfold u2c; rw [va_up_ne _ _ (by omega)]
  exact hQ _ _ (by rw [e6]; exact wpi c5 ho (by rw [g5]; grind))
theorem s_Sf_append {I0 I : UI} {R : UR} {o : Nat} {x : Int32} {Q : UI → UR → Prop} (c : cC I0 I) (ho : kd o = 12) (ho1 : kd (o + 1) = 13) (hQ : ∀ I', cC I0 I' → Q I' R) : wp_Sf_append I R o x Q := by
  unfold wp_Sf_append
  have h := rsf c ho
  refine ⟨fun _ => hQ _ c, fun h1 => ⟨vp_i (M := 300) rfl h.1 (by grind), fun I1 e1 I2 e2 => ?_⟩⟩
  have c1 : cC I0 I1 := by rw [e1]; exact cC_u2 c (kd12 ho) (by rw [ho1]; trivial)
  have g : I1 o 2 = I o 2 := by rw [e1, u2_ne]; omega
  exact hQ _ (by rw [e2]; exact wsf c1 ho (fun _ => by rw [g]; grind))
theorem s_Sf_byteAt {I0 I : UI} {R : UR} {o : Nat} {x : Int32} {Q : Int32 → UI → UR → Prop} (c : cC I0 I) (ho : kd o = 12) (hQ : ∀ r, Q r I R) : wp_Sf_byteAt I R o x Q := by
  unfold wp_Sf_byteAt
  have h := rsf c ho
  refine ⟨fun _ => hQ _, fun h1 => ⟨fun _ => hQ _, fun h2 => ⟨vp_i (M := 300) rfl (by grind) (by grind), hQ _⟩⟩⟩
