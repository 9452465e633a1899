/-! What the class keeps: files made; the face. -/
def cnt (f : Nat → Option Nat) : Nat → Nat
  | 0 => 0
  | n + 1 => cnt f n + (if f n = none then 1 else 0)
theorem cnt_le (f : Nat → Option Nat) : ∀ n, cnt f n ≤ n
  | 0 => Nat.le_refl _
  | n + 1 => by have := cnt_le f n; unfold cnt; split <;> omega
theorem cnt_ge {f : Nat → Option Nat} {k i : Nat} : ∀ n, n ≤ k → cnt (va_up f k (some i)) n = cnt f n
  | 0, _ => rfl
  | n + 1, h => by
    unfold cnt
    rw [cnt_ge n (by omega), va_up_ne _ _ (by omega)]
theorem cnt_up {f : Nat → Option Nat} {k i : Nat} (hk : f k = none) : ∀ n, k < n → cnt (va_up f k (some i)) n + 1 = cnt f n
  | 0, h => by omega
  | n + 1, h => by
    unfold cnt
    by_cases e : k = n
    · subst e
      rw [cnt_ge k (Nat.le_refl _), va_up_self, if_pos hk, if_neg (by simp)]
    · rw [va_up_ne _ _ (by omega)]
      have := cnt_up (i := i) hk n (by omega)
      omega
def pot (R : UR) : Nat := cnt (R 19) 26
theorem isSf_app {L M : List Nat} {i : Nat} (h : isSf L i) : isSf (L ++ M) i := ⟨List.mem_append_left _ h.1, h.2.1, List.mem_append_left _ h.2.2.1, h.2.2.2⟩
theorem fix_new {L : List Nat} {i : Nat} (h : uFix L) (h1 : i ∉ L) (h2 : i + 1 ∉ L) : uFix (L ++ [i, i + 1]) := by
  refine ⟨?_, fun o ho => List.mem_append_left _ (h.2 o ho)⟩
  rw [List.nodup_append]
  refine ⟨h.1, by simp, fun a ha b hb => ?_⟩
  rcases List.mem_cons.mp hb with rfl | hb
  · intro e; subst e; exact h1 ha
  · rcases List.mem_cons.mp hb with rfl | hb
    · intro e; subst e; exact h2 ha
    · cases hb
theorem kd_a (x : Nat) (h : x < 26) : kd (28 + 2 * x) = 12 ∧ kd (28 + 2 * x + 1) = 13 := by
  have key : ∀ x, x < 26 → kd (28 + 2 * x) = 12 ∧ kd (28 + 2 * x + 1) = 13 := by decide +kernel
  exact key x h
theorem kd_s (x : Nat) (h : x < 4) : kd (20 + 2 * x) = 12 ∧ kd (20 + 2 * x + 1) = 13 := by
  have key : ∀ x, x < 4 → kd (20 + 2 * x) = 12 ∧ kd (20 + 2 * x + 1) = 13 := by decide +kernel
  exact key x h
theorem fr_a {L : List Nat} {R : UR} (r : cR L R) {x : Nat} (hx : x < 26) (hn : R 19 x = none) : uFr L R (28 + 2 * x) := by
  have h := r.2.2.2.2.2 x hx hn
  refine ⟨(kd_a x hx).1, (kd_a x hx).2, h.1, ?_, fun o k => ⟨fun e => h.1 (r.2.2.2.1 _ _ _ e), fun e => h.2 ?_⟩⟩
  · rw [show 28 + 2 * x + 1 = 29 + 2 * x by omega]; exact h.2
  · rw [show 29 + 2 * x = 28 + 2 * x + 1 by omega]; exact r.2.2.2.1 _ _ _ e
theorem fr_s {L : List Nat} {R : UR} (r : cR L R) {x : Nat} (hx : x < 4) (hn : R 18 x = none) : uFr L R (20 + 2 * x) := by
  have h := r.2.2.2.2.1 x hx hn
  refine ⟨(kd_s x hx).1, (kd_s x hx).2, h.1, ?_, fun o k => ⟨fun e => h.1 (r.2.2.2.1 _ _ _ e), fun e => h.2 ?_⟩⟩
  · rw [show 20 + 2 * x + 1 = 21 + 2 * x by omega]; exact h.2
  · rw [show 21 + 2 * x = 20 + 2 * x + 1 by omega]; exact r.2.2.2.1 _ _ _ e
theorem isSf_new {L : List Nat} {i : Nat} (h1 : kd i = 12) (h2 : kd (i + 1) = 13) : isSf (L ++ [i, i + 1]) i := ⟨by simp, h1, by simp, h2⟩
theorem cR_a {L : List Nat} {R : UR} (r : cR L R) {x : Nat} (hx : x < 26) (hn : R 19 x = none) : cR (L ++ [28 + 2 * x, 28 + 2 * x + 1]) (r2 R 19 x (some (28 + 2 * x))) := by
  obtain ⟨a, b, c, d, e, f⟩ := r
  refine ⟨fun i h => ?_, fun k i hk h => ?_, fun k i hk h => ?_, fun o k i h => ?_, fun k hk h => ?_, fun k hk h => ?_⟩
  · rw [r2_at, if_neg (by omega)] at h; exact isSf_app (a i h)
  · rw [r2_at, if_neg (by omega)] at h; exact ⟨(b k i hk h).1, isSf_app (b k i hk h).2⟩
  · rw [r2_at] at h
    split at h
    · rename_i e1; cases h; rw [e1.2]; exact ⟨rfl, isSf_new (kd_a x hx).1 (kd_a x hx).2⟩
    · exact ⟨(c k i hk h).1, isSf_app (c k i hk h).2⟩
  · rw [r2_at] at h
    split at h
    · cases h; simp
    · exact List.mem_append_left _ (d o k i h)
  · rw [r2_at, if_neg (by omega)] at h
    have := e k hk h
    simp only [List.mem_append, List.mem_cons, List.not_mem_nil, or_false]
    constructor <;> (intro hm; rcases hm with hm | hm | hm) <;> first | exact this.1 hm | exact this.2 hm | omega
  · rw [r2_at] at h
    split at h
    · cases h
    · rename_i e1
      have := f k hk h
      simp only [List.mem_append, List.mem_cons, List.not_mem_nil, or_false]
      constructor <;> (intro hm; rcases hm with hm | hm | hm) <;> first | exact this.1 hm | exact this.2 hm | omega
theorem cR_s {L : List Nat} {R : UR} (r : cR L R) {x : Nat} (hx : x < 4) (hn : R 18 x = none) : cR (L ++ [20 + 2 * x, 20 + 2 * x + 1]) (r2 R 18 x (some (20 + 2 * x))) := by
  obtain ⟨a, b, c, d, e, f⟩ := r
  refine ⟨fun i h => ?_, fun k i hk h => ?_, fun k i hk h => ?_, fun o k i h => ?_, fun k hk h => ?_, fun k hk h => ?_⟩
  · rw [r2_at, if_neg (by omega)] at h; exact isSf_app (a i h)
  · rw [r2_at] at h
    split at h
    · rename_i e1; cases h; rw [e1.2]; exact ⟨rfl, isSf_new (kd_s x hx).1 (kd_s x hx).2⟩
    · exact ⟨(b k i hk h).1, isSf_app (b k i hk h).2⟩
  · rw [r2_at, if_neg (by omega)] at h; exact ⟨(c k i hk h).1, isSf_app (c k i hk h).2⟩
  · rw [r2_at] at h
    split at h
    · cases h; simp
    · exact List.mem_append_left _ (d o k i h)
  · rw [r2_at] at h
    split at h
    · cases h
    · rename_i e1
      have := e k hk h
      simp only [List.mem_append, List.mem_cons, List.not_mem_nil, or_false]
      constructor <;> (intro hm; rcases hm with hm | hm | hm) <;> first | exact this.1 hm | exact this.2 hm | omega
  · rw [r2_at, if_neg (by omega)] at h
    have := f k hk h
    simp only [List.mem_append, List.mem_cons, List.not_mem_nil, or_false]
    constructor <;> (intro hm; rcases hm with hm | hm | hm) <;> first | exact this.1 hm | exact this.2 hm | omega
theorem cC_uz {I0 I : UI} {i : Nat} (c : cC I0 I) (h1 : kd i = 12) (h2 : kd (i + 1) = 13) : cC I0 (uz I i) := by
  have hi := kd12 h1
  refine ⟨fun o k ho => ?_, fun o ho => ?_⟩
  · unfold uz
    by_cases e2 : o = i + 1
    · subst e2; rw [h2]; trivial
    · rw [va_up_ne _ _ e2]
      by_cases e1 : o = i
      · subst e1; rw [va_up_self, h1]; exact fun _ => by decide
      · rw [va_up_ne _ _ e1]; exact c.1 o k ho
  · unfold uz; rw [va_up_ne _ _ (by omega), va_up_ne _ _ (by omega)]; exact c.2 o ho
theorem uz_ne (I : UI) {i o : Nat} (h1 : o ≠ i) (h2 : o ≠ i + 1) : uz I i o = I o := by
  unfold uz; rw [va_up_ne _ _ h2, va_up_ne _ _ h1]
/-- the letter that a name's packet makes a file of, if it does -/
def nameNew (I : UI) (R : UR) : Prop := I 15 1 = 3 ∧ 0 ≤ (I 16 0 &&& 255) - 97 ∧ (I 16 0 &&& 255) - 97 < 26 ∧ R 19 ((I 16 0 &&& 255) - 97).toNatClampNeg = none
theorem s_takeName {I0 I : UI} {R : UR} {L : List Nat} {cc ss : Nat} {Q : List Nat → UI → UR → Prop} (c : cC I0 I) (r : cR L R) (hf : uFix L) (hb : nameNew I R → 2 ≤ cc ∧ 303 ≤ ss)
    (hQ : ∀ L' I' R', cC I0 I' → cR L' R' → uFix L' → pot R' ≤ pot R → (nameNew I R → pot R' + 1 = pot R) → Q L' I' R') : wp_Rc_takeName cc ss L I R Q := by
  unfold wp_Rc_takeName wp_FF_isLetter
  have t0 : (0 : Int32).toNatClampNeg = 0 := rfl
  refine ⟨vp_i (M := 64) rfl (by decide) (by decide), fun v1 e1 => ?_⟩
  rw [t0] at e1
  have kno : ¬ nameNew I R → wp_Rc_takeName_L35 cc ss Q 0 0 L I R := by
    intro h
    unfold wp_Rc_takeName_L35
    exact s_answer c r (fun I' c' => hQ _ _ _ c' r hf (Nat.le_refl _) (fun z => absurd z h))
  refine ⟨fun h => kno (fun z => h z.1), fun h3 => ?_⟩
  refine ⟨fun h => ⟨z0, fun h' => absurd rfl h', fun _ => kno (fun z => ?_)⟩, fun h4 => ⟨fun h => ⟨z0, fun h' => absurd rfl h', fun _ => kno (fun z => ?_)⟩, fun h5 => ⟨z1, fun _ => ?_, fun h => absurd h (by decide)⟩⟩⟩
  · have := z.2.1; rw [← e1] at this; grind
  · have := z.2.2.1; rw [← e1] at this; grind
  have hv0 : 0 ≤ v1 := by grind
  have hv1 : v1 < 26 := by grind
  have hx : v1.toNatClampNeg < 26 := cl_lt (M := 26) rfl hv0 hv1
  have hvp : vp_in v1 26 := vp_i (M := 26) rfl hv0 hv1
  refine ⟨vp_i (M := 64) rfl (by decide) (by decide), vp_i (M := 64) rfl (by decide) (by decide), fun v7 e7 => ⟨hvp, fun z8 e8 => ⟨fun hz => ?_, fun i9 hz => ?_⟩⟩⟩
  · have hn : R 19 v1.toNatClampNeg = none := by rw [← e8]; exact hz
    have hnew : nameNew I R := ⟨h3, by rw [← e1]; exact hv0, by rw [← e1]; exact hv1, by rw [← e1]; exact hn⟩
    have hb' := hb hnew
    have hk := kd_a _ hx
    have ho := r.2.2.2.2.2 _ hx hn
    unfold wp_Rc_takeName_L98
    refine ⟨fun _ => ⟨28 + 2 * v1.toNatClampNeg, fr_a r hx hn, ⟨by omega, by omega⟩, fun L14 e14 I13 e13 I15 e15 => ⟨hvp, fun R16 e16 => ?_⟩⟩, fun i h => (by cases h)⟩
    have c13 : cC I0 I13 := by rw [e13]; exact cC_uz c hk.1 hk.2
    have c15 : cC I0 I15 := by rw [e15]; exact wsf c13 hk.1 (fun h => by cases h)
    have r16 : cR L14 R16 := by rw [e14, e16]; exact cR_a r hx hn
    have hS : isSf L14 (28 + 2 * v1.toNatClampNeg) := by rw [e14]; exact isSf_new hk.1 hk.2
    have f14 : uFix L14 := by rw [e14]; exact fix_new hf ho.1 (by rw [show 28 + 2 * v1.toNatClampNeg + 1 = 29 + 2 * v1.toNatClampNeg by omega]; exact ho.2)
    unfold wp_Rc_takeName_L122
    intro R17 e17
    have r17 : cR L14 R17 := by rw [e17]; exact cR_open r16 hS
    have hp : pot R17 + 1 = pot R := by
      have e19 : R17 19 = va_up (R 19) v1.toNatClampNeg (some (28 + 2 * v1.toNatClampNeg)) := by
        rw [e17, e16]; unfold r2; rw [va_up_ne _ _ (by decide), va_up_self]
      unfold pot; rw [e19]; exact cnt_up hn 26 hx
    exact s_answer c15 r17 (fun I' c' => hQ _ _ _ c' r17 f14 (by omega) (fun _ => hp))
  · have hs : R 19 v1.toNatClampNeg = some i9 := by rw [← e8]; exact hz
    have hno : ¬ nameNew I R := fun z => by have := z.2.2.2; rw [← e1, hs] at this; cases this
    have hi := (r.2.2.1 _ i9 hx hs).2
    have ro := cR_open r hi
    have eo : pot (r2 R 3 2 (some i9)) = pot R := by unfold pot; congr 1
    refine ⟨hi, fun _ => ?_, fun _ => s_answer c r (fun I' c' => hQ _ _ _ c' r hf (Nat.le_refl _) (fun z => absurd z hno))⟩
    unfold wp_Rc_takeName_L98 wp_Rc_takeName_L122
    refine ⟨fun h => (by cases h), fun i h R17 e17 => ?_⟩
    cases h
    rw [e17]
    exact s_answer c ro (fun I' c' => hQ _ _ _ c' ro hf (by omega) (fun z => absurd z hno))
def actNew (I : UI) (R : UR) (x : Int32) : Prop := x = 3 ∧ ¬ I 3 11 = 0 ∧ nameNew I R
theorem s_act {I0 I : UI} {R : UR} {L : List Nat} {cc ss : Nat} {x : Int32} {Q : List Nat → UI → UR → Prop} (c : cC I0 I) (r : cR L R) (hf : uFix L) (hb : actNew I R x → 2 ≤ cc ∧ 303 ≤ ss)
    (hQ : ∀ L' I' R', cC I0 I' → cR L' R' → uFix L' → pot R' ≤ pot R → (actNew I R x → pot R' + 1 = pot R) → Q L' I' R') : wp_Rc_act cc ss L I R x Q := by
  unfold wp_Rc_act
  intro v1 e1
  subst e1
  refine ⟨fun h I2 e2 => s_rcTakeHeader (w3' c e2) r (fun I' R' c' r' e' => hQ _ _ _ c' r' hf (by unfold pot; rw [e']; exact Nat.le_refl _) (fun z => by have := z.1; grind)), fun h1 => ⟨fun h I5 e5 => s_answer (w3' c e5) r (fun I' c' => hQ _ _ _ c' r hf (Nat.le_refl _) (fun z => by have := z.1; grind)), fun h2 => ⟨fun h3 I8 e8 => ?_, fun h3 => ⟨fun h4 I19 e19 => ?_, fun h4 => hQ _ _ _ c r hf (Nat.le_refl _) (fun z => by have := z.1; grind)⟩⟩⟩⟩
  · have c8 := w3' c e8
    have g : I8 3 11 = I 3 11 := by rw [e8, u2_nk]; decide
    refine ⟨fun h => s_takeContent c8 r (fun I9 c9 => ?_), fun h => ?_⟩
    · unfold wp_Rc_act_L96
      exact s_Rd_passPacket c9 (by decide) (fun I' c' => hQ _ _ _ c' r hf (Nat.le_refl _) (fun z => absurd (g ▸ h) z.2.1))
    · have hnn : nameNew I8 R ↔ nameNew I R := by
        have a : I8 15 = I 15 := by rw [e8, u2_ne]; decide
        have b : I8 16 = I 16 := by rw [e8, u2_ne]; decide
        unfold nameNew; rw [a, b]
      refine ⟨cc, ss, ⟨by omega, by omega⟩, s_takeName c8 r hf (fun z => hb ⟨h3, g ▸ h, hnn.mp z⟩) (fun L' I' R' c' r' f' p1 p2 => ?_)⟩
      unfold wp_Rc_act_L96
      exact s_Rd_passPacket c' (by decide) (fun I'' c'' => hQ _ _ _ c'' r' f' p1 (fun z => p2 (hnn.mpr z.2.2)))
  · have k : ∀ z, wp_Rc_act_L131 cc ss Q 0 0 L I19 R z := by
      intro z
      unfold wp_Rc_act_L131
      exact s_answer (w3' c e19) r (fun I' c' => hQ _ _ _ c' r hf (Nat.le_refl _) (fun z => by have := z.1; grind))
    exact ⟨fun _ => k _, fun _ => k _⟩
theorem s_rcReadAll {I0 I : UI} {R : UR} {L : List Nat} {q : Nat} {Q : List Nat → UI → UR → Prop} (c : cC I0 I) (hq : q = 4 ∨ q = 6) (r : cR L R) (hf : uFix L)
    (hQ : ∀ L' I' R', cC I0 I' → cR L' R' → uFix L' → Q L' I' R') : wp_Rc_readAll 52 7878 L I R q Q := by
  have key : ∀ (n kc ks : Nat) (L : List Nat) (I : UI) (R : UR) (v x : Int32), cC I0 I → cR L R → uFix L → kc + 2 * pot R ≤ 52 → ks + 303 * pot R ≤ 7878 → 0 ≤ x → x ≤ v → v.toInt - x.toInt < n → wp_Rc_readAll_L7 52 7878 q Q n kc ks L I R v x := by
    intro n
    induction n with
    | zero => intro kc ks L I R v x c r hf b1 b2 h0 h1 h2; rw [Int32.le_iff_toInt_le] at h1; omega
    | succ n ih =>
      intro kc ks L I R v x c r hf b1 b2 h0 h1 h2
      rw [wp_Rc_readAll_L7]
      have k1 : wp_Rc_readAll_L41 52 7878 q Q kc ks L I R x := by
        unfold wp_Rc_readAll_L41
        exact s_Pi_drop c hq (fun r' I2 c2 => hQ _ _ _ c2 r hf)
      refine ⟨fun _ => k1, fun h3 => ⟨fun _ => k1, fun _ => s_Pi_byteAt c hq (fun r7 => s_Rd_take c (by decide) (fun r10 I8 c8 => ?_))⟩⟩
      have hx : x < v := by grind
      have hp : ∀ m : Nat, m + 1 = pot R → 1 ≤ pot R := by intro m h; omega
      by_cases hA : actNew I8 R r10
      · have hpos : 1 ≤ pot R := by
          have h19 := hA.2.2.2.2.2
          have hlt := cl_lt (M := 26) (n := 26) rfl hA.2.2.2.1 hA.2.2.2.2.1
          have := cnt_up (i := 0) h19 26 hlt
          unfold pot; omega
        refine ⟨2, 303, ⟨by omega, by omega⟩, s_act c8 r hf (fun _ => ⟨by omega, by omega⟩) (fun L' I' R' c' r' f' p1 p2 v17 e17 => ?_)⟩
        have := p2 hA
        rw [e17]
        exact ih _ _ L' I' R' v (x + 1) c' r' f' (by omega) (by omega) (by grind) (by grind) (by rw [ti_succ hx]; omega)
      · refine ⟨0, 0, ⟨by omega, by omega⟩, s_act c8 r hf (fun z => absurd z hA) (fun L' I' R' c' r' f' p1 p2 v17 e17 => ?_)⟩
        rw [e17]
        exact ih _ _ L' I' R' v (x + 1) c' r' f' (by omega) (by omega) (by grind) (by grind) (by rw [ti_succ hx]; omega)
  unfold wp_Rc_readAll
  intro v1 e1
  have h4 := r4 c hq
  have hp := cnt_le (R 19) 26
  exact ⟨v1.toInt.toNat + 1, key _ 0 0 _ _ _ _ _ c r hf (by unfold pot; omega) (by unfold pot; omega) (by decide) (by rw [e1]; exact h4.1) (by rw [show (0 : Int32).toInt = 0 from rfl]; omega)⟩
theorem s_addFile {I0 I : UI} {R : UR} {L : List Nat} {x : Int32} {Q : List Nat → UI → UR → Prop} (c : cC I0 I) (r : cR L R) (hf : uFix L)
    (hQ : ∀ L' I' R', cC I0 I' → cR L' R' → uFix L' → Q L' I' R') : wp_Se_addFile 2 303 L I R x Q := by
  have b := (r2' c).1
  have key : ∀ (kc ks : Nat) (L : List Nat) (I : UI) (R : UR), cC I0 I → cR L R → uFix L → I 2 1 < 4 → ¬ R 18 (I 2 1).toNatClampNeg = none → wp_Se_addFile_L37 2 303 Q kc ks L I R x := by
    intro kc ks L I R c r hf h4 hn
    have b := (r2' c).1
    have hlt := cl_lt (M := 4) (n := 4) rfl b.1 h4
    have hv : vp_in (I 2 1) 4 := vp_i (M := 4) rfl b.1 h4
    unfold wp_Se_addFile_L37
    refine ⟨hv, fun z8 e8 => ?_⟩
    cases hz : R 18 (I 2 1).toNatClampNeg with
    | none => exact absurd hz hn
    | some i =>
      have hs := (r.2.1 _ i hlt hz).2
      refine ⟨i, by rw [e8, hz], hs, fun I10 e10 => ?_⟩
      have hi2 : (2 : Nat) ≠ i := fun e => by have := hs.2.1; rw [← e] at this; cases this
      have g : I10 2 1 = I 2 1 := by rw [e10, u2_ne _ _ _ hi2]
      have c10 : cC I0 I10 := by rw [e10]; exact wsf c hs.2.1 (fun h => by cases h)
      refine ⟨by rw [g]; exact hv, fun z11 e11 => ⟨i, by rw [e11, g, hz], hs, fun I13 e13 I14 e14 => ?_⟩⟩
      have c13 : cC I0 I13 := by rw [e13]; exact wsf c10 hs.2.1 (fun _ => by decide)
      have g13 : I13 2 1 = I 2 1 := by rw [e13, u2_ne _ _ _ hi2, g]
      exact hQ _ _ _ (by rw [e14]; exact w21 c13 (by rw [g13]; grind)) r hf
  unfold wp_Se_addFile
  refine ⟨fun h4 => ?_, fun _ => hQ _ _ _ c r hf⟩
  have hlt := cl_lt (M := 4) (n := 4) rfl b.1 h4
  have hv : vp_in (I 2 1) 4 := vp_i (M := 4) rfl b.1 h4
  refine ⟨hv, fun z1 e1 => ⟨fun hz => ?_, fun i hz => key _ _ _ _ _ c r hf h4 (by rw [← e1, hz]; simp)⟩⟩
  have hn : R 18 (I 2 1).toNatClampNeg = none := by rw [← e1]; exact hz
  have hk := kd_s _ hlt
  have ho := r.2.2.2.2.1 _ hlt hn
  refine ⟨20 + 2 * (I 2 1).toNatClampNeg, fr_s r hlt hn, ⟨by omega, by omega⟩, fun L6 e6 I5 e5 => ⟨hv, fun R7 e7 => ?_⟩⟩
  have g5 : I5 2 1 = I 2 1 := by rw [e5, uz_ne I (by omega) (by omega)]
  refine key _ _ _ _ _ (by rw [e5]; exact cC_uz c hk.1 hk.2) (by rw [e6, e7]; exact cR_s r hlt hn) (by rw [e6]; exact fix_new hf ho.1 (by rw [show 20 + 2 * (I 2 1).toNatClampNeg + 1 = 21 + 2 * (I 2 1).toNatClampNeg by omega]; exact ho.2)) (by rw [g5]; exact h4) ?_
  rw [g5, e7, r2_at, if_pos ⟨rfl, rfl⟩]; simp
theorem isPi_of {L : List Nat} (hf : uFix L) {o : Nat} (ho : o = 4 ∨ o = 6) : isPi L o := by
  rcases ho with rfl | rfl <;> exact ⟨hf.2 _ rfl, rfl, hf.2 _ rfl, rfl⟩
theorem s_pipeOf {I : UI} {R : UR} {L : List Nat} {x : Int32} {Q : Option Nat → UI → UR → Prop} (hQ : ∀ o, o = 4 ∨ o = 6 → Q (some o) I R) : wp_FF_pipeOf L I R x Q := by
  unfold wp_FF_pipeOf
  exact ⟨fun _ => hQ 6 (Or.inr rfl), fun _ => hQ 4 (Or.inl rfl)⟩
theorem s_hasFile {I0 I : UI} {R : UR} {L : List Nat} {x : Int32} {Q : Int32 → UI → UR → Prop} (c : cC I0 I) (r : cR L R) (hQ : ∀ v, Q v I R) : wp_Se_hasFile L I R x Q := by
  have b := (r2' c).1
  have key : ∀ (n : Nat) (y : Int32), 0 ≤ y → y ≤ 4 → 4 < y.toInt + n → wp_Se_hasFile_L2 L Q n I R x y := by
    intro n
    induction n with
    | zero => intro y h0 h1 h2; exact (cnt0 (n := 0) (M := 4) rfl h1 h2).elim
    | succ n ih =>
      intro y h0 h1 h2
      rw [wp_Se_hasFile_L2]
      refine ⟨fun _ => ⟨z0, hQ _⟩, fun h3 => ⟨vp_i (M := 4) rfl h0 (by grind), fun z1' e1 => ?_⟩⟩
      have k : wp_Se_hasFile_L31 L Q (fun I R x1 x2 => wp_Se_hasFile_L2 L Q n I R x1 x2) I R x y := by
        unfold wp_Se_hasFile_L31
        intro v3 e3
        rw [e3]
        exact ih (y + 1) (by grind) (by grind) (cnt1 (y := 4) (by grind) h2)
      refine ⟨fun _ => k, fun i hi => ⟨(r.2.1 _ i (cl_lt (M := 4) rfl h0 (by grind)) (by rw [← e1]; exact hi)).2, fun _ => k, fun _ => ⟨z1, hQ _⟩⟩⟩
  unfold wp_Se_hasFile
  exact ⟨5, key 5 0 (by decide) (by decide) (by decide)⟩
theorem s_isLetter {I : UI} {R : UR} {L : List Nat} {x : Int32} {Q : Int32 → UI → UR → Prop} (h0 : Q 0 I R) (h1 : 0 ≤ x → x < 26 → Q 1 I R) : wp_FF_isLetter L I R x Q := by
  unfold wp_FF_isLetter
  exact ⟨fun _ => ⟨z0, h0⟩, fun a => ⟨fun _ => ⟨z0, h0⟩, fun b => ⟨z1, h1 (by grind) (by grind)⟩⟩⟩
/-- what a call of the face leaves, and what one that throws -/
theorem s_open {I0 I : UI} {R : UR} {L : List Nat} {x : Int32} {Q : Int32 → List Nat → UI → UR → Prop} {QE : Nat → Prop} (c : cC I0 I) (r : cR L R) (hf : uFix L) (hE : QE 1) (hE2 : QE 2)
    (hQ : ∀ v L' I' R', cC I0 I' → cR L' R' → uFix L' → Q v L' I' R') : wp_FF_open 2 303 L I R x Q QE := by
  unfold wp_FF_open
  refine s_isLetter ⟨fun _ => ⟨by decide, hE⟩, fun h => absurd rfl h⟩ (fun h0 h1 => ⟨fun h => absurd h (by decide), fun _ => s_hasFile c r (fun v => ?_)⟩)
  refine ⟨fun _ => ⟨fun _ => ⟨by decide, hE2⟩, fun _ => ⟨fun _ => ⟨2, 303, by decide, s_addFile c r hf (fun L' I' R' c' r' f' => hQ _ _ _ _ c' r' f')⟩, fun _ => ⟨by decide, hE2⟩⟩⟩, fun _ => ⟨by decide, hE⟩⟩
theorem s_feed {I0 I : UI} {R : UR} {L : List Nat} {x1 x2 x3 x4 x5 : Int32} {Q : Int32 → List Nat → UI → UR → Prop} {QE : Nat → Prop} (c : cC I0 I) (r : cR L R) (hE : QE 1) (hE2 : QE 2)
    (hQ : ∀ v I', cC I0 I' → Q v L I' R) : wp_FF_feed 2 303 L I R x1 x2 x3 x4 x5 Q QE := by
  unfold wp_FF_feed
  refine ⟨fun _ => ⟨by decide, hE⟩, fun h0 => ⟨fun h1 => s_fileAt c r ?_ (fun i hi => ?_), fun _ => ⟨by decide, hE⟩⟩⟩
  · exact ⟨fun _ => ⟨by decide, hE2⟩, fun i h => (by cases h)⟩
  · refine ⟨fun h => (by cases h), fun j hj => ?_⟩
    cases hj
    refine ⟨hi, fun _ => ⟨by decide, hE2⟩, fun _ => ⟨fun _ => ?_, fun _ => ⟨by decide, hE2⟩⟩⟩
    have key : ∀ (n : Nat) (I : UI) (y : Int32), cC I0 I → 0 ≤ y → y ≤ 16 → 16 < y.toInt + n → wp_FF_feed_L76 2 303 Q QE n 0 0 L I R x1 x2 x3 x4 x5 (some i) y := by
      intro n
      induction n with
      | zero => intro I y c h0 h1 h2; exact (cnt0 (n := 0) (M := 16) rfl h1 h2).elim
      | succ n ih =>
        intro I y c h0 h1' h2
        rw [wp_FF_feed_L76]
        refine ⟨fun _ => ⟨i, rfl, hi, hQ _ _ c⟩, fun h3 => ?_⟩
        have k : ∀ z, wp_FF_feed_L117 2 303 Q QE (fun kc ks L I R x1 x2 x3 x4 x5 z6 x7 => wp_FF_feed_L76 2 303 Q QE n kc ks L I R x1 x2 x3 x4 x5 z6 x7) 0 0 L I R x1 x2 x3 x4 x5 (some i) y z := by
          intro z
          unfold wp_FF_feed_L117
          refine ⟨i, rfl, hi, s_Sf_append c hi.2.1 hi.2.2.2 (fun I7 c7 v9 e9 => ?_)⟩
          rw [e9]
          exact ih I7 (y + 1) c7 (by grind) (by grind) (cnt1 (y := 16) (by grind) h2)
        exact ⟨fun _ => ⟨fun _ => ⟨fun _ => k _, fun _ => k _⟩, fun _ => k _⟩, fun _ => k _⟩
    exact ⟨17, key 17 I 0 c (by decide) (by decide) (by decide)⟩
theorem s_clear {I0 I : UI} {R : UR} {L : List Nat} {Q : Int32 → List Nat → UI → UR → Prop} {QE : Nat → Prop} (c : cC I0 I) (hE2 : QE 2)
    (hQ : ∀ v I', cC I0 I' → Q v L I' R) : wp_FF_clear 2 303 L I R Q QE := by
  unfold wp_FF_clear wp_Se_dropFiles
  exact ⟨fun _ v1 e1 I2 e2 I3 e3 => hQ _ _ (w2' (by rw [e2]; exact w21 c (by decide)) (by decide) e3), fun _ => ⟨by decide, hE2⟩⟩
/-- start: it throws just where the size is out of range -/
theorem s_start {I0 I : UI} {R : UR} {L : List Nat} {x1 x2 : Int32} {Q : List Nat → UI → UR → Prop} {QE : Nat → Prop} (c : cC I0 I) (r : cR L R) (hz : zb x1) (hE : ¬ (1 ≤ x2 ∧ x2 ≤ 64) → QE 1)
    (hQ : 1 ≤ x2 ∧ x2 ≤ 64 → ∀ I' R', cC I0 I' → cR L R' → Q L I' R') : wp_FF_start 2 303 L I R x1 x2 Q QE := by
  unfold wp_FF_start
  refine ⟨fun h => ⟨by decide, hE (by grind)⟩, fun h1 => ⟨fun h2 => s_rcBegin c r hz (fun I1 R1 c1 r1 => s_seBegin c1 r1 (fun I2 c2 => hQ (by grind) _ _ c2 r1)), fun h => ⟨by decide, hE (by grind)⟩⟩⟩
theorem s_sender {I0 I : UI} {R : UR} {L : List Nat} {Q : Int32 → UI → UR → Prop} (c : cC I0 I) (r : cR L R) (hQ : ∀ v I', cC I0 I' → Q v I' R) : wp_FF_sender L I R Q := by
  unfold wp_FF_sender
  exact fun v1 e1 => s_seReadAll c (by decide) r (fun I2 c2 => s_sendPackets c2 r (fun I4 c4 => hQ _ _ c4))
theorem s_receiver {I0 I : UI} {R : UR} {L : List Nat} {Q : Int32 → List Nat → UI → UR → Prop} (c : cC I0 I) (r : cR L R) (hf : uFix L) (hQ : ∀ v L' I' R', cC I0 I' → cR L' R' → uFix L' → Q v L' I' R') : wp_FF_receiver 52 7878 L I R Q := by
  unfold wp_FF_receiver
  exact fun v1 e1 => ⟨52, 7878, by decide, s_rcReadAll c (by decide) r hf (fun L' I' R' c' r' f' => hQ _ _ _ _ c' r' f')⟩
theorem s_late {I0 I : UI} {R : UR} {L : List Nat} {x : Int32} {Q : Int32 → UI → UR → Prop} (c : cC I0 I) (r : cR L R) (hf : uFix L) (hQ : ∀ v I', cC I0 I' → Q v I' R) : wp_FF_late L I R x Q := by
  unfold wp_FF_late
  refine s_pipeOf (fun o ho => ⟨o, rfl, isPi_of hf ho, fun v5 e5 => ?_⟩)
  have k : ∀ I, cC I0 I → wp_FF_late_L32 L Q I R (some o) v5 := fun I c => by
    unfold wp_FF_late_L32
    exact ⟨o, rfl, isPi_of hf ho, hQ _ _ c⟩
  exact ⟨fun _ => s_rcSendLate c r (fun I6 c6 => k _ c6), fun _ => s_seSendLate c r (fun I6 c6 => k _ c6)⟩
theorem s_crash {I0 I : UI} {R : UR} {L : List Nat} {Q : UI → UR → Prop} (c : cC I0 I) (r : cR L R) (hQ : ∀ I' R', cC I0 I' → cR L R' → Q I' R') : wp_FF_crash L I R Q := by
  unfold wp_FF_crash
  exact s_beginAnew c r hQ
theorem s_flip {I0 I : UI} {R : UR} {L : List Nat} {x1 x2 x3 : Int32} {Q : Int32 → List Nat → UI → UR → Prop} {QE : Nat → Prop} (c : cC I0 I) (hf : uFix L) (hE : QE 1)
    (hQ : ∀ v I', cC I0 I' → Q v L I' R) : wp_FF_flip 2 303 L I R x1 x2 x3 Q QE := by
  unfold wp_FF_flip
  exact ⟨fun _ => ⟨by decide, hE⟩, fun _ => ⟨fun _ => s_pipeOf (fun o ho => ⟨o, rfl, isPi_of hf ho, s_Pi_turnBit c ho (fun v I' hz c' => ⟨hz, hQ _ _ c'⟩)⟩), fun _ => ⟨by decide, hE⟩⟩⟩
theorem s_lose {I0 I : UI} {R : UR} {L : List Nat} {x1 x2 x3 : Int32} {Q : Int32 → List Nat → UI → UR → Prop} {QE : Nat → Prop} (c : cC I0 I) (hf : uFix L) (hE : QE 1)
    (hQ : ∀ v I', cC I0 I' → Q v L I' R) : wp_FF_lose 2 303 L I R x1 x2 x3 Q QE := by
  unfold wp_FF_lose
  exact ⟨fun _ => ⟨by decide, hE⟩, fun _ => ⟨fun _ => s_pipeOf (fun o ho => ⟨o, rfl, isPi_of hf ho, s_Pi_drop c ho (fun v I' c' => hQ _ _ c')⟩), fun _ => ⟨by decide, hE⟩⟩⟩
theorem s_pipe {I0 I : UI} {R : UR} {L : List Nat} {x1 x2 : Int32} {Q : Int32 → UI → UR → Prop} (c : cC I0 I) (hf : uFix L) (hQ : ∀ v, Q v I R) : wp_FF_pipe L I R x1 x2 Q := by
  unfold wp_FF_pipe
  exact s_pipeOf (fun o ho => ⟨o, rfl, isPi_of hf ho, s_Pi_byteAt c ho hQ⟩)
theorem s_got {I0 I : UI} {R : UR} {L : List Nat} {x1 x2 : Int32} {Q : Int32 → List Nat → UI → UR → Prop} {QE : Nat → Prop} (c : cC I0 I) (r : cR L R) (hE : QE 1)
    (hQ : ∀ v, Q v L I R) : wp_FF_got 2 303 L I R x1 x2 Q QE := by
  unfold wp_FF_got
  refine s_isLetter ⟨fun h => absurd rfl h, fun _ => ⟨by decide, hE⟩⟩ (fun h0 h1 => ⟨fun _ => ⟨vp_i (M := 26) rfl h0 h1, fun z e => ⟨fun _ => hQ _, fun i hi => ?_⟩⟩, fun h => absurd h (by decide)⟩)
  have hs := (r.2.2.1 _ i (cl_lt (M := 26) rfl h0 h1) (by rw [← e]; exact hi)).2
  exact ⟨hs, s_Sf_byteAt c hs.2.1 hQ⟩
theorem s_count {I : UI} {R : UR} {L : List Nat} {x : Int32} {Q : Int32 → List Nat → UI → UR → Prop} {QE : Nat → Prop} (r : cR L R) (hE : QE 1)
    (hQ : ∀ v, Q v L I R) : wp_FF_count 2 303 L I R x Q QE := by
  have k1 : wp_Se_fileNumber L I R (fun r4 I2 R3 => Q r4 L I2 R3) := by
    unfold wp_Se_fileNumber wp_Se_fileNumber_L16
    exact ⟨fun _ => hQ _, fun _ => ⟨fun _ => hQ _, fun _ => hQ _⟩⟩
  have k2 : ∀ k, ∀ z : Option Nat, z = R 3 2 → ((z = none → Q (-1) L I R) ∧ (∀ i6 : Nat, z = some i6 → (∃ i7 : Nat, R 3 2 = some i7 ∧ isSf L i7 ∧ Q (I i7 k) L I R))) := fun k z e => ⟨fun _ => hQ _, fun i hi => ⟨i, by rw [← e]; exact hi, r.1 i (by rw [← e]; exact hi), hQ _⟩⟩
  unfold wp_FF_count
  intro v1 _
  exact ⟨fun _ => hQ _, fun _ => ⟨fun _ => k1, fun _ => ⟨fun _ => hQ _, fun _ => ⟨fun _ => ⟨fun _ => hQ _, fun _ => hQ _⟩, fun _ => ⟨fun _ => k2 1, fun _ => ⟨fun _ => k2 2, fun _ => ⟨fun _ => hQ _, fun _ => ⟨fun _ => hQ _, fun _ => ⟨fun _ => hQ _, fun _ => ⟨fun _ => hQ _, fun _ => ⟨fun _ => hQ _, fun _ => ⟨fun _ => hQ _, fun _ => ⟨by decide, hE⟩⟩⟩⟩⟩⟩⟩⟩⟩⟩⟩⟩⟩
