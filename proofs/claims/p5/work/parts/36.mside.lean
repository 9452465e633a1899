/-! What the reference keeps: its sender and its receiver. -/
/-- a reader begins anew -/
def bg (I J : UI) (w : Nat) (x : Int32) : Prop := (∀ o k, (o = 83 ∨ o = 84 ∨ o = 85 ∨ o = 86 → k ≠ w) → J o k = I o k) ∧ J 83 w = x ∧ J 84 w = 0
theorem s_begin {I : UI} {R : UR} {x1 x2 : Int32} {w : Nat} {Q : UI → UR → Prop} (hx : (x1 = 0 ∧ w = 0) ∨ (x1 = 1 ∧ w = 1)) (hQ : ∀ J, bg I J w x2 → Q J R) : wp_Mo_begin I R x1 x2 Q := by
  unfold wp_Mo_begin
  rcases hx with ⟨rfl, rfl⟩ | ⟨rfl, rfl⟩
  · simp only [t0]
    refine ⟨v02, fun I1 e1 => ⟨v02, fun I2 e2 => ⟨v02, fun I3 e3 => ⟨v02, z0, fun I4 e4 => hQ _ ?_⟩⟩⟩⟩
    subst e1 e2 e3 e4
    refine ⟨fun o k h => ?_, by simp only [u2_at]; simp, by simp only [u2_at]; simp⟩
    simp only [u2_at]; grind
  · simp only [t1]
    refine ⟨v12, fun I1 e1 => ⟨v12, fun I2 e2 => ⟨v12, fun I3 e3 => ⟨v12, z0, fun I4 e4 => hQ _ ?_⟩⟩⟩⟩
    subst e1 e2 e3 e4
    refine ⟨fun o k h => ?_, by simp only [u2_at]; simp, by simp only [u2_at]; simp⟩
    simp only [u2_at]; grind
theorem bg_md {I J : UI} {w : Nat} {x : Int32} (b : bg I J w x) : J 83 w = x := b.2.1
theorem bg_ne {I J : UI} {w o k : Nat} {x : Int32} (b : bg I J w x) (h : o ≠ 83 ∧ o ≠ 84 ∧ o ≠ 85 ∧ o ≠ 86) : J o k = I o k := b.1 o k (by grind)
theorem bg_fr {B I J : UI} {w : Nat} {x : Int32} (b : bg I J w x) (f : fr B I) : fr B J := by
  refine ⟨fun o k ho => ?_, ?_, ?_⟩
  · rw [b.1 o k (by omega)]; exact f.1 o k ho
  · rw [b.1 82 1 (by omega)]; exact f.2.1
  · rw [b.1 80 0 (by omega)]; exact f.2.2
theorem bg_mB {I J : UI} {w : Nat} {x : Int32} (b : bg I J w x) (a : mB I) : mB J := by
  have h : ∀ o k, o ≠ 83 ∧ o ≠ 84 ∧ o ≠ 85 ∧ o ≠ 86 → J o k = I o k := fun o k h => bg_ne b h
  unfold mB at *
  simp only [h 82 _ (by decide), h 80 _ (by decide), h 95 _ (by decide), h 103 _ (by decide)]
  exact a
theorem bg_mN {I J : UI} {w : Nat} {x : Int32} (b : bg I J w x) (a : mN I) : mN J := by
  have h : ∀ o k, o ≠ 83 ∧ o ≠ 84 ∧ o ≠ 85 ∧ o ≠ 86 → J o k = I o k := fun o k h => bg_ne b h
  unfold mN at *
  simp only [h 80 _ (by decide), h 95 _ (by decide)]
  exact a
theorem bg0 {B I J : UI} {x : Int32} (m : M B I) (b : bg I J 0 x) (h : 0 ≤ x ∧ x ≤ 4) : M B J := by
  obtain ⟨a, n, c, d, f⟩ := m
  refine ⟨bg_mB b a, bg_mN b n, ?_, ?_, bg_fr b f⟩
  · have := b.2.1; have := b.2.2; unfold rd0; grind
  · have h1 := b.1 83 1 (by omega); have h2 := b.1 84 1 (by omega); have h3 := b.1 87 1 (by omega); have h4 := b.1 89 1 (by omega); have h5 := b.1 91 1 (by omega); have h6 := b.1 80 25 (by omega)
    unfold rd1 at *; rw [h1, h2, h3, h4, h5, h6]; exact d
theorem bg1 {B I J : UI} {x : Int32} (m : M B I) (b : bg I J 1 x) (h : 0 ≤ x ∧ x ≤ 5) (h5 : x = 5 → I 91 1 = 4 ∨ 0 ≤ I 80 25) : M B J := by
  obtain ⟨a, n, c, d, f⟩ := m
  refine ⟨bg_mB b a, bg_mN b n, ?_, ?_, bg_fr b f⟩
  · have h1 := b.1 83 0 (by omega); have h2 := b.1 84 0 (by omega); have h3 := b.1 87 0 (by omega)
    unfold rd0 at *; rw [h1, h2, h3]; exact c
  · have h1 := b.2.1; have h2 := b.2.2; have h5 := b.1 91 1 (by omega); have h6 := b.1 80 25 (by omega)
    unfold rd1; grind
theorem s_isIn {I : UI} {R : UR} {x0 x1 x2 : Int32} {Q : Int32 → UI → UR → Prop} (h0 : ¬ (x1 ≤ x0 ∧ x0 ≤ x2) → Q 0 I R) (h1 : x1 ≤ x0 → x0 ≤ x2 → Q 1 I R) : wp_Mo_isIn I R x0 x1 x2 Q := by
  unfold wp_Mo_isIn
  exact ⟨fun h => ⟨z0, h0 (by grind)⟩, fun a => ⟨fun h => ⟨z0, h0 (by grind)⟩, fun b => ⟨z1, h1 (by grind) (by grind)⟩⟩⟩
theorem s_digitOfM {I : UI} {R : UR} {x : Int32} {Q : Int32 → UI → UR → Prop} (hQ : ∀ r, Q r I R) : wp_Mo_digitOf I R x Q := by
  unfold wp_Mo_digitOf
  exact s_isIn (fun _ => ⟨fun _ => s_isIn (fun _ => ⟨fun _ => s_isIn (fun _ => ⟨fun _ => hQ _, fun _ => hQ _⟩) (fun _ _ => ⟨fun _ => hQ _, fun _ => hQ _⟩), fun _ => hQ _⟩) (fun _ _ => ⟨fun h => absurd h (by decide), fun _ => hQ _⟩), fun h => absurd rfl h⟩) (fun _ _ => ⟨fun h => absurd h (by decide), fun _ => hQ _⟩)
theorem s_position {B I : UI} {R : UR} {Q : Int32 → UI → UR → Prop} (m : M B I) (hQ : ∀ r, Q r I R) : wp_Mo_position I R Q := by
  unfold wp_Mo_position
  have a := m.1
  unfold mB at a
  exact ⟨fun h => ⟨vp_i (M := 26) rfl h (by grind), hQ _⟩, fun _ => hQ _⟩
/-- what only writes into the pipes keeps everything -/
theorem s_answerM {B I : UI} {R : UR} {x : Int32} {Q : UI → UR → Prop} (m : M B I) (hQ : ∀ J, PF I J → M B J → Q J R) : wp_Mo_answer I R x Q := by
  have p := PF_rf m
  have k : ∀ s0, wp_Mo_answer_L43 Q I R s0 x 0 := fun s0 => by
    unfold wp_Mo_answer_L43
    exact s_sendHex p (Or.inl rfl) (fun J pj => hQ J pj (M_PF m pj))
  have k2 : wp_Mo_answer_L35 Q I R x 0 := by
    unfold wp_Mo_answer_L35
    exact s_position m (fun r => k r)
  unfold wp_Mo_answer
  exact ⟨fun _ => ⟨fun _ => k2, fun _ => ⟨fun _ => k 0, fun _ => k2⟩⟩, fun _ => ⟨fun _ => k 0, fun _ => k 32⟩⟩
theorem cur4 {B I : UI} (m : M B I) (h1 : 1 ≤ I 80 17) (h2 : I 80 17 ≤ 3) : vp_in (I 80 18) 4 := by
  have b := m.2.1
  unfold mN at b
  exact vp_i (M := 4) rfl b.1 (b.2.2.1 h1 h2)
theorem s_sendFile {B I : UI} {R : UR} {Q : UI → UR → Prop} (m : M B I) (hs : I 80 17 = 1) (hQ : ∀ J, PF I J → M B J → Q J R) : wp_Mo_sendFile I R Q := by
  unfold wp_Mo_sendFile
  refine s_sendBytes (PF_rf m) (fun I1 p1 => ?_)
  have hv : ∀ J, PF I J → vp_in (J 80 18) 4 := fun J p => by
    rw [PF_other p (by decide) (by decide)]; exact cur4 m (by rw [hs]; decide) (by rw [hs]; decide)
  refine ⟨hv _ p1, vp_i (M := 160) rfl (by decide) (by decide), fun I3 e3 => ?_⟩
  have p3 := PF_word p1 e3
  refine ⟨hv _ p3, vp_i (M := 160) rfl (by decide) (by decide), fun I4 e4 => ?_⟩
  have p4 := PF_word p3 e4
  refine ⟨hv _ p4, vp_i (M := 160) rfl (by decide) (by decide), fun I5 e5 => ?_⟩
  have p5 := PF_word p4 e5
  exact s_moSendPacket p5 (by decide) (by decide) (fun J pj => hQ J pj (M_PF m pj))
theorem s_again {B I : UI} {R : UR} {Q : UI → UR → Prop} (m : M B I) (hQ : ∀ J, PF I J → M B J → Q J R) : wp_Mo_again I R Q := by
  have p := PF_rf m
  have h : ∀ J, PF I J → Q J R := fun J pj => hQ J pj (M_PF m pj)
  unfold wp_Mo_again
  exact fun v e => ⟨fun _ => s_sendHex p (Or.inr rfl) h, fun _ => ⟨fun h1 => s_sendFile m (by rw [← e]; exact h1) hQ, fun _ => ⟨fun _ => h _ p, fun _ => ⟨fun h3 => ⟨cur4 m (by rw [← e, h3]; decide) (by rw [← e, h3]; decide), s_sendBytes p h⟩, fun _ => ⟨fun _ => s_sendHex p (Or.inr rfl) h, fun _ => h _ p⟩⟩⟩⟩⟩
theorem s_nextFile {B I : UI} {R : UR} {x : Int32} {Q : UI → UR → Prop} (m : M B I) (h0 : 0 ≤ x) (h1 : x ≤ 4) (hQ : ∀ J, M B J → Q J R) : wp_Mo_nextFile I R x Q := by
  unfold wp_Mo_nextFile
  refine fun I1 e1 I2 e2 => ?_
  have g : I2 80 13 = I 80 13 := by subst e1 e2; simp only [u2_at]; simp
  have a := m.1
  unfold mB at a
  have k : ∀ s, (s = 1 ∧ x < 4) ∨ s = 4 → wp_Mo_nextFile_L24 Q I2 R s := fun s hs => by
    unfold wp_Mo_nextFile_L24
    exact fun I3 e3 => s_again (M_next m h0 h1 hs e1 e2 e3) (fun J _ mj => hQ J mj)
  exact ⟨fun _ => k _ (Or.inr rfl), fun h => k _ (Or.inl ⟨rfl, by rw [g] at h; grind⟩)⟩
theorem s_sendOn {B I : UI} {R : UR} {Q : UI → UR → Prop} (m : M B I) (hQ : ∀ J, M B J → Q J R) : wp_Mo_sendOn I R Q := by
  have k167 : ∀ (I : UI) (x : Int32), M B I → I 80 17 = 2 → wp_Mo_sendOn_L167 Q I R x := by
    intro I x m hs
    unfold wp_Mo_sendOn_L167
    refine ⟨fun _ => hQ _ m, fun _ I1 e1 => ?_⟩
    have m1 := M_st3 m hs e1
    have g : I1 80 17 = 3 := by rw [e1, u2_at, if_pos ⟨rfl, rfl⟩]
    exact ⟨cur4 m1 (by rw [g]; decide) (by rw [g]; decide), s_sendBytes (PF_rf m1) (fun J pj => hQ J (M_PF m1 pj))⟩
  have k92 : ∀ (K13 : UI → UR → Int32 → Int32 → Prop) (x1 x2 x4 : Int32), 0 ≤ x4 → x4 ≤ 64 → (∀ J, M B J → J 80 17 = 2 → K13 J R x1 (x2 + 1)) → ∀ (n : Nat) (I : UI) (x5 : Int32), M B I → I 80 17 = 2 → x4 ≤ I 95 (I 80 18).toNatClampNeg - I 80 19 → 0 ≤ x5 → x5 ≤ x4 → x4.toInt < x5.toInt + n → wp_Mo_sendOn_L92 Q K13 n I R x1 x2 x4 x5 := by
    intro K13 x1 x2 x4 g0 g1 hK n
    induction n with
    | zero => intro I x5 m hs hl h0 h1 h2; exact (cnt0 (n := 0) (M := x4) rfl h1 h2).elim
    | succ n ih =>
      intro I x5 m hs hl h0 h1 h2
      have a := m.1
      have b := m.2.1
      unfold mB at a
      unfold mN at b
      have hc : I 80 18 < 4 := b.2.2.1 (by rw [hs]; decide) (by rw [hs]; decide)
      have hcl := cl_lt (M := 4) (n := 4) rfl b.1 hc
      have hL := a.2.2.2.2.2.1 _ hcl
      have hp := b.2.2.2 hs
      rw [wp_Mo_sendOn_L92]
      refine ⟨fun _ I5 e5 => ?_, fun h3 => ⟨vp_i (M := 1200) rfl (by grind) (by grind), vp_i (M := 160) rfl (by grind) (by grind), fun I9 e9 v e => ?_⟩⟩
      · have m5 := M_pl m (by grind) (by grind) e5
        have g5 : I5 80 17 = 2 := by rw [e5, u2_at, if_neg (by decide)]; exact hs
        have k : ∀ s, wp_Mo_sendOn_L158 Q K13 (fun I R x1 x2 x4 x5 => wp_Mo_sendOn_L92 Q K13 n I R x1 x2 x4 x5) I5 R x1 x2 s x4 := fun s => by
          unfold wp_Mo_sendOn_L158
          exact s_moSendPacket (PF_rf m5) g0 g1 (fun J pj v e => by rw [e]; exact hK J (M_PF m5 pj) (by rw [PF_other pj (by decide) (by decide)]; exact g5))
        exact ⟨fun _ => k _, fun _ => k _⟩
      · rw [e]
        have q17 : I9 80 17 = I 80 17 := by rw [e9, u2_ne _ _ _ (by decide)]
        have q18 : I9 80 18 = I 80 18 := by rw [e9, u2_ne _ _ _ (by decide)]
        have q19 : I9 80 19 = I 80 19 := by rw [e9, u2_ne _ _ _ (by decide)]
        have q95 : I9 95 = I 95 := by rw [e9]; unfold u2; rw [va_up_ne _ _ (by decide)]
        exact ih I9 (x5 + 1) (M_irr m (by simp [rel]) e9) (by rw [q17]; exact hs) (by rw [q18, q19, q95]; exact hl) (by grind) (by grind) (cnt1 (y := x4) (by grind) h2)
  have key : ∀ (n : Nat) (I : UI) (x1 x : Int32), M B I → I 80 17 = 2 → 0 ≤ x → x ≤ 4 → 4 < x.toInt + n → wp_Mo_sendOn_L13 Q n I R x1 x := by
    intro n
    induction n with
    | zero => intro I x1 x m hs h0 h1 h2; exact (cnt0 (n := 0) (M := 4) rfl h1 h2).elim
    | succ n ih =>
      intro I x1 x m hs h0 h1 h2
      rw [wp_Mo_sendOn_L13]
      refine ⟨fun _ => k167 _ _ m hs, fun h4 => ⟨fun _ => k167 _ _ m hs, fun _ => ?_⟩⟩
      have k44 : ∀ I, M B I → I 80 17 = 2 → wp_Mo_sendOn_L44 Q (fun I R x1 x2 => wp_Mo_sendOn_L13 Q n I R x1 x2) I R x := by
        intro I m hs
        have a := m.1
        have b := m.2.1
        unfold mB at a
        unfold mN at b
        have hc : I 80 18 < 4 := b.2.2.1 (by rw [hs]; decide) (by rw [hs]; decide)
        have hcl := cl_lt (M := 4) (n := 4) rfl b.1 hc
        have hL := a.2.2.2.2.2.1 _ hcl
        have hp := b.2.2.2 hs
        unfold wp_Mo_sendOn_L44
        refine ⟨vp_i (M := 4) rfl b.1 hc, fun v4 e4 => ?_⟩
        have k88 : ∀ s z, 0 ≤ s → s ≤ 64 → s ≤ v4 → wp_Mo_sendOn_L88 Q (fun I R x1 x2 => wp_Mo_sendOn_L13 Q n I R x1 x2) I R x s z := by
          intro s z hs0 hs1 hs2
          unfold wp_Mo_sendOn_L88
          refine ⟨s.toInt.toNat + 1, k92 _ z x s hs0 hs1 (fun J mj gj => ih J z (x + 1) mj gj (by grind) (by grind) (cnt1 (y := 4) (by grind) h2)) _ I 0 m hs (by rw [← e4]; exact hs2) (by decide) hs0 (by rw [show (0 : Int32).toInt = 0 from rfl]; omega)⟩
        have k75 : ∀ s, 0 ≤ s → s ≤ 64 → s ≤ v4 → wp_Mo_sendOn_L75 Q (fun I R x1 x2 => wp_Mo_sendOn_L13 Q n I R x1 x2) I R x v4 s := by
          intro s hs0 hs1 hs2
          unfold wp_Mo_sendOn_L75
          exact ⟨fun _ => k88 _ _ hs0 hs1 hs2, fun _ => k88 _ _ hs0 hs1 hs2⟩
        exact ⟨fun h => k75 _ (by grind) (by grind) h, fun h => k75 _ (by grind) (by grind) (by grind)⟩
      refine ⟨fun _ => k44 _ m hs, fun _ => s_sendBytes (PF_rf m) (fun I11 p11 => ⟨z0, fun I13 e13 => k44 _ (M_irr (M_PF m p11) (by decide) e13) ?_⟩)⟩
      rw [e13, u2_at, if_neg (by decide), PF_other p11 (by decide) (by decide)]; exact hs
  unfold wp_Mo_sendOn
  exact ⟨fun h => ⟨5, key 5 I 1 0 m h (by decide) (by decide) (by decide)⟩, fun _ => hQ _ m⟩
theorem s_badHeader0 {B I : UI} {R : UR} {Q : UI → UR → Prop} (m : M B I) (hQ : ∀ J, M B J → Q J R) : wp_Mo_badHeader I R 0 Q := by
  unfold wp_Mo_badHeader
  exact s_begin (w := 0) (Or.inl ⟨rfl, rfl⟩) (fun J b => ⟨fun _ => hQ _ (bg0 m b (by decide)), fun h => absurd h (by decide)⟩)
theorem s_badHeader1 {B I : UI} {R : UR} {Q : UI → UR → Prop} (m : M B I) (hQ : ∀ J, M B J → Q J R) : wp_Mo_badHeader I R 1 Q := by
  unfold wp_Mo_badHeader
  refine s_begin (w := 1) (Or.inr ⟨rfl, rfl⟩) (fun J b => ⟨fun h => absurd rfl h, fun _ => ⟨vp_i (M := 4) rfl (by decide) (by decide), vp_i (M := 4) rfl (by decide) (by decide), fun I3 e3 => ?_⟩⟩)
  have m1 := bg1 m b (by decide) (fun h => absurd h (by decide))
  have m3 := M_irr m1 (by decide) e3
  exact s_sendHex (PF_rf m3) (Or.inl rfl) (fun J pj => hQ _ (M_PF m3 pj))
theorem s_badPacket {B I : UI} {R : UR} {Q : UI → UR → Prop} (m : M B I) (hQ : ∀ J, M B J → Q J R) : wp_Mo_badPacket I R Q := by
  unfold wp_Mo_badPacket
  refine ⟨vp_i (M := 4) rfl (by decide) (by decide), vp_i (M := 4) rfl (by decide) (by decide), fun I1 e1 => ⟨z0, fun I2 e2 => ?_⟩⟩
  have m2 := M_irr (M_irr m (by decide) e1) (by decide) e2
  refine s_begin (w := 1) (Or.inr ⟨rfl, rfl⟩) (fun J b => ?_)
  have mj := bg1 m2 b (by decide) (fun h => absurd h (by decide))
  have k : ∀ s, wp_Mo_badPacket_L39 Q J R s := fun s => by
    unfold wp_Mo_badPacket_L39
    exact s_answerM mj (fun J' _ m' => hQ J' m')
  exact ⟨v12, fun _ => k _, fun _ => k _⟩
theorem v_row {x : Int32} (h0 : 0 ≤ x) (h1 : x < 160) : vp_in x 160 := vp_i (M := 160) rfl h0 h1
theorem s_told {B I : UI} {R : UR} {x : Int32} {Q : UI → UR → Prop} (m : M B I) (hQ : ∀ J, M B J → Q J R) : wp_Mo_told I R x Q := by
  have kn : wp_Mo_told_L26 Q I R := by
    unfold wp_Mo_told_L26
    exact s_answerM m (fun J' _ m' => hQ J' m')
  unfold wp_Mo_told
  refine ⟨v_row (by decide) (by decide), fun v e => ⟨fun _ => kn, fun _ => s_isIn (fun _ => ⟨fun h => absurd rfl h, fun _ => kn⟩) (fun h0 h1 => ⟨fun _ => ?_, fun h => absurd h (by decide)⟩)⟩⟩
  have hv : vp_in v 26 := vp_i (M := 26) rfl h0 (by grind)
  have k : wp_Mo_told_L76 Q I R v := by
    unfold wp_Mo_told_L76
    refine ⟨hv, z1, fun I7 e7 I8 e8 => ?_⟩
    have m7 := M_irr m (by simp [rel]) e7
    exact s_answerM (M_open m7 ⟨by grind, fun _ => Or.inr h0⟩ e8) (fun J' _ m' => hQ J' m')
  exact ⟨hv, fun _ => k, fun _ => ⟨hv, v_row (by decide) (by decide), v_row (by decide) (by decide), fun _ => k, fun _ => s_answerM m (fun J' _ m' => hQ J' m')⟩⟩
theorem s_goodPacket {B I : UI} {R : UR} {x1 x2 : Int32} {Q : UI → UR → Prop} (m : M B I) (g0 : 0 ≤ x1) (g1 : x1 ≤ 64) (hp : I 91 1 = 4 ∨ 0 ≤ I 80 25) (hQ : ∀ J, M B J → Q J R) : wp_Mo_goodPacket I R x1 x2 Q := by
  have k89 : ∀ I, M B I → wp_Mo_goodPacket_L89 Q I R x2 := by
    intro I m
    have k : wp_Mo_goodPacket_L101 Q I R := by
      unfold wp_Mo_goodPacket_L101
      exact s_answerM m (fun J' _ m' => hQ J' m')
    unfold wp_Mo_goodPacket_L89
    exact ⟨fun _ => k, fun _ => ⟨fun _ => hQ _ m, fun _ => k⟩⟩
  have key : ∀ (n : Nat) (I : UI) (x : Int32), M B I → 0 ≤ I 80 25 → 0 ≤ x → x ≤ x1 → x1.toInt < x.toInt + n → wp_Mo_goodPacket_L18 Q n I R x1 x2 x := by
    intro n
    induction n with
    | zero => intro I x m h25 h0 h1 h2; exact (cnt0 (n := 0) (M := x1) rfl h1 h2).elim
    | succ n ih =>
      intro I x m h25 h0 h1 h2
      have a := m.1
      unfold mB at a
      have ho : I 80 25 < 26 := by grind
      have hv : vp_in (I 80 25) 26 := vp_i (M := 26) rfl h25 ho
      have hg := a.2.2.2.2.2.2 _ (cl_lt (M := 26) (n := 26) rfl h25 ho)
      rw [wp_Mo_goodPacket_L18]
      refine ⟨fun _ => k89 _ m, fun h3 => ⟨hv, fun _ => k89 _ m, fun h4 => ⟨hv, v_row (by grind) (by grind), vp_i (M := 7800) rfl (by grind) (by grind), fun I3 e3 => ?_⟩⟩⟩
      have m3 := M_irr m (by simp [rel]) e3
      have q25 : I3 80 25 = I 80 25 := by rw [e3, u2_ne _ _ _ (by decide)]
      have q103 : I3 103 = I 103 := by rw [e3]; unfold u2; rw [va_up_ne _ _ (by decide)]
      rw [q25, q103]
      refine ⟨hv, hv, fun I4 e4 v e => ?_⟩
      rw [e]
      exact ih I4 (x + 1) (M_got m3 (by grind) (by grind) e4) (by rw [e4, u2_ne _ _ _ (by decide), q25]; exact h25) (by grind) (by grind) (cnt1 (y := x1) (by grind) h2)
  unfold wp_Mo_goodPacket
  refine ⟨v12, fun h => ⟨x1.toInt.toNat + 1, key _ I 0 m (hp.resolve_left h) (by decide) g0 (by rw [show (0 : Int32).toInt = 0 from rfl]; omega)⟩, fun _ => s_told m hQ⟩
theorem s_received {B I : UI} {R : UR} {x1 x2 x3 : Int32} {Q : UI → UR → Prop} (m : M B I) (h83 : I 83 1 = 0) (hQ : ∀ J, M B J → Q J R) : wp_Mo_received I R x1 x2 x3 Q := by
  have an : ∀ x, wp_Mo_answer I R x (fun I2 R3 => Q I2 R3) := fun x => s_answerM m (fun J _ mj => hQ J mj)
  have k0 := hQ _ m
  have a := m.1
  unfold mB at a
  have k143 : wp_Mo_received_L143 Q I R x3 := by
    unfold wp_Mo_received_L143
    exact ⟨fun _ => k0, fun _ => ⟨fun _ => k0, fun _ => an 9⟩⟩
  have k20 : ∀ s, (s = 0 ∨ 0 ≤ I 80 25) → wp_Mo_received_L20 Q I R x1 x3 s := by
    intro s hs
    unfold wp_Mo_received_L20
    refine fun v e => ⟨fun _ => an 1, fun _ => ⟨fun _ => k0, fun _ => ⟨fun _ => k0, fun _ => ⟨fun _ => k0, fun _ => ⟨fun _ => ⟨fun _ => k0, fun _ I4 e4 => ⟨v12, fun I5 e5 => ?_⟩⟩, fun _ => ⟨fun _ => k0, fun _ => ⟨fun _ => k0, fun _ => ⟨fun _ => k0, fun _ => ⟨fun _ => s_answerM m (fun J _ mj => ⟨z1, fun I10 e10 => hQ _ (M_irr mj (by decide) e10)⟩), fun _ => ⟨fun _ => k0, fun _ => ⟨fun _ => ⟨fun _ => k143, fun _ => ⟨fun _ => k143, fun h => ⟨v12, fun I13 e13 => ?_⟩⟩⟩, fun _ => ⟨fun _ => ⟨fun _ => k0, fun _ I16 e16 => ?_⟩, fun _ => k0⟩⟩⟩⟩⟩⟩⟩⟩⟩⟩⟩⟩
    · have m4 := M_open m ⟨by decide, fun h => by rw [h83] at h; exact absurd h (by decide)⟩ e4
      have m5 := M_purp m4 e5
      exact s_begin (w := 1) (Or.inr ⟨rfl, rfl⟩) (fun J b => hQ _ (bg1 m5 b (by decide) (fun _ => Or.inl (by rw [e5, t1, u2_at, if_pos ⟨rfl, rfl⟩]))))
    · have m5 := M_purp' m h83 e13
      exact s_begin (w := 1) (Or.inr ⟨rfl, rfl⟩) (fun J b => hQ _ (bg1 m5 b (by decide) (fun _ => Or.inr (by rw [e13, u2_ne _ _ _ (by decide)]; exact hs.resolve_left h))))
    · have m4 := M_open m ⟨by decide, fun h => by rw [h83] at h; exact absurd h (by decide)⟩ e16
      exact s_answerM m4 (fun J _ mj => hQ J mj)
  have k19 : wp_Mo_received_L19 Q I R x1 x3 := by
    unfold wp_Mo_received_L19
    exact k20 0 (Or.inl rfl)
  unfold wp_Mo_received
  exact ⟨fun _ => k19, fun h => s_position m (fun r => ⟨fun _ => k19, fun _ => k20 1 (Or.inr (by grind))⟩)⟩
theorem s_heard {B I : UI} {R : UR} {x1 x2 : Int32} {Q : UI → UR → Prop} (m : M B I) (hQ : ∀ J, M B J → Q J R) : wp_Mo_heard I R x1 x2 Q := by
  have k0 := hQ _ m
  have b := m.2.1
  unfold mN at b
  have k65 : ∀ s, zb s → wp_Mo_heard_L65 Q I R s := by
    intro s hz
    unfold wp_Mo_heard_L65
    refine ⟨hz, fun I2 e2 => ?_⟩
    have m2 := M_irr m (by decide) e2
    have b2 := m2.2.1
    unfold mN at b2
    exact ⟨fun _ => ⟨fun _ => hQ _ m2, fun h => s_nextFile m2 (by have := b2.2.2.1 (by rw [h]; decide) (by rw [h]; decide); grind) (by have := b2.2.2.1 (by rw [h]; decide) (by rw [h]; decide); grind) hQ⟩, fun _ => s_nextFile m2 (by decide) (by decide) hQ⟩
  have nx : 1 ≤ I 80 17 → I 80 17 ≤ 3 → wp_Mo_nextFile I R (I 80 18 + 1) (fun I10 R11 => Q I10 R11) := fun h1 h2 => by
    have := b.2.2.1 h1 h2
    exact s_nextFile m (by grind) (by grind) hQ
  unfold wp_Mo_heard
  refine fun v e => ⟨fun _ => ⟨fun _ => k65 _ z0, fun _ => k65 _ z1⟩, fun _ => ⟨fun _ => k0, fun _ => ⟨fun _ => k0, fun _ => ⟨fun _ => k0, fun _ => ⟨fun _ => s_isIn (fun _ => ⟨fun _ => k0, fun h => absurd rfl h⟩) (fun h1 h2 => ⟨fun h => absurd h (by decide), fun _ => nx h1 h2⟩), fun _ => ⟨fun _ => s_again m (fun J _ mj => hQ J mj), fun _ => ⟨fun _ => k0, fun _ => ⟨fun _ => ⟨fun _ => k0, fun _ => s_put (PF_rf m) (Or.inr rfl) (fun I14 p14 => s_put p14 (Or.inr rfl) (fun I16 p16 I18 e18 => hQ _ (M_st (M_PF m p16) (by decide) e18)))⟩, fun _ => ⟨fun _ => s_isIn (fun _ => ⟨fun _ => k0, fun h => absurd rfl h⟩) (fun h1 h2 => ⟨fun h => absurd h (by decide), fun _ => ⟨fun _ => k0, fun h3 => ⟨cur4 m h1 h2, fun _ => k0, fun h4 I22 e22 I23 e23 => ⟨z1, fun I24 e24 => hQ _ (M_irr (M_go m (by grind) (by grind) h1 h2 e22 e23) (by decide) e24)⟩⟩⟩⟩), fun _ => k0⟩⟩⟩⟩⟩⟩⟩⟩⟩
