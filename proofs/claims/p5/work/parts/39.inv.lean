/-! What every call keeps, of the class and of the reference. -/
def cTy (I : UI) : Prop := ∀ o k, o < 80 → cT (kd o) k (I o k)
def mA (I : UI) : Prop := mB I ∧ mN I ∧ rd0 I ∧ rd1 I
def Inv (k kc ks : Nat) (L : List Nat) (J : Nat → Int64) (I : UI) (R : UR) : Prop :=
  kc + 60 * k ≤ 601024 ∧ ks + 8000 * k ≤ 7293034 ∧ cTy I ∧ cR L R ∧ uFix L ∧ mA I
theorem cC_rf {I : UI} (t : cTy I) : cC I I := ⟨t, fun _ _ => rfl⟩
theorem mA_cC {I0 I : UI} (a : mA I0) (c : cC I0 I) : MF I I := by
  have h : ∀ o, 80 ≤ o → I o = I0 o := c.2
  obtain ⟨a, b, d, e⟩ := a
  refine ⟨?_, ?_, ?_, ?_, fun _ _ _ => rfl⟩
  · unfold mB at *; rw [h 82 (by decide), h 80 (by decide), h 95 (by decide), h 103 (by decide)]; exact a
  · unfold mN at *; rw [h 80 (by decide), h 95 (by decide)]; exact b
  · unfold rd0 at *; rw [h 83 (by decide), h 84 (by decide), h 87 (by decide)]; exact d
  · unfold rd1 at *; rw [h 83 (by decide), h 84 (by decide), h 87 (by decide), h 89 (by decide), h 91 (by decide), h 80 (by decide)]; exact e
theorem cTy_MF {I0 I J : UI} (c : cC I0 I) (m : MF I J) : cTy J := by
  intro o k ho
  rw [m.2.2.2.2 o k ho]; exact c.1 o k ho
theorem inv_fin {k kc ks c1 s1 : Nat} {L L' : List Nat} {J J' : Nat → Int64} {I I1 I2 : UI} {R R' : UR} (i : Inv (k + 1) kc ks L J I R) (h1 : c1 ≤ 60) (h2 : s1 ≤ 8000) (c : cC I I1) (r : cR L' R') (f : uFix L') (m : MF I1 I2) : Inv k (kc + c1) (ks + s1) L' J' I2 R' := by
  obtain ⟨a, b, t, _, _, _⟩ := i
  exact ⟨by omega, by omega, cTy_MF c m, r, f, m.1, m.2.1, m.2.2.1, m.2.2.2.1⟩
theorem inv_bud {k kc ks c1 s1 : Nat} (b1 : kc + 60 * (k + 1) ≤ 601024) (b2 : ks + 8000 * (k + 1) ≤ 7293034) (h1 : c1 ≤ 60) (h2 : s1 ≤ 8000) : kc + c1 ≤ 601024 ∧ ks + s1 ≤ 7293034 := ⟨by omega, by omega⟩
theorem v01 : vp_in 0 1 := vp_i (M := 1) rfl (by decide) (by decide)
theorem inv_step (k kc ks : Nat) (L : List Nat) (J : Nat → Int64) (I : UI) (R : UR) (y0 y1 y2 y3 y4 y5 : Int32) (i : Inv (k + 1) kc ks L J I R) : wp_cases kc ks L J I R y0 y1 y2 y3 y4 y5 (Inv k) := by
  have i' := i
  obtain ⟨b1, b2, t, r, f, a⟩ := i'
  have c := cC_rf t
  have bud := inv_bud (c1 := 2) (s1 := 303) b1 b2 (Nat.le_of_ble_eq_true rfl) (Nat.le_of_ble_eq_true rfl)
  have b0 : 0 + 2 ≤ 2 ∧ 0 + 303 ≤ 303 := ⟨Nat.le_of_ble_eq_true rfl, Nat.le_of_ble_eq_true rfl⟩
  have m0 := mA_cC a c
  unfold wp_cases
  refine ⟨fun _ => ?_, fun _ => ?_, fun _ => ?_, fun _ => ?_, fun _ => ?_, fun _ => ?_, fun _ => ?_, fun _ => ?_, fun _ => ?_, fun _ => ?_, fun _ => ?_, fun _ => ?_, fun _ => ?_, fun _ _ _ _ _ _ _ _ _ _ _ _ _ => ?_⟩
  · unfold wp_law_0 wp_Lw_open
    refine ⟨2, 303, bud, 2, 303, b0, s_open c r f (Or.inl ⟨rfl, ?_⟩) (Or.inr ⟨rfl, ?_⟩) (fun v L' I' R' c' r' f' => ⟨v01, fun J8 _ => ?_⟩)⟩
    · exact s_moOpen m0 (fun _ J mj => inv_fin i (Nat.le_of_ble_eq_true rfl) (Nat.le_of_ble_eq_true rfl) c r f mj)
    · exact s_moOpen m0 (fun _ J mj => inv_fin i (Nat.le_of_ble_eq_true rfl) (Nat.le_of_ble_eq_true rfl) c r f mj)
    · exact s_moOpen (mA_cC a c') (fun _ J mj => inv_fin i (Nat.le_of_ble_eq_true rfl) (Nat.le_of_ble_eq_true rfl) c' r' f' mj)
  · unfold wp_law_1 wp_Lw_feed
    refine ⟨2, 303, bud, 2, 303, b0, s_feed c r (Or.inl ⟨rfl, ?_⟩) (Or.inr ⟨rfl, ?_⟩) (fun v I' c' => ⟨v01, fun J8 _ => ?_⟩)⟩
    · exact s_moFeed m0 (fun _ J mj => inv_fin i (Nat.le_of_ble_eq_true rfl) (Nat.le_of_ble_eq_true rfl) c r f mj)
    · exact s_moFeed m0 (fun _ J mj => inv_fin i (Nat.le_of_ble_eq_true rfl) (Nat.le_of_ble_eq_true rfl) c r f mj)
    · exact s_moFeed (mA_cC a c') (fun _ J mj => inv_fin i (Nat.le_of_ble_eq_true rfl) (Nat.le_of_ble_eq_true rfl) c' r f mj)
  · unfold wp_law_2 wp_Lw_clear
    refine ⟨2, 303, bud, 2, 303, b0, s_clear c ⟨rfl, ?_⟩ (fun v I' c' => ⟨v01, fun J8 _ => ?_⟩)⟩
    · exact s_moClear m0 (fun _ J mj => inv_fin i (Nat.le_of_ble_eq_true rfl) (Nat.le_of_ble_eq_true rfl) c r f mj)
    · exact s_moClear (mA_cC a c') (fun _ J mj => inv_fin i (Nat.le_of_ble_eq_true rfl) (Nat.le_of_ble_eq_true rfl) c' r f mj)
  · unfold wp_law_3 wp_Lw_start wp_Mo_thrown
    refine ⟨2, 303, bud, 2, 303, b0, s_start c r (nz_zb y1) (fun hx => ⟨rfl, ?_⟩) (fun hx I' R' c' r' => ?_)⟩
    · exact s_moStart m0 (nz_zb y1) (fun _ J mj e => ⟨fun _ => inv_fin i (Nat.le_of_ble_eq_true rfl) (Nat.le_of_ble_eq_true rfl) c r f mj, fun h => h e⟩) (fun h => absurd h hx)
    · exact s_moStart (mA_cC a c') (nz_zb y1) (fun h => absurd hx h) (fun _ J mj e => ⟨fun _ => inv_fin i (Nat.le_of_ble_eq_true rfl) (Nat.le_of_ble_eq_true rfl) c' r' f mj, fun h => h e⟩)
  · unfold wp_law_4
    exact s_sender c r (fun v I' c' => s_moSender (mA_cC a c') (fun _ J mj => inv_fin (c1 := 0) (s1 := 0) i (Nat.le_of_ble_eq_true rfl) (Nat.le_of_ble_eq_true rfl) c' r f mj))
  · unfold wp_law_5
    exact ⟨52, 7878, inv_bud b1 b2 (Nat.le_of_ble_eq_true rfl) (Nat.le_of_ble_eq_true rfl), s_receiver c r f (fun v L' I' R' c' r' f' => s_moReceiver (mA_cC a c') (fun _ J mj => inv_fin i (Nat.le_of_ble_eq_true rfl) (Nat.le_of_ble_eq_true rfl) c' r' f' mj))⟩
  · unfold wp_law_6
    exact s_late c r f (fun v I' c' => s_moLate (mA_cC a c') (fun _ J mj => inv_fin (c1 := 0) (s1 := 0) i (Nat.le_of_ble_eq_true rfl) (Nat.le_of_ble_eq_true rfl) c' r f mj))
  · unfold wp_law_7
    exact s_crash c r (fun I' R' c' r' => s_moCrash (mA_cC a c') (fun J mj => inv_fin (c1 := 0) (s1 := 0) i (Nat.le_of_ble_eq_true rfl) (Nat.le_of_ble_eq_true rfl) c' r' f mj))
  · unfold wp_law_8 wp_Lw_flip
    refine ⟨2, 303, bud, 2, 303, b0, s_flip c f ⟨rfl, ?_⟩ (fun v I' c' => ⟨fun _ => ⟨v01, fun J8 _ => ?_⟩, fun _ => ⟨v01, fun J8 _ => ?_⟩⟩)⟩
    · exact s_moFlip m0 (fun _ J mj => inv_fin i (Nat.le_of_ble_eq_true rfl) (Nat.le_of_ble_eq_true rfl) c r f mj)
    · exact s_moFlip (mA_cC a c') (fun _ J mj => inv_fin i (Nat.le_of_ble_eq_true rfl) (Nat.le_of_ble_eq_true rfl) c' r f mj)
    · exact s_moFlip (mA_cC a c') (fun _ J mj => inv_fin i (Nat.le_of_ble_eq_true rfl) (Nat.le_of_ble_eq_true rfl) c' r f mj)
  · unfold wp_law_9 wp_Lw_lose
    refine ⟨2, 303, bud, 2, 303, b0, s_lose c f ⟨rfl, ?_⟩ (fun v I' c' => ⟨v01, fun J8 _ => ?_⟩)⟩
    · exact s_moLose m0 (fun _ J mj => inv_fin i (Nat.le_of_ble_eq_true rfl) (Nat.le_of_ble_eq_true rfl) c r f mj)
    · exact s_moLose (mA_cC a c') (fun _ J mj => inv_fin i (Nat.le_of_ble_eq_true rfl) (Nat.le_of_ble_eq_true rfl) c' r f mj)
  · unfold wp_law_10
    exact s_pipe c f (fun v => s_moPipe m0 (fun _ J mj => inv_fin (c1 := 0) (s1 := 0) i (Nat.le_of_ble_eq_true rfl) (Nat.le_of_ble_eq_true rfl) c r f mj))
  · unfold wp_law_11 wp_Lw_got
    refine ⟨2, 303, bud, 2, 303, b0, s_got c r ⟨rfl, ?_⟩ (fun v => ⟨v01, fun J8 _ => ?_⟩)⟩
    · exact s_moGot m0 (fun _ J mj => inv_fin i (Nat.le_of_ble_eq_true rfl) (Nat.le_of_ble_eq_true rfl) c r f mj)
    · exact s_moGot m0 (fun _ J mj => inv_fin i (Nat.le_of_ble_eq_true rfl) (Nat.le_of_ble_eq_true rfl) c r f mj)
  · unfold wp_law_12 wp_Lw_count
    refine ⟨2, 303, bud, 2, 303, b0, s_count r ⟨rfl, ?_⟩ (fun v => ⟨v01, fun J8 _ => ?_⟩)⟩
    · exact s_moCount m0 (fun _ J mj => inv_fin i (Nat.le_of_ble_eq_true rfl) (Nat.le_of_ble_eq_true rfl) c r f mj)
    · exact s_moCount m0 (fun _ J mj => inv_fin i (Nat.le_of_ble_eq_true rfl) (Nat.le_of_ble_eq_true rfl) c r f mj)
  · exact ⟨by omega, by omega, t, r, f, a⟩
theorem inv_init : Inv 512 40 21664 L00 (fun _ => 0) I00 R00 := by
  refine ⟨by decide, by decide, ?_, ?_, fix00, ?_⟩
  · intro o k ho
    by_cases h2 : o = 2
    · subst h2
      refine ⟨?_, ?_⟩ <;> (rintro rfl; first | exact ⟨by decide, by decide⟩ | exact z0)
    · by_cases h3 : o = 3
      · subst h3; trivial
      · have e : I00 o k = 0 := by
          unfold I00
          split <;> first | rfl | omega
        rw [e]
        have key : ∀ κ, cT κ k 0 := by
          intro κ
          unfold cT
          split
          all_goals first | exact trivial | exact ⟨fun _ => ⟨by decide, by decide⟩, fun _ => z0⟩ | exact fun _ => ⟨by decide, by decide⟩ | exact fun _ => z0 | rfl
        exact key _
  · refine ⟨fun i h => (by cases h), fun k i _ h => (by cases h), fun k i _ h => (by cases h), fun o k i h => (by cases h), ?_, ?_⟩
    · have key : ∀ k, k < 4 → 20 + 2 * k ∉ L00 ∧ 21 + 2 * k ∉ L00 := by decide +kernel
      exact fun k h _ => key k h
    · have key : ∀ k, k < 26 → 28 + 2 * k ∉ L00 ∧ 29 + 2 * k ∉ L00 := by decide +kernel
      exact fun k h _ => key k h
  · refine ⟨?_, ?_, ?_, ?_⟩
    · unfold mB; refine ⟨by decide, by decide, by decide, by decide, by decide, fun k _ => ?_, fun k _ => ?_⟩
      · show 0 ≤ (0 : Int32) ∧ (0 : Int32) ≤ 300
        decide
      · show 0 ≤ (0 : Int32) ∧ (0 : Int32) ≤ 300
        decide
    · unfold mN; exact ⟨by decide, by decide, fun _ h => absurd h (by decide), fun h => absurd h (by decide)⟩
    · unfold rd0; exact ⟨by decide, by decide, fun h => absurd h (by decide)⟩
    · unfold rd1; exact ⟨by decide, by decide, fun h => absurd h (by decide), fun h => absurd h (by decide), fun h => absurd h (by decide), fun h => absurd h (by decide)⟩
