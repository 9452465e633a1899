/-! The law's loop, written by wip/gen/loop.py. -/
theorem ti_lo (a : Int32) : -2147483648 ≤ a.toInt := Int32.minValue_le_toInt a
theorem ti_hi (a : Int32) : a.toInt < 2147483648 := Int32.toInt_lt a
theorem ti_bm (x : Int) (h : -2147483648 ≤ x) (h' : x < 2147483648) : x.bmod (2^32) = x := Int.bmod_eq_of_le (by omega) (by omega)
theorem ti_add {a b : Int32} (h : -2147483648 ≤ a.toInt + b.toInt) (h' : a.toInt + b.toInt < 2147483648) : (a + b).toInt = a.toInt + b.toInt := by
  rw [Int32.toInt_add]; exact ti_bm _ h h'
theorem ti_sub {a b : Int32} (h : -2147483648 ≤ a.toInt - b.toInt) (h' : a.toInt - b.toInt < 2147483648) : (a - b).toInt = a.toInt - b.toInt := by
  rw [Int32.toInt_sub]; exact ti_bm _ h h'
theorem ti_mul {a b : Int32} (h : -2147483648 ≤ a.toInt * b.toInt) (h' : a.toInt * b.toInt < 2147483648) : (a * b).toInt = a.toInt * b.toInt := by
  rw [Int32.toInt_mul]; exact ti_bm _ h h'
theorem ti_nat {n : Nat} (h : n < 2147483648) : (Int32.ofNat n).toInt = n := Int32.toInt_ofNat_of_lt h
theorem ti_clamp (a : Int32) : a.toNatClampNeg = a.toInt.toNat := rfl
theorem lp_cmp {n j : Nat} (hn : n ≤ 3072) (hj : 6 * j ≤ 3078) : (Int32.ofNat n - 6 < Int32.ofNat (6 * j)) ↔ n < 6 * j + 6 := by
  rw [Int32.lt_iff_toInt_lt, ti_sub, ti_nat (by omega), ti_nat (by omega)]
  · show ((n:Int) - 6 < _) ↔ _
    omega
  · rw [ti_nat (by omega)]; show _ ≤ (n:Int) - 6; omega
  · rw [ti_nat (by omega)]; show (n:Int) - 6 < _; omega
theorem lp_at {n j k : Nat} (hn : n ≤ 3072) (hj : 6 * j + 6 ≤ n) (hk : k < 6) {d : Int32} (hd : d.toInt = k) : vp_in (Int32.ofNat (6 * j) + d) n := by
  rw [vp_in_iff, ti_add, ti_nat (by omega), hd]
  · omega
  · rw [ti_nat (by omega), hd]; omega
  · rw [ti_nat (by omega), hd]; omega
theorem lp_at0 {n j : Nat} (hn : n ≤ 3072) (hj : 6 * j + 6 ≤ n) : vp_in (Int32.ofNat (6 * j)) n := by
  rw [vp_in_iff, ti_nat (by omega)]; omega
theorem lp_add (j : Nat) : Int32.ofNat (6 * j) + Int32.ofInt 6 = Int32.ofNat (6 * (j + 1)) := by
  rw [show 6 * (j + 1) = 6 * j + 6 by omega, Int32.ofNat_add]; rfl

/-- a call of the script -/
def wp_cases (kc ks : Nat) (L : List Nat) (J : Nat → Int64) (I : UI) (R : UR) (y0 y1 y2 y3 y4 y5 : Int32) (K : Nat → Nat → List Nat → (Nat → Int64) → UI → UR → Prop) : Prop :=
  (y0 &&& 15 = 0 → wp_law_0 kc ks L J I R y1 y2 y3 y4 y5 K) ∧
  (y0 &&& 15 = 1 → wp_law_1 kc ks L J I R y1 y2 y3 y4 y5 K) ∧
  (y0 &&& 15 = 2 → wp_law_2 kc ks L J I R y1 y2 y3 y4 y5 K) ∧
  (y0 &&& 15 = 3 → wp_law_3 kc ks L J I R y1 y2 y3 y4 y5 K) ∧
  (y0 &&& 15 = 4 → wp_law_4 kc ks L J I R y1 y2 y3 y4 y5 K) ∧
  (y0 &&& 15 = 5 → wp_law_5 kc ks L J I R y1 y2 y3 y4 y5 K) ∧
  (y0 &&& 15 = 6 → wp_law_6 kc ks L J I R y1 y2 y3 y4 y5 K) ∧
  (y0 &&& 15 = 7 → wp_law_7 kc ks L J I R y1 y2 y3 y4 y5 K) ∧
  (y0 &&& 15 = 8 → wp_law_8 kc ks L J I R y1 y2 y3 y4 y5 K) ∧
  (y0 &&& 15 = 9 → wp_law_9 kc ks L J I R y1 y2 y3 y4 y5 K) ∧
  (y0 &&& 15 = 10 → wp_law_10 kc ks L J I R y1 y2 y3 y4 y5 K) ∧
  (y0 &&& 15 = 11 → wp_law_11 kc ks L J I R y1 y2 y3 y4 y5 K) ∧
  (y0 &&& 15 = 12 → wp_law_12 kc ks L J I R y1 y2 y3 y4 y5 K) ∧
  (¬ y0 &&& 15 = 0 → ¬ y0 &&& 15 = 1 → ¬ y0 &&& 15 = 2 → ¬ y0 &&& 15 = 3 → ¬ y0 &&& 15 = 4 → ¬ y0 &&& 15 = 5 → ¬ y0 &&& 15 = 6 → ¬ y0 &&& 15 = 7 → ¬ y0 &&& 15 = 8 → ¬ y0 &&& 15 = 9 → ¬ y0 &&& 15 = 10 → ¬ y0 &&& 15 = 11 → ¬ y0 &&& 15 = 12 → K kc ks L J I R)
section G
variable {p : Program} {l : Launch} {e : Env} {s : State} {m : MethodId} {below : List Frame} {meth : Method} {c : Code} {D : va_G} {cc : Nat → ClassId} {L L0 : List Nat} {A A0 : Nat → Nat} {J : Nat → Int64} {t16 t32 b n : Nat} {I : UI} {R : UR} {H : Heap} {locs : List Loc} {kc ks : Nat} {ls : Array Slot} {xs : Nat → Int32} {i y1 y2 y3 y4 y5 : Int32}
set_option maxHeartbeats 4000000 in
set_option maxRecDepth 100000 in
theorem law_loop (hfl : l.flags = pinnedFlags ++ [noTraceFlag]) (hY : ∀ o, o ∈ L0 → s.heap.size ≤ A0 o) (hS : va_X b n xs s s.heap) (hbl : b < s.heap.size) (hn : n ≤ 3072) (hr : meth.sig.returnType = ret) (hlk : meth.locks = false)
    {Inv : Nat → Nat → Nat → List Nat → (Nat → Int64) → UI → UR → Prop} (hstep : ∀ (k kc ks : Nat) (L : List Nat) (J : Nat → Int64) (I : UI) (R : UR) (y0 y1 y2 y3 y4 y5 : Int32), Inv (k + 1) kc ks L J I R → wp_cases kc ks L J I R y0 y1 y2 y3 y4 y5 (Inv k)) :
    ∀ (k j kc ks : Nat) (L : List Nat) (A : Nat → Nat) (J : Nat → Int64) (I : UI) (R : UR) (H : Heap) (locs : List Loc) (ls : Array Slot), 6 * j ≤ 3078 → n < 6 * (j + k) + 6 → kc ≤ 601024 ∧ ks ≤ 7293034 → uEx s.heap.size L0 A0 L A → uX p s m #[Value.ref b] c code 7 "FrameFerryLaw" D cc L A t16 t32 → uV s D cc L A J I R H locs → lv_has ls 7 [(0, .ref b), (1, .ref (A 1)), (2, .ref (A 80)), (3, .ref (A 0)), (4, .int (Int32.ofNat (6 * j)))] → Inv k kc ks L J I R → W p l e room_1 s m #[Value.ref b] below meth c H locs kc ks (lw_Z below #[Value.ref b] s) (F0 m 23 ls []) := by
  intro k
  induction k with
  | zero =>
    intro j kc ks L A J I R H locs ls hj hk0 hk hE X V hl h
    have hx := X.1
    have hb := X.2.1
    refine lv_iload (pc := 23) hx hb d_Lw_law_23 (lv_at hl 4 rfl) ?_
    refine lv_aload_n (pc := 25) hx hb d_Lw_law_25 rfl (lv_at hl 0 rfl) ?_
    refine u_slen (pc := 26) X V hE hY hS hbl d_Lw_law_26 ?_
    refine lv_bipush (pc := 27) (v := 6) hx hb d_Lw_law_27 (by decide) ?_
    refine lv_isub (pc := 29) hx hb d_Lw_law_29 ?_
    refine lv_icmp_gt (pc := 30) (tgt := 633) hx hb d_Lw_law_30 (by decide) (fun hc => ?_) (fun hc => ?_)
    · refine lv_iconst (pc := 633) (v := 1) hx hb d_Lw_law_633 (by decide) ?_
      exact va_forget (fun q hq => u_new0 hE hY _ (V.2.2.2 q hq)) (W.widen hk.1 hk.2 (lw_ret hx hb hr hlk d_Lw_law_634))
    · exact absurd ((lp_cmp hn hj).mpr (by omega)) hc
  | succ k ih =>
    intro j kc ks L A J I R H locs ls hj hk0 hk hE X V hl h
    have hx := X.1
    have hb := X.2.1
    refine lv_iload (pc := 23) hx hb d_Lw_law_23 (lv_at hl 4 rfl) ?_
    refine lv_aload_n (pc := 25) hx hb d_Lw_law_25 rfl (lv_at hl 0 rfl) ?_
    refine u_slen (pc := 26) X V hE hY hS hbl d_Lw_law_26 ?_
    refine lv_bipush (pc := 27) (v := 6) hx hb d_Lw_law_27 (by decide) ?_
    refine lv_isub (pc := 29) hx hb d_Lw_law_29 ?_
    refine lv_icmp_gt (pc := 30) (tgt := 633) hx hb d_Lw_law_30 (by decide) (fun hc => ?_) (fun hc => ?_)
    · refine lv_iconst (pc := 633) (v := 1) hx hb d_Lw_law_633 (by decide) ?_
      exact va_forget (fun q hq => u_new0 hE hY _ (V.2.2.2 q hq)) (W.widen hk.1 hk.2 (lw_ret hx hb hr hlk d_Lw_law_634))
    have hjn : 6 * j + 6 ≤ n := Nat.not_lt.mp fun z => hc ((lp_cmp hn hj).mpr z)
    obtain ⟨i, hi⟩ : ∃ i : Int32, i = Int32.ofNat (6 * j) := ⟨_, rfl⟩
    rw [← hi] at hl
    have hin0 : vp_in i n := by rw [hi]; exact lp_at0 hn hjn
    have hin1 : vp_in (i + 1) n := by rw [hi]; exact lp_at (k := 1) hn hjn (by decide) rfl
    obtain ⟨y1, hy1⟩ : ∃ y : Int32, xs (i + 1).toNatClampNeg = y := ⟨_, rfl⟩
    have hin2 : vp_in (i + 2) n := by rw [hi]; exact lp_at (k := 2) hn hjn (by decide) rfl
    obtain ⟨y2, hy2⟩ : ∃ y : Int32, xs (i + 2).toNatClampNeg = y := ⟨_, rfl⟩
    have hin3 : vp_in (i + 3) n := by rw [hi]; exact lp_at (k := 3) hn hjn (by decide) rfl
    obtain ⟨y3, hy3⟩ : ∃ y : Int32, xs (i + 3).toNatClampNeg = y := ⟨_, rfl⟩
    have hin4 : vp_in (i + 4) n := by rw [hi]; exact lp_at (k := 4) hn hjn (by decide) rfl
    obtain ⟨y4, hy4⟩ : ∃ y : Int32, xs (i + 4).toNatClampNeg = y := ⟨_, rfl⟩
    have hin5 : vp_in (i + 5) n := by rw [hi]; exact lp_at (k := 5) hn hjn (by decide) rfl
    obtain ⟨y5, hy5⟩ : ∃ y : Int32, xs (i + 5).toNatClampNeg = y := ⟨_, rfl⟩
    obtain ⟨y0, hy0⟩ : ∃ y : Int32, xs i.toNatClampNeg = y := ⟨_, rfl⟩
    have h := hstep k kc ks L J I R y0 y1 y2 y3 y4 y5 h
    have hK : ∀ (kc ks : Nat) (L : List Nat) (A : Nat → Nat) (J : Nat → Int64) (I : UI) (R : UR) (H : Heap) (locs : List Loc) (ls : Array Slot), kc ≤ 601024 ∧ ks ≤ 7293034 → uEx s.heap.size L0 A0 L A → uX p s m #[Value.ref b] c code 7 "FrameFerryLaw" D cc L A t16 t32 → uV s D cc L A J I R H locs → lv_has ls 7 [(0, .ref b), (1, .ref (A 1)), (2, .ref (A 80)), (3, .ref (A 0)), (4, .int i)] → Inv k kc ks L J I R → W p l e room_1 s m #[Value.ref b] below meth c H locs kc ks (lw_Z below #[Value.ref b] s) (F0 m 627 ls []) := by
      intro kc ks L A J I R H locs ls hk hE X V hl h
      refine lv_iinc (pc := 627) (k := 4) (v := Int32.ofNat (6 * (j + 1))) (lv' := [(4, .int (Int32.ofNat (6 * (j + 1)))), (0, .ref b), (1, .ref (A 1)), (2, .ref (A 80)), (3, .ref (A 0))]) hx hb d_Lw_law_627 hl rfl (by rw [hi]; exact lp_add j) (by decide) rfl (fun ls hl => ?_)
      refine lv_goto (pc := 630) (tgt := 23) hx hb d_Lw_law_630 (by decide) ?_
      exact ih (j + 1) kc ks L A J I R H locs ls (by omega) (by omega) hk hE X V (lv_sub hl [1, 2, 3, 4, 0] rfl) h
    refine lv_aload_n (pc := 33) hx hb d_Lw_law_33 rfl (lv_at hl 0 rfl) ?_
    refine lv_iload (pc := 34) hx hb d_Lw_law_34 (lv_at hl 4 rfl) ?_
    refine u_sld (pc := 36) X V hE hY hS hbl hin0 hy0 d_Lw_law_36 ?_
    refine lv_bipush (pc := 37) (v := 15) hx hb d_Lw_law_37 (by decide) ?_
    refine lv_iand (pc := 39) hx hb d_Lw_law_39 ?_
    refine lv_topi (fun v ev => ?_)
    unfold wp_cases at h
    rw [← ev] at h
    obtain ⟨h0, h1, h2, h3, h4, h5, h6, h7, h8, h9, h10, h11, h12, hdf⟩ := h
    by_cases hn0 : v = 0
    · have h := h0 hn0
      rw [hn0]
      refine lv_tableIn (pc := 40) (tgt := 108) (off := 68) hx hb d_Lw_law_40 (by decide) (by decide) rfl (by decide) ?_
      exact j_law_0 hfl hY hS hbl hin1 hy1 hin2 hy2 hin3 hy3 hin4 hy4 hin5 hy5 hk hE X V hl hK h
    by_cases hn1 : v = 1
    · have h := h1 hn1
      rw [hn1]
      refine lv_tableIn (pc := 40) (tgt := 136) (off := 96) hx hb d_Lw_law_40 (by decide) (by decide) rfl (by decide) ?_
      exact j_law_1 hfl hY hS hbl hin1 hy1 hin2 hy2 hin3 hy3 hin4 hy4 hin5 hy5 hk hE X V hl hK h
    by_cases hn2 : v = 2
    · have h := h2 hn2
      rw [hn2]
      refine lv_tableIn (pc := 40) (tgt := 212) (off := 172) hx hb d_Lw_law_40 (by decide) (by decide) rfl (by decide) ?_
      exact j_law_2 hfl hY hS hbl hin1 hy1 hin2 hy2 hin3 hy3 hin4 hy4 hin5 hy5 hk hE X V hl hK h
    by_cases hn3 : v = 3
    · have h := h3 hn3
      rw [hn3]
      refine lv_tableIn (pc := 40) (tgt := 228) (off := 188) hx hb d_Lw_law_40 (by decide) (by decide) rfl (by decide) ?_
      exact j_law_3 hfl hY hS hbl hin1 hy1 hin2 hy2 hin3 hy3 hin4 hy4 hin5 hy5 hk hE X V hl hK h
    by_cases hn4 : v = 4
    · have h := h4 hn4
      rw [hn4]
      refine lv_tableIn (pc := 40) (tgt := 292) (off := 252) hx hb d_Lw_law_40 (by decide) (by decide) rfl (by decide) ?_
      exact j_law_4 hfl hY hS hbl hin1 hy1 hin2 hy2 hin3 hy3 hin4 hy4 hin5 hy5 hk hE X V hl hK h
    by_cases hn5 : v = 5
    · have h := h5 hn5
      rw [hn5]
      refine lv_tableIn (pc := 40) (tgt := 305) (off := 265) hx hb d_Lw_law_40 (by decide) (by decide) rfl (by decide) ?_
      exact j_law_5 hfl hY hS hbl hin1 hy1 hin2 hy2 hin3 hy3 hin4 hy4 hin5 hy5 hk hE X V hl hK h
    by_cases hn6 : v = 6
    · have h := h6 hn6
      rw [hn6]
      refine lv_tableIn (pc := 40) (tgt := 318) (off := 278) hx hb d_Lw_law_40 (by decide) (by decide) rfl (by decide) ?_
      exact j_law_6 hfl hY hS hbl hin1 hy1 hin2 hy2 hin3 hy3 hin4 hy4 hin5 hy5 hk hE X V hl hK h
    by_cases hn7 : v = 7
    · have h := h7 hn7
      rw [hn7]
      refine lv_tableIn (pc := 40) (tgt := 359) (off := 319) hx hb d_Lw_law_40 (by decide) (by decide) rfl (by decide) ?_
      exact j_law_7 hfl hY hS hbl hin1 hy1 hin2 hy2 hin3 hy3 hin4 hy4 hin5 hy5 hk hE X V hl hK h
    by_cases hn8 : v = 8
    · have h := h8 hn8
      rw [hn8]
      refine lv_tableIn (pc := 40) (tgt := 370) (off := 330) hx hb d_Lw_law_40 (by decide) (by decide) rfl (by decide) ?_
      exact j_law_8 hfl hY hS hbl hin1 hy1 hin2 hy2 hin3 hy3 hin4 hy4 hin5 hy5 hk hE X V hl hK h
    by_cases hn9 : v = 9
    · have h := h9 hn9
      rw [hn9]
      refine lv_tableIn (pc := 40) (tgt := 438) (off := 398) hx hb d_Lw_law_40 (by decide) (by decide) rfl (by decide) ?_
      exact j_law_9 hfl hY hS hbl hin1 hy1 hin2 hy2 hin3 hy3 hin4 hy4 hin5 hy5 hk hE X V hl hK h
    by_cases hn10 : v = 10
    · have h := h10 hn10
      rw [hn10]
      refine lv_tableIn (pc := 40) (tgt := 506) (off := 466) hx hb d_Lw_law_40 (by decide) (by decide) rfl (by decide) ?_
      exact j_law_10 hfl hY hS hbl hin1 hy1 hin2 hy2 hin3 hy3 hin4 hy4 hin5 hy5 hk hE X V hl hK h
    by_cases hn11 : v = 11
    · have h := h11 hn11
      rw [hn11]
      refine lv_tableIn (pc := 40) (tgt := 559) (off := 519) hx hb d_Lw_law_40 (by decide) (by decide) rfl (by decide) ?_
      exact j_law_11 hfl hY hS hbl hin1 hy1 hin2 hy2 hin3 hy3 hin4 hy4 hin5 hy5 hk hE X V hl hK h
    by_cases hn12 : v = 12
    · have h := h12 hn12
      rw [hn12]
      refine lv_tableIn (pc := 40) (tgt := 599) (off := 559) hx hb d_Lw_law_40 (by decide) (by decide) rfl (by decide) ?_
      exact j_law_12 hfl hY hS hbl hin1 hy1 hin2 hy2 hin3 hy3 hin4 hy4 hin5 hy5 hk hE X V hl hK h
    have hd0 := nr_ok (a := 0) hn0 rfl
    have hd1 := nr_ok (a := 1) hn1 rfl
    have hd2 := nr_ok (a := 2) hn2 rfl
    have hd3 := nr_ok (a := 3) hn3 rfl
    have hd4 := nr_ok (a := 4) hn4 rfl
    have hd5 := nr_ok (a := 5) hn5 rfl
    have hd6 := nr_ok (a := 6) hn6 rfl
    have hd7 := nr_ok (a := 7) hn7 rfl
    have hd8 := nr_ok (a := 8) hn8 rfl
    have hd9 := nr_ok (a := 9) hn9 rfl
    have hd10 := nr_ok (a := 10) hn10 rfl
    have hd11 := nr_ok (a := 11) hn11 rfl
    have hd12 := nr_ok (a := 12) hn12 rfl
    refine lv_tableOut (pc := 40) (tgt := 627) hx hb d_Lw_law_40 (by omega) (by decide) ?_
    exact hK kc ks L A J I R H locs ls hk hE X V hl (hdf hn0 hn1 hn2 hn3 hn4 hn5 hn6 hn7 hn8 hn9 hn10 hn11 hn12)
end G
