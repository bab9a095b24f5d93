/-! PURE 30: chart: a new Chart of the class -/
theorem nwup {g : Hh} {f : Int → Int} {z C k v : Int} (hz : g (-1) 0 = z) (h0 : 0 ≤ z) (hC : 0 ≤ C ∧ C < z) :
    (up (nw g f) C k v) (-1) 0 = z + 1 ∧ (up (nw g f) C k v) z = f ∧ (∀ a, a ≠ -1 → a ≠ z → a ≠ C → (up (nw g f) C k v) a = g a) ∧ (∀ j, j ≠ k → (up (nw g f) C k v) C j = g C j) ∧ (up (nw g f) C k v) C k = v := by
  refine ⟨?_, ?_, ?_, ?_, ?_⟩
  · rw [up_ne (by omega), nw_sz (by omega), hz]
  · rw [up_ne (by omega), nw_new hz.symm]
  · intro a a1 a2 a3
    rw [up_ne a3, nw_old (by omega) a1]
  · intro j hj
    rw [up_at, if_neg hj, nw_old (by omega) (by omega)]
  · rw [up_at, if_pos rfl]
theorem lt_ne {a C : Int} (h : a < C) (k : Int) (hk : 0 ≤ k) : a ≠ C + k := by omega
theorem lt_ne0 {a C : Int} (h : a < C) : a ≠ C := by omega
theorem cn_ne {C : Int} (m n : Int) (h : m ≠ n) : C + m ≠ C + n := by omega
theorem cn_ne0 {C : Int} (m : Int) (h : m ≠ 0) : C + m ≠ C := by omega
theorem cn_nm {C : Int} (hC : 0 ≤ C) (m : Int) (h : 0 ≤ m) : C + m ≠ -1 := by omega
theorem c_initChart {h0 : Hh} {C R num wd T : Int} (hC : h0 (-1) 0 = C) (hR : 0 ≤ R ∧ R < C) (hT : h0 R 0 = T) (ht : 3 ≤ T ∧ T ≤ 5) {K : Int → Hh → Prop}
    (hK : ∀ h, (∀ a, a ≠ -1 → a < C → h a = h0 a) → h (-1) 0 = C + 7 → (h C 0 = R ∧ h C 1 = num ∧ h C 2 = T - 1 ∧ h C 3 = T - 2 ∧ h C 4 = wd) → (h C 5 = C + 1 ∧ h C 6 = C + 2 ∧ h C 7 = C + 3 ∧ h C 8 = C + 4 ∧ h C 9 = C + 5 ∧ h C 10 = C + 6) → (∀ k, h (C + 1) k = 0) → h (C + 6) = dfl 4 → K 0 h) : w_X0_init C R num wd (nw h0 (dfl 0)) K := by
  have hC0 : 0 ≤ C := by omega
  have cnn1 : 0 ≤ C + 1 := by omega
  have cnl1 : C < C + 1 := by omega
  have cnn2 : 0 ≤ C + 2 := by omega
  have cnl2 : C < C + 2 := by omega
  have cnn3 : 0 ≤ C + 3 := by omega
  have cnl3 : C < C + 3 := by omega
  have cnn4 : 0 ≤ C + 4 := by omega
  have cnl4 : C < C + 4 := by omega
  have cnn5 : 0 ≤ C + 5 := by omega
  have cnl5 : C < C + 5 := by omega
  have cnn6 : 0 ≤ C + 6 := by omega
  have cnl6 : C < C + 6 := by omega
  unfold w_X0_init w_X4_init
  simp only [hb_p]
  have s1 : (nw h0 (dfl 0)) (-1) 0 = C + 1 := by rw [nw_sz (by omega), hC]
  have o1 : ∀ a, a ≠ -1 → a ≠ C → (nw h0 (dfl 0)) a = h0 a := fun a a1 a2 => nw_old (by omega) a1
  generalize nw h0 (dfl 0) = g at *
  have eR : (up (up (up g C 0 R) C 1 num) C 4 wd) R 0 = T := by rw [up_ne (by omega), up_ne (by omega), up_ne (by omega), o1 R (by omega) (by omega)]; exact hT
  rw [and_t hR.1, eR, w32_id (by omega) (by omega), e_minI, if_neg (by omega)]
  have e2 : (up (up (up (up g C 0 R) C 1 num) C 4 wd) C 2 (T - 1)) C 2 = T - 1 := by rw [up_at, if_pos rfl]
  rw [e2, w32_id (by omega) (by omega)]
  have f1 : (up (up (up (up (up g C 0 R) C 1 num) C 4 wd) C 2 (T - 1)) C 3 (T - 1 - 1)) (-1) 0 = C + 1 := by rw [up_ne (by omega), up_ne (by omega), up_ne (by omega), up_ne (by omega), up_ne (by omega)]; exact s1
  have f2 : ∀ a, a ≠ -1 → a ≠ C → (up (up (up (up (up g C 0 R) C 1 num) C 4 wd) C 2 (T - 1)) C 3 (T - 1 - 1)) a = h0 a := fun a a1 a2 => by rw [up_ne a2, up_ne a2, up_ne a2, up_ne a2, up_ne a2]; exact o1 a a1 a2
  have f3 : (up (up (up (up (up g C 0 R) C 1 num) C 4 wd) C 2 (T - 1)) C 3 (T - 1 - 1)) C 0 = R := by first | exact rfl | (simp (disch := omega) only [up_ne, up_at, if_pos, if_neg]; done) | (simp (disch := omega) only [up_ne, up_at, if_pos, if_neg]; exact rfl)
  have f4 : (up (up (up (up (up g C 0 R) C 1 num) C 4 wd) C 2 (T - 1)) C 3 (T - 1 - 1)) C 1 = num := by first | exact rfl | (simp (disch := omega) only [up_ne, up_at, if_pos, if_neg]; done) | (simp (disch := omega) only [up_ne, up_at, if_pos, if_neg]; exact rfl)
  have f5 : (up (up (up (up (up g C 0 R) C 1 num) C 4 wd) C 2 (T - 1)) C 3 (T - 1 - 1)) C 2 = T - 1 := by first | exact rfl | (simp (disch := omega) only [up_ne, up_at, if_pos, if_neg]; done) | (simp (disch := omega) only [up_ne, up_at, if_pos, if_neg]; exact rfl)
  have f6 : (up (up (up (up (up g C 0 R) C 1 num) C 4 wd) C 2 (T - 1)) C 3 (T - 1 - 1)) C 3 = T - 2 := by rw [up_at, if_pos rfl]; omega
  have f7 : (up (up (up (up (up g C 0 R) C 1 num) C 4 wd) C 2 (T - 1)) C 3 (T - 1 - 1)) C 4 = wd := by first | exact rfl | (simp (disch := omega) only [up_ne, up_at, if_pos, if_neg]; done) | (simp (disch := omega) only [up_ne, up_at, if_pos, if_neg]; exact rfl)
  generalize up (up (up (up (up g C 0 R) C 1 num) C 4 wd) C 2 (T - 1)) C 3 (T - 1 - 1) = g0 at *
  rw [and_t f1]
  obtain ⟨a1, a2, a3, a4, a5⟩ := nwup (f := fun _ => 0) (C := C) (k := 5) (v := C + 1) f1 (cnn1) ⟨hC0, cnl1⟩
  generalize up (nw g0 (fun _ => 0)) C 5 (C + 1) = g1 at *
  have a1 : g1 (-1) 0 = C + 2 := a1.trans (by rw [Int.add_assoc]; rfl)
  rw [and_t a1]
  obtain ⟨b1, b2, b3, b4, b5⟩ := nwup (f := fun _ => 0) (C := C) (k := 6) (v := C + 2) a1 (cnn2) ⟨hC0, cnl2⟩
  generalize up (nw g1 (fun _ => 0)) C 6 (C + 2) = g2 at *
  have b1 : g2 (-1) 0 = C + 3 := b1.trans (by rw [Int.add_assoc]; rfl)
  rw [and_t b1]
  obtain ⟨c1, c2, c3, c4, c5⟩ := nwup (f := fun _ => 0) (C := C) (k := 7) (v := C + 3) b1 (cnn3) ⟨hC0, cnl3⟩
  generalize up (nw g2 (fun _ => 0)) C 7 (C + 3) = g3 at *
  have c1 : g3 (-1) 0 = C + 4 := c1.trans (by rw [Int.add_assoc]; rfl)
  rw [and_t c1]
  obtain ⟨d1, d2, d3, d4, d5⟩ := nwup (f := fun _ => 0) (C := C) (k := 8) (v := C + 4) c1 (cnn4) ⟨hC0, cnl4⟩
  generalize up (nw g3 (fun _ => 0)) C 8 (C + 4) = g4 at *
  have d1 : g4 (-1) 0 = C + 5 := d1.trans (by rw [Int.add_assoc]; rfl)
  rw [and_t d1]
  obtain ⟨e1, e2, e3, e4, e5⟩ := nwup (f := fun _ => 0) (C := C) (k := 9) (v := C + 5) d1 (cnn5) ⟨hC0, cnl5⟩
  generalize up (nw g4 (fun _ => 0)) C 9 (C + 5) = g5 at *
  have e1 : g5 (-1) 0 = C + 6 := e1.trans (by rw [Int.add_assoc]; rfl)
  rw [and_t e1, and_t (show g (-1) 0 ≤ C + 6 by rw [s1]; exact Int.add_le_add_left (by decide) C)]
  obtain ⟨i1, i2, i3, i4, i5⟩ := nwup (f := dfl 4) (C := C) (k := 10) (v := C + 6) e1 (cnn6) ⟨hC0, cnl6⟩
  generalize up (nw g5 (dfl 4)) C 10 (C + 6) = g6 at *
  refine hK g6 ?_ (i1.trans (by rw [Int.add_assoc]; rfl)) ⟨?_, ?_, ?_, ?_, ?_⟩ ⟨?_, ?_, ?_, ?_, ?_, i5⟩ ?_ ?_
  · intro a x1 x2
    have n0 := lt_ne0 x2
    rw [i3 a x1 (lt_ne x2 6 (by decide)) n0, e3 a x1 (lt_ne x2 5 (by decide)) n0, d3 a x1 (lt_ne x2 4 (by decide)) n0, c3 a x1 (lt_ne x2 3 (by decide)) n0, b3 a x1 (lt_ne x2 2 (by decide)) n0, a3 a x1 (lt_ne x2 1 (by decide)) n0, f2 a x1 n0]
  · rw [i4 0 (by decide), e4 0 (by decide), d4 0 (by decide), c4 0 (by decide), b4 0 (by decide), a4 0 (by decide)]; exact f3
  · rw [i4 1 (by decide), e4 1 (by decide), d4 1 (by decide), c4 1 (by decide), b4 1 (by decide), a4 1 (by decide)]; exact f4
  · rw [i4 2 (by decide), e4 2 (by decide), d4 2 (by decide), c4 2 (by decide), b4 2 (by decide), a4 2 (by decide)]; exact f5
  · rw [i4 3 (by decide), e4 3 (by decide), d4 3 (by decide), c4 3 (by decide), b4 3 (by decide), a4 3 (by decide)]; exact f6
  · rw [i4 4 (by decide), e4 4 (by decide), d4 4 (by decide), c4 4 (by decide), b4 4 (by decide), a4 4 (by decide)]; exact f7
  · rw [i4 5 (by decide), e4 5 (by decide), d4 5 (by decide), c4 5 (by decide), b4 5 (by decide)]; exact a5
  · rw [i4 6 (by decide), e4 6 (by decide), d4 6 (by decide), c4 6 (by decide)]; exact b5
  · rw [i4 7 (by decide), e4 7 (by decide), d4 7 (by decide)]; exact c5
  · rw [i4 8 (by decide), e4 8 (by decide)]; exact d5
  · rw [i4 9 (by decide)]; exact e5
  · intro k
    have nm := cn_nm hC0 1 (by decide)
    have n0 := cn_ne0 (C := C) 1 (by decide)
    rw [i3 (C + 1) nm (cn_ne 1 6 (by decide)) n0, e3 (C + 1) nm (cn_ne 1 5 (by decide)) n0, d3 (C + 1) nm (cn_ne 1 4 (by decide)) n0, c3 (C + 1) nm (cn_ne 1 3 (by decide)) n0, b3 (C + 1) nm (cn_ne 1 2 (by decide)) n0, a2]
  · exact i2
/-- the order and the sums ahead -/
theorem c_putOrder {h0 : Hh} {C R j o : Int} {S : St} (ok : RuleOk S j) (rc : RuleC h0 R S j) (hR : 0 ≤ R ∧ R + 11 ≤ C) (hc0 : h0 C 0 = R) (hc2 : h0 C 2 = S.terms j - 1) (hm : ∀ t, 0 ≤ t → t < S.terms j → S.many j t ≠ 0) (ho : 0 ≤ o ∧ o < 2147483648) (hB : ordB (S.terms j) (S.terms j - 1).toNat o 0 = true) {K : Int → Hh → Prop}
    (hK : ∀ h, (∀ a, a ≠ C + 1 → a ≠ C + 4 → a ≠ C + 5 → h a = h0 a) → (∀ k, 0 ≤ k → k < S.terms j - 1 → h (C + 1) k = dt o (S.terms j - 2 - k)) → IsLeast S j (dt o (S.terms j - 2)) (h (C + 4) 0) → (∀ k, 0 ≤ k → k < S.terms j - 2 → IsLeast S j (dt o (S.terms j - 2 - (k + 1))) (h (C + 4) (k + 1) - h (C + 4) k)) → IsMost S j (dt o (S.terms j - 2)) (h (C + 5) 0) → (∀ k, 0 ≤ k → k < S.terms j - 2 → IsMost S j (dt o (S.terms j - 2 - (k + 1))) (h (C + 5) (k + 1) - h (C + 5) k)) → K 0 h) : w_X0_putOrder C o h0 K := by
  have ht := ok.terms
  unfold w_X0_putOrder
  rw [hc2]
  simp only [vb_p]
  rw [w32_id (by omega) (by omega)]
  have dig : ∀ k, 0 ≤ k → k < S.terms j - 1 → 1 ≤ dt o (S.terms j - 2 - k) ∧ dt o (S.terms j - 2 - k) < S.terms j := fun k k1 k2 => ordB_dig _ _ _ (by omega) hB _ (by omega) (by omega)
  have sums : ∀ (h1 : Hh), (∀ a, a ≠ C + 1 → a ≠ C + 4 → a ≠ C + 5 → h1 a = h0 a) → (∀ k, 0 ≤ k → k < S.terms j - 1 → h1 (C + 1) k = dt o (S.terms j - 2 - k)) → ∀ (k n : Nat) (i l g : Int) (h : Hh), k < n → S.terms j - 1 - i = k → 0 ≤ i → (∀ a, a ≠ C + 4 → a ≠ C + 5 → h a = h1 a) → (i = 0 → l = 0 ∧ g = 0) → (0 < i → l = h (C + 4) (i - 1) ∧ g = h (C + 5) (i - 1)) → (-(10000 * i) ≤ l ∧ l ≤ 10000 * i) → (-(10000 * i) ≤ g ∧ g ≤ 10000 * i) → (0 < i → IsLeast S j (dt o (S.terms j - 2)) (h (C + 4) 0) ∧ IsMost S j (dt o (S.terms j - 2)) (h (C + 5) 0)) → (∀ k, 0 ≤ k → k + 1 < i → IsLeast S j (dt o (S.terms j - 2 - (k + 1))) (h (C + 4) (k + 1) - h (C + 4) k) ∧ IsMost S j (dt o (S.terms j - 2 - (k + 1))) (h (C + 5) (k + 1) - h (C + 5) k)) → w_X0_putOrder_42 K C n l g i h := by
    intro h1 q0 q1 k
    induction k with
    | zero =>
      intro n i l g h hn hk i0 k0 k1 k2 lb gb k3 k4
      obtain ⟨n, rfl⟩ : ∃ m, n = m + 1 := ⟨n - 1, by omega⟩
      have kk : ∀ a, a ≠ C + 1 → a ≠ C + 4 → a ≠ C + 5 → h a = h0 a := fun a a1 a2 a3 => by rw [k0 a a2 a3]; exact q0 a a1 a2 a3
      rw [w_X0_putOrder_42, kk C (by omega) (by omega) (by omega), hc2, if_pos (by omega)]
      refine hK h kk (fun k k1 k2 => by rw [k0 (C + 1) (by omega) (by omega)]; exact q1 k k1 k2) (k3 (by omega)).1 (fun k k1 k2 => (k4 k k1 (by omega)).1) (k3 (by omega)).2 (fun k k1 k2 => (k4 k k1 (by omega)).2)
    | succ k ih =>
      intro n i l g h hn hk i0 k0 k1 k2 lb gb k3 k4
      obtain ⟨n, rfl⟩ : ∃ m, n = m + 1 := ⟨n - 1, by omega⟩
      have kk : ∀ a, a ≠ C + 1 → a ≠ C + 4 → a ≠ C + 5 → h a = h0 a := fun a a1 a2 a3 => by rw [k0 a a2 a3]; exact q0 a a1 a2 a3
      have d := dig i i0 (by omega)
      have mz := hm _ (show 0 ≤ dt o (S.terms j - 2 - i) by omega) d.2
      have ml := many_le ok (show 0 ≤ dt o (S.terms j - 2 - i) by omega) d.2
      have rc1 : RuleC h R S j := rc.keep (fun b b1 b2 => kk b (by omega) (by omega) (by omega)) ht.2
      rw [w_X0_putOrder_42, kk C (by omega) (by omega) (by omega), hc2, if_neg (by omega), and_t (by omega), hc0, and_t (by omega), k0 (C + 1) (by omega) (by omega), q1 i i0 (by omega)]
      refine c_leastOf rc1 ok (by omega) d.2 (by omega) (fun x hx => ?_)
      simp only [vb_p, hb_p]
      rw [kk C (by omega) (by omega) (by omega), hc0, and_t (by omega), k0 (C + 1) (by omega) (by omega), q1 i i0 (by omega)]
      refine c_greatestOf rc1 ok (by omega) d.2 (by omega) (fun y hy => ?_)
      have xb : -10000 ≤ x ∧ x ≤ 10000 := by
        obtain ⟨m, m1, m2, m3⟩ := hx.ex
        have := sg_bd ok (show 0 ≤ dt o (S.terms j - 2 - i) by omega) d.2 m1 m2
        unfold St.sg at this
        omega
      have yb : -10000 ≤ y ∧ y ≤ 10000 := by
        obtain ⟨m, m1, m2, m3⟩ := hy.ex
        have := sg_bd ok (show 0 ≤ dt o (S.terms j - 2 - i) by omega) d.2 m1 m2
        unfold St.sg at this
        omega
      rw [w64_id (z := l + x) (by omega) (by omega), w64_id (z := g + y) (by omega) (by omega), w32_id (by omega) (by omega)]
      have v4 : ∀ a, (up (up h (C + 4) i (l + x)) (C + 5) i (g + y)) (C + 4) a = if a = i then l + x else h (C + 4) a := fun a => by rw [up_ne (by omega), up_at]
      have v5 : ∀ a, (up (up h (C + 4) i (l + x)) (C + 5) i (g + y)) (C + 5) a = if a = i then g + y else h (C + 5) a := fun a => by rw [up_at, up_ne (by omega)]
      have vo : ∀ a, a ≠ C + 4 → a ≠ C + 5 → (up (up h (C + 4) i (l + x)) (C + 5) i (g + y)) a = h1 a := fun a a1 a2 => by rw [up_ne a2, up_ne a1]; exact k0 a a1 a2
      generalize up (up h (C + 4) i (l + x)) (C + 5) i (g + y) = h2 at *
      refine ih n (i + 1) _ _ h2 (by omega) (by omega) (by omega) vo (fun w => by omega) (fun _ => by rw [v4, v5, show i + 1 - 1 = i by omega, if_pos rfl, if_pos rfl]; exact ⟨rfl, rfl⟩) (by omega) (by omega) ?_ ?_
      · intro _
        rw [v4, v5]
        by_cases e : i = 0
        · subst e
          obtain ⟨z1, z2⟩ := k1 rfl
          rw [if_pos rfl, if_pos rfl, z1, z2, Int.zero_add, Int.zero_add]
          rw [Int.sub_zero] at hx hy
          exact ⟨hx, hy⟩
        · rw [if_neg (by omega), if_neg (by omega)]
          exact k3 (by omega)
      · intro a a1 a2
        rw [v4, v4, v5, v5]
        by_cases e : a + 1 = i
        · obtain ⟨z1, z2⟩ := k2 (by omega)
          rw [if_pos e, if_neg (by omega), if_pos e, if_neg (by omega), e]
          have ea : a = i - 1 := by omega
          rw [ea, ← z1, ← z2, show l + x - l = x by omega, show g + y - g = y by omega]
          exact ⟨hx, hy⟩
        · rw [if_neg e, if_neg (by omega), if_neg e, if_neg (by omega)]
          exact k4 a a1 (by omega)
  have digs : ∀ (k n : Nat) (r pl : Int) (h : Hh), k < n → pl = (k : Int) - 1 → (k : Int) ≤ S.terms j - 1 → 0 ≤ r ∧ r < 2147483648 → (∀ i, 0 ≤ i → i < k → dt o (S.terms j - 2 - i) = dt r (k - 1 - i)) → (∀ a, a ≠ C + 1 → h a = h0 a) → (∀ i, (k : Int) ≤ i → i < S.terms j - 1 → h (C + 1) i = dt o (S.terms j - 2 - i)) → w_X0_putOrder_9 K (fun h6 => w_X0_putOrder_42 K C NF 0 0 0 h6) C n r pl h := by
    intro k
    induction k with
    | zero =>
      intro n r pl h hn hp hk hr hd k0 k1
      obtain ⟨n, rfl⟩ : ∃ m, n = m + 1 := ⟨n - 1, by omega⟩
      rw [w_X0_putOrder_9, if_pos (by omega)]
      exact sums h (fun a a1 _ _ => k0 a a1) (fun k k2 k3 => k1 k (by omega) k3) (S.terms j - 1).toNat NF 0 0 0 h (by rw [NF_eq]; omega) (by omega) (by omega) (fun _ _ _ => rfl) (fun _ => ⟨rfl, rfl⟩) (fun w => by omega) (by omega) (by omega) (fun w => by omega) (fun a a1 a2 => by omega)
    | succ k ih =>
      intro n r pl h hn hp hk hr hd k0 k1
      obtain ⟨n, rfl⟩ : ∃ m, n = m + 1 := ⟨n - 1, by omega⟩
      have tm : Int.tmod r 10 = r % 10 := Int.tmod_eq_emod_of_nonneg hr.1
      have td : Int.tdiv r 10 = r / 10 := td_pos hr.1 (by omega)
      rw [w_X0_putOrder_9, if_neg (by omega), and_t (by omega), tm, td]
      simp only [hb_p, vb_p]
      rw [w32_id (z := r / 10) (by omega) (by omega), w32_id (z := pl + -1) (by omega) (by omega)]
      refine ih n (r / 10) _ _ (by omega) (by omega) (by omega) (by omega) ?_ (fun a ha => by rw [up_ne ha]; exact k0 a ha) ?_
      · intro i i1 i2
        rw [hd i i1 (by omega), dt_div (by omega), show ((k + 1 : Nat) : Int) - 1 - i = (k : Int) - 1 - i + 1 by omega]
      · intro i i1 i2
        rw [up_at]
        by_cases e : i = k
        · rw [if_pos (by omega), e, hd k (by omega) (by omega), show ((k + 1 : Nat) : Int) - 1 - k = 0 by omega]
          rfl
        · rw [if_neg (by omega)]
          exact k1 i (by omega) i2
  refine digs (S.terms j - 1).toNat NF o _ h0 (by rw [NF_eq]; omega) (by omega) (by omega) ho ?_ (fun _ _ => rfl) (fun i i1 i2 => by omega)
  intro i i1 i2
  rw [show (((S.terms j - 1).toNat : Nat) : Int) - 1 - i = S.terms j - 2 - i by omega]
theorem c_putModuli {h0 : Hh} {C p m pg : Int} (hp : 0 ≤ p ∧ p < 3) (hm : r32 m) (h3 : h0 C 3 = pg) {K : Int → Hh → Prop} (hK : ∀ h, (∀ a, a ≠ C + 2 → a ≠ C + 3 → h a = h0 a) → (∀ k, h (C + 2) k = if k = p ∧ p < pg then Int.tdiv m 100 else h0 (C + 2) k) → (∀ k, h (C + 3) k = if k = p ∧ p < pg then Int.tmod m 100 else h0 (C + 3) k) → K 0 h) : w_X0_putModuli C p m h0 K := by
  have m1 := hm.1
  have m2 := hm.2
  unfold w_X0_putModuli w_X0_hasPage w_X0_hasPage_16 w_X0_hasPage_17 w_X0_putModuli_28
  rw [h3, if_neg (by omega)]
  simp only [hb_p]
  by_cases e : p ≥ pg
  · rw [if_pos e, and_t (Or.inl trivial), if_pos trivial]
    exact hK h0 (fun _ _ _ => rfl) (fun k => by rw [if_neg (by omega)]) (fun k => by rw [if_neg (by omega)])
  · have tb : -2147483648 ≤ Int.tdiv m 100 ∧ Int.tdiv m 100 < 2147483648 := by
      by_cases h0 : 0 ≤ m
      · rw [td_pos h0 (by omega)]; omega
      · have := tdm_neg (m := m) (by omega)
        rw [td_neg (by omega) (by omega)] at this ⊢
        have : -m / 100 ≤ -m := Int.ediv_le_self 100 (by omega)
        omega
    rw [if_neg e, and_t (Or.inr trivial), if_neg (by decide), and_t (by omega), w32_id tb.1 tb.2]
    refine hK _ (fun a a1 a2 => by rw [up_ne a2, up_ne a1]) (fun k => ?_) (fun k => ?_)
    · rw [up_ne (by omega), up_at]
      by_cases e2 : k = p
      · rw [if_pos e2, if_pos ⟨e2, by omega⟩]
      · rw [if_neg e2, if_neg (fun w => e2 w.1)]
    · rw [up_at, up_ne (by omega)]
      by_cases e2 : k = p
      · rw [if_pos e2, if_pos ⟨e2, by omega⟩]
      · rw [if_neg e2, if_neg (fun w => e2 w.1)]
