/-! PURE 41: the sharpest order: the class's look -/
def Lo (n : Int) : List Int := if n = 2 then [12, 21] else if n = 3 then [123, 132, 213, 231, 312, 321] else [1234, 1243, 1324, 1342, 1423, 1432, 2134, 2143, 2314, 2341, 2413, 2431, 3124, 3142, 3214, 3241, 3412, 3421, 4123, 4132, 4213, 4231, 4312, 4321]
/-- the terms of an order told as digits -/
def St.oT (S : St) (c a k : Int) : Int := dt a (S.terms (S.crule c) - 1 - 1 - k)
def St.gc (S : St) (c e a : Int) : Int := S.gw c e (S.oT c a) (ends S c).toNat
/-- the best of a list of orders, the first ones first -/
def St.bs (S : St) (c e : Int) : List Int → Int → Int → Int × Int
  | [], bo, bw => (bo, bw)
  | a :: l, bo, bw => if bo = -1 ∨ S.gc c e a < bw then St.bs S c e l a (S.gc c e a) else St.bs S c e l bo bw
/-- an order's digits are all there, and it has as many as it should -/
def okO (n a : Int) : Prop := (∀ k, 0 ≤ k → k < n → 1 ≤ dt a (n - 1 - k) ∧ dt a (n - 1 - k) < n + 1) ∧ 0 ≤ a ∧ ((n = 2 ∧ a < 100) ∨ (n = 3 ∧ a < 1000) ∨ (n = 4 ∧ a < 10000))
theorem dt0 (a : Int) : dt a 0 = a % 10 := rfl
theorem dt1 (a : Int) : dt a 1 = a / 10 % 10 := rfl
theorem dt2 (a : Int) : dt a 2 = a / 100 % 10 := rfl
theorem dt3 (a : Int) : dt a 3 = a / 1000 % 10 := rfl
theorem okO2 {a : Int} (h : 0 ≤ a ∧ a < 100) (h0 : 1 ≤ a % 10 ∧ a % 10 < 3) (h1 : 1 ≤ a / 10 % 10 ∧ a / 10 % 10 < 3) : okO 2 a := by
  refine ⟨fun k k0 k1 => ?_, h.1, Or.inl ⟨rfl, h.2⟩⟩
  rcases (by omega : k = 0 ∨ k = 1) with q | q <;> subst q
  · exact h1
  · exact h0
theorem okO3 {a : Int} (h : 0 ≤ a ∧ a < 1000) (h0 : 1 ≤ a % 10 ∧ a % 10 < 4) (h1 : 1 ≤ a / 10 % 10 ∧ a / 10 % 10 < 4) (h2 : 1 ≤ a / 100 % 10 ∧ a / 100 % 10 < 4) : okO 3 a := by
  refine ⟨fun k k0 k1 => ?_, h.1, Or.inr (Or.inl ⟨rfl, h.2⟩)⟩
  rcases (by omega : k = 0 ∨ k = 1 ∨ k = 2) with q | q | q <;> subst q
  · exact h2
  · exact h1
  · exact h0
theorem okO4 {a : Int} (h : 0 ≤ a ∧ a < 10000) (h0 : 1 ≤ a % 10 ∧ a % 10 < 5) (h1 : 1 ≤ a / 10 % 10 ∧ a / 10 % 10 < 5) (h2 : 1 ≤ a / 100 % 10 ∧ a / 100 % 10 < 5) (h3 : 1 ≤ a / 1000 % 10 ∧ a / 1000 % 10 < 5) : okO 4 a := by
  refine ⟨fun k k0 k1 => ?_, h.1, Or.inr (Or.inr ⟨rfl, h.2⟩)⟩
  rcases (by omega : k = 0 ∨ k = 1 ∨ k = 2 ∨ k = 3) with q | q | q | q <;> subst q
  · exact h3
  · exact h2
  · exact h1
  · exact h0
theorem Lo_ok {n : Int} (h : n = 2 ∨ n = 3 ∨ n = 4) : ∀ a ∈ Lo n, okO n a := by
  rcases h with e | e | e <;> subst e
  · have q : ∀ a ∈ Lo 2, ((0 : Int) ≤ a ∧ a < 100) ∧ (1 ≤ a % 10 ∧ a % 10 < 3) ∧ (1 ≤ a / 10 % 10 ∧ a / 10 % 10 < 3) := by decide
    intro a ha
    have w := q a ha
    exact okO2 w.1 w.2.1 w.2.2
  · have q : ∀ a ∈ Lo 3, ((0 : Int) ≤ a ∧ a < 1000) ∧ (1 ≤ a % 10 ∧ a % 10 < 4) ∧ (1 ≤ a / 10 % 10 ∧ a / 10 % 10 < 4) ∧ (1 ≤ a / 100 % 10 ∧ a / 100 % 10 < 4) := by decide
    intro a ha
    have w := q a ha
    exact okO3 w.1 w.2.1 w.2.2.1 w.2.2.2
  · have q : ∀ a ∈ Lo 4, ((0 : Int) ≤ a ∧ a < 10000) ∧ (1 ≤ a % 10 ∧ a % 10 < 5) ∧ (1 ≤ a / 10 % 10 ∧ a / 10 % 10 < 5) ∧ (1 ≤ a / 100 % 10 ∧ a / 100 % 10 < 5) ∧ (1 ≤ a / 1000 % 10 ∧ a / 1000 % 10 < 5) := by decide +kernel
    intro a ha
    have w := q a ha
    exact okO4 w.1 w.2.1 w.2.2.1 w.2.2.2.1 w.2.2.2.2
theorem okO.t {S : St} {c a : Int} (h : okO (S.terms (S.crule c) - 1) a) : okT S c (S.oT c a) := by
  intro k k0 k1
  have := h.1 k k0 k1
  unfold St.oT
  omega
theorem c_digits {h : Hh} {n a : Int} (ok : okO n a) (hd : ∀ k, 0 ≤ k → k < n → h 26 k = dt a (n - 1 - k)) {K : Int → Hh → Prop} (hK : K a h) : w_X3_digitsOfTried 25 n h K := by
  unfold w_X3_digitsOfTried
  obtain ⟨N, eN⟩ : ∃ N, NF = N + 1 + 1 + 1 + 1 + 1 := ⟨19995, rfl⟩
  have a0 := ok.2.1
  rw [eN]
  rcases ok.2.2 with ⟨e, b⟩ | ⟨e, b⟩ | ⟨e, b⟩ <;> subst e
  · have d0 : h 26 0 = a / 10 % 10 := hd 0 (by decide) (by decide)
    have d1 : h 26 1 = a % 10 := hd 1 (by decide) (by decide)
    rw [w_X3_digitsOfTried_4, if_neg (by decide), and_t (by decide)]
    simp only [vb_p, Int.reduceAdd]
    rw [d0, w32_id (z := 0 * 10) (by omega) (by omega), w32_id (z := 0 * 10 + a / 10 % 10) (by omega) (by omega), w32_id (z := 1) (by omega) (by omega)]
    rw [w_X3_digitsOfTried_4, if_neg (by decide), and_t (by decide)]
    simp only [vb_p, Int.reduceAdd]
    rw [d1, w32_id (z := (0 * 10 + a / 10 % 10) * 10) (by omega) (by omega), w32_id (z := (0 * 10 + a / 10 % 10) * 10 + a % 10) (by omega) (by omega), w32_id (z := 2) (by omega) (by omega)]
    rw [w_X3_digitsOfTried_4, if_pos (by decide), show (0 * 10 + a / 10 % 10) * 10 + a % 10 = a by omega]
    exact hK
  · have d0 : h 26 0 = a / 100 % 10 := hd 0 (by decide) (by decide)
    have d1 : h 26 1 = a / 10 % 10 := hd 1 (by decide) (by decide)
    have d2 : h 26 2 = a % 10 := hd 2 (by decide) (by decide)
    rw [w_X3_digitsOfTried_4, if_neg (by decide), and_t (by decide)]
    simp only [vb_p, Int.reduceAdd]
    rw [d0, w32_id (z := 0 * 10) (by omega) (by omega), w32_id (z := 0 * 10 + a / 100 % 10) (by omega) (by omega), w32_id (z := 1) (by omega) (by omega)]
    rw [w_X3_digitsOfTried_4, if_neg (by decide), and_t (by decide)]
    simp only [vb_p, Int.reduceAdd]
    rw [d1, w32_id (z := (0 * 10 + a / 100 % 10) * 10) (by omega) (by omega), w32_id (z := (0 * 10 + a / 100 % 10) * 10 + a / 10 % 10) (by omega) (by omega), w32_id (z := 2) (by omega) (by omega)]
    rw [w_X3_digitsOfTried_4, if_neg (by decide), and_t (by decide)]
    simp only [vb_p, Int.reduceAdd]
    rw [d2, w32_id (z := ((0 * 10 + a / 100 % 10) * 10 + a / 10 % 10) * 10) (by omega) (by omega), w32_id (z := ((0 * 10 + a / 100 % 10) * 10 + a / 10 % 10) * 10 + a % 10) (by omega) (by omega), w32_id (z := 3) (by omega) (by omega)]
    rw [w_X3_digitsOfTried_4, if_pos (by decide), show ((0 * 10 + a / 100 % 10) * 10 + a / 10 % 10) * 10 + a % 10 = a by omega]
    exact hK
  · have d0 : h 26 0 = a / 1000 % 10 := hd 0 (by decide) (by decide)
    have d1 : h 26 1 = a / 100 % 10 := hd 1 (by decide) (by decide)
    have d2 : h 26 2 = a / 10 % 10 := hd 2 (by decide) (by decide)
    have d3 : h 26 3 = a % 10 := hd 3 (by decide) (by decide)
    rw [w_X3_digitsOfTried_4, if_neg (by decide), and_t (by decide)]
    simp only [vb_p, Int.reduceAdd]
    rw [d0, w32_id (z := 0 * 10) (by omega) (by omega), w32_id (z := 0 * 10 + a / 1000 % 10) (by omega) (by omega), w32_id (z := 1) (by omega) (by omega)]
    rw [w_X3_digitsOfTried_4, if_neg (by decide), and_t (by decide)]
    simp only [vb_p, Int.reduceAdd]
    rw [d1, w32_id (z := (0 * 10 + a / 1000 % 10) * 10) (by omega) (by omega), w32_id (z := (0 * 10 + a / 1000 % 10) * 10 + a / 100 % 10) (by omega) (by omega), w32_id (z := 2) (by omega) (by omega)]
    rw [w_X3_digitsOfTried_4, if_neg (by decide), and_t (by decide)]
    simp only [vb_p, Int.reduceAdd]
    rw [d2, w32_id (z := ((0 * 10 + a / 1000 % 10) * 10 + a / 100 % 10) * 10) (by omega) (by omega), w32_id (z := ((0 * 10 + a / 1000 % 10) * 10 + a / 100 % 10) * 10 + a / 10 % 10) (by omega) (by omega), w32_id (z := 3) (by omega) (by omega)]
    rw [w_X3_digitsOfTried_4, if_neg (by decide), and_t (by decide)]
    simp only [vb_p, Int.reduceAdd]
    rw [d3, w32_id (z := (((0 * 10 + a / 1000 % 10) * 10 + a / 100 % 10) * 10 + a / 10 % 10) * 10) (by omega) (by omega), w32_id (z := (((0 * 10 + a / 1000 % 10) * 10 + a / 100 % 10) * 10 + a / 10 % 10) * 10 + a % 10) (by omega) (by omega), w32_id (z := 4) (by omega) (by omega)]
    rw [w_X3_digitsOfTried_4, if_pos (by decide), show (((0 * 10 + a / 1000 % 10) * 10 + a / 100 % 10) * 10 + a / 10 % 10) * 10 + a % 10 = a by omega]
    exact hK
/-- the loop over the orders -/
theorem c_lookL {h0 : Hh} {S : St} {c e : Int} (x : Cx4 h0 S c) (he : 0 ≤ e ∧ e ≤ 50) {K : Int → Hh → Prop} {X : Hh → Prop} {B : Int × Int} (hX : ∀ h, (∀ a, a ≠ 25 → a ≠ 26 → a ≠ 27 → h a = h0 a) → h 25 2 = B.1 → h 25 3 = B.2 → X h) : ∀ (l : List Int) (a : Int) (n : Nat) (v4 bo bw : Int) (h : Hh), Ch (S.terms (S.crule c) - 1) a l → (∀ b ∈ a :: l, okO (S.terms (S.crule c) - 1) b) → l.length + 1 < n → 0 ≤ v4 → v4 + l.length < 24 → (∀ y, y ≠ 25 → y ≠ 26 → y ≠ 27 → h y = h0 y) → (∀ k, 0 ≤ k → k < S.terms (S.crule c) - 1 → h 26 k = dt a (S.terms (S.crule c) - 1 - 1 - k)) → h 25 2 = bo → h 25 3 = bw → S.bs c e (a :: l) bo bw = B → w_X3_look_40 K X 25 n (h0 7 c) e 1 v4 h := by
  have tt := x.ht
  have ca := x.ca
  intro l
  induction l with
  | nil =>
    intro a n v4 bo bw h ch oks hn v0 v1 k0 hd hb hw hB
    obtain ⟨n, rfl⟩ : ∃ m, n = m + 1 + 1 := ⟨n - 2, by simp only [List.length_nil] at hn; omega⟩
    simp only [List.length_nil] at v1
    have oka := oks a (List.mem_cons_self ..)
    have eqw : eqW h0 h := fun y hy => k0 y (fun w => hy (by unfold sw; omega)) (fun w => hy (by unfold sw; omega)) (fun w => hy (by unfold sw; omega))
    have y := x.keep eqw
    rw [w_X3_look_40, if_neg (by omega), if_neg (by decide), ← k0 7 (by decide) (by decide) (by decide)]
    refine c_width y oka.t he hd (fun h2 q0 => ?_)
    have z0 : h 7 c = h0 7 c := by rw [k0 7 (by decide) (by decide) (by decide)]
    have k2 : ∀ u, u ≠ 25 → u ≠ 26 → u ≠ 27 → h2 u = h0 u := fun u u1 u2 u3 => (q0 u u3).trans (k0 u u1 u2 u3)
    have hd2 : ∀ k, 0 ≤ k → k < S.terms (S.crule c) - 1 → h2 26 k = dt a (S.terms (S.crule c) - 1 - 1 - k) := by rw [q0 26 (by decide)]; exact hd
    have go : ∀ h3 : Hh, (∀ u, u ≠ 25 → u ≠ 26 → u ≠ 27 → h3 u = h0 u) → (∀ k, 0 ≤ k → k < S.terms (S.crule c) - 1 → h3 26 k = dt a (S.terms (S.crule c) - 1 - 1 - k)) → h3 25 2 = B.1 → h3 25 3 = B.2 → w_X3_look_95 K (w_X3_look_40 K X 25 (n + 1)) X 25 (h 7 c) e v4 h3 := by
      intro h3 k3 hd3 b1 b2
      have eqw3 : eqW h0 h3 := fun y hy => k3 y (fun w => hy (by unfold sw; omega)) (fun w => hy (by unfold sw; omega)) (fun w => hy (by unfold sw; omega))
      have cc := (x.keep eqw3).cc
      rw [k3 7 (by decide) (by decide) (by decide)] at cc
      unfold w_X3_look_95
      rw [z0, and_t (by omega), cc.size]
      refine ch h3 _ hd3 ?_
      rw [vb_p, w_X3_look_40]
      by_cases w : w32 (v4 + 1) ≥ 24
      · rw [if_pos w]; exact hX h3 k3 b1 b2
      · rw [if_neg w, if_pos rfl]; exact hX h3 k3 b1 b2
    have go2 : ∀ r, r = S.gc c e a → B = (a, S.gc c e a) → w_X3_look_77 K (w_X3_look_40 K X 25 (n + 1)) X 25 (h 7 c) e v4 r h2 := by
      intro r hr hB2
      have cc := (x.keep (eqw.trans (fun y hy => q0 y (fun w => hy (by unfold sw; omega))))).cc
      rw [k2 7 (by decide) (by decide) (by decide)] at cc
      unfold w_X3_look_77
      rw [z0, and_t (by omega), cc.size]
      refine c_digits oka hd2 ?_
      rw [hb_p, hb_p, ← z0]
      refine go _ (fun u u1 u2 u3 => ?_) ?_ ?_ ?_
      · rw [up_ne u1, up_ne u1]; exact k2 u u1 u2 u3
      · rw [up_ne (by decide), up_ne (by decide)]; exact hd2
      · rw [up_at, if_neg (by decide), up_at, if_pos rfl, hB2]
      · rw [up_at, if_pos rfl, hr, hB2]
    have e25 : h2 25 = h 25 := q0 25 (by decide)
    rw [e25, hb, hw]
    have hB' : B = if bo = -1 ∨ S.gc c e a < bw then (a, S.gc c e a) else (bo, bw) := hB.symm
    by_cases w1 : bo = -1
    · rw [if_pos w1]
      exact go2 _ rfl (by rw [hB', if_pos (Or.inl w1)])
    · rw [if_neg w1]
      by_cases w2 : S.gc c e a ≥ bw
      · have hB2 : B = (bo, bw) := by rw [hB', if_neg (by omega)]
        have w2' : S.gw c e (S.oT c a) (ends S c).toNat ≥ bw := w2
        rw [if_pos w2']
        exact go h2 k2 hd2 (by rw [e25, hb, hB2]) (by rw [e25, hw, hB2])
      · have w2' : ¬ S.gw c e (S.oT c a) (ends S c).toNat ≥ bw := w2
        rw [if_neg w2']
        exact go2 _ rfl (by rw [hB', if_pos (Or.inr (by omega))])
  | cons a' l ih =>
    intro a n v4 bo bw h ch oks hn v0 v1 k0 hd hb hw hB
    obtain ⟨n, rfl⟩ : ∃ m, n = m + 1 := ⟨n - 1, by omega⟩
    simp only [List.length_cons] at v1 hn
    have oka := oks a (List.mem_cons_self ..)
    have oks' : ∀ b ∈ a' :: l, okO (S.terms (S.crule c) - 1) b := fun b hb' => oks b (List.mem_cons_of_mem _ hb')
    have eqw : eqW h0 h := fun y hy => k0 y (fun w => hy (by unfold sw; omega)) (fun w => hy (by unfold sw; omega)) (fun w => hy (by unfold sw; omega))
    have y := x.keep eqw
    rw [w_X3_look_40, if_neg (by omega), if_neg (by decide), ← k0 7 (by decide) (by decide) (by decide)]
    refine c_width y oka.t he hd (fun h2 q0 => ?_)
    have z0 : h 7 c = h0 7 c := by rw [k0 7 (by decide) (by decide) (by decide)]
    have k2 : ∀ u, u ≠ 25 → u ≠ 26 → u ≠ 27 → h2 u = h0 u := fun u u1 u2 u3 => (q0 u u3).trans (k0 u u1 u2 u3)
    have hd2 : ∀ k, 0 ≤ k → k < S.terms (S.crule c) - 1 → h2 26 k = dt a (S.terms (S.crule c) - 1 - 1 - k) := by rw [q0 26 (by decide)]; exact hd
    have go : ∀ (h3 : Hh) (bo' bw' : Int), (∀ u, u ≠ 25 → u ≠ 26 → u ≠ 27 → h3 u = h0 u) → (∀ k, 0 ≤ k → k < S.terms (S.crule c) - 1 → h3 26 k = dt a (S.terms (S.crule c) - 1 - 1 - k)) → h3 25 2 = bo' → h3 25 3 = bw' → S.bs c e (a' :: l) bo' bw' = B → w_X3_look_95 K (w_X3_look_40 K X 25 n) X 25 (h 7 c) e v4 h3 := by
      intro h3 bo' bw' k3 hd3 b1 b2 b3
      have eqw3 : eqW h0 h3 := fun y hy => k3 y (fun w => hy (by unfold sw; omega)) (fun w => hy (by unfold sw; omega)) (fun w => hy (by unfold sw; omega))
      have cc := (x.keep eqw3).cc
      rw [k3 7 (by decide) (by decide) (by decide)] at cc
      unfold w_X3_look_95
      rw [z0, and_t (by omega), cc.size]
      refine ch.1 h3 _ hd3 (fun h4 q4 hd4 => ?_)
      rw [vb_p, w32_id (by omega) (by omega)]
      exact ih a' n (v4 + 1) bo' bw' h4 ch.2 oks' (by omega) (by omega) (by omega) (fun u u1 u2 u3 => (q4 u u2).trans (k3 u u1 u2 u3)) hd4 (by rw [q4 25 (by decide)]; exact b1) (by rw [q4 25 (by decide)]; exact b2) b3
    have go2 : ∀ r, r = S.gc c e a → S.bs c e (a' :: l) a (S.gc c e a) = B → w_X3_look_77 K (w_X3_look_40 K X 25 n) X 25 (h 7 c) e v4 r h2 := by
      intro r hr hB2
      have cc := (x.keep (eqw.trans (fun y hy => q0 y (fun w => hy (by unfold sw; omega))))).cc
      rw [k2 7 (by decide) (by decide) (by decide)] at cc
      unfold w_X3_look_77
      rw [z0, and_t (by omega), cc.size]
      refine c_digits oka hd2 ?_
      rw [hb_p, hb_p, ← z0]
      refine go _ a (S.gc c e a) (fun u u1 u2 u3 => ?_) ?_ ?_ ?_ hB2
      · rw [up_ne u1, up_ne u1]; exact k2 u u1 u2 u3
      · rw [up_ne (by decide), up_ne (by decide)]; exact hd2
      · rw [up_at, if_neg (by decide), up_at, if_pos rfl]
      · rw [up_at, if_pos rfl, hr]
    have e25 : h2 25 = h 25 := q0 25 (by decide)
    rw [e25, hb, hw]
    have hB' : (if bo = -1 ∨ S.gc c e a < bw then S.bs c e (a' :: l) a (S.gc c e a) else S.bs c e (a' :: l) bo bw) = B := hB
    by_cases w1 : bo = -1
    · rw [if_pos w1]
      rw [if_pos (Or.inl w1)] at hB'
      exact go2 _ rfl hB'
    · rw [if_neg w1]
      by_cases w2 : S.gc c e a ≥ bw
      · rw [if_neg (by omega)] at hB'
        have w2' : S.gw c e (S.oT c a) (ends S c).toNat ≥ bw := w2
        rw [if_pos w2']
        exact go h2 bo bw k2 hd2 (by rw [e25, hb]) (by rw [e25, hw]) hB'
      · rw [if_pos (Or.inr (by omega))] at hB'
        have w2' : ¬ S.gw c e (S.oT c a) (ends S c).toNat ≥ bw := w2
        rw [if_neg w2']
        exact go2 _ rfl hB'
theorem Lo_ch {n : Int} (h : n = 2 ∨ n = 3 ∨ n = 4) : ∃ a l, Lo n = a :: l ∧ Ch n a l ∧ l.length < 24 ∧ (∀ k, 0 ≤ k → k < n → k + 1 = dt a (n - 1 - k)) := by
  rcases h with e | e | e <;> subst e
  · exact ⟨12, [21], rfl, ch_2, by decide, dig2 rfl rfl rfl rfl⟩
  · exact ⟨123, [132, 213, 231, 312, 321], rfl, ch_3, by decide, dig3 rfl rfl rfl rfl rfl rfl⟩
  · exact ⟨1234, [1243, 1324, 1342, 1423, 1432, 2134, 2143, 2314, 2341, 2413, 2431, 3124, 3142, 3214, 3241, 3412, 3421, 4123, 4132, 4213, 4231, 4312, 4321], rfl, ch_4, by decide, dig4 rfl rfl rfl rfl rfl rfl rfl rfl⟩
theorem c_look {h0 : Hh} {S : St} {c e : Int} (x : Cx4 h0 S c) (he : 0 ≤ e ∧ e ≤ 50) {K : Int → Hh → Prop} (hK : ∀ h, eqW h0 h → h 25 2 = (S.bs c e (Lo (S.terms (S.crule c) - 1)) (-1) 0).1 → h 25 3 = (S.bs c e (Lo (S.terms (S.crule c) - 1)) (-1) 0).2 → K 0 h) : w_X3_look 25 (h0 7 c) e h0 K := by
  have tt := x.ht
  have ca := x.ca
  unfold w_X3_look
  have ewq : ∀ h : Hh, (∀ y, y ≠ 25 → y ≠ 26 → y ≠ 27 → h y = h0 y) → eqW h0 h := fun h k0 y hy => k0 y (fun w => hy (by unfold sw; omega)) (fun w => hy (by unfold sw; omega)) (fun w => hy (by unfold sw; omega))
  have lay : ∀ (X : Int → Int → Hh → Prop), (∀ h, (∀ a, a ≠ 25 → a ≠ 26 → a ≠ 27 → h a = h0 a) → (∀ k, 0 ≤ k → k < S.terms (S.crule c) - 1 → h 26 k = k + 1) → X (h0 7 c) e h) → ∀ (k n : Nat) (p : Int) (h : Hh), k < n → S.terms (S.crule c) - 1 - p = k → 0 ≤ p → (∀ a, a ≠ 25 → a ≠ 26 → a ≠ 27 → h a = h0 a) → (∀ i, 0 ≤ i → i < p → h 26 i = i + 1) → w_X3_look_2 K X 25 n (h0 7 c) e p h := by
    intro X hX k
    induction k with
    | zero =>
      intro n p h hn hk p0 k0 k1
      obtain ⟨n, rfl⟩ : ∃ m, n = m + 1 := ⟨n - 1, by omega⟩
      have cc := (x.keep (ewq h k0)).cc
      rw [k0 7 (by decide) (by decide) (by decide)] at cc
      rw [w_X3_look_2, and_t (by omega), cc.size, if_pos (by omega)]
      exact hX h k0 (fun i i1 i2 => k1 i i1 (by omega))
    | succ k ih =>
      intro n p h hn hk p0 k0 k1
      obtain ⟨n, rfl⟩ : ∃ m, n = m + 1 := ⟨n - 1, by omega⟩
      have cc := (x.keep (ewq h k0)).cc
      rw [k0 7 (by decide) (by decide) (by decide)] at cc
      rw [w_X3_look_2, and_t (by omega), cc.size, if_neg (by omega), and_t (by omega)]
      simp only [Int.reduceAdd]
      rw [hb_p, vb_p, w32_id (by omega) (by omega)]
      refine ih n (p + 1) _ (by omega) (by omega) (by omega) (fun a a1 a2 a3 => by rw [up_ne a2]; exact k0 a a1 a2 a3) (fun i i1 i2 => ?_)
      rw [up_at]
      by_cases e1 : i = p
      · rw [if_pos e1, e1]
      · rw [if_neg e1]; exact k1 i i1 (by omega)
  refine lay _ ?_ (S.terms (S.crule c) - 1).toNat NF 0 h0 (by rw [NF_eq]; omega) (by omega) (by omega) (fun _ _ _ _ => rfl) (fun i i1 i2 => by omega)
  intro h k0 k1
  rw [hb_p, hb_p]
  obtain ⟨a, l, e1, e2, e3, e4⟩ := Lo_ch (n := S.terms (S.crule c) - 1) (by omega)
  have oks := Lo_ok (n := S.terms (S.crule c) - 1) (by omega)
  rw [e1] at oks hK
  refine c_lookL x he (B := S.bs c e (a :: l) (-1) 0) ?_ l a NF 0 (-1) 0 _ e2 oks (by rw [NF_eq]; omega) (by omega) (by omega) ?_ ?_ ?_ ?_ rfl
  · intro h2 q0 q1 q2
    exact hK h2 (ewq h2 q0) q1 q2
  · intro u u1 u2 u3
    rw [up_ne u1, up_ne u1]; exact k0 u u1 u2 u3
  · intro k k2 k3
    rw [up_ne (by decide), up_ne (by decide), k1 k k2 k3]
    exact e4 k k2 k3
  · rw [up_at, if_neg (by decide), up_at, if_pos rfl]
  · rw [up_at, if_pos rfl]
def rSharp (c e w : Int) (S : St) : Int := if (0 ≤ c ∧ c < S.charts) ∧ (0 ≤ e ∧ e ≤ 50) ∧ 0 ≤ w ∧ w ≤ 1 then (if w = 0 then (S.bs c e (Lo (S.terms (S.crule c) - 1)) (-1) 0).1 else w32 (S.bs c e (Lo (S.terms (S.crule c) - 1)) (-1) 0).2) else -1
theorem sharp_C (c e w : Int) (h : Hh) (S : St) (b : Both h S) (K : Int → Hh → Prop) (hK : ∀ h', eqW h h' → K (rSharp c e w S) h') : w_X10_sharpest 0 c e w h K := by
  unfold w_X10_sharpest
  rw [b_chartAt b]
  simp only [w_X10_sharpest_28, w_X10_sharpest_62]
  have no : ¬ ((0 ≤ c ∧ c < S.charts) ∧ (0 ≤ e ∧ e ≤ 50) ∧ 0 ≤ w ∧ w ≤ 1) → K (-1) h := by
    intro q
    have := hK h eqW.rfl'
    unfold rSharp at this
    rw [if_neg q] at this
    exact this
  by_cases c1 : 0 ≤ c ∧ c < S.charts
  · have x := b.cx c1
    have ca := x.ca
    rw [if_pos c1, if_neg (by omega), e_isEye]
    by_cases c2 : 0 ≤ e ∧ e ≤ 50
    · rw [if_pos c2, if_neg (by decide)]
      by_cases c3 : w < 0
      · rw [if_pos c3]; exact no (by omega)
      rw [if_neg c3]
      by_cases c4 : w ≤ 1
      · rw [if_pos c4]
        simp only [Int.reduceAdd]
        refine c_look x c2 (fun h2 q0 q1 q2 => ?_)
        have := hK h2 q0
        unfold rSharp at this
        rw [if_pos ⟨c1, c2, by omega, c4⟩] at this
        by_cases c5 : w = 0
        · rw [if_neg (fun q => q c5), q1]
          rw [if_pos c5] at this
          exact this
        · rw [if_pos c5, q2]
          rw [if_neg c5] at this
          exact this
      · rw [if_neg c4]; exact no (by omega)
    · rw [if_neg c2, if_pos rfl]; exact no (by omega)
  · rw [if_neg c1, if_pos rfl]; exact no (by omega)
