/-! PURE 17: leasts and greatests, TALL, page -/
def St.mnk (S : St) (r t : Int) : Nat → Int
  | 0 => S.sg r t 0
  | k + 1 => if S.sg r t (k + 1) < St.mnk S r t k then S.sg r t (k + 1) else St.mnk S r t k
def St.mxk (S : St) (r t : Int) : Nat → Int
  | 0 => S.sg r t 0
  | k + 1 => if S.sg r t (k + 1) > St.mxk S r t k then S.sg r t (k + 1) else St.mxk S r t k
def St.mn (S : St) (r t : Int) : Int := S.mnk r t (S.many r t - 1).toNat
def St.mx (S : St) (r t : Int) : Int := S.mxk r t (S.many r t - 1).toNat
theorem mnk_le {S : St} {r t : Int} : ∀ (k : Nat) (m : Int), 0 ≤ m → m ≤ k → S.mnk r t k ≤ S.sg r t m := by
  intro k
  induction k with
  | zero =>
    intro m h1 h2
    have : m = 0 := by omega
    subst this
    exact Int.le_refl _
  | succ k ih =>
    intro m h1 h2
    unfold St.mnk
    by_cases e : m = k + 1
    · subst e; split <;> omega
    · have := ih m h1 (by omega)
      split <;> omega
theorem mnk_ex {S : St} {r t : Int} : ∀ k : Nat, ∃ m : Int, 0 ≤ m ∧ m ≤ k ∧ S.mnk r t k = S.sg r t m := by
  intro k
  induction k with
  | zero => exact ⟨0, by omega, by omega, rfl⟩
  | succ k ih =>
    obtain ⟨m, m1, m2, m3⟩ := ih
    unfold St.mnk
    split
    · exact ⟨k + 1, by omega, by omega, rfl⟩
    · exact ⟨m, m1, by omega, m3⟩
theorem mxk_ge {S : St} {r t : Int} : ∀ (k : Nat) (m : Int), 0 ≤ m → m ≤ k → S.sg r t m ≤ S.mxk r t k := by
  intro k
  induction k with
  | zero =>
    intro m h1 h2
    have : m = 0 := by omega
    subst this
    exact Int.le_refl _
  | succ k ih =>
    intro m h1 h2
    unfold St.mxk
    by_cases e : m = k + 1
    · subst e; split <;> omega
    · have := ih m h1 (by omega)
      split <;> omega
theorem mxk_ex {S : St} {r t : Int} : ∀ k : Nat, ∃ m : Int, 0 ≤ m ∧ m ≤ k ∧ S.mxk r t k = S.sg r t m := by
  intro k
  induction k with
  | zero => exact ⟨0, by omega, by omega, rfl⟩
  | succ k ih =>
    obtain ⟨m, m1, m2, m3⟩ := ih
    unfold St.mxk
    split
    · exact ⟨k + 1, by omega, by omega, rfl⟩
    · exact ⟨m, m1, by omega, m3⟩
theorem mn_is {S : St} {r t x : Int} (h1 : 1 ≤ S.many r t) (a : IsLeast S r t x) : x = S.mn r t := by
  obtain ⟨m, m1, m2, m3⟩ := mnk_ex (S := S) (r := r) (t := t) (S.many r t - 1).toNat
  obtain ⟨n, n1, n2, n3⟩ := a.ex
  have l1 := a.le m m1 (by omega)
  have l2 := mnk_le (S := S) (r := r) (t := t) (S.many r t - 1).toNat n n1 (by omega)
  have e1 : S.sg r t m = S.sign r t * S.val r t m := rfl
  have e2 : S.sg r t n = S.sign r t * S.val r t n := rfl
  unfold St.mn
  omega
theorem mx_is {S : St} {r t x : Int} (h1 : 1 ≤ S.many r t) (a : IsMost S r t x) : x = S.mx r t := by
  obtain ⟨m, m1, m2, m3⟩ := mxk_ex (S := S) (r := r) (t := t) (S.many r t - 1).toNat
  obtain ⟨n, n1, n2, n3⟩ := a.ex
  have l1 := a.ge m m1 (by omega)
  have l2 := mxk_ge (S := S) (r := r) (t := t) (S.many r t - 1).toNat n n1 (by omega)
  have e1 : S.sg r t m = S.sign r t * S.val r t m := rfl
  have e2 : S.sg r t n = S.sign r t * S.val r t n := rfl
  unfold St.mx
  omega
theorem mn_bd {S : St} {r t : Int} (ok : RuleOk S r) (ht : 0 ≤ t ∧ t < S.terms r) (h1 : 1 ≤ S.many r t) : -10000 ≤ S.mn r t ∧ S.mn r t ≤ 10000 := by
  obtain ⟨m, m1, m2, m3⟩ := mnk_ex (S := S) (r := r) (t := t) (S.many r t - 1).toNat
  have := sg_bd ok ht.1 ht.2 m1 (by omega)
  unfold St.mn
  omega
theorem mx_bd {S : St} {r t : Int} (ok : RuleOk S r) (ht : 0 ≤ t ∧ t < S.terms r) (h1 : 1 ≤ S.many r t) : -10000 ≤ S.mx r t ∧ S.mx r t ≤ 10000 := by
  obtain ⟨m, m1, m2, m3⟩ := mxk_ex (S := S) (r := r) (t := t) (S.many r t - 1).toNat
  have := sg_bd ok ht.1 ht.2 m1 (by omega)
  unfold St.mx
  omega
theorem mn_mx {S : St} {r t : Int} : S.mn r t ≤ S.mx r t := by
  have a := mnk_le (S := S) (r := r) (t := t) (S.many r t - 1).toNat 0 (by omega) (by omega)
  have b := mxk_ge (S := S) (r := r) (t := t) (S.many r t - 1).toNat 0 (by omega) (by omega)
  unfold St.mn St.mx
  omega
def St.la (S : St) (c : Int) : Nat → Int
  | 0 => 0
  | k + 1 => St.la S c k + S.mn (S.crule c) (S.ord c k)
def St.ga (S : St) (c : Int) : Nat → Int
  | 0 => 0
  | k + 1 => St.ga S c k + S.mx (S.crule c) (S.ord c k)
theorem la_ga {S : St} {c : Int} : ∀ k : Nat, S.la c k ≤ S.ga c k := by
  intro k
  induction k with
  | zero => exact Int.le_refl _
  | succ k ih =>
    have := mn_mx (S := S) (r := S.crule c) (t := S.ord c k)
    show S.la c k + _ ≤ S.ga c k + _
    omega
theorem la_bd {S : St} {c : Int} (ok : ChartOk S c) (rok : RuleOk S (S.crule c)) : ∀ k : Nat, (k : Int) ≤ S.terms (S.crule c) - 1 → (-(10000 * k) ≤ S.la c k ∧ S.la c k ≤ 10000 * k) ∧ (-(10000 * k) ≤ S.ga c k ∧ S.ga c k ≤ 10000 * k) := by
  intro k
  induction k with
  | zero =>
    intro _
    exact ⟨⟨Int.le_refl _, Int.le_refl _⟩, ⟨Int.le_refl _, Int.le_refl _⟩⟩
  | succ k ih =>
    intro hk
    obtain ⟨a1, a2⟩ := ih (by omega)
    have o := ok.ord k (by omega) (by omega)
    have m := ok.many (S.ord c k) (by omega) o.2
    have b1 := mn_bd rok ⟨by omega, o.2⟩ (by omega)
    have b2 := mx_bd rok ⟨by omega, o.2⟩ (by omega)
    show (-(10000 * ((k + 1 : Nat) : Int)) ≤ S.la c k + S.mn (S.crule c) (S.ord c k) ∧ S.la c k + S.mn (S.crule c) (S.ord c k) ≤ 10000 * ((k + 1 : Nat) : Int)) ∧ (-(10000 * ((k + 1 : Nat) : Int)) ≤ S.ga c k + S.mx (S.crule c) (S.ord c k) ∧ S.ga c k + S.mx (S.crule c) (S.ord c k) ≤ 10000 * ((k + 1 : Nat) : Int))
    omega
/-- what a Chart keeps of them -/
theorem ahead {h : Hh} {C c : Int} {S : St} (cc : ChartC h C S c) (ok : ChartOk S c) (ht : 3 ≤ S.terms (S.crule c)) : ∀ k : Nat, (k : Int) < S.terms (S.crule c) - 1 → h (C + 4) k = S.la c (k + 1) ∧ h (C + 5) k = S.ga c (k + 1) := by
  intro k
  induction k with
  | zero =>
    intro hk
    have o := ok.ord 0 (by omega) (by omega)
    have m := ok.many (S.ord c 0) (by omega) o.2
    have e1 := mn_is (by omega) cc.least0
    have e2 := mx_is (by omega) cc.most0
    show h (C + 4) 0 = 0 + S.mn (S.crule c) (S.ord c 0) ∧ h (C + 5) 0 = 0 + S.mx (S.crule c) (S.ord c 0)
    omega
  | succ k ih =>
    intro hk
    obtain ⟨a1, a2⟩ := ih (by omega)
    have o := ok.ord (k + 1) (by omega) (by omega)
    have m := ok.many (S.ord c (k + 1)) (by omega) o.2
    have e1 := mn_is (by omega) (cc.least k (by omega) (by omega))
    have e2 := mx_is (by omega) (cc.most k (by omega) (by omega))
    show h (C + 4) ((k : Int) + 1) = S.la c (k + 1) + S.mn (S.crule c) (S.ord c ((k : Int) + 1)) ∧ h (C + 5) ((k : Int) + 1) = S.ga c (k + 1) + S.mx (S.crule c) (S.ord c ((k : Int) + 1))
    omega
def St.tall (S : St) (c : Int) (p : Nat) (l r : Int) : Int :=
  max (max (l * S.ga c (p + 1)) (r * S.mx (S.crule c) (S.ord c (p + 1)))) (nst (S.ga c (p + 2) * l * r) (l + r)) - min (min (l * S.la c (p + 1)) (r * S.mn (S.crule c) (S.ord c (p + 1)))) (nst (S.la c (p + 2) * l * r) (l + r))
theorem if_min (x y : Int) : (if x > y then y else x) = min x y := by
  rw [Int.min_def]
  split <;> split <;> omega
theorem if_max (x y : Int) : (if x < y then y else x) = max x y := by
  rw [Int.max_def]
  split <;> split <;> omega
theorem nst_mono {x y d : Int} (hd : 0 < d) (h : x ≤ y) : nst x d ≤ nst y d := by
  unfold nst
  exact Int.ediv_le_ediv (by omega) (by omega)
theorem nst_bd {x d X : Int} (hd : 0 < d) (h : -X ≤ x ∧ x ≤ X) : -(X + 1) ≤ nst x d ∧ nst x d ≤ X + 1 := by
  unfold nst
  have X0 : 0 ≤ X := by omega
  have dX : X ≤ d * X := by
    have : 0 ≤ (d - 1) * X := Int.mul_nonneg (by omega) X0
    grind
  constructor
  · apply Int.le_ediv_of_mul_le (by omega)
    grind
  · have := Int.ediv_lt_of_lt_mul (a := 2 * x + d) (b := X + 2) (c := 2 * d) (by omega) (by grind)
    omega
/-- the numbers of TALL are small -/
theorem tall_bd {S : St} {c : Int} (ok : ChartOk S c) (rok : RuleOk S (S.crule c)) {p : Nat} (hp : (p : Int) < S.terms (S.crule c) - 2) {l r : Int} (hl : 1 ≤ l ∧ l ≤ 50) (hr : 1 ≤ r ∧ r ≤ 50) :
    (-2000000 ≤ l * S.la c (p + 1) ∧ l * S.la c (p + 1) ≤ 2000000) ∧ (-2000000 ≤ l * S.ga c (p + 1) ∧ l * S.ga c (p + 1) ≤ 2000000) ∧ (l * S.la c (p + 1) ≤ l * S.ga c (p + 1)) ∧ (-500000 ≤ r * S.mn (S.crule c) (S.ord c (p + 1)) ∧ r * S.mn (S.crule c) (S.ord c (p + 1)) ≤ 500000) ∧ (-500000 ≤ r * S.mx (S.crule c) (S.ord c (p + 1)) ∧ r * S.mx (S.crule c) (S.ord c (p + 1)) ≤ 500000) ∧ (-2000000 ≤ S.la c (p + 2) * l ∧ S.la c (p + 2) * l ≤ 2000000) ∧ (-2000000 ≤ S.ga c (p + 2) * l ∧ S.ga c (p + 2) * l ≤ 2000000) ∧ (-100000000 ≤ S.la c (p + 2) * l * r ∧ S.la c (p + 2) * l * r ≤ 100000000) ∧ (-100000000 ≤ S.ga c (p + 2) * l * r ∧ S.ga c (p + 2) * l * r ≤ 100000000) ∧ (-100000001 ≤ nst (S.la c (p + 2) * l * r) (l + r) ∧ nst (S.la c (p + 2) * l * r) (l + r) ≤ 100000001) ∧ (-100000001 ≤ nst (S.ga c (p + 2) * l * r) (l + r) ∧ nst (S.ga c (p + 2) * l * r) (l + r) ≤ 100000001) ∧ nst (S.la c (p + 2) * l * r) (l + r) ≤ nst (S.ga c (p + 2) * l * r) (l + r) := by
  have ht := rok.terms
  obtain ⟨a1, a2⟩ := la_bd ok rok (p + 1) (by omega)
  obtain ⟨b1, b2⟩ := la_bd ok rok (p + 2) (by omega)
  have g1 := la_ga (S := S) (c := c) (p + 1)
  have g2 := la_ga (S := S) (c := c) (p + 2)
  have o := ok.ord (p + 1) (by omega) (by omega)
  have m := ok.many (S.ord c (p + 1)) (by omega) o.2
  have c1 := mn_bd rok (t := S.ord c (p + 1)) ⟨by omega, o.2⟩ (by omega)
  have c2 := mx_bd rok (t := S.ord c (p + 1)) ⟨by omega, o.2⟩ (by omega)
  have d1 := mul_bd (a := l) (A := 50) (b := S.la c (p + 1)) (B := 40000) (by omega) (by omega)
  have d2 := mul_bd (a := l) (A := 50) (b := S.ga c (p + 1)) (B := 40000) (by omega) (by omega)
  have d3 := mul_bd (a := r) (A := 50) (b := S.mn (S.crule c) (S.ord c (p + 1))) (B := 10000) (by omega) (by omega)
  have d4 := mul_bd (a := r) (A := 50) (b := S.mx (S.crule c) (S.ord c (p + 1))) (B := 10000) (by omega) (by omega)
  have d5 := mul_bd (a := S.la c (p + 2)) (A := 40000) (b := l) (B := 50) (by omega) (by omega)
  have d6 := mul_bd (a := S.ga c (p + 2)) (A := 40000) (b := l) (B := 50) (by omega) (by omega)
  have d7 := mul_bd (a := S.la c (p + 2) * l) (A := 2000000) (b := r) (B := 50) (by omega) (by omega)
  have d8 := mul_bd (a := S.ga c (p + 2) * l) (A := 2000000) (b := r) (B := 50) (by omega) (by omega)
  have f1 : l * S.la c (p + 1) ≤ l * S.ga c (p + 1) := Int.mul_le_mul_of_nonneg_left g1 (by omega)
  have f2 : S.la c (p + 2) * l ≤ S.ga c (p + 2) * l := Int.mul_le_mul_of_nonneg_right g2 (by omega)
  have f3 : S.la c (p + 2) * l * r ≤ S.ga c (p + 2) * l * r := Int.mul_le_mul_of_nonneg_right f2 (by omega)
  have n1 := nst_bd (x := S.la c (p + 2) * l * r) (d := l + r) (X := 100000000) (by omega) (by omega)
  have n2 := nst_bd (x := S.ga c (p + 2) * l * r) (d := l + r) (X := 100000000) (by omega) (by omega)
  have n3 := nst_mono (x := S.la c (p + 2) * l * r) (y := S.ga c (p + 2) * l * r) (d := l + r) (by omega) f3
  exact ⟨by omega, by omega, f1, by omega, by omega, by omega, by omega, by omega, by omega, by omega, by omega, n3⟩
theorem min_2 {x a b : Int} (h : a ≤ b) : min (min x a) b = min x a := by omega
theorem max_2 {x a b : Int} (h : a ≤ b) : max (max x a) b = max x b := by omega
theorem tall_hi {G rx n1 n2 : Int} (h : n1 ≤ n2) : max (max (max rx G) n1) n2 = max (max G rx) n2 := by omega
theorem tall_lo {A rm n1 n2 : Int} (h : n1 ≤ n2) : min (min (min rm A) n1) n2 = min (min A rm) n1 := by omega
theorem max3_bd {a b c B : Int} (h1 : -B ≤ a ∧ a ≤ B) (h2 : -B ≤ b ∧ b ≤ B) (h3 : -B ≤ c ∧ c ≤ B) : -B ≤ max (max a b) c ∧ max (max a b) c ≤ B := by omega
theorem min3_bd {a b c B : Int} (h1 : -B ≤ a ∧ a ≤ B) (h2 : -B ≤ b ∧ b ≤ B) (h3 : -B ≤ c ∧ c ≤ B) : -B ≤ min (min a b) c ∧ min (min a b) c ≤ B := by omega
theorem tall_r {S : St} {c : Int} (ok : ChartOk S c) (rok : RuleOk S (S.crule c)) {p : Nat} (hp : (p : Int) < S.terms (S.crule c) - 2) {l r : Int} (hl : 1 ≤ l ∧ l ≤ 50) (hr : 1 ≤ r ∧ r ≤ 50) : -1000000000 ≤ S.tall c p l r ∧ S.tall c p l r ≤ 1000000000 := by
  obtain ⟨t1, t2, t3, t4, t5, t6, t7, t8, t9, t10, t11, t12⟩ := tall_bd ok rok hp hl hr
  have a := max3_bd (B := 100000001) (a := l * S.ga c (p + 1)) (b := r * S.mx (S.crule c) (S.ord c (p + 1))) (c := nst (S.ga c (p + 2) * l * r) (l + r)) (by omega) (by omega) t11
  have b := min3_bd (B := 100000001) (a := l * S.la c (p + 1)) (b := r * S.mn (S.crule c) (S.ord c (p + 1))) (c := nst (S.la c (p + 2) * l * r) (l + r)) (by omega) (by omega) t10
  unfold St.tall
  clear t1 t2 t3 t4 t5 t6 t7 t8 t9 t10 t11 t12
  generalize max (max (l * S.ga c (p + 1)) (r * S.mx (S.crule c) (S.ord c (p + 1)))) (nst (S.ga c (p + 2) * l * r) (l + r)) = x at *
  generalize min (min (l * S.la c (p + 1)) (r * S.mn (S.crule c) (S.ord c (p + 1)))) (nst (S.la c (p + 2) * l * r) (l + r)) = y at *
  omega
theorem c_tallWith {h : Hh} {S : St} {c : Int} (x : Cx4 h S c) {p : Nat} (hp : (p : Int) < S.terms (S.crule c) - 2) {l r : Int} (hl : 1 ≤ l ∧ l ≤ 50) (hr : 1 ≤ r ∧ r ≤ 50) {K : Int → Hh → Prop} (hK : K (S.tall c p l r) h) : w_X0_tallWith (h 7 c) p l r h K := by
  have ht := x.ht
  have ca := x.ca
  have ra := x.ra
  have cc := x.cc
  have ok := x.ok
  have rok := x.rok
  have o := ok.ord (p + 1) (by omega) (by omega)
  have m := ok.many (S.ord c (p + 1)) (by omega) o.2
  obtain ⟨t1, t2, t3, t4, t5, t6, t7, t8, t9, t10, t11, t12⟩ := tall_bd ok rok hp hl hr
  obtain ⟨u1, u2⟩ := ahead cc ok ht.1 p (by omega)
  obtain ⟨v1, v2⟩ := ahead cc ok ht.1 (p + 1) (by omega)
  have v1 : h (h 7 c + 4) ((p : Int) + 1) = S.la c (p + 2) := v1
  have v2 : h (h 7 c + 5) ((p : Int) + 1) = S.ga c (p + 2) := v2
  unfold w_X0_tallWith
  rw [c_hasPage cc, if_pos (show 0 ≤ (p : Int) ∧ (p : Int) < S.terms (S.crule c) - 2 by omega), if_pos (by decide), w32_id (by omega) (by omega), and_t (by omega), cc.rule, and_t (by omega), cc.ord (p + 1) (by omega) (by omega)]
  refine c_leastOf x.rc rok (by omega) o.2 (by omega) (fun z1 hz1 => ?_)
  have z1e := mn_is (by omega) hz1
  subst z1e
  rw [cc.rule, and_t (by omega), cc.ord (p + 1) (by omega) (by omega)]
  refine c_greatestOf x.rc rok (by omega) o.2 (by omega) (fun z2 hz2 => ?_)
  have z2e := mx_is (by omega) hz2
  subst z2e
  rw [and_t (by omega), u1]
  simp only [w_X0_middleOf]
  rw [w64_id (z := l * S.la c (p + 1)) (by omega) (by omega), w64_id (z := r * S.mn (S.crule c) (S.ord c (p + 1))) (by omega) (by omega), e_minL, v1, w64_id (z := S.la c (p + 2) * l) (by omega) (by omega), w64_id (z := S.la c (p + 2) * l * r) (by omega) (by omega), w64_id (z := l + r) (by omega) (by omega), e_nearC (by omega) (by omega) (by omega), e_minL, u2, w64_id (z := l * S.ga c (p + 1)) (by omega) (by omega), w64_id (z := r * S.mx (S.crule c) (S.ord c (p + 1))) (by omega) (by omega), e_maxL, v2, w64_id (z := S.ga c (p + 2) * l) (by omega) (by omega), w64_id (z := S.ga c (p + 2) * l * r) (by omega) (by omega), e_nearC (by omega) (by omega) (by omega), e_maxL, if_min, if_min, if_max, if_max]
  have e : max (max (l * S.ga c (p + 1)) (r * S.mx (S.crule c) (S.ord c (p + 1)))) (nst (S.ga c (p + 2) * l * r) (l + r)) - min (min (l * S.la c (p + 1)) (r * S.mn (S.crule c) (S.ord c (p + 1)))) (nst (S.la c (p + 2) * l * r) (l + r)) = S.tall c p l r := rfl
  show K (w64 (max (max (l * S.ga c (p + 1)) (r * S.mx (S.crule c) (S.ord c (p + 1)))) (nst (S.ga c (p + 2) * l * r) (l + r)) - min (min (l * S.la c (p + 1)) (r * S.mn (S.crule c) (S.ord c (p + 1)))) (nst (S.la c (p + 2) * l * r) (l + r)))) h
  have tr := tall_r ok rok hp hl hr
  rw [e, w64_id (by omega) (by omega)]
  exact hK
/-- only lowest and highest have changed -/
def eq2 (h h' : Hh) : Prop := (∀ a, a ≠ 33 → h' a = h a) ∧ ∀ k, k ≠ 52 → k ≠ 53 → h' 33 k = h 33 k
theorem eq2.m {h h' : Hh} (e : eq2 h h') : eqM h h' := fun a k q => by
  by_cases w : a = 33
  · subst w; exact e.2 k (fun w => q (by unfold scM; omega)) (fun w => q (by unfold scM; omega))
  · rw [e.1 a w]
theorem eq2.trans {h h1 h2 : Hh} (a : eq2 h h1) (b : eq2 h1 h2) : eq2 h h2 := ⟨fun x q => (b.1 x q).trans (a.1 x q), fun k q1 q2 => (b.2 k q1 q2).trans (a.2 k q1 q2)⟩
theorem r_holds {h : Hh} {v : Int} {K : Int → Hh → Prop} (hK : ∀ h', eq2 h h' → h' 33 52 = min (h 33 52) v → h' 33 53 = max (h 33 53) v → K 0 h') : w_X11_holds 33 v h K := by
  unfold w_X11_holds w_X11_holds_14 w_X11_holds_28
  simp only [hb_p]
  by_cases h1 : v ≥ h 33 52
  · rw [if_pos h1]
    by_cases h2 : v ≤ h 33 53
    · rw [if_pos h2]
      exact hK h ⟨fun _ _ => rfl, fun _ _ _ => rfl⟩ (by omega) (by omega)
    · rw [if_neg h2]
      refine hK _ ⟨fun a q => by rw [up_ne q], fun k q1 q2 => by rw [up_at, if_neg q2]⟩ ?_ ?_
      · rw [up_at, if_neg (by decide)]; omega
      · rw [up_at, if_pos rfl]; omega
  · rw [if_neg h1, show (up h 33 52 v) 33 53 = h 33 53 by rw [up_at, if_neg (by decide)]]
    by_cases h2 : v ≤ h 33 53
    · rw [if_pos h2]
      refine hK _ ⟨fun a q => by rw [up_ne q], fun k q1 q2 => by rw [up_at, if_neg q1]⟩ ?_ ?_
      · rw [up_at, if_pos rfl]; omega
      · rw [up_at, if_neg (by decide)]; omega
    · rw [if_neg h2]
      refine hK _ ⟨fun a q => by rw [up_ne q, up_ne q], fun k q1 q2 => by rw [up_at, if_neg q2, up_at, if_neg q1]⟩ ?_ ?_
      · rw [up_at, if_neg (by decide), up_at, if_pos rfl]; omega
      · rw [up_at, if_pos rfl]; omega
theorem mul_min {r x y : Int} (hr : 0 ≤ r) : min (r * x) (r * y) = r * (if y < x then y else x) := by
  by_cases h : y < x
  · rw [if_pos h]
    have := Int.mul_le_mul_of_nonneg_left (show y ≤ x by omega) hr
    omega
  · rw [if_neg h]
    have := Int.mul_le_mul_of_nonneg_left (show x ≤ y by omega) hr
    omega
theorem mul_max {r x y : Int} (hr : 0 ≤ r) : max (r * x) (r * y) = r * (if y > x then y else x) := by
  by_cases h : y > x
  · rw [if_pos h]
    have := Int.mul_le_mul_of_nonneg_left (show x ≤ y by omega) hr
    omega
  · rw [if_neg h]
    have := Int.mul_le_mul_of_nonneg_left (show y ≤ x by omega) hr
    omega
def BIG : Int := 9000000000000000000
/-- the reference, through the marks of one term -/
theorem r_tall_in {h0 : Hh} {S : St} (x : Mx h0 S) {c : Int} (hc : 0 ≤ c ∧ c < S.charts) {p : Nat} {l r least most : Int} {k t : Int} (hk : 0 ≤ k ∧ k ≤ 4) (hp : (p : Int) ≤ 2) (ht : 0 ≤ t ∧ t < S.terms (S.crule c)) (hm : 1 ≤ S.many (S.crule c) t) (hr : 1 ≤ r ∧ r ≤ 50) {K : Int → Hh → Prop} {X : Int → Int → Int → Int → Int → Int → Int → Int → Int → Int → Hh → Prop}
    (hlo : h0 33 52 = BIG) (hhi : h0 33 53 = -BIG)
    (hX : ∀ h, eq2 h0 h → h 33 52 = (if k = p + 1 then r * S.mn (S.crule c) t else BIG) → h 33 53 = (if k = p + 1 then r * S.mx (S.crule c) t else -BIG) → X c p l r (S.crule c) least most k (S.mn (S.crule c) t) (S.mx (S.crule c) t) h) :
    w_X11_tall_70 K X 33 NF c p l r (S.crule c) least most k t (S.sg (S.crule c) t 0) (S.sg (S.crule c) t 0) 0 h0 := by
  have ok := x.wf.chart c hc.1 hc.2
  have rok := x.wf.rule _ ok.rule.1 ok.rule.2
  have rr := ok.rule
  have q2 := x.wf.rules
  have tt := rok.terms
  have mm := many_le rok ht.1 ht.2
  have loop : ∀ (q n : Nat) (i : Nat) (h : Hh), q < n → S.many (S.crule c) t - i ≤ q → (i : Int) ≤ S.many (S.crule c) t → eq2 h0 h → (k = p + 1 → 0 < i → h 33 52 = r * S.mnk (S.crule c) t (i - 1) ∧ h 33 53 = r * S.mxk (S.crule c) t (i - 1)) → (k ≠ p + 1 ∨ i = 0 → h 33 52 = BIG ∧ h 33 53 = -BIG) → w_X11_tall_70 K X 33 n c p l r (S.crule c) least most k t (S.mnk (S.crule c) t (i - 1)) (S.mxk (S.crule c) t (i - 1)) i h := by
    have fin : ∀ (i : Nat) (h : Hh), (i : Int) = S.many (S.crule c) t → eq2 h0 h → (k = p + 1 → 0 < i → h 33 52 = r * S.mnk (S.crule c) t (i - 1) ∧ h 33 53 = r * S.mxk (S.crule c) t (i - 1)) → (k ≠ p + 1 ∨ i = 0 → h 33 52 = BIG ∧ h 33 53 = -BIG) → X c p l r (S.crule c) least most k (S.mnk (S.crule c) t (i - 1)) (S.mxk (S.crule c) t (i - 1)) h := by
      intro i h hi e g1 g2
      have ei : i - 1 = (S.many (S.crule c) t - 1).toNat := by omega
      rw [ei] at g1 ⊢
      refine hX h e ?_ ?_
      · by_cases hkp : k = p + 1
        · rw [if_pos hkp]; exact (g1 hkp (by omega)).1
        · rw [if_neg hkp]; exact (g2 (Or.inl hkp)).1
      · by_cases hkp : k = p + 1
        · rw [if_pos hkp]; exact (g1 hkp (by omega)).2
        · rw [if_neg hkp]; exact (g2 (Or.inl hkp)).2
    intro q
    induction q with
    | zero =>
      intro n i h hn hq hi e g1 g2
      obtain ⟨n, rfl⟩ : ∃ m, n = m + 1 := ⟨n - 1, by omega⟩
      have y := x.keep e.m
      rw [w_X11_tall_70, w32_id (z := 5 * S.crule c) (by omega) (by omega), w32_id (by omega) (by omega), and_t (by omega)]
      simp only [Int.reduceAdd, y.rep.many _ t rr.1 (show S.crule c < 6 by omega) ht.1 (show t < 5 by omega)]
      rw [if_pos (by omega)]
      exact fin i h (by omega) e g1 g2
    | succ q ih =>
      intro n i h hn hq hi e g1 g2
      obtain ⟨n, rfl⟩ : ∃ m, n = m + 1 := ⟨n - 1, by omega⟩
      have y := x.keep e.m
      rw [w_X11_tall_70, w32_id (z := 5 * S.crule c) (by omega) (by omega), w32_id (by omega) (by omega), and_t (by omega)]
      simp only [Int.reduceAdd, y.rep.many _ t rr.1 (show S.crule c < 6 by omega) ht.1 (show t < 5 by omega)]
      by_cases h1 : (i : Int) ≥ S.many (S.crule c) t
      · rw [if_pos h1]
        exact fin i h (by omega) e g1 g2
      · rw [if_neg h1, r_signed y rr ht ⟨by omega, by omega⟩]
        have sb := sg_bd rok ht.1 ht.2 (m := (i : Int)) (by omega) (by omega)
        have mb := mul_bd (a := r) (A := 50) (b := S.sg (S.crule c) t i) (B := 10000) (by omega) sb
        have e1 : (if S.sg (S.crule c) t i ≥ S.mnk (S.crule c) t (i - 1) then S.mnk (S.crule c) t (i - 1) else S.sg (S.crule c) t i) = S.mnk (S.crule c) t i := by
          match i with
          | 0 => exact ite_self _
          | i + 1 =>
            show _ = if S.sg (S.crule c) t (i + 1) < S.mnk (S.crule c) t i then S.sg (S.crule c) t (i + 1) else S.mnk (S.crule c) t i
            show (if S.sg (S.crule c) t ((i + 1 : Nat) : Int) ≥ S.mnk (S.crule c) t i then S.mnk (S.crule c) t i else S.sg (S.crule c) t ((i + 1 : Nat) : Int)) = _
            rw [show ((i + 1 : Nat) : Int) = (i : Int) + 1 by omega]
            split <;> split <;> omega
        have e2 : (if S.sg (S.crule c) t i ≤ S.mxk (S.crule c) t (i - 1) then S.mxk (S.crule c) t (i - 1) else S.sg (S.crule c) t i) = S.mxk (S.crule c) t i := by
          match i with
          | 0 => exact ite_self _
          | i + 1 =>
            show _ = if S.sg (S.crule c) t (i + 1) > S.mxk (S.crule c) t i then S.sg (S.crule c) t (i + 1) else S.mxk (S.crule c) t i
            show (if S.sg (S.crule c) t ((i + 1 : Nat) : Int) ≤ S.mxk (S.crule c) t i then S.mxk (S.crule c) t i else S.sg (S.crule c) t ((i + 1 : Nat) : Int)) = _
            rw [show ((i + 1 : Nat) : Int) = (i : Int) + 1 by omega]
            split <;> split <;> omega
        have step : w_X11_tall_131 K (w_X11_tall_70 K X 33 n) X 33 c p l r (S.crule c) least most k t (S.mnk (S.crule c) t i) i (S.sg (S.crule c) t i) (S.mxk (S.crule c) t i) h := by
          unfold w_X11_tall_131 w_X11_tall_150
          simp only [vb_p]
          rw [w32_id (z := (p : Int) + 1) (by omega) (by omega), w32_id (z := (i : Int) + 1) (by omega) (by omega)]
          have ei : ((i : Int) + 1) = ((i + 1 : Nat) : Int) := by omega
          by_cases hkp : k = p + 1
          · rw [if_neg (fun w => w hkp), w64_id (by omega) (by omega)]
            refine r_holds (fun h' e' f1 f2 => ?_)
            rw [ei]
            have := ih n (i + 1) h' (by omega) (by omega) (by omega) (e.trans e') ?_ (fun w => by omega)
            · exact this
            · intro _ _
              show h' 33 52 = r * S.mnk (S.crule c) t i ∧ h' 33 53 = r * S.mxk (S.crule c) t i
              match i, g1, g2, e1, e2, f1, f2, mb with
              | 0, g1, g2, e1, e2, f1, f2, mb =>
                obtain ⟨k1, k2⟩ := g2 (Or.inr rfl)
                unfold BIG at k1 k2
                have mb : -(50 * 10000) ≤ r * S.sg (S.crule c) t 0 ∧ r * S.sg (S.crule c) t 0 ≤ 50 * 10000 := mb
                have f1 : h' 33 52 = min (h 33 52) (r * S.sg (S.crule c) t 0) := f1
                have f2 : h' 33 53 = max (h 33 53) (r * S.sg (S.crule c) t 0) := f2
                show h' 33 52 = r * S.sg (S.crule c) t 0 ∧ h' 33 53 = r * S.sg (S.crule c) t 0
                omega
              | i + 1, g1, g2, e1, e2, f1, f2, mb =>
                obtain ⟨k1, k2⟩ := g1 hkp (by omega)
                have k1 : h 33 52 = r * S.mnk (S.crule c) t i := k1
                have k2 : h 33 53 = r * S.mxk (S.crule c) t i := k2
                rw [f1, f2, k1, k2, mul_min (by omega), mul_max (by omega)]
                exact ⟨rfl, rfl⟩
          · rw [if_pos hkp, ei]
            exact ih n (i + 1) h (by omega) (by omega) (by omega) e (fun w => absurd w hkp) (fun _ => g2 (Or.inl hkp))
        unfold w_X11_tall_114
        by_cases h2 : S.sg (S.crule c) t i ≥ S.mnk (S.crule c) t (i - 1)
        · rw [if_pos h2] at e1 ⊢
          rw [e1]
          by_cases h3 : S.sg (S.crule c) t i ≤ S.mxk (S.crule c) t (i - 1)
          · rw [if_pos h3] at e2 ⊢
            rw [e2]; exact step
          · rw [if_neg h3] at e2 ⊢
            rw [← e2] at step; exact step
        · rw [if_neg h2] at e1 ⊢
          rw [← e1] at step
          by_cases h3 : S.sg (S.crule c) t i ≤ S.mxk (S.crule c) t (i - 1)
          · rw [if_pos h3] at e2 ⊢
            rw [e2]; exact step
          · rw [if_neg h3] at e2 ⊢
            rw [← e2] at step; exact step
  exact loop 41 NF 0 h0 (by decide) (by omega) (by omega) ⟨fun _ _ => rfl, fun _ _ _ => rfl⟩ (fun _ w => absurd w (by omega)) (fun _ => ⟨hlo, hhi⟩)
theorem r_tall_fin {h0 : Hh} {S : St} (x : Mx h0 S) {c : Int} (hc : 0 ≤ c ∧ c < S.charts) {p : Nat} (hp : (p : Int) < S.terms (S.crule c) - 2) {l r : Int} (hl : 1 ≤ l ∧ l ≤ 50) (hr : 1 ≤ r ∧ r ≤ 50) {K : Int → Hh → Prop} (hK : ∀ h, eq2 h0 h → K (S.tall c p l r) h) : ∀ (k : Nat) (h : Hh), k = p + 2 → eq2 h0 h → h 33 52 = min (r * S.mn (S.crule c) (S.ord c (p + 1))) (l * S.la c (p + 1)) → h 33 53 = max (r * S.mx (S.crule c) (S.ord c (p + 1))) (l * S.ga c (p + 1)) → w_X11_nearest (w64 ((w64 (S.la c k * l)) * r)) (w64 (l + r)) h (fun r35 h36 => w_X11_holds 33 r35 h36 (fun _ h37 => w_X11_nearest (w64 ((w64 (S.ga c k * l)) * r)) (w64 (l + r)) h37 (fun r38 h39 => w_X11_holds 33 r38 h39 (fun _ h40 => K (w64 ((h40 33 53) - (h40 33 52))) h40)))) := by
  have q1 := x.wf.charts
  have q2 := x.wf.rules
  have ok := x.wf.chart c hc.1 hc.2
  have rok := x.wf.rule _ ok.rule.1 ok.rule.2
  have rr := ok.rule
  have tt := rok.terms
  obtain ⟨t1, t2, t3, t4, t5, t6, t7, t8, t9, t10, t11, t12⟩ := tall_bd ok rok hp hl hr
  intro k h hk e g1 g2
  subst hk
  rw [w64_id (z := S.la c (p + 2) * l) (by omega) (by omega), w64_id (z := S.la c (p + 2) * l * r) (by omega) (by omega), w64_id (z := l + r) (by omega) (by omega), e_nearM (by omega) (by omega) (by omega)]
  refine r_holds (fun h1 e1 a1 a2 => ?_)
  rw [w64_id (z := S.ga c (p + 2) * l) (by omega) (by omega), w64_id (z := S.ga c (p + 2) * l * r) (by omega) (by omega), e_nearM (by omega) (by omega) (by omega)]
  refine r_holds (fun h2 e2 b1 b2 => ?_)
  have a1 : h1 33 52 = min (h 33 52) (nst (S.la c (p + 2) * l * r) (l + r)) := a1
  have a2 : h1 33 53 = max (h 33 53) (nst (S.la c (p + 2) * l * r) (l + r)) := a2
  have b1 : h2 33 52 = min (h1 33 52) (nst (S.ga c (p + 2) * l * r) (l + r)) := b1
  have b2 : h2 33 53 = max (h1 33 53) (nst (S.ga c (p + 2) * l * r) (l + r)) := b2
  have et : h2 33 53 - h2 33 52 = S.tall c p l r := by
    rw [b1, b2, a1, a2, g1, g2, tall_hi t12, tall_lo t12]
    rfl
  have tr := tall_r ok rok hp hl hr
  rw [et]
  clear a1 a2 b1 b2 g1 g2
  rw [w64_id (by omega) (by omega)]
  exact hK h2 ((e.trans e1).trans e2)
theorem r_tall_loop {h0 : Hh} {S : St} (x : Mx h0 S) {c : Int} (hc : 0 ≤ c ∧ c < S.charts) {p : Nat} (hp : (p : Int) < S.terms (S.crule c) - 2) {l r : Int} (hl : 1 ≤ l ∧ l ≤ 50) (hr : 1 ≤ r ∧ r ≤ 50) {K : Int → Hh → Prop} (hK : ∀ h, eq2 h0 h → K (S.tall c p l r) h) {pi : Int} (hpi : pi = p) : ∀ (q n : Nat) (k : Nat) (h : Hh) (v8 v10 v12 : Int), v8 = S.la c k → v10 = S.ga c k → v12 = k → q < n → (p : Int) + 2 - k ≤ q → (k : Int) ≤ p + 2 → eq2 h0 h → ((k : Int) ≤ p + 1 → h 33 52 = BIG ∧ h 33 53 = -BIG) → ((k : Int) = p + 2 → h 33 52 = min (r * S.mn (S.crule c) (S.ord c (p + 1))) (l * S.la c (p + 1)) ∧ h 33 53 = max (r * S.mx (S.crule c) (S.ord c (p + 1))) (l * S.ga c (p + 1))) → w_X11_tall_31 K (fun u31 u32 u33 u34 h30 => w_X11_nearest (w64 ((w64 (u33 * u31)) * u32)) (w64 (u31 + u32)) h30 (fun r35 h36 => w_X11_holds 33 r35 h36 (fun _ h37 => w_X11_nearest (w64 ((w64 (u34 * u31)) * u32)) (w64 (u31 + u32)) h37 (fun r38 h39 => w_X11_holds 33 r38 h39 (fun _ h40 => K (w64 ((h40 33 53) - (h40 33 52))) h40))))) 33 n c pi l r (S.crule c) v8 v10 v12 h := by
  subst hpi
  have q1 := x.wf.charts
  have q2 := x.wf.rules
  have ok := x.wf.chart c hc.1 hc.2
  have rok := x.wf.rule _ ok.rule.1 ok.rule.2
  have rr := ok.rule
  have tt := rok.terms
  obtain ⟨t1, t2, t3, t4, t5, t6, t7, t8, t9, t10, t11, t12⟩ := tall_bd ok rok hp hl hr
  intro q
  induction q with
  | zero =>
    intro n k h v8 v10 v12 w8 w10 w12 hn hq hk e g1 g2
    subst w8 w10 w12
    obtain ⟨n, rfl⟩ : ∃ m, n = m + 1 := ⟨n - 1, by omega⟩
    rw [w_X11_tall_31, w32_id (by omega) (by omega), if_pos (by omega)]
    obtain ⟨f1, f2⟩ := g2 (by omega)
    exact r_tall_fin x hc hp hl hr hK k h (by omega) e f1 f2
  | succ q ih =>
    intro n k h v8 v10 v12 w8 w10 w12 hn hq hk e g1 g2
    subst w8 w10 w12
    obtain ⟨n, rfl⟩ : ∃ m, n = m + 1 := ⟨n - 1, by omega⟩
    rw [w_X11_tall_31, w32_id (z := (p : Int) + 1) (by omega) (by omega)]
    by_cases h1 : (k : Int) > p + 1
    · rw [if_pos h1]
      obtain ⟨f1, f2⟩ := g2 (by omega)
      exact r_tall_fin x hc hp hl hr hK k h (by omega) e f1 f2
    · have y := x.keep e.m
      have o := ok.ord k (by omega) (by omega)
      have m := ok.many (S.ord c k) (by omega) o.2
      obtain ⟨f1, f2⟩ := g1 (by omega)
      rw [if_neg h1, w32_id (z := 4 * c) (by omega) (by omega), w32_id (z := 4 * c + (k : Int)) (by omega) (by omega), and_t (by omega)]
      simp only [Int.reduceAdd, vb_p]
      rw [y.rep.ord c k hc.1 hc.2 (by omega) (by omega), r_signed y rr ⟨by omega, o.2⟩ ⟨by omega, by omega⟩]
      refine r_tall_in y hc (by omega) (by omega) ⟨by omega, o.2⟩ (by omega) hr f1 f2 (fun h2 e2 b1 b2 => ?_)
      have lb := la_bd ok rok k (by omega)
      have o1 := mn_bd rok (t := S.ord c k) ⟨by omega, o.2⟩ (by omega)
      have o2 := mx_bd rok (t := S.ord c k) ⟨by omega, o.2⟩ (by omega)
      have ek : ((k : Int) + 1) = ((k + 1 : Nat) : Int) := by omega
      unfold w_X11_tall_180
      simp only [vb_p]
      rw [w32_id (z := (p : Int) + 1) (by omega) (by omega), w64_id (z := S.la c k + S.mn (S.crule c) (S.ord c k)) (by omega) (by omega), w64_id (z := S.ga c k + S.mx (S.crule c) (S.ord c k)) (by omega) (by omega), w32_id (z := (k : Int) + 1) (by omega) (by omega), ek]
      by_cases hkp : (k : Int) = p + 1
      · have hkn : k = p + 1 := by omega
        subst hkn
        have o3 : S.ord c ((p + 1 : Nat) : Int) = S.ord c ((p : Int) + 1) := rfl
        rw [if_pos (by omega)] at b1 b2
        rw [if_neg (by omega), w64_id (z := l * S.la c (p + 1)) (by omega) (by omega)]
        rw [show w64 (l * S.ga c (p + 1)) = l * S.ga c (p + 1) from w64_id (by omega) (by omega)]
        clear f1 f2
        refine r_holds (fun h3 e3 d1 d2 => ?_)
        refine r_holds (fun h4 e4 d3 d4 => ?_)
        refine ih n (p + 1 + 1) h4 _ _ _ rfl rfl rfl (by omega) (by omega) (by omega) (((e.trans e2).trans e3).trans e4) (fun w => by omega) (fun _ => ?_)
        rw [o3] at b1 b2
        rw [d3, d4, d1, d2, b1, b2]
        exact ⟨min_2 t3, max_2 t3⟩
      · rw [if_neg hkp] at b1 b2
        rw [if_pos (by omega)]
        refine ih n (k + 1) h2 _ _ _ rfl rfl rfl (by omega) (by omega) (by omega) (e.trans e2) (fun _ => ⟨b1, b2⟩) (fun w => by omega)
theorem r_tall {h0 : Hh} {S : St} (x : Mx h0 S) {c : Int} (hc : 0 ≤ c ∧ c < S.charts) {p : Nat} (hp : (p : Int) < S.terms (S.crule c) - 2) {l r : Int} (hl : 1 ≤ l ∧ l ≤ 50) (hr : 1 ≤ r ∧ r ≤ 50) {K : Int → Hh → Prop} (hK : ∀ h, eq2 h0 h → K (S.tall c p l r) h) {pi : Int} (hpi : pi = p) : w_X11_tall 33 c pi l r h0 K := by
  have q1 := x.wf.charts
  have q2 := x.wf.rules
  have ok := x.wf.chart c hc.1 hc.2
  have tt := (x.wf.rule _ ok.rule.1 ok.rule.2).terms
  unfold w_X11_tall
  simp only [Int.reduceAdd, vb_p, hb_p]
  rw [and_t (show 0 ≤ c ∧ c < 6 by omega), x.rep.crule c hc.1 hc.2]
  refine r_tall_loop x hc hp hl hr hK hpi 6 NF 0 _ 0 0 0 rfl rfl rfl (by decide) (by omega) (by omega) ⟨fun a q => by rw [up_ne q, up_ne q], fun k q1 q2 => by rw [up_at, if_neg q2, up_at, if_neg q1]⟩ (fun _ => ⟨?_, ?_⟩) (fun w => by omega)
  · rw [up_at, if_neg (by decide), up_at, if_pos rfl]; rfl
  · rw [up_at, if_pos rfl]; rfl
