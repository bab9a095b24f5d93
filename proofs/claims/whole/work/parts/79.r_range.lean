/-! PURE 27: range -/
theorem agree_r {wc wm : Hh → (Int → Hh → Prop) → Prop} (r : St → Int) (R : St → St → Prop) (hc : ∀ h S, Both h S → ∀ K, (∀ h' S', R S S' → RepC h' S' → WF S' → DuesC h' S' → keepM h h' → K (r S) h') → wc h K) (hm : ∀ h S S', Mx h S → R S S' → ∀ K, (∀ h', RepM h' S' → keepC h h' → K (r S) h') → wm h K) : Agree wc wm := by
  intro h S b B C hB
  refine hc h S b _ (fun h1 S' hR a1 w a2 a3 => ⟨by omega, ?_⟩)
  refine hm h1 S S' ⟨a3.m b.m, b.w⟩ hR _ (fun h2 b1 b2 => ?_)
  rw [if_pos rfl]
  exact hB h2 S' ⟨b2.c w a1, b1, w, b2.d a2⟩
/-- one number more on a scale -/
theorem c_putOnScale {h0 : Hh} {R x i : Int} {v : Int → Int} (hR : 0 ≤ R) (hs : Scale (h0 (R + 10)) (h0 R 7) v i) (hi : 0 ≤ i ∧ i < 40) (hx : v i = x) {K : Int → Hh → Prop} (hK : ∀ h, (∀ a, a ≠ R → a ≠ R + 10 → h a = h0 a) → (∀ k, k ≠ 7 → h R k = h0 R k) → Scale (h (R + 10)) (h R 7) v (i + 1) → K 0 h) : w_X7_putOnScale R x h0 K := by
  have cb := hs.num
  unfold w_X7_putOnScale
  -- shifting
  have shift : ∀ p, 0 ≤ p → p ≤ h0 R 7 → ∀ (k n : Nat) (q : Int) (h : Hh), k < n → q - p = k → p ≤ q → q ≤ h0 R 7 → (∀ a, a ≠ R + 10 → h a = h0 a) → (∀ j, j ≤ q → h (R + 10) j = h0 (R + 10) j) → (∀ j, q < j → j ≤ h0 R 7 → h (R + 10) j = h0 (R + 10) (j - 1)) → (∀ j, 0 ≤ j → j < p → h0 (R + 10) j < x) → (∀ j, p ≤ j → j < h0 R 7 → x < h0 (R + 10) j) → w_X7_putOnScale_62 K (fun u12 u13 h11 => ((0 : Int) ≤ u13 ∧ (u13 : Int) < 40) ∧ K 0 (up (up h11 (R + 10) u13 u12) R 7 (w32 ((up h11 (R + 10) u13 u12) R 7 + 1)))) R n x p q h := by
    intro p p0 p1 k
    induction k with
    | zero =>
      intro n q h hn hk q1 q2 k0 k1 k2 lo hi2
      obtain ⟨n, rfl⟩ : ∃ m, n = m + 1 := ⟨n - 1, by omega⟩
      have eq : q = p := by omega
      subst eq
      rw [w_X7_putOnScale_62, if_pos (by omega), and_t (by omega), up_ne (show R ≠ R + 10 by omega), k0 R (by omega), w32_id (by omega) (by omega)]
      have sc : ∀ j, j ≤ h0 R 7 → (up (up h (R + 10) q x) R 7 (h0 R 7 + 1)) (R + 10) j = if j < q then h0 (R + 10) j else if j = q then x else h0 (R + 10) (j - 1) := fun j hj => by
        rw [up_ne (by omega), up_at]
        by_cases e1 : j = q
        · rw [if_pos e1, if_neg (by omega), if_pos e1]
        · rw [if_neg e1, if_neg e1]
          by_cases e2 : j < q
          · rw [if_pos e2]; exact k1 j (by omega)
          · rw [if_neg e2]; exact k2 j (by omega) hj
      have s7 : (up (up h (R + 10) q x) R 7 (h0 R 7 + 1)) R 7 = h0 R 7 + 1 := by rw [up_at, if_pos rfl]
      refine hK _ (fun a a1 a2 => by rw [up_ne a1, up_ne a2]; exact k0 a a2) (fun k hk => by rw [up_at, if_neg hk, up_ne (by omega), k0 R (by omega)]) ?_
      refine ⟨by rw [s7]; omega, ?_, ?_, ?_⟩
      · intro a b a0 ab bc
        rw [s7] at bc
        rw [sc a (by omega), sc b (by omega)]
        by_cases e1 : a < q
        · rw [if_pos e1]
          by_cases e2 : b < q
          · rw [if_pos e2]; exact hs.up a b a0 ab (by omega)
          · rw [if_neg e2]
            by_cases e3 : b = q
            · rw [if_pos e3]; exact lo a a0 e1
            · rw [if_neg e3]
              have := lo a a0 e1
              have := hi2 (b - 1) (by omega) (by omega)
              omega
        · rw [if_neg e1, if_neg (show ¬ b < q by omega), if_neg (show ¬ b = q by omega)]
          by_cases e3 : a = q
          · rw [if_pos e3]; exact hi2 (b - 1) (by omega) (by omega)
          · rw [if_neg e3]; exact hs.up (a - 1) (b - 1) (by omega) (by omega) (by omega)
      · intro a a0 a1
        rw [s7] at a1
        rw [sc a (by omega)]
        by_cases e1 : a < q
        · rw [if_pos e1]
          obtain ⟨m, m1, m2, m3⟩ := hs.inn a a0 (by omega)
          exact ⟨m, m1, by omega, m3⟩
        · rw [if_neg e1]
          by_cases e3 : a = q
          · rw [if_pos e3]; exact ⟨i, by omega, by omega, hx⟩
          · rw [if_neg e3]
            obtain ⟨m, m1, m2, m3⟩ := hs.inn (a - 1) (by omega) (by omega)
            exact ⟨m, m1, by omega, m3⟩
      · intro m m1 m2
        rw [s7]
        by_cases e1 : m = i
        · exact ⟨q, by omega, by omega, by rw [sc q (by omega), if_neg (by omega), if_pos rfl, e1, hx]⟩
        · obtain ⟨a, a1, a2, a3⟩ := hs.out m m1 (by omega)
          by_cases e2 : a < q
          · exact ⟨a, a1, by omega, by rw [sc a (by omega), if_pos e2]; exact a3⟩
          · exact ⟨a + 1, by omega, by omega, by rw [sc (a + 1) (by omega), if_neg (by omega), if_neg (by omega), show a + 1 - 1 = a by omega]; exact a3⟩
    | succ k ih =>
      intro n q h hn hk q1 q2 k0 k1 k2 lo hi2
      obtain ⟨n, rfl⟩ : ∃ m, n = m + 1 := ⟨n - 1, by omega⟩
      rw [w_X7_putOnScale_62, if_neg (by omega), w32_id (z := q - 1) (by omega) (by omega), and_t (by omega), and_t (by omega)]
      simp only [hb_p, vb_p]
      rw [w32_id (by omega) (by omega), k1 (q - 1) (by omega)]
      refine ih n (q + -1) _ (by omega) (by omega) (by omega) (by omega) (fun a ha => by rw [up_ne ha]; exact k0 a ha) (fun j hj => by rw [up_at, if_neg (by omega)]; exact k1 j (by omega)) (fun j j1 j2 => ?_) lo hi2
      rw [up_at]
      by_cases e : j = q
      · rw [if_pos e, e]
      · rw [if_neg e]; exact k2 j (by omega) j2
  have find : ∀ (k n : Nat) (p : Int), k < n → h0 R 7 - p ≤ k → 0 ≤ p → p ≤ h0 R 7 → (∀ j, 0 ≤ j → j < p → h0 (R + 10) j < x) → w_X7_putOnScale_2 K (fun u4 u5 h3 => w_X7_putOnScale_26 K R u4 u5 h3) R n x p h0 := by
    have fin : ∀ p, 0 ≤ p → p ≤ h0 R 7 → (∀ j, 0 ≤ j → j < p → h0 (R + 10) j < x) → (p < h0 R 7 → x ≤ h0 (R + 10) p) → w_X7_putOnScale_26 K R x p h0 := by
      intro p p0 p1 lo hi2
      have ins : (∀ j, p ≤ j → j < h0 R 7 → x < h0 (R + 10) j) → w_X7_putOnScale_57 K R x p h0 := by
        intro up2
        unfold w_X7_putOnScale_57
        simp only [hb_p, vb_p]
        exact shift p p0 p1 (h0 R 7 - p).toNat NF _ h0 (by have : NF = 20000 := rfl
                                                           omega) (by omega) (by omega) (by omega) (fun _ _ => rfl) (fun _ _ => rfl) (fun j j1 j2 => by omega) lo up2
      unfold w_X7_putOnScale_26 w_X7_putOnScale_56
      rw [if_neg (by omega)]
      by_cases e1 : p ≥ h0 R 7
      · rw [if_pos e1]
        exact ins (fun j j1 j2 => by omega)
      · rw [if_neg e1, and_t (by omega)]
        by_cases e2 : h0 (R + 10) p = x
        · rw [if_neg (fun w => w e2)]
          refine hK h0 (fun _ _ _ => rfl) (fun _ _ => rfl) ⟨by omega, hs.up, ?_, ?_⟩
          · intro a a0 a1
            obtain ⟨m, m1, m2, m3⟩ := hs.inn a a0 a1
            exact ⟨m, m1, by omega, m3⟩
          · intro m m1 m2
            by_cases e3 : m = i
            · exact ⟨p, p0, by omega, by rw [e2, e3, hx]⟩
            · exact hs.out m m1 (by omega)
        · rw [if_pos e2]
          refine ins (fun j j1 j2 => ?_)
          have g := hi2 (by omega)
          by_cases e3 : j = p
          · rw [e3]; omega
          · have := hs.up p j p0 (by omega) j2
            omega
    intro k
    induction k with
    | zero =>
      intro n p hn hk p0 p1 lo
      obtain ⟨n, rfl⟩ : ∃ m, n = m + 1 := ⟨n - 1, by omega⟩
      rw [w_X7_putOnScale_2, if_pos (by omega)]
      exact fin p p0 p1 lo (fun w => by omega)
    | succ k ih =>
      intro n p hn hk p0 p1 lo
      obtain ⟨n, rfl⟩ : ∃ m, n = m + 1 := ⟨n - 1, by omega⟩
      rw [w_X7_putOnScale_2]
      by_cases e1 : p ≥ h0 R 7
      · rw [if_pos e1]
        exact fin p p0 p1 lo (fun w => by omega)
      · rw [if_neg e1, and_t (by omega)]
        by_cases e2 : h0 (R + 10) p ≥ x
        · rw [if_pos e2]
          exact fin p p0 p1 lo (fun _ => e2)
        · rw [if_neg e2]
          simp only [vb_p]
          rw [w32_id (by omega) (by omega)]
          refine ih n (p + 1) (by omega) (by omega) (by omega) (by omega) (fun j j1 j2 => ?_)
          by_cases e3 : j = p
          · rw [e3]; omega
          · exact lo j j1 (by omega)
  exact find 41 NF 0 (by decide) (by omega) (by omega) (by omega) (fun j j1 j2 => by omega)
/-- the number of a value; the bounds of values -/
def kval (k x : Int) : Int := if k = 1 then x * x else if k = 2 then nst 10000 x else x
def klo (k : Int) : Int := if k = 1 then 0 else if k = 2 then 1 else -999
def khi (k : Int) : Int := if k = 1 then 99 else 999
theorem kval_bd {k x : Int} (h1 : klo k ≤ x) (h2 : x ≤ khi k) : -10000 ≤ kval k x ∧ kval k x ≤ 10000 := by
  unfold klo at h1
  unfold khi at h2
  unfold kval
  by_cases e1 : k = 1
  · rw [if_pos e1] at h1 h2 ⊢
    have := mul_bd (a := x) (b := x) (A := 99) (B := 99) (by omega) (by omega)
    omega
  · rw [if_neg e1] at h1 h2 ⊢
    by_cases e2 : k = 2
    · rw [if_pos e2] at h1 ⊢
      unfold nst
      have a : 0 ≤ (2 * 10000 + x) / (2 * x) := Int.ediv_nonneg (by omega) (by omega)
      have b : (2 * 10000 + x) / (2 * x) < 10001 := Int.ediv_lt_of_lt_mul (by omega) (by omega)
      omega
    · rw [if_neg e2] at h1 ⊢
      omega
theorem c_numberOfValue {k x : Int} (h1 : klo k ≤ x) (h2 : x ≤ khi k) (h : Hh) (K : Int → Hh → Prop) : w_X7_numberOfValue k x h K = K (kval k x) h := by
  have kb := kval_bd h1 h2
  unfold klo at h1
  unfold khi at h2
  unfold w_X7_numberOfValue w_X7_numberOfValue_27
  unfold kval at kb ⊢
  by_cases e1 : k = 1
  · rw [if_pos e1] at h1 h2 kb ⊢
    rw [if_neg (fun w => w e1), w32_id (by omega) (by omega)]
  · rw [if_neg e1] at h1 h2 kb ⊢
    rw [if_pos e1]
    by_cases e2 : k = 2
    · rw [if_pos e2] at h1 kb ⊢
      rw [if_neg (fun w => w e2), e_nearC (by omega) (by omega) (by omega)]
      show K (w32 (nst 10000 x)) h = _
      rw [w32_id (by omega) (by omega)]
    · rw [if_neg e2] at h1 ⊢
      rw [if_pos e2]
abbrev raOk (j t f s n : Int) (S : St) : Prop := (0 ≤ j ∧ j < S.rules) ∧ (0 ≤ t ∧ t < S.terms j) ∧ S.many j t = 0 ∧ (1 ≤ s ∧ s ≤ 500) ∧ (2 ≤ n ∧ n ≤ 40) ∧ klo (S.kind j t) ≤ f ∧ f + s * (n - 1) ≤ khi (S.kind j t)
def St.ra (j t f s n : Int) (S : St) (sc' : Int → Int) (scn' : Int) : St :=
  (St.mk S.size S.txt S.rules S.terms S.const S.kind S.sign (fun a b => if a = j ∧ b = t then n else S.many a b) (fun a b m => if a = j ∧ b = t then kval (S.kind j t) (f + s * m) else S.val a b m) (fun a => if a = j then scn' else S.scn a) (fun a => if a = j then sc' else S.sc a) S.charts S.crule S.ord S.wide S.left S.right S.seam S.low S.upp S.rdC S.rdM S.now S.moves S.mC S.mT S.mM S.mN S.mD S.reps S.rB S.rC S.rM S.rS S.rD S.listed S.list)
def raR (j t f s n : Int) (S S' : St) : Prop := (¬ raOk j t f s n S ∧ S' = S) ∨ (raOk j t f s n S ∧ ∃ sc' scn', S' = S.ra j t f s n sc' scn')
theorem ra_ru {S : St} {j t f s n scn' k : Int} {sc' : Int → Int} (h : k ≠ j) : RuEq S (S.ra j t f s n sc' scn') k := by
  refine ⟨rfl, rfl, rfl, rfl, ?_, ?_, ?_, ?_⟩
  · funext b; exact if_neg (fun w => h w.1)
  · funext b m; exact if_neg (fun w => h w.1)
  · exact if_neg h
  · exact if_neg h
theorem smul_in {s i n : Int} (hs : 1 ≤ s ∧ s ≤ 500) (hi : 0 ≤ i ∧ i < n) (hn : n ≤ 40) : 0 ≤ s * i ∧ s * i ≤ s * (n - 1) ∧ s * (n - 1) ≤ 20000 := by
  refine ⟨Int.mul_nonneg (by omega) (by omega), Int.mul_le_mul_of_nonneg_left (by omega) (by omega), ?_⟩
  have := mul_bd (a := s) (b := n - 1) (A := 500) (B := 40) (by omega) (by omega)
  omega
/-- the class lays a range down -/
theorem c_putRange {h0 : Hh} {R j t f s n : Int} {S : St} (rc : RuleC h0 R S j) (ok : RuleOk S j) (q : raOk j t f s n S) (hR : 0 ≤ R) {K : Int → Hh → Prop}
    (hK : ∀ h sc' scn', (∀ a, a < R ∨ R + 11 ≤ a → h a = h0 a) → RuleC h R (S.ra j t f s n sc' scn') j → Scale sc' scn' ((S.ra j t f s n sc' scn').val j 0) ((S.ra j t f s n sc' scn').many j 0) → K 0 h) : w_X7_putRange_16 K R NF t f s n 0 h0 := by
  obtain ⟨q1, q2, q3, q4, q5, q6, q7⟩ := q
  have ht := ok.terms
  have loop : ∀ (k m : Nat) (i : Int) (h : Hh), k < m → n - i ≤ k → 0 ≤ i → i ≤ n → (∀ a, a ≠ R → a ≠ R + 10 → a ≠ R + 4 + 1 + t → h a = h0 a) → (∀ k, k ≠ 7 → h R k = h0 R k) → (t ≠ 0 → h R 7 = h0 R 7 ∧ h (R + 10) = h0 (R + 10)) → (t = 0 → Scale (h (R + 10)) (h R 7) (fun m => kval (S.kind j t) (f + s * m)) i) → (∀ m, 0 ≤ m → m < i → h (R + 4 + 1 + t) m = kval (S.kind j t) (f + s * m)) → w_X7_putRange_16 K R m t f s n i h := by
    have fin : ∀ (i : Int) (h : Hh), i = n → (∀ a, a ≠ R → a ≠ R + 10 → a ≠ R + 4 + 1 + t → h a = h0 a) → (∀ k, k ≠ 7 → h R k = h0 R k) → (t ≠ 0 → h R 7 = h0 R 7 ∧ h (R + 10) = h0 (R + 10)) → (t = 0 → Scale (h (R + 10)) (h R 7) (fun m => kval (S.kind j t) (f + s * m)) i) → (∀ m, 0 ≤ m → m < i → h (R + 4 + 1 + t) m = kval (S.kind j t) (f + s * m)) → K 0 (up h (R + 3) t n) := by
      intro i h hi k0 k1 k2 k3 k4
      subst hi
      have scv : Scale (h (R + 10)) (h R 7) ((S.ra j t f s i (h (R + 10)) (h R 7)).val j 0) ((S.ra j t f s i (h (R + 10)) (h R 7)).many j 0) ∨ True := Or.inr trivial
      by_cases t0 : t = 0
      · have sc := k3 t0
        subst t0
        refine hK _ (h (R + 10)) (h R 7) (fun a ha => by rw [up_ne (by omega)]; exact k0 a (by omega) (by omega) (by omega)) ?_ ?_
        · refine ⟨?_, ?_, ?_, ?_, ?_, ?_, ?_, ?_⟩
          · rw [up_ne (by omega), k1 0 (by decide)]; exact rc.terms
          · rw [up_ne (by omega), k1 1 (by decide)]; exact rc.const
          · rw [up_ne (by omega)]; exact (if_pos rfl).symm
          · intro b b1 b2
            rw [up_ne (by omega), k0 (R + 1) (by omega) (by omega) (by omega)]; exact rc.kind b b1 b2
          · intro b b1 b2
            rw [up_ne (by omega), k0 (R + 2) (by omega) (by omega) (by omega)]; exact rc.sign b b1 b2
          · intro b b1 b2
            rw [up_at]
            show _ = if j = j ∧ b = 0 then i else S.many j b
            by_cases e : b = 0
            · rw [if_pos e, if_pos ⟨rfl, e⟩]
            · rw [if_neg e, if_neg (fun w => e w.2), k0 (R + 3) (by omega) (by omega) (by omega)]
              exact rc.many b b1 b2
          · intro b m b1 b2 m1 m2
            rw [up_ne (by have : b < S.terms j := b2; omega)]
            show _ = if j = j ∧ b = 0 then kval (S.kind j 0) (f + s * m) else S.val j b m
            have m2 : m < if j = j ∧ b = 0 then i else S.many j b := m2
            by_cases e : b = 0
            · rw [if_pos ⟨rfl, e⟩] at m2 ⊢
              rw [e]; exact k4 m m1 m2
            · rw [if_neg (fun w => e w.2)] at m2 ⊢
              have b2 : b < S.terms j := b2
              rw [k0 (R + 4 + 1 + b) (by omega) (by omega) (by omega)]
              exact rc.val b m b1 b2 m1 m2
          · intro a a1 a2
            rw [up_ne (by omega)]
            exact (congrFun (if_pos rfl) a).symm
        · have e1 : (S.ra j 0 f s i (h (R + 10)) (h R 7)).val j 0 = fun m => kval (S.kind j 0) (f + s * m) := by funext m; exact if_pos ⟨rfl, rfl⟩
          have e2 : (S.ra j 0 f s i (h (R + 10)) (h R 7)).many j 0 = i := if_pos ⟨rfl, rfl⟩
          rw [e1, e2]
          exact sc
      · obtain ⟨g1, g2⟩ := k2 t0
        refine hK _ (S.sc j) (S.scn j) (fun a ha => by rw [up_ne (by omega)]; exact k0 a (by omega) (by omega) (by omega)) ?_ ?_
        · refine ⟨?_, ?_, ?_, ?_, ?_, ?_, ?_, ?_⟩
          · rw [up_ne (by omega), k1 0 (by decide)]; exact rc.terms
          · rw [up_ne (by omega), k1 1 (by decide)]; exact rc.const
          · rw [up_ne (by omega), g1, rc.scn]; exact (if_pos rfl).symm
          · intro b b1 b2
            rw [up_ne (by omega), k0 (R + 1) (by omega) (by omega) (by omega)]; exact rc.kind b b1 b2
          · intro b b1 b2
            rw [up_ne (by omega), k0 (R + 2) (by omega) (by omega) (by omega)]; exact rc.sign b b1 b2
          · intro b b1 b2
            rw [up_at]
            show _ = if j = j ∧ b = t then i else S.many j b
            by_cases e : b = t
            · rw [if_pos e, if_pos ⟨rfl, e⟩]
            · rw [if_neg e, if_neg (fun w => e w.2), k0 (R + 3) (by omega) (by omega) (by omega)]
              exact rc.many b b1 b2
          · intro b m b1 b2 m1 m2
            have b2 : b < S.terms j := b2
            rw [up_ne (by omega)]
            show _ = if j = j ∧ b = t then kval (S.kind j t) (f + s * m) else S.val j b m
            have m2 : m < if j = j ∧ b = t then i else S.many j b := m2
            by_cases e : b = t
            · rw [if_pos ⟨rfl, e⟩] at m2 ⊢
              rw [e]; exact k4 m m1 m2
            · rw [if_neg (fun w => e w.2)] at m2 ⊢
              rw [k0 (R + 4 + 1 + b) (by omega) (by omega) (by omega)]
              exact rc.val b m b1 b2 m1 m2
          · intro a a1 a2
            have a2 : a < if j = j then S.scn j else S.scn j := a2
            rw [if_pos rfl] at a2
            rw [up_ne (by omega), g2, rc.sc a a1 a2]
            exact (congrFun (if_pos rfl) a).symm
        · have e1 : (S.ra j t f s i (S.sc j) (S.scn j)).val j 0 = S.val j 0 := by funext m; exact if_neg (fun w => t0 w.2.symm)
          have e2 : (S.ra j t f s i (S.sc j) (S.scn j)).many j 0 = S.many j 0 := if_neg (fun w => t0 w.2.symm)
          rw [e1, e2]
          exact ok.scale
    intro k
    induction k with
    | zero =>
      intro m i h hm hk i0 i1 k0 k1 k2 k3 k4
      obtain ⟨m, rfl⟩ : ∃ q, m = q + 1 := ⟨m - 1, by omega⟩
      rw [w_X7_putRange_16, if_pos (by omega), and_t (by omega)]
      simp only [hb_p]
      exact fin i h (by omega) k0 k1 k2 k3 k4
    | succ k ih =>
      intro m i h hm hk i0 i1 k0 k1 k2 k3 k4
      obtain ⟨m, rfl⟩ : ∃ q, m = q + 1 := ⟨m - 1, by omega⟩
      rw [w_X7_putRange_16]
      by_cases e1 : i ≥ n
      · rw [if_pos e1, and_t (by omega)]
        simp only [hb_p]
        exact fin i h (by omega) k0 k1 k2 k3 k4
      · have sm := smul_in q4 (i := i) (n := n) (by omega) q5.2
        have flo : -999 ≤ f ∧ f + s * (n - 1) ≤ 999 := by
          unfold klo at q6
          unfold khi at q7
          constructor
          · split at q6
            · omega
            · split at q6 <;> omega
          · split at q7 <;> omega
        rw [if_neg e1, and_t (by omega), k0 (R + 1) (by omega) (by omega) (by omega), rc.kind t q2.1 q2.2, w32_id (z := s * i) (by omega) (by omega), w32_id (z := f + s * i) (by omega) (by omega), c_numberOfValue (by omega) (by omega), and_t (by omega)]
        simp only [hb_p]
        have vat : (up h (R + 4 + 1 + t) i (kval (S.kind j t) (f + s * i))) (R + 4 + 1 + t) i = kval (S.kind j t) (f + s * i) := by rw [up_at, if_pos rfl]
        have nx : ∀ h', (∀ a, a ≠ R → a ≠ R + 10 → a ≠ R + 4 + 1 + t → h' a = h0 a) → (∀ k, k ≠ 7 → h' R k = h0 R k) → (t ≠ 0 → h' R 7 = h0 R 7 ∧ h' (R + 10) = h0 (R + 10)) → (t = 0 → Scale (h' (R + 10)) (h' R 7) (fun m => kval (S.kind j t) (f + s * m)) (i + 1)) → (h' (R + 4 + 1 + t) = (up h (R + 4 + 1 + t) i (kval (S.kind j t) (f + s * i))) (R + 4 + 1 + t)) → w_X7_putRange_64 K (w_X7_putRange_16 K R m) R t f s n i h' := by
          intro h' g0 g1 g2 g3 g4
          unfold w_X7_putRange_64
          simp only [vb_p]
          rw [w32_id (by omega) (by omega)]
          refine ih m (i + 1) h' (by omega) (by omega) (by omega) (by omega) g0 g1 g2 g3 (fun a a1 a2 => ?_)
          rw [g4, up_at]
          by_cases e : a = i
          · rw [if_pos e, e]
          · rw [if_neg e]; exact k4 a a1 (by omega)
        by_cases t0 : t = 0
        · rw [if_neg (fun w => w t0), vat]
          refine c_putOnScale (v := fun m => kval (S.kind j t) (f + s * m)) (i := i) hR ?_ (by omega) rfl (fun h' g0 g1 g2 => ?_)
          · rw [up_ne (by omega), up_ne (by omega)]
            exact k3 t0
          · refine nx h' (fun a a1 a2 a3 => by rw [g0 a a1 a2, up_ne a3]; exact k0 a a1 a2 a3) (fun k hk => by rw [g1 k hk, up_ne (by omega)]; exact k1 k hk) (fun w => absurd t0 w) (fun _ => g2) (g0 _ (by omega) (by omega))
        · rw [if_pos t0]
          exact nx _ (fun a a1 a2 a3 => by rw [up_ne a3]; exact k0 a a1 a2 a3) (fun k hk => by rw [up_ne (by omega)]; exact k1 k hk) (fun w => by rw [up_ne (by omega), up_ne (by omega)]; exact k2 w) (fun w => absurd w t0) rfl
  refine loop 41 NF 0 h0 (by decide) (by omega) (by omega) (by omega) (fun _ _ _ _ => rfl) (fun _ _ => rfl) (fun _ => ⟨rfl, rfl⟩) ?_ (fun m m1 m2 => by omega)
  intro t0
  subst t0
  have sn := ok.scale.num
  rw [q3] at sn
  have z : h0 R 7 = 0 := by rw [rc.scn]; omega
  rw [z]
  exact ⟨by omega, fun a b _ _ w => by omega, fun a _ w => by omega, fun a _ w => by omega⟩
theorem c_canRange {h : Hh} {R j t f s n : Int} {S : St} (rc : RuleC h R S j) (ok : RuleOk S j) (hj : 0 ≤ j ∧ j < S.rules) (hf : r32 f) (K : Int → Hh → Prop) : w_X7_canRange R t f s n h K = K (if raOk j t f s n S then 1 else 0) h := by
  have ht := ok.terms
  have no : ¬ raOk j t f s n S → K (if raOk j t f s n S then 1 else 0) h = K 0 h := fun q => by rw [if_neg q]
  unfold w_X7_canRange w_X7_canRange_17 w_X7_canRange_44 w_X7_canRange_92 w_X7_canRange_93
  rw [c_hasTerm rc ok]
  by_cases h1 : 0 ≤ t ∧ t < S.terms j
  · simp only [rc.many t h1.1 h1.2, rc.kind t h1.1 h1.2]
    rw [if_pos h1, if_neg (by decide), and_t (by omega)]
    by_cases h2 : S.many j t = 0
    · rw [if_pos h2]
      by_cases h3 : s < 1
      · rw [if_pos h3, no (fun q => by unfold raOk at q; omega)]
      · rw [if_neg h3]
        by_cases h4 : s > 500
        · rw [if_pos h4, no (fun q => by unfold raOk at q; omega)]
        · rw [if_neg h4]
          by_cases h5 : n < 2
          · rw [if_pos h5, no (fun q => by unfold raOk at q; omega)]
          · rw [if_neg h5]
            by_cases h6 : n ≤ 40
            · have sm := smul_in (s := s) (i := 0) (n := n) (by omega) (by omega) h6
              have hf1 := hf.1
              have hf2 := hf.2
              simp only [vb_p]
              rw [if_pos h6, w32_id (z := n - 1) (by omega) (by omega), w64_id (z := s * (n - 1)) (by omega) (by omega), w64_id (by omega) (by omega)]
              have lv : ∀ K', w_X7_leastValue (S.kind j t) h K' = K' (klo (S.kind j t)) h := fun K' => by
                unfold w_X7_leastValue w_X7_leastValue_19 klo
                by_cases e1 : S.kind j t = 1
                · rw [if_neg (fun w => w e1), if_pos e1]
                · rw [if_pos e1, if_neg e1]
                  by_cases e2 : S.kind j t = 2
                  · rw [if_neg (fun w => w e2), if_pos e2]
                  · rw [if_pos e2, if_neg e2]
              have gv : ∀ K', w_X7_greatestValue (S.kind j t) h K' = K' (khi (S.kind j t)) h := fun K' => by
                unfold w_X7_greatestValue w_X7_greatestValue_13 khi
                by_cases e1 : S.kind j t = 1
                · rw [if_neg (fun w => w e1), if_pos e1]
                · rw [if_pos e1, if_neg e1]
              rw [lv]
              by_cases h7 : f < klo (S.kind j t)
              · rw [if_pos h7, and_t (Or.inl trivial), no (fun q => by unfold raOk at q; omega)]
              · rw [if_neg h7, rc.kind t h1.1 h1.2, gv]
                by_cases h8 : f + s * (n - 1) > khi (S.kind j t)
                · rw [if_pos h8, and_t (Or.inl trivial), no (fun q => by unfold raOk at q; omega)]
                · rw [if_neg h8, and_t (Or.inr trivial), if_pos ⟨hj, h1, h2, by omega, by omega, by omega, by omega⟩]
            · rw [if_neg h6, no (fun q => by unfold raOk at q; omega)]
    · rw [if_neg h2, no (fun q => h2 q.2.2.1)]
  · rw [if_neg h1, if_pos rfl, no (fun q => h1 q.2.1)]
