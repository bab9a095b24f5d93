/-! PURE 29: chart: orders, moduli -/
theorem NF_eq : NF = 20000 := rfl
def btv (v z : Int) : Int := (i32 ((i32 v >>> (i32 z &&& 31)).toInt) &&& i32 1).toInt
def orv (v z : Int) : Int := (i32 v ||| i32 ((i32 1 <<< (i32 z &&& 31)).toInt)).toInt
/-- digits that name each term once -/
def ordB (T : Int) : Nat → Int → Int → Bool
  | 0, r, _ => decide (r = 0)
  | k + 1, r, s => decide ((1 ≤ r % 10 ∧ r % 10 < T) ∧ btv s (r % 10) ≠ 1) && ordB T k (r / 10) (orv s (r % 10))
theorem ordB_0 (T r s : Int) : (ordB T 0 r s = true) = (r = 0) := by
  show (decide (r = 0) = true) = _
  simp
theorem ordB_s (T r s : Int) (k : Nat) : (ordB T (k + 1) r s = true) = (((1 ≤ r % 10 ∧ r % 10 < T) ∧ btv s (r % 10) ≠ 1) ∧ ordB T k (r / 10) (orv s (r % 10)) = true) := by
  show ((decide ((1 ≤ r % 10 ∧ r % 10 < T) ∧ btv s (r % 10) ≠ 1) && ordB T k (r / 10) (orv s (r % 10))) = true) = _
  rw [Bool.and_eq_true, decide_eq_true_eq]
/-- the digit (base 10) at a place from behind -/
def dt (m j : Int) : Int := if j = 0 then m % 10 else if j = 1 then m / 10 % 10 else if j = 2 then m / 100 % 10 else m / 1000 % 10
theorem dt_div {r j : Int} (h : j = 0 ∨ j = 1 ∨ j = 2) : dt (r / 10) j = dt r (j + 1) := by
  unfold dt
  rcases h with e | e | e <;> subst e
  · rw [if_pos (by decide), if_neg (by decide), if_pos (by decide)]
  · rw [if_neg (by decide), if_pos (by decide), if_neg (by decide), if_neg (by decide), if_pos (by decide)]
    omega
  · rw [if_neg (by decide), if_neg (by decide), if_pos (by decide), if_neg (by decide), if_neg (by decide), if_neg (by decide)]
    omega
theorem ordB_dig {T : Int} : ∀ (k : Nat) (r s : Int), (k : Int) ≤ 4 → ordB T k r s = true → ∀ i : Int, 0 ≤ i → i < k → 1 ≤ dt r i ∧ dt r i < T := by
  intro k
  induction k with
  | zero => intro r s hk h i h1 h2; omega
  | succ k ih =>
    intro r s hk h i h1 h2
    rw [ordB_s] at h
    by_cases e : i = 0
    · subst e; exact h.1.1
    · have := ih (r / 10) _ (by omega) h.2 (i - 1) (by omega) (by omega)
      rw [dt_div (by omega), show i - 1 + 1 = i by omega] at this
      exact this
theorem c_isOrder {h : Hh} {R j : Int} {S : St} (rc : RuleC h R S j) (ok : RuleOk S j) {o : Int} (ho : r32 o) {K : Int → Hh → Prop} (hy : 0 ≤ o → ordB (S.terms j) (S.terms j - 1).toNat o 0 = true → K 1 h) (hn : ¬ (0 ≤ o ∧ ordB (S.terms j) (S.terms j - 1).toNat o 0 = true) → K 0 h) : w_X7_isOrder R o h K := by
  have ht := ok.terms
  unfold w_X7_isOrder
  have loop : ∀ (k n : Nat) (r s i : Int), k < n → i = S.terms j - k → 1 ≤ i → 0 ≤ r ∧ r < 2147483648 → 0 ≤ o → (ordB (S.terms j) k r s = true ↔ ordB (S.terms j) (S.terms j - 1).toNat o 0 = true) → w_X7_isOrder_7 K (fun h5 => w_X7_isOrder_47 K R h5) (fun u7 h6 => if u7 ≠ 0 then (w_X7_isOrder_76 K R 0 h6) else (w_X7_isOrder_76 K R 1 h6)) R n r s i h := by
    intro k
    induction k with
    | zero =>
      intro n r s i hn1 hi i1 hr o0 hB
      obtain ⟨n, rfl⟩ : ∃ m, n = m + 1 := ⟨n - 1, by omega⟩
      rw [w_X7_isOrder_7, rc.terms, if_pos (by omega)]
      rw [ordB_0] at hB
      by_cases e : r = 0
      · rw [if_neg (fun w => w e)]
        exact ⟨Or.inr rfl, hy o0 (hB.mp e)⟩
      · rw [if_pos e]
        exact ⟨Or.inl rfl, hn (fun w => e (hB.mpr w.2))⟩
    | succ k ih =>
      intro n r s i hn1 hi i1 hr o0 hB
      obtain ⟨n, rfl⟩ : ∃ m, n = m + 1 := ⟨n - 1, by omega⟩
      have tm : Int.tmod r 10 = r % 10 := Int.tmod_eq_emod_of_nonneg hr.1
      have td : Int.tdiv r 10 = r / 10 := td_pos hr.1 (by omega)
      rw [ordB_s] at hB
      rw [w_X7_isOrder_7, rc.terms]
      simp only [vb_p]
      rw [if_neg (by omega), tm, td]
      by_cases e1 : r % 10 < 1
      · rw [if_pos e1]
        exact hn (fun w => by have := (hB.mpr w.2).1.1; omega)
      · rw [if_neg e1]
        by_cases e2 : r % 10 ≥ S.terms j
        · rw [if_pos e2]
          exact hn (fun w => by have := (hB.mpr w.2).1.1; omega)
        · rw [if_neg e2]
          by_cases e3 : (i32 ((i32 s >>> (i32 (r % 10) &&& 31)).toInt) &&& i32 1).toInt ≠ 1
          · rw [if_pos e3, w32_id (z := r / 10) (by omega) (by omega), w32_id (z := i + 1) (by omega) (by omega)]
            refine ih n (r / 10) _ (i + 1) (by omega) (by omega) (by omega) (by omega) o0 ?_
            exact ⟨fun w => hB.mp ⟨⟨by omega, e3⟩, w⟩, fun w => (hB.mpr w).2⟩
          · rw [if_neg e3]
            exact hn (fun w => e3 (hB.mpr w.2).1.2)
  by_cases o0 : 0 ≤ o
  · exact loop (S.terms j - 1).toNat NF o 0 1 (by rw [NF_eq]; omega) (by omega) (by omega) ⟨o0, ho.2⟩ o0 Iff.rfl
  · have eN : NF = 19999 + 1 := rfl
    generalize hN : (19999 : Nat) = N at eN
    have tm : Int.tmod o 10 ≤ 0 := by
      have e : o = -(-o) := by omega
      rw [e, Int.neg_tmod]
      have := Int.tmod_nonneg 10 (show 0 ≤ -o by omega)
      omega
    rw [eN, w_X7_isOrder_7, rc.terms]
    simp only [vb_p]
    rw [if_neg (by omega), if_pos (by omega)]
    exact hn (fun w => o0 w.1)
theorem c_hasAll {h : Hh} {R j : Int} {S : St} (rc : RuleC h R S j) (ok : RuleOk S j) {K : Int → Hh → Prop} (hy : (∀ t, 0 ≤ t → t < S.terms j → S.many j t ≠ 0) → K 1 h) (hn : ¬ (∀ t, 0 ≤ t → t < S.terms j → S.many j t ≠ 0) → K 0 h) : w_X7_hasAllRanges R h K := by
  have ht := ok.terms
  unfold w_X7_hasAllRanges
  have loop : ∀ (k n : Nat) (i : Int), k < n → S.terms j - i = k → 0 ≤ i → (∀ t, 0 ≤ t → t < i → S.many j t ≠ 0) → w_X7_hasAllRanges_2 K R n i h := by
    intro k
    induction k with
    | zero =>
      intro n i hn1 hk i0 hm
      obtain ⟨n, rfl⟩ : ∃ m, n = m + 1 := ⟨n - 1, by omega⟩
      rw [w_X7_hasAllRanges_2, rc.terms, if_pos (by omega)]
      exact hy (fun t t1 t2 => hm t t1 (by omega))
    | succ k ih =>
      intro n i hn1 hk i0 hm
      obtain ⟨n, rfl⟩ : ∃ m, n = m + 1 := ⟨n - 1, by omega⟩
      rw [w_X7_hasAllRanges_2, rc.terms, if_neg (by omega), and_t (by omega)]
      simp only [vb_p, rc.many i i0 (show i < S.terms j by omega)]
      by_cases e : S.many j i = 0
      · rw [if_neg (fun w => w e)]
        exact hn (fun w => w i i0 (by omega) e)
      · rw [if_pos e, w32_id (by omega) (by omega)]
        refine ih n (i + 1) (by omega) (by omega) (by omega) (fun t t1 t2 => ?_)
        by_cases e2 : t = i
        · rw [e2]; exact e
        · exact hm t t1 (by omega)
  exact loop (S.terms j).toNat NF 0 (by rw [NF_eq]; omega) (by omega) (by omega) (fun t t1 t2 => by omega)
abbrev modOk (m : Int) : Prop := 0 ≤ m ∧ (1 ≤ m / 100 ∧ m / 100 ≤ 50) ∧ 1 ≤ m % 100 ∧ m % 100 ≤ 50
theorem tdm_neg {m : Int} (h : m < 0) : Int.tdiv m 100 ≤ 0 := by
  rw [td_neg h (by omega)]
  have : 0 ≤ -m / 100 := Int.ediv_nonneg (by omega) (by omega)
  omega
theorem e_areMod {m b : Int} (hm : r32 m) (h : Hh) (K : Int → Hh → Prop) : w_X10_areModuli m b h K = K (if (b ≠ 0 ∧ modOk m) ∨ (b = 0 ∧ m = 0) then 1 else 0) h := by
  have m1 := hm.1
  have m2 := hm.2
  unfold w_X10_areModuli w_X10_areModuli_50 w_X10_areModuli_51 w_X10_areModuli_13
  simp only [vb_p]
  by_cases hb : b = 0
  · rw [if_neg (fun w => w hb)]
    by_cases e : m = 0
    · rw [if_neg (fun w => w e), and_t (Or.inr trivial), if_pos (Or.inr ⟨hb, e⟩)]
    · have nq : ¬ ((b ≠ 0 ∧ modOk m) ∨ (b = 0 ∧ m = 0)) := by
        rintro (w | w)
        · exact w.1 hb
        · exact e w.2
      rw [if_pos e, and_t (Or.inl trivial), if_neg nq]
  · rw [if_pos hb]
    by_cases hp : 0 ≤ m
    · have tm : Int.tmod m 100 = m % 100 := Int.tmod_eq_emod_of_nonneg hp
      have td : Int.tdiv m 100 = m / 100 := td_pos hp (by omega)
      rw [tm, td, w32_id (by omega) (by omega)]
      by_cases q : modOk m
      · rw [if_pos (Or.inl ⟨hb, q⟩), if_neg (by omega), if_neg (by omega), if_neg (by omega), if_neg (by omega), and_t (Or.inr trivial)]
      · have nq : ¬ ((b ≠ 0 ∧ modOk m) ∨ (b = 0 ∧ m = 0)) := by
          rintro (w | w)
          · exact q w.2
          · exact hb w.1
        rw [if_neg nq]
        by_cases e1 : m / 100 < 1
        · rw [if_pos e1, and_t (Or.inl trivial)]
        · rw [if_neg e1]
          by_cases e2 : m / 100 > 50
          · rw [if_pos e2, and_t (Or.inl trivial)]
          · rw [if_neg e2]
            by_cases e3 : m % 100 < 1
            · rw [if_pos e3, and_t (Or.inl trivial)]
            · rw [if_neg e3, if_pos (by omega), and_t (Or.inl trivial)]
    · have t1 := tdm_neg (m := m) (by omega)
      have t2 : -2147483648 ≤ Int.tdiv m 100 := by
        rw [td_neg (by omega) (by omega)]
        have : -m / 100 ≤ -m := Int.ediv_le_self 100 (by omega)
        omega
      have nq : ¬ ((b ≠ 0 ∧ modOk m) ∨ (b = 0 ∧ m = 0)) := by
        rintro (w | w)
        · exact hp w.2.1
        · exact hb w.1
      rw [w32_id t2 (by omega), if_pos (by omega), and_t (Or.inl trivial), if_neg nq]
theorem e_isMod {m : Int} (hm : r32 m) (h : Hh) (K : Int → Hh → Prop) : w_X11_isModulus m h K = K (if modOk m then 1 else 0) h := by
  have m1 := hm.1
  have m2 := hm.2
  unfold w_X11_isModulus w_X11_isModulus_38 w_X11_isModulus_39
  by_cases hp : m < 0
  · rw [if_pos hp, and_t (Or.inl rfl), if_neg (fun w => by have := w.1; omega)]
  · have tm : Int.tmod m 100 = m % 100 := Int.tmod_eq_emod_of_nonneg (by omega)
    have td : Int.tdiv m 100 = m / 100 := td_pos (by omega) (by omega)
    rw [if_neg hp, tm, td, w32_id (by omega) (by omega), e_in]
    by_cases e1 : 1 ≤ m / 100 ∧ m / 100 ≤ 50
    · rw [if_pos e1, if_neg (by decide), e_in]
      by_cases e2 : 1 ≤ m % 100 ∧ m % 100 ≤ 50
      · rw [if_pos e2, if_neg (by decide), and_t (Or.inr rfl), if_pos ⟨by omega, e1, e2⟩]
      · rw [if_neg e2, if_pos rfl, and_t (Or.inl rfl), if_neg (fun w => e2 w.2.2)]
    · rw [if_neg e1, if_pos rfl, and_t (Or.inl rfl), if_neg (fun w => e1 w.2.1)]
