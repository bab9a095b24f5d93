/-! PURE 44: the smallest heaps, searched upward and downward -/
def stp (E : Nat → Bool) (d : Nat) (q : Int × Int) (x : Nat) : Int × Int :=
  if E x = false then q else if q.1 = -1 then ((x : Int), 0) else if pcs 12 q.1.toNat < pcs 12 x then q else if pcs 12 x < pcs 12 q.1.toNat then ((x : Int), 0) else if rvb d x < rvb d q.1.toNat then (q.1, q.2 + 1) else ((x : Int), q.2 + 1)
def rf (E : Nat → Bool) (d : Nat) : Nat → Int × Int
  | 0 => (-1, 0)
  | k + 1 => stp E d (rf E d k) k
/-- what the upward search knows -/
def RI (E : Nat → Bool) (d k : Nat) (q : Int × Int) : Prop := (q.1 = -1 ∧ q.2 = 0 ∧ ∀ x, x < k → E x = false) ∨ (∃ y : Nat, y < k ∧ q.1 = (y : Int) ∧ E y = true ∧ (∀ x, x < k → E x = true → pcs 12 y ≤ pcs 12 x) ∧ (∀ x, x < k → E x = true → pcs 12 x = pcs 12 y → rvb d x ≤ rvb d y) ∧ q.2 + 1 = ((cnt (fun x => E x && decide (pcs 12 x = pcs 12 y)) k : Nat) : Int))
theorem RI_all {E : Nat → Bool} {d : Nat} : ∀ k, RI E d k (rf E d k) := by
  intro k
  induction k with
  | zero => exact Or.inl ⟨rfl, rfl, fun x hx => by omega⟩
  | succ k ih =>
    show RI E d (k + 1) (stp E d (rf E d k) k)
    revert ih
    generalize rf E d k = q
    intro ih
    have lt : ∀ x, x < k + 1 → x = k ∨ x < k := fun x hx => by omega
    unfold stp
    by_cases e0 : E k = false
    · rw [if_pos e0]
      rcases ih with ⟨a, b, c⟩ | ⟨y, a, b, c, e, f, g⟩
      · refine Or.inl ⟨a, b, fun x hx => ?_⟩
        rcases lt x hx with w | w
        · rw [w]; exact e0
        · exact c x w
      · refine Or.inr ⟨y, by omega, b, c, fun x hx ex => ?_, fun x hx ex => ?_, ?_⟩
        · rcases lt x hx with w | w
          · rw [w, e0] at ex; exact absurd ex (by decide)
          · exact e x w ex
        · rcases lt x hx with w | w
          · rw [w, e0] at ex; exact absurd ex (by decide)
          · exact f x w ex
        · rw [g]
          show _ = ((cnt (fun x => E x && decide (pcs 12 x = pcs 12 y)) k + (E k && decide (pcs 12 k = pcs 12 y)).toNat : Nat) : Int)
          rw [e0, Bool.false_and]
          rfl
    · rw [if_neg e0]
      have e1 : E k = true := by
        revert e0
        cases E k <;> simp
      have one : ∀ z : Nat, pcs 12 k = pcs 12 z → (E k && decide (pcs 12 k = pcs 12 z)).toNat = 1 := fun z hz => by rw [e1, decide_eq_true hz]; rfl
      rcases ih with ⟨a, b, c⟩ | ⟨y, a, b, c, e, f, g⟩
      · rw [if_pos a]
        refine Or.inr ⟨k, by omega, rfl, e1, fun x hx ex => ?_, fun x hx ex _ => ?_, ?_⟩
        · rcases lt x hx with w | w
          · rw [w]; exact Nat.le_refl _
          · rw [c x w] at ex; exact absurd ex (by decide)
        · rcases lt x hx with w | w
          · rw [w]; exact Nat.le_refl _
          · rw [c x w] at ex; exact absurd ex (by decide)
        · show (0 : Int) + 1 = ((cnt (fun x => E x && decide (pcs 12 x = pcs 12 k)) k + (E k && decide (pcs 12 k = pcs 12 k)).toNat : Nat) : Int)
          rw [one k rfl, cnt_zero k (fun i hi => by rw [c i hi, Bool.false_and])]
          rfl
      · have qy : q.1.toNat = y := by rw [b]; exact Int.toNat_natCast y
        rw [if_neg (by rw [b]; omega), qy]
        by_cases w1 : pcs 12 y < pcs 12 k
        · rw [if_pos w1]
          refine Or.inr ⟨y, by omega, b, c, fun x hx ex => ?_, fun x hx ex ep => ?_, ?_⟩
          · rcases lt x hx with w | w
            · rw [w]; omega
            · exact e x w ex
          · rcases lt x hx with w | w
            · rw [w] at ep; omega
            · exact f x w ex ep
          · rw [g]
            show _ = ((cnt (fun x => E x && decide (pcs 12 x = pcs 12 y)) k + (E k && decide (pcs 12 k = pcs 12 y)).toNat : Nat) : Int)
            rw [decide_eq_false (by omega), Bool.and_false]
            rfl
        · rw [if_neg w1]
          by_cases w2 : pcs 12 k < pcs 12 y
          · rw [if_pos w2]
            refine Or.inr ⟨k, by omega, rfl, e1, fun x hx ex => ?_, fun x hx ex ep => ?_, ?_⟩
            · rcases lt x hx with w | w
              · rw [w]; exact Nat.le_refl _
              · have := e x w ex; omega
            · rcases lt x hx with w | w
              · rw [w]; exact Nat.le_refl _
              · have := e x w ex; omega
            · show (0 : Int) + 1 = ((cnt (fun x => E x && decide (pcs 12 x = pcs 12 k)) k + (E k && decide (pcs 12 k = pcs 12 k)).toNat : Nat) : Int)
              rw [one k rfl, cnt_zero k (fun i hi => ?_)]
              · rfl
              · cases ei : E i
                · rw [Bool.false_and]
                · have := e i hi ei
                  rw [decide_eq_false (by omega), Bool.and_false]
          · rw [if_neg w2]
            have ep : pcs 12 k = pcs 12 y := by omega
            have g2 : q.2 + 1 + 1 = ((cnt (fun x => E x && decide (pcs 12 x = pcs 12 y)) (k + 1) : Nat) : Int) := by
              show _ = ((cnt (fun x => E x && decide (pcs 12 x = pcs 12 y)) k + (E k && decide (pcs 12 k = pcs 12 y)).toNat : Nat) : Int)
              rw [one y ep, g]
              omega
            by_cases w3 : rvb d k < rvb d y
            · rw [if_pos w3]
              refine Or.inr ⟨y, by omega, b, c, fun x hx ex => ?_, fun x hx ex ep' => ?_, g2⟩
              · rcases lt x hx with w | w
                · rw [w]; omega
                · exact e x w ex
              · rcases lt x hx with w | w
                · rw [w]; omega
                · exact f x w ex ep'
            · rw [if_neg w3]
              refine Or.inr ⟨k, by omega, rfl, e1, fun x hx ex => ?_, fun x hx ex ep' => ?_, ?_⟩
              · rcases lt x hx with w | w
                · rw [w]; exact Nat.le_refl _
                · have := e x w ex; omega
              · rcases lt x hx with w | w
                · rw [w]; exact Nat.le_refl _
                · have := f x w ex (by omega); omega
              · rw [ep]; exact g2
/-- what the downward search knows: all from k on were looked at -/
def CI (Q : Nat → Bool) (d k : Nat) (m w f : Int) : Prop := (m = (d : Int) + 1 ∧ w = 0 ∧ ∀ g, k ≤ g → g < 2 ^ d → Q g = false) ∨ (∃ y : Nat, k ≤ y ∧ y < 2 ^ d ∧ f = (y : Int) ∧ Q y = true ∧ m = (pcs 12 y : Int) ∧ (∀ g, k ≤ g → g < 2 ^ d → Q g = true → pcs 12 y ≤ pcs 12 g) ∧ (∀ g, k ≤ g → g < 2 ^ d → Q g = true → pcs 12 g = pcs 12 y → g ≤ y) ∧ w = ((cnt (fun i => Q (k + i) && decide (pcs 12 (k + i) = pcs 12 y)) (2 ^ d - k) : Nat) : Int))
theorem CI_start (Q : Nat → Bool) (d : Nat) (f : Int) : CI Q d (2 ^ d) ((d : Int) + 1) 0 f := Or.inl ⟨rfl, rfl, fun g h1 h2 => by omega⟩
theorem CI_skip {Q : Nat → Bool} {d k : Nat} {m w f : Int} (hk : k < 2 ^ d) (h : CI Q d (k + 1) m w f) (no : Q k = false ∨ m < (pcs 12 k : Int)) (hd : d ≤ 12) : CI Q d k m w f := by
  have lt : ∀ g, k ≤ g → g = k ∨ k + 1 ≤ g := fun g hg => by omega
  have pl := pc_le hk hd
  rcases h with ⟨a, b, c⟩ | ⟨y, a1, a2, b, c, e, f1, f2, g1⟩
  · refine Or.inl ⟨a, b, fun g h1 h2 => ?_⟩
    rcases lt g h1 with w1 | w1
    · rw [w1]
      rcases no with n | n
      · exact n
      · omega
    · exact c g w1 h2
  · have nk : ∀ (R : Prop), Q k = true → pcs 12 k ≤ pcs 12 y → R := by
      intro R q1 q2
      rcases no with n | n
      · rw [n] at q1; exact absurd q1 (by decide)
      · omega
    refine Or.inr ⟨y, by omega, a2, b, c, e, fun g h1 h2 hq => ?_, fun g h1 h2 hq hp => ?_, ?_⟩
    · rcases lt g h1 with w1 | w1
      · rw [w1]
        rw [w1] at hq
        by_cases q : pcs 12 k ≤ pcs 12 y
        · exact nk _ hq q
        · omega
      · exact f1 g w1 h2 hq
    · rcases lt g h1 with w1 | w1
      · omega
      · exact f2 g w1 h2 hq hp
    · rw [g1, show 2 ^ d - k = (2 ^ d - (k + 1)) + 1 by omega, cnt_front (fun x => Q x && decide (pcs 12 x = pcs 12 y)) k]
      have z : (Q k && decide (pcs 12 k = pcs 12 y)) = false := by
        cases hq : Q k
        · rfl
        · by_cases q : pcs 12 k = pcs 12 y
          · exact nk _ hq (by omega)
          · rw [decide_eq_false q]; rfl
      rw [z]
      show _ = ((0 + _ : Nat) : Int)
      rw [Nat.zero_add]
theorem CI_new {Q : Nat → Bool} {d k : Nat} {m w f : Int} (hk : k < 2 ^ d) (h : CI Q d (k + 1) m w f) (hq : Q k = true) (hm : (pcs 12 k : Int) < m) : CI Q d k (pcs 12 k : Int) 1 (k : Int) := by
  have lt : ∀ g, k ≤ g → g = k ∨ k + 1 ≤ g := fun g hg => by omega
  have all : ∀ g, k + 1 ≤ g → g < 2 ^ d → Q g = true → pcs 12 k < pcs 12 g := by
    intro g h1 h2 h3
    rcases h with ⟨a, b, c⟩ | ⟨y, a1, a2, b, c, e, f1, f2, g1⟩
    · rw [c g h1 h2] at h3; exact absurd h3 (by decide)
    · have := f1 g h1 h2 h3
      omega
  refine Or.inr ⟨k, Nat.le_refl _, hk, rfl, hq, rfl, fun g h1 h2 h3 => ?_, fun g h1 h2 h3 h4 => ?_, ?_⟩
  · rcases lt g h1 with w1 | w1
    · rw [w1]; exact Nat.le_refl _
    · have := all g w1 h2 h3; omega
  · rcases lt g h1 with w1 | w1
    · omega
    · have := all g w1 h2 h3; omega
  · rw [show 2 ^ d - k = (2 ^ d - (k + 1)) + 1 by omega, cnt_front (fun x => Q x && decide (pcs 12 x = pcs 12 k)) k, hq, decide_eq_true rfl, cnt_zero _ (fun i hi => ?_)]
    · rfl
    · cases q : Q (k + 1 + i)
      · rfl
      · have := all (k + 1 + i) (by omega) (by omega) q
        rw [decide_eq_false (by omega)]; rfl
theorem CI_more {Q : Nat → Bool} {d k : Nat} {m w f : Int} (hk : k < 2 ^ d) (h : CI Q d (k + 1) m w f) (hq : Q k = true) (hm : (pcs 12 k : Int) = m) (hd : d ≤ 12) : CI Q d k m (w + 1) f := by
  have lt : ∀ g, k ≤ g → g = k ∨ k + 1 ≤ g := fun g hg => by omega
  have pl := pc_le hk hd
  rcases h with ⟨a, b, c⟩ | ⟨y, a1, a2, b, c, e, f1, f2, g1⟩
  · omega
  · have ep : pcs 12 k = pcs 12 y := by omega
    refine Or.inr ⟨y, by omega, a2, b, c, e, fun g h1 h2 h3 => ?_, fun g h1 h2 h3 h4 => ?_, ?_⟩
    · rcases lt g h1 with w1 | w1
      · rw [w1]; omega
      · exact f1 g w1 h2 h3
    · rcases lt g h1 with w1 | w1
      · omega
      · exact f2 g w1 h2 h3 h4
    · rw [g1, show 2 ^ d - k = (2 ^ d - (k + 1)) + 1 by omega, cnt_front (fun x => Q x && decide (pcs 12 x = pcs 12 y)) k, hq, decide_eq_true ep]
      show _ = ((1 + _ : Nat) : Int)
      omega
/-- both find the same -/
theorem CI_RI {E : Nat → Bool} {d : Nat} {m w f : Int} (hd : d ≤ 12) (h : CI (fun g => E (rvb d g)) d 0 m w f) : ((rf E d (2 ^ d)).1 = -1 ∧ w = 0) ∨ (∃ y : Nat, y < 2 ^ d ∧ (rf E d (2 ^ d)).1 = (y : Int) ∧ m = (pcs 12 y : Int) ∧ w = (rf E d (2 ^ d)).2 + 1 ∧ 0 < w ∧ f = (rvb d y : Int)) := by
  have r := RI_all (E := E) (d := d) (2 ^ d)
  revert r
  generalize rf E d (2 ^ d) = q
  intro r
  rcases r with ⟨a, b, c⟩ | ⟨y, a, b, c, e, f1, g⟩
  · refine Or.inl ⟨a, ?_⟩
    rcases h with ⟨_, b', _⟩ | ⟨z, z1, z2, z3, z4, _⟩
    · exact b'
    · have := c (rvb d z) (rv_lt z d)
      have z4' : E (rvb d z) = true := z4
      rw [this] at z4'; exact absurd z4' (by decide)
  · refine Or.inr ⟨y, a, b, ?_⟩
    have ey : E (rvb d (rvb d y)) = true := by rw [rv_rv a]; exact c
    rcases h with ⟨_, _, c'⟩ | ⟨z, z1, z2, z3, z4, z5, z6, z7, z8⟩
    · have := c' (rvb d y) (by omega) (rv_lt y d)
      have this' : E (rvb d (rvb d y)) = false := this
      rw [this'] at ey; exact absurd ey (by decide)
    · have p1 := z6 (rvb d y) (by omega) (rv_lt y d) ey
      rw [pc_rv a hd] at p1
      have p2 := e (rvb d z) (rv_lt z d) z4
      rw [pc_rv z2 hd] at p2
      have pe : pcs 12 z = pcs 12 y := by omega
      have p3 := z7 (rvb d y) (by omega) (rv_lt y d) ey (by rw [pc_rv a hd]; omega)
      have p4 := f1 (rvb d z) (rv_lt z d) z4 (by rw [pc_rv z2 hd]; exact pe)
      rw [rv_rv z2] at p4
      have zy : z = rvb d y := by omega
      have cc : cnt (fun i => E (rvb d (0 + i)) && decide (pcs 12 (0 + i) = pcs 12 z)) (2 ^ d - 0) = cnt (fun x => E x && decide (pcs 12 x = pcs 12 y)) (2 ^ d) := by
        rw [← cnt_rv d (fun x => E x && decide (pcs 12 x = pcs 12 y)), Nat.sub_zero]
        refine cnt_cong _ (fun i hi => ?_)
        show (E (rvb d (0 + i)) && decide (pcs 12 (0 + i) = pcs 12 z)) = (E (rvb d i) && decide (pcs 12 (rvb d i) = pcs 12 y))
        rw [Nat.zero_add, pc_rv hi hd, pe]
      have z8' : w = ((cnt (fun i => E (rvb d (0 + i)) && decide (pcs 12 (0 + i) = pcs 12 z)) (2 ^ d - 0) : Nat) : Int) := z8
      rw [cc] at z8'
      refine ⟨by rw [z5, pe], by omega, ?_, by rw [z3, zy]⟩
      -- one at least
      have pos : ∀ (P : Nat → Bool) (k i : Nat), i < k → P i = true → 0 < cnt P k := by
        intro P k
        induction k with
        | zero => intro i hi _; omega
        | succ k ih =>
          intro i hi hp
          show 0 < cnt P k + (P k).toNat
          by_cases w1 : i = k
          · rw [← w1, hp]
            show 0 < _ + 1
            omega
          · have := ih i (by omega) hp
            omega
      have := pos (fun x => E x && decide (pcs 12 x = pcs 12 y)) (2 ^ d) y a (by show (E y && decide (pcs 12 y = pcs 12 y)) = true; rw [c, decide_eq_true rfl]; rfl)
      omega
