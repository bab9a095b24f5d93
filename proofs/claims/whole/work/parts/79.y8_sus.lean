/-! PURE 46: suspects: what is asked -/
def St.iO (S : St) (c i p : Int) : Int := S.ord c p * 40 + dg (S.rM i) (S.terms (S.crule c) - 2 - p)
/-- a report has a mark -/
def St.hid (S : St) (c i id : Int) : Prop := ∃ p, 0 ≤ p ∧ p < S.terms (S.crule c) - 1 ∧ S.iO c i p = id
def St.isB (S : St) (c bd i : Int) : Prop := S.rC i = c ∧ S.bad bd i = 1
def St.isG (S : St) (c bd i : Int) : Prop := S.rC i = c ∧ S.bad bd i = 0
def St.inB (S : St) (c bd : Int) (k : Int) (id : Int) : Prop := ∃ i, (0 ≤ i ∧ i < k) ∧ S.isB c bd i ∧ S.hid c i id
def St.inG (S : St) (c bd : Int) (k : Int) (id : Int) : Prop := ∃ i, (0 ≤ i ∧ i < k) ∧ S.isG c bd i ∧ S.hid c i id
def St.sus (S : St) (c bd id : Int) : Prop := S.inB c bd S.reps id ∧ ¬ S.inG c bd S.reps id
/-- the candidates below k -/
noncomputable def St.cf (S : St) (c bd : Int) : Nat → Int × (Int → Int)
  | 0 => (0, fun _ => 0)
  | k + 1 => @ite _ (S.sus c bd k) (Classical.propDecidable _) ((St.cf S c bd k).1 + 1, fup (St.cf S c bd k).2 (St.cf S c bd k).1 k) (St.cf S c bd k)
noncomputable def St.cN (S : St) (c bd : Int) : Int := (S.cf c bd 200).1
noncomputable def St.cD (S : St) (c bd j : Int) : Int := (S.cf c bd 200).2 j
def St.exP (S : St) (c bd : Int) (x : Nat) : Prop := ∀ i, 0 ≤ i → i < S.reps → S.isB c bd i → ∃ j : Nat, (j : Int) < S.cN c bd ∧ x.testBit j = true ∧ S.hid c i (S.cD c bd j)
noncomputable def St.exE (S : St) (c bd : Int) (x : Nat) : Bool := @decide (S.exP c bd x) (Classical.propDecidable _)
noncomputable def St.hp (S : St) (c bd : Int) : Int × Int := rf (S.exE c bd) (S.cN c bd).toNat (2 ^ (S.cN c bd).toNat)
def sfq (y : Nat) (D : Int → Int) : Nat → Nat → Int → Int
  | 0, _, _ => -1
  | k + 1, i, r => if y.testBit i = true then (if r = 0 then D i / 40 * 100 + D i % 40 else sfq y D k (i + 1) (r - 1)) else sfq y D k (i + 1) r
noncomputable def rSus (c bd w : Int) (S : St) : Int := if (0 ≤ c ∧ c < S.charts) ∧ (0 ≤ bd ∧ bd ≤ 20) ∧ 0 ≤ w then (if 12 < S.cN c bd then -1 else if (S.hp c bd).1 = -1 then -1 else if w = 0 then (pcs 12 (S.hp c bd).1.toNat : Int) else if w = 1 then (S.hp c bd).2 else sfq (S.hp c bd).1.toNat (S.cD c bd) (S.cN c bd).toNat 0 (w - 2)) else -1
theorem cf_s1 {S : St} {c bd : Int} {k : Nat} (h : S.sus c bd k) : S.cf c bd (k + 1) = ((S.cf c bd k).1 + 1, fup (S.cf c bd k).2 (S.cf c bd k).1 k) := if_pos h
theorem cf_s0 {S : St} {c bd : Int} {k : Nat} (h : ¬ S.sus c bd k) : S.cf c bd (k + 1) = S.cf c bd k := if_neg h
theorem cf_ok {S : St} {c bd : Int} : ∀ k : Nat, (0 ≤ (S.cf c bd k).1 ∧ (S.cf c bd k).1 ≤ k) ∧ (∀ j, 0 ≤ j → j < (S.cf c bd k).1 → 0 ≤ (S.cf c bd k).2 j ∧ (S.cf c bd k).2 j < k) ∧ (∀ i j, 0 ≤ i → i < j → j < (S.cf c bd k).1 → (S.cf c bd k).2 i < (S.cf c bd k).2 j) := by
  intro k
  induction k with
  | zero => exact ⟨⟨Int.le_refl _, Int.le_refl _⟩, fun j h1 h2 => by have h3 : j < 0 := h2; omega, fun i j h1 h2 h3 => by have h4 : j < 0 := h3; omega⟩
  | succ k ih =>
    obtain ⟨a, b, d⟩ := ih
    by_cases h : S.sus c bd k
    · rw [cf_s1 h]
      refine ⟨⟨by show 0 ≤ (S.cf c bd k).1 + 1; omega, by show (S.cf c bd k).1 + 1 ≤ _; omega⟩, fun j h1 h2 => ?_, fun i j h1 h2 h3 => ?_⟩
      · have h2' : j < (S.cf c bd k).1 + 1 := h2
        show 0 ≤ fup _ _ _ j ∧ fup _ _ _ j < _
        by_cases e : j = (S.cf c bd k).1
        · rw [e, fup_at]; omega
        · rw [fup_ne e]
          have := b j h1 (by omega)
          omega
      · have h3' : j < (S.cf c bd k).1 + 1 := h3
        show fup _ _ _ i < fup _ _ _ j
        rw [fup_ne (by omega)]
        by_cases e : j = (S.cf c bd k).1
        · rw [e, fup_at]
          exact (b i h1 (by omega)).2
        · rw [fup_ne e]
          exact d i j h1 h2 (by omega)
    · rw [cf_s0 h]
      exact ⟨by omega, fun j h1 h2 => by have := b j h1 h2; omega, d⟩
theorem cf_mono {S : St} {c bd : Int} {k : Nat} : ∀ m : Nat, (S.cf c bd k).1 ≤ (S.cf c bd (k + m)).1 := by
  intro m
  induction m with
  | zero => exact Int.le_refl _
  | succ m ih =>
    by_cases h : S.sus c bd ((k + m : Nat) : Int)
    · rw [show k + (m + 1) = (k + m) + 1 by omega, cf_s1 h]
      show _ ≤ (S.cf c bd (k + m)).1 + 1
      omega
    · rw [show k + (m + 1) = (k + m) + 1 by omega, cf_s0 h]
      exact ih
theorem cf_same {S : St} {c bd : Int} {k : Nat} : ∀ m : Nat, (∀ j : Nat, k ≤ j → j < k + m → ¬ S.sus c bd j) → S.cf c bd (k + m) = S.cf c bd k := by
  intro m
  induction m with
  | zero => intro _; rfl
  | succ m ih =>
    intro h
    rw [show k + (m + 1) = (k + m) + 1 by omega, cf_s0 (h (k + m) (by omega) (by omega))]
    exact ih (fun j h1 h2 => h j h1 (by omega))
theorem ex_succ {P : Int → Prop} {k : Nat} : (∃ i, (0 ≤ i ∧ i < ((k + 1 : Nat) : Int)) ∧ P i) ↔ (∃ i, (0 ≤ i ∧ i < (k : Int)) ∧ P i) ∨ P k := by
  refine ⟨fun ⟨i, h, p⟩ => ?_, fun h => ?_⟩
  · by_cases e : i = k
    · right; rw [← e]; exact p
    · exact Or.inl ⟨i, by omega, p⟩
  · rcases h with ⟨i, h, p⟩ | p
    · exact ⟨i, by omega, p⟩
    · exact ⟨k, by omega, p⟩
/-! the class's notes: where a mark was seen -/
noncomputable def St.sp (S : St) (c i bad : Int) (old : Int → Int) : Nat → Int → Int
  | 0 => old
  | p + 1 => fup (St.sp S c i bad old p) (S.iO c i p) (if bad = 0 then 2 else if St.sp S c i bad old p (S.iO c i p) < 1 then 1 else St.sp S c i bad old p (S.iO c i p))
noncomputable def St.sn (S : St) (c bd : Int) : Nat → Int → Int
  | 0 => fun _ => 0
  | k + 1 => if S.rC k = c ∧ S.due k ≠ -1 then S.sp c k (if S.bad bd k = 1 then 1 else 0) (St.sn S c bd k) (S.terms (S.crule c) - 1).toNat else St.sn S c bd k
noncomputable def St.bf (S : St) (c bd : Int) : Nat → Int × (Int → Int)
  | 0 => (0, fun _ => 0)
  | k + 1 => if S.rC k = c ∧ S.bad bd k = 1 then ((St.bf S c bd k).1 + 1, fup (St.bf S c bd k).2 (St.bf S c bd k).1 k) else St.bf S c bd k
theorem sp_is {S : St} {c i bad : Int} {old : Int → Int} : ∀ (p : Nat) (id : Int), ((∃ q, (0 ≤ q ∧ q < (p : Int)) ∧ S.iO c i q = id) → S.sp c i bad old p id = (if bad = 0 then 2 else if old id < 1 then 1 else old id)) ∧ ((¬ ∃ q, (0 ≤ q ∧ q < (p : Int)) ∧ S.iO c i q = id) → S.sp c i bad old p id = old id) := by
  intro p
  induction p with
  | zero => exact fun id => ⟨fun ⟨q, h, _⟩ => by omega, fun _ => rfl⟩
  | succ p ih =>
    intro id
    obtain ⟨a, b⟩ := ih id
    have u : S.sp c i bad old (p + 1) id = if id = S.iO c i p then (if bad = 0 then 2 else if S.sp c i bad old p (S.iO c i p) < 1 then 1 else S.sp c i bad old p (S.iO c i p)) else S.sp c i bad old p id := rfl
    rw [u, ex_succ]
    by_cases e : id = S.iO c i p
    · rw [if_pos e, ← e]
      refine ⟨fun _ => ?_, fun w => (w (Or.inr rfl)).elim⟩
      by_cases q : ∃ q, (0 ≤ q ∧ q < (p : Int)) ∧ S.iO c i q = id
      · rw [a q]
        by_cases b0 : bad = 0
        · rw [if_pos b0, if_pos b0]
        · simp only [if_neg b0]
          by_cases o : old id < 1
          · simp only [if_pos o]
            rw [if_neg (by omega)]
          · simp only [if_neg o]
      · rw [b q]
    · rw [if_neg e]
      exact ⟨fun w => a (w.resolve_right (fun w' => e w'.symm)), fun w => b (fun w' => w (Or.inl w'))⟩
theorem bad3 (S : St) (bd i : Int) : (S.due i = -1 ∧ S.bad bd i = -1) ∨ (S.due i ≠ -1 ∧ (S.bad bd i = 0 ∨ S.bad bd i = 1)) := by
  unfold St.bad
  by_cases h : S.due i = -1
  · exact Or.inl ⟨h, if_pos h⟩
  · refine Or.inr ⟨h, ?_⟩
    rw [if_neg h]
    split
    · exact Or.inr rfl
    · exact Or.inl rfl
theorem sn_is {S : St} {c bd : Int} (ht : 3 ≤ S.terms (S.crule c)) : ∀ (k : Nat) (id : Int), (S.inG c bd k id → S.sn c bd k id = 2) ∧ (¬ S.inG c bd k id → S.inB c bd k id → S.sn c bd k id = 1) ∧ (¬ S.inG c bd k id → ¬ S.inB c bd k id → S.sn c bd k id = 0) := by
  intro k
  induction k with
  | zero => exact fun id => ⟨fun ⟨q, h, _⟩ => by omega, fun _ ⟨q, h, _⟩ => by omega, fun _ _ => rfl⟩
  | succ k ih =>
    intro id
    obtain ⟨a1, a2, a3⟩ := ih id
    have u : S.sn c bd (k + 1) id = if S.rC k = c ∧ S.due k ≠ -1 then S.sp c k (if S.bad bd k = 1 then 1 else 0) (S.sn c bd k) (S.terms (S.crule c) - 1).toNat id else S.sn c bd k id := by
      show (if S.rC k = c ∧ S.due k ≠ -1 then S.sp c k (if S.bad bd k = 1 then 1 else 0) (S.sn c bd k) (S.terms (S.crule c) - 1).toNat else S.sn c bd k) id = _
      split <;> rfl
    have gi : S.inG c bd ((k + 1 : Nat) : Int) id ↔ S.inG c bd k id ∨ (S.isG c bd k ∧ S.hid c k id) := ex_succ
    have bi : S.inB c bd ((k + 1 : Nat) : Int) id ↔ S.inB c bd k id ∨ (S.isB c bd k ∧ S.hid c k id) := ex_succ
    have hh : S.hid c k id ↔ ∃ q, (0 ≤ q ∧ q < (((S.terms (S.crule c) - 1).toNat : Nat) : Int)) ∧ S.iO c k q = id := ⟨fun ⟨q, h1, h2, h3⟩ => ⟨q, by omega, h3⟩, fun ⟨q, h1, h2⟩ => ⟨q, by omega, by omega, h2⟩⟩
    rw [u, gi, bi]
    by_cases q : S.rC k = c ∧ S.due k ≠ -1
    · rw [if_pos q]
      have sp := sp_is (S := S) (c := c) (i := k) (bad := if S.bad bd k = 1 then 1 else 0) (old := S.sn c bd k) (S.terms (S.crule c) - 1).toNat id
      rw [← hh] at sp
      rcases bad3 S bd k with w | ⟨_, w | w⟩
      · exact (q.2 w.1).elim
      · rw [if_neg (by omega), if_pos rfl] at sp
        have nb : ¬ S.isB c bd k := fun z => by have := z.2; omega
        have ng : S.isG c bd k := ⟨q.1, w⟩
        by_cases hk : S.hid c k id
        · rw [if_neg (by omega), sp.1 hk]
          exact ⟨fun _ => rfl, fun z => (z (Or.inr ⟨ng, hk⟩)).elim, fun z => (z (Or.inr ⟨ng, hk⟩)).elim⟩
        · rw [if_neg (by omega), sp.2 hk]
          exact ⟨fun z => a1 (z.resolve_right (fun z' => hk z'.2)), fun z1 z2 => a2 (fun z => z1 (Or.inl z)) (z2.resolve_right (fun z' => hk z'.2)), fun z1 z2 => a3 (fun z => z1 (Or.inl z)) (fun z => z2 (Or.inl z))⟩
      · rw [if_pos w, if_neg (by decide)] at sp
        have nb : S.isB c bd k := ⟨q.1, w⟩
        have ng : ¬ S.isG c bd k := fun z => by have := z.2; omega
        by_cases hk : S.hid c k id
        · rw [if_pos w, sp.1 hk]
          refine ⟨fun z => ?_, fun z1 z2 => ?_, fun z1 z2 => (z2 (Or.inr ⟨nb, hk⟩)).elim⟩
          · rw [a1 (z.resolve_right (fun z' => ng z'.1))]; rfl
          · by_cases z3 : S.inB c bd k id
            · rw [a2 (fun z => z1 (Or.inl z)) z3]; rfl
            · rw [a3 (fun z => z1 (Or.inl z)) z3]; rfl
        · rw [if_pos w, sp.2 hk]
          exact ⟨fun z => a1 (z.resolve_right (fun z' => hk z'.2)), fun z1 z2 => a2 (fun z => z1 (Or.inl z)) (z2.resolve_right (fun z' => hk z'.2)), fun z1 z2 => a3 (fun z => z1 (Or.inl z)) (fun z => z2 (Or.inl z))⟩
    · rw [if_neg q]
      have nb : ¬ S.isB c bd k := fun z => q ⟨z.1, fun z' => by
        rcases bad3 S bd k with w | w
        · have := z.2; omega
        · exact w.1 z'⟩
      have ng : ¬ S.isG c bd k := fun z => q ⟨z.1, fun z' => by
        rcases bad3 S bd k with w | w
        · have := z.2; omega
        · exact w.1 z'⟩
      exact ⟨fun z => a1 (z.resolve_right (fun z' => ng z'.1)), fun z1 z2 => a2 (fun z => z1 (Or.inl z)) (z2.resolve_right (fun z' => nb z'.1)), fun z1 z2 => a3 (fun z => z1 (Or.inl z)) (fun z => z2 (Or.inl z))⟩
theorem sn_sus {S : St} {c bd : Int} (ht : 3 ≤ S.terms (S.crule c)) (hr : 0 ≤ S.reps) (id : Int) : S.sn c bd S.reps.toNat id = 1 ↔ S.sus c bd id := by
  obtain ⟨a1, a2, a3⟩ := sn_is (S := S) (c := c) (bd := bd) ht S.reps.toNat id
  rw [show ((S.reps.toNat : Nat) : Int) = S.reps by omega] at a1 a2 a3
  unfold St.sus
  by_cases g : S.inG c bd S.reps id
  · rw [a1 g]
    exact ⟨fun w => by omega, fun w => (w.2 g).elim⟩
  · by_cases b : S.inB c bd S.reps id
    · rw [a2 g b]
      exact ⟨fun _ => ⟨b, g⟩, fun _ => rfl⟩
    · rw [a3 g b]
      exact ⟨fun w => by omega, fun w => (b w.1).elim⟩
theorem bf_s1 {S : St} {c bd : Int} {k : Nat} (h : S.isB c bd k) : S.bf c bd (k + 1) = ((S.bf c bd k).1 + 1, fup (S.bf c bd k).2 (S.bf c bd k).1 k) := if_pos h
theorem bf_s0 {S : St} {c bd : Int} {k : Nat} (h : ¬ S.isB c bd k) : S.bf c bd (k + 1) = S.bf c bd k := if_neg h
theorem bf_ok {S : St} {c bd : Int} : ∀ k : Nat, (0 ≤ (S.bf c bd k).1 ∧ (S.bf c bd k).1 ≤ k) ∧ (∀ b, 0 ≤ b → b < (S.bf c bd k).1 → (0 ≤ (S.bf c bd k).2 b ∧ (S.bf c bd k).2 b < k) ∧ S.isB c bd ((S.bf c bd k).2 b)) ∧ (∀ i, 0 ≤ i → i < k → S.isB c bd i → ∃ b, (0 ≤ b ∧ b < (S.bf c bd k).1) ∧ (S.bf c bd k).2 b = i) := by
  intro k
  induction k with
  | zero => exact ⟨⟨Int.le_refl _, Int.le_refl _⟩, fun j h1 h2 => by have h3 : j < 0 := h2; omega, fun i h1 h2 => by omega⟩
  | succ k ih =>
    obtain ⟨a, b, d⟩ := ih
    by_cases h : S.isB c bd k
    · rw [bf_s1 h]
      refine ⟨⟨by show 0 ≤ (S.bf c bd k).1 + 1; omega, by show (S.bf c bd k).1 + 1 ≤ _; omega⟩, fun j h1 h2 => ?_, fun i h1 h2 h3 => ?_⟩
      · have h2' : j < (S.bf c bd k).1 + 1 := h2
        show (0 ≤ fup _ _ _ j ∧ fup _ _ _ j < _) ∧ S.isB c bd (fup _ _ _ j)
        by_cases e : j = (S.bf c bd k).1
        · rw [e, fup_at]; exact ⟨by omega, h⟩
        · rw [fup_ne e]
          have := b j h1 (by omega)
          exact ⟨by omega, this.2⟩
      · by_cases e : i = k
        · exact ⟨(S.bf c bd k).1, ⟨by omega, by show _ < (S.bf c bd k).1 + 1; omega⟩, by rw [e]; exact fup_at⟩
        · obtain ⟨b', w1, w2⟩ := d i h1 (by omega) h3
          exact ⟨b', ⟨by omega, by show _ < (S.bf c bd k).1 + 1; omega⟩, by show fup _ _ _ b' = i; rw [fup_ne (by omega)]; exact w2⟩
    · rw [bf_s0 h]
      refine ⟨by omega, fun j h1 h2 => ?_, fun i h1 h2 h3 => ?_⟩
      · have := b j h1 h2
        exact ⟨by omega, this.2⟩
      · by_cases e : i = k
        · rw [e] at h3; exact (h h3).elim
        · exact d i h1 (by omega) h3
