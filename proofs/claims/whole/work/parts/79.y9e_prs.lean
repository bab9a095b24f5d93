/-! PURE 52: texts: what a reading from left to right gives -/
abbrev PS : Type := Int × Int × Int × Int × (Int → Int) × (Int → Int) × (Int → Int)
def PS.st (σ : PS) : Int := σ.1
def PS.sg (σ : PS) : Int := σ.2.1
def PS.tm (σ : PS) : Int := σ.2.2.1
def PS.cn (σ : PS) : Int := σ.2.2.2.1
def PS.lt (σ : PS) : Int → Int := σ.2.2.2.2.1
def PS.kd (σ : PS) : Int → Int := σ.2.2.2.2.2.1
def PS.sn (σ : PS) : Int → Int := σ.2.2.2.2.2.2
def PS.go (σ : PS) (sg st : Int) : PS := (st, sg, σ.tm, σ.cn, σ.lt, σ.kd, σ.sn)
def PS.num (σ : PS) (v : Int) : PS := (7, σ.sg, σ.tm, σ.cn + σ.sg * v, σ.lt, σ.kd, σ.sn)
noncomputable def PS.ltr (σ : PS) (c kind nst : Int) : PS := @ite _ ((97 ≤ c ∧ c ≤ 122) ∧ σ.tm < 5 ∧ ¬ isIn σ.lt σ.tm c) (Classical.propDecidable _) (nst, σ.sg, σ.tm + 1, σ.cn, fup σ.lt σ.tm c, fup σ.kd σ.tm kind, fup σ.sn σ.tm σ.sg) (σ.go 0 (-1))
noncomputable def PS.bgn (σ : PS) (c : Int) : PS := if σ.tm < 5 then (if c ≠ 47 then σ.ltr c 0 5 else σ.go σ.sg 4) else σ.go 0 (-1)
def PS.flw (σ : PS) (c : Int) : PS := if σ.tm ≠ 1 then (if c ≠ 43 then (if c ≠ 45 then (if c ≠ 59 then σ.go 0 (-1) else if σ.tm < 3 then σ.go 0 (-1) else σ.go 1 8) else σ.go (-1) 3) else σ.go 1 3) else (if c ≠ 61 then σ.go 0 (-1) else σ.go 1 1)
def PS.sqr (σ : PS) (c : Int) : PS := if c ≠ σ.lt (σ.tm - 1) ∨ σ.tm < 1 ∨ 5 < σ.tm then σ.go 0 (-1) else (7, σ.sg, σ.tm, σ.cn, σ.lt, fup σ.kd (σ.tm - 1) 1, σ.sn)
noncomputable def PS.tks (σ : PS) (c : Int) : PS := if σ.st = 0 then σ.bgn c else if σ.st = 1 then (if c ≠ 45 then σ.bgn c else σ.go (-1) 2) else if σ.st = 2 then σ.bgn c else if σ.st = 3 then σ.bgn c else if σ.st = 4 then σ.ltr c 2 7 else if σ.st = 5 then (if c ≠ 42 then σ.flw c else σ.go σ.sg 6) else if σ.st = 6 then σ.sqr c else if σ.st = 7 then σ.flw c else σ.go 0 (-1)
def PS.cl (σ : PS) (ns v : Int) : PS := if ns = -1 then σ else σ.num v
def ub (b : Int) : Int := if b < 0 then b + 256 else b
noncomputable def prs (T : Int → Int) : Nat → Int → PS → Int → Int → Int ⊕ PS
  | 0, p, σ, _, _ => if σ.st = 8 then Sum.inr σ else Sum.inl p
  | k + 1, p, σ, ns, v => if 48 ≤ T p ∧ T p ≤ 57 then (if ns ≠ -1 then (if v * 10 + (T p - 48) ≤ 9999 then prs T k (p + 1) σ ns (v * 10 + (T p - 48)) else Sum.inl ns) else if σ.st = 3 then prs T k (p + 1) σ p (T p - 48) else Sum.inl p) else if T p = 32 then prs T k (p + 1) (σ.cl ns v) (-1) 0 else if ((σ.cl ns v).tks (ub (T p))).st = -1 then Sum.inl p else prs T k (p + 1) ((σ.cl ns v).tks (ub (T p))) (-1) 0
/-- a state of the reading is as it must be -/
def PI (σ : PS) : Prop := (0 ≤ σ.st ∧ σ.st ≤ 8) ∧ (σ.sg = 1 ∨ σ.sg = -1) ∧ (0 ≤ σ.tm ∧ σ.tm ≤ 5) ∧ (∀ k, 0 ≤ k → k < σ.tm → 97 ≤ σ.lt k ∧ σ.lt k ≤ 122) ∧ (∀ k, 0 ≤ k → k < σ.tm → 0 ≤ σ.kd k ∧ σ.kd k ≤ 2) ∧ (∀ k, 0 ≤ k → k < σ.tm → σ.sn k = 1 ∨ σ.sn k = -1) ∧ ((σ.st = 5 ∨ σ.st = 6) → 1 ≤ σ.tm) ∧ (σ.st = 8 → 3 ≤ σ.tm)
theorem PI.st {σ : PS} (x__ : PI σ) : 0 ≤ σ.st ∧ σ.st ≤ 8 := x__.1
theorem PI.sg {σ : PS} (x__ : PI σ) : σ.sg = 1 ∨ σ.sg = -1 := x__.2.1
theorem PI.tm {σ : PS} (x__ : PI σ) : 0 ≤ σ.tm ∧ σ.tm ≤ 5 := x__.2.2.1
theorem PI.lt {σ : PS} (x__ : PI σ) : ∀ k, 0 ≤ k → k < σ.tm → 97 ≤ σ.lt k ∧ σ.lt k ≤ 122 := x__.2.2.2.1
theorem PI.kd {σ : PS} (x__ : PI σ) : ∀ k, 0 ≤ k → k < σ.tm → 0 ≤ σ.kd k ∧ σ.kd k ≤ 2 := x__.2.2.2.2.1
theorem PI.sn {σ : PS} (x__ : PI σ) : ∀ k, 0 ≤ k → k < σ.tm → σ.sn k = 1 ∨ σ.sn k = -1 := x__.2.2.2.2.2.1
theorem PI.s56 {σ : PS} (x__ : PI σ) : (σ.st = 5 ∨ σ.st = 6) → 1 ≤ σ.tm := x__.2.2.2.2.2.2.1
theorem PI.s8 {σ : PS} (x__ : PI σ) : σ.st = 8 → 3 ≤ σ.tm := x__.2.2.2.2.2.2.2
theorem PI.mk' {σ : PS} (st__ : 0 ≤ σ.st ∧ σ.st ≤ 8) (sg__ : σ.sg = 1 ∨ σ.sg = -1) (tm__ : 0 ≤ σ.tm ∧ σ.tm ≤ 5) (lt__ : ∀ k, 0 ≤ k → k < σ.tm → 97 ≤ σ.lt k ∧ σ.lt k ≤ 122) (kd__ : ∀ k, 0 ≤ k → k < σ.tm → 0 ≤ σ.kd k ∧ σ.kd k ≤ 2) (sn__ : ∀ k, 0 ≤ k → k < σ.tm → σ.sn k = 1 ∨ σ.sn k = -1) (s56__ : (σ.st = 5 ∨ σ.st = 6) → 1 ≤ σ.tm) (s8__ : σ.st = 8 → 3 ≤ σ.tm) : PI σ := ⟨st__, sg__, tm__, lt__, kd__, sn__, s56__, s8__⟩
theorem PI.go {σ : PS} (p : PI σ) {sg st : Int} (h1 : sg = 1 ∨ sg = -1) (h2 : 0 ≤ st ∧ st ≤ 8) (h3 : (st = 5 ∨ st = 6) → 1 ≤ σ.tm) (h4 : st = 8 → 3 ≤ σ.tm) : PI (σ.go sg st) := ⟨h2, h1, p.tm, p.lt, p.kd, p.sn, h3, h4⟩
theorem PI.num {σ : PS} (p : PI σ) (v : Int) : PI (σ.num v) := ⟨by show (0 : Int) ≤ 7 ∧ (7 : Int) ≤ 8; omega, p.sg, p.tm, p.lt, p.kd, p.sn, fun w => by rcases w with w | w <;> exact absurd w (by show ¬ (7 : Int) = _; decide), fun w => absurd w (by show ¬ (7 : Int) = _; decide)⟩
theorem ltr_yes {σ : PS} {c kind nst : Int} (h1 : 97 ≤ c ∧ c ≤ 122) (h2 : σ.tm < 5) (h3 : ¬ isIn σ.lt σ.tm c) : σ.ltr c kind nst = (nst, σ.sg, σ.tm + 1, σ.cn, fup σ.lt σ.tm c, fup σ.kd σ.tm kind, fup σ.sn σ.tm σ.sg) := if_pos ⟨h1, h2, h3⟩
theorem ltr_no {σ : PS} {c kind nst : Int} (h : ¬ ((97 ≤ c ∧ c ≤ 122) ∧ σ.tm < 5 ∧ ¬ isIn σ.lt σ.tm c)) : σ.ltr c kind nst = σ.go 0 (-1) := if_neg h
theorem PI.ltr {σ : PS} (p : PI σ) {c kind nst : Int} (hk : 0 ≤ kind ∧ kind ≤ 2) (hn : nst = 5 ∨ nst = 7) (h : (σ.ltr c kind nst).st ≠ -1) : PI (σ.ltr c kind nst) ∧ (σ.ltr c kind nst).cn = σ.cn := by
  by_cases q : (97 ≤ c ∧ c ≤ 122) ∧ σ.tm < 5 ∧ ¬ isIn σ.lt σ.tm c
  · rw [ltr_yes q.1 q.2.1 q.2.2]
    have tm := p.tm
    have u : ∀ (f : Int → Int) (x k : Int) (P : Int → Prop), (k < σ.tm → P (f k)) → P x → k < σ.tm + 1 → P (fup f σ.tm x k) := by
      intro f x k P h1 h2 h3
      by_cases e : k = σ.tm
      · rw [e, fup_at]; exact h2
      · rw [fup_ne e]; exact h1 (by omega)
    refine ⟨⟨?_, p.sg, ?_, ?_, ?_, ?_, ?_, ?_⟩, rfl⟩
    · show 0 ≤ nst ∧ nst ≤ 8; omega
    · show 0 ≤ σ.tm + 1 ∧ σ.tm + 1 ≤ 5; omega
    · exact fun k k0 k1 => u σ.lt c k (fun z => 97 ≤ z ∧ z ≤ 122) (p.lt k k0) q.1 k1
    · exact fun k k0 k1 => u σ.kd kind k (fun z => 0 ≤ z ∧ z ≤ 2) (p.kd k k0) hk k1
    · exact fun k k0 k1 => u σ.sn σ.sg k (fun z => z = 1 ∨ z = -1) (p.sn k k0) p.sg k1
    · intro _; show 1 ≤ σ.tm + 1; omega
    · intro w
      have w' : nst = 8 := w
      omega
  · rw [ltr_no q] at h
    exact (h rfl).elim
theorem PI.bgn {σ : PS} (p : PI σ) {c : Int} (h : (σ.bgn c).st ≠ -1) : PI (σ.bgn c) ∧ (σ.bgn c).cn = σ.cn := by
  unfold PS.bgn at h ⊢
  by_cases q : σ.tm < 5
  · rw [if_pos q] at h ⊢
    by_cases q2 : c ≠ 47
    · rw [if_pos q2] at h ⊢
      exact p.ltr (by omega) (Or.inl rfl) h
    · rw [if_neg q2]
      exact ⟨p.go p.sg (by omega) (by omega) (by omega), rfl⟩
  · rw [if_neg q] at h
    exact (h rfl).elim
theorem PI.flw {σ : PS} (p : PI σ) {c : Int} (h : (σ.flw c).st ≠ -1) : PI (σ.flw c) ∧ (σ.flw c).cn = σ.cn := by
  unfold PS.flw at h ⊢
  by_cases q : σ.tm ≠ 1
  · rw [if_pos q] at h ⊢
    by_cases q2 : c ≠ 43
    · rw [if_pos q2] at h ⊢
      by_cases q3 : c ≠ 45
      · rw [if_pos q3] at h ⊢
        by_cases q4 : c ≠ 59
        · rw [if_pos q4] at h
          exact (h rfl).elim
        · rw [if_neg q4] at h ⊢
          by_cases q5 : σ.tm < 3
          · rw [if_pos q5] at h
            exact (h rfl).elim
          · rw [if_neg q5]
            exact ⟨p.go (by omega) (by omega) (by omega) (by omega), rfl⟩
      · rw [if_neg q3]
        exact ⟨p.go (by omega) (by omega) (by omega) (by omega), rfl⟩
    · rw [if_neg q2]
      exact ⟨p.go (by omega) (by omega) (by omega) (by omega), rfl⟩
  · rw [if_neg q] at h ⊢
    by_cases q2 : c ≠ 61
    · rw [if_pos q2] at h
      exact (h rfl).elim
    · rw [if_neg q2]
      exact ⟨p.go (by omega) (by omega) (by omega) (by omega), rfl⟩
theorem PI.sqr {σ : PS} (p : PI σ) {c : Int} (h : (σ.sqr c).st ≠ -1) : PI (σ.sqr c) ∧ (σ.sqr c).cn = σ.cn := by
  unfold PS.sqr at h ⊢
  by_cases q : c ≠ σ.lt (σ.tm - 1) ∨ σ.tm < 1 ∨ 5 < σ.tm
  · rw [if_pos q] at h
    exact (h rfl).elim
  · rw [if_neg q]
    refine ⟨⟨by show (0 : Int) ≤ 7 ∧ (7 : Int) ≤ 8; omega, p.sg, p.tm, p.lt, fun k k0 k1 => ?_, p.sn, fun w => by rcases w with w | w <;> exact absurd w (by show ¬ (7 : Int) = _; decide), fun w => absurd w (by show ¬ (7 : Int) = _; decide)⟩, rfl⟩
    show 0 ≤ fup σ.kd (σ.tm - 1) 1 k ∧ fup σ.kd (σ.tm - 1) 1 k ≤ 2
    by_cases e : k = σ.tm - 1
    · rw [e, fup_at]; omega
    · rw [fup_ne e]; exact p.kd k k0 k1
theorem PI.tks {σ : PS} (p : PI σ) {c : Int} (h : (σ.tks c).st ≠ -1) : PI (σ.tks c) ∧ (σ.tks c).cn = σ.cn := by
  unfold PS.tks at h ⊢
  by_cases q0 : σ.st = 0
  · rw [if_pos q0] at h ⊢; exact p.bgn h
  rw [if_neg q0] at h ⊢
  by_cases q1 : σ.st = 1
  · rw [if_pos q1] at h ⊢
    by_cases q : c ≠ 45
    · rw [if_pos q] at h ⊢; exact p.bgn h
    · rw [if_neg q]; exact ⟨p.go (by omega) (by omega) (by omega) (by omega), rfl⟩
  rw [if_neg q1] at h ⊢
  by_cases q2 : σ.st = 2
  · rw [if_pos q2] at h ⊢; exact p.bgn h
  rw [if_neg q2] at h ⊢
  by_cases q3 : σ.st = 3
  · rw [if_pos q3] at h ⊢; exact p.bgn h
  rw [if_neg q3] at h ⊢
  by_cases q4 : σ.st = 4
  · rw [if_pos q4] at h ⊢; exact p.ltr (by omega) (Or.inr rfl) h
  rw [if_neg q4] at h ⊢
  by_cases q5 : σ.st = 5
  · rw [if_pos q5] at h ⊢
    by_cases q : c ≠ 42
    · rw [if_pos q] at h ⊢; exact p.flw h
    · rw [if_neg q]; exact ⟨p.go p.sg (by omega) (fun _ => p.s56 (Or.inl q5)) (by omega), rfl⟩
  rw [if_neg q5] at h ⊢
  by_cases q6 : σ.st = 6
  · rw [if_pos q6] at h ⊢; exact p.sqr h
  rw [if_neg q6] at h ⊢
  by_cases q7 : σ.st = 7
  · rw [if_pos q7] at h ⊢; exact p.flw h
  rw [if_neg q7] at h
  exact (h rfl).elim
def PS0 : PS := (0, 1, 0, 0, fun _ => 0, fun _ => 0, fun _ => 0)
theorem PI0 : PI PS0 := ⟨by decide, Or.inl rfl, by decide, fun k k0 k1 => by have k2 : k < 0 := k1; omega, fun k k0 k1 => by have k2 : k < 0 := k1; omega, fun k k0 k1 => by have k2 : k < 0 := k1; omega, fun w => by rcases w with w | w <;> exact absurd w (by decide), fun w => absurd w (by decide)⟩
/-- bytes as numbers from 0 on -/
theorem ub0 : ∀ k, k < 256 → (i32 (((k : Nat) : Int) - 128) &&& i32 255).toInt = ub (((k : Nat) : Int) - 128) := by decide +kernel
theorem ubE {b : Int} (h : -128 ≤ b ∧ b < 128) : (i32 b &&& i32 255).toInt = ub b := by
  have := ub0 (b + 128).toNat (by omega)
  rw [show (((b + 128).toNat : Nat) : Int) - 128 = b by omega] at this
  exact this
theorem ub_dig {b : Int} (h : -128 ≤ b ∧ b < 128) : (48 ≤ ub b ∧ ub b ≤ 57) ↔ (48 ≤ b ∧ b ≤ 57) := by
  unfold ub
  split <;> omega
theorem ub_sp {b : Int} (h : -128 ≤ b ∧ b < 128) : ub b = 32 ↔ b = 32 := by
  unfold ub
  split <;> omega
theorem ub_id {b : Int} (h : 0 ≤ b) : ub b = b := if_neg (by omega)
/-- bits of letters -/
theorem or_and_r (X A B : Int32) : (X ||| A) &&& B = (X &&& B) ||| (A &&& B) := by
  apply Int32.toBitVec_inj.mp
  show (X.toBitVec ||| A.toBitVec) &&& B.toBitVec = (X.toBitVec &&& B.toBitVec) ||| (A.toBitVec &&& B.toBitVec)
  apply BitVec.eq_of_getLsbD_eq
  intro i hi
  simp only [BitVec.getLsbD_and, BitVec.getLsbD_or]
  cases X.toBitVec.getLsbD i <;> cases A.toBitVec.getLsbD i <;> cases B.toBitVec.getLsbD i <;> rfl
theorem or_and_s (X B : Int32) : (X ||| B) &&& B = B := by
  apply Int32.toBitVec_inj.mp
  show (X.toBitVec ||| B.toBitVec) &&& B.toBitVec = B.toBitVec
  apply BitVec.eq_of_getLsbD_eq
  intro i hi
  simp only [BitVec.getLsbD_and, BitVec.getLsbD_or]
  cases X.toBitVec.getLsbD i <;> cases B.toBitVec.getLsbD i <;> rfl
theorem or_z (X : Int32) : X ||| 0 = X := by
  apply Int32.toBitVec_inj.mp
  show X.toBitVec ||| 0#32 = X.toBitVec
  exact BitVec.or_zero
theorem z_and (X : Int32) : (0 : Int32) &&& X = 0 := by
  apply Int32.toBitVec_inj.mp
  show 0#32 &&& X.toBitVec = 0#32
  exact BitVec.zero_and
theorem two26 : ∀ a, a < 26 → ∀ b, b < 26 → (i32 (shv ((a : Nat) : Int)) &&& i32 (shv ((b : Nat) : Int))) = (if a = b then i32 (shv ((b : Nat) : Int)) else 0) ∧ (i32 (shv ((b : Nat) : Int))).toInt ≠ 0 := by decide +kernel
theorem seen26 {x a b : Int} (ha : 0 ≤ a ∧ a < 26) (hb : 0 ≤ b ∧ b < 26) : (i32 ((i32 x ||| i32 (shv a)).toInt) &&& i32 (shv b)).toInt = 0 ↔ ((i32 x &&& i32 (shv b)).toInt = 0 ∧ a ≠ b) := by
  have t := two26 a.toNat (by omega) b.toNat (by omega)
  rw [show ((a.toNat : Nat) : Int) = a by omega, show ((b.toNat : Nat) : Int) = b by omega] at t
  rw [i32_of]
  by_cases e : a = b
  · subst e
    rw [or_and_s]
    exact ⟨fun w => (t.2 w).elim, fun w => (w.2 rfl).elim⟩
  · rw [or_and_r, t.1, if_neg (by omega), or_z]
    exact ⟨fun w => ⟨w, e⟩, fun w => w.1⟩
