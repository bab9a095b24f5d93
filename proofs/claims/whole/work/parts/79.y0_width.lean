/-! PURE 38: widths of an order -/
theorem and1 (x : Int32) : (x &&& i32 1).toInt = 0 ∨ (x &&& i32 1).toInt = 1 := by
  have h : (x &&& i32 1).toBitVec = x.toBitVec &&& 1#32 := rfl
  rw [BitVec.and_one_eq_setWidth_ofBool_getLsbD] at h
  cases hb : x.toBitVec.getLsbD 0
  · rw [hb] at h
    have e : (x &&& i32 1) = 0 := Int32.toBitVec_inj.mp h
    rw [e]; exact Or.inl rfl
  · rw [hb] at h
    have e : (x &&& i32 1) = 1 := Int32.toBitVec_inj.mp h
    rw [e]; exact Or.inr rfl
theorem bt01 (v z : Int) : btv v z = 0 ∨ btv v z = 1 := and1 _
theorem shl1 {n : Int} (h : n = 2 ∨ n = 3 ∨ n = 4) : (i32 1 <<< (i32 n &&& 31)).toInt = if n = 2 then 4 else if n = 3 then 8 else 16 := by
  rcases h with e | e | e <;> subst e <;> decide
/-- the numbers at the ends that a code names -/
def St.vE (S : St) (c : Int) (t : Int → Int) (code k : Int) : Int := S.sg (S.crule c) (t k) (if btv code k = 1 then S.many (S.crule c) (t k) - 1 else 0)
def St.wd (S : St) (c e : Int) (t : Int → Int) (code : Int) : Int := S.fl c e (S.vE c t code) (S.terms (S.crule c) - 2).toNat - S.fl c (-e) (S.vE c t code) (S.terms (S.crule c) - 2).toNat
def St.gw (S : St) (c e : Int) (t : Int → Int) : Nat → Int
  | 0 => 0
  | k + 1 => if St.gw S c e t k < S.wd c e t k then S.wd c e t k else St.gw S c e t k
/-- an order's terms are there -/
def okT (S : St) (c : Int) (t : Int → Int) : Prop := ∀ k, 0 ≤ k → k < S.terms (S.crule c) - 1 → 1 ≤ t k ∧ t k < S.terms (S.crule c)
def ends (S : St) (c : Int) : Int := if S.terms (S.crule c) - 1 = 2 then 4 else if S.terms (S.crule c) - 1 = 3 then 8 else 16
theorem vE_bd {S : St} (w : WF S) {c : Int} (hc : 0 ≤ c ∧ c < S.charts) {t : Int → Int} (ht : okT S c t) (code : Int) : ∀ k, 0 ≤ k → k < S.terms (S.crule c) - 1 → (0 ≤ (if btv code k = 1 then S.many (S.crule c) (t k) - 1 else 0) ∧ (if btv code k = 1 then S.many (S.crule c) (t k) - 1 else 0) < S.many (S.crule c) (t k)) ∧ -10000 ≤ S.vE c t code k ∧ S.vE c t code k ≤ 10000 := by
  intro k k1 k2
  have ok := w.chart c hc.1 hc.2
  have rok := w.rule _ ok.rule.1 ok.rule.2
  have tk := ht k k1 k2
  have m := ok.many (t k) (by omega) tk.2
  have g : 0 ≤ (if btv code k = 1 then S.many (S.crule c) (t k) - 1 else 0) ∧ (if btv code k = 1 then S.many (S.crule c) (t k) - 1 else 0) < S.many (S.crule c) (t k) := by split <;> omega
  exact ⟨g, sg_bd rok (by omega) tk.2 g.1 g.2⟩
theorem wd_bd {S : St} (w : WF S) {c e : Int} (hc : 0 ≤ c ∧ c < S.charts) {t : Int → Int} (ht : okT S c t) (he : 0 ≤ e ∧ e ≤ 50) (code : Int) : -40000000000 ≤ S.wd c e t code ∧ S.wd c e t code ≤ 40000000000 := by
  have ok := w.chart c hc.1 hc.2
  have rok := w.rule _ ok.rule.1 ok.rule.2
  have tt := rok.terms
  have vb := fun k k1 k2 => (vE_bd w hc ht code k k1 k2).2
  have a := fl_bd ok tt.2 (e := e) (by omega) vb tt.1 (S.terms (S.crule c) - 2).toNat (by omega)
  have b := fl_bd ok tt.2 (e := -e) (by omega) vb tt.1 (S.terms (S.crule c) - 2).toNat (by omega)
  unfold St.wd
  omega
theorem c_width {h0 : Hh} {S : St} {c e : Int} (x : Cx4 h0 S c) {t : Int → Int} (ht : okT S c t) (he : 0 ≤ e ∧ e ≤ 50) (h26 : ∀ k, 0 ≤ k → k < S.terms (S.crule c) - 1 → h0 26 k = t k) {K : Int → Hh → Prop} (hK : ∀ h, (∀ a, a ≠ 27 → h a = h0 a) → K (S.gw c e t (ends S c).toNat) h) : w_X3_greatestWidth 25 (h0 7 c) e h0 K := by
  have tt := x.ht
  have ca := x.ca
  have ra := x.ra
  have ok := x.ok
  have n234 : S.terms (S.crule c) - 1 = 2 ∨ S.terms (S.crule c) - 1 = 3 ∨ S.terms (S.crule c) - 1 = 4 := by omega
  have eb : 4 ≤ ends S c ∧ ends S c ≤ 16 := by
    unfold ends
    split
    · omega
    · split <;> omega
  unfold w_X3_greatestWidth
  have eqw : ∀ h : Hh, (∀ a, a ≠ 27 → h a = h0 a) → eqW h0 h := fun h k a ha => k a (fun w => ha (by unfold sw; omega))
  -- the numbers are laid
  have lay : ∀ (X : Int → Int → Int → Int → Hh → Prop) (g code : Int), (∀ h, (∀ a, a ≠ 27 → h a = h0 a) → (∀ k, 0 ≤ k → k < S.terms (S.crule c) - 1 → h 27 k = S.vE c t code k) → X (h0 7 c) e g code h) → ∀ (k n : Nat) (p : Int) (h : Hh), k < n → S.terms (S.crule c) - 1 - p = k → 0 ≤ p → (∀ a, a ≠ 27 → h a = h0 a) → (∀ i, 0 ≤ i → i < p → h 27 i = S.vE c t code i) → w_X3_greatestWidth_19 K X 25 n (h0 7 c) e g code p h := by
    intro X g code hX k
    induction k with
    | zero =>
      intro n p h hn hk p0 k0 k1
      obtain ⟨n, rfl⟩ : ∃ m, n = m + 1 := ⟨n - 1, by omega⟩
      have y := x.keep (eqw h k0)
      have cc := y.cc
      rw [k0 7 (by decide)] at cc
      rw [w_X3_greatestWidth_19, and_t (by omega), cc.size, if_pos (by omega)]
      exact hX h k0 (fun i i1 i2 => k1 i i1 (by omega))
    | succ k ih =>
      intro n p h hn hk p0 k0 k1
      obtain ⟨n, rfl⟩ : ∃ m, n = m + 1 := ⟨n - 1, by omega⟩
      have y := x.keep (eqw h k0)
      have cc := y.cc
      rw [k0 7 (by decide)] at cc
      have rc := y.rc
      have tp := ht p p0 (by omega)
      have vbd := (vE_bd x.wf x.c0 ht code p p0 (by omega)).1
      have ra2 := y.ra
      rw [w_X3_greatestWidth_19, and_t (by omega), cc.size, if_neg (by omega)]
      have fin : ∀ z h', z = S.vE c t code p → (∀ a, a ≠ 27 → h' a = h0 a) → (∀ i, 0 ≤ i → i < p → h' 27 i = S.vE c t code i) → (0 ≤ (27 : Int) ∧ ((0 ≤ p ∧ p < 4) ∧ (hb (up h' 27 p z) fun h10 => vb (w32 (p + 1)) fun z11 => w_X3_greatestWidth_19 K X 25 n (h0 7 c) e g code z11 h10))) := by
        intro z h' hz k0' k1'
        refine ⟨by decide, by omega, ?_⟩
        rw [hb_p, vb_p, w32_id (by omega) (by omega)]
        refine ih n (p + 1) _ (by omega) (by omega) (by omega) (fun a ha => by rw [up_ne ha]; exact k0' a ha) (fun i i1 i2 => ?_)
        rw [up_at]
        by_cases e1 : i = p
        · rw [if_pos e1, e1]; exact hz
        · rw [if_neg e1]; exact k1' i i1 (by omega)
      unfold w_X3_greatestWidth_44 w_X3_greatestWidth_86
      simp only [Int.reduceAdd]
      rw [k0 26 (by decide), h26 p p0 (by omega), cc.rule]
      by_cases e1 : (i32 ((i32 code >>> (i32 p &&& 31)).toInt) &&& i32 1).toInt ≠ 1
      · have e2 : (if btv code p = 1 then S.many (S.crule c) (t p) - 1 else 0) = 0 := if_neg e1
        rw [if_pos e1, and_t (by omega), and_t (by omega), if_pos trivial, and_t (by omega), c_signedOf rc y.rok (by omega) tp.2 (by omega) (by omega)]
        exact fin _ h (by unfold St.vE; rw [e2]) k0 k1
      · have e2 : (if btv code p = 1 then S.many (S.crule c) (t p) - 1 else 0) = S.many (S.crule c) (t p) - 1 := if_pos (by have := bt01 code p; unfold btv at this ⊢; omega)
        rw [if_neg e1, and_t (by omega), and_t (by omega), if_neg (by decide), and_t (by omega), c_lastMarkOf rc y.rok (by omega) tp.2, and_t (by omega), c_signedOf rc y.rok (by omega) tp.2 (by omega) (by omega)]
        exact fin _ h (by unfold St.vE; rw [e2]) k0 k1
  have gb : ∀ k : Nat, 0 ≤ S.gw c e t k ∧ S.gw c e t k ≤ 40000000000 := by
    intro k
    induction k with
    | zero => exact ⟨Int.le_refl _, by show (0 : Int) ≤ 40000000000; omega⟩
    | succ k ih =>
      have := wd_bd x.wf x.c0 ht he k
      unfold St.gw
      split <;> omega
  have loop : ∀ (k n : Nat) (code : Nat) (cd : Int) (h : Hh), cd = code → k < n → ends S c - code = k → (∀ a, a ≠ 27 → h a = h0 a) → w_X3_greatestWidth_5 K 25 n (h0 7 c) e (S.gw c e t code) cd h := by
    intro k
    induction k with
    | zero =>
      intro n code cd h hcd hn hk k0
      obtain ⟨n, rfl⟩ : ∃ m, n = m + 1 := ⟨n - 1, by omega⟩
      have cc := (x.keep (eqw h k0)).cc
      rw [k0 7 (by decide)] at cc
      rw [w_X3_greatestWidth_5, and_t (by omega), cc.size]
      simp only [shl1 n234]
      rw [if_pos (by have : ends S c = if S.terms (S.crule c) - 1 = 2 then 4 else if S.terms (S.crule c) - 1 = 3 then 8 else 16 := rfl; omega)]
      rw [show code = (ends S c).toNat by omega]
      exact hK h k0
    | succ k ih =>
      intro n code cd h hcd hn hk k0
      obtain ⟨n, rfl⟩ : ∃ m, n = m + 1 := ⟨n - 1, by omega⟩
      have cc := (x.keep (eqw h k0)).cc
      rw [k0 7 (by decide)] at cc
      rw [w_X3_greatestWidth_5, and_t (by omega), cc.size]
      simp only [shl1 n234]
      rw [if_neg (by have : ends S c = if S.terms (S.crule c) - 1 = 2 then 4 else if S.terms (S.crule c) - 1 = 3 then 8 else 16 := rfl; omega)]
      refine lay _ _ cd ?_ (S.terms (S.crule c) - 1).toNat NF 0 h (by rw [NF_eq]; omega) (by omega) (by omega) k0 (fun i i1 i2 => by omega)
      intro h2 q0 q1
      have y := x.keep (eqw h2 q0)
      have cc2 := y.cc
      rw [q0 7 (by decide)] at cc2
      have vbd := fun k k1 k2 => (vE_bd x.wf x.c0 ht cd k k1 k2).2
      have wb := wd_bd x.wf x.c0 ht he cd
      have g1 := gb code
      rw [and_t (by omega)]
      simp only [Int.reduceAdd]
      refine c_lastSum cc2 ok tt (by omega) (by omega) vbd q1 ?_
      rw [w32_id (by omega) (by omega)]
      refine c_lastSum cc2 ok tt (by omega) (by omega) vbd q1 ?_
      simp only [vb_p]
      rw [show S.fl c e (S.vE c t cd) (S.terms (S.crule c) - 2).toNat - S.fl c (-e) (S.vE c t cd) (S.terms (S.crule c) - 2).toNat = S.wd c e t cd from rfl, w64_id (by omega) (by omega), e_maxL, w32_id (by omega) (by omega)]
      have := ih n (code + 1) (cd + 1) h2 (by omega) (by omega) (by omega) q0
      unfold St.gw at this
      rw [hcd] at *
      exact this
  exact loop (ends S c).toNat NF 0 0 h0 rfl (by rw [NF_eq]; omega) (by omega) (fun _ _ => rfl)
