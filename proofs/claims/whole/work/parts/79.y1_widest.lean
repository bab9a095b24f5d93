/-! PURE 39: widths of an order: the reference's -/
theorem r_widest {h0 : Hh} {S : St} {c e : Int} (x : Mx h0 S) (hc : 0 ≤ c ∧ c < S.charts) {t : Int → Int} (ht : okT S c t) (he : 0 ≤ e ∧ e ≤ 50) (h69 : ∀ k, 0 ≤ k → k < S.terms (S.crule c) - 1 → h0 69 k = t k) {K : Int → Hh → Prop} (hK : ∀ h, eqM h0 h → h 69 = h0 69 → K (S.gw c e t (ends S c).toNat) h) : w_X11_widest 33 c e h0 K := by
  have q1 := x.wf.charts
  have q2 := x.wf.rules
  have ok := x.wf.chart c hc.1 hc.2
  have rr := ok.rule
  have rok := x.wf.rule _ rr.1 rr.2
  have tt := rok.terms
  have n234 : S.terms (S.crule c) - 1 = 2 ∨ S.terms (S.crule c) - 1 = 3 ∨ S.terms (S.crule c) - 1 = 4 := by omega
  have eb : 4 ≤ ends S c ∧ ends S c ≤ 16 := by
    unfold ends
    split
    · omega
    · split <;> omega
  unfold w_X11_widest
  simp only [vb_p, Int.reduceAdd]
  rw [and_t (by omega), x.rep.crule c hc.1 hc.2, and_t (by omega), x.rep.terms _ rr.1 rr.2, w32_id (by omega) (by omega)]
  have lay : ∀ (X : Int → Int → Int → Int → Int → Int → Hh → Prop) (g code : Int), (∀ h, eqM h0 h → h 69 = h0 69 → (∀ k, 0 ≤ k → k < S.terms (S.crule c) - 1 → h 64 k = if btv code k = 1 then S.many (S.crule c) (t k) - 1 else 0) → X c e (S.crule c) (S.terms (S.crule c) - 1) g code h) → ∀ (k n : Nat) (p : Int) (h : Hh), k < n → S.terms (S.crule c) - 1 - p = k → 0 ≤ p → eqM h0 h → h 69 = h0 69 → (∀ i, 0 ≤ i → i < p → h 64 i = if btv code i = 1 then S.many (S.crule c) (t i) - 1 else 0) → w_X11_widest_35 K X 33 n c e (S.crule c) (S.terms (S.crule c) - 1) g code p h := by
    intro X g code hX k
    induction k with
    | zero =>
      intro n p h hn hk p0 k0 k69 k1
      obtain ⟨n, rfl⟩ : ∃ m, n = m + 1 := ⟨n - 1, by omega⟩
      rw [w_X11_widest_35, if_pos (by omega)]
      exact hX h k0 k69 (fun i i1 i2 => k1 i i1 (by omega))
    | succ k ih =>
      intro n p h hn hk p0 k0 k69 k1
      obtain ⟨n, rfl⟩ : ∃ m, n = m + 1 := ⟨n - 1, by omega⟩
      have y := x.keep k0
      have tp := ht p p0 (by omega)
      have mm := many_le rok (t := t p) (by omega) tp.2
      rw [w_X11_widest_35, if_neg (by omega)]
      have fin : ∀ z, z = (if btv code p = 1 then S.many (S.crule c) (t p) - 1 else 0) → w_X11_widest_80 K (w_X11_widest_35 K X 33 n) X 33 c e (S.crule c) (S.terms (S.crule c) - 1) g code p z p 64 4 h := by
        intro z hz
        unfold w_X11_widest_80
        rw [and_t (by omega), and_t (by omega), hb_p, vb_p, w32_id (by omega) (by omega)]
        refine ih n (p + 1) _ (by omega) (by omega) (by omega) (k0.up (by unfold scM; omega)) (by rw [up_ne (by decide)]; exact k69) (fun i i1 i2 => ?_)
        rw [up_at]
        by_cases e1 : i = p
        · rw [if_pos e1, e1]; exact hz
        · rw [if_neg e1]; exact k1 i i1 (by omega)
      simp only [Int.reduceAdd]
      rw [k69, h69 p p0 (by omega), w32_id (z := 5 * S.crule c) (by omega) (by omega), w32_id (z := 5 * S.crule c + t p) (by omega) (by omega), y.rep.many _ (t p) rr.1 (by omega) (by omega) (by omega)]
      by_cases e1 : (i32 ((i32 code >>> (i32 p &&& 31)).toInt) &&& i32 1).toInt ≠ 0
      · rw [if_pos e1, and_t (by omega), and_t (by omega), w32_id (by omega) (by omega)]
        exact fin _ (if_pos (by have := bt01 code p; unfold btv at this ⊢; omega)).symm
      · rw [if_neg e1]
        exact fin _ (if_neg (by unfold btv; omega)).symm
  have gb : ∀ k : Nat, 0 ≤ S.gw c e t k ∧ S.gw c e t k ≤ 40000000000 := by
    intro k
    induction k with
    | zero => exact ⟨Int.le_refl _, by show (0 : Int) ≤ 40000000000; omega⟩
    | succ k ih =>
      have := wd_bd x.wf hc ht he k
      unfold St.gw
      split <;> omega
  have loop : ∀ (k n : Nat) (code : Nat) (cd : Int) (h : Hh), cd = code → k < n → ends S c - code = k → eqM h0 h → h 69 = h0 69 → w_X11_widest_23 K 33 n c e (S.crule c) (S.terms (S.crule c) - 1) (S.gw c e t code) cd h := by
    intro k
    induction k with
    | zero =>
      intro n code cd h hcd hn hk k0 k69
      obtain ⟨n, rfl⟩ : ∃ m, n = m + 1 := ⟨n - 1, by omega⟩
      rw [w_X11_widest_23]
      simp only [shl1 n234]
      rw [if_pos (by have : ends S c = if S.terms (S.crule c) - 1 = 2 then 4 else if S.terms (S.crule c) - 1 = 3 then 8 else 16 := rfl; omega)]
      rw [show code = (ends S c).toNat by omega]
      exact hK h k0 k69
    | succ k ih =>
      intro n code cd h hcd hn hk k0 k69
      obtain ⟨n, rfl⟩ : ∃ m, n = m + 1 := ⟨n - 1, by omega⟩
      rw [w_X11_widest_23]
      simp only [shl1 n234]
      rw [if_neg (by have : ends S c = if S.terms (S.crule c) - 1 = 2 then 4 else if S.terms (S.crule c) - 1 = 3 then 8 else 16 := rfl; omega)]
      refine lay _ _ cd ?_ (S.terms (S.crule c) - 1).toNat NF 0 h (by rw [NF_eq]; omega) (by omega) (by omega) k0 k69 (fun i i1 i2 => by omega)
      intro h2 l0 l69 l1
      have y := x.keep l0
      have wb := wd_bd x.wf hc ht he cd
      have g1 := gb code
      refine r_spans (v := S.vE c t cd) y hc he ?_ ?_
      · intro i i1 i2
        have ti := ht i i1 i2
        have vbd := (vE_bd x.wf hc ht cd i i1 i2).1
        rw [l69, h69 i i1 i2, l1 i i1 i2]
        exact ⟨⟨by omega, ti.2⟩, vbd, rfl⟩
      · intro h3 u1 u2 u3 u4
        have e3 : eqM h2 h3 := fun a k q => by
          by_cases w : a = 33
          · subst w; exact u2 k (fun w => q (by unfold scM; omega)) (fun w => q (by unfold scM; omega))
          · rw [u1 a w]
        have ee := l0.trans e3
        have k3 : h3 69 = h0 69 := by rw [u1 69 (by decide)]; exact l69
        unfold w_X11_widest_119
        simp only [vb_p]
        rw [u3, u4, show S.fl c e (S.vE c t cd) (S.terms (S.crule c) - 2).toNat - S.fl c (-e) (S.vE c t cd) (S.terms (S.crule c) - 2).toNat = S.wd c e t cd from rfl, w64_id (by omega) (by omega), w32_id (by omega) (by omega)]
        have nx := ih n (code + 1) (cd + 1) h3 (by omega) (by omega) (by omega) ee k3
        rw [show S.gw c e t (code + 1) = if S.gw c e t code < S.wd c e t code then S.wd c e t code else S.gw c e t code from rfl, ← hcd] at nx
        by_cases w : S.wd c e t cd ≤ S.gw c e t code
        · rw [if_pos w]
          rw [if_neg (by omega)] at nx
          exact nx
        · rw [if_neg w]
          rw [if_pos (by omega)] at nx
          exact nx
  exact loop (ends S c).toNat NF 0 0 h0 rfl (by rw [NF_eq]; omega) (by omega) eqM.rfl' rfl
