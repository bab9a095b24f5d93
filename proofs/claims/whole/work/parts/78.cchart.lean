/-! PURE 10: a Chart's own methods, lays and walks of the class -/
def sw (a : Int) : Prop := (3 ≤ a ∧ a ≤ 5) ∨ (22 ≤ a ∧ a ≤ 32)
/-- the class has scribbled, and not on the dues -/
def eqW (h h' : Hh) : Prop := ∀ a, ¬ sw a → h' a = h a
theorem eqW.rfl' {h : Hh} : eqW h h := fun _ _ => rfl
theorem eqW.trans {h h1 h2 : Hh} (a : eqW h h1) (b : eqW h1 h2) : eqW h h2 := fun x q => (b x q).trans (a x q)
theorem eqW.up {h h' : Hh} {a k x : Int} (e : eqW h h') (q : sw a) : eqW h (up h' a k x) := fun b hb => by
  rw [up_ne (fun w => hb (by rw [w]; exact q))]
  exact e b hb
theorem eqW.c {h h' : Hh} (e : eqW h h') : eqC h h' := fun a k q => by rw [e a (fun w => q (by unfold sw at w; unfold scC; omega))]
theorem eqW.at {h h' : Hh} (e : eqW h h') {a : Int} (h1 : ¬ (3 ≤ a ∧ a ≤ 5)) (h2 : ¬ (22 ≤ a ∧ a ≤ 32)) : h' a = h a := e a (by unfold sw; omega)
section
variable {h : Hh} {C c : Int} {S : St}
theorem c_hasPage (cc : ChartC h C S c) (p : Int) (K : Int → Hh → Prop) : w_X0_hasPage C p h K = K (if 0 ≤ p ∧ p < S.terms (S.crule c) - 2 then 1 else 0) h := by
  unfold w_X0_hasPage w_X0_hasPage_16 w_X0_hasPage_17
  rw [cc.pages]
  by_cases h1 : 0 ≤ p ∧ p < S.terms (S.crule c) - 2
  · simp (disch := omega) only [vb_p, hb_p, w32_id, w64_id, if_pos, if_neg, and_t, Int.reduceAdd, Int.reduceMul, Int.reduceSub, Int.reduceNeg, Int.zero_add, ite_true, ite_false]; simp
  · rw [if_neg h1]
    by_cases h2 : p < 0
    · simp (disch := omega) only [vb_p, hb_p, w32_id, w64_id, if_pos, if_neg, and_t, Int.reduceAdd, Int.reduceMul, Int.reduceSub, Int.reduceNeg, Int.zero_add, ite_true, ite_false]; simp
    · simp (disch := omega) only [vb_p, hb_p, w32_id, w64_id, if_pos, if_neg, and_t, Int.reduceAdd, Int.reduceMul, Int.reduceSub, Int.reduceNeg, Int.zero_add, ite_true, ite_false]; simp
theorem c_midOf (cc : ChartC h C S c) (ok : ChartOk S c) (ht : S.terms (S.crule c) ≤ 5) {p : Int} (h1 : 0 ≤ p) (h2 : p < S.terms (S.crule c) - 2) (K : Int → Hh → Prop) : w_X0_midOf C p h K = K (S.mid c p) h := by
  have l := ok.left p h1 h2
  have r := ok.right p h1 h2
  have w := ok.wide
  have m := mul_bd (a := S.wide c) (b := S.left c p) (A := 1000) (B := 50) (by omega) (by omega)
  have m0 : 0 ≤ S.wide c * S.left c p := Int.mul_nonneg (by omega) (by omega)
  have q := mid_in (W := S.wide c) (l := S.left c p) (r := S.right c p) (by omega) (by omega) (by omega)
  unfold w_X0_midOf
  rw [c_hasPage cc, if_pos (show 0 ≤ p ∧ p < S.terms (S.crule c) - 2 from ⟨h1, h2⟩), if_neg (by decide), and_t (by omega), cc.left p h1 h2, cc.right p h1 h2, cc.wide, w32_id (z := S.left c p + S.right c p) (by omega) (by omega), if_pos (by omega), and_t (by omega), w32_id (z := S.wide c * S.left c p) (by omega) (by omega), td_pos m0 (by omega), w32_id (by omega) (by omega)]
  rfl
theorem c_meets (cc : ChartC h C S c) (ok : ChartOk S c) (ht : S.terms (S.crule c) ≤ 5) {p a b : Int} (h1 : 0 ≤ p) (h2 : p < S.terms (S.crule c) - 2) (ha : -10000000000000 ≤ a ∧ a ≤ 10000000000000) (hb : -10000000000000 ≤ b ∧ b ≤ 10000000000000) (K : Int → Hh → Prop) : w_X0_meets C p a b h K = K (S.meet c p a b) h := by
  have l := ok.left p h1 h2
  have r := ok.right p h1 h2
  have w := ok.wide
  have q := mid_in (W := S.wide c) (l := S.left c p) (r := S.right c p) (by omega) (by omega) (by omega)
  have mi := meet_in (W := S.wide c) (q := S.mid c p) (A := 10000000000000) (by omega) q.1 q.2 ha hb
  have m := mul_bd (a := b - a) (b := S.mid c p) (A := 20000000000000) (B := 1000) (by omega) (by unfold St.mid; omega)
  unfold w_X0_meets
  rw [c_midOf cc ok ht h1 h2, cc.wide, w64_id (z := b - a) (by omega) (by omega), w64_id (z := (b - a) * S.mid c p) (by omega) (by omega), e_nearC (by omega) (by omega) (by omega)]
  show K (w64 (a + nst ((b - a) * S.mid c p) (S.wide c))) h = _
  rw [w64_id (by omega) (by omega)]
  rfl
theorem c_sumAt (cc : ChartC h C S c) (ok : ChartOk S c) (ht : S.terms (S.crule c) ≤ 5) {p y : Int} (h1 : 0 ≤ p) (h2 : p < S.terms (S.crule c) - 2) (hy : -10000000000000 ≤ y ∧ y ≤ 10000000000000) (K : Int → Hh → Prop) : w_X0_sumAt C p y h K = K (S.sum c p y) h := by
  have l := ok.left p h1 h2
  have r := ok.right p h1 h2
  have m := mul_bd (a := y) (b := S.left c p + S.right c p) (A := 10000000000000) (B := 100) hy (by omega)
  have m2 := mul_bd (a := S.left c p) (b := S.right c p) (A := 50) (B := 50) (by omega) (by omega)
  have m3 : 0 < S.left c p * S.right c p := Int.mul_pos (by omega) (by omega)
  unfold w_X0_sumAt
  rw [c_hasPage cc, if_pos (show 0 ≤ p ∧ p < S.terms (S.crule c) - 2 from ⟨h1, h2⟩), if_pos (by decide), and_t (by omega), cc.left p h1 h2, cc.right p h1 h2]
  simp only [vb_p]
  rw [w64_id (z := S.left c p + S.right c p) (by omega) (by omega), w64_id (z := S.left c p * S.right c p) (by omega) (by omega), w64_id (by omega) (by omega), e_nearC (by omega) m3 (by omega)]
  rfl
theorem c_markAt (cc : ChartC h C S c) (ht : 3 ≤ S.terms (S.crule c) ∧ S.terms (S.crule c) ≤ 5) {M k : Int} (hM : 0 ≤ M ∧ M < 2147483648) (h1 : 0 ≤ k) (h2 : k < S.terms (S.crule c) - 1) (K : Int → Hh → Prop) : w_X0_markAt C M k h K = K (dg M (S.terms (S.crule c) - 2 - k)) h := by
  unfold w_X0_markAt
  rw [cc.size]
  simp only [vb_p]
  rw [w32_id (by omega) (by omega)]
  have e : NF = 19996 + 1 + 1 + 1 + 1 := rfl
  rw [e]
  have td : ∀ x : Int, 0 ≤ x → Int.tdiv x 100 = x / 100 := fun x hx => td_pos hx (by omega)
  have tm : ∀ x : Int, 0 ≤ x → Int.tmod x 100 = x % 100 := fun x hx => Int.tmod_eq_emod_of_nonneg hx
  generalize hz : S.terms (S.crule c) - 1 - 1 = z
  have ez : S.terms (S.crule c) - 2 - k = z - k := by omega
  rw [ez]
  have hc : z = k ∨ z = k + 1 ∨ z = k + 2 ∨ z = k + 3 := by omega
  unfold dg
  rcases hc with e | e | e | e
  · rw [w_X0_markAt_10, if_pos (by omega), if_pos (by omega), tm M hM.1]
  · rw [w_X0_markAt_10, if_neg (by omega)]
    simp only [vb_p]
    rw [td M hM.1, w32_id (by omega) (by omega), w32_id (by omega) (by omega), w_X0_markAt_10, if_pos (by omega), if_neg (by omega), if_pos (by omega), tm _ (by omega)]
  · rw [w_X0_markAt_10, if_neg (by omega)]
    simp only [vb_p]
    rw [td M hM.1, w32_id (by omega) (by omega), w32_id (by omega) (by omega), w_X0_markAt_10, if_neg (by omega)]
    simp only [vb_p]
    rw [td _ (by omega), w32_id (by omega) (by omega), w32_id (by omega) (by omega), w_X0_markAt_10, if_pos (by omega), if_neg (by omega), if_neg (by omega), if_pos (by omega), tm _ (by omega)]
    have : M / 100 / 100 = M / 10000 := by omega
    rw [this]
  · rw [w_X0_markAt_10, if_neg (by omega)]
    simp only [vb_p]
    rw [td M hM.1, w32_id (by omega) (by omega), w32_id (by omega) (by omega), w_X0_markAt_10, if_neg (by omega)]
    simp only [vb_p]
    rw [td _ (by omega), w32_id (by omega) (by omega), w32_id (by omega) (by omega), w_X0_markAt_10, if_neg (by omega)]
    simp only [vb_p]
    rw [td _ (by omega), w32_id (by omega) (by omega), w32_id (by omega) (by omega), w_X0_markAt_10, if_pos (by omega), if_neg (by omega), if_neg (by omega), if_neg (by omega), tm _ (by omega)]
    have : M / 100 / 100 / 100 = M / 1000000 := by omega
    rw [this]
end
/-- the errata -/
theorem c_numberOn {h : Hh} {S : St} (w : WF S) (rc : RepC h S) {d c t m : Int} {K : Int → Hh → Prop} (h1 : ∀ x, x = S.num c t m d → x ≠ -2147483648 → K x h) (h2 : S.num c t m d = S.sg (S.crule c) t m → K (-2147483648) h) : w_X1_numberOn 9 d c t m h K := by
  unfold w_X1_numberOn
  simp only [vb_p, Int.reduceAdd]
  have q := w.moves
  rw [rc.moves, w32_id (by omega) (by omega)]
  have loop : ∀ (k n : Nat), k < n → (k : Int) ≤ S.moves → S.mvd c t m d S.moves.toNat = S.mvd c t m d k → w_X1_numberOn_8 K 9 n d c t m (k - 1) h := by
    intro k
    induction k with
    | zero =>
      intro n hn hk e
      obtain ⟨n, rfl⟩ : ∃ m, n = m + 1 := ⟨n - 1, by omega⟩
      rw [w_X1_numberOn_8, if_pos (by omega)]
      exact h2 e
    | succ k ih =>
      intro n hn hk e
      obtain ⟨n, rfl⟩ : ∃ m, n = m + 1 := ⟨n - 1, by omega⟩
      have ek : ((k + 1 : Nat) : Int) - 1 = k := by omega
      rw [ek, w_X1_numberOn_8, if_neg (by omega), and_t (by omega)]
      simp only [Int.reduceAdd, w_X1_numberOn_66, vb_p]
      simp only [rc.mC k (by omega) (by omega), rc.mT k (by omega) (by omega), rc.mM k (by omega) (by omega), rc.mN k (by omega) (by omega), rc.mD k (by omega) (by omega), w32_id (z := (k : Int) + -1) (by omega) (by omega)]
      have ek2 : (k : Int) + -1 = k - 1 := by omega
      rw [ek2]
      rw [show S.mvd c t m d (k + 1) = if S.mC k = c ∧ S.mT k = t ∧ S.mM k = m ∧ S.mD k ≤ d then S.mN k else S.mvd c t m d k from rfl] at e
      by_cases hc : S.mC k = c ∧ S.mT k = t ∧ S.mM k = m ∧ S.mD k ≤ d
      · rw [if_neg (by omega), if_neg (by omega), if_neg (by omega), if_neg (by omega)]
        rw [if_pos hc] at e
        have b := w.mN k (by omega) (by omega)
        exact h1 _ e.symm (by omega)
      · rw [if_neg hc] at e
        have g := ih n (by omega) (by omega) e
        split
        · exact g
        · split
          · exact g
          · split
            · exact g
            · split
              · exact g
              · exact absurd ⟨by omega, by omega, by omega, by omega⟩ hc
  have := loop S.moves.toNat NF (by have : NF = 20000 := rfl
                                    omega) (by omega) rfl
  have e : ((S.moves.toNat : Nat) : Int) = S.moves := by omega
  rw [e] at this
  exact this
/-- all that is known of a chart on the class's side -/
def Cx4 (h : Hh) (S : St) (c : Int) : Prop := (RepC h S) ∧ (WF S) ∧ (0 ≤ c ∧ c < S.charts)
theorem Cx4.rep {h : Hh} {S : St} {c : Int} (x__ : Cx4 h S c) : RepC h S := x__.1
theorem Cx4.wf {h : Hh} {S : St} {c : Int} (x__ : Cx4 h S c) : WF S := x__.2.1
theorem Cx4.c0 {h : Hh} {S : St} {c : Int} (x__ : Cx4 h S c) : 0 ≤ c ∧ c < S.charts := x__.2.2
theorem Cx4.mk' {h : Hh} {S : St} {c : Int} (rep__ : RepC h S) (wf__ : WF S) (c0__ : 0 ≤ c ∧ c < S.charts) : Cx4 h S c := ⟨rep__, wf__, c0__⟩
theorem Cx4.keep {h h' : Hh} {S : St} {c : Int} (x : Cx4 h S c) (e : eqW h h') : Cx4 h' S c := ⟨x.rep.keep x.wf e.c.sc, x.wf, x.c0⟩
theorem Cx4.ok {h : Hh} {S : St} {c : Int} (x : Cx4 h S c) : ChartOk S c := x.wf.chart c x.c0.1 x.c0.2
theorem Cx4.cc {h : Hh} {S : St} {c : Int} (x : Cx4 h S c) : ChartC h (h 7 c) S c := x.rep.chart c x.c0.1 x.c0.2
theorem Cx4.rok {h : Hh} {S : St} {c : Int} (x : Cx4 h S c) : RuleOk S (S.crule c) := x.wf.rule _ x.ok.rule.1 x.ok.rule.2
theorem Cx4.rc {h : Hh} {S : St} {c : Int} (x : Cx4 h S c) : RuleC h (h 6 (S.crule c)) S (S.crule c) := x.rep.rule _ x.ok.rule.1 x.ok.rule.2
theorem Cx4.ht {h : Hh} {S : St} {c : Int} (x : Cx4 h S c) : 3 ≤ S.terms (S.crule c) ∧ S.terms (S.crule c) ≤ 5 := x.rok.terms
theorem Cx4.ca {h : Hh} {S : St} {c : Int} (x : Cx4 h S c) : 72 ≤ h 7 c := (x.rep.ca c x.c0.1 x.c0.2).1
theorem Cx4.ra {h : Hh} {S : St} {c : Int} (x : Cx4 h S c) : 72 ≤ h 6 (S.crule c) := (x.rep.ra _ x.ok.rule.1 x.ok.rule.2).1
theorem Cx4.rd {h : Hh} {S : St} {M c : Int} (w : WF S) (rp : RepC h S) (r : RdOk S c M) : Cx4 h S c := ⟨rp, w, r.chart⟩
theorem c_layAsKnown {h0 : Hh} {S : St} {c M d : Int} (x : Cx4 h0 S c) (hr : RdOk S c M) {K : Int → Hh → Prop} (hK : ∀ h, eqW h0 h → (∀ k, 0 ≤ k → k < S.terms (S.crule c) - 1 → h 23 k = S.nv c M d k) → K 0 h) : w_X10_layAsKnown 0 (h0 7 c) M d h0 K := by
  unfold w_X10_layAsKnown
  have ht := x.ht
  have ca := x.ca
  have loop : ∀ (k n : Nat) (i : Int) (h : Hh), k < n → S.terms (S.crule c) - 1 - i ≤ k → 0 ≤ i → i ≤ S.terms (S.crule c) - 1 → eqW h0 h → (∀ k, 0 ≤ k → k < i → h 23 k = S.nv c M d k) → w_X10_layAsKnown_3 K 0 n (h0 7 c) M d i h := by
    intro k
    induction k with
    | zero =>
      intro n i h hn hk h1 h2 e hv
      obtain ⟨n, rfl⟩ : ∃ m, n = m + 1 := ⟨n - 1, by omega⟩
      have y := x.keep e
      have e7 : h 7 = h0 7 := e.at (by omega) (by omega)
      have cc := y.cc
      rw [e7] at cc
      rw [w_X10_layAsKnown_3, and_t (by omega), cc.size, if_pos (by omega)]
      exact hK h e (fun k q1 q2 => hv k q1 (by omega))
    | succ k ih =>
      intro n i h hn hk h1 h2 e hv
      obtain ⟨n, rfl⟩ : ∃ m, n = m + 1 := ⟨n - 1, by omega⟩
      have y := x.keep e
      have e7 : h 7 = h0 7 := e.at (by omega) (by omega)
      have e6 : h 6 = h0 6 := e.at (by omega) (by omega)
      have cc := y.cc
      rw [e7] at cc
      rw [w_X10_layAsKnown_3, and_t (by omega), cc.size]
      by_cases hi : i ≥ S.terms (S.crule c) - 1
      · rw [if_pos hi]
        exact hK h e (fun k q1 q2 => hv k q1 (by omega))
      · rw [if_neg hi, and_t (by omega), cc.ord i h1 (by omega)]
        simp only [vb_p]
        rw [c_markAt cc ht hr.pos h1 (by omega), cc.number]
        have fin : ∀ z, z = S.nv c M d i → w_X10_layAsKnown_79 K (w_X10_layAsKnown_3 K 0 n) 0 (h0 7 c) M d i z i (0 + 23) 4 h := by
          intro z hz
          unfold w_X10_layAsKnown_79
          simp only [Int.reduceAdd, vb_p, hb_p]
          rw [and_t (by omega), and_t (by omega), w32_id (by omega) (by omega)]
          refine ih n (i + 1) _ (by omega) (by omega) (by omega) (by omega) (e.up (by unfold sw; omega)) ?_
          intro k2 q1 q2
          rw [up_at]
          by_cases e2 : k2 = i
          · rw [if_pos e2, e2]; exact hz
          · rw [if_neg e2]; exact hv k2 q1 (by omega)
        refine c_numberOn y.wf y.rep ?_ ?_
        · intro z hz hn
          rw [if_pos hn]
          exact fin z hz
        · intro hz
          have ho := y.ok.ord i h1 (by omega)
          have hd := dg_bd M (S.terms (S.crule c) - 2 - i)
          rw [if_neg (by decide), cc.rule, and_t (by have := y.ra; omega), c_signedOf y.rc y.rok (by omega) (by omega) hd.1 (hr.dig i h1 (by omega))]
          exact fin _ hz.symm
  exact loop 5 NF 0 h0 (by decide) (by omega) (by omega) (by omega) eqW.rfl' (fun k q1 q2 => by omega)
theorem c_layAsCut {h0 : Hh} {S : St} {c M : Int} (x : Cx4 h0 S c) (hr : RdOk S c M) {K : Int → Hh → Prop} (hK : ∀ h, eqW h0 h → (∀ k, 0 ≤ k → k < S.terms (S.crule c) - 1 → h 23 k = S.cv c M k) → K 0 h) : w_X10_layAsCut 0 (h0 7 c) M h0 K := by
  unfold w_X10_layAsCut
  have ht := x.ht
  have ca := x.ca
  have loop : ∀ (k n : Nat) (i : Int) (h : Hh), k < n → S.terms (S.crule c) - 1 - i ≤ k → 0 ≤ i → i ≤ S.terms (S.crule c) - 1 → eqW h0 h → (∀ k, 0 ≤ k → k < i → h 23 k = S.cv c M k) → w_X10_layAsCut_2 K 0 n (h0 7 c) M i h := by
    intro k
    induction k with
    | zero =>
      intro n i h hn hk h1 h2 e hv
      obtain ⟨n, rfl⟩ : ∃ m, n = m + 1 := ⟨n - 1, by omega⟩
      have y := x.keep e
      have e7 : h 7 = h0 7 := e.at (by omega) (by omega)
      have cc := y.cc
      rw [e7] at cc
      rw [w_X10_layAsCut_2, and_t (by omega), cc.size, if_pos (by omega)]
      exact hK h e (fun k q1 q2 => hv k q1 (by omega))
    | succ k ih =>
      intro n i h hn hk h1 h2 e hv
      obtain ⟨n, rfl⟩ : ∃ m, n = m + 1 := ⟨n - 1, by omega⟩
      have y := x.keep e
      have e7 : h 7 = h0 7 := e.at (by omega) (by omega)
      have cc := y.cc
      rw [e7] at cc
      have ho := y.ok.ord i h1
      have hd := dg_bd M (S.terms (S.crule c) - 2 - i)
      rw [w_X10_layAsCut_2, and_t (by omega), cc.size]
      by_cases hi : i ≥ S.terms (S.crule c) - 1
      · rw [if_pos hi]
        exact hK h e (fun k q1 q2 => hv k q1 (by omega))
      · have ho := ho (by omega)
        rw [if_neg hi, and_t (by omega), c_markAt cc ht hr.pos h1 (by omega), cc.rule, and_t (by have := y.ra; omega), cc.ord i h1 (by omega), c_signedOf y.rc y.rok (by omega) (by omega) hd.1 (hr.dig i h1 (by omega))]
        simp only [Int.reduceAdd, vb_p, hb_p]
        rw [w32_id (by omega) (by omega)]
        refine ih n (i + 1) _ (by omega) (by omega) (by omega) (by omega) (e.up (by unfold sw; omega)) ?_
        intro k2 q1 q2
        rw [up_at]
        by_cases e2 : k2 = i
        · rw [if_pos e2, e2]; rfl
        · rw [if_neg e2]; exact hv k2 q1 (by omega)
  exact loop 5 NF 0 h0 (by decide) (by omega) (by omega) (by omega) eqW.rfl' (fun k q1 q2 => by omega)
/-- a walk up to a page -/
theorem c_along {h0 : Hh} {S : St} {c M d : Int} (x : Cx4 h0 S c) (hr : RdOk S c M) (hn : ∀ k, 0 ≤ k → k < S.terms (S.crule c) - 1 → h0 23 k = S.nv c M d k) {last : Nat} (hl : (last : Int) < S.terms (S.crule c) - 2) {K : Int → Hh → Prop}
    (hK : ∀ h, eqW h0 h → h 24 0 = S.lf c M d last → h 24 1 = S.rt c M d last → h 24 2 = S.me c M d last → h 24 3 = S.wk c M d (last + 1) → K 0 h) : w_X9_along 24 (h0 7 c) 23 4 last h0 K := by
  have ht := x.ht
  have ca := x.ca
  unfold w_X9_along w_X9_along_13
  rw [and_t (by omega), if_neg (by omega), and_t (by omega), and_t (by omega)]
  simp only [hb_p]
  rw [hn 0 (by omega) (by omega)]
  have loop : ∀ (k n : Nat) (p : Nat) (h : Hh), k < n → last + 1 - p ≤ k → p ≤ last + 1 → eqW h0 h → h 23 = h0 23 → h 24 3 = S.wk c M d p → (∀ q : Nat, p = q + 1 → h 24 0 = S.lf c M d q ∧ h 24 1 = S.rt c M d q ∧ h 24 2 = S.me c M d q) → w_X9_along_19 K (fun h23 => w_X9_along_138 K 24 h23) 24 n (h0 7 c) 23 4 last p h := by
    intro k
    induction k with
    | zero =>
      intro n p h hn1 hk hp e e23 hs hq
      obtain ⟨n, rfl⟩ : ∃ m, n = m + 1 := ⟨n - 1, by omega⟩
      have ep : p = last + 1 := by omega
      subst ep
      obtain ⟨q0, q1, q2⟩ := hq last rfl
      rw [w_X9_along_19, if_pos (by omega)]
      exact hK h e q0 q1 q2 hs
    | succ k ih =>
      intro n p h hn1 hk hp e e23 hs hq
      obtain ⟨n, rfl⟩ : ∃ m, n = m + 1 := ⟨n - 1, by omega⟩
      by_cases hp2 : p = last + 1
      · subst hp2
        obtain ⟨q0, q1, q2⟩ := hq last rfl
        rw [w_X9_along_19, if_pos (by omega)]
        exact hK h e q0 q1 q2 hs
      · have y := x.keep e
        have e7 : h 7 = h0 7 := e.at (by omega) (by omega)
        have cc := y.cc
        rw [e7] at cc
        obtain ⟨p1, p2, p3, p4, p5⟩ := pts_bd y.wf (d := d) hr p (by omega)
        have pb := bak_bd y.wf (c := c) p5
        have pp := y.wf.papr c
        have pa : ∀ h', eqW h0 h' → h' (h0 7 c + 6) 0 = S.seam c ∧ h' (h0 7 c + 6) 1 = S.low c ∧ h' (h0 7 c + 6) 2 = S.upp c := fun h' e' => by
          have := (x.keep e').cc
          rw [show h' 7 = h0 7 from e'.at (by omega) (by omega)] at this
          exact ⟨this.seam, this.low, this.upp⟩
        have lie : ∀ h' z, eqW h0 h' → (-10000000000 ≤ z ∧ z ≤ 10000000000) → ∀ K, w_X4_lies (h0 7 c + 6) z h' K = K (S.lie c z) h' := fun h' z e' hz K => by
          obtain ⟨a1, a2, a3⟩ := pa h' e'
          have := e_lies (a := h0 7 c + 6) (h := h') (by rw [a1, a2, a3]; exact pp) hz K
          rw [this, a1, a2, a3]
          rfl
        rw [w_X9_along_19, if_neg (by omega), and_t (by omega), cc.pages, if_neg (by omega), and_t (by omega), w32_id (by omega) (by omega), if_neg (by omega), and_t (by omega), cc.left p (by omega) (by omega), hs, w64_id (by omega) (by omega), lie h _ e (by omega)]
        simp only [hb_p, vb_p]
        rw [and_t (by omega)]
        have e1 : eqW h0 (up h 24 0 (S.lf c M d p)) := e.up (by unfold sw; omega)
        have cc1 := (x.keep e1).cc
        rw [show (up h 24 0 (S.lf c M d p)) 7 = h0 7 from e1.at (by omega) (by omega)] at cc1
        rw [show S.lie c (S.left c p * S.wk c M d p) = S.lf c M d p from rfl]
        rw [cc1.right p (by omega) (by omega), show (up h 24 0 (S.lf c M d p)) 23 = h0 23 from (up_ne (by omega)).trans e23, hn (p + 1) (by omega) (by omega), w64_id (by omega) (by omega), lie _ _ e1 (by omega)]
        rw [show S.lie c (S.right c p * S.nv c M d (p + 1)) = S.rt c M d p from rfl]
        have e2 : eqW h0 (up (up h 24 0 (S.lf c M d p)) 24 1 (S.rt c M d p)) := e1.up (by unfold sw; omega)
        generalize hh2 : up (up h 24 0 (S.lf c M d p)) 24 1 (S.rt c M d p) = h2 at *
        have v0 : h2 24 0 = S.lf c M d p := by rw [← hh2, up_at, if_neg (by decide), up_at, if_pos rfl]
        have v1 : h2 24 1 = S.rt c M d p := by rw [← hh2, up_at, if_pos rfl]
        have v23 : h2 23 = h0 23 := by rw [← hh2, up_ne (by omega), up_ne (by omega)]; exact e23
        have cc2 := (x.keep e2).cc
        rw [show h2 7 = h0 7 from e2.at (by omega) (by omega)] at cc2
        rw [v0, v1, c_meets cc2 y.ok ht.2 (by omega) (by omega) (by omega) (by omega)]
        rw [show S.meet c p (S.lf c M d p) (S.rt c M d p) = S.me c M d p from rfl]
        have e3 : eqW h0 (up h2 24 2 (S.me c M d p)) := e2.up (by unfold sw; omega)
        generalize hh3 : up h2 24 2 (S.me c M d p) = h3 at *
        have w0 : h3 24 0 = S.lf c M d p := by rw [← hh3, up_at, if_neg (by decide)]; exact v0
        have w1 : h3 24 1 = S.rt c M d p := by rw [← hh3, up_at, if_neg (by decide)]; exact v1
        have w2 : h3 24 2 = S.me c M d p := by rw [← hh3, up_at, if_pos rfl]
        have w23 : h3 23 = h0 23 := by rw [← hh3, up_ne (by omega)]; exact v23
        have cc3 := (x.keep e3).cc
        rw [show h3 7 = h0 7 from e3.at (by omega) (by omega)] at cc3
        rw [w2]
        obtain ⟨b1, b2, b3⟩ := pa h3 e3
        refine e_place (z := S.bak c (S.me c M d p)) (by rw [b1, b2, b3]; exact pp) (by omega) (by rw [b1, b2, b3]; exact bkf_is pp (by omega)) ?_
        rw [c_sumAt cc3 y.ok ht.2 (by omega) (by omega) (by omega)]
        have ep : ((p : Int) + 1) = ((p + 1 : Nat) : Int) := by omega
        rw [ep]
        refine ih n (p + 1) _ (by omega) (by omega) (by omega) (e3.up (by unfold sw; omega)) (by rw [up_ne (by omega)]; exact w23) (by rw [up_at, if_pos rfl]; rfl) ?_
        intro q hq
        have : q = p := by omega
        subst this
        rw [up_at, if_neg (by decide), up_at, if_neg (by decide), up_at, if_neg (by decide)]
        exact ⟨w0, w1, w2⟩
  exact loop 5 NF 0 _ (by decide) (by omega) (by omega) (eqW.rfl'.up (by unfold sw; omega)) (up_ne (by omega)) (by rw [up_at, if_pos rfl]; rfl) (fun q hq => by omega)
noncomputable def St.f (S : St) (c M d : Int) : Int := S.wk c M d (S.terms (S.crule c) - 2).toNat + S.const (S.crule c)
theorem f_bd {S : St} (w : WF S) {c M d : Int} (hr : RdOk S c M) : -100000000 ≤ S.f c M d ∧ S.f c M d ≤ 100000000 := by
  have hc := w.chart c hr.chart.1 hr.chart.2
  have rk := w.rule _ hc.rule.1 hc.rule.2
  have := rk.const
  have := rk.terms
  have := wk_small w (d := d) hr (S.terms (S.crule c) - 2).toNat (by omega)
  unfold St.f
  omega
theorem c_readAsKnown {h0 : Hh} {S : St} {c M d : Int} (x : Cx4 h0 S c) (hr : RdOk S c M) {K : Int → Hh → Prop} (hK : ∀ h, eqW h0 h → K (S.f c M d) h) : w_X10_readAsKnown 0 (h0 7 c) M d h0 K := by
  unfold w_X10_readAsKnown
  have ht := x.ht
  have ca := x.ca
  have fb := f_bd x.wf (d := d) hr
  refine c_layAsKnown x hr (fun h1 e1 hv => ?_)
  have y := x.keep e1
  have e7 : h1 7 = h0 7 := e1.at (by omega) (by omega)
  have cc := y.cc
  rw [e7] at cc
  rw [and_t (by omega), cc.pages, w32_id (by omega) (by omega)]
  simp only [Int.reduceAdd]
  obtain ⟨last, hl⟩ : ∃ n : Nat, S.terms (S.crule c) - 2 - 1 = n := ⟨(S.terms (S.crule c) - 2 - 1).toNat, by omega⟩
  rw [hl, ← e7]
  refine c_along y hr hv (by omega) (fun h2 e2 _ _ _ hs => ?_)
  have z := y.keep e2
  have f7 : h2 7 = h1 7 := e2.at (by omega) (by omega)
  have cc2 := z.cc
  rw [f7] at cc2
  have el : (S.terms (S.crule c) - 2).toNat = last + 1 := by omega
  rw [cc2.rule, and_t (by have := z.ra; omega), hs, z.rc.const]
  have : S.wk c M d (last + 1) + S.const (S.crule c) = S.f c M d := by unfold St.f; rw [el]
  rw [this, w64_id (by omega) (by omega)]
  exact hK h2 (e1.trans e2)
/-- the exact sum -/
def St.ex (S : St) (c M : Int) : Nat → Int
  | 0 => S.const (S.crule c)
  | k + 1 => St.ex S c M k + S.cv c M k
theorem cv_bd {S : St} (w : WF S) {c M k : Int} (hr : RdOk S c M) (h0 : 0 ≤ k) (h1 : k < S.terms (S.crule c) - 1) : -10000 ≤ S.cv c M k ∧ S.cv c M k ≤ 10000 := by
  have hc := w.chart c hr.chart.1 hr.chart.2
  have ho := hc.ord k h0 h1
  have hd := dg_bd M (S.terms (S.crule c) - 2 - k)
  exact sg_bd (w.rule _ hc.rule.1 hc.rule.2) (by omega) (by omega) hd.1 (hr.dig k h0 h1)
theorem ex_bd {S : St} (w : WF S) {c M : Int} (hr : RdOk S c M) : ∀ k : Nat, (k : Int) ≤ S.terms (S.crule c) - 1 → -2000000 - 10000 * k ≤ S.ex c M k ∧ S.ex c M k ≤ 2000000 + 10000 * k := by
  have hc := w.chart c hr.chart.1 hr.chart.2
  intro k
  induction k with
  | zero =>
    intro _
    have := (w.rule _ hc.rule.1 hc.rule.2).const
    show -2000000 - 10000 * (0 : Int) ≤ S.const (S.crule c) ∧ S.const (S.crule c) ≤ 2000000 + 10000 * (0 : Int)
    omega
  | succ k ih =>
    intro h1
    have := ih (by omega)
    have := cv_bd w hr (k := k) (by omega) (by omega)
    show -2000000 - 10000 * ((k + 1 : Nat) : Int) ≤ S.ex c M k + S.cv c M k ∧ S.ex c M k + S.cv c M k ≤ _
    omega
theorem c_exactSum {h0 : Hh} {S : St} {c M : Int} (x : Cx4 h0 S c) (hr : RdOk S c M) (hM : h0 0 10 = M) {K : Int → Hh → Prop} (hK : ∀ h, eqW h0 h → K (S.ex c M (S.terms (S.crule c) - 1).toNat) h) : w_X10_exactSum 0 (h0 7 c) h0 K := by
  unfold w_X10_exactSum
  have ht := x.ht
  have ca := x.ca
  rw [hM]
  refine c_layAsCut x hr (fun h1 e1 hv => ?_)
  have y := x.keep e1
  have e7 : h1 7 = h0 7 := e1.at (by omega) (by omega)
  have cc := y.cc
  rw [e7] at cc
  rw [and_t (by omega), cc.rule, and_t (by have := y.ra; omega)]
  simp only [vb_p]
  rw [y.rc.const]
  have loop : ∀ (k n : Nat) (i : Nat), k < n → S.terms (S.crule c) - 1 - i ≤ k → (i : Int) ≤ S.terms (S.crule c) - 1 → w_X10_exactSum_21 K 0 n (h0 7 c) (S.ex c M i) i h1 := by
    intro k
    induction k with
    | zero =>
      intro n i hn hk hi
      obtain ⟨n, rfl⟩ : ∃ m, n = m + 1 := ⟨n - 1, by omega⟩
      have eb := ex_bd x.wf hr i hi
      rw [w_X10_exactSum_21, and_t (by omega), cc.size, if_pos (by omega), w32_id (by omega) (by omega)]
      rw [show i = (S.terms (S.crule c) - 1).toNat by omega]
      exact hK h1 e1
    | succ k ih =>
      intro n i hn hk hi
      obtain ⟨n, rfl⟩ : ∃ m, n = m + 1 := ⟨n - 1, by omega⟩
      have eb := ex_bd x.wf hr i hi
      rw [w_X10_exactSum_21, and_t (by omega), cc.size]
      by_cases h2 : (i : Int) ≥ S.terms (S.crule c) - 1
      · rw [if_pos h2, w32_id (by omega) (by omega)]
        rw [show i = (S.terms (S.crule c) - 1).toNat by omega]
        exact hK h1 e1
      · have cb := cv_bd x.wf hr (k := i) (by omega) (by omega)
        rw [if_neg h2, and_t (by omega)]
        simp only [vb_p, Int.reduceAdd]
        rw [hv i (by omega) (by omega), w64_id (by omega) (by omega), w32_id (by omega) (by omega)]
        exact ih n (i + 1) (by omega) (by omega) (by omega)
  exact loop 5 NF 0 (by decide) (by omega) (by omega)
