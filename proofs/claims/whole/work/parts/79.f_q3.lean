/-! PURE 16: read, lead, span -/
theorem Both.rd {h : Hh} {S : St} (b : Both h S) : (S.rdC = -1 ∧ h 0 9 = -1) ∨ (S.rdC ≠ -1 ∧ RdOk S S.rdC S.rdM ∧ h 0 9 = h 7 S.rdC ∧ 72 ≤ h 7 S.rdC) := by
  have e := b.c.rdC
  rcases b.w.rd with hr | hr
  · rw [if_pos hr] at e; exact Or.inl ⟨hr, e⟩
  · have := hr.chart
    rw [if_neg (by omega)] at e
    exact Or.inr ⟨by omega, hr, e, (b.c.ca _ this.1 this.2).1⟩
theorem Mx.rd {h : Hh} {S : St} (x : Mx h S) : S.rdC = -1 ∨ (S.rdC ≠ -1 ∧ RdOk S S.rdC S.rdM) := by
  rcases x.wf.rd with hr | hr
  · exact Or.inl hr
  · exact Or.inr ⟨by have := hr.chart; omega, hr⟩
/-- the reading's marks, taken over -/
theorem r_takesR {h0 : Hh} {S : St} (x : Mx h0 S) (hr : S.rdC ≠ -1) {K : Int → Hh → Prop} (hK : ∀ h, eqM h0 h → (∀ k, 0 ≤ k → k < S.terms (S.crule S.rdC) - 1 → h 64 k = dg S.rdM (S.terms (S.crule S.rdC) - 2 - k)) → K 0 h) : w_X11_takes 33 52 4 0 h0 K := by
  refine r_takes (by omega) (by omega) (by omega) (by omega) (fun h e _ hv => hK h e (fun k h1 h2 => ?_))
  have ht : S.terms (S.crule S.rdC) ≤ 5 := by
    rcases x.rd with hr' | ⟨_, hr'⟩
    · exact absurd hr' hr
    · have ok := x.wf.chart _ hr'.chart.1 hr'.chart.2
      exact (x.wf.rule _ ok.rule.1 ok.rule.2).terms.2
  rw [hv k h1 (by omega), Int.zero_add]
  exact x.rep.rdM hr k h1 h2
noncomputable def rRead (d w : Int) (S : St) : Int := if S.rdC = -1 ∨ ¬ (0 ≤ d ∧ d ≤ S.now) ∨ ¬ (0 ≤ w ∧ w ≤ 2) then VOID else if w = 0 then w32 (S.f S.rdC S.rdM d) else if w = 1 then tnn (S.sc (S.crule S.rdC)) (S.scn (S.crule S.rdC)) (S.f S.rdC S.rdM d) else S.ex S.rdC S.rdM (S.terms (S.crule S.rdC) - 1).toNat
theorem read_C (d w : Int) (h : Hh) (S : St) (b : Both h S) (K : Int → Hh → Prop) (hK : ∀ h', eqW h h' → K (rRead d w S) h') : w_X10_read 0 d w h K := by
  unfold rRead VOID at hK
  unfold w_X10_read w_X10_read_21
  rcases b.rd with ⟨r1, r2⟩ | ⟨r1, r2, r3, r4⟩
  · rw [r2, if_pos rfl]
    rw [if_pos (Or.inl r1)] at hK
    exact hK h eqW.rfl'
  · have x := b.cx r2.chart
    have ra := x.ra
    have cc := x.cc
    rw [r3, if_neg (by omega), b.c.now, b.c.rdM]
    by_cases h1 : d < 0
    · rw [if_pos h1]
      rw [if_pos (Or.inr (Or.inl (by omega)))] at hK
      exact hK h eqW.rfl'
    · rw [if_neg h1]
      by_cases h2 : d ≤ S.now
      · rw [if_pos h2]
        by_cases w0 : w = 0
        · rw [if_neg (fun q => q w0)]
          rw [if_neg (by omega), if_pos w0] at hK
          exact c_readAsKnown x r2 (fun h' e => hK h' e)
        · rw [if_pos w0]
          by_cases w1 : w = 1
          · rw [if_neg (fun q => q w1), and_t (by omega)]
            rw [if_neg (by omega), if_neg w0, if_pos w1] at hK
            refine c_readAsKnown x r2 (fun h' e => ?_)
            have y := x.keep e
            have fb := f_bd b.w (d := d) r2
            have e6 : h' 6 = h 6 := e.at (by omega) (by omega)
            have rc := y.rc
            rw [e6] at rc
            rw [cc.rule, and_t (by omega), c_tenthsOf rc y.rok (by omega)]
            exact hK h' e
          · rw [if_pos w1]
            by_cases w2 : w = 2
            · rw [if_neg (fun q => q w2)]
              rw [if_neg (by omega), if_neg w0, if_neg w1] at hK
              exact c_exactSum x r2 b.c.rdM (fun h' e => hK h' e)
            · rw [if_pos w2]
              rw [if_pos (Or.inr (Or.inr (by omega)))] at hK
              exact hK h eqW.rfl'
      · rw [if_neg h2]
        rw [if_pos (Or.inr (Or.inl (by omega)))] at hK
        exact hK h eqW.rfl'
theorem read_M (d w : Int) (h : Hh) (S : St) (x : Mx h S) (K : Int → Hh → Prop) (hK : ∀ h', eqM h h' → K (rRead d w S) h') : w_X11_read 33 d w h K := by
  unfold rRead VOID at hK
  unfold w_X11_read w_X11_read_34
  have q1 := x.wf.charts
  have q2 := x.wf.rules
  rcases x.rd with r1 | ⟨r1, r2⟩
  · rw [x.rep.rdC, if_pos r1]
    rw [if_pos (Or.inl r1)] at hK
    exact hK h eqM.rfl'
  · have rch := r2.chart
    have ok := x.wf.chart _ r2.chart.1 r2.chart.2
    have rok := x.wf.rule _ ok.rule.1 ok.rule.2
    have rr := ok.rule
    have ht := rok.terms
    rw [x.rep.rdC, if_neg r1, x.rep.now, e_in]
    by_cases h1 : 0 ≤ d ∧ d ≤ S.now
    · rw [if_pos h1, if_neg (by decide), e_in]
      by_cases h2 : 0 ≤ w ∧ w ≤ 2
      · rw [if_pos h2, if_pos (by decide), x.rep.rdC, and_t (by omega)]
        rw [if_neg (by omega)] at hK
        simp only [Int.reduceAdd, vb_p]
        rw [x.rep.crule _ r2.chart.1 r2.chart.2]
        refine r_takesR x r1 (fun h1 e1 hv => ?_)
        have y := x.keep e1
        by_cases w2 : w = 2
        · rw [if_neg (fun q => q w2), and_t (by omega), y.rep.const _ rr.1 rr.2]
          rw [if_neg (by omega), if_neg (by omega)] at hK
          have loop : ∀ (k n : Nat) (i : Nat), k < n → S.terms (S.crule S.rdC) - 1 - i ≤ k → (i : Int) ≤ S.terms (S.crule S.rdC) - 1 → w_X11_read_72 K 33 n (S.crule S.rdC) (S.ex S.rdC S.rdM i) i h1 := by
            intro k
            induction k with
            | zero =>
              intro n i hn hk hi
              obtain ⟨n, rfl⟩ : ∃ m, n = m + 1 := ⟨n - 1, by omega⟩
              rw [w_X11_read_72, and_t (by omega)]
              simp only [Int.reduceAdd]
              rw [y.rep.terms _ rr.1 rr.2, w32_id (by omega) (by omega), if_pos (by omega)]
              rw [show i = (S.terms (S.crule S.rdC) - 1).toNat by omega]
              exact hK h1 e1
            | succ k ih =>
              intro n i hn hk hi
              obtain ⟨n, rfl⟩ : ∃ m, n = m + 1 := ⟨n - 1, by omega⟩
              rw [w_X11_read_72, and_t (by omega)]
              simp only [Int.reduceAdd, vb_p]
              rw [y.rep.terms _ rr.1 rr.2, w32_id (z := S.terms (S.crule S.rdC) - 1) (by omega) (by omega)]
              by_cases h3 : (i : Int) ≥ S.terms (S.crule S.rdC) - 1
              · rw [if_pos h3]
                rw [show i = (S.terms (S.crule S.rdC) - 1).toNat by omega]
                exact hK h1 e1
              · have eb := ex_bd x.wf r2 i hi
                have cb := cv_bd x.wf r2 (k := i) (by omega) (by omega)
                have ho := ok.ord i (by omega) (by omega)
                have hd := dg_bd S.rdM (S.terms (S.crule S.rdC) - 2 - i)
                rw [if_neg h3, y.rep.rdC, w32_id (z := 4 * S.rdC) (by omega) (by omega), w32_id (z := 4 * S.rdC + (i : Int)) (by omega) (by omega), and_t (by omega), y.rep.ord _ i rch.1 rch.2 (by omega) (by omega), w32_id (z := 5 * S.crule S.rdC) (by omega) (by omega), w32_id (z := 5 * S.crule S.rdC + S.ord S.rdC i) (by omega) (by omega), and_t (by omega), and_t (by omega), hv i (by omega) (by omega), r_valueOf y rr ⟨by omega, by omega⟩ ⟨hd.1, r2.dig i (by omega) (by omega)⟩, y.rep.sign _ _ rr.1 rr.2 (by omega) (by omega)]
                rw [show S.sign (S.crule S.rdC) (S.ord S.rdC i) * S.val (S.crule S.rdC) (S.ord S.rdC i) (dg S.rdM (S.terms (S.crule S.rdC) - 2 - i)) = S.cv S.rdC S.rdM i from rfl, w32_id (z := S.cv S.rdC S.rdM i) (by omega) (by omega), w32_id (z := S.ex S.rdC S.rdM i + S.cv S.rdC S.rdM i) (by omega) (by omega), w32_id (by omega) (by omega)]
                exact ih n (i + 1) (by omega) (by omega) (by omega)
          exact loop 5 NF 0 (by decide) (by omega) (by omega)
        · rw [if_pos w2, y.rep.rdC]
          refine r_goes y r2 hv (fun h2 e2 _ => ?_)
          have z := y.keep e2
          by_cases w0 : w = 0
          · rw [if_pos w0] at hK
            rw [if_neg (fun q => q w0)]
            exact hK h2 (e1.trans e2)
          · rw [if_neg w0, if_pos (by omega)] at hK
            rw [if_pos w0]
            have fb := f_bd x.wf (d := d) r2
            exact r_tenths z rr (ok.many 0 (by omega) (by omega)) (by omega) (hK h2 (e1.trans e2))
      · rw [if_neg h2, if_neg (by decide)]
        rw [if_pos (Or.inr (Or.inr h2))] at hK
        exact hK h eqM.rfl'
    · rw [if_neg h1, if_pos rfl]
      rw [if_pos (Or.inr (Or.inl h1))] at hK
      exact hK h eqM.rfl'
theorem a_read (d w : Int) : Agree (w_X10_read 0 d w) (w_X11_read 33 d w) := agree_q (rRead d w) (read_C d w) (read_M d w)
noncomputable def rLead (p w : Int) (S : St) : Int := if S.rdC = -1 ∨ ¬ (0 ≤ p ∧ p < S.terms (S.crule S.rdC) - 2) ∨ ¬ (0 ≤ w ∧ w ≤ 3) then VOID else if w = 0 then w32 (S.lf S.rdC S.rdM S.now p.toNat) else if w = 1 then w32 (S.rt S.rdC S.rdM S.now p.toNat) else if w = 2 then w32 (S.me S.rdC S.rdM S.now p.toNat) else w32 (S.wk S.rdC S.rdM S.now (p.toNat + 1))
theorem lead_C (p w : Int) (h : Hh) (S : St) (b : Both h S) (K : Int → Hh → Prop) (hK : ∀ h', eqW h h' → K (rLead p w S) h') : w_X10_lead 0 p w h K := by
  unfold rLead VOID at hK
  unfold w_X10_lead w_X10_lead_17
  rcases b.rd with ⟨r1, r2⟩ | ⟨r1, r2, r3, r4⟩
  · rw [r2, if_pos rfl]
    rw [if_pos (Or.inl r1)] at hK
    exact hK h eqW.rfl'
  · have x := b.cx r2.chart
    have cc := x.cc
    rw [r3, if_neg (by omega), and_t (by omega), c_hasPage cc]
    by_cases hp : 0 ≤ p ∧ p < S.terms (S.crule S.rdC) - 2
    · rw [if_pos hp, if_pos (by decide), b.c.rdM, b.c.now]
      simp only [Int.reduceAdd]
      refine c_layAsKnown x r2 (fun h1 e1 hv => ?_)
      have y := x.keep e1
      have e7 : h1 7 = h 7 := e1.at (by omega) (by omega)
      obtain ⟨pn, hpn⟩ : ∃ n : Nat, p = n := ⟨p.toNat, by omega⟩
      subst hpn
      rw [← e7]
      refine c_along y r2 hv hp.2 (fun h2 e2 v0 v1 v2 v3 => ?_)
      rw [v0, v1, v2, v3]
      have g := hK h2 (e1.trans e2)
      rw [Int.toNat_natCast] at g
      by_cases w0 : w = 0
      · rw [if_neg (by omega), if_pos w0] at g
        rw [if_pos w0]; exact g
      · rw [if_neg w0]
        by_cases w1 : w = 1
        · rw [if_neg (by omega), if_neg w0, if_pos w1] at g
          rw [if_pos w1]; exact g
        · rw [if_neg w1]
          by_cases w2 : w = 2
          · rw [if_neg (by omega), if_neg w0, if_neg w1, if_pos w2] at g
            rw [if_pos w2]; exact g
          · rw [if_neg w2]
            by_cases w3 : w = 3
            · rw [if_neg (by omega), if_neg w0, if_neg w1, if_neg w2] at g
              rw [if_pos w3]; exact g
            · rw [if_neg w3]
              rw [if_pos (by omega)] at g
              exact g
    · rw [if_neg hp, if_neg (by decide)]
      rw [if_pos (Or.inr (Or.inl hp))] at hK
      exact hK h eqW.rfl'
theorem lead_M (p w : Int) (h : Hh) (S : St) (x : Mx h S) (K : Int → Hh → Prop) (hK : ∀ h', eqM h h' → K (rLead p w S) h') : w_X11_lead 33 p w h K := by
  unfold rLead VOID at hK
  unfold w_X11_lead w_X11_lead_40 w_X11_lead_112
  rcases x.rd with r1 | ⟨r1, r2⟩
  · rw [x.rep.rdC, if_pos r1]
    rw [if_pos (Or.inl r1)] at hK
    exact hK h eqM.rfl'
  · have ok := x.wf.chart _ r2.chart.1 r2.chart.2
    have rok := x.wf.rule _ ok.rule.1 ok.rule.2
    have ht := rok.terms
    rw [x.rep.rdC, if_neg r1, r_pagesOf x r2.chart, w32_id (by omega) (by omega), e_in]
    by_cases hp : 0 ≤ p ∧ p < S.terms (S.crule S.rdC) - 2
    · rw [if_pos (show 0 ≤ p ∧ p ≤ S.terms (S.crule S.rdC) - 2 - 1 by omega), if_neg (by decide), e_in]
      by_cases hw : 0 ≤ w ∧ w ≤ 3
      · rw [if_pos hw, if_pos (by decide)]
        rw [if_neg (by omega)] at hK
        simp only [Int.reduceAdd]
        refine r_takesR x r1 (fun h1 e1 hv => ?_)
        have y := x.keep e1
        rw [y.rep.rdC, y.rep.now]
        refine r_goes y r2 hv (fun h2 e2 hg => ?_)
        obtain ⟨pn, hpn⟩ : ∃ n : Nat, p = n := ⟨p.toNat, by omega⟩
        subst hpn
        obtain ⟨v0, v1, v2, v3⟩ := hg pn hp.2
        have g := hK h2 (e1.trans e2)
        rw [Int.toNat_natCast] at g
        rw [v0, v1, v2, v3]
        by_cases w0 : w = 0
        · rw [if_pos w0] at g
          rw [if_neg (fun q => q w0), and_t (by omega)]; exact g
        · rw [if_pos w0]; rw [if_neg w0] at g
          by_cases w1 : w = 1
          · rw [if_pos w1] at g
            rw [if_neg (fun q => q w1), and_t (by omega)]; exact g
          · rw [if_pos w1]; rw [if_neg w1] at g
            by_cases w2 : w = 2
            · rw [if_pos w2] at g
              rw [if_neg (fun q => q w2), and_t (by omega)]; exact g
            · rw [if_pos w2, and_t (by omega)]; rw [if_neg w2] at g
              exact g
      · rw [if_neg hw, if_neg (by decide)]
        rw [if_pos (Or.inr (Or.inr hw))] at hK
        exact hK h eqM.rfl'
    · rw [if_neg (show ¬ (0 ≤ p ∧ p ≤ S.terms (S.crule S.rdC) - 2 - 1) by omega), if_pos rfl]
      rw [if_pos (Or.inr (Or.inl hp))] at hK
      exact hK h eqM.rfl'
theorem a_lead (p w : Int) : Agree (w_X10_lead 0 p w) (w_X11_lead 33 p w) := agree_q (rLead p w) (lead_C p w) (lead_M p w)
def rSpan (e g : Int) (S : St) : Int := if S.rdC = -1 ∨ ¬ (0 ≤ e ∧ e ≤ 50) then VOID else if g = 0 then w32 (S.fl S.rdC (-e) (S.cv S.rdC S.rdM) (S.terms (S.crule S.rdC) - 2).toNat) else w32 (S.fl S.rdC e (S.cv S.rdC S.rdM) (S.terms (S.crule S.rdC) - 2).toNat)
theorem span_C (e g : Int) (h : Hh) (S : St) (b : Both h S) (K : Int → Hh → Prop) (hK : ∀ h', eqW h h' → K (rSpan e g S) h') : w_X10_span 0 e g h K := by
  unfold rSpan VOID at hK
  unfold w_X10_span w_X10_span_16 w_X10_span_43
  rcases b.rd with ⟨r1, r2⟩ | ⟨r1, r2, r3, r4⟩
  · rw [r2, if_pos rfl]
    rw [if_pos (Or.inl r1)] at hK
    exact hK h eqW.rfl'
  · have x := b.cx r2.chart
    rw [r3, if_neg (by omega), e_isEye]
    by_cases he : 0 ≤ e ∧ e ≤ 50
    · rw [if_pos he, if_pos (by decide), b.c.rdM]
      rw [if_neg (by omega)] at hK
      simp only [Int.reduceAdd]
      refine c_layAsCut x r2 (fun h1 e1 hv => ?_)
      have y := x.keep e1
      have e7 : h1 7 = h 7 := e1.at (by omega) (by omega)
      have cc := y.cc
      rw [e7] at cc
      have cvb : ∀ k, 0 ≤ k → k < S.terms (S.crule S.rdC) - 1 → -10000 ≤ S.cv S.rdC S.rdM k ∧ S.cv S.rdC S.rdM k ≤ 10000 := fun k a1 a2 => cv_bd b.w r2 a1 a2
      by_cases hg : g = 0
      · rw [if_pos hg] at hK ⊢
        rw [w32_id (by omega) (by omega), and_t (by omega)]
        exact c_lastSum cc y.ok y.ht (by omega) (by omega) cvb hv (hK h1 e1)
      · rw [if_neg hg] at hK ⊢
        rw [and_t (by omega)]
        exact c_lastSum cc y.ok y.ht (by omega) (by omega) cvb hv (hK h1 e1)
    · rw [if_neg he, if_neg (by decide)]
      rw [if_pos (Or.inr he)] at hK
      exact hK h eqW.rfl'
theorem span_M (e g : Int) (h : Hh) (S : St) (x : Mx h S) (K : Int → Hh → Prop) (hK : ∀ h', eqM h h' → K (rSpan e g S) h') : w_X11_span 33 e g h K := by
  unfold rSpan VOID at hK
  unfold w_X11_span w_X11_span_20
  rcases x.rd with r1 | ⟨r1, r2⟩
  · rw [x.rep.rdC, if_pos r1]
    rw [if_pos (Or.inl r1)] at hK
    exact hK h eqM.rfl'
  · have ok := x.wf.chart _ r2.chart.1 r2.chart.2
    have rok := x.wf.rule _ ok.rule.1 ok.rule.2
    have ht := rok.terms
    have rch := r2.chart
    have q1 := x.wf.charts
    rw [x.rep.rdC, if_neg r1, e_in]
    by_cases he : 0 ≤ e ∧ e ≤ 50
    · rw [if_pos he, if_pos (by decide)]
      rw [if_neg (by omega)] at hK
      simp only [Int.reduceAdd]
      refine r_takesR x r1 (fun h1 e1 hv => ?_)
      have y := x.keep e1
      have loop : ∀ (k n : Nat) (i : Int) (h : Hh), k < n → 4 - i ≤ k → 0 ≤ i → i ≤ 4 → eqM h1 h → h 64 = h1 64 → (∀ k, 0 ≤ k → k < i → k < S.terms (S.crule S.rdC) - 1 → h 69 k = S.ord S.rdC k) → w_X11_span_34 K (fun u9 u10 h8 => w_X11_spans 33 (h8 33 27) u9 h8 (fun _ h11 => if u10 = 0 then (w_X11_span_88 K 33 (h11 33 50) h11) else (w_X11_span_88 K 33 (h11 33 51) h11))) 33 n e g i h := by
        have fin : ∀ h, eqM h1 h → h 64 = h1 64 → (∀ k, 0 ≤ k → k < S.terms (S.crule S.rdC) - 1 → h 69 k = S.ord S.rdC k) → w_X11_spans 33 (h 33 27) e h (fun _ h11 => if g = 0 then (w_X11_span_88 K 33 (h11 33 50) h11) else (w_X11_span_88 K 33 (h11 33 51) h11)) := by
          intro h e2 e64 ho
          have z := y.keep e2
          rw [z.rep.rdC]
          refine r_spans (v := S.cv S.rdC S.rdM) z rch he ?_ ?_
          · intro k k1 k2
            have o := ok.ord k k1 k2
            rw [ho k k1 k2, e64, hv k k1 k2]
            exact ⟨⟨by omega, by omega⟩, ⟨(dg_bd _ _).1, r2.dig k k1 k2⟩, rfl⟩
          · intro h3 g1 g2 g3 g4
            have e3 : eqM h h3 := fun a k q => by
              by_cases e : a = 33
              · subst e; exact g2 k (fun w => q (by unfold scM; omega)) (fun w => q (by unfold scM; omega))
              · rw [g1 a e]
            have gK := hK h3 ((e1.trans e2).trans e3)
            rw [g3, g4]
            by_cases hg : g = 0
            · rw [if_pos hg] at gK ⊢; exact gK
            · rw [if_neg hg] at gK ⊢; exact gK
        intro k
        induction k with
        | zero =>
          intro n i h hn hk h2 h3 e2 e64 ho
          obtain ⟨n, rfl⟩ : ∃ m, n = m + 1 := ⟨n - 1, by omega⟩
          rw [w_X11_span_34, if_pos (by omega)]
          exact fin h e2 e64 (fun k a1 a2 => ho k a1 (by omega) a2)
        | succ k ih =>
          intro n i h hn hk h2 h3 e2 e64 ho
          obtain ⟨n, rfl⟩ : ∃ m, n = m + 1 := ⟨n - 1, by omega⟩
          rw [w_X11_span_34]
          by_cases hi : i ≥ 4
          · rw [if_pos hi]
            exact fin h e2 e64 (fun k a1 a2 => ho k a1 (by omega) a2)
          · have z := y.keep e2
            rw [if_neg hi, z.rep.rdC, w32_id (z := 4 * S.rdC) (by omega) (by omega), w32_id (z := 4 * S.rdC + i) (by omega) (by omega), and_t (by omega), and_t (by omega)]
            simp only [Int.reduceAdd, vb_p, hb_p]
            rw [w32_id (by omega) (by omega)]
            refine ih n (i + 1) _ (by omega) (by omega) (by omega) (by omega) (e2.up (by unfold scM; omega)) (by rw [up_ne (by omega)]; exact e64) ?_
            intro k2 a1 a2 a3
            rw [up_at]
            by_cases e3 : k2 = i
            · rw [if_pos e3, e3]
              exact z.rep.ord _ i rch.1 rch.2 h2 (by omega)
            · rw [if_neg e3]; exact ho k2 a1 (by omega) a3
      exact loop 5 NF 0 h1 (by decide) (by omega) (by omega) (by omega) eqM.rfl' rfl (fun k a1 a2 => by omega)
    · rw [if_neg he, if_neg (by decide)]
      rw [if_pos (Or.inr he)] at hK
      exact hK h eqM.rfl'
theorem a_span (e g : Int) : Agree (w_X10_span 0 e g) (w_X11_span 33 e g) := agree_q (rSpan e g) (span_C e g) (span_M e g)
