/-! PURE 45: the same walks with sharper frames -/
def scG (a : Int) : Prop := 64 ≤ a ∧ a ≤ 68
def eqG (h h' : Hh) : Prop := ∀ a, ¬ scG a → h' a = h a
theorem eqG.rfl' {h : Hh} : eqG h h := fun _ _ => rfl
theorem eqG.trans {h h1 h2 : Hh} (a : eqG h h1) (b : eqG h1 h2) : eqG h h2 := fun x q => (b x q).trans (a x q)
theorem eqG.up {h h' : Hh} {a k x : Int} (e : eqG h h') (q : scG a) : eqG h (up h' a k x) := fun b hb => by
  rw [up_ne (fun w => hb (by rw [w]; exact q))]
  exact e b hb
theorem eqG.m {h h' : Hh} (e : eqG h h') : eqM h h' := fun a k q => by rw [e a (fun w => q (by unfold scG at w; unfold scM; omega))]
theorem Mx.keepG {h h' : Hh} {S : St} (x : Mx h S) (e : eqG h h') : Mx h' S := x.keep e.m
def eqT (h h' : Hh) : Prop := ∀ a, a ≠ 22 → h' a = h a
theorem eqT.rfl' {h : Hh} : eqT h h := fun _ _ => rfl
theorem eqT.w {h h' : Hh} (e : eqT h h') : eqW h h' := fun a q => e a (fun w => q (by unfold sw; omega))
theorem eqT.up {h h' : Hh} {a k x : Int} (e : eqT h h') (q : a = 22) : eqT h (up h' a k x) := fun b hb => by
  rw [up_ne (fun w => hb (by rw [w]; exact q))]
  exact e b hb
theorem Dk.keepT {h h' : Hh} {S : St} (x : Dk h S) (e : eqT h h') : Dk h' S := x.keep e.w
theorem r_goesG {h0 : Hh} {S : St} {c M d : Int} (x : Mx h0 S) (hr : RdOk S c M) (hm : ∀ k, 0 ≤ k → k < S.terms (S.crule c) - 1 → h0 64 k = dg M (S.terms (S.crule c) - 2 - k)) {K : Int → Hh → Prop}
    (hK : ∀ h, eqG h0 h → (∀ p : Nat, (p : Int) < S.terms (S.crule c) - 2 → h 65 p = S.lf c M d p ∧ h 66 p = S.rt c M d p ∧ h 67 p = S.me c M d p ∧ h 68 p = S.wk c M d (p + 1)) → K (S.f c M d) h) : w_X11_goes 33 c d h0 K := by
  have hc := hr.chart
  have q1 := x.wf.charts
  have q2 := x.wf.rules
  have ok := x.wf.chart c hc.1 hc.2
  have rok := x.wf.rule _ ok.rule.1 ok.rule.2
  have rr := ok.rule
  have ht := rok.terms
  have fb := f_bd x.wf (d := d) hr
  have nv : ∀ (h : Hh) (k : Int), eqG h0 h → 0 ≤ k → k < S.terms (S.crule c) - 1 → ∀ K, w_X11_numberOf 33 c (S.ord c k) (dg M (S.terms (S.crule c) - 2 - k)) d h K = K (S.nv c M d k) h := fun h k e h1 h2 K => by
    have ho := ok.ord k h1 h2
    exact r_numberOf (x.keepG e) hc ⟨by omega, by omega⟩ ⟨(dg_bd _ _).1, hr.dig k h1 h2⟩ K
  unfold w_X11_goes
  generalize hN : NF = N
  have hN2 : N = 20000 := hN.symm
  simp only [Int.reduceAdd]
  have o0 := x.rep.ord c 0 hc.1 hc.2 (by omega) (by omega)
  rw [Int.add_zero] at o0
  rw [w32_id (by omega) (by omega), and_t (by omega), and_t (by omega), o0, hm 0 (by omega) (by omega), nv h0 0 eqG.rfl' (by omega) (by omega)]
  have loop : ∀ (k n : Nat) (p : Nat) (h : Hh), k < n → S.terms (S.crule c) - 2 - p ≤ k → (p : Int) ≤ S.terms (S.crule c) - 2 → eqG h0 h → h 64 = h0 64 → (∀ q : Nat, q < p → h 65 q = S.lf c M d q ∧ h 66 q = S.rt c M d q ∧ h 67 q = S.me c M d q ∧ h 68 q = S.wk c M d (q + 1)) → w_X11_goes_25 K (fun u32 u33 h31 => ((0 : Int) ≤ u32 ∧ (u32 : Int) < 6) ∧ (((0 : Int) ≤ h31 44 u32 ∧ (h31 44 u32 : Int) < 6) ∧ (K (w64 (u33 + (h31 39 (h31 44 u32)))) h31))) 33 n c d (S.wk c M d p) p h := by
    intro k
    induction k with
    | zero =>
      intro n p h hn1 hk hp e e64 hv
      obtain ⟨n, rfl⟩ : ∃ m, n = m + 1 := ⟨n - 1, by omega⟩
      have y := x.keepG e
      rw [w_X11_goes_25, r_pagesOf y hc, if_pos (by omega), y.rep.crule c hc.1 hc.2, y.rep.const _ rr.1 rr.2, and_t (by omega), and_t (by omega)]
      have ep : p = (S.terms (S.crule c) - 2).toNat := by omega
      have : S.wk c M d p + S.const (S.crule c) = S.f c M d := by unfold St.f; rw [ep]
      rw [this, w64_id (by omega) (by omega)]
      exact hK h e (fun q hq => hv q (by omega))
    | succ k ih =>
      intro n p h hn1 hk hp e e64 hv
      obtain ⟨n, rfl⟩ : ∃ m, n = m + 1 := ⟨n - 1, by omega⟩
      have y := x.keepG e
      by_cases hp2 : (p : Int) = S.terms (S.crule c) - 2
      · rw [w_X11_goes_25, r_pagesOf y hc, if_pos (by omega), y.rep.crule c hc.1 hc.2, y.rep.const _ rr.1 rr.2, and_t (by omega), and_t (by omega)]
        have ep : p = (S.terms (S.crule c) - 2).toNat := by omega
        have : S.wk c M d p + S.const (S.crule c) = S.f c M d := by unfold St.f; rw [ep]
        rw [this, w64_id (by omega) (by omega)]
        exact hK h e (fun q hq => hv q (by omega))
      · obtain ⟨p1, p2, p3, p4, p5⟩ := pts_bd x.wf (d := d) hr p (by omega)
        have pb := bak_bd x.wf (c := c) p5
        have o1 := y.rep.ord c (p + 1) hc.1 hc.2 (by omega) (by omega)
        have l1 := ok.left p (by omega) (by omega)
        have r1 := ok.right p (by omega) (by omega)
        have w1 := ok.wide
        have mi := mid_in (W := S.wide c) (l := S.left c p) (r := S.right c p) (by omega) (by omega) (by omega)
        have mb := mul_bd (a := S.rt c M d p - S.lf c M d p) (b := S.mid c p) (A := 800000000) (B := 1000) (by omega) (by unfold St.mid; omega)
        rw [w_X11_goes_25, r_pagesOf y hc, if_neg (by omega), w32_id (z := 4 * c) (by omega) (by omega), w32_id (z := 4 * c + (p : Int)) (by omega) (by omega), w32_id (z := 4 * c + (p : Int) + 1) (by omega) (by omega), w32_id (z := (p : Int) + 1) (by omega) (by omega), and_t (by omega), and_t (by omega)]
        simp only [Int.reduceAdd, hb_p, vb_p]
        rw [show 4 * c + (p : Int) + 1 = 4 * c + ((p : Int) + 1) by omega, o1, e64, hm (p + 1) (by omega) (by omega), nv h (p + 1) e (by omega) (by omega)]
        rw [w32_id (z := 3 * c) (by omega) (by omega), w32_id (z := 3 * c + (p : Int)) (by omega) (by omega), and_t (by omega), y.rep.left c p hc.1 hc.2 (by omega) (by omega), w64_id (by omega) (by omega), r_swells y (by omega) (by omega), and_t (by omega)]
        rw [show S.lie c (S.left c p * S.wk c M d p) = S.lf c M d p from rfl]
        have e1 : eqG h0 (up h 65 p (S.lf c M d p)) := e.up (by unfold scG; omega)
        generalize hh1 : up h 65 p (S.lf c M d p) = h1 at *
        have y1 := x.keepG e1
        rw [y1.rep.right c p hc.1 hc.2 (by omega) (by omega), w64_id (by omega) (by omega), r_swells y1 (by omega) (by omega)]
        rw [show S.lie c (S.right c p * S.nv c M d (p + 1)) = S.rt c M d p from rfl]
        have e2 : eqG h0 (up h1 66 p (S.rt c M d p)) := e1.up (by unfold scG; omega)
        have v65 : (up h1 66 p (S.rt c M d p)) 65 p = S.lf c M d p := by rw [up_ne (by omega), ← hh1, up_at, if_pos rfl]
        have v66 : (up h1 66 p (S.rt c M d p)) 66 p = S.rt c M d p := by rw [up_at, if_pos rfl]
        have z64 : (up h1 66 p (S.rt c M d p)) 64 = h0 64 := by rw [up_ne (by omega), ← hh1, up_ne (by omega)]; exact e64
        have hv2 : ∀ q : Nat, q < p → (up h1 66 p (S.rt c M d p)) 65 q = S.lf c M d q ∧ (up h1 66 p (S.rt c M d p)) 66 q = S.rt c M d q ∧ (up h1 66 p (S.rt c M d p)) 67 q = S.me c M d q ∧ (up h1 66 p (S.rt c M d p)) 68 q = S.wk c M d (q + 1) := fun q hq => by
          obtain ⟨a1, a2, a3, a4⟩ := hv q hq
          rw [up_ne (show (65 : Int) ≠ 66 by omega), up_ne (show (67 : Int) ≠ 66 by omega), up_ne (show (68 : Int) ≠ 66 by omega), up_at, if_neg (by omega), ← hh1, up_at, if_neg (by omega), up_ne (show (66 : Int) ≠ 65 by omega), up_ne (show (67 : Int) ≠ 65 by omega), up_ne (show (68 : Int) ≠ 65 by omega)]
          exact ⟨a1, a2, a3, a4⟩
        generalize hh2 : up h1 66 p (S.rt c M d p) = h2 at *
        have y2 := x.keepG e2
        rw [r_mid y2 hc (by omega), and_t (by omega), v65, v66, y2.rep.wide c hc.1 hc.2, w64_id (z := S.rt c M d p - S.lf c M d p) (by omega) (by omega), w64_id (z := (S.rt c M d p - S.lf c M d p) * S.mid c p) (by omega) (by omega), e_nearM (by omega) (by omega) (by omega)]
        rw [show S.lf c M d p + (2 * ((S.rt c M d p - S.lf c M d p) * S.mid c p) + S.wide c) / (2 * S.wide c) = S.me c M d p from rfl, w64_id (z := S.me c M d p) (by omega) (by omega)]
        have e3 : eqG h0 (up h2 67 p (S.me c M d p)) := e2.up (by unfold scG; omega)
        have y3 := x.keepG e3
        rw [up_at, if_pos rfl]
        refine r_back y3 (by omega) (by omega) ?_
        rw [r_sumAt y3 hc (by omega) (by omega)]
        have ep : ((p : Int) + 1) = ((p + 1 : Nat) : Int) := by omega
        rw [ep, show S.sum c p (S.bak c (S.me c M d p)) = S.wk c M d (p + 1) from rfl]
        refine ih n (p + 1) _ (by omega) (by omega) (by omega) (e3.up (by unfold scG; omega)) (by rw [up_ne (by omega), up_ne (by omega)]; exact z64) ?_
        intro q hq
        have g68 : ∀ z, up (up h2 67 p (S.me c M d p)) 68 p z 68 q = if (q : Int) = p then z else h2 68 q := fun z => by rw [up_at, up_ne (by omega)]
        rw [g68, up_ne (show (65 : Int) ≠ 68 by omega), up_ne (show (66 : Int) ≠ 68 by omega), up_ne (show (67 : Int) ≠ 68 by omega), up_ne (show (65 : Int) ≠ 67 by omega), up_ne (show (66 : Int) ≠ 67 by omega), up_at]
        by_cases eq : q = p
        · subst eq
          rw [if_pos rfl, if_pos rfl]
          exact ⟨v65, v66, rfl, rfl⟩
        · obtain ⟨a1, a2, a3, a4⟩ := hv2 q (by omega)
          rw [if_neg (by omega), if_neg (by omega)]
          exact ⟨a1, a2, a3, a4⟩
  exact loop 5 N 0 h0 (by omega) (by omega) (by omega) eqG.rfl' rfl (fun q hq => by omega)
theorem r_dueOfG {h0 : Hh} {S : St} (x : Mx h0 S) {i : Int} (h1 : 0 ≤ i) (h2 : i < S.reps) {K : Int → Hh → Prop} (hK : ∀ h, eqG h0 h → K (S.due i) h) : w_X11_dueOf 33 i h0 K := by
  have rb := x.wf.reps
  have cb := x.wf.charts
  have r := x.wf.rep i h1 h2
  have rch := r.chart
  have ok := x.wf.chart _ r.chart.1 r.chart.2
  have rok := x.wf.rule _ ok.rule.1 ok.rule.2
  have ht := rok.terms
  unfold w_X11_dueOf
  simp only [Int.reduceAdd]
  rw [w32_id (by omega) (by omega)]
  refine r_takes (by omega) (by omega) (by omega) (by omega) (fun h3 _ k3 hv => ?_)
  have e3 : eqG h0 h3 := fun a ha => k3 a (fun w => ha (by unfold scG; omega))
  have y := x.keepG e3
  rw [and_t (by omega), y.rep.rC i h1 h2, and_t (by omega), y.rep.rD i h1 h2]
  refine r_goesG y r ?_ (fun h4 e4 _ => ?_)
  · intro k a1 a2
    rw [hv k a1 (by omega)]
    exact x.rep.rM i k h1 h2 a1 a2
  · have z := y.keepG e4
    have fb := f_bd x.wf (d := S.rD i) r
    rw [y.rep.crule _ r.chart.1 r.chart.2]
    exact r_tenths z ok.rule (ok.many 0 (by omega) (by omega)) (by omega) (hK h4 (e3.trans e4))
theorem r_countG {h0 : Hh} {S : St} (x : Mx h0 S) {b v v2 v3 v4 v5 : Int} {K : Int → Hh → Prop} {X : Int → Int → Int → Int → Int → Int → Int → Hh → Prop} (hX : ∀ h, eqG h0 h → X b v2 v3 v4 v5 v (S.T b v) h) : w_X11_habitOf_44 K X 33 NF b v2 v3 v4 v5 v 0 0 h0 := by
  have rb := x.wf.reps
  have loop : ∀ (k n : Nat) (i : Nat) (c : Int) (h : Hh), k < n → S.reps - i ≤ k → (i : Int) ≤ S.reps → eqG h0 h → c = S.cn b v i → w_X11_habitOf_44 K X 33 n b v2 v3 v4 v5 v c i h := by
    have fin : ∀ (i : Nat) (c : Int) (h : Hh), (i : Int) = S.reps → eqG h0 h → c = S.cn b v i → X b v2 v3 v4 v5 v c h := by
      intro i c h hi e hc
      rw [hc, show i = S.reps.toNat by omega]
      exact hX h e
    intro k
    induction k with
    | zero =>
      intro n i c h hn hk hi e hc
      obtain ⟨n, rfl⟩ : ∃ m, n = m + 1 := ⟨n - 1, by omega⟩
      have y := x.keepG e
      rw [w_X11_habitOf_44, y.rep.reps, if_pos (by omega)]
      exact fin i c h (by omega) e hc
    | succ k ih =>
      intro n i c h hn hk hi e hc
      obtain ⟨n, rfl⟩ : ∃ m, n = m + 1 := ⟨n - 1, by omega⟩
      have y := x.keepG e
      rw [w_X11_habitOf_44, y.rep.reps]
      by_cases h2 : (i : Int) ≥ S.reps
      · rw [if_pos h2]
        exact fin i c h (by omega) e hc
      · have rs := x.wf.rS i (by omega) (by omega)
        have db := due_bd x.wf (i := i) (by omega) (by omega)
        have cb := cn_bd (S := S) (b := b) (v := v) i
        have nx : ∀ (c' : Int) (h' : Hh), eqG h0 h' → c' = S.cn b v i + (if S.rB i = b ∧ S.due i ≠ -1 ∧ S.rS i - S.due i = v then 1 else 0) → w_X11_habitOf_44 K X 33 n b v2 v3 v4 v5 v c' ((i : Int) + 1) h' := fun c' h' e' hc' => ih n (i + 1) c' h' (by omega) (by omega) (by omega) e' hc'
        rw [if_neg h2, and_t (by omega)]
        simp only [Int.reduceAdd]
        simp only [y.rep.rB i (show (0 : Int) ≤ i by omega) (show (i : Int) < S.reps by omega)]
        unfold w_X11_habitOf_74 w_X11_habitOf_103 w_X11_habitOf_104
        simp only [vb_p, Int.reduceAdd]
        rw [w32_id (z := (i : Int) + 1) (by omega) (by omega), w32_id (z := c + 0) (by omega) (by omega), w32_id (z := c + 1) (by omega) (by omega)]
        by_cases q1 : S.rB i = b
        · rw [if_neg (fun w => w q1)]
          refine r_dueOfG y (by omega) (by omega) (fun h3 e3 => ?_)
          have ee := e.trans e3
          have z := x.keepG ee
          by_cases q2 : S.due i = -1
          · rw [if_pos q2]
            exact nx _ h3 ee (by rw [if_neg (fun w => w.2.1 q2), hc])
          · rw [if_neg q2, and_t (by omega), z.rep.rS i (by omega) (by omega), w32_id (by omega) (by omega)]
            by_cases q3 : S.rS i - S.due i = v
            · rw [if_neg (fun w => w q3)]
              exact nx _ h3 ee (by rw [if_pos ⟨q1, q2, q3⟩, hc])
            · rw [if_pos q3]
              exact nx _ h3 ee (by rw [if_neg (fun w => q3 w.2.2), hc])
        · rw [if_pos q1, if_pos (by decide)]
          exact nx _ h e (by rw [if_neg (fun w => q1 w.1), hc])
  exact loop 61 NF 0 0 h0 (by decide) (by omega) (by omega) eqG.rfl' rfl
theorem r_habitOfG {h0 : Hh} {S : St} (x : Mx h0 S) (b : Int) {K : Int → Hh → Prop} (hK : ∀ h, eqG h0 h → K (S.hab b) h) : w_X11_habitOf 33 b h0 K := by
  unfold w_X11_habitOf
  -- one far: both sides
  have T0 : ∀ v, 0 ≤ S.T b v := fun v => (cn_bd _).1
  have pair : ∀ (X : Int → Int → Int → Int → Hh → Prop) (far g most : Int) (h : Hh), 0 ≤ far → far ≤ 9 → eqG h0 h → (∀ h', eqG h0 h' → X b (if S.T b far > (if S.T b (-far) > most then S.T b (-far) else most) then far else if S.T b (-far) > most then -far else g) (if S.T b far > (if S.T b (-far) > most then S.T b (-far) else most) then S.T b far else if S.T b (-far) > most then S.T b (-far) else most) far h') → w_X11_habitOf_17 K X 33 NF b g most far 0 h := by
    intro X far g most h f1 f2 e hX
    have eN : NF = 19997 + 1 + 1 + 1 := rfl
    generalize hN : (19997 : Nat) = N at eN
    rw [eN, w_X11_habitOf_17, if_neg (by decide), if_neg (by decide), w32_id (by omega) (by omega)]
    unfold w_X11_habitOf_36
    refine r_countG (x.keepG e) (fun h1 e1 => ?_)
    have ee1 := e.trans e1
    unfold w_X11_habitOf_128
    simp only [vb_p, Int.reduceAdd]
    rw [show w32 1 = 1 from rfl]
    have snd : ∀ g1 m1 : Int, (∀ h', eqG h0 h' → X b (if S.T b far > m1 then far else g1) (if S.T b far > m1 then S.T b far else m1) far h') → w_X11_habitOf_17 K X 33 (N + 1 + 1) b g1 m1 far 1 h1 := by
      intro g1 m1 hX1
      rw [w_X11_habitOf_17, if_neg (by decide), if_pos (by decide)]
      unfold w_X11_habitOf_36
      refine r_countG (x.keepG ee1) (fun h2 e2 => ?_)
      have ee2 := ee1.trans e2
      unfold w_X11_habitOf_128
      simp only [vb_p, Int.reduceAdd]
      rw [show w32 2 = 2 from rfl]
      have g := hX1 h2 ee2
      by_cases q : S.T b far > m1
      · rw [if_pos q]
        rw [if_pos q, if_pos q] at g
        rw [w_X11_habitOf_17, if_pos (by decide)]
        exact g
      · rw [if_neg q]
        rw [if_neg q, if_neg q] at g
        rw [w_X11_habitOf_17, if_pos (by decide)]
        exact g
    by_cases q : S.T b (-far) > most
    · rw [if_pos q]
      simp only [if_pos q] at hX
      exact snd _ _ hX
    · rw [if_neg q]
      simp only [if_neg q] at hX
      exact snd _ _ hX
  have loop : ∀ (k n : Nat) (far g most : Int) (h : Hh), k < n → 10 - far = k → 1 ≤ far → far ≤ 10 → g = hbF (S.T b) (far - 1).toNat → most = S.T b g → eqG h0 h → w_X11_habitOf_7 K 33 n b g most far h := by
    intro k
    induction k with
    | zero =>
      intro n far g most h hn hk h1 h2 hg hm e
      obtain ⟨n, rfl⟩ : ∃ m, n = m + 1 := ⟨n - 1, by omega⟩
      have ef : far = 10 := by omega
      subst ef
      rw [w_X11_habitOf_7, if_pos (by omega), hg]
      exact hK h e
    | succ k ih =>
      intro n far g most h hn hk h1 h2 hg hm e
      obtain ⟨n, rfl⟩ : ∃ m, n = m + 1 := ⟨n - 1, by omega⟩
      have nx : hbF (S.T b) (far + 1 - 1).toNat = hbS (S.T b) g far := by
        rw [show (far + 1 - 1).toNat = (far - 1).toNat + 1 by omega]
        show hbS (S.T b) (hbF (S.T b) (far - 1).toNat) (((far - 1).toNat : Nat) + 1) = _
        rw [← hg, show ((((far - 1).toNat : Nat)) : Int) + 1 = far by omega]
      rw [w_X11_habitOf_7, if_neg (by omega)]
      refine pair _ far g most h (by omega) (by omega) e (fun h' e' => ?_)
      simp only [vb_p]
      rw [w32_id (by omega) (by omega)]
      refine ih n (far + 1) _ _ h' (by omega) (by omega) (by omega) (by omega) ?_ ?_ e'
      · rw [nx, hm]
        unfold hbS
        by_cases q : S.T b (-far) > S.T b g
        · simp only [if_pos q]
        · simp only [if_neg q]
      · rw [hm]
        by_cases q : S.T b (-far) > S.T b g
        · simp only [if_pos q]
          by_cases q2 : S.T b far > S.T b (-far)
          · simp only [if_pos q2]
          · simp only [if_neg q2]
        · simp only [if_neg q]
          by_cases q2 : S.T b far > S.T b g
          · simp only [if_pos q2]
          · simp only [if_neg q2]
  have eN : NF = 19999 + 1 := rfl
  generalize hN : (19999 : Nat) = N at eN
  rw [eN, w_X11_habitOf_7, if_neg (by decide)]
  refine pair _ 0 0 0 h0 (by omega) (by omega) eqG.rfl' (fun h' e' => ?_)
  simp only [vb_p]
  rw [w32_id (by omega) (by omega)]
  have t0 := T0 0
  refine loop 9 N _ _ _ h' (by omega) (by omega) (by omega) (by omega) ?_ ?_ e'
  · show _ = (0 : Int)
    simp only [Int.neg_zero, ite_self]
  · simp only [Int.neg_zero, ite_self]
    by_cases q : S.T b 0 > 0
    · simp only [if_pos q]
      rw [if_neg (by omega)]
    · simp only [if_neg q]
      omega
theorem r_standsG {h0 : Hh} {S : St} (x : Mx h0 S) {i bd : Int} (h1 : 0 ≤ i) (h2 : i < S.reps) {K : Int → Hh → Prop} (hK : ∀ h, eqG h0 h → K (S.bad bd i) h) : w_X11_stands 33 i bd h0 K := by
  have rb := x.wf.reps
  have rs := x.wf.rS i h1 h2
  have db := due_bd x.wf h1 h2
  have hb := hab_bd S (S.rB i)
  unfold w_X11_stands
  refine r_dueOfG x h1 h2 (fun h3 e3 => ?_)
  have y := x.keepG e3
  by_cases q : S.due i = -1
  · rw [if_neg (fun w => w q)]
    have g := hK h3 e3
    unfold St.bad at g
    rw [if_pos q] at g
    exact g
  · rw [if_pos q, and_t (by omega)]
    simp only [Int.reduceAdd, vb_p]
    rw [y.rep.rB i h1 h2]
    refine r_habitOfG y _ (fun h4 e4 => ?_)
    have g := hK h4 (e3.trans e4)
    unfold St.bad at g
    rw [if_neg q] at g
    unfold w_X11_stands_47 w_X11_stands_52
    rw [y.rep.rS i h1 h2, w32_id (z := S.rS i - S.due i) (by omega) (by omega), w32_id (z := S.rS i - S.due i - S.hab (S.rB i)) (by omega) (by omega), w32_id (z := -(S.rS i - S.due i - S.hab (S.rB i))) (by omega) (by omega)]
    by_cases q1 : S.rS i - S.due i - S.hab (S.rB i) > bd
    · rw [if_pos q1]; rw [if_pos (Or.inl q1)] at g; exact g
    · rw [if_neg q1]
      by_cases q2 : -(S.rS i - S.due i - S.hab (S.rB i)) > bd
      · rw [if_neg (by omega)]; rw [if_pos (Or.inr q2)] at g; exact g
      · rw [if_pos (by omega)]; rw [if_neg (by omega)] at g; exact g
theorem c_habitOfT {h0 : Hh} {S : St} (x : Dk h0 S) (b : Int) {K : Int → Hh → Prop} (hK : ∀ h, eqT h0 h → K (S.hab b) h) : w_X6_habitOf 15 b h0 K := by
  have rb := x.b.w.reps
  unfold w_X6_habitOf
  simp only [Int.reduceAdd]
  refine c_fill (by omega) (by omega) (fun h1 k0 k1 => ?_)
  have e1 : eqT h0 h1 := fun a ha => k0 a (fun w => ha w)
  -- the search through the tally
  have look : ∀ (h : Hh), eqT h0 h → (∀ v, -9 ≤ v → v ≤ 9 → h 22 (9 + v) = S.T b v) → ∀ (k n : Nat) (far g : Int), k < n → 10 - far = k → 1 ≤ far → far ≤ 10 → g = hbF (S.T b) (far - 1).toNat → w_X6_habitOf_84 K 15 n g far h := by
    intro h e ht k
    induction k with
    | zero =>
      intro n far g hn hk h1 h2 hg
      obtain ⟨n, rfl⟩ : ∃ m, n = m + 1 := ⟨n - 1, by omega⟩
      have ef : far = 10 := by omega
      subst ef
      rw [w_X6_habitOf_84, if_pos (by omega), hg]
      exact hK h e
    | succ k ih =>
      intro n far g hn hk h1 h2 hg
      obtain ⟨n, rfl⟩ : ∃ m, n = m + 1 := ⟨n - 1, by omega⟩
      have gb := hbF_bd (S.T b) (far - 1).toNat
      rw [← hg] at gb
      have nx : hbF (S.T b) (far + 1 - 1).toNat = hbS (S.T b) g far := by
        rw [show (far + 1 - 1).toNat = (far - 1).toNat + 1 by omega]
        show hbS (S.T b) (hbF (S.T b) (far - 1).toNat) (((far - 1).toNat : Nat) + 1) = _
        rw [← hg, show ((((far - 1).toNat : Nat)) : Int) + 1 = far by omega]
      rw [w_X6_habitOf_84, if_neg (by omega), w32_id (z := 9 - far) (by omega) (by omega), and_t (by omega), w32_id (z := 9 + g) (by omega) (by omega), and_t (by omega)]
      simp only [Int.reduceAdd, w_X6_habitOf_114, w_X6_habitOf_137, vb_p]
      have tm : h 22 (9 - far) = S.T b (-far) := ht (-far) (by omega) (by omega)
      have tp : h 22 (9 + far) = S.T b far := ht far (by omega) (by omega)
      have tg : h 22 (9 + g) = S.T b g := ht g (by omega) (by omega)
      have sec : ∀ g1, -9 ≤ g1 → g1 ≤ 9 → (if S.T b far > S.T b g1 then far else g1) = hbS (S.T b) g far → ((0 ≤ w32 (9 + far) ∧ w32 (9 + far) < 19) ∧ (0 ≤ w32 (9 + g1) ∧ w32 (9 + g1) < 19) ∧ if h 22 (w32 (9 + far)) ≤ h 22 (w32 (9 + g1)) then w_X6_habitOf_84 K 15 n g1 (w32 (far + 1)) h else w_X6_habitOf_84 K 15 n far (w32 (far + 1)) h) := by
        intro g1 g2 g3 hs
        rw [w32_id (z := 9 + far) (by omega) (by omega), w32_id (z := 9 + g1) (by omega) (by omega), w32_id (z := far + 1) (by omega) (by omega)]
        refine ⟨by omega, by omega, ?_⟩
        rw [tp, ht g1 g2 g3]
        by_cases q : S.T b far > S.T b g1
        · rw [if_neg (by omega)]
          rw [if_pos q] at hs
          exact ih n (far + 1) far (by omega) (by omega) (by omega) (by omega) (by rw [nx]; exact hs)
        · rw [if_pos (by omega)]
          rw [if_neg q] at hs
          exact ih n (far + 1) g1 (by omega) (by omega) (by omega) (by omega) (by rw [nx]; exact hs)
      rw [tm, tg]
      by_cases q : S.T b (-far) > S.T b g
      · rw [if_neg (by omega), w32_id (z := -far) (by omega) (by omega)]
        refine sec (-far) (by omega) (by omega) ?_
        unfold hbS
        rw [if_pos q]
      · rw [if_pos (by omega)]
        refine sec g (by omega) (by omega) ?_
        unfold hbS
        rw [if_neg q]
  have count : ∀ (k n : Nat) (i : Nat) (h : Hh), k < n → S.reps - i ≤ k → (i : Int) ≤ S.reps → eqT h0 h → (∀ v, -9 ≤ v → v ≤ 9 → h 22 (9 + v) = S.cn b v i) → w_X6_habitOf_10 K (fun h9 => w_X6_habitOf_84 K 15 NF 0 1 h9) 15 n b i h := by
    have fin : ∀ (i : Nat) (h : Hh), (i : Int) = S.reps → eqT h0 h → (∀ v, -9 ≤ v → v ≤ 9 → h 22 (9 + v) = S.cn b v i) → w_X6_habitOf_84 K 15 NF 0 1 h := by
      intro i h hi e ht
      exact look h e (fun v v1 v2 => by rw [ht v v1 v2]; unfold St.T; rw [show i = S.reps.toNat by omega]) 9 NF 1 0 (by decide) (by omega) (by omega) (by omega) rfl
    intro k
    induction k with
    | zero =>
      intro n i h hn hk hi e ht
      obtain ⟨n, rfl⟩ : ∃ m, n = m + 1 := ⟨n - 1, by omega⟩
      have y := x.keepT e
      rw [w_X6_habitOf_10, y.b.c.reps, if_pos (by omega)]
      exact fin i h (by omega) e ht
    | succ k ih =>
      intro n i h hn hk hi e ht
      obtain ⟨n, rfl⟩ : ∃ m, n = m + 1 := ⟨n - 1, by omega⟩
      have y := x.keepT e
      rw [w_X6_habitOf_10, y.b.c.reps]
      by_cases h2 : (i : Int) ≥ S.reps
      · rw [if_pos h2]
        exact fin i h (by omega) e ht
      · have rs := x.b.w.rS i (by omega) (by omega)
        have db := due_bd x.b.w (i := i) (by omega) (by omega)
        rw [if_neg h2, and_t (by omega)]
        simp only [Int.reduceAdd, vb_p, hb_p, w_X6_habitOf_74]
        simp only [y.b.c.rS i (show (0 : Int) ≤ i by omega) (show (i : Int) < S.reps by omega), y.b.c.rB i (show (0 : Int) ≤ i by omega) (show (i : Int) < S.reps by omega), y.d i (show (0 : Int) ≤ i by omega) (show (i : Int) < S.reps by omega)]
        rw [w32_id (z := S.rS i - S.due i) (by omega) (by omega), w32_id (z := (i : Int) + 1) (by omega) (by omega), e_absI (by omega)]
        have step : ∀ h', eqT h0 h' → (∀ v, -9 ≤ v → v ≤ 9 → h' 22 (9 + v) = S.cn b v (i + 1)) → w_X6_habitOf_10 K (fun h9 => w_X6_habitOf_84 K 15 NF 0 1 h9) 15 n b ((i : Int) + 1) h' := fun h' e' ht' => ih n (i + 1) h' (by omega) (by omega) (by omega) e' ht'
        have same : (∀ v, -9 ≤ v → v ≤ 9 → ¬ (S.rB i = b ∧ S.due i ≠ -1 ∧ S.rS i - S.due i = v)) → w_X6_habitOf_10 K (fun h9 => w_X6_habitOf_84 K 15 NF 0 1 h9) 15 n b ((i : Int) + 1) h := fun hn => step h e (fun v v1 v2 => by
          show _ = S.cn b v i + _
          rw [if_neg (hn v v1 v2), ht v v1 v2, Int.add_zero])
        by_cases q1 : S.rB i = b
        · rw [if_neg (fun w => w q1)]
          by_cases q2 : S.due i = -1
          · rw [if_pos q2]
            exact same (fun v _ _ w => w.2.1 q2)
          · rw [if_neg q2]
            by_cases q3 : (if 0 ≤ S.rS i - S.due i then S.rS i - S.due i else -(S.rS i - S.due i)) > 9
            · rw [if_pos q3]
              refine same (fun v v1 v2 w => ?_)
              have := w.2.2
              split at q3 <;> omega
            · rw [if_neg q3]
              have vb : -9 ≤ S.rS i - S.due i ∧ S.rS i - S.due i ≤ 9 := by split at q3 <;> omega
              have cb := cn_bd (S := S) (b := b) (v := S.rS i - S.due i) i
              rw [w32_id (z := 9 + (S.rS i - S.due i)) (by omega) (by omega), and_t (by omega), ht _ vb.1 vb.2, w32_id (by omega) (by omega)]
              refine step _ (e.up rfl) (fun v v1 v2 => ?_)
              rw [up_at]
              show _ = S.cn b v i + _
              by_cases ev : v = S.rS i - S.due i
              · rw [if_pos (by omega), if_pos ⟨q1, q2, ev.symm⟩, ev]
              · rw [if_neg (by omega), if_neg (fun w => ev w.2.2.symm), ht v v1 v2, Int.add_zero]
        · rw [if_pos q1]
          exact same (fun v _ _ w => q1 w.1)
  exact count 61 NF 0 h1 (by decide) (by omega) (by omega) e1 (fun v v1 v2 => k1 _ (by omega) (by omega))
theorem c_isBadT {h0 : Hh} {S : St} (x : Dk h0 S) {i bd : Int} (h1 : 0 ≤ i) (h2 : i < S.reps) {K : Int → Hh → Prop} (hK : ∀ h, eqT h0 h → K (if S.bad bd i = 1 then 1 else 0) h) : w_X6_isBad 15 i bd h0 K := by
  have rb := x.b.w.reps
  have rs := x.b.w.rS i h1 h2
  have db := due_bd x.b.w h1 h2
  have hb := hab_bd S (S.rB i)
  unfold w_X6_isBad w_X6_isBad_18
  rw [e_has, x.b.c.reps, if_pos (show 0 ≤ i ∧ i < S.reps from ⟨h1, h2⟩), if_neg (by decide), and_t (by omega)]
  simp only [Int.reduceAdd, vb_p]
  simp only [x.d i h1 h2, x.b.c.rB i h1 h2]
  by_cases q : S.due i = -1
  · rw [if_neg (fun w => w q)]
    have g := hK h0 eqT.rfl'
    unfold St.bad at g
    rw [if_pos q, if_neg (by decide)] at g
    exact g
  · rw [if_pos q]
    refine c_habitOfT x _ (fun h e => ?_)
    have y := x.keepT e
    have g := hK h e
    unfold St.bad at g
    rw [if_neg q] at g
    rw [y.b.c.rS i h1 h2, w32_id (z := S.due i + S.hab (S.rB i)) (by omega) (by omega), w32_id (by omega) (by omega), e_absI (by omega)]
    unfold w_X6_isBad_58
    by_cases q2 : S.rS i - S.due i - S.hab (S.rB i) > bd ∨ -(S.rS i - S.due i - S.hab (S.rB i)) > bd
    · rw [if_pos q2, if_pos rfl] at g
      rw [if_neg (by split <;> omega), and_t (Or.inr rfl)]
      exact g
    · rw [if_neg q2, if_neg (by decide)] at g
      rw [if_pos (by split <;> omega), and_t (Or.inl rfl)]
      exact g
theorem c_refreshE {h0 : Hh} {S : St} (b : Both h0 S) {K : Int → Hh → Prop} (hK : ∀ h, eqC h0 h → Both h S → h 15 8 = S.reps → (∀ i, 0 ≤ i → i < S.reps → h 21 i = S.due i) → K 0 h) : w_X10_refreshDues 0 h0 K := by
  unfold w_X10_refreshDues
  simp only [vb_p, Int.reduceAdd]
  have rb := b.w.reps
  have kn := b.d.known
  have loop : ∀ (k n : Nat) (i : Int) (h : Hh), k < n → S.reps - i ≤ k → 0 ≤ i → i ≤ S.reps → h0 15 8 ≤ i → eqC h0 h → h 15 8 = h0 15 8 → (∀ j, 0 ≤ j → j < i → h 21 j = S.due j) → w_X10_refreshDues_8 K 0 n i h := by
    have fin : ∀ (i : Int) (h : Hh), i = S.reps → eqC h0 h → (∀ j, 0 ≤ j → j < i → h 21 j = S.due j) → K 0 (up h 15 8 S.reps) := by
      intro i h hi e hd
      subst hi
      have e2 : eqC h0 (up h 15 8 S.reps) := e.up (by unfold scC; omega)
      have d : ∀ j, 0 ≤ j → j < S.reps → (up h 15 8 S.reps) 21 j = S.due j := fun j j1 j2 => by rw [up_ne (by decide)]; exact hd j j1 j2
      have k8 : (up h 15 8 S.reps) 15 8 = S.reps := by rw [up_at, if_pos rfl]
      exact hK _ e2 ⟨b.c.keep b.w e2.sc, b.m.keep e2.sm, b.w, ⟨by omega, fun j j1 j2 => d j j1 (by omega)⟩⟩ k8 d
    intro k
    induction k with
    | zero =>
      intro n i h hn hk h1 h2 h3 e e8 hd
      obtain ⟨n, rfl⟩ : ∃ m, n = m + 1 := ⟨n - 1, by omega⟩
      have rc := b.c.keep b.w e.sc
      rw [w_X10_refreshDues_8]
      simp only [Int.reduceAdd, hb_p, rc.reps]
      rw [if_pos (by omega)]
      exact fin i h (by omega) e hd
    | succ k ih =>
      intro n i h hn hk h1 h2 h3 e e8 hd
      obtain ⟨n, rfl⟩ : ∃ m, n = m + 1 := ⟨n - 1, by omega⟩
      have rc := b.c.keep b.w e.sc
      rw [w_X10_refreshDues_8]
      simp only [Int.reduceAdd, hb_p, rc.reps]
      by_cases h4 : i ≥ S.reps
      · rw [if_pos h4]
        exact fin i h (by omega) e hd
      · rw [if_neg h4, and_t (by omega), rc.rC i h1 (by omega)]
        have r := b.w.rep i h1 (by omega)
        have bh : Both h S := ⟨rc, b.m.keep e.sm, b.w, ⟨by omega, fun j j1 j2 => hd j j1 (by omega)⟩⟩
        have x := bh.cx r.chart
        have ca := x.ca
        have ra := x.ra
        rw [b_chartAt bh, if_pos r.chart, if_pos (by omega), and_t (by omega), rc.rM i h1 (by omega), rc.rD i h1 (by omega)]
        refine c_readAsKnown x r (fun h2 e2 => ?_)
        have y := x.keep e2
        have e6 : h2 6 = h 6 := e2.at (by omega) (by omega)
        have rcl := y.rc
        rw [e6] at rcl
        have fb := f_bd b.w (d := S.rD i) r
        rw [x.cc.rule, and_t (by omega), c_tenthsOf rcl y.rok (by omega)]
        unfold w_X10_refreshDues_79
        simp only [hb_p, vb_p]
        rw [and_t (by omega), and_t (by omega), w32_id (by omega) (by omega)]
        have ed : tnn (S.sc (S.crule (S.rC i))) (S.scn (S.crule (S.rC i))) (S.f (S.rC i) (S.rM i) (S.rD i)) = S.due i := rfl
        rw [ed]
        refine ih n (i + 1) _ (by omega) (by omega) (by omega) (by omega) (by omega) ((e.trans e2.c).up (by unfold scC; omega)) (by rw [up_ne (by decide), e2.at (by decide) (by decide)]; exact e8) (fun j j1 j2 => ?_)
        rw [up_at]
        by_cases ej : j = i
        · rw [if_pos ej, ej]
        · rw [if_neg ej, e2.at (by decide) (by decide)]; exact hd j j1 (by omega)
  exact loop 61 NF _ h0 (by decide) (by omega) (by omega) (by omega) (by omega) eqC.rfl' rfl b.d.due
