/-! PURE 47: suspects: the class sorts its reports -/
theorem iO_bd {S : St} (w : WF S) {c i : Int} (hc : 0 ≤ c ∧ c < S.charts) (hr : RdOk S c (S.rM i)) {p : Int} (p0 : 0 ≤ p) (p1 : p < S.terms (S.crule c) - 1) : (1 ≤ S.ord c p ∧ S.ord c p < S.terms (S.crule c)) ∧ (0 ≤ dg (S.rM i) (S.terms (S.crule c) - 2 - p) ∧ dg (S.rM i) (S.terms (S.crule c) - 2 - p) < 40 ∧ dg (S.rM i) (S.terms (S.crule c) - 2 - p) < S.many (S.crule c) (S.ord c p)) ∧ 40 ≤ S.iO c i p ∧ S.iO c i p < 200 := by
  have ok := w.chart c hc.1 hc.2
  have rok := w.rule _ ok.rule.1 ok.rule.2
  have tt := rok.terms
  have od := ok.ord p p0 p1
  have dd := hr.dig p p0 p1
  have db := dg_bd (S.rM i) (S.terms (S.crule c) - 2 - p)
  have ml := many_le rok (t := S.ord c p) (by omega) (by omega)
  unfold St.iO
  omega
theorem c_addH {h0 : Hh} {S : St} {c i bad nb : Int} {old : Int → Int} (x : Cx4 h0 S c) (hr : RdOk S c (S.rM i)) (hbc : h0 28 4 = nb) (hnb : 0 ≤ nb) (hn60 : nb < 60) (h29 : ∀ id, 0 ≤ id → id < 200 → h0 29 id = old id) {K : Int → Hh → Prop} (hK : ∀ h, (∀ a, a ≠ 28 → a ≠ 29 → a ≠ 30 → h a = h0 a) → h 28 4 = (if bad = 0 then nb else nb + 1) → (∀ id, 0 ≤ id → id < 200 → h 29 id = S.sp c i bad old (S.terms (S.crule c) - 1).toNat id) → (∀ j, j < 4 * nb → h 30 j = h0 30 j) → (bad ≠ 0 → ∀ p, 0 ≤ p → p < S.terms (S.crule c) - 1 → h 30 (4 * nb + p) = S.iO c i p) → K 0 h) : w_X2_add 28 (h0 7 c) (S.rM i) bad h0 K := by
  have tt := x.ht
  have ca := x.ca
  have ok := x.ok
  have rok := x.rok
  have eqw : ∀ h : Hh, (∀ a, a ≠ 28 → a ≠ 29 → a ≠ 30 → h a = h0 a) → eqW h0 h := fun h k0 a ha => k0 a (fun w => ha (by unfold sw; omega)) (fun w => ha (by unfold sw; omega)) (fun w => ha (by unfold sw; omega))
  have loop : ∀ (X : Int → Hh → Prop), (∀ h, (∀ a, a ≠ 28 → a ≠ 29 → a ≠ 30 → h a = h0 a) → h 28 = h0 28 → (∀ id, 0 ≤ id → id < 200 → h 29 id = S.sp c i bad old (S.terms (S.crule c) - 1).toNat id) → (∀ j, j < 4 * nb → h 30 j = h0 30 j) → (bad ≠ 0 → ∀ p, 0 ≤ p → p < S.terms (S.crule c) - 1 → h 30 (4 * nb + p) = S.iO c i p) → X bad h) → ∀ (k n p : Nat) (z : Int) (h : Hh), z = p → k < n → S.terms (S.crule c) - 1 - p = k → (∀ a, a ≠ 28 → a ≠ 29 → a ≠ 30 → h a = h0 a) → h 28 = h0 28 → (∀ id, 0 ≤ id → id < 200 → h 29 id = S.sp c i bad old p id) → (∀ j, j < 4 * nb → h 30 j = h0 30 j) → (bad ≠ 0 → ∀ q : Int, 0 ≤ q → q < (p : Int) → h 30 (4 * nb + q) = S.iO c i q) → w_X2_add_17 K X 28 n (h0 7 c) (S.rM i) bad z h := by
    intro X hX k
    induction k with
    | zero =>
      intro n p z h hz hn hk k0 k28 k29 k30 k31
      obtain ⟨n, rfl⟩ : ∃ m, n = m + 1 := ⟨n - 1, by omega⟩
      have cc := (x.keep (eqw h k0)).cc
      rw [k0 7 (by decide) (by decide) (by decide)] at cc
      rw [w_X2_add_17, and_t (by omega), cc.size, if_pos (by omega)]
      have ep : p = (S.terms (S.crule c) - 1).toNat := by omega
      rw [ep] at k29
      exact hX h k0 k28 k29 k30 (fun b q q0 q1 => k31 b q q0 (by omega))
    | succ k ih =>
      intro n p z h hz hn hk k0 k28 k29 k30 k31
      obtain ⟨n, rfl⟩ : ∃ m, n = m + 1 := ⟨n - 1, by omega⟩
      have y := x.keep (eqw h k0)
      have cc := y.cc
      rw [k0 7 (by decide) (by decide) (by decide)] at cc
      obtain ⟨od, dd, ib⟩ := iO_bd x.wf x.c0 hr (p := z) (by omega) (by omega)
      have hz5 : w32 (w32 (S.ord c z * 40) + dg (S.rM i) (S.terms (S.crule c) - 2 - z)) = S.iO c i z := by
        rw [w32_id (z := S.ord c z * 40) (by omega) (by omega), w32_id (by omega) (by omega)]
        rfl
      have nx : ∀ h', (∀ a, a ≠ 28 → a ≠ 29 → a ≠ 30 → h' a = h0 a) → h' 28 = h0 28 → (∀ id, 0 ≤ id → id < 200 → h' 29 id = S.sp c i bad old (p + 1) id) → (∀ j, j < 4 * nb → h' 30 j = h0 30 j) → (bad ≠ 0 → ∀ q, 0 ≤ q → q < ((p + 1 : Nat) : Int) → h' 30 (4 * nb + q) = S.iO c i q) → w_X2_add_107 K (w_X2_add_17 K X 28 n) X 28 (h0 7 c) (S.rM i) bad z h' := by
        intro h' q0 q1 q2 q3 q4
        unfold w_X2_add_107
        rw [vb_p, w32_id (by omega) (by omega)]
        exact ih n (p + 1) (z + 1) h' (by omega) (by omega) (by omega) q0 q1 q2 q3 q4
      have n86 : ∀ s0, s0 = (if bad = 0 then 2 else if S.sp c i bad old p (S.iO c i z) < 1 then 1 else S.sp c i bad old p (S.iO c i z)) → w_X2_add_86 K (w_X2_add_17 K X 28 n) X 28 (h0 7 c) (S.rM i) bad z (S.iO c i z) s0 (S.iO c i z) 29 200 h := by
        intro s0 hs0
        have s29 : ∀ id, 0 ≤ id → id < 200 → up h 29 (S.iO c i z) s0 29 id = S.sp c i bad old (p + 1) id := by
          intro id i0 i1
          show _ = fup (S.sp c i bad old p) (S.iO c i (p : Int)) (if bad = 0 then 2 else if S.sp c i bad old p (S.iO c i (p : Int)) < 1 then 1 else S.sp c i bad old p (S.iO c i (p : Int))) id
          rw [← hz, up_at]
          by_cases e : id = S.iO c i z
          · rw [if_pos e, e, fup_at]; exact hs0
          · rw [if_neg e, fup_ne e]; exact k29 id i0 i1
        unfold w_X2_add_86 w_X2_add_87
        rw [and_t (by omega), and_t (by omega), hb_p]
        by_cases b0 : bad = 0
        · rw [if_pos b0]
          exact nx _ (fun a a1 a2 a3 => by rw [up_ne a2]; exact k0 a a1 a2 a3) (by rw [up_ne (by decide)]; exact k28) s29 (fun j hj => by rw [up_ne (by decide)]; exact k30 j hj) (fun b => (b b0).elim)
        · simp only [Int.reduceAdd]
          rw [if_neg b0, up_ne (show (28 : Int) ≠ 29 by decide), k28, hbc, w32_id (z := nb * 4) (by omega) (by omega), w32_id (z := nb * 4 + z) (by omega) (by omega), and_t (by omega), hb_p]
          refine nx _ (fun a a1 a2 a3 => by rw [up_ne a3, up_ne a2]; exact k0 a a1 a2 a3) (by rw [up_ne (by decide), up_ne (by decide)]; exact k28) (fun id i0 i1 => by rw [up_ne (by decide)]; exact s29 id i0 i1) (fun j hj => ?_) (fun b q q0 q1 => ?_)
          · rw [up_at, if_neg (by omega), up_ne (by decide)]; exact k30 j hj
          · rw [up_at]
            by_cases e : q = z
            · rw [if_pos (by omega), e]
            · rw [if_neg (by omega), up_ne (by decide)]; exact k31 b q q0 (by omega)
      rw [w_X2_add_17, and_t (by omega), cc.size, if_neg (by omega), and_t (by omega), c_markAt cc tt hr.pos (by omega) (by omega), cc.ord z (by omega) (by omega), vb_p, hz5, if_neg (by omega), if_neg (by omega)]
      simp only [Int.reduceAdd]
      by_cases b0 : bad = 0
      · rw [if_pos b0]
        exact n86 2 (by rw [if_pos b0])
      · rw [if_neg b0, and_t (by omega), e_maxI, k29 _ (by omega) (by omega)]
        exact n86 _ (by rw [if_neg b0])
  have start := loop (fun u16 h15 => if u16 = 0 then (w_X2_add_127 K 28 h15) else (hb (up h15 28 4 (w32 ((h15 28 4) + 1))) fun h17 => w_X2_add_127 K 28 h17)) (fun h k0 k28 k29 k30 k31 => by
    show if bad = 0 then _ else _
    by_cases b0 : bad = 0
    · rw [if_pos b0]
      exact hK h k0 (by rw [k28, if_pos b0]; exact hbc) k29 k30 k31
    · rw [if_neg b0, hb_p, k28, hbc, w32_id (by omega) (by omega)]
      refine hK _ (fun a a1 a2 a3 => by rw [up_ne a1]; exact k0 a a1 a2 a3) (by rw [up_at, if_pos rfl, if_neg b0]) (fun id i0 i1 => by rw [up_ne (by decide)]; exact k29 id i0 i1) (fun j hj => by rw [up_ne (by decide)]; exact k30 j hj) (fun b q q0 q1 => by rw [up_ne (by decide)]; exact k31 b q q0 q1)) (S.terms (S.crule c) - 1).toNat NF 0 0 h0 rfl (by rw [NF_eq]; omega) (by omega) (fun _ _ _ _ => rfl) rfl h29 (fun _ _ => rfl) (fun _ q q0 q1 => by omega)
  unfold w_X2_add w_X2_add_14
  by_cases b0 : bad = 0
  · rw [if_pos b0]
    exact start
  · rw [if_neg b0, hbc, if_pos (by omega)]
    exact start
/-- what the sorted reports hold -/
def Srt (h : Hh) (S : St) (c bd : Int) : Prop := (h 28 4 = (S.bf c bd S.reps.toNat).1) ∧ (∀ id, 0 ≤ id → id < 200 → (h 29 id = 1 ↔ S.sus c bd id)) ∧ (∀ b p, 0 ≤ b → b < (S.bf c bd S.reps.toNat).1 → 0 ≤ p → p < S.terms (S.crule c) - 1 → h 30 (4 * b + p) = S.iO c ((S.bf c bd S.reps.toNat).2 b) p)
theorem Srt.nb {h : Hh} {S : St} {c bd : Int} (x__ : Srt h S c bd) : h 28 4 = (S.bf c bd S.reps.toNat).1 := x__.1
theorem Srt.seen {h : Hh} {S : St} {c bd : Int} (x__ : Srt h S c bd) : ∀ id, 0 ≤ id → id < 200 → (h 29 id = 1 ↔ S.sus c bd id) := x__.2.1
theorem Srt.marks {h : Hh} {S : St} {c bd : Int} (x__ : Srt h S c bd) : ∀ b p, 0 ≤ b → b < (S.bf c bd S.reps.toNat).1 → 0 ≤ p → p < S.terms (S.crule c) - 1 → h 30 (4 * b + p) = S.iO c ((S.bf c bd S.reps.toNat).2 b) p := x__.2.2
theorem Srt.mk' {h : Hh} {S : St} {c bd : Int} (nb__ : h 28 4 = (S.bf c bd S.reps.toNat).1) (seen__ : ∀ id, 0 ≤ id → id < 200 → (h 29 id = 1 ↔ S.sus c bd id)) (marks__ : ∀ b p, 0 ≤ b → b < (S.bf c bd S.reps.toNat).1 → 0 ≤ p → p < S.terms (S.crule c) - 1 → h 30 (4 * b + p) = S.iO c ((S.bf c bd S.reps.toNat).2 b) p) : Srt h S c bd := ⟨nb__, seen__, marks__⟩
theorem c_sort {h0 : Hh} {S : St} {c bd : Int} (x : Dk h0 S) (hc : 0 ≤ c ∧ c < S.charts) {K : Int → Hh → Prop} (hK : ∀ h, eqW h0 h → Srt h S c bd → K 0 h) : w_X10_sortReports 0 (h0 7 c) bd h0 K := by
  have rb := x.b.w.reps
  have cx := x.b.cx hc
  have tt := cx.ht
  have ca := cx.ca
  unfold w_X10_sortReports w_X2_startOver
  simp only [Int.reduceAdd]
  refine c_fill (by omega) (by omega) (fun h1 k0 k1 => ?_)
  rw [hb_p]
  have loop : ∀ (k n i : Nat) (z : Int) (h : Hh), z = i → k < n → S.reps - i = k → eqW h0 h → h 28 4 = (S.bf c bd i).1 → (∀ id, 0 ≤ id → id < 200 → h 29 id = S.sn c bd i id) → (∀ b p, 0 ≤ b → b < (S.bf c bd i).1 → 0 ≤ p → p < S.terms (S.crule c) - 1 → h 30 (4 * b + p) = S.iO c ((S.bf c bd i).2 b) p) → w_X10_sortReports_9 K 0 n (h0 7 c) bd z h := by
    intro k
    induction k with
    | zero =>
      intro n i z h hz hn hk e a1 a2 a3
      obtain ⟨n, rfl⟩ : ∃ m, n = m + 1 := ⟨n - 1, by omega⟩
      have y := x.keep e
      rw [w_X10_sortReports_9]
      simp only [Int.reduceAdd]
      rw [y.b.c.reps, if_pos (by omega)]
      have ei : i = S.reps.toNat := by omega
      subst ei
      exact hK h e ⟨a1, fun id i0 i1 => by rw [a2 id i0 i1]; exact sn_sus tt.1 rb.1 id, a3⟩
    | succ k ih =>
      intro n i z h hz hn hk e a1 a2 a3
      obtain ⟨n, rfl⟩ : ∃ m, n = m + 1 := ⟨n - 1, by omega⟩
      have y := x.keep e
      have cc := (cx.keep e).cc
      have h7 : h 7 c = h0 7 c := by rw [e.at (by decide) (by decide)]
      rw [h7] at cc
      have bo := (bf_ok (S := S) (c := c) (bd := bd) i).1
      have nx : ∀ h', eqW h0 h' → h' 28 4 = (S.bf c bd (i + 1)).1 → (∀ id, 0 ≤ id → id < 200 → h' 29 id = S.sn c bd (i + 1) id) → (∀ b p, 0 ≤ b → b < (S.bf c bd (i + 1)).1 → 0 ≤ p → p < S.terms (S.crule c) - 1 → h' 30 (4 * b + p) = S.iO c ((S.bf c bd (i + 1)).2 b) p) → w_X10_sortReports_75 K (w_X10_sortReports_9 K 0 n) 0 (h0 7 c) bd z h' := by
        intro h' e' q1 q2 q3
        unfold w_X10_sortReports_75
        rw [vb_p, w32_id (by omega) (by omega)]
        exact ih n (i + 1) (z + 1) h' (by omega) (by omega) (by omega) e' q1 q2 q3
      rw [w_X10_sortReports_9]
      simp only [Int.reduceAdd]
      rw [y.b.c.reps, if_neg (by omega), and_t (by omega), and_t (by omega), y.b.c.rC z (by omega) (by omega), cc.number, y.d z (by omega) (by omega), y.b.c.rM z (by omega) (by omega)]
      have no : ¬ (S.rC z = c ∧ S.due z ≠ -1) → w_X10_sortReports_75 K (w_X10_sortReports_9 K 0 n) 0 (h0 7 c) bd z h := by
        intro q
        rw [hz] at q
        have nB : ¬ S.isB c bd i := fun w => q ⟨w.1, fun w' => by
          rcases bad3 S bd i with u | u
          · have := w.2; omega
          · exact u.1 w'⟩
        have es : S.sn c bd (i + 1) = S.sn c bd i := if_neg q
        exact nx h e (by rw [bf_s0 nB]; exact a1) (by rw [es]; exact a2) (by rw [bf_s0 nB]; exact a3)
      by_cases q1 : S.rC z = c
      · rw [if_neg (fun w => w q1)]
        by_cases q2 : S.due z = -1
        · rw [if_pos q2]
          exact no (fun w => w.2 q2)
        · rw [if_neg q2]
          refine c_isBadT y (by omega) (by omega) (fun h2 e2 => ?_)
          have hr := x.b.w.rep z (by omega) (by omega)
          rw [q1] at hr
          have e3 := e.trans e2.w
          have cx2 := cx.keep e3
          have h72 : h0 7 c = h2 7 c := by rw [e3.at (by decide) (by decide)]
          rw [h72]
          refine c_addH cx2 (nb := (S.bf c bd i).1) (old := S.sn c bd i) hr (by rw [e2 28 (by decide)]; exact a1) bo.1 (by omega) (by rw [e2 29 (by decide)]; exact a2) (fun h4 f0 f1 f2 f3 f4 => ?_)
          rw [← h72]
          have e4 : eqW h0 h4 := e3.trans (fun a ha => f0 a (fun w => ha (by unfold sw; omega)) (fun w => ha (by unfold sw; omega)) (fun w => ha (by unfold sw; omega)))
          have es : S.sn c bd (i + 1) = S.sp c i (if S.bad bd i = 1 then 1 else 0) (S.sn c bd i) (S.terms (S.crule c) - 1).toNat := if_pos ⟨by rw [← hz]; exact q1, by rw [← hz]; exact q2⟩
          rw [hz] at f1 f2 f4 q1 q2
          have f2' : ∀ id, 0 ≤ id → id < 200 → h4 29 id = S.sn c bd (i + 1) id := by rw [es]; exact f2
          by_cases w : S.bad bd i = 1
          · have yB : S.isB c bd i := ⟨q1, w⟩
            rw [if_pos w] at f1 f4
            refine nx h4 e4 ?_ f2' ?_
            · rw [bf_s1 yB]; exact f1
            · rw [bf_s1 yB]
              intro b p b0 b1 p0 p1
              show h4 30 (4 * b + p) = S.iO c (fup (S.bf c bd i).2 (S.bf c bd i).1 i b) p
              have b1' : b < (S.bf c bd i).1 + 1 := b1
              by_cases eb : b = (S.bf c bd i).1
              · rw [eb, fup_at]
                exact f4 (by decide) p p0 p1
              · rw [fup_ne eb, f3 _ (by omega), e2 30 (by decide)]
                exact a3 b p b0 (by omega) p0 p1
          · have nB : ¬ S.isB c bd i := fun z => w z.2
            rw [if_neg w] at f1 f4
            refine nx h4 e4 ?_ f2' ?_
            · rw [bf_s0 nB]; exact f1
            · rw [bf_s0 nB]
              intro b p b0 b1 p0 p1
              rw [f3 _ (by omega), e2 30 (by decide)]
              exact a3 b p b0 b1 p0 p1
      · rw [if_pos q1]
        exact no (fun w => q1 w.1)
  refine loop S.reps.toNat NF 0 0 _ rfl (by rw [NF_eq]; omega) (by omega) ?_ ?_ ?_ ?_
  · intro a ha
    rw [up_ne (fun w => ha (by unfold sw; omega))]
    exact k0 a (fun w => ha (by unfold sw; omega))
  · rw [up_at, if_pos rfl]; rfl
  · intro id i0 i1
    rw [up_ne (by decide)]
    exact k1 id i0 i1
  · intro b p b0 b1
    have b1' : b < 0 := b1
    omega
