/-! PURE 23: reading, report -/
/-- marks as digits: the first k places -/
def St.rdB (S : St) (c : Int) : Nat → Int → Bool
  | 0, r => decide (r = 0)
  | k + 1, r => decide (r % 100 < S.many (S.crule c) (S.ord c k)) && St.rdB S c k (r / 100)
theorem rdB_0 (S : St) (c r : Int) : (S.rdB c 0 r = true) = (r = 0) := by
  show (decide (r = 0) = true) = _
  simp
theorem rdB_s (S : St) (c r : Int) (k : Nat) : (S.rdB c (k + 1) r = true) = (r % 100 < S.many (S.crule c) (S.ord c k) ∧ S.rdB c k (r / 100) = true) := by
  show ((decide (r % 100 < S.many (S.crule c) (S.ord c k)) && S.rdB c k (r / 100)) = true) = _
  simp
theorem rdB_dig {S : St} {c M : Int} (ht : 3 ≤ S.terms (S.crule c) ∧ S.terms (S.crule c) ≤ 5) (h : S.rdB c (S.terms (S.crule c) - 1).toNat M = true) : ∀ k, 0 ≤ k → k < S.terms (S.crule c) - 1 → dg M (S.terms (S.crule c) - 2 - k) < S.many (S.crule c) (S.ord c k) := by
  intro k h1 h2
  have hc : S.terms (S.crule c) = 3 ∨ S.terms (S.crule c) = 4 ∨ S.terms (S.crule c) = 5 := by omega
  rcases hc with e | e | e
  · rw [e] at h h2 ⊢
    have h : (decide (M % 100 < S.many (S.crule c) (S.ord c 1)) && (decide (M / 100 % 100 < S.many (S.crule c) (S.ord c 0)) && decide (M / 100 / 100 = 0))) = true := h
    simp only [Bool.and_eq_true, decide_eq_true_eq] at h
    have : k = 0 ∨ k = 1 := by omega
    rcases this with e2 | e2 <;> subst e2
    · exact h.2.1
    · exact h.1
  · rw [e] at h h2 ⊢
    have h : (decide (M % 100 < S.many (S.crule c) (S.ord c 2)) && (decide (M / 100 % 100 < S.many (S.crule c) (S.ord c 1)) && (decide (M / 100 / 100 % 100 < S.many (S.crule c) (S.ord c 0)) && decide (M / 100 / 100 / 100 = 0)))) = true := h
    simp only [Bool.and_eq_true, decide_eq_true_eq] at h
    have d2 : M / 100 / 100 = M / 10000 := by omega
    rw [d2] at h
    have : k = 0 ∨ k = 1 ∨ k = 2 := by omega
    rcases this with e2 | e2 | e2 <;> subst e2
    · exact h.2.2.1
    · exact h.2.1
    · exact h.1
  · rw [e] at h h2 ⊢
    have h : (decide (M % 100 < S.many (S.crule c) (S.ord c 3)) && (decide (M / 100 % 100 < S.many (S.crule c) (S.ord c 2)) && (decide (M / 100 / 100 % 100 < S.many (S.crule c) (S.ord c 1)) && (decide (M / 100 / 100 / 100 % 100 < S.many (S.crule c) (S.ord c 0)) && decide (M / 100 / 100 / 100 / 100 = 0))))) = true := h
    simp only [Bool.and_eq_true, decide_eq_true_eq] at h
    have d2 : M / 100 / 100 = M / 10000 := by omega
    have d3 : M / 10000 / 100 = M / 1000000 := by omega
    rw [d2, d3] at h
    have : k = 0 ∨ k = 1 ∨ k = 2 ∨ k = 3 := by omega
    rcases this with e2 | e2 | e2 | e2 <;> subst e2
    · exact h.2.2.2.1
    · exact h.2.2.1
    · exact h.2.1
    · exact h.1
abbrev rdOkc (c M : Int) (S : St) : Prop := (0 ≤ c ∧ c < S.charts) ∧ 0 ≤ M ∧ S.rdB c (S.terms (S.crule c) - 1).toNat M = true
def St.rd (c M : Int) (S : St) : St := if rdOkc c M S then (St.mk S.size S.txt S.rules S.terms S.const S.kind S.sign S.many S.val S.scn S.sc S.charts S.crule S.ord S.wide S.left S.right S.seam S.low S.upp (c) (M) S.now S.moves S.mC S.mT S.mM S.mN S.mD S.reps S.rB S.rC S.rM S.rS S.rD S.listed S.list) else S
theorem rdOkc.ok {c M : Int} {S : St} (w : WF S) (hM : M < 2147483648) (q : rdOkc c M S) : RdOk S c M := by
  obtain ⟨q1, q2, q3⟩ := q
  have ok := w.chart c q1.1 q1.2
  exact ⟨q1, ⟨q2, hM⟩, rdB_dig (w.rule _ ok.rule.1 ok.rule.2).terms q3⟩
theorem c_hasMarks {h : Hh} {S : St} {c : Int} (x : Cx4 h S c) {M : Int} (hM : 0 ≤ M ∧ M < 2147483648) {K : Int → Hh → Prop} (hK : K (if S.rdB c (S.terms (S.crule c) - 1).toNat M = true then 1 else 0) h) : w_X0_hasMarks (h 7 c) M h K := by
  have ht := x.ht
  have ra := x.ra
  have cc := x.cc
  unfold w_X0_hasMarks
  rw [if_pos hM.1, cc.size]
  simp only [vb_p]
  rw [w32_id (by omega) (by omega)]
  have loop : ∀ (k n : Nat) (r : Int) (pl : Int), k < n → pl = (k : Int) - 1 → (k : Int) ≤ S.terms (S.crule c) - 1 → 0 ≤ r ∧ r < 2147483648 → K (if S.rdB c k r = true then 1 else 0) h → w_X0_hasMarks_15 K (fun u9 h8 => if u9 ≠ 0 then (w_X0_hasMarks_61 K (h 7 c) 0 h8) else (w_X0_hasMarks_61 K (h 7 c) 1 h8)) (h 7 c) n r pl h := by
    intro k
    induction k with
    | zero =>
      intro n r pl hn hp hk hr g
      obtain ⟨n, rfl⟩ : ∃ m, n = m + 1 := ⟨n - 1, by omega⟩
      rw [w_X0_hasMarks_15, if_pos (by omega)]
      simp only [rdB_0] at g
      by_cases e : r = 0
      · rw [if_neg (fun w => w e)]; rw [if_pos e] at g
        exact ⟨Or.inr rfl, g⟩
      · rw [if_pos e]; rw [if_neg e] at g
        exact ⟨Or.inl rfl, g⟩
    | succ k ih =>
      intro n r pl hn hp hk hr g
      obtain ⟨n, rfl⟩ : ∃ m, n = m + 1 := ⟨n - 1, by omega⟩
      have ep : pl = k := by omega
      have o := x.ok.ord k (by omega) (by omega)
      have op : S.ord c pl = S.ord c k := by rw [ep]
      have tm : Int.tmod r 100 = r % 100 := Int.tmod_eq_emod_of_nonneg hr.1
      have td : Int.tdiv r 100 = r / 100 := td_pos hr.1 (by omega)
      rw [w_X0_hasMarks_15, if_neg (by omega), and_t (by omega), cc.rule, and_t (by omega), cc.ord pl (by omega) (by omega), op, c_hasMark x.rc x.rok, tm, td]
      simp only [vb_p]
      rw [w32_id (z := r / 100) (by omega) (by omega), w32_id (z := pl + -1) (by omega) (by omega)]
      simp only [rdB_s] at g
      by_cases e : r % 100 < S.many (S.crule c) (S.ord c k)
      · rw [if_pos (show (0 ≤ S.ord c k ∧ S.ord c k < S.terms (S.crule c)) ∧ 0 ≤ r % 100 ∧ r % 100 < S.many (S.crule c) (S.ord c k) by omega), if_pos (by decide)]
        refine ih n (r / 100) _ (by omega) (by omega) (by omega) (by omega) ?_
        by_cases e2 : S.rdB c k (r / 100) = true
        · rw [if_pos e2]; rw [if_pos ⟨e, e2⟩] at g; exact g
        · rw [if_neg e2]; rw [if_neg (fun w => e2 w.2)] at g; exact g
      · rw [if_neg (show ¬ ((0 ≤ S.ord c k ∧ S.ord c k < S.terms (S.crule c)) ∧ 0 ≤ r % 100 ∧ r % 100 < S.many (S.crule c) (S.ord c k)) by omega), if_neg (by decide)]
        rw [if_neg (fun w => e w.1)] at g; exact g
  exact loop (S.terms (S.crule c) - 1).toNat NF M _ (by have : NF = 20000 := rfl
                                                        omega) (by omega) (by omega) hM hK
theorem up33 {h : Hh} {a k x : Int} (ha : 33 ≤ a ∧ a < 72) : keepC h (up h a k x) := fun b hb => up_ne (by omega)
theorem a_reading (c M : Int) (hM : r32 M) : Agree (w_X10_reading 0 c M) (w_X11_reading 33 c M) := by
  refine agree_u (fun S => if rdOkc c M S then 1 else 0) (St.rd c M) ?_ ?_ ?_
  · intro S w
    unfold St.rd
    split
    · rename_i q
      have r := q.ok w hM.2
      exact w.upd RcEq.triv w.size w.txt (Or.inr (r.to' RcEq.triv)) w.now w.moves w.mN w.reps (fun i h1 h2 => (w.rep i h1 h2).to' RcEq.triv) w.rS w.rB w.listed w.list
    · exact w
  · intro h S b K hK
    have no : ¬ rdOkc c M S → K 0 h := fun q => by
      simp only [if_neg q] at hK
      unfold St.rd at hK
      simp only [if_neg q] at hK
      exact hK h b.c b.d (fun _ _ _ => rfl)
    unfold w_X10_reading w_X10_reading_18
    rw [b_chartAt b]
    by_cases hc : 0 ≤ c ∧ c < S.charts
    · have x := b.cx hc
      have ca := x.ca
      rw [if_pos hc, if_neg (by omega), and_t (by omega)]
      by_cases h1 : 0 ≤ M
      · refine c_hasMarks x ⟨h1, hM.2⟩ ?_
        by_cases h2 : S.rdB c (S.terms (S.crule c) - 1).toNat M = true
        · have q : rdOkc c M S := ⟨hc, h1, h2⟩
          rw [if_pos h2, if_pos (by decide)]
          simp only [hb_p]
          unfold St.rd at hK
          simp only [if_pos q] at hK
          refine hK _ ?_ ?_ ?_
          · refine RepC.of (by first | exact b.c.size | (simp (disch := omega) only [up_ne, up_at, if_pos, if_neg]; done) | (simp (disch := omega) only [up_ne, up_at, if_pos, if_neg]; exact b.c.size)) (by first | exact b.c.txt | (simp (disch := omega) only [up_ne, up_at, if_pos, if_neg]; done) | (simp (disch := omega) only [up_ne, up_at, if_pos, if_neg]; exact b.c.txt)) ?_ ?_ (by first | exact rfl | (simp (disch := omega) only [up_ne, up_at, if_pos, if_neg]; done) | (simp (disch := omega) only [up_ne, up_at, if_pos, if_neg]; exact rfl)) (by first | exact b.c.now | (simp (disch := omega) only [up_ne, up_at, if_pos, if_neg]; done) | (simp (disch := omega) only [up_ne, up_at, if_pos, if_neg]; exact b.c.now)) ?_ ?_ (by first | exact b.c.listed | (simp (disch := omega) only [up_ne, up_at, if_pos, if_neg]; done) | (simp (disch := omega) only [up_ne, up_at, if_pos, if_neg]; exact b.c.listed)) (by first | exact b.c.list | (simp (disch := omega) only [up_ne, up_at, if_pos, if_neg]; done) | (simp (disch := omega) only [up_ne, up_at, if_pos, if_neg]; exact b.c.list))
            · exact b.c.rcp.to b.w RcEq.triv (by first | exact rfl | (simp (disch := omega) only [up_ne, up_at, if_pos, if_neg]; done) | (simp (disch := omega) only [up_ne, up_at, if_pos, if_neg]; exact rfl)) (by first | exact rfl | (simp (disch := omega) only [up_ne, up_at, if_pos, if_neg]; done) | (simp (disch := omega) only [up_ne, up_at, if_pos, if_neg]; exact rfl)) (by first | exact rfl | (simp (disch := omega) only [up_ne, up_at, if_pos, if_neg]; done) | (simp (disch := omega) only [up_ne, up_at, if_pos, if_neg]; exact rfl)) (by first | exact rfl | (simp (disch := omega) only [up_ne, up_at, if_pos, if_neg]; done) | (simp (disch := omega) only [up_ne, up_at, if_pos, if_neg]; exact rfl)) (by first | exact rfl | (simp (disch := omega) only [up_ne, up_at, if_pos, if_neg]; done) | (simp (disch := omega) only [up_ne, up_at, if_pos, if_neg]; exact rfl)) (fun b hb => by first | exact rfl | (simp (disch := omega) only [up_ne, up_at, if_pos, if_neg]; done) | (simp (disch := omega) only [up_ne, up_at, if_pos, if_neg]; exact rfl))
            · show _ = if c = -1 then -1 else _
              rw [if_neg (by omega)]
              first | exact rfl | (simp (disch := omega) only [up_ne, up_at, if_pos, if_neg]; done) | (simp (disch := omega) only [up_ne, up_at, if_pos, if_neg]; exact rfl)
            · exact b.c.mvp.to mvEq6 (fun b h1 h2 => by first | exact rfl | (simp (disch := omega) only [up_ne, up_at, if_pos, if_neg]; done) | (simp (disch := omega) only [up_ne, up_at, if_pos, if_neg]; exact rfl))
            · exact b.c.rpp.to rpEq6 (by first | exact rfl | (simp (disch := omega) only [up_ne, up_at, if_pos, if_neg]; done) | (simp (disch := omega) only [up_ne, up_at, if_pos, if_neg]; exact rfl)) (fun b h1 h2 => by first | exact rfl | (simp (disch := omega) only [up_ne, up_at, if_pos, if_neg]; done) | (simp (disch := omega) only [up_ne, up_at, if_pos, if_neg]; exact rfl))
          · exact b.d.to (by first | exact rfl | (simp (disch := omega) only [up_ne, up_at, if_pos, if_neg]; done) | (simp (disch := omega) only [up_ne, up_at, if_pos, if_neg]; exact rfl)) (by first | exact rfl | (simp (disch := omega) only [up_ne, up_at, if_pos, if_neg]; done) | (simp (disch := omega) only [up_ne, up_at, if_pos, if_neg]; exact rfl)) (Int.le_refl _) (dsame RcEq.triv mvEq6 rpEq6)
          · exact fun a h1 h2 => by first | exact rfl | (simp (disch := omega) only [up_ne, up_at, if_pos, if_neg]; done) | (simp (disch := omega) only [up_ne, up_at, if_pos, if_neg]; exact rfl)
        · rw [if_neg h2, if_neg (by decide)]
          exact no (fun q => h2 q.2.2)
      · simp only [w_X0_hasMarks]
        rw [if_neg (by omega), if_neg (by decide)]
        exact no (fun q => h1 q.2.1)
    · rw [if_neg hc, if_pos rfl]; exact no (fun q => hc q.1)
  · intro h S x K hK
    have no : ¬ rdOkc c M S → K 0 h := fun q => by
      simp only [if_neg q] at hK
      unfold St.rd at hK
      simp only [if_neg q] at hK
      exact hK h x.rep (fun _ _ => rfl)
    have cb := x.wf.charts
    have rb := x.wf.rules
    have a := x.rep
    unfold w_X11_reading w_X11_reading_12
    rw [m_isChart x]
    by_cases hc : 0 ≤ c ∧ c < S.charts
    · have ok := x.wf.chart c hc.1 hc.2
      have rr := ok.rule
      have rok := x.wf.rule _ rr.1 rr.2
      have ht := rok.terms
      rw [if_pos hc, if_neg (by decide)]
      by_cases h1 : M ≥ 0
      · rw [if_pos h1, and_t (by omega)]
        simp only [vb_p, Int.reduceAdd]
        rw [a.crule c hc.1 hc.2, and_t (by omega), a.terms _ rr.1 rr.2, w32_id (z := S.terms (S.crule c) - 1) (by omega) (by omega), w32_id (z := S.terms (S.crule c) - 1 - 1) (by omega) (by omega)]
        -- the second loop: digits are laid down
        have lay : S.rdB c (S.terms (S.crule c) - 1).toNat M = true → ∀ (k n : Nat) (r pl : Int) (h1 : Hh), k < n → pl = (k : Int) - 1 → (k : Int) ≤ S.terms (S.crule c) - 1 → 0 ≤ r ∧ r < 2147483648 → (∀ i, 0 ≤ i → i < k → dg M (S.terms (S.crule c) - 2 - i) = dg r (k - 1 - i)) → (∀ b, b ≠ 52 → h1 b = h b) → (∀ i, (k : Int) ≤ i → i < S.terms (S.crule c) - 1 → h1 52 i = dg M (S.terms (S.crule c) - 2 - i)) → w_X11_reading_104 K 33 n c r pl h1 := by
          intro hB k
          induction k with
          | zero =>
            intro n r pl h1 hn hp hk hr hd hk1 hk2
            obtain ⟨n, rfl⟩ : ∃ m, n = m + 1 := ⟨n - 1, by omega⟩
            rw [w_X11_reading_104, if_pos (by omega)]
            simp only [hb_p]
            have q : rdOkc c M S := ⟨hc, by omega, hB⟩
            unfold St.rd at hK
            simp only [if_pos q] at hK
            have kk : ∀ b, b ≠ 33 → b ≠ 52 → up h1 33 27 c b = h b := fun b b1 b2 => by rw [up_ne b1]; exact hk1 b b2
            have k33 : ∀ j, j ≠ 27 → up h1 33 27 c 33 j = h 33 j := fun j hj => by rw [up_at, if_neg hj, hk1 33 (by decide)]
            refine hK _ ?_ (fun b hb => kk b (by omega) (by omega))
            refine a.upd (fun b h1 h2 => kk b (by omega) (by omega)) (k33 _ (by decide)) (k33 _ (by decide)) RcEq.triv (by rw [k33 _ (by decide)]; exact a.size) (by rw [kk 34 (by decide) (by decide)]; exact a.txt) (by rw [up_at, if_pos rfl]; rfl) ?_ (by rw [k33 _ (by decide)]; exact a.now) (by rw [k33 _ (by decide)]; exact a.moves) (by rw [kk 53 (by decide) (by decide)]; exact a.mC) (by rw [kk 54 (by decide) (by decide)]; exact a.mT) (by rw [kk 55 (by decide) (by decide)]; exact a.mM) (by rw [kk 56 (by decide) (by decide)]; exact a.mN) (by rw [kk 57 (by decide) (by decide)]; exact a.mD) (by rw [k33 _ (by decide)]; exact a.reps) (by rw [kk 58 (by decide) (by decide)]; exact a.rB) (by rw [kk 59 (by decide) (by decide)]; exact a.rC) (by rw [kk 60 (by decide) (by decide)]; exact a.rM) (by rw [kk 61 (by decide) (by decide)]; exact a.rS) (by rw [kk 62 (by decide) (by decide)]; exact a.rD) (by rw [k33 _ (by decide)]; exact a.listed) (by rw [kk 63 (by decide) (by decide)]; exact a.list)
            intro _ i i1 i2
            rw [up_ne (by decide)]
            exact hk2 i (by omega) i2
          | succ k ih =>
            intro n r pl h1 hn hp hk hr hd hk1 hk2
            obtain ⟨n, rfl⟩ : ∃ m, n = m + 1 := ⟨n - 1, by omega⟩
            have ep : pl = k := by omega
            have tm : Int.tmod r 100 = r % 100 := Int.tmod_eq_emod_of_nonneg hr.1
            have td : Int.tdiv r 100 = r / 100 := td_pos hr.1 (by omega)
            rw [w_X11_reading_104, if_neg (by omega), and_t (by omega), tm, td]
            simp only [hb_p, vb_p, Int.reduceAdd]
            rw [w32_id (z := r / 100) (by omega) (by omega), w32_id (z := pl + -1) (by omega) (by omega)]
            refine ih n (r / 100) _ _ (by omega) (by omega) (by omega) (by omega) ?_ (fun b hb => by rw [up_ne hb]; exact hk1 b hb) ?_
            · intro i i1 i2
              rw [hd i i1 (by omega)]
              have e1 : ((k + 1 : Nat) : Int) - 1 - i = k - 1 - i + 1 := by omega
              rw [e1]
              have hj : (k : Int) - 1 - i = 0 ∨ (k : Int) - 1 - i = 1 ∨ (k : Int) - 1 - i = 2 := by omega
              unfold dg
              rcases hj with e | e | e <;> rw [e]
              · rw [if_neg (by decide), if_pos (by decide), if_pos (by decide)]
              · rw [if_neg (by decide), if_neg (by decide), if_pos (by decide), if_neg (by decide), if_pos (by decide)]
                omega
              · rw [if_neg (by decide), if_neg (by decide), if_neg (by decide), if_neg (by decide), if_neg (by decide), if_pos (by decide)]
                omega
            · intro i i1 i2
              rw [up_at]
              by_cases e : i = k
              · rw [if_pos (by omega), e, hd k (by omega) (by omega)]
                have e1 : ((k + 1 : Nat) : Int) - 1 - k = 0 := by omega
                rw [e1]
                rfl
              · rw [if_neg (by omega)]
                exact hk2 i (by omega) i2
        have chk : ∀ (k n : Nat) (r pl : Int), k < n → pl = (k : Int) - 1 → (k : Int) ≤ S.terms (S.crule c) - 1 → 0 ≤ r ∧ r < 2147483648 → (S.rdB c k r = true ↔ S.rdB c (S.terms (S.crule c) - 1).toNat M = true) → w_X11_reading_40 K (fun u13 u14 u15 u16 h12 => if u16 ≤ 0 then w_X11_reading_104 K 33 NF u13 u14 (w32 (u15 - 1)) h12 else K 0 h12) 33 n c M (S.crule c) (S.terms (S.crule c) - 1) r pl h := by
          intro k
          induction k with
          | zero =>
            intro n r pl hn hp hk hr hB
            obtain ⟨n, rfl⟩ : ∃ m, n = m + 1 := ⟨n - 1, by omega⟩
            rw [w_X11_reading_40, if_pos (by omega)]
            rw [rdB_0] at hB
            by_cases e : r = 0
            · rw [if_pos (by omega), w32_id (by omega) (by omega)]
              refine lay (hB.mp e) (S.terms (S.crule c) - 1).toNat NF M _ h (by have : NF = 20000 := rfl
                                                                                omega) (by omega) (by omega) ⟨by omega, hM.2⟩ ?_ (fun _ _ => rfl) (fun i i1 i2 => by omega)
              intro i i1 i2
              rw [show (((S.terms (S.crule c) - 1).toNat : Nat) : Int) - 1 - i = S.terms (S.crule c) - 2 - i by omega]
            · rw [if_neg (by omega)]
              exact no (fun q => e (hB.mpr q.2.2))
          | succ k ih =>
            intro n r pl hn hp hk hr hB
            obtain ⟨n, rfl⟩ : ∃ m, n = m + 1 := ⟨n - 1, by omega⟩
            have ep : pl = k := by omega
            have o := ok.ord k (by omega) (by omega)
            have op : S.ord c pl = S.ord c k := by rw [ep]
            have tm : Int.tmod r 100 = r % 100 := Int.tmod_eq_emod_of_nonneg hr.1
            have td : Int.tdiv r 100 = r / 100 := td_pos hr.1 (by omega)
            rw [w_X11_reading_40, if_neg (by omega), w32_id (z := 4 * c) (by omega) (by omega), w32_id (z := 4 * c + pl) (by omega) (by omega), and_t (by omega)]
            simp only [vb_p, Int.reduceAdd]
            simp only [a.ord c pl hc.1 hc.2 (show (0 : Int) ≤ pl by omega) (show pl < S.terms (S.crule c) - 1 by omega), op, w32_id (z := 5 * S.crule c) (show -2147483648 ≤ 5 * S.crule c by omega) (show 5 * S.crule c < 2147483648 by omega), w32_id (z := 5 * S.crule c + S.ord c k) (show -2147483648 ≤ 5 * S.crule c + S.ord c k by omega) (show 5 * S.crule c + S.ord c k < 2147483648 by omega), tm, td, a.many _ (S.ord c k) rr.1 (show S.crule c < 6 by omega) (show 0 ≤ S.ord c k by omega) (show S.ord c k < 5 by omega)]
            rw [and_t (by omega)]
            rw [rdB_s] at hB
            by_cases e : r % 100 < S.many (S.crule c) (S.ord c k)
            · rw [if_pos e, w32_id (z := r / 100) (by omega) (by omega), w32_id (z := pl + -1) (by omega) (by omega)]
              refine ih n (r / 100) _ (by omega) (by omega) (by omega) (by omega) ?_
              exact ⟨fun w => hB.mp ⟨e, w⟩, fun w => (hB.mpr w).2⟩
            · rw [if_neg e]
              exact no (fun q => e (hB.mpr q.2.2).1)
        exact chk (S.terms (S.crule c) - 1).toNat NF M _ (by have : NF = 20000 := rfl
                                                             omega) (by omega) (by omega) ⟨by omega, hM.2⟩ Iff.rfl
      · rw [if_neg h1]; exact no (fun q => by have := q.2.1; omega)
    · rw [if_neg hc, if_pos rfl]; exact no (fun q => hc q.1)
theorem row_upg {f g F : Int → Int} {n v : Int} (hg : ∀ j, g j = if j = n then v else f j) (hF : ∀ i, 0 ≤ i → i < n → f i = F i) : ∀ i, 0 ≤ i → i < n + 1 → g i = fup F n v i := by
  intro i i1 i2
  rw [hg i]
  exact row_up hF i i1 i2
/-- report -/
abbrev rpOk (b t : Int) (S : St) : Prop := S.rdC ≠ -1 ∧ (0 ≤ b ∧ b ≤ 7) ∧ (0 ≤ t ∧ t ≤ 399) ∧ S.reps < 60
def St.rp (b t : Int) (S : St) : St := if rpOk b t S then (St.mk S.size S.txt S.rules S.terms S.const S.kind S.sign S.many S.val S.scn S.sc S.charts S.crule S.ord S.wide S.left S.right S.seam S.low S.upp S.rdC S.rdM S.now S.moves S.mC S.mT S.mM S.mN S.mD (S.reps + 1) (fup S.rB S.reps b) (fup S.rC S.reps S.rdC) (fup S.rM S.reps S.rdM) (fup S.rS S.reps t) (fup S.rD S.reps S.now) S.listed S.list) else S
theorem a_report (b0 t : Int) : Agree (w_X10_report 0 b0 t) (w_X11_report 33 b0 t) := by
  refine agree_u (fun S => if rpOk b0 t S then S.reps + 1 else -1) (St.rp b0 t) ?_ ?_ ?_
  · intro S w
    unfold St.rp
    split
    · rename_i q
      obtain ⟨q1, q2, q3, q4⟩ := q
      have rb := w.reps
      have rd : RdOk S S.rdC S.rdM := by
        rcases w.rd with r | r
        · exact absurd r q1
        · exact r
      refine w.upd RcEq.triv w.size w.txt (w.rd' RcEq.triv rfl rfl) w.now w.moves w.mN (by show 0 ≤ S.reps + 1 ∧ S.reps + 1 ≤ 60; omega) ?_ ?_ ?_ w.listed w.list
      · intro i h1 h2
        have h2 : i < S.reps + 1 := h2
        show RdOk _ (fup S.rC S.reps S.rdC i) (fup S.rM S.reps S.rdM i)
        by_cases e : i = S.reps
        · rw [e, fup_at, fup_at]; exact rd.to' RcEq.triv
        · rw [fup_ne e, fup_ne e]; exact (w.rep i h1 (by omega)).to' RcEq.triv
      · intro i h1 h2
        have h2 : i < S.reps + 1 := h2
        show 0 ≤ fup S.rS S.reps t i ∧ fup S.rS S.reps t i ≤ 399
        by_cases e : i = S.reps
        · rw [e, fup_at]; exact q3
        · rw [fup_ne e]; exact w.rS i h1 (by omega)
      · intro i h1 h2
        have h2 : i < S.reps + 1 := h2
        show 0 ≤ fup S.rB S.reps b0 i ∧ fup S.rB S.reps b0 i ≤ 7
        by_cases e : i = S.reps
        · rw [e, fup_at]; exact q2
        · rw [fup_ne e]; exact w.rB i h1 (by omega)
    · exact w
  · intro h S b K hK
    have no : ¬ rpOk b0 t S → K (-1) h := fun q => by
      simp only [if_neg q] at hK
      unfold St.rp at hK
      simp only [if_neg q] at hK
      exact hK h b.c b.d (fun _ _ _ => rfl)
    have rb := b.w.reps
    unfold w_X10_report w_X10_report_37
    rcases b.rd with ⟨r1, r2⟩ | ⟨r1, r2, r3, r4⟩
    · rw [r2, if_pos rfl]; exact no (fun q => q.1 r1)
    · rw [r3, if_neg (by omega), e_isReader]
      by_cases h1 : 0 ≤ b0 ∧ b0 ≤ 7
      · rw [if_pos h1, if_neg (by decide)]
        by_cases h2 : t < 0
        · rw [if_pos h2]; exact no (fun q => by have := q.2.2.1; omega)
        · rw [if_neg h2]
          by_cases h3 : t > 399
          · rw [if_pos h3]; exact no (fun q => by have := q.2.2.1; omega)
          · rw [if_neg h3, e_full6]
            simp only [Int.reduceAdd, b.c.reps]
            by_cases h4 : S.reps < 60
            · have q : rpOk b0 t S := ⟨r1, h1, by omega, h4⟩
              have cc := b.c.chart _ r2.chart.1 r2.chart.2
              rw [if_pos h4, if_pos rfl, and_t (by omega), cc.number, b.c.rdM, b.c.now]
              unfold St.rp at hK
              simp only [if_pos q] at hK
              unfold w_X6_add
              rw [e_full6, b.c.reps, if_pos h4, if_pos rfl]
              simp only [hb_p, Int.reduceAdd]
              simp only [up_ne (show (15 : Int) ≠ 16 by decide), up_ne (show (15 : Int) ≠ 17 by decide), up_ne (show (15 : Int) ≠ 18 by decide), up_ne (show (15 : Int) ≠ 19 by decide), up_ne (show (15 : Int) ≠ 20 by decide), b.c.reps]
              rw [and_t (by omega), and_t (by omega), and_t (by omega), and_t (by omega), and_t (by omega), w32_id (by omega) (by omega), up_at, if_pos rfl]
              refine hK _ ?_ ?_ ?_
              · refine RepC.of (by first | exact b.c.size | (simp (disch := omega) only [up_ne, up_at, if_pos, if_neg]; done) | (simp (disch := omega) only [up_ne, up_at, if_pos, if_neg]; exact b.c.size)) (by first | exact b.c.txt | (simp (disch := omega) only [up_ne, up_at, if_pos, if_neg]; done) | (simp (disch := omega) only [up_ne, up_at, if_pos, if_neg]; exact b.c.txt)) ?_ (by first | exact b.c.rdC | (simp (disch := omega) only [up_ne, up_at, if_pos, if_neg]; done) | (simp (disch := omega) only [up_ne, up_at, if_pos, if_neg]; exact b.c.rdC)) (by first | exact b.c.rdM | (simp (disch := omega) only [up_ne, up_at, if_pos, if_neg]; done) | (simp (disch := omega) only [up_ne, up_at, if_pos, if_neg]; exact b.c.rdM)) (by first | exact b.c.now | (simp (disch := omega) only [up_ne, up_at, if_pos, if_neg]; done) | (simp (disch := omega) only [up_ne, up_at, if_pos, if_neg]; exact b.c.now)) ?_ ?_ (by first | exact b.c.listed | (simp (disch := omega) only [up_ne, up_at, if_pos, if_neg]; done) | (simp (disch := omega) only [up_ne, up_at, if_pos, if_neg]; exact b.c.listed)) (by first | exact b.c.list | (simp (disch := omega) only [up_ne, up_at, if_pos, if_neg]; done) | (simp (disch := omega) only [up_ne, up_at, if_pos, if_neg]; exact b.c.list))
                · exact b.c.rcp.to b.w RcEq.triv (by first | exact rfl | (simp (disch := omega) only [up_ne, up_at, if_pos, if_neg]; done) | (simp (disch := omega) only [up_ne, up_at, if_pos, if_neg]; exact rfl)) (by first | exact rfl | (simp (disch := omega) only [up_ne, up_at, if_pos, if_neg]; done) | (simp (disch := omega) only [up_ne, up_at, if_pos, if_neg]; exact rfl)) (by first | exact rfl | (simp (disch := omega) only [up_ne, up_at, if_pos, if_neg]; done) | (simp (disch := omega) only [up_ne, up_at, if_pos, if_neg]; exact rfl)) (by first | exact rfl | (simp (disch := omega) only [up_ne, up_at, if_pos, if_neg]; done) | (simp (disch := omega) only [up_ne, up_at, if_pos, if_neg]; exact rfl)) (by first | exact rfl | (simp (disch := omega) only [up_ne, up_at, if_pos, if_neg]; done) | (simp (disch := omega) only [up_ne, up_at, if_pos, if_neg]; exact rfl)) (fun b hb => by first | exact rfl | (simp (disch := omega) only [up_ne, up_at, if_pos, if_neg]; done) | (simp (disch := omega) only [up_ne, up_at, if_pos, if_neg]; exact rfl))
                · exact b.c.mvp.to mvEq6 (fun b h1 h2 => by first | exact rfl | (simp (disch := omega) only [up_ne, up_at, if_pos, if_neg]; done) | (simp (disch := omega) only [up_ne, up_at, if_pos, if_neg]; exact rfl))
                · exact ⟨by first | exact rfl | (simp (disch := omega) only [up_ne, up_at, if_pos, if_neg]; done) | (simp (disch := omega) only [up_ne, up_at, if_pos, if_neg]; exact rfl), by first | exact (row_up b.c.rB) | (simp (disch := omega) only [up_ne, up_at, if_pos, if_neg]; done) | (simp (disch := omega) only [up_ne, up_at, if_pos, if_neg]; exact (row_up b.c.rB)), by first | exact (row_up b.c.rC) | (simp (disch := omega) only [up_ne, up_at, if_pos, if_neg]; done) | (simp (disch := omega) only [up_ne, up_at, if_pos, if_neg]; exact (row_up b.c.rC)), by first | exact (row_up b.c.rM) | (simp (disch := omega) only [up_ne, up_at, if_pos, if_neg]; done) | (simp (disch := omega) only [up_ne, up_at, if_pos, if_neg]; exact (row_up b.c.rM)), by first | exact (row_up b.c.rS) | (simp (disch := omega) only [up_ne, up_at, if_pos, if_neg]; done) | (simp (disch := omega) only [up_ne, up_at, if_pos, if_neg]; exact (row_up b.c.rS)), by first | exact (row_up b.c.rD) | (simp (disch := omega) only [up_ne, up_at, if_pos, if_neg]; done) | (simp (disch := omega) only [up_ne, up_at, if_pos, if_neg]; exact (row_up b.c.rD))⟩
              · refine b.d.to (by first | exact rfl | (simp (disch := omega) only [up_ne, up_at, if_pos, if_neg]; done) | (simp (disch := omega) only [up_ne, up_at, if_pos, if_neg]; exact rfl)) (by first | exact rfl | (simp (disch := omega) only [up_ne, up_at, if_pos, if_neg]; done) | (simp (disch := omega) only [up_ne, up_at, if_pos, if_neg]; exact rfl)) (by show S.reps ≤ S.reps + 1; omega) (fun i i1 i2 => ?_)
                have i3 : i ≠ S.reps := by omega
                exact due_to (S := S) ⟨rfl, rfl, rfl, rfl, rfl⟩ ⟨rfl, rfl, rfl⟩ ⟨rfl, rfl, rfl, rfl, rfl, rfl, rfl, rfl⟩ ⟨rfl, rfl, rfl, rfl, rfl, rfl⟩ (fup_ne i3) (fup_ne i3) (fup_ne i3)
              · exact fun a h1 h2 => by first | exact rfl | (simp (disch := omega) only [up_ne, up_at, if_pos, if_neg]; done) | (simp (disch := omega) only [up_ne, up_at, if_pos, if_neg]; exact rfl)
            · rw [if_neg h4, if_neg (by decide)]; exact no (fun q => h4 q.2.2.2)
      · rw [if_neg h1, if_pos rfl]; exact no (fun q => h1 q.2.1)
  · intro h S x K hK
    have no : ¬ rpOk b0 t S → K (-1) h := fun q => by
      simp only [if_neg q] at hK
      unfold St.rp at hK
      simp only [if_neg q] at hK
      exact hK h x.rep (fun _ _ => rfl)
    have rb := x.wf.reps
    have a := x.rep
    unfold w_X11_report w_X11_report_41
    rcases x.rd with r1 | ⟨r1, r2⟩
    · rw [a.rdC, if_pos r1]; exact no (fun q => q.1 r1)
    · have ok := x.wf.chart _ r2.chart.1 r2.chart.2
      have ht := (x.wf.rule _ ok.rule.1 ok.rule.2).terms
      rw [a.rdC, if_neg r1, e_in]
      by_cases h1 : 0 ≤ b0 ∧ b0 ≤ 7
      · rw [if_pos h1, if_neg (by decide), e_in]
        by_cases h2 : 0 ≤ t ∧ t ≤ 399
        · rw [if_pos h2, if_neg (by decide), a.reps]
          by_cases h3 : S.reps = 60
          · rw [if_neg (fun w => w h3)]; exact no (fun q => by have := q.2.2.2; omega)
          · have q : rpOk b0 t S := ⟨r1, h1, h2, by omega⟩
            unfold St.rp at hK
            simp only [if_pos q] at hK
            rw [if_pos h3, and_t (by omega)]
            simp only [hb_p, Int.reduceAdd]
            simp only [up_ne (show (33 : Int) ≠ 58 by decide), up_ne (show (33 : Int) ≠ 59 by decide), a.reps, a.rdC]
            rw [and_t (by omega)]
            have loop : ∀ (k n : Nat) (i : Int) (h1 : Hh), k < n → 4 - i ≤ k → 0 ≤ i → i ≤ 4 → (∀ b, b ≠ 58 → b ≠ 59 → b ≠ 60 → h1 b = h b) → (∀ j, h1 58 j = if j = S.reps then b0 else h 58 j) → (∀ j, h1 59 j = if j = S.reps then S.rdC else h 59 j) → (∀ j, j < 4 * S.reps → h1 60 j = h 60 j) → (∀ j, 0 ≤ j → j < i → h1 60 (4 * S.reps + j) = h 52 j) →
                w_X11_report_68 K (fun u14 h13 => ((0 : Int) ≤ h13 33 36 ∧ (h13 33 36 : Int) < 60) ∧ (((0 : Int) ≤ (up h13 61 (h13 33 36) u14) 33 36 ∧ ((up h13 61 (h13 33 36) u14) 33 36 : Int) < 60) ∧ K (up (up (up h13 61 (h13 33 36) u14) 62 ((up h13 61 (h13 33 36) u14) 33 36) ((up h13 61 (h13 33 36) u14) 33 29)) 33 36 (w32 ((up (up h13 61 (h13 33 36) u14) 62 ((up h13 61 (h13 33 36) u14) 33 36) ((up h13 61 (h13 33 36) u14) 33 29)) 33 36 + 1)) 33 36) (up (up (up h13 61 (h13 33 36) u14) 62 ((up h13 61 (h13 33 36) u14) 33 36) ((up h13 61 (h13 33 36) u14) 33 29)) 33 36 (w32 ((up (up h13 61 (h13 33 36) u14) 62 ((up h13 61 (h13 33 36) u14) 33 36) ((up h13 61 (h13 33 36) u14) 33 29)) 33 36 + 1))))) 33 n t i h1 := by
              have fin : ∀ h1 : Hh, (∀ b, b ≠ 58 → b ≠ 59 → b ≠ 60 → h1 b = h b) → (∀ j, h1 58 j = if j = S.reps then b0 else h 58 j) → (∀ j, h1 59 j = if j = S.reps then S.rdC else h 59 j) → (∀ j, j < 4 * S.reps → h1 60 j = h 60 j) → (∀ j, 0 ≤ j → j < 4 → h1 60 (4 * S.reps + j) = h 52 j) → ((0 : Int) ≤ h1 33 36 ∧ (h1 33 36 : Int) < 60) ∧ (((0 : Int) ≤ (up h1 61 (h1 33 36) t) 33 36 ∧ ((up h1 61 (h1 33 36) t) 33 36 : Int) < 60) ∧ K (up (up (up h1 61 (h1 33 36) t) 62 ((up h1 61 (h1 33 36) t) 33 36) ((up h1 61 (h1 33 36) t) 33 29)) 33 36 (w32 ((up (up h1 61 (h1 33 36) t) 62 ((up h1 61 (h1 33 36) t) 33 36) ((up h1 61 (h1 33 36) t) 33 29)) 33 36 + 1)) 33 36) (up (up (up h1 61 (h1 33 36) t) 62 ((up h1 61 (h1 33 36) t) 33 36) ((up h1 61 (h1 33 36) t) 33 29)) 33 36 (w32 ((up (up h1 61 (h1 33 36) t) 62 ((up h1 61 (h1 33 36) t) 33 36) ((up h1 61 (h1 33 36) t) 33 29)) 33 36 + 1)))) := by
                intro h1 k0 k1 k2 k3 k4
                simp only [up_ne (show (33 : Int) ≠ 61 by decide), up_ne (show (33 : Int) ≠ 62 by decide), k0 33 (by decide) (by decide) (by decide), a.reps, a.now]
                rw [and_t (by omega), and_t (by omega), w32_id (by omega) (by omega), up_at, if_pos rfl]
                have kk : ∀ b, b ≠ 33 → b ≠ 58 → b ≠ 59 → b ≠ 60 → b ≠ 61 → b ≠ 62 → up (up (up h1 61 S.reps t) 62 S.reps S.now) 33 36 (S.reps + 1) b = h b := fun b b1 b2 b3 b4 b5 b6 => by rw [up_ne b1, up_ne b6, up_ne b5]; exact k0 b b2 b3 b4
                have k33 : ∀ j, j ≠ 36 → up (up (up h1 61 S.reps t) 62 S.reps S.now) 33 36 (S.reps + 1) 33 j = h 33 j := fun j hj => by rw [up_at, if_neg hj, up_ne (by decide), up_ne (by decide), k0 33 (by decide) (by decide) (by decide)]
                have k36 : up (up (up h1 61 S.reps t) 62 S.reps S.now) 33 36 (S.reps + 1) 33 36 = S.reps + 1 := by rw [up_at, if_pos rfl]
                have k58 : ∀ j, up (up (up h1 61 S.reps t) 62 S.reps S.now) 33 36 (S.reps + 1) 58 j = if j = S.reps then b0 else h 58 j := fun j => by rw [up_ne (by decide), up_ne (by decide), up_ne (by decide)]; exact k1 j
                have k59 : ∀ j, up (up (up h1 61 S.reps t) 62 S.reps S.now) 33 36 (S.reps + 1) 59 j = if j = S.reps then S.rdC else h 59 j := fun j => by rw [up_ne (by decide), up_ne (by decide), up_ne (by decide)]; exact k2 j
                have k60 : up (up (up h1 61 S.reps t) 62 S.reps S.now) 33 36 (S.reps + 1) 60 = h1 60 := by rw [up_ne (by decide), up_ne (by decide), up_ne (by decide)]
                have k61 : ∀ j, up (up (up h1 61 S.reps t) 62 S.reps S.now) 33 36 (S.reps + 1) 61 j = if j = S.reps then t else h 61 j := fun j => by rw [up_ne (by decide), up_ne (by decide), up_at, k0 61 (by decide) (by decide) (by decide)]
                have k62 : ∀ j, up (up (up h1 61 S.reps t) 62 S.reps S.now) 33 36 (S.reps + 1) 62 j = if j = S.reps then S.now else h 62 j := fun j => by rw [up_ne (by decide), up_at, up_ne (by decide), k0 62 (by decide) (by decide) (by decide)]
                generalize up (up (up h1 61 S.reps t) 62 S.reps S.now) 33 36 (S.reps + 1) = h2 at *
                refine hK h2 ?_ (fun b hb => kk b (by omega) (by omega) (by omega) (by omega) (by omega) (by omega))
                refine a.upd (fun b h1 h2 => kk b (by omega) (by omega) (by omega) (by omega) (by omega) (by omega)) (k33 _ (by decide)) (k33 _ (by decide)) RcEq.triv (by rw [k33 _ (by decide)]; exact a.size) (by rw [kk 34 (by decide) (by decide) (by decide) (by decide) (by decide) (by decide)]; exact a.txt) (by rw [k33 _ (by decide)]; exact a.rdC) (by rw [kk 52 (by decide) (by decide) (by decide) (by decide) (by decide) (by decide)]; exact a.rdM) (by rw [k33 _ (by decide)]; exact a.now) (by rw [k33 _ (by decide)]; exact a.moves) (by rw [kk 53 (by decide) (by decide) (by decide) (by decide) (by decide) (by decide)]; exact a.mC) (by rw [kk 54 (by decide) (by decide) (by decide) (by decide) (by decide) (by decide)]; exact a.mT) (by rw [kk 55 (by decide) (by decide) (by decide) (by decide) (by decide) (by decide)]; exact a.mM) (by rw [kk 56 (by decide) (by decide) (by decide) (by decide) (by decide) (by decide)]; exact a.mN) (by rw [kk 57 (by decide) (by decide) (by decide) (by decide) (by decide) (by decide)]; exact a.mD) k36 (row_upg k58 a.rB) (row_upg k59 a.rC) ?_ (row_upg k61 a.rS) (row_upg k62 a.rD) (by rw [k33 _ (by decide)]; exact a.listed) (by rw [kk 63 (by decide) (by decide) (by decide) (by decide) (by decide) (by decide)]; exact a.list)
                intro i k i1 i2 j1 j2
                have i2 : i < S.reps + 1 := i2
                have j2 : k < S.terms (S.crule (fup S.rC S.reps S.rdC i)) - 1 := j2
                show h2 60 (4 * i + k) = dg (fup S.rM S.reps S.rdM i) (S.terms (S.crule (fup S.rC S.reps S.rdC i)) - 2 - k)
                rw [k60]
                by_cases e : i = S.reps
                · subst e
                  rw [fup_at] at j2
                  rw [fup_at, fup_at, k4 k j1 (by omega)]
                  exact a.rdM r1 k j1 j2
                · rw [fup_ne e] at j2
                  rw [fup_ne e, fup_ne e]
                  have rr := x.wf.rep i i1 (by omega)
                  have ok2 := x.wf.chart _ rr.chart.1 rr.chart.2
                  have ht2 := (x.wf.rule _ ok2.rule.1 ok2.rule.2).terms
                  rw [k3 _ (by omega)]
                  exact a.rM i k i1 (by omega) j1 j2
              intro k
              induction k with
              | zero =>
                intro n i h1 hn hk i1 i2 k0 k1 k2 k3 k4
                obtain ⟨n, rfl⟩ : ∃ m, n = m + 1 := ⟨n - 1, by omega⟩
                rw [w_X11_report_68, if_pos (by omega)]
                exact fin h1 k0 k1 k2 k3 (fun j j1 j2 => k4 j j1 (by omega))
              | succ k ih =>
                intro n i h1 hn hk i1 i2 k0 k1 k2 k3 k4
                obtain ⟨n, rfl⟩ : ∃ m, n = m + 1 := ⟨n - 1, by omega⟩
                rw [w_X11_report_68]
                by_cases h5 : i ≥ 4
                · rw [if_pos h5]
                  exact fin h1 k0 k1 k2 k3 (fun j j1 j2 => k4 j j1 (by omega))
                · rw [if_neg h5, and_t (by omega)]
                  simp only [hb_p, vb_p, Int.reduceAdd]
                  rw [k0 33 (by decide) (by decide) (by decide), a.reps, w32_id (z := 4 * S.reps) (by omega) (by omega), w32_id (z := 4 * S.reps + i) (by omega) (by omega), and_t (by omega), k0 52 (by decide) (by decide) (by decide), w32_id (by omega) (by omega)]
                  refine ih n (i + 1) _ (by omega) (by omega) (by omega) (by omega) (fun b b1 b2 b3 => by rw [up_ne b3]; exact k0 b b1 b2 b3) (fun j => by rw [up_ne (by decide)]; exact k1 j) (fun j => by rw [up_ne (by decide)]; exact k2 j) (fun j j1 => by rw [up_at, if_neg (by omega)]; exact k3 j j1) (fun j j1 j2 => ?_)
                  rw [up_at]
                  by_cases e : j = i
                  · rw [if_pos (by omega), e]
                  · rw [if_neg (by omega)]; exact k4 j j1 (by omega)
            refine loop 5 NF 0 _ (by decide) (by omega) (by omega) (by omega) (fun b b1 b2 b3 => by rw [up_ne b2, up_ne b1]) (fun j => by rw [up_ne (by decide), up_at]) (fun j => by rw [up_at, up_ne (by decide)]) (fun j j1 => by rw [up_ne (by decide), up_ne (by decide)]) (fun j j1 j2 => by omega)
        · rw [if_neg h2, if_pos rfl]; exact no (fun q => h2 q.2.2.1)
      · rw [if_neg h1, if_pos rfl]; exact no (fun q => h1 q.2.1)
