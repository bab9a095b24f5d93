/-! PURE 21: clear, end, list, paper, move -/
def fup (f : Int → Int) (i x : Int) : Int → Int := fun j => if j = i then x else f j
theorem fup_at {f : Int → Int} {i x : Int} : fup f i x i = x := if_pos rfl
theorem fup_ne {f : Int → Int} {i x j : Int} (h : j ≠ i) : fup f i x j = f j := if_neg h
theorem dsame {S S' : St} (e : RcEq S S') (m : MvEq S S') (r : RpEq S S') : ∀ i, 0 ≤ i → i < S.reps → S'.due i = S.due i := fun i _ _ => due_same e m r i
theorem mvEq6 {S S' : St} (h1 : S'.moves = S.moves := by rfl) (h2 : S'.mC = S.mC := by rfl) (h3 : S'.mT = S.mT := by rfl) (h4 : S'.mM = S.mM := by rfl) (h5 : S'.mN = S.mN := by rfl) (h6 : S'.mD = S.mD := by rfl) : MvEq S S' := ⟨h1, h2, h3, h4, h5, h6⟩
theorem rpEq6 {S S' : St} (h1 : S'.reps = S.reps := by rfl) (h2 : S'.rB = S.rB := by rfl) (h3 : S'.rC = S.rC := by rfl) (h4 : S'.rM = S.rM := by rfl) (h5 : S'.rS = S.rS := by rfl) (h6 : S'.rD = S.rD := by rfl) : RpEq S S' := ⟨h1, h2, h3, h4, h5, h6⟩
theorem a_clear : Agree (w_X10_clear 0) (w_X11_clear 33) := by
  refine agree_u (fun S => S.listed) (fun S => (St.mk S.size S.txt S.rules S.terms S.const S.kind S.sign S.many S.val S.scn S.sc S.charts S.crule S.ord S.wide S.left S.right S.seam S.low S.upp S.rdC S.rdM S.now S.moves S.mC S.mT S.mM S.mN S.mD S.reps S.rB S.rC S.rM S.rS S.rD (0) S.list)) ?_ ?_ ?_
  · intro S w
    exact w.upd RcEq.triv w.size w.txt (w.rd' RcEq.triv rfl rfl) w.now w.moves w.mN w.reps (fun i h1 h2 => (w.rep i h1 h2).to' RcEq.triv) w.rS w.rB (by show (0 : Int) ≤ 0 ∧ (0 : Int) ≤ 4; omega) (fun i h1 h2 => absurd h2 (by show ¬ i < (0 : Int); omega))
  · intro h S b K hK
    rw [clear_C, b.c.listed]
    refine hK _ ?_ ?_ ?_
    · refine RepC.of b.c.size b.c.txt ?_ (by first | exact b.c.rdC | (simp (disch := omega) only [up_ne, up_at, if_pos, if_neg]; done) | (simp (disch := omega) only [up_ne, up_at, if_pos, if_neg]; exact b.c.rdC)) (by first | exact b.c.rdM | (simp (disch := omega) only [up_ne, up_at, if_pos, if_neg]; done) | (simp (disch := omega) only [up_ne, up_at, if_pos, if_neg]; exact b.c.rdM)) (by first | exact b.c.now | (simp (disch := omega) only [up_ne, up_at, if_pos, if_neg]; done) | (simp (disch := omega) only [up_ne, up_at, if_pos, if_neg]; exact b.c.now)) ?_ ?_ (by first | exact rfl | (simp (disch := omega) only [up_ne, up_at, if_pos, if_neg]; done) | (simp (disch := omega) only [up_ne, up_at, if_pos, if_neg]; exact rfl)) (fun i h1 h2 => absurd h2 (by show ¬ i < (0 : Int); omega))
      · exact b.c.rcp.to b.w RcEq.triv (by first | exact rfl | (simp (disch := omega) only [up_ne, up_at, if_pos, if_neg]; done) | (simp (disch := omega) only [up_ne, up_at, if_pos, if_neg]; exact rfl)) (by first | exact rfl | (simp (disch := omega) only [up_ne, up_at, if_pos, if_neg]; done) | (simp (disch := omega) only [up_ne, up_at, if_pos, if_neg]; exact rfl)) (by first | exact rfl | (simp (disch := omega) only [up_ne, up_at, if_pos, if_neg]; done) | (simp (disch := omega) only [up_ne, up_at, if_pos, if_neg]; exact rfl)) (by first | exact rfl | (simp (disch := omega) only [up_ne, up_at, if_pos, if_neg]; done) | (simp (disch := omega) only [up_ne, up_at, if_pos, if_neg]; exact rfl)) (by first | exact rfl | (simp (disch := omega) only [up_ne, up_at, if_pos, if_neg]; done) | (simp (disch := omega) only [up_ne, up_at, if_pos, if_neg]; exact rfl)) (fun b hb => up_ne (by omega))
      · exact b.c.mvp.to mvEq6 (fun b h1 h2 => up_ne (by omega))
      · exact b.c.rpp.to rpEq6 (by first | exact rfl | (simp (disch := omega) only [up_ne, up_at, if_pos, if_neg]; done) | (simp (disch := omega) only [up_ne, up_at, if_pos, if_neg]; exact rfl)) (fun b h1 h2 => up_ne (by omega))
    · exact b.d.to (by first | exact rfl | (simp (disch := omega) only [up_ne, up_at, if_pos, if_neg]; done) | (simp (disch := omega) only [up_ne, up_at, if_pos, if_neg]; exact rfl)) (by first | exact rfl | (simp (disch := omega) only [up_ne, up_at, if_pos, if_neg]; done) | (simp (disch := omega) only [up_ne, up_at, if_pos, if_neg]; exact rfl)) (Int.le_refl _) (dsame RcEq.triv mvEq6 rpEq6)
    · exact fun a h1 h2 => up_ne (by omega)
  · intro h S x K hK
    have a := x.rep
    rw [clear_M, a.listed]
    refine hK _ ?_ (fun a h1 => up_ne (by omega))
    exact a.upd (fun b h1 h2 => up_ne (by omega)) (by first | exact rfl | (simp (disch := omega) only [up_ne, up_at, if_pos, if_neg]; done) | (simp (disch := omega) only [up_ne, up_at, if_pos, if_neg]; exact rfl)) (by first | exact rfl | (simp (disch := omega) only [up_ne, up_at, if_pos, if_neg]; done) | (simp (disch := omega) only [up_ne, up_at, if_pos, if_neg]; exact rfl)) RcEq.triv (by first | exact a.size | (simp (disch := omega) only [up_ne, up_at, if_pos, if_neg]; done) | (simp (disch := omega) only [up_ne, up_at, if_pos, if_neg]; exact a.size)) (by first | exact a.txt | (simp (disch := omega) only [up_ne, up_at, if_pos, if_neg]; done) | (simp (disch := omega) only [up_ne, up_at, if_pos, if_neg]; exact a.txt)) (by first | exact a.rdC | (simp (disch := omega) only [up_ne, up_at, if_pos, if_neg]; done) | (simp (disch := omega) only [up_ne, up_at, if_pos, if_neg]; exact a.rdC)) (by first | exact a.rdM | (simp (disch := omega) only [up_ne, up_at, if_pos, if_neg]; done) | (simp (disch := omega) only [up_ne, up_at, if_pos, if_neg]; exact a.rdM)) (by first | exact a.now | (simp (disch := omega) only [up_ne, up_at, if_pos, if_neg]; done) | (simp (disch := omega) only [up_ne, up_at, if_pos, if_neg]; exact a.now)) (by first | exact a.moves | (simp (disch := omega) only [up_ne, up_at, if_pos, if_neg]; done) | (simp (disch := omega) only [up_ne, up_at, if_pos, if_neg]; exact a.moves)) (by first | exact a.mC | (simp (disch := omega) only [up_ne, up_at, if_pos, if_neg]; done) | (simp (disch := omega) only [up_ne, up_at, if_pos, if_neg]; exact a.mC)) (by first | exact a.mT | (simp (disch := omega) only [up_ne, up_at, if_pos, if_neg]; done) | (simp (disch := omega) only [up_ne, up_at, if_pos, if_neg]; exact a.mT)) (by first | exact a.mM | (simp (disch := omega) only [up_ne, up_at, if_pos, if_neg]; done) | (simp (disch := omega) only [up_ne, up_at, if_pos, if_neg]; exact a.mM)) (by first | exact a.mN | (simp (disch := omega) only [up_ne, up_at, if_pos, if_neg]; done) | (simp (disch := omega) only [up_ne, up_at, if_pos, if_neg]; exact a.mN)) (by first | exact a.mD | (simp (disch := omega) only [up_ne, up_at, if_pos, if_neg]; done) | (simp (disch := omega) only [up_ne, up_at, if_pos, if_neg]; exact a.mD)) (by first | exact a.reps | (simp (disch := omega) only [up_ne, up_at, if_pos, if_neg]; done) | (simp (disch := omega) only [up_ne, up_at, if_pos, if_neg]; exact a.reps)) (by first | exact a.rB | (simp (disch := omega) only [up_ne, up_at, if_pos, if_neg]; done) | (simp (disch := omega) only [up_ne, up_at, if_pos, if_neg]; exact a.rB)) (by first | exact a.rC | (simp (disch := omega) only [up_ne, up_at, if_pos, if_neg]; done) | (simp (disch := omega) only [up_ne, up_at, if_pos, if_neg]; exact a.rC)) (by first | exact a.rM | (simp (disch := omega) only [up_ne, up_at, if_pos, if_neg]; done) | (simp (disch := omega) only [up_ne, up_at, if_pos, if_neg]; exact a.rM)) (by first | exact a.rS | (simp (disch := omega) only [up_ne, up_at, if_pos, if_neg]; done) | (simp (disch := omega) only [up_ne, up_at, if_pos, if_neg]; exact a.rS)) (by first | exact a.rD | (simp (disch := omega) only [up_ne, up_at, if_pos, if_neg]; done) | (simp (disch := omega) only [up_ne, up_at, if_pos, if_neg]; exact a.rD)) (by first | exact rfl | (simp (disch := omega) only [up_ne, up_at, if_pos, if_neg]; done) | (simp (disch := omega) only [up_ne, up_at, if_pos, if_neg]; exact rfl)) (fun i h1 h2 => absurd h2 (by show ¬ i < (0 : Int); omega))
theorem a_end (n : Int) : Agree (w_X10_end 0 n) (w_X11_end 33 n) := by
  refine agree_u (fun S => if 0 ≤ n ∧ n ≤ S.size then 1 else 0) (fun S => if 0 ≤ n ∧ n ≤ S.size then (St.mk (n) S.txt S.rules S.terms S.const S.kind S.sign S.many S.val S.scn S.sc S.charts S.crule S.ord S.wide S.left S.right S.seam S.low S.upp S.rdC S.rdM S.now S.moves S.mC S.mT S.mM S.mN S.mD S.reps S.rB S.rC S.rM S.rS S.rD S.listed S.list) else S) ?_ ?_ ?_
  · intro S w
    show WF (if 0 ≤ n ∧ n ≤ S.size then (St.mk (n) S.txt S.rules S.terms S.const S.kind S.sign S.many S.val S.scn S.sc S.charts S.crule S.ord S.wide S.left S.right S.seam S.low S.upp S.rdC S.rdM S.now S.moves S.mC S.mT S.mM S.mN S.mD S.reps S.rB S.rC S.rM S.rS S.rD S.listed S.list) else S)
    split
    · rename_i q
      have := w.size
      exact w.upd RcEq.triv (by show 0 ≤ n ∧ n ≤ 120; omega) (fun i h1 h2 => w.txt i h1 (by have h2 : i < n := h2; omega)) (w.rd' RcEq.triv rfl rfl) w.now w.moves w.mN w.reps (fun i h1 h2 => (w.rep i h1 h2).to' RcEq.triv) w.rS w.rB w.listed w.list
    · exact w
  · intro h S b K hK
    rw [end_C]
    simp only [Int.reduceAdd]
    rw [b.c.size]
    by_cases q : 0 ≤ n ∧ n ≤ S.size
    · simp only [if_pos q] at hK ⊢
      refine hK _ ?_ ?_ ?_
      · refine RepC.of (by first | exact rfl | (simp (disch := omega) only [up_ne, up_at, if_pos, if_neg]; done) | (simp (disch := omega) only [up_ne, up_at, if_pos, if_neg]; exact rfl)) ?_ ?_ (by first | exact b.c.rdC | (simp (disch := omega) only [up_ne, up_at, if_pos, if_neg]; done) | (simp (disch := omega) only [up_ne, up_at, if_pos, if_neg]; exact b.c.rdC)) (by first | exact b.c.rdM | (simp (disch := omega) only [up_ne, up_at, if_pos, if_neg]; done) | (simp (disch := omega) only [up_ne, up_at, if_pos, if_neg]; exact b.c.rdM)) (by first | exact b.c.now | (simp (disch := omega) only [up_ne, up_at, if_pos, if_neg]; done) | (simp (disch := omega) only [up_ne, up_at, if_pos, if_neg]; exact b.c.now)) ?_ ?_ (by first | exact b.c.listed | (simp (disch := omega) only [up_ne, up_at, if_pos, if_neg]; done) | (simp (disch := omega) only [up_ne, up_at, if_pos, if_neg]; exact b.c.listed)) (by first | exact b.c.list | (simp (disch := omega) only [up_ne, up_at, if_pos, if_neg]; done) | (simp (disch := omega) only [up_ne, up_at, if_pos, if_neg]; exact b.c.list))
        · intro i h1 h2
          rw [up_ne (by decide)]
          exact b.c.txt i h1 (by have h2 : i < n := h2; omega)
        · exact b.c.rcp.to b.w RcEq.triv (by first | exact rfl | (simp (disch := omega) only [up_ne, up_at, if_pos, if_neg]; done) | (simp (disch := omega) only [up_ne, up_at, if_pos, if_neg]; exact rfl)) (by first | exact rfl | (simp (disch := omega) only [up_ne, up_at, if_pos, if_neg]; done) | (simp (disch := omega) only [up_ne, up_at, if_pos, if_neg]; exact rfl)) (by first | exact rfl | (simp (disch := omega) only [up_ne, up_at, if_pos, if_neg]; done) | (simp (disch := omega) only [up_ne, up_at, if_pos, if_neg]; exact rfl)) (by first | exact rfl | (simp (disch := omega) only [up_ne, up_at, if_pos, if_neg]; done) | (simp (disch := omega) only [up_ne, up_at, if_pos, if_neg]; exact rfl)) (by first | exact rfl | (simp (disch := omega) only [up_ne, up_at, if_pos, if_neg]; done) | (simp (disch := omega) only [up_ne, up_at, if_pos, if_neg]; exact rfl)) (fun b hb => up_ne (by omega))
        · exact b.c.mvp.to mvEq6 (fun b h1 h2 => up_ne (by omega))
        · exact b.c.rpp.to rpEq6 (by first | exact rfl | (simp (disch := omega) only [up_ne, up_at, if_pos, if_neg]; done) | (simp (disch := omega) only [up_ne, up_at, if_pos, if_neg]; exact rfl)) (fun b h1 h2 => up_ne (by omega))
      · exact b.d.to (by first | exact rfl | (simp (disch := omega) only [up_ne, up_at, if_pos, if_neg]; done) | (simp (disch := omega) only [up_ne, up_at, if_pos, if_neg]; exact rfl)) (by first | exact rfl | (simp (disch := omega) only [up_ne, up_at, if_pos, if_neg]; done) | (simp (disch := omega) only [up_ne, up_at, if_pos, if_neg]; exact rfl)) (Int.le_refl _) (dsame RcEq.triv mvEq6 rpEq6)
      · exact fun a h1 h2 => up_ne (by omega)
    · simp only [if_neg q] at hK ⊢
      exact hK h b.c b.d (fun _ _ _ => rfl)
  · intro h S x K hK
    have a := x.rep
    rw [end_M, a.size]
    by_cases q : 0 ≤ n ∧ n ≤ S.size
    · simp only [if_pos q] at hK ⊢
      refine hK _ ?_ (fun a h1 => up_ne (by omega))
      refine a.upd (fun b h1 h2 => up_ne (by omega)) (by first | exact rfl | (simp (disch := omega) only [up_ne, up_at, if_pos, if_neg]; done) | (simp (disch := omega) only [up_ne, up_at, if_pos, if_neg]; exact rfl)) (by first | exact rfl | (simp (disch := omega) only [up_ne, up_at, if_pos, if_neg]; done) | (simp (disch := omega) only [up_ne, up_at, if_pos, if_neg]; exact rfl)) RcEq.triv (by first | exact rfl | (simp (disch := omega) only [up_ne, up_at, if_pos, if_neg]; done) | (simp (disch := omega) only [up_ne, up_at, if_pos, if_neg]; exact rfl)) ?_ (by first | exact a.rdC | (simp (disch := omega) only [up_ne, up_at, if_pos, if_neg]; done) | (simp (disch := omega) only [up_ne, up_at, if_pos, if_neg]; exact a.rdC)) (by first | exact a.rdM | (simp (disch := omega) only [up_ne, up_at, if_pos, if_neg]; done) | (simp (disch := omega) only [up_ne, up_at, if_pos, if_neg]; exact a.rdM)) (by first | exact a.now | (simp (disch := omega) only [up_ne, up_at, if_pos, if_neg]; done) | (simp (disch := omega) only [up_ne, up_at, if_pos, if_neg]; exact a.now)) (by first | exact a.moves | (simp (disch := omega) only [up_ne, up_at, if_pos, if_neg]; done) | (simp (disch := omega) only [up_ne, up_at, if_pos, if_neg]; exact a.moves)) (by first | exact a.mC | (simp (disch := omega) only [up_ne, up_at, if_pos, if_neg]; done) | (simp (disch := omega) only [up_ne, up_at, if_pos, if_neg]; exact a.mC)) (by first | exact a.mT | (simp (disch := omega) only [up_ne, up_at, if_pos, if_neg]; done) | (simp (disch := omega) only [up_ne, up_at, if_pos, if_neg]; exact a.mT)) (by first | exact a.mM | (simp (disch := omega) only [up_ne, up_at, if_pos, if_neg]; done) | (simp (disch := omega) only [up_ne, up_at, if_pos, if_neg]; exact a.mM)) (by first | exact a.mN | (simp (disch := omega) only [up_ne, up_at, if_pos, if_neg]; done) | (simp (disch := omega) only [up_ne, up_at, if_pos, if_neg]; exact a.mN)) (by first | exact a.mD | (simp (disch := omega) only [up_ne, up_at, if_pos, if_neg]; done) | (simp (disch := omega) only [up_ne, up_at, if_pos, if_neg]; exact a.mD)) (by first | exact a.reps | (simp (disch := omega) only [up_ne, up_at, if_pos, if_neg]; done) | (simp (disch := omega) only [up_ne, up_at, if_pos, if_neg]; exact a.reps)) (by first | exact a.rB | (simp (disch := omega) only [up_ne, up_at, if_pos, if_neg]; done) | (simp (disch := omega) only [up_ne, up_at, if_pos, if_neg]; exact a.rB)) (by first | exact a.rC | (simp (disch := omega) only [up_ne, up_at, if_pos, if_neg]; done) | (simp (disch := omega) only [up_ne, up_at, if_pos, if_neg]; exact a.rC)) (by first | exact a.rM | (simp (disch := omega) only [up_ne, up_at, if_pos, if_neg]; done) | (simp (disch := omega) only [up_ne, up_at, if_pos, if_neg]; exact a.rM)) (by first | exact a.rS | (simp (disch := omega) only [up_ne, up_at, if_pos, if_neg]; done) | (simp (disch := omega) only [up_ne, up_at, if_pos, if_neg]; exact a.rS)) (by first | exact a.rD | (simp (disch := omega) only [up_ne, up_at, if_pos, if_neg]; done) | (simp (disch := omega) only [up_ne, up_at, if_pos, if_neg]; exact a.rD)) (by first | exact a.listed | (simp (disch := omega) only [up_ne, up_at, if_pos, if_neg]; done) | (simp (disch := omega) only [up_ne, up_at, if_pos, if_neg]; exact a.listed)) (by first | exact a.list | (simp (disch := omega) only [up_ne, up_at, if_pos, if_neg]; done) | (simp (disch := omega) only [up_ne, up_at, if_pos, if_neg]; exact a.list))
      intro i h1 h2
      rw [up_ne (by decide)]
      exact a.txt i h1 (by have h2 : i < n := h2; omega)
    · simp only [if_neg q] at hK ⊢
      exact hK h x.rep (fun _ _ => rfl)
theorem isIn_to {f g : Int → Int} {c m : Int} (h : ∀ i, 0 ≤ i → i < c → f i = g i) : isIn f c m ↔ isIn g c m := by
  constructor
  · rintro ⟨i, h1, h2, h3⟩
    exact ⟨i, h1, h2, by rw [← h i h1 h2]; exact h3⟩
  · rintro ⟨i, h1, h2, h3⟩
    exact ⟨i, h1, h2, by rw [h i h1 h2]; exact h3⟩
def lsOk (m : Int) (S : St) : Prop := S.listed < 4 ∧ (1 ≤ m ∧ m ≤ 50) ∧ ¬ isIn S.list S.listed m
noncomputable def St.ls (m : Int) (S : St) : St := by
  classical
  exact if lsOk m S then (St.mk S.size S.txt S.rules S.terms S.const S.kind S.sign S.many S.val S.scn S.sc S.charts S.crule S.ord S.wide S.left S.right S.seam S.low S.upp S.rdC S.rdM S.now S.moves S.mC S.mT S.mM S.mN S.mD S.reps S.rB S.rC S.rM S.rS S.rD (S.listed + 1) (fup S.list S.listed m)) else S
noncomputable def rLs (m : Int) (S : St) : Int := by
  classical
  exact if lsOk m S then S.listed + 1 else -1
theorem a_list (m : Int) : Agree (w_X10_list 0 m) (w_X11_list 33 m) := by
  refine agree_u (rLs m) (St.ls m) ?_ ?_ ?_
  · intro S w
    unfold St.ls
    split
    · rename_i q
      have := w.listed
      have q1 := q.1
      refine w.upd RcEq.triv w.size w.txt (w.rd' RcEq.triv rfl rfl) w.now w.moves w.mN w.reps (fun i h1 h2 => (w.rep i h1 h2).to' RcEq.triv) w.rS w.rB (by show 0 ≤ S.listed + 1 ∧ S.listed + 1 ≤ 4; omega) ?_
      intro i h1 h2
      have h2 : i < S.listed + 1 := h2
      show 1 ≤ fup S.list S.listed m i ∧ fup S.list S.listed m i ≤ 50
      by_cases e : i = S.listed
      · rw [e, fup_at]; exact q.2.1
      · rw [fup_ne e]; exact w.list i h1 (by omega)
    · exact w
  · intro h S b K hK
    have li := b.c.listed
    have lb := b.w.listed
    have ii : isIn (h (0 + 8)) (h 0 7) m ↔ isIn S.list S.listed m := by
      rw [li]; exact isIn_to b.c.list
    by_cases q : lsOk m S
    · unfold St.ls rLs at hK
      simp only [if_pos q] at hK
      obtain ⟨q1, q2, q3⟩ := q
      refine list_C_ok (by omega) q2 (fun w => q3 (ii.mp w)) ?_
      simp only [Int.reduceAdd]
      rw [li]
      refine hK _ ?_ ?_ ?_
      · refine RepC.of (by first | exact b.c.size | (simp (disch := omega) only [up_ne, up_at, if_pos, if_neg]; done) | (simp (disch := omega) only [up_ne, up_at, if_pos, if_neg]; exact b.c.size)) (by first | exact b.c.txt | (simp (disch := omega) only [up_ne, up_at, if_pos, if_neg]; done) | (simp (disch := omega) only [up_ne, up_at, if_pos, if_neg]; exact b.c.txt)) ?_ (by first | exact b.c.rdC | (simp (disch := omega) only [up_ne, up_at, if_pos, if_neg]; done) | (simp (disch := omega) only [up_ne, up_at, if_pos, if_neg]; exact b.c.rdC)) (by first | exact b.c.rdM | (simp (disch := omega) only [up_ne, up_at, if_pos, if_neg]; done) | (simp (disch := omega) only [up_ne, up_at, if_pos, if_neg]; exact b.c.rdM)) (by first | exact b.c.now | (simp (disch := omega) only [up_ne, up_at, if_pos, if_neg]; done) | (simp (disch := omega) only [up_ne, up_at, if_pos, if_neg]; exact b.c.now)) ?_ ?_ (by first | exact rfl | (simp (disch := omega) only [up_ne, up_at, if_pos, if_neg]; done) | (simp (disch := omega) only [up_ne, up_at, if_pos, if_neg]; exact rfl)) ?_
        · exact b.c.rcp.to b.w RcEq.triv (by first | exact rfl | (simp (disch := omega) only [up_ne, up_at, if_pos, if_neg]; done) | (simp (disch := omega) only [up_ne, up_at, if_pos, if_neg]; exact rfl)) (by first | exact rfl | (simp (disch := omega) only [up_ne, up_at, if_pos, if_neg]; done) | (simp (disch := omega) only [up_ne, up_at, if_pos, if_neg]; exact rfl)) (by first | exact rfl | (simp (disch := omega) only [up_ne, up_at, if_pos, if_neg]; done) | (simp (disch := omega) only [up_ne, up_at, if_pos, if_neg]; exact rfl)) (by first | exact rfl | (simp (disch := omega) only [up_ne, up_at, if_pos, if_neg]; done) | (simp (disch := omega) only [up_ne, up_at, if_pos, if_neg]; exact rfl)) (by first | exact rfl | (simp (disch := omega) only [up_ne, up_at, if_pos, if_neg]; done) | (simp (disch := omega) only [up_ne, up_at, if_pos, if_neg]; exact rfl)) (fun b hb => by first | exact rfl | (simp (disch := omega) only [up_ne, up_at, if_pos, if_neg]; done) | (simp (disch := omega) only [up_ne, up_at, if_pos, if_neg]; exact rfl))
        · exact b.c.mvp.to mvEq6 (fun b h1 h2 => by first | exact rfl | (simp (disch := omega) only [up_ne, up_at, if_pos, if_neg]; done) | (simp (disch := omega) only [up_ne, up_at, if_pos, if_neg]; exact rfl))
        · exact b.c.rpp.to rpEq6 (by first | exact rfl | (simp (disch := omega) only [up_ne, up_at, if_pos, if_neg]; done) | (simp (disch := omega) only [up_ne, up_at, if_pos, if_neg]; exact rfl)) (fun b h1 h2 => by first | exact rfl | (simp (disch := omega) only [up_ne, up_at, if_pos, if_neg]; done) | (simp (disch := omega) only [up_ne, up_at, if_pos, if_neg]; exact rfl))
        · intro i h1 h2
          have h2 : i < S.listed + 1 := h2
          rw [up_ne (by decide), up_at]
          show _ = fup S.list S.listed m i
          unfold fup
          split
          · rfl
          · exact b.c.list i h1 (by omega)
      · exact b.d.to (by first | exact rfl | (simp (disch := omega) only [up_ne, up_at, if_pos, if_neg]; done) | (simp (disch := omega) only [up_ne, up_at, if_pos, if_neg]; exact rfl)) (by first | exact rfl | (simp (disch := omega) only [up_ne, up_at, if_pos, if_neg]; done) | (simp (disch := omega) only [up_ne, up_at, if_pos, if_neg]; exact rfl)) (Int.le_refl _) (dsame RcEq.triv mvEq6 rpEq6)
      · exact fun a h1 h2 => by first | exact rfl | (simp (disch := omega) only [up_ne, up_at, if_pos, if_neg]; done) | (simp (disch := omega) only [up_ne, up_at, if_pos, if_neg]; exact rfl)
    · unfold St.ls rLs at hK
      simp only [if_neg q] at hK
      refine list_C_no (by omega) ?_ (hK h b.c b.d (fun _ _ _ => rfl))
      rw [ii, li]
      by_cases q1 : S.listed = 4
      · exact Or.inl q1
      · by_cases q2 : 1 ≤ m ∧ m ≤ 50
        · refine Or.inr (Or.inr ?_)
          by_cases q3 : isIn S.list S.listed m
          · exact q3
          · exact absurd ⟨by omega, q2, q3⟩ q
        · exact Or.inr (Or.inl q2)
  · intro h S x K hK
    have a := x.rep
    have li := a.listed
    have lb := x.wf.listed
    have ii : isIn (h (33 + 30)) (h 33 42) m ↔ isIn S.list S.listed m := by
      rw [li]; exact isIn_to a.list
    by_cases q : lsOk m S
    · unfold St.ls rLs at hK
      simp only [if_pos q] at hK
      obtain ⟨q1, q2, q3⟩ := q
      refine list_M_ok (by omega) q2 (fun w => q3 (ii.mp w)) ?_
      simp only [Int.reduceAdd]
      rw [li]
      refine hK _ ?_ (fun a h1 => by first | exact rfl | (simp (disch := omega) only [up_ne, up_at, if_pos, if_neg]; done) | (simp (disch := omega) only [up_ne, up_at, if_pos, if_neg]; exact rfl))
      refine a.upd (fun b h1 h2 => by first | exact rfl | (simp (disch := omega) only [up_ne, up_at, if_pos, if_neg]; done) | (simp (disch := omega) only [up_ne, up_at, if_pos, if_neg]; exact rfl)) (by first | exact rfl | (simp (disch := omega) only [up_ne, up_at, if_pos, if_neg]; done) | (simp (disch := omega) only [up_ne, up_at, if_pos, if_neg]; exact rfl)) (by first | exact rfl | (simp (disch := omega) only [up_ne, up_at, if_pos, if_neg]; done) | (simp (disch := omega) only [up_ne, up_at, if_pos, if_neg]; exact rfl)) RcEq.triv (by first | exact a.size | (simp (disch := omega) only [up_ne, up_at, if_pos, if_neg]; done) | (simp (disch := omega) only [up_ne, up_at, if_pos, if_neg]; exact a.size)) (by first | exact a.txt | (simp (disch := omega) only [up_ne, up_at, if_pos, if_neg]; done) | (simp (disch := omega) only [up_ne, up_at, if_pos, if_neg]; exact a.txt)) (by first | exact a.rdC | (simp (disch := omega) only [up_ne, up_at, if_pos, if_neg]; done) | (simp (disch := omega) only [up_ne, up_at, if_pos, if_neg]; exact a.rdC)) (by first | exact a.rdM | (simp (disch := omega) only [up_ne, up_at, if_pos, if_neg]; done) | (simp (disch := omega) only [up_ne, up_at, if_pos, if_neg]; exact a.rdM)) (by first | exact a.now | (simp (disch := omega) only [up_ne, up_at, if_pos, if_neg]; done) | (simp (disch := omega) only [up_ne, up_at, if_pos, if_neg]; exact a.now)) (by first | exact a.moves | (simp (disch := omega) only [up_ne, up_at, if_pos, if_neg]; done) | (simp (disch := omega) only [up_ne, up_at, if_pos, if_neg]; exact a.moves)) (by first | exact a.mC | (simp (disch := omega) only [up_ne, up_at, if_pos, if_neg]; done) | (simp (disch := omega) only [up_ne, up_at, if_pos, if_neg]; exact a.mC)) (by first | exact a.mT | (simp (disch := omega) only [up_ne, up_at, if_pos, if_neg]; done) | (simp (disch := omega) only [up_ne, up_at, if_pos, if_neg]; exact a.mT)) (by first | exact a.mM | (simp (disch := omega) only [up_ne, up_at, if_pos, if_neg]; done) | (simp (disch := omega) only [up_ne, up_at, if_pos, if_neg]; exact a.mM)) (by first | exact a.mN | (simp (disch := omega) only [up_ne, up_at, if_pos, if_neg]; done) | (simp (disch := omega) only [up_ne, up_at, if_pos, if_neg]; exact a.mN)) (by first | exact a.mD | (simp (disch := omega) only [up_ne, up_at, if_pos, if_neg]; done) | (simp (disch := omega) only [up_ne, up_at, if_pos, if_neg]; exact a.mD)) (by first | exact a.reps | (simp (disch := omega) only [up_ne, up_at, if_pos, if_neg]; done) | (simp (disch := omega) only [up_ne, up_at, if_pos, if_neg]; exact a.reps)) (by first | exact a.rB | (simp (disch := omega) only [up_ne, up_at, if_pos, if_neg]; done) | (simp (disch := omega) only [up_ne, up_at, if_pos, if_neg]; exact a.rB)) (by first | exact a.rC | (simp (disch := omega) only [up_ne, up_at, if_pos, if_neg]; done) | (simp (disch := omega) only [up_ne, up_at, if_pos, if_neg]; exact a.rC)) (by first | exact a.rM | (simp (disch := omega) only [up_ne, up_at, if_pos, if_neg]; done) | (simp (disch := omega) only [up_ne, up_at, if_pos, if_neg]; exact a.rM)) (by first | exact a.rS | (simp (disch := omega) only [up_ne, up_at, if_pos, if_neg]; done) | (simp (disch := omega) only [up_ne, up_at, if_pos, if_neg]; exact a.rS)) (by first | exact a.rD | (simp (disch := omega) only [up_ne, up_at, if_pos, if_neg]; done) | (simp (disch := omega) only [up_ne, up_at, if_pos, if_neg]; exact a.rD)) (by first | exact rfl | (simp (disch := omega) only [up_ne, up_at, if_pos, if_neg]; done) | (simp (disch := omega) only [up_ne, up_at, if_pos, if_neg]; exact rfl)) ?_
      intro i h1 h2
      have h2 : i < S.listed + 1 := h2
      rw [up_ne (by decide), up_at]
      show _ = fup S.list S.listed m i
      unfold fup
      split
      · rfl
      · exact a.list i h1 (by omega)
    · unfold St.ls rLs at hK
      simp only [if_neg q] at hK
      refine list_M_no (by omega) ?_ (hK h x.rep (fun _ _ => rfl))
      rw [ii, li]
      by_cases q1 : S.listed = 4
      · exact Or.inl q1
      · by_cases q2 : 1 ≤ m ∧ m ≤ 50
        · refine Or.inr (Or.inr ?_)
          by_cases q3 : isIn S.list S.listed m
          · exact q3
          · exact absurd ⟨by omega, q2, q3⟩ q
        · exact Or.inr (Or.inl q2)
