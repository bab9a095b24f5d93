/-! PURE 54: texts: tokens -/
def nr (T : Int → Int) : Nat → Int → Int → Int × Int
  | 0, q, tv => (q, tv)
  | k + 1, q, tv => if 48 ≤ T q ∧ T q ≤ 57 then nr T k (q + 1) (if tv ≤ 99999 then 10 * tv + T q - 48 else tv) else (q, tv)
noncomputable def St.P (S : St) (p : Int) (σ : PS) : Int ⊕ PS := prs S.txt (S.size - p).toNat p σ (-1) 0
def St.tT (S : St) (p : Int) : Int := if p = S.size then 0 else if 48 ≤ S.txt p ∧ S.txt p ≤ 57 then 2 else if 97 ≤ S.txt p ∧ S.txt p ≤ 122 then 1 else if S.txt p = 61 ∨ S.txt p = 43 ∨ S.txt p = 45 ∨ S.txt p = 42 ∨ S.txt p = 47 ∨ S.txt p = 59 then 3 else 4
def St.tV (S : St) (p : Int) : Int := if p = S.size then 0 else if 48 ≤ S.txt p ∧ S.txt p ≤ 57 then (nr S.txt (S.size - p).toNat p 0).2 else S.txt p
def St.tE (S : St) (p : Int) : Int := if p = S.size then p else if 48 ≤ S.txt p ∧ S.txt p ≤ 57 then (nr S.txt (S.size - p).toNat p 0).1 else p + 1
theorem nr_bd {T : Int → Int} : ∀ (k : Nat) (q tv : Int), q ≤ (nr T k q tv).1 ∧ (nr T k q tv).1 ≤ q + k := by
  intro k
  induction k with
  | zero => intro q tv; show q ≤ q ∧ q ≤ q + ((0 : Nat) : Int); omega
  | succ k ih =>
    intro q tv
    unfold nr
    split
    · have := ih (q + 1) (if tv ≤ 99999 then 10 * tv + T q - 48 else tv)
      omega
    · show q ≤ q ∧ q ≤ _
      omega
theorem nr_v {T : Int → Int} : ∀ (k : Nat) (q tv : Int), 0 ≤ tv → tv ≤ 1000000 → 0 ≤ (nr T k q tv).2 ∧ (nr T k q tv).2 ≤ 1000000 := by
  intro k
  induction k with
  | zero => intro q tv h1 h2; exact ⟨h1, h2⟩
  | succ k ih =>
    intro q tv h1 h2
    unfold nr
    split
    · refine ih _ _ ?_ ?_ <;> split <;> omega
    · exact ⟨h1, h2⟩
theorem nr_big {T : Int → Int} : ∀ (k : Nat) (q tv : Int), 9999 < tv → 9999 < (nr T k q tv).2 := by
  intro k
  induction k with
  | zero => intro q tv h1; exact h1
  | succ k ih =>
    intro q tv h1
    unfold nr
    split
    · refine ih _ _ ?_
      split <;> omega
    · exact h1
theorem P_s {S : St} {p : Int} (h : p < S.size) (σ : PS) : S.P p σ = if 48 ≤ S.txt p ∧ S.txt p ≤ 57 then (if σ.st = 3 then prs S.txt (S.size - (p + 1)).toNat (p + 1) σ p (S.txt p - 48) else Sum.inl p) else if S.txt p = 32 then S.P (p + 1) σ else if (σ.tks (ub (S.txt p))).st = -1 then Sum.inl p else S.P (p + 1) (σ.tks (ub (S.txt p))) := by
  unfold St.P
  rw [show (S.size - p).toNat = (S.size - (p + 1)).toNat + 1 by omega]
  rfl
theorem P_e {S : St} {p : Int} (h : p = S.size) (σ : PS) : S.P p σ = if σ.st = 8 then Sum.inr σ else Sum.inl p := by
  unfold St.P
  rw [show (S.size - p).toNat = 0 by omega]
  rfl
theorem prs_nr {S : St} {σ : PS} {ns : Int} (hs : σ.st = 3) (hns : ns ≠ -1) : ∀ (k : Nat) (q tv : Int), S.size - q = k → 0 ≤ tv → tv ≤ 9999 → prs S.txt k q σ ns tv = if (nr S.txt k q tv).2 ≤ 9999 then S.P (nr S.txt k q tv).1 (σ.num (nr S.txt k q tv).2) else Sum.inl ns := by
  intro k
  induction k with
  | zero =>
    intro q tv hk h1 h2
    show (if σ.st = 8 then Sum.inr σ else Sum.inl q) = if tv ≤ 9999 then S.P q (σ.num tv) else Sum.inl ns
    rw [if_pos h2, P_e (by omega), if_neg (by omega), if_neg (by show ¬ (7 : Int) = 8; decide)]
  | succ k ih =>
    intro q tv hk h1 h2
    have u : prs S.txt (k + 1) q σ ns tv = if 48 ≤ S.txt q ∧ S.txt q ≤ 57 then (if ns ≠ -1 then (if tv * 10 + (S.txt q - 48) ≤ 9999 then prs S.txt k (q + 1) σ ns (tv * 10 + (S.txt q - 48)) else Sum.inl ns) else if σ.st = 3 then prs S.txt k (q + 1) σ q (S.txt q - 48) else Sum.inl q) else if S.txt q = 32 then prs S.txt k (q + 1) (σ.cl ns tv) (-1) 0 else if ((σ.cl ns tv).tks (ub (S.txt q))).st = -1 then Sum.inl q else prs S.txt k (q + 1) ((σ.cl ns tv).tks (ub (S.txt q))) (-1) 0 := rfl
    have v : nr S.txt (k + 1) q tv = if 48 ≤ S.txt q ∧ S.txt q ≤ 57 then nr S.txt k (q + 1) (if tv ≤ 99999 then 10 * tv + S.txt q - 48 else tv) else (q, tv) := rfl
    rw [u, v]
    by_cases d : 48 ≤ S.txt q ∧ S.txt q ≤ 57
    · rw [if_pos d, if_pos d, if_pos hns, if_pos (show tv ≤ 99999 by omega), show 10 * tv + S.txt q - 48 = tv * 10 + (S.txt q - 48) by omega]
      by_cases b : tv * 10 + (S.txt q - 48) ≤ 9999
      · rw [if_pos b]
        exact ih (q + 1) _ (by omega) (by omega) b
      · rw [if_neg b]
        have := nr_big (T := S.txt) k (q + 1) (tv * 10 + (S.txt q - 48)) (by omega)
        rw [if_neg (by omega)]
    · rw [if_neg d, if_neg d]
      show _ = if tv ≤ 9999 then S.P q (σ.num tv) else Sum.inl ns
      have ec : σ.cl ns tv = σ.num tv := if_neg hns
      rw [if_pos h2, P_s (by omega), if_neg d, ec]
      unfold St.P
      rw [show (S.size - (q + 1)).toNat = k by omega]
/-- a byte that begins no token -/
theorem tks_odd {σ : PS} (p : PI σ) {c : Int} (h1 : ¬ (97 ≤ c ∧ c ≤ 122)) (h2 : ¬ (c = 61 ∨ c = 43 ∨ c = 45 ∨ c = 42 ∨ c = 47 ∨ c = 59)) : (σ.tks c).st = -1 := by
  have lno : ∀ k n, σ.ltr c k n = σ.go 0 (-1) := fun k n => ltr_no (fun w => h1 w.1)
  have bno : σ.bgn c = σ.go 0 (-1) := by
    unfold PS.bgn
    rw [if_pos (show c ≠ 47 by omega), lno]
    split <;> rfl
  have fno : σ.flw c = σ.go 0 (-1) := by
    unfold PS.flw
    rw [if_pos (show c ≠ 43 by omega), if_pos (show c ≠ 45 by omega), if_pos (show c ≠ 59 by omega), if_pos (show c ≠ 61 by omega)]
    split <;> rfl
  have sno : σ.sqr c = σ.go 0 (-1) := by
    unfold PS.sqr
    have tm := p.tm
    by_cases q : σ.tm < 1
    · rw [if_pos (Or.inr (Or.inl q))]
    · have := p.lt (σ.tm - 1) (by omega) (by omega)
      rw [if_pos (Or.inl (by omega))]
  unfold PS.tks
  rw [if_pos (show c ≠ 45 by omega), if_pos (show c ≠ 42 by omega), bno, fno, sno, lno]
  repeat' split
  all_goals rfl
theorem tT5 (S : St) (p : Int) : S.tT p = 0 ∨ S.tT p = 1 ∨ S.tT p = 2 ∨ S.tT p = 3 ∨ S.tT p = 4 := by
  unfold St.tT
  repeat' split
  all_goals omega
theorem P_over {S : St} {p : Int} (h : S.tT p = 0) : p = S.size := by
  unfold St.tT at h
  by_cases e : p = S.size
  · exact e
  · rw [if_neg e] at h
    split at h
    · omega
    · split at h
      · omega
      · split at h <;> omega
theorem P_numb {S : St} {p : Int} (h0 : 0 ≤ p) (h1 : p ≤ S.size) (h : S.tT p = 2) (σ : PS) : S.P p σ = if σ.st = 3 then (if S.tV p ≤ 9999 then S.P (S.tE p) (σ.num (S.tV p)) else Sum.inl p) else Sum.inl p := by
  unfold St.tT at h
  by_cases e : p = S.size
  · rw [if_pos e] at h; omega
  · rw [if_neg e] at h
    by_cases d : 48 ≤ S.txt p ∧ S.txt p ≤ 57
    · rw [P_s (by omega), if_pos d]
      unfold St.tV St.tE
      rw [if_neg e, if_pos d, if_neg e, if_pos d]
      by_cases q : σ.st = 3
      · rw [if_pos q, if_pos q, prs_nr q (by omega) _ _ _ (by omega) (by omega) (by omega)]
        have v : nr S.txt ((S.size - (p + 1)).toNat + 1) p 0 = if 48 ≤ S.txt p ∧ S.txt p ≤ 57 then nr S.txt (S.size - (p + 1)).toNat (p + 1) (if (0 : Int) ≤ 99999 then 10 * 0 + S.txt p - 48 else 0) else (p, 0) := rfl
        rw [show (S.size - p).toNat = (S.size - (p + 1)).toNat + 1 by omega, v, if_pos d, if_pos (show (0 : Int) ≤ 99999 by omega), show 10 * 0 + S.txt p - 48 = S.txt p - 48 by omega]
      · rw [if_neg q, if_neg q]
    · rw [if_neg d] at h
      split at h
      · omega
      · split at h <;> omega
theorem P_char {S : St} {p : Int} (h1 : p ≤ S.size) (h : S.tT p = 1 ∨ S.tT p = 3) (σ : PS) : (S.tV p = S.txt p ∧ S.tE p = p + 1 ∧ p < S.size) ∧ S.P p σ = if (σ.tks (S.tV p)).st = -1 then Sum.inl p else S.P (S.tE p) (σ.tks (S.tV p)) := by
  unfold St.tT at h
  by_cases e : p = S.size
  · rw [if_pos e] at h; omega
  · rw [if_neg e] at h
    by_cases d : 48 ≤ S.txt p ∧ S.txt p ≤ 57
    · rw [if_pos d] at h; omega
    · rw [if_neg d] at h
      have ch : (97 ≤ S.txt p ∧ S.txt p ≤ 122) ∨ (S.txt p = 61 ∨ S.txt p = 43 ∨ S.txt p = 45 ∨ S.txt p = 42 ∨ S.txt p = 47 ∨ S.txt p = 59) := by
        split at h
        · exact Or.inl (by assumption)
        · split at h
          · exact Or.inr (by assumption)
          · omega
      have ev : S.tV p = S.txt p := by unfold St.tV; rw [if_neg e, if_neg d]
      have ee : S.tE p = p + 1 := by unfold St.tE; rw [if_neg e, if_neg d]
      refine ⟨⟨ev, ee, by omega⟩, ?_⟩
      rw [P_s (by omega), if_neg d, if_neg (by omega), ev, ee, ub_id (by omega)]
theorem P_odd {S : St} (w : WF S) {p : Int} (h0 : 0 ≤ p) (h1 : p ≤ S.size) (h : S.tT p = 4) (hs : S.txt p ≠ 32) {σ : PS} (pi : PI σ) : S.P p σ = Sum.inl p := by
  unfold St.tT at h
  by_cases e : p = S.size
  · rw [if_pos e] at h; omega
  · rw [if_neg e] at h
    have tb := w.txt p h0 (by omega)
    by_cases d : 48 ≤ S.txt p ∧ S.txt p ≤ 57
    · rw [if_pos d] at h; omega
    · rw [if_neg d] at h
      by_cases l : 97 ≤ S.txt p ∧ S.txt p ≤ 122
      · rw [if_pos l] at h; omega
      · rw [if_neg l] at h
        by_cases g : S.txt p = 61 ∨ S.txt p = 43 ∨ S.txt p = 45 ∨ S.txt p = 42 ∨ S.txt p = 47 ∨ S.txt p = 59
        · rw [if_pos g] at h; omega
        · rw [P_s (by omega), if_neg d, if_neg hs, if_pos]
          refine tks_odd pi ?_ ?_
          · unfold ub; split <;> omega
          · unfold ub; split <;> omega
theorem P_fail {S : St} (w : WF S) {p : Int} (h0 : 0 ≤ p) (h1 : p ≤ S.size) (hs : p < S.size → S.txt p ≠ 32) {σ : PS} (pi : PI σ) (h8 : σ.st ≠ 8) (h2 : S.tT p = 2 → σ.st ≠ 3) (h13 : S.tT p = 1 ∨ S.tT p = 3 → (σ.tks (S.tV p)).st = -1) : S.P p σ = Sum.inl p := by
  rcases tT5 S p with t | t | t | t | t
  · rw [P_e (P_over t), if_neg h8]
  · rw [(P_char h1 (Or.inl t) σ).2, if_pos (h13 (Or.inl t))]
  · rw [P_numb h0 h1 t, if_neg (h2 t)]
  · rw [(P_char h1 (Or.inr t) σ).2, if_pos (h13 (Or.inr t))]
  · refine P_odd w h0 h1 t (hs ?_) pi
    apply Int.lt_iff_le_and_ne.mpr
    refine ⟨h1, fun e => ?_⟩
    unfold St.tT at t
    rw [if_pos e] at t
    omega
/-- the token that the reference looks at -/
def TK (h : Hh) (S : St) (p : Int) : Prop := (0 ≤ p ∧ p ≤ S.size) ∧ (p < S.size → S.txt p ≠ 32) ∧ (h 33 4 = p) ∧ (h 33 3 = S.tT p) ∧ (h 33 5 = S.tV p) ∧ (h 33 2 = S.tE p)
theorem TK.rng {h : Hh} {S : St} {p : Int} (x__ : TK h S p) : 0 ≤ p ∧ p ≤ S.size := x__.1
theorem TK.nsp {h : Hh} {S : St} {p : Int} (x__ : TK h S p) : p < S.size → S.txt p ≠ 32 := x__.2.1
theorem TK.pl {h : Hh} {S : St} {p : Int} (x__ : TK h S p) : h 33 4 = p := x__.2.2.1
theorem TK.ty {h : Hh} {S : St} {p : Int} (x__ : TK h S p) : h 33 3 = S.tT p := x__.2.2.2.1
theorem TK.val {h : Hh} {S : St} {p : Int} (x__ : TK h S p) : h 33 5 = S.tV p := x__.2.2.2.2.1
theorem TK.en {h : Hh} {S : St} {p : Int} (x__ : TK h S p) : h 33 2 = S.tE p := x__.2.2.2.2.2
theorem TK.mk' {h : Hh} {S : St} {p : Int} (rng__ : 0 ≤ p ∧ p ≤ S.size) (nsp__ : p < S.size → S.txt p ≠ 32) (pl__ : h 33 4 = p) (ty__ : h 33 3 = S.tT p) (val__ : h 33 5 = S.tV p) (en__ : h 33 2 = S.tE p) : TK h S p := ⟨rng__, nsp__, pl__, ty__, val__, en__⟩
def eqN (h h' : Hh) : Prop := (∀ a, a ≠ 33 → h' a = h a) ∧ (∀ k, k ≠ 2 → k ≠ 3 → k ≠ 4 → k ≠ 5 → h' 33 k = h 33 k)
theorem eqN.o {h h' : Hh} (x__ : eqN h h') : ∀ a, a ≠ 33 → h' a = h a := x__.1
theorem eqN.f {h h' : Hh} (x__ : eqN h h') : ∀ k, k ≠ 2 → k ≠ 3 → k ≠ 4 → k ≠ 5 → h' 33 k = h 33 k := x__.2
theorem eqN.mk' {h h' : Hh} (o__ : ∀ a, a ≠ 33 → h' a = h a) (f__ : ∀ k, k ≠ 2 → k ≠ 3 → k ≠ 4 → k ≠ 5 → h' 33 k = h 33 k) : eqN h h' := ⟨o__, f__⟩
theorem eqN.rfl' {h : Hh} : eqN h h := ⟨fun _ _ => rfl, fun _ _ _ _ _ => rfl⟩
theorem eqN.trans {h h1 h2 : Hh} (a : eqN h h1) (b : eqN h1 h2) : eqN h h2 := ⟨fun x q => (b.o x q).trans (a.o x q), fun k q1 q2 q3 q4 => (b.f k q1 q2 q3 q4).trans (a.f k q1 q2 q3 q4)⟩
theorem eqN.m {h h' : Hh} (e : eqN h h') : eqM h h' := fun a k q => by
  by_cases g : a = 33
  · rw [g]; exact e.f k (fun w => q (by unfold scM; omega)) (fun w => q (by unfold scM; omega)) (fun w => q (by unfold scM; omega)) (fun w => q (by unfold scM; omega))
  · rw [e.o a g]
theorem eqN.up {h h' : Hh} {k x : Int} (e : eqN h h') (q : k = 2 ∨ k = 3 ∨ k = 4 ∨ k = 5) : eqN h (up h' 33 k x) := ⟨fun a ha => by rw [up_ne ha]; exact e.o a ha, fun j q1 q2 q3 q4 => by rw [up_at, if_neg (by omega)]; exact e.f j q1 q2 q3 q4⟩
theorem r_next {h0 : Hh} {S : St} (x : Mx h0 S) {q0 : Int} (hq : h0 33 2 = q0) (hq0 : 0 ≤ q0) (hq1 : q0 ≤ S.size) {K : Int → Hh → Prop} (hK : ∀ h p, eqN h0 h → TK h S p → (∀ σ, S.P q0 σ = S.P p σ) → q0 ≤ p → K 0 h) : w_X11_next 33 h0 K := by
  have sz := x.wf.size
  unfold w_X11_next
  -- behind the blanks
  have tok : ∀ (q : Int) (h : Hh), h 33 2 = q → q0 ≤ q → q ≤ S.size → eqN h0 h → (q < S.size → S.txt q ≠ 32) → (∀ σ, S.P q0 σ = S.P q σ) → w_X11_next_38 K 33 h := by
    intro q h hq' g0 g1 e hs eP
    unfold w_X11_next_38
    simp only [hb_p]
    have e6 : eqN h0 (up (up (up h 33 4 (h 33 2)) 33 3 0) 33 5 0) := ((e.up (by omega)).up (by omega)).up (by omega)
    have v2 : up (up (up h 33 4 (h 33 2)) 33 3 0) 33 5 0 33 2 = q := by
      simp only [up_at, Int.reduceEq, reduceIte]; exact hq'
    have v3 : up (up (up h 33 4 (h 33 2)) 33 3 0) 33 5 0 33 3 = 0 := by
      simp only [up_at, Int.reduceEq, reduceIte]
    have v4 : up (up (up h 33 4 (h 33 2)) 33 3 0) 33 5 0 33 4 = q := by
      simp only [up_at, Int.reduceEq, reduceIte]; exact hq'
    have v5 : up (up (up h 33 4 (h 33 2)) 33 3 0) 33 5 0 33 5 = 0 := by
      simp only [up_at, Int.reduceEq, reduceIte]
    generalize up (up (up h 33 4 (h 33 2)) 33 3 0) 33 5 0 = h6 at e6 v2 v3 v4 v5
    have y := x.keep e6.m
    rw [v2, y.rep.size]
    by_cases eq : q = S.size
    · rw [if_neg (fun u => u eq)]
      refine hK h6 q e6 ⟨by omega, hs, v4, ?_, ?_, ?_⟩ eP g0
      · unfold St.tT; rw [if_pos eq]; exact v3
      · unfold St.tV; rw [if_pos eq]; exact v5
      · unfold St.tE; rw [if_pos eq]; exact v2
    · rw [if_pos eq, and_t (by omega), vb_p]
      simp only [Int.reduceAdd]
      rw [y.rep.txt q (by omega) (by omega)]
      have put : ¬ (48 ≤ S.txt q ∧ S.txt q ≤ 57) → ∀ s0, s0 = S.tT q → w_X11_next_246 K 33 (S.txt q) s0 33 h6 := by
        intro d s0 hs0
        unfold w_X11_next_246
        rw [and_t (by omega), hb_p, hb_p, hb_p]
        refine hK _ q (((e6.up (by omega)).up (by omega)).up (by omega)) ⟨by omega, hs, ?_, ?_, ?_, ?_⟩ eP g0
        · simp only [up_at, Int.reduceEq, reduceIte]; exact v4
        · simp only [up_at, Int.reduceEq, reduceIte]; exact hs0
        · simp only [up_at, Int.reduceEq, reduceIte]; unfold St.tV; rw [if_neg eq, if_neg d]
        · simp only [up_at, Int.reduceEq, reduceIte]
          unfold St.tE
          rw [if_neg eq, if_neg d, v2, w32_id (by omega) (by omega)]
      have sgn : ¬ (48 ≤ S.txt q ∧ S.txt q ≤ 57) → w_X11_next_188 K 33 (S.txt q) h6 := by
        intro d
        have tt : S.tT q = if 97 ≤ S.txt q ∧ S.txt q ≤ 122 then 1 else if S.txt q = 61 ∨ S.txt q = 43 ∨ S.txt q = 45 ∨ S.txt q = 42 ∨ S.txt q = 47 ∨ S.txt q = 59 then 3 else 4 := by
          unfold St.tT
          rw [if_neg eq, if_neg d]
        have s205 : ¬ (97 ≤ S.txt q ∧ S.txt q ≤ 122) → w_X11_next_205 K 33 (S.txt q) 33 h6 := by
          intro l
          rw [if_neg l] at tt
          unfold w_X11_next_205 w_X11_next_241
          by_cases s1 : S.txt q = 61
          · rw [if_pos s1]; exact put d 3 (by rw [tt, if_pos (by omega)])
          rw [if_neg s1]
          by_cases s2 : S.txt q = 43
          · rw [if_pos s2]; exact put d 3 (by rw [tt, if_pos (by omega)])
          rw [if_neg s2]
          by_cases s3 : S.txt q = 45
          · rw [if_pos s3]; exact put d 3 (by rw [tt, if_pos (by omega)])
          rw [if_neg s3]
          by_cases s4 : S.txt q = 42
          · rw [if_pos s4]; exact put d 3 (by rw [tt, if_pos (by omega)])
          rw [if_neg s4]
          by_cases s5 : S.txt q = 47
          · rw [if_pos s5]; exact put d 3 (by rw [tt, if_pos (by omega)])
          rw [if_neg s5]
          by_cases s6 : S.txt q = 59
          · rw [if_neg (fun u => u s6)]; exact put d 3 (by rw [tt, if_pos (by omega)])
          · rw [if_pos s6]; exact put d 4 (by rw [tt, if_neg (by omega)])
        unfold w_X11_next_188
        by_cases l1 : S.txt q < 97
        · rw [if_pos l1]; exact s205 (by omega)
        · rw [if_neg l1]
          by_cases l2 : S.txt q > 122
          · rw [if_pos l2]; exact s205 (by omega)
          · rw [if_neg l2]; exact put d 1 (by rw [tt, if_pos (by omega)])
      by_cases d1 : S.txt q < 48
      · rw [if_pos d1]; exact sgn (by omega)
      · rw [if_neg d1]
        by_cases d2 : S.txt q > 57
        · rw [if_pos d2]; exact sgn (by omega)
        · rw [if_neg d2]
          have d : 48 ≤ S.txt q ∧ S.txt q ≤ 57 := by omega
          -- a number
          have loop : ∀ (k n : Nat) (e tv : Int) (h : Hh), k < n → S.size - e = k → q ≤ e → 0 ≤ tv → tv ≤ 1000000 → eqN h0 h → h 33 2 = e → h 33 4 = q → h 33 5 = tv → nr S.txt k e tv = nr S.txt (S.size - q).toNat q 0 → w_X11_next_90 K (fun h17 => w_X11_next_182 K 33 h17) 33 n h := by
            intro k
            induction k with
            | zero =>
              intro n e tv h hn hk g2 t0 t1 en a2 a4 a5 er
              obtain ⟨n, rfl⟩ : ∃ m, n = m + 1 := ⟨n - 1, by omega⟩
              have z := x.keep en.m
              rw [w_X11_next_90, a2, z.rep.size, if_pos (by omega)]
              unfold w_X11_next_182
              rw [hb_p]
              have er' : (e, tv) = nr S.txt (S.size - q).toNat q 0 := er
              refine hK _ q (en.up (by omega)) ⟨by omega, hs, ?_, ?_, ?_, ?_⟩ eP g0
              · rw [up_at, if_neg (by decide)]; exact a4
              · rw [up_at, if_pos rfl]; unfold St.tT; rw [if_neg eq, if_pos d]
              · rw [up_at, if_neg (by decide), a5]; unfold St.tV; rw [if_neg eq, if_pos d, ← er']
              · rw [up_at, if_neg (by decide), a2]; unfold St.tE; rw [if_neg eq, if_pos d, ← er']
            | succ k ih =>
              intro n e tv h hn hk g2 t0 t1 en a2 a4 a5 er
              obtain ⟨n, rfl⟩ : ∃ m, n = m + 1 := ⟨n - 1, by omega⟩
              have z := x.keep en.m
              have v : nr S.txt (k + 1) e tv = if 48 ≤ S.txt e ∧ S.txt e ≤ 57 then nr S.txt k (e + 1) (if tv ≤ 99999 then 10 * tv + S.txt e - 48 else tv) else (e, tv) := rfl
              rw [v] at er
              rw [w_X11_next_90, a2, z.rep.size, if_neg (by omega), and_t (by omega)]
              simp only [Int.reduceAdd]
              rw [z.rep.txt e (by omega) (by omega), a5]
              have stop : ¬ (48 ≤ S.txt e ∧ S.txt e ≤ 57) → w_X11_next_182 K 33 h := by
                intro nd
                rw [if_neg nd] at er
                unfold w_X11_next_182
                rw [hb_p]
                refine hK _ q (en.up (by omega)) ⟨by omega, hs, ?_, ?_, ?_, ?_⟩ eP g0
                · rw [up_at, if_neg (by decide)]; exact a4
                · rw [up_at, if_pos rfl]; unfold St.tT; rw [if_neg eq, if_pos d]
                · rw [up_at, if_neg (by decide), a5]; unfold St.tV; rw [if_neg eq, if_pos d, ← er]
                · rw [up_at, if_neg (by decide), a2]; unfold St.tE; rw [if_neg eq, if_pos d, ← er]
              have go : ∀ s0, (48 ≤ S.txt e ∧ S.txt e ≤ 57) → s0 = (if tv ≤ 99999 then 10 * tv + S.txt e - 48 else tv) → w_X11_next_166 K (w_X11_next_90 K (fun h17 => w_X11_next_182 K 33 h17) 33 n) (fun h17 => w_X11_next_182 K 33 h17) 33 s0 33 h := by
                intro s0 nd hs0
                rw [if_pos nd, ← hs0] at er
                unfold w_X11_next_166
                rw [and_t (by omega), hb_p, hb_p, up_at, if_neg (by decide), a2, w32_id (by omega) (by omega)]
                refine ih n (e + 1) s0 _ (by omega) (by omega) (by omega) ?_ ?_ ((en.up (by omega)).up (by omega)) ?_ ?_ ?_ er
                · rw [hs0]; split <;> omega
                · rw [hs0]; split <;> omega
                · rw [up_at, if_pos rfl]
                · rw [up_at, if_neg (by decide), up_at, if_neg (by decide)]; exact a4
                · rw [up_at, if_neg (by decide), up_at, if_pos rfl]
              by_cases f1 : S.txt e < 48
              · rw [if_pos f1]; exact stop (by omega)
              · rw [if_neg f1]
                by_cases f2 : S.txt e > 57
                · rw [if_pos f2]; exact stop (by omega)
                · rw [if_neg f2]
                  by_cases f3 : tv ≤ 99999
                  · rw [if_pos f3, w32_id (z := 10 * tv) (by omega) (by omega), w32_id (z := 10 * tv + S.txt e) (by omega) (by omega), w32_id (z := 10 * tv + S.txt e - 48) (by omega) (by omega)]
                    exact go _ (by omega) (by rw [if_pos f3])
                  · rw [if_neg f3]
                    exact go _ (by omega) (by rw [if_neg f3])
          exact loop (S.size - q).toNat NF q 0 h6 (by rw [NF_eq]; omega) (by omega) (by omega) (by omega) (by omega) e6 v2 v4 v5 rfl
  have skip : ∀ (k n : Nat) (q : Int) (h : Hh), k < n → S.size - q = k → h 33 2 = q → q0 ≤ q → eqN h0 h → (∀ σ, S.P q0 σ = S.P q σ) → w_X11_next_0 K (fun h3 => w_X11_next_38 K 33 h3) 33 n h := by
    intro k
    induction k with
    | zero =>
      intro n q h hn hk a2 g0 e eP
      obtain ⟨n, rfl⟩ : ∃ m, n = m + 1 := ⟨n - 1, by omega⟩
      have z := x.keep e.m
      rw [w_X11_next_0, a2, z.rep.size, if_pos (by omega)]
      exact tok q h a2 g0 (by omega) e (fun u => by omega) eP
    | succ k ih =>
      intro n q h hn hk a2 g0 e eP
      obtain ⟨n, rfl⟩ : ∃ m, n = m + 1 := ⟨n - 1, by omega⟩
      have z := x.keep e.m
      rw [w_X11_next_0, a2, z.rep.size, if_neg (by omega), and_t (by omega)]
      simp only [Int.reduceAdd, z.rep.txt q (show 0 ≤ q by omega) (show q < S.size by omega)]
      by_cases s : S.txt q = 32
      · rw [if_neg (fun u => u s), hb_p, w32_id (by omega) (by omega)]
        refine ih n (q + 1) _ (by omega) (by omega) (by rw [up_at, if_pos rfl]) (by omega) (e.up (by omega)) (fun σ => ?_)
        rw [eP σ, P_s (by omega), if_neg (by omega), if_pos s]
      · rw [if_pos s]
        exact tok q h a2 g0 (by omega) e (fun _ => s) eP
  exact skip (S.size - q0).toNat NF q0 h0 (by rw [NF_eq]; omega) (by omega) hq (Int.le_refl _) eqN.rfl' (fun _ => rfl)
