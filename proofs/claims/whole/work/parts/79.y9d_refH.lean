/-! PURE 51: suspects: the reference looks through the heaps -/
theorem r_bits {x : Nat} (hx : x < 4096) (h : Hh) {K : Int → Hh → Prop} (hK : K (pcs 12 x : Int) h) : w_X11_bits (x : Int) h K := by
  unfold w_X11_bits
  have loop : ∀ (q n k : Nat) (z v : Int), z = k → v = (pcs k x : Int) → q < n → 12 - k = q → k ≤ 12 → w_X11_bits_4 K n (x : Int) v z h := by
    intro q
    induction q with
    | zero =>
      intro n k z v hz hv hn hk k1
      obtain ⟨n, rfl⟩ : ∃ m, n = m + 1 := ⟨n - 1, by omega⟩
      rw [w_X11_bits_4, if_pos (by omega), hv, show k = 12 by omega]
      exact hK
    | succ q ih =>
      intro n k z v hz hv hn hk k1
      obtain ⟨n, rfl⟩ : ∃ m, n = m + 1 := ⟨n - 1, by omega⟩
      have bt : (i32 ((i32 (x : Int) >>> (i32 z &&& 31)).toInt) &&& i32 1).toInt = ((x.testBit k).toNat : Int) := by
        rw [hz]
        exact btvN (x := x) (z := k) hx (by omega)
      have pl := pcs_le x k
      have b1 := bn (x.testBit k)
      rw [w_X11_bits_4, if_neg (by omega), vb_p, vb_p, bt, w32_id (by omega) (by omega), w32_id (by omega) (by omega)]
      refine ih n (k + 1) (z + 1) _ (by omega) ?_ (by omega) (by omega) (by omega)
      show _ = ((pcs k x + (x.testBit k).toNat : Nat) : Int)
      omega
  exact loop 12 NF 0 0 0 rfl rfl (by rw [NF_eq]; omega) (by omega) (by omega)
/-- what the reference knows behind the candidates -/
def Ref (h : Hh) (S : St) (c bd : Int) (d : Nat) : Prop := (Mx h S) ∧ (Hw h S c bd) ∧ (S.cN c bd = d) ∧ (d ≤ 12) ∧ (h 33 56 = d) ∧ (∀ j, 0 ≤ j → j < (d : Int) → h 71 j = cod (S.cD c bd j))
theorem Ref.x {h : Hh} {S : St} {c bd : Int} {d : Nat} (x__ : Ref h S c bd d) : Mx h S := x__.1
theorem Ref.hw {h : Hh} {S : St} {c bd : Int} {d : Nat} (x__ : Ref h S c bd d) : Hw h S c bd := x__.2.1
theorem Ref.dd {h : Hh} {S : St} {c bd : Int} {d : Nat} (x__ : Ref h S c bd d) : S.cN c bd = d := x__.2.2.1
theorem Ref.d12 {h : Hh} {S : St} {c bd : Int} {d : Nat} (x__ : Ref h S c bd d) : d ≤ 12 := x__.2.2.2.1
theorem Ref.num {h : Hh} {S : St} {c bd : Int} {d : Nat} (x__ : Ref h S c bd d) : h 33 56 = d := x__.2.2.2.2.1
theorem Ref.cand {h : Hh} {S : St} {c bd : Int} {d : Nat} (x__ : Ref h S c bd d) : ∀ j, 0 ≤ j → j < (d : Int) → h 71 j = cod (S.cD c bd j) := x__.2.2.2.2.2
theorem Ref.mk' {h : Hh} {S : St} {c bd : Int} {d : Nat} (x__ : Mx h S) (hw__ : Hw h S c bd) (dd__ : S.cN c bd = d) (d12__ : d ≤ 12) (num__ : h 33 56 = d) (cand__ : ∀ j, 0 ≤ j → j < (d : Int) → h 71 j = cod (S.cD c bd j)) : Ref h S c bd d := ⟨x__, hw__, dd__, d12__, num__, cand__⟩
theorem r_explains {h : Hh} {S : St} {c bd : Int} {d : Nat} (g : Ref h S c bd d) {x : Nat} (hx : x < 2 ^ d) {K : Int → Hh → Prop} (hy : S.exE c bd x = true → K 1 h) (hn : S.exE c bd x = false → K 0 h) : w_X11_explains 33 (x : Int) h K := by
  have d12 := g.d12
  have dd := g.dd
  have p4 := pow4096 d12
  have rb := g.x.wf.reps
  unfold w_X11_explains
  have inner : ∀ (X : Int → Int → Int → Hh → Prop) (k : Int), 0 ≤ k → k < S.reps → S.isB c bd k → (∀ v, (v ≠ 0 ↔ ∃ j : Nat, (j : Int) < (d : Int) ∧ x.testBit j = true ∧ S.hid c k (S.cD c bd j)) → X (x : Int) k v h) → ∀ (q n i : Nat) (z v : Int), z = i → q < n → d - i = q → i ≤ d → (v ≠ 0 ↔ ∃ j : Nat, j < i ∧ x.testBit j = true ∧ S.hid c k (S.cD c bd j)) → w_X11_explains_29 K X 33 n (x : Int) k v z h := by
    intro X k k0 k1 kB hX q
    induction q with
    | zero =>
      intro n i z v hz hn1 hk hi hv
      obtain ⟨n, rfl⟩ : ∃ m, n = m + 1 := ⟨n - 1, by omega⟩
      rw [w_X11_explains_29, g.num, if_pos (by omega)]
      refine hX v (hv.trans ⟨fun ⟨j, j1, j2⟩ => ⟨j, by omega, j2⟩, fun ⟨j, j1, j2⟩ => ⟨j, by omega, j2⟩⟩)
    | succ q ih =>
      intro n i z v hz hn1 hk hi hv
      obtain ⟨n, rfl⟩ : ∃ m, n = m + 1 := ⟨n - 1, by omega⟩
      rw [w_X11_explains_29, g.num, if_neg (by omega)]
      by_cases v0 : v ≠ 0
      · rw [if_pos v0]
        obtain ⟨j, j1, j2⟩ := hv.mp v0
        exact hX v ⟨fun _ => ⟨j, by omega, j2⟩, fun _ => v0⟩
      · rw [if_neg v0]
        have nv : ¬ ∃ j : Nat, j < i ∧ x.testBit j = true ∧ S.hid c k (S.cD c bd j) := fun w => v0 (hv.mpr w)
        have z3 : d - (i + 1) = q := by clear hv; omega
        have z4 : i + 1 ≤ d := by clear hv; omega
        have z5 : z + 1 = ((i + 1 : Nat) : Int) := by clear hv; omega
        have z6 : q < n := by clear hv; omega
        have z7 : -2147483648 ≤ z + 1 ∧ z + 1 < 2147483648 := by clear hv; omega
        have nx : ∀ v', (v' ≠ 0 ↔ ∃ j : Nat, j < i + 1 ∧ x.testBit j = true ∧ S.hid c k (S.cD c bd j)) → w_X11_explains_72 K (w_X11_explains_29 K X 33 n) X 33 (x : Int) k z v' h := by
          intro v' hv'
          unfold w_X11_explains_72
          rw [vb_p, w32_id z7.1 z7.2]
          exact ih n (i + 1) (z + 1) v' z5 z6 z3 z4 hv'
        have nx0 : ¬ (x.testBit i = true ∧ S.hid c k (S.cD c bd i)) → w_X11_explains_71 K (w_X11_explains_29 K X 33 n) X 33 (x : Int) k z h := by
          intro w
          unfold w_X11_explains_71
          refine nx 0 ⟨fun u => (u rfl).elim, fun ⟨j, j1, j2⟩ => ?_⟩
          by_cases e : j = i
          · rw [e] at j2; exact (w j2).elim
          · exact (nv ⟨j, by omega, j2⟩).elim
        have bt : (i32 ((i32 (x : Int) >>> (i32 z &&& 31)).toInt) &&& i32 1).toInt = ((x.testBit i).toNat : Int) := by
          rw [hz]
          exact btvN (x := x) (z := i) (by omega) (by omega)
        simp only [bt]
        cases q1 : x.testBit i
        · rw [if_pos (by decide)]
          exact nx0 (fun w => by rw [q1] at w; exact absurd w.1 (by decide))
        · rw [if_neg (by decide), and_t (by omega)]
          simp only [Int.reduceAdd]
          have cb := cD_bd (S := S) (c := c) (bd := bd) (j := z) (by omega) (by omega)
          have ec : cod (S.cD c bd z) = 100 * (S.cD c bd z / 40) + S.cD c bd z % 40 := by unfold cod; omega
          rw [g.cand z (by omega) (by omega), ec]
          have eid : 40 * (S.cD c bd z / 40) + S.cD c bd z % 40 = S.cD c bd i := by rw [← hz]; omega
          refine r_has g.x (c := c) k0 k1 kB.1 (by omega) (by omega) (fun w => ?_) (fun w => ?_)
          · rw [if_neg (by decide)]
            rw [eid] at w
            exact nx 1 ⟨fun _ => ⟨i, by omega, q1, w⟩, fun _ => by decide⟩
          · rw [if_pos rfl]
            rw [eid] at w
            exact nx0 (fun u => w u.2)
  have outer : ∀ (q n : Nat) (k : Int), q < n → S.reps - k = q → 0 ≤ k → (∀ i, 0 ≤ i → i < k → S.isB c bd i → ∃ j : Nat, (j : Int) < (d : Int) ∧ x.testBit j = true ∧ S.hid c i (S.cD c bd j)) → w_X11_explains_2 K 33 n (x : Int) k h := by
    intro q
    induction q with
    | zero =>
      intro n k hn1 hk k0 k1
      obtain ⟨n, rfl⟩ : ∃ m, n = m + 1 := ⟨n - 1, by omega⟩
      rw [w_X11_explains_2, g.x.rep.reps, if_pos (by omega)]
      refine hy (exE_t (fun i i0 i1 iB => ?_))
      rw [dd]
      exact k1 i i0 (by omega) iB
    | succ q ih =>
      intro n k hn1 hk k0 k1
      obtain ⟨n, rfl⟩ : ∃ m, n = m + 1 := ⟨n - 1, by omega⟩
      rw [w_X11_explains_2, g.x.rep.reps, if_neg (by omega), and_t (by omega)]
      unfold w_X11_explains_25
      simp only [Int.reduceAdd]
      have hwk := (g.hw k k0 (by omega)).1
      have nx : (S.isB c bd k → ∃ j : Nat, (j : Int) < (d : Int) ∧ x.testBit j = true ∧ S.hid c k (S.cD c bd j)) → w_X11_explains_2 K 33 n (x : Int) (w32 (k + 1)) h := by
        intro w
        rw [w32_id (by omega) (by omega)]
        refine ih n (k + 1) (by omega) (by omega) (by omega) (fun i i0 i1 iB => ?_)
        by_cases e : i = k
        · rw [e] at iB ⊢; exact w iB
        · exact k1 i i0 (by omega) iB
      by_cases q1 : h 70 k = 1
      · rw [if_pos q1]
        have kB := hwk.mp q1
        refine inner _ k k0 (by omega) kB (fun v hv => ?_) d NF 0 0 0 rfl (by rw [NF_eq]; omega) (by omega) (by omega) ⟨fun u => (u rfl).elim, fun ⟨j, j1, _⟩ => by omega⟩
        unfold w_X11_explains_79
        by_cases v0 : v ≠ 0
        · rw [if_pos v0, vb_p]
          exact nx (fun _ => hv.mp v0)
        · rw [if_neg v0]
          refine hn (exE_f (fun w => ?_))
          have := w k k0 (by omega) kB
          rw [dd] at this
          exact v0 (hv.mpr this)
      · rw [if_neg q1]
        have nB : ¬ S.isB c bd k := fun w => q1 (hwk.mpr w)
        have eN : NF = 19999 + 1 := rfl
        generalize hN : (19999 : Nat) = N at eN
        rw [eN, w_X11_explains_29]
        unfold w_X11_explains_79
        by_cases q2 : (0 : Int) ≥ h 33 56
        · rw [if_pos q2, if_pos (by decide), vb_p]
          exact nx (fun w => (nB w).elim)
        · rw [if_neg q2, if_pos (by decide), if_pos (by decide), vb_p]
          exact nx (fun w => (nB w).elim)
  exact outer S.reps.toNat NF 0 (by rw [NF_eq]; omega) (by omega) (by omega) (fun i i0 i1 => by omega)
theorem r_heaps {h0 : Hh} {S : St} {c bd : Int} {d : Nat} (g : Ref h0 S c bd d) {K : Int → Hh → Prop} {X : Hh → Prop} (hX : ∀ h, (∀ a, a ≠ 33 → h a = h0 a) → (∀ k, k ≠ 57 → k ≠ 58 → h 33 k = h0 33 k) → h 33 57 = (rf (S.exE c bd) d (2 ^ d)).1 → h 33 58 = (rf (S.exE c bd) d (2 ^ d)).2 → X h) : ∀ (q n x : Nat) (z : Int) (h : Hh), z = x → q < n → 2 ^ d - x = q → x ≤ 2 ^ d → (∀ a, a ≠ 33 → h a = h0 a) → (∀ k, k ≠ 57 → k ≠ 58 → h 33 k = h0 33 k) → h 33 57 = (rf (S.exE c bd) d x).1 → h 33 58 = (rf (S.exE c bd) d x).2 → w_X11_finds_256 K X 33 n z h := by
  have d12 := g.d12
  have p4 := pow4096 d12
  intro q
  induction q with
  | zero =>
    intro n x z h hz hn hk hx k0 k1 a1 a2
    obtain ⟨n, rfl⟩ : ∃ m, n = m + 1 := ⟨n - 1, by omega⟩
    have ex : x = 2 ^ d := by omega
    rw [w_X11_finds_256, k1 56 (by decide) (by decide), g.num, shN d12, if_pos (by rw [hz, ex]; exact Int.le_refl _)]
    rw [ex] at a1 a2
    exact hX h k0 k1 a1 a2
  | succ q ih =>
    intro n x z h hz hn hk hx k0 k1 a1 a2
    obtain ⟨n, rfl⟩ : ∃ m, n = m + 1 := ⟨n - 1, by omega⟩
    have xd : x < 2 ^ d := by omega
    have e1 : eqM h0 h := fun a k q => by
      by_cases e : a = 33
      · rw [e]; exact k1 k (fun w => q (by unfold scM; omega)) (fun w => q (by unfold scM; omega))
      · rw [k0 a e]
    have gh : Ref h S c bd d := ⟨g.x.keep e1, fun k u1 u2 => by rw [k0 70 (by decide)]; exact g.hw k u1 u2, g.dd, d12, by rw [k1 56 (by decide) (by decide)]; exact g.num, by rw [k0 71 (by decide)]; exact g.cand⟩
    have st : rf (S.exE c bd) d (x + 1) = stp (S.exE c bd) d (rf (S.exE c bd) d x) x := rfl
    have ri := RI_all (E := S.exE c bd) (d := d) x
    revert a1 a2 st ri
    generalize rf (S.exE c bd) d x = p
    intro a1 a2 st ri
    have nx : ∀ h', (∀ a, a ≠ 33 → h' a = h0 a) → (∀ k, k ≠ 57 → k ≠ 58 → h' 33 k = h0 33 k) → h' 33 57 = (stp (S.exE c bd) d p x).1 → h' 33 58 = (stp (S.exE c bd) d p x).2 → w_X11_finds_368 K (w_X11_finds_256 K X 33 n) X 33 z h' := by
      intro h' q0 q1 q2 q3
      unfold w_X11_finds_368
      rw [vb_p, w32_id (by omega) (by omega)]
      exact ih n (x + 1) (z + 1) h' (by omega) (by omega) (by omega) (by omega) q0 q1 (by rw [st]; exact q2) (by rw [st]; exact q3)
    have same : stp (S.exE c bd) d p x = p → w_X11_finds_368 K (w_X11_finds_256 K X 33 n) X 33 z h := fun e => nx h k0 k1 (by rw [e]; exact a1) (by rw [e]; exact a2)
    have new : stp (S.exE c bd) d p x = ((x : Int), 0) → w_X11_finds_321 K (w_X11_finds_256 K X 33 n) X 33 z h := by
      intro e
      unfold w_X11_finds_321
      rw [hb_p, hb_p]
      refine nx _ (fun a ha => by rw [up_ne ha, up_ne ha]; exact k0 a ha) (fun k u1 u2 => by rw [up_at, if_neg u2, up_at, if_neg u1]; exact k1 k u1 u2) ?_ ?_
      · rw [e, up_at, if_neg (by decide), up_at, if_pos rfl]; exact hz
      · rw [e, up_at, if_pos rfl]
    have pp : ((2 ^ d : Nat) : Int) ≤ ((4096 : Nat) : Int) := Int.ofNat_le.mpr p4
    have xd' : (x : Int) < ((2 ^ d : Nat) : Int) := Int.ofNat_lt.mpr xd
    rw [w_X11_finds_256, gh.num, shN d12, if_neg (by omega), a1]
    -- behind the first test
    have deep : (p.1 = -1 ∨ (p.1 ≠ -1 ∧ ¬ pcs 12 p.1.toNat < pcs 12 x)) → w_X11_finds_288 K (w_X11_finds_256 K X 33 n) X 33 z h := by
      intro hp
      unfold w_X11_finds_288
      rw [hz]
      refine r_explains gh xd (fun e => ?_) (fun e => ?_)
      · rw [if_pos (by decide), a1]
        have es : stp (S.exE c bd) d p x = if p.1 = -1 then ((x : Int), 0) else if pcs 12 p.1.toNat < pcs 12 x then p else if pcs 12 x < pcs 12 p.1.toNat then ((x : Int), 0) else if rvb d x < rvb d p.1.toNat then (p.1, p.2 + 1) else ((x : Int), p.2 + 1) := by
          unfold stp
          rw [if_neg (by rw [e]; decide)]
        rcases ri with ⟨r1, r2, _⟩ | ⟨y, r1, r2, r3, r4, r5, r6⟩
        · rw [if_pos r1, ← hz]
          exact new (by rw [es, if_pos r1])
        · have py : p.1.toNat = y := by omega
          have p1 : p.1 ≠ -1 := by omega
          have hp2 := (hp.resolve_left p1).2
          rw [py] at hp2 es
          rw [if_neg p1, if_neg hp2] at es
          rw [if_neg p1]
          refine r_bits (by omega) h ?_
          rw [a1, r2]
          refine r_bits (by omega) h ?_
          have cl := cnt_le (fun v => S.exE c bd v && decide (pcs 12 v = pcs 12 y)) x
          by_cases w2 : pcs 12 x < pcs 12 y
          · rw [if_neg (by omega), ← hz]
            exact new (by rw [es, if_pos w2])
          · rw [if_neg w2] at es
            have pk := (pick d12 xd (show y < 2 ^ d by omega) (show x ≠ y by omega)).1
            have v57 : ∀ s, (up h 33 58 s) 33 57 = (y : Int) := fun s => by rw [up_at, if_neg (by decide), a1, r2]
            have w58 : w32 (p.2 + 1) = p.2 + 1 := w32_id (by omega) (by omega)
            rw [if_pos (by omega), hb_p, vb_p]
            simp only [v57, a2, w58]
            by_cases w3 : rvb d x < rvb d y
            · rw [if_pos w3] at es
              rw [if_pos (pk.mpr w3), ← hz]
              refine nx _ (fun a ha => by rw [up_ne ha]; exact k0 a ha) (fun k u1 u2 => by rw [up_at, if_neg u2]; exact k1 k u1 u2) ?_ ?_
              · rw [es, up_at, if_neg (by decide)]; exact a1
              · rw [es, up_at, if_pos rfl]
            · rw [if_neg w3] at es
              rw [if_neg (fun u => w3 (pk.mp u)), hb_p, ← hz]
              refine nx _ (fun a ha => by rw [up_ne ha, up_ne ha]; exact k0 a ha) (fun k u1 u2 => by rw [up_at, if_neg u1, up_at, if_neg u2]; exact k1 k u1 u2) ?_ ?_
              · rw [es, up_at, if_pos rfl]; exact hz
              · rw [es, up_at, if_neg (by decide), up_at, if_pos rfl]
      · rw [if_neg (by decide), ← hz]
        exact same (by unfold stp; rw [if_pos e])
    rcases ri with ⟨r1, r2, _⟩ | ⟨y, r1, r2, r3, r4, r5, r6⟩
    · rw [if_pos r1]
      exact deep (Or.inl r1)
    · have py : p.1.toNat = y := by omega
      have p1 : p.1 ≠ -1 := by omega
      rw [if_neg p1, hz]
      refine r_bits (by omega) h ?_
      rw [a1, r2]
      refine r_bits (by omega) h ?_
      by_cases w1 : (pcs 12 x : Int) > (pcs 12 y : Int)
      · rw [if_pos w1, ← hz]
        refine same ?_
        unfold stp
        rw [if_neg p1, py, if_pos (show pcs 12 y < pcs 12 x by omega)]
        split <;> rfl
      · rw [if_neg w1, ← hz]
        exact deep (Or.inr ⟨p1, by rw [py]; omega⟩)
theorem suspects_M (c bd w : Int) (hw : r32 w) (h : Hh) (S : St) (x : Mx h S) (K : Int → Hh → Prop) (hK : ∀ h', eqM h h' → K (rSus c bd w S) h') : w_X11_suspects 33 c bd w h K := by
  have rb := x.wf.reps
  unfold w_X11_suspects w_X11_suspects_33 w_X11_suspects_58
  rw [m_isChart x]
  have no : ¬ ((0 ≤ c ∧ c < S.charts) ∧ (0 ≤ bd ∧ bd ≤ 20) ∧ 0 ≤ w) → K (-1) h := by
    intro q
    have := hK h eqM.rfl'
    unfold rSus at this
    rw [if_neg q] at this
    exact this
  by_cases c1 : 0 ≤ c ∧ c < S.charts
  · rw [if_pos c1, if_neg (by decide), e_in]
    by_cases c2 : 0 ≤ bd ∧ bd ≤ 20
    · rw [if_pos c2, if_neg (by decide)]
      by_cases c3 : w < 0
      · rw [if_pos c3]; exact no (by omega)
      · rw [if_neg c3]
        have yes : ∀ h', eqM h h' → K (if 12 < S.cN c bd then -1 else if (S.hp c bd).1 = -1 then -1 else if w = 0 then (pcs 12 (S.hp c bd).1.toNat : Int) else if w = 1 then (S.hp c bd).2 else sfq (S.hp c bd).1.toNat (S.cD c bd) (S.cN c bd).toNat 0 (w - 2)) h' := by
          intro h' e
          have := hK h' e
          unfold rSus at this
          rw [if_pos ⟨c1, c2, by omega⟩] at this
          exact this
        unfold w_X11_finds
        rw [hb_p, hb_p, hb_p]
        have e0 : eqM h (up (up (up h 33 56 0) 33 57 (-1)) 33 58 0) := ((eqM.rfl'.up (by unfold scM; omega)).up (by unfold scM; omega)).up (by unfold scM; omega)
        have v56 : (up (up (up h 33 56 0) 33 57 (-1)) 33 58 0) 33 56 = 0 := by simp only [up_at, Int.reduceEq, if_true, if_false, reduceIte]
        have v57 : (up (up (up h 33 56 0) 33 57 (-1)) 33 58 0) 33 57 = -1 := by simp only [up_at, Int.reduceEq, if_true, if_false, reduceIte]
        have v58 : (up (up (up h 33 56 0) 33 57 (-1)) 33 58 0) 33 58 = 0 := by simp only [up_at, Int.reduceEq, if_true, if_false, reduceIte]
        generalize up (up (up h 33 56 0) 33 57 (-1)) 33 58 0 = h1 at e0 v56 v57 v58
        refine r_how (x.keep e0) (fun h2 f0 hw2 => ?_)
        have e2 : eqM h h2 := e0.trans (fun a k q => by rw [f0 a (fun w => q (by unfold scM; omega)) (fun w => q (by unfold scG at w; unfold scM; omega))])
        have s33 : h2 33 = h1 33 := f0 33 (by decide) (by unfold scG; omega)
        refine r_cand (x.keep e2) c1 hw2 (by rw [s33]; exact v56) (fun c12 h3 e3 => ?_) (fun h3 g0 g1 dt3 => ?_)
        · rw [if_neg (by decide)]
          have := yes h3 (e2.trans e3)
          rw [if_pos c12] at this
          exact this
        · have e3 : eqM h h3 := e2.trans (fun a k q => by
            by_cases e : a = 33
            · rw [e]; exact g1 k (fun w => q (by unfold scM; omega))
            · rw [g0 a e (fun w => q (by unfold scM; omega))])
          have c0 : 0 ≤ S.cN c bd := (cf_ok (S := S) (c := c) (bd := bd) 200).1.1
          have c12 : S.cN c bd ≤ 12 := dt3.le
          have dd : S.cN c bd = ((S.cN c bd).toNat : Int) := by omega
          have hpd : S.hp c bd = rf (S.exE c bd) (S.cN c bd).toNat (2 ^ (S.cN c bd).toNat) := rfl
          rw [if_neg (by omega)] at yes
          generalize (S.cN c bd).toNat = d at dd hpd yes
          have d12 : d ≤ 12 := by omega
          have p4 := pow4096 d12
          have gr : Ref h3 S c bd d := ⟨x.keep e3, fun k u1 u2 => by rw [g0 70 (by decide) (by decide)]; exact hw2 k u1 u2, dd, d12, by rw [dt3.num, ← dd]; rfl, fun j j0 j1 => dt3.d j j0 (by show j < S.cN c bd; omega)⟩
          refine r_heaps gr (fun h4 u0 u1 u2 u3 => ?_) (2 ^ d) NF 0 0 h3 rfl (by rw [NF_eq]; omega) (Nat.sub_zero _) (Nat.zero_le _) (fun _ _ => rfl) (fun _ _ _ => rfl) (by rw [g1 57 (by decide), s33, v57]; rfl) (by rw [g1 58 (by decide), s33, v58]; rfl)
          rw [← hpd] at u2 u3
          have e4 : eqM h h4 := e3.trans (fun a k q => by
            by_cases e : a = 33
            · rw [e]; exact u1 k (fun w => q (by unfold scM; omega)) (fun w => q (by unfold scM; omega))
            · rw [u0 a e])
          have res := yes h4 e4
          rw [u2]
          unfold w_X11_finds_387
          by_cases q1 : (S.hp c bd).1 = -1
          · rw [if_pos q1] at res ⊢
            refine ⟨Or.inl rfl, ?_⟩
            show if (0 : Int) ≠ 0 then _ else K (-1) h4
            rw [if_neg (by decide)]
            exact res
          · rw [if_neg q1] at res ⊢
            refine ⟨Or.inr rfl, ?_⟩
            show if (1 : Int) ≠ 0 then _ else K (-1) h4
            rw [if_pos (by decide)]
            have ri := RI_all (E := S.exE c bd) (d := d) (2 ^ d)
            rw [← hpd] at ri
            rcases ri with r | ⟨y, r1, r2, _⟩
            · exact (q1 r.1).elim
            · rw [show (S.hp c bd).1.toNat = y by omega] at res
              by_cases q2 : w ≥ 2
              · have w1 := hw.2
                rw [if_neg (by omega), if_neg (by omega)] at res
                rw [if_pos q2, vb_p, w32_id (z := w - 2) (by omega) (by omega)]
                have loop : ∀ (k n i : Nat) (z r : Int), z = i → k < n → d - i = k → i ≤ d → 0 ≤ r → r ≤ w - 2 → sfq y (S.cD c bd) k i r = sfq y (S.cD c bd) d 0 (w - 2) → w_X11_suspects_67 K 33 n r z h4 := by
                  intro k
                  induction k with
                  | zero =>
                    intro n i z r hz hn hk hi r0 rw' e
                    obtain ⟨n, rfl⟩ : ∃ m, n = m + 1 := ⟨n - 1, by omega⟩
                    rw [w_X11_suspects_67, u1 56 (by decide) (by decide), gr.num, if_pos (by omega)]
                    rw [← e] at res
                    exact res
                  | succ k ih =>
                    intro n i z r hz hn hk hi r0 rw' e
                    obtain ⟨n, rfl⟩ : ∃ m, n = m + 1 := ⟨n - 1, by omega⟩
                    have nx : ∀ r', 0 ≤ r' → r' ≤ w - 2 → sfq y (S.cD c bd) k (i + 1) r' = sfq y (S.cD c bd) d 0 (w - 2) → w_X11_suspects_107 K (w_X11_suspects_67 K 33 n) 33 r' z h4 := by
                      intro r' v0 v1 v2
                      unfold w_X11_suspects_107
                      rw [vb_p, w32_id (by omega) (by omega)]
                      exact ih n (i + 1) (z + 1) r' (by omega) (by omega) (by omega) (by omega) v0 v1 v2
                    have u : sfq y (S.cD c bd) (k + 1) i r = if y.testBit i = true then (if r = 0 then S.cD c bd i / 40 * 100 + S.cD c bd i % 40 else sfq y (S.cD c bd) k (i + 1) (r - 1)) else sfq y (S.cD c bd) k (i + 1) r := rfl
                    rw [u] at e
                    have bt : (i32 ((i32 (h4 33 57) >>> (i32 z &&& 31)).toInt) &&& i32 1).toInt = ((y.testBit i).toNat : Int) := by
                      rw [u2, r2, hz]
                      exact btvN (x := y) (z := i) (by omega) (by omega)
                    rw [w_X11_suspects_67, u1 56 (by decide) (by decide), gr.num, if_neg (by omega)]
                    simp only [bt]
                    cases q : y.testBit i
                    · rw [if_neg (by decide)]
                      rw [q, if_neg (by decide)] at e
                      exact nx r r0 rw' e
                    · rw [if_pos (by decide)]
                      rw [q, if_pos rfl] at e
                      by_cases q3 : r = 0
                      · rw [if_neg (fun v => v q3), and_t (by omega)]
                        rw [if_pos q3] at e
                        simp only [Int.reduceAdd]
                        rw [u0 71 (by decide), gr.cand z (by omega) (by omega), hz]
                        unfold cod
                        rw [e]
                        exact res
                      · rw [if_pos q3, vb_p, w32_id (by omega) (by omega)]
                        rw [if_neg q3] at e
                        exact nx (r + -1) (by omega) (by omega) (by rw [show r + -1 = r - 1 by omega]; exact e)
                exact loop d NF 0 0 (w - 2) rfl (by rw [NF_eq]; omega) (by omega) (by omega) (by omega) (by omega) rfl
              · rw [if_neg q2]
                by_cases q3 : w = 0
                · rw [if_pos q3] at res
                  rw [if_neg (fun v => v q3), u2, r2]
                  exact r_bits (by omega) h4 res
                · rw [if_neg q3, if_pos (by omega)] at res
                  rw [if_pos q3, u3]
                  exact res
    · rw [if_neg c2, if_pos rfl]; exact no (by omega)
  · rw [if_neg c1, if_pos rfl]; exact no (by omega)
theorem a_suspects (c bd w : Int) (hw : r32 w) : Agree (w_X10_suspects 0 c bd w) (w_X11_suspects 33 c bd w) := agree_q2 (rSus c bd w) (suspects_C c bd w hw) (suspects_M c bd w hw)
