/-! PURE 49: suspects: the class looks through the heaps -/
/-- the class's heaps are weighed -/
def Wgh (h : Hh) (S : St) (c bd : Int) (d : Nat) : Prop := (Fnd h S c bd d) ∧ (∀ b, 0 ≤ b → b < (S.bf c bd S.reps.toNat).1 → hpOf S c bd d ((S.bf c bd S.reps.toNat).2 b) (h 31 b))
theorem Wgh.f {h : Hh} {S : St} {c bd : Int} {d : Nat} (x__ : Wgh h S c bd d) : Fnd h S c bd d := x__.1
theorem Wgh.heaps {h : Hh} {S : St} {c bd : Int} {d : Nat} (x__ : Wgh h S c bd d) : ∀ b, 0 ≤ b → b < (S.bf c bd S.reps.toNat).1 → hpOf S c bd d ((S.bf c bd S.reps.toNat).2 b) (h 31 b) := x__.2
theorem Wgh.mk' {h : Hh} {S : St} {c bd : Int} {d : Nat} (f__ : Fnd h S c bd d) (heaps__ : ∀ b, 0 ≤ b → b < (S.bf c bd S.reps.toNat).1 → hpOf S c bd d ((S.bf c bd S.reps.toNat).2 b) (h 31 b)) : Wgh h S c bd d := ⟨f__, heaps__⟩
theorem exE_t {S : St} {c bd : Int} {x : Nat} (h : S.exP c bd x) : S.exE c bd x = true := @decide_eq_true _ (Classical.propDecidable _) h
theorem exE_f {S : St} {c bd : Int} {x : Nat} (h : ¬ S.exP c bd x) : S.exE c bd x = false := @decide_eq_false _ (Classical.propDecidable _) h
theorem hit_b {S : St} {c bd : Int} {d g x : Nat} {i : Int} (xb : ∀ k : Nat, x.testBit k = true ↔ (k < d ∧ S.hid c i (S.cD c bd ((d : Int) - 1 - k)))) : x &&& g ≠ 0 ↔ ∃ j : Nat, (j : Int) < (d : Int) ∧ (rvb d g).testBit j = true ∧ S.hid c i (S.cD c bd j) := by
  constructor
  · intro h
    obtain ⟨k, hk⟩ := Nat.exists_testBit_of_ne_zero h
    rw [Nat.testBit_and, Bool.and_eq_true] at hk
    obtain ⟨k1, k2⟩ := (xb k).mp hk.1
    refine ⟨d - 1 - k, by omega, ?_, by rw [show ((d - 1 - k : Nat) : Int) = (d : Int) - 1 - k by omega]; exact k2⟩
    rw [rv_bit, decide_eq_true (by omega), Bool.true_and, show d - 1 - (d - 1 - k) = k by omega]
    exact hk.2
  · rintro ⟨j, j1, j2, j3⟩ e
    rw [rv_bit, decide_eq_true (by omega), Bool.true_and] at j2
    have x1 := (xb (d - 1 - j)).mpr ⟨by omega, by rw [show (d : Int) - 1 - ((d - 1 - j : Nat) : Int) = j by omega]; exact j3⟩
    have := congrArg (fun v => Nat.testBit v (d - 1 - j)) e
    simp only [Nat.testBit_and, Nat.zero_testBit, x1, j2, Bool.and_self] at this
    exact absurd this (by decide)
theorem exP_b {S : St} {c bd : Int} {d x : Nat} (hr : 0 ≤ S.reps) (dd : S.cN c bd = d) : S.exP c bd x ↔ ∀ b, 0 ≤ b → b < (S.bf c bd S.reps.toNat).1 → ∃ j : Nat, (j : Int) < (d : Int) ∧ x.testBit j = true ∧ S.hid c ((S.bf c bd S.reps.toNat).2 b) (S.cD c bd j) := by
  obtain ⟨b1, b2, b3⟩ := bf_ok (S := S) (c := c) (bd := bd) S.reps.toNat
  unfold St.exP
  rw [dd]
  constructor
  · intro h b u1 u2
    have := b2 b u1 u2
    exact h _ this.1.1 (by omega) this.2
  · intro h i i0 i1 iB
    obtain ⟨b, u1, u2⟩ := b3 i.toNat (by omega) (by omega) (by rw [Int.toNat_of_nonneg i0]; exact iB)
    rw [Int.toNat_of_nonneg i0] at u2
    have := h b u1.1 u1.2
    rw [u2] at this
    exact this
theorem c_hits {h : Hh} {S : St} {c bd : Int} {d : Nat} (g : Wgh h S c bd d) (hr : 0 ≤ S.reps ∧ S.reps ≤ 60) {x : Nat} (hx : x < 2 ^ d) {K : Int → Hh → Prop} (hy : S.exE c bd (rvb d x) = true → K 1 h) (hn : S.exE c bd (rvb d x) = false → K 0 h) : w_X2_hitsAllBadOnes 28 (x : Int) h K := by
  have d12 := g.f.d12
  have p4 := pow4096 d12
  have bo := (bf_ok (S := S) (c := c) (bd := bd) S.reps.toNat).1
  have ep := exP_b (S := S) (c := c) (bd := bd) (x := rvb d x) hr.1 g.f.dd
  unfold w_X2_hitsAllBadOnes
  have loop : ∀ (k n : Nat) (b : Int), k < n → (S.bf c bd S.reps.toNat).1 - b = k → 0 ≤ b → (∀ b', 0 ≤ b' → b' < b → ∃ j : Nat, (j : Int) < (d : Int) ∧ (rvb d x).testBit j = true ∧ S.hid c ((S.bf c bd S.reps.toNat).2 b') (S.cD c bd j)) → w_X2_hitsAllBadOnes_2 K 28 n (x : Int) b h := by
    intro k
    induction k with
    | zero =>
      intro n b hn1 hk b0 k1
      obtain ⟨n, rfl⟩ : ∃ m, n = m + 1 := ⟨n - 1, by omega⟩
      rw [w_X2_hitsAllBadOnes_2, g.f.nb, if_pos (by omega)]
      exact hy (exE_t (ep.mpr (fun b' u1 u2 => k1 b' u1 (by omega))))
    | succ k ih =>
      intro n b hn1 hk b0 k1
      obtain ⟨n, rfl⟩ : ∃ m, n = m + 1 := ⟨n - 1, by omega⟩
      obtain ⟨y, y1, y2, y3⟩ := g.heaps b b0 (by omega)
      have hb := hit_b (g := x) y3
      rw [w_X2_hitsAllBadOnes_2, g.f.nb, if_neg (by omega), and_t (by omega)]
      simp only [Int.reduceAdd, y2, andI (show y < 4096 by omega)]
      by_cases q : y &&& x = 0
      · rw [if_neg (by rw [q]; decide)]
        refine hn (exE_f (fun w => ?_))
        exact hb.mpr (ep.mp w b b0 (by omega)) q
      · rw [if_pos (by omega), vb_p, w32_id (by omega) (by omega)]
        refine ih n (b + 1) (by omega) (by omega) (by omega) (fun b' u1 u2 => ?_)
        by_cases e : b' = b
        · rw [e]; exact hb.mp q
        · exact k1 b' u1 (by omega)
  exact loop (S.bf c bd S.reps.toNat).1.toNat NF 0 (by rw [NF_eq]; omega) (by omega) (by omega) (fun b' u1 u2 => by omega)
theorem cnt_le (P : Nat → Bool) : ∀ k, cnt P k ≤ k := by
  intro k
  induction k with
  | zero => exact Nat.le_refl _
  | succ k ih =>
    have := bn (P k)
    show cnt P k + (P k).toNat ≤ k + 1
    omega
theorem CI_bd {Q : Nat → Bool} {d k : Nat} {m w f : Int} (hd : d ≤ 12) (h : CI Q d k m w f) : 0 ≤ w ∧ w ≤ 4096 := by
  have p4 := pow4096 hd
  rcases h with ⟨_, b, _⟩ | ⟨y, _, _, _, _, _, _, _, g⟩
  · omega
  · have := cnt_le (fun i => Q (k + i) && decide (pcs 12 (k + i) = pcs 12 y)) (2 ^ d - k)
    omega
theorem c_heaps {h0 : Hh} {S : St} {c bd : Int} {d : Nat} (g : Wgh h0 S c bd d) (hr : 0 ≤ S.reps ∧ S.reps ≤ 60) {K : Int → Hh → Prop} {X : Hh → Prop} (hX : ∀ h, (∀ a, a ≠ 28 → h a = h0 a) → h 28 4 = h0 28 4 → h 28 5 = h0 28 5 → CI (fun g => S.exE c bd (rvb d g)) d 0 (h 28 6) (h 28 7) (h 28 8) → X h) : ∀ (k n : Nat) (z : Int) (h : Hh), z = (k : Int) - 1 → k < n → k ≤ 2 ^ d → (∀ a, a ≠ 28 → h a = h0 a) → h 28 4 = h0 28 4 → h 28 5 = h0 28 5 → CI (fun g => S.exE c bd (rvb d g)) d k (h 28 6) (h 28 7) (h 28 8) → w_X2_look_46 K X 28 n z h := by
  have d12 := g.f.d12
  have p4 := pow4096 d12
  intro k
  induction k with
  | zero =>
    intro n z h hz hn hk k0 k4 k5 ci
    obtain ⟨n, rfl⟩ : ∃ m, n = m + 1 := ⟨n - 1, by omega⟩
    rw [w_X2_look_46, if_pos (by omega)]
    exact hX h k0 k4 k5 ci
  | succ k ih =>
    intro n z h hz hn hk k0 k4 k5 ci
    obtain ⟨n, rfl⟩ : ∃ m, n = m + 1 := ⟨n - 1, by omega⟩
    have hz2 : z = (k : Int) := by omega
    have y : Wgh h S c bd d := ⟨g.f.keep k4 k5 (k0 30 (by decide)) (k0 32 (by decide)), by rw [k0 31 (by decide)]; exact g.heaps⟩
    have wb := CI_bd d12 ci
    have kd : k < 2 ^ d := by omega
    have pl := pc_le kd d12
    have nx : ∀ h', (∀ a, a ≠ 28 → h' a = h0 a) → h' 28 4 = h0 28 4 → h' 28 5 = h0 28 5 → CI (fun g => S.exE c bd (rvb d g)) d k (h' 28 6) (h' 28 7) (h' 28 8) → w_X2_look_104 K (w_X2_look_46 K X 28 n) X 28 z h' := by
      intro h' q0 q1 q2 q3
      unfold w_X2_look_104
      rw [vb_p, w32_id (by omega) (by omega)]
      exact ih n (z + -1) h' (by omega) (by omega) (by omega) q0 q1 q2 q3
    rw [w_X2_look_46, if_neg (by omega), hz2, e_bitCount (by omega)]
    rw [hz2] at nx
    by_cases q1 : (pcs 12 k : Int) > h 28 6
    · rw [if_pos q1]
      exact nx h k0 k4 k5 (CI_skip kd ci (Or.inr q1) d12)
    · rw [if_neg q1]
      refine c_hits y hr kd (fun e => ?_) (fun e => ?_)
      · rw [if_neg (by decide)]
        unfold w_X2_look_94
        simp only [hb_p]
        by_cases q2 : (pcs 12 k : Int) ≥ h 28 6
        · rw [if_pos q2, w32_id (by omega) (by omega)]
          refine nx _ (fun a ha => by rw [up_ne ha]; exact k0 a ha) (by rw [up_at, if_neg (by decide)]; exact k4) (by rw [up_at, if_neg (by decide)]; exact k5) ?_
          have := CI_more kd ci e (by omega) d12
          simp only [up_at, Int.reduceEq, if_true, if_false, reduceIte]
          exact this
        · rw [if_neg q2]
          refine nx _ (fun a ha => by rw [up_ne ha, up_ne ha, up_ne ha, up_ne ha]; exact k0 a ha) (by simp only [up_at, Int.reduceEq, if_true, if_false, reduceIte]; exact k4) (by simp only [up_at, Int.reduceEq, if_true, if_false, reduceIte]; exact k5) ?_
          have := CI_new kd ci e (by omega)
          simp only [up_at, Int.reduceEq, if_true, if_false, reduceIte]
          exact this
      · rw [if_pos rfl]
        exact nx h k0 k4 k5 (CI_skip kd ci (Or.inl e) d12)
/-- the class's whole look -/
theorem c_lookH {h0 : Hh} {S : St} {c bd : Int} (s : Srt h0 S c bd) (w : WF S) (hc : 0 ≤ c ∧ c < S.charts) {K : Int → Hh → Prop} (hn : (12 < S.cN c bd ∨ (S.hp c bd).1 = -1) → ∀ h, eqW h0 h → K 0 h) (hy : ∀ (d y : Nat) (h : Hh), d ≤ 12 → S.cN c bd = d → y < 2 ^ d → (S.hp c bd).1 = (y : Int) → eqW h0 h → h 28 5 = d → (∀ j, 0 ≤ j → j < (d : Int) → h 32 j = S.cD c bd j) → h 28 6 = (pcs 12 y : Int) → h 28 7 = (S.hp c bd).2 + 1 → (0 ≤ (S.hp c bd).2 ∧ (S.hp c bd).2 ≤ 4096) → h 28 8 = (rvb d y : Int) → K 1 h) : w_X2_look 28 (S.terms (S.crule c) - 1) h0 K := by
  have rb := w.reps
  have c0 := (cf_ok (S := S) (c := c) (bd := bd) 200).1
  unfold w_X2_look
  refine c_find s (fun c12 h1 k0 k1 k2 k3 => ?_) (fun c12 h1 k0 => ?_)
  · have c0' : 0 ≤ S.cN c bd := c0.1
    have dd : S.cN c bd = ((S.cN c bd).toNat : Int) := by omega
    have hpd : S.hp c bd = rf (S.exE c bd) (S.cN c bd).toNat (2 ^ (S.cN c bd).toNat) := rfl
    generalize (S.cN c bd).toNat = d at dd hpd
    have d12 : d ≤ 12 := by omega
    have p4 := pow4096 d12
    have f : Fnd h1 S c bd d := ⟨by rw [k1 4 (by decide)]; exact s.nb, by rw [k0 30 (by decide) (by decide)]; exact s.marks, dd, d12, by rw [k2, dd], fun j j0 j1 => k3 j j0 (by omega)⟩
    have e1 : eqW h0 h1 := fun a ha => k0 a (fun u => ha (by unfold sw; omega)) (fun u => ha (by unfold sw; omega))
    rw [if_neg (by decide)]
    refine c_weigh f w hc (fun h2 q0 q1 => ?_) (fun no h2 q0 => ?_)
    · have f2 : Fnd h2 S c bd d := f.keep (by rw [q0 28 (by decide)]) (by rw [q0 28 (by decide)]) (q0 30 (by decide)) (q0 32 (by decide))
      have e2 : eqW h0 h2 := e1.trans (fun a ha => q0 a (fun u => ha (by unfold sw; omega)))
      rw [if_pos (by decide), hb_p, hb_p, hb_p, vb_p]
      have n5 : (up (up (up h2 28 6 (w32 ((h2 28 5) + 1))) 28 7 0) 28 8 0) 28 5 = d := by
        simp only [up_at, Int.reduceEq, if_false, reduceIte]
        exact f2.num
      have pp : (0 : Int) ≤ ((2 ^ d : Nat) : Int) ∧ ((2 ^ d : Nat) : Int) ≤ ((4096 : Nat) : Int) := ⟨Int.natCast_nonneg _, Int.ofNat_le.mpr p4⟩
      rw [n5, shN d12, w32_id (z := ((2 ^ d : Nat) : Int) - 1) (by omega) (by omega)]
      have g2 : Wgh h2 S c bd d := ⟨f2, q1⟩
      refine c_heaps g2 ⟨rb.1, rb.2⟩ ?_ (2 ^ d) NF _ _ rfl (by rw [NF_eq]; omega) (Nat.le_refl _) (fun a ha => by rw [up_ne ha, up_ne ha, up_ne ha]) (by simp only [up_at, Int.reduceEq, if_false, reduceIte]) (by simp only [up_at, Int.reduceEq, if_false, reduceIte]) ?_
      · intro h3 u0 u4 u5 ci
        have e3 : eqW h0 h3 := e2.trans (fun a ha => u0 a (fun u => ha (by unfold sw; omega)))
        have wb := CI_bd d12 ci
        rcases CI_RI d12 ci with ⟨r1, r2⟩ | ⟨y, r1, r2, r3, r4, r5, r6⟩
        · rw [if_pos (by omega)]
          exact ⟨Or.inl rfl, hn (Or.inr (by rw [hpd]; exact r1)) h3 e3⟩
        · rw [if_neg (by omega)]
          exact ⟨Or.inr rfl, hy d y h3 d12 dd r1 (by rw [hpd]; exact r2) e3 (by rw [u5]; exact f2.num) (fun j j0 j1 => by rw [u0 32 (by decide)]; exact f2.cand j j0 j1) r3 (by rw [hpd]; exact r4) (by rw [hpd]; omega) r6⟩
      · have := CI_start (fun g => S.exE c bd (rvb d g)) d 0
        simp only [up_at, Int.reduceEq, if_true, if_false, reduceIte]
        rw [f2.num, w32_id (by omega) (by omega)]
        exact this
    · rw [if_neg (by decide)]
      refine hn (Or.inr ?_) h2 (e1.trans (fun a ha => q0 a (fun u => ha (by unfold sw; omega))))
      rw [hpd]
      rcases RI_all (E := S.exE c bd) (d := d) (2 ^ d) with r | ⟨y, r1, r2, r3, _⟩
      · exact r.1
      · exfalso
        obtain ⟨b, b1, b2⟩ := no
        have ep : S.exP c bd y := @of_decide_eq_true _ (Classical.propDecidable _) r3
        obtain ⟨j, j1, _, j3⟩ := (exP_b rb.1 dd).mp ep b b1.1 b1.2
        exact b2 j (by omega) j1 j3
  · rw [if_pos rfl]
    exact hn (Or.inl c12) h1 (fun a ha => k0 a (fun u => ha (by unfold sw; omega)) (fun u => ha (by unfold sw; omega)))
theorem c_first {h : Hh} {S : St} {c bd : Int} {d y : Nat} {p : Int} (d12 : d ≤ 12) (dd : S.cN c bd = d) (yd : y < 2 ^ d) (h5 : h 28 5 = d) (h32 : ∀ j, 0 ≤ j → j < (d : Int) → h 32 j = S.cD c bd j) (h8 : h 28 8 = (rvb d y : Int)) (p0 : 0 ≤ p) {K : Int → Hh → Prop} (hK : K (sfq y (S.cD c bd) d 0 p) h) : w_X2_suspectOfFirst 28 p h K := by
  have p4 := pow4096 d12
  have rl := rv_lt y d
  unfold w_X2_suspectOfFirst
  simp only [Int.reduceAdd]
  have loop : ∀ (k n i : Nat) (z v2 : Int), z = i → k < n → d - i = k → i ≤ d → 0 ≤ v2 → v2 ≤ i → v2 ≤ p → sfq y (S.cD c bd) k i (p - v2) = sfq y (S.cD c bd) d 0 p → w_X2_suspectOfFirst_4 K (fun u4 h3 => ((0 : Int) ≤ u4 ∧ (u4 : Int) < 12) ∧ (K (w32 ((w32 ((w32 (Int.tdiv (h3 32 u4) 40)) * 100)) + (Int.tmod (h3 32 u4) 40))) h3)) 28 n p v2 z h := by
    intro k
    induction k with
    | zero =>
      intro n i z v2 hz hn hk hi v0 v1 vp e
      obtain ⟨n, rfl⟩ : ∃ m, n = m + 1 := ⟨n - 1, by omega⟩
      rw [w_X2_suspectOfFirst_4, h5, if_pos (by omega)]
      rw [← e] at hK
      exact hK
    | succ k ih =>
      intro n i z v2 hz hn hk hi v0 v1 vp e
      obtain ⟨n, rfl⟩ : ∃ m, n = m + 1 := ⟨n - 1, by omega⟩
      have nx : ∀ v', 0 ≤ v' → v' ≤ ((i + 1 : Nat) : Int) → v' ≤ p → sfq y (S.cD c bd) k (i + 1) (p - v') = sfq y (S.cD c bd) d 0 p → w_X2_suspectOfFirst_62 K (w_X2_suspectOfFirst_4 K (fun u4 h3 => ((0 : Int) ≤ u4 ∧ (u4 : Int) < 12) ∧ (K (w32 ((w32 ((w32 (Int.tdiv (h3 32 u4) 40)) * 100)) + (Int.tmod (h3 32 u4) 40))) h3)) 28 n) (fun u4 h3 => ((0 : Int) ≤ u4 ∧ (u4 : Int) < 12) ∧ (K (w32 ((w32 ((w32 (Int.tdiv (h3 32 u4) 40)) * 100)) + (Int.tmod (h3 32 u4) 40))) h3)) 28 p v' z h := by
        intro v' q0 q1 q2 q3
        unfold w_X2_suspectOfFirst_62
        rw [vb_p, w32_id (by omega) (by omega)]
        exact ih n (i + 1) (z + 1) v' (by omega) (by omega) (by omega) (by omega) q0 q1 q2 q3
      have u : sfq y (S.cD c bd) (k + 1) i (p - v2) = if y.testBit i = true then (if p - v2 = 0 then S.cD c bd i / 40 * 100 + S.cD c bd i % 40 else sfq y (S.cD c bd) k (i + 1) (p - v2 - 1)) else sfq y (S.cD c bd) k (i + 1) (p - v2) := rfl
      rw [u] at e
      have bt : (i32 ((i32 (h 28 8) >>> (i32 (w32 (w32 ((d : Int) - 1) - z)) &&& 31)).toInt) &&& i32 1).toInt = ((y.testBit i).toNat : Int) := by
        rw [w32_id (z := (d : Int) - 1) (by omega) (by omega), w32_id (z := (d : Int) - 1 - z) (by omega) (by omega), h8, show (d : Int) - 1 - z = ((d - 1 - i : Nat) : Int) by omega]
        have := btvN (x := rvb d y) (z := d - 1 - i) (by omega) (by omega)
        rw [rv_bit, decide_eq_true (by omega), Bool.true_and, show d - 1 - (d - 1 - i) = i by omega] at this
        exact this
      rw [w_X2_suspectOfFirst_4, h5, if_neg (by omega)]
      simp only [bt]
      cases q : y.testBit i
      · rw [if_pos (by decide)]
        rw [q, if_neg (by decide)] at e
        exact nx v2 v0 (by omega) vp e
      · rw [if_neg (by decide)]
        rw [q, if_pos rfl] at e
        by_cases q2 : v2 = p
        · rw [if_neg (fun w => w q2), and_t (by omega), h32 z (by omega) (by omega)]
          rw [if_pos (by omega)] at e
          have cb := cD_bd (S := S) (c := c) (bd := bd) (j := z) (by omega) (by omega)
          rw [td_pos cb.1 (by omega), Int.tmod_eq_emod_of_nonneg cb.1, w32_id (z := S.cD c bd z / 40) (by omega) (by omega), w32_id (z := S.cD c bd z / 40 * 100) (by omega) (by omega), w32_id (by omega) (by omega), hz, e]
          exact hK
        · rw [if_pos q2, vb_p, w32_id (by omega) (by omega)]
          rw [if_neg (by omega)] at e
          exact nx (v2 + 1) (by omega) (by omega) (by omega) (by rw [show p - (v2 + 1) = p - v2 - 1 by omega]; exact e)
  exact loop d NF 0 0 0 rfl (by rw [NF_eq]; omega) (by omega) (by omega) (by omega) (by omega) p0 (by rw [Int.sub_zero])
theorem suspects_C (c bd w : Int) (hw : r32 w) (h : Hh) (S : St) (b : Both h S) (K : Int → Hh → Prop) (hK : ∀ h', Both h' S → K (rSus c bd w S) h') : w_X10_suspects 0 c bd w h K := by
  have rb := b.w.reps
  unfold w_X10_suspects w_X10_suspects_23
  rw [b_chartAt b]
  have no : ¬ ((0 ≤ c ∧ c < S.charts) ∧ (0 ≤ bd ∧ bd ≤ 20) ∧ 0 ≤ w) → K (-1) h := by
    intro q
    have := hK h b
    unfold rSus at this
    rw [if_neg q] at this
    exact this
  by_cases c1 : 0 ≤ c ∧ c < S.charts
  · have ca := (b.cx c1).ca
    rw [if_pos c1, if_neg (by omega), e_isBound]
    by_cases c2 : 0 ≤ bd ∧ bd ≤ 20
    · rw [if_pos c2, if_neg (by decide)]
      by_cases c3 : w ≥ 0
      · rw [if_pos c3]
        refine c_refreshE b (fun h1 e1 b1 _ d1 => ?_)
        have h7 : h 7 c = h1 7 c := (e1 7 c (by unfold scC; omega)).symm
        rw [h7]
        refine c_sort (bd := bd) ⟨b1, d1⟩ c1 (fun h2 e2 s2 => ?_)
        have b2 := b1.ofW e2
        have x2 := b2.cx c1
        have h72 : h1 7 c = h2 7 c := by rw [e2.at (by decide) (by decide)]
        have ca2 := x2.ca
        simp only [Int.reduceAdd]
        rw [h72, and_t (by omega), x2.cc.size]
        refine c_lookH s2 b2.w c1 (fun q h3 e3 => ?_) (fun d y h3 d12 dd yd hy e3 n5 n32 n6 n7 hp2 n8 => ?_)
        · rw [if_neg (by decide)]
          have := hK h3 (b2.ofW e3)
          unfold rSus at this
          rw [if_pos ⟨c1, c2, c3⟩] at this
          by_cases q1 : 12 < S.cN c bd
          · rw [if_pos q1] at this
            exact this
          · rw [if_neg q1, if_pos (q.resolve_left q1)] at this
            exact this
        · rw [if_pos (by decide)]
          have := hK h3 (b2.ofW e3)
          unfold rSus at this
          rw [if_pos ⟨c1, c2, c3⟩, if_neg (by omega), if_neg (by omega), show (S.hp c bd).1.toNat = y by omega, show (S.cN c bd).toNat = d by omega] at this
          by_cases q0 : w = 0
          · rw [if_neg (fun u => u q0), n6]
            rw [if_pos q0] at this
            exact this
          · rw [if_pos q0]
            rw [if_neg q0] at this
            by_cases q1 : w = 1
            · rw [if_neg (fun u => u q1), n7]
              rw [if_pos q1] at this
              rw [w32_id (by omega) (by omega), show (S.hp c bd).2 + 1 - 1 = (S.hp c bd).2 by omega]
              exact this
            · rw [if_pos q1]
              rw [if_neg q1] at this
              have w1 := hw.2
              rw [w32_id (z := w - 2) (by omega) (by omega)]
              exact c_first d12 dd yd n5 n32 n8 (by omega) this
      · rw [if_neg c3]; exact no (by omega)
    · rw [if_neg c2, if_pos rfl]; exact no (by omega)
  · rw [if_neg c1, if_pos rfl]; exact no (by omega)
