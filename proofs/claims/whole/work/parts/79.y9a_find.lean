/-! PURE 48: suspects: the class's candidates, heaps of the bad ones -/
theorem cN_ge {S : St} {c bd : Int} {i : Nat} (h : i ≤ 200) : (S.cf c bd i).1 ≤ S.cN c bd := by
  have := cf_mono (S := S) (c := c) (bd := bd) (k := i) (200 - i)
  rw [show i + (200 - i) = 200 by omega] at this
  exact this
theorem c_find {h0 : Hh} {S : St} {c bd : Int} (s : Srt h0 S c bd) {K : Int → Hh → Prop} (hy : S.cN c bd ≤ 12 → ∀ h, (∀ a, a ≠ 28 → a ≠ 32 → h a = h0 a) → (∀ k, k ≠ 5 → h 28 k = h0 28 k) → h 28 5 = S.cN c bd → (∀ j, 0 ≤ j → j < S.cN c bd → h 32 j = S.cD c bd j) → K 1 h) (hn : 12 < S.cN c bd → ∀ h, (∀ a, a ≠ 28 → a ≠ 32 → h a = h0 a) → K 0 h) : w_X2_findCandidates 28 h0 K := by
  unfold w_X2_findCandidates
  rw [hb_p]
  have loop : ∀ (k n i : Nat) (z : Int) (h : Hh), z = i → k < n → 200 - i = k → i ≤ 200 → (∀ a, a ≠ 28 → a ≠ 32 → h a = h0 a) → (∀ k, k ≠ 5 → h 28 k = h0 28 k) → h 28 5 = (S.cf c bd i).1 → (S.cf c bd i).1 ≤ 12 → (∀ j, 0 ≤ j → j < (S.cf c bd i).1 → h 32 j = (S.cf c bd i).2 j) → w_X2_findCandidates_7 K 28 n z h := by
    intro k
    induction k with
    | zero =>
      intro n i z h hz hn1 hk hi k0 k28 k5 k12 k32
      obtain ⟨n, rfl⟩ : ∃ m, n = m + 1 := ⟨n - 1, by omega⟩
      rw [w_X2_findCandidates_7, if_pos (by omega)]
      have ei : i = 200 := by omega
      rw [ei] at k5 k12 k32
      exact hy k12 h k0 k28 k5 k32
    | succ k ih =>
      intro n i z h hz hn1 hk hi k0 k28 k5 k12 k32
      obtain ⟨n, rfl⟩ : ∃ m, n = m + 1 := ⟨n - 1, by omega⟩
      have co := (cf_ok (S := S) (c := c) (bd := bd) i).1
      have nx : ∀ h', (∀ a, a ≠ 28 → a ≠ 32 → h' a = h0 a) → (∀ k, k ≠ 5 → h' 28 k = h0 28 k) → h' 28 5 = (S.cf c bd (i + 1)).1 → (S.cf c bd (i + 1)).1 ≤ 12 → (∀ j, 0 ≤ j → j < (S.cf c bd (i + 1)).1 → h' 32 j = (S.cf c bd (i + 1)).2 j) → w_X2_findCandidates_57 K (w_X2_findCandidates_7 K 28 n) 28 z h' := by
        intro h' q0 q1 q2 q3 q4
        unfold w_X2_findCandidates_57
        rw [vb_p, w32_id (by omega) (by omega)]
        exact ih n (i + 1) (z + 1) h' (by omega) (by omega) (by omega) (by omega) q0 q1 q2 q3 q4
      rw [w_X2_findCandidates_7, if_neg (by omega), and_t (by omega)]
      simp only [Int.reduceAdd]
      rw [k0 29 (by decide) (by decide), k5]
      have ss := s.seen z (by omega) (by omega)
      by_cases q : S.sus c bd z
      · rw [if_neg (fun w => w (ss.mpr q))]
        rw [hz] at q
        by_cases q2 : (S.cf c bd i).1 < 12
        · rw [if_pos q2, and_t (by omega), hb_p, hb_p, up_ne (show (28 : Int) ≠ 32 by decide), k5, w32_id (by omega) (by omega)]
          refine nx _ (fun a a1 a2 => by rw [up_ne a1, up_ne a2]; exact k0 a a1 a2) (fun k hk => by rw [up_at, if_neg hk, up_ne (by decide)]; exact k28 k hk) ?_ ?_ ?_
          · rw [up_at, if_pos rfl, cf_s1 q]
          · rw [cf_s1 q]; show (S.cf c bd i).1 + 1 ≤ 12; omega
          · rw [cf_s1 q]
            intro j j0 j1
            have j1' : j < (S.cf c bd i).1 + 1 := j1
            show _ = fup (S.cf c bd i).2 (S.cf c bd i).1 i j
            rw [up_ne (by decide), up_at]
            by_cases e : j = (S.cf c bd i).1
            · rw [if_pos e, e, fup_at]; exact hz
            · rw [if_neg e, fup_ne e]; exact k32 j j0 (by omega)
        · rw [if_neg q2]
          refine hn ?_ h k0
          have := cN_ge (S := S) (c := c) (bd := bd) (i := i + 1) (by omega)
          rw [cf_s1 q] at this
          have t2 : (S.cf c bd i).1 + 1 ≤ S.cN c bd := this
          omega
      · rw [if_pos (fun w => q (ss.mp w))]
        rw [hz] at q
        exact nx h k0 k28 (by rw [cf_s0 q]; exact k5) (by rw [cf_s0 q]; exact k12) (by rw [cf_s0 q]; exact k32)
  refine loop 200 NF 0 0 _ rfl (by rw [NF_eq]; omega) (by omega) (by omega) (fun a a1 a2 => by rw [up_ne a1]) (fun k hk => by rw [up_at, if_neg hk]) (by rw [up_at, if_pos rfl]; rfl) (by show (0 : Int) ≤ 12; omega) (fun j j0 j1 => by have j1' : j < 0 := j1; omega)
/-- what the class knows behind the candidates -/
def Fnd (h : Hh) (S : St) (c bd : Int) (d : Nat) : Prop := (h 28 4 = (S.bf c bd S.reps.toNat).1) ∧ (∀ b p, 0 ≤ b → b < (S.bf c bd S.reps.toNat).1 → 0 ≤ p → p < S.terms (S.crule c) - 1 → h 30 (4 * b + p) = S.iO c ((S.bf c bd S.reps.toNat).2 b) p) ∧ (S.cN c bd = d) ∧ (d ≤ 12) ∧ (h 28 5 = d) ∧ (∀ j, 0 ≤ j → j < (d : Int) → h 32 j = S.cD c bd j)
theorem Fnd.nb {h : Hh} {S : St} {c bd : Int} {d : Nat} (x__ : Fnd h S c bd d) : h 28 4 = (S.bf c bd S.reps.toNat).1 := x__.1
theorem Fnd.marks {h : Hh} {S : St} {c bd : Int} {d : Nat} (x__ : Fnd h S c bd d) : ∀ b p, 0 ≤ b → b < (S.bf c bd S.reps.toNat).1 → 0 ≤ p → p < S.terms (S.crule c) - 1 → h 30 (4 * b + p) = S.iO c ((S.bf c bd S.reps.toNat).2 b) p := x__.2.1
theorem Fnd.dd {h : Hh} {S : St} {c bd : Int} {d : Nat} (x__ : Fnd h S c bd d) : S.cN c bd = d := x__.2.2.1
theorem Fnd.d12 {h : Hh} {S : St} {c bd : Int} {d : Nat} (x__ : Fnd h S c bd d) : d ≤ 12 := x__.2.2.2.1
theorem Fnd.num {h : Hh} {S : St} {c bd : Int} {d : Nat} (x__ : Fnd h S c bd d) : h 28 5 = d := x__.2.2.2.2.1
theorem Fnd.cand {h : Hh} {S : St} {c bd : Int} {d : Nat} (x__ : Fnd h S c bd d) : ∀ j, 0 ≤ j → j < (d : Int) → h 32 j = S.cD c bd j := x__.2.2.2.2.2
theorem Fnd.mk' {h : Hh} {S : St} {c bd : Int} {d : Nat} (nb__ : h 28 4 = (S.bf c bd S.reps.toNat).1) (marks__ : ∀ b p, 0 ≤ b → b < (S.bf c bd S.reps.toNat).1 → 0 ≤ p → p < S.terms (S.crule c) - 1 → h 30 (4 * b + p) = S.iO c ((S.bf c bd S.reps.toNat).2 b) p) (dd__ : S.cN c bd = d) (d12__ : d ≤ 12) (num__ : h 28 5 = d) (cand__ : ∀ j, 0 ≤ j → j < (d : Int) → h 32 j = S.cD c bd j) : Fnd h S c bd d := ⟨nb__, marks__, dd__, d12__, num__, cand__⟩
theorem Fnd.keep {h h' : Hh} {S : St} {c bd : Int} {d : Nat} (f : Fnd h S c bd d) (e4 : h' 28 4 = h 28 4) (e5 : h' 28 5 = h 28 5) (e30 : h' 30 = h 30) (e32 : h' 32 = h 32) : Fnd h' S c bd d := ⟨by rw [e4]; exact f.nb, by rw [e30]; exact f.marks, f.dd, f.d12, by rw [e5]; exact f.num, by rw [e32]; exact f.cand⟩
theorem cD_up {S : St} {c bd : Int} {i j : Int} (h0 : 0 ≤ i) (h1 : i < j) (h2 : j < S.cN c bd) : S.cD c bd i < S.cD c bd j := (cf_ok (S := S) (c := c) (bd := bd) 200).2.2 i j h0 h1 h2
theorem cD_bd {S : St} {c bd : Int} {j : Int} (h0 : 0 ≤ j) (h2 : j < S.cN c bd) : 0 ≤ S.cD c bd j ∧ S.cD c bd j < 200 := (cf_ok (S := S) (c := c) (bd := bd) 200).2.1 j h0 h2
theorem pow4096 {d : Nat} (h : d ≤ 12) : 2 ^ d ≤ 4096 := by
  have := Nat.pow_le_pow_right (n := 2) (by omega) h
  rw [p12] at this
  exact this
theorem c_bitOf {h : Hh} {S : St} {c bd : Int} {d : Nat} (f : Fnd h S c bd d) (id : Int) {K : Int → Hh → Prop} (hK : ∀ x : Nat, x < 2 ^ d → (∀ k : Nat, x.testBit k = true ↔ (k < d ∧ S.cD c bd ((d : Int) - 1 - k) = id)) → K (x : Int) h) : w_X2_bitOf 28 id h K := by
  have d12 := f.d12
  have dd := f.dd
  unfold w_X2_bitOf
  have loop : ∀ (k n i : Nat) (z : Int), z = i → k < n → (d : Int) - i = k → (∀ j, 0 ≤ j → j < (i : Int) → S.cD c bd j ≠ id) → w_X2_bitOf_2 K 28 n id z h := by
    intro k
    induction k with
    | zero =>
      intro n i z hz hn hk k1
      obtain ⟨n, rfl⟩ : ∃ m, n = m + 1 := ⟨n - 1, by omega⟩
      rw [w_X2_bitOf_2, f.num, if_pos (by omega)]
      refine hK 0 (Nat.two_pow_pos d) (fun k => ⟨fun w => ?_, fun w => ?_⟩)
      · rw [Nat.zero_testBit] at w; exact absurd w (by decide)
      · exact (k1 _ (by omega) (by omega) w.2).elim
    | succ k ih =>
      intro n i z hz hn hk k1
      obtain ⟨n, rfl⟩ : ∃ m, n = m + 1 := ⟨n - 1, by omega⟩
      rw [w_X2_bitOf_2, f.num, if_neg (by omega), and_t (by omega)]
      simp only [Int.reduceAdd, f.cand z (show (0 : Int) ≤ z by omega) (show z < (d : Int) by omega)]
      by_cases q : S.cD c bd z = id
      · rw [if_neg (fun w => w q), w32_id (z := (d : Int) - 1) (by omega) (by omega), w32_id (z := (d : Int) - 1 - z) (by omega) (by omega), show (d : Int) - 1 - z = ((d - 1 - i : Nat) : Int) by omega, shN (by omega)]
        refine hK (2 ^ (d - 1 - i)) (Nat.pow_lt_pow_right (by omega) (by omega)) (fun k => ?_)
        rw [Nat.testBit_two_pow]
        refine ⟨fun w => ?_, fun w => ?_⟩
        · have w' := of_decide_eq_true w
          refine ⟨by omega, ?_⟩
          rw [show (d : Int) - 1 - (k : Int) = z by omega]
          exact q
        · apply decide_eq_true
          by_cases e1 : (d : Int) - 1 - k < z
          · exact (k1 _ (by omega) (by omega) w.2).elim
          · by_cases e2 : z < (d : Int) - 1 - k
            · have := cD_up (S := S) (c := c) (bd := bd) (i := z) (j := (d : Int) - 1 - k) (by omega) e2 (by omega)
              rw [w.2, q] at this
              omega
            · omega
      · rw [if_pos q, vb_p, w32_id (by omega) (by omega)]
        refine ih n (i + 1) (z + 1) (by omega) (by omega) (by omega) (fun j j0 j1 => ?_)
        by_cases e : j = z
        · rw [e]; exact q
        · exact k1 j j0 (by omega)
  exact loop d NF 0 0 rfl (by rw [NF_eq]; omega) (by omega) (fun j j0 j1 => by omega)
/-- a bad report's heap -/
def hpOf (S : St) (c bd : Int) (d : Nat) (i v : Int) : Prop := ∃ x : Nat, x < 2 ^ d ∧ v = (x : Int) ∧ ∀ k : Nat, x.testBit k = true ↔ (k < d ∧ S.hid c i (S.cD c bd ((d : Int) - 1 - k)))
theorem c_weigh {h0 : Hh} {S : St} {c bd : Int} {d : Nat} (f : Fnd h0 S c bd d) (w : WF S) (hc : 0 ≤ c ∧ c < S.charts) {K : Int → Hh → Prop} (hy : ∀ h, (∀ a, a ≠ 31 → h a = h0 a) → (∀ b, 0 ≤ b → b < (S.bf c bd S.reps.toNat).1 → hpOf S c bd d ((S.bf c bd S.reps.toNat).2 b) (h 31 b)) → K 1 h) (hn : (∃ b, (0 ≤ b ∧ b < (S.bf c bd S.reps.toNat).1) ∧ ∀ j, 0 ≤ j → j < (d : Int) → ¬ S.hid c ((S.bf c bd S.reps.toNat).2 b) (S.cD c bd j)) → ∀ h, (∀ a, a ≠ 31 → h a = h0 a) → K 0 h) : w_X2_weighBadOnes 28 (S.terms (S.crule c) - 1) h0 K := by
  have d12 := f.d12
  have dd := f.dd
  have rb := w.reps
  have ok := w.chart c hc.1 hc.2
  have rok := w.rule _ ok.rule.1 ok.rule.2
  have tt := rok.terms
  have p4 := pow4096 d12
  have bo := (bf_ok (S := S) (c := c) (bd := bd) S.reps.toNat).1
  unfold w_X2_weighBadOnes
  have fk : ∀ h : Hh, (∀ a, a ≠ 31 → h a = h0 a) → Fnd h S c bd d := fun h k0 => f.keep (by rw [k0 28 (by decide)]) (by rw [k0 28 (by decide)]) (k0 30 (by decide)) (k0 32 (by decide))
  have inner : ∀ (X : Int → Int → Int → Hh → Prop) (b : Int) (h : Hh), 0 ≤ b → b < (S.bf c bd S.reps.toNat).1 → (∀ a, a ≠ 31 → h a = h0 a) → (∀ v, hpOf S c bd d ((S.bf c bd S.reps.toNat).2 b) v → X (S.terms (S.crule c) - 1) b v h) → ∀ (k n p : Nat) (z : Int) (x : Nat), z = p → k < n → S.terms (S.crule c) - 1 - p = k → x < 2 ^ d → (∀ k : Nat, x.testBit k = true ↔ (k < d ∧ ∃ q, (0 ≤ q ∧ q < (p : Int)) ∧ S.iO c ((S.bf c bd S.reps.toNat).2 b) q = S.cD c bd ((d : Int) - 1 - k))) → w_X2_weighBadOnes_15 K X 28 n (S.terms (S.crule c) - 1) b (x : Int) z h := by
    intro X b h b0 b1 k0 hX k
    have fh := fk h k0
    induction k with
    | zero =>
      intro n p z x hz hn1 hk xd xb
      obtain ⟨n, rfl⟩ : ∃ m, n = m + 1 := ⟨n - 1, by omega⟩
      rw [w_X2_weighBadOnes_15, if_pos (by omega)]
      refine hX _ ⟨x, xd, rfl, fun k => ?_⟩
      rw [xb k]
      exact ⟨fun ⟨u1, q, u2, u3⟩ => ⟨u1, q, u2.1, by omega, u3⟩, fun ⟨u1, q, u2, u3, u4⟩ => ⟨u1, q, ⟨u2, by omega⟩, u4⟩⟩
    | succ k ih =>
      intro n p z x hz hn1 hk xd xb
      obtain ⟨n, rfl⟩ : ∃ m, n = m + 1 := ⟨n - 1, by omega⟩
      rw [w_X2_weighBadOnes_15, if_neg (by omega), if_neg (by omega), w32_id (z := b * 4) (by omega) (by omega), w32_id (z := b * 4 + z) (by omega) (by omega), and_t (by omega)]
      simp only [Int.reduceAdd]
      rw [show b * 4 + z = 4 * b + z by omega, fh.marks b z b0 b1 (by omega) (by omega)]
      refine c_bitOf fh _ (fun y yd yb => ?_)
      rw [vb_p, vb_p, orI (by omega) (by omega), w32_id (by omega) (by omega)]
      refine ih n (p + 1) (z + 1) (x ||| y) (by omega) (by omega) (by omega) (Nat.or_lt_two_pow xd yd) (fun k => ?_)
      rw [Nat.testBit_or, Bool.or_eq_true, xb k, yb k, ex_succ, ← hz]
      constructor
      · rintro (⟨u1, u2⟩ | ⟨u1, u2⟩)
        · exact ⟨u1, Or.inl u2⟩
        · exact ⟨u1, Or.inr u2.symm⟩
      · rintro ⟨u1, u2 | u2⟩
        · exact Or.inl ⟨u1, u2⟩
        · exact Or.inr ⟨u1, u2.symm⟩
  have outer : ∀ (k n : Nat) (b : Int) (h : Hh), k < n → (S.bf c bd S.reps.toNat).1 - b = k → 0 ≤ b → (∀ a, a ≠ 31 → h a = h0 a) → (∀ b', 0 ≤ b' → b' < b → hpOf S c bd d ((S.bf c bd S.reps.toNat).2 b') (h 31 b')) → w_X2_weighBadOnes_2 K 28 n (S.terms (S.crule c) - 1) b h := by
    intro k
    induction k with
    | zero =>
      intro n b h hn1 hk b0 k0 k1
      obtain ⟨n, rfl⟩ : ∃ m, n = m + 1 := ⟨n - 1, by omega⟩
      rw [w_X2_weighBadOnes_2, (fk h k0).nb, if_pos (by omega)]
      exact hy h k0 (fun b' u1 u2 => k1 b' u1 (by omega))
    | succ k ih =>
      intro n b h hn1 hk b0 k0 k1
      obtain ⟨n, rfl⟩ : ∃ m, n = m + 1 := ⟨n - 1, by omega⟩
      rw [w_X2_weighBadOnes_2, (fk h k0).nb, if_neg (by omega)]
      refine inner _ b h b0 (by omega) k0 ?_ (S.terms (S.crule c) - 1).toNat NF 0 0 0 rfl (by rw [NF_eq]; omega) (by omega) (Nat.two_pow_pos d) (fun k => ?_)
      · intro v hv
        unfold w_X2_weighBadOnes_51
        by_cases q : v = 0
        · rw [if_neg (fun u => u q)]
          refine hn ⟨b, ⟨b0, by omega⟩, fun j j0 j1 hj => ?_⟩ h k0
          obtain ⟨x, x1, x2, x3⟩ := hv
          have x0 : x = 0 := by omega
          have := (x3 (d - 1 - j.toNat)).mpr ⟨by omega, by rw [show (d : Int) - 1 - ((d - 1 - j.toNat : Nat) : Int) = j by omega]; exact hj⟩
          rw [x0, Nat.zero_testBit] at this
          exact absurd this (by decide)
        · rw [if_pos q, and_t (by omega), hb_p, vb_p, w32_id (by omega) (by omega)]
          simp only [Int.reduceAdd]
          refine ih n (b + 1) _ (by omega) (by omega) (by omega) (fun a ha => by rw [up_ne ha]; exact k0 a ha) (fun b' u1 u2 => ?_)
          rw [up_at]
          by_cases e : b' = b
          · rw [if_pos e, e]; exact hv
          · rw [if_neg e]; exact k1 b' u1 (by omega)
      · rw [Nat.zero_testBit]
        exact ⟨fun u => absurd u (by decide), fun ⟨_, q, u, _⟩ => by omega⟩
  exact outer (S.bf c bd S.reps.toNat).1.toNat NF 0 h0 (by rw [NF_eq]; omega) (by omega) (by omega) (fun _ _ => rfl) (fun b' u1 u2 => by omega)
