/-! PURE 12: the reference's tenths -/
theorem r_tn_inner {h : Hh} {S : St} (x : Mx h S) {j : Int} (hj : 0 ≤ j ∧ j < S.rules) {K : Int → Hh → Prop} {X : Int → Int → Int → Int → Int → Int → Int → Int → Hh → Prop} {f lv an v8 v9 v11 : Int}
    (hno : (∀ m, 0 ≤ m → m < S.many j 0 → ¬ (an = 0 ∨ lv < S.val j 0 m)) → ∀ v, X j f (S.many j 0) v8 v9 v11 0 v h)
    (hyes : ∀ v m, 0 ≤ m → m < S.many j 0 → v = S.val j 0 m → (an = 0 ∨ lv < v) → (∀ m', 0 ≤ m' → m' < S.many j 0 → (an = 0 ∨ lv < S.val j 0 m') → v ≤ S.val j 0 m') → X j f (S.many j 0) v8 v9 v11 1 v h) :
    ∀ (r n : Nat) (i fo v : Int), r < n → S.many j 0 - i ≤ r → 0 ≤ i → i ≤ S.many j 0 →
      ((fo = 0 ∧ ∀ m, 0 ≤ m → m < i → ¬ (an = 0 ∨ lv < S.val j 0 m)) ∨ (fo = 1 ∧ (∃ m, 0 ≤ m ∧ m < i ∧ v = S.val j 0 m) ∧ (an = 0 ∨ lv < v) ∧ ∀ m, 0 ≤ m → m < i → (an = 0 ∨ lv < S.val j 0 m) → v ≤ S.val j 0 m)) →
      w_X11_tenths_41 K X 33 n j f (S.many j 0) lv an v8 v9 v11 fo v i h := by
  have q2 := x.wf.rules
  have ok := x.wf.rule j hj.1 hj.2
  have ht := ok.terms
  have mm := many_le ok (t := 0) (by omega) (by omega)
  have fin : ∀ (i fo v : Int), i = S.many j 0 → ((fo = 0 ∧ ∀ m, 0 ≤ m → m < i → ¬ (an = 0 ∨ lv < S.val j 0 m)) ∨ (fo = 1 ∧ (∃ m, 0 ≤ m ∧ m < i ∧ v = S.val j 0 m) ∧ (an = 0 ∨ lv < v) ∧ ∀ m, 0 ≤ m → m < i → (an = 0 ∨ lv < S.val j 0 m) → v ≤ S.val j 0 m)) → X j f (S.many j 0) v8 v9 v11 fo v h := by
    intro i fo v hi hs
    subst hi
    rcases hs with ⟨h1, h2⟩ | ⟨h1, ⟨m, m1, m2, m3⟩, h3, h4⟩
    · subst h1; exact hno h2 v
    · subst h1; exact hyes v m m1 m2 m3 h3 h4
  intro r
  induction r with
  | zero =>
    intro n i fo v hn hi h1 h2 hs
    obtain ⟨n, rfl⟩ : ∃ m, n = m + 1 := ⟨n - 1, by omega⟩
    rw [w_X11_tenths_41, if_pos (by omega)]
    exact fin i fo v (by omega) hs
  | succ r ih =>
    intro n i fo v hn hi h1 h2 hs
    obtain ⟨n, rfl⟩ : ∃ m, n = m + 1 := ⟨n - 1, by omega⟩
    rw [w_X11_tenths_41]
    by_cases h3 : i ≥ S.many j 0
    · rw [if_pos h3]
      exact fin i fo v (by omega) hs
    · rw [if_neg h3, r_valueOf x hj ⟨by omega, by omega⟩ ⟨h1, by omega⟩]
      simp only [w_X11_tenths_72, w_X11_tenths_89, w_X11_tenths_97, vb_p]
      rw [w32_id (by omega) (by omega)]
      -- not eligible: on
      have skip : ¬ (an = 0 ∨ lv < S.val j 0 i) → w_X11_tenths_41 K X 33 n j f (S.many j 0) lv an v8 v9 v11 fo v (i + 1) h := by
        intro hne
        refine ih n (i + 1) fo v (by omega) (by omega) (by omega) (by omega) ?_
        rcases hs with ⟨g1, g2⟩ | ⟨g1, ⟨m, m1, m2, m3⟩, g3, g4⟩
        · refine Or.inl ⟨g1, fun m m1 m2 => ?_⟩
          by_cases e : m = i
          · subst e; exact hne
          · exact g2 m m1 (by omega)
        · refine Or.inr ⟨g1, ⟨m, m1, by omega, m3⟩, g3, fun m' m1' m2' me => ?_⟩
          by_cases e : m' = i
          · subst e; exact absurd me hne
          · exact g4 m' m1' (by omega) me
      have take : (an = 0 ∨ lv < S.val j 0 i) → (if fo = 0 then w_X11_tenths_41 K X 33 n j f (S.many j 0) lv an v8 v9 v11 1 (S.val j 0 i) (i + 1) h else if S.val j 0 i < v then w_X11_tenths_41 K X 33 n j f (S.many j 0) lv an v8 v9 v11 1 (S.val j 0 i) (i + 1) h else w_X11_tenths_41 K X 33 n j f (S.many j 0) lv an v8 v9 v11 fo v (i + 1) h) := by
        intro he
        rcases hs with ⟨g1, g2⟩ | ⟨g1, ⟨m, m1, m2, m3⟩, g3, g4⟩
        · rw [if_pos g1]
          refine ih n (i + 1) 1 _ (by omega) (by omega) (by omega) (by omega) (Or.inr ⟨rfl, ⟨i, h1, by omega, rfl⟩, he, fun m' m1' m2' me => ?_⟩)
          by_cases e : m' = i
          · subst e; omega
          · exact absurd me (g2 m' m1' (by omega))
        · rw [if_neg (by omega)]
          by_cases hl : S.val j 0 i < v
          · rw [if_pos hl]
            refine ih n (i + 1) 1 _ (by omega) (by omega) (by omega) (by omega) (Or.inr ⟨rfl, ⟨i, h1, by omega, rfl⟩, he, fun m' m1' m2' me => ?_⟩)
            by_cases e : m' = i
            · subst e; omega
            · have := g4 m' m1' (by omega) me
              omega
          · rw [if_neg hl]
            refine ih n (i + 1) fo v (by omega) (by omega) (by omega) (by omega) (Or.inr ⟨g1, ⟨m, m1, by omega, m3⟩, g3, fun m' m1' m2' me => ?_⟩)
            by_cases e : m' = i
            · subst e; omega
            · exact g4 m' m1' (by omega) me
      by_cases h4 : an = 0
      · rw [if_pos h4]
        exact take (Or.inl h4)
      · rw [if_neg h4]
        by_cases h5 : S.val j 0 i ≤ lv
        · rw [if_pos h5]
          exact skip (by omega)
        · rw [if_neg h5]
          exact take (Or.inr (by omega))
theorem r_tenths {h : Hh} {S : St} (x : Mx h S) {j f : Int} (hj : 0 ≤ j ∧ j < S.rules) (hm : 2 ≤ S.many j 0) (hf : -1000000000 ≤ f ∧ f ≤ 1000000000) {K : Int → Hh → Prop} (hK : K (tnn (S.sc j) (S.scn j) f) h) : w_X11_tenths 33 j f h K := by
  have q2 := x.wf.rules
  have ok := x.wf.rule j hj.1 hj.2
  have ht := ok.terms
  have mm := many_le ok (t := 0) (by omega) (by omega)
  have sc := ok.scale
  have sn := sc.num
  have s1 : 1 ≤ S.scn j := by
    obtain ⟨i, i1, i2, -⟩ := sc.out 0 (by omega) (by omega)
    omega
  unfold w_X11_tenths
  have mr := x.rep.many j 0 hj.1 (by omega) (by omega) (by omega)
  rw [Int.add_zero] at mr
  simp only [Int.reduceAdd, vb_p]
  rw [w32_id (by omega) (by omega), and_t (by omega), mr]
  generalize hX1 : (fun (u18 u19 u20 : Int) (h17 : Hh) => if u19 = -1 then w_X11_tenths_129 K 33 h17 else if u18 ≠ u20 then w_X11_tenths_129 K 33 h17 else w_X11_tenths_130 K 33 (w32 (10 * u19)) h17) = X1
  generalize hX2 : (fun (u22 u23 u24 u25 : Int) (h21 : Hh) => if u23 ≠ -1 then w64 (u25 - u24) ≠ 0 ∧ w_X11_tenths_169 K 33 (w32 (w32 (10 * u23) + w32 (w64 ((w64 (10 * w64 (u22 - u24))).tdiv (w64 (u25 - u24)))))) h21 else w_X11_tenths_169 K 33 (-1) h21) = X2
  generalize hX3 : (fun (u28 u29 u30 : Int) (h27 : Hh) => if u28 ≠ u30 then w_X11_tenths_206 K 33 (-1) h27 else w_X11_tenths_206 K 33 (w32 (10 * u29)) h27) = X3
  have b1 : ∀ p, p = S.scn j - 1 → S.sc j p ≤ f → X1 f p (S.sc j p) h := by
    intro p hp hl
    subst hX1
    show (if p = -1 then w_X11_tenths_129 K 33 h else if f ≠ S.sc j p then w_X11_tenths_129 K 33 h else w_X11_tenths_130 K 33 (w32 (10 * p)) h)
    unfold w_X11_tenths_129 w_X11_tenths_130
    rw [if_neg (by omega)]
    by_cases e : f = S.sc j p
    · rw [if_neg (fun q => q e), w32_id (by omega) (by omega)]
      rw [tnn_last sc (by omega) (by rw [e, hp])] at hK
      rw [hp]; exact hK
    · rw [if_pos e]
      rw [tnn_high sc (by omega) (by rw [← hp]; omega)] at hK
      exact hK
  have b3 : ∀ p, p = S.scn j - 1 → S.sc j p ≤ f → X3 f p (S.sc j p) h := by
    intro p hp hl
    subst hX3
    show (if f ≠ S.sc j p then w_X11_tenths_206 K 33 (-1) h else w_X11_tenths_206 K 33 (w32 (10 * p)) h)
    unfold w_X11_tenths_206
    by_cases e : f = S.sc j p
    · rw [if_neg (fun q => q e), w32_id (by omega) (by omega)]
      rw [tnn_last sc (by omega) (by rw [e, hp])] at hK
      rw [hp]; exact hK
    · rw [if_pos e]
      rw [tnn_high sc (by omega) (by rw [← hp]; omega)] at hK
      exact hK
  have b2 : ∀ p, 0 ≤ p → p + 1 < S.scn j → S.sc j p ≤ f → f < S.sc j (p + 1) → X2 f p (S.sc j p) (S.sc j (p + 1)) h := by
    intro p h0 h1 h2 h3
    have s1 := sc_bd ok (i := p) (by omega) (by omega)
    have s2 := sc_bd ok (i := p + 1) (by omega) (by omega)
    have g := gap_div (x := f - S.sc j p) (g := S.sc j (p + 1) - S.sc j p) (by omega) (by omega) (by omega)
    subst hX2
    show (if p ≠ -1 then w64 (S.sc j (p + 1) - S.sc j p) ≠ 0 ∧ w_X11_tenths_169 K 33 (w32 (w32 (10 * p) + w32 (w64 ((w64 (10 * w64 (f - S.sc j p))).tdiv (w64 (S.sc j (p + 1) - S.sc j p)))))) h else w_X11_tenths_169 K 33 (-1) h)
    unfold w_X11_tenths_169
    rw [if_pos (by omega), w64_id (z := S.sc j (p + 1) - S.sc j p) (by omega) (by omega), and_t (by omega), w64_id (z := f - S.sc j p) (by omega) (by omega), w64_id (z := 10 * (f - S.sc j p)) (by omega) (by omega), g.1, w64_id (by omega) (by omega), w32_id (z := 10 * p) (by omega) (by omega), w32_id (z := 10 * (f - S.sc j p) / (S.sc j (p + 1) - S.sc j p)) (by omega) (by omega), w32_id (by omega) (by omega)]
    rw [tnn_in sc h0 h1 h2 h3] at hK
    exact hK
  have b20 : ∀ lv, f < S.sc j 0 → X2 f (-1) lv (S.sc j 0) h := by
    intro lv hl
    subst hX2
    show (if (-1 : Int) ≠ -1 then w64 (S.sc j 0 - lv) ≠ 0 ∧ w_X11_tenths_169 K 33 (w32 (w32 (10 * -1) + w32 (w64 ((w64 (10 * w64 (f - lv))).tdiv (w64 (S.sc j 0 - lv)))))) h else w_X11_tenths_169 K 33 (-1) h)
    unfold w_X11_tenths_169
    rw [if_neg (by decide)]
    rw [tnn_low sc (fun _ => hl)] at hK
    exact hK
  clear hX1 hX2 hX3
  have outer : ∀ (r n : Nat) (k : Int) (lv an : Int), r < n → S.many j 0 - k ≤ r → 0 ≤ k → k ≤ S.scn j → (k = 0 → an = 0) → (0 < k → an = 1 ∧ lv = S.sc j (k - 1) ∧ lv ≤ f) → w_X11_tenths_25 K X1 X2 X3 33 n j f (S.many j 0) lv an (k - 1) lv k h := by
    intro r
    induction r with
    | zero =>
      intro n k lv an hn hr h0 hk k0 k1
      obtain ⟨n, rfl⟩ : ∃ m, n = m + 1 := ⟨n - 1, by omega⟩
      obtain ⟨a1, a2, a3⟩ := k1 (by omega)
      rw [w_X11_tenths_25, if_pos (by omega)]
      subst a2
      exact b3 (k - 1) (by omega) a3
    | succ r ih =>
      intro n k lv an hn hr h0 hk k0 k1
      obtain ⟨n, rfl⟩ : ∃ m, n = m + 1 := ⟨n - 1, by omega⟩
      rw [w_X11_tenths_25]
      by_cases hkm : k ≥ S.many j 0
      · obtain ⟨a1, a2, a3⟩ := k1 (by omega)
        rw [if_pos hkm]
        subst a2
        exact b3 (k - 1) (by omega) a3
      · rw [if_neg hkm]
        have el : ∀ i, 0 ≤ i → i < S.scn j → ((an = 0 ∨ lv < S.sc j i) ↔ k ≤ i) := by
          intro i i0 i1
          by_cases hk0 : k = 0
          · have := k0 hk0
            omega
          · obtain ⟨a1, a2, a3⟩ := k1 (by omega)
            constructor
            · intro hor
              by_cases hc : k ≤ i
              · exact hc
              · by_cases e : i = k - 1
                · rw [e] at hor; omega
                · have := sc.up i (k - 1) i0 (by omega) (by omega)
                  omega
            · intro hc
              have := sc.up (k - 1) i (by omega) (by omega) i1
              exact Or.inr (by omega)
        refine r_tn_inner x hj ?_ ?_ 41 NF 0 0 0 (by decide) (by omega) (by omega) (by omega) (Or.inl ⟨rfl, fun m m1 m2 => by omega⟩)
        · intro hn0 v
          rw [if_neg (by decide)]
          have ek : k = S.scn j := by
            by_cases hc : k < S.scn j
            · obtain ⟨m, m1, m2, m3⟩ := sc.inn k h0 hc
              exact absurd (by rw [m3]; exact (el k h0 hc).mpr (by omega)) (hn0 m m1 m2)
            · omega
          obtain ⟨a1, a2, a3⟩ := k1 (by omega)
          subst a2
          exact b1 (k - 1) (by omega) a3
        · intro v m m1 m2 m3 m4 m5
          rw [if_pos (by decide)]
          obtain ⟨i, i1, i2, i3⟩ := sc.out m m1 m2
          have ki : k ≤ i := (el i i1 i2).mp (by rw [i3, ← m3]; exact m4)
          have hkl : k < S.scn j := by omega
          obtain ⟨m', q1, q2, q3⟩ := sc.inn k h0 hkl
          have le := m5 m' q1 q2 (by rw [q3]; exact (el k h0 hkl).mpr (by omega))
          have ev : v = S.sc j k := by
            by_cases e : i = k
            · rw [m3, ← i3, e]
            · have := sc.up k i h0 (by omega) i2
              omega
          subst ev
          by_cases hvf : S.sc j k ≤ f
          · rw [if_pos hvf]
            simp only [vb_p]
            rw [w32_id (by omega) (by omega), w32_id (by omega) (by omega)]
            have := ih n (k + 1) (S.sc j k) 1 (by omega) (by omega) (by omega) (by omega) (by omega) (fun _ => ⟨rfl, by rw [show k + 1 - 1 = k by omega], hvf⟩)
            rw [show k + 1 - 1 = k - 1 + 1 by omega] at this
            exact this
          · rw [if_neg hvf]
            by_cases hk0 : k = 0
            · subst hk0
              exact b20 lv (by omega)
            · obtain ⟨a1, a2, a3⟩ := k1 (by omega)
              subst a2
              have := b2 (k - 1) (by omega) (by omega) a3 (by rw [show k - 1 + 1 = k by omega]; omega)
              rw [show k - 1 + 1 = k by omega] at this
              exact this
  have := outer 41 NF 0 0 0 (by decide) (by omega) (by omega) (by omega) (fun _ => rfl) (fun h => by omega)
  exact this
