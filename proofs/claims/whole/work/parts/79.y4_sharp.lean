/-! PURE 42: the sharpest order: the reference's search -/
/-- what the reference notes of a code's digits -/
def tld (n : Int) : Nat → Int → Int → Int
  | 0, _, s => s
  | k + 1, r, s => tld n k (r / 10) (if 1 ≤ r % 10 ∧ r % 10 ≤ n then orv s (r % 10) else s)
def fulln (n : Int) : Int := if n = 2 then 6 else if n = 3 then 14 else 30
def rgo (n : Int) : Nat → Int → List Int
  | 0, _ => []
  | k + 1, i => if tld n n.toNat i 0 = fulln n then i :: rgo n k (i + 1) else rgo n k (i + 1)
theorem rgo_add (n : Int) (j : Nat) : ∀ (k : Nat) (i : Int), rgo n (k + j) i = rgo n k i ++ rgo n j (i + k) := by
  intro k
  induction k with
  | zero => intro i; rw [Nat.zero_add]; show _ = rgo n j (i + ((0 : Nat) : Int)); rw [show i + ((0 : Nat) : Int) = i by omega]
  | succ k ih =>
    intro i
    rw [show k + 1 + j = (k + j) + 1 by omega]
    show (if tld n n.toNat i 0 = fulln n then i :: rgo n (k + j) (i + 1) else rgo n (k + j) (i + 1)) = (if tld n n.toNat i 0 = fulln n then i :: rgo n k (i + 1) else rgo n k (i + 1)) ++ _
    rw [ih (i + 1), show i + 1 + (k : Int) = i + ((k + 1 : Nat) : Int) by omega]
    split <;> rfl
theorem rgo_2 : rgo 2 10 12 = Lo 2 := by decide +kernel
theorem rgo_3 : rgo 3 199 123 = Lo 3 := by decide +kernel
theorem rgo_4 : rgo 4 3088 1234 = Lo 4 := by decide +kernel
theorem shl_full {n : Int} (h : n = 2 ∨ n = 3 ∨ n = 4) : w32 (((i32 1 <<< (i32 (w32 (n + 1)) &&& 31)).toInt) - 2) = fulln n := by
  rcases h with e | e | e <;> subst e <;> decide
theorem r_codes {h0 : Hh} {c e w n bo bw to i : Int} (hn : n = 2 ∨ n = 3 ∨ n = 4) {K : Int → Hh → Prop} {X : Int → Int → Int → Int → Int → Int → Int → Int → Int → Hh → Prop} (hX : ∀ h, (∀ a, a ≠ 69 → h a = h0 a) → (∀ k, 0 ≤ k → k < n → h 69 k = dt i (n - 1 - k)) → X c e w n bo bw to i (tld n n.toNat i 0) h) (hi : 0 ≤ i ∧ i < 10000) : ∀ (k N : Nat) (r s z : Int) (h : Hh), z = k - 1 → z < n → k < N → 0 ≤ r ∧ r < 10000 → (∀ a, a ≠ 69 → h a = h0 a) → (∀ j, z < j → j < n → h 69 j = dt i (n - 1 - j)) → (∀ j, 0 ≤ j → j ≤ z → dt r j = dt i (j + (n - 1 - z))) → tld n k r s = tld n n.toNat i 0 → w_X11_sharpest_132 K X 33 N c e w n bo bw to i r s z h := by
  intro k
  induction k with
  | zero =>
    intro N r s z h hz zn hN hr k0 k1 k2 ht
    obtain ⟨N, rfl⟩ : ∃ m, N = m + 1 := ⟨N - 1, by omega⟩
    rw [w_X11_sharpest_132, if_pos (by omega)]
    have es : s = tld n n.toNat i 0 := ht
    rw [es]
    exact hX h k0 (fun k q1 q2 => k1 k (by omega) q2)
  | succ k ih =>
    intro N r s z h hz zn hN hr k0 k1 k2 ht
    obtain ⟨N, rfl⟩ : ∃ m, N = m + 1 := ⟨N - 1, by omega⟩
    have tm : Int.tmod r 10 = r % 10 := Int.tmod_eq_emod_of_nonneg hr.1
    have td : Int.tdiv r 10 = r / 10 := td_pos hr.1 (by omega)
    rw [w_X11_sharpest_132, if_neg (by omega), and_t (by omega)]
    simp only [vb_p, hb_p, Int.reduceAdd]
    rw [tm, td, e_in, up_at, if_pos rfl, w32_id (z := r / 10) (by omega) (by omega)]
    have d0 : r % 10 = dt i (n - 1 - z) := by
      have := k2 0 (by omega) (by omega)
      rw [dt0] at this
      rw [this]
      congr 1
      omega
    have nx : ∀ s', tld n k (r / 10) s' = tld n n.toNat i 0 → w_X11_sharpest_188 K (w_X11_sharpest_132 K X 33 N) X 33 c e w n bo bw to i (r / 10) s' z (up h 69 z (r % 10)) := by
      intro s' hs
      unfold w_X11_sharpest_188
      rw [vb_p, w32_id (by omega) (by omega)]
      refine ih N (r / 10) s' (z + -1) _ (by omega) (by omega) (by omega) (by omega) (fun a ha => by rw [up_ne ha]; exact k0 a ha) (fun j j1 j2 => ?_) (fun j j1 j2 => ?_) hs
      · rw [up_at]
        by_cases q : j = z
        · rw [if_pos q, q]; exact d0
        · rw [if_neg q]; exact k1 j (by omega) j2
      · rw [dt_div (by omega), k2 (j + 1) (by omega) (by omega)]
        congr 1
        omega
    have ht' : tld n k (r / 10) (if 1 ≤ r % 10 ∧ r % 10 ≤ n then orv s (r % 10) else s) = tld n n.toNat i 0 := ht
    by_cases q : 1 ≤ r % 10 ∧ r % 10 ≤ n
    · rw [if_pos q] at ht' ⊢
      rw [if_neg (by decide)]
      exact nx _ ht'
    · rw [if_neg q] at ht' ⊢
      rw [if_pos rfl]
      exact nx _ ht'
theorem r_sharpL {h0 : Hh} {S : St} {c e w to : Int} (x : Mx h0 S) (hc : 0 ≤ c ∧ c < S.charts) (he : 0 ≤ e ∧ e ≤ 50) (hto : 0 ≤ to ∧ to < 5000) {K : Int → Hh → Prop} {X : Int → Int → Int → Hh → Prop} {B : Int × Int} (hX : ∀ h, eqM h0 h → X w B.1 B.2 h) : ∀ (k N : Nat) (i bo bw : Int) (h : Hh), to + 1 - i = k → 0 ≤ i → k < N → eqM h0 h → (∀ a ∈ rgo (S.terms (S.crule c) - 1) k i, okO (S.terms (S.crule c) - 1) a) → S.bs c e (rgo (S.terms (S.crule c) - 1) k i) bo bw = B → w_X11_sharpest_112 K X 33 N c e w (S.terms (S.crule c) - 1) bo bw to i h := by
  have ok := x.wf.chart c hc.1 hc.2
  have rok := x.wf.rule _ ok.rule.1 ok.rule.2
  have tt := rok.terms
  have n234 : S.terms (S.crule c) - 1 = 2 ∨ S.terms (S.crule c) - 1 = 3 ∨ S.terms (S.crule c) - 1 = 4 := by omega
  intro k
  induction k with
  | zero =>
    intro N i bo bw h hk i0 hN k0 oks hB
    obtain ⟨N, rfl⟩ : ∃ m, N = m + 1 := ⟨N - 1, by omega⟩
    rw [w_X11_sharpest_112, if_pos (by omega)]
    have := hX h k0
    rw [← hB] at this
    exact this
  | succ k ih =>
    intro N i bo bw h hk i0 hN k0 oks hB
    obtain ⟨N, rfl⟩ : ∃ m, N = m + 1 := ⟨N - 1, by omega⟩
    rw [w_X11_sharpest_112, if_neg (by omega), vb_p, w32_id (by omega) (by omega)]
    refine r_codes n234 ?_ (by omega) (S.terms (S.crule c) - 1).toNat NF i 0 _ h (by omega) (by omega) (by rw [NF_eq]; omega) (by omega) (fun _ _ => rfl) (fun j j1 j2 => by omega) (fun j j1 j2 => by congr 1; omega) rfl
    intro h1 q0 q1
    rw [shl_full n234]
    have e1 : eqM h h1 := fun a k q => by rw [q0 a (fun w => q (by unfold scM; omega))]
    have k1 := k0.trans e1
    have nx : ∀ bo' bw' h2, eqM h0 h2 → (∀ a ∈ rgo (S.terms (S.crule c) - 1) k (i + 1), okO (S.terms (S.crule c) - 1) a) → S.bs c e (rgo (S.terms (S.crule c) - 1) k (i + 1)) bo' bw' = B → w_X11_sharpest_243 K (w_X11_sharpest_112 K X 33 N) X 33 c e w (S.terms (S.crule c) - 1) bo' bw' to i h2 := by
      intro bo' bw' h2 k2 oks2 hB2
      unfold w_X11_sharpest_243
      rw [vb_p, w32_id (by omega) (by omega)]
      exact ih N (i + 1) bo' bw' h2 (by omega) (by omega) (by omega) k2 oks2 hB2
    have hl : rgo (S.terms (S.crule c) - 1) (k + 1) i = if tld (S.terms (S.crule c) - 1) (S.terms (S.crule c) - 1).toNat i 0 = fulln (S.terms (S.crule c) - 1) then i :: rgo (S.terms (S.crule c) - 1) k (i + 1) else rgo (S.terms (S.crule c) - 1) k (i + 1) := rfl
    by_cases q : tld (S.terms (S.crule c) - 1) (S.terms (S.crule c) - 1).toNat i 0 = fulln (S.terms (S.crule c) - 1)
    · rw [if_pos q] at hl ⊢
      rw [hl] at oks hB
      have oki := oks i (List.mem_cons_self ..)
      have oks2 : ∀ a ∈ rgo (S.terms (S.crule c) - 1) k (i + 1), okO (S.terms (S.crule c) - 1) a := fun a ha => oks a (List.mem_cons_of_mem _ ha)
      have hB' : (if bo = -1 ∨ S.gc c e i < bw then S.bs c e (rgo (S.terms (S.crule c) - 1) k (i + 1)) i (S.gc c e i) else S.bs c e (rgo (S.terms (S.crule c) - 1) k (i + 1)) bo bw) = B := hB
      refine r_widest (x.keep k1) hc oki.t he q1 (fun h2 u1 u2 => ?_)
      have k2 := k1.trans u1
      by_cases w1 : bo = -1
      · rw [if_pos (Or.inl w1)] at hB'
        rw [if_pos w1]
        exact nx _ _ h2 k2 oks2 hB'
      · rw [if_neg w1]
        by_cases w2 : S.gc c e i < bw
        · rw [if_pos (Or.inr w2)] at hB'
          have w2' : S.gw c e (S.oT c i) (ends S c).toNat < bw := w2
          rw [if_pos w2']
          exact nx _ _ h2 k2 oks2 hB'
        · rw [if_neg (by omega)] at hB'
          have w2' : ¬ S.gw c e (S.oT c i) (ends S c).toNat < bw := w2
          rw [if_neg w2']
          exact nx _ _ h2 k2 oks2 hB'
    · rw [if_neg q] at hl ⊢
      rw [hl] at oks hB
      exact nx _ _ h1 k1 oks hB
theorem sharp_M (c e w : Int) (h : Hh) (S : St) (x : Mx h S) (K : Int → Hh → Prop) (hK : ∀ h', eqM h h' → K (rSharp c e w S) h') : w_X11_sharpest 33 c e w h K := by
  have q1 := x.wf.charts
  have q2 := x.wf.rules
  unfold w_X11_sharpest
  rw [m_isChart x]
  have no : ¬ ((0 ≤ c ∧ c < S.charts) ∧ (0 ≤ e ∧ e ≤ 50) ∧ 0 ≤ w ∧ w ≤ 1) → w_X11_sharpest_30 K 33 h := by
    intro q
    have := hK h eqM.rfl'
    unfold rSharp at this
    rw [if_neg q] at this
    exact this
  by_cases c1 : 0 ≤ c ∧ c < S.charts
  · rw [if_pos c1, if_neg (by decide), e_in]
    by_cases c2 : 0 ≤ e ∧ e ≤ 50
    · rw [if_pos c2, if_neg (by decide), e_in]
      by_cases c3 : 0 ≤ w ∧ w ≤ 1
      · rw [if_pos c3, if_pos (by decide), and_t (by omega)]
        have ok := x.wf.chart c c1.1 c1.2
        have rr := ok.rule
        have rok := x.wf.rule _ rr.1 rr.2
        have tt := rok.terms
        simp only [Int.reduceAdd]
        rw [x.rep.crule c c1.1 c1.2, and_t (by omega), vb_p, x.rep.terms _ rr.1 rr.2, w32_id (by omega) (by omega)]
        have fin : ∀ h2, eqM h h2 → (fun u32 u33 u34 h31 => if u32 ≠ 0 then (w_X11_sharpest_261 K 33 (w32 u34) h31) else (w_X11_sharpest_261 K 33 u33 h31)) w (S.bs c e (Lo (S.terms (S.crule c) - 1)) (-1) 0).1 (S.bs c e (Lo (S.terms (S.crule c) - 1)) (-1) 0).2 h2 := by
          intro h2 e2
          have := hK h2 e2
          unfold rSharp at this
          rw [if_pos ⟨c1, c2, c3⟩] at this
          by_cases c5 : w = 0
          · rw [if_pos c5] at this
            show if w ≠ 0 then _ else _
            rw [if_neg (fun q => q c5)]
            exact this
          · rw [if_neg c5] at this
            show if w ≠ 0 then _ else _
            rw [if_pos c5]
            exact this
        have oks := Lo_ok (n := S.terms (S.crule c) - 1) (by omega)
        have n234 : S.terms (S.crule c) - 1 = 2 ∨ S.terms (S.crule c) - 1 = 3 ∨ S.terms (S.crule c) - 1 = 4 := by omega
        unfold w_X11_sharpest_78 w_X11_sharpest_106
        rcases n234 with g | g | g
        · rw [if_neg (fun q => q g), if_neg (fun q => q g)]
          have e2 : rgo (S.terms (S.crule c) - 1) 10 12 = Lo (S.terms (S.crule c) - 1) := by rw [g]; exact rgo_2
          exact r_sharpL x c1 c2 (by omega) (B := S.bs c e (Lo (S.terms (S.crule c) - 1)) (-1) 0) fin 10 NF 12 (-1) 0 h (by omega) (by omega) (by rw [NF_eq]; omega) eqM.rfl' (by rw [e2]; exact oks) (by rw [e2])
        · rw [if_pos (by omega), if_neg (fun q => q g), if_pos (by omega), if_neg (fun q => q g)]
          have e2 : rgo (S.terms (S.crule c) - 1) 199 123 = Lo (S.terms (S.crule c) - 1) := by rw [g]; exact rgo_3
          exact r_sharpL x c1 c2 (by omega) (B := S.bs c e (Lo (S.terms (S.crule c) - 1)) (-1) 0) fin 199 NF 123 (-1) 0 h (by omega) (by omega) (by rw [NF_eq]; omega) eqM.rfl' (by rw [e2]; exact oks) (by rw [e2])
        · rw [if_pos (by omega), if_pos (by omega), if_pos (by omega), if_pos (by omega)]
          have e2 : rgo (S.terms (S.crule c) - 1) 3088 1234 = Lo (S.terms (S.crule c) - 1) := by rw [g]; exact rgo_4
          exact r_sharpL x c1 c2 (by omega) (B := S.bs c e (Lo (S.terms (S.crule c) - 1)) (-1) 0) fin 3088 NF 1234 (-1) 0 h (by omega) (by omega) (by rw [NF_eq]; omega) eqM.rfl' (by rw [e2]; exact oks) (by rw [e2])
      · rw [if_neg c3, if_neg (by decide)]; exact no (by omega)
    · rw [if_neg c2, if_pos rfl]; exact no (by omega)
  · rw [if_neg c1, if_pos rfl]; exact no (by omega)
theorem a_sharpest (c e w : Int) : Agree (w_X10_sharpest 0 c e w) (w_X11_sharpest 33 c e w) := agree_q (rSharp c e w) (sharp_C c e w) (sharp_M c e w)
