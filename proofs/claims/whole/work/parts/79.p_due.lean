/-! PURE 25: dues, habits -/
theorem agree_q2 {wc wm : Hh → (Int → Hh → Prop) → Prop} (r : St → Int) (hc : ∀ h S, Both h S → ∀ K, (∀ h', Both h' S → K (r S) h') → wc h K) (hm : ∀ h S, Mx h S → ∀ K, (∀ h', eqM h h' → K (r S) h') → wm h K) : Agree wc wm := by
  intro h S b B C hB
  refine hc h S b _ (fun h1 b1 => ⟨by omega, ?_⟩)
  refine hm h1 S b1.mx _ (fun h2 e2 => ?_)
  rw [if_pos rfl]
  exact hB h2 S (b1.ofM e2)
theorem c_fill {h0 : Hh} {A n x : Int} (hA : 0 ≤ A) (hn : 0 ≤ n ∧ n ≤ 1000) {K : Int → Hh → Prop} (hK : ∀ h, (∀ a, a ≠ A → h a = h0 a) → (∀ j, 0 ≤ j → j < n → h A j = x) → K 0 h) : w_J7_fill_53178 A n x h0 K := by
  unfold w_J7_fill_53178
  rw [and_t hA]
  have loop : ∀ (k m : Nat) (i : Int) (h : Hh), k < m → n - i ≤ k → 0 ≤ i → i ≤ n → (∀ a, a ≠ A → h a = h0 a) → (∀ j, 0 ≤ j → j < i → h A j = x) → w_J7_fill_53178_5 K m A n x i n h := by
    intro k
    induction k with
    | zero =>
      intro m i h hm hk h1 h2 k0 k1
      obtain ⟨m, rfl⟩ : ∃ q, m = q + 1 := ⟨m - 1, by omega⟩
      rw [w_J7_fill_53178_5, if_pos (by omega)]
      exact hK h k0 (fun j j1 j2 => k1 j j1 (by omega))
    | succ k ih =>
      intro m i h hm hk h1 h2 k0 k1
      obtain ⟨m, rfl⟩ : ∃ q, m = q + 1 := ⟨m - 1, by omega⟩
      rw [w_J7_fill_53178_5]
      by_cases h3 : i ≥ n
      · rw [if_pos h3]
        exact hK h k0 (fun j j1 j2 => k1 j j1 (by omega))
      · rw [if_neg h3, and_t hA, and_t (by omega)]
        simp only [hb_p, vb_p]
        rw [w32_id (by omega) (by omega)]
        refine ih m (i + 1) _ (by omega) (by omega) (by omega) (by omega) (fun a ha => by rw [up_ne ha]; exact k0 a ha) (fun j j1 j2 => ?_)
        rw [up_at]
        by_cases e : j = i
        · rw [if_pos e]
        · rw [if_neg e]; exact k1 j j1 (by omega)
  exact loop 1001 NF 0 h0 (by decide) (by omega) (by omega) (by omega) (fun _ _ => rfl) (fun j j1 j2 => by omega)
theorem tnn_bd {sc v : Int → Int} {cnt n f : Int} (hs : Scale sc cnt v n) (hn : n ≤ 40) : -1 ≤ tnn sc cnt f ∧ tnn sc cnt f ≤ 400 := by
  have hc := hs.num
  have pl : ∀ k : Nat, (k : Int) ≤ cnt → (plc sc f k = -1 ∨ (0 ≤ plc sc f k ∧ plc sc f k < k ∧ sc (plc sc f k) ≤ f ∧ ∀ i, plc sc f k < i → i < k → f < sc i)) := by
    intro k
    induction k with
    | zero => intro _; exact Or.inl rfl
    | succ k ih =>
      intro hk
      unfold plc
      split
      · rename_i q
        exact Or.inr ⟨by omega, by omega, q, fun i i1 i2 => by omega⟩
      · rename_i q
        rcases ih (by omega) with w | ⟨w1, w2, w3, w4⟩
        · exact Or.inl w
        · refine Or.inr ⟨w1, by omega, w3, fun i i1 i2 => ?_⟩
          by_cases e : i = k
          · subst e; omega
          · exact w4 i i1 (by omega)
  have := pl cnt.toNat (by omega)
  unfold tnn
  generalize plc sc f cnt.toNat = p at *
  simp only []
  rcases this with w | ⟨w1, w2, w3, w4⟩
  · rw [if_pos w]; omega
  · rw [if_neg (by omega)]
    by_cases h1 : p + 1 < cnt
    · rw [if_pos h1]
      have g := w4 (p + 1) (by omega) (by omega)
      have a : 0 ≤ 10 * (f - sc p) / (sc (p + 1) - sc p) := Int.ediv_nonneg (by omega) (by omega)
      have b : 10 * (f - sc p) / (sc (p + 1) - sc p) < 10 := Int.ediv_lt_of_lt_mul (by omega) (by omega)
      omega
    · rw [if_neg h1]
      split <;> omega
theorem due_bd {S : St} (w : WF S) {i : Int} (h1 : 0 ≤ i) (h2 : i < S.reps) : -1 ≤ S.due i ∧ S.due i ≤ 400 := by
  have r := w.rep i h1 h2
  have ok := w.chart _ r.chart.1 r.chart.2
  have rok := w.rule _ ok.rule.1 ok.rule.2
  have m := many_le rok (t := 0) (by omega) (by have := rok.terms; omega)
  exact tnn_bd rok.scale m.2
/-- the class brings its dues up to date -/
theorem c_refresh {h0 : Hh} {S : St} (b : Both h0 S) {K : Int → Hh → Prop} (hK : ∀ h, Both h S → h 15 8 = S.reps → (∀ i, 0 ≤ i → i < S.reps → h 21 i = S.due i) → K 0 h) : w_X10_refreshDues 0 h0 K := by
  unfold w_X10_refreshDues
  simp only [vb_p, Int.reduceAdd]
  have rb := b.w.reps
  have kn := b.d.known
  have loop : ∀ (k n : Nat) (i : Int) (h : Hh), k < n → S.reps - i ≤ k → 0 ≤ i → i ≤ S.reps → h0 15 8 ≤ i → eqC h0 h → h 15 8 = h0 15 8 → (∀ j, 0 ≤ j → j < i → h 21 j = S.due j) → w_X10_refreshDues_8 K 0 n i h := by
    have fin : ∀ (i : Int) (h : Hh), i = S.reps → eqC h0 h → (∀ j, 0 ≤ j → j < i → h 21 j = S.due j) → K 0 (up h 15 8 S.reps) := by
      intro i h hi e hd
      subst hi
      have e2 : eqC h0 (up h 15 8 S.reps) := e.up (by unfold scC; omega)
      have d : ∀ j, 0 ≤ j → j < S.reps → (up h 15 8 S.reps) 21 j = S.due j := fun j j1 j2 => by rw [up_ne (by decide)]; exact hd j j1 j2
      have k8 : (up h 15 8 S.reps) 15 8 = S.reps := by rw [up_at, if_pos rfl]
      exact hK _ ⟨b.c.keep b.w e2.sc, b.m.keep e2.sm, b.w, ⟨by omega, fun j j1 j2 => d j j1 (by omega)⟩⟩ k8 d
    intro k
    induction k with
    | zero =>
      intro n i h hn hk h1 h2 h3 e e8 hd
      obtain ⟨n, rfl⟩ : ∃ m, n = m + 1 := ⟨n - 1, by omega⟩
      have rc := b.c.keep b.w e.sc
      rw [w_X10_refreshDues_8]
      simp only [Int.reduceAdd, hb_p, rc.reps]
      rw [if_pos (by omega)]
      exact fin i h (by omega) e hd
    | succ k ih =>
      intro n i h hn hk h1 h2 h3 e e8 hd
      obtain ⟨n, rfl⟩ : ∃ m, n = m + 1 := ⟨n - 1, by omega⟩
      have rc := b.c.keep b.w e.sc
      rw [w_X10_refreshDues_8]
      simp only [Int.reduceAdd, hb_p, rc.reps]
      by_cases h4 : i ≥ S.reps
      · rw [if_pos h4]
        exact fin i h (by omega) e hd
      · rw [if_neg h4, and_t (by omega), rc.rC i h1 (by omega)]
        have r := b.w.rep i h1 (by omega)
        have bh : Both h S := ⟨rc, b.m.keep e.sm, b.w, ⟨by omega, fun j j1 j2 => hd j j1 (by omega)⟩⟩
        have x := bh.cx r.chart
        have ca := x.ca
        have ra := x.ra
        rw [b_chartAt bh, if_pos r.chart, if_pos (by omega), and_t (by omega), rc.rM i h1 (by omega), rc.rD i h1 (by omega)]
        refine c_readAsKnown x r (fun h2 e2 => ?_)
        have y := x.keep e2
        have e6 : h2 6 = h 6 := e2.at (by omega) (by omega)
        have rcl := y.rc
        rw [e6] at rcl
        have fb := f_bd b.w (d := S.rD i) r
        rw [x.cc.rule, and_t (by omega), c_tenthsOf rcl y.rok (by omega)]
        unfold w_X10_refreshDues_79
        simp only [hb_p, vb_p]
        rw [and_t (by omega), and_t (by omega), w32_id (by omega) (by omega)]
        have ed : tnn (S.sc (S.crule (S.rC i))) (S.scn (S.crule (S.rC i))) (S.f (S.rC i) (S.rM i) (S.rD i)) = S.due i := rfl
        rw [ed]
        refine ih n (i + 1) _ (by omega) (by omega) (by omega) (by omega) (by omega) ((e.trans e2.c).up (by unfold scC; omega)) (by rw [up_ne (by decide), e2.at (by decide) (by decide)]; exact e8) (fun j j1 j2 => ?_)
        rw [up_at]
        by_cases ej : j = i
        · rw [if_pos ej, ej]
        · rw [if_neg ej, e2.at (by decide) (by decide)]; exact hd j j1 (by omega)
  exact loop 61 NF _ h0 (by decide) (by omega) (by omega) (by omega) (by omega) eqC.rfl' rfl b.d.due
/-- how many reports of a reader stand v off -/
noncomputable def St.cn (S : St) (b v : Int) : Nat → Int
  | 0 => 0
  | k + 1 => St.cn S b v k + (if S.rB k = b ∧ S.due k ≠ -1 ∧ S.rS k - S.due k = v then 1 else 0)
noncomputable def St.T (S : St) (b v : Int) : Int := S.cn b v S.reps.toNat
def hbS (T : Int → Int) (g far : Int) : Int := if T far > T (if T (-far) > T g then -far else g) then far else (if T (-far) > T g then -far else g)
def hbF (T : Int → Int) : Nat → Int
  | 0 => 0
  | k + 1 => hbS T (hbF T k) (k + 1)
noncomputable def St.hab (S : St) (b : Int) : Int := hbF (S.T b) 9
theorem hbS_bd {T : Int → Int} {g far : Int} (hg : -far ≤ g ∧ g ≤ far) : -far ≤ hbS T g far ∧ hbS T g far ≤ far := by
  unfold hbS
  split
  · omega
  · split <;> omega
theorem hbF_bd (T : Int → Int) : ∀ k : Nat, -(k : Int) ≤ hbF T k ∧ hbF T k ≤ k := by
  intro k
  induction k with
  | zero => exact ⟨by show -(0 : Int) ≤ 0; omega, by show (0 : Int) ≤ 0; omega⟩
  | succ k ih =>
    have := hbS_bd (T := T) (g := hbF T k) (far := (k : Int) + 1) (by omega)
    show -(((k + 1 : Nat) : Int)) ≤ hbS T (hbF T k) (k + 1) ∧ hbS T (hbF T k) (k + 1) ≤ ((k + 1 : Nat) : Int)
    omega
theorem cn_bd {S : St} {b v : Int} : ∀ k : Nat, 0 ≤ S.cn b v k ∧ S.cn b v k ≤ k := by
  intro k
  induction k with
  | zero => exact ⟨by show (0 : Int) ≤ 0; omega, by show (0 : Int) ≤ 0; omega⟩
  | succ k ih =>
    show 0 ≤ S.cn b v k + (if S.rB k = b ∧ S.due k ≠ -1 ∧ S.rS k - S.due k = v then 1 else 0) ∧ S.cn b v k + (if S.rB k = b ∧ S.due k ≠ -1 ∧ S.rS k - S.due k = v then 1 else 0) ≤ ((k + 1 : Nat) : Int)
    split <;> omega
/-- the class's dues are known -/
def Dk (h : Hh) (S : St) : Prop := (Both h S) ∧ (∀ i, 0 ≤ i → i < S.reps → h 21 i = S.due i)
theorem Dk.b {h : Hh} {S : St} (x__ : Dk h S) : Both h S := x__.1
theorem Dk.d {h : Hh} {S : St} (x__ : Dk h S) : ∀ i, 0 ≤ i → i < S.reps → h 21 i = S.due i := x__.2
theorem Dk.mk' {h : Hh} {S : St} (b__ : Both h S) (d__ : ∀ i, 0 ≤ i → i < S.reps → h 21 i = S.due i) : Dk h S := ⟨b__, d__⟩
theorem Dk.keep {h h' : Hh} {S : St} (x : Dk h S) (e : eqW h h') : Dk h' S := ⟨x.b.ofW e, by rw [e.at (by decide) (by decide)]; exact x.d⟩
theorem c_habitOf {h0 : Hh} {S : St} (x : Dk h0 S) (b : Int) {K : Int → Hh → Prop} (hK : ∀ h, eqW h0 h → K (S.hab b) h) : w_X6_habitOf 15 b h0 K := by
  have rb := x.b.w.reps
  unfold w_X6_habitOf
  simp only [Int.reduceAdd]
  refine c_fill (by omega) (by omega) (fun h1 k0 k1 => ?_)
  have e1 : eqW h0 h1 := fun a ha => k0 a (fun w => ha (by unfold sw; omega))
  -- the search through the tally
  have look : ∀ (h : Hh), eqW h0 h → (∀ v, -9 ≤ v → v ≤ 9 → h 22 (9 + v) = S.T b v) → ∀ (k n : Nat) (far g : Int), k < n → 10 - far = k → 1 ≤ far → far ≤ 10 → g = hbF (S.T b) (far - 1).toNat → w_X6_habitOf_84 K 15 n g far h := by
    intro h e ht k
    induction k with
    | zero =>
      intro n far g hn hk h1 h2 hg
      obtain ⟨n, rfl⟩ : ∃ m, n = m + 1 := ⟨n - 1, by omega⟩
      have ef : far = 10 := by omega
      subst ef
      rw [w_X6_habitOf_84, if_pos (by omega), hg]
      exact hK h e
    | succ k ih =>
      intro n far g hn hk h1 h2 hg
      obtain ⟨n, rfl⟩ : ∃ m, n = m + 1 := ⟨n - 1, by omega⟩
      have gb := hbF_bd (S.T b) (far - 1).toNat
      rw [← hg] at gb
      have nx : hbF (S.T b) (far + 1 - 1).toNat = hbS (S.T b) g far := by
        rw [show (far + 1 - 1).toNat = (far - 1).toNat + 1 by omega]
        show hbS (S.T b) (hbF (S.T b) (far - 1).toNat) (((far - 1).toNat : Nat) + 1) = _
        rw [← hg, show ((((far - 1).toNat : Nat)) : Int) + 1 = far by omega]
      rw [w_X6_habitOf_84, if_neg (by omega), w32_id (z := 9 - far) (by omega) (by omega), and_t (by omega), w32_id (z := 9 + g) (by omega) (by omega), and_t (by omega)]
      simp only [Int.reduceAdd, w_X6_habitOf_114, w_X6_habitOf_137, vb_p]
      have tm : h 22 (9 - far) = S.T b (-far) := ht (-far) (by omega) (by omega)
      have tp : h 22 (9 + far) = S.T b far := ht far (by omega) (by omega)
      have tg : h 22 (9 + g) = S.T b g := ht g (by omega) (by omega)
      have sec : ∀ g1, -9 ≤ g1 → g1 ≤ 9 → (if S.T b far > S.T b g1 then far else g1) = hbS (S.T b) g far → ((0 ≤ w32 (9 + far) ∧ w32 (9 + far) < 19) ∧ (0 ≤ w32 (9 + g1) ∧ w32 (9 + g1) < 19) ∧ if h 22 (w32 (9 + far)) ≤ h 22 (w32 (9 + g1)) then w_X6_habitOf_84 K 15 n g1 (w32 (far + 1)) h else w_X6_habitOf_84 K 15 n far (w32 (far + 1)) h) := by
        intro g1 g2 g3 hs
        rw [w32_id (z := 9 + far) (by omega) (by omega), w32_id (z := 9 + g1) (by omega) (by omega), w32_id (z := far + 1) (by omega) (by omega)]
        refine ⟨by omega, by omega, ?_⟩
        rw [tp, ht g1 g2 g3]
        by_cases q : S.T b far > S.T b g1
        · rw [if_neg (by omega)]
          rw [if_pos q] at hs
          exact ih n (far + 1) far (by omega) (by omega) (by omega) (by omega) (by rw [nx]; exact hs)
        · rw [if_pos (by omega)]
          rw [if_neg q] at hs
          exact ih n (far + 1) g1 (by omega) (by omega) (by omega) (by omega) (by rw [nx]; exact hs)
      rw [tm, tg]
      by_cases q : S.T b (-far) > S.T b g
      · rw [if_neg (by omega), w32_id (z := -far) (by omega) (by omega)]
        refine sec (-far) (by omega) (by omega) ?_
        unfold hbS
        rw [if_pos q]
      · rw [if_pos (by omega)]
        refine sec g (by omega) (by omega) ?_
        unfold hbS
        rw [if_neg q]
  have count : ∀ (k n : Nat) (i : Nat) (h : Hh), k < n → S.reps - i ≤ k → (i : Int) ≤ S.reps → eqW h0 h → (∀ v, -9 ≤ v → v ≤ 9 → h 22 (9 + v) = S.cn b v i) → w_X6_habitOf_10 K (fun h9 => w_X6_habitOf_84 K 15 NF 0 1 h9) 15 n b i h := by
    have fin : ∀ (i : Nat) (h : Hh), (i : Int) = S.reps → eqW h0 h → (∀ v, -9 ≤ v → v ≤ 9 → h 22 (9 + v) = S.cn b v i) → w_X6_habitOf_84 K 15 NF 0 1 h := by
      intro i h hi e ht
      exact look h e (fun v v1 v2 => by rw [ht v v1 v2]; unfold St.T; rw [show i = S.reps.toNat by omega]) 9 NF 1 0 (by decide) (by omega) (by omega) (by omega) rfl
    intro k
    induction k with
    | zero =>
      intro n i h hn hk hi e ht
      obtain ⟨n, rfl⟩ : ∃ m, n = m + 1 := ⟨n - 1, by omega⟩
      have y := x.keep e
      rw [w_X6_habitOf_10, y.b.c.reps, if_pos (by omega)]
      exact fin i h (by omega) e ht
    | succ k ih =>
      intro n i h hn hk hi e ht
      obtain ⟨n, rfl⟩ : ∃ m, n = m + 1 := ⟨n - 1, by omega⟩
      have y := x.keep e
      rw [w_X6_habitOf_10, y.b.c.reps]
      by_cases h2 : (i : Int) ≥ S.reps
      · rw [if_pos h2]
        exact fin i h (by omega) e ht
      · have rs := x.b.w.rS i (by omega) (by omega)
        have db := due_bd x.b.w (i := i) (by omega) (by omega)
        rw [if_neg h2, and_t (by omega)]
        simp only [Int.reduceAdd, vb_p, hb_p, w_X6_habitOf_74]
        simp only [y.b.c.rS i (show (0 : Int) ≤ i by omega) (show (i : Int) < S.reps by omega), y.b.c.rB i (show (0 : Int) ≤ i by omega) (show (i : Int) < S.reps by omega), y.d i (show (0 : Int) ≤ i by omega) (show (i : Int) < S.reps by omega)]
        rw [w32_id (z := S.rS i - S.due i) (by omega) (by omega), w32_id (z := (i : Int) + 1) (by omega) (by omega), e_absI (by omega)]
        have step : ∀ h', eqW h0 h' → (∀ v, -9 ≤ v → v ≤ 9 → h' 22 (9 + v) = S.cn b v (i + 1)) → w_X6_habitOf_10 K (fun h9 => w_X6_habitOf_84 K 15 NF 0 1 h9) 15 n b ((i : Int) + 1) h' := fun h' e' ht' => ih n (i + 1) h' (by omega) (by omega) (by omega) e' ht'
        have same : (∀ v, -9 ≤ v → v ≤ 9 → ¬ (S.rB i = b ∧ S.due i ≠ -1 ∧ S.rS i - S.due i = v)) → w_X6_habitOf_10 K (fun h9 => w_X6_habitOf_84 K 15 NF 0 1 h9) 15 n b ((i : Int) + 1) h := fun hn => step h e (fun v v1 v2 => by
          show _ = S.cn b v i + _
          rw [if_neg (hn v v1 v2), ht v v1 v2, Int.add_zero])
        by_cases q1 : S.rB i = b
        · rw [if_neg (fun w => w q1)]
          by_cases q2 : S.due i = -1
          · rw [if_pos q2]
            exact same (fun v _ _ w => w.2.1 q2)
          · rw [if_neg q2]
            by_cases q3 : (if 0 ≤ S.rS i - S.due i then S.rS i - S.due i else -(S.rS i - S.due i)) > 9
            · rw [if_pos q3]
              refine same (fun v v1 v2 w => ?_)
              have := w.2.2
              split at q3 <;> omega
            · rw [if_neg q3]
              have vb : -9 ≤ S.rS i - S.due i ∧ S.rS i - S.due i ≤ 9 := by split at q3 <;> omega
              have cb := cn_bd (S := S) (b := b) (v := S.rS i - S.due i) i
              rw [w32_id (z := 9 + (S.rS i - S.due i)) (by omega) (by omega), and_t (by omega), ht _ vb.1 vb.2, w32_id (by omega) (by omega)]
              refine step _ (e.up (by unfold sw; omega)) (fun v v1 v2 => ?_)
              rw [up_at]
              show _ = S.cn b v i + _
              by_cases ev : v = S.rS i - S.due i
              · rw [if_pos (by omega), if_pos ⟨q1, q2, ev.symm⟩, ev]
              · rw [if_neg (by omega), if_neg (fun w => ev w.2.2.symm), ht v v1 v2, Int.add_zero]
        · rw [if_pos q1]
          exact same (fun v _ _ w => q1 w.1)
  exact count 61 NF 0 h1 (by decide) (by omega) (by omega) e1 (fun v v1 v2 => k1 _ (by omega) (by omega))
theorem e_has (a0 i : Int) (h : Hh) (K : Int → Hh → Prop) : w_X6_has a0 i h K = K (if 0 ≤ i ∧ i < h a0 7 then 1 else 0) h := by
  unfold w_X6_has w_X6_has_16 w_X6_has_17
  by_cases h1 : i < 0
  · rw [if_pos h1, and_t (Or.inl rfl), if_neg (by omega)]
  · by_cases h2 : i ≥ h a0 7
    · rw [if_neg h1, if_pos h2, and_t (Or.inl rfl), if_neg (by omega)]
    · rw [if_neg h1, if_neg h2, and_t (Or.inr rfl), if_pos (by omega)]
/-- how a report stands -/
noncomputable def St.bad (S : St) (bd i : Int) : Int := if S.due i = -1 then -1 else if S.rS i - S.due i - S.hab (S.rB i) > bd ∨ -(S.rS i - S.due i - S.hab (S.rB i)) > bd then 1 else 0
theorem hab_bd (S : St) (b : Int) : -9 ≤ S.hab b ∧ S.hab b ≤ 9 := hbF_bd (S.T b) 9
theorem c_isBad {h0 : Hh} {S : St} (x : Dk h0 S) {i bd : Int} (h1 : 0 ≤ i) (h2 : i < S.reps) {K : Int → Hh → Prop} (hK : ∀ h, eqW h0 h → K (if S.bad bd i = 1 then 1 else 0) h) : w_X6_isBad 15 i bd h0 K := by
  have rb := x.b.w.reps
  have rs := x.b.w.rS i h1 h2
  have db := due_bd x.b.w h1 h2
  have hb := hab_bd S (S.rB i)
  unfold w_X6_isBad w_X6_isBad_18
  rw [e_has, x.b.c.reps, if_pos (show 0 ≤ i ∧ i < S.reps from ⟨h1, h2⟩), if_neg (by decide), and_t (by omega)]
  simp only [Int.reduceAdd, vb_p]
  simp only [x.d i h1 h2, x.b.c.rB i h1 h2]
  by_cases q : S.due i = -1
  · rw [if_neg (fun w => w q)]
    have g := hK h0 eqW.rfl'
    unfold St.bad at g
    rw [if_pos q, if_neg (by decide)] at g
    exact g
  · rw [if_pos q]
    refine c_habitOf x _ (fun h e => ?_)
    have y := x.keep e
    have g := hK h e
    unfold St.bad at g
    rw [if_neg q] at g
    rw [y.b.c.rS i h1 h2, w32_id (z := S.due i + S.hab (S.rB i)) (by omega) (by omega), w32_id (by omega) (by omega), e_absI (by omega)]
    unfold w_X6_isBad_58
    by_cases q2 : S.rS i - S.due i - S.hab (S.rB i) > bd ∨ -(S.rS i - S.due i - S.hab (S.rB i)) > bd
    · rw [if_pos q2, if_pos rfl] at g
      rw [if_neg (by split <;> omega), and_t (Or.inr rfl)]
      exact g
    · rw [if_neg q2, if_neg (by decide)] at g
      rw [if_pos (by split <;> omega), and_t (Or.inl rfl)]
      exact g
noncomputable def rDue (i bd w : Int) (S : St) : Int := if (0 ≤ i ∧ i < S.reps) ∧ (0 ≤ bd ∧ bd ≤ 20) ∧ 0 ≤ w ∧ w ≤ 1 then (if w = 0 then S.due i else if S.bad bd i = 1 then 1 else 0) else VOID
theorem due_C (i bd w : Int) (h : Hh) (S : St) (b : Both h S) (K : Int → Hh → Prop) (hK : ∀ h', Both h' S → K (rDue i bd w S) h') : w_X10_due 0 i bd w h K := by
  have rb := b.w.reps
  unfold rDue VOID at hK
  unfold w_X10_due w_X10_due_18
  rw [e_has]
  simp only [Int.reduceAdd, b.c.reps]
  by_cases h1 : 0 ≤ i ∧ i < S.reps
  · rw [if_pos h1, if_neg (by decide), e_isBound]
    by_cases h2 : 0 ≤ bd ∧ bd ≤ 20
    · rw [if_pos h2, if_pos (by decide)]
      refine c_refresh b (fun h3 b3 _ d3 => ?_)
      by_cases w0 : w = 0
      · rw [if_neg (fun q => q w0), and_t (by omega), d3 i h1.1 h1.2]
        rw [if_pos (by omega), if_pos w0] at hK
        exact hK h3 b3
      · rw [if_pos w0]
        by_cases w1 : w = 1
        · rw [if_neg (fun q => q w1)]
          rw [if_pos (by omega), if_neg w0] at hK
          refine c_isBad ⟨b3, d3⟩ h1.1 h1.2 (fun h4 e4 => ?_)
          unfold w_X10_due_61
          have g := hK h4 (b3.ofW e4)
          by_cases q : S.bad bd i = 1
          · rw [if_pos q, if_neg (by decide)]; rw [if_pos q] at g; exact g
          · rw [if_neg q, if_pos rfl]; rw [if_neg q] at g; exact g
        · rw [if_pos w1]
          rw [if_neg (by omega)] at hK
          exact hK h3 b3
    · rw [if_neg h2, if_neg (by decide)]
      rw [if_neg (fun q => h2 q.2.1)] at hK
      exact hK h b
  · rw [if_neg (fun q => h1 q.1)] at hK
    rw [if_neg h1, if_pos rfl]
    exact hK h b
noncomputable def rHabit (i : Int) (S : St) : Int := if 0 ≤ i ∧ i ≤ 7 then S.hab i else VOID
theorem habit_C (i : Int) (h : Hh) (S : St) (b : Both h S) (K : Int → Hh → Prop) (hK : ∀ h', Both h' S → K (rHabit i S) h') : w_X10_habit 0 i h K := by
  unfold rHabit VOID at hK
  unfold w_X10_habit
  simp only [Int.reduceAdd]
  rw [e_isReader]
  by_cases h1 : 0 ≤ i ∧ i ≤ 7
  · rw [if_pos h1, if_pos (by decide)]
    rw [if_pos h1] at hK
    refine c_refresh b (fun h3 b3 _ d3 => ?_)
    exact c_habitOf ⟨b3, d3⟩ _ (fun h4 e4 => hK h4 (b3.ofW e4))
  · rw [if_neg h1, if_neg (by decide)]
    rw [if_neg h1] at hK
    exact hK h b
