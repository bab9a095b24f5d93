/-! PURE 50: suspects: the reference's notes -/
theorem r_has {h : Hh} {S : St} (x : Mx h S) {c k t m : Int} (h1 : 0 ≤ k) (h2 : k < S.reps) (hc : S.rC k = c) (ht : 0 ≤ t ∧ t ≤ 9) (hm : 0 ≤ m ∧ m < 40) {K : Int → Hh → Prop} (hy : S.hid c k (40 * t + m) → K 1 h) (hn : ¬ S.hid c k (40 * t + m) → K 0 h) : w_X11_has 33 k (100 * t + m) h K := by
  have rb := x.wf.reps
  have cb := x.wf.charts
  have ru := x.wf.rules
  have r := x.wf.rep k h1 h2
  rw [hc] at r
  have rch := r.chart
  have ok := x.wf.chart _ r.chart.1 r.chart.2
  have rr := ok.rule
  have rok := x.wf.rule _ ok.rule.1 ok.rule.2
  have tt := rok.terms
  unfold w_X11_has
  simp only [Int.reduceAdd]
  rw [and_t (by omega), vb_p, x.rep.rC k h1 h2, hc]
  have loop : ∀ (q n : Nat) (i : Int), q < n → S.terms (S.crule c) - 1 - i = q → 0 ≤ i → (∀ p, 0 ≤ p → p < i → S.iO c k p ≠ 40 * t + m) → w_X11_has_10 K 33 n k (100 * t + m) c i h := by
    intro q
    induction q with
    | zero =>
      intro n i hn1 hk i0 k1
      obtain ⟨n, rfl⟩ : ∃ m, n = m + 1 := ⟨n - 1, by omega⟩
      rw [w_X11_has_10]
      simp only [Int.reduceAdd]
      rw [and_t (by omega), x.rep.crule c rch.1 rch.2, and_t (by omega), x.rep.terms _ rr.1 rr.2, w32_id (by omega) (by omega), if_pos (by omega)]
      exact hn (fun ⟨p, p0, p1, p2⟩ => k1 p p0 (by omega) p2)
    | succ q ih =>
      intro n i hn1 hk i0 k1
      obtain ⟨n, rfl⟩ : ∃ m, n = m + 1 := ⟨n - 1, by omega⟩
      obtain ⟨od, dd, ib⟩ := iO_bd x.wf rch r (p := i) i0 (by omega)
      have ei : S.iO c k i = S.ord c i * 40 + dg (S.rM k) (S.terms (S.crule c) - 2 - i) := rfl
      have nx : S.iO c k i ≠ 40 * t + m → w_X11_has_66 K (w_X11_has_10 K 33 n) 33 k (100 * t + m) c i h := by
        intro ne
        unfold w_X11_has_66
        rw [vb_p, w32_id (by omega) (by omega)]
        refine ih n (i + 1) (by omega) (by omega) (by omega) (fun p p0 p1 => ?_)
        by_cases e : p = i
        · rw [e]; exact ne
        · exact k1 p p0 (by omega)
      have rm := x.rep.rM k i h1 h2 i0 (by rw [hc]; omega)
      rw [hc] at rm
      have td : Int.tdiv (100 * t + m) 100 = t := by rw [td_pos (by omega) (by omega)]; omega
      have tm : Int.tmod (100 * t + m) 100 = m := by rw [Int.tmod_eq_emod_of_nonneg (by omega)]; omega
      rw [w_X11_has_10]
      simp only [Int.reduceAdd]
      rw [and_t (by omega), x.rep.crule c rch.1 rch.2, and_t (by omega), x.rep.terms _ rr.1 rr.2, w32_id (z := S.terms (S.crule c) - 1) (by omega) (by omega), if_neg (by omega), w32_id (z := 4 * c) (by omega) (by omega), w32_id (z := 4 * c + i) (by omega) (by omega), and_t (by omega), w32_id (z := 4 * k) (by omega) (by omega), w32_id (z := 4 * k + i) (by omega) (by omega), and_t (by omega), td, tm]
      simp only [x.rep.ord c i rch.1 rch.2 i0 (show i < S.terms (S.crule c) - 1 by omega), rm, w32_id (z := t) (show -2147483648 ≤ t by omega) (show t < 2147483648 by omega)]
      by_cases q1 : S.ord c i = t
      · rw [if_neg (fun w => w q1)]
        by_cases q2 : dg (S.rM k) (S.terms (S.crule c) - 2 - i) = m
        · rw [if_neg (fun w => w q2)]
          exact hy ⟨i, i0, by omega, by omega⟩
        · rw [if_pos q2]
          exact nx (by omega)
      · rw [if_pos q1]
        exact nx (by omega)
  exact loop (S.terms (S.crule c) - 1).toNat NF 0 (by rw [NF_eq]; omega) (by omega) (by omega) (fun p p0 p1 => by omega)
/-- how each report stands -/
def Hw (h : Hh) (S : St) (c bd : Int) : Prop := ∀ k, 0 ≤ k → k < S.reps → (h 70 k = 1 ↔ S.isB c bd k) ∧ (h 70 k = 0 ↔ S.isG c bd k)
theorem r_how {h0 : Hh} {S : St} (x : Mx h0 S) {c bd : Int} {K : Int → Hh → Prop} {X : Int → Hh → Prop} (hX : ∀ h, (∀ a, a ≠ 70 → ¬ scG a → h a = h0 a) → Hw h S c bd → X c h) : w_X11_finds_17 K X 33 NF c bd 0 h0 := by
  have rb := x.wf.reps
  have em : ∀ h : Hh, (∀ a, a ≠ 70 → ¬ scG a → h a = h0 a) → eqM h0 h := fun h k0 a k q => by rw [k0 a (fun w => q (by unfold scM; omega)) (fun w => q (by unfold scG at w; unfold scM; omega))]
  have loop : ∀ (q n : Nat) (i : Int) (h : Hh), q < n → S.reps - i = q → 0 ≤ i → (∀ a, a ≠ 70 → ¬ scG a → h a = h0 a) → (∀ k, 0 ≤ k → k < i → (h 70 k = 1 ↔ S.isB c bd k) ∧ (h 70 k = 0 ↔ S.isG c bd k)) → w_X11_finds_17 K X 33 n c bd i h := by
    intro q
    induction q with
    | zero =>
      intro n i h hn hk i0 k0 k1
      obtain ⟨n, rfl⟩ : ∃ m, n = m + 1 := ⟨n - 1, by omega⟩
      have y := x.keep (em h k0)
      rw [w_X11_finds_17, y.rep.reps, if_pos (by omega)]
      exact hX h k0 (fun k u1 u2 => k1 k u1 (by omega))
    | succ q ih =>
      intro n i h hn hk i0 k0 k1
      obtain ⟨n, rfl⟩ : ∃ m, n = m + 1 := ⟨n - 1, by omega⟩
      have y := x.keep (em h k0)
      have nx : ∀ (s0 : Int) (h' : Hh), (∀ a, a ≠ 70 → ¬ scG a → h' a = h0 a) → h' 70 = h 70 → ((s0 = 1 ↔ S.isB c bd i) ∧ (s0 = 0 ↔ S.isG c bd i)) → w_X11_finds_50 K (w_X11_finds_17 K X 33 n) X 33 c bd i s0 i 70 60 h' := by
        intro s0 h' q0 q1 q2
        unfold w_X11_finds_50
        rw [and_t (by omega), and_t (by omega), hb_p, vb_p, w32_id (by omega) (by omega)]
        refine ih n (i + 1) _ (by omega) (by omega) (by omega) (fun a a1 a2 => by rw [up_ne a1]; exact q0 a a1 a2) (fun k u1 u2 => ?_)
        rw [up_at]
        by_cases e : k = i
        · rw [if_pos e, e]; exact q2
        · rw [if_neg e, q1]; exact k1 k u1 (by omega)
      rw [w_X11_finds_17, y.rep.reps, if_neg (by omega), and_t (by omega)]
      simp only [Int.reduceAdd]
      rw [y.rep.rC i i0 (by omega)]
      by_cases q1 : S.rC i = c
      · rw [if_neg (fun w => w q1)]
        refine r_standsG y i0 (by omega) (fun h2 e2 => ?_)
        refine nx _ h2 (fun a a1 a2 => by rw [e2 a a2]; exact k0 a a1 a2) (e2 70 (by unfold scG; omega)) ⟨⟨fun w => ⟨q1, w⟩, fun w => w.2⟩, ⟨fun w => ⟨q1, w⟩, fun w => w.2⟩⟩
      · rw [if_pos q1]
        exact nx _ h k0 rfl ⟨⟨fun w => absurd w (by decide), fun w => (q1 w.1).elim⟩, ⟨fun w => absurd w (by decide), fun w => (q1 w.1).elim⟩⟩
  exact loop S.reps.toNat NF 0 h0 (by rw [NF_eq]; omega) (by omega) (by omega) (fun _ _ _ => rfl) (fun k u1 u2 => by omega)
/-- is a mark in a bad one, in a good one -/
theorem r_inBG {h : Hh} {S : St} (x : Mx h S) {c bd t m v3 v4 : Int} (hw : Hw h S c bd) (ht : 0 ≤ t ∧ t ≤ 9) (hm : 0 ≤ m ∧ m < 40) {K : Int → Hh → Prop} {X : Int → Int → Int → Int → Int → Int → Hh → Prop} (hX : ∀ b g, (b ≠ 0 ↔ S.inB c bd S.reps (40 * t + m)) → (g ≠ 0 ↔ S.inG c bd S.reps (40 * t + m)) → X c v3 v4 (100 * t + m) b g h) : w_X11_finds_115 K X 33 NF c v3 v4 (100 * t + m) 0 0 0 h := by
  have rb := x.wf.reps
  have loop : ∀ (q n i : Nat) (z b g : Int), z = i → q < n → S.reps - i = q → (b ≠ 0 ↔ S.inB c bd i (40 * t + m)) → (g ≠ 0 ↔ S.inG c bd i (40 * t + m)) → w_X11_finds_115 K X 33 n c v3 v4 (100 * t + m) b g z h := by
    intro q
    induction q with
    | zero =>
      intro n i z b g hz hn hk hb hg
      obtain ⟨n, rfl⟩ : ∃ m, n = m + 1 := ⟨n - 1, by omega⟩
      rw [w_X11_finds_115, x.rep.reps, if_pos (by omega)]
      rw [show (i : Int) = S.reps by omega] at hb hg
      exact hX b g hb hg
    | succ q ih =>
      intro n i z b g hz hn hk hb hg
      obtain ⟨n, rfl⟩ : ∃ m, n = m + 1 := ⟨n - 1, by omega⟩
      have gi : S.inG c bd ((i + 1 : Nat) : Int) (40 * t + m) ↔ S.inG c bd i (40 * t + m) ∨ (S.isG c bd i ∧ S.hid c i (40 * t + m)) := ex_succ
      have bi : S.inB c bd ((i + 1 : Nat) : Int) (40 * t + m) ↔ S.inB c bd i (40 * t + m) ∨ (S.isB c bd i ∧ S.hid c i (40 * t + m)) := ex_succ
      have hwi := hw z (by omega) (by omega)
      have nx : ∀ b' g', (b' ≠ 0 ↔ S.inB c bd ((i + 1 : Nat) : Int) (40 * t + m)) → (g' ≠ 0 ↔ S.inG c bd ((i + 1 : Nat) : Int) (40 * t + m)) → w_X11_finds_189 K (w_X11_finds_115 K X 33 n) X 33 c v3 v4 (100 * t + m) b' z g' h := by
        intro b' g' q1 q2
        unfold w_X11_finds_189
        rw [vb_p, w32_id (by omega) (by omega)]
        exact ih n (i + 1) (z + 1) b' g' (by omega) (by omega) (by omega) q1 q2
      have snd : ∀ b', (b' ≠ 0 ↔ S.inB c bd ((i + 1 : Nat) : Int) (40 * t + m)) → w_X11_finds_156 K (w_X11_finds_115 K X 33 n) X 33 c v3 v4 (100 * t + m) g z b' h := by
        intro b' q1
        unfold w_X11_finds_156 w_X11_finds_184 w_X11_finds_188
        simp only [Int.reduceAdd]
        by_cases g0 : g ≠ 0
        · rw [if_pos g0]
          exact nx b' 1 q1 ⟨fun _ => gi.mpr (Or.inl (hg.mp g0)), fun _ => by decide⟩
        · rw [if_neg g0, and_t (by omega)]
          have ng : ¬ S.inG c bd i (40 * t + m) := fun w => g0 (hg.mpr w)
          by_cases q2 : h 70 z = 0
          · rw [if_neg (fun w => w q2)]
            have isg := hwi.2.mp q2
            refine r_has x (c := c) (by omega) (by omega) isg.1 ht hm (fun w => ?_) (fun w => ?_)
            · rw [if_neg (by decide)]
              rw [hz] at isg w
              exact nx b' 1 q1 ⟨fun _ => gi.mpr (Or.inr ⟨isg, w⟩), fun _ => by decide⟩
            · rw [if_pos rfl]
              rw [hz] at w
              exact nx b' 0 q1 ⟨fun u => (u rfl).elim, fun u => ((gi.mp u).elim (fun v => (ng v).elim) (fun v => (w v.2).elim))⟩
          · rw [if_pos q2]
            refine nx b' 0 q1 ⟨fun u => (u rfl).elim, fun u => ((gi.mp u).elim (fun v => (ng v).elim) (fun v => ?_))⟩
            rw [← hz] at v
            exact (q2 (hwi.2.mpr v.1)).elim
      rw [w_X11_finds_115, x.rep.reps, if_neg (by omega)]
      unfold w_X11_finds_151 w_X11_finds_155
      simp only [Int.reduceAdd]
      by_cases b0 : b ≠ 0
      · rw [if_pos b0]
        exact snd 1 ⟨fun _ => bi.mpr (Or.inl (hb.mp b0)), fun _ => by decide⟩
      · rw [if_neg b0, and_t (by omega)]
        have nb : ¬ S.inB c bd i (40 * t + m) := fun w => b0 (hb.mpr w)
        by_cases q2 : h 70 z = 1
        · rw [if_neg (fun w => w q2)]
          have isb := hwi.1.mp q2
          refine r_has x (c := c) (by omega) (by omega) isb.1 ht hm (fun w => ?_) (fun w => ?_)
          · rw [if_neg (by decide)]
            rw [hz] at isb w
            exact snd 1 ⟨fun _ => bi.mpr (Or.inr ⟨isb, w⟩), fun _ => by decide⟩
          · rw [if_pos rfl]
            rw [hz] at w
            exact snd 0 ⟨fun u => (u rfl).elim, fun u => ((bi.mp u).elim (fun v => (nb v).elim) (fun v => (w v.2).elim))⟩
        · rw [if_pos q2]
          refine snd 0 ⟨fun u => (u rfl).elim, fun u => ((bi.mp u).elim (fun v => (nb v).elim) (fun v => ?_))⟩
          rw [← hz] at v
          exact (q2 (hwi.1.mpr v.1)).elim
  exact loop S.reps.toNat NF 0 0 0 0 rfl (by rw [NF_eq]; omega) (by omega) ⟨fun u => (u rfl).elim, fun ⟨q, u, _⟩ => by omega⟩ ⟨fun u => (u rfl).elim, fun ⟨q, u, _⟩ => by omega⟩
theorem sus_in {S : St} (w : WF S) {c bd id : Int} (h : S.sus c bd id) : 1 ≤ id / 40 ∧ id / 40 < S.terms (S.crule c) ∧ id % 40 < S.many (S.crule c) (id / 40) := by
  obtain ⟨i, ⟨i0, i1⟩, ⟨iB, _⟩, p, p0, p1, p2⟩ := h.1
  have r := w.rep i i0 i1
  rw [iB] at r
  obtain ⟨od, dd, ib⟩ := iO_bd w r.chart r p0 p1
  have ei : S.iO c i p = S.ord c p * 40 + dg (S.rM i) (S.terms (S.crule c) - 2 - p) := rfl
  have e1 : id / 40 = S.ord c p := by omega
  have e2 : id % 40 = dg (S.rM i) (S.terms (S.crule c) - 2 - p) := by omega
  rw [e1, e2]
  omega
def cod (id : Int) : Int := id / 40 * 100 + id % 40
/-- the candidates below k are noted -/
def Dbt (h : Hh) (S : St) (c bd : Int) (k : Nat) : Prop := (h 33 56 = (S.cf c bd k).1) ∧ ((S.cf c bd k).1 ≤ 12) ∧ (∀ j, 0 ≤ j → j < (S.cf c bd k).1 → h 71 j = cod ((S.cf c bd k).2 j))
theorem Dbt.num {h : Hh} {S : St} {c bd : Int} {k : Nat} (x__ : Dbt h S c bd k) : h 33 56 = (S.cf c bd k).1 := x__.1
theorem Dbt.le {h : Hh} {S : St} {c bd : Int} {k : Nat} (x__ : Dbt h S c bd k) : (S.cf c bd k).1 ≤ 12 := x__.2.1
theorem Dbt.d {h : Hh} {S : St} {c bd : Int} {k : Nat} (x__ : Dbt h S c bd k) : ∀ j, 0 ≤ j → j < (S.cf c bd k).1 → h 71 j = cod ((S.cf c bd k).2 j) := x__.2.2
theorem Dbt.mk' {h : Hh} {S : St} {c bd : Int} {k : Nat} (num__ : h 33 56 = (S.cf c bd k).1) (le__ : (S.cf c bd k).1 ≤ 12) (d__ : ∀ j, 0 ≤ j → j < (S.cf c bd k).1 → h 71 j = cod ((S.cf c bd k).2 j)) : Dbt h S c bd k := ⟨num__, le__, d__⟩
theorem r_cand {h0 : Hh} {S : St} (x : Mx h0 S) {c bd : Int} (hc : 0 ≤ c ∧ c < S.charts) (hw : Hw h0 S c bd) (h56 : h0 33 56 = 0) {K : Int → Hh → Prop} {X : Hh → Prop} (hn : 12 < S.cN c bd → ∀ h, eqM h0 h → K 0 h) (hX : ∀ h, (∀ a, a ≠ 33 → a ≠ 71 → h a = h0 a) → (∀ k, k ≠ 56 → h 33 k = h0 33 k) → Dbt h S c bd 200 → X h) : w_X11_finds_59 K X 33 NF c 1 h0 := by
  have cb := x.wf.charts
  have ru := x.wf.rules
  have ok := x.wf.chart c hc.1 hc.2
  have rr := ok.rule
  have rok := x.wf.rule _ ok.rule.1 ok.rule.2
  have tt := rok.terms
  have em : ∀ h : Hh, (∀ a, a ≠ 33 → a ≠ 71 → h a = h0 a) → (∀ k, k ≠ 56 → h 33 k = h0 33 k) → eqM h0 h := fun h k0 k1 a k q => by
    by_cases e : a = 33
    · rw [e]; exact k1 k (fun w => q (by unfold scM; omega))
    · rw [k0 a e (fun w => q (by unfold scM; omega))]
  have row : ∀ (Y : Int → Int → Hh → Prop) (t : Nat), 1 ≤ t → (t : Int) < S.terms (S.crule c) → (∀ h, (∀ a, a ≠ 33 → a ≠ 71 → h a = h0 a) → (∀ k, k ≠ 56 → h 33 k = h0 33 k) → Dbt h S c bd (40 * t + 40) → Y c t h) → ∀ (q n m : Nat) (z : Int) (h : Hh), z = m → q < n → S.many (S.crule c) t - m = q → (∀ a, a ≠ 33 → a ≠ 71 → h a = h0 a) → (∀ k, k ≠ 56 → h 33 k = h0 33 k) → Dbt h S c bd (40 * t + m) → w_X11_finds_77 K Y 33 n c t z h := by
    intro Y t t1 t2 hY q
    have ml := many_le rok (t := (t : Int)) (by omega) (by omega)
    induction q with
    | zero =>
      intro n m z h hz hn1 hk k0 k1 d
      obtain ⟨n, rfl⟩ : ∃ m, n = m + 1 := ⟨n - 1, by omega⟩
      have y := x.keep (em h k0 k1)
      rw [w_X11_finds_77]
      simp only [Int.reduceAdd]
      rw [and_t (by omega), y.rep.crule c hc.1 hc.2, w32_id (z := 5 * S.crule c) (by omega) (by omega), w32_id (z := 5 * S.crule c + (t : Int)) (by omega) (by omega), and_t (by omega), y.rep.many _ _ rr.1 (by omega) (by omega) (by omega), if_pos (by omega)]
      refine hY h k0 k1 ?_
      have e : S.cf c bd (40 * t + 40) = S.cf c bd (40 * t + m) := by
        have := cf_same (S := S) (c := c) (bd := bd) (k := 40 * t + m) (40 - m) (fun j j1 j2 js => by
          have := sus_in x.wf js
          rw [show (j : Int) / 40 = (t : Int) by omega] at this
          omega)
        rw [show 40 * t + m + (40 - m) = 40 * t + 40 by omega] at this
        exact this
      exact ⟨by rw [e]; exact d.num, by rw [e]; exact d.le, by rw [e]; exact d.d⟩
    | succ q ih =>
      intro n m z h hz hn1 hk k0 k1 d
      obtain ⟨n, rfl⟩ : ∃ m, n = m + 1 := ⟨n - 1, by omega⟩
      have y := x.keep (em h k0 k1)
      have hwh : Hw h S c bd := fun k u1 u2 => by rw [k0 70 (by decide) (by decide)]; exact hw k u1 u2
      have co := (cf_ok (S := S) (c := c) (bd := bd) (40 * t + m)).1
      have dle := d.le
      have nx : ∀ h', (∀ a, a ≠ 33 → a ≠ 71 → h' a = h0 a) → (∀ k, k ≠ 56 → h' 33 k = h0 33 k) → Dbt h' S c bd (40 * t + m + 1) → w_X11_finds_242 K (w_X11_finds_77 K Y 33 n) Y 33 c t z h' := by
        intro h' q0 q1 q2
        unfold w_X11_finds_242
        rw [vb_p, w32_id (by omega) (by omega)]
        exact ih n (m + 1) (z + 1) h' (by omega) (by omega) (by omega) q0 q1 q2
      rw [w_X11_finds_77]
      simp only [Int.reduceAdd]
      rw [and_t (by omega), y.rep.crule c hc.1 hc.2, w32_id (z := 5 * S.crule c) (by omega) (by omega), w32_id (z := 5 * S.crule c + (t : Int)) (by omega) (by omega), and_t (by omega), y.rep.many _ _ rr.1 (by omega) (by omega) (by omega), if_neg (by omega), vb_p, w32_id (z := 100 * (t : Int)) (by omega) (by omega), w32_id (z := 100 * (t : Int) + z) (by omega) (by omega)]
      refine r_inBG y hwh (by omega) (by omega) (fun b g hb hg => ?_)
      have eid : 40 * (t : Int) + z = ((40 * t + m : Nat) : Int) := by omega
      rw [eid] at hb hg
      by_cases b0 : b = 0
      · rw [if_pos b0]
        have ns : ¬ S.sus c bd ((40 * t + m : Nat) : Int) := fun w => hb.mpr w.1 b0
        exact nx h k0 k1 ⟨by rw [cf_s0 ns]; exact d.num, by rw [cf_s0 ns]; exact d.le, by rw [cf_s0 ns]; exact d.d⟩
      · rw [if_neg b0]
        by_cases g0 : g = 0
        · rw [if_pos g0]
          have ys : S.sus c bd ((40 * t + m : Nat) : Int) := ⟨hb.mp b0, fun w => hg.mpr w g0⟩
          rw [d.num]
          by_cases q12 : (S.cf c bd (40 * t + m)).1 = 12
          · rw [if_neg (fun w => w q12)]
            refine hn ?_ h (em h k0 k1)
            have := cN_ge (S := S) (c := c) (bd := bd) (i := 40 * t + m + 1) (by omega)
            rw [cf_s1 ys] at this
            have t3 : (S.cf c bd (40 * t + m)).1 + 1 ≤ S.cN c bd := this
            omega
          · rw [if_pos q12, and_t (by omega), hb_p, hb_p, up_ne (show (33 : Int) ≠ 71 by decide), d.num, w32_id (by omega) (by omega)]
            refine nx _ (fun a a1 a2 => by rw [up_ne a1, up_ne a2]; exact k0 a a1 a2) (fun k hk => by rw [up_at, if_neg hk, up_ne (by decide)]; exact k1 k hk) ⟨?_, ?_, ?_⟩
            · rw [up_at, if_pos rfl, cf_s1 ys]
            · rw [cf_s1 ys]; show (S.cf c bd (40 * t + m)).1 + 1 ≤ 12; omega
            · rw [cf_s1 ys]
              intro j j0 j1
              have j1' : j < (S.cf c bd (40 * t + m)).1 + 1 := j1
              show _ = cod (fup (S.cf c bd (40 * t + m)).2 (S.cf c bd (40 * t + m)).1 ((40 * t + m : Nat) : Int) j)
              rw [up_ne (by decide), up_at]
              by_cases e : j = (S.cf c bd (40 * t + m)).1
              · rw [if_pos e, e, fup_at]
                unfold cod
                omega
              · rw [if_neg e, fup_ne e]; exact d.d j j0 (by omega)
        · rw [if_neg g0]
          have ns : ¬ S.sus c bd ((40 * t + m : Nat) : Int) := fun w => w.2 (hg.mp g0)
          exact nx h k0 k1 ⟨by rw [cf_s0 ns]; exact d.num, by rw [cf_s0 ns]; exact d.le, by rw [cf_s0 ns]; exact d.d⟩
  have outer : ∀ (q n t : Nat) (z : Int) (h : Hh), z = t → q < n → S.terms (S.crule c) - t = q → 1 ≤ t → (∀ a, a ≠ 33 → a ≠ 71 → h a = h0 a) → (∀ k, k ≠ 56 → h 33 k = h0 33 k) → Dbt h S c bd (40 * t) → w_X11_finds_59 K X 33 n c z h := by
    intro q
    induction q with
    | zero =>
      intro n t z h hz hn1 hk t1 k0 k1 d
      obtain ⟨n, rfl⟩ : ∃ m, n = m + 1 := ⟨n - 1, by omega⟩
      have y := x.keep (em h k0 k1)
      rw [w_X11_finds_59]
      simp only [Int.reduceAdd, y.rep.crule c hc.1 hc.2, y.rep.terms _ rr.1 rr.2]
      rw [and_t (by omega), and_t (by omega), if_pos (by omega)]
      refine hX h k0 k1 ?_
      have e : S.cf c bd 200 = S.cf c bd (40 * t) := by
        have := cf_same (S := S) (c := c) (bd := bd) (k := 40 * t) (200 - 40 * t) (fun j j1 j2 js => by
          have := sus_in x.wf js
          omega)
        rw [show 40 * t + (200 - 40 * t) = 200 by omega] at this
        exact this
      exact ⟨by rw [e]; exact d.num, by rw [e]; exact d.le, by rw [e]; exact d.d⟩
    | succ q ih =>
      intro n t z h hz hn1 hk t1 k0 k1 d
      obtain ⟨n, rfl⟩ : ∃ m, n = m + 1 := ⟨n - 1, by omega⟩
      have y := x.keep (em h k0 k1)
      rw [w_X11_finds_59]
      simp only [Int.reduceAdd, y.rep.crule c hc.1 hc.2, y.rep.terms _ rr.1 rr.2]
      rw [and_t (by omega), and_t (by omega), if_neg (by omega), hz]
      have ml := many_le rok (t := (t : Int)) (by omega) (by omega)
      refine row _ t t1 (by omega) (fun h2 q0 q1 q2 => ?_) (S.many (S.crule c) t).toNat NF 0 0 h rfl (by rw [NF_eq]; omega) (by omega) k0 k1 d
      rw [vb_p, w32_id (by omega) (by omega)]
      exact ih n (t + 1) ((t : Int) + 1) h2 (by omega) (by omega) (by omega) (by omega) q0 q1 (by rw [show 40 * (t + 1) = 40 * t + 40 by omega]; exact q2)
  have e40 : S.cf c bd (40 * 1) = S.cf c bd 0 := by
    have := cf_same (S := S) (c := c) (bd := bd) (k := 0) 40 (fun j j1 j2 js => by
      have := sus_in x.wf js
      omega)
    exact this
  refine outer (S.terms (S.crule c) - 1).toNat NF 1 1 h0 rfl (by rw [NF_eq]; omega) (by omega) (by omega) (fun _ _ _ => rfl) (fun _ _ => rfl) ⟨by rw [e40]; exact h56, by rw [e40]; show (0 : Int) ≤ 12; omega, by rw [e40]; intro j j0 j1; have j1' : j < 0 := j1; omega⟩
