/-! PURE 55: texts: the reference's forms -/
def PM (h : Hh) (σ : PS) : Prop := (h 33 6 = σ.tm) ∧ (h 33 10 = σ.cn) ∧ (∀ k, 0 ≤ k → k < σ.tm → h 35 k = σ.lt k) ∧ (∀ k, 0 ≤ k → k < σ.tm → h 36 k = σ.kd k) ∧ (∀ k, 0 ≤ k → k < σ.tm → h 37 k = σ.sn k)
theorem PM.tm {h : Hh} {σ : PS} (x__ : PM h σ) : h 33 6 = σ.tm := x__.1
theorem PM.cn {h : Hh} {σ : PS} (x__ : PM h σ) : h 33 10 = σ.cn := x__.2.1
theorem PM.lt {h : Hh} {σ : PS} (x__ : PM h σ) : ∀ k, 0 ≤ k → k < σ.tm → h 35 k = σ.lt k := x__.2.2.1
theorem PM.kd {h : Hh} {σ : PS} (x__ : PM h σ) : ∀ k, 0 ≤ k → k < σ.tm → h 36 k = σ.kd k := x__.2.2.2.1
theorem PM.sn {h : Hh} {σ : PS} (x__ : PM h σ) : ∀ k, 0 ≤ k → k < σ.tm → h 37 k = σ.sn k := x__.2.2.2.2
theorem PM.mk' {h : Hh} {σ : PS} (tm__ : h 33 6 = σ.tm) (cn__ : h 33 10 = σ.cn) (lt__ : ∀ k, 0 ≤ k → k < σ.tm → h 35 k = σ.lt k) (kd__ : ∀ k, 0 ≤ k → k < σ.tm → h 36 k = σ.kd k) (sn__ : ∀ k, 0 ≤ k → k < σ.tm → h 37 k = σ.sn k) : PM h σ := ⟨tm__, cn__, lt__, kd__, sn__⟩
theorem PM.keep {h h' : Hh} {σ : PS} (a : PM h σ) (e : eqN h h') : PM h' σ := ⟨by rw [e.f 6 (by decide) (by decide) (by decide) (by decide)]; exact a.tm, by rw [e.f 10 (by decide) (by decide) (by decide) (by decide)]; exact a.cn, by rw [e.o 35 (by decide)]; exact a.lt, by rw [e.o 36 (by decide)]; exact a.kd, by rw [e.o 37 (by decide)]; exact a.sn⟩
theorem PM.go {h : Hh} {σ : PS} (a : PM h σ) (s t : Int) : PM h (σ.go s t) := ⟨a.tm, a.cn, a.lt, a.kd, a.sn⟩
theorem TK.keep {h h' : Hh} {S : St} {p : Int} (a : TK h S p) (e : ∀ k, k = 2 ∨ k = 3 ∨ k = 4 ∨ k = 5 → h' 33 k = h 33 k) : TK h' S p := ⟨a.rng, a.nsp, by rw [e 4 (by omega)]; exact a.pl, by rw [e 3 (by omega)]; exact a.ty, by rw [e 5 (by omega)]; exact a.val, by rw [e 2 (by omega)]; exact a.en⟩
theorem tT1 {S : St} {p : Int} (h : S.tT p = 1) : 97 ≤ S.tV p ∧ S.tV p ≤ 122 := by
  unfold St.tT at h
  unfold St.tV
  by_cases e : p = S.size
  · rw [if_pos e] at h; omega
  · rw [if_neg e] at h ⊢
    by_cases d : 48 ≤ S.txt p ∧ S.txt p ≤ 57
    · rw [if_pos d] at h; omega
    · rw [if_neg d] at h ⊢
      split at h
      · omega
      · split at h <;> omega
theorem tT3 {S : St} {p : Int} (h : S.tT p = 3) : S.tV p = 61 ∨ S.tV p = 43 ∨ S.tV p = 45 ∨ S.tV p = 42 ∨ S.tV p = 47 ∨ S.tV p = 59 := by
  unfold St.tT at h
  unfold St.tV
  by_cases e : p = S.size
  · rw [if_pos e] at h; omega
  · rw [if_neg e] at h ⊢
    by_cases d : 48 ≤ S.txt p ∧ S.txt p ≤ 57
    · rw [if_pos d] at h; omega
    · rw [if_neg d] at h ⊢
      split at h
      · omega
      · split at h
        · assumption
        · omega
theorem e_isSign (c : Int) (h : Hh) (K : Int → Hh → Prop) : w_X11_isSign 33 c h K = K (if h 33 3 = 3 ∧ h 33 5 = c then 1 else 0) h := by
  unfold w_X11_isSign w_X11_isSign_20 w_X11_isSign_21
  by_cases a : h 33 3 = 3
  · rw [if_neg (fun w => w a)]
    by_cases b : h 33 5 = c
    · rw [if_neg (fun w => w b), if_pos ⟨a, b⟩, and_t (Or.inr rfl)]
    · rw [if_pos b, if_neg (fun w => b w.2), and_t (Or.inl rfl)]
  · rw [if_pos a, if_neg (fun w => a w.1), and_t (Or.inl rfl)]
theorem t_isSign {h : Hh} {S : St} {p : Int} (tk : TK h S p) (c : Int) (K : Int → Hh → Prop) : w_X11_isSign 33 c h K = K (if S.tT p = 3 ∧ S.tV p = c then 1 else 0) h := by
  rw [e_isSign, tk.ty, tk.val]
theorem r_isNew {h : Hh} {S : St} {p : Int} {σ : PS} (tk : TK h S p) (pm : PM h σ) (pi : PI σ) {K : Int → Hh → Prop} (hy : S.tT p = 1 → ¬ isIn σ.lt σ.tm (S.tV p) → K 1 h) (hn : ¬ (S.tT p = 1 ∧ ¬ isIn σ.lt σ.tm (S.tV p)) → K 0 h) : w_X11_isNew 33 h K := by
  have tm := pi.tm
  unfold w_X11_isNew
  rw [tk.ty]
  by_cases a : S.tT p = 1
  · rw [if_pos a]
    have loop : ∀ (k n : Nat) (z : Int), k < n → σ.tm - z = k → 0 ≤ z → (∀ i, 0 ≤ i → i < z → σ.lt i ≠ S.tV p) → w_X11_isNew_12 K 33 n z h := by
      intro k
      induction k with
      | zero =>
        intro n z hn1 hk z0 k1
        obtain ⟨n, rfl⟩ : ∃ m, n = m + 1 := ⟨n - 1, by omega⟩
        rw [w_X11_isNew_12, pm.tm, if_pos (by omega)]
        exact hy a (fun ⟨i, i0, i1, i2⟩ => k1 i i0 (by omega) i2)
      | succ k ih =>
        intro n z hn1 hk z0 k1
        obtain ⟨n, rfl⟩ : ∃ m, n = m + 1 := ⟨n - 1, by omega⟩
        rw [w_X11_isNew_12, pm.tm, if_neg (by omega), and_t (by omega)]
        simp only [Int.reduceAdd, pm.lt z (show 0 ≤ z by omega) (show z < σ.tm by omega), tk.val]
        by_cases b : σ.lt z = S.tV p
        · rw [if_neg (fun w => w b)]
          exact hn (fun w => w.2 ⟨z, z0, by omega, b⟩)
        · rw [if_pos b, vb_p, w32_id (by omega) (by omega)]
          refine ih n (z + 1) (by omega) (by omega) (by omega) (fun i i0 i1 => ?_)
          by_cases e : i = z
          · rw [e]; exact b
          · exact k1 i i0 (by omega)
    exact loop σ.tm.toNat NF 0 (by rw [NF_eq]; omega) (by omega) (by omega) (fun i i0 i1 => by omega)
  · rw [if_neg a]
    exact hn (fun w => a w.1)
/-- a form is noted -/
theorem r_form94 {h : Hh} {S : St} {p : Int} {τ : PS} (tk : TK h S p) (pm : PM h τ) (pi : PI τ) (htm : τ.tm < 5) {sgn tr w sq kv : Int} (hk : kv = if tr = 0 then (if sq = 0 then 0 else 1) else 2) {K : Int → Hh → Prop} (hK : ∀ h', eqM h h' → TK h' S p → (∀ σ : PS, σ.tm = τ.tm + 1 → σ.cn = τ.cn → (∀ k, 0 ≤ k → k < τ.tm + 1 → σ.lt k = fup τ.lt τ.tm w k ∧ σ.kd k = fup τ.kd τ.tm kv k ∧ σ.sn k = fup τ.sn τ.tm sgn k) → PM h' σ) → K 1 h') : w_X11_form_94 K 33 sgn tr w sq h := by
  have tm := pi.tm
  unfold w_X11_form_94
  rw [pm.tm, and_t (by omega), hb_p]
  simp only [Int.reduceAdd]
  have r1 : up h 35 τ.tm w 33 6 = τ.tm := by rw [up_ne (by decide)]; exact pm.tm
  rw [r1]
  have go : ∀ s0, s0 = kv → w_X11_form_130 K 33 sgn s0 τ.tm 36 5 (up h 35 τ.tm w) := by
    intro s0 hs
    unfold w_X11_form_130
    rw [and_t (by omega), and_t (by omega), hb_p]
    have r2 : up (up h 35 τ.tm w) 36 τ.tm s0 33 6 = τ.tm := by rw [up_ne (by decide)]; exact r1
    rw [r2, and_t (by omega), hb_p]
    simp only [Int.reduceAdd]
    have r3 : up (up (up h 35 τ.tm w) 36 τ.tm s0) 37 τ.tm sgn 33 6 = τ.tm := by rw [up_ne (by decide)]; exact r2
    rw [r3, hb_p, w32_id (by omega) (by omega)]
    refine hK _ ((((eqM.rfl'.up (by unfold scM; omega)).up (by unfold scM; omega)).up (by unfold scM; omega)).up (by unfold scM; omega)) (tk.keep (fun k hk => by rw [up_at, if_neg (by omega), up_ne (by decide), up_ne (by decide), up_ne (by decide)])) ?_
    intro σ s1 s2 s3
    refine ⟨?_, ?_, ?_, ?_, ?_⟩
    · rw [up_at, if_pos rfl]; exact s1.symm
    · rw [up_at, if_neg (by decide), up_ne (by decide), up_ne (by decide), up_ne (by decide), s2]; exact pm.cn
    · intro k k0 k1
      rw [s1] at k1
      rw [up_ne (by decide), up_ne (by decide), up_ne (by decide), up_at, (s3 k k0 k1).1]
      by_cases e : k = τ.tm
      · rw [if_pos e, e, fup_at]
      · rw [if_neg e, fup_ne e]; exact pm.lt k k0 (by omega)
    · intro k k0 k1
      rw [s1] at k1
      rw [up_ne (by decide), up_ne (by decide), up_at, up_ne (by decide), (s3 k k0 k1).2.1]
      by_cases e : k = τ.tm
      · rw [if_pos e, e, fup_at]; exact hs
      · rw [if_neg e, fup_ne e]; exact pm.kd k k0 (by omega)
    · intro k k0 k1
      rw [s1] at k1
      rw [up_ne (by decide), up_at, up_ne (by decide), up_ne (by decide), (s3 k k0 k1).2.2]
      by_cases e : k = τ.tm
      · rw [if_pos e, e, fup_at]
      · rw [if_neg e, fup_ne e]; exact pm.sn k k0 (by omega)
  by_cases a : tr = 0
  · rw [if_pos a] at hk ⊢
    by_cases b : sq = 0
    · rw [if_pos b] at hk ⊢
      exact go 0 hk.symm
    · rw [if_neg b] at hk ⊢
      exact go 1 hk.symm
  · rw [if_neg a] at hk ⊢
    exact go 2 hk.symm
/-- behind a form or a number -/
def BP (S : St) (p : Int) (σ : PS) : Prop := σ.st = 7 ∨ (σ.st = 5 ∧ ¬ (S.tT p = 3 ∧ S.tV p = 42))
theorem BP.tks {S : St} {p : Int} {σ : PS} (b : BP S p σ) (h : S.tT p = 1 ∨ S.tT p = 3) : σ.tks (S.tV p) = σ.flw (S.tV p) := by
  unfold PS.tks
  rcases b with b | ⟨b, c⟩
  · rw [if_neg (by omega), if_neg (by omega), if_neg (by omega), if_neg (by omega), if_neg (by omega), if_neg (by omega), if_neg (by omega), if_pos b]
  · have ne : S.tV p ≠ 42 := by
      rcases h with h | h
      · have := tT1 h; omega
      · exact fun w => c ⟨h, w⟩
    rw [if_neg (by omega), if_neg (by omega), if_neg (by omega), if_neg (by omega), if_neg (by omega), if_pos b, if_pos ne]
theorem r_form25 {h : Hh} {S : St} (x : Mx h S) {p sgn tr kd nst : Int} {τ : PS} (tk : TK h S p) (pm : PM h τ) (pi : PI τ) (htr : (tr = 0 ∧ kd = 0 ∧ nst = 5) ∨ (tr = 1 ∧ kd = 2 ∧ nst = 7)) (ht : S.tT p = 1 ∨ S.tT p = 3 → τ.tks (S.tV p) = τ.ltr (S.tV p) kd nst) (h8 : τ.st ≠ 8) (h2 : S.tT p = 2 → τ.st ≠ 3) (htm : τ.tm < 5) (hsg : τ.sg = sgn) {K : Int → Hh → Prop} (hn : ∀ h' r, eqM h h' → h' 33 4 = r → S.P p τ = Sum.inl r → K 0 h') (hy : ∀ h' p' σ', eqM h h' → TK h' S p' → PM h' σ' → PI σ' → S.P p τ = S.P p' σ' → σ'.tm = τ.tm + 1 → BP S p' σ' → p < p' → σ'.cn = τ.cn → K 1 h') : w_X11_form_25 K 33 sgn tr h := by
  have tm := pi.tm
  have rg := tk.rng
  unfold w_X11_form_25
  refine r_isNew tk pm pi (fun a b => ?_) (fun a => ?_)
  · rw [if_pos (by decide), vb_p, tk.val]
    have lw := tT1 a
    have pc := P_char rg.2 (Or.inl a) τ
    obtain ⟨⟨pv, pe, pn⟩, pp⟩ := pc
    have yes := ltr_yes (σ := τ) (c := S.tV p) (kind := kd) (nst := nst) lw htm b
    have sne : (τ.ltr (S.tV p) kd nst).st ≠ -1 := by
      rw [yes]; show nst ≠ -1; omega
    rw [ht (Or.inl a), if_neg sne, pe] at pp
    have piW := (pi.ltr (c := S.tV p) (kind := kd) (nst := nst) (by omega) (by omega) sne).1
    refine r_next x (by rw [tk.en, pe]) (by omega) (by omega) (fun h1 p1 e1 tk1 eP1 g1 => ?_)
    rw [eP1] at pp
    have pm1 := pm.keep e1
    have x1 := x.keep e1.m
    -- a form that is neither squared nor followed by a star
    have plain : ∀ kv : Int, kv = (if tr = 0 then (if (0 : Int) = 0 then 0 else 1) else 2) → BP S p1 (τ.ltr (S.tV p) kd nst) → w_X11_form_94 K 33 sgn tr (S.tV p) 0 h1 := by
      intro kv hkv bp
      refine r_form94 tk1 pm1 pi htm (kv := kv) hkv (fun h' e' tk' pm' => ?_)
      refine hy h' p1 _ (e1.m.trans e') tk' (pm' _ ?_ ?_ ?_) piW pp ?_ bp (by omega) ?_
      · rw [yes]; rfl
      · rw [yes]; rfl
      · rw [yes]
        intro k k0 k1
        refine ⟨rfl, ?_, ?_⟩
        · show fup τ.kd τ.tm kd k = _
          rw [hkv, if_pos rfl]
          rcases htr with w | w
          · rw [if_pos w.1, w.2.1]
          · rw [if_neg (by omega), w.2.1]
        · show fup τ.sn τ.tm τ.sg k = _
          rw [hsg]
      · rw [yes]; rfl
      · rw [yes]; rfl
    unfold w_X11_form_60 w_X11_form_61
    rcases htr with w | w
    · rw [if_neg (fun u => u w.1), t_isSign tk1]
      have s5 : (τ.ltr (S.tV p) kd nst).st = 5 := by rw [yes]; exact w.2.2
      by_cases st : S.tT p1 = 3 ∧ S.tV p1 = 42
      · rw [if_pos st, if_neg (by decide), if_neg (by decide)]
        have rg1 := tk1.rng
        obtain ⟨⟨qv, qe, qn⟩, qq⟩ := P_char rg1.2 (Or.inr st.1) (τ.ltr (S.tV p) kd nst)
        have t6 : (τ.ltr (S.tV p) kd nst).tks (S.tV p1) = (τ.ltr (S.tV p) kd nst).go (τ.ltr (S.tV p) kd nst).sg 6 := by
          unfold PS.tks
          rw [if_neg (by omega), if_neg (by omega), if_neg (by omega), if_neg (by omega), if_neg (by omega), if_pos s5, if_neg (fun u => u st.2)]
        rw [t6, if_neg (by show (6 : Int) ≠ -1; decide), qe] at qq
        have wtm : (τ.ltr (S.tV p) kd nst).tm = τ.tm + 1 := by rw [yes]; rfl
        have pi6 : PI ((τ.ltr (S.tV p) kd nst).go (τ.ltr (S.tV p) kd nst).sg 6) := piW.go piW.sg (by omega) (fun _ => by omega) (by omega)
        have lt6 : ((τ.ltr (S.tV p) kd nst).go (τ.ltr (S.tV p) kd nst).sg 6).lt (((τ.ltr (S.tV p) kd nst).go (τ.ltr (S.tV p) kd nst).sg 6).tm - 1) = S.tV p := by
          rw [yes]
          show fup τ.lt τ.tm (S.tV p) (τ.tm + 1 - 1) = S.tV p
          rw [show τ.tm + 1 - 1 = τ.tm by omega, fup_at]
        have tm6 : ((τ.ltr (S.tV p) kd nst).go (τ.ltr (S.tV p) kd nst).sg 6).tm = τ.tm + 1 := wtm
        refine r_next x1 (by rw [tk1.en, qe]) (by omega) (by omega) (fun h3 p3 e3 tk3 eP3 g3 => ?_)
        rw [eP3, ← pp] at qq
        have pm3 := pm1.keep e3
        have x3 := x1.keep e3.m
        have rg3 := tk3.rng
        rw [tk3.ty, tk3.val]
        have tks6 : ∀ c, ((τ.ltr (S.tV p) kd nst).go (τ.ltr (S.tV p) kd nst).sg 6).tks c = ((τ.ltr (S.tV p) kd nst).go (τ.ltr (S.tV p) kd nst).sg 6).sqr c := by
          intro c
          have g6 : ((τ.ltr (S.tV p) kd nst).go (τ.ltr (S.tV p) kd nst).sg 6).st = 6 := rfl
          unfold PS.tks
          rw [if_neg (by omega), if_neg (by omega), if_neg (by omega), if_neg (by omega), if_neg (by omega), if_neg (by omega), if_pos g6]
        have wrong : ¬ (S.tT p3 = 1 ∧ S.tV p3 = S.tV p) → w_X11_form_88 K 33 h3 := by
          intro ne
          refine hn h3 p3 (e1.m.trans e3.m) tk3.pl ?_
          rw [qq]
          refine P_fail x.wf rg3.1 rg3.2 tk3.nsp pi6 (by show (6 : Int) ≠ 8; decide) (fun _ => by show (6 : Int) ≠ 3; decide) (fun t13 => ?_)
          rw [tks6]
          unfold PS.sqr
          rw [lt6, if_pos (Or.inl ?_)]
          · rfl
          · rcases t13 with t | t
            · exact fun u => ne ⟨t, u⟩
            · have := tT3 t; omega
        by_cases q1 : S.tT p3 = 1
        · rw [if_neg (fun u => u q1)]
          by_cases q2 : S.tV p3 = S.tV p
          · rw [if_pos q2]
            obtain ⟨⟨rv1, re, rn⟩, rr⟩ := P_char rg3.2 (Or.inl q1) ((τ.ltr (S.tV p) kd nst).go (τ.ltr (S.tV p) kd nst).sg 6)
            have t7 : ((τ.ltr (S.tV p) kd nst).go (τ.ltr (S.tV p) kd nst).sg 6).sqr (S.tV p3) = (7, τ.sg, τ.tm + 1, τ.cn, fup τ.lt τ.tm (S.tV p), fup (fup τ.kd τ.tm kd) (τ.tm + 1 - 1) 1, fup τ.sn τ.tm τ.sg) := by
              unfold PS.sqr
              rw [lt6, tm6, if_neg (by omega), yes]
              rfl
            have s7 : (((τ.ltr (S.tV p) kd nst).go (τ.ltr (S.tV p) kd nst).sg 6).tks (S.tV p3)).st ≠ -1 := by
              rw [tks6, t7]; show (7 : Int) ≠ -1; decide
            have pi7 := (pi6.tks s7).1
            rw [if_neg s7, re, tks6, t7] at rr
            rw [tks6, t7] at pi7
            refine r_next x3 (by rw [tk3.en, re]) (by omega) (by omega) (fun h4 p4 e4 tk4 eP4 g4 => ?_)
            rw [eP4] at rr
            rw [rr] at qq
            have pm4 := pm3.keep e4
            refine r_form94 tk4 pm4 pi htm (kv := 1) (by rw [if_pos w.1, if_neg (by decide)]) (fun h' e' tk' pm' => ?_)
            refine hy h' p4 (7, τ.sg, τ.tm + 1, τ.cn, fup τ.lt τ.tm (S.tV p), fup (fup τ.kd τ.tm kd) (τ.tm + 1 - 1) 1, fup τ.sn τ.tm τ.sg) (((e1.m.trans e3.m).trans e4.m).trans e') tk' (pm' _ rfl rfl (fun k k0 k1 => ?_)) pi7 qq rfl (Or.inl rfl) (by omega) rfl
            refine ⟨rfl, ?_, ?_⟩
            · show fup (fup τ.kd τ.tm kd) (τ.tm + 1 - 1) 1 k = fup τ.kd τ.tm 1 k
              rw [show τ.tm + 1 - 1 = τ.tm by omega]
              by_cases ek : k = τ.tm
              · rw [ek, fup_at, fup_at]
              · rw [fup_ne ek, fup_ne ek, fup_ne ek]
            · show fup τ.sn τ.tm τ.sg k = _
              rw [hsg]
          · rw [if_neg q2]
            exact wrong (fun u => q2 u.2)
        · rw [if_pos q1]
          exact wrong (fun u => q1 u.1)
      · rw [if_neg st, if_pos rfl, if_pos rfl]
        exact plain _ rfl (Or.inr ⟨s5, st⟩)
    · rw [if_pos (by omega), if_pos rfl]
      refine plain _ rfl (Or.inl ?_)
      rw [yes]; exact w.2.2
  · rw [if_neg (by decide)]
    refine hn h p eqM.rfl' tk.pl (P_fail x.wf rg.1 rg.2 tk.nsp pi h8 h2 (fun t13 => ?_))
    rw [ht t13, ltr_no]
    · rfl
    · intro u
      rcases t13 with t | t
      · exact a ⟨t, u.2.2⟩
      · have := tT3 t; omega
theorem r_form {h : Hh} {S : St} (x : Mx h S) {p sgn : Int} {σ : PS} (tk : TK h S p) (pm : PM h σ) (pi : PI σ) (hb : S.tT p = 1 ∨ S.tT p = 3 → σ.tks (S.tV p) = σ.bgn (S.tV p)) (h8 : σ.st ≠ 8) (h2 : S.tT p = 2 → σ.st ≠ 3) (hsg : σ.sg = sgn) {K : Int → Hh → Prop} (hn : ∀ h' r, eqM h h' → h' 33 4 = r → S.P p σ = Sum.inl r → K 0 h') (hy : ∀ h' p' σ', eqM h h' → TK h' S p' → PM h' σ' → PI σ' → S.P p σ = S.P p' σ' → σ'.tm = σ.tm + 1 → BP S p' σ' → p < p' → σ'.cn = σ.cn → K 1 h') : w_X11_form 33 sgn h K := by
  have tm := pi.tm
  have rg := tk.rng
  unfold w_X11_form
  rw [pm.tm]
  by_cases t5 : σ.tm = 5
  · rw [if_neg (fun u => u t5)]
    refine hn h p eqM.rfl' tk.pl (P_fail x.wf rg.1 rg.2 tk.nsp pi h8 h2 (fun t13 => ?_))
    rw [hb t13]
    unfold PS.bgn
    rw [if_neg (by omega)]
    rfl
  · rw [if_pos t5, t_isSign tk]
    by_cases sl : S.tT p = 3 ∧ S.tV p = 47
    · rw [if_pos sl, if_neg (by decide)]
      obtain ⟨⟨pv, pe, pn⟩, pp⟩ := P_char rg.2 (Or.inr sl.1) σ
      have t4 : σ.tks (S.tV p) = σ.go σ.sg 4 := by
        rw [hb (Or.inr sl.1)]
        unfold PS.bgn
        rw [if_pos (by omega), if_neg (fun u => u sl.2)]
      rw [t4, if_neg (by show (4 : Int) ≠ -1; decide), pe] at pp
      refine r_next x (by rw [tk.en, pe]) (by omega) (by omega) (fun h1 p1 e1 tk1 eP1 g1 => ?_)
      rw [eP1] at pp
      have pi4 : PI (σ.go σ.sg 4) := pi.go pi.sg (by omega) (by omega) (by omega)
      refine r_form25 (x.keep e1.m) tk1 ((pm.keep e1).go σ.sg 4) pi4 (Or.inr ⟨rfl, rfl, rfl⟩) (fun _ => ?_) (by show (4 : Int) ≠ 8; decide) (fun _ => by show (4 : Int) ≠ 3; decide) (by show σ.tm < 5; omega) hsg (fun h' r e' r1 r2 => hn h' r (e1.m.trans e') r1 (by rw [pp]; exact r2)) (fun h' p' σ' e' a1 a2 a3 a4 a5 a6 a7 a8 => hy h' p' σ' (e1.m.trans e') a1 a2 a3 (by rw [pp]; exact a4) a5 a6 (by omega) a8)
      have g4 : (σ.go σ.sg 4).st = 4 := rfl
      unfold PS.tks
      rw [if_neg (by omega), if_neg (by omega), if_neg (by omega), if_neg (by omega), if_pos g4]
    · rw [if_neg sl, if_pos rfl]
      refine r_form25 x tk pm pi (Or.inl ⟨rfl, rfl, rfl⟩) (fun t13 => ?_) h8 h2 (by omega) hsg hn hy
      rw [hb t13]
      unfold PS.bgn
      rw [if_pos (by omega), if_pos]
      rcases t13 with t | t
      · have := tT1 t; omega
      · exact fun u => sl ⟨t, u⟩
