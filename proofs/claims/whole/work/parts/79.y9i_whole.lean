/-! PURE 56: texts: the reference's whole reading; fault -/
theorem num_bd {S : St} {p : Int} (h1 : p ≤ S.size) (h : S.tT p = 2) : (0 ≤ S.tV p ∧ S.tV p ≤ 1000000) ∧ p ≤ S.tE p ∧ S.tE p ≤ S.size := by
  unfold St.tT at h
  unfold St.tV St.tE
  by_cases e : p = S.size
  · rw [if_pos e] at h; omega
  · rw [if_neg e] at h
    rw [if_neg e, if_neg e]
    by_cases d : 48 ≤ S.txt p ∧ S.txt p ≤ 57
    · rw [if_pos d, if_pos d]
      have a := nr_v (T := S.txt) (S.size - p).toNat p 0 (by omega) (by omega)
      have b := nr_bd (T := S.txt) (S.size - p).toNat p 0
      omega
    · rw [if_neg d] at h
      split at h
      · omega
      · split at h <;> omega
theorem r_part {h : Hh} {S : St} (x : Mx h S) {p : Int} {σ : PS} (tk : TK h S p) (pm : PM h σ) (pi : PI σ) (bp : BP S p σ) (tm2 : 2 ≤ σ.tm) (hs : S.tT p = 3 ∧ (S.tV p = 43 ∨ S.tV p = 45)) (cb : -(10000 * p) ≤ σ.cn ∧ σ.cn ≤ 10000 * p) {K : Int → Hh → Prop} (hn : ∀ h' r, eqM h h' → h' 33 4 = r → S.P p σ = Sum.inl r → K 0 h') (hy : ∀ h' p' σ', eqM h h' → TK h' S p' → PM h' σ' → PI σ' → S.P p σ = S.P p' σ' → 2 ≤ σ'.tm → BP S p' σ' → p < p' → (-(10000 * p') ≤ σ'.cn ∧ σ'.cn ≤ 10000 * p') → K 1 h') : w_X11_part 33 h K := by
  have sz := x.wf.size
  have rg := tk.rng
  have tm := pi.tm
  unfold w_X11_part
  rw [t_isSign tk]
  have main : ∀ s, (s = 1 ∨ s = -1) → σ.tks (S.tV p) = σ.go s 3 → w_X11_part_14 K 33 s h := by
    intro s s1 ts
    obtain ⟨⟨pv, pe, pn⟩, pp⟩ := P_char rg.2 (Or.inr hs.1) σ
    rw [ts, if_neg (by show (3 : Int) ≠ -1; decide), pe] at pp
    have pi3 : PI (σ.go s 3) := pi.go s1 (by omega) (by omega) (by omega)
    unfold w_X11_part_14
    refine r_next x (by rw [tk.en, pe]) (by omega) (by omega) (fun h3 p3 e3 tk3 eP3 g3 => ?_)
    rw [eP3] at pp
    have x3 := x.keep e3.m
    have pm3 := (pm.keep e3).go s 3
    have rg3 := tk3.rng
    rw [tk3.ty]
    by_cases q : S.tT p3 = 2
    · rw [if_pos q, tk3.val]
      have nb := num_bd rg3.2 q
      have pq := P_numb rg3.1 rg3.2 q (σ.go s 3)
      rw [if_pos (by rfl)] at pq
      by_cases v : S.tV p3 ≤ 9999
      · rw [if_pos v]
        rw [if_pos v] at pq
        have sv : -9999 ≤ s * S.tV p3 ∧ s * S.tV p3 ≤ 9999 := by
          rcases s1 with g | g <;> rw [g] <;> omega
        rw [hb_p, (pm.keep e3).cn, w32_id (z := s * S.tV p3) (by omega) (by omega), w32_id (z := σ.cn + s * S.tV p3) (by omega) (by omega)]
        have e4 : eqM h (up h3 33 10 (σ.cn + s * S.tV p3)) := e3.m.up (by unfold scM; omega)
        refine r_next (q0 := S.tE p3) (x.keep e4) (by rw [up_at, if_neg (by decide)]; exact tk3.en) (by omega) (by omega) (fun h5 p5 e5 tk5 eP5 g5 => ?_)
        have pmn : PM (up h3 33 10 (σ.cn + s * S.tV p3)) ((σ.go s 3).num (S.tV p3)) := by
          refine ⟨?_, ?_, ?_, ?_, ?_⟩
          · rw [up_at, if_neg (by decide)]; exact pm3.tm
          · rw [up_at, if_pos rfl]; rfl
          · rw [up_ne (by decide)]; exact pm3.lt
          · rw [up_ne (by decide)]; exact pm3.kd
          · rw [up_ne (by decide)]; exact pm3.sn
        refine hy h5 p5 _ (e4.trans e5.m) tk5 (pmn.keep e5) (pi3.num _) (by rw [pp, pq, eP5]) tm2 (Or.inl rfl) (by omega) ?_
        show -(10000 * p5) ≤ σ.cn + s * S.tV p3 ∧ σ.cn + s * S.tV p3 ≤ 10000 * p5
        omega
      · rw [if_neg v]
        rw [if_neg v] at pq
        exact hn h3 p3 e3.m tk3.pl (by rw [pp, pq])
    · rw [if_neg q]
      have g3' : (σ.go s 3).st = 3 := rfl
      refine r_form x3 tk3 pm3 pi3 (fun _ => ?_) (by rw [g3']; decide) (fun u => (q u).elim) rfl (fun h' r e' r1 r2 => ⟨Or.inl rfl, hn h' r (e3.m.trans e') r1 (by rw [pp]; exact r2)⟩) (fun h' p' σ' e' a1 a2 a3 a4 a5 a6 a7 a8 => ⟨Or.inr rfl, ?_⟩)
      · unfold PS.tks
        rw [if_neg (by omega), if_neg (by omega), if_neg (by omega), if_pos g3']
      · have a5' : σ'.tm = σ.tm + 1 := a5
        have a8' : σ'.cn = σ.cn := a8
        exact hy h' p' σ' (e3.m.trans e') a1 a2 a3 (by rw [pp]; exact a4) (by omega) a6 (by omega) (by omega)
  have tf := bp.tks (Or.inr hs.1)
  by_cases c : S.tT p = 3 ∧ S.tV p = 45
  · rw [if_pos c, if_neg (by decide)]
    refine main (-1) (Or.inr rfl) ?_
    rw [tf]
    unfold PS.flw
    rw [if_pos (by omega), if_pos (by omega), if_neg (fun u => u c.2)]
  · rw [if_neg c, if_pos rfl]
    refine main 1 (Or.inl rfl) ?_
    rw [tf]
    unfold PS.flw
    have c43 : S.tV p = 43 := hs.2.resolve_right (fun u => c ⟨hs.1, u⟩)
    rw [if_pos (by omega), if_neg (fun u => u c43)]
theorem tks8 {σ : PS} (h : σ.st = 8) (c : Int) : (σ.tks c).st = -1 := by
  unfold PS.tks
  rw [if_neg (by omega), if_neg (by omega), if_neg (by omega), if_neg (by omega), if_neg (by omega), if_neg (by omega), if_neg (by omega), if_neg (by omega)]
  rfl
theorem P_8 {S : St} (w : WF S) {p : Int} (h0 : 0 ≤ p) (h1 : p ≤ S.size) (hs : p < S.size → S.txt p ≠ 32) {σ : PS} (pi : PI σ) (h8 : σ.st = 8) (ht : S.tT p ≠ 0) : S.P p σ = Sum.inl p := by
  have lt : p < S.size := by
    apply Int.lt_iff_le_and_ne.mpr
    refine ⟨h1, fun e => ht ?_⟩
    unfold St.tT
    rw [if_pos e]
  rcases tT5 S p with t | t | t | t | t
  · exact (ht t).elim
  · rw [(P_char h1 (Or.inl t) σ).2, if_pos (tks8 h8 _)]
  · rw [P_numb h0 h1 t, if_neg (by omega)]
  · rw [(P_char h1 (Or.inr t) σ).2, if_pos (tks8 h8 _)]
  · exact P_odd w h0 h1 t (hs lt) pi
theorem r_whole {h0 : Hh} {S : St} (x : Mx h0 S) {p0 : Int} (tk0 : TK h0 S p0) (pm0 : PM h0 PS0) {K : Int → Hh → Prop} (hn : ∀ h' r, eqM h0 h' → h' 33 4 = r → S.P p0 PS0 = Sum.inl r → K 0 h') (hy : ∀ h' σ, eqM h0 h' → PM h' σ → S.P p0 PS0 = Sum.inr σ → K 1 h') : w_X11_whole 33 h0 K := by
  have sz := x.wf.size
  -- the loop over the parts
  have loop : ∀ (k n : Nat) (p : Int) (σ : PS) (h : Hh), k < n → S.size - p ≤ k → eqM h0 h → TK h S p → PM h σ → PI σ → BP S p σ → 2 ≤ σ.tm → (-(10000 * p) ≤ σ.cn ∧ σ.cn ≤ 10000 * p) → S.P p0 PS0 = S.P p σ → w_X11_whole_56 K (fun h17 => w_X11_isSign 33 59 h17 (fun r18 h19 => if r18 = 0 then (w_X11_whole_100 K 33 h19) else (if h19 33 6 ≥ 3 then (w_X11_next 33 h19 (fun _ h20 => if h20 33 3 ≠ 0 then (w_X11_whole_118 K 33 0 h20) else (w_X11_whole_118 K 33 1 h20))) else (w_X11_whole_100 K 33 h19)))) 33 n h := by
    intro k
    induction k with
    | zero =>
      intro n p σ h hn1 hk e tk pm pi bp tm2 cb eP
      obtain ⟨n, rfl⟩ : ∃ m, n = m + 1 := ⟨n - 1, by omega⟩
      have rg := tk.rng
      have t0 : S.tT p = 0 := by
        unfold St.tT
        rw [if_pos (by omega)]
      have n3 : ∀ c, (if S.tT p = 3 ∧ S.tV p = c then (1 : Int) else 0) = 0 := fun c => if_neg (by omega)
      rw [w_X11_whole_56, t_isSign tk, n3, if_neg (by decide), t_isSign tk, n3, if_pos rfl, t_isSign tk, n3, if_pos rfl]
      refine hn h p e tk.pl ?_
      rw [eP]
      rcases bp with b | b
      · rw [P_e (by omega), if_neg (by omega)]
      · rw [P_e (by omega), if_neg (by omega)]
    | succ k ih =>
      intro n p σ h hn1 hk e tk pm pi bp tm2 cb eP
      obtain ⟨n, rfl⟩ : ∃ m, n = m + 1 := ⟨n - 1, by omega⟩
      have rg := tk.rng
      have xh := x.keep e
      have s578 : σ.st ≠ 8 ∧ σ.st ≠ 3 := by rcases bp with b | b <;> omega
      have part : S.tT p = 3 ∧ (S.tV p = 43 ∨ S.tV p = 45) → w_X11_whole_74 K (w_X11_whole_56 K (fun h17 => w_X11_isSign 33 59 h17 (fun r18 h19 => if r18 = 0 then (w_X11_whole_100 K 33 h19) else (if h19 33 6 ≥ 3 then (w_X11_next 33 h19 (fun _ h20 => if h20 33 3 ≠ 0 then (w_X11_whole_118 K 33 0 h20) else (w_X11_whole_118 K 33 1 h20))) else (w_X11_whole_100 K 33 h19)))) 33 n) (fun h17 => w_X11_isSign 33 59 h17 (fun r18 h19 => if r18 = 0 then (w_X11_whole_100 K 33 h19) else (if h19 33 6 ≥ 3 then (w_X11_next 33 h19 (fun _ h20 => if h20 33 3 ≠ 0 then (w_X11_whole_118 K 33 0 h20) else (w_X11_whole_118 K 33 1 h20))) else (w_X11_whole_100 K 33 h19)))) 33 h := by
        intro hs
        unfold w_X11_whole_74
        refine r_part xh tk pm pi bp tm2 hs cb (fun h' r e' r1 r2 => ?_) (fun h' p' σ' e' a1 a2 a3 a4 a5 a6 a7 a8 => ?_)
        · rw [if_neg (by decide)]
          exact hn h' r (e.trans e') r1 (by rw [eP]; exact r2)
        · rw [if_pos (by decide)]
          exact ih n p' σ' h' (by omega) (by omega) (e.trans e') a1 a2 a3 a6 a5 a8 (by rw [eP]; exact a4)
      rw [w_X11_whole_56, t_isSign tk]
      by_cases c1 : S.tT p = 3 ∧ S.tV p = 43
      · rw [if_pos c1, if_pos (by decide)]
        exact part ⟨c1.1, Or.inl c1.2⟩
      · rw [if_neg c1, if_neg (by decide), t_isSign tk]
        by_cases c2 : S.tT p = 3 ∧ S.tV p = 45
        · rw [if_pos c2, if_neg (by decide)]
          exact part ⟨c2.1, Or.inr c2.2⟩
        · rw [if_neg c2, if_pos rfl, t_isSign tk]
          have fl : S.tT p = 1 ∨ S.tT p = 3 → σ.tks (S.tV p) = if S.tV p ≠ 59 then σ.go 0 (-1) else if σ.tm < 3 then σ.go 0 (-1) else σ.go 1 8 := by
            intro t13
            have n43 : S.tV p ≠ 43 := by
              rcases t13 with t | t
              · have := tT1 t; omega
              · exact fun u => c1 ⟨t, u⟩
            have n45 : S.tV p ≠ 45 := by
              rcases t13 with t | t
              · have := tT1 t; omega
              · exact fun u => c2 ⟨t, u⟩
            rw [bp.tks t13]
            unfold PS.flw
            rw [if_pos (by omega), if_pos n43, if_pos n45]
          by_cases c3 : S.tT p = 3 ∧ S.tV p = 59
          · rw [if_pos c3, if_neg (by decide), pm.tm]
            by_cases c4 : σ.tm ≥ 3
            · rw [if_pos c4]
              obtain ⟨⟨pv, pe, pn⟩, pp⟩ := P_char rg.2 (Or.inr c3.1) σ
              have e8 : σ.tks (S.tV p) = σ.go 1 8 := by rw [fl (Or.inr c3.1), if_neg (fun u => u c3.2), if_neg (by omega)]
              rw [e8, if_neg (by show (8 : Int) ≠ -1; decide), pe] at pp
              have pi8 : PI (σ.go 1 8) := pi.go (by omega) (by omega) (by omega) (by omega)
              refine r_next xh (by rw [tk.en, pe]) (by omega) (by omega) (fun h5 p5 e5 tk5 eP5 g5 => ?_)
              rw [eP5] at pp
              have rg5 := tk5.rng
              unfold w_X11_whole_118
              rw [tk5.ty]
              by_cases c5 : S.tT p5 = 0
              · rw [if_neg (fun u => u c5)]
                refine ⟨Or.inr rfl, hy h5 (σ.go 1 8) (e.trans e5.m) ((pm.keep e5).go 1 8) ?_⟩
                rw [eP, pp, P_e (P_over c5), if_pos (show (σ.go 1 8).st = 8 from rfl)]
              · rw [if_pos c5]
                refine ⟨Or.inl rfl, hn h5 p5 (e.trans e5.m) tk5.pl ?_⟩
                rw [eP, pp]
                exact P_8 x.wf rg5.1 rg5.2 tk5.nsp pi8 rfl c5
            · rw [if_neg c4]
              refine hn h p e tk.pl ?_
              rw [eP]
              refine P_fail x.wf rg.1 rg.2 tk.nsp pi s578.1 (fun _ => s578.2) (fun t13 => ?_)
              rw [fl t13, if_neg (fun u => u c3.2), if_pos (by omega)]
              rfl
          · rw [if_neg c3, if_pos rfl]
            refine hn h p e tk.pl ?_
            rw [eP]
            refine P_fail x.wf rg.1 rg.2 tk.nsp pi s578.1 (fun _ => s578.2) (fun t13 => ?_)
            rw [fl t13, if_pos]
            · rfl
            · rcases t13 with t | t
              · have := tT1 t; omega
              · exact fun u => c3 ⟨t, u⟩
  -- the first form behind the =
  have second : ∀ (s p : Int) (σ : PS) (h : Hh), eqM h0 h → TK h S p → PM h σ → PI σ → σ.tm = 1 → σ.sg = s → σ.cn = 0 → (S.tT p = 1 ∨ S.tT p = 3 → σ.tks (S.tV p) = σ.bgn (S.tV p)) → σ.st ≠ 8 → σ.st ≠ 3 → S.P p0 PS0 = S.P p σ → w_X11_whole_48 K 33 s 33 h := by
    intro s p σ h e tk pm pi tm1 sg1 cn1 hb h8 h3 eP
    have rg := tk.rng
    unfold w_X11_whole_48
    rw [and_t (by omega)]
    refine r_form (x.keep e) tk pm pi hb h8 (fun _ => h3) sg1 (fun h' r e' r1 r2 => ?_) (fun h' p' σ' e' a1 a2 a3 a4 a5 a6 a7 a8 => ?_)
    · rw [if_neg (by decide)]
      exact hn h' r (e.trans e') r1 (by rw [eP]; exact r2)
    · rw [if_pos (by decide)]
      have rg' := a1.rng
      exact loop (S.size - p').toNat NF p' σ' h' (by rw [NF_eq]; omega) (by omega) (e.trans e') a1 a2 a3 a6 (by omega) (by omega) (by rw [eP]; exact a4)
  unfold w_X11_whole w_X11_whole_17 w_X11_whole_38
  have b0 : PS0.st = 0 := rfl
  refine r_form x tk0 pm0 PI0 (fun _ => ?_) (by rw [b0]; decide) (fun _ => by rw [b0]; decide) rfl (fun h' r e' r1 r2 => ?_) (fun h1 p1 σ1 e1 tk1 pm1 pi1 eP1 tm1 bp1 lt1 cn1 => ?_)
  · unfold PS.tks
    rw [if_pos b0]
  · rw [if_pos rfl]
    exact hn h' r e' r1 r2
  · rw [if_neg (by decide), t_isSign tk1]
    have tm1' : σ1.tm = 1 := tm1
    have cn1' : σ1.cn = 0 := cn1
    have rg1 := tk1.rng
    have s578 : σ1.st ≠ 8 ∧ σ1.st ≠ 3 := by rcases bp1 with b | b <;> omega
    have fl : S.tT p1 = 1 ∨ S.tT p1 = 3 → σ1.tks (S.tV p1) = if S.tV p1 ≠ 61 then σ1.go 0 (-1) else σ1.go 1 1 := by
      intro t13
      rw [bp1.tks t13]
      unfold PS.flw
      rw [if_neg (fun u => u tm1')]
    by_cases c1 : S.tT p1 = 3 ∧ S.tV p1 = 61
    · rw [if_pos c1, if_pos (by decide)]
      obtain ⟨⟨pv, pe, pn⟩, pp⟩ := P_char rg1.2 (Or.inr c1.1) σ1
      have e8 : σ1.tks (S.tV p1) = σ1.go 1 1 := by rw [fl (Or.inr c1.1), if_neg (fun u => u c1.2)]
      rw [e8, if_neg (by show (1 : Int) ≠ -1; decide), pe] at pp
      have pi2 : PI (σ1.go 1 1) := pi1.go (by omega) (by omega) (by omega) (by omega)
      have x1 := x.keep e1
      refine r_next x1 (by rw [tk1.en, pe]) (by omega) (by omega) (fun h2 p2 e2 tk2 eP2 g2 => ?_)
      rw [eP2] at pp
      have rg2 := tk2.rng
      have pm2 := (pm1.keep e2).go 1 1
      have ee2 := e1.trans e2.m
      have g1 : (σ1.go 1 1).st = 1 := rfl
      have t1 : S.tT p2 = 1 ∨ S.tT p2 = 3 → (σ1.go 1 1).tks (S.tV p2) = if S.tV p2 ≠ 45 then (σ1.go 1 1).bgn (S.tV p2) else (σ1.go 1 1).go (-1) 2 := by
        intro _
        unfold PS.tks
        rw [if_neg (by omega), if_pos g1]
      rw [t_isSign tk2]
      by_cases c2 : S.tT p2 = 3 ∧ S.tV p2 = 45
      · rw [if_pos c2, if_neg (by decide)]
        obtain ⟨⟨qv, qe, qn⟩, qq⟩ := P_char rg2.2 (Or.inr c2.1) (σ1.go 1 1)
        have e9 : (σ1.go 1 1).tks (S.tV p2) = (σ1.go 1 1).go (-1) 2 := by rw [t1 (Or.inr c2.1), if_neg (fun u => u c2.2)]
        rw [e9, if_neg (by show (2 : Int) ≠ -1; decide), qe] at qq
        refine r_next (x.keep ee2) (by rw [tk2.en, qe]) (by omega) (by omega) (fun h3 p3 e3 tk3 eP3 g3 => ?_)
        rw [eP3] at qq
        rw [if_neg (by decide)]
        have g2' : ((σ1.go 1 1).go (-1) 2).st = 2 := rfl
        refine second (-1) p3 ((σ1.go 1 1).go (-1) 2) h3 (ee2.trans e3.m) tk3 ((pm2.keep e3).go (-1) 2) (pi2.go (by omega) (by omega) (by omega) (by omega)) tm1' rfl cn1' (fun _ => ?_) (by rw [g2']; decide) (by rw [g2']; decide) (by rw [eP1, pp, qq])
        unfold PS.tks
        rw [if_neg (by omega), if_neg (by omega), if_pos g2']
      · rw [if_neg c2, if_pos rfl, if_pos rfl]
        refine second 1 p2 (σ1.go 1 1) h2 ee2 tk2 pm2 pi2 tm1' rfl cn1' (fun t13 => ?_) (by rw [g1]; decide) (by rw [g1]; decide) (by rw [eP1, pp])
        rw [t1 t13, if_pos]
        rcases t13 with t | t
        · have := tT1 t; omega
        · exact fun u => c2 ⟨t, u⟩
    · rw [if_neg c1, if_neg (by decide)]
      refine hn h1 p1 e1 tk1.pl ?_
      rw [eP1]
      refine P_fail x.wf rg1.1 rg1.2 tk1.nsp pi1 s578.1 (fun _ => s578.2) (fun t13 => ?_)
      rw [fl t13, if_pos]
      · rfl
      · rcases t13 with t | t
        · have := tT1 t; omega
        · exact fun u => c1 ⟨t, u⟩
theorem r_reads {h0 : Hh} {S : St} (x : Mx h0 S) {K : Int → Hh → Prop} (hf : ∀ r h, eqM h0 h → S.rdg = Sum.inl r → K r h) (hy : ∀ σ h, eqM h0 h → S.rdg = Sum.inr σ → PM h σ → K (-1) h) : w_X11_reads 33 h0 K := by
  have sz := x.wf.size
  unfold w_X11_reads w_X11_reads_34
  simp only [hb_p]
  have e0 : eqM h0 (up (up (up h0 33 2 0) 33 6 0) 33 10 0) := ((eqM.rfl'.up (by unfold scM; omega)).up (by unfold scM; omega)).up (by unfold scM; omega)
  have v2 : up (up (up h0 33 2 0) 33 6 0) 33 10 0 33 2 = 0 := by simp only [up_at, Int.reduceEq, reduceIte]
  have v6 : up (up (up h0 33 2 0) 33 6 0) 33 10 0 33 6 = 0 := by simp only [up_at, Int.reduceEq, reduceIte]
  have v10 : up (up (up h0 33 2 0) 33 6 0) 33 10 0 33 10 = 0 := by simp only [up_at, Int.reduceEq, reduceIte]
  generalize up (up (up h0 33 2 0) 33 6 0) 33 10 0 = h1 at e0 v2 v6 v10
  have x1 := x.keep e0
  have pm1 : PM h1 PS0 := ⟨v6, v10, fun k k0 k1 => by have k2 : k < 0 := k1; omega, fun k k0 k1 => by have k2 : k < 0 := k1; omega, fun k k0 k1 => by have k2 : k < 0 := k1; omega⟩
  refine r_next x1 v2 (by omega) (by omega) (fun h2 p e2 tk eP g => ?_)
  have er : S.rdg = S.P p PS0 := by
    rw [← eP PS0]
    unfold St.rdg St.P
    rw [Int.sub_zero]
  have ee := e0.trans e2.m
  refine r_whole (x.keep ee) tk (pm1.keep e2) (fun h' r e' r1 r2 => ?_) (fun h' σ e' pm' r2 => ?_)
  · rw [if_pos rfl, r1]
    exact hf r h' (ee.trans e') (by rw [er]; exact r2)
  · rw [if_neg (by decide)]
    exact hy σ h' (ee.trans e') (by rw [er]; exact r2) pm'
noncomputable def rFault (S : St) : Int := Sum.elim id (fun _ => -1) S.rdg
theorem a_fault : Agree (w_X10_fault 0) (w_X11_fault 33) := by
  refine agree_q rFault (fun h S b K hK => ?_) (fun h S x K hK => ?_)
  · unfold w_X10_fault
    simp only [Int.reduceAdd]
    refine c_fault b.c b.w (fun r h' e _ er => ?_) (fun σ h' e er _ _ _ _ => ?_)
    · have := hK h' e.w
      unfold rFault at this
      rw [er] at this
      exact this
    · have := hK h' e.w
      unfold rFault at this
      rw [er] at this
      exact this
  · unfold w_X11_fault
    refine r_reads x (fun r h' e er => ?_) (fun σ h' e er _ => ?_)
    · have := hK h' e
      unfold rFault at this
      rw [er] at this
      exact this
    · have := hK h' e
      unfold rFault at this
      rw [er] at this
      exact this
