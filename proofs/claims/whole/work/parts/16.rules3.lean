theorem gpv_tv_obj {b : Nat} {C : String} {x : Int} : rv b x = tv b (vr (ccode C) x 0) := by
  show _ = (if ccode C = 200 then _ else rv b x)
  rw [if_neg (by have := ccode_lt C; omega)]
theorem rv_narrow (b : Nat) (C : String) (x : Int) : narrow (.object C) (rv b x) = rv b x := by unfold rv; split <;> rfl
theorem rv_fits (b : Nat) (C : String) (x : Int) : fits (.object C) (rv b x) = true := by unfold rv; split <;> rfl
theorem rv_narrowA (b : Nat) (t : FieldType) (x : Int) : narrow (.array t) (rv b x) = rv b x := by unfold rv; split <;> rfl
theorem rv_fitsA (b : Nat) (t : FieldType) (x : Int) : fits (.array t) (rv b x) = true := by unfold rv; split <;> rfl
theorem okr_of {G : Gx} {ks : List Kd} {C : String} {x : Int} (h : okv G ks (vr (ccode C) x 0)) : okr ks (ccode C) x := by
  have h : (if ccode C = 200 then _ else _) := h
  have hl := ccode_lt C
  rw [if_neg (by omega)] at h
  rcases h with h | ⟨h0, ⟨q1, q2⟩, h1, h2, h3⟩
  · exact Or.inl h
  · dsimp only at h2 h3
    have e2 : q1 = ccode C := by omega
    have e3 : q2 = 0 := by omega
    rw [e2, e3] at h1
    exact Or.inr ⟨h0, h1⟩
theorem okv_ge {G : Gx} {ks : List Kd} {t : Nat} {x n : Int} (h : okv G ks (vr t x n)) (ht : t ≠ 200) : -1 ≤ x := by
  have h : (if t = 200 then _ else _) := h
  rw [if_neg ht] at h
  rcases h with h | ⟨h0, -⟩ <;> omega
/-! rules of PW, 3: fields -/
section PR3
variable {G : Gx} {M : MD} {rm : Room} {mc ms : Nat} {tk : List PV} {n0 : Int} {K : Int → Hh → Prop} {pc : Nat} {ls : List (Nat × PV)} {st kn : List PV} {cells slots : Nat} {h : Hh}
theorem cell_of {G : Gx} {ks : List Kd} {h : Hh} {H : Heap} {c t : Nat} {a : Int} (hR : RepH G ks h H) (hW : WT ks h) (ht : t = c ∨ t = c + 50) (hc : c < 12) (h0 : 0 ≤ a) (hv : okv G ks (vr t a 0)) : ∃ q : Kd, ks[a.toNat]? = some q ∧ q.1 < 100 ∧ q.1 % 50 = c ∧ q.2 = 0 ∧ q.1 = t ∧ okc ks (h a) a.toNat q ∧ va_at G.2.1 vwCl (G.2.2.2.1 + a.toNat, .inr (c, (List.range (cN c)).map (fun k => fv G.2.2.2.1 (cty c k) (h a k)))) H := by
  obtain ⟨q, h1, h2, h3⟩ := okv_ref hv (by omega) h0
  have hq1 : q.1 < 100 := by omega
  have hq2 : q.1 % 50 = c := by omega
  have h4 := hR.2 _ _ h1
  have h5 := hW.2 _ _ h1
  rw [ec_obj _ _ _ hq1, hq2, toNat_a h0] at h4
  rw [toNat_a h0] at h5
  exact ⟨q, h1, hq1, hq2, by omega, h3, h5, h4⟩
theorem p_get {idx c t : Nat} {a : Int} (v : PV) (hd : decode M.2.1 pc = .ok (.getfield idx, 3)) (k : Nat) (hl0 : Cond.fieldLink M.1.cls idx (cT c k).1 (cT c k).2.1 (cT c k).2.2.1 ∈ lw_good) (hc : c < 12) (hk : k < cN c) (ht : t = c ∨ t = c + 50) (h0 : 0 ≤ a) (hty : isA (cty c k) = false) (hv : gpv (cty c k) (h a k) = v) (kk : PW G M rm mc ms tk n0 K (pc + 3) ls (v :: st) kn cells slots h) : PW G M rm mc ms tk n0 K pc ls (vr t a 0 :: st) kn cells slots h := by
  intro p e s m args below meth c0 H locs L ks ks0 C hS hR hW hl hol hos hon hle hn0
  have hv0 := (List.forall_mem_cons.mp hos).1
  have hst := (List.forall_mem_cons.mp hos).2
  obtain ⟨q, g1, g2, g3, g4, g5, g6, g7⟩ := cell_of hR hW ht hc h0 hv0
  have hP : va_P G.2.1 vwCl [(G.2.2.2.1 + a.toNat, .inr (c, (List.range (cN c)).map (fun k => fv G.2.2.2.1 (cty c k) (h a k))))] H := by
    intro j x hj
    have hz : j < 1 := (List.getElem?_eq_some_iff.mp hj).1
    rw [show j = 0 by omega] at hj
    cases hj
    exact g7
  have ht2 : t ≠ 200 := by omega
  rw [List.map_cons, tv_ref _ ht2 h0]
  subst hv
  have hok : okv G ks (gpv (cty c k) (h a k)) := gpv_ok hty ((g6.1 g2).2 k (by rw [g3]; exact hk) |> fun z => by rw [g3] at z; exact z)
  refine va_get C.1 C.2.1 (C.2.2.2.2.2.1) (ciw hc) C.2.2.2.2.1 C.2.2.2.2.2.2.2.2.1.1 hP 0 rfl (cl_at hc) k hk (C.2.2.2.2.2.1 _ hl0) (fun x h => h) (v := tv G.2.2.2.1 (gpv (cty c k) (h a k))) (by rw [gpv_tv]; exact map_at _ hk) hd ?_
  exact kk p e s m args below meth c0 H locs L ks ks0 C hS hR hW hl hol (List.forall_mem_cons.mpr ⟨hok, hst⟩) hon hle hn0
theorem p_lay {idx c tq n : Nat} {a : Int} (hd : decode M.2.1 pc = .ok (.getfield idx, 3)) (k off : Nat) (hl0 : Cond.fieldLink M.1.cls idx (cT c k).1 (cT c k).2.1 (cT c k).2.2.1 ∈ lw_good) (hc : c < 12) (hk : k < cN c) (h0 : 0 ≤ a) (hy : (k, off, tq, n) ∈ lay c) (ht2 : tq ≠ 200) (hfv : ∀ x, fv G.2.2.2.1 (cty c k) x = rv G.2.2.2.1 x) (v : PV) (hvv : vr tq (a + off) n = v) (kk : PW G M rm mc ms tk n0 K (pc + 3) ls (v :: st) kn cells slots h) : PW G M rm mc ms tk n0 K pc ls (vr c a 0 :: st) kn cells slots h := by
  intro p e s m args below meth c0 H locs L ks ks0 C hS hR hW hl hol hos hon hle hn0
  have hv0 := (List.forall_mem_cons.mp hos).1
  have hst := (List.forall_mem_cons.mp hos).2
  obtain ⟨q, g1, g2, g3, g4, g5, g6, g7⟩ := cell_of hR hW (Or.inl rfl) hc h0 hv0
  have hP : va_P G.2.1 vwCl [(G.2.2.2.1 + a.toNat, .inr (c, (List.range (cN c)).map (fun k => fv G.2.2.2.1 (cty c k) (h a k))))] H := by
    intro j x hj
    have hz : j < 1 := (List.getElem?_eq_some_iff.mp hj).1
    rw [show j = 0 by omega] at hj
    cases hj
    exact g7
  have ht3 : c ≠ 200 := by omega
  rw [List.map_cons, tv_ref _ ht3 h0]
  have e1 := g5
  subst hvv
  obtain ⟨b1, b2⟩ := g6.2.1 (by omega) (k, off, tq, n) (by rw [e1]; exact hy)
  dsimp only at b1 b2
  rw [toNat_a h0] at b1
  have hok : okv G ks (vr tq (a + off) n) := okv_mk ht2 (by omega) (by rw [show (a + off).toNat = a.toNat + off by omega]; exact b2) rfl
  refine va_get C.1 C.2.1 (C.2.2.2.2.2.1) (ciw hc) C.2.2.2.2.1 C.2.2.2.2.2.2.2.2.1.1 hP 0 rfl (cl_at hc) k hk (C.2.2.2.2.2.1 _ hl0) (fun x h => h) (v := tv G.2.2.2.1 (vr tq (a + off) n)) ?_ hd ?_
  · rw [map_at _ hk, hfv, b1, tv_ref _ ht2 (by omega)]
    unfold rv
    rw [if_neg (by omega)]
  · exact kk p e s m args below meth c0 H locs L ks ks0 C hS hR hW hl hol (List.forall_mem_cons.mpr ⟨hok, hst⟩) hon hle hn0
theorem p_getN {idx c t : Nat} {a : Int} (v : PV) (hd : decode M.2.1 pc = .ok (.getfield idx, 3)) (k : Nat) (hl0 : Cond.fieldLinkNest M.1.cls idx (cT c k).1 (cT c k).2.1 (cT c k).2.2.1 RX10 ∈ tables_1) (hc : c < 12) (hk : k < cN c) (ht : t = c ∨ t = c + 50) (h0 : 0 ≤ a) (hty : isA (cty c k) = false) (hv : gpv (cty c k) (h a k) = v) (kk : PW G M rm mc ms tk n0 K (pc + 3) ls (v :: st) kn cells slots h) : PW G M rm mc ms tk n0 K pc ls (vr t a 0 :: st) kn cells slots h := by
  intro p e s m args below meth c0 H locs L ks ks0 C hS hR hW hl hol hos hon hle hn0
  have hv0 := (List.forall_mem_cons.mp hos).1
  have hst := (List.forall_mem_cons.mp hos).2
  obtain ⟨q, g1, g2, g3, g4, g5, g6, g7⟩ := cell_of hR hW ht hc h0 hv0
  have hP : va_P G.2.1 vwCl [(G.2.2.2.1 + a.toNat, .inr (c, (List.range (cN c)).map (fun k => fv G.2.2.2.1 (cty c k) (h a k))))] H := by
    intro j x hj
    have hz : j < 1 := (List.getElem?_eq_some_iff.mp hj).1
    rw [show j = 0 by omega] at hj
    cases hj
    exact g7
  have ht2 : t ≠ 200 := by omega
  rw [List.map_cons, tv_ref _ ht2 h0]
  subst hv
  have hok : okv G ks (gpv (cty c k) (h a k)) := gpv_ok hty ((g6.1 g2).2 k (by rw [g3]; exact hk) |> fun z => by rw [g3] at z; exact z)
  refine va_getN C.1 C.2.1 (C.2.2.2.2.2.1) (ciw hc) C.2.2.2.2.1 C.2.2.2.2.2.2.2.2.1.1 hP 0 rfl (cl_at hc) k hk (va_Nw.use (A := args) rfl (C.2.2.2.2.2.2.2.2.1.2.1 _ hl0 rfl)) (fun x h => h) (v := tv G.2.2.2.1 (gpv (cty c k) (h a k))) (by rw [gpv_tv]; exact map_at _ hk) hd ?_
  exact kk p e s m args below meth c0 H locs L ks ks0 C hS hR hW hl hol (List.forall_mem_cons.mpr ⟨hok, hst⟩) hon hle hn0
theorem p_layN {idx c tq n : Nat} {a : Int} (hd : decode M.2.1 pc = .ok (.getfield idx, 3)) (k off : Nat) (hl0 : Cond.fieldLinkNest M.1.cls idx (cT c k).1 (cT c k).2.1 (cT c k).2.2.1 RX10 ∈ tables_1) (hc : c < 12) (hk : k < cN c) (h0 : 0 ≤ a) (hy : (k, off, tq, n) ∈ lay c) (ht2 : tq ≠ 200) (hfv : ∀ x, fv G.2.2.2.1 (cty c k) x = rv G.2.2.2.1 x) (v : PV) (hvv : vr tq (a + off) n = v) (kk : PW G M rm mc ms tk n0 K (pc + 3) ls (v :: st) kn cells slots h) : PW G M rm mc ms tk n0 K pc ls (vr c a 0 :: st) kn cells slots h := by
  intro p e s m args below meth c0 H locs L ks ks0 C hS hR hW hl hol hos hon hle hn0
  have hv0 := (List.forall_mem_cons.mp hos).1
  have hst := (List.forall_mem_cons.mp hos).2
  obtain ⟨q, g1, g2, g3, g4, g5, g6, g7⟩ := cell_of hR hW (Or.inl rfl) hc h0 hv0
  have hP : va_P G.2.1 vwCl [(G.2.2.2.1 + a.toNat, .inr (c, (List.range (cN c)).map (fun k => fv G.2.2.2.1 (cty c k) (h a k))))] H := by
    intro j x hj
    have hz : j < 1 := (List.getElem?_eq_some_iff.mp hj).1
    rw [show j = 0 by omega] at hj
    cases hj
    exact g7
  have ht3 : c ≠ 200 := by omega
  rw [List.map_cons, tv_ref _ ht3 h0]
  have e1 := g5
  subst hvv
  obtain ⟨b1, b2⟩ := g6.2.1 (by omega) (k, off, tq, n) (by rw [e1]; exact hy)
  dsimp only at b1 b2
  rw [toNat_a h0] at b1
  have hok : okv G ks (vr tq (a + off) n) := okv_mk ht2 (by omega) (by rw [show (a + off).toNat = a.toNat + off by omega]; exact b2) rfl
  refine va_getN C.1 C.2.1 (C.2.2.2.2.2.1) (ciw hc) C.2.2.2.2.1 C.2.2.2.2.2.2.2.2.1.1 hP 0 rfl (cl_at hc) k hk (va_Nw.use (A := args) rfl (C.2.2.2.2.2.2.2.2.1.2.1 _ hl0 rfl)) (fun x h => h) (v := tv G.2.2.2.1 (vr tq (a + off) n)) ?_ hd ?_
  · rw [map_at _ hk, hfv, b1, tv_ref _ ht2 (by omega)]
    unfold rv
    rw [if_neg (by omega)]
  · exact kk p e s m args below meth c0 H locs L ks ks0 C hS hR hW hl hol (List.forall_mem_cons.mpr ⟨hok, hst⟩) hon hle hn0
theorem p_puti {idx c t : Nat} {a x : Int} (hd : decode M.2.1 pc = .ok (.putfield idx, 3)) (k : Nat) (hl0 : Cond.fieldLink M.1.cls idx (cT c k).1 (cT c k).2.1 (cT c k).2.2.1 ∈ lw_good) (hc : c < 12) (hk : k < cN c) (ht : t = c ∨ t = c + 50) (h0 : 0 ≤ a) (hty : cty c k = .int) (hfin : (cT c k).2.2.2 = false) (hnl : t = c → ∀ y ∈ lay c, y.1 ≠ k) (h2 : Hh) (hh : up h a k x = h2) (kk : PW G M rm mc ms tk n0 K (pc + 3) ls st kn cells slots h2) : PW G M rm mc ms tk n0 K pc ls (vi x :: vr t a 0 :: st) kn cells slots h := by
  intro p e s m args below meth c0 H locs L ks ks0 C hS hR hW hl hol hos hon hle hn0
  subst hh
  have hv0 := (List.forall_mem_cons.mp hos).1
  have hv1 := (List.forall_mem_cons.mp (List.forall_mem_cons.mp hos).2).1
  have hst := (List.forall_mem_cons.mp (List.forall_mem_cons.mp hos).2).2
  obtain ⟨q, g1, g2, g3, g4, g5, g6, r, h1, cell, q1, q2, q3, q4⟩ := cell_of hR hW ht hc h0 hv1
  have hr : r = (cR c, cT c, cN c) := Option.some.inj (h1.symm.trans (cl_at hc))
  subst hr
  have ht2 : t ≠ 200 := by omega
  rw [List.map_cons, List.map_cons, tv_ref _ ht2 h0]
  have hts := C.2.2.2.2.2.1
  have hin := ciw hc
  have hK := C.2.2.2.2.2.2.2.2.1.1
  have hap := va_apart (own := M.1.cls) hts hin (cty c) (cty_ok hc) (cnm hc) hK (cl_at hc)
  obtain ⟨hS1, hfc, kC, hkC, hkind⟩ := hK.1 c _ (cl_at hc)
  obtain ⟨cf, kf, fi, f, hi, hsl⟩ := hS1 k hk
  have hlay := hts _ (hin _ (u_in_lay hk))
  unfold u_lay at hlay
  rw [if_neg (by rw [hfin]; decide)] at hlay
  have hty2 : ∀ t, cty c k ≠ .array t ∨ True := fun _ => Or.inr trivial
  have hfv : fv G.2.2.2.1 (cty c k) x = tv G.2.2.2.1 (vi x) := by
    rw [hty]; rfl
  have hst1 := (u_facts hfc hkC (u_lays hts hin hk) hi).1
  have hn : narrow (cty c k) (tv G.2.2.2.1 (vi x)) = tv G.2.2.2.1 (vi x) := by
    rw [hty]; rfl
  have hfit : fits (cty c k) (tv G.2.2.2.1 (vi x)) = true := by
    rw [hty]; rfl
  have h6 := u_store hfc hkC hkind hlay hi (cty_ok hc k hk) hn hfit
  refine W.putK C.1 C.2.1 (f := f) ⟨C.2.2.2.2.1, hts _ hl0, ⟨_, _, _, hi⟩, hst1⟩ (by rw [q2]; exact h6) q1 q3 (by rw [hsl]; exact k2_hasslot (q4 k hk)) rfl rfl hd fun H' e1 e2 e3 => ?_
  have e1' : H'[G.2.2.2.1 + a.toNat]? = some (cell.setSlot (G.2.1.2 c k) (tv G.2.2.2.1 (vi x))) := by rw [← hsl]; exact e1
  have hR' : RepH G ks (up h a k x) H' := by
    refine hR.set g1 ?_ e2 e3 (fun j hj => up_ne (by have := toNat_a h0; omega))
    rw [ec_obj _ _ _ g2, g3]
    refine ⟨_, cl_at hc, t_OB.to (V := updV (vp_V ((List.range (cN c)).map (fun k => fv G.2.2.2.1 (cty c k) (h a k)))) k (tv G.2.2.2.1 (vi x))) ⟨_, e1', q2, q3, t_set q4 hap hk _⟩ (fun j hj => ?_)⟩
    rw [vpV_map _ hj, toNat_a h0, up_at]
    unfold updV
    by_cases e : j = k
    · subst e
      rw [if_pos rfl, if_pos rfl]; exact hfv.symm
    · rw [if_neg e, if_neg (by omega), vpV_map _ hj]
  have hW' : WT ks (up h a k x) := by
    refine hW.set g1 ?_ (fun j hj => up_ne (by have := toNat_a h0; omega))
    have e5 : up h a k x (a.toNat : Nat) = fun j => if j = (k : Int) then x else h a j := by
      rw [toNat_a h0]; funext j; exact up_at
    rw [e5]
    exact g6.field g2 (by rw [g3]; exact (by rw [hty]; exact hv0)) (fun hq y hy => hnl (by omega) y (by rw [← g3, Nat.mod_eq_of_lt hq]; exact hy))
  have hS' := hS.put (k := f.slot) e2 e3 (show fre G _ from Nat.le_add_right _ _)
  exact kk p e s m args below meth c0 H' _ L ks ks0 C hS' hR' hW' hl hol hst hon hle hn0
theorem p_putiN {idx c t : Nat} {a x : Int} (hd : decode M.2.1 pc = .ok (.putfield idx, 3)) (k : Nat) (hl0 : Cond.fieldLinkNest M.1.cls idx (cT c k).1 (cT c k).2.1 (cT c k).2.2.1 RX10 ∈ tables_1) (hc : c < 12) (hk : k < cN c) (ht : t = c ∨ t = c + 50) (h0 : 0 ≤ a) (hty : cty c k = .int) (hfin : (cT c k).2.2.2 = false) (hnl : t = c → ∀ y ∈ lay c, y.1 ≠ k) (h2 : Hh) (hh : up h a k x = h2) (kk : PW G M rm mc ms tk n0 K (pc + 3) ls st kn cells slots h2) : PW G M rm mc ms tk n0 K pc ls (vi x :: vr t a 0 :: st) kn cells slots h := by
  intro p e s m args below meth c0 H locs L ks ks0 C hS hR hW hl hol hos hon hle hn0
  subst hh
  have hv0 := (List.forall_mem_cons.mp hos).1
  have hv1 := (List.forall_mem_cons.mp (List.forall_mem_cons.mp hos).2).1
  have hst := (List.forall_mem_cons.mp (List.forall_mem_cons.mp hos).2).2
  obtain ⟨q, g1, g2, g3, g4, g5, g6, r, h1, cell, q1, q2, q3, q4⟩ := cell_of hR hW ht hc h0 hv1
  have hr : r = (cR c, cT c, cN c) := Option.some.inj (h1.symm.trans (cl_at hc))
  subst hr
  have ht2 : t ≠ 200 := by omega
  rw [List.map_cons, List.map_cons, tv_ref _ ht2 h0]
  have hts := C.2.2.2.2.2.1
  have hin := ciw hc
  have hK := C.2.2.2.2.2.2.2.2.1.1
  have hap := va_apart (own := M.1.cls) hts hin (cty c) (cty_ok hc) (cnm hc) hK (cl_at hc)
  obtain ⟨hS1, hfc, kC, hkC, hkind⟩ := hK.1 c _ (cl_at hc)
  obtain ⟨cf, kf, fi, f, hi, hsl⟩ := hS1 k hk
  have hlay := hts _ (hin _ (u_in_lay hk))
  unfold u_lay at hlay
  rw [if_neg (by rw [hfin]; decide)] at hlay
  have hty2 : ∀ t, cty c k ≠ .array t ∨ True := fun _ => Or.inr trivial
  have hfv : fv G.2.2.2.1 (cty c k) x = tv G.2.2.2.1 (vi x) := by
    rw [hty]; rfl
  have hst1 := (u_facts hfc hkC (u_lays hts hin hk) hi).1
  have hn : narrow (cty c k) (tv G.2.2.2.1 (vi x)) = tv G.2.2.2.1 (vi x) := by
    rw [hty]; rfl
  have hfit : fits (cty c k) (tv G.2.2.2.1 (vi x)) = true := by
    rw [hty]; rfl
  have h6 := u_store hfc hkC hkind hlay hi (cty_ok hc k hk) hn hfit
  refine va_WputK C.1 C.2.1 (f := f) C.2.2.2.2.1 (va_Nw.use (A := args) rfl (C.2.2.2.2.2.2.2.2.1.2.1 _ hl0 rfl)) hi hst1 (by rw [q2]; exact h6) q1 q3 (by rw [hsl]; exact k2_hasslot (q4 k hk)) rfl rfl hd fun H' e1 e2 e3 => ?_
  have e1' : H'[G.2.2.2.1 + a.toNat]? = some (cell.setSlot (G.2.1.2 c k) (tv G.2.2.2.1 (vi x))) := by rw [← hsl]; exact e1
  have hR' : RepH G ks (up h a k x) H' := by
    refine hR.set g1 ?_ e2 e3 (fun j hj => up_ne (by have := toNat_a h0; omega))
    rw [ec_obj _ _ _ g2, g3]
    refine ⟨_, cl_at hc, t_OB.to (V := updV (vp_V ((List.range (cN c)).map (fun k => fv G.2.2.2.1 (cty c k) (h a k)))) k (tv G.2.2.2.1 (vi x))) ⟨_, e1', q2, q3, t_set q4 hap hk _⟩ (fun j hj => ?_)⟩
    rw [vpV_map _ hj, toNat_a h0, up_at]
    unfold updV
    by_cases e : j = k
    · subst e
      rw [if_pos rfl, if_pos rfl]; exact hfv.symm
    · rw [if_neg e, if_neg (by omega), vpV_map _ hj]
  have hW' : WT ks (up h a k x) := by
    refine hW.set g1 ?_ (fun j hj => up_ne (by have := toNat_a h0; omega))
    have e5 : up h a k x (a.toNat : Nat) = fun j => if j = (k : Int) then x else h a j := by
      rw [toNat_a h0]; funext j; exact up_at
    rw [e5]
    exact g6.field g2 (by rw [g3]; exact (by rw [hty]; exact hv0)) (fun hq y hy => hnl (by omega) y (by rw [← g3, Nat.mod_eq_of_lt hq]; exact hy))
  have hS' := hS.put (k := f.slot) e2 e3 (show fre G _ from Nat.le_add_right _ _)
  exact kk p e s m args below meth c0 H' _ L ks ks0 C hS' hR' hW' hl hol hst hon hle hn0
theorem p_putiF {idx c t : Nat} {a x : Int} (hd : decode M.2.1 pc = .ok (.putfield idx, 3)) (k : Nat) (hl0 : Cond.fieldLink M.1.cls idx (cT c k).1 (cT c k).2.1 (cT c k).2.2.1 ∈ lw_good) (hc : c < 12) (hk : k < cN c) (ht : t = c ∨ t = c + 50) (h0 : 0 ≤ a) (hty : cty c k = .int) (hfin : (cT c k).2.2.2 = true) (hini : M.1.name = "<init>") (hown : (cT c k).1 = M.1.cls) (hraw : t = c + 50) (hnl : t = c → ∀ y ∈ lay c, y.1 ≠ k) (h2 : Hh) (hh : up h a k x = h2) (kk : PW G M rm mc ms tk n0 K (pc + 3) ls st kn cells slots h2) : PW G M rm mc ms tk n0 K pc ls (vi x :: vr t a 0 :: st) kn cells slots h := by
  intro p e s m args below meth c0 H locs L ks ks0 C hS hR hW hl hol hos hon hle hn0
  subst hh
  have hv0 := (List.forall_mem_cons.mp hos).1
  have hv1 := (List.forall_mem_cons.mp (List.forall_mem_cons.mp hos).2).1
  have hst := (List.forall_mem_cons.mp (List.forall_mem_cons.mp hos).2).2
  obtain ⟨q, g1, g2, g3, g4, g5, g6, r, h1, cell, q1, q2, q3, q4⟩ := cell_of hR hW ht hc h0 hv1
  have hr : r = (cR c, cT c, cN c) := Option.some.inj (h1.symm.trans (cl_at hc))
  subst hr
  have ht2 : t ≠ 200 := by omega
  rw [List.map_cons, List.map_cons, tv_ref _ ht2 h0]
  have hts := C.2.2.2.2.2.1
  have hin := ciw hc
  have hK := C.2.2.2.2.2.2.2.2.1.1
  have hap := va_apart (own := M.1.cls) hts hin (cty c) (cty_ok hc) (cnm hc) hK (cl_at hc)
  obtain ⟨hS1, hfc, kC, hkC, hkind⟩ := hK.1 c _ (cl_at hc)
  obtain ⟨cf, kf, fi, f, hi, hsl⟩ := hS1 k hk
  have hlay := hts _ (hin _ (u_in_lay hk))
  unfold u_lay at hlay
  rw [if_pos hfin] at hlay
  have hty2 : ∀ t, cty c k ≠ .array t ∨ True := fun _ => Or.inr trivial
  have hfv : fv G.2.2.2.1 (cty c k) x = tv G.2.2.2.1 (vi x) := by
    rw [hty]; rfl
  have hst1 := (u_facts hfc hkC (u_lays hts hin hk) hi).1
  have hn : narrow (cty c k) (tv G.2.2.2.1 (vi x)) = tv G.2.2.2.1 (vi x) := by
    rw [hty]; rfl
  have hfit : fits (cty c k) (tv G.2.2.2.1 (vi x)) = true := by
    rw [hty]; rfl
  have hcf : m.cls = cf := by
    obtain ⟨_, _, c', _, _, _, -, -, hf', -, -, -, hown2, -⟩ := Cond.laysFinal_spec hlay
    have e1 : c' = cf := by have := hi.symm.trans hf'; simp at this; exact this.1.symm
    rw [hown] at hown2
    rw [← e1]; exact Option.some.inj (C.2.2.2.2.1.symm.trans hown2)
  have h6 := u_fits hfc hkC hkind (Or.inr hlay) hi (cty_ok hc k hk) hn hfit
  refine W.putFinK C.1 C.2.1 C.2.2.2.2.1 (hts _ hl0) hi hst1 hcf ((C.2.2.2.2.2.2.2.1 hini).trans hini) (by rw [q2]; exact h6) q1 q3 (by rw [hsl]; exact k2_hasslot (q4 k hk)) rfl rfl hd fun H' e1 e2 e3 => ?_
  have e1' : H'[G.2.2.2.1 + a.toNat]? = some (cell.setSlot (G.2.1.2 c k) (tv G.2.2.2.1 (vi x))) := by rw [← hsl]; exact e1
  have hR' : RepH G ks (up h a k x) H' := by
    refine hR.set g1 ?_ e2 e3 (fun j hj => up_ne (by have := toNat_a h0; omega))
    rw [ec_obj _ _ _ g2, g3]
    refine ⟨_, cl_at hc, t_OB.to (V := updV (vp_V ((List.range (cN c)).map (fun k => fv G.2.2.2.1 (cty c k) (h a k)))) k (tv G.2.2.2.1 (vi x))) ⟨_, e1', q2, q3, t_set q4 hap hk _⟩ (fun j hj => ?_)⟩
    rw [vpV_map _ hj, toNat_a h0, up_at]
    unfold updV
    by_cases e : j = k
    · subst e
      rw [if_pos rfl, if_pos rfl]; exact hfv.symm
    · rw [if_neg e, if_neg (by omega), vpV_map _ hj]
  have hW' : WT ks (up h a k x) := by
    refine hW.set g1 ?_ (fun j hj => up_ne (by have := toNat_a h0; omega))
    have e5 : up h a k x (a.toNat : Nat) = fun j => if j = (k : Int) then x else h a j := by
      rw [toNat_a h0]; funext j; exact up_at
    rw [e5]
    exact g6.field g2 (by rw [g3]; exact (by rw [hty]; exact hv0)) (fun hq y hy => hnl (by omega) y (by rw [← g3, Nat.mod_eq_of_lt hq]; exact hy))
  have hS' := hS.put (k := f.slot) e2 e3 (show fre G _ from Nat.le_add_right _ _)
  exact kk p e s m args below meth c0 H' _ L ks ks0 C hS' hR' hW' hl hol hst hon hle hn0
theorem p_putl {idx c t : Nat} {a x : Int} (hd : decode M.2.1 pc = .ok (.putfield idx, 3)) (k : Nat) (hl0 : Cond.fieldLink M.1.cls idx (cT c k).1 (cT c k).2.1 (cT c k).2.2.1 ∈ lw_good) (hc : c < 12) (hk : k < cN c) (ht : t = c ∨ t = c + 50) (h0 : 0 ≤ a) (hty : cty c k = .long) (hfin : (cT c k).2.2.2 = false) (hnl : t = c → ∀ y ∈ lay c, y.1 ≠ k) (h2 : Hh) (hh : up h a k x = h2) (kk : PW G M rm mc ms tk n0 K (pc + 3) ls st kn cells slots h2) : PW G M rm mc ms tk n0 K pc ls (vl x :: vr t a 0 :: st) kn cells slots h := by
  intro p e s m args below meth c0 H locs L ks ks0 C hS hR hW hl hol hos hon hle hn0
  subst hh
  have hv0 := (List.forall_mem_cons.mp hos).1
  have hv1 := (List.forall_mem_cons.mp (List.forall_mem_cons.mp hos).2).1
  have hst := (List.forall_mem_cons.mp (List.forall_mem_cons.mp hos).2).2
  obtain ⟨q, g1, g2, g3, g4, g5, g6, r, h1, cell, q1, q2, q3, q4⟩ := cell_of hR hW ht hc h0 hv1
  have hr : r = (cR c, cT c, cN c) := Option.some.inj (h1.symm.trans (cl_at hc))
  subst hr
  have ht2 : t ≠ 200 := by omega
  rw [List.map_cons, List.map_cons, tv_ref _ ht2 h0]
  have hts := C.2.2.2.2.2.1
  have hin := ciw hc
  have hK := C.2.2.2.2.2.2.2.2.1.1
  have hap := va_apart (own := M.1.cls) hts hin (cty c) (cty_ok hc) (cnm hc) hK (cl_at hc)
  obtain ⟨hS1, hfc, kC, hkC, hkind⟩ := hK.1 c _ (cl_at hc)
  obtain ⟨cf, kf, fi, f, hi, hsl⟩ := hS1 k hk
  have hlay := hts _ (hin _ (u_in_lay hk))
  unfold u_lay at hlay
  rw [if_neg (by rw [hfin]; decide)] at hlay
  have hty2 : ∀ t, cty c k ≠ .array t ∨ True := fun _ => Or.inr trivial
  have hfv : fv G.2.2.2.1 (cty c k) x = tv G.2.2.2.1 (vl x) := by
    rw [hty]; rfl
  have hst1 := (u_facts hfc hkC (u_lays hts hin hk) hi).1
  have hn : narrow (cty c k) (tv G.2.2.2.1 (vl x)) = tv G.2.2.2.1 (vl x) := by
    rw [hty]; rfl
  have hfit : fits (cty c k) (tv G.2.2.2.1 (vl x)) = true := by
    rw [hty]; rfl
  have h6 := u_store hfc hkC hkind hlay hi (cty_ok hc k hk) hn hfit
  refine W.putK C.1 C.2.1 (f := f) ⟨C.2.2.2.2.1, hts _ hl0, ⟨_, _, _, hi⟩, hst1⟩ (by rw [q2]; exact h6) q1 q3 (by rw [hsl]; exact k2_hasslot (q4 k hk)) rfl rfl hd fun H' e1 e2 e3 => ?_
  have e1' : H'[G.2.2.2.1 + a.toNat]? = some (cell.setSlot (G.2.1.2 c k) (tv G.2.2.2.1 (vl x))) := by rw [← hsl]; exact e1
  have hR' : RepH G ks (up h a k x) H' := by
    refine hR.set g1 ?_ e2 e3 (fun j hj => up_ne (by have := toNat_a h0; omega))
    rw [ec_obj _ _ _ g2, g3]
    refine ⟨_, cl_at hc, t_OB.to (V := updV (vp_V ((List.range (cN c)).map (fun k => fv G.2.2.2.1 (cty c k) (h a k)))) k (tv G.2.2.2.1 (vl x))) ⟨_, e1', q2, q3, t_set q4 hap hk _⟩ (fun j hj => ?_)⟩
    rw [vpV_map _ hj, toNat_a h0, up_at]
    unfold updV
    by_cases e : j = k
    · subst e
      rw [if_pos rfl, if_pos rfl]; exact hfv.symm
    · rw [if_neg e, if_neg (by omega), vpV_map _ hj]
  have hW' : WT ks (up h a k x) := by
    refine hW.set g1 ?_ (fun j hj => up_ne (by have := toNat_a h0; omega))
    have e5 : up h a k x (a.toNat : Nat) = fun j => if j = (k : Int) then x else h a j := by
      rw [toNat_a h0]; funext j; exact up_at
    rw [e5]
    exact g6.field g2 (by rw [g3]; exact (by rw [hty]; exact hv0)) (fun hq y hy => hnl (by omega) y (by rw [← g3, Nat.mod_eq_of_lt hq]; exact hy))
  have hS' := hS.put (k := f.slot) e2 e3 (show fre G _ from Nat.le_add_right _ _)
  exact kk p e s m args below meth c0 H' _ L ks ks0 C hS' hR' hW' hl hol hst hon hle hn0
theorem p_putlN {idx c t : Nat} {a x : Int} (hd : decode M.2.1 pc = .ok (.putfield idx, 3)) (k : Nat) (hl0 : Cond.fieldLinkNest M.1.cls idx (cT c k).1 (cT c k).2.1 (cT c k).2.2.1 RX10 ∈ tables_1) (hc : c < 12) (hk : k < cN c) (ht : t = c ∨ t = c + 50) (h0 : 0 ≤ a) (hty : cty c k = .long) (hfin : (cT c k).2.2.2 = false) (hnl : t = c → ∀ y ∈ lay c, y.1 ≠ k) (h2 : Hh) (hh : up h a k x = h2) (kk : PW G M rm mc ms tk n0 K (pc + 3) ls st kn cells slots h2) : PW G M rm mc ms tk n0 K pc ls (vl x :: vr t a 0 :: st) kn cells slots h := by
  intro p e s m args below meth c0 H locs L ks ks0 C hS hR hW hl hol hos hon hle hn0
  subst hh
  have hv0 := (List.forall_mem_cons.mp hos).1
  have hv1 := (List.forall_mem_cons.mp (List.forall_mem_cons.mp hos).2).1
  have hst := (List.forall_mem_cons.mp (List.forall_mem_cons.mp hos).2).2
  obtain ⟨q, g1, g2, g3, g4, g5, g6, r, h1, cell, q1, q2, q3, q4⟩ := cell_of hR hW ht hc h0 hv1
  have hr : r = (cR c, cT c, cN c) := Option.some.inj (h1.symm.trans (cl_at hc))
  subst hr
  have ht2 : t ≠ 200 := by omega
  rw [List.map_cons, List.map_cons, tv_ref _ ht2 h0]
  have hts := C.2.2.2.2.2.1
  have hin := ciw hc
  have hK := C.2.2.2.2.2.2.2.2.1.1
  have hap := va_apart (own := M.1.cls) hts hin (cty c) (cty_ok hc) (cnm hc) hK (cl_at hc)
  obtain ⟨hS1, hfc, kC, hkC, hkind⟩ := hK.1 c _ (cl_at hc)
  obtain ⟨cf, kf, fi, f, hi, hsl⟩ := hS1 k hk
  have hlay := hts _ (hin _ (u_in_lay hk))
  unfold u_lay at hlay
  rw [if_neg (by rw [hfin]; decide)] at hlay
  have hty2 : ∀ t, cty c k ≠ .array t ∨ True := fun _ => Or.inr trivial
  have hfv : fv G.2.2.2.1 (cty c k) x = tv G.2.2.2.1 (vl x) := by
    rw [hty]; rfl
  have hst1 := (u_facts hfc hkC (u_lays hts hin hk) hi).1
  have hn : narrow (cty c k) (tv G.2.2.2.1 (vl x)) = tv G.2.2.2.1 (vl x) := by
    rw [hty]; rfl
  have hfit : fits (cty c k) (tv G.2.2.2.1 (vl x)) = true := by
    rw [hty]; rfl
  have h6 := u_store hfc hkC hkind hlay hi (cty_ok hc k hk) hn hfit
  refine va_WputK C.1 C.2.1 (f := f) C.2.2.2.2.1 (va_Nw.use (A := args) rfl (C.2.2.2.2.2.2.2.2.1.2.1 _ hl0 rfl)) hi hst1 (by rw [q2]; exact h6) q1 q3 (by rw [hsl]; exact k2_hasslot (q4 k hk)) rfl rfl hd fun H' e1 e2 e3 => ?_
  have e1' : H'[G.2.2.2.1 + a.toNat]? = some (cell.setSlot (G.2.1.2 c k) (tv G.2.2.2.1 (vl x))) := by rw [← hsl]; exact e1
  have hR' : RepH G ks (up h a k x) H' := by
    refine hR.set g1 ?_ e2 e3 (fun j hj => up_ne (by have := toNat_a h0; omega))
    rw [ec_obj _ _ _ g2, g3]
    refine ⟨_, cl_at hc, t_OB.to (V := updV (vp_V ((List.range (cN c)).map (fun k => fv G.2.2.2.1 (cty c k) (h a k)))) k (tv G.2.2.2.1 (vl x))) ⟨_, e1', q2, q3, t_set q4 hap hk _⟩ (fun j hj => ?_)⟩
    rw [vpV_map _ hj, toNat_a h0, up_at]
    unfold updV
    by_cases e : j = k
    · subst e
      rw [if_pos rfl, if_pos rfl]; exact hfv.symm
    · rw [if_neg e, if_neg (by omega), vpV_map _ hj]
  have hW' : WT ks (up h a k x) := by
    refine hW.set g1 ?_ (fun j hj => up_ne (by have := toNat_a h0; omega))
    have e5 : up h a k x (a.toNat : Nat) = fun j => if j = (k : Int) then x else h a j := by
      rw [toNat_a h0]; funext j; exact up_at
    rw [e5]
    exact g6.field g2 (by rw [g3]; exact (by rw [hty]; exact hv0)) (fun hq y hy => hnl (by omega) y (by rw [← g3, Nat.mod_eq_of_lt hq]; exact hy))
  have hS' := hS.put (k := f.slot) e2 e3 (show fre G _ from Nat.le_add_right _ _)
  exact kk p e s m args below meth c0 H' _ L ks ks0 C hS' hR' hW' hl hol hst hon hle hn0
theorem p_putlF {idx c t : Nat} {a x : Int} (hd : decode M.2.1 pc = .ok (.putfield idx, 3)) (k : Nat) (hl0 : Cond.fieldLink M.1.cls idx (cT c k).1 (cT c k).2.1 (cT c k).2.2.1 ∈ lw_good) (hc : c < 12) (hk : k < cN c) (ht : t = c ∨ t = c + 50) (h0 : 0 ≤ a) (hty : cty c k = .long) (hfin : (cT c k).2.2.2 = true) (hini : M.1.name = "<init>") (hown : (cT c k).1 = M.1.cls) (hraw : t = c + 50) (hnl : t = c → ∀ y ∈ lay c, y.1 ≠ k) (h2 : Hh) (hh : up h a k x = h2) (kk : PW G M rm mc ms tk n0 K (pc + 3) ls st kn cells slots h2) : PW G M rm mc ms tk n0 K pc ls (vl x :: vr t a 0 :: st) kn cells slots h := by
  intro p e s m args below meth c0 H locs L ks ks0 C hS hR hW hl hol hos hon hle hn0
  subst hh
  have hv0 := (List.forall_mem_cons.mp hos).1
  have hv1 := (List.forall_mem_cons.mp (List.forall_mem_cons.mp hos).2).1
  have hst := (List.forall_mem_cons.mp (List.forall_mem_cons.mp hos).2).2
  obtain ⟨q, g1, g2, g3, g4, g5, g6, r, h1, cell, q1, q2, q3, q4⟩ := cell_of hR hW ht hc h0 hv1
  have hr : r = (cR c, cT c, cN c) := Option.some.inj (h1.symm.trans (cl_at hc))
  subst hr
  have ht2 : t ≠ 200 := by omega
  rw [List.map_cons, List.map_cons, tv_ref _ ht2 h0]
  have hts := C.2.2.2.2.2.1
  have hin := ciw hc
  have hK := C.2.2.2.2.2.2.2.2.1.1
  have hap := va_apart (own := M.1.cls) hts hin (cty c) (cty_ok hc) (cnm hc) hK (cl_at hc)
  obtain ⟨hS1, hfc, kC, hkC, hkind⟩ := hK.1 c _ (cl_at hc)
  obtain ⟨cf, kf, fi, f, hi, hsl⟩ := hS1 k hk
  have hlay := hts _ (hin _ (u_in_lay hk))
  unfold u_lay at hlay
  rw [if_pos hfin] at hlay
  have hty2 : ∀ t, cty c k ≠ .array t ∨ True := fun _ => Or.inr trivial
  have hfv : fv G.2.2.2.1 (cty c k) x = tv G.2.2.2.1 (vl x) := by
    rw [hty]; rfl
  have hst1 := (u_facts hfc hkC (u_lays hts hin hk) hi).1
  have hn : narrow (cty c k) (tv G.2.2.2.1 (vl x)) = tv G.2.2.2.1 (vl x) := by
    rw [hty]; rfl
  have hfit : fits (cty c k) (tv G.2.2.2.1 (vl x)) = true := by
    rw [hty]; rfl
  have hcf : m.cls = cf := by
    obtain ⟨_, _, c', _, _, _, -, -, hf', -, -, -, hown2, -⟩ := Cond.laysFinal_spec hlay
    have e1 : c' = cf := by have := hi.symm.trans hf'; simp at this; exact this.1.symm
    rw [hown] at hown2
    rw [← e1]; exact Option.some.inj (C.2.2.2.2.1.symm.trans hown2)
  have h6 := u_fits hfc hkC hkind (Or.inr hlay) hi (cty_ok hc k hk) hn hfit
  refine W.putFinK C.1 C.2.1 C.2.2.2.2.1 (hts _ hl0) hi hst1 hcf ((C.2.2.2.2.2.2.2.1 hini).trans hini) (by rw [q2]; exact h6) q1 q3 (by rw [hsl]; exact k2_hasslot (q4 k hk)) rfl rfl hd fun H' e1 e2 e3 => ?_
  have e1' : H'[G.2.2.2.1 + a.toNat]? = some (cell.setSlot (G.2.1.2 c k) (tv G.2.2.2.1 (vl x))) := by rw [← hsl]; exact e1
  have hR' : RepH G ks (up h a k x) H' := by
    refine hR.set g1 ?_ e2 e3 (fun j hj => up_ne (by have := toNat_a h0; omega))
    rw [ec_obj _ _ _ g2, g3]
    refine ⟨_, cl_at hc, t_OB.to (V := updV (vp_V ((List.range (cN c)).map (fun k => fv G.2.2.2.1 (cty c k) (h a k)))) k (tv G.2.2.2.1 (vl x))) ⟨_, e1', q2, q3, t_set q4 hap hk _⟩ (fun j hj => ?_)⟩
    rw [vpV_map _ hj, toNat_a h0, up_at]
    unfold updV
    by_cases e : j = k
    · subst e
      rw [if_pos rfl, if_pos rfl]; exact hfv.symm
    · rw [if_neg e, if_neg (by omega), vpV_map _ hj]
  have hW' : WT ks (up h a k x) := by
    refine hW.set g1 ?_ (fun j hj => up_ne (by have := toNat_a h0; omega))
    have e5 : up h a k x (a.toNat : Nat) = fun j => if j = (k : Int) then x else h a j := by
      rw [toNat_a h0]; funext j; exact up_at
    rw [e5]
    exact g6.field g2 (by rw [g3]; exact (by rw [hty]; exact hv0)) (fun hq y hy => hnl (by omega) y (by rw [← g3, Nat.mod_eq_of_lt hq]; exact hy))
  have hS' := hS.put (k := f.slot) e2 e3 (show fre G _ from Nat.le_add_right _ _)
  exact kk p e s m args below meth c0 H' _ L ks ks0 C hS' hR' hW' hl hol hst hon hle hn0
theorem p_putr {idx c t : Nat} {a x : Int} {Cn : String} (hd : decode M.2.1 pc = .ok (.putfield idx, 3)) (k : Nat) (hl0 : Cond.fieldLink M.1.cls idx (cT c k).1 (cT c k).2.1 (cT c k).2.2.1 ∈ lw_good) (hc : c < 12) (hk : k < cN c) (ht : t = c ∨ t = c + 50) (h0 : 0 ≤ a) (hty : cty c k = .object Cn) (hfin : (cT c k).2.2.2 = false) (hnl : t = c → ∀ y ∈ lay c, y.1 ≠ k) (h2 : Hh) (hh : up h a k x = h2) (kk : PW G M rm mc ms tk n0 K (pc + 3) ls st kn cells slots h2) : PW G M rm mc ms tk n0 K pc ls (vr (ccode Cn) x 0 :: vr t a 0 :: st) kn cells slots h := by
  intro p e s m args below meth c0 H locs L ks ks0 C hS hR hW hl hol hos hon hle hn0
  subst hh
  have hv0 := (List.forall_mem_cons.mp hos).1
  have hv1 := (List.forall_mem_cons.mp (List.forall_mem_cons.mp hos).2).1
  have hst := (List.forall_mem_cons.mp (List.forall_mem_cons.mp hos).2).2
  obtain ⟨q, g1, g2, g3, g4, g5, g6, r, h1, cell, q1, q2, q3, q4⟩ := cell_of hR hW ht hc h0 hv1
  have hr : r = (cR c, cT c, cN c) := Option.some.inj (h1.symm.trans (cl_at hc))
  subst hr
  have ht2 : t ≠ 200 := by omega
  rw [List.map_cons, List.map_cons, tv_ref _ ht2 h0]
  have hts := C.2.2.2.2.2.1
  have hin := ciw hc
  have hK := C.2.2.2.2.2.2.2.2.1.1
  have hap := va_apart (own := M.1.cls) hts hin (cty c) (cty_ok hc) (cnm hc) hK (cl_at hc)
  obtain ⟨hS1, hfc, kC, hkC, hkind⟩ := hK.1 c _ (cl_at hc)
  obtain ⟨cf, kf, fi, f, hi, hsl⟩ := hS1 k hk
  have hlay := hts _ (hin _ (u_in_lay hk))
  unfold u_lay at hlay
  rw [if_neg (by rw [hfin]; decide)] at hlay
  have hty2 : ∀ t, cty c k ≠ .array t ∨ True := fun _ => Or.inr trivial
  have hfv : fv G.2.2.2.1 (cty c k) x = tv G.2.2.2.1 (vr (ccode Cn) x 0) := by
    rw [hty, ← gpv_tv]; rfl
  have hst1 := (u_facts hfc hkC (u_lays hts hin hk) hi).1
  have hn : narrow (cty c k) (tv G.2.2.2.1 (vr (ccode Cn) x 0)) = tv G.2.2.2.1 (vr (ccode Cn) x 0) := by
    rw [hty, ← gpv_tv_obj]; exact rv_narrow _ _ _
  have hfit : fits (cty c k) (tv G.2.2.2.1 (vr (ccode Cn) x 0)) = true := by
    rw [hty, ← gpv_tv_obj]; exact rv_fits _ _ _
  have h6 := u_store hfc hkC hkind hlay hi (cty_ok hc k hk) hn hfit
  refine W.putK C.1 C.2.1 (f := f) ⟨C.2.2.2.2.1, hts _ hl0, ⟨_, _, _, hi⟩, hst1⟩ (by rw [q2]; exact h6) q1 q3 (by rw [hsl]; exact k2_hasslot (q4 k hk)) rfl rfl hd fun H' e1 e2 e3 => ?_
  have e1' : H'[G.2.2.2.1 + a.toNat]? = some (cell.setSlot (G.2.1.2 c k) (tv G.2.2.2.1 (vr (ccode Cn) x 0))) := by rw [← hsl]; exact e1
  have hR' : RepH G ks (up h a k x) H' := by
    refine hR.set g1 ?_ e2 e3 (fun j hj => up_ne (by have := toNat_a h0; omega))
    rw [ec_obj _ _ _ g2, g3]
    refine ⟨_, cl_at hc, t_OB.to (V := updV (vp_V ((List.range (cN c)).map (fun k => fv G.2.2.2.1 (cty c k) (h a k)))) k (tv G.2.2.2.1 (vr (ccode Cn) x 0))) ⟨_, e1', q2, q3, t_set q4 hap hk _⟩ (fun j hj => ?_)⟩
    rw [vpV_map _ hj, toNat_a h0, up_at]
    unfold updV
    by_cases e : j = k
    · subst e
      rw [if_pos rfl, if_pos rfl]; exact hfv.symm
    · rw [if_neg e, if_neg (by omega), vpV_map _ hj]
  have hW' : WT ks (up h a k x) := by
    refine hW.set g1 ?_ (fun j hj => up_ne (by have := toNat_a h0; omega))
    have e5 : up h a k x (a.toNat : Nat) = fun j => if j = (k : Int) then x else h a j := by
      rw [toNat_a h0]; funext j; exact up_at
    rw [e5]
    exact g6.field g2 (by rw [g3]; exact (by rw [hty]; exact okr_of hv0)) (fun hq y hy => hnl (by omega) y (by rw [← g3, Nat.mod_eq_of_lt hq]; exact hy))
  have hS' := hS.put (k := f.slot) e2 e3 (show fre G _ from Nat.le_add_right _ _)
  exact kk p e s m args below meth c0 H' _ L ks ks0 C hS' hR' hW' hl hol hst hon hle hn0
theorem p_putrF {idx c t : Nat} {a x : Int} {Cn : String} (hd : decode M.2.1 pc = .ok (.putfield idx, 3)) (k : Nat) (hl0 : Cond.fieldLink M.1.cls idx (cT c k).1 (cT c k).2.1 (cT c k).2.2.1 ∈ lw_good) (hc : c < 12) (hk : k < cN c) (ht : t = c ∨ t = c + 50) (h0 : 0 ≤ a) (hty : cty c k = .object Cn) (hfin : (cT c k).2.2.2 = true) (hini : M.1.name = "<init>") (hown : (cT c k).1 = M.1.cls) (hraw : t = c + 50) (hnl : t = c → ∀ y ∈ lay c, y.1 ≠ k) (h2 : Hh) (hh : up h a k x = h2) (kk : PW G M rm mc ms tk n0 K (pc + 3) ls st kn cells slots h2) : PW G M rm mc ms tk n0 K pc ls (vr (ccode Cn) x 0 :: vr t a 0 :: st) kn cells slots h := by
  intro p e s m args below meth c0 H locs L ks ks0 C hS hR hW hl hol hos hon hle hn0
  subst hh
  have hv0 := (List.forall_mem_cons.mp hos).1
  have hv1 := (List.forall_mem_cons.mp (List.forall_mem_cons.mp hos).2).1
  have hst := (List.forall_mem_cons.mp (List.forall_mem_cons.mp hos).2).2
  obtain ⟨q, g1, g2, g3, g4, g5, g6, r, h1, cell, q1, q2, q3, q4⟩ := cell_of hR hW ht hc h0 hv1
  have hr : r = (cR c, cT c, cN c) := Option.some.inj (h1.symm.trans (cl_at hc))
  subst hr
  have ht2 : t ≠ 200 := by omega
  rw [List.map_cons, List.map_cons, tv_ref _ ht2 h0]
  have hts := C.2.2.2.2.2.1
  have hin := ciw hc
  have hK := C.2.2.2.2.2.2.2.2.1.1
  have hap := va_apart (own := M.1.cls) hts hin (cty c) (cty_ok hc) (cnm hc) hK (cl_at hc)
  obtain ⟨hS1, hfc, kC, hkC, hkind⟩ := hK.1 c _ (cl_at hc)
  obtain ⟨cf, kf, fi, f, hi, hsl⟩ := hS1 k hk
  have hlay := hts _ (hin _ (u_in_lay hk))
  unfold u_lay at hlay
  rw [if_pos hfin] at hlay
  have hty2 : ∀ t, cty c k ≠ .array t ∨ True := fun _ => Or.inr trivial
  have hfv : fv G.2.2.2.1 (cty c k) x = tv G.2.2.2.1 (vr (ccode Cn) x 0) := by
    rw [hty, ← gpv_tv]; rfl
  have hst1 := (u_facts hfc hkC (u_lays hts hin hk) hi).1
  have hn : narrow (cty c k) (tv G.2.2.2.1 (vr (ccode Cn) x 0)) = tv G.2.2.2.1 (vr (ccode Cn) x 0) := by
    rw [hty, ← gpv_tv_obj]; exact rv_narrow _ _ _
  have hfit : fits (cty c k) (tv G.2.2.2.1 (vr (ccode Cn) x 0)) = true := by
    rw [hty, ← gpv_tv_obj]; exact rv_fits _ _ _
  have hcf : m.cls = cf := by
    obtain ⟨_, _, c', _, _, _, -, -, hf', -, -, -, hown2, -⟩ := Cond.laysFinal_spec hlay
    have e1 : c' = cf := by have := hi.symm.trans hf'; simp at this; exact this.1.symm
    rw [hown] at hown2
    rw [← e1]; exact Option.some.inj (C.2.2.2.2.1.symm.trans hown2)
  have h6 := u_fits hfc hkC hkind (Or.inr hlay) hi (cty_ok hc k hk) hn hfit
  refine W.putFinK C.1 C.2.1 C.2.2.2.2.1 (hts _ hl0) hi hst1 hcf ((C.2.2.2.2.2.2.2.1 hini).trans hini) (by rw [q2]; exact h6) q1 q3 (by rw [hsl]; exact k2_hasslot (q4 k hk)) rfl rfl hd fun H' e1 e2 e3 => ?_
  have e1' : H'[G.2.2.2.1 + a.toNat]? = some (cell.setSlot (G.2.1.2 c k) (tv G.2.2.2.1 (vr (ccode Cn) x 0))) := by rw [← hsl]; exact e1
  have hR' : RepH G ks (up h a k x) H' := by
    refine hR.set g1 ?_ e2 e3 (fun j hj => up_ne (by have := toNat_a h0; omega))
    rw [ec_obj _ _ _ g2, g3]
    refine ⟨_, cl_at hc, t_OB.to (V := updV (vp_V ((List.range (cN c)).map (fun k => fv G.2.2.2.1 (cty c k) (h a k)))) k (tv G.2.2.2.1 (vr (ccode Cn) x 0))) ⟨_, e1', q2, q3, t_set q4 hap hk _⟩ (fun j hj => ?_)⟩
    rw [vpV_map _ hj, toNat_a h0, up_at]
    unfold updV
    by_cases e : j = k
    · subst e
      rw [if_pos rfl, if_pos rfl]; exact hfv.symm
    · rw [if_neg e, if_neg (by omega), vpV_map _ hj]
  have hW' : WT ks (up h a k x) := by
    refine hW.set g1 ?_ (fun j hj => up_ne (by have := toNat_a h0; omega))
    have e5 : up h a k x (a.toNat : Nat) = fun j => if j = (k : Int) then x else h a j := by
      rw [toNat_a h0]; funext j; exact up_at
    rw [e5]
    exact g6.field g2 (by rw [g3]; exact (by rw [hty]; exact okr_of hv0)) (fun hq y hy => hnl (by omega) y (by rw [← g3, Nat.mod_eq_of_lt hq]; exact hy))
  have hS' := hS.put (k := f.slot) e2 e3 (show fre G _ from Nat.le_add_right _ _)
  exact kk p e s m args below meth c0 H' _ L ks ks0 C hS' hR' hW' hl hol hst hon hle hn0
theorem p_putaF {idx c t : Nat} {a x nq : Int} {ta : FieldType} {tq : Nat} (hd : decode M.2.1 pc = .ok (.putfield idx, 3)) (k : Nat) (hl0 : Cond.fieldLink M.1.cls idx (cT c k).1 (cT c k).2.1 (cT c k).2.2.1 ∈ lw_good) (hc : c < 12) (hk : k < cN c) (ht : t = c ∨ t = c + 50) (h0 : 0 ≤ a) (hty : cty c k = .array ta) (hfin : (cT c k).2.2.2 = true) (hini : M.1.name = "<init>") (hown : (cT c k).1 = M.1.cls) (hraw : t = c + 50) (htq : tq ≠ 200) (hnl : t = c → ∀ y ∈ lay c, y.1 ≠ k) (h2 : Hh) (hh : up h a k x = h2) (kk : PW G M rm mc ms tk n0 K (pc + 3) ls st kn cells slots h2) : PW G M rm mc ms tk n0 K pc ls (vr tq x nq :: vr t a 0 :: st) kn cells slots h := by
  intro p e s m args below meth c0 H locs L ks ks0 C hS hR hW hl hol hos hon hle hn0
  subst hh
  have hv0 := (List.forall_mem_cons.mp hos).1
  have hv1 := (List.forall_mem_cons.mp (List.forall_mem_cons.mp hos).2).1
  have hst := (List.forall_mem_cons.mp (List.forall_mem_cons.mp hos).2).2
  obtain ⟨q, g1, g2, g3, g4, g5, g6, r, h1, cell, q1, q2, q3, q4⟩ := cell_of hR hW ht hc h0 hv1
  have hr : r = (cR c, cT c, cN c) := Option.some.inj (h1.symm.trans (cl_at hc))
  subst hr
  have ht2 : t ≠ 200 := by omega
  rw [List.map_cons, List.map_cons, tv_ref _ ht2 h0]
  have hts := C.2.2.2.2.2.1
  have hin := ciw hc
  have hK := C.2.2.2.2.2.2.2.2.1.1
  have hap := va_apart (own := M.1.cls) hts hin (cty c) (cty_ok hc) (cnm hc) hK (cl_at hc)
  obtain ⟨hS1, hfc, kC, hkC, hkind⟩ := hK.1 c _ (cl_at hc)
  obtain ⟨cf, kf, fi, f, hi, hsl⟩ := hS1 k hk
  have hlay := hts _ (hin _ (u_in_lay hk))
  unfold u_lay at hlay
  rw [if_pos hfin] at hlay
  have hty2 : ∀ t, cty c k ≠ .array t ∨ True := fun _ => Or.inr trivial
  have hfv : fv G.2.2.2.1 (cty c k) x = tv G.2.2.2.1 (vr tq x nq) := by
    rw [hty]; show rv _ x = (if tq = 200 then _ else rv _ x); rw [if_neg htq]
  have hst1 := (u_facts hfc hkC (u_lays hts hin hk) hi).1
  have hn : narrow (cty c k) (tv G.2.2.2.1 (vr tq x nq)) = tv G.2.2.2.1 (vr tq x nq) := by
    rw [hty]; show narrow _ (if tq = 200 then _ else rv _ x) = (if tq = 200 then _ else rv _ x); rw [if_neg htq]; exact rv_narrowA _ _ _
  have hfit : fits (cty c k) (tv G.2.2.2.1 (vr tq x nq)) = true := by
    rw [hty]; show fits _ (if tq = 200 then _ else rv _ x) = true; rw [if_neg htq]; exact rv_fitsA _ _ _
  have hcf : m.cls = cf := by
    obtain ⟨_, _, c', _, _, _, -, -, hf', -, -, -, hown2, -⟩ := Cond.laysFinal_spec hlay
    have e1 : c' = cf := by have := hi.symm.trans hf'; simp at this; exact this.1.symm
    rw [hown] at hown2
    rw [← e1]; exact Option.some.inj (C.2.2.2.2.1.symm.trans hown2)
  have h6 := u_fits hfc hkC hkind (Or.inr hlay) hi (cty_ok hc k hk) hn hfit
  refine W.putFinK C.1 C.2.1 C.2.2.2.2.1 (hts _ hl0) hi hst1 hcf ((C.2.2.2.2.2.2.2.1 hini).trans hini) (by rw [q2]; exact h6) q1 q3 (by rw [hsl]; exact k2_hasslot (q4 k hk)) rfl rfl hd fun H' e1 e2 e3 => ?_
  have e1' : H'[G.2.2.2.1 + a.toNat]? = some (cell.setSlot (G.2.1.2 c k) (tv G.2.2.2.1 (vr tq x nq))) := by rw [← hsl]; exact e1
  have hR' : RepH G ks (up h a k x) H' := by
    refine hR.set g1 ?_ e2 e3 (fun j hj => up_ne (by have := toNat_a h0; omega))
    rw [ec_obj _ _ _ g2, g3]
    refine ⟨_, cl_at hc, t_OB.to (V := updV (vp_V ((List.range (cN c)).map (fun k => fv G.2.2.2.1 (cty c k) (h a k)))) k (tv G.2.2.2.1 (vr tq x nq))) ⟨_, e1', q2, q3, t_set q4 hap hk _⟩ (fun j hj => ?_)⟩
    rw [vpV_map _ hj, toNat_a h0, up_at]
    unfold updV
    by_cases e : j = k
    · subst e
      rw [if_pos rfl, if_pos rfl]; exact hfv.symm
    · rw [if_neg e, if_neg (by omega), vpV_map _ hj]
  have hW' : WT ks (up h a k x) := by
    refine hW.set g1 ?_ (fun j hj => up_ne (by have := toNat_a h0; omega))
    have e5 : up h a k x (a.toNat : Nat) = fun j => if j = (k : Int) then x else h a j := by
      rw [toNat_a h0]; funext j; exact up_at
    rw [e5]
    exact g6.field g2 (by rw [g3]; exact (by rw [hty]; exact okv_ge hv0 htq)) (fun hq y hy => hnl (by omega) y (by rw [← g3, Nat.mod_eq_of_lt hq]; exact hy))
  have hS' := hS.put (k := f.slot) e2 e3 (show fre G _ from Nat.le_add_right _ _)
  exact kk p e s m args below meth c0 H' _ L ks ks0 C hS' hR' hW' hl hol hst hon hle hn0
end PR3
