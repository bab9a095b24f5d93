/-! rules of PW, 5: calls -/
theorem goodIn_good {ws : List Cond} (h : ∀ w ∈ ws, w ∈ lw_good) : GoodIn lw_good ws := fun w hw => ⟨h w hw, good_of_word (List.mem_filter.mp (h w hw)).2⟩
/-- what the tables say of a method that is called -/
def mOK (N : MD) (n : Nat) : Prop := Cond.code N.1 N.2.1 N.2.2.1 N.2.2.2 ∈ lw_good ∧ Cond.initialized N.1.cls ∈ lw_good ∧ (N.1.cls ≠ "java/lang/invoke/MethodHandle" ∧ N.1.cls ≠ "java/lang/invoke/VarHandle" ∧ (parseMethodDescriptor N.1.desc).map (fun d => d.parameters.length) = some n)
theorem wsM_in {N : MD} {n : Nat} (h : mOK N n) : GoodIn lw_good (wsM N) := goodIn_good (fun w hw => by
  rcases List.mem_cons.mp hw with e | e
  · rw [e]; exact h.1
  · exact e)
def pcat (v : PV) : Nat := if isL v then 2 else 1
theorem pcat_tv (b : Nat) (v : PV) : (tv b v).category = pcat v := by
  match v with
  | .inl x => rfl
  | .inr (.inl x) => rfl
  | .inr (.inr (t, a, n)) =>
    show (if t = 200 then Value.ref a.toNat else rv b a).category = 1
    split
    · rfl
    · unfold rv; split <;> rfl
theorem pcat_map (b : Nat) (st : List PV) : (st.map (tv b)).map (fun v => v.category) = st.map pcat := by
  rw [List.map_map]
  apply List.map_congr_left
  intro v _
  exact pcat_tv b v
theorem va_callx {p : Program} {l : Launch} {e : Env} {R : Room} {s : State} {m : MethodId} {args : Array Value} {below : List Frame} {meth : Method} {c : Code} {H : Heap} {locs : List Loc} {cells slots mc ms : Nat} {Q : State → Prop} {pc : Nat} {L : Array Slot} {rest st0 : List Value} {a : Array Value} {G : Gx} {ret : Option FieldType} {tk : List PV} {K : Int → Hh → Prop} {ks : List Kd}
    (hr : va_Run p l e R s m args below meth c H locs cells slots mc ms (F0 m pc L st0) rest (Qx G ret tk K ks a) (fre G)) (hS : va_S (fre G) s.heap H locs)
    (kk : ∀ (r : Int) (h' : Hh) (ks' : List Kd) (H1 : Heap) (locs1 : List Loc), K r h' → kle ks ks' → WT ks' h' → okret ks' ret r → RepH G ks' h' H1 → (∀ v ∈ tk, okv G ks' v) → va_S (fre G) s.heap H1 locs1 → W p l e R s m args below meth c H1 locs1 (cells + mc) (slots + ms) Q (F0 m (pc + 3) L ((rtv G.2.2.2.1 ret r).toList ++ rest))) : W p l e R s m args below meth c H locs cells slots Q (F0 m pc L st0) := by
  intro T hT X
  obtain ⟨v, st₀, t, T', L1, h0, X', hL, e1, e2, ⟨⟨r, h', ks', hv, hK, hle, hW, hok, hR, htk⟩, hz, hk⟩, st⟩ := hr T hT X
  cases hv
  rw [h0] at hz hk
  have hR1 : RepH G ks' h' T'.heap := by rw [e1]; exact hR
  obtain ⟨t2, a1, b1⟩ := kk r h' ks' T'.heap (locs ++ L1) hK hle hW hok hR1 htk
    ⟨Nat.le_trans hS.1 (by rw [e1]; exact hz), fun q h1 h2 => by rw [e1, hk q (Nat.lt_of_lt_of_le h1 hS.1) h2]; exact hS.2.1 q h1 h2, fun q hq => by
      rcases List.mem_append.mp hq with h | h
      · exact hS.2.2 q h
      · exact hL q h⟩ T' rfl X'
  exact ⟨t2, st t2 a1, b1⟩
theorem Pc_blind (G : Gx) (av : List Value) (ks : List Kd) (h : Hh) : FrameBlind (va_Pc av (fun U => RepH G ks h U.heap ∧ KK G U ∧ G.2.2.2.1 ≤ U.heap.size)) := by
  intro a U g mk ⟨e, h1, h2, h3⟩
  exact ⟨e, h1, KK.same (u := U) (U := U.calling g mk a) rfl h2, h3⟩
theorem Pc_at {G : Gx} {M : MD} {p : Program} {s : State} {m : MethodId} {args : Array Value} {meth : Method} {c : Code} {H : Heap} {locs : List Loc} {ks : List Kd} {h : Hh} {av : List Value} (C : Cx G M p s m args meth c) (hS : va_S (fre G) s.heap H locs) (hR : RepH G ks h H) : ∀ U : State, U.heap = H → s.WarmedH U.vm → va_Pc av (fun U => RepH G ks h U.heap ∧ KK G U ∧ G.2.2.2.1 ≤ U.heap.size) av.toArray U := by
  intro U hU hWm
  refine ⟨rfl, by rw [hU]; exact hR, KK.warm hWm C.2.2.2.2.2.2.2.2.1, ?_⟩
  rw [hU]
  exact Nat.le_trans C.2.2.2.2.2.2.2.2.2.1 hS.1
section PR5
variable {G : Gx} {M : MD} {rm : Room} {mc ms : Nat} {tk : List PV} {n0 : Int} {K : Int → Hh → Prop} {pc : Nat} {ls : List (Nat × PV)} {st kn : List PV} {cells slots : Nat} {h : Hh}
theorem p_callVi {idx c n : Nat} {a : Int} {stk : List PV} {rmN : Room} {mcN msN : Nat} {tkN : List PV} {K' : Int → Hh → Prop} (hd : decode M.2.1 pc = .ok (.invokevirtual idx, 3)) (N : MD) (hret : N.2.2.2 = some .int ∨ N.2.2.2 = some .boolean)  (as : List PV) (hC : CT G N rmN mcN msN tkN (vr c a 0 :: as) h K') (hm : mOK N n) (hn : as.length = n) (hc : c < 12) (h0 : 0 ≤ a) (hcls : N.1.cls = cR c) (hlk : Cond.methodLink M.1.cls idx N.1 ∈ lw_good) (hsel : Cond.instanceMethod N.1 ∈ lw_good ∧ Cond.selects (cR c) N.1 N.1 ∈ lw_good) (hstk : as.reverse ++ vr c a 0 :: st = stk) (hrest : (st.map pcat).sum ≤ 8) (hrm : rmN.cells = mcN ∧ rmN.slots = msN) (hroom : rmN.frames + 1 ≤ rm.frames ∧ 8 + (N.2.2.1 + 11) + rmN.locals ≤ rm.locals) (hf : cells + mcN ≤ rm.cells ∧ slots + msN ≤ rm.slots) (kk : ∀ (r : Int) (h' : Hh), K' r h' → PW G M rm mc ms tk n0 K (pc + 3) ls (vi r :: st) (tkN ++ kn) (cells + mcN) (slots + msN) h') : PW G M rm mc ms tk n0 K pc ls stk kn cells slots h := by
  intro p e s m args below meth c0 H locs L ks ks0 C hS hR hW hl hol hos hon hle hn0
  subst hstk
  have hva : ∀ v ∈ as, okv G ks v := fun v hv => hos v (List.mem_append_left _ (List.mem_reverse.mpr hv))
  have hthis : okv G ks (vr c a 0) := hos _ (List.mem_append_right _ List.mem_cons_self)
  have hst : ∀ v ∈ st, okv G ks v := fun v hv => hos v (List.mem_append_right _ (List.mem_cons_of_mem _ hv))
  obtain ⟨q, g1, g2, g3, g4, g5, g6, r0, h1, cell, q1, q2, q3, q4⟩ := cell_of hR hW (Or.inl rfl) hc h0 hthis
  have hfc : s.vm.findClass (cR c) = some (G.2.1.1 c) := (C.2.2.2.2.2.2.2.2.1.1.1 c _ (cl_at hc)).2.1
  have hM := hC ks hW (List.forall_mem_cons.mpr ⟨hthis, hva⟩)
  rw [List.map_cons, tv_ref _ (by omega) h0] at hM
  have hstack : (as.reverse ++ vr c a 0 :: st).map (tv G.2.2.2.1) = (as.map (tv G.2.2.2.1)).reverse ++ .ref (G.2.2.2.1 + a.toNat) :: st.map (tv G.2.2.2.1) := by
    rw [List.map_append, List.map_reverse, List.map_cons, tv_ref _ (by omega) h0]
  rw [hstack]
  have hts := C.2.2.2.2.2.1
  have hcb := callB_of n hts (wsM_in hm) rfl hrm.1 hrm.2 (hts _ hm.2.1) (hts _ hlk) hm.2.2 hroom
  refine va_callx (G := G) (ks := ks) (va_runV (C := cR c) (As := as.map (tv G.2.2.2.1)) (rest := st.map (tv G.2.2.2.1)) ⟨C.1, C.2.1, C.2.2.2.1, C.2.2.2.2.1, hts⟩ hM ⟨hcb, hts _ hsel.1, hts _ hsel.2⟩ ⟨Pc_blind G _ ks h, ⟨cell, q1, by rw [q3]; rfl, by rw [q2]; exact hfc⟩, Pc_at (av := .ref (G.2.2.2.1 + a.toNat) :: as.map (tv G.2.2.2.1)) C hS hR⟩ rfl (by rw [List.length_map]; exact hn) hl.1 rfl (lv_room (by rw [pcat_map]; exact hrest)) hd hf) hS (fun r h' ks' H1 locs1 hK' hkl hW1 hok hR1 htk1 hS1 => ?_)
  · rcases hret with hret | hret
    · rw [hret] at hok ⊢
      exact (fun hz => kk r h' hK' p e s m args below meth c0 H1 locs1 L ks' ks0 C hS1 hR1 hW1 hl (fun q hq => (hol q hq).up hkl) (List.forall_mem_cons.mpr ⟨hz, fun v hv => (hst v hv).up hkl⟩) (fun v hv => (List.mem_append.mp hv).elim (fun z => htk1 v z) (fun z => (hon v z).up hkl)) (hle.tr hkl) hn0) hok
    · rw [hret] at hok ⊢
      exact (fun hz => kk r h' hK' p e s m args below meth c0 H1 locs1 L ks' ks0 C hS1 hR1 hW1 hl (fun q hq => (hol q hq).up hkl) (List.forall_mem_cons.mpr ⟨hz, fun v hv => (hst v hv).up hkl⟩) (fun v hv => (List.mem_append.mp hv).elim (fun z => htk1 v z) (fun z => (hon v z).up hkl)) (hle.tr hkl) hn0) hok
theorem p_callVl {idx c n : Nat} {a : Int} {stk : List PV} {rmN : Room} {mcN msN : Nat} {tkN : List PV} {K' : Int → Hh → Prop} (hd : decode M.2.1 pc = .ok (.invokevirtual idx, 3)) (N : MD) (hret : N.2.2.2 = some .long)  (as : List PV) (hC : CT G N rmN mcN msN tkN (vr c a 0 :: as) h K') (hm : mOK N n) (hn : as.length = n) (hc : c < 12) (h0 : 0 ≤ a) (hcls : N.1.cls = cR c) (hlk : Cond.methodLink M.1.cls idx N.1 ∈ lw_good) (hsel : Cond.instanceMethod N.1 ∈ lw_good ∧ Cond.selects (cR c) N.1 N.1 ∈ lw_good) (hstk : as.reverse ++ vr c a 0 :: st = stk) (hrest : (st.map pcat).sum ≤ 8) (hrm : rmN.cells = mcN ∧ rmN.slots = msN) (hroom : rmN.frames + 1 ≤ rm.frames ∧ 8 + (N.2.2.1 + 11) + rmN.locals ≤ rm.locals) (hf : cells + mcN ≤ rm.cells ∧ slots + msN ≤ rm.slots) (kk : ∀ (r : Int) (h' : Hh), K' r h' → PW G M rm mc ms tk n0 K (pc + 3) ls (vl r :: st) (tkN ++ kn) (cells + mcN) (slots + msN) h') : PW G M rm mc ms tk n0 K pc ls stk kn cells slots h := by
  intro p e s m args below meth c0 H locs L ks ks0 C hS hR hW hl hol hos hon hle hn0
  subst hstk
  have hva : ∀ v ∈ as, okv G ks v := fun v hv => hos v (List.mem_append_left _ (List.mem_reverse.mpr hv))
  have hthis : okv G ks (vr c a 0) := hos _ (List.mem_append_right _ List.mem_cons_self)
  have hst : ∀ v ∈ st, okv G ks v := fun v hv => hos v (List.mem_append_right _ (List.mem_cons_of_mem _ hv))
  obtain ⟨q, g1, g2, g3, g4, g5, g6, r0, h1, cell, q1, q2, q3, q4⟩ := cell_of hR hW (Or.inl rfl) hc h0 hthis
  have hfc : s.vm.findClass (cR c) = some (G.2.1.1 c) := (C.2.2.2.2.2.2.2.2.1.1.1 c _ (cl_at hc)).2.1
  have hM := hC ks hW (List.forall_mem_cons.mpr ⟨hthis, hva⟩)
  rw [List.map_cons, tv_ref _ (by omega) h0] at hM
  have hstack : (as.reverse ++ vr c a 0 :: st).map (tv G.2.2.2.1) = (as.map (tv G.2.2.2.1)).reverse ++ .ref (G.2.2.2.1 + a.toNat) :: st.map (tv G.2.2.2.1) := by
    rw [List.map_append, List.map_reverse, List.map_cons, tv_ref _ (by omega) h0]
  rw [hstack]
  have hts := C.2.2.2.2.2.1
  have hcb := callB_of n hts (wsM_in hm) rfl hrm.1 hrm.2 (hts _ hm.2.1) (hts _ hlk) hm.2.2 hroom
  refine va_callx (G := G) (ks := ks) (va_runV (C := cR c) (As := as.map (tv G.2.2.2.1)) (rest := st.map (tv G.2.2.2.1)) ⟨C.1, C.2.1, C.2.2.2.1, C.2.2.2.2.1, hts⟩ hM ⟨hcb, hts _ hsel.1, hts _ hsel.2⟩ ⟨Pc_blind G _ ks h, ⟨cell, q1, by rw [q3]; rfl, by rw [q2]; exact hfc⟩, Pc_at (av := .ref (G.2.2.2.1 + a.toNat) :: as.map (tv G.2.2.2.1)) C hS hR⟩ rfl (by rw [List.length_map]; exact hn) hl.1 rfl (lv_room (by rw [pcat_map]; exact hrest)) hd hf) hS (fun r h' ks' H1 locs1 hK' hkl hW1 hok hR1 htk1 hS1 => ?_)
  · rw [hret] at hok ⊢
    exact (fun hz => kk r h' hK' p e s m args below meth c0 H1 locs1 L ks' ks0 C hS1 hR1 hW1 hl (fun q hq => (hol q hq).up hkl) (List.forall_mem_cons.mpr ⟨hz, fun v hv => (hst v hv).up hkl⟩) (fun v hv => (List.mem_append.mp hv).elim (fun z => htk1 v z) (fun z => (hon v z).up hkl)) (hle.tr hkl) hn0) hok
theorem p_callVv {idx c n : Nat} {a : Int} {stk : List PV} {rmN : Room} {mcN msN : Nat} {tkN : List PV} {K' : Int → Hh → Prop} (hd : decode M.2.1 pc = .ok (.invokevirtual idx, 3)) (N : MD) (hret : N.2.2.2 = none)  (as : List PV) (hC : CT G N rmN mcN msN tkN (vr c a 0 :: as) h K') (hm : mOK N n) (hn : as.length = n) (hc : c < 12) (h0 : 0 ≤ a) (hcls : N.1.cls = cR c) (hlk : Cond.methodLink M.1.cls idx N.1 ∈ lw_good) (hsel : Cond.instanceMethod N.1 ∈ lw_good ∧ Cond.selects (cR c) N.1 N.1 ∈ lw_good) (hstk : as.reverse ++ vr c a 0 :: st = stk) (hrest : (st.map pcat).sum ≤ 8) (hrm : rmN.cells = mcN ∧ rmN.slots = msN) (hroom : rmN.frames + 1 ≤ rm.frames ∧ 8 + (N.2.2.1 + 11) + rmN.locals ≤ rm.locals) (hf : cells + mcN ≤ rm.cells ∧ slots + msN ≤ rm.slots) (kk : ∀ (r : Int) (h' : Hh), K' r h' → PW G M rm mc ms tk n0 K (pc + 3) ls (st) (tkN ++ kn) (cells + mcN) (slots + msN) h') : PW G M rm mc ms tk n0 K pc ls stk kn cells slots h := by
  intro p e s m args below meth c0 H locs L ks ks0 C hS hR hW hl hol hos hon hle hn0
  subst hstk
  have hva : ∀ v ∈ as, okv G ks v := fun v hv => hos v (List.mem_append_left _ (List.mem_reverse.mpr hv))
  have hthis : okv G ks (vr c a 0) := hos _ (List.mem_append_right _ List.mem_cons_self)
  have hst : ∀ v ∈ st, okv G ks v := fun v hv => hos v (List.mem_append_right _ (List.mem_cons_of_mem _ hv))
  obtain ⟨q, g1, g2, g3, g4, g5, g6, r0, h1, cell, q1, q2, q3, q4⟩ := cell_of hR hW (Or.inl rfl) hc h0 hthis
  have hfc : s.vm.findClass (cR c) = some (G.2.1.1 c) := (C.2.2.2.2.2.2.2.2.1.1.1 c _ (cl_at hc)).2.1
  have hM := hC ks hW (List.forall_mem_cons.mpr ⟨hthis, hva⟩)
  rw [List.map_cons, tv_ref _ (by omega) h0] at hM
  have hstack : (as.reverse ++ vr c a 0 :: st).map (tv G.2.2.2.1) = (as.map (tv G.2.2.2.1)).reverse ++ .ref (G.2.2.2.1 + a.toNat) :: st.map (tv G.2.2.2.1) := by
    rw [List.map_append, List.map_reverse, List.map_cons, tv_ref _ (by omega) h0]
  rw [hstack]
  have hts := C.2.2.2.2.2.1
  have hcb := callB_of n hts (wsM_in hm) rfl hrm.1 hrm.2 (hts _ hm.2.1) (hts _ hlk) hm.2.2 hroom
  refine va_callx (G := G) (ks := ks) (va_runV (C := cR c) (As := as.map (tv G.2.2.2.1)) (rest := st.map (tv G.2.2.2.1)) ⟨C.1, C.2.1, C.2.2.2.1, C.2.2.2.2.1, hts⟩ hM ⟨hcb, hts _ hsel.1, hts _ hsel.2⟩ ⟨Pc_blind G _ ks h, ⟨cell, q1, by rw [q3]; rfl, by rw [q2]; exact hfc⟩, Pc_at (av := .ref (G.2.2.2.1 + a.toNat) :: as.map (tv G.2.2.2.1)) C hS hR⟩ rfl (by rw [List.length_map]; exact hn) hl.1 rfl (lv_room (by rw [pcat_map]; exact hrest)) hd hf) hS (fun r h' ks' H1 locs1 hK' hkl hW1 hok hR1 htk1 hS1 => ?_)
  · rw [hret]
    exact kk r h' hK' p e s m args below meth c0 H1 locs1 L ks' ks0 C hS1 hR1 hW1 hl (fun q hq => (hol q hq).up hkl) (fun v hv => (hst v hv).up hkl) (fun v hv => (List.mem_append.mp hv).elim (fun z => htk1 v z) (fun z => (hon v z).up hkl)) (hle.tr hkl) hn0
theorem p_callVr {idx c n : Nat} {a : Int} {stk : List PV} {rmN : Room} {mcN msN : Nat} {tkN : List PV} {K' : Int → Hh → Prop} (hd : decode M.2.1 pc = .ok (.invokevirtual idx, 3)) (N : MD) {Cn : String} (hret : N.2.2.2 = some (.object Cn))  (as : List PV) (hC : CT G N rmN mcN msN tkN (vr c a 0 :: as) h K') (hm : mOK N n) (hn : as.length = n) (hc : c < 12) (h0 : 0 ≤ a) (hcls : N.1.cls = cR c) (hlk : Cond.methodLink M.1.cls idx N.1 ∈ lw_good) (hsel : Cond.instanceMethod N.1 ∈ lw_good ∧ Cond.selects (cR c) N.1 N.1 ∈ lw_good) (hstk : as.reverse ++ vr c a 0 :: st = stk) (hrest : (st.map pcat).sum ≤ 8) (hrm : rmN.cells = mcN ∧ rmN.slots = msN) (hroom : rmN.frames + 1 ≤ rm.frames ∧ 8 + (N.2.2.1 + 11) + rmN.locals ≤ rm.locals) (hf : cells + mcN ≤ rm.cells ∧ slots + msN ≤ rm.slots) (kk : ∀ (r : Int) (h' : Hh), K' r h' → PW G M rm mc ms tk n0 K (pc + 3) ls (vr (ccode Cn) r 0 :: st) (tkN ++ kn) (cells + mcN) (slots + msN) h') : PW G M rm mc ms tk n0 K pc ls stk kn cells slots h := by
  intro p e s m args below meth c0 H locs L ks ks0 C hS hR hW hl hol hos hon hle hn0
  subst hstk
  have hva : ∀ v ∈ as, okv G ks v := fun v hv => hos v (List.mem_append_left _ (List.mem_reverse.mpr hv))
  have hthis : okv G ks (vr c a 0) := hos _ (List.mem_append_right _ List.mem_cons_self)
  have hst : ∀ v ∈ st, okv G ks v := fun v hv => hos v (List.mem_append_right _ (List.mem_cons_of_mem _ hv))
  obtain ⟨q, g1, g2, g3, g4, g5, g6, r0, h1, cell, q1, q2, q3, q4⟩ := cell_of hR hW (Or.inl rfl) hc h0 hthis
  have hfc : s.vm.findClass (cR c) = some (G.2.1.1 c) := (C.2.2.2.2.2.2.2.2.1.1.1 c _ (cl_at hc)).2.1
  have hM := hC ks hW (List.forall_mem_cons.mpr ⟨hthis, hva⟩)
  rw [List.map_cons, tv_ref _ (by omega) h0] at hM
  have hstack : (as.reverse ++ vr c a 0 :: st).map (tv G.2.2.2.1) = (as.map (tv G.2.2.2.1)).reverse ++ .ref (G.2.2.2.1 + a.toNat) :: st.map (tv G.2.2.2.1) := by
    rw [List.map_append, List.map_reverse, List.map_cons, tv_ref _ (by omega) h0]
  rw [hstack]
  have hts := C.2.2.2.2.2.1
  have hcb := callB_of n hts (wsM_in hm) rfl hrm.1 hrm.2 (hts _ hm.2.1) (hts _ hlk) hm.2.2 hroom
  refine va_callx (G := G) (ks := ks) (va_runV (C := cR c) (As := as.map (tv G.2.2.2.1)) (rest := st.map (tv G.2.2.2.1)) ⟨C.1, C.2.1, C.2.2.2.1, C.2.2.2.2.1, hts⟩ hM ⟨hcb, hts _ hsel.1, hts _ hsel.2⟩ ⟨Pc_blind G _ ks h, ⟨cell, q1, by rw [q3]; rfl, by rw [q2]; exact hfc⟩, Pc_at (av := .ref (G.2.2.2.1 + a.toNat) :: as.map (tv G.2.2.2.1)) C hS hR⟩ rfl (by rw [List.length_map]; exact hn) hl.1 rfl (lv_room (by rw [pcat_map]; exact hrest)) hd hf) hS (fun r h' ks' H1 locs1 hK' hkl hW1 hok hR1 htk1 hS1 => ?_)
  · rw [hret] at hok ⊢
    have hg := (fun hz => kk r h' hK' p e s m args below meth c0 H1 locs1 L ks' ks0 C hS1 hR1 hW1 hl (fun q hq => (hol q hq).up hkl) (List.forall_mem_cons.mpr ⟨hz, fun v hv => (hst v hv).up hkl⟩) (fun v hv => (List.mem_append.mp hv).elim (fun z => htk1 v z) (fun z => (hon v z).up hkl)) (hle.tr hkl) hn0) (okv_r (by have := ccode_lt Cn; omega) hok)
    rw [List.map_cons, ← gpv_tv_obj] at hg
    exact hg
theorem p_callVNi {idx c n : Nat} {a : Int} {stk : List PV} {rmN : Room} {mcN msN : Nat} {tkN : List PV} {K' : Int → Hh → Prop} (hd : decode M.2.1 pc = .ok (.invokevirtual idx, 3)) (N : MD) (hret : N.2.2.2 = some .int ∨ N.2.2.2 = some .boolean)  (as : List PV) (hC : CT G N rmN mcN msN tkN (vr c a 0 :: as) h K') (hm : mOK N n) (hn : as.length = n) (hc : c < 12) (h0 : 0 ≤ a) (hcls : N.1.cls = cR c) (hlk : Cond.methodLinkNest M.1.cls idx N.1 RX10 ∈ tables_1) (hsel : Cond.instanceMethod N.1 ∈ lw_good ∧ Cond.selects (cR c) N.1 N.1 ∈ lw_good) (hstk : as.reverse ++ vr c a 0 :: st = stk) (hrest : (st.map pcat).sum ≤ 8) (hrm : rmN.cells = mcN ∧ rmN.slots = msN) (hroom : rmN.frames + 1 ≤ rm.frames ∧ 8 + (N.2.2.1 + 11) + rmN.locals ≤ rm.locals) (hf : cells + mcN ≤ rm.cells ∧ slots + msN ≤ rm.slots) (kk : ∀ (r : Int) (h' : Hh), K' r h' → PW G M rm mc ms tk n0 K (pc + 3) ls (vi r :: st) (tkN ++ kn) (cells + mcN) (slots + msN) h') : PW G M rm mc ms tk n0 K pc ls stk kn cells slots h := by
  intro p e s m args below meth c0 H locs L ks ks0 C hS hR hW hl hol hos hon hle hn0
  subst hstk
  have hva : ∀ v ∈ as, okv G ks v := fun v hv => hos v (List.mem_append_left _ (List.mem_reverse.mpr hv))
  have hthis : okv G ks (vr c a 0) := hos _ (List.mem_append_right _ List.mem_cons_self)
  have hst : ∀ v ∈ st, okv G ks v := fun v hv => hos v (List.mem_append_right _ (List.mem_cons_of_mem _ hv))
  obtain ⟨q, g1, g2, g3, g4, g5, g6, r0, h1, cell, q1, q2, q3, q4⟩ := cell_of hR hW (Or.inl rfl) hc h0 hthis
  have hfc : s.vm.findClass (cR c) = some (G.2.1.1 c) := (C.2.2.2.2.2.2.2.2.1.1.1 c _ (cl_at hc)).2.1
  have hM := hC ks hW (List.forall_mem_cons.mpr ⟨hthis, hva⟩)
  rw [List.map_cons, tv_ref _ (by omega) h0] at hM
  have hstack : (as.reverse ++ vr c a 0 :: st).map (tv G.2.2.2.1) = (as.map (tv G.2.2.2.1)).reverse ++ .ref (G.2.2.2.1 + a.toNat) :: st.map (tv G.2.2.2.1) := by
    rw [List.map_append, List.map_reverse, List.map_cons, tv_ref _ (by omega) h0]
  rw [hstack]
  have hts := C.2.2.2.2.2.1
  have hcb := va_cnB n hts (wsM_in hm) rfl hrm.1 hrm.2 (C.2.2.2.2.2.2.2.2.1.2.1 _ hlk rfl) (hts _ hm.2.1) hm.2.2 hroom
  refine va_callx (G := G) (ks := ks) (va_runVN (C := cR c) (As := as.map (tv G.2.2.2.1)) (rest := st.map (tv G.2.2.2.1)) ⟨C.1, C.2.1, C.2.2.2.1, C.2.2.2.2.1, hts⟩ hM ⟨hcb, hts _ hsel.1, hts _ hsel.2⟩ ⟨Pc_blind G _ ks h, ⟨cell, q1, by rw [q3]; rfl, by rw [q2]; exact hfc⟩, Pc_at (av := .ref (G.2.2.2.1 + a.toNat) :: as.map (tv G.2.2.2.1)) C hS hR⟩ rfl (by rw [List.length_map]; exact hn) hl.1 rfl (lv_room (by rw [pcat_map]; exact hrest)) hd hf) hS (fun r h' ks' H1 locs1 hK' hkl hW1 hok hR1 htk1 hS1 => ?_)
  · rcases hret with hret | hret
    · rw [hret] at hok ⊢
      exact (fun hz => kk r h' hK' p e s m args below meth c0 H1 locs1 L ks' ks0 C hS1 hR1 hW1 hl (fun q hq => (hol q hq).up hkl) (List.forall_mem_cons.mpr ⟨hz, fun v hv => (hst v hv).up hkl⟩) (fun v hv => (List.mem_append.mp hv).elim (fun z => htk1 v z) (fun z => (hon v z).up hkl)) (hle.tr hkl) hn0) hok
    · rw [hret] at hok ⊢
      exact (fun hz => kk r h' hK' p e s m args below meth c0 H1 locs1 L ks' ks0 C hS1 hR1 hW1 hl (fun q hq => (hol q hq).up hkl) (List.forall_mem_cons.mpr ⟨hz, fun v hv => (hst v hv).up hkl⟩) (fun v hv => (List.mem_append.mp hv).elim (fun z => htk1 v z) (fun z => (hon v z).up hkl)) (hle.tr hkl) hn0) hok
theorem p_callVNl {idx c n : Nat} {a : Int} {stk : List PV} {rmN : Room} {mcN msN : Nat} {tkN : List PV} {K' : Int → Hh → Prop} (hd : decode M.2.1 pc = .ok (.invokevirtual idx, 3)) (N : MD) (hret : N.2.2.2 = some .long)  (as : List PV) (hC : CT G N rmN mcN msN tkN (vr c a 0 :: as) h K') (hm : mOK N n) (hn : as.length = n) (hc : c < 12) (h0 : 0 ≤ a) (hcls : N.1.cls = cR c) (hlk : Cond.methodLinkNest M.1.cls idx N.1 RX10 ∈ tables_1) (hsel : Cond.instanceMethod N.1 ∈ lw_good ∧ Cond.selects (cR c) N.1 N.1 ∈ lw_good) (hstk : as.reverse ++ vr c a 0 :: st = stk) (hrest : (st.map pcat).sum ≤ 8) (hrm : rmN.cells = mcN ∧ rmN.slots = msN) (hroom : rmN.frames + 1 ≤ rm.frames ∧ 8 + (N.2.2.1 + 11) + rmN.locals ≤ rm.locals) (hf : cells + mcN ≤ rm.cells ∧ slots + msN ≤ rm.slots) (kk : ∀ (r : Int) (h' : Hh), K' r h' → PW G M rm mc ms tk n0 K (pc + 3) ls (vl r :: st) (tkN ++ kn) (cells + mcN) (slots + msN) h') : PW G M rm mc ms tk n0 K pc ls stk kn cells slots h := by
  intro p e s m args below meth c0 H locs L ks ks0 C hS hR hW hl hol hos hon hle hn0
  subst hstk
  have hva : ∀ v ∈ as, okv G ks v := fun v hv => hos v (List.mem_append_left _ (List.mem_reverse.mpr hv))
  have hthis : okv G ks (vr c a 0) := hos _ (List.mem_append_right _ List.mem_cons_self)
  have hst : ∀ v ∈ st, okv G ks v := fun v hv => hos v (List.mem_append_right _ (List.mem_cons_of_mem _ hv))
  obtain ⟨q, g1, g2, g3, g4, g5, g6, r0, h1, cell, q1, q2, q3, q4⟩ := cell_of hR hW (Or.inl rfl) hc h0 hthis
  have hfc : s.vm.findClass (cR c) = some (G.2.1.1 c) := (C.2.2.2.2.2.2.2.2.1.1.1 c _ (cl_at hc)).2.1
  have hM := hC ks hW (List.forall_mem_cons.mpr ⟨hthis, hva⟩)
  rw [List.map_cons, tv_ref _ (by omega) h0] at hM
  have hstack : (as.reverse ++ vr c a 0 :: st).map (tv G.2.2.2.1) = (as.map (tv G.2.2.2.1)).reverse ++ .ref (G.2.2.2.1 + a.toNat) :: st.map (tv G.2.2.2.1) := by
    rw [List.map_append, List.map_reverse, List.map_cons, tv_ref _ (by omega) h0]
  rw [hstack]
  have hts := C.2.2.2.2.2.1
  have hcb := va_cnB n hts (wsM_in hm) rfl hrm.1 hrm.2 (C.2.2.2.2.2.2.2.2.1.2.1 _ hlk rfl) (hts _ hm.2.1) hm.2.2 hroom
  refine va_callx (G := G) (ks := ks) (va_runVN (C := cR c) (As := as.map (tv G.2.2.2.1)) (rest := st.map (tv G.2.2.2.1)) ⟨C.1, C.2.1, C.2.2.2.1, C.2.2.2.2.1, hts⟩ hM ⟨hcb, hts _ hsel.1, hts _ hsel.2⟩ ⟨Pc_blind G _ ks h, ⟨cell, q1, by rw [q3]; rfl, by rw [q2]; exact hfc⟩, Pc_at (av := .ref (G.2.2.2.1 + a.toNat) :: as.map (tv G.2.2.2.1)) C hS hR⟩ rfl (by rw [List.length_map]; exact hn) hl.1 rfl (lv_room (by rw [pcat_map]; exact hrest)) hd hf) hS (fun r h' ks' H1 locs1 hK' hkl hW1 hok hR1 htk1 hS1 => ?_)
  · rw [hret] at hok ⊢
    exact (fun hz => kk r h' hK' p e s m args below meth c0 H1 locs1 L ks' ks0 C hS1 hR1 hW1 hl (fun q hq => (hol q hq).up hkl) (List.forall_mem_cons.mpr ⟨hz, fun v hv => (hst v hv).up hkl⟩) (fun v hv => (List.mem_append.mp hv).elim (fun z => htk1 v z) (fun z => (hon v z).up hkl)) (hle.tr hkl) hn0) hok
theorem p_callVNv {idx c n : Nat} {a : Int} {stk : List PV} {rmN : Room} {mcN msN : Nat} {tkN : List PV} {K' : Int → Hh → Prop} (hd : decode M.2.1 pc = .ok (.invokevirtual idx, 3)) (N : MD) (hret : N.2.2.2 = none)  (as : List PV) (hC : CT G N rmN mcN msN tkN (vr c a 0 :: as) h K') (hm : mOK N n) (hn : as.length = n) (hc : c < 12) (h0 : 0 ≤ a) (hcls : N.1.cls = cR c) (hlk : Cond.methodLinkNest M.1.cls idx N.1 RX10 ∈ tables_1) (hsel : Cond.instanceMethod N.1 ∈ lw_good ∧ Cond.selects (cR c) N.1 N.1 ∈ lw_good) (hstk : as.reverse ++ vr c a 0 :: st = stk) (hrest : (st.map pcat).sum ≤ 8) (hrm : rmN.cells = mcN ∧ rmN.slots = msN) (hroom : rmN.frames + 1 ≤ rm.frames ∧ 8 + (N.2.2.1 + 11) + rmN.locals ≤ rm.locals) (hf : cells + mcN ≤ rm.cells ∧ slots + msN ≤ rm.slots) (kk : ∀ (r : Int) (h' : Hh), K' r h' → PW G M rm mc ms tk n0 K (pc + 3) ls (st) (tkN ++ kn) (cells + mcN) (slots + msN) h') : PW G M rm mc ms tk n0 K pc ls stk kn cells slots h := by
  intro p e s m args below meth c0 H locs L ks ks0 C hS hR hW hl hol hos hon hle hn0
  subst hstk
  have hva : ∀ v ∈ as, okv G ks v := fun v hv => hos v (List.mem_append_left _ (List.mem_reverse.mpr hv))
  have hthis : okv G ks (vr c a 0) := hos _ (List.mem_append_right _ List.mem_cons_self)
  have hst : ∀ v ∈ st, okv G ks v := fun v hv => hos v (List.mem_append_right _ (List.mem_cons_of_mem _ hv))
  obtain ⟨q, g1, g2, g3, g4, g5, g6, r0, h1, cell, q1, q2, q3, q4⟩ := cell_of hR hW (Or.inl rfl) hc h0 hthis
  have hfc : s.vm.findClass (cR c) = some (G.2.1.1 c) := (C.2.2.2.2.2.2.2.2.1.1.1 c _ (cl_at hc)).2.1
  have hM := hC ks hW (List.forall_mem_cons.mpr ⟨hthis, hva⟩)
  rw [List.map_cons, tv_ref _ (by omega) h0] at hM
  have hstack : (as.reverse ++ vr c a 0 :: st).map (tv G.2.2.2.1) = (as.map (tv G.2.2.2.1)).reverse ++ .ref (G.2.2.2.1 + a.toNat) :: st.map (tv G.2.2.2.1) := by
    rw [List.map_append, List.map_reverse, List.map_cons, tv_ref _ (by omega) h0]
  rw [hstack]
  have hts := C.2.2.2.2.2.1
  have hcb := va_cnB n hts (wsM_in hm) rfl hrm.1 hrm.2 (C.2.2.2.2.2.2.2.2.1.2.1 _ hlk rfl) (hts _ hm.2.1) hm.2.2 hroom
  refine va_callx (G := G) (ks := ks) (va_runVN (C := cR c) (As := as.map (tv G.2.2.2.1)) (rest := st.map (tv G.2.2.2.1)) ⟨C.1, C.2.1, C.2.2.2.1, C.2.2.2.2.1, hts⟩ hM ⟨hcb, hts _ hsel.1, hts _ hsel.2⟩ ⟨Pc_blind G _ ks h, ⟨cell, q1, by rw [q3]; rfl, by rw [q2]; exact hfc⟩, Pc_at (av := .ref (G.2.2.2.1 + a.toNat) :: as.map (tv G.2.2.2.1)) C hS hR⟩ rfl (by rw [List.length_map]; exact hn) hl.1 rfl (lv_room (by rw [pcat_map]; exact hrest)) hd hf) hS (fun r h' ks' H1 locs1 hK' hkl hW1 hok hR1 htk1 hS1 => ?_)
  · rw [hret]
    exact kk r h' hK' p e s m args below meth c0 H1 locs1 L ks' ks0 C hS1 hR1 hW1 hl (fun q hq => (hol q hq).up hkl) (fun v hv => (hst v hv).up hkl) (fun v hv => (List.mem_append.mp hv).elim (fun z => htk1 v z) (fun z => (hon v z).up hkl)) (hle.tr hkl) hn0
theorem p_callVNr {idx c n : Nat} {a : Int} {stk : List PV} {rmN : Room} {mcN msN : Nat} {tkN : List PV} {K' : Int → Hh → Prop} (hd : decode M.2.1 pc = .ok (.invokevirtual idx, 3)) (N : MD) {Cn : String} (hret : N.2.2.2 = some (.object Cn))  (as : List PV) (hC : CT G N rmN mcN msN tkN (vr c a 0 :: as) h K') (hm : mOK N n) (hn : as.length = n) (hc : c < 12) (h0 : 0 ≤ a) (hcls : N.1.cls = cR c) (hlk : Cond.methodLinkNest M.1.cls idx N.1 RX10 ∈ tables_1) (hsel : Cond.instanceMethod N.1 ∈ lw_good ∧ Cond.selects (cR c) N.1 N.1 ∈ lw_good) (hstk : as.reverse ++ vr c a 0 :: st = stk) (hrest : (st.map pcat).sum ≤ 8) (hrm : rmN.cells = mcN ∧ rmN.slots = msN) (hroom : rmN.frames + 1 ≤ rm.frames ∧ 8 + (N.2.2.1 + 11) + rmN.locals ≤ rm.locals) (hf : cells + mcN ≤ rm.cells ∧ slots + msN ≤ rm.slots) (kk : ∀ (r : Int) (h' : Hh), K' r h' → PW G M rm mc ms tk n0 K (pc + 3) ls (vr (ccode Cn) r 0 :: st) (tkN ++ kn) (cells + mcN) (slots + msN) h') : PW G M rm mc ms tk n0 K pc ls stk kn cells slots h := by
  intro p e s m args below meth c0 H locs L ks ks0 C hS hR hW hl hol hos hon hle hn0
  subst hstk
  have hva : ∀ v ∈ as, okv G ks v := fun v hv => hos v (List.mem_append_left _ (List.mem_reverse.mpr hv))
  have hthis : okv G ks (vr c a 0) := hos _ (List.mem_append_right _ List.mem_cons_self)
  have hst : ∀ v ∈ st, okv G ks v := fun v hv => hos v (List.mem_append_right _ (List.mem_cons_of_mem _ hv))
  obtain ⟨q, g1, g2, g3, g4, g5, g6, r0, h1, cell, q1, q2, q3, q4⟩ := cell_of hR hW (Or.inl rfl) hc h0 hthis
  have hfc : s.vm.findClass (cR c) = some (G.2.1.1 c) := (C.2.2.2.2.2.2.2.2.1.1.1 c _ (cl_at hc)).2.1
  have hM := hC ks hW (List.forall_mem_cons.mpr ⟨hthis, hva⟩)
  rw [List.map_cons, tv_ref _ (by omega) h0] at hM
  have hstack : (as.reverse ++ vr c a 0 :: st).map (tv G.2.2.2.1) = (as.map (tv G.2.2.2.1)).reverse ++ .ref (G.2.2.2.1 + a.toNat) :: st.map (tv G.2.2.2.1) := by
    rw [List.map_append, List.map_reverse, List.map_cons, tv_ref _ (by omega) h0]
  rw [hstack]
  have hts := C.2.2.2.2.2.1
  have hcb := va_cnB n hts (wsM_in hm) rfl hrm.1 hrm.2 (C.2.2.2.2.2.2.2.2.1.2.1 _ hlk rfl) (hts _ hm.2.1) hm.2.2 hroom
  refine va_callx (G := G) (ks := ks) (va_runVN (C := cR c) (As := as.map (tv G.2.2.2.1)) (rest := st.map (tv G.2.2.2.1)) ⟨C.1, C.2.1, C.2.2.2.1, C.2.2.2.2.1, hts⟩ hM ⟨hcb, hts _ hsel.1, hts _ hsel.2⟩ ⟨Pc_blind G _ ks h, ⟨cell, q1, by rw [q3]; rfl, by rw [q2]; exact hfc⟩, Pc_at (av := .ref (G.2.2.2.1 + a.toNat) :: as.map (tv G.2.2.2.1)) C hS hR⟩ rfl (by rw [List.length_map]; exact hn) hl.1 rfl (lv_room (by rw [pcat_map]; exact hrest)) hd hf) hS (fun r h' ks' H1 locs1 hK' hkl hW1 hok hR1 htk1 hS1 => ?_)
  · rw [hret] at hok ⊢
    have hg := (fun hz => kk r h' hK' p e s m args below meth c0 H1 locs1 L ks' ks0 C hS1 hR1 hW1 hl (fun q hq => (hol q hq).up hkl) (List.forall_mem_cons.mpr ⟨hz, fun v hv => (hst v hv).up hkl⟩) (fun v hv => (List.mem_append.mp hv).elim (fun z => htk1 v z) (fun z => (hon v z).up hkl)) (hle.tr hkl) hn0) (okv_r (by have := ccode_lt Cn; omega) hok)
    rw [List.map_cons, ← gpv_tv_obj] at hg
    exact hg
theorem p_callSi {idx n : Nat} {stk : List PV} {rmN : Room} {mcN msN : Nat} {tkN : List PV} {K' : Int → Hh → Prop} (hd : decode M.2.1 pc = .ok (.invokestatic idx, 3)) (N : MD) (hret : N.2.2.2 = some .int ∨ N.2.2.2 = some .boolean)  (as : List PV) (hC : CT G N rmN mcN msN tkN (as) h K') (hm : mOK N n) (hn : as.length = n) (hlk : Cond.methodLink M.1.cls idx N.1 ∈ lw_good) (hsta : Cond.static N.1 ∈ lw_good) (hstk : as.reverse ++ st = stk) (hrest : (st.map pcat).sum ≤ 8) (hrm : rmN.cells = mcN ∧ rmN.slots = msN) (hroom : rmN.frames + 1 ≤ rm.frames ∧ 8 + (N.2.2.1 + 11) + rmN.locals ≤ rm.locals) (hf : cells + mcN ≤ rm.cells ∧ slots + msN ≤ rm.slots) (kk : ∀ (r : Int) (h' : Hh), K' r h' → PW G M rm mc ms tk n0 K (pc + 3) ls (vi r :: st) (tkN ++ kn) (cells + mcN) (slots + msN) h') : PW G M rm mc ms tk n0 K pc ls stk kn cells slots h := by
  intro p e s m args below meth c0 H locs L ks ks0 C hS hR hW hl hol hos hon hle hn0
  subst hstk
  have hva : ∀ v ∈ as, okv G ks v := fun v hv => hos v (List.mem_append_left _ (List.mem_reverse.mpr hv))
  have hst : ∀ v ∈ st, okv G ks v := fun v hv => hos v (List.mem_append_right _ hv)
  have hM := hC ks hW hva
  have hstack : (as.reverse ++ st).map (tv G.2.2.2.1) = (as.map (tv G.2.2.2.1)).reverse ++ st.map (tv G.2.2.2.1) := by
    rw [List.map_append, List.map_reverse]
  rw [hstack]
  have hts := C.2.2.2.2.2.1
  have hcb := callB_of n hts (wsM_in hm) rfl hrm.1 hrm.2 (hts _ hm.2.1) (hts _ hlk) hm.2.2 hroom
  refine va_callx (G := G) (ks := ks) (va_runS (As := as.map (tv G.2.2.2.1)) (rest := st.map (tv G.2.2.2.1)) ⟨C.1, C.2.1, C.2.2.2.1, C.2.2.2.2.1, hts⟩ hM ⟨hcb, hts _ hsta⟩ ⟨Pc_blind G _ ks h, Pc_at (av := as.map (tv G.2.2.2.1)) C hS hR⟩ rfl (by rw [List.length_map]; exact hn) hl.1 rfl (lv_room (by rw [pcat_map]; exact hrest)) hd hf) hS (fun r h' ks' H1 locs1 hK' hkl hW1 hok hR1 htk1 hS1 => ?_)
  · rcases hret with hret | hret
    · rw [hret] at hok ⊢
      exact (fun hz => kk r h' hK' p e s m args below meth c0 H1 locs1 L ks' ks0 C hS1 hR1 hW1 hl (fun q hq => (hol q hq).up hkl) (List.forall_mem_cons.mpr ⟨hz, fun v hv => (hst v hv).up hkl⟩) (fun v hv => (List.mem_append.mp hv).elim (fun z => htk1 v z) (fun z => (hon v z).up hkl)) (hle.tr hkl) hn0) hok
    · rw [hret] at hok ⊢
      exact (fun hz => kk r h' hK' p e s m args below meth c0 H1 locs1 L ks' ks0 C hS1 hR1 hW1 hl (fun q hq => (hol q hq).up hkl) (List.forall_mem_cons.mpr ⟨hz, fun v hv => (hst v hv).up hkl⟩) (fun v hv => (List.mem_append.mp hv).elim (fun z => htk1 v z) (fun z => (hon v z).up hkl)) (hle.tr hkl) hn0) hok
theorem p_callSl {idx n : Nat} {stk : List PV} {rmN : Room} {mcN msN : Nat} {tkN : List PV} {K' : Int → Hh → Prop} (hd : decode M.2.1 pc = .ok (.invokestatic idx, 3)) (N : MD) (hret : N.2.2.2 = some .long)  (as : List PV) (hC : CT G N rmN mcN msN tkN (as) h K') (hm : mOK N n) (hn : as.length = n) (hlk : Cond.methodLink M.1.cls idx N.1 ∈ lw_good) (hsta : Cond.static N.1 ∈ lw_good) (hstk : as.reverse ++ st = stk) (hrest : (st.map pcat).sum ≤ 8) (hrm : rmN.cells = mcN ∧ rmN.slots = msN) (hroom : rmN.frames + 1 ≤ rm.frames ∧ 8 + (N.2.2.1 + 11) + rmN.locals ≤ rm.locals) (hf : cells + mcN ≤ rm.cells ∧ slots + msN ≤ rm.slots) (kk : ∀ (r : Int) (h' : Hh), K' r h' → PW G M rm mc ms tk n0 K (pc + 3) ls (vl r :: st) (tkN ++ kn) (cells + mcN) (slots + msN) h') : PW G M rm mc ms tk n0 K pc ls stk kn cells slots h := by
  intro p e s m args below meth c0 H locs L ks ks0 C hS hR hW hl hol hos hon hle hn0
  subst hstk
  have hva : ∀ v ∈ as, okv G ks v := fun v hv => hos v (List.mem_append_left _ (List.mem_reverse.mpr hv))
  have hst : ∀ v ∈ st, okv G ks v := fun v hv => hos v (List.mem_append_right _ hv)
  have hM := hC ks hW hva
  have hstack : (as.reverse ++ st).map (tv G.2.2.2.1) = (as.map (tv G.2.2.2.1)).reverse ++ st.map (tv G.2.2.2.1) := by
    rw [List.map_append, List.map_reverse]
  rw [hstack]
  have hts := C.2.2.2.2.2.1
  have hcb := callB_of n hts (wsM_in hm) rfl hrm.1 hrm.2 (hts _ hm.2.1) (hts _ hlk) hm.2.2 hroom
  refine va_callx (G := G) (ks := ks) (va_runS (As := as.map (tv G.2.2.2.1)) (rest := st.map (tv G.2.2.2.1)) ⟨C.1, C.2.1, C.2.2.2.1, C.2.2.2.2.1, hts⟩ hM ⟨hcb, hts _ hsta⟩ ⟨Pc_blind G _ ks h, Pc_at (av := as.map (tv G.2.2.2.1)) C hS hR⟩ rfl (by rw [List.length_map]; exact hn) hl.1 rfl (lv_room (by rw [pcat_map]; exact hrest)) hd hf) hS (fun r h' ks' H1 locs1 hK' hkl hW1 hok hR1 htk1 hS1 => ?_)
  · rw [hret] at hok ⊢
    exact (fun hz => kk r h' hK' p e s m args below meth c0 H1 locs1 L ks' ks0 C hS1 hR1 hW1 hl (fun q hq => (hol q hq).up hkl) (List.forall_mem_cons.mpr ⟨hz, fun v hv => (hst v hv).up hkl⟩) (fun v hv => (List.mem_append.mp hv).elim (fun z => htk1 v z) (fun z => (hon v z).up hkl)) (hle.tr hkl) hn0) hok
theorem p_callSv {idx n : Nat} {stk : List PV} {rmN : Room} {mcN msN : Nat} {tkN : List PV} {K' : Int → Hh → Prop} (hd : decode M.2.1 pc = .ok (.invokestatic idx, 3)) (N : MD) (hret : N.2.2.2 = none)  (as : List PV) (hC : CT G N rmN mcN msN tkN (as) h K') (hm : mOK N n) (hn : as.length = n) (hlk : Cond.methodLink M.1.cls idx N.1 ∈ lw_good) (hsta : Cond.static N.1 ∈ lw_good) (hstk : as.reverse ++ st = stk) (hrest : (st.map pcat).sum ≤ 8) (hrm : rmN.cells = mcN ∧ rmN.slots = msN) (hroom : rmN.frames + 1 ≤ rm.frames ∧ 8 + (N.2.2.1 + 11) + rmN.locals ≤ rm.locals) (hf : cells + mcN ≤ rm.cells ∧ slots + msN ≤ rm.slots) (kk : ∀ (r : Int) (h' : Hh), K' r h' → PW G M rm mc ms tk n0 K (pc + 3) ls (st) (tkN ++ kn) (cells + mcN) (slots + msN) h') : PW G M rm mc ms tk n0 K pc ls stk kn cells slots h := by
  intro p e s m args below meth c0 H locs L ks ks0 C hS hR hW hl hol hos hon hle hn0
  subst hstk
  have hva : ∀ v ∈ as, okv G ks v := fun v hv => hos v (List.mem_append_left _ (List.mem_reverse.mpr hv))
  have hst : ∀ v ∈ st, okv G ks v := fun v hv => hos v (List.mem_append_right _ hv)
  have hM := hC ks hW hva
  have hstack : (as.reverse ++ st).map (tv G.2.2.2.1) = (as.map (tv G.2.2.2.1)).reverse ++ st.map (tv G.2.2.2.1) := by
    rw [List.map_append, List.map_reverse]
  rw [hstack]
  have hts := C.2.2.2.2.2.1
  have hcb := callB_of n hts (wsM_in hm) rfl hrm.1 hrm.2 (hts _ hm.2.1) (hts _ hlk) hm.2.2 hroom
  refine va_callx (G := G) (ks := ks) (va_runS (As := as.map (tv G.2.2.2.1)) (rest := st.map (tv G.2.2.2.1)) ⟨C.1, C.2.1, C.2.2.2.1, C.2.2.2.2.1, hts⟩ hM ⟨hcb, hts _ hsta⟩ ⟨Pc_blind G _ ks h, Pc_at (av := as.map (tv G.2.2.2.1)) C hS hR⟩ rfl (by rw [List.length_map]; exact hn) hl.1 rfl (lv_room (by rw [pcat_map]; exact hrest)) hd hf) hS (fun r h' ks' H1 locs1 hK' hkl hW1 hok hR1 htk1 hS1 => ?_)
  · rw [hret]
    exact kk r h' hK' p e s m args below meth c0 H1 locs1 L ks' ks0 C hS1 hR1 hW1 hl (fun q hq => (hol q hq).up hkl) (fun v hv => (hst v hv).up hkl) (fun v hv => (List.mem_append.mp hv).elim (fun z => htk1 v z) (fun z => (hon v z).up hkl)) (hle.tr hkl) hn0
theorem p_callSr {idx n : Nat} {stk : List PV} {rmN : Room} {mcN msN : Nat} {tkN : List PV} {K' : Int → Hh → Prop} (hd : decode M.2.1 pc = .ok (.invokestatic idx, 3)) (N : MD) {Cn : String} (hret : N.2.2.2 = some (.object Cn))  (as : List PV) (hC : CT G N rmN mcN msN tkN (as) h K') (hm : mOK N n) (hn : as.length = n) (hlk : Cond.methodLink M.1.cls idx N.1 ∈ lw_good) (hsta : Cond.static N.1 ∈ lw_good) (hstk : as.reverse ++ st = stk) (hrest : (st.map pcat).sum ≤ 8) (hrm : rmN.cells = mcN ∧ rmN.slots = msN) (hroom : rmN.frames + 1 ≤ rm.frames ∧ 8 + (N.2.2.1 + 11) + rmN.locals ≤ rm.locals) (hf : cells + mcN ≤ rm.cells ∧ slots + msN ≤ rm.slots) (kk : ∀ (r : Int) (h' : Hh), K' r h' → PW G M rm mc ms tk n0 K (pc + 3) ls (vr (ccode Cn) r 0 :: st) (tkN ++ kn) (cells + mcN) (slots + msN) h') : PW G M rm mc ms tk n0 K pc ls stk kn cells slots h := by
  intro p e s m args below meth c0 H locs L ks ks0 C hS hR hW hl hol hos hon hle hn0
  subst hstk
  have hva : ∀ v ∈ as, okv G ks v := fun v hv => hos v (List.mem_append_left _ (List.mem_reverse.mpr hv))
  have hst : ∀ v ∈ st, okv G ks v := fun v hv => hos v (List.mem_append_right _ hv)
  have hM := hC ks hW hva
  have hstack : (as.reverse ++ st).map (tv G.2.2.2.1) = (as.map (tv G.2.2.2.1)).reverse ++ st.map (tv G.2.2.2.1) := by
    rw [List.map_append, List.map_reverse]
  rw [hstack]
  have hts := C.2.2.2.2.2.1
  have hcb := callB_of n hts (wsM_in hm) rfl hrm.1 hrm.2 (hts _ hm.2.1) (hts _ hlk) hm.2.2 hroom
  refine va_callx (G := G) (ks := ks) (va_runS (As := as.map (tv G.2.2.2.1)) (rest := st.map (tv G.2.2.2.1)) ⟨C.1, C.2.1, C.2.2.2.1, C.2.2.2.2.1, hts⟩ hM ⟨hcb, hts _ hsta⟩ ⟨Pc_blind G _ ks h, Pc_at (av := as.map (tv G.2.2.2.1)) C hS hR⟩ rfl (by rw [List.length_map]; exact hn) hl.1 rfl (lv_room (by rw [pcat_map]; exact hrest)) hd hf) hS (fun r h' ks' H1 locs1 hK' hkl hW1 hok hR1 htk1 hS1 => ?_)
  · rw [hret] at hok ⊢
    have hg := (fun hz => kk r h' hK' p e s m args below meth c0 H1 locs1 L ks' ks0 C hS1 hR1 hW1 hl (fun q hq => (hol q hq).up hkl) (List.forall_mem_cons.mpr ⟨hz, fun v hv => (hst v hv).up hkl⟩) (fun v hv => (List.mem_append.mp hv).elim (fun z => htk1 v z) (fun z => (hon v z).up hkl)) (hle.tr hkl) hn0) (okv_r (by have := ccode_lt Cn; omega) hok)
    rw [List.map_cons, ← gpv_tv_obj] at hg
    exact hg
theorem p_callSNi {idx n : Nat} {stk : List PV} {rmN : Room} {mcN msN : Nat} {tkN : List PV} {K' : Int → Hh → Prop} (hd : decode M.2.1 pc = .ok (.invokestatic idx, 3)) (N : MD) (hret : N.2.2.2 = some .int ∨ N.2.2.2 = some .boolean)  (as : List PV) (hC : CT G N rmN mcN msN tkN (as) h K') (hm : mOK N n) (hn : as.length = n) (hlk : Cond.methodLinkNest M.1.cls idx N.1 RX10 ∈ tables_1) (hsta : Cond.static N.1 ∈ lw_good) (hstk : as.reverse ++ st = stk) (hrest : (st.map pcat).sum ≤ 8) (hrm : rmN.cells = mcN ∧ rmN.slots = msN) (hroom : rmN.frames + 1 ≤ rm.frames ∧ 8 + (N.2.2.1 + 11) + rmN.locals ≤ rm.locals) (hf : cells + mcN ≤ rm.cells ∧ slots + msN ≤ rm.slots) (kk : ∀ (r : Int) (h' : Hh), K' r h' → PW G M rm mc ms tk n0 K (pc + 3) ls (vi r :: st) (tkN ++ kn) (cells + mcN) (slots + msN) h') : PW G M rm mc ms tk n0 K pc ls stk kn cells slots h := by
  intro p e s m args below meth c0 H locs L ks ks0 C hS hR hW hl hol hos hon hle hn0
  subst hstk
  have hva : ∀ v ∈ as, okv G ks v := fun v hv => hos v (List.mem_append_left _ (List.mem_reverse.mpr hv))
  have hst : ∀ v ∈ st, okv G ks v := fun v hv => hos v (List.mem_append_right _ hv)
  have hM := hC ks hW hva
  have hstack : (as.reverse ++ st).map (tv G.2.2.2.1) = (as.map (tv G.2.2.2.1)).reverse ++ st.map (tv G.2.2.2.1) := by
    rw [List.map_append, List.map_reverse]
  rw [hstack]
  have hts := C.2.2.2.2.2.1
  have hcb := va_cnB n hts (wsM_in hm) rfl hrm.1 hrm.2 (C.2.2.2.2.2.2.2.2.1.2.1 _ hlk rfl) (hts _ hm.2.1) hm.2.2 hroom
  refine va_callx (G := G) (ks := ks) (va_runSN (As := as.map (tv G.2.2.2.1)) (rest := st.map (tv G.2.2.2.1)) ⟨C.1, C.2.1, C.2.2.2.1, C.2.2.2.2.1, hts⟩ hM ⟨hcb, hts _ hsta, trivial⟩ ⟨Pc_blind G _ ks h, Pc_at (av := as.map (tv G.2.2.2.1)) C hS hR⟩ rfl (by rw [List.length_map]; exact hn) hl.1 rfl (lv_room (by rw [pcat_map]; exact hrest)) hd hf) hS (fun r h' ks' H1 locs1 hK' hkl hW1 hok hR1 htk1 hS1 => ?_)
  · rcases hret with hret | hret
    · rw [hret] at hok ⊢
      exact (fun hz => kk r h' hK' p e s m args below meth c0 H1 locs1 L ks' ks0 C hS1 hR1 hW1 hl (fun q hq => (hol q hq).up hkl) (List.forall_mem_cons.mpr ⟨hz, fun v hv => (hst v hv).up hkl⟩) (fun v hv => (List.mem_append.mp hv).elim (fun z => htk1 v z) (fun z => (hon v z).up hkl)) (hle.tr hkl) hn0) hok
    · rw [hret] at hok ⊢
      exact (fun hz => kk r h' hK' p e s m args below meth c0 H1 locs1 L ks' ks0 C hS1 hR1 hW1 hl (fun q hq => (hol q hq).up hkl) (List.forall_mem_cons.mpr ⟨hz, fun v hv => (hst v hv).up hkl⟩) (fun v hv => (List.mem_append.mp hv).elim (fun z => htk1 v z) (fun z => (hon v z).up hkl)) (hle.tr hkl) hn0) hok
theorem p_callSNl {idx n : Nat} {stk : List PV} {rmN : Room} {mcN msN : Nat} {tkN : List PV} {K' : Int → Hh → Prop} (hd : decode M.2.1 pc = .ok (.invokestatic idx, 3)) (N : MD) (hret : N.2.2.2 = some .long)  (as : List PV) (hC : CT G N rmN mcN msN tkN (as) h K') (hm : mOK N n) (hn : as.length = n) (hlk : Cond.methodLinkNest M.1.cls idx N.1 RX10 ∈ tables_1) (hsta : Cond.static N.1 ∈ lw_good) (hstk : as.reverse ++ st = stk) (hrest : (st.map pcat).sum ≤ 8) (hrm : rmN.cells = mcN ∧ rmN.slots = msN) (hroom : rmN.frames + 1 ≤ rm.frames ∧ 8 + (N.2.2.1 + 11) + rmN.locals ≤ rm.locals) (hf : cells + mcN ≤ rm.cells ∧ slots + msN ≤ rm.slots) (kk : ∀ (r : Int) (h' : Hh), K' r h' → PW G M rm mc ms tk n0 K (pc + 3) ls (vl r :: st) (tkN ++ kn) (cells + mcN) (slots + msN) h') : PW G M rm mc ms tk n0 K pc ls stk kn cells slots h := by
  intro p e s m args below meth c0 H locs L ks ks0 C hS hR hW hl hol hos hon hle hn0
  subst hstk
  have hva : ∀ v ∈ as, okv G ks v := fun v hv => hos v (List.mem_append_left _ (List.mem_reverse.mpr hv))
  have hst : ∀ v ∈ st, okv G ks v := fun v hv => hos v (List.mem_append_right _ hv)
  have hM := hC ks hW hva
  have hstack : (as.reverse ++ st).map (tv G.2.2.2.1) = (as.map (tv G.2.2.2.1)).reverse ++ st.map (tv G.2.2.2.1) := by
    rw [List.map_append, List.map_reverse]
  rw [hstack]
  have hts := C.2.2.2.2.2.1
  have hcb := va_cnB n hts (wsM_in hm) rfl hrm.1 hrm.2 (C.2.2.2.2.2.2.2.2.1.2.1 _ hlk rfl) (hts _ hm.2.1) hm.2.2 hroom
  refine va_callx (G := G) (ks := ks) (va_runSN (As := as.map (tv G.2.2.2.1)) (rest := st.map (tv G.2.2.2.1)) ⟨C.1, C.2.1, C.2.2.2.1, C.2.2.2.2.1, hts⟩ hM ⟨hcb, hts _ hsta, trivial⟩ ⟨Pc_blind G _ ks h, Pc_at (av := as.map (tv G.2.2.2.1)) C hS hR⟩ rfl (by rw [List.length_map]; exact hn) hl.1 rfl (lv_room (by rw [pcat_map]; exact hrest)) hd hf) hS (fun r h' ks' H1 locs1 hK' hkl hW1 hok hR1 htk1 hS1 => ?_)
  · rw [hret] at hok ⊢
    exact (fun hz => kk r h' hK' p e s m args below meth c0 H1 locs1 L ks' ks0 C hS1 hR1 hW1 hl (fun q hq => (hol q hq).up hkl) (List.forall_mem_cons.mpr ⟨hz, fun v hv => (hst v hv).up hkl⟩) (fun v hv => (List.mem_append.mp hv).elim (fun z => htk1 v z) (fun z => (hon v z).up hkl)) (hle.tr hkl) hn0) hok
theorem p_callSNv {idx n : Nat} {stk : List PV} {rmN : Room} {mcN msN : Nat} {tkN : List PV} {K' : Int → Hh → Prop} (hd : decode M.2.1 pc = .ok (.invokestatic idx, 3)) (N : MD) (hret : N.2.2.2 = none)  (as : List PV) (hC : CT G N rmN mcN msN tkN (as) h K') (hm : mOK N n) (hn : as.length = n) (hlk : Cond.methodLinkNest M.1.cls idx N.1 RX10 ∈ tables_1) (hsta : Cond.static N.1 ∈ lw_good) (hstk : as.reverse ++ st = stk) (hrest : (st.map pcat).sum ≤ 8) (hrm : rmN.cells = mcN ∧ rmN.slots = msN) (hroom : rmN.frames + 1 ≤ rm.frames ∧ 8 + (N.2.2.1 + 11) + rmN.locals ≤ rm.locals) (hf : cells + mcN ≤ rm.cells ∧ slots + msN ≤ rm.slots) (kk : ∀ (r : Int) (h' : Hh), K' r h' → PW G M rm mc ms tk n0 K (pc + 3) ls (st) (tkN ++ kn) (cells + mcN) (slots + msN) h') : PW G M rm mc ms tk n0 K pc ls stk kn cells slots h := by
  intro p e s m args below meth c0 H locs L ks ks0 C hS hR hW hl hol hos hon hle hn0
  subst hstk
  have hva : ∀ v ∈ as, okv G ks v := fun v hv => hos v (List.mem_append_left _ (List.mem_reverse.mpr hv))
  have hst : ∀ v ∈ st, okv G ks v := fun v hv => hos v (List.mem_append_right _ hv)
  have hM := hC ks hW hva
  have hstack : (as.reverse ++ st).map (tv G.2.2.2.1) = (as.map (tv G.2.2.2.1)).reverse ++ st.map (tv G.2.2.2.1) := by
    rw [List.map_append, List.map_reverse]
  rw [hstack]
  have hts := C.2.2.2.2.2.1
  have hcb := va_cnB n hts (wsM_in hm) rfl hrm.1 hrm.2 (C.2.2.2.2.2.2.2.2.1.2.1 _ hlk rfl) (hts _ hm.2.1) hm.2.2 hroom
  refine va_callx (G := G) (ks := ks) (va_runSN (As := as.map (tv G.2.2.2.1)) (rest := st.map (tv G.2.2.2.1)) ⟨C.1, C.2.1, C.2.2.2.1, C.2.2.2.2.1, hts⟩ hM ⟨hcb, hts _ hsta, trivial⟩ ⟨Pc_blind G _ ks h, Pc_at (av := as.map (tv G.2.2.2.1)) C hS hR⟩ rfl (by rw [List.length_map]; exact hn) hl.1 rfl (lv_room (by rw [pcat_map]; exact hrest)) hd hf) hS (fun r h' ks' H1 locs1 hK' hkl hW1 hok hR1 htk1 hS1 => ?_)
  · rw [hret]
    exact kk r h' hK' p e s m args below meth c0 H1 locs1 L ks' ks0 C hS1 hR1 hW1 hl (fun q hq => (hol q hq).up hkl) (fun v hv => (hst v hv).up hkl) (fun v hv => (List.mem_append.mp hv).elim (fun z => htk1 v z) (fun z => (hon v z).up hkl)) (hle.tr hkl) hn0
theorem p_callSNr {idx n : Nat} {stk : List PV} {rmN : Room} {mcN msN : Nat} {tkN : List PV} {K' : Int → Hh → Prop} (hd : decode M.2.1 pc = .ok (.invokestatic idx, 3)) (N : MD) {Cn : String} (hret : N.2.2.2 = some (.object Cn))  (as : List PV) (hC : CT G N rmN mcN msN tkN (as) h K') (hm : mOK N n) (hn : as.length = n) (hlk : Cond.methodLinkNest M.1.cls idx N.1 RX10 ∈ tables_1) (hsta : Cond.static N.1 ∈ lw_good) (hstk : as.reverse ++ st = stk) (hrest : (st.map pcat).sum ≤ 8) (hrm : rmN.cells = mcN ∧ rmN.slots = msN) (hroom : rmN.frames + 1 ≤ rm.frames ∧ 8 + (N.2.2.1 + 11) + rmN.locals ≤ rm.locals) (hf : cells + mcN ≤ rm.cells ∧ slots + msN ≤ rm.slots) (kk : ∀ (r : Int) (h' : Hh), K' r h' → PW G M rm mc ms tk n0 K (pc + 3) ls (vr (ccode Cn) r 0 :: st) (tkN ++ kn) (cells + mcN) (slots + msN) h') : PW G M rm mc ms tk n0 K pc ls stk kn cells slots h := by
  intro p e s m args below meth c0 H locs L ks ks0 C hS hR hW hl hol hos hon hle hn0
  subst hstk
  have hva : ∀ v ∈ as, okv G ks v := fun v hv => hos v (List.mem_append_left _ (List.mem_reverse.mpr hv))
  have hst : ∀ v ∈ st, okv G ks v := fun v hv => hos v (List.mem_append_right _ hv)
  have hM := hC ks hW hva
  have hstack : (as.reverse ++ st).map (tv G.2.2.2.1) = (as.map (tv G.2.2.2.1)).reverse ++ st.map (tv G.2.2.2.1) := by
    rw [List.map_append, List.map_reverse]
  rw [hstack]
  have hts := C.2.2.2.2.2.1
  have hcb := va_cnB n hts (wsM_in hm) rfl hrm.1 hrm.2 (C.2.2.2.2.2.2.2.2.1.2.1 _ hlk rfl) (hts _ hm.2.1) hm.2.2 hroom
  refine va_callx (G := G) (ks := ks) (va_runSN (As := as.map (tv G.2.2.2.1)) (rest := st.map (tv G.2.2.2.1)) ⟨C.1, C.2.1, C.2.2.2.1, C.2.2.2.2.1, hts⟩ hM ⟨hcb, hts _ hsta, trivial⟩ ⟨Pc_blind G _ ks h, Pc_at (av := as.map (tv G.2.2.2.1)) C hS hR⟩ rfl (by rw [List.length_map]; exact hn) hl.1 rfl (lv_room (by rw [pcat_map]; exact hrest)) hd hf) hS (fun r h' ks' H1 locs1 hK' hkl hW1 hok hR1 htk1 hS1 => ?_)
  · rw [hret] at hok ⊢
    have hg := (fun hz => kk r h' hK' p e s m args below meth c0 H1 locs1 L ks' ks0 C hS1 hR1 hW1 hl (fun q hq => (hol q hq).up hkl) (List.forall_mem_cons.mpr ⟨hz, fun v hv => (hst v hv).up hkl⟩) (fun v hv => (List.mem_append.mp hv).elim (fun z => htk1 v z) (fun z => (hon v z).up hkl)) (hle.tr hkl) hn0) (okv_r (by have := ccode_lt Cn; omega) hok)
    rw [List.map_cons, ← gpv_tv_obj] at hg
    exact hg
theorem p_callIv {idx c n : Nat} {a : Int} {stk : List PV} {rmN : Room} {mcN msN : Nat} {tkN : List PV} {K' : Int → Hh → Prop} (hd : decode M.2.1 pc = .ok (.invokespecial idx, 3)) (N : MD) (hret : N.2.2.2 = none)  (as : List PV) (hC : CT G N rmN mcN msN tkN (vr (c + 50) a 0 :: as) h K') (hm : mOK N n) (hn : as.length = n) (hc : c < 12) (h0 : 0 ≤ a) (hcls : N.1.cls = cR c) (hlk : Cond.methodLink M.1.cls idx N.1 ∈ lw_good) (hini : N.1.name = "<init>") (hins : Cond.instanceMethod N.1 ∈ lw_good) (hstk : as.reverse ++ vr (c + 50) a 0 :: st = stk) (hrest : (st.map pcat).sum ≤ 8) (hrm : rmN.cells = mcN ∧ rmN.slots = msN) (hroom : rmN.frames + 1 ≤ rm.frames ∧ 8 + (N.2.2.1 + 11) + rmN.locals ≤ rm.locals) (hf : cells + mcN ≤ rm.cells ∧ slots + msN ≤ rm.slots) (kk : ∀ (r : Int) (h' : Hh), K' r h' → PW G M rm mc ms tk n0 K (pc + 3) ls (st) (tkN ++ kn) (cells + mcN) (slots + msN) h') : PW G M rm mc ms tk n0 K pc ls stk kn cells slots h := by
  intro p e s m args below meth c0 H locs L ks ks0 C hS hR hW hl hol hos hon hle hn0
  subst hstk
  have hva : ∀ v ∈ as, okv G ks v := fun v hv => hos v (List.mem_append_left _ (List.mem_reverse.mpr hv))
  have hthis : okv G ks (vr (c + 50) a 0) := hos _ (List.mem_append_right _ List.mem_cons_self)
  have hst : ∀ v ∈ st, okv G ks v := fun v hv => hos v (List.mem_append_right _ (List.mem_cons_of_mem _ hv))
  obtain ⟨q, g1, g2, g3, g4, g5, g6, r0, h1, cell, q1, q2, q3, q4⟩ := cell_of hR hW (Or.inr rfl) hc h0 hthis
  have hfc : s.vm.findClass (cR c) = some (G.2.1.1 c) := (C.2.2.2.2.2.2.2.2.1.1.1 c _ (cl_at hc)).2.1
  have hM := hC ks hW (List.forall_mem_cons.mpr ⟨hthis, hva⟩)
  rw [List.map_cons, tv_ref _ (by omega) h0] at hM
  have hstack : (as.reverse ++ vr (c + 50) a 0 :: st).map (tv G.2.2.2.1) = (as.map (tv G.2.2.2.1)).reverse ++ .ref (G.2.2.2.1 + a.toNat) :: st.map (tv G.2.2.2.1) := by
    rw [List.map_append, List.map_reverse, List.map_cons, tv_ref _ (by omega) h0]
  rw [hstack]
  have hts := C.2.2.2.2.2.1
  have hcb := callB_of n hts (wsM_in hm) rfl hrm.1 hrm.2 (hts _ hm.2.1) (hts _ hlk) hm.2.2 hroom
  refine va_callx (G := G) (ks := ks) (va_runI (As := as.map (tv G.2.2.2.1)) (rest := st.map (tv G.2.2.2.1)) ⟨C.1, C.2.1, C.2.2.2.1, C.2.2.2.2.1, hts⟩ hM ⟨by rw [hret] at hcb; exact hcb, hini, hts _ hins⟩ ⟨Pc_blind G _ ks h, Pc_at (av := .ref (G.2.2.2.1 + a.toNat) :: as.map (tv G.2.2.2.1)) C hS hR⟩ rfl (by rw [List.length_map]; exact hn) hl.1 rfl (lv_room (by rw [pcat_map]; exact hrest)) hd hf) hS (fun r h' ks' H1 locs1 hK' hkl hW1 hok hR1 htk1 hS1 => ?_)
  · rw [hret]
    exact kk r h' hK' p e s m args below meth c0 H1 locs1 L ks' ks0 C hS1 hR1 hW1 hl (fun q hq => (hol q hq).up hkl) (fun v hv => (hst v hv).up hkl) (fun v hv => (List.mem_append.mp hv).elim (fun z => htk1 v z) (fun z => (hon v z).up hkl)) (hle.tr hkl) hn0
theorem p_callINv {idx c n : Nat} {a : Int} {stk : List PV} {rmN : Room} {mcN msN : Nat} {tkN : List PV} {K' : Int → Hh → Prop} (hd : decode M.2.1 pc = .ok (.invokespecial idx, 3)) (N : MD) (hret : N.2.2.2 = none)  (as : List PV) (hC : CT G N rmN mcN msN tkN (vr (c + 50) a 0 :: as) h K') (hm : mOK N n) (hn : as.length = n) (hc : c < 12) (h0 : 0 ≤ a) (hcls : N.1.cls = cR c) (hlk : Cond.methodLinkNest M.1.cls idx N.1 RX10 ∈ tables_1) (hini : N.1.name = "<init>") (hins : Cond.instanceMethod N.1 ∈ lw_good) (hstk : as.reverse ++ vr (c + 50) a 0 :: st = stk) (hrest : (st.map pcat).sum ≤ 8) (hrm : rmN.cells = mcN ∧ rmN.slots = msN) (hroom : rmN.frames + 1 ≤ rm.frames ∧ 8 + (N.2.2.1 + 11) + rmN.locals ≤ rm.locals) (hf : cells + mcN ≤ rm.cells ∧ slots + msN ≤ rm.slots) (kk : ∀ (r : Int) (h' : Hh), K' r h' → PW G M rm mc ms tk n0 K (pc + 3) ls (st) (tkN ++ kn) (cells + mcN) (slots + msN) h') : PW G M rm mc ms tk n0 K pc ls stk kn cells slots h := by
  intro p e s m args below meth c0 H locs L ks ks0 C hS hR hW hl hol hos hon hle hn0
  subst hstk
  have hva : ∀ v ∈ as, okv G ks v := fun v hv => hos v (List.mem_append_left _ (List.mem_reverse.mpr hv))
  have hthis : okv G ks (vr (c + 50) a 0) := hos _ (List.mem_append_right _ List.mem_cons_self)
  have hst : ∀ v ∈ st, okv G ks v := fun v hv => hos v (List.mem_append_right _ (List.mem_cons_of_mem _ hv))
  obtain ⟨q, g1, g2, g3, g4, g5, g6, r0, h1, cell, q1, q2, q3, q4⟩ := cell_of hR hW (Or.inr rfl) hc h0 hthis
  have hfc : s.vm.findClass (cR c) = some (G.2.1.1 c) := (C.2.2.2.2.2.2.2.2.1.1.1 c _ (cl_at hc)).2.1
  have hM := hC ks hW (List.forall_mem_cons.mpr ⟨hthis, hva⟩)
  rw [List.map_cons, tv_ref _ (by omega) h0] at hM
  have hstack : (as.reverse ++ vr (c + 50) a 0 :: st).map (tv G.2.2.2.1) = (as.map (tv G.2.2.2.1)).reverse ++ .ref (G.2.2.2.1 + a.toNat) :: st.map (tv G.2.2.2.1) := by
    rw [List.map_append, List.map_reverse, List.map_cons, tv_ref _ (by omega) h0]
  rw [hstack]
  have hts := C.2.2.2.2.2.1
  have hcb := va_cnB n hts (wsM_in hm) rfl hrm.1 hrm.2 (C.2.2.2.2.2.2.2.2.1.2.1 _ hlk rfl) (hts _ hm.2.1) hm.2.2 hroom
  refine va_callx (G := G) (ks := ks) (va_runIN (As := as.map (tv G.2.2.2.1)) (rest := st.map (tv G.2.2.2.1)) ⟨C.1, C.2.1, C.2.2.2.1, C.2.2.2.2.1, hts⟩ hM ⟨by rw [hret] at hcb; exact hcb, hini, hts _ hins⟩ ⟨Pc_blind G _ ks h, Pc_at (av := .ref (G.2.2.2.1 + a.toNat) :: as.map (tv G.2.2.2.1)) C hS hR⟩ rfl (by rw [List.length_map]; exact hn) hl.1 rfl (lv_room (by rw [pcat_map]; exact hrest)) hd hf) hS (fun r h' ks' H1 locs1 hK' hkl hW1 hok hR1 htk1 hS1 => ?_)
  · rw [hret]
    exact kk r h' hK' p e s m args below meth c0 H1 locs1 L ks' ks0 C hS1 hR1 hW1 hl (fun q hq => (hol q hq).up hkl) (fun v hv => (hst v hv).up hkl) (fun v hv => (List.mem_append.mp hv).elim (fun z => htk1 v z) (fun z => (hon v z).up hkl)) (hle.tr hkl) hn0
theorem Met_ofWF {l : Launch} {y : MethodName} {ws ws' : List Cond} {rm : Room} {Pc : Array Value → State → Prop} {Qc : Array Value → State → Outcome → State → Prop} {mc ms : Nat} {free : Addr → Prop} {cc : ByteArray} {maxL : Nat} {ret : Option FieldType}
    (hy : plainFor y = true) (hw : ws = Cond.code y cc maxL ret :: ws')
    (body : ∀ p e s m args below meth c s₁, BodyLoose p l y (headSpec ws rm) cc maxL ret e s m args below meth c s₁ → c.maxLocals = maxL → Pc args s →
      W p l e (headSpec ws rm).room s m args below meth c s.heap [] 0 0 (MQ below Qc args s mc ms free) (entryFrame m args maxL)) : Met l y ws rm Pc Qc mc ms free := by
  refine MetFree.of_bodySF (code := cc) (maxLocals := maxL) (ret := ret) hy ?_ ?_
  · intro args s m h hn
    obtain ⟨meth, c, h1, h2, h3, h4, h5, h6, -, -⟩ := Cond.code_spec hn (atoms_spec (ws := ws) h _ (by rw [hw]; exact List.mem_cons_self))
    exact ⟨meth, c, h1, h2, h3, h4, h5, h6⟩
  · intro p e s m args below meth c s₁ B hml hP _
    have hh0 : s₁.heap = s.heap := by rw [B.state]; rfl
    obtain ⟨t, a1, o, b1, b2, b3⟩ := body p e s m args below meth c s₁ B hml hP s₁ hh0 (Stand.of_body B)
    exact ⟨t, o, a1, b1, b2, ⟨b3.1, b3.2⟩⟩
def pargs : Nat → List PV → List (Nat × PV)
  | _, [] => []
  | i, v :: vs => (i, v) :: pargs (if pcat v = 2 then i + 2 else i + 1) vs
theorem pargs_eq (b : Nat) : ∀ (ps : List PV) (i : Nat), lv_args i (ps.map (tv b)) = (pargs i ps).map fun q => (q.1, tv b q.2)
  | [], _ => rfl
  | v :: vs, i => by
    show (i, tv b v) :: lv_args (if (tv b v).category = 2 then i + 2 else i + 1) (vs.map (tv b)) = (i, tv b v) :: (pargs (if pcat v = 2 then i + 2 else i + 1) vs).map _
    rw [pcat_tv, pargs_eq b vs]
theorem lgsl_len (b : Nat) : ∀ ps : List PV, (lg_sl (ps.map (tv b))).length = (ps.map pcat).sum
  | [] => rfl
  | v :: vs => by
    have ih := lgsl_len b vs
    have hc := pcat_tv b v
    have hcat : (tv b v).category = 1 ∨ (tv b v).category = 2 := by rw [hc]; unfold pcat; split <;> simp
    rw [List.map_cons, List.map_cons, List.sum_cons, ← hc]
    rcases hcat with e | e
    · simp [lg_sl, e] at ih ⊢; omega
    · simp [lg_sl, e] at ih ⊢; omega
/-- a method's contract out of its walk -/
theorem CT.of {ps : List PV} {ls0 : List (Nat × PV)} (hN : plainFor M.1 = true) (hlaw : M.1 ≠ yL_law) (hlen : (ps.map pcat).sum ≤ M.2.2.1) (hls : pargs 0 ps = ls0) (hls2 : ls0.map Prod.snd = ps) (k : PW G M rm mc ms tk (h (-1) 0) K 0 ls0 [] [] 0 0 h) : CT G M rm mc ms tk ps h K := by
  intro ks hW hps
  refine Met_ofWF (cc := M.2.1) (maxL := M.2.2.1) (ret := M.2.2.2) (ws' := lw_good) hN rfl ?_
  intro p e s m args below meth c s₁ B hml hv
  obtain ⟨rfl, hR, hK, hb⟩ := hv
  have hts := atoms_spec (ws := wsM M) B.pre
  have C : Cx G M p s m (ps.map (tv G.2.2.2.1)).toArray meth c := ⟨B.exec, B.bytes, B.returns, hml, findClass_of_methodNamed B.named, fun w hw => hts w (List.mem_cons_of_mem _ hw), B.notSynchronized, fun _ => (name_of_methodNamed B.named B.method).1, hK, hb, fun e => absurd e hlaw⟩
  have hl := lv_entry (ps.map (tv G.2.2.2.1)) (n := M.2.2.1) (by rw [lgsl_len]; exact hlen)
  rw [lg_entry_eq]
  rw [pargs_eq, hls] at hl
  exact k p e s m _ below meth c s.heap [] _ ks ks C va_S.rf hR hW hl (fun q hq => hps _ (by rw [← hls2]; exact List.mem_map_of_mem hq)) (fun v hv => by cases hv) (fun v hv => by cases hv) kle.rf hW.1.symm
end PR5
