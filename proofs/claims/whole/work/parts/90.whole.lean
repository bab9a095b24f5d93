/-! THE CLAIM OUT OF ONE WALK OF THE LAW'S BODY. Your part is whole_start (and what it stands on); all else here is the same for every law, but numbers. -/
def R_law : String := "ThreadChartsLaw"
def lw_P (b : Addr) (xs : List Int32) (args : Array Value) (s : State) : Prop := args = #[.ref b] ∧ s.IntsAt b xs ∧ xs.length ≤ 3584 ∧ (Jvm.Cond.and given_1 narrow_1).before args s = true
def lw_Q (_ : Array Value) (s : State) (o : Outcome) (t : State) : Prop := o = .returned (some (.int 1)) ∧ Framed s o t [] 600000 7302250
def lw_Z (below : List Frame) (a : Array Value) (s : State) : State → Prop := fun t => ∃ o, t.status = .running ∧ Ended t below o ∧ lw_Q a s o t
/-- the law's own end, with 1 on the stack, nothing written that was there before, its room as the claim has it -/
theorem lw_ret {p : Program} {l : Launch} {e : Env} {s : State} {m : MethodId} {below : List Frame} {meth : Method} {c : Code} {b : Nat} (hx : p.tables.exec = Jvm.exec) (hb : c.code = code) (hr : meth.sig.returnType = ret) (hlocks : meth.locks = false) {pc : Nat} {H : Heap} {ls : Array Slot} (hdg : decode code pc = .ok (.ireturn, 1)) : W p l e room_1 s m #[Value.ref b] below meth c H [] 600000 7302250 (lw_Z below #[Value.ref b] s) (F0 m pc ls [.int 1]) := by
  intro T hT X
  obtain ⟨fs, hret, hrun, hended, hW, hframe⟩ := X.leave (v := some (.int 1)) (hlocks := hlocks) (fun h => by rw [hr] at h; cases h)
  have hmeth' : T.vm.method? m = some meth := X.method'
  refine ⟨T.setFrames fs, ?_, .returned (some (.int 1)), hrun, hended, rfl, ⟨_, rfl⟩, hW, hframe⟩
  jvm_step X.here [X.here.top, hx, hb, hdg, hmeth', hr, ret, narrow_b1]
  (try refine ⟨rfl, ?_⟩); (try refine ⟨rfl, ?_⟩)
  first | (intro acts; rw [hret _ acts rfl rfl rfl]) | rw [hret _ _ rfl rfl rfl]
  exact Steps.refl _
/-- what holds at the law's entry: the machine, the code, the tables' words (any of lw_tbl by 'hts w (by decide +kernel)'), the script of L ints xs at the cell b, what the Statement gives of the start (any of its parts by flat_of_before) -/
def lw_At (p : Program) (s : State) (m : MethodId) (meth : Method) (c : Code) (b L : Nat) (xs : Nat → Int32) : Prop :=
  p.tables.exec = Jvm.exec ∧ c.code = code ∧ meth.sig.returnType = ret ∧ c.maxLocals = 4 ∧ s.vm.findClass R_law = some m.cls ∧ (∀ w ∈ lw_tbl, w.before #[Value.ref b] s = true) ∧ va_X b L xs s s.heap ∧ b < s.heap.size ∧ meth.locks = false ∧ (Jvm.Cond.and given_1 narrow_1).before #[Value.ref b] s = true
theorem inst_in : ∀ c, c < 12 → Cond.instantiable (cR c) (cN c) ∈ lw_tbl := by decide +kernel
theorem arr_known {s : State} {args : Array Value} {ty : FieldType} (hr : va_RA s = fun cA t => va_RA s cA t) (h : (Cond.arrayClass ty).before args s = true) : ∃ cA : ClassId, ArrOfT s cA ty ∧ s.vm.findClass ("[" ++ ty.toString) = some cA := by
  obtain ⟨cA, kA, cc, h1, h2, h3⟩ := Cond.arrayClass_spec h
  exact ⟨cA, fun N z => ⟨(fun k h => by cases h), kA, h2, cc, h3⟩, h1⟩
theorem over_known {s : State} {C : String} (h : va_AO C s) : ∃ cA : ClassId, ArrOfT s cA (.object C) ∧ va_RA s cA (.object C) := by
  obtain ⟨comp, cA, k, h1, h2, h3, h4, h5⟩ := Cond.arrayOver_spec h
  exact ⟨cA, fun N z => ⟨(fun k h => by cases h), k, h3, comp, h4⟩, k, comp, h3, h4, h1, h5⟩
theorem aoa_known {s : State} (h : AOA s) : ∃ cA : ClassId, ArrOfT s cA (.array .int) ∧ va_RA s cA (.array .int) := by
  obtain ⟨comp, cA, k, h1, h2, h3, h4, h5⟩ := AOA_spec h
  exact ⟨cA, fun N z => ⟨(fun k h => by cases h), k, h3, comp, h4⟩, h5⟩
set_option maxHeartbeats 4000000 in
set_option maxRecDepth 100000 in
/-- THE LAW, from its entry -/
theorem whole_start {p : Program} {e : Env} {s : State} {m : MethodId} {below : List Frame} {meth : Method} {c : Code} (l : Launch) {b L : Nat} {xs : Nat → Int32} (hL : L ≤ 3584) (C0 : lw_At p s m meth c b L xs) : W p l e room_1 s m #[Value.ref b] below meth c s.heap [] 0 0 (lw_Z below #[Value.ref b] s) (entryFrame m ([Value.ref b] : List Value).toArray 4) := by
  obtain ⟨hx, hb, hr, hml, hown, hts, hX, hbl, hlocks, hgv⟩ := id C0
  have htg : ∀ w ∈ lw_good, w.before #[Value.ref b] s = true := fun w hw => hts w (List.mem_filter.mp hw).1
  have htt : ∀ w ∈ tables_1, w.before #[Value.ref b] s = true := fun w hw => hts w (List.mem_append_right _ hw)
  obtain ⟨D, hD⟩ := Classical.skolem.mp (fun c : Nat => show ∃ y : ClassId × (Nat → Nat), c < 12 → u_Kn s (cR c) (cT c) (cN c) y.1 y.2 from by
    by_cases hc : c < 12
    · obtain ⟨cC, iS, hk⟩ := u_known (C := cR c) (T := cT c) (N := cN c) (n := cN c) htg (ciw hc) (hts _ (inst_in c hc))
      exact ⟨(cC, iS), fun _ => hk⟩
    · exact ⟨(0, fun _ => 0), fun h => absurd h hc⟩)
  have hao7 : va_AO RX7 s := va_AO.of (A := #[Value.ref b]) (htt _ (by decide +kernel))
  have hao0 : va_AO RX0 s := va_AO.of (A := #[Value.ref b]) (htt _ (by decide +kernel))
  have haoa : AOA s := show (Cond.arrayOver (.array .int)).before #[Value.ref b] s = true from htt _ (by decide +kernel)
  have hcast : va_Nw (.castable "[I" "java/lang/Cloneable") s := va_Nw.of rfl (htt _ (by decide +kernel))
  have hnw : NWd s := by
    intro w hw hn
    have h1 := htt w hw
    cases w with
    | fieldLinkNest a i b n d o => exact va_Nw.of rfl h1
    | methodLinkNest a i x o => exact va_Nw.of rfl h1
    | _ => cases hn
  obtain ⟨cI, aI, nI⟩ := arr_known (ty := .int) rfl (htt (.arrayClass .int) (by decide +kernel))
  obtain ⟨cJ, aJ, nJ⟩ := arr_known (ty := .long) rfl (htt (.arrayClass .long) (by decide +kernel))
  obtain ⟨cB, aB, nB⟩ := arr_known (ty := .byte) rfl (htt (.arrayClass .byte) (by decide +kernel))
  obtain ⟨c7, a7, n7⟩ := over_known hao7
  obtain ⟨c8, a8, n8⟩ := over_known hao0
  obtain ⟨c9, a9, n9⟩ := aoa_known haoa
  obtain ⟨tA, hA0, hA1, hA2, hA3, hA4, hA5⟩ : ∃ f : Nat → ClassId, f 100 = cI ∧ f 101 = cJ ∧ f 102 = cB ∧ f 103 = c7 ∧ f 104 = c8 ∧ f 105 = c9 := ⟨fun t => if t = 100 then cI else if t = 101 then cJ else if t = 102 then cB else if t = 103 then c7 else if t = 104 then c8 else c9, rfl, rfl, rfl, rfl, rfl, rfl⟩
  obtain ⟨G, hG⟩ : ∃ G : Gx, G = (l, (fun c => (D c).1, fun c => (D c).2), tA, s.heap.size, (b, L, xs)) := ⟨_, rfl⟩
  have hK : va_K G.2.1 vwCl (tysL G) s := by
    refine ⟨fun c q hq => ?_, fun k q hk => ?_⟩
    · have hc : c < 12 := (List.getElem?_eq_some_iff.mp hq).1
      cases (cl_at hc).symm.trans hq
      rw [hG]
      exact hD c hc
    · rw [hG] at hk
      match k, hk with
      | 0, hk => cases hk; exact ⟨by show ArrOfT s (tA 100) .int; rw [hA0]; exact aI, by show va_RA s (tA 100) .int; rw [hA0]; exact nI⟩
      | 1, hk => cases hk; exact ⟨by show ArrOfT s (tA 101) .long; rw [hA1]; exact aJ, by show va_RA s (tA 101) .long; rw [hA1]; exact nJ⟩
      | 2, hk => cases hk; exact ⟨by show ArrOfT s (tA 102) .byte; rw [hA2]; exact aB, by show va_RA s (tA 102) .byte; rw [hA2]; exact nB⟩
      | 3, hk => cases hk; exact ⟨by show ArrOfT s (tA 103) (.object RX7); rw [hA3]; exact a7, by show va_RA s (tA 103) (.object RX7); rw [hA3]; exact n7⟩
      | 4, hk => cases hk; exact ⟨by show ArrOfT s (tA 104) (.object RX0); rw [hA4]; exact a8, by show va_RA s (tA 104) (.object RX0); rw [hA4]; exact n8⟩
      | 5, hk => cases hk; exact ⟨by show ArrOfT s (tA 105) (.array .int); rw [hA5]; exact a9, by show va_RA s (tA 105) (.array .int); rw [hA5]; exact n9⟩
      | k + 6, hk => simp [tysL] at hk
  have hKK : KK G s := ⟨hK, hnw, hao7, hao0, haoa, hcast⟩
  have hbase : G.2.2.2.1 = s.heap.size := by rw [hG]
  have hC : Cx G M_L_law p s m #[Value.ref b] meth c := ⟨hx, hb, hr, hml, hown, htg, hlocks, fun h => absurd h (by decide), hKK, by rw [hbase]; exact Nat.le_refl _, fun _ => by rw [hG]; exact ⟨hX, hbl, rfl⟩⟩
  have hw := pure_law (b : Int) (L : Int) (scr G) (by omega) (by omega) (fun i => toInt_r32 _) (fun _ _ => 0) rfl
  have hpw := t_L_law (G := G) rfl _ _ hw
  have hR : RepH G [] (fun _ _ => 0) s.heap := ⟨by rw [hbase]; rfl, fun i q h => by cases h⟩
  have hWT : WT [] (fun _ _ => 0) := ⟨rfl, fun i q h => by cases h⟩
  have hl := lv_entry ([.ref b]) (n := 4) (Nat.le_of_ble_eq_true rfl)
  rw [lg_entry_eq]
  generalize (lg_sl ([.ref b]) ++ List.replicate (4 - (lg_sl ([.ref b])).length) Slot.unset).toArray = ls at hl ⊢
  have hl2 : lv_has ls 4 (([(0, vr 200 (b : Int) (L : Int))] : List (Nat × PV)).map fun q => (q.1, tv G.2.2.2.1 q.2)) := hl
  have hok : ∀ q ∈ ([(0, vr 200 (b : Int) (L : Int))] : List (Nat × PV)), okv G [] q.2 := List.forall_mem_cons.mpr ⟨by
    show (b : Int) = _ ∧ (L : Int) = _
    rw [hG]; exact ⟨rfl, rfl⟩, fun _ h => absurd h List.not_mem_nil⟩
  have hfin := hpw p e s m #[Value.ref b] below meth c s.heap [] ls [] [] hC va_S.rf hR hWT hl2 hok (fun v hv => by cases hv) (fun v hv => by cases hv) kle.rf rfl
  rw [hG] at hfin
  intro T hT X
  obtain ⟨t, h1, o, h2, h3, ⟨⟨r, h', ks', h4, h5, -⟩, -⟩, Lc, h6, h7⟩ := hfin T hT X
  refine ⟨t, h1, o, h2, h3, ?_, h6.1, h6.2.1, ?_⟩
  · rw [h4, h5]; rfl
  · have h8 := h6.2.2
    refine State.sameButNew.drop_fresh (L := []) (J := Lc) h8 (fun q hq => ?_)
    exact h7 q hq
-- ===== YOUR PART ENDS =====
set_option maxHeartbeats 4000000 in
theorem lw_walk (l : Launch) (b : Addr) (xs : List Int32) : MetFree l x (headSpec (Jvm.Cond.code x code maxLocals ret :: tables_1) room_1) (lw_P b xs) (fun _ _ _ _ _ => True) lw_Q := by
  refine MetFree.of_bodyS (code := code) (maxLocals := maxLocals) (ret := ret) (by decide) ?_ ?_
  · intro args s m h hn
    obtain ⟨meth, c, h1, h2, h3, h4, h5, h6, -, -⟩ := Cond.code_spec hn (atoms_spec (ws := Jvm.Cond.code x code maxLocals ret :: tables_1) h _ List.mem_cons_self)
    exact ⟨meth, c, h1, h2, h3, h4, h5, h6⟩
  · intro p e s m args below meth c s₁ B hml0 hP _
    obtain ⟨rfl, hx, hbd, hgv⟩ := hP
    obtain ⟨scr, harrAt, hlist, hof, hsmall⟩ := hx
    obtain ⟨hcb, hkn, -, -⟩ := State.arrayAt?_spec harrAt
    have hown : s.vm.findClass R_law = some m.cls := findClass_of_methodNamed B.named
    have hts0 : ∀ c ∈ (Jvm.Cond.code x code maxLocals ret :: tables_1), c.before #[Value.ref b] s = true := atoms_spec (ws := Jvm.Cond.code x code maxLocals ret :: tables_1) B.pre
    have hts : ∀ w ∈ lw_tbl, w.before #[Value.ref b] s = true := k2_hts_sels lw_privs (fun w hw => hts0 w (List.mem_cons_of_mem _ hw)) lw_privs_ok
    have hml : c.maxLocals = 4 := B.maxLocals_eq (hts0 _ List.mem_cons_self)
    have X₀ : Stand p l e room_1 s m #[Value.ref b] below meth c s₁ [] 0 0 := Stand.of_body B
    have hh0 : s₁.heap = s.heap := by rw [B.state]; rfl
    have hsz : scr.slots.size = xs.length := by rw [← Array.length_toList, hlist, List.length_map]
    have hval : ∀ j : Nat, j < xs.length → scr.slots[j]? = some (.int (xs.getD j 0)) := fun j hj => by
      rw [← Array.getElem?_toList, hlist]
      simp [hj]
    have hbl : b < s.heap.size := (Array.getElem?_eq_some_iff.mp hcb).1
    have hX : va_X b xs.length (fun j => xs.getD j 0) s s.heap := ⟨scr, hcb, hof, hkn, hsz, hval⟩
    have K : W p l e room_1 s m #[Value.ref b] below meth c s₁.heap [] 0 0 (lw_Z below #[Value.ref b] s) (entryFrame m ([Value.ref b] : List Value).toArray 4) := by
      rw [hh0]
      exact whole_start l hbd ⟨B.exec, B.bytes, B.returns, hml, hown, hts, hX, hbl, B.notSynchronized, hgv⟩
    obtain ⟨t, a1, o, b1, b2, b3⟩ := K s₁ rfl X₀
    exact ⟨t, o, a1, b1, b2, b3⟩
theorem lw_pre_spec {args : Array Value} {s : State} (h : (Jvm.Cond.and given_1 narrow_1).before args s = true) (hr : rest_1_c.before args s = true) : ∃ (b : Addr) (xs : List Int32), lw_P b xs args s := by
  have hs := flat_of_before _ h
  have hq := flat_of_before _ hr
  have hc : (Cond.count 1).before args s = true := hs _ (by decide +kernel)
  have harr : (Cond.arrayOf (.arg 0) .int).before args s = true := hs _ (by decide +kernel)
  have hle : (Cond.le (.length (.arg 0)) (.int 3584)).before args s = true := hs _ (by decide +kernel)
  have hlen : (Cond.isInt (.length (.arg 0))).before args s = true := hq _ (by decide +kernel)
  have hall : (Cond.all (.arg 0) (.isInt (.elem (.arg 0) (.index 0)))).before args s = true := hq _ (by decide +kernel)
  obtain ⟨b, xs, hb, hx⟩ := State.ints_of_pre rfl harr hlen hall
  have hsm : xs.length < 2 ^ 31 := hx.choose_spec.2.2.2
  have hev : (Term.length (.arg 0)).eval args s none [] s = some (.int xs.length.toInt32) := hx.length_eval hb
  have hv := Cond.le_ints hev (show (Term.int 3584).eval args s none [] s = some (.int 3584) from rfl)
  have hd : xs.length.toInt32 ≤ 3584 := by
    simpa [Cond.before, Cond.holds, hv] using hle
  have hN : xs.length ≤ 3584 := (Int32.ofNat_le_ofNat hsm (by decide)).mp (show Int32.ofNat xs.length ≤ Int32.ofNat 3584 from hd)
  exact ⟨b, xs, Cond.one_arg hc (show args[0]? = some (.ref b) from hb), hx, hN, h⟩
theorem lw_comes (l : Launch) : Comes l x (Jvm.Cond.code x code maxLocals ret :: tables_1) room_1 (fun tb e args s => Calls_1 tb e args s ∧ rest_1 tb e args s ∧ Pre_1 tb e args s)
    (fun _ _ args s o t => lw_Q args s o t) := by
  intro p e ha hc hk s m args below hf hfit hheap happ hpre
  obtain ⟨b, xs, hP⟩ := lw_pre_spec hpre.2.2 hpre.2.1
  obtain ⟨k, o, h1, h2, h3, hQ⟩ := lw_walk l b xs p e ha hc hk s m args below hf ((Spec.applies_iff_loose hf).mp happ).1 hP trivial
  exact ⟨k, o, h1, h2, h3, hQ⟩
theorem lw_frame {s t : State} {o : Outcome} {args : Array Value} (h : Framed s o t [] 600000 7302250) :
    Framed s o t (fieldLocs frame_1_writes args s ++ arrayLocs frame_1_arrays args s ++ staticLocs frame_1_statics s) 600000 7302250 := h
theorem lw_limb (L : Cond) (hL : ∀ (args : Array Value) (s t : State), L.after args s (.returned (some (.int 1))) t = true) :
    ArmFor flags0 classFile x code maxLocals ret World_1 tables_1 room_1 Calls_1 rest_1 Pre_1
      (fun tb e a s o t => postC L tb e a s o t ∧ Framed s o t (fieldLocs frame_1_writes a s ++ arrayLocs frame_1_arrays a s ++ staticLocs frame_1_statics s) 600000 7302250) := by
  intro l _ _ _ p e ha hc hk s m args below hf hfit hheap happ hpre
  obtain ⟨k, o, h1, h2, h3, rfl, hF⟩ := lw_comes l p e ha hc hk s m args below hf hfit hheap happ hpre
  exact ⟨k, _, h1, h2, h3, hL args s _, lw_frame hF⟩
theorem i_vc : Claimed_1_1 ∧ Claimed_1_2 := ⟨lw_limb limb_1_1 (fun args s t => by simp [limb_1_1, Cond.after, Cond.holds, Cond.value]), lw_limb limb_1_2 (fun args s t => Cond.after_iff.mpr (by
  first | (rw [show limb_1_2 = Cond.eq .result (.int 1) from rfl, Cond.eq_ints (x := 1) (y := 1) rfl rfl]; simp; done) | (simp [limb_1_2, Cond.value, Term.eval]; done)))⟩
