/-! new int[5][40] on the machine -/
def mo (c : ClassId) (h0 : Nat) (i : Nat) : Cell := arrV c 5 (fun j => if j < i then .ref (h0 + 1 + j) else .null)
def mi (c : ClassId) : Cell := arrV c 40 (fun _ => .int 0)
theorem mo_set (c : ClassId) (h0 i : Nat) : (mo c h0 i).setSlot i (.ref (h0 + 1 + i)) = mo c h0 (i + 1) := by
  unfold mo
  rw [arrV_store]
  congr 1
  funext j
  unfold updV
  by_cases e : j = i
  · subst e
    rw [if_pos rfl, if_pos (by omega)]
  · rw [if_neg e]
    by_cases h : j < i
    · show (if j < i then _ else _) = _
      rw [if_pos h, if_pos (by omega)]
    · show (if j < i then _ else _) = _
      rw [if_neg h, if_neg (by omega)]
/-- the state with the outer array and its first i rows -/
def mst (s : State) (c comp : ClassId) : Nat → State
  | 0 => s.pushCell (mo c s.heap.size 0)
  | i + 1 => ((mst s c comp i).pushCell (mi comp)).setCell s.heap.size (mo c s.heap.size (i + 1))
theorem mst_facts (s : State) (c comp : ClassId) : ∀ i, (mst s c comp i).heap.size = s.heap.size + 1 + i ∧ (mst s c comp i).heap[s.heap.size]? = some (mo c s.heap.size i) ∧ (mst s c comp i).vm = s.vm ∧ (mst s c comp i).slotsUsed = s.slotsUsed + 5 + i * 40
  | 0 => ⟨by simp [mst], by simp [mst], rfl, by simp [mst, mo, arrV_size]⟩
  | i + 1 => by
    obtain ⟨a, b, d, u⟩ := mst_facts s c comp i
    have hlt : s.heap.size < (mst s c comp i).heap.size := by omega
    have hb' : ((mst s c comp i).pushCell (mi comp)).heap[s.heap.size]? = some (mo c s.heap.size i) := by rw [State.heap_pushCell_of_lt (h := hlt)]; exact b
    refine ⟨?_, State.heap_setCell_self hb', by simp [mst, d], ?_⟩
    · simp [mst, State.setCell, a]; omega
    · simp [mst, u, mi, arrV_size]; omega
theorem mst_setTop (s : State) (f : JFrame) (c comp : ClassId) : ∀ i, mst (s.setTop f) c comp i = (mst s c comp i).setTop f
  | 0 => rfl
  | i + 1 => by simp only [mst, mst_setTop s f c comp i, State.heap_setTop, State.pushCell_setTop, State.setCell_setTop]
theorem mst_old (s : State) (c comp : ClassId) {a : Addr} (ha : a < s.heap.size) : ∀ i, (mst s c comp i).heap[a]? = s.heap[a]?
  | 0 => State.heap_pushCell_of_lt _ _ ha
  | i + 1 => by
    have f1 := (mst_facts s c comp i).1
    have hlt : a < (mst s c comp i).heap.size := Nat.lt_of_lt_of_le ha (by rw [f1]; omega)
    show (((mst s c comp i).pushCell (mi comp)).setCell s.heap.size _).heap[a]? = _
    rw [State.heap_setCell_other (Nat.ne_of_gt ha), State.heap_pushCell_of_lt (h := hlt)]
    exact mst_old s c comp ha i
theorem mst_row (s : State) (c comp : ClassId) : ∀ i j, j < i → (mst s c comp i).heap[s.heap.size + 1 + j]? = some (mi comp)
  | 0, _, h => absurd h (Nat.not_lt_zero _)
  | i + 1, j, h => by
    have f1 := (mst_facts s c comp i).1
    show (((mst s c comp i).pushCell (mi comp)).setCell s.heap.size _).heap[s.heap.size + 1 + j]? = _
    rw [State.heap_setCell_other (show s.heap.size ≠ s.heap.size + 1 + j by omega)]
    rcases Nat.lt_or_ge j i with hj | hj
    · rw [State.heap_pushCell_of_lt (h := show s.heap.size + 1 + j < (mst s c comp i).heap.size by rw [f1]; omega)]
      exact mst_row s c comp i j hj
    · have e : j = i := by omega
      subst e
      rw [← f1]
      exact State.heap_pushCell_size _ _
section MW
variable {E : CtlPost} {e : Env} {d : Bool} {acts : List Action} {s : State}
theorem wp_na {c comp : ClassId} {k : Class} {type : FieldType} {len : Nat} {init : Value} (hk : s.vm.classes[c]? = some k) (hkind : k.kind = .array comp type)
    (hlimit : ¬ len > e.platform.arrayLengthLimit) (hheap : ¬ len * componentBytes type > e.platform.maxHeapBytes) (hfit : fits type init = true) (hdef : init.isDefault = true) {Q : Addr → Pre}
    (h1 : s.heap.size < e.platform.maxCells) (h2 : s.slotsUsed + len ≤ e.platform.maxSlots)
    (hq : Q s.heap.size d acts (s.pushCell (arrV c len (fun _ => init)))) :
    wp (Jvm.newArray c len init) Q E e d acts s := by
  have hfits : ∀ i v, (Array.replicate len init)[i]? = some v → s.fitsSlot c .none i v = true := by
    intro i v hv
    simp only [Array.getElem?_replicate] at hv
    split at hv
    · cases hv; simp [State.fitsSlot, State.slotType?, hk, hkind, hfit]
    · cases hv
  have hda : allocActs (Array.replicate len init) s.heap.size acts = acts := by
    have hall : ((Array.replicate len init).all (·.isDefault)) = true := by
      rw [Array.all_replicate]; split <;> simp [hdef]
    unfold allocActs; rw [if_pos hall]
  rw [← arrV_new] at hq
  simp only [Jvm.newArray, Jvm.arrayFits, wp_bind', W.ask, W.ite, hlimit, if_false, wp_pure', W.theClass, hk, hkind, hheap, W.alloc, W.stop, Option.some.injEq, exists_eq_left', Array.size_replicate, hda]
  rw [if_neg (by omega)]
  exact ⟨h1, h2, hfits, hq⟩
theorem wp_mrow {comp cc : ClassId} {kc : Class} (hkc : s.vm.classes[comp]? = some kc) (hkindc : kc.kind = .array cc .int)
    (hl2 : ¬ 40 > e.platform.arrayLengthLimit) (hh2 : ¬ 40 * 4 > e.platform.maxHeapBytes) (h1 : s.heap.size < e.platform.maxCells) (h2 : s.slotsUsed + 40 ≤ e.platform.maxSlots)
    {Q : Addr → Pre} (hq : Q s.heap.size d acts (s.pushCell (mi comp))) : wp (multianewarray.make comp [i32 40]) Q E e d acts s := by
  have h40 : (i32 40).toNatClampNeg = 40 := by decide
  rw [multianewarray.make]
  simp only [wp_bind', W.ite, show ¬ i32 40 < 0 by decide, if_false, wp_pure', W.theClass, hkc, hkindc, Option.some.injEq, exists_eq_left', h40]
  exact wp_na hkc hkindc hl2 hh2 rfl rfl h1 h2 hq
theorem wp_mall {c comp cc : ClassId} {k kc : Class} (hk : s.vm.classes[c]? = some k) (hkind : k.kind = .array comp (.array .int)) (hkc : s.vm.classes[comp]? = some kc) (hkindc : kc.kind = .array cc .int)
    (hl1 : ¬ 5 > e.platform.arrayLengthLimit) (hh1 : ¬ 5 * 4 > e.platform.maxHeapBytes) (hl2 : ¬ 40 > e.platform.arrayLengthLimit) (hh2 : ¬ 40 * 4 > e.platform.maxHeapBytes)
    (hc : s.heap.size + 6 ≤ e.platform.maxCells) (hs : s.slotsUsed + 205 ≤ e.platform.maxSlots)
    {Q : Addr → Pre} (hq : ∀ d' acts', Q s.heap.size d' acts' (mst s c comp 5)) : wp (multianewarray.make c [i32 5, i32 40]) Q E e d acts s := by
  have h5 : (i32 5).toNatClampNeg = 5 := by decide
  have hfind : ([i32 40].find? (· < 0)) = none := by decide
  rw [multianewarray.make]
  simp only [wp_bind', W.ite, show ¬ i32 5 < 0 by decide, if_false, wp_pure', W.theClass, hk, hkind, Option.some.injEq, exists_eq_left', h5]
  refine wp_na hk hkind hl1 hh1 rfl rfl (by omega) (by omega) ?_
  simp only [hfind]
  rw [ite_self, wp_bind', Std.Legacy.Range.forIn_eq_forIn_range']
  have hsz : ([:5] : Std.Legacy.Range).size = 5 := by simp [Std.Legacy.Range.size]
  rw [hsz]
  show wp (forIn (List.range' 0 5 1) PUnit.unit _) _ E e d acts _
  refine wp_forIn_inv (fun rest s' => ∃ i, i ≤ 5 ∧ rest = List.range' i (5 - i) ∧ s' = mst s c comp i) _ _ ⟨0, by omega, rfl, ?_⟩ ?_ ?_
  · show _ = s.pushCell (mo c s.heap.size 0)
    rfl
  · rintro x rest s' d' acts' Q' ⟨i, hi, hl, rfl⟩ hnext
    have hlt : i < 5 := by
      rcases Nat.lt_or_ge i 5 with h | h
      · exact h
      · rw [show 5 - i = 0 from by omega] at hl; simp at hl
    obtain ⟨rfl, hrest⟩ : x = i ∧ rest = List.range' (i + 1) (5 - (i + 1)) := by
      rw [show 5 - i = (5 - (i + 1)) + 1 from by omega, List.range'_succ] at hl
      exact ⟨(List.cons.inj hl).1, (List.cons.inj hl).2⟩
    obtain ⟨f1, f2, f3, f4⟩ := mst_facts s c comp x
    simp only [wp_bind']
    refine wp_mrow (by rw [f3]; exact hkc) hkindc hl2 hh2 (by rw [f1]; omega) (by rw [f4]; omega) ?_
    have hlt0 : s.heap.size < (mst s c comp x).heap.size := by rw [f1]; omega
    simp only [wp_bind', W.writeLoc, wp_pure']
    refine ⟨mo c s.heap.size x, by rw [State.heap_pushCell_of_lt (h := hlt0)]; exact f2, (fun h => by cases h), (by show x < (arrV _ _ _).slots.size; rw [arrV_size]; exact hlt), ?_, hnext _ _ _ ⟨x + 1, hlt, hrest, ?_⟩⟩
    · show State.fitsSlot _ c .none x _ = true
      simp [State.fitsSlot, State.slotType?, f3, hk, hkind, fits]
    · rw [f1, mo_set]; rfl
  · rintro s' d' acts' ⟨i, hi, hl, rfl⟩
    have hiN : i = 5 := by
      rcases Nat.lt_or_ge i 5 with h | h
      · rw [show 5 - i = (5 - (i + 1)) + 1 from by omega, List.range'_succ] at hl; cases hl
      · omega
    subst hiN
    simp only [wp_pure']
    exact hq _ _
end MW
section MS
variable {p : Program} {l : Launch} {e : Env} {R : Room} {s : State} {m : MethodId} {args : Array Value} {below : List Frame} {meth : Method} {c : Code} {T : State} {locs : List Loc} {cells slots : Nat}
theorem mst_stand (X : Stand p l e R s m args below meth c T locs cells slots) (cA comp : ClassId) : ∀ i, Stand p l e R s m args below meth c (mst T cA comp i) (locs ++ (List.range i).map fun j => ⟨T.heap.size, j⟩) (cells + 1 + i) (slots + 5 + i * 40)
  | 0 => by
    have h := X.pushed (mo cA T.heap.size 0)
    rw [show (mo cA T.heap.size 0).slots.size = 5 from arrV_size _ _ _] at h
    simpa [mst] using h
  | i + 1 => by
    have Xi := mst_stand X cA comp i
    obtain ⟨f1, f2, f3, f4⟩ := mst_facts T cA comp i
    have hlt0 : T.heap.size < (mst T cA comp i).heap.size := by rw [f1]; omega
    have hcell : ((mst T cA comp i).pushCell (mi comp)).heap[T.heap.size]? = some (mo cA T.heap.size i) := by rw [State.heap_pushCell_of_lt (h := hlt0)]; exact f2
    have h := (Xi.pushed (mi comp)).stored hcell i (.ref (T.heap.size + 1 + i))
    rw [show (mi comp).slots.size = 40 from arrV_size _ _ _, mo_set] at h
    have e2 : (locs ++ (List.range (i + 1)).map fun j => (⟨T.heap.size, j⟩ : Loc)) = (locs ++ (List.range i).map fun j => (⟨T.heap.size, j⟩ : Loc)) ++ [⟨T.heap.size, i⟩] := by simp [List.range_succ, List.append_assoc]
    have e3 : slots + 5 + (i + 1) * 40 = slots + 5 + i * 40 + 40 := by omega
    rw [e2, e3]
    exact h
theorem multi_step (X : Stand p l e R s m args below meth c T locs cells slots) (hexec : p.tables.exec = Jvm.exec) {own : String} {index : Nat} (hown : s.vm.findClass own = some m.cls) (hclink : (Cond.classLink own index ("[" ++ (FieldType.array .int).toString)).before args s = true) (hover : AOA s) (harr : (Cond.arrayClass .int).before args s = true)
    {g : JFrame} (hg : g.method = m) (hdg : decode c.code g.pc = .ok (.multianewarray index 2, 4)) {rest : List Value} (hstack : g.stack = .int (i32 40) :: .int (i32 5) :: rest) (hcells : cells + 6 ≤ R.cells) (hslots : slots + 205 ≤ R.slots) :
    ∃ (vm₁ : Vm) (cA comp : ClassId), s.vm.findClass ("[" ++ (FieldType.array .int).toString) = some cA ∧ s.vm.findClass (FieldType.array .int).toString = some comp ∧
      Stand p l e R s m args below meth c (mst (T.setVm vm₁) cA comp 5) (locs ++ (List.range 5).map fun j => ⟨T.heap.size, j⟩) (cells + 1 + 5) (slots + 5 + 5 * 40) ∧
      ∀ target, Steps p.tables e below ((mst (T.setVm vm₁) cA comp 5).setTop { g with pc := g.pc + 4, stack := .ref T.heap.size :: rest }) target → Steps p.tables e below (T.setTop g) target := by
  subst hg
  have hpl : e.platform.magicAccessors = ({} : Platform).magicAccessors := by rw [X.admits.platform]
  obtain ⟨comp, cA, kA, hcomp, -, hkA, hkindA, hnameA⟩ := AOA_spec hover
  obtain ⟨comp', kC, cc, hcomp', hkC, hkindC⟩ := Cond.arrayClass_spec harr
  have ecomp : comp' = comp := Option.some.inj (hcomp'.symm.trans hcomp)
  subst ecomp
  obtain ⟨c0, hfc0, hcl⟩ := Cond.classLink_spec hown hclink e.platform hpl
  cases hnameA.symm.trans hfc0
  obtain ⟨hg₁, hwarm₁, hready₁⟩ := State.classEntry (e := e) X.warmed hcl
  generalize T.vm.noted g.method.cls index (.cls cA) = vm₁ at hg₁ hwarm₁ hready₁
  have hal : s.vm.Alike vm₁ := hwarm₁.alike
  obtain ⟨kA₁, hkA₁, heA⟩ := hal.2.2 _ _ hkA
  obtain ⟨kC₁, hkC₁, heC⟩ := hal.2.2 _ _ hkC
  have hkindA₁ : kA₁.kind = .array comp' (.array .int) := by rw [heA]; exact hkindA
  have hkindC₁ : kC₁.kind = .array cc .int := by rw [heC]; exact hkindC
  have X₁ := X.noted hwarm₁
  obtain ⟨hr1, hr2⟩ := X.roomAbove hcells hslots
  refine ⟨vm₁, cA, comp', hnameA, hcomp, mst_stand X₁ cA comp' 5, fun target hrest => ?_⟩
  have hl1 : ¬ 5 > e.platform.arrayLengthLimit := by rw [Launch.admits_arrayLengthLimit X.admits]; omega
  have hh1 : ¬ 5 * 4 > e.platform.maxHeapBytes := by rw [Launch.admits_maxHeapBytes X.admits]; omega
  have hl2 : ¬ 40 > e.platform.arrayLengthLimit := by rw [Launch.admits_arrayLengthLimit X.admits]; omega
  have hh2 : ¬ 40 * 4 > e.platform.maxHeapBytes := by rw [Launch.admits_maxHeapBytes X.admits]; omega
  jvm_step X.here [hexec, hdg]
  simp only [multianewarray.sem, wp_bind', W.resolveClassAt_links (State.method?_setTop g X.here.top) hg₁]
  rw [W.popN, if_neg (by decide)]
  refine ⟨g, State.topJava?_setTop' (s := T.setVm vm₁) g X.here.top, [.int (i32 5), .int (i32 40)], rest, rfl, hstack, ?_⟩
  simp only [List.mapM_cons, List.mapM_nil, wp_bind', wp_pure']
  refine wp_mall (k := kA₁) (kc := kC₁) (comp := comp') (cc := cc) hkA₁ hkindA₁ hkC₁ hkindC₁ hl1 hh1 hl2 hh2 (by show T.heap.size + 6 ≤ _; omega) (by show T.slotsUsed + 205 ≤ _; omega) (fun d' acts' => ?_)
  have XF := mst_stand X₁ cA comp' 5
  have eS : ((T.setTop g).setVm vm₁).setTop { g with stack := rest } = (T.setVm vm₁).setTop { g with stack := rest } := by
    show ((T.setVm vm₁).setTop g).setTop _ = _
    rw [State.setTop_setTop]
  rw [eS, mst_setTop]
  simp only [wp_bind', W.mark, W.pushRef, State.topJava?_setTop' _ XF.here.top, Option.some.injEq, exists_eq_left', State.setTop_setTop, State.heap_setTop]
  intro acts
  simp [jvm, XF.here.top]
  exact hrest
end MS
