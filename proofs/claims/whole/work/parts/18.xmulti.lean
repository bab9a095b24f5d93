/-! new int[5][40] on the machine -/
def mo (c : ClassId) (h0 : Nat) (i : Nat) : Cell := arrV c 5 (fun j => if j < i then .ref (h0 + 1 + j) else .null)
def mi (c : ClassId) : Cell := arrV c 40 (fun _ => .int 0)
theorem mo_set (c : ClassId) (h0 i : Nat) : (mo c h0 i).setSlot i (.ref (h0 + 1 + i)) = mo c h0 (i + 1) := by
  unfold mo
  rw [arrV_store]
  congr 1
  funext j
  unfold updV
  by_cases e : j = i
  · subst e
    rw [if_pos rfl, if_pos (by omega)]
  · rw [if_neg e]
    by_cases h : j < i
    · show (if j < i then _ else _) = _
      rw [if_pos h, if_pos (by omega)]
    · show (if j < i then _ else _) = _
      rw [if_neg h, if_neg (by omega)]
/-- the state with the outer array and its first i rows -/
def mst (s : State) (c comp : ClassId) : Nat → State
  | 0 => s.pushCell (mo c s.heap.size 0)
  | i + 1 => ((mst s c comp i).pushCell (mi comp)).setCell s.heap.size (mo c s.heap.size (i + 1))
theorem mst_facts (s : State) (c comp : ClassId) : ∀ i, (mst s c comp i).heap.size = s.heap.size + 1 + i ∧ (mst s c comp i).heap[s.heap.size]? = some (mo c s.heap.size i) ∧ (mst s c comp i).vm = s.vm ∧ (mst s c comp i).slotsUsed = s.slotsUsed + 5 + i * 40
  | 0 => ⟨by simp [mst], by simp [mst], rfl, by simp [mst, mo, arrV_size]⟩
  | i + 1 => by
    obtain ⟨a, b, d, u⟩ := mst_facts s c comp i
    have hlt : s.heap.size < (mst s c comp i).heap.size := by omega
    have hb' : ((mst s c comp i).pushCell (mi comp)).heap[s.heap.size]? = some (mo c s.heap.size i) := by rw [State.heap_pushCell_of_lt (h := hlt)]; exact b
    refine ⟨?_, State.heap_setCell_self hb', by simp [mst, d], ?_⟩
    · simp [mst, State.setCell, a]; omega
    · simp [mst, u, mi, arrV_size]; omega
theorem mst_setTop (s : State) (f : JFrame) (c comp : ClassId) : ∀ i, mst (s.setTop f) c comp i = (mst s c comp i).setTop f
  | 0 => rfl
  | i + 1 => by simp only [mst, mst_setTop s f c comp i, State.heap_setTop, State.pushCell_setTop, State.setCell_setTop]
theorem mst_old (s : State) (c comp : ClassId) {a : Addr} (ha : a < s.heap.size) : ∀ i, (mst s c comp i).heap[a]? = s.heap[a]?
  | 0 => State.heap_pushCell_of_lt _ _ ha
  | i + 1 => by
    have f1 := (mst_facts s c comp i).1
    have hlt : a < (mst s c comp i).heap.size := Nat.lt_of_lt_of_le ha (by rw [f1]; omega)
    show (((mst s c comp i).pushCell (mi comp)).setCell s.heap.size _).heap[a]? = _
    rw [State.heap_setCell_other (Nat.ne_of_gt ha), State.heap_pushCell_of_lt (h := hlt)]
    exact mst_old s c comp ha i
theorem mst_row (s : State) (c comp : ClassId) : ∀ i j, j < i → (mst s c comp i).heap[s.heap.size + 1 + j]? = some (mi comp)
  | 0, _, h => absurd h (Nat.not_lt_zero _)
  | i + 1, j, h => by
    have f1 := (mst_facts s c comp i).1
    show (((mst s c comp i).pushCell (mi comp)).setCell s.heap.size _).heap[s.heap.size + 1 + j]? = _
    rw [State.heap_setCell_other (show s.heap.size ≠ s.heap.size + 1 + j by omega)]
    rcases Nat.lt_or_ge j i with hj | hj
    · rw [State.heap_pushCell_of_lt (h := show s.heap.size + 1 + j < (mst s c comp i).heap.size by rw [f1]; omega)]
      exact mst_row s c comp i j hj
    · have e : j = i := by omega
      subst e
      rw [← f1]
      exact State.heap_pushCell_size _ _
section MW
variable {E : CtlPost} {e : Env} {d : Bool} {acts : List Action} {s : State}
theorem wp_na {c comp : ClassId} {k : Class} {type : FieldType} {len : Nat} {init : Value} (hk : s.vm.classes[c]? = some k) (hkind : k.kind = .array comp type)
    (hlimit : ¬ len > e.platform.arrayLengthLimit) (hheap : ¬ len * componentBytes type > e.platform.maxHeapBytes) (hfit : fits type init = true) (hdef : init.isDefault = true) {Q : Addr → Pre}
    (h1 : s.heap.size < e.platform.maxCells) (h2 : s.slotsUsed + len ≤ e.platform.maxSlots)
    (hq : Q s.heap.size d acts (s.pushCell (arrV c len (fun _ => init)))) :
    wp (Jvm.newArray c len init) Q E e d acts s := by
  have hfits : ∀ i v, (Array.replicate len init)[i]? = some v → s.fitsSlot c .none i v = true := by
    intro i v hv
    simp only [Array.getElem?_replicate] at hv
    split at hv
    · cases hv; simp [State.fitsSlot, State.slotType?, hk, hkind, hfit]
    · cases hv
  have hda : allocActs (Array.replicate len init) s.heap.size acts = acts := by
    have hall : ((Array.replicate len init).all (·.isDefault)) = true := by
      rw [Array.all_replicate]; split <;> simp [hdef]
    unfold allocActs; rw [if_pos hall]
  rw [← arrV_new] at hq
  simp only [Jvm.newArray, Jvm.arrayFits, wp_bind', W.ask, W.ite, hlimit, if_false, wp_pure', W.theClass, hk, hkind, hheap, W.alloc, W.stop, Option.some.injEq, exists_eq_left', Array.size_replicate, hda]
  rw [if_neg (by omega)]
  exact ⟨h1, h2, hfits, hq⟩
theorem wp_mrow {comp cc : ClassId} {kc : Class} (hkc : s.vm.classes[comp]? = some kc) (hkindc : kc.kind = .array cc .int)
    (hl2 : ¬ 40 > e.platform.arrayLengthLimit) (hh2 : ¬ 40 * 4 > e.platform.maxHeapBytes) (h1 : s.heap.size < e.platform.maxCells) (h2 : s.slotsUsed + 40 ≤ e.platform.maxSlots)
    {Q : Addr → Pre} (hq : Q s.heap.size d acts (s.pushCell (mi comp))) : wp (multianewarray.make comp [i32 40]) Q E e d acts s := by
  have h40 : (i32 40).toNatClampNeg = 40 := by decide
  rw [multianewarray.make]
  simp only [wp_bind', W.ite, show ¬ i32 40 < 0 by decide, if_false, wp_pure', W.theClass, hkc, hkindc, Option.some.injEq, exists_eq_left', h40]
  exact wp_na hkc hkindc hl2 hh2 rfl rfl h1 h2 hq
theorem wp_mall {c comp cc : ClassId} {k kc : Class} (hk : s.vm.classes[c]? = some k) (hkind : k.kind = .array comp (.array .int)) (hkc : s.vm.classes[comp]? = some kc) (hkindc : kc.kind = .array cc .int)
    (hl1 : ¬ 5 > e.platform.arrayLengthLimit) (hh1 : ¬ 5 * 4 > e.platform.maxHeapBytes) (hl2 : ¬ 40 > e.platform.arrayLengthLimit) (hh2 : ¬ 40 * 4 > e.platform.maxHeapBytes)
    (hc : s.heap.size + 6 ≤ e.platform.maxCells) (hs : s.slotsUsed + 205 ≤ e.platform.maxSlots)
    {Q : Addr → Pre} (hq : ∀ d' acts', Q s.heap.size d' acts' (mst s c comp 5)) : wp (multianewarray.make c [i32 5, i32 40]) Q E e d acts s := by
  have h5 : (i32 5).toNatClampNeg = 5 := by decide
  have hfind : ([i32 40].find? (· < 0)) = none := by decide
  rw [multianewarray.make]
  simp only [wp_bind', W.ite, show ¬ i32 5 < 0 by decide, if_false, wp_pure', W.theClass, hk, hkind, Option.some.injEq, exists_eq_left', h5]
  refine wp_na hk hkind hl1 hh1 rfl rfl (by omega) (by omega) ?_
  simp only [hfind]
  rw [ite_self, wp_bind', Std.Legacy.Range.forIn_eq_forIn_range']
  have hsz : ([:5] : Std.Legacy.Range).size = 5 := by simp [Std.Legacy.Range.size]
  rw [hsz]
  show wp (forIn (List.range' 0 5 1) PUnit.unit _) _ E e d acts _
  refine wp_forIn_inv (fun rest s' => ∃ i, i ≤ 5 ∧ rest = List.range' i (5 - i) ∧ s' = mst s c comp i) _ _ ⟨0, by omega, rfl, ?_⟩ ?_ ?_
  · show _ = s.pushCell (mo c s.heap.size 0)
    rfl
  · rintro x rest s' d' acts' Q' ⟨i, hi, hl, rfl⟩ hnext
    have hlt : i < 5 := by
      rcases Nat.lt_or_ge i 5 with h | h
      · exact h
      · rw [show 5 - i = 0 from by omega] at hl; simp at hl
    obtain ⟨rfl, hrest⟩ : x = i ∧ rest = List.range' (i + 1) (5 - (i + 1)) := by
      rw [show 5 - i = (5 - (i + 1)) + 1 from by omega, List.range'_succ] at hl
      exact ⟨(List.cons.inj hl).1, (List.cons.inj hl).2⟩
    obtain ⟨f1, f2, f3, f4⟩ := mst_facts s c comp x
    simp only [wp_bind']
    refine wp_mrow (by rw [f3]; exact hkc) hkindc hl2 hh2 (by rw [f1]; omega) (by rw [f4]; omega) ?_
    have hlt0 : s.heap.size < (mst s c comp x).heap.size := by rw [f1]; omega
    simp only [wp_bind', W.writeLoc, wp_pure']
    refine ⟨mo c s.heap.size x, by rw [State.heap_pushCell_of_lt (h := hlt0)]; exact f2, (fun h => by cases h), (by show x < (arrV _ _ _).slots.size; rw [arrV_size]; exact hlt), ?_, hnext _ _ _ ⟨x + 1, hlt, hrest, ?_⟩⟩
    · show State.fitsSlot _ c .none x _ = true
      simp [State.fitsSlot, State.slotType?, f3, hk, hkind, fits]
    · rw [f1, mo_set]; rfl
  · rintro s' d' acts' ⟨i, hi, hl, rfl⟩
    have hiN : i = 5 := by
      rcases Nat.lt_or_ge i 5 with h | h
      · rw [show 5 - i = (5 - (i + 1)) + 1 from by omega, List.range'_succ] at hl; cases hl
      · omega
    subst hiN
    simp only [wp_pure']
    exact hq _ _
end MW
