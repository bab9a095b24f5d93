/-! rules of PW, 2: locals, null, switches, answers -/
def isL (v : PV) : Bool := match v with
  | .inr (.inl _) => true
  | _ => false
def sto (i : Nat) (v : PV) (ls : List (Nat × PV)) : List (Nat × PV) := (i, v) :: ls.filter (fun q => !(q.1 == i) && !(q.1 + 1 == i && isL q.2))
def stoL (i : Nat) (x : Int) (ls : List (Nat × PV)) : List (Nat × PV) := (i, vl x) :: ls.filter (fun q => !(q.1 == i) && (!(q.1 == i + 1) && !(q.1 + 1 == i && isL q.2)))
theorem tv_cat2 (b : Nat) (v : PV) : ((tv b v).category == 2) = isL v := by
  match v with
  | .inl x => rfl
  | .inr (.inl x) => rfl
  | .inr (.inr (t, a, n)) =>
    show ((if t = 200 then Value.ref a.toNat else rv b a).category == 2) = false
    split
    · rfl
    · unfold rv; split <;> rfl
theorem sto_map (b i : Nat) (v : PV) (ls : List (Nat × PV)) : (i, tv b v) :: (ls.map fun q => (q.1, tv b q.2)).filter (fun q => !(q.1 == i) && !(q.1 + 1 == i && q.2.category == 2)) = (sto i v ls).map fun q => (q.1, tv b q.2) := by
  unfold sto
  rw [List.map_cons, List.filter_map]
  congr 3
  funext q
  show (!(q.1 == i) && !(q.1 + 1 == i && (tv b q.2).category == 2)) = _
  rw [tv_cat2]
theorem stoL_map (b i : Nat) (x : Int) (ls : List (Nat × PV)) : (i, tv b (vl x)) :: (ls.map fun q => (q.1, tv b q.2)).filter (fun q => !(q.1 == i) && (!(q.1 == i + 1) && !(q.1 + 1 == i && q.2.category == 2))) = (stoL i x ls).map fun q => (q.1, tv b q.2) := by
  unfold stoL
  rw [List.map_cons, List.filter_map]
  congr 3
  funext q
  show (!(q.1 == i) && (!(q.1 == i + 1) && !(q.1 + 1 == i && (tv b q.2).category == 2))) = _
  rw [tv_cat2]
theorem sto_ok {G : Gx} {ks : List Kd} {i : Nat} {v : PV} {ls : List (Nat × PV)} (hv : okv G ks v) (h : ∀ q ∈ ls, okv G ks q.2) : ∀ q ∈ sto i v ls, okv G ks q.2 := by
  intro q hq
  rcases List.mem_cons.mp hq with e | e
  · rw [e]; exact hv
  · exact h q (List.mem_filter.mp e).1
theorem stoL_ok {G : Gx} {ks : List Kd} {i : Nat} {x : Int} {ls : List (Nat × PV)} (hv : r64 x) (h : ∀ q ∈ ls, okv G ks q.2) : ∀ q ∈ stoL i x ls, okv G ks q.2 := by
  intro q hq
  rcases List.mem_cons.mp hq with e | e
  · rw [e]; exact hv
  · exact h q (List.mem_filter.mp e).1
theorem ls_at {b j i : Nat} {v : PV} {ls : List (Nat × PV)} {L : Array Slot} {nL : Nat} (hl : lv_has L nL (ls.map fun q => (q.1, tv b q.2))) (hj : ls[j]? = some (i, v)) : L[i]? = some (.val (tv b v)) :=
  lv_at hl j (by rw [List.getElem?_map, hj]; rfl)
theorem ref_cases (b t : Nat) (a n : Int) : tv b (vr t a n) = .null ∨ ∃ y, tv b (vr t a n) = .ref y := by
  show (if t = 200 then Value.ref a.toNat else rv b a) = .null ∨ ∃ y, (if t = 200 then Value.ref a.toNat else rv b a) = .ref y
  split
  · exact Or.inr ⟨_, rfl⟩
  · unfold rv
    split
    · exact Or.inl rfl
    · exact Or.inr ⟨_, rfl⟩
section PR2
variable {G : Gx} {M : MD} {rm : Room} {mc ms : Nat} {tk : List PV} {n0 : Int} {K : Int → Hh → Prop} {pc : Nat} {ls : List (Nat × PV)} {st kn : List PV} {cells slots : Nat} {h : Hh}
theorem p_iload_n {k0 : Fin 4} {i : Nat} {x : Int} (hd : decode M.2.1 pc = .ok (.iload_n k0, 1)) (hi : (k0 : Nat) = i) (j : Nat) (hj : ls[j]? = some (i, vi x)) (k : PW G M rm mc ms tk n0 K (pc + 1) ls (vi x :: st) kn cells slots h) : PW G M rm mc ms tk n0 K pc ls st kn cells slots h := by
  intro p e s m args below meth c H locs L ks ks0 C hS hR hW hl hol hos hon hle hn0
  refine lv_iload_n C.1 C.2.1 hd hi (ls_at hl hj) ?_
  exact k p e s m args below meth c H locs L ks ks0 C hS hR hW hl hol (List.forall_mem_cons.mpr ⟨hol (i, vi x) (List.mem_of_getElem? hj), hos⟩) hon hle hn0
theorem p_iload {i : Nat} {x : Int} (hd : decode M.2.1 pc = .ok (.iload i, 2)) (j : Nat) (hj : ls[j]? = some (i, vi x)) (k : PW G M rm mc ms tk n0 K (pc + 2) ls (vi x :: st) kn cells slots h) : PW G M rm mc ms tk n0 K pc ls st kn cells slots h := by
  intro p e s m args below meth c H locs L ks ks0 C hS hR hW hl hol hos hon hle hn0
  refine lv_iload C.1 C.2.1 hd (ls_at hl hj) ?_
  exact k p e s m args below meth c H locs L ks ks0 C hS hR hW hl hol (List.forall_mem_cons.mpr ⟨hol (i, vi x) (List.mem_of_getElem? hj), hos⟩) hon hle hn0
theorem p_lload_n {k0 : Fin 4} {i : Nat} {x : Int} (hd : decode M.2.1 pc = .ok (.lload_n k0, 1)) (hi : (k0 : Nat) = i) (j : Nat) (hj : ls[j]? = some (i, vl x)) (k : PW G M rm mc ms tk n0 K (pc + 1) ls (vl x :: st) kn cells slots h) : PW G M rm mc ms tk n0 K pc ls st kn cells slots h := by
  intro p e s m args below meth c H locs L ks ks0 C hS hR hW hl hol hos hon hle hn0
  refine lv_lload_n C.1 C.2.1 hd hi (ls_at hl hj) ?_
  exact k p e s m args below meth c H locs L ks ks0 C hS hR hW hl hol (List.forall_mem_cons.mpr ⟨hol (i, vl x) (List.mem_of_getElem? hj), hos⟩) hon hle hn0
theorem p_lload {i : Nat} {x : Int} (hd : decode M.2.1 pc = .ok (.lload i, 2)) (j : Nat) (hj : ls[j]? = some (i, vl x)) (k : PW G M rm mc ms tk n0 K (pc + 2) ls (vl x :: st) kn cells slots h) : PW G M rm mc ms tk n0 K pc ls st kn cells slots h := by
  intro p e s m args below meth c H locs L ks ks0 C hS hR hW hl hol hos hon hle hn0
  refine lv_lload C.1 C.2.1 hd (ls_at hl hj) ?_
  exact k p e s m args below meth c H locs L ks ks0 C hS hR hW hl hol (List.forall_mem_cons.mpr ⟨hol (i, vl x) (List.mem_of_getElem? hj), hos⟩) hon hle hn0
theorem p_aload_n {k0 : Fin 4} {i t : Nat} {a n : Int} (hd : decode M.2.1 pc = .ok (.aload_n k0, 1)) (hi : (k0 : Nat) = i) (j : Nat) (hj : ls[j]? = some (i, vr t a n)) (k : PW G M rm mc ms tk n0 K (pc + 1) ls (vr t a n :: st) kn cells slots h) : PW G M rm mc ms tk n0 K pc ls st kn cells slots h := by
  intro p e s m args below meth c H locs L ks ks0 C hS hR hW hl hol hos hon hle hn0
  have kk := k p e s m args below meth c H locs L ks ks0 C hS hR hW hl hol (List.forall_mem_cons.mpr ⟨hol (i, vr t a n) (List.mem_of_getElem? hj), hos⟩) hon hle hn0
  rw [List.map_cons] at kk
  rcases ref_cases G.2.2.2.1 t a n with e1 | ⟨y, e1⟩
  · rw [e1] at kk
    exact lv_aload_nN C.1 C.2.1 hd hi (by rw [← e1]; exact ls_at hl hj) kk
  · rw [e1] at kk
    exact lv_aload_n C.1 C.2.1 hd hi (by rw [← e1]; exact ls_at hl hj) kk
theorem p_aload {i t : Nat} {a n : Int} (hd : decode M.2.1 pc = .ok (.aload i, 2)) (j : Nat) (hj : ls[j]? = some (i, vr t a n)) (k : PW G M rm mc ms tk n0 K (pc + 2) ls (vr t a n :: st) kn cells slots h) : PW G M rm mc ms tk n0 K pc ls st kn cells slots h := by
  intro p e s m args below meth c H locs L ks ks0 C hS hR hW hl hol hos hon hle hn0
  have kk := k p e s m args below meth c H locs L ks ks0 C hS hR hW hl hol (List.forall_mem_cons.mpr ⟨hol (i, vr t a n) (List.mem_of_getElem? hj), hos⟩) hon hle hn0
  rw [List.map_cons] at kk
  rcases ref_cases G.2.2.2.1 t a n with e1 | ⟨y, e1⟩
  · rw [e1] at kk
    exact lv_aloadN C.1 C.2.1 hd (by rw [← e1]; exact ls_at hl hj) kk
  · rw [e1] at kk
    exact lv_aload C.1 C.2.1 hd (by rw [← e1]; exact ls_at hl hj) kk
theorem p_istore_n {ls' : List (Nat × PV)} {k0 : Fin 4} {i : Nat} {x : Int} (hd : decode M.2.1 pc = .ok (.istore_n k0, 1)) (hi : (k0 : Nat) = i) (hn : i < M.2.2.1) (hl' : sto i (vi x) ls = ls') (k : PW G M rm mc ms tk n0 K (pc + 1) ls' st kn cells slots h) : PW G M rm mc ms tk n0 K pc ls (vi x :: st) kn cells slots h := by
  intro p e s m args below meth c H locs L ks ks0 C hS hR hW hl hol hos hon hle hn0
  subst hl'
  have hx := (List.forall_mem_cons.mp hos).1
  have ht := (List.forall_mem_cons.mp hos).2
  refine lv_istore_n C.1 C.2.1 hd hi hl hn (sto_map G.2.2.2.1 i (vi x) ls) (fun L' hl' => ?_)
  exact k p e s m args below meth c H locs L' ks ks0 C hS hR hW hl' (sto_ok hx hol) ht hon hle hn0
theorem p_istore {ls' : List (Nat × PV)} {i : Nat} {x : Int} (hd : decode M.2.1 pc = .ok (.istore i, 2)) (hn : i < M.2.2.1) (hl' : sto i (vi x) ls = ls') (k : PW G M rm mc ms tk n0 K (pc + 2) ls' st kn cells slots h) : PW G M rm mc ms tk n0 K pc ls (vi x :: st) kn cells slots h := by
  intro p e s m args below meth c H locs L ks ks0 C hS hR hW hl hol hos hon hle hn0
  subst hl'
  have hx := (List.forall_mem_cons.mp hos).1
  have ht := (List.forall_mem_cons.mp hos).2
  refine lv_istore C.1 C.2.1 hd hl hn (sto_map G.2.2.2.1 i (vi x) ls) (fun L' hl' => ?_)
  exact k p e s m args below meth c H locs L' ks ks0 C hS hR hW hl' (sto_ok hx hol) ht hon hle hn0
theorem p_lstore_n {ls' : List (Nat × PV)} {k0 : Fin 4} {i : Nat} {x : Int} (hd : decode M.2.1 pc = .ok (.lstore_n k0, 1)) (hi : (k0 : Nat) = i) (hn : i + 1 < M.2.2.1) (hl' : stoL i x ls = ls') (k : PW G M rm mc ms tk n0 K (pc + 1) ls' st kn cells slots h) : PW G M rm mc ms tk n0 K pc ls (vl x :: st) kn cells slots h := by
  intro p e s m args below meth c H locs L ks ks0 C hS hR hW hl hol hos hon hle hn0
  subst hl'
  have hx := (List.forall_mem_cons.mp hos).1
  have ht := (List.forall_mem_cons.mp hos).2
  refine lv_lstore_n C.1 C.2.1 hd hi hl hn (stoL_map G.2.2.2.1 i x ls) (fun L' hl' => ?_)
  exact k p e s m args below meth c H locs L' ks ks0 C hS hR hW hl' (stoL_ok hx hol) ht hon hle hn0
theorem p_lstore {ls' : List (Nat × PV)} {i : Nat} {x : Int} (hd : decode M.2.1 pc = .ok (.lstore i, 2)) (hn : i + 1 < M.2.2.1) (hl' : stoL i x ls = ls') (k : PW G M rm mc ms tk n0 K (pc + 2) ls' st kn cells slots h) : PW G M rm mc ms tk n0 K pc ls (vl x :: st) kn cells slots h := by
  intro p e s m args below meth c H locs L ks ks0 C hS hR hW hl hol hos hon hle hn0
  subst hl'
  have hx := (List.forall_mem_cons.mp hos).1
  have ht := (List.forall_mem_cons.mp hos).2
  refine lv_lstore C.1 C.2.1 hd hl hn (stoL_map G.2.2.2.1 i x ls) (fun L' hl' => ?_)
  exact k p e s m args below meth c H locs L' ks ks0 C hS hR hW hl' (stoL_ok hx hol) ht hon hle hn0
theorem p_astore_n {ls' : List (Nat × PV)} {k0 : Fin 4} {i t : Nat} {a n : Int} (hd : decode M.2.1 pc = .ok (.astore_n k0, 1)) (hi : (k0 : Nat) = i) (hn : i < M.2.2.1) (hl' : sto i (vr t a n) ls = ls') (k : PW G M rm mc ms tk n0 K (pc + 1) ls' st kn cells slots h) : PW G M rm mc ms tk n0 K pc ls (vr t a n :: st) kn cells slots h := by
  intro p e s m args below meth c H locs L ks ks0 C hS hR hW hl hol hos hon hle hn0
  subst hl'
  have hx := (List.forall_mem_cons.mp hos).1
  have ht := (List.forall_mem_cons.mp hos).2
  have hm := sto_map G.2.2.2.1 i (vr t a n) ls
  rw [List.map_cons]
  rcases ref_cases G.2.2.2.1 t a n with e1 | ⟨y, e1⟩
  · rw [e1] at hm ⊢
    refine lv_astore_nN C.1 C.2.1 hd hi hl hn hm (fun L' hl' => ?_)
    exact k p e s m args below meth c H locs L' ks ks0 C hS hR hW hl' (sto_ok hx hol) ht hon hle hn0
  · rw [e1] at hm ⊢
    refine lv_astore_n C.1 C.2.1 hd hi hl hn hm (fun L' hl' => ?_)
    exact k p e s m args below meth c H locs L' ks ks0 C hS hR hW hl' (sto_ok hx hol) ht hon hle hn0
theorem p_astore {ls' : List (Nat × PV)} {i t : Nat} {a n : Int} (hd : decode M.2.1 pc = .ok (.astore i, 2)) (hn : i < M.2.2.1) (hl' : sto i (vr t a n) ls = ls') (k : PW G M rm mc ms tk n0 K (pc + 2) ls' st kn cells slots h) : PW G M rm mc ms tk n0 K pc ls (vr t a n :: st) kn cells slots h := by
  intro p e s m args below meth c H locs L ks ks0 C hS hR hW hl hol hos hon hle hn0
  subst hl'
  have hx := (List.forall_mem_cons.mp hos).1
  have ht := (List.forall_mem_cons.mp hos).2
  have hm := sto_map G.2.2.2.1 i (vr t a n) ls
  rw [List.map_cons]
  rcases ref_cases G.2.2.2.1 t a n with e1 | ⟨y, e1⟩
  · rw [e1] at hm ⊢
    refine lv_astoreN C.1 C.2.1 hd hl hn hm (fun L' hl' => ?_)
    exact k p e s m args below meth c H locs L' ks ks0 C hS hR hW hl' (sto_ok hx hol) ht hon hle hn0
  · rw [e1] at hm ⊢
    refine lv_astore C.1 C.2.1 hd hl hn hm (fun L' hl' => ?_)
    exact k p e s m args below meth c H locs L' ks ks0 C hS hR hW hl' (sto_ok hx hol) ht hon hle hn0
theorem p_iinc {ls' : List (Nat × PV)} {i : Nat} {n x : Int} (hd : decode M.2.1 pc = .ok (.iinc i n, 3)) (j : Nat) (hj : ls[j]? = some (i, vi x)) (hn : i < M.2.2.1) (hl' : sto i (vi (w32 (x + n))) ls = ls') (k : PW G M rm mc ms tk n0 K (pc + 3) ls' st kn cells slots h) : PW G M rm mc ms tk n0 K pc ls st kn cells slots h := by
  intro p e s m args below meth c H locs L ks ks0 C hS hR hW hl hol hos hon hle hn0
  subst hl'
  refine lv_iinc C.1 C.2.1 (v := i32 (w32 (x + n))) (x := i32 x) (k := j) hd hl (by rw [List.getElem?_map, hj]; rfl) (i32_add x n) hn (sto_map G.2.2.2.1 i (vi (w32 (x + n))) ls) (fun L' hl' => ?_)
  exact k p e s m args below meth c H locs L' ks ks0 C hS hR hW hl' (sto_ok (v := vi (w32 (x + n))) (w32_r _) hol) hos hon hle hn0
theorem p_null {t : Nat} (hd : decode M.2.1 pc = .ok (.aconst_null, 1)) (ht : t ≠ 200) (k : PW G M rm mc ms tk n0 K (pc + 1) ls (vr t (-1) 0 :: st) kn cells slots h) : PW G M rm mc ms tk n0 K pc ls st kn cells slots h := by
  intro p e s m args below meth c H locs L ks ks0 C hS hR hW hl hol hos hon hle hn0
  refine lv_null C.1 C.2.1 hd ?_
  have hv : okv G ks (vr t (-1) 0) := by show (if t = 200 then _ else _); rw [if_neg ht]; exact Or.inl rfl
  have kk := k p e s m args below meth c H locs L ks ks0 C hS hR hW hl hol (List.forall_mem_cons.mpr ⟨hv, hos⟩) hon hle hn0
  rw [List.map_cons, show tv G.2.2.2.1 (vr t (-1) 0) = .null by show (if t = 200 then _ else _) = _; rw [if_neg ht]; rfl] at kk
  exact kk
theorem p_ifnull {t : Nat} {a n : Int} {off : Int} {tgt : Nat} (hd : decode M.2.1 pc = .ok (.ifnull off, 3)) (ht : (pc : Int) + off = (tgt : Int)) (h200 : t ≠ 200) (kt : a = -1 → PW G M rm mc ms tk n0 K tgt ls st kn cells slots h) (kf : ¬ a = -1 → PW G M rm mc ms tk n0 K (pc + 3) ls st kn cells slots h) : PW G M rm mc ms tk n0 K pc ls (vr t a n :: st) kn cells slots h := by
  intro p e s m args below meth c H locs L ks ks0 C hS hR hW hl hol hos hon hle hn0
  have hx := (List.forall_mem_cons.mp hos).1
  have hst := (List.forall_mem_cons.mp hos).2
  have hx : (if t = 200 then _ else _) := hx
  rw [if_neg h200] at hx
  rw [List.map_cons]
  have e1 : tv G.2.2.2.1 (vr t a n) = rv G.2.2.2.1 a := by show (if t = 200 then _ else _) = _; rw [if_neg h200]
  rw [e1]
  unfold rv
  by_cases ha : a = -1
  · rw [if_pos (by omega)]
    refine lv_ifnullN C.1 C.2.1 hd ht ?_
    exact kt (by omega) p e s m args below meth c H locs L ks ks0 C hS hR hW hl hol hst hon hle hn0
  · have h0 : 0 ≤ a := by rcases hx with hx | hx
                          · exact absurd hx ha
                          · exact hx.1
    rw [if_neg (by omega)]
    refine lv_ifnull C.1 C.2.1 hd ?_
    exact kf (by omega) p e s m args below meth c H locs L ks ks0 C hS hR hW hl hol hst hon hle hn0
theorem p_ifnonnull {t : Nat} {a n : Int} {off : Int} {tgt : Nat} (hd : decode M.2.1 pc = .ok (.ifnonnull off, 3)) (ht : (pc : Int) + off = (tgt : Int)) (h200 : t ≠ 200) (kt : a ≠ -1 → PW G M rm mc ms tk n0 K tgt ls st kn cells slots h) (kf : ¬ a ≠ -1 → PW G M rm mc ms tk n0 K (pc + 3) ls st kn cells slots h) : PW G M rm mc ms tk n0 K pc ls (vr t a n :: st) kn cells slots h := by
  intro p e s m args below meth c H locs L ks ks0 C hS hR hW hl hol hos hon hle hn0
  have hx := (List.forall_mem_cons.mp hos).1
  have hst := (List.forall_mem_cons.mp hos).2
  have hx : (if t = 200 then _ else _) := hx
  rw [if_neg h200] at hx
  rw [List.map_cons]
  have e1 : tv G.2.2.2.1 (vr t a n) = rv G.2.2.2.1 a := by show (if t = 200 then _ else _) = _; rw [if_neg h200]
  rw [e1]
  unfold rv
  by_cases ha : a = -1
  · rw [if_pos (by omega)]
    refine lv_ifnonnullN C.1 C.2.1 hd ?_
    exact kf (by omega) p e s m args below meth c H locs L ks ks0 C hS hR hW hl hol hst hon hle hn0
  · have h0 : 0 ≤ a := by rcases hx with hx | hx
                          · exact absurd hx ha
                          · exact hx.1
    rw [if_neg (by omega)]
    refine lv_ifnonnull C.1 C.2.1 hd ht ?_
    exact kt (by omega) p e s m args below meth c H locs L ks ks0 C hS hR hW hl hol hst hon hle hn0
theorem p_tsIn {dflt lo hi : Int} {offs : Array Int} {len : Nat} {x off : Int} {tgt : Nat} (hd : decode M.2.1 pc = .ok (.tableswitch dflt lo hi offs, len)) (h1 : lo ≤ x) (h2 : x ≤ hi) (ho : offs[(x - lo).toNat]? = some off) (ht : (pc : Int) + off = (tgt : Int)) (k : PW G M rm mc ms tk n0 K tgt ls st kn cells slots h) : PW G M rm mc ms tk n0 K pc ls (vi x :: st) kn cells slots h := by
  intro p e s m args below meth c H locs L ks ks0 C hS hR hW hl hol hos hon hle hn0
  have hx := (List.forall_mem_cons.mp hos).1
  have hst := (List.forall_mem_cons.mp hos).2
  have e1 : (i32 x).toInt = x := i32_toInt hx
  refine lv_tableIn C.1 C.2.1 (x := i32 x) hd (by rw [e1]; omega) (by rw [e1]; omega) (by rw [e1]; exact ho) ht ?_
  exact k p e s m args below meth c H locs L ks ks0 C hS hR hW hl hol hst hon hle hn0
theorem p_tsOut {dflt lo hi : Int} {offs : Array Int} {len : Nat} {x : Int} {tgt : Nat} (hd : decode M.2.1 pc = .ok (.tableswitch dflt lo hi offs, len)) (h1 : x < lo ∨ hi < x) (ht : (pc : Int) + dflt = (tgt : Int)) (k : PW G M rm mc ms tk n0 K tgt ls st kn cells slots h) : PW G M rm mc ms tk n0 K pc ls (vi x :: st) kn cells slots h := by
  intro p e s m args below meth c H locs L ks ks0 C hS hR hW hl hol hos hon hle hn0
  have hx := (List.forall_mem_cons.mp hos).1
  have hst := (List.forall_mem_cons.mp hos).2
  have e1 : (i32 x).toInt = x := i32_toInt hx
  refine lv_tableOut C.1 C.2.1 (x := i32 x) hd (by rw [e1]; exact h1) ht ?_
  exact k p e s m args below meth c H locs L ks ks0 C hS hR hW hl hol hst hon hle hn0
theorem p_sub {ls' : List (Nat × PV)} (is : List Nat) (hs : is.filterMap (fun i => ls[i]?) = ls') (k : PW G M rm mc ms tk n0 K pc ls' st kn cells slots h) : PW G M rm mc ms tk n0 K pc ls st kn cells slots h := by
  intro p e s m args below meth c H locs L ks ks0 C hS hR hW hl hol hos hon hle hn0
  subst hs
  have hl2 : lv_has L M.2.2.1 ((is.filterMap (fun i => ls[i]?)).map fun q => (q.1, tv G.2.2.2.1 q.2)) := by
    refine lv_sub hl is ?_
    unfold lv_pick
    rw [List.map_filterMap]
    congr 1
    funext i
    rw [List.getElem?_map]
  exact k p e s m args below meth c H locs L ks ks0 C hS hR hW hl2 (fun q hq => by obtain ⟨i, -, hi⟩ := List.mem_filterMap.mp hq; exact hol q (List.mem_of_getElem? hi)) hos hon hle hn0
theorem p_iret {x : Int} (hd : decode M.2.1 pc = .ok (.ireturn, 1)) (hr : M.2.2.2 = some .int) (hc : cells ≤ mc) (hs : slots ≤ ms) (htk : ∀ v ∈ tk, v ∈ kn) (hk : K x h) : PW G M rm mc ms tk n0 K pc ls [vi x] kn cells slots h := by
  intro p e s m args below meth c H locs L ks ks0 C hS hR hW hl hol hos hon hle hn0
  have hx := (List.forall_mem_cons.mp hos).1
  refine W.widen hc hs ?_
  refine W.iret C.1 C.2.1 (C.2.2.1.trans hr) (fun t ht hWm => ?_) hS.2.2 hd C.2.2.2.2.2.2.1
  refine ⟨⟨x, h, ks, ?_, hk, hle, hW, ?_, by rw [ht]; exact hR, fun v hv => hon v (htk v hv)⟩, hS.F ht⟩
  · rw [hr]; rfl
  · rw [hr]; exact hx
theorem p_zret {x : Int} (hd : decode M.2.1 pc = .ok (.ireturn, 1)) (hr : M.2.2.2 = some .boolean) (hc : cells ≤ mc) (hs : slots ≤ ms) (htk : ∀ v ∈ tk, v ∈ kn) (hz : x = 0 ∨ x = 1) (hk : K x h) : PW G M rm mc ms tk n0 K pc ls [vi x] kn cells slots h := by
  intro p e s m args below meth c H locs L ks ks0 C hS hR hW hl hol hos hon hle hn0
  have hx := (List.forall_mem_cons.mp hos).1
  refine W.widen hc hs ?_
  refine W.zret C.1 C.2.1 (C.2.2.1.trans hr) (by rcases hz with rfl | rfl <;> decide) (fun t ht hWm => ?_) hS.2.2 hd C.2.2.2.2.2.2.1
  refine ⟨⟨x, h, ks, ?_, hk, hle, hW, ?_, by rw [ht]; exact hR, fun v hv => hon v (htk v hv)⟩, hS.F ht⟩
  · rw [hr]; rfl
  · rw [hr]; exact hx
theorem p_lret {x : Int} (hd : decode M.2.1 pc = .ok (.lreturn, 1)) (hr : M.2.2.2 = some .long) (hc : cells ≤ mc) (hs : slots ≤ ms) (htk : ∀ v ∈ tk, v ∈ kn) (hk : K x h) : PW G M rm mc ms tk n0 K pc ls [vl x] kn cells slots h := by
  intro p e s m args below meth c H locs L ks ks0 C hS hR hW hl hol hos hon hle hn0
  have hx := (List.forall_mem_cons.mp hos).1
  refine W.widen hc hs ?_
  refine W.lret C.1 C.2.1 (C.2.2.1.trans hr) (fun t ht hWm => ?_) hS.2.2 hd C.2.2.2.2.2.2.1
  refine ⟨⟨x, h, ks, ?_, hk, hle, hW, ?_, by rw [ht]; exact hR, fun v hv => hon v (htk v hv)⟩, hS.F ht⟩
  · rw [hr]; rfl
  · rw [hr]; exact hx
theorem p_vret (hd : decode M.2.1 pc = .ok (.return_, 1)) (hr : M.2.2.2 = none) (hc : cells ≤ mc) (hs : slots ≤ ms) (htk : ∀ v ∈ tk, v ∈ kn) (hk : K 0 h) : PW G M rm mc ms tk n0 K pc ls [] kn cells slots h := by
  intro p e s m args below meth c H locs L ks ks0 C hS hR hW hl hol hos hon hle hn0
  refine W.widen hc hs ?_
  refine W.vret C.1 C.2.1 (C.2.2.1.trans hr) (fun t ht hWm => ?_) hS.2.2 hd C.2.2.2.2.2.2.1
  refine ⟨⟨0, h, ks, ?_, hk, hle, hW, ?_, by rw [ht]; exact hR, fun v hv => hon v (htk v hv)⟩, hS.F ht⟩
  · rw [hr]; rfl
  · rw [hr]; exact trivial
theorem p_aret {a : Int} {Cn : String} (hd : decode M.2.1 pc = .ok (.areturn, 1)) (hr : M.2.2.2 = some (.object Cn)) (ht50 : ccode Cn < 50) (hc : cells ≤ mc) (hs : slots ≤ ms) (htk : ∀ v ∈ tk, v ∈ kn) (hk : K a h) : PW G M rm mc ms tk n0 K pc ls [vr (ccode Cn) a 0] kn cells slots h := by
  intro p e s m args below meth c H locs L ks ks0 C hS hR hW hl hol hos hon hle hn0
  have hx := (List.forall_mem_cons.mp hos).1
  have hx : (if ccode Cn = 200 then _ else _) := hx
  rw [if_neg (by omega)] at hx
  have e1 : tv G.2.2.2.1 (vr (ccode Cn) a 0) = rv G.2.2.2.1 a := by show (if ccode Cn = 200 then _ else _) = _; rw [if_neg (by omega)]
  rw [List.map_cons, e1]
  refine W.widen hc hs ?_
  refine W.aret C.1 C.2.1 (C.2.2.1.trans hr) (Or.inl ⟨_, rfl⟩) (by unfold rv; split; exact Or.inl rfl; exact Or.inr ⟨_, rfl⟩) (fun t ht hWm => ?_) hS.2.2 hd C.2.2.2.2.2.2.1
  refine ⟨⟨a, h, ks, ?_, hk, hle, hW, ?_, by rw [ht]; exact hR, fun v hv => hon v (htk v hv)⟩, hS.F ht⟩
  · rw [hr]; rfl
  · rw [hr]
    rcases hx with hx | ⟨h0, q, h1, h2, h3⟩
    · exact Or.inl hx
    · obtain ⟨q1, q2⟩ := q
      dsimp only at h2 h3
      have e2 : q1 = ccode Cn := by omega
      have e3 : q2 = 0 := by omega
      subst e2; subst e3
      exact Or.inr ⟨h0, h1⟩
end PR2
