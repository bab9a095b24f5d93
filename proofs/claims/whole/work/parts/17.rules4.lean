/-! rules of PW, 4: arrays -/
theorem arr_of {G : Gx} {ks : List Kd} {h : Hh} {H : Heap} {t : Nat} {a n : Int} (hR : RepH G ks h H) (hW : WT ks h) (ht : 100 ≤ t) (ht2 : t ≠ 200) (h0 : 0 ≤ a) (hv : okv G ks (vr t a n)) : ∃ N : Nat, (N : Int) = n ∧ ks[a.toNat]? = some (t, N) ∧ okc ks (h a) a.toNat (t, N) ∧ H[G.2.2.2.1 + a.toNat]? = some (vp_cell (G.2.2.1 t) (N, ar G.2.2.2.1 t (h a))) := by
  obtain ⟨⟨q1, q2⟩, h1, h2, h3⟩ := okv_ref hv ht2 h0
  dsimp only at h2 h3
  subst h3
  have h4 := hR.2 _ _ h1
  have h5 := hW.2 _ _ h1
  rw [ec_arr _ _ _ (by show ¬ q1 < 100; omega), toNat_a h0] at h4
  rw [toNat_a h0] at h5
  exact ⟨q2, h2, h1, h5, h4⟩
theorem okv_r {G : Gx} {ks : List Kd} {t : Nat} {x : Int} (ht : t ≠ 200) (h : okr ks t x) : okv G ks (vr t x 0) := by
  show (if t = 200 then _ else _)
  rw [if_neg ht]
  rcases h with h | ⟨h0, h1⟩
  · exact Or.inl h
  · exact Or.inr ⟨h0, _, h1, rfl, rfl⟩
theorem ix_cl {i : Int} {N : Nat} (h1 : 0 ≤ i) (h2 : i < N) (hN : N < 65536) : vp_in (i32 i) N ∧ (i32 i).toNatClampNeg = i.toNat := by
  have e : (i32 i).toInt = i := i32_toInt ⟨by omega, by omega⟩
  refine ⟨vp_in_iff.mpr ⟨by rw [e]; exact h1, by rw [e]; exact h2⟩, ?_⟩
  show (i32 i).toInt.toNat = _
  rw [e]
theorem okc.elem {ks : List Kd} {f : Int → Int} {i N t : Nat} (h : okc ks f i (t, N)) (ht : 100 ≤ t) (ht5 : t ≠ 105) {j x : Int} (hj : 0 ≤ j) (h0 : t = 100 → r32 x) (h1 : t = 101 → r64 x) (h2 : t = 102 → -128 ≤ x ∧ x < 128) (h3 : t = 103 → okr ks 7 x) (h4 : t = 104 → okr ks 0 x) : okc ks (fun p => if p = j then x else f p) i (t, N) := by
  obtain ⟨a1, a2, a3, a4, a5, a6, a7, a8, a9, a10⟩ := h
  dsimp only at a1 a2 a3 a4 a5 a6 a7 a8 a9 a10
  refine ⟨fun e => by dsimp only at e; omega, fun e => by dsimp only at e; omega, fun e k hk => ?_, fun e k hk => ?_, fun e k hk => ?_, fun e k hk => ?_, fun e k hk => ?_, fun e => by dsimp only at e; omega, a9, a10⟩
  · show r32 (if (k : Int) = j then x else f k)
    split
    · exact h0 e
    · exact a3 e k hk
  · show r64 (if (k : Int) = j then x else f k)
    split
    · exact h1 e
    · exact a4 e k hk
  · show -128 ≤ (if (k : Int) = j then x else f k) ∧ (if (k : Int) = j then x else f k) < 128
    split
    · exact h2 e
    · exact a5 e k hk
  · show okr ks 7 (if (k : Int) = j then x else f k)
    split
    · exact h3 e
    · exact a6 e k hk
  · show okr ks 0 (if (k : Int) = j then x else f k)
    split
    · exact h4 e
    · exact a7 e k hk
section PR4
variable {G : Gx} {M : MD} {rm : Room} {mc ms : Nat} {tk : List PV} {n0 : Int} {K : Int → Hh → Prop} {pc : Nat} {ls : List (Nat × PV)} {st kn : List PV} {cells slots : Nat} {h : Hh}
theorem p_iald {a n i : Int} (hd : decode M.2.1 pc = .ok (.iaload, 1)) (h0 : 0 ≤ a) (hi : 0 ≤ i ∧ i < n) (kk : PW G M rm mc ms tk n0 K (pc + 1) ls (vi (h a i) :: st) kn cells slots h) : PW G M rm mc ms tk n0 K pc ls (vi i :: vr 100 a n :: st) kn cells slots h := by
  intro p e s m args below meth c0 H locs L ks ks0 C hS hR hW hl hol hos hon hle hn0
  have hvi := (List.forall_mem_cons.mp hos).1
  have hva := (List.forall_mem_cons.mp (List.forall_mem_cons.mp hos).2).1
  have hst := (List.forall_mem_cons.mp (List.forall_mem_cons.mp hos).2).2
  obtain ⟨N, hN, g1, g2, g3⟩ := arr_of hR hW (by omega) (by omega) h0 hva
  obtain ⟨hin, hcl⟩ := ix_cl hi.1 (by rw [hN]; exact hi.2) (g2.2.2.2.2.2.2.2.2.2)
  have hlt : i.toNat < N := by omega
  rw [List.map_cons, List.map_cons, tv_ref _ (by omega) h0]
  have hr : r32 (h a i) := by
    have := g2.2.2.1 rfl i.toNat hlt
    rw [toNat_a hi.1] at this
    exact this
  refine W.iald C.1 C.2.1 (v := .int (i32 (h a i))) g3 ((C.2.2.2.2.2.2.2.2.1.1.2 0 _ rfl).1 N (fun j => .int (i32 (h a (j : Int))))) (fun q => by cases q) (by show ¬ (_ ∨ (arrV _ _ _).slots.size ≤ _); rw [arrV_size]; exact hin) ?_ rfl rfl hd ?_
  · show (arrV _ _ (fun j => .int (i32 (h a (j : Int))))).slots[_]? = _
    rw [hcl, arrV_read _ _ hlt, toNat_a hi.1]
  · exact kk p e s m args below meth c0 H locs L ks ks0 C hS hR hW hl hol (List.forall_mem_cons.mpr ⟨hr, hst⟩) hon hle hn0
theorem p_lald {a n i : Int} (hd : decode M.2.1 pc = .ok (.laload, 1)) (h0 : 0 ≤ a) (hi : 0 ≤ i ∧ i < n) (kk : PW G M rm mc ms tk n0 K (pc + 1) ls (vl (h a i) :: st) kn cells slots h) : PW G M rm mc ms tk n0 K pc ls (vi i :: vr 101 a n :: st) kn cells slots h := by
  intro p e s m args below meth c0 H locs L ks ks0 C hS hR hW hl hol hos hon hle hn0
  have hvi := (List.forall_mem_cons.mp hos).1
  have hva := (List.forall_mem_cons.mp (List.forall_mem_cons.mp hos).2).1
  have hst := (List.forall_mem_cons.mp (List.forall_mem_cons.mp hos).2).2
  obtain ⟨N, hN, g1, g2, g3⟩ := arr_of hR hW (by omega) (by omega) h0 hva
  obtain ⟨hin, hcl⟩ := ix_cl hi.1 (by rw [hN]; exact hi.2) (g2.2.2.2.2.2.2.2.2.2)
  have hlt : i.toNat < N := by omega
  rw [List.map_cons, List.map_cons, tv_ref _ (by omega) h0]
  have hr : r64 (h a i) := by
    have := g2.2.2.2.1 rfl i.toNat hlt
    rw [toNat_a hi.1] at this
    exact this
  refine W.lald C.1 C.2.1 (v := .long (i64 (h a i))) g3 ((C.2.2.2.2.2.2.2.2.1.1.2 1 _ rfl).1 N (fun j => .long (i64 (h a (j : Int))))) (fun q => by cases q) (by show ¬ (_ ∨ (arrV _ _ _).slots.size ≤ _); rw [arrV_size]; exact hin) ?_ rfl rfl hd ?_
  · show (arrV _ _ (fun j => .long (i64 (h a (j : Int))))).slots[_]? = _
    rw [hcl, arrV_read _ _ hlt, toNat_a hi.1]
  · exact kk p e s m args below meth c0 H locs L ks ks0 C hS hR hW hl hol (List.forall_mem_cons.mpr ⟨hr, hst⟩) hon hle hn0
theorem p_bald {a n i : Int} (hd : decode M.2.1 pc = .ok (.baload, 1)) (h0 : 0 ≤ a) (hi : 0 ≤ i ∧ i < n) (kk : PW G M rm mc ms tk n0 K (pc + 1) ls (vi (h a i) :: st) kn cells slots h) : PW G M rm mc ms tk n0 K pc ls (vi i :: vr 102 a n :: st) kn cells slots h := by
  intro p e s m args below meth c0 H locs L ks ks0 C hS hR hW hl hol hos hon hle hn0
  have hvi := (List.forall_mem_cons.mp hos).1
  have hva := (List.forall_mem_cons.mp (List.forall_mem_cons.mp hos).2).1
  have hst := (List.forall_mem_cons.mp (List.forall_mem_cons.mp hos).2).2
  obtain ⟨N, hN, g1, g2, g3⟩ := arr_of hR hW (by omega) (by omega) h0 hva
  obtain ⟨hin, hcl⟩ := ix_cl hi.1 (by rw [hN]; exact hi.2) (g2.2.2.2.2.2.2.2.2.2)
  have hlt : i.toNat < N := by omega
  rw [List.map_cons, List.map_cons, tv_ref _ (by omega) h0]
  have hr : r32 (h a i) := by
    have := g2.2.2.2.2.1 rfl i.toNat hlt
    rw [toNat_a hi.1] at this
    unfold r32; omega
  refine W.bald C.1 C.2.1 (v := .int (i32 (h a i))) g3 ((C.2.2.2.2.2.2.2.2.1.1.2 2 _ rfl).1 N (fun j => .int (i32 (h a (j : Int))))) (fun q => by cases q) (by show ¬ (_ ∨ (arrV _ _ _).slots.size ≤ _); rw [arrV_size]; exact hin) ?_ rfl rfl hd ?_
  · show (arrV _ _ (fun j => .int (i32 (h a (j : Int))))).slots[_]? = _
    rw [hcl, arrV_read _ _ hlt, toNat_a hi.1]
  · exact kk p e s m args below meth c0 H locs L ks ks0 C hS hR hW hl hol (List.forall_mem_cons.mpr ⟨hr, hst⟩) hon hle hn0
theorem p_iast {a n i x : Int} (hd : decode M.2.1 pc = .ok (.iastore, 1)) (h0 : 0 ≤ a) (hi : 0 ≤ i ∧ i < n) (kk : PW G M rm mc ms tk n0 K (pc + 1) ls st kn cells slots (up h a i x)) : PW G M rm mc ms tk n0 K pc ls (vi x :: vi i :: vr 100 a n :: st) kn cells slots h := by
  intro p e s m args below meth c0 H locs L ks ks0 C hS hR hW hl hol hos hon hle hn0
  have hvx := (List.forall_mem_cons.mp hos).1
  have hvi := (List.forall_mem_cons.mp (List.forall_mem_cons.mp hos).2).1
  have hva := (List.forall_mem_cons.mp (List.forall_mem_cons.mp (List.forall_mem_cons.mp hos).2).2).1
  have hst := (List.forall_mem_cons.mp (List.forall_mem_cons.mp (List.forall_mem_cons.mp hos).2).2).2
  obtain ⟨N, hN, g1, g2, g3⟩ := arr_of hR hW (by omega) (by omega) h0 hva
  obtain ⟨hin, hcl⟩ := ix_cl hi.1 (by rw [hN]; exact hi.2) (g2.2.2.2.2.2.2.2.2.2)
  have hlt : i.toNat < N := by omega
  rw [List.map_cons, List.map_cons, List.map_cons, tv_ref _ (by omega) h0]
  refine W.iast C.1 C.2.1 g3 ((C.2.2.2.2.2.2.2.2.1.1.2 0 _ rfl).1 N (fun j => .int (i32 (h a (j : Int))))) (fun q => by cases q) (by show ¬ (_ ∨ (arrV _ _ _).slots.size ≤ _); rw [arrV_size]; exact hin) rfl rfl hd fun H' e1 z oq => ?_
  have hR' : RepH G ks (up h a i x) H' := by
    refine hR.set g1 ?_ z oq (fun j hj => up_ne (by have := toNat_a h0; omega))
    rw [ec_arr _ _ _ (by show ¬ 100 < 100; omega)]
    show H'[_]? = some (vp_cell _ _)
    rw [e1]
    show some ((arrV _ _ (fun j => Value.int (i32 (h a (j : Int))))).setSlot _ _) = some (arrV _ _ (fun j => Value.int (i32 (up h a i x (a.toNat : Nat) (j : Int)))))
    rw [hcl, arrV_store]
    congr 2
    funext j
    rw [toNat_a h0]
    unfold updV
    by_cases hj : j = i.toNat
    · rw [if_pos hj, up_at, if_pos (by omega)]
    · rw [if_neg hj, up_at, if_neg (by omega)]
  have hW' : WT ks (up h a i x) := by
    refine hW.set g1 ?_ (fun j hj => up_ne (by have := toNat_a h0; omega))
    have e5 : up h a i x (a.toNat : Nat) = fun j => if j = i then x else h a j := by
      rw [toNat_a h0]; funext j; exact up_at
    rw [e5]
    exact g2.elem (by omega) (by omega) hi.1 (fun e => hvx) (fun e => by omega) (fun e => by omega) (fun e => by omega) (fun e => by omega)
  have hS' := hS.put (k := (i32 i).toNatClampNeg) z oq (show fre G _ from Nat.le_add_right _ _)
  exact kk p e s m args below meth c0 H' _ L ks ks0 C hS' hR' hW' hl hol hst hon hle hn0
theorem p_last {a n i x : Int} (hd : decode M.2.1 pc = .ok (.lastore, 1)) (h0 : 0 ≤ a) (hi : 0 ≤ i ∧ i < n) (kk : PW G M rm mc ms tk n0 K (pc + 1) ls st kn cells slots (up h a i x)) : PW G M rm mc ms tk n0 K pc ls (vl x :: vi i :: vr 101 a n :: st) kn cells slots h := by
  intro p e s m args below meth c0 H locs L ks ks0 C hS hR hW hl hol hos hon hle hn0
  have hvx := (List.forall_mem_cons.mp hos).1
  have hvi := (List.forall_mem_cons.mp (List.forall_mem_cons.mp hos).2).1
  have hva := (List.forall_mem_cons.mp (List.forall_mem_cons.mp (List.forall_mem_cons.mp hos).2).2).1
  have hst := (List.forall_mem_cons.mp (List.forall_mem_cons.mp (List.forall_mem_cons.mp hos).2).2).2
  obtain ⟨N, hN, g1, g2, g3⟩ := arr_of hR hW (by omega) (by omega) h0 hva
  obtain ⟨hin, hcl⟩ := ix_cl hi.1 (by rw [hN]; exact hi.2) (g2.2.2.2.2.2.2.2.2.2)
  have hlt : i.toNat < N := by omega
  rw [List.map_cons, List.map_cons, List.map_cons, tv_ref _ (by omega) h0]
  refine W.last C.1 C.2.1 g3 ((C.2.2.2.2.2.2.2.2.1.1.2 1 _ rfl).1 N (fun j => .long (i64 (h a (j : Int))))) (fun q => by cases q) (by show ¬ (_ ∨ (arrV _ _ _).slots.size ≤ _); rw [arrV_size]; exact hin) rfl rfl hd fun H' e1 z oq => ?_
  have hR' : RepH G ks (up h a i x) H' := by
    refine hR.set g1 ?_ z oq (fun j hj => up_ne (by have := toNat_a h0; omega))
    rw [ec_arr _ _ _ (by show ¬ 101 < 100; omega)]
    show H'[_]? = some (vp_cell _ _)
    rw [e1]
    show some ((arrV _ _ (fun j => Value.long (i64 (h a (j : Int))))).setSlot _ _) = some (arrV _ _ (fun j => Value.long (i64 (up h a i x (a.toNat : Nat) (j : Int)))))
    rw [hcl, arrV_store]
    congr 2
    funext j
    rw [toNat_a h0]
    unfold updV
    by_cases hj : j = i.toNat
    · rw [if_pos hj, up_at, if_pos (by omega)]
    · rw [if_neg hj, up_at, if_neg (by omega)]
  have hW' : WT ks (up h a i x) := by
    refine hW.set g1 ?_ (fun j hj => up_ne (by have := toNat_a h0; omega))
    have e5 : up h a i x (a.toNat : Nat) = fun j => if j = i then x else h a j := by
      rw [toNat_a h0]; funext j; exact up_at
    rw [e5]
    exact g2.elem (by omega) (by omega) hi.1 (fun e => by omega) (fun e => hvx) (fun e => by omega) (fun e => by omega) (fun e => by omega)
  have hS' := hS.put (k := (i32 i).toNatClampNeg) z oq (show fre G _ from Nat.le_add_right _ _)
  exact kk p e s m args below meth c0 H' _ L ks ks0 C hS' hR' hW' hl hol hst hon hle hn0
theorem p_bast {a n i x : Int} (hd : decode M.2.1 pc = .ok (.bastore, 1)) (h0 : 0 ≤ a) (hi : 0 ≤ i ∧ i < n) (hb : -128 ≤ x ∧ x < 128) (hb2 : (i32 x).toInt8.toInt32 = i32 x) (kk : PW G M rm mc ms tk n0 K (pc + 1) ls st kn cells slots (up h a i x)) : PW G M rm mc ms tk n0 K pc ls (vi x :: vi i :: vr 102 a n :: st) kn cells slots h := by
  intro p e s m args below meth c0 H locs L ks ks0 C hS hR hW hl hol hos hon hle hn0
  have hvx := (List.forall_mem_cons.mp hos).1
  have hvi := (List.forall_mem_cons.mp (List.forall_mem_cons.mp hos).2).1
  have hva := (List.forall_mem_cons.mp (List.forall_mem_cons.mp (List.forall_mem_cons.mp hos).2).2).1
  have hst := (List.forall_mem_cons.mp (List.forall_mem_cons.mp (List.forall_mem_cons.mp hos).2).2).2
  obtain ⟨N, hN, g1, g2, g3⟩ := arr_of hR hW (by omega) (by omega) h0 hva
  obtain ⟨hin, hcl⟩ := ix_cl hi.1 (by rw [hN]; exact hi.2) (g2.2.2.2.2.2.2.2.2.2)
  have hlt : i.toNat < N := by omega
  rw [List.map_cons, List.map_cons, List.map_cons, tv_ref _ (by omega) h0]
  refine W.bast C.1 C.2.1 g3 ((C.2.2.2.2.2.2.2.2.1.1.2 2 _ rfl).1 N (fun j => .int (i32 (h a (j : Int))))) (fun q => by cases q) (by show ¬ (_ ∨ (arrV _ _ _).slots.size ≤ _); rw [arrV_size]; exact hin) rfl rfl hd fun H' e1 z oq => ?_
  have hnb : narrow .byte (.int (i32 x)) = .int (i32 x) := by
    have := pk_nb (i32 x)
    rw [hb2] at this
    exact this
  have hR' : RepH G ks (up h a i x) H' := by
    refine hR.set g1 ?_ z oq (fun j hj => up_ne (by have := toNat_a h0; omega))
    rw [ec_arr _ _ _ (by show ¬ 102 < 100; omega)]
    show H'[_]? = some (vp_cell _ _)
    rw [e1]
    show some ((arrV _ _ (fun j => Value.int (i32 (h a (j : Int))))).setSlot _ _) = some (arrV _ _ (fun j => Value.int (i32 (up h a i x (a.toNat : Nat) (j : Int)))))
    rw [hcl, arrV_store]
    congr 2
    funext j
    rw [toNat_a h0]
    unfold updV
    by_cases hj : j = i.toNat
    · rw [if_pos hj, up_at, if_pos (by omega)]; exact hnb
    · rw [if_neg hj, up_at, if_neg (by omega)]
  have hW' : WT ks (up h a i x) := by
    refine hW.set g1 ?_ (fun j hj => up_ne (by have := toNat_a h0; omega))
    have e5 : up h a i x (a.toNat : Nat) = fun j => if j = i then x else h a j := by
      rw [toNat_a h0]; funext j; exact up_at
    rw [e5]
    exact g2.elem (by omega) (by omega) hi.1 (fun e => by omega) (fun e => by omega) (fun e => hb) (fun e => by omega) (fun e => by omega)
  have hS' := hS.put (k := (i32 i).toNatClampNeg) z oq (show fre G _ from Nat.le_add_right _ _)
  exact kk p e s m args below meth c0 H' _ L ks ks0 C hS' hR' hW' hl hol hst hon hle hn0
theorem p_alen {t : Nat} {a n : Int} (hd : decode M.2.1 pc = .ok (.arraylength, 1)) (ht : 100 ≤ t ∧ t ≤ 102) (h0 : 0 ≤ a) (kk : PW G M rm mc ms tk n0 K (pc + 1) ls (vi n :: st) kn cells slots h) : PW G M rm mc ms tk n0 K pc ls (vr t a n :: st) kn cells slots h := by
  intro p e s m args below meth c0 H locs L ks ks0 C hS hR hW hl hol hos hon hle hn0
  have hva := (List.forall_mem_cons.mp hos).1
  have hst := (List.forall_mem_cons.mp hos).2
  obtain ⟨N, hN, g1, g2, g3⟩ := arr_of hR hW (by omega) (by omega) h0 hva
  have hlt := g2.2.2.2.2.2.2.2.2.2
  have hr : r32 n := by dsimp only at hlt; unfold r32; omega
  rw [List.map_cons, tv_ref _ (by omega) h0]
  have hg := kk p e s m args below meth c0 H locs L ks ks0 C hS hR hW hl hol (List.forall_mem_cons.mpr ⟨hr, hst⟩) hon hle hn0
  have en : i32 n = Int32.ofNat N := by rw [← hN]; rfl
  have hP : va_P G.2.1 vwCl [(G.2.2.2.1 + a.toNat, .inl (G.2.2.1 t, (N, ar G.2.2.2.1 t (h a))))] H := by
    intro j x hj
    have hz : j < 1 := (List.getElem?_eq_some_iff.mp hj).1
    rw [show j = 0 by omega] at hj
    cases hj
    exact g3
  rcases (show t = 100 ∨ t = 101 ∨ t = 102 by omega) with rfl | rfl | rfl
  · exact va_alen C.1 C.2.1 C.2.2.2.2.2.2.2.2.1.1 hP 0 0 rfl rfl en.symm hd hg
  · exact va_alen C.1 C.2.1 C.2.2.2.2.2.2.2.2.1.1 hP 0 1 rfl rfl en.symm hd hg
  · exact va_alen C.1 C.2.1 C.2.2.2.2.2.2.2.2.1.1 hP 0 2 rfl rfl en.symm hd hg
theorem p_aald7 {a n i : Int} (hd : decode M.2.1 pc = .ok (.aaload, 1)) (h0 : 0 ≤ a) (hi : 0 ≤ i ∧ i < n) (kk : PW G M rm mc ms tk n0 K (pc + 1) ls (vr 7 (h a i) 0 :: st) kn cells slots h) : PW G M rm mc ms tk n0 K pc ls (vi i :: vr 103 a n :: st) kn cells slots h := by
  intro p e s m args below meth c0 H locs L ks ks0 C hS hR hW hl hol hos hon hle hn0
  have hvi := (List.forall_mem_cons.mp hos).1
  have hva := (List.forall_mem_cons.mp (List.forall_mem_cons.mp hos).2).1
  have hst := (List.forall_mem_cons.mp (List.forall_mem_cons.mp hos).2).2
  obtain ⟨N, hN, g1, g2, g3⟩ := arr_of hR hW (by omega) (by omega) h0 hva
  obtain ⟨hin, hcl⟩ := ix_cl hi.1 (by rw [hN]; exact hi.2) (g2.2.2.2.2.2.2.2.2.2)
  have hlt : i.toNat < N := by omega
  rw [List.map_cons, List.map_cons, tv_ref _ (by omega) h0]
  have hr : okr ks 7 (h a i) := by
    have := g2.2.2.2.2.2.1 rfl i.toNat hlt
    rw [toNat_a hi.1] at this
    exact this
  have hok : okv G ks (vr 7 (h a i) 0) := by
    exact okv_r (by omega) hr
  have hP : va_P G.2.1 vwCl [(G.2.2.2.1 + a.toNat, .inl (G.2.2.1 103, (N, .inr (.inr (.inr (.inr (fun k => ro G.2.2.2.1 (h a k))))))))] H := by
    intro j x hj
    have hz : j < 1 := (List.getElem?_eq_some_iff.mp hj).1
    rw [show j = 0 by omega] at hj
    cases hj
    exact g3
  refine va_aldq C.1 C.2.1 C.2.2.2.2.2.2.2.2.1.1 hP 0 3 rfl rfl hin hd ?_
  rw [hcl, toNat_a hi.1, rv_ro]
  exact kk p e s m args below meth c0 H locs L ks ks0 C hS hR hW hl hol (List.forall_mem_cons.mpr ⟨hok, hst⟩) hon hle hn0
theorem p_aald0 {a n i : Int} (hd : decode M.2.1 pc = .ok (.aaload, 1)) (h0 : 0 ≤ a) (hi : 0 ≤ i ∧ i < n) (kk : PW G M rm mc ms tk n0 K (pc + 1) ls (vr 0 (h a i) 0 :: st) kn cells slots h) : PW G M rm mc ms tk n0 K pc ls (vi i :: vr 104 a n :: st) kn cells slots h := by
  intro p e s m args below meth c0 H locs L ks ks0 C hS hR hW hl hol hos hon hle hn0
  have hvi := (List.forall_mem_cons.mp hos).1
  have hva := (List.forall_mem_cons.mp (List.forall_mem_cons.mp hos).2).1
  have hst := (List.forall_mem_cons.mp (List.forall_mem_cons.mp hos).2).2
  obtain ⟨N, hN, g1, g2, g3⟩ := arr_of hR hW (by omega) (by omega) h0 hva
  obtain ⟨hin, hcl⟩ := ix_cl hi.1 (by rw [hN]; exact hi.2) (g2.2.2.2.2.2.2.2.2.2)
  have hlt : i.toNat < N := by omega
  rw [List.map_cons, List.map_cons, tv_ref _ (by omega) h0]
  have hr : okr ks 0 (h a i) := by
    have := g2.2.2.2.2.2.2.1 rfl i.toNat hlt
    rw [toNat_a hi.1] at this
    exact this
  have hok : okv G ks (vr 0 (h a i) 0) := by
    exact okv_r (by omega) hr
  have hP : va_P G.2.1 vwCl [(G.2.2.2.1 + a.toNat, .inl (G.2.2.1 104, (N, .inr (.inr (.inr (.inr (fun k => ro G.2.2.2.1 (h a k))))))))] H := by
    intro j x hj
    have hz : j < 1 := (List.getElem?_eq_some_iff.mp hj).1
    rw [show j = 0 by omega] at hj
    cases hj
    exact g3
  refine va_aldq C.1 C.2.1 C.2.2.2.2.2.2.2.2.1.1 hP 0 4 rfl rfl hin hd ?_
  rw [hcl, toNat_a hi.1, rv_ro]
  exact kk p e s m args below meth c0 H locs L ks ks0 C hS hR hW hl hol (List.forall_mem_cons.mpr ⟨hok, hst⟩) hon hle hn0
theorem p_aaldI {a n i : Int} (hd : decode M.2.1 pc = .ok (.aaload, 1)) (h0 : 0 ≤ a) (hi : 0 ≤ i ∧ i < n) (kk : PW G M rm mc ms tk n0 K (pc + 1) ls (vr 100 (a + 1 + i) 40 :: st) kn cells slots h) : PW G M rm mc ms tk n0 K pc ls (vi i :: vr 105 a n :: st) kn cells slots h := by
  intro p e s m args below meth c0 H locs L ks ks0 C hS hR hW hl hol hos hon hle hn0
  have hvi := (List.forall_mem_cons.mp hos).1
  have hva := (List.forall_mem_cons.mp (List.forall_mem_cons.mp hos).2).1
  have hst := (List.forall_mem_cons.mp (List.forall_mem_cons.mp hos).2).2
  obtain ⟨N, hN, g1, g2, g3⟩ := arr_of hR hW (by omega) (by omega) h0 hva
  obtain ⟨hin, hcl⟩ := ix_cl hi.1 (by rw [hN]; exact hi.2) (g2.2.2.2.2.2.2.2.2.2)
  have hlt : i.toNat < N := by omega
  rw [List.map_cons, List.map_cons, tv_ref _ (by omega) h0]
  obtain ⟨b1, b2⟩ := g2.2.2.2.2.2.2.2.1 rfl i.toNat hlt
  rw [toNat_a hi.1, toNat_a h0] at b1
  have hok : okv G ks (vr 100 (a + 1 + i) 40) := okv_mk (by omega) (by omega) (by rw [show (a + 1 + i).toNat = a.toNat + 1 + i.toNat by omega]; exact b2) rfl
  refine W.aald (v := tv G.2.2.2.1 (vr 100 (a + 1 + i) 40)) (ty := .array .int) C.1 C.2.1 g3 ((C.2.2.2.2.2.2.2.2.1.1.2 5 _ rfl).1 N (fun j => va_rf (ro G.2.2.2.1 (h a (j : Int))))) rfl (fun q => by cases q) (by show ¬ (_ ∨ (arrV _ _ _).slots.size ≤ _); rw [arrV_size]; exact hin) ?_ rfl rfl hd ?_
  · show (arrV _ _ (fun j => va_rf (ro G.2.2.2.1 (h a (j : Int))))).slots[_]? = _
    rw [hcl, arrV_read _ _ hlt, toNat_a hi.1, rv_ro, b1, tv_ref _ (by omega) (by omega)]
    unfold rv
    rw [if_neg (by omega)]
  · exact kk p e s m args below meth c0 H locs L ks ks0 C hS hR hW hl hol (List.forall_mem_cons.mpr ⟨hok, hst⟩) hon hle hn0
end PR4
