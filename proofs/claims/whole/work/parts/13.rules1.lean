theorem tmod_r32 {x y : Int} (hx : r32 x) : r32 (x.tmod y) := by
  have h1 : (x.tmod y).natAbs ≤ x.natAbs := by rw [Int.natAbs_tmod]; exact Nat.mod_le _ _
  have h2 := hx.1
  have h3 := hx.2
  have h4 : x = -2147483648 → r32 (x.tmod y) := by
    intro e
    have h5 : (x.tmod y) = -((-x).tmod y) := by rw [Int.neg_tmod, Int.neg_neg]
    have h6 : 0 ≤ (-x).tmod y := Int.tmod_nonneg y (by omega)
    unfold r32; omega
  by_cases e : x = -2147483648
  · exact h4 e
  · unfold r32; omega
theorem r32_64 {x : Int} (hx : r32 x) : r64 x := by have := hx.1; have := hx.2; unfold r64; omega
theorem tv_cat1 (b : Nat) {v : PV} (hv : ∀ x, v ≠ vl x) : (tv b v).category = 1 := by
  match v, hv with
  | .inl x, _ => rfl
  | .inr (.inl x), hv => exact absurd rfl (hv x)
  | .inr (.inr (t, a, n)), _ =>
    show (if t = 200 then Value.ref a.toNat else rv b a).category = 1
    split
    · rfl
    · unfold rv; split <;> rfl
/-! rules of PW, 1: no heap -/
section PR1
variable {G : Gx} {M : MD} {rm : Room} {mc ms : Nat} {tk : List PV} {n0 : Int} {K : Int → Hh → Prop} {pc : Nat} {ls : List (Nat × PV)} {st kn : List PV} {cells slots : Nat} {h : Hh}
theorem p_iadd {x y : Int} (hd : decode M.2.1 pc = .ok (.iadd, 1)) (k : PW G M rm mc ms tk n0 K (pc + 1) ls (vi (w32 (x + y)) :: st) kn cells slots h) : PW G M rm mc ms tk n0 K pc ls (vi y :: vi x :: st) kn cells slots h := by
  intro p e s m args below meth c H locs L ks ks0 C hS hR hW hl hol hos hon hle hn0
  have hy := (List.forall_mem_cons.mp hos).1
  have hx := (List.forall_mem_cons.mp (List.forall_mem_cons.mp hos).2).1
  have ht := (List.forall_mem_cons.mp (List.forall_mem_cons.mp hos).2).2
  refine lv_iadd C.1 C.2.1 hd ?_
  rw [i32_add]
  exact k p e s m args below meth c H locs L ks ks0 C hS hR hW hl hol (List.forall_mem_cons.mpr ⟨w32_r _, ht⟩) hon hle hn0
theorem p_isub {x y : Int} (hd : decode M.2.1 pc = .ok (.isub, 1)) (k : PW G M rm mc ms tk n0 K (pc + 1) ls (vi (w32 (x - y)) :: st) kn cells slots h) : PW G M rm mc ms tk n0 K pc ls (vi y :: vi x :: st) kn cells slots h := by
  intro p e s m args below meth c H locs L ks ks0 C hS hR hW hl hol hos hon hle hn0
  have hy := (List.forall_mem_cons.mp hos).1
  have hx := (List.forall_mem_cons.mp (List.forall_mem_cons.mp hos).2).1
  have ht := (List.forall_mem_cons.mp (List.forall_mem_cons.mp hos).2).2
  refine lv_isub C.1 C.2.1 hd ?_
  rw [i32_sub]
  exact k p e s m args below meth c H locs L ks ks0 C hS hR hW hl hol (List.forall_mem_cons.mpr ⟨w32_r _, ht⟩) hon hle hn0
theorem p_imul {x y : Int} (hd : decode M.2.1 pc = .ok (.imul, 1)) (k : PW G M rm mc ms tk n0 K (pc + 1) ls (vi (w32 (x * y)) :: st) kn cells slots h) : PW G M rm mc ms tk n0 K pc ls (vi y :: vi x :: st) kn cells slots h := by
  intro p e s m args below meth c H locs L ks ks0 C hS hR hW hl hol hos hon hle hn0
  have hy := (List.forall_mem_cons.mp hos).1
  have hx := (List.forall_mem_cons.mp (List.forall_mem_cons.mp hos).2).1
  have ht := (List.forall_mem_cons.mp (List.forall_mem_cons.mp hos).2).2
  refine lv_imul C.1 C.2.1 hd ?_
  rw [i32_mul]
  exact k p e s m args below meth c H locs L ks ks0 C hS hR hW hl hol (List.forall_mem_cons.mpr ⟨w32_r _, ht⟩) hon hle hn0
theorem p_iand {x y : Int} (hd : decode M.2.1 pc = .ok (.iand, 1)) (k : PW G M rm mc ms tk n0 K (pc + 1) ls (vi ((i32 x &&& i32 y).toInt) :: st) kn cells slots h) : PW G M rm mc ms tk n0 K pc ls (vi y :: vi x :: st) kn cells slots h := by
  intro p e s m args below meth c H locs L ks ks0 C hS hR hW hl hol hos hon hle hn0
  have hy := (List.forall_mem_cons.mp hos).1
  have hx := (List.forall_mem_cons.mp (List.forall_mem_cons.mp hos).2).1
  have ht := (List.forall_mem_cons.mp (List.forall_mem_cons.mp hos).2).2
  refine lv_iand C.1 C.2.1 hd ?_
  rw [← i32_of (i32 x &&& i32 y)]
  exact k p e s m args below meth c H locs L ks ks0 C hS hR hW hl hol (List.forall_mem_cons.mpr ⟨toInt_r32 _, ht⟩) hon hle hn0
theorem p_ior {x y : Int} (hd : decode M.2.1 pc = .ok (.ior, 1)) (k : PW G M rm mc ms tk n0 K (pc + 1) ls (vi ((i32 x ||| i32 y).toInt) :: st) kn cells slots h) : PW G M rm mc ms tk n0 K pc ls (vi y :: vi x :: st) kn cells slots h := by
  intro p e s m args below meth c H locs L ks ks0 C hS hR hW hl hol hos hon hle hn0
  have hy := (List.forall_mem_cons.mp hos).1
  have hx := (List.forall_mem_cons.mp (List.forall_mem_cons.mp hos).2).1
  have ht := (List.forall_mem_cons.mp (List.forall_mem_cons.mp hos).2).2
  refine lv_ior C.1 C.2.1 hd ?_
  rw [← i32_of (i32 x ||| i32 y)]
  exact k p e s m args below meth c H locs L ks ks0 C hS hR hW hl hol (List.forall_mem_cons.mpr ⟨toInt_r32 _, ht⟩) hon hle hn0
theorem p_ixor {x y : Int} (hd : decode M.2.1 pc = .ok (.ixor, 1)) (k : PW G M rm mc ms tk n0 K (pc + 1) ls (vi ((i32 x ^^^ i32 y).toInt) :: st) kn cells slots h) : PW G M rm mc ms tk n0 K pc ls (vi y :: vi x :: st) kn cells slots h := by
  intro p e s m args below meth c H locs L ks ks0 C hS hR hW hl hol hos hon hle hn0
  have hy := (List.forall_mem_cons.mp hos).1
  have hx := (List.forall_mem_cons.mp (List.forall_mem_cons.mp hos).2).1
  have ht := (List.forall_mem_cons.mp (List.forall_mem_cons.mp hos).2).2
  refine lv_ixor C.1 C.2.1 hd ?_
  rw [← i32_of (i32 x ^^^ i32 y)]
  exact k p e s m args below meth c H locs L ks ks0 C hS hR hW hl hol (List.forall_mem_cons.mpr ⟨toInt_r32 _, ht⟩) hon hle hn0
theorem p_ishl {x y : Int} (hd : decode M.2.1 pc = .ok (.ishl, 1)) (k : PW G M rm mc ms tk n0 K (pc + 1) ls (vi ((i32 x <<< (i32 y &&& 31)).toInt) :: st) kn cells slots h) : PW G M rm mc ms tk n0 K pc ls (vi y :: vi x :: st) kn cells slots h := by
  intro p e s m args below meth c H locs L ks ks0 C hS hR hW hl hol hos hon hle hn0
  have hy := (List.forall_mem_cons.mp hos).1
  have hx := (List.forall_mem_cons.mp (List.forall_mem_cons.mp hos).2).1
  have ht := (List.forall_mem_cons.mp (List.forall_mem_cons.mp hos).2).2
  refine lv_ishl C.1 C.2.1 hd ?_
  rw [← i32_of (i32 x <<< (i32 y &&& 31))]
  exact k p e s m args below meth c H locs L ks ks0 C hS hR hW hl hol (List.forall_mem_cons.mpr ⟨toInt_r32 _, ht⟩) hon hle hn0
theorem p_ishr {x y : Int} (hd : decode M.2.1 pc = .ok (.ishr, 1)) (k : PW G M rm mc ms tk n0 K (pc + 1) ls (vi ((i32 x >>> (i32 y &&& 31)).toInt) :: st) kn cells slots h) : PW G M rm mc ms tk n0 K pc ls (vi y :: vi x :: st) kn cells slots h := by
  intro p e s m args below meth c H locs L ks ks0 C hS hR hW hl hol hos hon hle hn0
  have hy := (List.forall_mem_cons.mp hos).1
  have hx := (List.forall_mem_cons.mp (List.forall_mem_cons.mp hos).2).1
  have ht := (List.forall_mem_cons.mp (List.forall_mem_cons.mp hos).2).2
  refine lv_ishr C.1 C.2.1 hd ?_
  rw [← i32_of (i32 x >>> (i32 y &&& 31))]
  exact k p e s m args below meth c H locs L ks ks0 C hS hR hW hl hol (List.forall_mem_cons.mpr ⟨toInt_r32 _, ht⟩) hon hle hn0
theorem p_iushr {x y : Int} (hd : decode M.2.1 pc = .ok (.iushr, 1)) (k : PW G M rm mc ms tk n0 K (pc + 1) ls (vi (((i32 x).toUInt32 >>> ((i32 y).toUInt32 &&& Int32.toUInt32 31)).toInt32.toInt) :: st) kn cells slots h) : PW G M rm mc ms tk n0 K pc ls (vi y :: vi x :: st) kn cells slots h := by
  intro p e s m args below meth c H locs L ks ks0 C hS hR hW hl hol hos hon hle hn0
  have hy := (List.forall_mem_cons.mp hos).1
  have hx := (List.forall_mem_cons.mp (List.forall_mem_cons.mp hos).2).1
  have ht := (List.forall_mem_cons.mp (List.forall_mem_cons.mp hos).2).2
  refine lv_iushr C.1 C.2.1 (v := i32 ((i32 x).toUInt32 >>> ((i32 y).toUInt32 &&& Int32.toUInt32 31)).toInt32.toInt) hd (i32_of _).symm ?_
  exact k p e s m args below meth c H locs L ks ks0 C hS hR hW hl hol (List.forall_mem_cons.mpr ⟨toInt_r32 _, ht⟩) hon hle hn0
theorem p_idiv {x y : Int} (hd : decode M.2.1 pc = .ok (.idiv, 1)) (h0 : y ≠ 0) (k : PW G M rm mc ms tk n0 K (pc + 1) ls (vi (w32 (x.tdiv y)) :: st) kn cells slots h) : PW G M rm mc ms tk n0 K pc ls (vi y :: vi x :: st) kn cells slots h := by
  intro p e s m args below meth c H locs L ks ks0 C hS hR hW hl hol hos hon hle hn0
  have hy := (List.forall_mem_cons.mp hos).1
  have hx := (List.forall_mem_cons.mp (List.forall_mem_cons.mp hos).2).1
  have ht := (List.forall_mem_cons.mp (List.forall_mem_cons.mp hos).2).2
  refine lv_idiv C.1 C.2.1 hd (fun q => h0 ((i32_inj hy (by unfold r32; omega)).mp q)) ?_
  rw [i32_div hx hy]
  exact k p e s m args below meth c H locs L ks ks0 C hS hR hW hl hol (List.forall_mem_cons.mpr ⟨w32_r _, ht⟩) hon hle hn0
theorem p_irem {x y : Int} (hd : decode M.2.1 pc = .ok (.irem, 1)) (h0 : y ≠ 0) (k : PW G M rm mc ms tk n0 K (pc + 1) ls (vi (x.tmod y) :: st) kn cells slots h) : PW G M rm mc ms tk n0 K pc ls (vi y :: vi x :: st) kn cells slots h := by
  intro p e s m args below meth c H locs L ks ks0 C hS hR hW hl hol hos hon hle hn0
  have hy := (List.forall_mem_cons.mp hos).1
  have hx := (List.forall_mem_cons.mp (List.forall_mem_cons.mp hos).2).1
  have ht := (List.forall_mem_cons.mp (List.forall_mem_cons.mp hos).2).2
  refine lv_irem C.1 C.2.1 hd (fun q => h0 ((i32_inj hy (by unfold r32; omega)).mp q)) ?_
  rw [i32_rem hx hy]
  exact k p e s m args below meth c H locs L ks ks0 C hS hR hW hl hol (List.forall_mem_cons.mpr ⟨tmod_r32 hx, ht⟩) hon hle hn0
theorem p_ineg {x : Int} (hd : decode M.2.1 pc = .ok (.ineg, 1)) (k : PW G M rm mc ms tk n0 K (pc + 1) ls (vi (w32 (-x)) :: st) kn cells slots h) : PW G M rm mc ms tk n0 K pc ls (vi x :: st) kn cells slots h := by
  intro p e s m args below meth c H locs L ks ks0 C hS hR hW hl hol hos hon hle hn0
  have ht := (List.forall_mem_cons.mp hos).2
  refine lv_ineg C.1 C.2.1 hd ?_
  rw [i32_neg]
  exact k p e s m args below meth c H locs L ks ks0 C hS hR hW hl hol (List.forall_mem_cons.mpr ⟨w32_r _, ht⟩) hon hle hn0
theorem p_ladd {x y : Int} (hd : decode M.2.1 pc = .ok (.ladd, 1)) (k : PW G M rm mc ms tk n0 K (pc + 1) ls (vl (w64 (x + y)) :: st) kn cells slots h) : PW G M rm mc ms tk n0 K pc ls (vl y :: vl x :: st) kn cells slots h := by
  intro p e s m args below meth c H locs L ks ks0 C hS hR hW hl hol hos hon hle hn0
  have hy := (List.forall_mem_cons.mp hos).1
  have hx := (List.forall_mem_cons.mp (List.forall_mem_cons.mp hos).2).1
  have ht := (List.forall_mem_cons.mp (List.forall_mem_cons.mp hos).2).2
  refine lv_ladd C.1 C.2.1 hd ?_
  rw [i64_add]
  exact k p e s m args below meth c H locs L ks ks0 C hS hR hW hl hol (List.forall_mem_cons.mpr ⟨w64_r _, ht⟩) hon hle hn0
theorem p_lsub {x y : Int} (hd : decode M.2.1 pc = .ok (.lsub, 1)) (k : PW G M rm mc ms tk n0 K (pc + 1) ls (vl (w64 (x - y)) :: st) kn cells slots h) : PW G M rm mc ms tk n0 K pc ls (vl y :: vl x :: st) kn cells slots h := by
  intro p e s m args below meth c H locs L ks ks0 C hS hR hW hl hol hos hon hle hn0
  have hy := (List.forall_mem_cons.mp hos).1
  have hx := (List.forall_mem_cons.mp (List.forall_mem_cons.mp hos).2).1
  have ht := (List.forall_mem_cons.mp (List.forall_mem_cons.mp hos).2).2
  refine lv_lsub C.1 C.2.1 hd ?_
  rw [i64_sub]
  exact k p e s m args below meth c H locs L ks ks0 C hS hR hW hl hol (List.forall_mem_cons.mpr ⟨w64_r _, ht⟩) hon hle hn0
theorem p_lmul {x y : Int} (hd : decode M.2.1 pc = .ok (.lmul, 1)) (k : PW G M rm mc ms tk n0 K (pc + 1) ls (vl (w64 (x * y)) :: st) kn cells slots h) : PW G M rm mc ms tk n0 K pc ls (vl y :: vl x :: st) kn cells slots h := by
  intro p e s m args below meth c H locs L ks ks0 C hS hR hW hl hol hos hon hle hn0
  have hy := (List.forall_mem_cons.mp hos).1
  have hx := (List.forall_mem_cons.mp (List.forall_mem_cons.mp hos).2).1
  have ht := (List.forall_mem_cons.mp (List.forall_mem_cons.mp hos).2).2
  refine lv_lmul C.1 C.2.1 hd ?_
  rw [i64_mul]
  exact k p e s m args below meth c H locs L ks ks0 C hS hR hW hl hol (List.forall_mem_cons.mpr ⟨w64_r _, ht⟩) hon hle hn0
theorem p_lxor {x y : Int} (hd : decode M.2.1 pc = .ok (.lxor, 1)) (k : PW G M rm mc ms tk n0 K (pc + 1) ls (vl ((i64 x ^^^ i64 y).toInt) :: st) kn cells slots h) : PW G M rm mc ms tk n0 K pc ls (vl y :: vl x :: st) kn cells slots h := by
  intro p e s m args below meth c H locs L ks ks0 C hS hR hW hl hol hos hon hle hn0
  have hy := (List.forall_mem_cons.mp hos).1
  have hx := (List.forall_mem_cons.mp (List.forall_mem_cons.mp hos).2).1
  have ht := (List.forall_mem_cons.mp (List.forall_mem_cons.mp hos).2).2
  refine lv_lxor C.1 C.2.1 hd ?_
  rw [← i64_of (i64 x ^^^ i64 y)]
  exact k p e s m args below meth c H locs L ks ks0 C hS hR hW hl hol (List.forall_mem_cons.mpr ⟨toInt_r64 _, ht⟩) hon hle hn0
theorem p_ldiv {x y : Int} (hd : decode M.2.1 pc = .ok (.ldiv, 1)) (h0 : y ≠ 0) (k : PW G M rm mc ms tk n0 K (pc + 1) ls (vl (w64 (x.tdiv y)) :: st) kn cells slots h) : PW G M rm mc ms tk n0 K pc ls (vl y :: vl x :: st) kn cells slots h := by
  intro p e s m args below meth c H locs L ks ks0 C hS hR hW hl hol hos hon hle hn0
  have hy := (List.forall_mem_cons.mp hos).1
  have hx := (List.forall_mem_cons.mp (List.forall_mem_cons.mp hos).2).1
  have ht := (List.forall_mem_cons.mp (List.forall_mem_cons.mp hos).2).2
  refine lv_ldiv C.1 C.2.1 hd (fun q => h0 ((i64_inj hy (by unfold r64; omega)).mp q)) ?_
  rw [i64_div hx hy]
  exact k p e s m args below meth c H locs L ks ks0 C hS hR hW hl hol (List.forall_mem_cons.mpr ⟨w64_r _, ht⟩) hon hle hn0
theorem p_lneg {x : Int} (hd : decode M.2.1 pc = .ok (.lneg, 1)) (k : PW G M rm mc ms tk n0 K (pc + 1) ls (vl (w64 (-x)) :: st) kn cells slots h) : PW G M rm mc ms tk n0 K pc ls (vl x :: st) kn cells slots h := by
  intro p e s m args below meth c H locs L ks ks0 C hS hR hW hl hol hos hon hle hn0
  have ht := (List.forall_mem_cons.mp hos).2
  refine lv_lneg C.1 C.2.1 hd ?_
  rw [i64_neg]
  exact k p e s m args below meth c H locs L ks ks0 C hS hR hW hl hol (List.forall_mem_cons.mpr ⟨w64_r _, ht⟩) hon hle hn0
theorem p_i2l {x : Int} (hd : decode M.2.1 pc = .ok (.i2l, 1)) (k : PW G M rm mc ms tk n0 K (pc + 1) ls (vl x :: st) kn cells slots h) : PW G M rm mc ms tk n0 K pc ls (vi x :: st) kn cells slots h := by
  intro p e s m args below meth c H locs L ks ks0 C hS hR hW hl hol hos hon hle hn0
  have hx := (List.forall_mem_cons.mp hos).1
  have ht := (List.forall_mem_cons.mp hos).2
  refine lv_i2l C.1 C.2.1 hd (i32_l x hx) ?_
  exact k p e s m args below meth c H locs L ks ks0 C hS hR hW hl hol (List.forall_mem_cons.mpr ⟨r32_64 hx, ht⟩) hon hle hn0
theorem p_l2i {x : Int} (hd : decode M.2.1 pc = .ok (.l2i, 1)) (k : PW G M rm mc ms tk n0 K (pc + 1) ls (vi (w32 x) :: st) kn cells slots h) : PW G M rm mc ms tk n0 K pc ls (vl x :: st) kn cells slots h := by
  intro p e s m args below meth c H locs L ks ks0 C hS hR hW hl hol hos hon hle hn0
  have ht := (List.forall_mem_cons.mp hos).2
  refine lv_l2i C.1 C.2.1 hd (i64_i x) ?_
  exact k p e s m args below meth c H locs L ks ks0 C hS hR hW hl hol (List.forall_mem_cons.mpr ⟨w32_r _, ht⟩) hon hle hn0
theorem p_i2b {x : Int} (hd : decode M.2.1 pc = .ok (.i2b, 1)) (k : PW G M rm mc ms tk n0 K (pc + 1) ls (vi ((i32 x).toInt8.toInt32.toInt) :: st) kn cells slots h) : PW G M rm mc ms tk n0 K pc ls (vi x :: st) kn cells slots h := by
  intro p e s m args below meth c H locs L ks ks0 C hS hR hW hl hol hos hon hle hn0
  have ht := (List.forall_mem_cons.mp hos).2
  refine lv_i2b C.1 C.2.1 (v := i32 ((i32 x).toInt8.toInt32.toInt)) hd (i32_of _).symm ?_
  exact k p e s m args below meth c H locs L ks ks0 C hS hR hW hl hol (List.forall_mem_cons.mpr ⟨toInt_r32 _, ht⟩) hon hle hn0
theorem p_iconst {n : Int} (hd : decode M.2.1 pc = .ok (.iconst n, 1)) (hn : -2147483648 ≤ n ∧ n < 2147483648) (k : PW G M rm mc ms tk n0 K (pc + 1) ls (vi n :: st) kn cells slots h) : PW G M rm mc ms tk n0 K pc ls st kn cells slots h := by
  intro p e s m args below meth c H locs L ks ks0 C hS hR hW hl hol hos hon hle hn0
  refine lv_iconst C.1 C.2.1 (v := i32 n) hd rfl ?_
  exact k p e s m args below meth c H locs L ks ks0 C hS hR hW hl hol (List.forall_mem_cons.mpr ⟨hn, hos⟩) hon hle hn0
theorem p_bipush {n : Int} (hd : decode M.2.1 pc = .ok (.bipush n, 2)) (hn : -2147483648 ≤ n ∧ n < 2147483648) (hv : (Int8.ofInt n).toInt32 = i32 n) (k : PW G M rm mc ms tk n0 K (pc + 2) ls (vi n :: st) kn cells slots h) : PW G M rm mc ms tk n0 K pc ls st kn cells slots h := by
  intro p e s m args below meth c H locs L ks ks0 C hS hR hW hl hol hos hon hle hn0
  refine lv_bipush C.1 C.2.1 (v := i32 n) hd hv ?_
  exact k p e s m args below meth c H locs L ks ks0 C hS hR hW hl hol (List.forall_mem_cons.mpr ⟨hn, hos⟩) hon hle hn0
theorem p_sipush {n : Int} (hd : decode M.2.1 pc = .ok (.sipush n, 3)) (hn : -2147483648 ≤ n ∧ n < 2147483648) (hv : (Int16.ofInt n).toInt32 = i32 n) (k : PW G M rm mc ms tk n0 K (pc + 3) ls (vi n :: st) kn cells slots h) : PW G M rm mc ms tk n0 K pc ls st kn cells slots h := by
  intro p e s m args below meth c H locs L ks ks0 C hS hR hW hl hol hos hon hle hn0
  refine lv_sipush C.1 C.2.1 (v := i32 n) hd hv ?_
  exact k p e s m args below meth c H locs L ks ks0 C hS hR hW hl hol (List.forall_mem_cons.mpr ⟨hn, hos⟩) hon hle hn0
theorem p_lconst {n : Fin 2} {z : Int} (hd : decode M.2.1 pc = .ok (.lconst n, 1)) (hz : (n : Nat) = z) (k : PW G M rm mc ms tk n0 K (pc + 1) ls (vl z :: st) kn cells slots h) : PW G M rm mc ms tk n0 K pc ls st kn cells slots h := by
  intro p e s m args below meth c H locs L ks ks0 C hS hR hW hl hol hos hon hle hn0
  have hb : r64 z := by have := n.isLt; unfold r64; omega
  refine lv_lconst C.1 C.2.1 (v := i64 z) hd (by rw [← hz]; rfl) ?_
  exact k p e s m args below meth c H locs L ks ks0 C hS hR hW hl hol (List.forall_mem_cons.mpr ⟨hb, hos⟩) hon hle hn0
theorem p_ldc {i : Nat} {v : Int32} {z : Int} (hd : decode M.2.1 pc = .ok (.ldc i, 2)) (hc : Cond.constant M.1.cls i v ∈ lw_good) (hz : v.toInt = z) (k : PW G M rm mc ms tk n0 K (pc + 2) ls (vi z :: st) kn cells slots h) : PW G M rm mc ms tk n0 K pc ls st kn cells slots h := by
  intro p e s m args below meth c H locs L ks ks0 C hS hR hW hl hol hos hon hle hn0
  subst hz
  refine lv_ldc C.1 C.2.1 C.2.2.2.2.1 (C.2.2.2.2.2.1 _ hc) hd ?_
  rw [← i32_of v]
  exact k p e s m args below meth c H locs L ks ks0 C hS hR hW hl hol (List.forall_mem_cons.mpr ⟨toInt_r32 _, hos⟩) hon hle hn0
theorem p_ldcw {i : Nat} {v : Int32} {z : Int} (hd : decode M.2.1 pc = .ok (.ldc_w i, 3)) (hc : Cond.constant M.1.cls i v ∈ lw_good) (hz : v.toInt = z) (k : PW G M rm mc ms tk n0 K (pc + 3) ls (vi z :: st) kn cells slots h) : PW G M rm mc ms tk n0 K pc ls st kn cells slots h := by
  intro p e s m args below meth c H locs L ks ks0 C hS hR hW hl hol hos hon hle hn0
  subst hz
  refine lv_ldcw C.1 C.2.1 C.2.2.2.2.1 (C.2.2.2.2.2.1 _ hc) hd ?_
  rw [← i32_of v]
  exact k p e s m args below meth c H locs L ks ks0 C hS hR hW hl hol (List.forall_mem_cons.mpr ⟨toInt_r32 _, hos⟩) hon hle hn0
theorem p_ldc2 {i : Nat} {v : Int64} {z : Int} (hd : decode M.2.1 pc = .ok (.ldc2_w i, 3)) (hc : Cond.constantLong M.1.cls i v ∈ lw_good) (hz : v.toInt = z) (k : PW G M rm mc ms tk n0 K (pc + 3) ls (vl z :: st) kn cells slots h) : PW G M rm mc ms tk n0 K pc ls st kn cells slots h := by
  intro p e s m args below meth c H locs L ks ks0 C hS hR hW hl hol hos hon hle hn0
  subst hz
  refine lv_ldc2 C.1 C.2.1 C.2.2.2.2.1 (C.2.2.2.2.2.1 _ hc) hd ?_
  rw [← i64_of v]
  exact k p e s m args below meth c H locs L ks ks0 C hS hR hW hl hol (List.forall_mem_cons.mpr ⟨toInt_r64 _, hos⟩) hon hle hn0
theorem p_icmp_lt {x y : Int} {off : Int} {tgt : Nat} {q : Prop} (hd : decode M.2.1 pc = .ok (.if_icmp .lt off, 3)) (ht : (pc : Int) + off = (tgt : Int)) (hq : x < y ↔ q) (kt : q → PW G M rm mc ms tk n0 K tgt ls st kn cells slots h) (kf : ¬ q → PW G M rm mc ms tk n0 K (pc + 3) ls st kn cells slots h) : PW G M rm mc ms tk n0 K pc ls (vi y :: vi x :: st) kn cells slots h := by
  intro p e s m args below meth c H locs L ks ks0 C hS hR hW hl hol hos hon hle hn0
  have hy := (List.forall_mem_cons.mp hos).1
  have hx := (List.forall_mem_cons.mp (List.forall_mem_cons.mp hos).2).1
  have hst := (List.forall_mem_cons.mp (List.forall_mem_cons.mp hos).2).2
  refine lv_icmp_lt C.1 C.2.1 hd ht (fun z => kt (hq.mp ((i32_lt hx hy).mp z)) p e s m args below meth c H locs L ks ks0 C hS hR hW hl hol hst hon hle hn0) (fun z => kf (fun w => z ((i32_lt hx hy).mpr (hq.mpr w))) p e s m args below meth c H locs L ks ks0 C hS hR hW hl hol hst hon hle hn0)
theorem p_if_lt {x : Int} {off : Int} {tgt : Nat} {q : Prop} (hd : decode M.2.1 pc = .ok (.ifCond .lt off, 3)) (ht : (pc : Int) + off = (tgt : Int)) (hq : x < 0 ↔ q) (kt : q → PW G M rm mc ms tk n0 K tgt ls st kn cells slots h) (kf : ¬ q → PW G M rm mc ms tk n0 K (pc + 3) ls st kn cells slots h) : PW G M rm mc ms tk n0 K pc ls (vi x :: st) kn cells slots h := by
  intro p e s m args below meth c H locs L ks ks0 C hS hR hW hl hol hos hon hle hn0
  have hx := (List.forall_mem_cons.mp hos).1
  have hst := (List.forall_mem_cons.mp hos).2
  have hy : r32 0 := by unfold r32; omega
  refine lv_if_lt C.1 C.2.1 hd ht (fun z => kt (hq.mp ((i32_lt hx hy).mp z)) p e s m args below meth c H locs L ks ks0 C hS hR hW hl hol hst hon hle hn0) (fun z => kf (fun w => z ((i32_lt hx hy).mpr (hq.mpr w))) p e s m args below meth c H locs L ks ks0 C hS hR hW hl hol hst hon hle hn0)
theorem p_icmp_ge {x y : Int} {off : Int} {tgt : Nat} {q : Prop} (hd : decode M.2.1 pc = .ok (.if_icmp .ge off, 3)) (ht : (pc : Int) + off = (tgt : Int)) (hq : x ≥ y ↔ q) (kt : q → PW G M rm mc ms tk n0 K tgt ls st kn cells slots h) (kf : ¬ q → PW G M rm mc ms tk n0 K (pc + 3) ls st kn cells slots h) : PW G M rm mc ms tk n0 K pc ls (vi y :: vi x :: st) kn cells slots h := by
  intro p e s m args below meth c H locs L ks ks0 C hS hR hW hl hol hos hon hle hn0
  have hy := (List.forall_mem_cons.mp hos).1
  have hx := (List.forall_mem_cons.mp (List.forall_mem_cons.mp hos).2).1
  have hst := (List.forall_mem_cons.mp (List.forall_mem_cons.mp hos).2).2
  refine lv_icmp_ge C.1 C.2.1 hd ht (fun z => kt (hq.mp ((i32_le hy hx).mp z)) p e s m args below meth c H locs L ks ks0 C hS hR hW hl hol hst hon hle hn0) (fun z => kf (fun w => z ((i32_le hy hx).mpr (hq.mpr w))) p e s m args below meth c H locs L ks ks0 C hS hR hW hl hol hst hon hle hn0)
theorem p_if_ge {x : Int} {off : Int} {tgt : Nat} {q : Prop} (hd : decode M.2.1 pc = .ok (.ifCond .ge off, 3)) (ht : (pc : Int) + off = (tgt : Int)) (hq : x ≥ 0 ↔ q) (kt : q → PW G M rm mc ms tk n0 K tgt ls st kn cells slots h) (kf : ¬ q → PW G M rm mc ms tk n0 K (pc + 3) ls st kn cells slots h) : PW G M rm mc ms tk n0 K pc ls (vi x :: st) kn cells slots h := by
  intro p e s m args below meth c H locs L ks ks0 C hS hR hW hl hol hos hon hle hn0
  have hx := (List.forall_mem_cons.mp hos).1
  have hst := (List.forall_mem_cons.mp hos).2
  have hy : r32 0 := by unfold r32; omega
  refine lv_if_ge C.1 C.2.1 hd ht (fun z => kt (hq.mp ((i32_le hy hx).mp z)) p e s m args below meth c H locs L ks ks0 C hS hR hW hl hol hst hon hle hn0) (fun z => kf (fun w => z ((i32_le hy hx).mpr (hq.mpr w))) p e s m args below meth c H locs L ks ks0 C hS hR hW hl hol hst hon hle hn0)
theorem p_icmp_gt {x y : Int} {off : Int} {tgt : Nat} {q : Prop} (hd : decode M.2.1 pc = .ok (.if_icmp .gt off, 3)) (ht : (pc : Int) + off = (tgt : Int)) (hq : x > y ↔ q) (kt : q → PW G M rm mc ms tk n0 K tgt ls st kn cells slots h) (kf : ¬ q → PW G M rm mc ms tk n0 K (pc + 3) ls st kn cells slots h) : PW G M rm mc ms tk n0 K pc ls (vi y :: vi x :: st) kn cells slots h := by
  intro p e s m args below meth c H locs L ks ks0 C hS hR hW hl hol hos hon hle hn0
  have hy := (List.forall_mem_cons.mp hos).1
  have hx := (List.forall_mem_cons.mp (List.forall_mem_cons.mp hos).2).1
  have hst := (List.forall_mem_cons.mp (List.forall_mem_cons.mp hos).2).2
  refine lv_icmp_gt C.1 C.2.1 hd ht (fun z => kt (hq.mp ((i32_lt hy hx).mp z)) p e s m args below meth c H locs L ks ks0 C hS hR hW hl hol hst hon hle hn0) (fun z => kf (fun w => z ((i32_lt hy hx).mpr (hq.mpr w))) p e s m args below meth c H locs L ks ks0 C hS hR hW hl hol hst hon hle hn0)
theorem p_if_gt {x : Int} {off : Int} {tgt : Nat} {q : Prop} (hd : decode M.2.1 pc = .ok (.ifCond .gt off, 3)) (ht : (pc : Int) + off = (tgt : Int)) (hq : x > 0 ↔ q) (kt : q → PW G M rm mc ms tk n0 K tgt ls st kn cells slots h) (kf : ¬ q → PW G M rm mc ms tk n0 K (pc + 3) ls st kn cells slots h) : PW G M rm mc ms tk n0 K pc ls (vi x :: st) kn cells slots h := by
  intro p e s m args below meth c H locs L ks ks0 C hS hR hW hl hol hos hon hle hn0
  have hx := (List.forall_mem_cons.mp hos).1
  have hst := (List.forall_mem_cons.mp hos).2
  have hy : r32 0 := by unfold r32; omega
  refine lv_if_gt C.1 C.2.1 hd ht (fun z => kt (hq.mp ((i32_lt hy hx).mp z)) p e s m args below meth c H locs L ks ks0 C hS hR hW hl hol hst hon hle hn0) (fun z => kf (fun w => z ((i32_lt hy hx).mpr (hq.mpr w))) p e s m args below meth c H locs L ks ks0 C hS hR hW hl hol hst hon hle hn0)
theorem p_icmp_le {x y : Int} {off : Int} {tgt : Nat} {q : Prop} (hd : decode M.2.1 pc = .ok (.if_icmp .le off, 3)) (ht : (pc : Int) + off = (tgt : Int)) (hq : x ≤ y ↔ q) (kt : q → PW G M rm mc ms tk n0 K tgt ls st kn cells slots h) (kf : ¬ q → PW G M rm mc ms tk n0 K (pc + 3) ls st kn cells slots h) : PW G M rm mc ms tk n0 K pc ls (vi y :: vi x :: st) kn cells slots h := by
  intro p e s m args below meth c H locs L ks ks0 C hS hR hW hl hol hos hon hle hn0
  have hy := (List.forall_mem_cons.mp hos).1
  have hx := (List.forall_mem_cons.mp (List.forall_mem_cons.mp hos).2).1
  have hst := (List.forall_mem_cons.mp (List.forall_mem_cons.mp hos).2).2
  refine lv_icmp_le C.1 C.2.1 hd ht (fun z => kt (hq.mp ((i32_le hx hy).mp z)) p e s m args below meth c H locs L ks ks0 C hS hR hW hl hol hst hon hle hn0) (fun z => kf (fun w => z ((i32_le hx hy).mpr (hq.mpr w))) p e s m args below meth c H locs L ks ks0 C hS hR hW hl hol hst hon hle hn0)
theorem p_if_le {x : Int} {off : Int} {tgt : Nat} {q : Prop} (hd : decode M.2.1 pc = .ok (.ifCond .le off, 3)) (ht : (pc : Int) + off = (tgt : Int)) (hq : x ≤ 0 ↔ q) (kt : q → PW G M rm mc ms tk n0 K tgt ls st kn cells slots h) (kf : ¬ q → PW G M rm mc ms tk n0 K (pc + 3) ls st kn cells slots h) : PW G M rm mc ms tk n0 K pc ls (vi x :: st) kn cells slots h := by
  intro p e s m args below meth c H locs L ks ks0 C hS hR hW hl hol hos hon hle hn0
  have hx := (List.forall_mem_cons.mp hos).1
  have hst := (List.forall_mem_cons.mp hos).2
  have hy : r32 0 := by unfold r32; omega
  refine lv_if_le C.1 C.2.1 hd ht (fun z => kt (hq.mp ((i32_le hx hy).mp z)) p e s m args below meth c H locs L ks ks0 C hS hR hW hl hol hst hon hle hn0) (fun z => kf (fun w => z ((i32_le hx hy).mpr (hq.mpr w))) p e s m args below meth c H locs L ks ks0 C hS hR hW hl hol hst hon hle hn0)
theorem p_icmp_eq {x y : Int} {off : Int} {tgt : Nat} {q : Prop} (hd : decode M.2.1 pc = .ok (.if_icmp .eq off, 3)) (ht : (pc : Int) + off = (tgt : Int)) (hq : x = y ↔ q) (kt : q → PW G M rm mc ms tk n0 K tgt ls st kn cells slots h) (kf : ¬ q → PW G M rm mc ms tk n0 K (pc + 3) ls st kn cells slots h) : PW G M rm mc ms tk n0 K pc ls (vi y :: vi x :: st) kn cells slots h := by
  intro p e s m args below meth c H locs L ks ks0 C hS hR hW hl hol hos hon hle hn0
  have hy := (List.forall_mem_cons.mp hos).1
  have hx := (List.forall_mem_cons.mp (List.forall_mem_cons.mp hos).2).1
  have hst := (List.forall_mem_cons.mp (List.forall_mem_cons.mp hos).2).2
  refine lv_icmp_eq C.1 C.2.1 hd ht (fun z => kt (hq.mp ((i32_inj hx hy).mp z)) p e s m args below meth c H locs L ks ks0 C hS hR hW hl hol hst hon hle hn0) (fun z => kf (fun w => z ((i32_inj hx hy).mpr (hq.mpr w))) p e s m args below meth c H locs L ks ks0 C hS hR hW hl hol hst hon hle hn0)
theorem p_if_eq {x : Int} {off : Int} {tgt : Nat} {q : Prop} (hd : decode M.2.1 pc = .ok (.ifCond .eq off, 3)) (ht : (pc : Int) + off = (tgt : Int)) (hq : x = 0 ↔ q) (kt : q → PW G M rm mc ms tk n0 K tgt ls st kn cells slots h) (kf : ¬ q → PW G M rm mc ms tk n0 K (pc + 3) ls st kn cells slots h) : PW G M rm mc ms tk n0 K pc ls (vi x :: st) kn cells slots h := by
  intro p e s m args below meth c H locs L ks ks0 C hS hR hW hl hol hos hon hle hn0
  have hx := (List.forall_mem_cons.mp hos).1
  have hst := (List.forall_mem_cons.mp hos).2
  have hy : r32 0 := by unfold r32; omega
  refine lv_if_eq C.1 C.2.1 hd ht (fun z => kt (hq.mp ((i32_inj hx hy).mp z)) p e s m args below meth c H locs L ks ks0 C hS hR hW hl hol hst hon hle hn0) (fun z => kf (fun w => z ((i32_inj hx hy).mpr (hq.mpr w))) p e s m args below meth c H locs L ks ks0 C hS hR hW hl hol hst hon hle hn0)
theorem p_icmp_ne {x y : Int} {off : Int} {tgt : Nat} {q : Prop} (hd : decode M.2.1 pc = .ok (.if_icmp .ne off, 3)) (ht : (pc : Int) + off = (tgt : Int)) (hq : x ≠ y ↔ q) (kt : q → PW G M rm mc ms tk n0 K tgt ls st kn cells slots h) (kf : ¬ q → PW G M rm mc ms tk n0 K (pc + 3) ls st kn cells slots h) : PW G M rm mc ms tk n0 K pc ls (vi y :: vi x :: st) kn cells slots h := by
  intro p e s m args below meth c H locs L ks ks0 C hS hR hW hl hol hos hon hle hn0
  have hy := (List.forall_mem_cons.mp hos).1
  have hx := (List.forall_mem_cons.mp (List.forall_mem_cons.mp hos).2).1
  have hst := (List.forall_mem_cons.mp (List.forall_mem_cons.mp hos).2).2
  refine lv_icmp_ne C.1 C.2.1 hd ht (fun z => kt (hq.mp ((not_congr (i32_inj hx hy)).mp z)) p e s m args below meth c H locs L ks ks0 C hS hR hW hl hol hst hon hle hn0) (fun z => kf (fun w => (hq.mpr w) ((i32_inj hx hy).mp z)) p e s m args below meth c H locs L ks ks0 C hS hR hW hl hol hst hon hle hn0)
theorem p_if_ne {x : Int} {off : Int} {tgt : Nat} {q : Prop} (hd : decode M.2.1 pc = .ok (.ifCond .ne off, 3)) (ht : (pc : Int) + off = (tgt : Int)) (hq : x ≠ 0 ↔ q) (kt : q → PW G M rm mc ms tk n0 K tgt ls st kn cells slots h) (kf : ¬ q → PW G M rm mc ms tk n0 K (pc + 3) ls st kn cells slots h) : PW G M rm mc ms tk n0 K pc ls (vi x :: st) kn cells slots h := by
  intro p e s m args below meth c H locs L ks ks0 C hS hR hW hl hol hos hon hle hn0
  have hx := (List.forall_mem_cons.mp hos).1
  have hst := (List.forall_mem_cons.mp hos).2
  have hy : r32 0 := by unfold r32; omega
  refine lv_if_ne C.1 C.2.1 hd ht (fun z => kt (hq.mp ((not_congr (i32_inj hx hy)).mp z)) p e s m args below meth c H locs L ks ks0 C hS hR hW hl hol hst hon hle hn0) (fun z => kf (fun w => (hq.mpr w) ((i32_inj hx hy).mp z)) p e s m args below meth c H locs L ks ks0 C hS hR hW hl hol hst hon hle hn0)
theorem p_goto {off : Int} {tgt : Nat} (hd : decode M.2.1 pc = .ok (.goto off, 3)) (ht : (pc : Int) + off = (tgt : Int)) (k : PW G M rm mc ms tk n0 K (tgt) ls (st) kn cells slots h) : PW G M rm mc ms tk n0 K pc ls st kn cells slots h := by
  intro p e s m args below meth c H locs L ks ks0 C hS hR hW hl hol hos hon hle hn0
  refine lv_goto C.1 C.2.1 hd ht ?_
  exact k p e s m args below meth c H locs L ks ks0 C hS hR hW hl hol hos hon hle hn0
theorem p_dup {v : PV} (hd : decode M.2.1 pc = .ok (.dup, 1)) (hv : ∀ x, v ≠ vl x) (k : PW G M rm mc ms tk n0 K (pc + 1) ls (v :: v :: st) kn cells slots h) : PW G M rm mc ms tk n0 K pc ls (v :: st) kn cells slots h := by
  intro p e s m args below meth c H locs L ks ks0 C hS hR hW hl hol hos hon hle hn0
  have hx := (List.forall_mem_cons.mp hos).1
  refine lv_dup C.1 C.2.1 (va := tv G.2.2.2.1 v) hd (tv_cat1 _ hv) ?_
  exact k p e s m args below meth c H locs L ks ks0 C hS hR hW hl hol (List.forall_mem_cons.mpr ⟨hx, hos⟩) hon hle hn0
theorem p_dup2 {v w : PV} (hd : decode M.2.1 pc = .ok (.dup2, 1)) (hv : ∀ x, v ≠ vl x) (hw : ∀ x, w ≠ vl x) (k : PW G M rm mc ms tk n0 K (pc + 1) ls (v :: w :: v :: w :: st) kn cells slots h) : PW G M rm mc ms tk n0 K pc ls (v :: w :: st) kn cells slots h := by
  intro p e s m args below meth c H locs L ks ks0 C hS hR hW hl hol hos hon hle hn0
  have hx := (List.forall_mem_cons.mp hos).1
  have hy := (List.forall_mem_cons.mp (List.forall_mem_cons.mp hos).2).1
  refine lv_dup2_11 C.1 C.2.1 (va := tv G.2.2.2.1 v) (vb := tv G.2.2.2.1 w) hd (tv_cat1 _ hv) (tv_cat1 _ hw) ?_
  exact k p e s m args below meth c H locs L ks ks0 C hS hR hW hl hol (List.forall_mem_cons.mpr ⟨hx, (List.forall_mem_cons.mpr ⟨hy, hos⟩)⟩) hon hle hn0
theorem p_pop2 {x : Int} (hd : decode M.2.1 pc = .ok (.pop2, 1)) (k : PW G M rm mc ms tk n0 K (pc + 1) ls (st) kn cells slots h) : PW G M rm mc ms tk n0 K pc ls (vl x :: st) kn cells slots h := by
  intro p e s m args below meth c H locs L ks ks0 C hS hR hW hl hol hos hon hle hn0
  have hst := (List.forall_mem_cons.mp hos).2
  refine lv_pop2_2 C.1 C.2.1 (va := tv G.2.2.2.1 (vl x)) hd rfl ?_
  exact k p e s m args below meth c H locs L ks ks0 C hS hR hW hl hol hst hon hle hn0
theorem p_lcmp {x y z : Int} (hd : decode M.2.1 pc = .ok (.lcmp, 1)) (hz : (if x < y then -1 else if x = y then 0 else 1) = z) (k : PW G M rm mc ms tk n0 K (pc + 1) ls (vi z :: st) kn cells slots h) : PW G M rm mc ms tk n0 K pc ls (vl y :: vl x :: st) kn cells slots h := by
  intro p e s m args below meth c H locs L ks ks0 C hS hR hW hl hol hos hon hle hn0
  have hy := (List.forall_mem_cons.mp hos).1
  have hx := (List.forall_mem_cons.mp (List.forall_mem_cons.mp hos).2).1
  have hst := (List.forall_mem_cons.mp (List.forall_mem_cons.mp hos).2).2
  have hb : r32 z := by subst hz; unfold r32; (repeat' split) <;> omega
  have e0 : lg_cmp (i64 x) (i64 y) = i32 z := by
    unfold lg_cmp
    subst hz
    simp only [gt_iff_lt, i64_lt hy hx, i64_inj hx hy]
    by_cases h1 : x < y
    · rw [if_pos h1, if_neg (by omega), if_neg (by omega)]; rfl
    · by_cases h2 : x = y
      · rw [if_neg h1, if_pos h2, if_neg (by omega), if_pos h2]; rfl
      · rw [if_neg h1, if_pos (show y < x by omega), if_neg h2]; rfl
  refine W.lcmp C.1 C.2.1 hd ?_
  rw [e0]
  exact k p e s m args below meth c H locs L ks ks0 C hS hR hW hl hol (List.forall_mem_cons.mpr ⟨hb, hst⟩) hon hle hn0
end PR1
