/-! THE PURE MACHINE, part 3: cells, kinds, the judgement PW, contracts CT -/
/-- launch, class numbers and slots, array classes by kind, the first new cell, the script -/
abbrev Gx : Type := Launch × va_G × (Nat → ClassId) × Nat × (Nat × Nat × (Nat → Int32))
/-- name, code, locals, answer -/
abbrev MD : Type := MethodName × ByteArray × Nat × Option FieldType
/-- kinds of cells: class c (made), 50 + c (being made), 100 int[], 101 long[], 102 byte[], 103 Rule[], 104 Chart[], 105 int[][]; and the length -/
abbrev Kd : Type := Nat × Nat
def rv (b : Nat) (a : Int) : Value := if a < 0 then .null else .ref (b + a.toNat)
def ro (b : Nat) (a : Int) : Option Nat := if a < 0 then none else some (b + a.toNat)
theorem rv_ro (b : Nat) (a : Int) : va_rf (ro b a) = rv b a := by
  unfold ro rv
  by_cases h : a < 0
  · rw [if_pos h, if_pos h]; rfl
  · rw [if_neg h, if_neg h]; rfl
def tv (b : Nat) (v : PV) : Value := match v with
  | .inl x => .int (i32 x)
  | .inr (.inl x) => .long (i64 x)
  | .inr (.inr (t, a, _)) => if t = 200 then .ref a.toNat else rv b a
def fv (b : Nat) (ty : FieldType) (x : Int) : Value := match ty with
  | .long => .long (i64 x)
  | .object _ => rv b x
  | .array _ => rv b x
  | _ => .int (i32 x)
def eT : Nat → FieldType := fun t => match t with
  | 100 => .int | 101 => .long | 102 => .byte | 103 => .object RX7 | 104 => .object RX0 | _ => .array .int
def ar (b : Nat) (t : Nat) (f : Int → Int) : (Nat → Int32) ⊕ (Nat → Int64) ⊕ (Nat → UInt32) ⊕ (Nat → UInt64) ⊕ (Nat → Option Nat) :=
  if t = 101 then .inr (.inl (fun k => i64 (f k))) else if 103 ≤ t then .inr (.inr (.inr (.inr (fun k => ro b (f k))))) else .inl (fun k => i32 (f k))
def ec (G : Gx) (f : Int → Int) (q : Kd) : va_E :=
  if q.1 < 100 then .inr (q.1 % 50, (List.range (cN (q.1 % 50))).map (fun k => fv G.2.2.2.1 (cty (q.1 % 50) k) (f k)))
  else .inl (G.2.2.1 q.1, q.2, ar G.2.2.2.1 q.1 f)
def RepH (G : Gx) (ks : List Kd) (h : Hh) (H : Heap) : Prop :=
  H.size = G.2.2.2.1 + ks.length ∧ ∀ (i : Nat) (q : Kd), ks[i]? = some q → va_at G.2.1 vwCl (G.2.2.2.1 + i, ec G (h i) q) H
/-- a reference: null, or a cell of that kind -/
def okr (ks : List Kd) (t : Nat) (x : Int) : Prop := x = -1 ∨ (0 ≤ x ∧ ks[x.toNat]? = some (t, 0))
def ccode (C : String) : Nat := if C = RX0 then 0 else if C = RX7 then 7 else if C = RX1 then 1 else if C = RX2 then 2 else if C = RX3 then 3 else if C = RX4 then 4 else if C = RX5 then 5 else if C = RX6 then 6 else if C = RX8 then 8 else if C = RX9 then 9 else 10
def okf (ks : List Kd) (ty : FieldType) (x : Int) : Prop := match ty with
  | .long => r64 x
  | .object C => okr ks (ccode C) x
  | .array _ => -1 ≤ x
  | _ => r32 x
def layM : List (Nat × Nat × Kd) := [(0, 1, 102, 120), (7, 2, 100, 5), (8, 3, 100, 5), (9, 4, 100, 5), (12, 5, 100, 6), (13, 6, 100, 6), (14, 7, 100, 30), (15, 8, 100, 30), (16, 9, 100, 30), (17, 10, 100, 1200), (19, 11, 100, 6), (20, 12, 100, 24), (21, 13, 100, 6), (22, 14, 100, 18), (23, 15, 100, 18), (24, 16, 100, 6), (25, 17, 100, 6), (26, 18, 100, 6), (28, 19, 100, 4), (31, 20, 100, 40), (32, 21, 100, 40), (33, 22, 100, 40), (34, 23, 100, 40), (35, 24, 100, 40), (37, 25, 100, 60), (38, 26, 100, 60), (39, 27, 100, 240), (40, 28, 100, 60), (41, 29, 100, 60), (43, 30, 100, 4), (44, 31, 100, 4), (45, 32, 101, 3), (46, 33, 101, 3), (47, 34, 101, 3), (48, 35, 101, 3), (49, 36, 100, 4), (54, 37, 100, 60), (55, 38, 100, 12)]
/-- where a made object's own cells lie: field, how far behind it, kind -/
def lay : Nat → List (Nat × Nat × Kd) := fun c => match c with
  | 0 => [(5, 1, 100, 4), (6, 2, 100, 3), (7, 3, 100, 3), (8, 4, 101, 4), (9, 5, 101, 4), (10, 6, 4, 0)]
  | 1 => [(0, 1, 100, 40), (1, 2, 100, 40), (2, 3, 100, 40), (3, 4, 100, 40), (4, 5, 100, 40)]
  | 2 => [(0, 1, 100, 200), (1, 2, 100, 240), (2, 3, 100, 60), (3, 4, 100, 12)]
  | 3 => [(0, 1, 100, 4), (1, 2, 101, 4)]
  | 5 => [(0, 1, 100, 5), (1, 2, 100, 5)]
  | 6 => [(0, 1, 100, 60), (1, 2, 100, 60), (2, 3, 100, 60), (3, 4, 100, 60), (4, 5, 100, 60), (5, 6, 100, 60), (6, 7, 100, 19)]
  | 7 => [(2, 1, 100, 5), (3, 2, 100, 5), (4, 3, 100, 5), (5, 4, 105, 5), (6, 10, 100, 40)]
  | 8 => [(0, 1, 102, 120)]
  | 10 => [(0, 1, 8, 0), (1, 3, 5, 0), (2, 6, 103, 6), (4, 7, 104, 6), (6, 8, 100, 4), (11, 9, 1, 0), (12, 15, 6, 0), (13, 23, 101, 4), (14, 24, 9, 0), (15, 25, 3, 0), (16, 28, 2, 0)]
  | 11 => layM
  | _ => []
def okc (ks : List Kd) (f : Int → Int) (i : Nat) (q : Kd) : Prop :=
  (q.1 < 100 → q.1 % 50 < 12 ∧ ∀ k, k < cN (q.1 % 50) → okf ks (cty (q.1 % 50) k) (f k)) ∧
  (q.1 < 50 → ∀ y ∈ lay q.1, f y.1 = i + y.2.1 ∧ ks[i + y.2.1]? = some y.2.2) ∧
  (q.1 = 100 → ∀ k : Nat, k < q.2 → r32 (f k)) ∧ (q.1 = 101 → ∀ k : Nat, k < q.2 → r64 (f k)) ∧ (q.1 = 102 → ∀ k : Nat, k < q.2 → -128 ≤ f k ∧ f k < 128) ∧
  (q.1 = 103 → ∀ k : Nat, k < q.2 → okr ks 7 (f k)) ∧ (q.1 = 104 → ∀ k : Nat, k < q.2 → okr ks 0 (f k)) ∧
  (q.1 = 105 → ∀ k : Nat, k < q.2 → f k = i + 1 + k ∧ ks[i + 1 + k]? = some (100, 40)) ∧ q.1 ≤ 105 ∧ q.2 < 65536
def WT (ks : List Kd) (h : Hh) : Prop := h (-1) 0 = ks.length ∧ ∀ (i : Nat) (q : Kd), ks[i]? = some q → okc ks (h i) i q
/-- a value as the frame has it: in its range, of its kind -/
def okv (G : Gx) (ks : List Kd) (v : PV) : Prop := match v with
  | .inl x => r32 x
  | .inr (.inl x) => r64 x
  | .inr (.inr (t, a, n)) => if t = 200 then a = G.2.2.2.2.1 ∧ n = G.2.2.2.2.2.1 else a = -1 ∨ (0 ≤ a ∧ ∃ q : Kd, ks[a.toNat]? = some q ∧ (q.2 : Int) = n ∧ q.1 = t)
/-- kinds grow at the end -/
def kle (ks ks' : List Kd) : Prop := ∀ (i : Nat) (q : Kd), ks[i]? = some q → ks'[i]? = some q
theorem kle.rf {ks : List Kd} : kle ks ks := fun _ _ h => h
theorem kle.tr {a b c : List Kd} (h1 : kle a b) (h2 : kle b c) : kle a c := fun i q h => h2 i q (h1 i q h)
theorem okv.up {G : Gx} {ks ks' : List Kd} (hk : kle ks ks') {v : PV} (h : okv G ks v) : okv G ks' v := by
  match v, h with
  | .inl x, h => exact h
  | .inr (.inl x), h => exact h
  | .inr (.inr (t, a, n)), h =>
    unfold okv at h ⊢
    dsimp only at h ⊢
    by_cases ht : t = 200
    · rw [if_pos ht] at h ⊢; exact h
    · rw [if_neg ht] at h ⊢
      rcases h with h | ⟨h0, q, h1, h2, h3⟩
      · exact Or.inl h
      · exact Or.inr ⟨h0, q, hk _ _ h1, h2, h3⟩
theorem kle.len {a b : List Kd} (h : kle a b) : a.length ≤ b.length := by
  apply Nat.le_of_not_lt
  intro hlt
  have h1 : a[b.length]? = some a[b.length] := List.getElem?_eq_getElem hlt
  have g1 := h _ _ h1
  rw [List.getElem?_eq_none (Nat.le_refl _)] at g1
  cases g1
theorem okr.up {ks ks' : List Kd} (hk : kle ks ks') {t : Nat} {x : Int} (h : okr ks t x) : okr ks' t x := by
  rcases h with h | ⟨h0, h1⟩
  · exact Or.inl h
  · exact Or.inr ⟨h0, hk _ _ h1⟩
/-- the arrays' classes -/
def tysL (G : Gx) : List (ClassId × FieldType) := [(G.2.2.1 100, .int), (G.2.2.1 101, .long), (G.2.2.1 102, .byte), (G.2.2.1 103, .object RX7), (G.2.2.1 104, .object RX0), (G.2.2.1 105, .array .int)]
def AOA (U : State) : Prop := (Cond.arrayOver (.array .int)).before #[] U = true
theorem AOA_spec {s : State} (h : AOA s) : ∃ comp c k, s.vm.findClass (FieldType.array .int).toString = some comp ∧ (s.vm.classes.findIdx? fun x => match x.kind with | .array component _ => component == comp | _ => false) = some c ∧ s.vm.classes[c]? = some k ∧ k.kind = .array comp (.array .int) ∧ s.vm.findClass ("[" ++ (FieldType.array .int).toString) = some c := by
  unfold AOA Cond.before at h
  simp only [Cond.holds, Cond.value, beq_iff_eq] at h
  cases hc : s.vm.findClass (FieldType.array .int).toString with
  | none => simp [hc] at h
  | some comp =>
    simp only [hc, Option.bind_some, Option.bind_eq_some_iff, Option.map_eq_some_iff] at h
    obtain ⟨c, hi, k, hk, hb⟩ := h
    obtain ⟨hlt, hp, -⟩ := Array.findIdx?_eq_some_iff_getElem.mp hi
    have hkk : s.vm.classes[c] = k := (Array.getElem?_eq_some_iff.mp hk).2
    rw [hkk] at hp
    cases hkind : k.kind with
    | array component ty =>
      rw [hkind] at hb hp
      simp at hb hp
      exact ⟨comp, c, k, rfl, hi, hk, by rw [hkind, hp, hb.1], hb.2⟩
    | _ => rw [hkind] at hb; simp at hb
theorem AOA.moved {u U : State} (hvm : u.vm.Alike U.vm) (h : AOA u) : AOA U := by
  obtain ⟨comp, c, k, h1, h2, h3, h4, h5⟩ := AOA_spec h
  obtain ⟨k', hk', he⟩ := hvm.2.2 _ _ h3
  have hb : U.vm.bare = u.vm.bare := by first | exact hvm.bare_eq | exact hvm.bare_eq.symm
  have e1 := va_idx_bare U.vm comp
  have e2 := va_idx_bare u.vm comp
  rw [hb] at e1
  have hi := (e1.symm.trans e2).trans h2
  have hkind : k'.kind = .array comp (.array .int) := by rw [he]; exact h4
  have f1 : U.vm.findClass (FieldType.array .int).toString = some comp := by rw [hvm.findClass]; exact h1
  have f2 : U.vm.findClass ("[" ++ (FieldType.array .int).toString) = some c := by rw [hvm.findClass]; exact h5
  unfold AOA Cond.before Cond.holds
  simp only [Cond.value]
  rw [f1, Option.bind_some]
  refine (congrArg (fun o : Option Nat => (o.bind (fun c => (U.vm.classes[c]?).map fun (k : Class) => match k.kind with | .array _ ty => decide (ty = FieldType.array .int) && decide (U.vm.findClass ("[" ++ (FieldType.array .int).toString) = some c) | _ => false) == some true)) hi).trans ?_
  simp [hk', hkind, f2]
/-- what of the tables goes along with every state -/
def KK (G : Gx) (s : State) : Prop := va_K G.2.1 vwCl (tysL G) s ∧ NWd s ∧ va_AO RX7 s ∧ va_AO RX0 s ∧ AOA s ∧ va_Nw (.castable "[I" "java/lang/Cloneable") s
theorem KK.warm {G : Gx} {s U : State} (hW : s.WarmedH U.vm) (h : KK G s) : KK G U :=
  ⟨va_K.moved hW.alike h.1, h.2.1.warm hW, va_AO.moved hW.alike h.2.2.1, va_AO.moved hW.alike h.2.2.2.1, h.2.2.2.2.1.moved hW.alike, va_Nw.warmC hW h.2.2.2.2.2⟩
theorem KK.same {G : Gx} {u U : State} (hvm : u.vm = U.vm) (h : KK G u) : KK G U := by
  have ha : u.vm.Alike U.vm := by rw [hvm]; exact Vm.Alike.refl _
  exact ⟨va_K.moved ha h.1, h.2.1.same hvm, va_AO.moved ha h.2.2.1, va_AO.moved ha h.2.2.2.1, h.2.2.2.2.1.moved ha, va_Nw.same rfl hvm h.2.2.2.2.2⟩
/-- answers -/
def rtv (b : Nat) (ret : Option FieldType) (r : Int) : Option Value := match ret with
  | none => none
  | some ty => some (fv b ty r)
def okret (ks : List Kd) (ret : Option FieldType) (r : Int) : Prop := match ret with
  | none => True
  | some ty => okf ks ty r
abbrev fre (G : Gx) : Nat → Prop := fun q => G.2.2.2.1 ≤ q
/-- what holds behind a method -/
def Qx (G : Gx) (ret : Option FieldType) (tk : List PV) (K : Int → Hh → Prop) (ks0 : List Kd) : Array Value → State → Outcome → State → Prop := fun _ st oc t =>
  (∃ (r : Int) (h : Hh) (ks : List Kd), oc = .returned (rtv G.2.2.2.1 ret r) ∧ K r h ∧ kle ks0 ks ∧ WT ks h ∧ okret ks ret r ∧ RepH G ks h t.heap ∧ ∀ v ∈ tk, okv G ks v) ∧ va_F (fre G) st t
/-- the fixed things of a method's run -/
def Cx (G : Gx) (M : MD) (p : Program) (s : State) (m : MethodId) (args : Array Value) (meth : Method) (c : Code) : Prop :=
  p.tables.exec = Jvm.exec ∧ c.code = M.2.1 ∧ meth.sig.returnType = M.2.2.2 ∧ c.maxLocals = M.2.2.1 ∧ s.vm.findClass M.1.cls = some m.cls ∧ (∀ w ∈ lw_good, w.before args s = true) ∧ meth.locks = false ∧ (M.1.name = "<init>" → meth.name = M.1.name) ∧ KK G s ∧ G.2.2.2.1 ≤ s.heap.size ∧ (M.1 = yL_law → va_X G.2.2.2.2.1 G.2.2.2.2.2.1 G.2.2.2.2.2.2 s s.heap ∧ G.2.2.2.2.1 < s.heap.size ∧ G.2.2.2.1 = s.heap.size)
def wsM (M : MD) : List Cond := Cond.code M.1 M.2.1 M.2.2.1 M.2.2.2 :: lw_good
/-- a method's contract -/
def CT (G : Gx) (M : MD) (rm : Room) (mc ms : Nat) (tk ps : List PV) (h : Hh) (K : Int → Hh → Prop) : Prop :=
  ∀ ks : List Kd, WT ks h → (∀ v ∈ ps, okv G ks v) → Met G.1 M.1 (wsM M) rm (va_Pc (ps.map (tv G.2.2.2.1)) (fun U => RepH G ks h U.heap ∧ KK G U ∧ G.2.2.2.1 ≤ U.heap.size)) (Qx G M.2.2.2 tk K ks) mc ms (fre G)
/-- a method on its way: at pc, with locals, stack and tokens -/
def PW (G : Gx) (M : MD) (rm : Room) (mc ms : Nat) (tk : List PV) (n0 : Int) (K : Int → Hh → Prop) (pc : Nat) (ls : List (Nat × PV)) (st kn : List PV) (cells slots : Nat) (h : Hh) : Prop :=
  ∀ (p : Program) (e : Env) (s : State) (m : MethodId) (args : Array Value) (below : List Frame) (meth : Method) (c : Code) (H : Heap) (locs : List Loc) (L : Array Slot) (ks ks0 : List Kd),
    Cx G M p s m args meth c → va_S (fre G) s.heap H locs → RepH G ks h H → WT ks h → lv_has L M.2.2.1 (ls.map fun q => (q.1, tv G.2.2.2.1 q.2)) → (∀ q ∈ ls, okv G ks q.2) → (∀ v ∈ st, okv G ks v) → (∀ v ∈ kn, okv G ks v) → kle ks0 ks → (ks0.length : Int) = n0 →
    W p G.1 e rm s m args below meth c H locs cells slots (MQ below (Qx G M.2.2.2 tk K ks0) args s mc ms (fre G)) (F0 m pc L (st.map (tv G.2.2.2.1)))
