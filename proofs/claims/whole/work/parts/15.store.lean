/-! reading and writing pure heaps against the machine's -/
def up (h : Hh) (a k x : Int) : Hh := fun p j => if p = a ∧ j = k then x else h p j
theorem up_ne {h : Hh} {a k x p : Int} (hp : p ≠ a) : up h a k x p = h p := by
  funext j
  show (if p = a ∧ j = k then x else h p j) = h p j
  rw [if_neg (fun q => hp q.1)]
theorem up_at {h : Hh} {a k x j : Int} : up h a k x a j = if j = k then x else h a j := by
  show (if a = a ∧ j = k then x else h a j) = _
  by_cases e : j = k
  · rw [if_pos ⟨rfl, e⟩, if_pos e]
  · rw [if_neg (fun q => e q.2), if_neg e]
theorem toNat_a {a : Int} (h : 0 ≤ a) : ((a.toNat : Nat) : Int) = a := Int.toNat_of_nonneg h
theorem ks_lt {ks : List Kd} {i : Nat} {q : Kd} (h : ks[i]? = some q) : i < ks.length := (List.getElem?_eq_some_iff.mp h).1
/-- another content of one cell -/
theorem RepH.set {G : Gx} {ks : List Kd} {h h' : Hh} {H H' : Heap} {i : Nat} {q : Kd} (hR : RepH G ks h H) (hq : ks[i]? = some q) (h1 : va_at G.2.1 vwCl (G.2.2.2.1 + i, ec G (h' i) q) H') (hz : H'.size = H.size) (ho : ∀ x, x ≠ G.2.2.2.1 + i → H'[x]? = H[x]?) (hh : ∀ j : Nat, j ≠ i → h' j = h j) : RepH G ks h' H' := by
  refine ⟨hz.trans hR.1, fun j q' hj => ?_⟩
  by_cases e : j = i
  · subst e
    cases hq.symm.trans hj
    exact h1
  · rw [hh j e]
    exact (hR.2 j q' hj).kept (ho _ (by show G.2.2.2.1 + j ≠ _; omega))
/-- kinds are kept: one cell's new content is right -/
theorem WT.set {ks : List Kd} {h h' : Hh} {i : Nat} {q : Kd} (hW : WT ks h) (hq : ks[i]? = some q) (h1 : okc ks (h' i) i q) (hh : ∀ j : Int, j ≠ i → h' j = h j) : WT ks h' := by
  refine ⟨?_, fun j q' hj => ?_⟩
  · rw [hh (-1) (by omega)]; exact hW.1
  · by_cases e : j = i
    · subst e
      cases hq.symm.trans hj
      exact h1
    · rw [hh j (by omega)]
      exact hW.2 j q' hj
/-- a field's new content -/
theorem okc.field {ks : List Kd} {f : Int → Int} {i : Nat} {q : Kd} (h : okc ks f i q) (hq : q.1 < 100) {k : Nat} {x : Int} (hx : okf ks (cty (q.1 % 50) k) x) (hl : q.1 < 50 → ∀ y ∈ lay q.1, y.1 ≠ k) : okc ks (fun j => if j = (k : Int) then x else f j) i q := by
  obtain ⟨a1, a2, a3, a4, a5, a6, a7, a8, a9, a10⟩ := h
  refine ⟨fun hq => ⟨(a1 hq).1, fun j hj => ?_⟩, fun hq => fun y hy => ?_, fun e => by omega, fun e => by omega, fun e => by omega, fun e => by omega, fun e => by omega, fun e => by omega, a9, a10⟩
  · by_cases e : j = k
    · subst e
      show okf ks _ (if (j : Int) = j then x else _)
      rw [if_pos rfl]; exact hx
    · show okf ks _ (if (j : Int) = k then x else _)
      rw [if_neg (by omega)]; exact (a1 hq).2 j hj
  · obtain ⟨b1, b2⟩ := a2 hq y hy
    refine ⟨?_, b2⟩
    show (if ((y.1 : Nat) : Int) = (k : Int) then x else _) = _
    rw [if_neg (by have := hl hq y hy; omega)]; exact b1
theorem ec_obj (G : Gx) (f : Int → Int) (q : Kd) (h : q.1 < 100) : ec G f q = .inr (q.1 % 50, (List.range (cN (q.1 % 50))).map (fun k => fv G.2.2.2.1 (cty (q.1 % 50) k) (f k))) := by
  unfold ec; rw [if_pos h]
theorem ec_arr (G : Gx) (f : Int → Int) (q : Kd) (h : ¬ q.1 < 100) : ec G f q = .inl (G.2.2.1 q.1, q.2, ar G.2.2.2.1 q.1 f) := by
  unfold ec; rw [if_neg h]
theorem vpV_map {N : Nat} (g : Nat → Value) {k : Nat} (hk : k < N) : vp_V ((List.range N).map g) k = g k := by
  unfold vp_V
  simp [hk]
theorem map_at {N : Nat} (g : Nat → Value) {k : Nat} (hk : k < N) : ((List.range N).map g)[k]? = some (g k) := by
  simp [hk]
/-- what a token says -/
theorem okv_ref {G : Gx} {ks : List Kd} {t : Nat} {a n : Int} (h : okv G ks (vr t a n)) (ht : t ≠ 200) (h0 : 0 ≤ a) : ∃ q : Kd, ks[a.toNat]? = some q ∧ (q.2 : Int) = n ∧ q.1 = t := by
  have h : (if t = 200 then _ else _) := h
  rw [if_neg ht] at h
  rcases h with h | ⟨-, h⟩
  · omega
  · exact h
theorem tv_ref (b : Nat) {t : Nat} {a n : Int} (ht : t ≠ 200) (h0 : 0 ≤ a) : tv b (vr t a n) = .ref (b + a.toNat) := by
  show (if t = 200 then _ else rv b a) = _
  rw [if_neg ht]
  unfold rv
  rw [if_neg (by omega)]
theorem okv_mk {G : Gx} {ks : List Kd} {t m : Nat} {a n : Int} (ht : t ≠ 200) (h0 : 0 ≤ a) (hk : ks[a.toNat]? = some (t, m)) (hn : (m : Int) = n) : okv G ks (vr t a n) := by
  show (if t = 200 then _ else _)
  rw [if_neg ht]
  exact Or.inr ⟨h0, _, hk, hn, rfl⟩
/-- a field as a value -/
def gpv (ty : FieldType) (x : Int) : PV := match ty with
  | .long => vl x
  | .object C => vr (ccode C) x 0
  | .array _ => vr 999 x 0
  | _ => vi x
theorem ccode_lt (C : String) : ccode C < 50 := by
  unfold ccode
  repeat' split
  all_goals omega
theorem gpv_tv (b : Nat) (ty : FieldType) (x : Int) : tv b (gpv ty x) = fv b ty x := by
  cases ty with
  | object C =>
    show (if ccode C = 200 then _ else rv b x) = rv b x
    rw [if_neg (by have := ccode_lt C; omega)]
  | array t => rfl
  | _ => rfl
def isA (ty : FieldType) : Bool := match ty with
  | .array _ => true
  | _ => false
theorem gpv_ok {G : Gx} {ks : List Kd} {ty : FieldType} (hty : isA ty = false) {x : Int} (h : okf ks ty x) : okv G ks (gpv ty x) := by
  cases ty with
  | object C =>
    show (if ccode C = 200 then _ else _)
    rw [if_neg (by have := ccode_lt C; omega)]
    rcases h with h | ⟨h0, h1⟩
    · exact Or.inl h
    · exact Or.inr ⟨h0, _, h1, rfl, rfl⟩
  | array t => cases hty
  | _ => exact h
/-- names for pure values and heaps on the way -/
def vb (e : Int) (f : Int → Prop) : Prop := f e
def hb (e : Hh) (f : Hh → Prop) : Prop := f e
theorem vb_e {e : Int} {f : Int → Prop} (h : vb e f) : f e := h
theorem hb_e {e : Hh} {f : Hh → Prop} (h : hb e f) : f e := h
/-- how many rounds a loop may take -/
def NF : Nat := 20000
theorem lc_lt (x y : Int) : (if x < y then (-1 : Int) else if x = y then 0 else 1) < 0 ↔ x < y := by (repeat' split) <;> omega
theorem lc_ge (x y : Int) : (if x < y then (-1 : Int) else if x = y then 0 else 1) ≥ 0 ↔ x ≥ y := by (repeat' split) <;> omega
theorem lc_gt (x y : Int) : (if x < y then (-1 : Int) else if x = y then 0 else 1) > 0 ↔ x > y := by (repeat' split) <;> omega
theorem lc_le (x y : Int) : (if x < y then (-1 : Int) else if x = y then 0 else 1) ≤ 0 ↔ x ≤ y := by (repeat' split) <;> omega
theorem lc_eq (x y : Int) : (if x < y then (-1 : Int) else if x = y then 0 else 1) = 0 ↔ x = y := by (repeat' split) <;> omega
theorem lc_ne (x y : Int) : (if x < y then (-1 : Int) else if x = y then 0 else 1) ≠ 0 ↔ x ≠ y := by (repeat' split) <;> omega
