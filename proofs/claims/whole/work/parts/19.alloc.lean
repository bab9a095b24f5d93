/-! rules of PW, 6: new cells -/
def nw (h : Hh) (f : Int → Int) : Hh := fun p j => if p = h (-1) 0 then f j else if p = -1 ∧ j = 0 then h (-1) 0 + 1 else h p j
theorem nw_old {h : Hh} {f : Int → Int} {p : Int} (h1 : p ≠ h (-1) 0) (h2 : p ≠ -1) : nw h f p = h p := by
  funext j
  show (if p = h (-1) 0 then f j else if p = -1 ∧ j = 0 then h (-1) 0 + 1 else h p j) = _
  rw [if_neg h1, if_neg (fun q => h2 q.1)]
theorem nw_new {h : Hh} {f : Int → Int} {p : Int} (h1 : p = h (-1) 0) : nw h f p = f := by
  funext j
  show (if p = h (-1) 0 then f j else _) = _
  rw [if_pos h1]
theorem nw_sz {h : Hh} {f : Int → Int} (h0 : 0 ≤ h (-1) 0) : nw h f (-1) 0 = h (-1) 0 + 1 := by
  show (if (-1 : Int) = h (-1) 0 then f 0 else if (-1 : Int) = -1 ∧ (0 : Int) = 0 then h (-1) 0 + 1 else _) = _
  rw [if_neg (by omega), if_pos ⟨rfl, rfl⟩]
theorem okf.up {ks ks' : List Kd} (hk : kle ks ks') {ty : FieldType} {x : Int} (h : okf ks ty x) : okf ks' ty x := by
  cases ty with
  | object C => exact okr.up hk h
  | _ => exact h
theorem okc.up {ks ks' : List Kd} (hk : kle ks ks') {f : Int → Int} {i : Nat} {q : Kd} (h : okc ks f i q) : okc ks' f i q := by
  obtain ⟨a1, a2, a3, a4, a5, a6, a7, a8, a9, a10⟩ := h
  exact ⟨fun e => ⟨(a1 e).1, fun k hk2 => ((a1 e).2 k hk2).up hk⟩, fun e y hy => ⟨(a2 e y hy).1, hk _ _ (a2 e y hy).2⟩, a3, a4, a5, fun e k hk2 => (a6 e k hk2).up hk, fun e k hk2 => (a7 e k hk2).up hk, fun e k hk2 => ⟨(a8 e k hk2).1, hk _ _ (a8 e k hk2).2⟩, a9, a10⟩
theorem kle_app (ks l : List Kd) : kle ks (ks ++ l) := fun i q h => by
  rw [List.getElem?_append_left (ks_lt h)]; exact h
/-- one more cell -/
theorem grow {G : Gx} {ks : List Kd} {h : Hh} {H H1 : Heap} {q : Kd} {f : Int → Int} (hR : RepH G ks h H) (hW : WT ks h) (z1 : H1.size = H.size + 1) (o1 : ∀ x, x < H.size → H1[x]? = H[x]?) (hat : va_at G.2.1 vwCl (H.size, ec G f q) H1) (hok : okc (ks ++ [q]) f ks.length q) : RepH G (ks ++ [q]) (nw h f) H1 ∧ WT (ks ++ [q]) (nw h f) := by
  have hsz := hW.1
  refine ⟨⟨?_, fun i q' hi => ?_⟩, ?_, fun i q' hi => ?_⟩
  · rw [z1, hR.1, List.length_append]; rfl
  · by_cases e : i < ks.length
    · rw [List.getElem?_append_left e] at hi
      rw [nw_old (by omega) (by omega)]
      exact (hR.2 i q' hi).kept (o1 _ (by show G.2.2.2.1 + i < _; rw [hR.1]; omega))
    · have hlt := ks_lt hi
      rw [List.length_append] at hlt
      have e2 : i = ks.length := by simp at hlt; omega
      subst e2
      rw [List.getElem?_append_right (Nat.le_refl _), Nat.sub_self] at hi
      cases hi
      rw [nw_new (by omega)]
      rw [hR.1] at hat
      exact hat
  · rw [nw_sz (by omega), hsz, List.length_append]; rfl
  · by_cases e : i < ks.length
    · rw [List.getElem?_append_left e] at hi
      rw [nw_old (by omega) (by omega)]
      exact (hW.2 i q' hi).up (kle_app _ _)
    · have hlt := ks_lt hi
      rw [List.length_append] at hlt
      have e2 : i = ks.length := by simp at hlt; omega
      subst e2
      rw [List.getElem?_append_right (Nat.le_refl _), Nat.sub_self] at hi
      cases hi
      rw [nw_new (by omega)]
      exact hok
theorem va_S.more {G : Gx} {H0 H H1 : Heap} {locs : List Loc} (hS : va_S (fre G) H0 H locs) (z : H.size ≤ H1.size) (o1 : ∀ x, x < H.size → H1[x]? = H[x]?) : va_S (fre G) H0 H1 locs :=
  ⟨Nat.le_trans hS.1 z, fun x h1 h2 => (o1 x (Nat.lt_of_lt_of_le h1 hS.1)).trans (hS.2.1 x h1 h2), hS.2.2⟩
/-- what a new object's fields hold -/
def dfv (ty : FieldType) : Int := match ty with
  | .object _ => -1
  | .array _ => -1
  | _ => 0
def dfl (c : Nat) : Int → Int := fun k => dfv (cty c k.toNat)
theorem dfl_at (c k : Nat) : dfl c k = dfv (cty c k) := by
  unfold dfl
  rw [show ((k : Int)).toNat = k by omega]
theorem dfv_def (b : Nat) (ty : FieldType) (h1 : ty ≠ .float) (h2 : ty ≠ .double) : fv b ty (dfv ty) = defaultValue ty := by
  cases ty with
  | float => exact absurd rfl h1
  | double => exact absurd rfl h2
  | _ => rfl
theorem dfl_def (b c k : Nat) (h1 : cty c k ≠ .float ∧ cty c k ≠ .double) : fv b (cty c k) (dfl c k) = defaultValue (cty c k) := by
  rw [dfl_at]
  exact dfv_def b _ h1.1 h1.2
section PR6
variable {G : Gx} {M : MD} {rm : Room} {mc ms : Nat} {tk : List PV} {n0 : Int} {K : Int → Hh → Prop} {pc : Nat} {ls : List (Nat × PV)} {st kn : List PV} {cells slots : Nat} {h : Hh}
theorem okL_up {ks ks' : List Kd} (hk : kle ks ks') (h1 : ∀ q ∈ ls, okv G ks q.2) : ∀ q ∈ ls, okv G ks' q.2 := fun q hq => (h1 q hq).up hk
theorem okS_up {ks ks' : List Kd} {l : List PV} (hk : kle ks ks') (h1 : ∀ v ∈ l, okv G ks v) : ∀ v ∈ l, okv G ks' v := fun v hv => (h1 v hv).up hk
theorem app_last (ks : List Kd) (q : Kd) : (ks ++ [q])[ks.length]? = some q := by
  rw [List.getElem?_append_right (Nat.le_refl _), Nat.sub_self]; rfl
theorem cty_nofd {c k : Nat} (hc : c < 12) (hk : k < cN c) : cty c k ≠ .float ∧ cty c k ≠ .double := by
  have H : ∀ c, c < 12 → ∀ k, k < cN c → cty c k ≠ .float ∧ cty c k ≠ .double := by decide +kernel
  exact H c hc k hk
/-- new C -/
theorem p_new {idx c : Nat} {z : Int} (hd : decode M.2.1 pc = .ok (.new idx, 3)) (hc : c < 12) (hcl : Cond.classLink M.1.cls idx (cR c) ∈ lw_good) (hin : Cond.instantiable (cR c) (cN c) ∈ lw_good) (hini : Cond.initialized (cR c) ∈ lw_good) (hz : h (-1) 0 = z) (hf : cells + 1 ≤ rm.cells ∧ slots + cN c ≤ rm.slots)
    (kk : PW G M rm mc ms tk n0 K (pc + 3) ls (vr (c + 50) z 0 :: st) kn (cells + 1) (slots + cN c) (nw h (dfl c))) : PW G M rm mc ms tk n0 K pc ls st kn cells slots h := by
  intro p e s m args below meth c0 H locs L ks ks0 C hS hR hW hl hol hos hon hle hn0
  have hts := C.2.2.2.2.2.1
  have hK := C.2.2.2.2.2.2.2.2.1.1
  have hKn := hK.1 c _ (cl_at hc)
  have hsz := hW.1
  refine W.newcK C.1 C.2.1 C.2.2.2.2.1 (hts _ hcl) (hts _ hin) (hts _ hini) rfl hd hf.1 hf.2 hKn.2.1 rfl fun H1 kC hkC e1 z1 o1 => ?_
  have hmod : (c + 50) % 50 = c := by omega
  have hok : okc (ks ++ [(c + 50, 0)]) (dfl c) ks.length (c + 50, 0) := by
    refine ⟨fun _ => ⟨by show (c + 50) % 50 < 12; omega, fun k hk => ?_⟩, fun e => by dsimp only at e; omega, fun e => by dsimp only at e; omega, fun e => by dsimp only at e; omega, fun e => by dsimp only at e; omega, fun e => by dsimp only at e; omega, fun e => by dsimp only at e; omega, fun e => by dsimp only at e; omega, by show c + 50 ≤ 105; omega, by show 0 < 65536; omega⟩
    dsimp only at hk ⊢
    rw [hmod] at hk ⊢
    rw [dfl_at]
    have h1 := cty_nofd hc hk
    unfold dfv
    cases hty : cty c k with
    | object C => exact Or.inl rfl
    | array t => show (-1 : Int) ≤ -1; omega
    | float => exact absurd hty h1.1
    | double => exact absurd hty h1.2
    | long => show r64 0; unfold r64; omega
    | _ => show r32 0; unfold r32; omega
  have hat : va_at G.2.1 vwCl (H.size, ec G (dfl c) (c + 50, 0)) H1 := by
    rw [ec_obj _ _ _ (by show c + 50 < 100; omega)]
    dsimp only
    rw [hmod]
    refine ⟨_, cl_at hc, (u_born (cty c) hts (ciw hc) hKn hkC e1 (cty_ok hc)).to (fun k hk => ?_)⟩
    rw [vpV_map _ hk]
    exact (dfl_def G.2.2.2.1 c k (cty_nofd hc hk)).symm
  obtain ⟨hR', hW'⟩ := grow (q := (c + 50, 0)) (f := dfl c) hR hW z1 o1 hat hok
  have hk := kle_app ks [(c + 50, 0)]
  have htok : okv G (ks ++ [(c + 50, 0)]) (vr (c + 50) z 0) := okv_mk (by omega) (by omega) (by rw [show z.toNat = ks.length by omega]; exact app_last _ _) rfl
  have hg := kk p e s m args below meth c0 H1 locs L _ ks0 C (hS.more (by omega) o1) hR' hW' hl (okL_up hk hol) (List.forall_mem_cons.mpr ⟨htok, okS_up hk hos⟩) (okS_up hk hon) (hle.tr hk) hn0
  rw [List.map_cons, tv_ref _ (by omega) (by omega)] at hg
  rw [show G.2.2.2.1 + z.toNat = H.size by rw [hR.1]; omega] at hg
  exact hg
/-- new int[n], long[n], byte[n] -/
theorem p_newa {t ti : Nat} {ty : FieldType} {at_ : ArrayType} {n z : Int} (hd : decode M.2.1 pc = .ok (.newarray at_, 2)) (hty : newarray.typeOf at_ = ty) (hcase : (t = 100 ∧ ty = .int) ∨ (t = 101 ∧ ty = .long) ∨ (t = 102 ∧ ty = .byte)) (ht : (tysL G)[ti]? = some (G.2.2.1 t, ty)) (hac : Cond.arrayClass ty ∈ lw_good) (hn : 0 ≤ n ∧ n < 65536) (hz : h (-1) 0 = z) (hf : cells + 1 ≤ rm.cells ∧ slots + n.toNat ≤ rm.slots)
    (kk : PW G M rm mc ms tk n0 K (pc + 2) ls (vr t z n :: st) (vr t z n :: kn) (cells + 1) (slots + n.toNat) (nw h (fun _ => 0))) : PW G M rm mc ms tk n0 K pc ls (vi n :: st) kn cells slots h := by
  intro p e s m args below meth c0 H locs L ks ks0 C hS hR hW hl hol hos hon hle hn0
  have hst := (List.forall_mem_cons.mp hos).2
  have hts := C.2.2.2.2.2.1
  have hK := C.2.2.2.2.2.2.2.2.1.1
  have hsz := hW.1
  have en : (i32 n).toInt = n := i32_toInt ⟨by omega, by omega⟩
  have hcl : (i32 n).toNatClampNeg = n.toNat := by show (i32 n).toInt.toNat = _; rw [en]
  have hnn : ¬ i32 n < 0 := by
    intro q
    have h2 := (i32_lt (x := n) (y := 0) ⟨by omega, by omega⟩ (by unfold r32; omega)).mp q
    omega
  subst hty
  have hbytes : n.toNat * componentBytes (newarray.typeOf at_) ≤ 536870912 := by
    rcases hcase with ⟨-, e1⟩ | ⟨-, e1⟩ | ⟨-, e1⟩ <;> rw [e1]
    · show n.toNat * 4 ≤ _; omega
    · show n.toNat * 8 ≤ _; omega
    · show n.toNat * 1 ≤ _; omega
  refine va_newaK C.1 C.2.1 (hts _ hac) rfl hd rfl hnn hcl hbytes hf.1 hf.2 rfl fun H1 cA e1 z1 o1 hAr hNm => ?_
  have hcA : cA = G.2.2.1 t := by
    have h2 := (hK.2 ti _ ht).2
    rcases hcase with ⟨-, e2⟩ | ⟨-, e2⟩ | ⟨-, e2⟩ <;> (rw [e2] at h2 hNm; exact Option.some.inj (hNm.symm.trans h2))
  subst hcA
  have h50 : ¬ t < 100 := by omega
  have hok : okc (ks ++ [(t, n.toNat)]) (fun _ => 0) ks.length (t, n.toNat) := by
    refine ⟨fun e => absurd e h50, fun e => by dsimp only at e; omega, fun _ _ _ => by show r32 0; unfold r32; omega, fun _ _ _ => by show r64 0; unfold r64; omega, fun _ _ _ => by show (-128 : Int) ≤ 0 ∧ (0 : Int) < 128; omega, fun e => by dsimp only at e; omega, fun e => by dsimp only at e; omega, fun e => by dsimp only at e; omega, by show t ≤ 105; omega, by show n.toNat < 65536; omega⟩
  have hat : va_at G.2.1 vwCl (H.size, ec G (fun _ => 0) (t, n.toNat)) H1 := by
    rw [ec_arr _ _ _ h50]
    show H1[H.size]? = some (vp_cell _ _)
    rw [e1]
    rcases hcase with ⟨e3, e2⟩ | ⟨e3, e2⟩ | ⟨e3, e2⟩ <;> subst e3 <;> rw [e2] <;> rfl
  obtain ⟨hR', hW'⟩ := grow (q := (t, n.toNat)) (f := fun _ => 0) hR hW z1 o1 hat hok
  have hk := kle_app ks [(t, n.toNat)]
  have htok : okv G (ks ++ [(t, n.toNat)]) (vr t z n) := okv_mk (by omega) (by omega) (by rw [show z.toNat = ks.length by omega]; exact app_last _ _) (by omega)
  have hg := kk p e s m args below meth c0 H1 locs L _ ks0 C (hS.more (by omega) o1) hR' hW' hl (okL_up hk hol) (List.forall_mem_cons.mpr ⟨htok, okS_up hk hst⟩) (List.forall_mem_cons.mpr ⟨htok, okS_up hk hon⟩) (hle.tr hk) hn0
  rw [List.map_cons, tv_ref _ (by omega) (by omega)] at hg
  rw [show G.2.2.2.1 + z.toNat = H.size by rw [hR.1]; omega] at hg
  exact hg
/-- new RX7[n] -/
theorem p_anew7 {idx : Nat} {n z : Int} (hd : decode M.2.1 pc = .ok (.anewarray idx, 3)) (hcl : Cond.classLink M.1.cls idx RX7 ∈ lw_good) (hn : 0 ≤ n ∧ n < 65536) (hz : h (-1) 0 = z) (hf : cells + 1 ≤ rm.cells ∧ slots + n.toNat ≤ rm.slots)
    (kk : PW G M rm mc ms tk n0 K (pc + 3) ls (vr 103 z n :: st) (vr 103 z n :: kn) (cells + 1) (slots + n.toNat) (nw h (fun _ => -1))) : PW G M rm mc ms tk n0 K pc ls (vi n :: st) kn cells slots h := by
  intro p e s m args below meth c0 H locs L ks ks0 C hS hR hW hl hol hos hon hle hn0
  have hst := (List.forall_mem_cons.mp hos).2
  have hts := C.2.2.2.2.2.1
  have hK := C.2.2.2.2.2.2.2.2.1.1
  have hsz := hW.1
  have en : (i32 n).toInt = n := i32_toInt ⟨by omega, by omega⟩
  have hclm : (i32 n).toNatClampNeg = n.toNat := by show (i32 n).toInt.toNat = _; rw [en]
  have hnn : ¬ i32 n < 0 := by
    intro q
    have h2 := (i32_lt (x := n) (y := 0) ⟨by omega, by omega⟩ (by unfold r32; omega)).mp q
    omega
  refine W.anew C.1 C.2.1 C.2.2.2.2.1 (hts _ hcl) (va_AO.use C.2.2.2.2.2.2.2.2.1.2.2.1) rfl hd rfl hnn (by rw [hclm]; omega) hf.1 (by rw [hclm]; exact hf.2) fun cA kA comp f1 f2 f3 f4 => ?_
  rw [hclm]
  generalize hH1 : H.push ({ cls := cA, slots := Array.replicate n.toNat .null, vm := .none } : Cell) = H1
  have z1 : H1.size = H.size + 1 := by rw [← hH1, Array.size_push]
  have e1 : H1[H.size]? = some (arrV cA n.toNat (fun _ => .null)) := by rw [← hH1, Array.getElem?_push_size, ← arrV_new]
  have o1 : ∀ q : Nat, q < H.size → H1[q]? = H[q]? := fun q hq => by rw [← hH1, Array.getElem?_push, if_neg (Nat.ne_of_lt hq)]
  have hcA : cA = G.2.2.1 103 := by
    obtain ⟨kA', comp', k1, k2, k3, k4⟩ := (hK.2 3 _ rfl).2
    exact Option.some.inj (f1.symm.trans k4)
  subst hcA
  have hok : okc (ks ++ [(103, n.toNat)]) (fun _ => -1) ks.length (103, n.toNat) := by
    refine ⟨fun e => by dsimp only at e; omega, fun e => by dsimp only at e; omega, fun e => by dsimp only at e; omega, fun e => by dsimp only at e; omega, fun e => by dsimp only at e; omega, fun _ _ _ => Or.inl rfl, fun _ _ _ => Or.inl rfl, fun e => by dsimp only at e; omega, by show 103 ≤ 105; omega, by show n.toNat < 65536; omega⟩
  have hat : va_at G.2.1 vwCl (H.size, ec G (fun _ => -1) (103, n.toNat)) H1 := by
    rw [ec_arr _ _ _ (by show ¬ 103 < 100; omega)]
    show H1[H.size]? = some (vp_cell _ _)
    rw [e1]
    rfl
  obtain ⟨hR', hW'⟩ := grow (q := (103, n.toNat)) (f := fun _ => -1) hR hW z1 o1 hat hok
  have hk := kle_app ks [(103, n.toNat)]
  have htok : okv G (ks ++ [(103, n.toNat)]) (vr 103 z n) := okv_mk (by omega) (by omega) (by rw [show z.toNat = ks.length by omega]; exact app_last _ _) (by omega)
  have hg := kk p e s m args below meth c0 H1 locs L _ ks0 C (hS.more (by omega) o1) hR' hW' hl (okL_up hk hol) (List.forall_mem_cons.mpr ⟨htok, okS_up hk hst⟩) (List.forall_mem_cons.mpr ⟨htok, okS_up hk hon⟩) (hle.tr hk) hn0
  rw [List.map_cons, tv_ref _ (by omega) (by omega)] at hg
  rw [show G.2.2.2.1 + z.toNat = H.size by rw [hR.1]; omega] at hg
  exact hg
/-- a cell into RX7[] -/
theorem p_aast7 {a n i x : Int} (hd : decode M.2.1 pc = .ok (.aastore, 1)) (h0 : 0 ≤ a) (hi : 0 ≤ i ∧ i < n) (hx0 : 0 ≤ x) (kk : PW G M rm mc ms tk n0 K (pc + 1) ls st kn cells slots (up h a i x)) : PW G M rm mc ms tk n0 K pc ls (vr 7 x 0 :: vi i :: vr 103 a n :: st) kn cells slots h := by
  intro p e s m args below meth c0 H locs L ks ks0 C hS hR hW hl hol hos hon hle hn0
  have hvx := (List.forall_mem_cons.mp hos).1
  have hva := (List.forall_mem_cons.mp (List.forall_mem_cons.mp (List.forall_mem_cons.mp hos).2).2).1
  have hst := (List.forall_mem_cons.mp (List.forall_mem_cons.mp (List.forall_mem_cons.mp hos).2).2).2
  obtain ⟨N, hN, g1, g2, g3⟩ := arr_of hR hW (by omega) (by omega) h0 hva
  obtain ⟨hin, hcl⟩ := ix_cl hi.1 (by rw [hN]; exact hi.2) (g2.2.2.2.2.2.2.2.2.2)
  have hlt : i.toNat < N := by omega
  obtain ⟨q, w1, w2, w3, w4, w5, w6, r0, w7, cellV, v1, v2, v3, v4⟩ := cell_of hR hW (Or.inl rfl) (by omega) hx0 hvx
  have hK := C.2.2.2.2.2.2.2.2.1.1
  have hcls := (hK.1 7 _ (cl_at (by omega))).2
  obtain ⟨kA, comp, k1, k2, k3, -⟩ := (hK.2 3 _ rfl).2
  have hcomp : comp = G.2.1.1 7 := Option.some.inj (k3.symm.trans hcls.1)
  subst hcomp
  obtain ⟨kC, hkC, -⟩ := hcls.2
  have hi0 : ¬ i32 i < 0 := fun q => hin (Or.inl q)
  rw [List.map_cons, List.map_cons, List.map_cons, tv_ref _ (by omega) h0, tv_ref _ (by omega) hx0]
  refine W.aast C.1 C.2.1 g3 (fun q h => by cases h) (fun h => by cases h) k1 k2 rfl hkC ⟨hi0, by show _ < (arrV _ _ _).slots.size; rw [arrV_size, hcl]; exact hlt⟩ v1 (fun q h => by rw [v3] at h; cases h) (by rw [v2]; exact hkC) (by rw [v2]; exact va_assign hcls) rfl rfl hd fun H' e1 z oq => ?_
  have hR' : RepH G ks (up h a i x) H' := by
    refine hR.set g1 ?_ z oq (fun j hj => up_ne (by have := toNat_a h0; omega))
    rw [ec_arr _ _ _ (by show ¬ 103 < 100; omega)]
    show H'[_]? = some (vp_cell _ _)
    rw [e1]
    show some ((arrV _ _ (fun j => va_rf (ro G.2.2.2.1 (h a (j : Int))))).setSlot _ _) = some (arrV _ _ (fun j => va_rf (ro G.2.2.2.1 (up h a i x (a.toNat : Nat) (j : Int)))))
    rw [hcl, arrV_store]
    congr 2
    funext j
    rw [toNat_a h0, rv_ro]
    unfold updV
    by_cases hj : j = i.toNat
    · rw [if_pos hj, up_at, if_pos (by omega)]
      unfold rv
      rw [if_neg (by omega)]
    · rw [if_neg hj, up_at, if_neg (by omega)]; exact rv_ro _ _
  have hW' : WT ks (up h a i x) := by
    refine hW.set g1 ?_ (fun j hj => up_ne (by have := toNat_a h0; omega))
    have e5 : up h a i x (a.toNat : Nat) = fun j => if j = i then x else h a j := by
      rw [toNat_a h0]; funext j; exact up_at
    rw [e5]
    have hr : okr ks 7 x := by
      obtain ⟨q1, q2⟩ := q
      dsimp only at w4 w5
      subst w4; subst w5
      exact Or.inr ⟨hx0, w1⟩
    exact g2.elem (by omega) (by omega) hi.1 (fun e => by omega) (fun e => by omega) (fun e => by omega) (fun e => hr) (fun e => by omega)
  have hS' := hS.put (k := (i32 i).toNatClampNeg) z oq (show fre G _ from Nat.le_add_right _ _)
  exact kk p e s m args below meth c0 H' _ L ks ks0 C hS' hR' hW' hl hol hst hon hle hn0
/-- new RX0[n] -/
theorem p_anew0 {idx : Nat} {n z : Int} (hd : decode M.2.1 pc = .ok (.anewarray idx, 3)) (hcl : Cond.classLink M.1.cls idx RX0 ∈ lw_good) (hn : 0 ≤ n ∧ n < 65536) (hz : h (-1) 0 = z) (hf : cells + 1 ≤ rm.cells ∧ slots + n.toNat ≤ rm.slots)
    (kk : PW G M rm mc ms tk n0 K (pc + 3) ls (vr 104 z n :: st) (vr 104 z n :: kn) (cells + 1) (slots + n.toNat) (nw h (fun _ => -1))) : PW G M rm mc ms tk n0 K pc ls (vi n :: st) kn cells slots h := by
  intro p e s m args below meth c0 H locs L ks ks0 C hS hR hW hl hol hos hon hle hn0
  have hst := (List.forall_mem_cons.mp hos).2
  have hts := C.2.2.2.2.2.1
  have hK := C.2.2.2.2.2.2.2.2.1.1
  have hsz := hW.1
  have en : (i32 n).toInt = n := i32_toInt ⟨by omega, by omega⟩
  have hclm : (i32 n).toNatClampNeg = n.toNat := by show (i32 n).toInt.toNat = _; rw [en]
  have hnn : ¬ i32 n < 0 := by
    intro q
    have h2 := (i32_lt (x := n) (y := 0) ⟨by omega, by omega⟩ (by unfold r32; omega)).mp q
    omega
  refine W.anew C.1 C.2.1 C.2.2.2.2.1 (hts _ hcl) (va_AO.use C.2.2.2.2.2.2.2.2.1.2.2.2.1) rfl hd rfl hnn (by rw [hclm]; omega) hf.1 (by rw [hclm]; exact hf.2) fun cA kA comp f1 f2 f3 f4 => ?_
  rw [hclm]
  generalize hH1 : H.push ({ cls := cA, slots := Array.replicate n.toNat .null, vm := .none } : Cell) = H1
  have z1 : H1.size = H.size + 1 := by rw [← hH1, Array.size_push]
  have e1 : H1[H.size]? = some (arrV cA n.toNat (fun _ => .null)) := by rw [← hH1, Array.getElem?_push_size, ← arrV_new]
  have o1 : ∀ q : Nat, q < H.size → H1[q]? = H[q]? := fun q hq => by rw [← hH1, Array.getElem?_push, if_neg (Nat.ne_of_lt hq)]
  have hcA : cA = G.2.2.1 104 := by
    obtain ⟨kA', comp', k1, k2, k3, k4⟩ := (hK.2 4 _ rfl).2
    exact Option.some.inj (f1.symm.trans k4)
  subst hcA
  have hok : okc (ks ++ [(104, n.toNat)]) (fun _ => -1) ks.length (104, n.toNat) := by
    refine ⟨fun e => by dsimp only at e; omega, fun e => by dsimp only at e; omega, fun e => by dsimp only at e; omega, fun e => by dsimp only at e; omega, fun e => by dsimp only at e; omega, fun _ _ _ => Or.inl rfl, fun _ _ _ => Or.inl rfl, fun e => by dsimp only at e; omega, by show 104 ≤ 105; omega, by show n.toNat < 65536; omega⟩
  have hat : va_at G.2.1 vwCl (H.size, ec G (fun _ => -1) (104, n.toNat)) H1 := by
    rw [ec_arr _ _ _ (by show ¬ 104 < 100; omega)]
    show H1[H.size]? = some (vp_cell _ _)
    rw [e1]
    rfl
  obtain ⟨hR', hW'⟩ := grow (q := (104, n.toNat)) (f := fun _ => -1) hR hW z1 o1 hat hok
  have hk := kle_app ks [(104, n.toNat)]
  have htok : okv G (ks ++ [(104, n.toNat)]) (vr 104 z n) := okv_mk (by omega) (by omega) (by rw [show z.toNat = ks.length by omega]; exact app_last _ _) (by omega)
  have hg := kk p e s m args below meth c0 H1 locs L _ ks0 C (hS.more (by omega) o1) hR' hW' hl (okL_up hk hol) (List.forall_mem_cons.mpr ⟨htok, okS_up hk hst⟩) (List.forall_mem_cons.mpr ⟨htok, okS_up hk hon⟩) (hle.tr hk) hn0
  rw [List.map_cons, tv_ref _ (by omega) (by omega)] at hg
  rw [show G.2.2.2.1 + z.toNat = H.size by rw [hR.1]; omega] at hg
  exact hg
/-- a cell into RX0[] -/
theorem p_aast0 {a n i x : Int} (hd : decode M.2.1 pc = .ok (.aastore, 1)) (h0 : 0 ≤ a) (hi : 0 ≤ i ∧ i < n) (hx0 : 0 ≤ x) (kk : PW G M rm mc ms tk n0 K (pc + 1) ls st kn cells slots (up h a i x)) : PW G M rm mc ms tk n0 K pc ls (vr 0 x 0 :: vi i :: vr 104 a n :: st) kn cells slots h := by
  intro p e s m args below meth c0 H locs L ks ks0 C hS hR hW hl hol hos hon hle hn0
  have hvx := (List.forall_mem_cons.mp hos).1
  have hva := (List.forall_mem_cons.mp (List.forall_mem_cons.mp (List.forall_mem_cons.mp hos).2).2).1
  have hst := (List.forall_mem_cons.mp (List.forall_mem_cons.mp (List.forall_mem_cons.mp hos).2).2).2
  obtain ⟨N, hN, g1, g2, g3⟩ := arr_of hR hW (by omega) (by omega) h0 hva
  obtain ⟨hin, hcl⟩ := ix_cl hi.1 (by rw [hN]; exact hi.2) (g2.2.2.2.2.2.2.2.2.2)
  have hlt : i.toNat < N := by omega
  obtain ⟨q, w1, w2, w3, w4, w5, w6, r0, w7, cellV, v1, v2, v3, v4⟩ := cell_of hR hW (Or.inl rfl) (by omega) hx0 hvx
  have hK := C.2.2.2.2.2.2.2.2.1.1
  have hcls := (hK.1 0 _ (cl_at (by omega))).2
  obtain ⟨kA, comp, k1, k2, k3, -⟩ := (hK.2 4 _ rfl).2
  have hcomp : comp = G.2.1.1 0 := Option.some.inj (k3.symm.trans hcls.1)
  subst hcomp
  obtain ⟨kC, hkC, -⟩ := hcls.2
  have hi0 : ¬ i32 i < 0 := fun q => hin (Or.inl q)
  rw [List.map_cons, List.map_cons, List.map_cons, tv_ref _ (by omega) h0, tv_ref _ (by omega) hx0]
  refine W.aast C.1 C.2.1 g3 (fun q h => by cases h) (fun h => by cases h) k1 k2 rfl hkC ⟨hi0, by show _ < (arrV _ _ _).slots.size; rw [arrV_size, hcl]; exact hlt⟩ v1 (fun q h => by rw [v3] at h; cases h) (by rw [v2]; exact hkC) (by rw [v2]; exact va_assign hcls) rfl rfl hd fun H' e1 z oq => ?_
  have hR' : RepH G ks (up h a i x) H' := by
    refine hR.set g1 ?_ z oq (fun j hj => up_ne (by have := toNat_a h0; omega))
    rw [ec_arr _ _ _ (by show ¬ 104 < 100; omega)]
    show H'[_]? = some (vp_cell _ _)
    rw [e1]
    show some ((arrV _ _ (fun j => va_rf (ro G.2.2.2.1 (h a (j : Int))))).setSlot _ _) = some (arrV _ _ (fun j => va_rf (ro G.2.2.2.1 (up h a i x (a.toNat : Nat) (j : Int)))))
    rw [hcl, arrV_store]
    congr 2
    funext j
    rw [toNat_a h0, rv_ro]
    unfold updV
    by_cases hj : j = i.toNat
    · rw [if_pos hj, up_at, if_pos (by omega)]
      unfold rv
      rw [if_neg (by omega)]
    · rw [if_neg hj, up_at, if_neg (by omega)]; exact rv_ro _ _
  have hW' : WT ks (up h a i x) := by
    refine hW.set g1 ?_ (fun j hj => up_ne (by have := toNat_a h0; omega))
    have e5 : up h a i x (a.toNat : Nat) = fun j => if j = i then x else h a j := by
      rw [toNat_a h0]; funext j; exact up_at
    rw [e5]
    have hr : okr ks 0 x := by
      obtain ⟨q1, q2⟩ := q
      dsimp only at w4 w5
      subst w4; subst w5
      exact Or.inr ⟨hx0, w1⟩
    exact g2.elem (by omega) (by omega) hi.1 (fun e => by omega) (fun e => by omega) (fun e => by omega) (fun e => by omega) (fun e => hr)
  have hS' := hS.put (k := (i32 i).toNatClampNeg) z oq (show fre G _ from Nat.le_add_right _ _)
  exact kk p e s m args below meth c0 H' _ L ks ks0 C hS' hR' hW' hl hol hst hon hle hn0
/-- Object.<init> -/
theorem p_oinit {idx t : Nat} {a : Int} (hd : decode M.2.1 pc = .ok (.invokespecial idx, 3)) (hlk : Cond.methodLink M.1.cls idx Lib.objectInit ∈ lw_good) (hin : Cond.instanceMethod Lib.objectInit ∈ lw_good) (hco : Cond.code Lib.objectInit ⟨#[0xb1]⟩ 1 none ∈ lw_good) (ht : t ≠ 200) (h0 : 0 ≤ a) (hrest : (st.map pcat).sum ≤ 8) (hroom : 1 ≤ rm.frames ∧ 20 ≤ rm.locals) (kk : PW G M rm mc ms tk n0 K (pc + 3) ls st kn cells slots h) : PW G M rm mc ms tk n0 K pc ls (vr t a 0 :: st) kn cells slots h := by
  intro p e s m args below meth c0 H locs L ks ks0 C hS hR hW hl hol hos hon hle hn0
  have hst := (List.forall_mem_cons.mp hos).2
  have hts := C.2.2.2.2.2.1
  rw [List.map_cons, tv_ref _ ht h0]
  refine W.objInit C.1 C.2.1 C.2.2.2.2.1 (hts _ hlk) (hts _ hin) (hts _ hco) rfl (by show L.size = _; rw [C.2.2.2.1]; exact hl.1) rfl hd hroom.1 (by rw [pcat_map]; show 2 * 0 + _ + 12 ≤ _; omega) ?_
  exact kk p e s m args below meth c0 H locs L ks ks0 C hS hR hW hl hol hst hon hle hn0
/-- an object's making ends -/
def rawfree (z : Int) (v : PV) : Prop := match v with
  | .inr (.inr (t, a, _)) => t < 50 ∨ 100 ≤ t ∨ a ≠ z
  | _ => True
theorem okv.seal {ks : List Kd} {z : Int} {c : Nat} (hc : c < 50) (hz : 0 ≤ z) (hk : ks[z.toNat]? = some (c + 50, 0)) {v : PV} (hv : rawfree z v) (h1 : okv G ks v) : okv G (ks.set z.toNat (c, 0)) v := by
  match v, hv, h1 with
  | .inl x, _, h1 => exact h1
  | .inr (.inl x), _, h1 => exact h1
  | .inr (.inr (t, a, n)), hv, h1 =>
    unfold okv at h1 ⊢
    dsimp only at h1 ⊢
    by_cases ht : t = 200
    · rw [if_pos ht] at h1 ⊢; exact h1
    · rw [if_neg ht] at h1 ⊢
      rcases h1 with h1 | ⟨h0, q, h2, h3, h4⟩
      · exact Or.inl h1
      · refine Or.inr ⟨h0, q, ?_, h3, h4⟩
        by_cases e : a.toNat = z.toNat
        · exfalso
          rw [e, hk] at h2
          cases h2
          dsimp only at h4
          have hv : t < 50 ∨ 100 ≤ t ∨ a ≠ z := hv
          omega
        · rw [List.getElem?_set_ne (Ne.symm e)]; exact h2
theorem set_kind {ks : List Kd} {z : Nat} {c : Nat} (hk : ks[z]? = some (c + 50, 0)) (hc : c < 50) {j : Nat} {q : Kd} (h1 : ks[j]? = some q) (hq : q.1 < 50 ∨ 100 ≤ q.1) : (ks.set z (c, 0))[j]? = some q := by
  by_cases e : j = z
  · exfalso
    rw [e, hk] at h1
    cases h1
    dsimp only at hq
    omega
  · rw [List.getElem?_set_ne (Ne.symm e)]; exact h1
theorem lay_kinds {c : Nat} (hc : c < 12) : ∀ y ∈ lay c, y.2.2.1 < 50 ∨ 100 ≤ y.2.2.1 := by
  have H : ∀ c, c < 12 → ∀ y ∈ lay c, y.2.2.1 < 50 ∨ 100 ≤ y.2.2.1 := by decide +kernel
  exact H c hc
theorem lay_kinds2 {c : Nat} (hc : c < 12) : ∀ y ∈ lay c, y.2.2.1 < 200 := by
  have H : ∀ c, c < 12 → ∀ y ∈ lay c, y.2.2.1 < 200 := by decide +kernel
  exact H c hc
theorem okc.seal {ks : List Kd} {z c : Nat} (hc : c < 50) (hk : ks[z]? = some (c + 50, 0)) {f : Int → Int} {i : Nat} {q : Kd} (h1 : okc ks f i q) : okc (ks.set z (c, 0)) f i q := by
  obtain ⟨a1, a2, a3, a4, a5, a6, a7, a8, a9, a10⟩ := h1
  have hr : ∀ t x, t < 50 → okr ks t x → okr (ks.set z (c, 0)) t x := fun t x ht hx => by
    rcases hx with hx | ⟨hx0, hx1⟩
    · exact Or.inl hx
    · exact Or.inr ⟨hx0, set_kind hk hc hx1 (Or.inl ht)⟩
  refine ⟨fun e => ⟨(a1 e).1, fun k hk2 => ?_⟩, fun e y hy => ⟨(a2 e y hy).1, set_kind hk hc (a2 e y hy).2 ?_⟩, a3, a4, a5, fun e k hk2 => hr _ _ (by omega) (a6 e k hk2), fun e k hk2 => hr _ _ (by omega) (a7 e k hk2), fun e k hk2 => ⟨(a8 e k hk2).1, set_kind hk hc (a8 e k hk2).2 (Or.inr (by show 100 ≤ 100; omega))⟩, a9, a10⟩
  · have h2 := (a1 e).2 k hk2
    cases hty : cty (q.1 % 50) k with
    | object C =>
      rw [hty] at h2
      exact hr _ _ (ccode_lt C) h2
    | _ => rw [hty] at h2; exact h2
  · have h3 := (a1 (by omega)).1
    rw [Nat.mod_eq_of_lt e] at h3
    exact lay_kinds h3 y hy
theorem p_seal {c : Nat} {z : Int} (hc : c < 12) (hz : 0 ≤ z) (hn : n0 ≤ z) (hlay : ∀ y ∈ lay c, h z y.1 = z + y.2.1 ∧ (vr y.2.2.1 (z + y.2.1) y.2.2.2 : PV) ∈ kn) (h1 : ∀ q ∈ ls, rawfree z q.2) (h2 : ∀ v ∈ st, rawfree z v) (h3 : ∀ v ∈ kn, rawfree z v) (kk : PW G M rm mc ms tk n0 K pc ls (vr c z 0 :: st) (vr c z 0 :: kn) cells slots h) : PW G M rm mc ms tk n0 K pc ls (vr (c + 50) z 0 :: st) kn cells slots h := by
  intro p e s m args below meth c0 H locs L ks ks0 C hS hR hW hl hol hos hon hle hn0
  have hv0 := (List.forall_mem_cons.mp hos).1
  have hst := (List.forall_mem_cons.mp hos).2
  obtain ⟨⟨q1, q2⟩, g1, g2, g3⟩ := okv_ref hv0 (by omega) hz
  dsimp only at g2 g3
  have e2 : q2 = 0 := by omega
  subst g3; subst e2
  have hc50 : c < 50 := by omega
  have hlen := ks_lt g1
  have hnew : (ks.set z.toNat (c, 0))[z.toNat]? = some (c, 0) := by rw [List.getElem?_set_self hlen]
  have hR' : RepH G (ks.set z.toNat (c, 0)) h H := by
    refine ⟨by rw [List.length_set]; exact hR.1, fun i q hi => ?_⟩
    by_cases e1 : i = z.toNat
    · subst e1
      cases hnew.symm.trans hi
      have h4 := hR.2 _ _ g1
      rw [ec_obj _ _ _ (by show c + 50 < 100; omega)] at h4
      rw [ec_obj _ _ _ (by show c < 100; omega)]
      dsimp only at h4 ⊢
      rw [show (c + 50) % 50 = c by omega] at h4
      rw [show c % 50 = c by omega]
      exact h4
    · rw [List.getElem?_set_ne (Ne.symm e1)] at hi
      exact hR.2 i q hi
  have hW' : WT (ks.set z.toNat (c, 0)) h := by
    refine ⟨by rw [List.length_set]; exact hW.1, fun i q hi => ?_⟩
    by_cases e1 : i = z.toNat
    · subst e1
      cases hnew.symm.trans hi
      obtain ⟨a1, a2, a3, a4, a5, a6, a7, a8, a9, a10⟩ := (hW.2 _ _ g1).seal hc50 g1
      dsimp only at a1
      have b1 := a1 (by omega)
      rw [show (c + 50) % 50 = c by omega] at b1
      refine ⟨fun _ => by dsimp only; rw [show c % 50 = c by omega]; exact b1, fun _ y hy => ?_, fun e => by dsimp only at e; omega, fun e => by dsimp only at e; omega, fun e => by dsimp only at e; omega, fun e => by dsimp only at e; omega, fun e => by dsimp only at e; omega, fun e => by dsimp only at e; omega, by show c ≤ 105; omega, by show 0 < 65536; omega⟩
      dsimp only at hy
      obtain ⟨c1, c2⟩ := hlay y hy
      rw [toNat_a hz]
      refine ⟨c1, ?_⟩
      have hk1 := lay_kinds hc y hy
      obtain ⟨q, d1, d2, d3⟩ := okv_ref (hon _ c2) (by have := (hW.2); have := lay_kinds2 hc y hy; omega) (by omega)
      have e4 : q = y.2.2 := by
        obtain ⟨qa, qb⟩ := q
        dsimp only at d2 d3
        have : (qb : Int) = (y.2.2.2 : Int) := d2
        have e5 : qb = y.2.2.2 := by omega
        rw [d3, e5]
      rw [← e4]
      refine set_kind g1 hc50 (by rw [show z.toNat + y.2.1 = (z + y.2.1).toNat by omega]; exact d1) ?_
      rw [d3]; exact hk1
    · rw [List.getElem?_set_ne (Ne.symm e1)] at hi
      exact (hW.2 i q hi).seal hc50 g1
  have htok : okv G (ks.set z.toNat (c, 0)) (vr c z 0) := okv_mk (by omega) hz hnew rfl
  have hkl : kle ks0 (ks.set z.toNat (c, 0)) := fun i q hi => by
    have := ks_lt hi
    rw [List.getElem?_set_ne (by omega)]
    exact hle i q hi
  have hg := kk p e s m args below meth c0 H locs L _ ks0 C hS hR' hW' hl (fun q hq => (hol q hq).seal hc50 hz g1 (h1 q hq)) (List.forall_mem_cons.mpr ⟨htok, fun v hv => (hst v hv).seal hc50 hz g1 (h2 v hv)⟩) (List.forall_mem_cons.mpr ⟨htok, fun v hv => (hon v hv).seal hc50 hz g1 (h3 v hv)⟩) hkl hn0
  rw [List.map_cons, tv_ref _ (by omega) hz] at hg ⊢
  exact hg
/-- (int[]) -/
theorem p_castI {idx : Nat} {a n : Int} (hd : decode M.2.1 pc = .ok (.checkcast idx, 3)) (hlk : Cond.classLink M.1.cls idx "[I" ∈ lw_good) (h0 : 0 ≤ a) (kk : PW G M rm mc ms tk n0 K (pc + 3) ls (vr 100 a n :: st) kn cells slots h) : PW G M rm mc ms tk n0 K pc ls (vr 100 a n :: st) kn cells slots h := by
  intro p e s m args below meth c0 H locs L ks ks0 C hS hR hW hl hol hos hon hle hn0
  have hva := (List.forall_mem_cons.mp hos).1
  obtain ⟨N, hN, g1, g2, g3⟩ := arr_of hR hW (by omega) (by omega) h0 hva
  have hg := kk p e s m args below meth c0 H locs L ks ks0 C hS hR hW hl hol hos hon hle hn0
  rw [List.map_cons, tv_ref _ (by omega) h0] at hg ⊢
  have hP : va_P G.2.1 vwCl [(G.2.2.2.1 + a.toNat, .inl (G.2.2.1 100, (N, ar G.2.2.2.1 100 (h a))))] H := by
    intro j x hj
    have hz : j < 1 := (List.getElem?_eq_some_iff.mp hj).1
    rw [show j = 0 by omega] at hj
    cases hj
    exact g3
  exact va_castA C.1 C.2.1 C.2.2.2.2.1 (C.2.2.2.2.2.1 _ hlk) hP 0 rfl (va_nm_int (C.2.2.2.2.2.2.2.2.1.1.2 0 _ rfl).2) hd hg
/-- clone() of an int[] -/
theorem p_clone {idx : Nat} {a n z : Int} (hd : decode M.2.1 pc = .ok (.invokevirtual idx, 3)) (hlk : Cond.methodLink M.1.cls idx ⟨"[I", "clone", "()Ljava/lang/Object;"⟩ ∈ lw_good) (hsm : Cond.sameMethod "[I" "java/lang/Object" "clone" "()Ljava/lang/Object;" ∈ lw_good) (hna : Cond.native ⟨"java/lang/Object", "clone", "()Ljava/lang/Object;"⟩ ∈ lw_good) (hin : Cond.instanceMethod ⟨"java/lang/Object", "clone", "()Ljava/lang/Object;"⟩ ∈ lw_good) (hse : Cond.selects "[I" ⟨"[I", "clone", "()Ljava/lang/Object;"⟩ ⟨"java/lang/Object", "clone", "()Ljava/lang/Object;"⟩ ∈ lw_good) (h0 : 0 ≤ a) (hrest : (st.map pcat).sum ≤ 8) (hroom : 1 ≤ rm.frames ∧ 24 ≤ rm.locals) (hz : h (-1) 0 = z) (hf : cells + 1 ≤ rm.cells ∧ slots + n.toNat ≤ rm.slots)
    (kk : PW G M rm mc ms tk n0 K (pc + 3) ls (vr 100 z n :: st) (vr 100 z n :: kn) (cells + 1) (slots + n.toNat) (nw h (h a))) : PW G M rm mc ms tk n0 K pc ls (vr 100 a n :: st) kn cells slots h := by
  intro p e s m args below meth c0 H locs L ks ks0 C hS hR hW hl hol hos hon hle hn0
  have hva := (List.forall_mem_cons.mp hos).1
  have hst := (List.forall_mem_cons.mp hos).2
  have hts := C.2.2.2.2.2.1
  have hKK := C.2.2.2.2.2.2.2.2.1
  have hK := hKK.1
  have hsz := hW.1
  obtain ⟨N, hN, g1, g2, g3⟩ := arr_of hR hW (by omega) (by omega) h0 hva
  rw [List.map_cons, tv_ref _ (by omega) h0]
  have hcell : vp_cell (G.2.2.1 100) (N, ar G.2.2.2.1 100 (h a)) = arrV (G.2.2.1 100) N (fun j => .int (i32 (h a (j : Int)))) := rfl
  have hnm := va_nm_int (hK.2 0 _ rfl).2
  obtain ⟨cc1, t1, f1, f2, f3⟩ := Cond.castable_spec (va_Nw.use (A := args) rfl hKK.2.2.2.2.2)
  cases hnm.symm.trans f1
  intro T hT X
  have hcellT : T.heap[G.2.2.2.1 + a.toNat]? = some (arrV (G.2.2.1 100) N (fun j => .int (i32 (h a (j : Int))))) := by rw [hT, ← hcell]; exact g3
  obtain ⟨-, kA, hkA, comp, hkind⟩ := State.isArrayOf_alike X.warmed.alike ((hK.2 0 _ rfl).1 0 (fun _ => .null))
  obtain ⟨-, kS, hkS, compS, hkindS⟩ := (hK.2 0 _ rfl).1 0 (fun _ => .null)
  have hNn : n.toNat = N := by omega
  obtain ⟨vm', X', st1⟩ := X.cloneArray C.1 C.2.2.2.2.1 (hts _ hlk) (hts _ hsm) (hts _ hna) (hts _ hin) (hts _ hse) (a := G.2.2.2.1 + a.toNat) hcellT (fun k h => by cases h) (fun h => by cases h) hnm f2 f3
    (fun i v hv => by
      have hk' : T.vm.classes[G.2.2.1 100]? = some kA := hkA
      have hfit := va_fit (cA := G.2.2.1 100) (n := N) (F := fun j => .int (i32 (h a (j : Int)))) (ty := .int) (fun _ _ => rfl) i v hv
      show State.fitsSlot T (G.2.2.1 100) .none i v = true
      simpa [State.fitsSlot, State.slotType?, hk', hkind] using hfit)
    (g := F0 m pc L (.ref (G.2.2.2.1 + a.toNat) :: st.map (tv G.2.2.2.1))) rfl (by show L.size = _; rw [C.2.2.2.1]; exact hl.1) rfl (by rw [C.2.1]; exact hd) hroom.1 (by show 2 * 0 + _ + 14 ≤ _; rw [pcat_map]; omega) hf.1 (by rw [arrV_size]; omega) (hloader := Vm.clonesLoader_of_array hkS hkindS)
  rw [arrV_size] at X'
  generalize hH1 : H.push (arrV (G.2.2.1 100) N (fun j => .int (i32 (h a (j : Int))))) = H1
  have z1 : H1.size = H.size + 1 := by rw [← hH1, Array.size_push]
  have e1 : H1[H.size]? = some (arrV (G.2.2.1 100) N (fun j => .int (i32 (h a (j : Int))))) := by rw [← hH1, Array.getElem?_push_size]
  have o1 : ∀ q : Nat, q < H.size → H1[q]? = H[q]? := fun q hq => by rw [← hH1, Array.getElem?_push, if_neg (Nat.ne_of_lt hq)]
  have hat : va_at G.2.1 vwCl (H.size, ec G (h a) (100, N)) H1 := by
    rw [ec_arr _ _ _ (by show ¬ 100 < 100; omega)]
    exact e1
  have hok : okc (ks ++ [(100, N)]) (h a) ks.length (100, N) := by
    obtain ⟨a1, a2, a3, a4, a5, a6, a7, a8, a9, a10⟩ := g2
    exact ⟨fun e => by dsimp only at e; omega, fun e => by dsimp only at e; omega, a3, fun e => by dsimp only at e; omega, fun e => by dsimp only at e; omega, fun e => by dsimp only at e; omega, fun e => by dsimp only at e; omega, fun e => by dsimp only at e; omega, a9, a10⟩
  obtain ⟨hR', hW'⟩ := grow (q := (100, N)) (f := h a) hR hW z1 o1 hat hok
  have hk := kle_app ks [(100, N)]
  have htok : okv G (ks ++ [(100, N)]) (vr 100 z n) := okv_mk (by omega) (by omega) (by rw [show z.toNat = ks.length by omega]; exact app_last _ _) hN
  have hg := kk p e s m args below meth c0 H1 locs L _ ks0 C (hS.more (by omega) o1) hR' hW' hl (okL_up hk hol) (List.forall_mem_cons.mpr ⟨htok, okS_up hk hst⟩) (List.forall_mem_cons.mpr ⟨htok, okS_up hk hon⟩) (hle.tr hk) hn0
  rw [List.map_cons, tv_ref _ (by omega) (by omega)] at hg
  rw [show G.2.2.2.1 + z.toNat = H.size by rw [hR.1]; omega, hNn] at hg
  obtain ⟨t2, b1, b2⟩ := hg _ (by show T.heap.push _ = _; rw [hT]; exact hH1) X'
  refine ⟨t2, ?_, b2⟩
  rw [← hT] at b1
  exact st1 t2 b1
/-- new int[5][40]: the outer one, then the five -/
def mul (h : Hh) : Hh := fun p j => if p = h (-1) 0 then h (-1) 0 + 1 + j else if h (-1) 0 < p ∧ p ≤ h (-1) 0 + 5 then 0 else if p = -1 ∧ j = 0 then h (-1) 0 + 6 else h p j
def mulk : List Kd := [(105, 5), (100, 40), (100, 40), (100, 40), (100, 40), (100, 40)]
theorem mul_old {h : Hh} {p : Int} (h1 : ¬ (h (-1) 0 ≤ p ∧ p ≤ h (-1) 0 + 5)) (h2 : p ≠ -1) : mul h p = h p := by
  funext j
  show (if p = h (-1) 0 then _ else if h (-1) 0 < p ∧ p ≤ h (-1) 0 + 5 then _ else if p = -1 ∧ j = 0 then _ else h p j) = _
  rw [if_neg (by omega), if_neg (by omega), if_neg (fun q => h2 q.1)]
theorem mul_out {h : Hh} {p : Int} (h1 : p = h (-1) 0) : mul h p = fun j => h (-1) 0 + 1 + j := by
  funext j
  show (if p = h (-1) 0 then _ else _) = _
  rw [if_pos h1]
theorem mul_in {h : Hh} {p : Int} (h1 : h (-1) 0 < p ∧ p ≤ h (-1) 0 + 5) : mul h p = fun _ => 0 := by
  funext j
  show (if p = h (-1) 0 then _ else if h (-1) 0 < p ∧ p ≤ h (-1) 0 + 5 then _ else _) = _
  rw [if_neg (by omega), if_pos h1]
theorem mul_sz {h : Hh} (h0 : 0 ≤ h (-1) 0) : mul h (-1) 0 = h (-1) 0 + 6 := by
  show (if (-1 : Int) = h (-1) 0 then _ else if h (-1) 0 < -1 ∧ (-1 : Int) ≤ h (-1) 0 + 5 then _ else if (-1 : Int) = -1 ∧ (0 : Int) = 0 then h (-1) 0 + 6 else _) = _
  rw [if_neg (by omega), if_neg (by omega), if_pos ⟨rfl, rfl⟩]
theorem mulk_at {i : Nat} {q : Kd} (h1 : mulk[i]? = some q) : (i = 0 ∧ q = (105, 5)) ∨ (1 ≤ i ∧ i ≤ 5 ∧ q = (100, 40)) := by
  match i, h1 with
  | 0, h1 => exact Or.inl ⟨rfl, (Option.some.inj h1).symm⟩
  | 1, h1 => exact Or.inr ⟨by omega, by omega, (Option.some.inj h1).symm⟩
  | 2, h1 => exact Or.inr ⟨by omega, by omega, (Option.some.inj h1).symm⟩
  | 3, h1 => exact Or.inr ⟨by omega, by omega, (Option.some.inj h1).symm⟩
  | 4, h1 => exact Or.inr ⟨by omega, by omega, (Option.some.inj h1).symm⟩
  | 5, h1 => exact Or.inr ⟨by omega, by omega, (Option.some.inj h1).symm⟩
  | n + 6, h1 => simp [mulk] at h1
theorem mulk_row {ks : List Kd} {j : Nat} (hj : j < 5) : (ks ++ mulk)[ks.length + 1 + j]? = some (100, 40) := by
  rw [List.getElem?_append_right (by omega), show ks.length + 1 + j - ks.length = 1 + j by omega]
  match j, hj with
  | 0, _ => rfl | 1, _ => rfl | 2, _ => rfl | 3, _ => rfl | 4, _ => rfl
theorem arrV_cong {c : ClassId} {N : Nat} {f g : Nat → Value} (h : ∀ j, j < N → f j = g j) : arrV c N f = arrV c N g := by
  unfold arrV
  congr 2
  funext j
  exact h j.val j.isLt
set_option maxHeartbeats 4000000 in
theorem p_multi {idx : Nat} {z : Int} (hd : decode M.2.1 pc = .ok (.multianewarray idx 2, 4)) (hcl : Cond.classLink M.1.cls idx "[[I" ∈ lw_good) (hac : Cond.arrayClass .int ∈ lw_good) (hz : h (-1) 0 = z) (hf : cells + 6 ≤ rm.cells ∧ slots + 205 ≤ rm.slots)
    (kk : PW G M rm mc ms tk n0 K (pc + 4) ls (vr 105 z 5 :: st) (vr 105 z 5 :: kn) (cells + 6) (slots + 205) (mul h)) : PW G M rm mc ms tk n0 K pc ls (vi 40 :: vi 5 :: st) kn cells slots h := by
  intro p e s m args below meth c0 H locs L ks ks0 C hS hR hW hl hol hos hon hle hn0
  have hst := (List.forall_mem_cons.mp (List.forall_mem_cons.mp hos).2).2
  have hts := C.2.2.2.2.2.1
  have hKK := C.2.2.2.2.2.2.2.2.1
  have hK := hKK.1
  have hsz := hW.1
  have hs1 : "[" ++ (FieldType.array .int).toString = "[[I" := by decide +kernel
  have hs2 : (FieldType.array .int).toString = "[I" := by decide +kernel
  intro T hT X
  obtain ⟨vm₁, cA, comp, fA, fC, X', step⟩ := multi_step X C.1 C.2.2.2.2.1 (by rw [hs1]; exact hts _ hcl) hKK.2.2.2.2.1 (hts _ hac) (g := F0 m pc L (.int (i32 40) :: .int (i32 5) :: st.map (tv G.2.2.2.1))) rfl (by rw [C.2.1]; exact hd) rfl hf.1 hf.2
  have hTh : (T.setVm vm₁).heap = H := hT
  have hcA : cA = G.2.2.1 105 := Option.some.inj (fA.symm.trans (hK.2 5 _ rfl).2)
  have hco : comp = G.2.2.1 100 := by
    have h1 := va_nm_int (hK.2 0 _ rfl).2
    rw [← hs2] at h1
    exact Option.some.inj (fC.symm.trans h1)
  subst hcA; subst hco
  obtain ⟨f1, f2, -, -⟩ := mst_facts (T.setVm vm₁) (G.2.2.1 105) (G.2.2.1 100) 5
  have hold : ∀ x : Nat, x < H.size → (mst (T.setVm vm₁) (G.2.2.1 105) (G.2.2.1 100) 5).heap[x]? = H[x]? := fun x hx => by
    have := mst_old (T.setVm vm₁) (G.2.2.1 105) (G.2.2.1 100) (a := x) (by rw [hTh]; exact hx) 5
    rw [this, hTh]
  have hrow : ∀ j : Nat, j < 5 → (mst (T.setVm vm₁) (G.2.2.1 105) (G.2.2.1 100) 5).heap[H.size + 1 + j]? = some (mi (G.2.2.1 100)) := fun j hj => by
    have := mst_row (T.setVm vm₁) (G.2.2.1 105) (G.2.2.1 100) 5 j hj
    rw [hTh] at this
    exact this
  rw [hTh] at f1 f2
  generalize hH1 : (mst (T.setVm vm₁) (G.2.2.1 105) (G.2.2.1 100) 5).heap = H1 at f1 f2 hold hrow
  have hHs := hR.1
  have hk := kle_app ks mulk
  have hR' : RepH G (ks ++ mulk) (mul h) H1 := by
    refine ⟨by rw [f1, hHs, List.length_append]; show _ = _ + (_ + 6); omega, fun i q hi => ?_⟩
    by_cases e1 : i < ks.length
    · rw [List.getElem?_append_left e1] at hi
      rw [mul_old (by omega) (by omega)]
      exact (hR.2 i q hi).kept (hold _ (by show G.2.2.2.1 + i < _; rw [hHs]; omega))
    · rw [List.getElem?_append_right (by omega)] at hi
      rcases mulk_at hi with ⟨e2, e3⟩ | ⟨e2, e4, e3⟩
      · subst e3
        have e5 : i = ks.length := by omega
        subst e5
        rw [mul_out (by omega), ec_arr _ _ _ (by show ¬ 105 < 100; omega)]
        show H1[G.2.2.2.1 + ks.length]? = some (arrV _ 5 (fun j => va_rf (ro G.2.2.2.1 (h (-1) 0 + 1 + (j : Int)))))
        rw [← hHs, f2]
        unfold mo
        refine congrArg some (arrV_cong (fun j hj => ?_))
        rw [if_pos hj, rv_ro]
        unfold rv
        rw [if_neg (by omega), hHs, show (h (-1) 0 + 1 + (j : Int)).toNat = ks.length + 1 + j by omega, ← Nat.add_assoc, ← Nat.add_assoc]
      · subst e3
        rw [mul_in (by omega), ec_arr _ _ _ (by show ¬ 100 < 100; omega)]
        show H1[G.2.2.2.1 + i]? = some (arrV _ 40 (fun _ => .int (i32 0)))
        have h9 := hrow (i - ks.length - 1) (by omega)
        rw [show H.size + 1 + (i - ks.length - 1) = G.2.2.2.1 + i by omega] at h9
        rw [h9]
        rfl
  have hW' : WT (ks ++ mulk) (mul h) := by
    refine ⟨by rw [mul_sz (by omega), hsz, List.length_append]; show _ = ((_ + 6 : Nat) : Int); omega, fun i q hi => ?_⟩
    by_cases e1 : i < ks.length
    · rw [List.getElem?_append_left e1] at hi
      rw [mul_old (by omega) (by omega)]
      exact (hW.2 i q hi).up hk
    · rw [List.getElem?_append_right (by omega)] at hi
      rcases mulk_at hi with ⟨e2, e3⟩ | ⟨e2, e4, e3⟩
      · subst e3
        have e5 : i = ks.length := by omega
        subst e5
        rw [mul_out (by omega)]
        refine ⟨fun e => by dsimp only at e; omega, fun e => by dsimp only at e; omega, fun e => by dsimp only at e; omega, fun e => by dsimp only at e; omega, fun e => by dsimp only at e; omega, fun e => by dsimp only at e; omega, fun e => by dsimp only at e; omega, fun _ k hk5 => ⟨?_, mulk_row hk5⟩, by show 105 ≤ 105; omega, by show 5 < 65536; omega⟩
        show h (-1) 0 + 1 + (k : Int) = _
        omega
      · subst e3
        rw [mul_in (by omega)]
        refine ⟨fun e => by dsimp only at e; omega, fun e => by dsimp only at e; omega, fun _ _ _ => by show r32 0; unfold r32; omega, fun e => by dsimp only at e; omega, fun e => by dsimp only at e; omega, fun e => by dsimp only at e; omega, fun e => by dsimp only at e; omega, fun e => by dsimp only at e; omega, by show 100 ≤ 105; omega, by show 40 < 65536; omega⟩
  have hS' : va_S (fre G) s.heap H1 (locs ++ (List.range 5).map fun j => (⟨T.heap.size, j⟩ : Loc)) := by
    have h1 := hS.more (G := G) (H1 := H1) (by omega) hold
    refine ⟨h1.1, h1.2.1, fun q hq => ?_⟩
    rcases List.mem_append.mp hq with h2 | h2
    · exact h1.2.2 q h2
    · obtain ⟨j, -, rfl⟩ := List.mem_map.mp h2
      show G.2.2.2.1 ≤ T.heap.size
      rw [hT, hHs]; omega
  have htok : okv G (ks ++ mulk) (vr 105 z 5) := okv_mk (by omega) (by omega) (m := 5) (by rw [show z.toNat = ks.length by omega, List.getElem?_append_right (Nat.le_refl _), Nat.sub_self]; rfl) rfl
  have hg := kk p e s m args below meth c0 H1 _ L _ ks0 C hS' hR' hW' hl (okL_up hk hol) (List.forall_mem_cons.mpr ⟨htok, okS_up hk hst⟩) (List.forall_mem_cons.mpr ⟨htok, okS_up hk hon⟩) (hle.tr hk) hn0
  rw [List.map_cons, tv_ref _ (by omega) (by omega)] at hg
  rw [show G.2.2.2.1 + z.toNat = H.size by omega] at hg
  obtain ⟨t2, b1, b2⟩ := hg _ hH1 X'
  refine ⟨t2, step t2 ?_, b2⟩
  rw [hT]
  exact b1
theorem p_norm {kn' : List PV} {cells' slots' : Nat} (h1 : kn = kn') (h2 : cells = cells') (h3 : slots = slots') (k : PW G M rm mc ms tk n0 K pc ls st kn' cells' slots' h) : PW G M rm mc ms tk n0 K pc ls st kn cells slots h := by
  subst h1; subst h2; subst h3; exact k
theorem p_widen {cells' slots' : Nat} (h2 : cells ≤ cells') (h3 : slots ≤ slots') (k : PW G M rm mc ms tk n0 K pc ls st kn cells' slots' h) : PW G M rm mc ms tk n0 K pc ls st kn cells slots h := by
  intro p e s m args below meth c0 H locs L ks ks0 C hS hR hW hl hol hos hon hle hn0
  exact W.widen h2 h3 (k p e s m args below meth c0 H locs L ks ks0 C hS hR hW hl hol hos hon hle hn0)
end PR6
theorem nnk {a k : Int} (h : 0 ≤ a) (hk : 0 ≤ k) : 0 ≤ a + k := by omega
theorem nek {a k : Int} (hk : 0 < k) : a ≠ a + k := by omega
