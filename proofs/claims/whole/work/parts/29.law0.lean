/-! the law's own things: the script, its loop's room -/
def scr (G : Gx) : Int → Int := fun i => (G.2.2.2.2.2.2 i.toNat).toInt
def NL : Nat := 600
def cfl (n : Nat) : Nat := 100 + (NL - n) * 20
def sfl (n : Nat) : Nat := 8000 + (NL - n) * 600
section PR7
variable {G : Gx} {M : MD} {rm : Room} {mc ms : Nat} {tk : List PV} {n0 : Int} {K : Int → Hh → Prop} {pc : Nat} {ls : List (Nat × PV)} {st kn : List PV} {cells slots : Nat} {h : Hh}
theorem p_drop (k : PW G M rm mc ms tk n0 K pc ls st [] cells slots h) : PW G M rm mc ms tk n0 K pc ls st kn cells slots h := by
  intro p e s m args below meth c0 H locs L ks ks0 C hS hR hW hl hol hos hon hle hn0
  exact k p e s m args below meth c0 H locs L ks ks0 C hS hR hW hl hol hos (fun v hv => by cases hv) hle hn0
theorem p_sld {a n i : Int} {sc : Int → Int} (hd : decode M.2.1 pc = .ok (.iaload, 1)) (hM : M.1 = yL_law) (hsc : sc = scr G) (hi : 0 ≤ i ∧ i < n) (kk : PW G M rm mc ms tk n0 K (pc + 1) ls (vi (sc i) :: st) kn cells slots h) : PW G M rm mc ms tk n0 K pc ls (vi i :: vr 200 a n :: st) kn cells slots h := by
  intro p e s m args below meth c0 H locs L ks ks0 C hS hR hW hl hol hos hon hle hn0
  have hvi := (List.forall_mem_cons.mp hos).1
  have hva := (List.forall_mem_cons.mp (List.forall_mem_cons.mp hos).2).1
  have hst := (List.forall_mem_cons.mp (List.forall_mem_cons.mp hos).2).2
  obtain ⟨ea, en⟩ : a = G.2.2.2.2.1 ∧ n = G.2.2.2.2.2.1 := hva
  obtain ⟨hX, hbl, hbs⟩ := C.2.2.2.2.2.2.2.2.2.2 hM
  have e1 : (i32 i).toInt = i := i32_toInt hvi
  have hin : vp_in (i32 i) G.2.2.2.2.2.1 := vp_in_iff.mpr ⟨by rw [e1]; exact hi.1, by rw [e1]; omega⟩
  have hcl : (i32 i).toNatClampNeg = i.toNat := by show (i32 i).toInt.toNat = _; rw [e1]
  subst hsc
  have hg := kk p e s m args below meth c0 H locs L ks ks0 C hS hR hW hl hol (List.forall_mem_cons.mpr ⟨toInt_r32 _, hst⟩) hon hle hn0
  have ev : tv G.2.2.2.1 (vi (scr G i)) = .int (G.2.2.2.2.2.2 (i32 i).toNatClampNeg) := by
    show Value.int (i32 (G.2.2.2.2.2.2 i.toNat).toInt) = _
    rw [i32_of, hcl]
  rw [List.map_cons, ev] at hg
  have ea2 : tv G.2.2.2.1 (vr 200 a n) = .ref G.2.2.2.2.1 := by
    show Value.ref a.toNat = _
    rw [ea]; rfl
  rw [List.map_cons, List.map_cons, ea2]
  exact va_sld C.1 C.2.1 hX hbl (show ¬ G.2.2.2.1 ≤ G.2.2.2.2.1 by omega) hS hin hd hg
theorem p_slen {a n : Int} (hd : decode M.2.1 pc = .ok (.arraylength, 1)) (hM : M.1 = yL_law) (hn : n < 65536) (kk : PW G M rm mc ms tk n0 K (pc + 1) ls (vi n :: st) kn cells slots h) : PW G M rm mc ms tk n0 K pc ls (vr 200 a n :: st) kn cells slots h := by
  intro p e s m args below meth c0 H locs L ks ks0 C hS hR hW hl hol hos hon hle hn0
  have hva := (List.forall_mem_cons.mp hos).1
  have hst := (List.forall_mem_cons.mp hos).2
  obtain ⟨ea, en⟩ : a = G.2.2.2.2.1 ∧ n = G.2.2.2.2.2.1 := hva
  obtain ⟨hX, hbl, hbs⟩ := C.2.2.2.2.2.2.2.2.2.2 hM
  have hr : r32 n := by unfold r32; omega
  have hg := kk p e s m args below meth c0 H locs L ks ks0 C hS hR hW hl hol (List.forall_mem_cons.mpr ⟨hr, hst⟩) hon hle hn0
  have ev : tv G.2.2.2.1 (vi n) = .int (Int32.ofNat G.2.2.2.2.2.1) := by rw [en]; rfl
  rw [List.map_cons, ev] at hg
  have ea2 : tv G.2.2.2.1 (vr 200 a n) = .ref G.2.2.2.2.1 := by
    show Value.ref a.toNat = _
    rw [ea]; rfl
  rw [List.map_cons, ea2]
  exact va_slen C.1 C.2.1 hX hbl (show ¬ G.2.2.2.1 ≤ G.2.2.2.2.1 by omega) hS hd hg
end PR7
