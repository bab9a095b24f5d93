/-! PURE 34: the first state; the law's loop -/
def Fa (L : List (Int × Int × Int)) (Z : List Int) (z : Int) (g : Hh) : Prop := g (-1) 0 = z ∧ (∀ p ∈ L, g p.1 p.2.1 = p.2.2) ∧ (∀ a ∈ Z, ∀ j, g a j = 0)
theorem hb_nwf {L L' : List (Int × Int × Int)} {Z : List Int} {z : Int} {g : Hh} {f : Int → Int} {P : Hh → Prop} (F : Fa L Z z g) (z' : Int) (hz : z' = z + 1) (h0 : 0 ≤ z) (h1 : ∀ p ∈ L, p.1 ≠ -1 ∧ p.1 ≠ z) (h2 : ∀ a ∈ Z, a ≠ -1 ∧ a ≠ z) (hL : ∀ p ∈ L', p.1 = z ∧ f p.2.1 = p.2.2) (hP : ∀ g', Fa (L' ++ L) Z z' g' → P g') : hb (nw g f) P := by
  rw [hb_p]
  refine hP _ ⟨by rw [nw_sz (by rw [F.1]; exact h0), F.1, hz], fun p hp => ?_, fun a ha j => ?_⟩
  · rcases List.mem_append.mp hp with w | w
    · rw [(hL p w).1, nw_new F.1.symm]; exact (hL p w).2
    · rw [nw_old (by rw [F.1]; exact (h1 p w).2) (h1 p w).1]; exact F.2.1 p w
  · rw [nw_old (by rw [F.1]; exact (h2 a ha).2) (h2 a ha).1]; exact F.2.2 a ha j
theorem hb_nwz {L : List (Int × Int × Int)} {Z : List Int} {z : Int} {g : Hh} {P : Hh → Prop} (F : Fa L Z z g) (z' : Int) (hz : z' = z + 1) (h0 : 0 ≤ z) (h1 : ∀ p ∈ L, p.1 ≠ -1 ∧ p.1 ≠ z) (h2 : ∀ a ∈ Z, a ≠ -1 ∧ a ≠ z) (hP : ∀ g', Fa L (z :: Z) z' g' → P g') : hb (nw g (fun _ => 0)) P := by
  rw [hb_p]
  refine hP _ ⟨by rw [nw_sz (by rw [F.1]; exact h0), F.1, hz], fun p hp => ?_, fun a ha j => ?_⟩
  · rw [nw_old (by rw [F.1]; exact (h1 p hp).2) (h1 p hp).1]; exact F.2.1 p hp
  · rcases List.mem_cons.mp ha with w | w
    · rw [w, nw_new F.1.symm]
    · rw [nw_old (by rw [F.1]; exact (h2 a w).2) (h2 a w).1]; exact F.2.2 a w j
theorem hb_ups {L : List (Int × Int × Int)} {Z : List Int} {z C k v : Int} {g : Hh} {P : Hh → Prop} (F : Fa L Z z g) (hC : C ≠ -1) (h1 : ∀ p ∈ L, ¬ (p.1 = C ∧ p.2.1 = k)) (h2 : ∀ a ∈ Z, a ≠ C) (hP : ∀ g', Fa ((C, k, v) :: L) Z z g' → P g') : hb (up g C k v) P := by
  rw [hb_p]
  refine hP _ ⟨by rw [up_ne (fun w => hC w.symm)]; exact F.1, fun p hp => ?_, fun a ha j => ?_⟩
  · rcases List.mem_cons.mp hp with w | w
    · rw [w, up_at, if_pos rfl]
    · show (if p.1 = C ∧ p.2.1 = k then v else g p.1 p.2.1) = _
      rw [if_neg (h1 p w)]; exact F.2.1 p w
  · rw [up_ne (h2 a ha)]; exact F.2.2 a ha j
def S0 : St := St.mk 0 (fun _ => 0) 0 (fun _ => 0) (fun _ => 0) (fun _ _ => 0) (fun _ _ => 0) (fun _ _ => 0) (fun _ _ _ => 0) (fun _ => 0) (fun _ _ => 0) 0 (fun _ => 0) (fun _ _ => 0) (fun _ => 0) (fun _ _ => 0) (fun _ _ => 0) (fun _ => 0) (fun _ => 0) (fun _ => 0) (-1) 0 0 0 (fun _ => 0) (fun _ => 0) (fun _ => 0) (fun _ => 0) (fun _ => 0) 0 (fun _ => 0) (fun _ => 0) (fun _ => 0) (fun _ => 0) (fun _ => 0) 0 (fun _ => 0)
theorem S0_wf : WF S0 := by
  have no : ∀ {i : Int}, 0 ≤ i → i < 0 → False := fun h1 h2 => by omega
  exact WF.mk' (by show (0 : Int) ≤ 0 ∧ (0 : Int) ≤ 120; omega) (fun i h1 h2 => (no h1 h2).elim) (by show (0 : Int) ≤ 0 ∧ (0 : Int) ≤ 6; omega) (fun i h1 h2 => (no h1 h2).elim) (fun _ _ _ => rfl) (by show (0 : Int) ≤ 0 ∧ (0 : Int) ≤ 6; omega) (fun i h1 h2 => (no h1 h2).elim) (fun _ => ⟨by show -30000 ≤ (0 : Int) ∧ (0 : Int) ≤ 30000; omega, by show -50 ≤ (0 : Int) ∧ (0 : Int) ≤ 50; omega, by show -50 ≤ (0 : Int) ∧ (0 : Int) ≤ 50; omega⟩) (fun _ _ => ⟨rfl, rfl, rfl⟩) (Or.inl rfl) (by show (0 : Int) ≤ 0 ∧ (0 : Int) ≤ 300; omega) (by show (0 : Int) ≤ 0 ∧ (0 : Int) ≤ 40; omega) (fun i h1 h2 => (no h1 h2).elim) (by show (0 : Int) ≤ 0 ∧ (0 : Int) ≤ 60; omega) (fun i h1 h2 => (no h1 h2).elim) (fun i h1 h2 => (no h1 h2).elim) (fun i h1 h2 => (no h1 h2).elim) (by show (0 : Int) ≤ 0 ∧ (0 : Int) ≤ 4; omega) (fun i h1 h2 => (no h1 h2).elim)
theorem S0_both {g : Hh} (hz : g (-1) 0 = 72) (c : g 1 1 = 0 ∧ g 0 3 = 0 ∧ g 0 5 = 0 ∧ g 0 9 = -1 ∧ g 0 10 = 0 ∧ g 0 8 = 0 ∧ g 9 5 = 0 ∧ g 15 7 = 0 ∧ g 0 7 = 0 ∧ g 15 8 = 0) (m : g 33 1 = 0 ∧ g 33 11 = 0 ∧ g 33 18 = 0 ∧ g 33 27 = -1 ∧ g 33 29 = 0 ∧ g 33 30 = 0 ∧ g 33 36 = 0 ∧ g 33 42 = 0) (m42 : ∀ j, g 42 j = 0) (m49 : ∀ j, g 49 j = 0) (m50 : ∀ j, g 50 j = 0) (m51 : ∀ j, g 51 j = 0) : Both g S0 := by
  have no : ∀ {i : Int}, 0 ≤ i → i < 0 → False := fun h1 h2 => by omega
  obtain ⟨c1, c2, c3, c4, c5, c6, c7, c8, c9, c10⟩ := c
  obtain ⟨d1, d2, d3, d4, d5, d6, d7, d8⟩ := m
  refine Both.mk' ?_ ?_ S0_wf ?_
  · exact RepC.of c1 (fun i h1 h2 => (no h1 h2).elim) (RCp.mk' c2 (fun i h1 h2 => (no h1 h2).elim) (fun i h1 h2 => (no h1 h2).elim) (fun i j h1 h2 h3 => (no (show 0 ≤ j by omega) h3).elim) c3 (fun i h1 h2 => (no h1 h2).elim) (fun i h1 h2 => (no h1 h2).elim) (fun i j h1 h2 h3 => (no (show 0 ≤ j by omega) h3).elim) (fun i j h1 h2 => (no h1 h2).elim) (by omega)) (by rw [c4]; rfl) c5 c6 (MVp.mk' c7 (fun i h1 h2 => (no h1 h2).elim) (fun i h1 h2 => (no h1 h2).elim) (fun i h1 h2 => (no h1 h2).elim) (fun i h1 h2 => (no h1 h2).elim) (fun i h1 h2 => (no h1 h2).elim)) (RPp.mk' c8 (fun i h1 h2 => (no h1 h2).elim) (fun i h1 h2 => (no h1 h2).elim) (fun i h1 h2 => (no h1 h2).elim) (fun i h1 h2 => (no h1 h2).elim) (fun i h1 h2 => (no h1 h2).elim)) c9 (fun i h1 h2 => (no h1 h2).elim)
  · exact RepM.mk' d1 (fun i h1 h2 => (no h1 h2).elim) d2 (fun i h1 h2 => (no h1 h2).elim) (fun i h1 h2 => (no h1 h2).elim) (fun i t h1 h2 => (no h1 h2).elim) (fun i t h1 h2 => (no h1 h2).elim) (fun j t _ _ _ _ => m42 _) (fun i t m h1 h2 => (no h1 h2).elim) d3 (fun i h1 h2 => (no h1 h2).elim) (fun i t h1 h2 => (no h1 h2).elim) (fun i h1 h2 => (no h1 h2).elim) (fun i t h1 h2 => (no h1 h2).elim) (fun i t h1 h2 => (no h1 h2).elim) (fun c _ _ => m49 c) (fun c _ _ => m50 c) (fun c _ _ => m51 c) d4 (fun w => absurd rfl w) d5 d6 (fun i h1 h2 => (no h1 h2).elim) (fun i h1 h2 => (no h1 h2).elim) (fun i h1 h2 => (no h1 h2).elim) (fun i h1 h2 => (no h1 h2).elim) (fun i h1 h2 => (no h1 h2).elim) d7 (fun i h1 h2 => (no h1 h2).elim) (fun i h1 h2 => (no h1 h2).elim) (fun i k h1 h2 => (no h1 h2).elim) (fun i h1 h2 => (no h1 h2).elim) (fun i h1 h2 => (no h1 h2).elim) d8 (fun i h1 h2 => (no h1 h2).elim)
  · exact DuesC.mk' (by show 0 ≤ g 15 8 ∧ g 15 8 ≤ 0; omega) (fun i h1 h2 => by omega)
