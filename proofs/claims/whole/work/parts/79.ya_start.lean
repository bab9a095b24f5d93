/-! PURE 35: through both constructors -/
theorem dfl_L_8 : ∀ p ∈ ([(1, 1, 0)] : List (Int × Int × Int)), p.1 = 1 ∧ dfl 8 p.2.1 = p.2.2 := by
  intro p hp
  simp only [List.mem_cons, List.mem_nil_iff, or_false] at hp
  subst hp
  exact ⟨rfl, dfl_8_1⟩
theorem dfl_L_5 : ∀ p ∈ ([] : List (Int × Int × Int)), p.1 = 3 ∧ dfl 5 p.2.1 = p.2.2 := by
  intro p hp
  exact absurd hp (by simp)
theorem dfl_L_1 : ∀ p ∈ ([(9, 5, 0)] : List (Int × Int × Int)), p.1 = 9 ∧ dfl 1 p.2.1 = p.2.2 := by
  intro p hp
  simp only [List.mem_cons, List.mem_nil_iff, or_false] at hp
  subst hp
  exact ⟨rfl, dfl_1_5⟩
theorem dfl_L_6 : ∀ p ∈ ([(15, 7, 0), (15, 8, 0)] : List (Int × Int × Int)), p.1 = 15 ∧ dfl 6 p.2.1 = p.2.2 := by
  intro p hp
  simp only [List.mem_cons, List.mem_nil_iff, or_false] at hp
  rcases hp with e | e <;> subst e
  · exact ⟨rfl, dfl_6_7⟩
  · exact ⟨rfl, dfl_6_8⟩
theorem dfl_L_9 : ∀ p ∈ ([] : List (Int × Int × Int)), p.1 = 24 ∧ dfl 9 p.2.1 = p.2.2 := by
  intro p hp
  exact absurd hp (by simp)
theorem dfl_L_3 : ∀ p ∈ ([] : List (Int × Int × Int)), p.1 = 25 ∧ dfl 3 p.2.1 = p.2.2 := by
  intro p hp
  exact absurd hp (by simp)
theorem dfl_L_2 : ∀ p ∈ ([] : List (Int × Int × Int)), p.1 = 28 ∧ dfl 2 p.2.1 = p.2.2 := by
  intro p hp
  exact absurd hp (by simp)
theorem dfl_L_11 : ∀ p ∈ ([(33, 1, 0), (33, 11, 0), (33, 18, 0), (33, 29, 0), (33, 30, 0), (33, 36, 0), (33, 42, 0)] : List (Int × Int × Int)), p.1 = 33 ∧ dfl 11 p.2.1 = p.2.2 := by
  intro p hp
  simp only [List.mem_cons, List.mem_nil_iff, or_false] at hp
  rcases hp with e | e | e | e | e | e | e <;> subst e
  · exact ⟨rfl, dfl_11_1⟩
  · exact ⟨rfl, dfl_11_11⟩
  · exact ⟨rfl, dfl_11_18⟩
  · exact ⟨rfl, dfl_11_29⟩
  · exact ⟨rfl, dfl_11_30⟩
  · exact ⟨rfl, dfl_11_36⟩
  · exact ⟨rfl, dfl_11_42⟩
theorem dfl_L_10 : ∀ p ∈ ([(0, 3, 0), (0, 5, 0), (0, 7, 0), (0, 8, 0), (0, 10, 0), (0, 9, -1)] : List (Int × Int × Int)), p.1 = 0 ∧ dfl 10 p.2.1 = p.2.2 := by
  intro p hp
  simp only [List.mem_cons, List.mem_nil_iff, or_false] at hp
  rcases hp with e | e | e | e | e | e <;> subst e
  · exact ⟨rfl, dfl_10_3⟩
  · exact ⟨rfl, dfl_10_5⟩
  · exact ⟨rfl, dfl_10_7⟩
  · exact ⟨rfl, dfl_10_8⟩
  · exact ⟨rfl, dfl_10_10⟩
  · exact ⟨rfl, dfl_10_9⟩
theorem Fa.get {L : List (Int × Int × Int)} {Z : List Int} {z : Int} {g : Hh} (F : Fa L Z z g) {a k v : Int} (h : (a, k, v) ∈ L) : g a k = v := F.2.1 (a, k, v) h
set_option maxRecDepth 20000 in
theorem law_start {sb sn : Int} {sc : Int → Int} {h : Hh} (hh : h (-1) 0 = 0) {K : Int → Hh → Prop} (hL : ∀ g, Both g S0 → w_L_law_18 K sb sn sc NL 0 33 0 g) : w_L_law sb sn sc h K := by
  unfold w_L_law
  rw [vb_p, hh]
  have F : Fa [] [] 0 h := ⟨hh, fun p hp => absurd hp (by simp), fun a ha => absurd ha (by simp)⟩
  refine hb_nwf (L' := [(0, 3, 0), (0, 5, 0), (0, 7, 0), (0, 8, 0), (0, 10, 0), (0, 9, -1)]) (f := dfl 10) F 1 (by decide) (by decide) (by decide +kernel) (by decide +kernel) (fun p hp => dfl_L_10 p hp) (fun g F => ?_)
  refine ⟨by decide, ?_⟩
  have F0 := F.1
  simp only [w_X10_init, w_X8_init, w_X5_init, w_X1_init, w_X6_init, w_X9_init, w_X3_init, w_X2_init, Int.reduceAdd, Int.zero_add]
  repeat (first
    | ((with_reducible refine hb_ups F ?_ ?_ ?_ ?_); decide; decide +kernel; decide +kernel; intro g' F)
    | ((with_reducible refine hb_nwz F _ rfl ?_ ?_ ?_ ?_); decide +kernel; decide +kernel; decide +kernel; intro g' F)
    | ((with_reducible refine hb_nwf (L' := []) (f := fun _ => -1) F _ rfl ?_ ?_ ?_ ?_ ?_); decide +kernel; decide +kernel; decide +kernel; exact fun p hp => absurd hp (by simp); intro g' F)
    | ((with_reducible refine hb_nwf (L' := [(1, 1, 0)]) (f := dfl 8) F 2 ?_ ?_ ?_ ?_ ?_ ?_); decide +kernel; decide +kernel; decide +kernel; decide +kernel; exact fun p hp => dfl_L_8 p hp; intro g' F)
    | ((with_reducible refine hb_nwf (L' := []) (f := dfl 5) F 4 ?_ ?_ ?_ ?_ ?_ ?_); decide +kernel; decide +kernel; decide +kernel; decide +kernel; exact fun p hp => dfl_L_5 p hp; intro g' F)
    | ((with_reducible refine hb_nwf (L' := [(9, 5, 0)]) (f := dfl 1) F 10 ?_ ?_ ?_ ?_ ?_ ?_); decide +kernel; decide +kernel; decide +kernel; decide +kernel; exact fun p hp => dfl_L_1 p hp; intro g' F)
    | ((with_reducible refine hb_nwf (L' := [(15, 7, 0), (15, 8, 0)]) (f := dfl 6) F 16 ?_ ?_ ?_ ?_ ?_ ?_); decide +kernel; decide +kernel; decide +kernel; decide +kernel; exact fun p hp => dfl_L_6 p hp; intro g' F)
    | ((with_reducible refine hb_nwf (L' := []) (f := dfl 9) F 25 ?_ ?_ ?_ ?_ ?_ ?_); decide +kernel; decide +kernel; decide +kernel; decide +kernel; exact fun p hp => dfl_L_9 p hp; intro g' F)
    | ((with_reducible refine hb_nwf (L' := []) (f := dfl 3) F 26 ?_ ?_ ?_ ?_ ?_ ?_); decide +kernel; decide +kernel; decide +kernel; decide +kernel; exact fun p hp => dfl_L_3 p hp; intro g' F)
    | ((with_reducible refine hb_nwf (L' := []) (f := dfl 2) F 29 ?_ ?_ ?_ ?_ ?_ ?_); decide +kernel; decide +kernel; decide +kernel; decide +kernel; exact fun p hp => dfl_L_2 p hp; intro g' F)
    | ((with_reducible refine hb_nwf (L' := [(33, 1, 0), (33, 11, 0), (33, 18, 0), (33, 29, 0), (33, 30, 0), (33, 36, 0), (33, 42, 0)]) (f := dfl 11) F 34 ?_ ?_ ?_ ?_ ?_ ?_); decide +kernel; decide +kernel; decide +kernel; decide +kernel; exact fun p hp => dfl_L_11 p hp; intro g' F)
    | (rw [vb_p, show _ = (33 : Int) from F.1])
    | ((with_reducible refine And.intro ?_ ?_); exact F.1)
    | ((with_reducible refine And.intro ?_ ?_); exact F.get (by decide +kernel))
    | ((with_reducible refine And.intro ?_ ?_); rw [F0]; decide)
    | ((with_reducible refine And.intro ?_ ?_); rw [hh]; decide)
    | ((with_reducible refine And.intro ?_ ?_); decide)
    | ((with_reducible unfold w_X11_init); simp only [Int.reduceAdd]))
  exact hL _ (S0_both F.1 ⟨F.2.1 (1, 1, 0) (by decide +kernel), F.2.1 (0, 3, 0) (by decide +kernel), F.2.1 (0, 5, 0) (by decide +kernel), F.2.1 (0, 9, -1) (by decide +kernel), F.2.1 (0, 10, 0) (by decide +kernel), F.2.1 (0, 8, 0) (by decide +kernel), F.2.1 (9, 5, 0) (by decide +kernel), F.2.1 (15, 7, 0) (by decide +kernel), F.2.1 (0, 7, 0) (by decide +kernel), F.2.1 (15, 8, 0) (by decide +kernel)⟩ ⟨F.2.1 (33, 1, 0) (by decide +kernel), F.2.1 (33, 11, 0) (by decide +kernel), F.2.1 (33, 18, 0) (by decide +kernel), F.2.1 (33, 27, -1) (by decide +kernel), F.2.1 (33, 29, 0) (by decide +kernel), F.2.1 (33, 30, 0) (by decide +kernel), F.2.1 (33, 36, 0) (by decide +kernel), F.2.1 (33, 42, 0) (by decide +kernel)⟩ (F.2.2 42 (by decide +kernel)) (F.2.2 49 (by decide +kernel)) (F.2.2 50 (by decide +kernel)) (F.2.2 51 (by decide +kernel)))
