/-! PURE 24: feed -/
theorem sh_eq (x : BitVec 32) (s : Nat) (hs : s + 8 ≤ 32) : (x >>> s).signExtend 8 = (x.sshiftRight s).signExtend 8 := by
  ext i hi
  simp [BitVec.getElem_signExtend, BitVec.getElem_sshiftRight]
  rw [if_pos (by omega), if_pos (by omega), dif_pos (by omega)]
  exact BitVec.getLsbD_eq_getElem (by omega)
theorem by24 (X : Int32) : (X.toUInt32 >>> ((i32 24).toUInt32 &&& Int32.toUInt32 31)).toInt32.toInt8 = (X >>> (i32 24 &&& 31)).toInt8 := by
  have e1 : ((i32 24).toUInt32 &&& Int32.toUInt32 31) = 24 := by decide
  have e2 : (i32 24 &&& 31) = 24 := by decide
  rw [e1, e2]
  apply Int8.toBitVec_inj.mp
  rw [Int32.toBitVec_toInt8, Int32.toBitVec_toInt8, Int32.toBitVec_shiftRight]
  have a1 : (X.toUInt32 >>> (24 : UInt32)).toInt32.toBitVec = X.toBitVec >>> 24 := by
    show (X.toUInt32 >>> (24 : UInt32)).toBitVec = _
    rw [UInt32.toBitVec_shiftRight]
    rfl
  have a2 : X.toBitVec.sshiftRight' ((24 : Int32).toBitVec.smod 32) = X.toBitVec.sshiftRight 24 := by
    show X.toBitVec.sshiftRight _ = _
    congr 1
  rw [a1, a2]
  exact sh_eq _ 24 (by omega)
theorem by16 (X : Int32) : (X.toUInt32 >>> ((i32 16).toUInt32 &&& Int32.toUInt32 31)).toInt32.toInt8 = (X >>> (i32 16 &&& 31)).toInt8 := by
  have e1 : ((i32 16).toUInt32 &&& Int32.toUInt32 31) = 16 := by decide
  have e2 : (i32 16 &&& 31) = 16 := by decide
  rw [e1, e2]
  apply Int8.toBitVec_inj.mp
  rw [Int32.toBitVec_toInt8, Int32.toBitVec_toInt8, Int32.toBitVec_shiftRight]
  have a1 : (X.toUInt32 >>> (16 : UInt32)).toInt32.toBitVec = X.toBitVec >>> 16 := by
    show (X.toUInt32 >>> (16 : UInt32)).toBitVec = _
    rw [UInt32.toBitVec_shiftRight]
    rfl
  have a2 : X.toBitVec.sshiftRight' ((16 : Int32).toBitVec.smod 32) = X.toBitVec.sshiftRight 16 := by
    show X.toBitVec.sshiftRight _ = _
    congr 1
  rw [a1, a2]
  exact sh_eq _ 16 (by omega)
theorem by8 (X : Int32) : (X.toUInt32 >>> ((i32 8).toUInt32 &&& Int32.toUInt32 31)).toInt32.toInt8 = (X >>> (i32 8 &&& 31)).toInt8 := by
  have e1 : ((i32 8).toUInt32 &&& Int32.toUInt32 31) = 8 := by decide
  have e2 : (i32 8 &&& 31) = 8 := by decide
  rw [e1, e2]
  apply Int8.toBitVec_inj.mp
  rw [Int32.toBitVec_toInt8, Int32.toBitVec_toInt8, Int32.toBitVec_shiftRight]
  have a1 : (X.toUInt32 >>> (8 : UInt32)).toInt32.toBitVec = X.toBitVec >>> 8 := by
    show (X.toUInt32 >>> (8 : UInt32)).toBitVec = _
    rw [UInt32.toBitVec_shiftRight]
    rfl
  have a2 : X.toBitVec.sshiftRight' ((8 : Int32).toBitVec.smod 32) = X.toBitVec.sshiftRight 8 := by
    show X.toBitVec.sshiftRight _ = _
    congr 1
  rw [a1, a2]
  exact sh_eq _ 8 (by omega)
theorem by0 (X : Int32) : (X.toUInt32 >>> ((i32 0).toUInt32 &&& Int32.toUInt32 31)).toInt32.toInt8 = (X >>> (i32 0 &&& 31)).toInt8 := by
  have e1 : ((i32 0).toUInt32 &&& Int32.toUInt32 31) = 0 := by decide
  have e2 : (i32 0 &&& 31) = 0 := by decide
  rw [e1, e2]
  apply Int8.toBitVec_inj.mp
  rw [Int32.toBitVec_toInt8, Int32.toBitVec_toInt8, Int32.toBitVec_shiftRight]
  have a1 : (X.toUInt32 >>> (0 : UInt32)).toInt32.toBitVec = X.toBitVec >>> 0 := by
    show (X.toUInt32 >>> (0 : UInt32)).toBitVec = _
    rw [UInt32.toBitVec_shiftRight]
    rfl
  have a2 : X.toBitVec.sshiftRight' ((0 : Int32).toBitVec.smod 32) = X.toBitVec.sshiftRight 0 := by
    show X.toBitVec.sshiftRight _ = _
    congr 1
  rw [a1, a2]
  exact sh_eq _ 0 (by omega)
/-- a byte of a word -/
def byt (x s : Int) : Int := ((i32 x >>> (i32 s &&& 31)).toInt8).toInt
theorem byt_bd (x s : Int) : -128 ≤ byt x s ∧ byt x s < 128 := by
  unfold byt
  have h1 := Int8.le_toInt ((i32 x >>> (i32 s &&& 31)).toInt8)
  have h2 := Int8.toInt_lt ((i32 x >>> (i32 s &&& 31)).toInt8)
  omega
theorem byt_M (x s : Int) : (i32 ((i32 x >>> (i32 s &&& 31)).toInt)).toInt8.toInt32.toInt = byt x s := by
  unfold byt
  rw [i32_of, Int8.toInt_toInt32]
theorem byt_C {x s : Int} (hs : s = 24 ∨ s = 16 ∨ s = 8 ∨ s = 0) : (i32 (((i32 x).toUInt32 >>> ((i32 s).toUInt32 &&& Int32.toUInt32 31)).toInt32.toInt)).toInt8.toInt32.toInt = byt x s := by
  unfold byt
  rw [i32_of, Int8.toInt_toInt32]
  rcases hs with e | e | e | e <;> subst e
  · rw [by24]
  · rw [by16]
  · rw [by8]
  · rw [by0]
/-- the class adds four bytes -/
theorem c_add {h0 : Hh} {x L : Int} (hL : h0 1 1 = L) (hb0 : 0 ≤ L ∧ L + 4 ≤ 120) {K : Int → Hh → Prop} (hK : ∀ h, (∀ a, a ≠ 1 → a ≠ 2 → h a = h0 a) → h 1 1 = L + 4 → (∀ r, 0 ≤ r → r < 4 → h 2 (L + r) = byt x (24 - 8 * r)) → (∀ j, j < L ∨ L + 4 ≤ j → h 2 j = h0 2 j) → K 0 h) : w_X8_add 1 x h0 K := by
  unfold w_X8_add
  have loop : ∀ (k n : Nat) (r s : Int) (h : Hh), k < n → 4 - r = k → 0 ≤ r → r ≤ 4 → s = 24 - 8 * r → (∀ a, a ≠ 1 → a ≠ 2 → h a = h0 a) → h 1 1 = L + r → (∀ q, 0 ≤ q → q < r → h 2 (L + q) = byt x (24 - 8 * q)) → (∀ j, j < L ∨ L + 4 ≤ j → h 2 j = h0 2 j) → w_X8_add_3 K 1 n x s h := by
    intro k
    induction k with
    | zero =>
      intro n r s h hn hk h1 h2 hs k0 k1 k2 k3
      obtain ⟨n, rfl⟩ : ∃ m, n = m + 1 := ⟨n - 1, by omega⟩
      have er : r = 4 := by omega
      subst er
      rw [w_X8_add_3, if_pos (by omega)]
      exact hK h k0 k1 k2 k3
    | succ k ih =>
      intro n r s h hn hk h1 h2 hs k0 k1 k2 k3
      obtain ⟨n, rfl⟩ : ∃ m, n = m + 1 := ⟨n - 1, by omega⟩
      rw [w_X8_add_3, if_neg (by omega), byt_C (by omega)]
      unfold w_X8_add_42
      simp only [hb_p, vb_p, Int.reduceAdd]
      rw [k1, if_neg (by omega), and_t (by omega), up_ne (show (1 : Int) ≠ 2 by decide), k1, w32_id (by omega) (by omega), w32_id (by omega) (by omega)]
      refine ih n (r + 1) _ _ (by omega) (by omega) (by omega) (by omega) (by omega) (fun a a1 a2 => by rw [up_ne a1, up_ne a2]; exact k0 a a1 a2) (by rw [up_at, if_pos rfl]; omega) (fun q q1 q2 => ?_) (fun j hj => ?_)
      · rw [up_ne (by decide), up_at]
        by_cases e : q = r
        · rw [if_pos (by omega), e, hs]
        · rw [if_neg (by omega)]; exact k2 q q1 (by omega)
      · rw [up_ne (by decide), up_at, if_neg (by omega)]
        exact k3 j hj
  exact loop 4 NF 0 24 h0 (by decide) (by omega) (by omega) (by omega) (by omega) (fun _ _ _ => rfl) (by omega) (fun q q1 q2 => by omega) (fun _ _ => rfl)
/-- the q-th of twenty bytes -/
def fby (a b c d e q : Int) : Int := byt (if q < 4 then a else if q < 8 then b else if q < 12 then c else if q < 16 then d else e) (24 - 8 * (q % 4))
def St.fd (a b c d e : Int) (S : St) : St := if S.size + 20 ≤ 120 then (St.mk (S.size + 20) (fun j => if j < S.size then S.txt j else fby a b c d e (j - S.size)) S.rules S.terms S.const S.kind S.sign S.many S.val S.scn S.sc S.charts S.crule S.ord S.wide S.left S.right S.seam S.low S.upp S.rdC S.rdM S.now S.moves S.mC S.mT S.mM S.mN S.mD S.reps S.rB S.rC S.rM S.rS S.rD S.listed S.list) else S
theorem a_feed (a b c d e : Int) : Agree (w_X10_feed 0 a b c d e) (w_X11_feed 33 a b c d e) := by
  refine agree_u (fun S => if S.size + 20 ≤ 120 then S.size + 20 else -1) (St.fd a b c d e) ?_ ?_ ?_
  · intro S w
    unfold St.fd
    split
    · rename_i q
      have sb := w.size
      refine w.upd RcEq.triv (by show 0 ≤ S.size + 20 ∧ S.size + 20 ≤ 120; omega) ?_ (w.rd' RcEq.triv rfl rfl) w.now w.moves w.mN w.reps (fun i h1 h2 => (w.rep i h1 h2).to' RcEq.triv) w.rS w.rB w.listed w.list
      intro i h1 h2
      show -128 ≤ (if i < S.size then S.txt i else fby a b c d e (i - S.size)) ∧ (if i < S.size then S.txt i else fby a b c d e (i - S.size)) < 128
      by_cases q2 : i < S.size
      · rw [if_pos q2]; exact w.txt i h1 q2
      · rw [if_neg q2]; exact byt_bd _ _
    · exact w
  · intro h S b0 K hK
    have sb := b0.w.size
    have e1 := b0.c.size
    unfold w_X10_feed
    simp only [Int.reduceAdd]
    simp only [e1, w32_id (z := S.size + 20) (show -2147483648 ≤ S.size + 20 by omega) (show S.size + 20 < 2147483648 by omega)]
    unfold St.fd at hK
    by_cases q : S.size + 20 ≤ 120
    · simp only [if_pos q] at hK
      rw [if_pos q]
      refine c_add e1 (by omega) (fun h1 a1 a2 a3 a4 => ?_)
      refine c_add a2 (by omega) (fun h2 b1 b2 b3 b4 => ?_)
      refine c_add b2 (by omega) (fun h3 c1 c2 c3 c4 => ?_)
      refine c_add c2 (by omega) (fun h4 d1 d2 d3 d4 => ?_)
      refine c_add d2 (by omega) (fun h5 f1 f2 f3 f4 => ?_)
      have k : ∀ x, x ≠ 1 → x ≠ 2 → h5 x = h x := fun x x1 x2 => by rw [f1 x x1 x2, d1 x x1 x2, c1 x x1 x2, b1 x x1 x2, a1 x x1 x2]
      have ez : S.size + 4 + 4 + 4 + 4 + 4 = S.size + 20 := by omega
      rw [f2, ez]
      refine hK h5 ?_ ?_ (fun x x1 x2 => k x (by omega) (by omega))
      · refine RepC.of (by rw [f2, ez]; rfl) ?_ ?_ (by rw [k 0 (by decide) (by decide), k 7 (by decide) (by decide)]; exact b0.c.rdC) (by rw [k 0 (by decide) (by decide)]; exact b0.c.rdM) (by rw [k 0 (by decide) (by decide)]; exact b0.c.now) ?_ ?_ (by rw [k 0 (by decide) (by decide)]; exact b0.c.listed) (by rw [k 8 (by decide) (by decide)]; exact b0.c.list)
        · intro j h1 h2
          have h2 : j < S.size + 20 := h2
          show h5 2 j = if j < S.size then S.txt j else fby a b c d e (j - S.size)
          unfold fby
          by_cases j0 : j < S.size
          · rw [if_pos j0, f4 j (by omega), d4 j (by omega), c4 j (by omega), b4 j (by omega), a4 j (by omega)]
            exact b0.c.txt j h1 j0
          · rw [if_neg j0]
            by_cases j1 : j < S.size + 4
            · rw [f4 j (by omega), d4 j (by omega), c4 j (by omega), b4 j (by omega), if_pos (by omega)]
              have := a3 (j - S.size) (by omega) (by omega)
              rw [show S.size + (j - S.size) = j by omega] at this
              rw [this, show (j - S.size) % 4 = j - S.size by omega]
            · by_cases j2 : j < S.size + 8
              · rw [f4 j (by omega), d4 j (by omega), c4 j (by omega), if_neg (by omega), if_pos (by omega)]
                have := b3 (j - S.size - 4) (by omega) (by omega)
                rw [show S.size + 4 + (j - S.size - 4) = j by omega] at this
                rw [this, show (j - S.size) % 4 = j - S.size - 4 by omega]
              · by_cases j3 : j < S.size + 12
                · rw [f4 j (by omega), d4 j (by omega), if_neg (by omega), if_neg (by omega), if_pos (by omega)]
                  have := c3 (j - S.size - 8) (by omega) (by omega)
                  rw [show S.size + 4 + 4 + (j - S.size - 8) = j by omega] at this
                  rw [this, show (j - S.size) % 4 = j - S.size - 8 by omega]
                · by_cases j4 : j < S.size + 16
                  · rw [f4 j (by omega), if_neg (by omega), if_neg (by omega), if_neg (by omega), if_pos (by omega)]
                    have := d3 (j - S.size - 12) (by omega) (by omega)
                    rw [show S.size + 4 + 4 + 4 + (j - S.size - 12) = j by omega] at this
                    rw [this, show (j - S.size) % 4 = j - S.size - 12 by omega]
                  · rw [if_neg (by omega), if_neg (by omega), if_neg (by omega), if_neg (by omega)]
                    have := f3 (j - S.size - 16) (by omega) (by omega)
                    rw [show S.size + 4 + 4 + 4 + 4 + (j - S.size - 16) = j by omega] at this
                    rw [this, show (j - S.size) % 4 = j - S.size - 16 by omega]
        · exact b0.c.rcp.to b0.w RcEq.triv (by rw [k 0 (by decide) (by decide)]) (by rw [k 0 (by decide) (by decide)]) (k 6 (by decide) (by decide)) (k 7 (by decide) (by decide)) (by rw [k (-1) (by decide) (by decide)]) (fun x hx => k x (by omega) (by omega))
        · exact b0.c.mvp.to mvEq6 (fun x h1 h2 => k x (by omega) (by omega))
        · exact b0.c.rpp.to rpEq6 (by rw [k 15 (by decide) (by decide)]) (fun x h1 h2 => k x (by omega) (by omega))
      · exact b0.d.to (by rw [k 15 (by decide) (by decide)]) (k 21 (by decide) (by decide)) (Int.le_refl _) (dsame RcEq.triv mvEq6 rpEq6)
    · simp only [if_neg q] at hK
      rw [if_neg q]
      exact hK h b0.c b0.d (fun _ _ _ => rfl)
  · intro h S x K hK
    have sb := x.wf.size
    have rp := x.rep
    unfold w_X11_feed
    simp only [rp.size, w32_id (z := S.size + 20) (show -2147483648 ≤ S.size + 20 by omega) (show S.size + 20 < 2147483648 by omega)]
    unfold St.fd at hK
    by_cases q : S.size + 20 ≤ 120
    · simp only [if_pos q] at hK
      rw [if_pos q]
      have loop : ∀ (k n : Nat) (i : Int) (h1 : Hh), k < n → 20 - i = k → 0 ≤ i → i ≤ 20 → (∀ y, y ≠ 33 → y ≠ 34 → h1 y = h y) → (∀ j, j ≠ 1 → h1 33 j = h 33 j) → h1 33 1 = S.size + i → (∀ j, j < S.size → h1 34 j = h 34 j) → (∀ j, 0 ≤ j → j < i → h1 34 (S.size + j) = fby a b c d e j) → w_X11_feed_17 K 33 n a b c d e i h1 := by
        intro k
        induction k with
        | zero =>
          intro n i h1 hn hk i1 i2 k0 k1 k2 k3 k4
          obtain ⟨n, rfl⟩ : ∃ m, n = m + 1 := ⟨n - 1, by omega⟩
          have ei : i = 20 := by omega
          subst ei
          rw [w_X11_feed_17, if_pos (by omega), k2]
          refine hK h1 ?_ (fun y hy => k0 y (by omega) (by omega))
          refine rp.upd (fun y h1 h2 => k0 y (by omega) (by omega)) (k1 _ (by decide)) (k1 _ (by decide)) RcEq.triv k2 ?_ (by rw [k1 _ (by decide)]; exact rp.rdC) (by rw [k0 52 (by decide) (by decide)]; exact rp.rdM) (by rw [k1 _ (by decide)]; exact rp.now) (by rw [k1 _ (by decide)]; exact rp.moves) (by rw [k0 53 (by decide) (by decide)]; exact rp.mC) (by rw [k0 54 (by decide) (by decide)]; exact rp.mT) (by rw [k0 55 (by decide) (by decide)]; exact rp.mM) (by rw [k0 56 (by decide) (by decide)]; exact rp.mN) (by rw [k0 57 (by decide) (by decide)]; exact rp.mD) (by rw [k1 _ (by decide)]; exact rp.reps) (by rw [k0 58 (by decide) (by decide)]; exact rp.rB) (by rw [k0 59 (by decide) (by decide)]; exact rp.rC) (by rw [k0 60 (by decide) (by decide)]; exact rp.rM) (by rw [k0 61 (by decide) (by decide)]; exact rp.rS) (by rw [k0 62 (by decide) (by decide)]; exact rp.rD) (by rw [k1 _ (by decide)]; exact rp.listed) (by rw [k0 63 (by decide) (by decide)]; exact rp.list)
          intro j j1 j2
          have j2 : j < S.size + 20 := j2
          show h1 34 j = if j < S.size then S.txt j else fby a b c d e (j - S.size)
          by_cases j0 : j < S.size
          · rw [if_pos j0, k3 j j0]; exact rp.txt j j1 j0
          · rw [if_neg j0]
            have := k4 (j - S.size) (by omega) (by omega)
            rw [show S.size + (j - S.size) = j by omega] at this
            exact this
        | succ k ih =>
          intro n i h1 hn hk i1 i2 k0 k1 k2 k3 k4
          obtain ⟨n, rfl⟩ : ∃ m, n = m + 1 := ⟨n - 1, by omega⟩
          have one : ∀ wd, byt wd (24 - 8 * (i % 4)) = fby a b c d e i → w_X11_feed_70 K (w_X11_feed_17 K 33 n) 33 a b c d e i wd h1 := by
            intro wd hwd
            have tm : Int.tmod i 4 = i % 4 := Int.tmod_eq_emod_of_nonneg i1
            unfold w_X11_feed_70
            simp only [hb_p, vb_p, Int.reduceAdd]
            rw [tm, w32_id (z := 8 * (i % 4)) (by omega) (by omega), w32_id (z := 24 - 8 * (i % 4)) (by omega) (by omega), byt_M, hwd, k2, and_t (by omega), up_ne (show (33 : Int) ≠ 34 by decide), k2, w32_id (by omega) (by omega), w32_id (by omega) (by omega)]
            refine ih n (i + 1) _ (by omega) (by omega) (by omega) (by omega) (fun y y1 y2 => by rw [up_ne y1, up_ne y2]; exact k0 y y1 y2) (fun j hj => by rw [up_at, if_neg hj, up_ne (by decide)]; exact k1 j hj) (by rw [up_at, if_pos rfl]; omega) (fun j hj => by rw [up_ne (by decide), up_at, if_neg (by omega)]; exact k3 j hj) (fun j j1 j2 => ?_)
            rw [up_ne (by decide), up_at]
            by_cases e2 : j = i
            · rw [if_pos (by omega), e2]
            · rw [if_neg (by omega)]; exact k4 j j1 (by omega)
          rw [w_X11_feed_17, if_neg (by omega)]
          unfold fby at one
          by_cases q1 : i ≥ 4
          · rw [if_pos q1]; rw [if_neg (by omega)] at one
            by_cases q2 : i ≥ 8
            · rw [if_pos q2]; rw [if_neg (by omega)] at one
              by_cases q3 : i ≥ 12
              · rw [if_pos q3]; rw [if_neg (by omega)] at one
                by_cases q4 : i ≥ 16
                · rw [if_pos q4]; rw [if_neg (by omega)] at one
                  exact one e rfl
                · rw [if_neg q4]; rw [if_pos (by omega)] at one
                  exact one d rfl
              · rw [if_neg q3]; rw [if_pos (by omega)] at one
                exact one c rfl
            · rw [if_neg q2]; rw [if_pos (by omega)] at one
              exact one b rfl
          · rw [if_neg q1]; rw [if_pos (by omega)] at one
            exact one a rfl
      exact loop 20 NF 0 h (by decide) (by omega) (by omega) (by omega) (fun _ _ _ => rfl) (fun _ _ => rfl) (by rw [rp.size]; omega) (fun _ _ => rfl) (fun j j1 j2 => by omega)
    · simp only [if_neg q] at hK
      rw [if_neg q]
      exact hK h x.rep (fun _ _ => rfl)
