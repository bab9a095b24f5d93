/-! PURE 13: both together; how a step goes -/
noncomputable def St.due (S : St) (i : Int) : Int := tnn (S.sc (S.crule (S.rC i))) (S.scn (S.crule (S.rC i))) (S.f (S.rC i) (S.rM i) (S.rD i))
structure DuesC (h : Hh) (S : St) : Prop where
  known : 0 ≤ h 15 8 ∧ h 15 8 ≤ S.reps
  due : ∀ i, 0 ≤ i → i < h 15 8 → h 21 i = S.due i
structure Both (h : Hh) (S : St) : Prop where
  c : RepC h S
  m : RepM h S
  w : WF S
  d : DuesC h S
theorem DuesC.keep {h h' : Hh} {S : St} (a : DuesC h S) (e1 : h' 15 8 = h 15 8) (e2 : h' 21 = h 21) : DuesC h' S := ⟨by rw [e1]; exact a.known, by rw [e1, e2]; exact a.due⟩
theorem Both.ofW {h h' : Hh} {S : St} (b : Both h S) (e : eqW h h') : Both h' S := ⟨b.c.keep b.w e.c.sc, b.m.keep e.c.sm, b.w, b.d.keep (by rw [e.at (by omega) (by omega)]) (e.at (by omega) (by omega))⟩
theorem Both.ofM {h h' : Hh} {S : St} (b : Both h S) (e : eqM h h') : Both h' S := ⟨b.c.keep b.w e.sc, b.m.keep e.sm, b.w, b.d.keep (by rw [e.at (by omega) (by omega) (by omega)]) (e.at (by omega) (by omega) (by omega))⟩
theorem Both.mx {h : Hh} {S : St} (b : Both h S) : Mx h S := ⟨b.m, b.w⟩
theorem keepM.m {h h' : Hh} {S : St} (e : keepM h h') (a : RepM h S) : RepM h' S := a.keep (fun b k h1 h2 _ => by rw [e b h1 (by omega)])
theorem keepC.c {h h' : Hh} {S : St} (e : keepC h h') (w : WF S) (a : RepC h S) : RepC h' S := a.keep w (fun b k h1 _ => by rw [e b (by omega)])
theorem keepC.d {h h' : Hh} {S : St} (e : keepC h h') (a : DuesC h S) : DuesC h' S := a.keep (by rw [e 15 (by omega)]) (e 21 (by omega))
/-- a call answers alike on both sides, and both go on alike -/
def Agree (wc wm : Hh → (Int → Hh → Prop) → Prop) : Prop := ∀ (h : Hh) (S : St), Both h S → ∀ (B C : Hh → Prop), (∀ h' S', Both h' S' → B h') → wc h (fun r1 h1 => (0 : Int) ≤ 33 ∧ wm h1 (fun r2 h2 => if r1 = r2 then B h2 else C h2))
theorem agree_q {wc wm : Hh → (Int → Hh → Prop) → Prop} (r : St → Int) (hc : ∀ h S, Both h S → ∀ K, (∀ h', eqW h h' → K (r S) h') → wc h K) (hm : ∀ h S, Mx h S → ∀ K, (∀ h', eqM h h' → K (r S) h') → wm h K) : Agree wc wm := by
  intro h S b B C hB
  refine hc h S b _ (fun h1 e1 => ⟨by omega, ?_⟩)
  refine hm h1 S (b.ofW e1).mx _ (fun h2 e2 => ?_)
  rw [if_pos rfl]
  exact hB h2 S ((b.ofW e1).ofM e2)
theorem agree_u {wc wm : Hh → (Int → Hh → Prop) → Prop} (r : St → Int) (f : St → St) (hw : ∀ S, WF S → WF (f S)) (hc : ∀ h S, Both h S → ∀ K, (∀ h', RepC h' (f S) → DuesC h' (f S) → keepM h h' → K (r S) h') → wc h K) (hm : ∀ h S, Mx h S → ∀ K, (∀ h', RepM h' (f S) → keepC h h' → K (r S) h') → wm h K) : Agree wc wm := by
  intro h S b B C hB
  refine hc h S b _ (fun h1 a1 a2 a3 => ⟨by omega, ?_⟩)
  refine hm h1 S ⟨a3.m b.m, b.w⟩ _ (fun h2 b1 b2 => ?_)
  rw [if_pos rfl]
  have w := hw S b.w
  exact hB h2 (f S) ⟨b2.c w a1, b1, w, b2.d a2⟩
/-- a state's rules and charts are those of another -/
structure RuEq (S S' : St) (j : Int) : Prop where
  terms : S'.terms j = S.terms j
  const : S'.const j = S.const j
  kind : S'.kind j = S.kind j
  sign : S'.sign j = S.sign j
  many : S'.many j = S.many j
  val : S'.val j = S.val j
  scn : S'.scn j = S.scn j
  sc : S'.sc j = S.sc j
structure ChEq (S S' : St) (c : Int) : Prop where
  crule : S'.crule c = S.crule c
  ord : S'.ord c = S.ord c
  wide : S'.wide c = S.wide c
  left : S'.left c = S.left c
  right : S'.right c = S.right c
structure PaEq (S S' : St) (c : Int) : Prop where
  seam : S'.seam c = S.seam c
  low : S'.low c = S.low c
  upp : S'.upp c = S.upp c
structure MvEq (S S' : St) : Prop where
  moves : S'.moves = S.moves
  mC : S'.mC = S.mC
  mT : S'.mT = S.mT
  mM : S'.mM = S.mM
  mN : S'.mN = S.mN
  mD : S'.mD = S.mD
theorem RuleOk.to {S S' : St} {j : Int} (a : RuleOk S j) (e : RuEq S S' j) : RuleOk S' j where
  terms := by rw [e.terms]; exact a.terms
  const := by rw [e.const]; exact a.const
  kind := by rw [e.terms, e.kind]; exact a.kind
  sign := by rw [e.terms, e.sign]; exact a.sign
  many := by rw [e.terms, e.many]; exact a.many
  val := by rw [e.terms, e.many, e.val]; exact a.val
  scale := by rw [e.sc, e.scn, e.val, e.many]; exact a.scale
theorem ChartOk.to {S S' : St} {c : Int} (a : ChartOk S c) (e : ChEq S S' c) (r : RuEq S S' (S.crule c)) (hr : S.rules ≤ S'.rules) : ChartOk S' c where
  rule := by rw [e.crule]; have := a.rule; omega
  ord := by rw [e.crule, e.ord, r.terms]; exact a.ord
  many := by rw [e.crule, r.terms, r.many]; exact a.many
  wide := by rw [e.wide]; exact a.wide
  left := by rw [e.crule, r.terms, e.left]; exact a.left
  right := by rw [e.crule, r.terms, e.right]; exact a.right
theorem RdOk.to {S S' : St} {c M : Int} (a : RdOk S c M) (e : ChEq S S' c) (r : RuEq S S' (S.crule c)) (hr : S.charts ≤ S'.charts) : RdOk S' c M where
  chart := by have := a.chart; omega
  pos := a.pos
  dig := by rw [e.crule, r.terms, r.many, e.ord]; exact a.dig
theorem RuleC.to {h h' : Hh} {R : Int} {S S' : St} {j : Int} (a : RuleC h R S j) (e : RuEq S S' j) (k : ∀ b, R ≤ b → b < R + 11 → h' b = h b) (ht : S.terms j ≤ 5) : RuleC h' R S' j := by
  have a' := a.keep k ht
  exact ⟨by rw [e.terms]; exact a'.terms, by rw [e.const]; exact a'.const, by rw [e.scn]; exact a'.scn, by rw [e.terms, e.kind]; exact a'.kind, by rw [e.terms, e.sign]; exact a'.sign, by rw [e.terms, e.many]; exact a'.many, by rw [e.terms, e.many, e.val]; exact a'.val, by rw [e.scn, e.sc]; exact a'.sc⟩
theorem IsLeast.to {S S' : St} {r t x : Int} (a : IsLeast S r t x) (e : RuEq S S' r) : IsLeast S' r t x := ⟨by rw [e.many, e.sign, e.val]; exact a.le, by rw [e.many, e.sign, e.val]; exact a.ex⟩
theorem IsMost.to {S S' : St} {r t x : Int} (a : IsMost S r t x) (e : RuEq S S' r) : IsMost S' r t x := ⟨by rw [e.many, e.sign, e.val]; exact a.ge, by rw [e.many, e.sign, e.val]; exact a.ex⟩
theorem ChartC.to {h h' : Hh} {C : Int} {S S' : St} {c : Int} (a : ChartC h C S c) (e : ChEq S S' c) (p : PaEq S S' c) (r : RuEq S S' (S.crule c)) (k : ∀ b, C ≤ b → b < C + 7 → h' b = h b) (e6 : h' 6 (S.crule c) = h 6 (S.crule c)) : ChartC h' C S' c where
  rule := by rw [k C (by omega) (by omega), e.crule, e6]; exact a.rule
  number := by rw [k C (by omega) (by omega)]; exact a.number
  size := by rw [k C (by omega) (by omega), e.crule, r.terms]; exact a.size
  pages := by rw [k C (by omega) (by omega), e.crule, r.terms]; exact a.pages
  wide := by rw [k C (by omega) (by omega), e.wide]; exact a.wide
  ord := by rw [k (C + 1) (by omega) (by omega), e.crule, r.terms, e.ord]; exact a.ord
  left := by rw [k (C + 2) (by omega) (by omega), e.crule, r.terms, e.left]; exact a.left
  right := by rw [k (C + 3) (by omega) (by omega), e.crule, r.terms, e.right]; exact a.right
  least0 := by rw [k (C + 4) (by omega) (by omega), e.crule, e.ord]; exact a.least0.to r
  least := by rw [k (C + 4) (by omega) (by omega), e.crule, r.terms, e.ord]; exact fun k h1 h2 => (a.least k h1 h2).to r
  most0 := by rw [k (C + 5) (by omega) (by omega), e.crule, e.ord]; exact a.most0.to r
  most := by rw [k (C + 5) (by omega) (by omega), e.crule, r.terms, e.ord]; exact fun k h1 h2 => (a.most k h1 h2).to r
  seam := by rw [k (C + 6) (by omega) (by omega), p.seam]; exact a.seam
  low := by rw [k (C + 6) (by omega) (by omega), p.low]; exact a.low
  upp := by rw [k (C + 6) (by omega) (by omega), p.upp]; exact a.upp
/-- the same walks -/
theorem mvd_to {S S' : St} {c : Int} (e : ChEq S S' c) (r : RuEq S S' (S.crule c)) (m : MvEq S S') (t mk d : Int) : ∀ k, S'.mvd c t mk d k = S.mvd c t mk d k := by
  intro k
  induction k with
  | zero =>
    show S'.sg (S'.crule c) t mk = S.sg (S.crule c) t mk
    unfold St.sg
    rw [e.crule, r.sign, r.val]
  | succ k ih =>
    show (if S'.mC k = c ∧ S'.mT k = t ∧ S'.mM k = mk ∧ S'.mD k ≤ d then S'.mN k else S'.mvd c t mk d k) = (if S.mC k = c ∧ S.mT k = t ∧ S.mM k = mk ∧ S.mD k ≤ d then S.mN k else S.mvd c t mk d k)
    rw [ih, m.mC, m.mT, m.mM, m.mN, m.mD]
theorem nv_to {S S' : St} {c : Int} (e : ChEq S S' c) (r : RuEq S S' (S.crule c)) (m : MvEq S S') (M d k : Int) : S'.nv c M d k = S.nv c M d k := by
  unfold St.nv St.num
  rw [mvd_to e r m, e.ord, e.crule, r.terms, m.moves]
theorem wk_to {S S' : St} {c : Int} (e : ChEq S S' c) (p : PaEq S S' c) (r : RuEq S S' (S.crule c)) (m : MvEq S S') (M d : Int) : ∀ k, S'.wk c M d k = S.wk c M d k := by
  intro k
  induction k with
  | zero => exact nv_to e r m M d 0
  | succ k ih =>
    show S'.sum c k (S'.bak c (S'.meet c k (S'.lie c (S'.left c k * S'.wk c M d k)) (S'.lie c (S'.right c k * S'.nv c M d (k + 1))))) = S.sum c k (S.bak c (S.meet c k (S.lie c (S.left c k * S.wk c M d k)) (S.lie c (S.right c k * S.nv c M d (k + 1)))))
    rw [ih, nv_to e r m]
    unfold St.sum St.bak St.meet St.mid St.lie
    rw [e.left, e.right, e.wide, p.seam, p.low, p.upp]
theorem f_to {S S' : St} {c : Int} (e : ChEq S S' c) (p : PaEq S S' c) (r : RuEq S S' (S.crule c)) (m : MvEq S S') (M d : Int) : S'.f c M d = S.f c M d := by
  unfold St.f
  rw [wk_to e p r m, e.crule, r.terms, r.const]
theorem due_to {S S' : St} {i : Int} (e : ChEq S S' (S.rC i)) (p : PaEq S S' (S.rC i)) (r : RuEq S S' (S.crule (S.rC i))) (m : MvEq S S') (h1 : S'.rC i = S.rC i) (h2 : S'.rM i = S.rM i) (h3 : S'.rD i = S.rD i) : S'.due i = S.due i := by
  unfold St.due
  rw [h1, h2, h3, f_to e p r m, e.crule, r.sc, r.scn]
