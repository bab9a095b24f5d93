/-! PURE 13: both together; how a step goes -/
noncomputable def St.due (S : St) (i : Int) : Int := tnn (S.sc (S.crule (S.rC i))) (S.scn (S.crule (S.rC i))) (S.f (S.rC i) (S.rM i) (S.rD i))
def DuesC (h : Hh) (S : St) : Prop := (0 ≤ h 15 8 ∧ h 15 8 ≤ S.reps) ∧ (∀ i, 0 ≤ i → i < h 15 8 → h 21 i = S.due i)
theorem DuesC.known {h : Hh} {S : St} (x__ : DuesC h S) : 0 ≤ h 15 8 ∧ h 15 8 ≤ S.reps := x__.1
theorem DuesC.due {h : Hh} {S : St} (x__ : DuesC h S) : ∀ i, 0 ≤ i → i < h 15 8 → h 21 i = S.due i := x__.2
theorem DuesC.mk' {h : Hh} {S : St} (known__ : 0 ≤ h 15 8 ∧ h 15 8 ≤ S.reps) (due__ : ∀ i, 0 ≤ i → i < h 15 8 → h 21 i = S.due i) : DuesC h S := ⟨known__, due__⟩
def Both (h : Hh) (S : St) : Prop := (RepC h S) ∧ (RepM h S) ∧ (WF S) ∧ (DuesC h S)
theorem Both.c {h : Hh} {S : St} (x__ : Both h S) : RepC h S := x__.1
theorem Both.m {h : Hh} {S : St} (x__ : Both h S) : RepM h S := x__.2.1
theorem Both.w {h : Hh} {S : St} (x__ : Both h S) : WF S := x__.2.2.1
theorem Both.d {h : Hh} {S : St} (x__ : Both h S) : DuesC h S := x__.2.2.2
theorem Both.mk' {h : Hh} {S : St} (c__ : RepC h S) (m__ : RepM h S) (w__ : WF S) (d__ : DuesC h S) : Both h S := ⟨c__, m__, w__, d__⟩
theorem DuesC.keep {h h' : Hh} {S : St} (a : DuesC h S) (e1 : h' 15 8 = h 15 8) (e2 : h' 21 = h 21) : DuesC h' S := ⟨by rw [e1]; exact a.known, by rw [e1, e2]; exact a.due⟩
theorem Both.ofW {h h' : Hh} {S : St} (b : Both h S) (e : eqW h h') : Both h' S := ⟨b.c.keep b.w e.c.sc, b.m.keep e.c.sm, b.w, b.d.keep (by rw [e.at (by omega) (by omega)]) (e.at (by omega) (by omega))⟩
theorem Both.ofM {h h' : Hh} {S : St} (b : Both h S) (e : eqM h h') : Both h' S := ⟨b.c.keep b.w e.sc, b.m.keep e.sm, b.w, b.d.keep (by rw [e.at (by omega) (by omega) (by omega)]) (e.at (by omega) (by omega) (by omega))⟩
theorem Both.mx {h : Hh} {S : St} (b : Both h S) : Mx h S := ⟨b.m, b.w⟩
theorem keepM.m {h h' : Hh} {S : St} (e : keepM h h') (a : RepM h S) : RepM h' S := a.keep (fun b k h1 h2 _ => by rw [e b h1 (by omega)])
theorem keepC.c {h h' : Hh} {S : St} (e : keepC h h') (w : WF S) (a : RepC h S) : RepC h' S := a.keep w (fun b k h1 _ => by rw [e b (by omega)])
theorem keepC.d {h h' : Hh} {S : St} (e : keepC h h') (a : DuesC h S) : DuesC h' S := a.keep (by rw [e 15 (by omega)]) (e 21 (by omega))
/-- a call answers alike on both sides, and both go on alike -/
def Agree (wc wm : Hh → (Int → Hh → Prop) → Prop) : Prop := ∀ (h : Hh) (S : St), Both h S → ∀ (B C : Hh → Prop), (∀ h' S', Both h' S' → B h') → wc h (fun r1 h1 => (0 : Int) ≤ 33 ∧ wm h1 (fun r2 h2 => if r1 = r2 then B h2 else C h2))
theorem agree_q {wc wm : Hh → (Int → Hh → Prop) → Prop} (r : St → Int) (hc : ∀ h S, Both h S → ∀ K, (∀ h', eqW h h' → K (r S) h') → wc h K) (hm : ∀ h S, Mx h S → ∀ K, (∀ h', eqM h h' → K (r S) h') → wm h K) : Agree wc wm := by
  intro h S b B C hB
  refine hc h S b _ (fun h1 e1 => ⟨by omega, ?_⟩)
  refine hm h1 S (b.ofW e1).mx _ (fun h2 e2 => ?_)
  rw [if_pos rfl]
  exact hB h2 S ((b.ofW e1).ofM e2)
theorem agree_u {wc wm : Hh → (Int → Hh → Prop) → Prop} (r : St → Int) (f : St → St) (hw : ∀ S, WF S → WF (f S)) (hc : ∀ h S, Both h S → ∀ K, (∀ h', RepC h' (f S) → DuesC h' (f S) → keepM h h' → K (r S) h') → wc h K) (hm : ∀ h S, Mx h S → ∀ K, (∀ h', RepM h' (f S) → keepC h h' → K (r S) h') → wm h K) : Agree wc wm := by
  intro h S b B C hB
  refine hc h S b _ (fun h1 a1 a2 a3 => ⟨by omega, ?_⟩)
  refine hm h1 S ⟨a3.m b.m, b.w⟩ _ (fun h2 b1 b2 => ?_)
  rw [if_pos rfl]
  have w := hw S b.w
  exact hB h2 (f S) ⟨b2.c w a1, b1, w, b2.d a2⟩
/-- a state's rules and charts are those of another -/
def RuEq (S S' : St) (j : Int) : Prop := (S'.terms j = S.terms j) ∧ (S'.const j = S.const j) ∧ (S'.kind j = S.kind j) ∧ (S'.sign j = S.sign j) ∧ (S'.many j = S.many j) ∧ (S'.val j = S.val j) ∧ (S'.scn j = S.scn j) ∧ (S'.sc j = S.sc j)
theorem RuEq.terms {S S' : St} {j : Int} (x__ : RuEq S S' j) : S'.terms j = S.terms j := x__.1
theorem RuEq.const {S S' : St} {j : Int} (x__ : RuEq S S' j) : S'.const j = S.const j := x__.2.1
theorem RuEq.kind {S S' : St} {j : Int} (x__ : RuEq S S' j) : S'.kind j = S.kind j := x__.2.2.1
theorem RuEq.sign {S S' : St} {j : Int} (x__ : RuEq S S' j) : S'.sign j = S.sign j := x__.2.2.2.1
theorem RuEq.many {S S' : St} {j : Int} (x__ : RuEq S S' j) : S'.many j = S.many j := x__.2.2.2.2.1
theorem RuEq.val {S S' : St} {j : Int} (x__ : RuEq S S' j) : S'.val j = S.val j := x__.2.2.2.2.2.1
theorem RuEq.scn {S S' : St} {j : Int} (x__ : RuEq S S' j) : S'.scn j = S.scn j := x__.2.2.2.2.2.2.1
theorem RuEq.sc {S S' : St} {j : Int} (x__ : RuEq S S' j) : S'.sc j = S.sc j := x__.2.2.2.2.2.2.2
theorem RuEq.mk' {S S' : St} {j : Int} (terms__ : S'.terms j = S.terms j) (const__ : S'.const j = S.const j) (kind__ : S'.kind j = S.kind j) (sign__ : S'.sign j = S.sign j) (many__ : S'.many j = S.many j) (val__ : S'.val j = S.val j) (scn__ : S'.scn j = S.scn j) (sc__ : S'.sc j = S.sc j) : RuEq S S' j := ⟨terms__, const__, kind__, sign__, many__, val__, scn__, sc__⟩
def ChEq (S S' : St) (c : Int) : Prop := (S'.crule c = S.crule c) ∧ (S'.ord c = S.ord c) ∧ (S'.wide c = S.wide c) ∧ (S'.left c = S.left c) ∧ (S'.right c = S.right c)
theorem ChEq.crule {S S' : St} {c : Int} (x__ : ChEq S S' c) : S'.crule c = S.crule c := x__.1
theorem ChEq.ord {S S' : St} {c : Int} (x__ : ChEq S S' c) : S'.ord c = S.ord c := x__.2.1
theorem ChEq.wide {S S' : St} {c : Int} (x__ : ChEq S S' c) : S'.wide c = S.wide c := x__.2.2.1
theorem ChEq.left {S S' : St} {c : Int} (x__ : ChEq S S' c) : S'.left c = S.left c := x__.2.2.2.1
theorem ChEq.right {S S' : St} {c : Int} (x__ : ChEq S S' c) : S'.right c = S.right c := x__.2.2.2.2
theorem ChEq.mk' {S S' : St} {c : Int} (crule__ : S'.crule c = S.crule c) (ord__ : S'.ord c = S.ord c) (wide__ : S'.wide c = S.wide c) (left__ : S'.left c = S.left c) (right__ : S'.right c = S.right c) : ChEq S S' c := ⟨crule__, ord__, wide__, left__, right__⟩
def PaEq (S S' : St) (c : Int) : Prop := (S'.seam c = S.seam c) ∧ (S'.low c = S.low c) ∧ (S'.upp c = S.upp c)
theorem PaEq.seam {S S' : St} {c : Int} (x__ : PaEq S S' c) : S'.seam c = S.seam c := x__.1
theorem PaEq.low {S S' : St} {c : Int} (x__ : PaEq S S' c) : S'.low c = S.low c := x__.2.1
theorem PaEq.upp {S S' : St} {c : Int} (x__ : PaEq S S' c) : S'.upp c = S.upp c := x__.2.2
theorem PaEq.mk' {S S' : St} {c : Int} (seam__ : S'.seam c = S.seam c) (low__ : S'.low c = S.low c) (upp__ : S'.upp c = S.upp c) : PaEq S S' c := ⟨seam__, low__, upp__⟩
def MvEq (S S' : St) : Prop := (S'.moves = S.moves) ∧ (S'.mC = S.mC) ∧ (S'.mT = S.mT) ∧ (S'.mM = S.mM) ∧ (S'.mN = S.mN) ∧ (S'.mD = S.mD)
theorem MvEq.moves {S S' : St} (x__ : MvEq S S') : S'.moves = S.moves := x__.1
theorem MvEq.mC {S S' : St} (x__ : MvEq S S') : S'.mC = S.mC := x__.2.1
theorem MvEq.mT {S S' : St} (x__ : MvEq S S') : S'.mT = S.mT := x__.2.2.1
theorem MvEq.mM {S S' : St} (x__ : MvEq S S') : S'.mM = S.mM := x__.2.2.2.1
theorem MvEq.mN {S S' : St} (x__ : MvEq S S') : S'.mN = S.mN := x__.2.2.2.2.1
theorem MvEq.mD {S S' : St} (x__ : MvEq S S') : S'.mD = S.mD := x__.2.2.2.2.2
theorem MvEq.mk' {S S' : St} (moves__ : S'.moves = S.moves) (mC__ : S'.mC = S.mC) (mT__ : S'.mT = S.mT) (mM__ : S'.mM = S.mM) (mN__ : S'.mN = S.mN) (mD__ : S'.mD = S.mD) : MvEq S S' := ⟨moves__, mC__, mT__, mM__, mN__, mD__⟩
theorem RuleOk.to {S S' : St} {j : Int} (a : RuleOk S j) (e : RuEq S S' j) : RuleOk S' j := RuleOk.mk'
  (terms__ := by rw [e.terms]; exact a.terms)
  (const__ := by rw [e.const]; exact a.const)
  (kind__ := by rw [e.terms, e.kind]; exact a.kind)
  (sign__ := by rw [e.terms, e.sign]; exact a.sign)
  (many__ := by rw [e.terms, e.many]; exact a.many)
  (val__ := by rw [e.terms, e.many, e.val]; exact a.val)
  (scale__ := by rw [e.sc, e.scn, e.val, e.many]; exact a.scale)
theorem ChartOk.to {S S' : St} {c : Int} (a : ChartOk S c) (e : ChEq S S' c) (r : RuEq S S' (S.crule c)) (hr : S.rules ≤ S'.rules) : ChartOk S' c := ChartOk.mk'
  (rule__ := by rw [e.crule]; have := a.rule; omega)
  (ord__ := by rw [e.crule, e.ord, r.terms]; exact a.ord)
  (many__ := by rw [e.crule, r.terms, r.many]; exact a.many)
  (wide__ := by rw [e.wide]; exact a.wide)
  (left__ := by rw [e.crule, r.terms, e.left]; exact a.left)
  (right__ := by rw [e.crule, r.terms, e.right]; exact a.right)
theorem RdOk.to {S S' : St} {c M : Int} (a : RdOk S c M) (e : ChEq S S' c) (r : RuEq S S' (S.crule c)) (hr : S.charts ≤ S'.charts) : RdOk S' c M := RdOk.mk'
  (chart__ := by have := a.chart; omega)
  (pos__ := a.pos)
  (dig__ := by rw [e.crule, r.terms, r.many, e.ord]; exact a.dig)
theorem RuleC.to {h h' : Hh} {R : Int} {S S' : St} {j : Int} (a : RuleC h R S j) (e : RuEq S S' j) (k : ∀ b, R ≤ b → b < R + 11 → h' b = h b) (ht : S.terms j ≤ 5) : RuleC h' R S' j := by
  have a' := a.keep k ht
  exact ⟨by rw [e.terms]; exact a'.terms, by rw [e.const]; exact a'.const, by rw [e.scn]; exact a'.scn, by rw [e.terms, e.kind]; exact a'.kind, by rw [e.terms, e.sign]; exact a'.sign, by rw [e.terms, e.many]; exact a'.many, by rw [e.terms, e.many, e.val]; exact a'.val, by rw [e.scn, e.sc]; exact a'.sc⟩
theorem IsLeast.to {S S' : St} {r t x : Int} (a : IsLeast S r t x) (e : RuEq S S' r) : IsLeast S' r t x := ⟨by rw [e.many, e.sign, e.val]; exact a.le, by rw [e.many, e.sign, e.val]; exact a.ex⟩
theorem IsMost.to {S S' : St} {r t x : Int} (a : IsMost S r t x) (e : RuEq S S' r) : IsMost S' r t x := ⟨by rw [e.many, e.sign, e.val]; exact a.ge, by rw [e.many, e.sign, e.val]; exact a.ex⟩
theorem ChartC.to {h h' : Hh} {C : Int} {S S' : St} {c : Int} (a : ChartC h C S c) (e : ChEq S S' c) (p : PaEq S S' c) (r : RuEq S S' (S.crule c)) (k : ∀ b, C ≤ b → b < C + 7 → h' b = h b) (e6 : h' 6 (S.crule c) = h 6 (S.crule c)) : ChartC h' C S' c := ChartC.mk'
  (rule__ := by rw [k C (by omega) (by omega), e.crule, e6]; exact a.rule)
  (number__ := by rw [k C (by omega) (by omega)]; exact a.number)
  (size__ := by rw [k C (by omega) (by omega), e.crule, r.terms]; exact a.size)
  (pages__ := by rw [k C (by omega) (by omega), e.crule, r.terms]; exact a.pages)
  (wide__ := by rw [k C (by omega) (by omega), e.wide]; exact a.wide)
  (ord__ := by rw [k (C + 1) (by omega) (by omega), e.crule, r.terms, e.ord]; exact a.ord)
  (left__ := by rw [k (C + 2) (by omega) (by omega), e.crule, r.terms, e.left]; exact a.left)
  (right__ := by rw [k (C + 3) (by omega) (by omega), e.crule, r.terms, e.right]; exact a.right)
  (least0__ := by rw [k (C + 4) (by omega) (by omega), e.crule, e.ord]; exact a.least0.to r)
  (least__ := by rw [k (C + 4) (by omega) (by omega), e.crule, r.terms, e.ord]; exact fun k h1 h2 => (a.least k h1 h2).to r)
  (most0__ := by rw [k (C + 5) (by omega) (by omega), e.crule, e.ord]; exact a.most0.to r)
  (most__ := by rw [k (C + 5) (by omega) (by omega), e.crule, r.terms, e.ord]; exact fun k h1 h2 => (a.most k h1 h2).to r)
  (seam__ := by rw [k (C + 6) (by omega) (by omega), p.seam]; exact a.seam)
  (low__ := by rw [k (C + 6) (by omega) (by omega), p.low]; exact a.low)
  (upp__ := by rw [k (C + 6) (by omega) (by omega), p.upp]; exact a.upp)
/-- the same walks -/
theorem mvd_to {S S' : St} {c : Int} (e : ChEq S S' c) (r : RuEq S S' (S.crule c)) (m : MvEq S S') (t mk d : Int) : ∀ k, S'.mvd c t mk d k = S.mvd c t mk d k := by
  intro k
  induction k with
  | zero =>
    show S'.sg (S'.crule c) t mk = S.sg (S.crule c) t mk
    unfold St.sg
    rw [e.crule, r.sign, r.val]
  | succ k ih =>
    show (if S'.mC k = c ∧ S'.mT k = t ∧ S'.mM k = mk ∧ S'.mD k ≤ d then S'.mN k else S'.mvd c t mk d k) = (if S.mC k = c ∧ S.mT k = t ∧ S.mM k = mk ∧ S.mD k ≤ d then S.mN k else S.mvd c t mk d k)
    rw [ih, m.mC, m.mT, m.mM, m.mN, m.mD]
theorem nv_to {S S' : St} {c : Int} (e : ChEq S S' c) (r : RuEq S S' (S.crule c)) (m : MvEq S S') (M d k : Int) : S'.nv c M d k = S.nv c M d k := by
  unfold St.nv St.num
  rw [mvd_to e r m, e.ord, e.crule, r.terms, m.moves]
theorem wk_to {S S' : St} {c : Int} (e : ChEq S S' c) (p : PaEq S S' c) (r : RuEq S S' (S.crule c)) (m : MvEq S S') (M d : Int) : ∀ k, S'.wk c M d k = S.wk c M d k := by
  intro k
  induction k with
  | zero => exact nv_to e r m M d 0
  | succ k ih =>
    show S'.sum c k (S'.bak c (S'.meet c k (S'.lie c (S'.left c k * S'.wk c M d k)) (S'.lie c (S'.right c k * S'.nv c M d (k + 1))))) = S.sum c k (S.bak c (S.meet c k (S.lie c (S.left c k * S.wk c M d k)) (S.lie c (S.right c k * S.nv c M d (k + 1)))))
    rw [ih, nv_to e r m]
    unfold St.sum St.bak St.meet St.mid St.lie
    rw [e.left, e.right, e.wide, p.seam, p.low, p.upp]
theorem f_to {S S' : St} {c : Int} (e : ChEq S S' c) (p : PaEq S S' c) (r : RuEq S S' (S.crule c)) (m : MvEq S S') (M d : Int) : S'.f c M d = S.f c M d := by
  unfold St.f
  rw [wk_to e p r m, e.crule, r.terms, r.const]
theorem due_to {S S' : St} {i : Int} (e : ChEq S S' (S.rC i)) (p : PaEq S S' (S.rC i)) (r : RuEq S S' (S.crule (S.rC i))) (m : MvEq S S') (h1 : S'.rC i = S.rC i) (h2 : S'.rM i = S.rM i) (h3 : S'.rD i = S.rD i) : S'.due i = S.due i := by
  unfold St.due
  rw [h1, h2, h3, f_to e p r m, e.crule, r.sc, r.scn]
