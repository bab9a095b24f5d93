/-! PURE 7: the state that both keep, and what it must be like -/
theorem and_t {a b : Prop} (h : a) : (a ∧ b) = b := propext ⟨fun q => q.2, fun q => ⟨h, q⟩⟩
theorem ne_t {x y : Int} (h : x ≠ y) : (x ≠ y) = True := propext ⟨fun _ => trivial, fun _ => h⟩
theorem vb_p {e : Int} {f : Int → Prop} : vb e f = f e := propext ⟨fun q => q, fun q => q⟩
theorem hb_p {e : Hh} {f : Hh → Prop} : hb e f = f e := propext ⟨fun q => q, fun q => q⟩
/-- goes on through a pure walk: what omega can decide is decided -/
syntax "ev" "[" Lean.Parser.Tactic.simpLemma,* "]" : tactic
macro_rules
  | `(tactic| ev [$ls,*]) => `(tactic| simp (disch := omega) only [vb_p, hb_p, w32_id, w64_id, if_pos, if_neg, and_t, Int.reduceAdd, Int.reduceMul, Int.reduceSub, Int.reduceNeg, Int.zero_add, ite_true, ite_false, $ls,*])
/-- the digit (base 100) at a place from behind -/
def dg (m j : Int) : Int := if j = 0 then m % 100 else if j = 1 then m / 100 % 100 else if j = 2 then m / 10000 % 100 else m / 1000000 % 100
theorem dg_bd (m j : Int) : 0 ≤ dg m j ∧ dg m j < 100 := by
  unfold dg
  split
  · omega
  · split
    · omega
    · split
      · omega
      · omega
def nst (a b : Int) : Int := (2 * a + b) / (2 * b)
structure St where
  size : Int
  txt : Int → Int
  rules : Int
  terms : Int → Int
  const : Int → Int
  kind : Int → Int → Int
  sign : Int → Int → Int
  many : Int → Int → Int
  val : Int → Int → Int → Int
  scn : Int → Int
  sc : Int → Int → Int
  charts : Int
  crule : Int → Int
  ord : Int → Int → Int
  wide : Int → Int
  left : Int → Int → Int
  right : Int → Int → Int
  seam : Int → Int
  low : Int → Int
  upp : Int → Int
  rdC : Int
  rdM : Int
  now : Int
  moves : Int
  mC : Int → Int
  mT : Int → Int
  mM : Int → Int
  mN : Int → Int
  mD : Int → Int
  reps : Int
  rB : Int → Int
  rC : Int → Int
  rM : Int → Int
  rS : Int → Int
  rD : Int → Int
  listed : Int
  list : Int → Int
/-- the scale: the first n of v, rising, each once -/
structure Scale (sc : Int → Int) (cnt : Int) (v : Int → Int) (n : Int) : Prop where
  num : 0 ≤ cnt ∧ cnt ≤ n
  up : ∀ i j, 0 ≤ i → i < j → j < cnt → sc i < sc j
  inn : ∀ i, 0 ≤ i → i < cnt → ∃ m, 0 ≤ m ∧ m < n ∧ v m = sc i
  out : ∀ m, 0 ≤ m → m < n → ∃ i, 0 ≤ i ∧ i < cnt ∧ sc i = v m
structure RuleOk (S : St) (j : Int) : Prop where
  terms : 3 ≤ S.terms j ∧ S.terms j ≤ 5
  const : -2000000 ≤ S.const j ∧ S.const j ≤ 2000000
  kind : ∀ t, 0 ≤ t → t < S.terms j → 0 ≤ S.kind j t ∧ S.kind j t ≤ 2
  sign : ∀ t, 0 ≤ t → t < S.terms j → S.sign j t = 1 ∨ S.sign j t = -1
  many : ∀ t, 0 ≤ t → t < S.terms j → S.many j t = 0 ∨ (2 ≤ S.many j t ∧ S.many j t ≤ 40)
  val : ∀ t m, 0 ≤ t → t < S.terms j → 0 ≤ m → m < S.many j t → -10000 ≤ S.val j t m ∧ S.val j t m ≤ 10000
  scale : Scale (S.sc j) (S.scn j) (S.val j 0) (S.many j 0)
def St.nn (S : St) (c : Int) : Int := S.terms (S.crule c) - 1
structure ChartOk (S : St) (c : Int) : Prop where
  rule : 0 ≤ S.crule c ∧ S.crule c < S.rules
  ord : ∀ k, 0 ≤ k → k < S.terms (S.crule c) - 1 → 1 ≤ S.ord c k ∧ S.ord c k < S.terms (S.crule c)
  many : ∀ t, 0 ≤ t → t < S.terms (S.crule c) → 2 ≤ S.many (S.crule c) t
  wide : 10 ≤ S.wide c ∧ S.wide c ≤ 1000
  left : ∀ p, 0 ≤ p → p < S.terms (S.crule c) - 2 → 1 ≤ S.left c p ∧ S.left c p ≤ 50
  right : ∀ p, 0 ≤ p → p < S.terms (S.crule c) - 2 → 1 ≤ S.right c p ∧ S.right c p ≤ 50
/-- a reading's marks are there -/
structure RdOk (S : St) (c m : Int) : Prop where
  chart : 0 ≤ c ∧ c < S.charts
  pos : 0 ≤ m ∧ m < 2147483648
  dig : ∀ k, 0 ≤ k → k < S.terms (S.crule c) - 1 → dg m (S.terms (S.crule c) - 2 - k) < S.many (S.crule c) (S.ord c k)
structure WF (S : St) : Prop where
  size : 0 ≤ S.size ∧ S.size ≤ 120
  txt : ∀ i, 0 ≤ i → i < S.size → -128 ≤ S.txt i ∧ S.txt i < 128
  rules : 0 ≤ S.rules ∧ S.rules ≤ 6
  rule : ∀ j, 0 ≤ j → j < S.rules → RuleOk S j
  fresh : ∀ j t, S.rules ≤ j → S.many j t = 0
  charts : 0 ≤ S.charts ∧ S.charts ≤ 6
  chart : ∀ c, 0 ≤ c → c < S.charts → ChartOk S c
  pap : ∀ c, pap (S.seam c) (S.low c) (S.upp c)
  cfresh : ∀ c, S.charts ≤ c → S.seam c = 0 ∧ S.low c = 0 ∧ S.upp c = 0
  rd : S.rdC = -1 ∨ RdOk S S.rdC S.rdM
  now : 0 ≤ S.now ∧ S.now ≤ 300
  moves : 0 ≤ S.moves ∧ S.moves ≤ 40
  mN : ∀ i, 0 ≤ i → i < S.moves → -99999 ≤ S.mN i ∧ S.mN i ≤ 99999
  reps : 0 ≤ S.reps ∧ S.reps ≤ 60
  rep : ∀ i, 0 ≤ i → i < S.reps → RdOk S (S.rC i) (S.rM i)
  rS : ∀ i, 0 ≤ i → i < S.reps → 0 ≤ S.rS i ∧ S.rS i ≤ 399
  rB : ∀ i, 0 ≤ i → i < S.reps → 0 ≤ S.rB i ∧ S.rB i ≤ 7
  listed : 0 ≤ S.listed ∧ S.listed ≤ 4
  list : ∀ i, 0 ≤ i → i < S.listed → 1 ≤ S.list i ∧ S.list i ≤ 50
/-- a Rule of the class at R keeps the rule j -/
structure RuleC (h : Hh) (R : Int) (S : St) (j : Int) : Prop where
  terms : h R 0 = S.terms j
  const : h R 1 = S.const j
  scn : h R 7 = S.scn j
  kind : ∀ t, 0 ≤ t → t < S.terms j → h (R + 1) t = S.kind j t
  sign : ∀ t, 0 ≤ t → t < S.terms j → h (R + 2) t = S.sign j t
  many : ∀ t, 0 ≤ t → t < S.terms j → h (R + 3) t = S.many j t
  val : ∀ t m, 0 ≤ t → t < S.terms j → 0 ≤ m → m < S.many j t → h (R + 4 + 1 + t) m = S.val j t m
  sc : ∀ i, 0 ≤ i → i < S.scn j → h (R + 10) i = S.sc j i
/-- leasts and greatests of signed values -/
structure IsLeast (S : St) (r t x : Int) : Prop where
  le : ∀ m, 0 ≤ m → m < S.many r t → x ≤ S.sign r t * S.val r t m
  ex : ∃ m, 0 ≤ m ∧ m < S.many r t ∧ x = S.sign r t * S.val r t m
structure IsMost (S : St) (r t x : Int) : Prop where
  ge : ∀ m, 0 ≤ m → m < S.many r t → S.sign r t * S.val r t m ≤ x
  ex : ∃ m, 0 ≤ m ∧ m < S.many r t ∧ x = S.sign r t * S.val r t m
/-- a Chart of the class at C keeps the chart c -/
structure ChartC (h : Hh) (C : Int) (S : St) (c : Int) : Prop where
  rule : h C 0 = h 6 (S.crule c)
  number : h C 1 = c
  size : h C 2 = S.terms (S.crule c) - 1
  pages : h C 3 = S.terms (S.crule c) - 2
  wide : h C 4 = S.wide c
  ord : ∀ k, 0 ≤ k → k < S.terms (S.crule c) - 1 → h (C + 1) k = S.ord c k
  left : ∀ p, 0 ≤ p → p < S.terms (S.crule c) - 2 → h (C + 2) p = S.left c p
  right : ∀ p, 0 ≤ p → p < S.terms (S.crule c) - 2 → h (C + 3) p = S.right c p
  least0 : IsLeast S (S.crule c) (S.ord c 0) (h (C + 4) 0)
  least : ∀ k, 0 ≤ k → k < S.terms (S.crule c) - 2 → IsLeast S (S.crule c) (S.ord c (k + 1)) (h (C + 4) (k + 1) - h (C + 4) k)
  most0 : IsMost S (S.crule c) (S.ord c 0) (h (C + 5) 0)
  most : ∀ k, 0 ≤ k → k < S.terms (S.crule c) - 2 → IsMost S (S.crule c) (S.ord c (k + 1)) (h (C + 5) (k + 1) - h (C + 5) k)
  seam : h (C + 6) 0 = S.seam c
  low : h (C + 6) 1 = S.low c
  upp : h (C + 6) 2 = S.upp c
/-- the class's cells keep the state -/
structure RepC (h : Hh) (S : St) : Prop where
  size : h 1 1 = S.size
  txt : ∀ i, 0 ≤ i → i < S.size → h 2 i = S.txt i
  rules : h 0 3 = S.rules
  rule : ∀ j, 0 ≤ j → j < S.rules → RuleC h (h 6 j) S j
  ra : ∀ j, 0 ≤ j → j < S.rules → 72 ≤ h 6 j ∧ h 6 j + 11 ≤ h (-1) 0
  raa : ∀ i j, 0 ≤ i → i < j → j < S.rules → h 6 i + 11 ≤ h 6 j
  charts : h 0 5 = S.charts
  chart : ∀ c, 0 ≤ c → c < S.charts → ChartC h (h 7 c) S c
  ca : ∀ j, 0 ≤ j → j < S.charts → 72 ≤ h 7 j ∧ h 7 j + 7 ≤ h (-1) 0
  caa : ∀ i j, 0 ≤ i → i < j → j < S.charts → h 7 i + 7 ≤ h 7 j
  rca : ∀ i j, 0 ≤ i → i < S.rules → 0 ≤ j → j < S.charts → h 6 i + 11 ≤ h 7 j ∨ h 7 j + 7 ≤ h 6 i
  rdC : h 0 9 = if S.rdC = -1 then -1 else h 7 S.rdC
  rdM : h 0 10 = S.rdM
  now : h 0 8 = S.now
  moves : h 9 5 = S.moves
  mC : ∀ i, 0 ≤ i → i < S.moves → h 10 i = S.mC i
  mT : ∀ i, 0 ≤ i → i < S.moves → h 11 i = S.mT i
  mM : ∀ i, 0 ≤ i → i < S.moves → h 12 i = S.mM i
  mN : ∀ i, 0 ≤ i → i < S.moves → h 13 i = S.mN i
  mD : ∀ i, 0 ≤ i → i < S.moves → h 14 i = S.mD i
  reps : h 15 7 = S.reps
  rB : ∀ i, 0 ≤ i → i < S.reps → h 16 i = S.rB i
  rC : ∀ i, 0 ≤ i → i < S.reps → h 17 i = S.rC i
  rM : ∀ i, 0 ≤ i → i < S.reps → h 18 i = S.rM i
  rS : ∀ i, 0 ≤ i → i < S.reps → h 19 i = S.rS i
  rD : ∀ i, 0 ≤ i → i < S.reps → h 20 i = S.rD i
  listed : h 0 7 = S.listed
  list : ∀ i, 0 ≤ i → i < S.listed → h 8 i = S.list i
  room : 72 ≤ h (-1) 0
/-- the reference's cells keep the state -/
structure RepM (h : Hh) (S : St) : Prop where
  size : h 33 1 = S.size
  txt : ∀ i, 0 ≤ i → i < S.size → h 34 i = S.txt i
  rules : h 33 11 = S.rules
  terms : ∀ j, 0 ≤ j → j < S.rules → h 38 j = S.terms j
  const : ∀ j, 0 ≤ j → j < S.rules → h 39 j = S.const j
  kind : ∀ j t, 0 ≤ j → j < S.rules → 0 ≤ t → t < S.terms j → h 40 (5 * j + t) = S.kind j t
  sign : ∀ j t, 0 ≤ j → j < S.rules → 0 ≤ t → t < S.terms j → h 41 (5 * j + t) = S.sign j t
  many : ∀ j t, 0 ≤ j → j < 6 → 0 ≤ t → t < 5 → h 42 (5 * j + t) = S.many j t
  val : ∀ j t m, 0 ≤ j → j < S.rules → 0 ≤ t → t < S.terms j → 0 ≤ m → m < S.many j t → h 43 (40 * (5 * j + t) + m) = S.val j t m
  charts : h 33 18 = S.charts
  crule : ∀ c, 0 ≤ c → c < S.charts → h 44 c = S.crule c
  ord : ∀ c k, 0 ≤ c → c < S.charts → 0 ≤ k → k < S.terms (S.crule c) - 1 → h 45 (4 * c + k) = S.ord c k
  wide : ∀ c, 0 ≤ c → c < S.charts → h 46 c = S.wide c
  left : ∀ c p, 0 ≤ c → c < S.charts → 0 ≤ p → p < S.terms (S.crule c) - 2 → h 47 (3 * c + p) = S.left c p
  right : ∀ c p, 0 ≤ c → c < S.charts → 0 ≤ p → p < S.terms (S.crule c) - 2 → h 48 (3 * c + p) = S.right c p
  seam : ∀ c, 0 ≤ c → c < 6 → h 49 c = S.seam c
  low : ∀ c, 0 ≤ c → c < 6 → h 50 c = S.low c
  upp : ∀ c, 0 ≤ c → c < 6 → h 51 c = S.upp c
  rdC : h 33 27 = S.rdC
  rdM : S.rdC ≠ -1 → ∀ k, 0 ≤ k → k < S.terms (S.crule S.rdC) - 1 → h 52 k = dg S.rdM (S.terms (S.crule S.rdC) - 2 - k)
  now : h 33 29 = S.now
  moves : h 33 30 = S.moves
  mC : ∀ i, 0 ≤ i → i < S.moves → h 53 i = S.mC i
  mT : ∀ i, 0 ≤ i → i < S.moves → h 54 i = S.mT i
  mM : ∀ i, 0 ≤ i → i < S.moves → h 55 i = S.mM i
  mN : ∀ i, 0 ≤ i → i < S.moves → h 56 i = S.mN i
  mD : ∀ i, 0 ≤ i → i < S.moves → h 57 i = S.mD i
  reps : h 33 36 = S.reps
  rB : ∀ i, 0 ≤ i → i < S.reps → h 58 i = S.rB i
  rC : ∀ i, 0 ≤ i → i < S.reps → h 59 i = S.rC i
  rM : ∀ i k, 0 ≤ i → i < S.reps → 0 ≤ k → k < S.terms (S.crule (S.rC i)) - 1 → h 60 (4 * i + k) = dg (S.rM i) (S.terms (S.crule (S.rC i)) - 2 - k)
  rS : ∀ i, 0 ≤ i → i < S.reps → h 61 i = S.rS i
  rD : ∀ i, 0 ≤ i → i < S.reps → h 62 i = S.rD i
  listed : h 33 42 = S.listed
  list : ∀ i, 0 ≤ i → i < S.listed → h 63 i = S.list i
/-- what the class only scribbles on; what the reference only scribbles on -/
def scC (a k : Int) : Prop := (3 ≤ a ∧ a ≤ 5) ∨ (a = 15 ∧ k = 8) ∨ (21 ≤ a ∧ a ≤ 32)
def scM (a k : Int) : Prop := (a = 33 ∧ ((2 ≤ k ∧ k ≤ 6) ∨ k = 10 ∨ (50 ≤ k ∧ k ≤ 58))) ∨ (35 ≤ a ∧ a ≤ 37) ∨ (64 ≤ a ∧ a ≤ 71)
def eqC (h h' : Hh) : Prop := ∀ a k, ¬ scC a k → h' a k = h a k
def eqM (h h' : Hh) : Prop := ∀ a k, ¬ scM a k → h' a k = h a k
/-- the reference's cells are untouched; all others are untouched -/
def keepM (h h' : Hh) : Prop := ∀ a, 33 ≤ a → a < 72 → h' a = h a
def keepC (h h' : Hh) : Prop := ∀ a, ¬ (33 ≤ a ∧ a < 72) → h' a = h a
def simC (h h' : Hh) : Prop := ∀ a k, ¬ (33 ≤ a ∧ a ≤ 71) → ¬ scC a k → h' a k = h a k
def simM (h h' : Hh) : Prop := ∀ a k, 33 ≤ a → a ≤ 71 → ¬ scM a k → h' a k = h a k
theorem eqC.rfl' {h : Hh} : eqC h h := fun _ _ _ => rfl
theorem eqM.rfl' {h : Hh} : eqM h h := fun _ _ _ => rfl
theorem eqC.sc {h h' : Hh} (e : eqC h h') : simC h h' := fun a k _ q => e a k q
theorem eqM.sm {h h' : Hh} (e : eqM h h') : simM h h' := fun a k _ _ q => e a k q
theorem eqC.sm {h h' : Hh} (e : eqC h h') : simM h h' := fun a k h1 h2 q => e a k (by unfold scC; omega)
theorem eqM.sc {h h' : Hh} (e : eqM h h') : simC h h' := fun a k h1 q => e a k (by unfold scM; omega)
theorem eqC.trans {h h1 h2 : Hh} (a : eqC h h1) (b : eqC h1 h2) : eqC h h2 := fun x k q => (b x k q).trans (a x k q)
theorem eqM.trans {h h1 h2 : Hh} (a : eqM h h1) (b : eqM h1 h2) : eqM h h2 := fun x k q => (b x k q).trans (a x k q)
theorem eqC.up {h h' : Hh} {a k x : Int} (e : eqC h h') (q : scC a k) : eqC h (up h' a k x) := by
  intro b j hb
  show (if b = a ∧ j = k then x else h' b j) = _
  rw [if_neg (fun w => hb (by rw [w.1, w.2]; exact q))]
  exact e b j hb
theorem eqM.up {h h' : Hh} {a k x : Int} (e : eqM h h') (q : scM a k) : eqM h (up h' a k x) := by
  intro b j hb
  show (if b = a ∧ j = k then x else h' b j) = _
  rw [if_neg (fun w => hb (by rw [w.1, w.2]; exact q))]
  exact e b j hb
theorem RuleC.keep {h h' : Hh} {R : Int} {S : St} {j : Int} (a : RuleC h R S j) (e : ∀ b, R ≤ b → b < R + 11 → h' b = h b) (ht : S.terms j ≤ 5) : RuleC h' R S j where
  terms := by rw [e R (by omega) (by omega)]; exact a.terms
  const := by rw [e R (by omega) (by omega)]; exact a.const
  scn := by rw [e R (by omega) (by omega)]; exact a.scn
  kind := fun t h1 h2 => by rw [e (R + 1) (by omega) (by omega)]; exact a.kind t h1 h2
  sign := fun t h1 h2 => by rw [e (R + 2) (by omega) (by omega)]; exact a.sign t h1 h2
  many := fun t h1 h2 => by rw [e (R + 3) (by omega) (by omega)]; exact a.many t h1 h2
  val := fun t m h1 h2 h3 h4 => by rw [e (R + 4 + 1 + t) (by omega) (by omega)]; exact a.val t m h1 h2 h3 h4
  sc := fun i h1 h2 => by rw [e (R + 10) (by omega) (by omega)]; exact a.sc i h1 h2
theorem ChartC.keep {h h' : Hh} {C : Int} {S : St} {c : Int} (a : ChartC h C S c) (e : ∀ b, C ≤ b → b < C + 7 → h' b = h b) (e6 : h' 6 = h 6) : ChartC h' C S c where
  rule := by rw [e C (by omega) (by omega), e6]; exact a.rule
  number := by rw [e C (by omega) (by omega)]; exact a.number
  size := by rw [e C (by omega) (by omega)]; exact a.size
  pages := by rw [e C (by omega) (by omega)]; exact a.pages
  wide := by rw [e C (by omega) (by omega)]; exact a.wide
  ord := by rw [e (C + 1) (by omega) (by omega)]; exact a.ord
  left := by rw [e (C + 2) (by omega) (by omega)]; exact a.left
  right := by rw [e (C + 3) (by omega) (by omega)]; exact a.right
  least0 := by rw [e (C + 4) (by omega) (by omega)]; exact a.least0
  least := by rw [e (C + 4) (by omega) (by omega)]; exact a.least
  most0 := by rw [e (C + 5) (by omega) (by omega)]; exact a.most0
  most := by rw [e (C + 5) (by omega) (by omega)]; exact a.most
  seam := by rw [e (C + 6) (by omega) (by omega)]; exact a.seam
  low := by rw [e (C + 6) (by omega) (by omega)]; exact a.low
  upp := by rw [e (C + 6) (by omega) (by omega)]; exact a.upp
/-- the class's state over other cells that are alike where it matters -/
theorem RepC.keep {h h' : Hh} {S : St} (w : WF S) (a : RepC h S) (e : simC h h') : RepC h' S := by
  have n3 : ∀ b : Int, ¬ (3 ≤ b ∧ b ≤ 5) → b ≠ 15 → ¬ (21 ≤ b ∧ b ≤ 71) → h' b = h b := fun b h1 h2 h3 => funext fun k => e b k (by omega) (by unfold scC; omega)
  have n15 : ∀ k, k ≠ 8 → h' 15 k = h 15 k := fun k hk => e 15 k (by omega) (by unfold scC; omega)
  have e0 := n3 0 (by omega) (by omega) (by omega)
  have e1 := n3 1 (by omega) (by omega) (by omega)
  have e2 := n3 2 (by omega) (by omega) (by omega)
  have e6 := n3 6 (by omega) (by omega) (by omega)
  have e7 := n3 7 (by omega) (by omega) (by omega)
  have e8 := n3 8 (by omega) (by omega) (by omega)
  have e9 := n3 9 (by omega) (by omega) (by omega)
  have e10 := n3 10 (by omega) (by omega) (by omega)
  have e11 := n3 11 (by omega) (by omega) (by omega)
  have e12 := n3 12 (by omega) (by omega) (by omega)
  have e13 := n3 13 (by omega) (by omega) (by omega)
  have e14 := n3 14 (by omega) (by omega) (by omega)
  have e16 := n3 16 (by omega) (by omega) (by omega)
  have e17 := n3 17 (by omega) (by omega) (by omega)
  have e18 := n3 18 (by omega) (by omega) (by omega)
  have e19 := n3 19 (by omega) (by omega) (by omega)
  have e20 := n3 20 (by omega) (by omega) (by omega)
  have em := n3 (-1) (by omega) (by omega) (by omega)
  have e15 := n15 7 (by omega)
  refine ⟨?_, ?_, ?_, ?_, ?_, ?_, ?_, ?_, ?_, ?_, ?_, ?_, ?_, ?_, ?_, ?_, ?_, ?_, ?_, ?_, ?_, ?_, ?_, ?_, ?_, ?_, ?_, ?_, ?_⟩ <;> (try rw [e0]) <;> (try rw [e1]) <;> (try rw [e2]) <;> (try rw [e6]) <;> (try rw [e7]) <;> (try rw [e8]) <;> (try rw [e9]) <;> (try rw [e10]) <;> (try rw [e11]) <;> (try rw [e12]) <;> (try rw [e13]) <;> (try rw [e14]) <;> (try rw [e15]) <;> (try rw [e16]) <;> (try rw [e17]) <;> (try rw [e18]) <;> (try rw [e19]) <;> (try rw [e20]) <;> (try rw [em])
  · exact a.size
  · exact a.txt
  · exact a.rules
  · intro j h1 h2
    have q := a.ra j h1 h2
    exact (a.rule j h1 h2).keep (fun b h3 h4 => n3 b (by omega) (by omega) (by omega)) (w.rule j h1 h2).terms.2
  · exact a.ra
  · exact a.raa
  · exact a.charts
  · intro j h1 h2
    have q := a.ca j h1 h2
    exact (a.chart j h1 h2).keep (fun b h3 h4 => n3 b (by omega) (by omega) (by omega)) e6
  · exact a.ca
  · exact a.caa
  · exact a.rca
  · exact a.rdC
  · exact a.rdM
  · exact a.now
  · exact a.moves
  · exact a.mC
  · exact a.mT
  · exact a.mM
  · exact a.mN
  · exact a.mD
  · exact a.reps
  · exact a.rB
  · exact a.rC
  · exact a.rM
  · exact a.rS
  · exact a.rD
  · exact a.listed
  · exact a.list
  · exact a.room
/-- the same for the reference -/
theorem RepM.keep {h h' : Hh} {S : St} (a : RepM h S) (e : simM h h') : RepM h' S := by
  have n : ∀ b : Int, 34 ≤ b → ¬ (35 ≤ b ∧ b ≤ 37) → b < 64 → h' b = h b := fun b h1 h2 h3 => funext fun k => e b k (by omega) (by omega) (by unfold scM; omega)
  have n33 : ∀ k, ¬ (2 ≤ k ∧ k ≤ 6) → k ≠ 10 → ¬ (50 ≤ k ∧ k ≤ 58) → h' 33 k = h 33 k := fun k h1 h2 h3 => e 33 k (by omega) (by omega) (by unfold scM; omega)
  have m : ∀ b : Int, 38 ≤ b → b ≤ 63 → h' b = h b := fun b h1 h2 => n b (by omega) (by omega) (by omega)
  refine ⟨?_, ?_, ?_, ?_, ?_, ?_, ?_, ?_, ?_, ?_, ?_, ?_, ?_, ?_, ?_, ?_, ?_, ?_, ?_, ?_, ?_, ?_, ?_, ?_, ?_, ?_, ?_, ?_, ?_, ?_, ?_, ?_, ?_, ?_, ?_⟩
  · rw [n33 1 (by omega) (by omega) (by omega)]; exact a.size
  · rw [n 34 (by omega) (by omega) (by omega)]; exact a.txt
  · rw [n33 11 (by omega) (by omega) (by omega)]; exact a.rules
  · rw [m 38 (by omega) (by omega)]; exact a.terms
  · rw [m 39 (by omega) (by omega)]; exact a.const
  · rw [m 40 (by omega) (by omega)]; exact a.kind
  · rw [m 41 (by omega) (by omega)]; exact a.sign
  · rw [m 42 (by omega) (by omega)]; exact a.many
  · rw [m 43 (by omega) (by omega)]; exact a.val
  · rw [n33 18 (by omega) (by omega) (by omega)]; exact a.charts
  · rw [m 44 (by omega) (by omega)]; exact a.crule
  · rw [m 45 (by omega) (by omega)]; exact a.ord
  · rw [m 46 (by omega) (by omega)]; exact a.wide
  · rw [m 47 (by omega) (by omega)]; exact a.left
  · rw [m 48 (by omega) (by omega)]; exact a.right
  · rw [m 49 (by omega) (by omega)]; exact a.seam
  · rw [m 50 (by omega) (by omega)]; exact a.low
  · rw [m 51 (by omega) (by omega)]; exact a.upp
  · rw [n33 27 (by omega) (by omega) (by omega)]; exact a.rdC
  · rw [m 52 (by omega) (by omega)]; exact a.rdM
  · rw [n33 29 (by omega) (by omega) (by omega)]; exact a.now
  · rw [n33 30 (by omega) (by omega) (by omega)]; exact a.moves
  · rw [m 53 (by omega) (by omega)]; exact a.mC
  · rw [m 54 (by omega) (by omega)]; exact a.mT
  · rw [m 55 (by omega) (by omega)]; exact a.mM
  · rw [m 56 (by omega) (by omega)]; exact a.mN
  · rw [m 57 (by omega) (by omega)]; exact a.mD
  · rw [n33 36 (by omega) (by omega) (by omega)]; exact a.reps
  · rw [m 58 (by omega) (by omega)]; exact a.rB
  · rw [m 59 (by omega) (by omega)]; exact a.rC
  · rw [m 60 (by omega) (by omega)]; exact a.rM
  · rw [m 61 (by omega) (by omega)]; exact a.rS
  · rw [m 62 (by omega) (by omega)]; exact a.rD
  · rw [n33 42 (by omega) (by omega) (by omega)]; exact a.listed
  · rw [m 63 (by omega) (by omega)]; exact a.list
