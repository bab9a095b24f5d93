/-! PURE 7: the state that both keep, and what it must be like -/
theorem and_t {a b : Prop} (h : a) : (a ∧ b) = b := propext ⟨fun q => q.2, fun q => ⟨h, q⟩⟩
theorem ne_t {x y : Int} (h : x ≠ y) : (x ≠ y) = True := propext ⟨fun _ => trivial, fun _ => h⟩
theorem vb_p {e : Int} {f : Int → Prop} : vb e f = f e := propext ⟨fun q => q, fun q => q⟩
theorem hb_p {e : Hh} {f : Hh → Prop} : hb e f = f e := propext ⟨fun q => q, fun q => q⟩
/-- the digit (base 100) at a place from behind -/
def dg (m j : Int) : Int := if j = 0 then m % 100 else if j = 1 then m / 100 % 100 else if j = 2 then m / 10000 % 100 else m / 1000000 % 100
theorem dg_bd (m j : Int) : 0 ≤ dg m j ∧ dg m j < 100 := by
  unfold dg
  split
  · omega
  · split
    · omega
    · split
      · omega
      · omega
def nst (a b : Int) : Int := (2 * a + b) / (2 * b)
abbrev St : Type := Int × (Int → Int) × Int × (Int → Int) × (Int → Int) × (Int → Int → Int) × (Int → Int → Int) × (Int → Int → Int) × (Int → Int → Int → Int) × (Int → Int) × (Int → Int → Int) × Int × (Int → Int) × (Int → Int → Int) × (Int → Int) × (Int → Int → Int) × (Int → Int → Int) × (Int → Int) × (Int → Int) × (Int → Int) × Int × Int × Int × Int × (Int → Int) × (Int → Int) × (Int → Int) × (Int → Int) × (Int → Int) × Int × (Int → Int) × (Int → Int) × (Int → Int) × (Int → Int) × (Int → Int) × Int × (Int → Int)
def St.size (S : St) : Int := S.1
def St.txt (S : St) : Int → Int := S.2.1
def St.rules (S : St) : Int := S.2.2.1
def St.terms (S : St) : Int → Int := S.2.2.2.1
def St.const (S : St) : Int → Int := S.2.2.2.2.1
def St.kind (S : St) : Int → Int → Int := S.2.2.2.2.2.1
def St.sign (S : St) : Int → Int → Int := S.2.2.2.2.2.2.1
def St.many (S : St) : Int → Int → Int := S.2.2.2.2.2.2.2.1
def St.val (S : St) : Int → Int → Int → Int := S.2.2.2.2.2.2.2.2.1
def St.scn (S : St) : Int → Int := S.2.2.2.2.2.2.2.2.2.1
def St.sc (S : St) : Int → Int → Int := S.2.2.2.2.2.2.2.2.2.2.1
def St.charts (S : St) : Int := S.2.2.2.2.2.2.2.2.2.2.2.1
def St.crule (S : St) : Int → Int := S.2.2.2.2.2.2.2.2.2.2.2.2.1
def St.ord (S : St) : Int → Int → Int := S.2.2.2.2.2.2.2.2.2.2.2.2.2.1
def St.wide (S : St) : Int → Int := S.2.2.2.2.2.2.2.2.2.2.2.2.2.2.1
def St.left (S : St) : Int → Int → Int := S.2.2.2.2.2.2.2.2.2.2.2.2.2.2.2.1
def St.right (S : St) : Int → Int → Int := S.2.2.2.2.2.2.2.2.2.2.2.2.2.2.2.2.1
def St.seam (S : St) : Int → Int := S.2.2.2.2.2.2.2.2.2.2.2.2.2.2.2.2.2.1
def St.low (S : St) : Int → Int := S.2.2.2.2.2.2.2.2.2.2.2.2.2.2.2.2.2.2.1
def St.upp (S : St) : Int → Int := S.2.2.2.2.2.2.2.2.2.2.2.2.2.2.2.2.2.2.2.1
def St.rdC (S : St) : Int := S.2.2.2.2.2.2.2.2.2.2.2.2.2.2.2.2.2.2.2.2.1
def St.rdM (S : St) : Int := S.2.2.2.2.2.2.2.2.2.2.2.2.2.2.2.2.2.2.2.2.2.1
def St.now (S : St) : Int := S.2.2.2.2.2.2.2.2.2.2.2.2.2.2.2.2.2.2.2.2.2.2.1
def St.moves (S : St) : Int := S.2.2.2.2.2.2.2.2.2.2.2.2.2.2.2.2.2.2.2.2.2.2.2.1
def St.mC (S : St) : Int → Int := S.2.2.2.2.2.2.2.2.2.2.2.2.2.2.2.2.2.2.2.2.2.2.2.2.1
def St.mT (S : St) : Int → Int := S.2.2.2.2.2.2.2.2.2.2.2.2.2.2.2.2.2.2.2.2.2.2.2.2.2.1
def St.mM (S : St) : Int → Int := S.2.2.2.2.2.2.2.2.2.2.2.2.2.2.2.2.2.2.2.2.2.2.2.2.2.2.1
def St.mN (S : St) : Int → Int := S.2.2.2.2.2.2.2.2.2.2.2.2.2.2.2.2.2.2.2.2.2.2.2.2.2.2.2.1
def St.mD (S : St) : Int → Int := S.2.2.2.2.2.2.2.2.2.2.2.2.2.2.2.2.2.2.2.2.2.2.2.2.2.2.2.2.1
def St.reps (S : St) : Int := S.2.2.2.2.2.2.2.2.2.2.2.2.2.2.2.2.2.2.2.2.2.2.2.2.2.2.2.2.2.1
def St.rB (S : St) : Int → Int := S.2.2.2.2.2.2.2.2.2.2.2.2.2.2.2.2.2.2.2.2.2.2.2.2.2.2.2.2.2.2.1
def St.rC (S : St) : Int → Int := S.2.2.2.2.2.2.2.2.2.2.2.2.2.2.2.2.2.2.2.2.2.2.2.2.2.2.2.2.2.2.2.1
def St.rM (S : St) : Int → Int := S.2.2.2.2.2.2.2.2.2.2.2.2.2.2.2.2.2.2.2.2.2.2.2.2.2.2.2.2.2.2.2.2.1
def St.rS (S : St) : Int → Int := S.2.2.2.2.2.2.2.2.2.2.2.2.2.2.2.2.2.2.2.2.2.2.2.2.2.2.2.2.2.2.2.2.2.1
def St.rD (S : St) : Int → Int := S.2.2.2.2.2.2.2.2.2.2.2.2.2.2.2.2.2.2.2.2.2.2.2.2.2.2.2.2.2.2.2.2.2.2.1
def St.listed (S : St) : Int := S.2.2.2.2.2.2.2.2.2.2.2.2.2.2.2.2.2.2.2.2.2.2.2.2.2.2.2.2.2.2.2.2.2.2.2.1
def St.list (S : St) : Int → Int := S.2.2.2.2.2.2.2.2.2.2.2.2.2.2.2.2.2.2.2.2.2.2.2.2.2.2.2.2.2.2.2.2.2.2.2.2
def St.mk (size : Int) (txt : Int → Int) (rules : Int) (terms : Int → Int) (const : Int → Int) (kind : Int → Int → Int) (sign : Int → Int → Int) (many : Int → Int → Int) (val : Int → Int → Int → Int) (scn : Int → Int) (sc : Int → Int → Int) (charts : Int) (crule : Int → Int) (ord : Int → Int → Int) (wide : Int → Int) (left : Int → Int → Int) (right : Int → Int → Int) (seam : Int → Int) (low : Int → Int) (upp : Int → Int) (rdC : Int) (rdM : Int) (now : Int) (moves : Int) (mC : Int → Int) (mT : Int → Int) (mM : Int → Int) (mN : Int → Int) (mD : Int → Int) (reps : Int) (rB : Int → Int) (rC : Int → Int) (rM : Int → Int) (rS : Int → Int) (rD : Int → Int) (listed : Int) (list : Int → Int) : St := (size, txt, rules, terms, const, kind, sign, many, val, scn, sc, charts, crule, ord, wide, left, right, seam, low, upp, rdC, rdM, now, moves, mC, mT, mM, mN, mD, reps, rB, rC, rM, rS, rD, listed, list)
/-- the scale: the first n of v, rising, each once -/
def Scale (sc : Int → Int) (cnt : Int) (v : Int → Int) (n : Int) : Prop := (0 ≤ cnt ∧ cnt ≤ n) ∧ (∀ i j, 0 ≤ i → i < j → j < cnt → sc i < sc j) ∧ (∀ i, 0 ≤ i → i < cnt → ∃ m, 0 ≤ m ∧ m < n ∧ v m = sc i) ∧ (∀ m, 0 ≤ m → m < n → ∃ i, 0 ≤ i ∧ i < cnt ∧ sc i = v m)
theorem Scale.num {sc : Int → Int} {cnt : Int} {v : Int → Int} {n : Int} (x__ : Scale sc cnt v n) : 0 ≤ cnt ∧ cnt ≤ n := x__.1
theorem Scale.up {sc : Int → Int} {cnt : Int} {v : Int → Int} {n : Int} (x__ : Scale sc cnt v n) : ∀ i j, 0 ≤ i → i < j → j < cnt → sc i < sc j := x__.2.1
theorem Scale.inn {sc : Int → Int} {cnt : Int} {v : Int → Int} {n : Int} (x__ : Scale sc cnt v n) : ∀ i, 0 ≤ i → i < cnt → ∃ m, 0 ≤ m ∧ m < n ∧ v m = sc i := x__.2.2.1
theorem Scale.out {sc : Int → Int} {cnt : Int} {v : Int → Int} {n : Int} (x__ : Scale sc cnt v n) : ∀ m, 0 ≤ m → m < n → ∃ i, 0 ≤ i ∧ i < cnt ∧ sc i = v m := x__.2.2.2
theorem Scale.mk' {sc : Int → Int} {cnt : Int} {v : Int → Int} {n : Int} (num__ : 0 ≤ cnt ∧ cnt ≤ n) (up__ : ∀ i j, 0 ≤ i → i < j → j < cnt → sc i < sc j) (inn__ : ∀ i, 0 ≤ i → i < cnt → ∃ m, 0 ≤ m ∧ m < n ∧ v m = sc i) (out__ : ∀ m, 0 ≤ m → m < n → ∃ i, 0 ≤ i ∧ i < cnt ∧ sc i = v m) : Scale sc cnt v n := ⟨num__, up__, inn__, out__⟩
def RuleOk (S : St) (j : Int) : Prop := (3 ≤ S.terms j ∧ S.terms j ≤ 5) ∧ (-2000000 ≤ S.const j ∧ S.const j ≤ 2000000) ∧ (∀ t, 0 ≤ t → t < S.terms j → 0 ≤ S.kind j t ∧ S.kind j t ≤ 2) ∧ (∀ t, 0 ≤ t → t < S.terms j → S.sign j t = 1 ∨ S.sign j t = -1) ∧ (∀ t, 0 ≤ t → t < S.terms j → S.many j t = 0 ∨ (2 ≤ S.many j t ∧ S.many j t ≤ 40)) ∧ (∀ t m, 0 ≤ t → t < S.terms j → 0 ≤ m → m < S.many j t → -10000 ≤ S.val j t m ∧ S.val j t m ≤ 10000) ∧ (Scale (S.sc j) (S.scn j) (S.val j 0) (S.many j 0))
theorem RuleOk.terms {S : St} {j : Int} (x__ : RuleOk S j) : 3 ≤ S.terms j ∧ S.terms j ≤ 5 := x__.1
theorem RuleOk.const {S : St} {j : Int} (x__ : RuleOk S j) : -2000000 ≤ S.const j ∧ S.const j ≤ 2000000 := x__.2.1
theorem RuleOk.kind {S : St} {j : Int} (x__ : RuleOk S j) : ∀ t, 0 ≤ t → t < S.terms j → 0 ≤ S.kind j t ∧ S.kind j t ≤ 2 := x__.2.2.1
theorem RuleOk.sign {S : St} {j : Int} (x__ : RuleOk S j) : ∀ t, 0 ≤ t → t < S.terms j → S.sign j t = 1 ∨ S.sign j t = -1 := x__.2.2.2.1
theorem RuleOk.many {S : St} {j : Int} (x__ : RuleOk S j) : ∀ t, 0 ≤ t → t < S.terms j → S.many j t = 0 ∨ (2 ≤ S.many j t ∧ S.many j t ≤ 40) := x__.2.2.2.2.1
theorem RuleOk.val {S : St} {j : Int} (x__ : RuleOk S j) : ∀ t m, 0 ≤ t → t < S.terms j → 0 ≤ m → m < S.many j t → -10000 ≤ S.val j t m ∧ S.val j t m ≤ 10000 := x__.2.2.2.2.2.1
theorem RuleOk.scale {S : St} {j : Int} (x__ : RuleOk S j) : Scale (S.sc j) (S.scn j) (S.val j 0) (S.many j 0) := x__.2.2.2.2.2.2
theorem RuleOk.mk' {S : St} {j : Int} (terms__ : 3 ≤ S.terms j ∧ S.terms j ≤ 5) (const__ : -2000000 ≤ S.const j ∧ S.const j ≤ 2000000) (kind__ : ∀ t, 0 ≤ t → t < S.terms j → 0 ≤ S.kind j t ∧ S.kind j t ≤ 2) (sign__ : ∀ t, 0 ≤ t → t < S.terms j → S.sign j t = 1 ∨ S.sign j t = -1) (many__ : ∀ t, 0 ≤ t → t < S.terms j → S.many j t = 0 ∨ (2 ≤ S.many j t ∧ S.many j t ≤ 40)) (val__ : ∀ t m, 0 ≤ t → t < S.terms j → 0 ≤ m → m < S.many j t → -10000 ≤ S.val j t m ∧ S.val j t m ≤ 10000) (scale__ : Scale (S.sc j) (S.scn j) (S.val j 0) (S.many j 0)) : RuleOk S j := ⟨terms__, const__, kind__, sign__, many__, val__, scale__⟩
def St.nn (S : St) (c : Int) : Int := S.terms (S.crule c) - 1
def ChartOk (S : St) (c : Int) : Prop := (0 ≤ S.crule c ∧ S.crule c < S.rules) ∧ (∀ k, 0 ≤ k → k < S.terms (S.crule c) - 1 → 1 ≤ S.ord c k ∧ S.ord c k < S.terms (S.crule c)) ∧ (∀ t, 0 ≤ t → t < S.terms (S.crule c) → 2 ≤ S.many (S.crule c) t) ∧ (10 ≤ S.wide c ∧ S.wide c ≤ 1000) ∧ (∀ p, 0 ≤ p → p < S.terms (S.crule c) - 2 → 1 ≤ S.left c p ∧ S.left c p ≤ 50) ∧ (∀ p, 0 ≤ p → p < S.terms (S.crule c) - 2 → 1 ≤ S.right c p ∧ S.right c p ≤ 50)
theorem ChartOk.rule {S : St} {c : Int} (x__ : ChartOk S c) : 0 ≤ S.crule c ∧ S.crule c < S.rules := x__.1
theorem ChartOk.ord {S : St} {c : Int} (x__ : ChartOk S c) : ∀ k, 0 ≤ k → k < S.terms (S.crule c) - 1 → 1 ≤ S.ord c k ∧ S.ord c k < S.terms (S.crule c) := x__.2.1
theorem ChartOk.many {S : St} {c : Int} (x__ : ChartOk S c) : ∀ t, 0 ≤ t → t < S.terms (S.crule c) → 2 ≤ S.many (S.crule c) t := x__.2.2.1
theorem ChartOk.wide {S : St} {c : Int} (x__ : ChartOk S c) : 10 ≤ S.wide c ∧ S.wide c ≤ 1000 := x__.2.2.2.1
theorem ChartOk.left {S : St} {c : Int} (x__ : ChartOk S c) : ∀ p, 0 ≤ p → p < S.terms (S.crule c) - 2 → 1 ≤ S.left c p ∧ S.left c p ≤ 50 := x__.2.2.2.2.1
theorem ChartOk.right {S : St} {c : Int} (x__ : ChartOk S c) : ∀ p, 0 ≤ p → p < S.terms (S.crule c) - 2 → 1 ≤ S.right c p ∧ S.right c p ≤ 50 := x__.2.2.2.2.2
theorem ChartOk.mk' {S : St} {c : Int} (rule__ : 0 ≤ S.crule c ∧ S.crule c < S.rules) (ord__ : ∀ k, 0 ≤ k → k < S.terms (S.crule c) - 1 → 1 ≤ S.ord c k ∧ S.ord c k < S.terms (S.crule c)) (many__ : ∀ t, 0 ≤ t → t < S.terms (S.crule c) → 2 ≤ S.many (S.crule c) t) (wide__ : 10 ≤ S.wide c ∧ S.wide c ≤ 1000) (left__ : ∀ p, 0 ≤ p → p < S.terms (S.crule c) - 2 → 1 ≤ S.left c p ∧ S.left c p ≤ 50) (right__ : ∀ p, 0 ≤ p → p < S.terms (S.crule c) - 2 → 1 ≤ S.right c p ∧ S.right c p ≤ 50) : ChartOk S c := ⟨rule__, ord__, many__, wide__, left__, right__⟩
/-- a reading's marks are there -/
def RdOk (S : St) (c m : Int) : Prop := (0 ≤ c ∧ c < S.charts) ∧ (0 ≤ m ∧ m < 2147483648) ∧ (∀ k, 0 ≤ k → k < S.terms (S.crule c) - 1 → dg m (S.terms (S.crule c) - 2 - k) < S.many (S.crule c) (S.ord c k))
theorem RdOk.chart {S : St} {c m : Int} (x__ : RdOk S c m) : 0 ≤ c ∧ c < S.charts := x__.1
theorem RdOk.pos {S : St} {c m : Int} (x__ : RdOk S c m) : 0 ≤ m ∧ m < 2147483648 := x__.2.1
theorem RdOk.dig {S : St} {c m : Int} (x__ : RdOk S c m) : ∀ k, 0 ≤ k → k < S.terms (S.crule c) - 1 → dg m (S.terms (S.crule c) - 2 - k) < S.many (S.crule c) (S.ord c k) := x__.2.2
theorem RdOk.mk' {S : St} {c m : Int} (chart__ : 0 ≤ c ∧ c < S.charts) (pos__ : 0 ≤ m ∧ m < 2147483648) (dig__ : ∀ k, 0 ≤ k → k < S.terms (S.crule c) - 1 → dg m (S.terms (S.crule c) - 2 - k) < S.many (S.crule c) (S.ord c k)) : RdOk S c m := ⟨chart__, pos__, dig__⟩
def WF (S : St) : Prop := (0 ≤ S.size ∧ S.size ≤ 120) ∧ (∀ i, 0 ≤ i → i < S.size → -128 ≤ S.txt i ∧ S.txt i < 128) ∧ (0 ≤ S.rules ∧ S.rules ≤ 6) ∧ (∀ j, 0 ≤ j → j < S.rules → RuleOk S j) ∧ (∀ j t, S.rules ≤ j → S.many j t = 0) ∧ (0 ≤ S.charts ∧ S.charts ≤ 6) ∧ (∀ c, 0 ≤ c → c < S.charts → ChartOk S c) ∧ (∀ c, pap (S.seam c) (S.low c) (S.upp c)) ∧ (∀ c, S.charts ≤ c → S.seam c = 0 ∧ S.low c = 0 ∧ S.upp c = 0) ∧ (S.rdC = -1 ∨ RdOk S S.rdC S.rdM) ∧ (0 ≤ S.now ∧ S.now ≤ 300) ∧ (0 ≤ S.moves ∧ S.moves ≤ 40) ∧ (∀ i, 0 ≤ i → i < S.moves → -99999 ≤ S.mN i ∧ S.mN i ≤ 99999) ∧ (0 ≤ S.reps ∧ S.reps ≤ 60) ∧ (∀ i, 0 ≤ i → i < S.reps → RdOk S (S.rC i) (S.rM i)) ∧ (∀ i, 0 ≤ i → i < S.reps → 0 ≤ S.rS i ∧ S.rS i ≤ 399) ∧ (∀ i, 0 ≤ i → i < S.reps → 0 ≤ S.rB i ∧ S.rB i ≤ 7) ∧ (0 ≤ S.listed ∧ S.listed ≤ 4) ∧ (∀ i, 0 ≤ i → i < S.listed → 1 ≤ S.list i ∧ S.list i ≤ 50)
theorem WF.size {S : St} (x__ : WF S) : 0 ≤ S.size ∧ S.size ≤ 120 := x__.1
theorem WF.txt {S : St} (x__ : WF S) : ∀ i, 0 ≤ i → i < S.size → -128 ≤ S.txt i ∧ S.txt i < 128 := x__.2.1
theorem WF.rules {S : St} (x__ : WF S) : 0 ≤ S.rules ∧ S.rules ≤ 6 := x__.2.2.1
theorem WF.rule {S : St} (x__ : WF S) : ∀ j, 0 ≤ j → j < S.rules → RuleOk S j := x__.2.2.2.1
theorem WF.fresh {S : St} (x__ : WF S) : ∀ j t, S.rules ≤ j → S.many j t = 0 := x__.2.2.2.2.1
theorem WF.charts {S : St} (x__ : WF S) : 0 ≤ S.charts ∧ S.charts ≤ 6 := x__.2.2.2.2.2.1
theorem WF.chart {S : St} (x__ : WF S) : ∀ c, 0 ≤ c → c < S.charts → ChartOk S c := x__.2.2.2.2.2.2.1
theorem WF.papr {S : St} (x__ : WF S) : ∀ c, pap (S.seam c) (S.low c) (S.upp c) := x__.2.2.2.2.2.2.2.1
theorem WF.cfresh {S : St} (x__ : WF S) : ∀ c, S.charts ≤ c → S.seam c = 0 ∧ S.low c = 0 ∧ S.upp c = 0 := x__.2.2.2.2.2.2.2.2.1
theorem WF.rd {S : St} (x__ : WF S) : S.rdC = -1 ∨ RdOk S S.rdC S.rdM := x__.2.2.2.2.2.2.2.2.2.1
theorem WF.now {S : St} (x__ : WF S) : 0 ≤ S.now ∧ S.now ≤ 300 := x__.2.2.2.2.2.2.2.2.2.2.1
theorem WF.moves {S : St} (x__ : WF S) : 0 ≤ S.moves ∧ S.moves ≤ 40 := x__.2.2.2.2.2.2.2.2.2.2.2.1
theorem WF.mN {S : St} (x__ : WF S) : ∀ i, 0 ≤ i → i < S.moves → -99999 ≤ S.mN i ∧ S.mN i ≤ 99999 := x__.2.2.2.2.2.2.2.2.2.2.2.2.1
theorem WF.reps {S : St} (x__ : WF S) : 0 ≤ S.reps ∧ S.reps ≤ 60 := x__.2.2.2.2.2.2.2.2.2.2.2.2.2.1
theorem WF.rep {S : St} (x__ : WF S) : ∀ i, 0 ≤ i → i < S.reps → RdOk S (S.rC i) (S.rM i) := x__.2.2.2.2.2.2.2.2.2.2.2.2.2.2.1
theorem WF.rS {S : St} (x__ : WF S) : ∀ i, 0 ≤ i → i < S.reps → 0 ≤ S.rS i ∧ S.rS i ≤ 399 := x__.2.2.2.2.2.2.2.2.2.2.2.2.2.2.2.1
theorem WF.rB {S : St} (x__ : WF S) : ∀ i, 0 ≤ i → i < S.reps → 0 ≤ S.rB i ∧ S.rB i ≤ 7 := x__.2.2.2.2.2.2.2.2.2.2.2.2.2.2.2.2.1
theorem WF.listed {S : St} (x__ : WF S) : 0 ≤ S.listed ∧ S.listed ≤ 4 := x__.2.2.2.2.2.2.2.2.2.2.2.2.2.2.2.2.2.1
theorem WF.list {S : St} (x__ : WF S) : ∀ i, 0 ≤ i → i < S.listed → 1 ≤ S.list i ∧ S.list i ≤ 50 := x__.2.2.2.2.2.2.2.2.2.2.2.2.2.2.2.2.2.2
theorem WF.mk' {S : St} (size__ : 0 ≤ S.size ∧ S.size ≤ 120) (txt__ : ∀ i, 0 ≤ i → i < S.size → -128 ≤ S.txt i ∧ S.txt i < 128) (rules__ : 0 ≤ S.rules ∧ S.rules ≤ 6) (rule__ : ∀ j, 0 ≤ j → j < S.rules → RuleOk S j) (fresh__ : ∀ j t, S.rules ≤ j → S.many j t = 0) (charts__ : 0 ≤ S.charts ∧ S.charts ≤ 6) (chart__ : ∀ c, 0 ≤ c → c < S.charts → ChartOk S c) (papr__ : ∀ c, pap (S.seam c) (S.low c) (S.upp c)) (cfresh__ : ∀ c, S.charts ≤ c → S.seam c = 0 ∧ S.low c = 0 ∧ S.upp c = 0) (rd__ : S.rdC = -1 ∨ RdOk S S.rdC S.rdM) (now__ : 0 ≤ S.now ∧ S.now ≤ 300) (moves__ : 0 ≤ S.moves ∧ S.moves ≤ 40) (mN__ : ∀ i, 0 ≤ i → i < S.moves → -99999 ≤ S.mN i ∧ S.mN i ≤ 99999) (reps__ : 0 ≤ S.reps ∧ S.reps ≤ 60) (rep__ : ∀ i, 0 ≤ i → i < S.reps → RdOk S (S.rC i) (S.rM i)) (rS__ : ∀ i, 0 ≤ i → i < S.reps → 0 ≤ S.rS i ∧ S.rS i ≤ 399) (rB__ : ∀ i, 0 ≤ i → i < S.reps → 0 ≤ S.rB i ∧ S.rB i ≤ 7) (listed__ : 0 ≤ S.listed ∧ S.listed ≤ 4) (list__ : ∀ i, 0 ≤ i → i < S.listed → 1 ≤ S.list i ∧ S.list i ≤ 50) : WF S := ⟨size__, txt__, rules__, rule__, fresh__, charts__, chart__, papr__, cfresh__, rd__, now__, moves__, mN__, reps__, rep__, rS__, rB__, listed__, list__⟩
/-- a Rule of the class at R keeps the rule j -/
def RuleC (h : Hh) (R : Int) (S : St) (j : Int) : Prop := (h R 0 = S.terms j) ∧ (h R 1 = S.const j) ∧ (h R 7 = S.scn j) ∧ (∀ t, 0 ≤ t → t < S.terms j → h (R + 1) t = S.kind j t) ∧ (∀ t, 0 ≤ t → t < S.terms j → h (R + 2) t = S.sign j t) ∧ (∀ t, 0 ≤ t → t < S.terms j → h (R + 3) t = S.many j t) ∧ (∀ t m, 0 ≤ t → t < S.terms j → 0 ≤ m → m < S.many j t → h (R + 4 + 1 + t) m = S.val j t m) ∧ (∀ i, 0 ≤ i → i < S.scn j → h (R + 10) i = S.sc j i)
theorem RuleC.terms {h : Hh} {R : Int} {S : St} {j : Int} (x__ : RuleC h R S j) : h R 0 = S.terms j := x__.1
theorem RuleC.const {h : Hh} {R : Int} {S : St} {j : Int} (x__ : RuleC h R S j) : h R 1 = S.const j := x__.2.1
theorem RuleC.scn {h : Hh} {R : Int} {S : St} {j : Int} (x__ : RuleC h R S j) : h R 7 = S.scn j := x__.2.2.1
theorem RuleC.kind {h : Hh} {R : Int} {S : St} {j : Int} (x__ : RuleC h R S j) : ∀ t, 0 ≤ t → t < S.terms j → h (R + 1) t = S.kind j t := x__.2.2.2.1
theorem RuleC.sign {h : Hh} {R : Int} {S : St} {j : Int} (x__ : RuleC h R S j) : ∀ t, 0 ≤ t → t < S.terms j → h (R + 2) t = S.sign j t := x__.2.2.2.2.1
theorem RuleC.many {h : Hh} {R : Int} {S : St} {j : Int} (x__ : RuleC h R S j) : ∀ t, 0 ≤ t → t < S.terms j → h (R + 3) t = S.many j t := x__.2.2.2.2.2.1
theorem RuleC.val {h : Hh} {R : Int} {S : St} {j : Int} (x__ : RuleC h R S j) : ∀ t m, 0 ≤ t → t < S.terms j → 0 ≤ m → m < S.many j t → h (R + 4 + 1 + t) m = S.val j t m := x__.2.2.2.2.2.2.1
theorem RuleC.sc {h : Hh} {R : Int} {S : St} {j : Int} (x__ : RuleC h R S j) : ∀ i, 0 ≤ i → i < S.scn j → h (R + 10) i = S.sc j i := x__.2.2.2.2.2.2.2
theorem RuleC.mk' {h : Hh} {R : Int} {S : St} {j : Int} (terms__ : h R 0 = S.terms j) (const__ : h R 1 = S.const j) (scn__ : h R 7 = S.scn j) (kind__ : ∀ t, 0 ≤ t → t < S.terms j → h (R + 1) t = S.kind j t) (sign__ : ∀ t, 0 ≤ t → t < S.terms j → h (R + 2) t = S.sign j t) (many__ : ∀ t, 0 ≤ t → t < S.terms j → h (R + 3) t = S.many j t) (val__ : ∀ t m, 0 ≤ t → t < S.terms j → 0 ≤ m → m < S.many j t → h (R + 4 + 1 + t) m = S.val j t m) (sc__ : ∀ i, 0 ≤ i → i < S.scn j → h (R + 10) i = S.sc j i) : RuleC h R S j := ⟨terms__, const__, scn__, kind__, sign__, many__, val__, sc__⟩
/-- leasts and greatests of signed values -/
def IsLeast (S : St) (r t x : Int) : Prop := (∀ m, 0 ≤ m → m < S.many r t → x ≤ S.sign r t * S.val r t m) ∧ (∃ m, 0 ≤ m ∧ m < S.many r t ∧ x = S.sign r t * S.val r t m)
theorem IsLeast.le {S : St} {r t x : Int} (x__ : IsLeast S r t x) : ∀ m, 0 ≤ m → m < S.many r t → x ≤ S.sign r t * S.val r t m := x__.1
theorem IsLeast.ex {S : St} {r t x : Int} (x__ : IsLeast S r t x) : ∃ m, 0 ≤ m ∧ m < S.many r t ∧ x = S.sign r t * S.val r t m := x__.2
theorem IsLeast.mk' {S : St} {r t x : Int} (le__ : ∀ m, 0 ≤ m → m < S.many r t → x ≤ S.sign r t * S.val r t m) (ex__ : ∃ m, 0 ≤ m ∧ m < S.many r t ∧ x = S.sign r t * S.val r t m) : IsLeast S r t x := ⟨le__, ex__⟩
def IsMost (S : St) (r t x : Int) : Prop := (∀ m, 0 ≤ m → m < S.many r t → S.sign r t * S.val r t m ≤ x) ∧ (∃ m, 0 ≤ m ∧ m < S.many r t ∧ x = S.sign r t * S.val r t m)
theorem IsMost.ge {S : St} {r t x : Int} (x__ : IsMost S r t x) : ∀ m, 0 ≤ m → m < S.many r t → S.sign r t * S.val r t m ≤ x := x__.1
theorem IsMost.ex {S : St} {r t x : Int} (x__ : IsMost S r t x) : ∃ m, 0 ≤ m ∧ m < S.many r t ∧ x = S.sign r t * S.val r t m := x__.2
theorem IsMost.mk' {S : St} {r t x : Int} (ge__ : ∀ m, 0 ≤ m → m < S.many r t → S.sign r t * S.val r t m ≤ x) (ex__ : ∃ m, 0 ≤ m ∧ m < S.many r t ∧ x = S.sign r t * S.val r t m) : IsMost S r t x := ⟨ge__, ex__⟩
/-- a Chart of the class at C keeps the chart c -/
def ChartC (h : Hh) (C : Int) (S : St) (c : Int) : Prop := (h C 0 = h 6 (S.crule c)) ∧ (h C 1 = c) ∧ (h C 2 = S.terms (S.crule c) - 1) ∧ (h C 3 = S.terms (S.crule c) - 2) ∧ (h C 4 = S.wide c) ∧ (∀ k, 0 ≤ k → k < S.terms (S.crule c) - 1 → h (C + 1) k = S.ord c k) ∧ (∀ p, 0 ≤ p → p < S.terms (S.crule c) - 2 → h (C + 2) p = S.left c p) ∧ (∀ p, 0 ≤ p → p < S.terms (S.crule c) - 2 → h (C + 3) p = S.right c p) ∧ (IsLeast S (S.crule c) (S.ord c 0) (h (C + 4) 0)) ∧ (∀ k, 0 ≤ k → k < S.terms (S.crule c) - 2 → IsLeast S (S.crule c) (S.ord c (k + 1)) (h (C + 4) (k + 1) - h (C + 4) k)) ∧ (IsMost S (S.crule c) (S.ord c 0) (h (C + 5) 0)) ∧ (∀ k, 0 ≤ k → k < S.terms (S.crule c) - 2 → IsMost S (S.crule c) (S.ord c (k + 1)) (h (C + 5) (k + 1) - h (C + 5) k)) ∧ (h (C + 6) 0 = S.seam c) ∧ (h (C + 6) 1 = S.low c) ∧ (h (C + 6) 2 = S.upp c)
theorem ChartC.rule {h : Hh} {C : Int} {S : St} {c : Int} (x__ : ChartC h C S c) : h C 0 = h 6 (S.crule c) := x__.1
theorem ChartC.number {h : Hh} {C : Int} {S : St} {c : Int} (x__ : ChartC h C S c) : h C 1 = c := x__.2.1
theorem ChartC.size {h : Hh} {C : Int} {S : St} {c : Int} (x__ : ChartC h C S c) : h C 2 = S.terms (S.crule c) - 1 := x__.2.2.1
theorem ChartC.pages {h : Hh} {C : Int} {S : St} {c : Int} (x__ : ChartC h C S c) : h C 3 = S.terms (S.crule c) - 2 := x__.2.2.2.1
theorem ChartC.wide {h : Hh} {C : Int} {S : St} {c : Int} (x__ : ChartC h C S c) : h C 4 = S.wide c := x__.2.2.2.2.1
theorem ChartC.ord {h : Hh} {C : Int} {S : St} {c : Int} (x__ : ChartC h C S c) : ∀ k, 0 ≤ k → k < S.terms (S.crule c) - 1 → h (C + 1) k = S.ord c k := x__.2.2.2.2.2.1
theorem ChartC.left {h : Hh} {C : Int} {S : St} {c : Int} (x__ : ChartC h C S c) : ∀ p, 0 ≤ p → p < S.terms (S.crule c) - 2 → h (C + 2) p = S.left c p := x__.2.2.2.2.2.2.1
theorem ChartC.right {h : Hh} {C : Int} {S : St} {c : Int} (x__ : ChartC h C S c) : ∀ p, 0 ≤ p → p < S.terms (S.crule c) - 2 → h (C + 3) p = S.right c p := x__.2.2.2.2.2.2.2.1
theorem ChartC.least0 {h : Hh} {C : Int} {S : St} {c : Int} (x__ : ChartC h C S c) : IsLeast S (S.crule c) (S.ord c 0) (h (C + 4) 0) := x__.2.2.2.2.2.2.2.2.1
theorem ChartC.least {h : Hh} {C : Int} {S : St} {c : Int} (x__ : ChartC h C S c) : ∀ k, 0 ≤ k → k < S.terms (S.crule c) - 2 → IsLeast S (S.crule c) (S.ord c (k + 1)) (h (C + 4) (k + 1) - h (C + 4) k) := x__.2.2.2.2.2.2.2.2.2.1
theorem ChartC.most0 {h : Hh} {C : Int} {S : St} {c : Int} (x__ : ChartC h C S c) : IsMost S (S.crule c) (S.ord c 0) (h (C + 5) 0) := x__.2.2.2.2.2.2.2.2.2.2.1
theorem ChartC.most {h : Hh} {C : Int} {S : St} {c : Int} (x__ : ChartC h C S c) : ∀ k, 0 ≤ k → k < S.terms (S.crule c) - 2 → IsMost S (S.crule c) (S.ord c (k + 1)) (h (C + 5) (k + 1) - h (C + 5) k) := x__.2.2.2.2.2.2.2.2.2.2.2.1
theorem ChartC.seam {h : Hh} {C : Int} {S : St} {c : Int} (x__ : ChartC h C S c) : h (C + 6) 0 = S.seam c := x__.2.2.2.2.2.2.2.2.2.2.2.2.1
theorem ChartC.low {h : Hh} {C : Int} {S : St} {c : Int} (x__ : ChartC h C S c) : h (C + 6) 1 = S.low c := x__.2.2.2.2.2.2.2.2.2.2.2.2.2.1
theorem ChartC.upp {h : Hh} {C : Int} {S : St} {c : Int} (x__ : ChartC h C S c) : h (C + 6) 2 = S.upp c := x__.2.2.2.2.2.2.2.2.2.2.2.2.2.2
theorem ChartC.mk' {h : Hh} {C : Int} {S : St} {c : Int} (rule__ : h C 0 = h 6 (S.crule c)) (number__ : h C 1 = c) (size__ : h C 2 = S.terms (S.crule c) - 1) (pages__ : h C 3 = S.terms (S.crule c) - 2) (wide__ : h C 4 = S.wide c) (ord__ : ∀ k, 0 ≤ k → k < S.terms (S.crule c) - 1 → h (C + 1) k = S.ord c k) (left__ : ∀ p, 0 ≤ p → p < S.terms (S.crule c) - 2 → h (C + 2) p = S.left c p) (right__ : ∀ p, 0 ≤ p → p < S.terms (S.crule c) - 2 → h (C + 3) p = S.right c p) (least0__ : IsLeast S (S.crule c) (S.ord c 0) (h (C + 4) 0)) (least__ : ∀ k, 0 ≤ k → k < S.terms (S.crule c) - 2 → IsLeast S (S.crule c) (S.ord c (k + 1)) (h (C + 4) (k + 1) - h (C + 4) k)) (most0__ : IsMost S (S.crule c) (S.ord c 0) (h (C + 5) 0)) (most__ : ∀ k, 0 ≤ k → k < S.terms (S.crule c) - 2 → IsMost S (S.crule c) (S.ord c (k + 1)) (h (C + 5) (k + 1) - h (C + 5) k)) (seam__ : h (C + 6) 0 = S.seam c) (low__ : h (C + 6) 1 = S.low c) (upp__ : h (C + 6) 2 = S.upp c) : ChartC h C S c := ⟨rule__, number__, size__, pages__, wide__, ord__, left__, right__, least0__, least__, most0__, most__, seam__, low__, upp__⟩
/-- the class's cells keep the state -/
def RepC (h : Hh) (S : St) : Prop := (h 1 1 = S.size) ∧ (∀ i, 0 ≤ i → i < S.size → h 2 i = S.txt i) ∧ (h 0 3 = S.rules) ∧ (∀ j, 0 ≤ j → j < S.rules → RuleC h (h 6 j) S j) ∧ (∀ j, 0 ≤ j → j < S.rules → 72 ≤ h 6 j ∧ h 6 j + 11 ≤ h (-1) 0) ∧ (∀ i j, 0 ≤ i → i < j → j < S.rules → h 6 i + 11 ≤ h 6 j) ∧ (h 0 5 = S.charts) ∧ (∀ c, 0 ≤ c → c < S.charts → ChartC h (h 7 c) S c) ∧ (∀ j, 0 ≤ j → j < S.charts → 72 ≤ h 7 j ∧ h 7 j + 7 ≤ h (-1) 0) ∧ (∀ i j, 0 ≤ i → i < j → j < S.charts → h 7 i + 7 ≤ h 7 j) ∧ (∀ i j, 0 ≤ i → i < S.rules → 0 ≤ j → j < S.charts → h 6 i + 11 ≤ h 7 j ∨ h 7 j + 7 ≤ h 6 i) ∧ (h 0 9 = if S.rdC = -1 then -1 else h 7 S.rdC) ∧ (h 0 10 = S.rdM) ∧ (h 0 8 = S.now) ∧ (h 9 5 = S.moves) ∧ (∀ i, 0 ≤ i → i < S.moves → h 10 i = S.mC i) ∧ (∀ i, 0 ≤ i → i < S.moves → h 11 i = S.mT i) ∧ (∀ i, 0 ≤ i → i < S.moves → h 12 i = S.mM i) ∧ (∀ i, 0 ≤ i → i < S.moves → h 13 i = S.mN i) ∧ (∀ i, 0 ≤ i → i < S.moves → h 14 i = S.mD i) ∧ (h 15 7 = S.reps) ∧ (∀ i, 0 ≤ i → i < S.reps → h 16 i = S.rB i) ∧ (∀ i, 0 ≤ i → i < S.reps → h 17 i = S.rC i) ∧ (∀ i, 0 ≤ i → i < S.reps → h 18 i = S.rM i) ∧ (∀ i, 0 ≤ i → i < S.reps → h 19 i = S.rS i) ∧ (∀ i, 0 ≤ i → i < S.reps → h 20 i = S.rD i) ∧ (h 0 7 = S.listed) ∧ (∀ i, 0 ≤ i → i < S.listed → h 8 i = S.list i) ∧ (72 ≤ h (-1) 0)
theorem RepC.size {h : Hh} {S : St} (x__ : RepC h S) : h 1 1 = S.size := x__.1
theorem RepC.txt {h : Hh} {S : St} (x__ : RepC h S) : ∀ i, 0 ≤ i → i < S.size → h 2 i = S.txt i := x__.2.1
theorem RepC.rules {h : Hh} {S : St} (x__ : RepC h S) : h 0 3 = S.rules := x__.2.2.1
theorem RepC.rule {h : Hh} {S : St} (x__ : RepC h S) : ∀ j, 0 ≤ j → j < S.rules → RuleC h (h 6 j) S j := x__.2.2.2.1
theorem RepC.ra {h : Hh} {S : St} (x__ : RepC h S) : ∀ j, 0 ≤ j → j < S.rules → 72 ≤ h 6 j ∧ h 6 j + 11 ≤ h (-1) 0 := x__.2.2.2.2.1
theorem RepC.raa {h : Hh} {S : St} (x__ : RepC h S) : ∀ i j, 0 ≤ i → i < j → j < S.rules → h 6 i + 11 ≤ h 6 j := x__.2.2.2.2.2.1
theorem RepC.charts {h : Hh} {S : St} (x__ : RepC h S) : h 0 5 = S.charts := x__.2.2.2.2.2.2.1
theorem RepC.chart {h : Hh} {S : St} (x__ : RepC h S) : ∀ c, 0 ≤ c → c < S.charts → ChartC h (h 7 c) S c := x__.2.2.2.2.2.2.2.1
theorem RepC.ca {h : Hh} {S : St} (x__ : RepC h S) : ∀ j, 0 ≤ j → j < S.charts → 72 ≤ h 7 j ∧ h 7 j + 7 ≤ h (-1) 0 := x__.2.2.2.2.2.2.2.2.1
theorem RepC.caa {h : Hh} {S : St} (x__ : RepC h S) : ∀ i j, 0 ≤ i → i < j → j < S.charts → h 7 i + 7 ≤ h 7 j := x__.2.2.2.2.2.2.2.2.2.1
theorem RepC.rca {h : Hh} {S : St} (x__ : RepC h S) : ∀ i j, 0 ≤ i → i < S.rules → 0 ≤ j → j < S.charts → h 6 i + 11 ≤ h 7 j ∨ h 7 j + 7 ≤ h 6 i := x__.2.2.2.2.2.2.2.2.2.2.1
theorem RepC.rdC {h : Hh} {S : St} (x__ : RepC h S) : h 0 9 = if S.rdC = -1 then -1 else h 7 S.rdC := x__.2.2.2.2.2.2.2.2.2.2.2.1
theorem RepC.rdM {h : Hh} {S : St} (x__ : RepC h S) : h 0 10 = S.rdM := x__.2.2.2.2.2.2.2.2.2.2.2.2.1
theorem RepC.now {h : Hh} {S : St} (x__ : RepC h S) : h 0 8 = S.now := x__.2.2.2.2.2.2.2.2.2.2.2.2.2.1
theorem RepC.moves {h : Hh} {S : St} (x__ : RepC h S) : h 9 5 = S.moves := x__.2.2.2.2.2.2.2.2.2.2.2.2.2.2.1
theorem RepC.mC {h : Hh} {S : St} (x__ : RepC h S) : ∀ i, 0 ≤ i → i < S.moves → h 10 i = S.mC i := x__.2.2.2.2.2.2.2.2.2.2.2.2.2.2.2.1
theorem RepC.mT {h : Hh} {S : St} (x__ : RepC h S) : ∀ i, 0 ≤ i → i < S.moves → h 11 i = S.mT i := x__.2.2.2.2.2.2.2.2.2.2.2.2.2.2.2.2.1
theorem RepC.mM {h : Hh} {S : St} (x__ : RepC h S) : ∀ i, 0 ≤ i → i < S.moves → h 12 i = S.mM i := x__.2.2.2.2.2.2.2.2.2.2.2.2.2.2.2.2.2.1
theorem RepC.mN {h : Hh} {S : St} (x__ : RepC h S) : ∀ i, 0 ≤ i → i < S.moves → h 13 i = S.mN i := x__.2.2.2.2.2.2.2.2.2.2.2.2.2.2.2.2.2.2.1
theorem RepC.mD {h : Hh} {S : St} (x__ : RepC h S) : ∀ i, 0 ≤ i → i < S.moves → h 14 i = S.mD i := x__.2.2.2.2.2.2.2.2.2.2.2.2.2.2.2.2.2.2.2.1
theorem RepC.reps {h : Hh} {S : St} (x__ : RepC h S) : h 15 7 = S.reps := x__.2.2.2.2.2.2.2.2.2.2.2.2.2.2.2.2.2.2.2.2.1
theorem RepC.rB {h : Hh} {S : St} (x__ : RepC h S) : ∀ i, 0 ≤ i → i < S.reps → h 16 i = S.rB i := x__.2.2.2.2.2.2.2.2.2.2.2.2.2.2.2.2.2.2.2.2.2.1
theorem RepC.rC {h : Hh} {S : St} (x__ : RepC h S) : ∀ i, 0 ≤ i → i < S.reps → h 17 i = S.rC i := x__.2.2.2.2.2.2.2.2.2.2.2.2.2.2.2.2.2.2.2.2.2.2.1
theorem RepC.rM {h : Hh} {S : St} (x__ : RepC h S) : ∀ i, 0 ≤ i → i < S.reps → h 18 i = S.rM i := x__.2.2.2.2.2.2.2.2.2.2.2.2.2.2.2.2.2.2.2.2.2.2.2.1
theorem RepC.rS {h : Hh} {S : St} (x__ : RepC h S) : ∀ i, 0 ≤ i → i < S.reps → h 19 i = S.rS i := x__.2.2.2.2.2.2.2.2.2.2.2.2.2.2.2.2.2.2.2.2.2.2.2.2.1
theorem RepC.rD {h : Hh} {S : St} (x__ : RepC h S) : ∀ i, 0 ≤ i → i < S.reps → h 20 i = S.rD i := x__.2.2.2.2.2.2.2.2.2.2.2.2.2.2.2.2.2.2.2.2.2.2.2.2.2.1
theorem RepC.listed {h : Hh} {S : St} (x__ : RepC h S) : h 0 7 = S.listed := x__.2.2.2.2.2.2.2.2.2.2.2.2.2.2.2.2.2.2.2.2.2.2.2.2.2.2.1
theorem RepC.list {h : Hh} {S : St} (x__ : RepC h S) : ∀ i, 0 ≤ i → i < S.listed → h 8 i = S.list i := x__.2.2.2.2.2.2.2.2.2.2.2.2.2.2.2.2.2.2.2.2.2.2.2.2.2.2.2.1
theorem RepC.room {h : Hh} {S : St} (x__ : RepC h S) : 72 ≤ h (-1) 0 := x__.2.2.2.2.2.2.2.2.2.2.2.2.2.2.2.2.2.2.2.2.2.2.2.2.2.2.2.2
theorem RepC.mk' {h : Hh} {S : St} (size__ : h 1 1 = S.size) (txt__ : ∀ i, 0 ≤ i → i < S.size → h 2 i = S.txt i) (rules__ : h 0 3 = S.rules) (rule__ : ∀ j, 0 ≤ j → j < S.rules → RuleC h (h 6 j) S j) (ra__ : ∀ j, 0 ≤ j → j < S.rules → 72 ≤ h 6 j ∧ h 6 j + 11 ≤ h (-1) 0) (raa__ : ∀ i j, 0 ≤ i → i < j → j < S.rules → h 6 i + 11 ≤ h 6 j) (charts__ : h 0 5 = S.charts) (chart__ : ∀ c, 0 ≤ c → c < S.charts → ChartC h (h 7 c) S c) (ca__ : ∀ j, 0 ≤ j → j < S.charts → 72 ≤ h 7 j ∧ h 7 j + 7 ≤ h (-1) 0) (caa__ : ∀ i j, 0 ≤ i → i < j → j < S.charts → h 7 i + 7 ≤ h 7 j) (rca__ : ∀ i j, 0 ≤ i → i < S.rules → 0 ≤ j → j < S.charts → h 6 i + 11 ≤ h 7 j ∨ h 7 j + 7 ≤ h 6 i) (rdC__ : h 0 9 = if S.rdC = -1 then -1 else h 7 S.rdC) (rdM__ : h 0 10 = S.rdM) (now__ : h 0 8 = S.now) (moves__ : h 9 5 = S.moves) (mC__ : ∀ i, 0 ≤ i → i < S.moves → h 10 i = S.mC i) (mT__ : ∀ i, 0 ≤ i → i < S.moves → h 11 i = S.mT i) (mM__ : ∀ i, 0 ≤ i → i < S.moves → h 12 i = S.mM i) (mN__ : ∀ i, 0 ≤ i → i < S.moves → h 13 i = S.mN i) (mD__ : ∀ i, 0 ≤ i → i < S.moves → h 14 i = S.mD i) (reps__ : h 15 7 = S.reps) (rB__ : ∀ i, 0 ≤ i → i < S.reps → h 16 i = S.rB i) (rC__ : ∀ i, 0 ≤ i → i < S.reps → h 17 i = S.rC i) (rM__ : ∀ i, 0 ≤ i → i < S.reps → h 18 i = S.rM i) (rS__ : ∀ i, 0 ≤ i → i < S.reps → h 19 i = S.rS i) (rD__ : ∀ i, 0 ≤ i → i < S.reps → h 20 i = S.rD i) (listed__ : h 0 7 = S.listed) (list__ : ∀ i, 0 ≤ i → i < S.listed → h 8 i = S.list i) (room__ : 72 ≤ h (-1) 0) : RepC h S := ⟨size__, txt__, rules__, rule__, ra__, raa__, charts__, chart__, ca__, caa__, rca__, rdC__, rdM__, now__, moves__, mC__, mT__, mM__, mN__, mD__, reps__, rB__, rC__, rM__, rS__, rD__, listed__, list__, room__⟩
/-- the reference's cells keep the state -/
def RepM (h : Hh) (S : St) : Prop := (h 33 1 = S.size) ∧ (∀ i, 0 ≤ i → i < S.size → h 34 i = S.txt i) ∧ (h 33 11 = S.rules) ∧ (∀ j, 0 ≤ j → j < S.rules → h 38 j = S.terms j) ∧ (∀ j, 0 ≤ j → j < S.rules → h 39 j = S.const j) ∧ (∀ j t, 0 ≤ j → j < S.rules → 0 ≤ t → t < S.terms j → h 40 (5 * j + t) = S.kind j t) ∧ (∀ j t, 0 ≤ j → j < S.rules → 0 ≤ t → t < S.terms j → h 41 (5 * j + t) = S.sign j t) ∧ (∀ j t, 0 ≤ j → j < 6 → 0 ≤ t → t < 5 → h 42 (5 * j + t) = S.many j t) ∧ (∀ j t m, 0 ≤ j → j < S.rules → 0 ≤ t → t < S.terms j → 0 ≤ m → m < S.many j t → h 43 (40 * (5 * j + t) + m) = S.val j t m) ∧ (h 33 18 = S.charts) ∧ (∀ c, 0 ≤ c → c < S.charts → h 44 c = S.crule c) ∧ (∀ c k, 0 ≤ c → c < S.charts → 0 ≤ k → k < S.terms (S.crule c) - 1 → h 45 (4 * c + k) = S.ord c k) ∧ (∀ c, 0 ≤ c → c < S.charts → h 46 c = S.wide c) ∧ (∀ c p, 0 ≤ c → c < S.charts → 0 ≤ p → p < S.terms (S.crule c) - 2 → h 47 (3 * c + p) = S.left c p) ∧ (∀ c p, 0 ≤ c → c < S.charts → 0 ≤ p → p < S.terms (S.crule c) - 2 → h 48 (3 * c + p) = S.right c p) ∧ (∀ c, 0 ≤ c → c < 6 → h 49 c = S.seam c) ∧ (∀ c, 0 ≤ c → c < 6 → h 50 c = S.low c) ∧ (∀ c, 0 ≤ c → c < 6 → h 51 c = S.upp c) ∧ (h 33 27 = S.rdC) ∧ (S.rdC ≠ -1 → ∀ k, 0 ≤ k → k < S.terms (S.crule S.rdC) - 1 → h 52 k = dg S.rdM (S.terms (S.crule S.rdC) - 2 - k)) ∧ (h 33 29 = S.now) ∧ (h 33 30 = S.moves) ∧ (∀ i, 0 ≤ i → i < S.moves → h 53 i = S.mC i) ∧ (∀ i, 0 ≤ i → i < S.moves → h 54 i = S.mT i) ∧ (∀ i, 0 ≤ i → i < S.moves → h 55 i = S.mM i) ∧ (∀ i, 0 ≤ i → i < S.moves → h 56 i = S.mN i) ∧ (∀ i, 0 ≤ i → i < S.moves → h 57 i = S.mD i) ∧ (h 33 36 = S.reps) ∧ (∀ i, 0 ≤ i → i < S.reps → h 58 i = S.rB i) ∧ (∀ i, 0 ≤ i → i < S.reps → h 59 i = S.rC i) ∧ (∀ i k, 0 ≤ i → i < S.reps → 0 ≤ k → k < S.terms (S.crule (S.rC i)) - 1 → h 60 (4 * i + k) = dg (S.rM i) (S.terms (S.crule (S.rC i)) - 2 - k)) ∧ (∀ i, 0 ≤ i → i < S.reps → h 61 i = S.rS i) ∧ (∀ i, 0 ≤ i → i < S.reps → h 62 i = S.rD i) ∧ (h 33 42 = S.listed) ∧ (∀ i, 0 ≤ i → i < S.listed → h 63 i = S.list i)
theorem RepM.size {h : Hh} {S : St} (x__ : RepM h S) : h 33 1 = S.size := x__.1
theorem RepM.txt {h : Hh} {S : St} (x__ : RepM h S) : ∀ i, 0 ≤ i → i < S.size → h 34 i = S.txt i := x__.2.1
theorem RepM.rules {h : Hh} {S : St} (x__ : RepM h S) : h 33 11 = S.rules := x__.2.2.1
theorem RepM.terms {h : Hh} {S : St} (x__ : RepM h S) : ∀ j, 0 ≤ j → j < S.rules → h 38 j = S.terms j := x__.2.2.2.1
theorem RepM.const {h : Hh} {S : St} (x__ : RepM h S) : ∀ j, 0 ≤ j → j < S.rules → h 39 j = S.const j := x__.2.2.2.2.1
theorem RepM.kind {h : Hh} {S : St} (x__ : RepM h S) : ∀ j t, 0 ≤ j → j < S.rules → 0 ≤ t → t < S.terms j → h 40 (5 * j + t) = S.kind j t := x__.2.2.2.2.2.1
theorem RepM.sign {h : Hh} {S : St} (x__ : RepM h S) : ∀ j t, 0 ≤ j → j < S.rules → 0 ≤ t → t < S.terms j → h 41 (5 * j + t) = S.sign j t := x__.2.2.2.2.2.2.1
theorem RepM.many {h : Hh} {S : St} (x__ : RepM h S) : ∀ j t, 0 ≤ j → j < 6 → 0 ≤ t → t < 5 → h 42 (5 * j + t) = S.many j t := x__.2.2.2.2.2.2.2.1
theorem RepM.val {h : Hh} {S : St} (x__ : RepM h S) : ∀ j t m, 0 ≤ j → j < S.rules → 0 ≤ t → t < S.terms j → 0 ≤ m → m < S.many j t → h 43 (40 * (5 * j + t) + m) = S.val j t m := x__.2.2.2.2.2.2.2.2.1
theorem RepM.charts {h : Hh} {S : St} (x__ : RepM h S) : h 33 18 = S.charts := x__.2.2.2.2.2.2.2.2.2.1
theorem RepM.crule {h : Hh} {S : St} (x__ : RepM h S) : ∀ c, 0 ≤ c → c < S.charts → h 44 c = S.crule c := x__.2.2.2.2.2.2.2.2.2.2.1
theorem RepM.ord {h : Hh} {S : St} (x__ : RepM h S) : ∀ c k, 0 ≤ c → c < S.charts → 0 ≤ k → k < S.terms (S.crule c) - 1 → h 45 (4 * c + k) = S.ord c k := x__.2.2.2.2.2.2.2.2.2.2.2.1
theorem RepM.wide {h : Hh} {S : St} (x__ : RepM h S) : ∀ c, 0 ≤ c → c < S.charts → h 46 c = S.wide c := x__.2.2.2.2.2.2.2.2.2.2.2.2.1
theorem RepM.left {h : Hh} {S : St} (x__ : RepM h S) : ∀ c p, 0 ≤ c → c < S.charts → 0 ≤ p → p < S.terms (S.crule c) - 2 → h 47 (3 * c + p) = S.left c p := x__.2.2.2.2.2.2.2.2.2.2.2.2.2.1
theorem RepM.right {h : Hh} {S : St} (x__ : RepM h S) : ∀ c p, 0 ≤ c → c < S.charts → 0 ≤ p → p < S.terms (S.crule c) - 2 → h 48 (3 * c + p) = S.right c p := x__.2.2.2.2.2.2.2.2.2.2.2.2.2.2.1
theorem RepM.seam {h : Hh} {S : St} (x__ : RepM h S) : ∀ c, 0 ≤ c → c < 6 → h 49 c = S.seam c := x__.2.2.2.2.2.2.2.2.2.2.2.2.2.2.2.1
theorem RepM.low {h : Hh} {S : St} (x__ : RepM h S) : ∀ c, 0 ≤ c → c < 6 → h 50 c = S.low c := x__.2.2.2.2.2.2.2.2.2.2.2.2.2.2.2.2.1
theorem RepM.upp {h : Hh} {S : St} (x__ : RepM h S) : ∀ c, 0 ≤ c → c < 6 → h 51 c = S.upp c := x__.2.2.2.2.2.2.2.2.2.2.2.2.2.2.2.2.2.1
theorem RepM.rdC {h : Hh} {S : St} (x__ : RepM h S) : h 33 27 = S.rdC := x__.2.2.2.2.2.2.2.2.2.2.2.2.2.2.2.2.2.2.1
theorem RepM.rdM {h : Hh} {S : St} (x__ : RepM h S) : S.rdC ≠ -1 → ∀ k, 0 ≤ k → k < S.terms (S.crule S.rdC) - 1 → h 52 k = dg S.rdM (S.terms (S.crule S.rdC) - 2 - k) := x__.2.2.2.2.2.2.2.2.2.2.2.2.2.2.2.2.2.2.2.1
theorem RepM.now {h : Hh} {S : St} (x__ : RepM h S) : h 33 29 = S.now := x__.2.2.2.2.2.2.2.2.2.2.2.2.2.2.2.2.2.2.2.2.1
theorem RepM.moves {h : Hh} {S : St} (x__ : RepM h S) : h 33 30 = S.moves := x__.2.2.2.2.2.2.2.2.2.2.2.2.2.2.2.2.2.2.2.2.2.1
theorem RepM.mC {h : Hh} {S : St} (x__ : RepM h S) : ∀ i, 0 ≤ i → i < S.moves → h 53 i = S.mC i := x__.2.2.2.2.2.2.2.2.2.2.2.2.2.2.2.2.2.2.2.2.2.2.1
theorem RepM.mT {h : Hh} {S : St} (x__ : RepM h S) : ∀ i, 0 ≤ i → i < S.moves → h 54 i = S.mT i := x__.2.2.2.2.2.2.2.2.2.2.2.2.2.2.2.2.2.2.2.2.2.2.2.1
theorem RepM.mM {h : Hh} {S : St} (x__ : RepM h S) : ∀ i, 0 ≤ i → i < S.moves → h 55 i = S.mM i := x__.2.2.2.2.2.2.2.2.2.2.2.2.2.2.2.2.2.2.2.2.2.2.2.2.1
theorem RepM.mN {h : Hh} {S : St} (x__ : RepM h S) : ∀ i, 0 ≤ i → i < S.moves → h 56 i = S.mN i := x__.2.2.2.2.2.2.2.2.2.2.2.2.2.2.2.2.2.2.2.2.2.2.2.2.2.1
theorem RepM.mD {h : Hh} {S : St} (x__ : RepM h S) : ∀ i, 0 ≤ i → i < S.moves → h 57 i = S.mD i := x__.2.2.2.2.2.2.2.2.2.2.2.2.2.2.2.2.2.2.2.2.2.2.2.2.2.2.1
theorem RepM.reps {h : Hh} {S : St} (x__ : RepM h S) : h 33 36 = S.reps := x__.2.2.2.2.2.2.2.2.2.2.2.2.2.2.2.2.2.2.2.2.2.2.2.2.2.2.2.1
theorem RepM.rB {h : Hh} {S : St} (x__ : RepM h S) : ∀ i, 0 ≤ i → i < S.reps → h 58 i = S.rB i := x__.2.2.2.2.2.2.2.2.2.2.2.2.2.2.2.2.2.2.2.2.2.2.2.2.2.2.2.2.1
theorem RepM.rC {h : Hh} {S : St} (x__ : RepM h S) : ∀ i, 0 ≤ i → i < S.reps → h 59 i = S.rC i := x__.2.2.2.2.2.2.2.2.2.2.2.2.2.2.2.2.2.2.2.2.2.2.2.2.2.2.2.2.2.1
theorem RepM.rM {h : Hh} {S : St} (x__ : RepM h S) : ∀ i k, 0 ≤ i → i < S.reps → 0 ≤ k → k < S.terms (S.crule (S.rC i)) - 1 → h 60 (4 * i + k) = dg (S.rM i) (S.terms (S.crule (S.rC i)) - 2 - k) := x__.2.2.2.2.2.2.2.2.2.2.2.2.2.2.2.2.2.2.2.2.2.2.2.2.2.2.2.2.2.2.1
theorem RepM.rS {h : Hh} {S : St} (x__ : RepM h S) : ∀ i, 0 ≤ i → i < S.reps → h 61 i = S.rS i := x__.2.2.2.2.2.2.2.2.2.2.2.2.2.2.2.2.2.2.2.2.2.2.2.2.2.2.2.2.2.2.2.1
theorem RepM.rD {h : Hh} {S : St} (x__ : RepM h S) : ∀ i, 0 ≤ i → i < S.reps → h 62 i = S.rD i := x__.2.2.2.2.2.2.2.2.2.2.2.2.2.2.2.2.2.2.2.2.2.2.2.2.2.2.2.2.2.2.2.2.1
theorem RepM.listed {h : Hh} {S : St} (x__ : RepM h S) : h 33 42 = S.listed := x__.2.2.2.2.2.2.2.2.2.2.2.2.2.2.2.2.2.2.2.2.2.2.2.2.2.2.2.2.2.2.2.2.2.1
theorem RepM.list {h : Hh} {S : St} (x__ : RepM h S) : ∀ i, 0 ≤ i → i < S.listed → h 63 i = S.list i := x__.2.2.2.2.2.2.2.2.2.2.2.2.2.2.2.2.2.2.2.2.2.2.2.2.2.2.2.2.2.2.2.2.2.2
theorem RepM.mk' {h : Hh} {S : St} (size__ : h 33 1 = S.size) (txt__ : ∀ i, 0 ≤ i → i < S.size → h 34 i = S.txt i) (rules__ : h 33 11 = S.rules) (terms__ : ∀ j, 0 ≤ j → j < S.rules → h 38 j = S.terms j) (const__ : ∀ j, 0 ≤ j → j < S.rules → h 39 j = S.const j) (kind__ : ∀ j t, 0 ≤ j → j < S.rules → 0 ≤ t → t < S.terms j → h 40 (5 * j + t) = S.kind j t) (sign__ : ∀ j t, 0 ≤ j → j < S.rules → 0 ≤ t → t < S.terms j → h 41 (5 * j + t) = S.sign j t) (many__ : ∀ j t, 0 ≤ j → j < 6 → 0 ≤ t → t < 5 → h 42 (5 * j + t) = S.many j t) (val__ : ∀ j t m, 0 ≤ j → j < S.rules → 0 ≤ t → t < S.terms j → 0 ≤ m → m < S.many j t → h 43 (40 * (5 * j + t) + m) = S.val j t m) (charts__ : h 33 18 = S.charts) (crule__ : ∀ c, 0 ≤ c → c < S.charts → h 44 c = S.crule c) (ord__ : ∀ c k, 0 ≤ c → c < S.charts → 0 ≤ k → k < S.terms (S.crule c) - 1 → h 45 (4 * c + k) = S.ord c k) (wide__ : ∀ c, 0 ≤ c → c < S.charts → h 46 c = S.wide c) (left__ : ∀ c p, 0 ≤ c → c < S.charts → 0 ≤ p → p < S.terms (S.crule c) - 2 → h 47 (3 * c + p) = S.left c p) (right__ : ∀ c p, 0 ≤ c → c < S.charts → 0 ≤ p → p < S.terms (S.crule c) - 2 → h 48 (3 * c + p) = S.right c p) (seam__ : ∀ c, 0 ≤ c → c < 6 → h 49 c = S.seam c) (low__ : ∀ c, 0 ≤ c → c < 6 → h 50 c = S.low c) (upp__ : ∀ c, 0 ≤ c → c < 6 → h 51 c = S.upp c) (rdC__ : h 33 27 = S.rdC) (rdM__ : S.rdC ≠ -1 → ∀ k, 0 ≤ k → k < S.terms (S.crule S.rdC) - 1 → h 52 k = dg S.rdM (S.terms (S.crule S.rdC) - 2 - k)) (now__ : h 33 29 = S.now) (moves__ : h 33 30 = S.moves) (mC__ : ∀ i, 0 ≤ i → i < S.moves → h 53 i = S.mC i) (mT__ : ∀ i, 0 ≤ i → i < S.moves → h 54 i = S.mT i) (mM__ : ∀ i, 0 ≤ i → i < S.moves → h 55 i = S.mM i) (mN__ : ∀ i, 0 ≤ i → i < S.moves → h 56 i = S.mN i) (mD__ : ∀ i, 0 ≤ i → i < S.moves → h 57 i = S.mD i) (reps__ : h 33 36 = S.reps) (rB__ : ∀ i, 0 ≤ i → i < S.reps → h 58 i = S.rB i) (rC__ : ∀ i, 0 ≤ i → i < S.reps → h 59 i = S.rC i) (rM__ : ∀ i k, 0 ≤ i → i < S.reps → 0 ≤ k → k < S.terms (S.crule (S.rC i)) - 1 → h 60 (4 * i + k) = dg (S.rM i) (S.terms (S.crule (S.rC i)) - 2 - k)) (rS__ : ∀ i, 0 ≤ i → i < S.reps → h 61 i = S.rS i) (rD__ : ∀ i, 0 ≤ i → i < S.reps → h 62 i = S.rD i) (listed__ : h 33 42 = S.listed) (list__ : ∀ i, 0 ≤ i → i < S.listed → h 63 i = S.list i) : RepM h S := ⟨size__, txt__, rules__, terms__, const__, kind__, sign__, many__, val__, charts__, crule__, ord__, wide__, left__, right__, seam__, low__, upp__, rdC__, rdM__, now__, moves__, mC__, mT__, mM__, mN__, mD__, reps__, rB__, rC__, rM__, rS__, rD__, listed__, list__⟩
/-- what the class only scribbles on; what the reference only scribbles on -/
def scC (a k : Int) : Prop := (3 ≤ a ∧ a ≤ 5) ∨ (a = 15 ∧ k = 8) ∨ (21 ≤ a ∧ a ≤ 32)
def scM (a k : Int) : Prop := (a = 33 ∧ ((2 ≤ k ∧ k ≤ 6) ∨ k = 10 ∨ (50 ≤ k ∧ k ≤ 58))) ∨ (35 ≤ a ∧ a ≤ 37) ∨ (64 ≤ a ∧ a ≤ 71)
def eqC (h h' : Hh) : Prop := ∀ a k, ¬ scC a k → h' a k = h a k
def eqM (h h' : Hh) : Prop := ∀ a k, ¬ scM a k → h' a k = h a k
/-- the reference's cells are untouched; all others are untouched -/
def keepM (h h' : Hh) : Prop := ∀ a, 33 ≤ a → a < 72 → h' a = h a
def keepC (h h' : Hh) : Prop := ∀ a, ¬ (33 ≤ a ∧ a < 72) → h' a = h a
def simC (h h' : Hh) : Prop := ∀ a k, ¬ (33 ≤ a ∧ a ≤ 71) → ¬ scC a k → h' a k = h a k
def simM (h h' : Hh) : Prop := ∀ a k, 33 ≤ a → a ≤ 71 → ¬ scM a k → h' a k = h a k
theorem eqC.rfl' {h : Hh} : eqC h h := fun _ _ _ => rfl
theorem eqM.rfl' {h : Hh} : eqM h h := fun _ _ _ => rfl
theorem eqC.sc {h h' : Hh} (e : eqC h h') : simC h h' := fun a k _ q => e a k q
theorem eqM.sm {h h' : Hh} (e : eqM h h') : simM h h' := fun a k _ _ q => e a k q
theorem eqC.sm {h h' : Hh} (e : eqC h h') : simM h h' := fun a k h1 h2 q => e a k (by unfold scC; omega)
theorem eqM.sc {h h' : Hh} (e : eqM h h') : simC h h' := fun a k h1 q => e a k (by unfold scM; omega)
theorem eqC.trans {h h1 h2 : Hh} (a : eqC h h1) (b : eqC h1 h2) : eqC h h2 := fun x k q => (b x k q).trans (a x k q)
theorem eqM.trans {h h1 h2 : Hh} (a : eqM h h1) (b : eqM h1 h2) : eqM h h2 := fun x k q => (b x k q).trans (a x k q)
theorem eqC.up {h h' : Hh} {a k x : Int} (e : eqC h h') (q : scC a k) : eqC h (up h' a k x) := by
  intro b j hb
  show (if b = a ∧ j = k then x else h' b j) = _
  rw [if_neg (fun w => hb (by rw [w.1, w.2]; exact q))]
  exact e b j hb
theorem eqM.up {h h' : Hh} {a k x : Int} (e : eqM h h') (q : scM a k) : eqM h (up h' a k x) := by
  intro b j hb
  show (if b = a ∧ j = k then x else h' b j) = _
  rw [if_neg (fun w => hb (by rw [w.1, w.2]; exact q))]
  exact e b j hb
theorem RuleC.keep {h h' : Hh} {R : Int} {S : St} {j : Int} (a : RuleC h R S j) (e : ∀ b, R ≤ b → b < R + 11 → h' b = h b) (ht : S.terms j ≤ 5) : RuleC h' R S j := RuleC.mk'
  (terms__ := by rw [e R (by omega) (by omega)]; exact a.terms)
  (const__ := by rw [e R (by omega) (by omega)]; exact a.const)
  (scn__ := by rw [e R (by omega) (by omega)]; exact a.scn)
  (kind__ := fun t h1 h2 => by rw [e (R + 1) (by omega) (by omega)]; exact a.kind t h1 h2)
  (sign__ := fun t h1 h2 => by rw [e (R + 2) (by omega) (by omega)]; exact a.sign t h1 h2)
  (many__ := fun t h1 h2 => by rw [e (R + 3) (by omega) (by omega)]; exact a.many t h1 h2)
  (val__ := fun t m h1 h2 h3 h4 => by rw [e (R + 4 + 1 + t) (by omega) (by omega)]; exact a.val t m h1 h2 h3 h4)
  (sc__ := fun i h1 h2 => by rw [e (R + 10) (by omega) (by omega)]; exact a.sc i h1 h2)
theorem ChartC.keep {h h' : Hh} {C : Int} {S : St} {c : Int} (a : ChartC h C S c) (e : ∀ b, C ≤ b → b < C + 7 → h' b = h b) (e6 : h' 6 = h 6) : ChartC h' C S c := ChartC.mk'
  (rule__ := by rw [e C (by omega) (by omega), e6]; exact a.rule)
  (number__ := by rw [e C (by omega) (by omega)]; exact a.number)
  (size__ := by rw [e C (by omega) (by omega)]; exact a.size)
  (pages__ := by rw [e C (by omega) (by omega)]; exact a.pages)
  (wide__ := by rw [e C (by omega) (by omega)]; exact a.wide)
  (ord__ := by rw [e (C + 1) (by omega) (by omega)]; exact a.ord)
  (left__ := by rw [e (C + 2) (by omega) (by omega)]; exact a.left)
  (right__ := by rw [e (C + 3) (by omega) (by omega)]; exact a.right)
  (least0__ := by rw [e (C + 4) (by omega) (by omega)]; exact a.least0)
  (least__ := by rw [e (C + 4) (by omega) (by omega)]; exact a.least)
  (most0__ := by rw [e (C + 5) (by omega) (by omega)]; exact a.most0)
  (most__ := by rw [e (C + 5) (by omega) (by omega)]; exact a.most)
  (seam__ := by rw [e (C + 6) (by omega) (by omega)]; exact a.seam)
  (low__ := by rw [e (C + 6) (by omega) (by omega)]; exact a.low)
  (upp__ := by rw [e (C + 6) (by omega) (by omega)]; exact a.upp)
/-- the class's state over other cells that are alike where it matters -/
theorem RepC.keep {h h' : Hh} {S : St} (w : WF S) (a : RepC h S) (e : simC h h') : RepC h' S := by
  have n3 : ∀ b : Int, ¬ (3 ≤ b ∧ b ≤ 5) → b ≠ 15 → ¬ (21 ≤ b ∧ b ≤ 71) → h' b = h b := fun b h1 h2 h3 => funext fun k => e b k (by omega) (by unfold scC; omega)
  have n15 : ∀ k, k ≠ 8 → h' 15 k = h 15 k := fun k hk => e 15 k (by omega) (by unfold scC; omega)
  have e0 := n3 0 (by omega) (by omega) (by omega)
  have e1 := n3 1 (by omega) (by omega) (by omega)
  have e2 := n3 2 (by omega) (by omega) (by omega)
  have e6 := n3 6 (by omega) (by omega) (by omega)
  have e7 := n3 7 (by omega) (by omega) (by omega)
  have e8 := n3 8 (by omega) (by omega) (by omega)
  have e9 := n3 9 (by omega) (by omega) (by omega)
  have e10 := n3 10 (by omega) (by omega) (by omega)
  have e11 := n3 11 (by omega) (by omega) (by omega)
  have e12 := n3 12 (by omega) (by omega) (by omega)
  have e13 := n3 13 (by omega) (by omega) (by omega)
  have e14 := n3 14 (by omega) (by omega) (by omega)
  have e16 := n3 16 (by omega) (by omega) (by omega)
  have e17 := n3 17 (by omega) (by omega) (by omega)
  have e18 := n3 18 (by omega) (by omega) (by omega)
  have e19 := n3 19 (by omega) (by omega) (by omega)
  have e20 := n3 20 (by omega) (by omega) (by omega)
  have em := n3 (-1) (by omega) (by omega) (by omega)
  have e15 := n15 7 (by omega)
  refine ⟨?_, ?_, ?_, ?_, ?_, ?_, ?_, ?_, ?_, ?_, ?_, ?_, ?_, ?_, ?_, ?_, ?_, ?_, ?_, ?_, ?_, ?_, ?_, ?_, ?_, ?_, ?_, ?_, ?_⟩ <;> (try rw [e0]) <;> (try rw [e1]) <;> (try rw [e2]) <;> (try rw [e6]) <;> (try rw [e7]) <;> (try rw [e8]) <;> (try rw [e9]) <;> (try rw [e10]) <;> (try rw [e11]) <;> (try rw [e12]) <;> (try rw [e13]) <;> (try rw [e14]) <;> (try rw [e15]) <;> (try rw [e16]) <;> (try rw [e17]) <;> (try rw [e18]) <;> (try rw [e19]) <;> (try rw [e20]) <;> (try rw [em])
  · exact a.size
  · exact a.txt
  · exact a.rules
  · intro j h1 h2
    have q := a.ra j h1 h2
    exact (a.rule j h1 h2).keep (fun b h3 h4 => n3 b (by omega) (by omega) (by omega)) (w.rule j h1 h2).terms.2
  · exact a.ra
  · exact a.raa
  · exact a.charts
  · intro j h1 h2
    have q := a.ca j h1 h2
    exact (a.chart j h1 h2).keep (fun b h3 h4 => n3 b (by omega) (by omega) (by omega)) e6
  · exact a.ca
  · exact a.caa
  · exact a.rca
  · exact a.rdC
  · exact a.rdM
  · exact a.now
  · exact a.moves
  · exact a.mC
  · exact a.mT
  · exact a.mM
  · exact a.mN
  · exact a.mD
  · exact a.reps
  · exact a.rB
  · exact a.rC
  · exact a.rM
  · exact a.rS
  · exact a.rD
  · exact a.listed
  · exact a.list
  · exact a.room
/-- the same for the reference -/
theorem RepM.keep {h h' : Hh} {S : St} (a : RepM h S) (e : simM h h') : RepM h' S := by
  have n : ∀ b : Int, 34 ≤ b → ¬ (35 ≤ b ∧ b ≤ 37) → b < 64 → h' b = h b := fun b h1 h2 h3 => funext fun k => e b k (by omega) (by omega) (by unfold scM; omega)
  have n33 : ∀ k, ¬ (2 ≤ k ∧ k ≤ 6) → k ≠ 10 → ¬ (50 ≤ k ∧ k ≤ 58) → h' 33 k = h 33 k := fun k h1 h2 h3 => e 33 k (by omega) (by omega) (by unfold scM; omega)
  have m : ∀ b : Int, 38 ≤ b → b ≤ 63 → h' b = h b := fun b h1 h2 => n b (by omega) (by omega) (by omega)
  refine ⟨?_, ?_, ?_, ?_, ?_, ?_, ?_, ?_, ?_, ?_, ?_, ?_, ?_, ?_, ?_, ?_, ?_, ?_, ?_, ?_, ?_, ?_, ?_, ?_, ?_, ?_, ?_, ?_, ?_, ?_, ?_, ?_, ?_, ?_, ?_⟩
  · rw [n33 1 (by omega) (by omega) (by omega)]; exact a.size
  · rw [n 34 (by omega) (by omega) (by omega)]; exact a.txt
  · rw [n33 11 (by omega) (by omega) (by omega)]; exact a.rules
  · rw [m 38 (by omega) (by omega)]; exact a.terms
  · rw [m 39 (by omega) (by omega)]; exact a.const
  · rw [m 40 (by omega) (by omega)]; exact a.kind
  · rw [m 41 (by omega) (by omega)]; exact a.sign
  · rw [m 42 (by omega) (by omega)]; exact a.many
  · rw [m 43 (by omega) (by omega)]; exact a.val
  · rw [n33 18 (by omega) (by omega) (by omega)]; exact a.charts
  · rw [m 44 (by omega) (by omega)]; exact a.crule
  · rw [m 45 (by omega) (by omega)]; exact a.ord
  · rw [m 46 (by omega) (by omega)]; exact a.wide
  · rw [m 47 (by omega) (by omega)]; exact a.left
  · rw [m 48 (by omega) (by omega)]; exact a.right
  · rw [m 49 (by omega) (by omega)]; exact a.seam
  · rw [m 50 (by omega) (by omega)]; exact a.low
  · rw [m 51 (by omega) (by omega)]; exact a.upp
  · rw [n33 27 (by omega) (by omega) (by omega)]; exact a.rdC
  · rw [m 52 (by omega) (by omega)]; exact a.rdM
  · rw [n33 29 (by omega) (by omega) (by omega)]; exact a.now
  · rw [n33 30 (by omega) (by omega) (by omega)]; exact a.moves
  · rw [m 53 (by omega) (by omega)]; exact a.mC
  · rw [m 54 (by omega) (by omega)]; exact a.mT
  · rw [m 55 (by omega) (by omega)]; exact a.mM
  · rw [m 56 (by omega) (by omega)]; exact a.mN
  · rw [m 57 (by omega) (by omega)]; exact a.mD
  · rw [n33 36 (by omega) (by omega) (by omega)]; exact a.reps
  · rw [m 58 (by omega) (by omega)]; exact a.rB
  · rw [m 59 (by omega) (by omega)]; exact a.rC
  · rw [m 60 (by omega) (by omega)]; exact a.rM
  · rw [m 61 (by omega) (by omega)]; exact a.rS
  · rw [m 62 (by omega) (by omega)]; exact a.rD
  · rw [n33 42 (by omega) (by omega) (by omega)]; exact a.listed
  · rw [m 63 (by omega) (by omega)]; exact a.list
