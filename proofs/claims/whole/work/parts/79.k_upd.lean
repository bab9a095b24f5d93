/-! PURE 20: how a state and its cells are changed; go, clear, end, list -/
def RCp (h : Hh) (S : St) : Prop := (h 0 3 = S.rules) ∧ (∀ j, 0 ≤ j → j < S.rules → RuleC h (h 6 j) S j) ∧ (∀ j, 0 ≤ j → j < S.rules → 72 ≤ h 6 j ∧ h 6 j + 11 ≤ h (-1) 0) ∧ (∀ i j, 0 ≤ i → i < j → j < S.rules → h 6 i + 11 ≤ h 6 j) ∧ (h 0 5 = S.charts) ∧ (∀ c, 0 ≤ c → c < S.charts → ChartC h (h 7 c) S c) ∧ (∀ j, 0 ≤ j → j < S.charts → 72 ≤ h 7 j ∧ h 7 j + 7 ≤ h (-1) 0) ∧ (∀ i j, 0 ≤ i → i < j → j < S.charts → h 7 i + 7 ≤ h 7 j) ∧ (∀ i j, 0 ≤ i → i < S.rules → 0 ≤ j → j < S.charts → h 6 i + 11 ≤ h 7 j ∨ h 7 j + 7 ≤ h 6 i) ∧ (72 ≤ h (-1) 0)
theorem RCp.rules {h : Hh} {S : St} (x__ : RCp h S) : h 0 3 = S.rules := x__.1
theorem RCp.rule {h : Hh} {S : St} (x__ : RCp h S) : ∀ j, 0 ≤ j → j < S.rules → RuleC h (h 6 j) S j := x__.2.1
theorem RCp.ra {h : Hh} {S : St} (x__ : RCp h S) : ∀ j, 0 ≤ j → j < S.rules → 72 ≤ h 6 j ∧ h 6 j + 11 ≤ h (-1) 0 := x__.2.2.1
theorem RCp.raa {h : Hh} {S : St} (x__ : RCp h S) : ∀ i j, 0 ≤ i → i < j → j < S.rules → h 6 i + 11 ≤ h 6 j := x__.2.2.2.1
theorem RCp.charts {h : Hh} {S : St} (x__ : RCp h S) : h 0 5 = S.charts := x__.2.2.2.2.1
theorem RCp.chart {h : Hh} {S : St} (x__ : RCp h S) : ∀ c, 0 ≤ c → c < S.charts → ChartC h (h 7 c) S c := x__.2.2.2.2.2.1
theorem RCp.ca {h : Hh} {S : St} (x__ : RCp h S) : ∀ j, 0 ≤ j → j < S.charts → 72 ≤ h 7 j ∧ h 7 j + 7 ≤ h (-1) 0 := x__.2.2.2.2.2.2.1
theorem RCp.caa {h : Hh} {S : St} (x__ : RCp h S) : ∀ i j, 0 ≤ i → i < j → j < S.charts → h 7 i + 7 ≤ h 7 j := x__.2.2.2.2.2.2.2.1
theorem RCp.rca {h : Hh} {S : St} (x__ : RCp h S) : ∀ i j, 0 ≤ i → i < S.rules → 0 ≤ j → j < S.charts → h 6 i + 11 ≤ h 7 j ∨ h 7 j + 7 ≤ h 6 i := x__.2.2.2.2.2.2.2.2.1
theorem RCp.room {h : Hh} {S : St} (x__ : RCp h S) : 72 ≤ h (-1) 0 := x__.2.2.2.2.2.2.2.2.2
theorem RCp.mk' {h : Hh} {S : St} (rules__ : h 0 3 = S.rules) (rule__ : ∀ j, 0 ≤ j → j < S.rules → RuleC h (h 6 j) S j) (ra__ : ∀ j, 0 ≤ j → j < S.rules → 72 ≤ h 6 j ∧ h 6 j + 11 ≤ h (-1) 0) (raa__ : ∀ i j, 0 ≤ i → i < j → j < S.rules → h 6 i + 11 ≤ h 6 j) (charts__ : h 0 5 = S.charts) (chart__ : ∀ c, 0 ≤ c → c < S.charts → ChartC h (h 7 c) S c) (ca__ : ∀ j, 0 ≤ j → j < S.charts → 72 ≤ h 7 j ∧ h 7 j + 7 ≤ h (-1) 0) (caa__ : ∀ i j, 0 ≤ i → i < j → j < S.charts → h 7 i + 7 ≤ h 7 j) (rca__ : ∀ i j, 0 ≤ i → i < S.rules → 0 ≤ j → j < S.charts → h 6 i + 11 ≤ h 7 j ∨ h 7 j + 7 ≤ h 6 i) (room__ : 72 ≤ h (-1) 0) : RCp h S := ⟨rules__, rule__, ra__, raa__, charts__, chart__, ca__, caa__, rca__, room__⟩
def MVp (h : Hh) (S : St) : Prop := (h 9 5 = S.moves) ∧ (∀ i, 0 ≤ i → i < S.moves → h 10 i = S.mC i) ∧ (∀ i, 0 ≤ i → i < S.moves → h 11 i = S.mT i) ∧ (∀ i, 0 ≤ i → i < S.moves → h 12 i = S.mM i) ∧ (∀ i, 0 ≤ i → i < S.moves → h 13 i = S.mN i) ∧ (∀ i, 0 ≤ i → i < S.moves → h 14 i = S.mD i)
theorem MVp.moves {h : Hh} {S : St} (x__ : MVp h S) : h 9 5 = S.moves := x__.1
theorem MVp.mC {h : Hh} {S : St} (x__ : MVp h S) : ∀ i, 0 ≤ i → i < S.moves → h 10 i = S.mC i := x__.2.1
theorem MVp.mT {h : Hh} {S : St} (x__ : MVp h S) : ∀ i, 0 ≤ i → i < S.moves → h 11 i = S.mT i := x__.2.2.1
theorem MVp.mM {h : Hh} {S : St} (x__ : MVp h S) : ∀ i, 0 ≤ i → i < S.moves → h 12 i = S.mM i := x__.2.2.2.1
theorem MVp.mN {h : Hh} {S : St} (x__ : MVp h S) : ∀ i, 0 ≤ i → i < S.moves → h 13 i = S.mN i := x__.2.2.2.2.1
theorem MVp.mD {h : Hh} {S : St} (x__ : MVp h S) : ∀ i, 0 ≤ i → i < S.moves → h 14 i = S.mD i := x__.2.2.2.2.2
theorem MVp.mk' {h : Hh} {S : St} (moves__ : h 9 5 = S.moves) (mC__ : ∀ i, 0 ≤ i → i < S.moves → h 10 i = S.mC i) (mT__ : ∀ i, 0 ≤ i → i < S.moves → h 11 i = S.mT i) (mM__ : ∀ i, 0 ≤ i → i < S.moves → h 12 i = S.mM i) (mN__ : ∀ i, 0 ≤ i → i < S.moves → h 13 i = S.mN i) (mD__ : ∀ i, 0 ≤ i → i < S.moves → h 14 i = S.mD i) : MVp h S := ⟨moves__, mC__, mT__, mM__, mN__, mD__⟩
def RPp (h : Hh) (S : St) : Prop := (h 15 7 = S.reps) ∧ (∀ i, 0 ≤ i → i < S.reps → h 16 i = S.rB i) ∧ (∀ i, 0 ≤ i → i < S.reps → h 17 i = S.rC i) ∧ (∀ i, 0 ≤ i → i < S.reps → h 18 i = S.rM i) ∧ (∀ i, 0 ≤ i → i < S.reps → h 19 i = S.rS i) ∧ (∀ i, 0 ≤ i → i < S.reps → h 20 i = S.rD i)
theorem RPp.reps {h : Hh} {S : St} (x__ : RPp h S) : h 15 7 = S.reps := x__.1
theorem RPp.rB {h : Hh} {S : St} (x__ : RPp h S) : ∀ i, 0 ≤ i → i < S.reps → h 16 i = S.rB i := x__.2.1
theorem RPp.rC {h : Hh} {S : St} (x__ : RPp h S) : ∀ i, 0 ≤ i → i < S.reps → h 17 i = S.rC i := x__.2.2.1
theorem RPp.rM {h : Hh} {S : St} (x__ : RPp h S) : ∀ i, 0 ≤ i → i < S.reps → h 18 i = S.rM i := x__.2.2.2.1
theorem RPp.rS {h : Hh} {S : St} (x__ : RPp h S) : ∀ i, 0 ≤ i → i < S.reps → h 19 i = S.rS i := x__.2.2.2.2.1
theorem RPp.rD {h : Hh} {S : St} (x__ : RPp h S) : ∀ i, 0 ≤ i → i < S.reps → h 20 i = S.rD i := x__.2.2.2.2.2
theorem RPp.mk' {h : Hh} {S : St} (reps__ : h 15 7 = S.reps) (rB__ : ∀ i, 0 ≤ i → i < S.reps → h 16 i = S.rB i) (rC__ : ∀ i, 0 ≤ i → i < S.reps → h 17 i = S.rC i) (rM__ : ∀ i, 0 ≤ i → i < S.reps → h 18 i = S.rM i) (rS__ : ∀ i, 0 ≤ i → i < S.reps → h 19 i = S.rS i) (rD__ : ∀ i, 0 ≤ i → i < S.reps → h 20 i = S.rD i) : RPp h S := ⟨reps__, rB__, rC__, rM__, rS__, rD__⟩
def RpEq (S S' : St) : Prop := (S'.reps = S.reps) ∧ (S'.rB = S.rB) ∧ (S'.rC = S.rC) ∧ (S'.rM = S.rM) ∧ (S'.rS = S.rS) ∧ (S'.rD = S.rD)
theorem RpEq.reps {S S' : St} (x__ : RpEq S S') : S'.reps = S.reps := x__.1
theorem RpEq.rB {S S' : St} (x__ : RpEq S S') : S'.rB = S.rB := x__.2.1
theorem RpEq.rC {S S' : St} (x__ : RpEq S S') : S'.rC = S.rC := x__.2.2.1
theorem RpEq.rM {S S' : St} (x__ : RpEq S S') : S'.rM = S.rM := x__.2.2.2.1
theorem RpEq.rS {S S' : St} (x__ : RpEq S S') : S'.rS = S.rS := x__.2.2.2.2.1
theorem RpEq.rD {S S' : St} (x__ : RpEq S S') : S'.rD = S.rD := x__.2.2.2.2.2
theorem RpEq.mk' {S S' : St} (reps__ : S'.reps = S.reps) (rB__ : S'.rB = S.rB) (rC__ : S'.rC = S.rC) (rM__ : S'.rM = S.rM) (rS__ : S'.rS = S.rS) (rD__ : S'.rD = S.rD) : RpEq S S' := ⟨reps__, rB__, rC__, rM__, rS__, rD__⟩
theorem RepC.rcp {h : Hh} {S : St} (a : RepC h S) : RCp h S := ⟨a.rules, a.rule, a.ra, a.raa, a.charts, a.chart, a.ca, a.caa, a.rca, a.room⟩
theorem RepC.mvp {h : Hh} {S : St} (a : RepC h S) : MVp h S := ⟨a.moves, a.mC, a.mT, a.mM, a.mN, a.mD⟩
theorem RepC.rpp {h : Hh} {S : St} (a : RepC h S) : RPp h S := ⟨a.reps, a.rB, a.rC, a.rM, a.rS, a.rD⟩
theorem RepC.of {h : Hh} {S : St} (size : h 1 1 = S.size) (txt : ∀ i, 0 ≤ i → i < S.size → h 2 i = S.txt i) (a : RCp h S) (rdC : h 0 9 = if S.rdC = -1 then -1 else h 7 S.rdC) (rdM : h 0 10 = S.rdM) (now : h 0 8 = S.now) (b : MVp h S) (c : RPp h S) (listed : h 0 7 = S.listed) (list : ∀ i, 0 ≤ i → i < S.listed → h 8 i = S.list i) : RepC h S :=
  ⟨size, txt, a.rules, a.rule, a.ra, a.raa, a.charts, a.chart, a.ca, a.caa, a.rca, rdC, rdM, now, b.moves, b.mC, b.mT, b.mM, b.mN, b.mD, c.reps, c.rB, c.rC, c.rM, c.rS, c.rD, listed, list, a.room⟩
def RcEq (S S' : St) : Prop := (S'.rules = S.rules) ∧ (S'.charts = S.charts) ∧ (∀ j, RuEq S S' j) ∧ (∀ c, ChEq S S' c) ∧ (∀ c, PaEq S S' c)
theorem RcEq.rules {S S' : St} (x__ : RcEq S S') : S'.rules = S.rules := x__.1
theorem RcEq.charts {S S' : St} (x__ : RcEq S S') : S'.charts = S.charts := x__.2.1
theorem RcEq.ru {S S' : St} (x__ : RcEq S S') : ∀ j, RuEq S S' j := x__.2.2.1
theorem RcEq.ch {S S' : St} (x__ : RcEq S S') : ∀ c, ChEq S S' c := x__.2.2.2.1
theorem RcEq.pa {S S' : St} (x__ : RcEq S S') : ∀ c, PaEq S S' c := x__.2.2.2.2
theorem RcEq.mk' {S S' : St} (rules__ : S'.rules = S.rules) (charts__ : S'.charts = S.charts) (ru__ : ∀ j, RuEq S S' j) (ch__ : ∀ c, ChEq S S' c) (pa__ : ∀ c, PaEq S S' c) : RcEq S S' := ⟨rules__, charts__, ru__, ch__, pa__⟩
theorem RCp.to {h h' : Hh} {S S' : St} (a : RCp h S) (w : WF S) (e : RcEq S S') (e3 : h' 0 3 = h 0 3) (e5 : h' 0 5 = h 0 5) (e6 : h' 6 = h 6) (e7 : h' 7 = h 7) (em : h' (-1) 0 = h (-1) 0) (k : ∀ b, 72 ≤ b → h' b = h b) : RCp h' S' := RCp.mk'
  (rules__ := by rw [e3, e.rules]; exact a.rules)
  (rule__ := by
    rw [e.rules, e6]
    intro j h1 h2
    have := a.ra j h1 h2
    exact (a.rule j h1 h2).to (e.ru j) (fun b h3 h4 => k b (by omega)) (w.rule j h1 h2).terms.2)
  (ra__ := by rw [e.rules, e6, em]; exact a.ra)
  (raa__ := by rw [e.rules, e6]; exact a.raa)
  (charts__ := by rw [e5, e.charts]; exact a.charts)
  (chart__ := by
    rw [e.charts, e7]
    intro c h1 h2
    have := a.ca c h1 h2
    exact (a.chart c h1 h2).to (e.ch c) (e.pa c) (e.ru _) (fun b h3 h4 => k b (by omega)) (by rw [e6]))
  (ca__ := by rw [e.charts, e7, em]; exact a.ca)
  (caa__ := by rw [e.charts, e7]; exact a.caa)
  (rca__ := by rw [e.rules, e.charts, e6, e7]; exact a.rca)
  (room__ := by rw [em]; exact a.room)
theorem MVp.to {h h' : Hh} {S S' : St} (a : MVp h S) (e : MvEq S S') (k : ∀ b, 9 ≤ b → b ≤ 14 → h' b = h b) : MVp h' S' := by
  refine ⟨?_, ?_, ?_, ?_, ?_, ?_⟩
  · rw [k 9 (by omega) (by omega), e.moves]; exact a.moves
  · rw [k 10 (by omega) (by omega), e.moves, e.mC]; exact a.mC
  · rw [k 11 (by omega) (by omega), e.moves, e.mT]; exact a.mT
  · rw [k 12 (by omega) (by omega), e.moves, e.mM]; exact a.mM
  · rw [k 13 (by omega) (by omega), e.moves, e.mN]; exact a.mN
  · rw [k 14 (by omega) (by omega), e.moves, e.mD]; exact a.mD
theorem RPp.to {h h' : Hh} {S S' : St} (a : RPp h S) (e : RpEq S S') (k15 : h' 15 7 = h 15 7) (k : ∀ b, 16 ≤ b → b ≤ 20 → h' b = h b) : RPp h' S' := by
  refine ⟨?_, ?_, ?_, ?_, ?_, ?_⟩
  · rw [k15, e.reps]; exact a.reps
  · rw [k 16 (by omega) (by omega), e.reps, e.rB]; exact a.rB
  · rw [k 17 (by omega) (by omega), e.reps, e.rC]; exact a.rC
  · rw [k 18 (by omega) (by omega), e.reps, e.rM]; exact a.rM
  · rw [k 19 (by omega) (by omega), e.reps, e.rS]; exact a.rS
  · rw [k 20 (by omega) (by omega), e.reps, e.rD]; exact a.rD
theorem RdOk.to' {S S' : St} {c M : Int} (a : RdOk S c M) (e : RcEq S S') : RdOk S' c M := a.to (e.ch c) (e.ru _) (by rw [e.charts]; exact Int.le_refl _)
/-- well-formed, where rules and charts stay -/
theorem WF.upd {S S' : St} (w : WF S) (e : RcEq S S') (size : 0 ≤ S'.size ∧ S'.size ≤ 120) (txt : ∀ i, 0 ≤ i → i < S'.size → -128 ≤ S'.txt i ∧ S'.txt i < 128) (rd : S'.rdC = -1 ∨ RdOk S' S'.rdC S'.rdM) (now : 0 ≤ S'.now ∧ S'.now ≤ 300) (moves : 0 ≤ S'.moves ∧ S'.moves ≤ 40) (mN : ∀ i, 0 ≤ i → i < S'.moves → -99999 ≤ S'.mN i ∧ S'.mN i ≤ 99999) (reps : 0 ≤ S'.reps ∧ S'.reps ≤ 60) (rep : ∀ i, 0 ≤ i → i < S'.reps → RdOk S' (S'.rC i) (S'.rM i)) (rS : ∀ i, 0 ≤ i → i < S'.reps → 0 ≤ S'.rS i ∧ S'.rS i ≤ 399) (rB : ∀ i, 0 ≤ i → i < S'.reps → 0 ≤ S'.rB i ∧ S'.rB i ≤ 7) (listed : 0 ≤ S'.listed ∧ S'.listed ≤ 4) (list : ∀ i, 0 ≤ i → i < S'.listed → 1 ≤ S'.list i ∧ S'.list i ≤ 50) : WF S' := WF.mk'
  (size__ := size)
  (txt__ := txt)
  (rules__ := by rw [e.rules]; exact w.rules)
  (rule__ := by rw [e.rules]; exact fun j h1 h2 => (w.rule j h1 h2).to (e.ru j))
  (fresh__ := by rw [e.rules]; exact fun j t h1 => by rw [(e.ru j).many]; exact w.fresh j t h1)
  (charts__ := by rw [e.charts]; exact w.charts)
  (chart__ := by rw [e.charts]; exact fun c h1 h2 => (w.chart c h1 h2).to (e.ch c) (e.ru _) (by rw [e.rules]; exact Int.le_refl _))
  (papr__ := fun c => by rw [(e.pa c).seam, (e.pa c).low, (e.pa c).upp]; exact w.papr c)
  (cfresh__ := by rw [e.charts]; exact fun c h1 => by rw [(e.pa c).seam, (e.pa c).low, (e.pa c).upp]; exact w.cfresh c h1)
  (rd__ := rd)
  (now__ := now)
  (moves__ := moves)
  (mN__ := mN)
  (reps__ := reps)
  (rep__ := rep)
  (rS__ := rS)
  (rB__ := rB)
  (listed__ := listed)
  (list__ := list)
theorem WF.rd' {S S' : St} (w : WF S) (e : RcEq S S') (h1 : S'.rdC = S.rdC) (h2 : S'.rdM = S.rdM) : S'.rdC = -1 ∨ RdOk S' S'.rdC S'.rdM := by
  rw [h1, h2]
  rcases w.rd with h | h
  · exact Or.inl h
  · exact Or.inr (h.to' e)
theorem DuesC.to {h h' : Hh} {S S' : St} (a : DuesC h S) (e1 : h' 15 8 = h 15 8) (e2 : h' 21 = h 21) (hr : S.reps ≤ S'.reps) (hd : ∀ i, 0 ≤ i → i < S.reps → S'.due i = S.due i) : DuesC h' S' := by
  have k := a.known
  refine ⟨by rw [e1]; omega, fun i h1 h2 => ?_⟩
  rw [e1] at h2
  rw [e2, hd i h1 (by omega)]
  exact a.due i h1 h2
theorem due_same {S S' : St} (e : RcEq S S') (m : MvEq S S') (r : RpEq S S') (i : Int) : S'.due i = S.due i := due_to (e.ch _) (e.pa _) (e.ru _) m (by rw [r.rC]) (by rw [r.rM]) (by rw [r.rD])
/-- go -/
def St.go (n : Int) (S : St) : St := if 0 ≤ n ∧ n ≤ 50 then (St.mk S.size S.txt S.rules S.terms S.const S.kind S.sign S.many S.val S.scn S.sc S.charts S.crule S.ord S.wide S.left S.right S.seam S.low S.upp S.rdC S.rdM (if S.now + n > 300 then 300 else S.now + n) S.moves S.mC S.mT S.mM S.mN S.mD S.reps S.rB S.rC S.rM S.rS S.rD S.listed S.list) else S
theorem up_m1 {h : Hh} {a k x : Int} (ha : 0 ≤ a) (j : Int) : up h a k x (-1) j = h (-1) j := by rw [up_ne (by omega)]
theorem go_M2 {h : Hh} {S : St} (x : Mx h S) (n : Int) (K : Int → Hh → Prop) : w_X11_go 33 n h K = if 0 ≤ n ∧ n ≤ 50 then K (if S.now + n > 300 then 300 else S.now + n) (up h 33 29 (if S.now + n > 300 then 300 else S.now + n)) else K (-1) h := by
  have e := x.rep.now
  have q := x.wf.now
  rw [go_M (by omega) (by omega), e]
theorem RepM.upd {h h' : Hh} {S S' : St} (a : RepM h S) (k : ∀ b, 38 ≤ b → b ≤ 51 → h' b = h b) (k11 : h' 33 11 = h 33 11) (k18 : h' 33 18 = h 33 18) (e : RcEq S S') (size : h' 33 1 = S'.size) (txt : ∀ i, 0 ≤ i → i < S'.size → h' 34 i = S'.txt i) (rdC : h' 33 27 = S'.rdC) (rdM : S'.rdC ≠ -1 → ∀ k, 0 ≤ k → k < S'.terms (S'.crule S'.rdC) - 1 → h' 52 k = dg S'.rdM (S'.terms (S'.crule S'.rdC) - 2 - k)) (now : h' 33 29 = S'.now) (moves : h' 33 30 = S'.moves) (mC : ∀ i, 0 ≤ i → i < S'.moves → h' 53 i = S'.mC i) (mT : ∀ i, 0 ≤ i → i < S'.moves → h' 54 i = S'.mT i) (mM : ∀ i, 0 ≤ i → i < S'.moves → h' 55 i = S'.mM i) (mN : ∀ i, 0 ≤ i → i < S'.moves → h' 56 i = S'.mN i) (mD : ∀ i, 0 ≤ i → i < S'.moves → h' 57 i = S'.mD i) (reps : h' 33 36 = S'.reps) (rB : ∀ i, 0 ≤ i → i < S'.reps → h' 58 i = S'.rB i) (rC : ∀ i, 0 ≤ i → i < S'.reps → h' 59 i = S'.rC i) (rM : ∀ i k, 0 ≤ i → i < S'.reps → 0 ≤ k → k < S'.terms (S'.crule (S'.rC i)) - 1 → h' 60 (4 * i + k) = dg (S'.rM i) (S'.terms (S'.crule (S'.rC i)) - 2 - k)) (rS : ∀ i, 0 ≤ i → i < S'.reps → h' 61 i = S'.rS i) (rD : ∀ i, 0 ≤ i → i < S'.reps → h' 62 i = S'.rD i) (listed : h' 33 42 = S'.listed) (list : ∀ i, 0 ≤ i → i < S'.listed → h' 63 i = S'.list i) : RepM h' S' := RepM.mk'
  (size__ := size)
  (txt__ := txt)
  (rules__ := by rw [k11, e.rules]; exact a.rules)
  (terms__ := by rw [k 38 (by omega) (by omega), e.rules]; exact fun j h1 h2 => by rw [(e.ru j).terms]; exact a.terms j h1 h2)
  (const__ := by rw [k 39 (by omega) (by omega), e.rules]; exact fun j h1 h2 => by rw [(e.ru j).const]; exact a.const j h1 h2)
  (kind__ := by rw [k 40 (by omega) (by omega), e.rules]; exact fun j t h1 h2 => by rw [(e.ru j).terms, (e.ru j).kind]; exact a.kind j t h1 h2)
  (sign__ := by rw [k 41 (by omega) (by omega), e.rules]; exact fun j t h1 h2 => by rw [(e.ru j).terms, (e.ru j).sign]; exact a.sign j t h1 h2)
  (many__ := by rw [k 42 (by omega) (by omega)]; exact fun j t h1 h2 => by rw [(e.ru j).many]; exact a.many j t h1 h2)
  (val__ := by rw [k 43 (by omega) (by omega), e.rules]; exact fun j t m h1 h2 => by rw [(e.ru j).terms, (e.ru j).many, (e.ru j).val]; exact a.val j t m h1 h2)
  (charts__ := by rw [k18, e.charts]; exact a.charts)
  (crule__ := by rw [k 44 (by omega) (by omega), e.charts]; exact fun c h1 h2 => by rw [(e.ch c).crule]; exact a.crule c h1 h2)
  (ord__ := by rw [k 45 (by omega) (by omega), e.charts]; exact fun c j h1 h2 => by rw [(e.ch c).crule, (e.ru _).terms, (e.ch c).ord]; exact a.ord c j h1 h2)
  (wide__ := by rw [k 46 (by omega) (by omega), e.charts]; exact fun c h1 h2 => by rw [(e.ch c).wide]; exact a.wide c h1 h2)
  (left__ := by rw [k 47 (by omega) (by omega), e.charts]; exact fun c p h1 h2 => by rw [(e.ch c).crule, (e.ru _).terms, (e.ch c).left]; exact a.left c p h1 h2)
  (right__ := by rw [k 48 (by omega) (by omega), e.charts]; exact fun c p h1 h2 => by rw [(e.ch c).crule, (e.ru _).terms, (e.ch c).right]; exact a.right c p h1 h2)
  (seam__ := by rw [k 49 (by omega) (by omega)]; exact fun c h1 h2 => by rw [(e.pa c).seam]; exact a.seam c h1 h2)
  (low__ := by rw [k 50 (by omega) (by omega)]; exact fun c h1 h2 => by rw [(e.pa c).low]; exact a.low c h1 h2)
  (upp__ := by rw [k 51 (by omega) (by omega)]; exact fun c h1 h2 => by rw [(e.pa c).upp]; exact a.upp c h1 h2)
  (rdC__ := rdC)
  (rdM__ := rdM)
  (now__ := now)
  (moves__ := moves)
  (mC__ := mC)
  (mT__ := mT)
  (mM__ := mM)
  (mN__ := mN)
  (mD__ := mD)
  (reps__ := reps)
  (rB__ := rB)
  (rC__ := rC)
  (rM__ := rM)
  (rS__ := rS)
  (rD__ := rD)
  (listed__ := listed)
  (list__ := list)
theorem RcEq.triv {S S' : St} (h1 : S'.rules = S.rules := by rfl) (h2 : S'.charts = S.charts := by rfl) (h3 : S'.terms = S.terms := by rfl) (h4 : S'.const = S.const := by rfl) (h5 : S'.kind = S.kind := by rfl) (h6 : S'.sign = S.sign := by rfl) (h7 : S'.many = S.many := by rfl) (h8 : S'.val = S.val := by rfl) (h9 : S'.scn = S.scn := by rfl) (h10 : S'.sc = S.sc := by rfl) (h11 : S'.crule = S.crule := by rfl) (h12 : S'.ord = S.ord := by rfl) (h13 : S'.wide = S.wide := by rfl) (h14 : S'.left = S.left := by rfl) (h15 : S'.right = S.right := by rfl) (h16 : S'.seam = S.seam := by rfl) (h17 : S'.low = S.low := by rfl) (h18 : S'.upp = S.upp := by rfl) : RcEq S S' :=
  ⟨h1, h2, fun j => ⟨by rw [h3], by rw [h4], by rw [h5], by rw [h6], by rw [h7], by rw [h8], by rw [h9], by rw [h10]⟩, fun c => ⟨by rw [h11], by rw [h12], by rw [h13], by rw [h14], by rw [h15]⟩, fun c => ⟨by rw [h16], by rw [h17], by rw [h18]⟩⟩
theorem a_go (n : Int) : Agree (w_X10_go 0 n) (w_X11_go 33 n) := by
  refine agree_u (fun S => if 0 ≤ n ∧ n ≤ 50 then (if S.now + n > 300 then 300 else S.now + n) else -1) (St.go n) ?_ ?_ ?_
  · intro S w
    unfold St.go
    split
    · have q := w.now
      exact w.upd RcEq.triv w.size w.txt (w.rd' RcEq.triv rfl rfl) (by show 0 ≤ (if S.now + n > 300 then 300 else S.now + n) ∧ (if S.now + n > 300 then 300 else S.now + n) ≤ 300; split <;> omega) w.moves w.mN w.reps (fun i h1 h2 => (w.rep i h1 h2).to' RcEq.triv) w.rS w.rB w.listed w.list
    · exact w
  · intro h S b K hK
    have q := b.w.now
    have e := b.c.now
    rw [go_C (by omega), e]
    unfold St.go at hK
    by_cases hn : 0 ≤ n ∧ n ≤ 50
    · rw [if_pos hn]
      simp only [if_pos hn] at hK
      refine hK _ ?_ ?_ ?_
      · refine RepC.of b.c.size b.c.txt ?_ ?_ ?_ ?_ ?_ ?_ ?_ b.c.list
        · exact b.c.rcp.to b.w RcEq.triv (by rw [up_at, if_neg (by decide)]) (by rw [up_at, if_neg (by decide)]) (up_ne (by decide)) (up_ne (by decide)) (by rw [up_ne (by decide)]) (fun b hb => up_ne (by omega))
        · rw [up_at, if_neg (by decide), up_ne (by decide)]; exact b.c.rdC
        · rw [up_at, if_neg (by decide)]; exact b.c.rdM
        · rw [up_at, if_pos rfl]; rfl
        · exact b.c.mvp.to ⟨rfl, rfl, rfl, rfl, rfl, rfl⟩ (fun b h1 h2 => up_ne (by omega))
        · exact b.c.rpp.to ⟨rfl, rfl, rfl, rfl, rfl, rfl⟩ (by rw [up_ne (by decide)]) (fun b h1 h2 => up_ne (by omega))
        · rw [up_at, if_neg (by decide)]; exact b.c.listed
      · exact b.d.to (by rw [up_ne (by decide)]) (up_ne (by decide)) (Int.le_refl _) (fun i h1 h2 => by
        apply due_same
        · exact RcEq.triv
        · exact ⟨rfl, rfl, rfl, rfl, rfl, rfl⟩
        · exact ⟨rfl, rfl, rfl, rfl, rfl, rfl⟩)
      · exact fun a h1 h2 => up_ne (by omega)
    · rw [if_neg hn]
      simp only [if_neg hn] at hK
      exact hK h b.c b.d (fun _ _ _ => rfl)
  · intro h S x K hK
    rw [go_M2 x]
    unfold St.go at hK
    by_cases hn : 0 ≤ n ∧ n ≤ 50
    · rw [if_pos hn]
      simp only [if_pos hn] at hK
      have a := x.rep
      refine hK _ ?_ ?_
      · refine a.upd (fun b h1 h2 => up_ne (by omega)) (by rw [up_at, if_neg (by decide)]) (by rw [up_at, if_neg (by decide)]) RcEq.triv (by rw [up_at, if_neg (by decide)]; exact a.size) (by rw [up_ne (by decide)]; exact a.txt) (by rw [up_at, if_neg (by decide)]; exact a.rdC) (by rw [up_ne (by decide)]; exact a.rdM) (by rw [up_at, if_pos rfl]; rfl) (by rw [up_at, if_neg (by decide)]; exact a.moves) (by rw [up_ne (by decide)]; exact a.mC) (by rw [up_ne (by decide)]; exact a.mT) (by rw [up_ne (by decide)]; exact a.mM) (by rw [up_ne (by decide)]; exact a.mN) (by rw [up_ne (by decide)]; exact a.mD) (by rw [up_at, if_neg (by decide)]; exact a.reps) (by rw [up_ne (by decide)]; exact a.rB) (by rw [up_ne (by decide)]; exact a.rC) (by rw [up_ne (by decide)]; exact a.rM) (by rw [up_ne (by decide)]; exact a.rS) (by rw [up_ne (by decide)]; exact a.rD) (by rw [up_at, if_neg (by decide)]; exact a.listed) (by rw [up_ne (by decide)]; exact a.list)
      · exact fun a h1 => up_ne (by omega)
    · rw [if_neg hn]
      simp only [if_neg hn] at hK
      exact hK h x.rep (fun _ _ => rfl)
