/-! THE PURE MACHINE, part 2: which cells there are, what they hold, the judgement PW -/
/-- classes by number: names, fields, field types, how many -/
def cN : Nat → Nat := fun c => match c with
  | 0 => 11 | 1 => 6 | 2 => 9 | 3 => 4 | 4 => 3 | 5 => 8 | 6 => 9 | 7 => 8 | 8 => 2 | 9 => 4 | 10 => 17 | 11 => 59 | _ => 0
def cR : Nat → String := fun c => match c with
  | 0 => RX0 | 1 => RX1 | 2 => RX2 | 3 => RX3 | 4 => RX4 | 5 => RX5 | 6 => RX6 | 7 => RX7 | 8 => RX8 | 9 => RX9 | 10 => RX10 | _ => RX11
def cT : Nat → u_T := fun c => match c with
  | 0 => TX0 | 1 => TX1 | 2 => TX2 | 3 => TX3 | 4 => TX4 | 5 => TX5 | 6 => TX6 | 7 => TX7 | 8 => TX8 | 9 => TX9 | 10 => TX10 | _ => TX11
def cty : Nat → Nat → FieldType := fun c => match c with
  | 0 => tyX0 | 1 => tyX1 | 2 => tyX2 | 3 => tyX3 | 4 => tyX4 | 5 => tyX5 | 6 => tyX6 | 7 => tyX7 | 8 => tyX8 | 9 => tyX9 | 10 => tyX10 | _ => tyX11
theorem cl_at {c : Nat} (h : c < 12) : vwCl[c]? = some (cR c, cT c, cN c) := by
  match c, h with
  | 0, _ => rfl | 1, _ => rfl | 2, _ => rfl | 3, _ => rfl | 4, _ => rfl | 5, _ => rfl
  | 6, _ => rfl | 7, _ => rfl | 8, _ => rfl | 9, _ => rfl | 10, _ => rfl | 11, _ => rfl
theorem cty_ok {c : Nat} (h : c < 12) : ∀ k, k < cN c → parseFieldDescriptor (cT c k).2.2.1 = some (cty c k) := by
  match c, h with
  | 0, _ => exact tyX0_ok | 1, _ => exact tyX1_ok | 2, _ => exact tyX2_ok | 3, _ => exact tyX3_ok | 4, _ => exact tyX4_ok | 5, _ => exact tyX5_ok
  | 6, _ => exact tyX6_ok | 7, _ => exact tyX7_ok | 8, _ => exact tyX8_ok | 9, _ => exact tyX9_ok | 10, _ => exact tyX10_ok | 11, _ => exact tyX11_ok
theorem cnm {c : Nat} (h : c < 12) : ∀ a, a < cN c → ∀ b, b < cN c → a ≠ b → (cT c a).2.1 ≠ (cT c b).2.1 := by
  match c, h with
  | 0, _ => exact nmX0 | 1, _ => exact nmX1 | 2, _ => exact nmX2 | 3, _ => exact nmX3 | 4, _ => exact nmX4 | 5, _ => exact nmX5
  | 6, _ => exact nmX6 | 7, _ => exact nmX7 | 8, _ => exact nmX8 | 9, _ => exact nmX9 | 10, _ => exact nmX10 | 11, _ => exact nmX11
/-- the tables' words that stay when tables grow warmer -/
def lw_good : List Cond := lw_tbl.filter goodWord
theorem lw_good_in {w : Cond} (h : w ∈ lw_tbl) (hg : goodWord w = true) : w ∈ lw_good := List.mem_filter.mpr ⟨h, hg⟩
theorem ciw {c : Nat} (h : c < 12) : ∀ w ∈ u_ws (cR c) (cT c) (cN c), w ∈ lw_good := by
  match c, h with
  | 0, _ => decide +kernel
  | 1, _ => decide +kernel
  | 2, _ => decide +kernel
  | 3, _ => decide +kernel
  | 4, _ => decide +kernel
  | 5, _ => decide +kernel
  | 6, _ => decide +kernel
  | 7, _ => decide +kernel
  | 8, _ => decide +kernel
  | 9, _ => decide +kernel
  | 10, _ => decide +kernel
  | 11, _ => decide +kernel
/-- words of nest mates -/
def isN : Cond → Bool
  | .fieldLinkNest _ _ _ _ _ _ => true
  | .methodLinkNest _ _ _ _ => true
  | _ => false
def NWd (s : State) : Prop := ∀ w ∈ tables_1, isN w = true → va_Nw w s
theorem NWd.warm {s U : State} (hW : s.WarmedH U.vm) (h : NWd s) : NWd U := by
  intro w hw hn
  have h1 := h w hw hn
  cases w with
  | fieldLinkNest a i b n d o => exact va_Nw.warmF hW h1
  | methodLinkNest a i x o => exact va_Nw.warmM hW h1
  | _ => cases hn
theorem NWd.same {u U : State} (hvm : u.vm = U.vm) (h : NWd u) : NWd U := by
  intro w hw hn
  have h1 := h w hw hn
  cases w with
  | fieldLinkNest a i b n d o => exact va_Nw.same rfl hvm h1
  | methodLinkNest a i x o => exact va_Nw.same rfl hvm h1
  | _ => cases hn
