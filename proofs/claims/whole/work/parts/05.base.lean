/-! ===== THE PURE MACHINE, its words: shapes, values, heaps, methods ===== -/
/-- what a cell is: an object of the class of that number, or an array of so many -/
abbrev SH : Type := Nat ⊕ (FieldType × Nat)
/-- a value: a whole number, or a reference (0: the script; a + 1: the a-th cell made since the law began) -/
abbrev AV : Type := Int ⊕ Option Nat
/-- shapes, references, longs, cells made, slots made -/
abbrev AG : Type := List SH × (Nat → Nat → Option Nat) × (Nat → Nat → Int64) × Nat × Nat
/-- and the whole numbers: of a cell, of a place in it -/
abbrev AH : Type := AG × (Nat → Nat → Int)
abbrev AR : Type := Option AV × AH
/-- a method: its class, name, code, locals, type of answer, parameters, kind (0 of an object, 1 static, 2 a constructor) -/
abbrev MI : Type := Nat × MethodName × ByteArray × Nat × Option FieldType × Nat × Nat
/-- launch, classes and slots, classes of arrays, where the law's own cells begin, where the script lies, the heap at the law's start, whether cells may be made, the script's length, the script -/
abbrev GX : Type := Launch × va_G × (FieldType → ClassId) × Nat × Nat × Heap × Bool × Nat × (Nat → Int32)
abbrev gl (Γ : GX) : Launch := Γ.1
abbrev gD (Γ : GX) : va_G := Γ.2.1
abbrev gA (Γ : GX) : FieldType → ClassId := Γ.2.2.1
abbrev gB (Γ : GX) : Nat := Γ.2.2.2.1
abbrev gb (Γ : GX) : Nat := Γ.2.2.2.2.1
abbrev gH (Γ : GX) : Heap := Γ.2.2.2.2.2.1
abbrev gF (Γ : GX) : Bool := Γ.2.2.2.2.2.2.1
abbrev gL (Γ : GX) : Nat := Γ.2.2.2.2.2.2.2.1
abbrev gX (Γ : GX) : Nat → Int32 := Γ.2.2.2.2.2.2.2.2
def cN (i : Nat) : String := match i with
  | 0 => RX0
  | 1 => RX1
  | 2 => RX2
  | 3 => RX3
  | 4 => RX4
  | 5 => RX5
  | 6 => RX6
  | 7 => RX7
  | 8 => RX8
  | _ => RL
def cT (i : Nat) : u_T := match i with
  | 0 => TX0
  | 1 => TX1
  | 2 => TX2
  | 3 => TX3
  | 4 => TX4
  | 5 => TX5
  | 6 => TX6
  | 7 => TX7
  | _ => TX8
def cF (i : Nat) : Nat := match i with
  | 0 => 5
  | 1 => 16
  | 2 => 4
  | 3 => 4
  | 4 => 8
  | 5 => 13
  | 6 => 11
  | 7 => 11
  | _ => 39
def cy (i : Nat) : Nat → FieldType := match i with
  | 0 => tyX0
  | 1 => tyX1
  | 2 => tyX2
  | 3 => tyX3
  | 4 => tyX4
  | 5 => tyX5
  | 6 => tyX6
  | 7 => tyX7
  | _ => tyX8
theorem cl_at {ci : Nat} (h : ci < 9) : vwCl[ci]? = some (cN ci, cT ci, cF ci) := by
  rcases (show ci = 0 ∨ ci = 1 ∨ ci = 2 ∨ ci = 3 ∨ ci = 4 ∨ ci = 5 ∨ ci = 6 ∨ ci = 7 ∨ ci = 8 by omega) with rfl | rfl | rfl | rfl | rfl | rfl | rfl | rfl | rfl <;> rfl
theorem cl_lt {ci : Nat} {r : vw_C} (h : vwCl[ci]? = some r) : ci < 9 := by
  have := (List.getElem?_eq_some_iff.mp h).1
  simpa using this
theorem cy_ok {ci : Nat} (h : ci < 9) : ∀ k, k < cF ci → parseFieldDescriptor (cT ci k).2.2.1 = some (cy ci k) := by
  rcases (show ci = 0 ∨ ci = 1 ∨ ci = 2 ∨ ci = 3 ∨ ci = 4 ∨ ci = 5 ∨ ci = 6 ∨ ci = 7 ∨ ci = 8 by omega) with rfl | rfl | rfl | rfl | rfl | rfl | rfl | rfl | rfl
  · exact tyX0_ok
  · exact tyX1_ok
  · exact tyX2_ok
  · exact tyX3_ok
  · exact tyX4_ok
  · exact tyX5_ok
  · exact tyX6_ok
  · exact tyX7_ok
  · exact tyX8_ok
theorem cn_ok {ci : Nat} (h : ci < 9) : ∀ a, a < cF ci → ∀ b, b < cF ci → a ≠ b → (cT ci a).2.1 ≠ (cT ci b).2.1 := by
  rcases (show ci = 0 ∨ ci = 1 ∨ ci = 2 ∨ ci = 3 ∨ ci = 4 ∨ ci = 5 ∨ ci = 6 ∨ ci = 7 ∨ ci = 8 by omega) with rfl | rfl | rfl | rfl | rfl | rfl | rfl | rfl | rfl
  · exact nmX0
  · exact nmX1
  · exact nmX2
  · exact nmX3
  · exact nmX4
  · exact nmX5
  · exact nmX6
  · exact nmX7
  · exact nmX8
/-- the words that last -/
def lw_g : List Cond := lw_tbl.filter goodWord
theorem mem_g {w : Cond} (i : Nat) (h : lw_tbl[i]? = some w) (hg : goodWord w = true) : w ∈ lw_g := List.mem_filter.mpr ⟨List.mem_of_getElem? h, hg⟩
theorem mem_l {ws : List Cond} (h : ws.all (fun w => decide (w ∈ lw_tbl) && goodWord w) = true) : ∀ w ∈ ws, w ∈ lw_g := by
  intro w hw
  have h1 := List.all_eq_true.mp h w hw
  simp only [Bool.and_eq_true, decide_eq_true_eq] at h1
  exact List.mem_filter.mpr h1
theorem good_g : GoodIn lw_tbl lw_g := fun w hw => ⟨(List.mem_filter.mp hw).1, good_of_word (List.mem_filter.mp hw).2⟩
theorem good_gg : GoodIn lw_g lw_g := fun w hw => ⟨hw, good_of_word (List.mem_filter.mp hw).2⟩
set_option maxRecDepth 100000 in
theorem cw_0 : (u_ws (cN 0) (cT 0) (cF 0)).all (fun w => decide (w ∈ lw_tbl) && goodWord w) = true := by decide +kernel
set_option maxRecDepth 100000 in
theorem cw_1 : (u_ws (cN 1) (cT 1) (cF 1)).all (fun w => decide (w ∈ lw_tbl) && goodWord w) = true := by decide +kernel
set_option maxRecDepth 100000 in
theorem cw_2 : (u_ws (cN 2) (cT 2) (cF 2)).all (fun w => decide (w ∈ lw_tbl) && goodWord w) = true := by decide +kernel
set_option maxRecDepth 100000 in
theorem cw_3 : (u_ws (cN 3) (cT 3) (cF 3)).all (fun w => decide (w ∈ lw_tbl) && goodWord w) = true := by decide +kernel
set_option maxRecDepth 100000 in
theorem cw_4 : (u_ws (cN 4) (cT 4) (cF 4)).all (fun w => decide (w ∈ lw_tbl) && goodWord w) = true := by decide +kernel
set_option maxRecDepth 100000 in
theorem cw_5 : (u_ws (cN 5) (cT 5) (cF 5)).all (fun w => decide (w ∈ lw_tbl) && goodWord w) = true := by decide +kernel
set_option maxRecDepth 100000 in
theorem cw_6 : (u_ws (cN 6) (cT 6) (cF 6)).all (fun w => decide (w ∈ lw_tbl) && goodWord w) = true := by decide +kernel
set_option maxRecDepth 100000 in
theorem cw_7 : (u_ws (cN 7) (cT 7) (cF 7)).all (fun w => decide (w ∈ lw_tbl) && goodWord w) = true := by decide +kernel
set_option maxRecDepth 100000 in
theorem cw_8 : (u_ws (cN 8) (cT 8) (cF 8)).all (fun w => decide (w ∈ lw_tbl) && goodWord w) = true := by decide +kernel
theorem cw_ok {ci : Nat} (h : ci < 9) : ∀ w ∈ u_ws (cN ci) (cT ci) (cF ci), w ∈ lw_g := by
  rcases (show ci = 0 ∨ ci = 1 ∨ ci = 2 ∨ ci = 3 ∨ ci = 4 ∨ ci = 5 ∨ ci = 6 ∨ ci = 7 ∨ ci = 8 by omega) with rfl | rfl | rfl | rfl | rfl | rfl | rfl | rfl | rfl
  · exact mem_l cw_0
  · exact mem_l cw_1
  · exact mem_l cw_2
  · exact mem_l cw_3
  · exact mem_l cw_4
  · exact mem_l cw_5
  · exact mem_l cw_6
  · exact mem_l cw_7
  · exact mem_l cw_8
/-- what the tables say of a method -/
def MOk (q : MI) : Prop :=
  Cond.code q.2.1 q.2.2.1 q.2.2.2.1 q.2.2.2.2.1 ∈ lw_g ∧ (q.2.2.2.2.2.2 = 1 → Cond.static q.2.1 ∈ lw_g) ∧ (q.2.2.2.2.2.2 ≠ 1 → Cond.instanceMethod q.2.1 ∈ lw_g) ∧ (q.2.2.2.2.2.2 = 0 → Cond.selects q.2.1.cls q.2.1 q.2.1 ∈ lw_g) ∧
  Cond.initialized q.2.1.cls ∈ lw_g ∧ q.2.1.cls = cN q.1 ∧ (q.2.1.cls ≠ "java/lang/invoke/MethodHandle" ∧ q.2.1.cls ≠ "java/lang/invoke/VarHandle") ∧
  (parseMethodDescriptor q.2.1.desc).map (fun d => d.parameters.length) = some q.2.2.2.2.2.1 ∧ plainName q.2.1.cls = true ∧ q.2.2.2.1 ≤ 45 ∧
  q.2.2.2.2.2.1 + (if q.2.2.2.2.2.2 = 1 then 0 else 1) ≤ q.2.2.2.1 ∧ (q.2.2.2.2.2.2 = 2 → q.2.1.name = "<init>" ∧ q.2.2.2.2.1 = none)
