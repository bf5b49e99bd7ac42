/-! ===== contracts: the small tests ===== -/
abbrev IF : Type := Nat → Nat → Int
def bI (b : Bool) : Int := if b = true then 1 else 0
theorem bI_t {b : Bool} (h : b = true) : bI b = 1 := if_pos h
theorem bI_f {b : Bool} (h : b = false) : bI b = 0 := by rw [h]; rfl
theorem bI_0 {b : Bool} : bI b = 0 ↔ b = false := by cases b <;> decide
theorem bI_n0 {b : Bool} : ¬ bI b = 0 ↔ b = true := by cases b <;> decide
theorem bI_01 (b : Bool) : bI b = 0 ∨ bI b = 1 := by cases b <;> decide
theorem some_i {x y : Int} (h : x = y) : (some (Sum.inl x) : Option AV) = some (Sum.inl y) := by rw [h]
theorem some_t {b : Bool} (h : b = true) : (some (Sum.inl (bI b)) : Option AV) = some (Sum.inl 1) := by rw [bI_t h]
theorem some_f {b : Bool} (h : b = false) : (some (Sum.inl (bI b)) : Option AV) = some (Sum.inl 0) := by rw [bI_f h]
def smallb (x : Int) : Bool := decide (97 ≤ x ∧ x ≤ 122)
def atomb (x : Int) : Bool := decide ((97 ≤ x ∧ x ≤ 122) ∨ (48 ≤ x ∧ x ≤ 57))
def blankb (x : Int) : Bool := decide (x = 32 ∨ x = 10)
section SM
variable {Γ : GX} {g : AG} {I : IF}
theorem c_isSmall (hg : GOc g) (x : Int) : CT Γ 0 mX6_isSmall [.inl x] (g, I) (some (.inl (bI (smallb x))), (g, I)) := by
  refine CT.of oX6_isSmall (Nat.le_of_ble_eq_true rfl) (Nat.le_refl _) (Nat.le_refl _) (v_X6_isSmall_0 hg x ?_)
  (repeat' (first | rfl | apply And.intro | intro _)) <;> first | exact some_t (by simp only [smallb, decide_eq_true_eq]; omega) | exact some_f (by simp only [smallb, decide_eq_false_iff_not]; omega)
theorem c_isAtomByte (hg : GOc g) (x : Int) : CT Γ 0 mX6_isAtomByte [.inl x] (g, I) (some (.inl (bI (atomb x))), (g, I)) := by
  refine CT.of oX6_isAtomByte (Nat.le_of_ble_eq_true rfl) (Nat.le_refl _) (Nat.le_refl _) (v_X6_isAtomByte_0 hg x ?_)
  (repeat' (first | rfl | apply And.intro | intro _)) <;> first | exact some_t (by simp only [atomb, decide_eq_true_eq]; omega) | exact some_f (by simp only [atomb, decide_eq_false_iff_not]; omega)
theorem c_isBlank (hg : GOc g) (x : Int) : CT Γ 0 mX6_isBlank [.inl x] (g, I) (some (.inl (bI (blankb x))), (g, I)) := by
  refine CT.of oX6_isBlank (Nat.le_of_ble_eq_true rfl) (Nat.le_refl _) (Nat.le_refl _) (v_X6_isBlank_0 hg x ?_)
  (repeat' (first | rfl | apply And.intro | intro _)) <;> first | exact some_t (by simp only [blankb, decide_eq_true_eq]; omega) | exact some_f (by simp only [blankb, decide_eq_false_iff_not]; omega)
theorem c_isLetter (hg : GOc g) (x : Int) : CT Γ 0 mX6_isLetter [.inl x] (g, I) (some (.inl (bI (decide (0 ≤ x ∧ x < 26)))), (g, I)) := by
  refine CT.of oX6_isLetter (Nat.le_of_ble_eq_true rfl) (Nat.le_refl _) (Nat.le_refl _) (v_X6_isLetter_0 hg x ?_)
  (repeat' (first | rfl | apply And.intro | intro _)) <;> first | exact some_t (by simp only [decide_eq_true_eq]; omega) | exact some_f (by simp only [decide_eq_false_iff_not]; omega)
theorem c_isRule (hg : GOc g) (x : Int) : CT Γ 0 mX6_isRule [.inl x] (g, I) (some (.inl (bI (decide (0 ≤ x ∧ x ≤ 2)))), (g, I)) := by
  refine CT.of oX6_isRule (Nat.le_of_ble_eq_true rfl) (Nat.le_refl _) (Nat.le_refl _) (v_X6_isRule_0 hg x ?_)
  (repeat' (first | rfl | apply And.intro | intro _)) <;> first | exact some_t (by simp only [decide_eq_true_eq]; omega) | exact some_f (by simp only [decide_eq_false_iff_not]; omega)
theorem c_isNode (hg : GOc g) (x : Int) : CT Γ 0 mX6_isNode [.inr (some 1), .inl x] (g, I) (some (.inl (bI (decide (0 ≤ x ∧ x < I 3 2)))), (g, I)) := by
  refine CT.of oX6_isNode (Nat.le_of_ble_eq_true rfl) (Nat.le_refl _) (Nat.le_refl _) (v_X6_isNode_0 hg x ?_)
  (repeat' (first | rfl | apply And.intro | intro _)) <;> first | exact some_t (by simp only [decide_eq_true_eq]; omega) | exact some_f (by simp only [decide_eq_false_iff_not]; omega)
theorem m_isIn (hg : GOk g) (x : Int) (y : Int) (z : Int) : CT Γ 0 mX8_isIn [.inl x, .inl y, .inl z] (g, I) (some (.inl (bI (decide (y ≤ x ∧ x ≤ z)))), (g, I)) := by
  refine CT.of oX8_isIn (Nat.le_of_ble_eq_true rfl) (Nat.le_refl _) (Nat.le_refl _) (v_X8_isIn_0 hg x y z ?_)
  (repeat' (first | rfl | apply And.intro | intro _)) <;> first | exact some_t (by simp only [decide_eq_true_eq]; omega) | exact some_f (by simp only [decide_eq_false_iff_not]; omega)
theorem m_isSmall (hg : GOk g) (x : Int) : CT Γ 0 mX8_isSmall [.inl x] (g, I) (some (.inl (bI (smallb x))), (g, I)) := by
  refine CT.of oX8_isSmall (Nat.le_of_ble_eq_true rfl) (Nat.le_refl _) (Nat.le_refl _) (v_X8_isSmall_0 hg x ?_)
  (repeat' (first | rfl | apply And.intro | intro _)) <;> first | exact some_t (by simp only [smallb, decide_eq_true_eq]; omega) | exact some_f (by simp only [smallb, decide_eq_false_iff_not]; omega)
theorem m_isNode (hg : GOk g) (x : Int) : CT Γ 0 mX8_isNode [.inr (some 80), .inl x] (g, I) (some (.inl (bI (decide (0 ≤ x ∧ x < I 82 2)))), (g, I)) := by
  refine CT.of oX8_isNode (Nat.le_of_ble_eq_true rfl) (Nat.le_refl _) (Nat.le_refl _) (v_X8_isNode_0 hg x ?_)
  (repeat' (first | rfl | apply And.intro | intro _)) <;> first | exact some_t (by simp only [decide_eq_true_eq]; omega) | exact some_f (by simp only [decide_eq_false_iff_not]; omega)
theorem m_isAtom (hg : GOk g) (x : Int) : CT Γ 1 mX8_isAtom [.inl x] (g, I) (some (.inl (bI (atomb x))), (g, I)) := by
  refine CT.of oX8_isAtom (Nat.le_of_ble_eq_true rfl) (Nat.le_refl _) (Nat.le_refl _) (v_X8_isAtom_0 hg x ?_)
  refine ⟨_, _, m_isSmall hg x, fun c => ?_, fun c => ?_⟩
  · rw [bI_n0] at c
    simp only [smallb, decide_eq_true_eq] at c
    exact ⟨some_t (by simp only [atomb, decide_eq_true_eq]; omega), rfl⟩
  · rw [bI_0] at c
    simp only [smallb, decide_eq_false_iff_not] at c
    (repeat' (first | rfl | apply And.intro | intro _)) <;> first | exact some_t (by simp only [atomb, decide_eq_true_eq]; omega) | exact some_f (by simp only [atomb, decide_eq_false_iff_not]; omega)
end SM
