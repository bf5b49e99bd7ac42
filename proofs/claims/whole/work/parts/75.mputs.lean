/-! ===== puts, the reference ===== -/
noncomputable def mTk (T P : IF) (fr : Int) (Df : Nat → Nat → Prop) (rule : Int) (n : Nat) : Int := tI T (mM T P fr Df) (wit T (mM T P fr Df)) (alw rule) n
def FrY (I J : IF) : Prop := ∀ a k : Nat, (a < 136 ∨ 151 < a) → (a ≠ 80 ∨ (k ≠ 26 ∧ k ≠ 36)) → J a k = I a k
/-- all bytes are bytes -/
def BLs (B : List Int) : Prop := ∀ j : Nat, j < B.length → 0 ≤ nth B j ∧ nth B j ≤ 255
section MPT
variable {Γ : GX} {g : AG} {I J X K T P s Z : IF} {Df : Nat → Nat → Prop} {w fr rule : Int} {N : Nat → Prop} {sg : Nat → List Int} {B C : List Int} {tk : Nat → Int}
theorem BLs.app (h1 : BLs B) (h2 : BLs C) : BLs (B ++ C) := fun j hj => by
  rw [List.length_append] at hj
  by_cases e : j < B.length
  · rw [nth_l _ _ _ e]; exact h1 j e
  · obtain ⟨k, rfl⟩ : ∃ k, j = B.length + k := ⟨j - B.length, by omega⟩
    rw [nth_r]
    exact h2 k (by omega)
theorem BLs_nil : BLs [] := fun _ hj => absurd hj (Nat.not_lt_zero _)
theorem BLs_byt (hX : TOK w X) {x y : Int} (hx : 0 ≤ x) (hy : y ≤ X 0 1) : BLs (byt X x y) := fun j hj => by
  rw [byt_len] at hj
  show 0 ≤ nth (sgm (X 1) (y - x).toNat x.toNat) j ∧ nth (sgm (X 1) (y - x).toNat x.toNat) j ≤ 255
  rw [sgm_nth _ _ _ _ hj]
  exact hX.1.2.2 _ (by omega)
theorem BLs_cat {c : Nat → List Int} : ∀ (n a : Nat), (∀ i : Nat, a ≤ i → i < a + n → BLs (c i)) → BLs (cat c n a)
  | 0, _, _ => BLs_nil
  | n + 1, a, h => (h a (Nat.le_refl _) (by omega)).app (BLs_cat n (a + 1) (fun i h1 h2 => h i (by omega) (by omega)))
theorem BLs_tpl (hT : TOK 0 T) (hP : TOK 1 P) (hX : TOK w X) (hO : LetOk X P) (hG : GI T P Df (P 0 2).toNat s) : BLs (tpl T P X s) := by
  have s0 := hX.2.2.2.2.1.1 0 (by have := hX.1.2.1; omega)
  refine BLs_cat _ _ (fun i h1 h2 => ?_)
  by_cases z : SS X (NonS X P s) (X 0 2).toNat i
  · rw [cb_s z]; exact BLs_nil
  · by_cases y : sgnb X i
    · obtain ⟨q, q1, q2, q3⟩ := sgn_p hX (by omega) y
      have lt := (let_p hX q1 q2).2.2.2.2
      rw [show (X 3 q).toNat = i by omega] at lt
      have hnq : ¬ NonS X P s q := fun x => z (by
        have := (SS_3 hX NonS.nr (k := (X 0 2).toNat) q1).2 ⟨by omega, x⟩
        rw [q3] at this
        exact this)
      have lf := (let_LF hT hP hX hO hG q1 q2 hnq).2.b hT
      rw [cb_g z y, lt, show X 9 q + 97 - 97 = X 9 q by omega]
      exact BLs_byt hT lf.2.1 lf.2.2.2
    · by_cases x : lpos X i
      · rw [cb_l y x]; exact BLs_nil
      · rw [cb_b z y x, ← byt_one]
        exact BLs_byt hX (by omega) (by omega)
theorem BLs_ndL (hT : TOK 0 T) (hP : TOK 1 P) (hX : TOK w X) (hO : LetOk X P) (hF : FRO P fr) (hD : (∀ l : Nat, ¬ Df l l) ∧ ∀ l o : Nat, Df l o → Df o l) {n : Nat} (hn : (n : Int) < T 0 2) : BLs (ndL T P X fr Df n) := by
  cases e : WAY T P fr Df n with
  | none =>
    have : ndL T P X fr Df n = [] := by
      show (match WAY T P fr Df n with | some s => _ | none => _) = _
      rw [e]
    rw [this]; exact BLs_nil
  | some s' =>
    have : ndL T P X fr Df n = tpl T P X s' := by
      show (match WAY T P fr Df n with | some s => _ | none => _) = _
      rw [e]
    rw [this]
    exact BLs_tpl hT hP hX hO (WAY_GI hT hP hF hD ⟨by omega, hn⟩ e)
theorem BLs_outL (hT : TOK 0 T) {F : Nat → List Int} (hF : ∀ n : Nat, (n : Int) < T 0 2 → BLs (F n)) : ∀ (m n : Nat) (d : Int), m + n = (T 0 2).toNat → 0 ≤ d → BLs (outL T tk F m n d)
  | 0, _, d, _, h => BLs_byt hT h (Int.le_refl _)
  | m + 1, n, d, h1, h2 => by
    have sn := hT.2.2.2.2.1.1 n (by omega)
    show BLs (if tk n = 0 then _ else _)
    by_cases z : tk n = 0
    · rw [if_pos z]
      exact BLs_outL hT hF m (n + 1) d (by omega) h2
    · rw [if_neg z]
      exact (BLs_byt hT h2 (by omega)).app ((hF n (by omega)).app (BLs_outL hT hF m (n + 1) (T 5 n) (by omega) (by omega)))
theorem BLs_newT (hT : TOK 0 T) (hP : TOK 1 P) (hX : TOK w X) (hO : LetOk X P) (hF : FRO P fr) (hD : (∀ l : Nat, ¬ Df l l) ∧ ∀ l o : Nat, Df l o → Df o l) : BLs (newT T P X fr Df tk) := BLs_outL hT (fun _ hn => BLs_ndL hT hP hX hO hF hD hn) _ 0 0 rfl (Int.le_refl _)
end MPT
