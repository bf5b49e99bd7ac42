/-! ===== the tree that the class reads: what holds of it ===== -/
/-- how many q below the bound have f q = p -/
def ncI (f : Nat → Int) (p : Int) : Nat → Int
  | 0 => 0
  | q + 1 => ncI f p q + (if f q = p then 1 else 0)
theorem ncI_succ (f : Nat → Int) (p : Int) (q : Nat) : ncI f p (q + 1) = ncI f p q + (if f q = p then 1 else 0) := rfl
theorem ncI_nn (f : Nat → Int) (p : Int) : ∀ q : Nat, 0 ≤ ncI f p q
  | 0 => Int.le_refl _
  | q + 1 => by
    have := ncI_nn f p q
    unfold ncI
    split <;> omega
theorem ncI_congr {f g : Nat → Int} {p : Int} : ∀ {n : Nat}, (∀ q : Nat, q < n → f q = g q) → ncI f p n = ncI g p n
  | 0, _ => rfl
  | n + 1, h => by
    unfold ncI
    rw [ncI_congr (n := n) (fun q hq => h q (by omega)), h n (by omega)]
theorem ncI_zero {f : Nat → Int} {p : Int} : ∀ {n : Nat}, (∀ q : Nat, q < n → f q ≠ p) → ncI f p n = 0
  | 0, _ => rfl
  | n + 1, h => by
    unfold ncI
    rw [ncI_zero (n := n) (fun q hq => h q (by omega)), if_neg (h n (by omega))]
    rfl
section TV
variable {K K' : IF} {E : Nat → Int} {kd e st lt : Int}
/-- nesting: E p is where p ends, 1000 while it is open -/
def TI (K : IF) (E : Nat → Int) : Prop :=
  (∀ p : Nat, (p : Int) < K 39 2 → (E p = 1000 ∨ (E p = p + K 47 p ∧ E p ≤ K 39 2)) ∧ 1 ≤ K 47 p) ∧ (∀ p : Nat, (p : Int) < K 39 2 → E p = 1000 → (p : Int) ≤ K 51 3) ∧ (K 51 3 ≠ -1 → E (K 51 3).toNat = 1000) ∧
  (∀ q : Nat, (q : Int) < K 39 2 → K 45 q ≠ -1 → E q ≤ E (K 45 q).toNat) ∧ (∀ p q : Nat, p < q → (q : Int) < K 39 2 → (q : Int) < E p → (p : Int) ≤ K 45 q) ∧ (∀ q : Nat, (q : Int) < K 39 2 → K 45 q = -1 → q = 0) ∧ (K 51 3 = -1 → K 51 2 < 2 → K 39 2 = 0)
/-- how many terms, and of deep ones -/
def CH (K : IF) : Prop :=
  (∀ p : Nat, (p : Int) < K 39 2 → (K 41 p = 0 ∧ ((K 46 p = -1 ∧ ncI (K 45) p (K 39 2).toNat = 0) ∨ (0 ≤ K 46 p ∧ K 46 p = ncI (K 45) p (K 39 2).toNat))) ∨ ((K 41 p = 1 ∨ K 41 p = 2) ∧ K 46 p = -1 ∧ ncI (K 45) p (K 39 2).toNat = 0) ∨
    (K 41 p = 3 ∧ K 46 p = -1 ∧ ((ncI (K 45) p (K 39 2).toNat = 1 ∧ ¬ (K 51 2 < 2 ∧ (p : Int) = K 51 3)) ∨ (ncI (K 45) p (K 39 2).toNat = 0 ∧ ((K 51 2 = 2 ∧ (p : Int) = K 39 2 - 1) ∨ (K 51 2 < 2 ∧ (p : Int) = K 51 3)))))) ∧ (K 51 2 = 1 → K 51 3 ≠ -1 ∧ K 41 (K 51 3).toNat = 0)
/-- depths -/
def DP (K : IF) (D : Nat → Int) : Prop :=
  (∀ q : Nat, (q : Int) < K 39 2 → 0 ≤ D q ∧ D q ≤ 12 ∧ (K 45 q = -1 → D q = 0) ∧ (K 45 q ≠ -1 → D q = D (K 45 q).toNat + 1)) ∧ (K 51 3 = -1 → K 51 4 = 0) ∧ (K 51 3 ≠ -1 → K 51 4 = D (K 51 3).toNat + 1)
/-- places -/
def SN (K : IF) (E : Nat → Int) : Prop :=
  (∀ p : Nat, (p : Int) < K 39 2 → 0 ≤ K 42 p ∧ K 42 p < K 43 p ∧ K 43 p ≤ K 44 p ∧ K 44 p ≤ K 51 1) ∧ (∀ p q : Nat, p < q → (q : Int) < K 39 2 → K 43 p ≤ K 42 q) ∧ (∀ p q : Nat, p < q → (q : Int) < K 39 2 → E p ≤ q → K 44 p ≤ K 42 q) ∧
  (∀ q : Nat, (q : Int) < K 39 2 → K 45 q ≠ -1 → E (K 45 q).toNat ≠ 1000 → K 44 q < K 44 (K 45 q).toNat)
/-- letters, kinds, bytes -/
def LT (K : IF) : Prop :=
  (∀ p : Nat, (p : Int) < K 39 2 → (K 41 p = 0 ∧ K 48 p = -1 ∧ ∀ j : Nat, K 42 p ≤ j → (j : Int) < K 43 p → atomb (K 40 j) = true) ∨ ((K 41 p = 1 ∨ K 41 p = 2) ∧ 0 ≤ K 48 p ∧ K 48 p < 26 ∧ K 44 p = K 42 p + 2 ∧ K 43 p = K 42 p + 2 ∧ K 40 (K 42 p).toNat = (if K 41 p = 1 then 63 else 42) ∧ K 40 (K 42 p + 1).toNat = K 48 p + 97) ∨ (K 41 p = 3 ∧ K 48 p = -1 ∧ K 43 p = K 42 p + 1)) ∧
  (∀ l : Nat, l < 26 → (K 49 l = -1 ∧ ∀ p : Nat, (p : Int) < K 39 2 → K 48 p ≠ l) ∨ (0 ≤ K 49 l ∧ K 49 l < K 39 2 ∧ K 48 (K 49 l).toNat = l ∧ ∀ p : Nat, (p : Int) < K 39 2 → K 48 p = l → K 49 l ≤ p ∧ K 41 p = K 41 (K 49 l).toNat)) ∧
  (∀ j : Nat, (j : Int) < K 51 1 → (K 40 j = 63 ∨ K 40 j = 42) → ∃ p : Nat, (p : Int) < K 39 2 ∧ (K 41 p = 1 ∨ K 41 p = 2) ∧ K 42 p = j)
/-- rows, deep ones, by what is read -/
def PT (K : IF) : Prop :=
  K 51 5 = ncI (K 41) 2 (K 39 2).toNat ∧ (∀ p : Nat, (p : Int) < K 39 2 → K 41 p = 2 → K 45 p ≠ -1 ∧ K 41 (K 45 p).toNat = 0) ∧ (K 51 0 = 0 → ∀ p : Nat, (p : Int) < K 39 2 → K 41 p = 0) ∧ (K 51 0 = 2 → ∀ p : Nat, (p : Int) < K 39 2 → K 41 p ≠ 3)
/-- the effect of an added piece -/
def AE (kd e st lt : Int) (K K' : IF) : Prop :=
  K' 39 2 = K 39 2 + 1 ∧ (K' 39 1 = K 39 1 ∧ ∀ j : Nat, K' 40 j = K 40 j) ∧
  ((∀ p : Nat, K' 41 p = if p = (K 39 2).toNat then kd else K 41 p) ∧ (∀ p : Nat, K' 42 p = if p = (K 39 2).toNat then K 51 1 else K 42 p) ∧ (∀ p : Nat, K' 43 p = if p = (K 39 2).toNat then e else K 43 p) ∧ (∀ p : Nat, K' 44 p = if p = (K 39 2).toNat then e else K 44 p) ∧
  (∀ p : Nat, K' 45 p = if p = (K 39 2).toNat then K 51 3 else K 45 p) ∧ (∀ p : Nat, K' 46 p = if p = (K 39 2).toNat then -1 else if (K 51 3 ≠ -1 ∧ K 41 (K 51 3).toNat = 0) ∧ p = (K 51 3).toNat then K 46 p + 1 else K 46 p) ∧ (∀ p : Nat, K' 47 p = if p = (K 39 2).toNat then 1 else K 47 p) ∧ (∀ p : Nat, K' 48 p = if p = (K 39 2).toNat then lt else K 48 p)) ∧
  (K' 51 0 = K 51 0 ∧ K' 51 1 = e ∧ K' 51 2 = st ∧ K' 51 3 = K 51 3 ∧ K' 51 4 = K 51 4 ∧ K' 51 5 = (if kd = 2 then K 51 5 + 1 else K 51 5)) ∧ (2 ≤ st ∧ st ≤ 4)
theorem TI.add (h : TI K E) (hR : RI K) (hA : AE kd e st lt K K') (hs : K 51 2 < 2) : TI K' (fun p => if p = (K 39 2).toNat then K 39 2 + 1 else E p) := by
  obtain ⟨h1, h2, h3, h4, h5, h6, h7⟩ := h
  obtain ⟨c, -, ⟨-, -, -, -, a45, -, a47, -⟩, ⟨-, -, s2, s3, -, -⟩, st2⟩ := hA
  have hc := hR.2.2.2.1
  have ho : -1 ≤ K 51 3 ∧ K 51 3 < K 39 2 := hR.2.2.2.2.1
  have hpar := hR.2.2.2.2.2.2.1
  unfold TI
  simp only [c, a45, a47, s2, s3]
  refine ⟨fun p hp => ?_, fun p hp => ?_, fun z => ?_, fun q hq => ?_, fun p q hpq hq => ?_, fun q hq => ?_, fun z y => by omega⟩
  · by_cases e1 : p = (K 39 2).toNat
    · rw [if_pos e1, if_pos e1]
      exact ⟨Or.inr ⟨by omega, by omega⟩, by decide⟩
    · rw [if_neg e1, if_neg e1]
      have := h1 p (by omega)
      exact ⟨this.1.imp id (fun y => ⟨y.1, by omega⟩), this.2⟩
  · by_cases e1 : p = (K 39 2).toNat
    · rw [if_pos e1]
      intro y
      omega
    · rw [if_neg e1]
      exact h2 p (by omega)
  · rw [if_neg (by omega)]
    exact h3 z
  · by_cases e1 : q = (K 39 2).toNat
    · rw [if_pos e1, if_pos e1]
      intro z
      rw [if_neg (by omega), h3 z]
      omega
    · rw [if_neg e1, if_neg e1]
      intro z
      have := hpar q (by omega)
      rw [if_neg (by omega)]
      exact h4 q (by omega) z
  · rw [if_neg (show ¬ p = (K 39 2).toNat by omega)]
    by_cases e1 : q = (K 39 2).toNat
    · rw [if_pos e1]
      intro y
      have := (h1 p (by omega)).1
      exact h2 p (by omega) (by omega)
    · rw [if_neg e1]
      exact h5 p q hpq (by omega)
  · by_cases e1 : q = (K 39 2).toNat
    · rw [if_pos e1]
      intro z
      have := h7 z hs
      omega
    · rw [if_neg e1]
      exact h6 q (by omega)
theorem CH.add (h : CH K) (hR : RI K) (hC : CI K) (hA : AE kd e st lt K K') (hs : K 51 2 < 2) (hk : (kd = 0 ∧ st = 3) ∨ ((kd = 1 ∨ kd = 2) ∧ st = 4) ∨ (kd = 3 ∧ st = 2)) : CH K' := by
  obtain ⟨h1, h2⟩ := h
  obtain ⟨c, -, ⟨a41, -, -, -, a45, a46, -, -⟩, ⟨-, -, s2, s3, -, -⟩, st2⟩ := hA
  have hc := hR.2.2.2.1
  have ho : -1 ≤ K 51 3 ∧ K 51 3 < K 39 2 := hR.2.2.2.2.1
  have hpar := hR.2.2.2.2.2.2.1
  have hop := hC.1
  have hcn : (K 39 2 + 1).toNat = (K 39 2).toNat + 1 := by omega
  have hnc : ∀ p : Nat, ncI (K' 45) p (K 39 2 + 1).toNat = ncI (K 45) p (K 39 2).toNat + (if K 51 3 = p then 1 else 0) := fun p => by
    rw [hcn, ncI_succ, ncI_congr (g := K 45) (fun q hq => by rw [a45, if_neg (by omega)]), a45, if_pos rfl]
  unfold CH
  simp only [c, hnc, s2, s3]
  refine ⟨fun p hp => ?_, fun z => by omega⟩
  rw [a41, a46]
  by_cases e1 : p = (K 39 2).toNat
  · rw [if_pos e1, if_pos e1, if_neg (show ¬ K 51 3 = p by omega)]
    have h0 : ncI (K 45) p (K 39 2).toNat = 0 := ncI_zero (fun q hq => by have := hpar q (by omega); omega)
    rw [h0]
    rcases hk with ⟨z1, z2⟩ | ⟨z1, z2⟩ | ⟨z1, z2⟩
    · exact Or.inl ⟨z1, Or.inl ⟨rfl, rfl⟩⟩
    · exact Or.inr (Or.inl ⟨z1, rfl, rfl⟩)
    · exact Or.inr (Or.inr ⟨z1, rfl, Or.inr ⟨rfl, Or.inl ⟨z2, by omega⟩⟩⟩)
  · rw [if_neg e1, if_neg e1]
    have q := h1 p (by omega)
    by_cases e2 : K 51 3 = p
    · rw [if_pos e2]
      have hn1 : K 51 3 ≠ -1 := by omega
      have hpo : (K 51 3).toNat = p := by omega
      have hop' := hop hn1
      rw [hpo] at hop'
      unfold OP at hop'
      by_cases ek : K 41 p = 0
      · rw [if_pos (show (K 51 3 ≠ -1 ∧ K 41 (K 51 3).toNat = 0) ∧ p = (K 51 3).toNat from ⟨⟨hn1, by rw [hpo]; exact ek⟩, hpo.symm⟩)]
        refine Or.inl ⟨ek, ?_⟩
        clear hk
        omega
      · rw [if_neg (fun z => ek (by rw [hpo] at z; exact z.1.2))]
        have ek3 : K 41 p = 3 := by omega
        refine Or.inr (Or.inr ⟨ek3, ?_⟩)
        clear hk
        omega
    · rw [if_neg e2, if_neg (fun z => by omega)]
      clear hk hop
      omega
theorem DP.add {D : Nat → Int} (h : DP K D) (hR : RI K) (hA : AE kd e st lt K K') (h4 : 0 ≤ K 51 4) : DP K' (fun p => if p = (K 39 2).toNat then K 51 4 else D p) := by
  obtain ⟨h1, h2, h3⟩ := h
  obtain ⟨c, -, ⟨-, -, -, -, a45, -, -, -⟩, ⟨-, -, s2, s3, s4, -⟩, st2⟩ := hA
  have hc := hR.2.2.2.1
  have ho : -1 ≤ K 51 3 ∧ K 51 3 < K 39 2 := hR.2.2.2.2.1
  have hd := hR.2.2.1
  have hpar := hR.2.2.2.2.2.2.1
  unfold DP
  simp only [c, a45, s3, s4]
  refine ⟨fun q hq => ?_, h2, fun z => ?_⟩
  · by_cases e1 : q = (K 39 2).toNat
    · rw [if_pos e1, if_pos e1]
      refine ⟨h4, hd.2, h2, fun z => ?_⟩
      rw [if_neg (by omega)]
      exact h3 z
    · rw [if_neg e1, if_neg e1]
      obtain ⟨q1, q2, q3, q4⟩ := h1 q (by omega)
      refine ⟨q1, q2, q3, fun z => ?_⟩
      have := hpar q (by omega)
      rw [if_neg (by omega)]
      exact q4 z
  · rw [if_neg (by omega)]
    exact h3 z
theorem SN.add (h : SN K E) (hR : RI K) (hT : TI K E) (hA : AE kd e st lt K K') (he : K 51 1 < e) : SN K' (fun p => if p = (K 39 2).toNat then K 39 2 + 1 else E p) := by
  obtain ⟨h1, h2, h3, h4⟩ := h
  obtain ⟨c, -, ⟨-, a42, a43, a44, a45, -, -, -⟩, ⟨-, s1, s2, s3, -, -⟩, st2⟩ := hA
  have hc := hR.2.2.2.1
  have hpos := hR.1.1
  have ho : -1 ≤ K 51 3 ∧ K 51 3 < K 39 2 := hR.2.2.2.2.1
  have hpar := hR.2.2.2.2.2.2.1
  have hE := hT.2.2.1
  unfold SN
  simp only [c, a42, a43, a44, a45, s1]
  refine ⟨fun p hp => ?_, fun p q hpq hq => ?_, fun p q hpq hq => ?_, fun q hq => ?_⟩
  · by_cases e1 : p = (K 39 2).toNat
    · simp only [if_pos e1]
      omega
    · simp only [if_neg e1]
      have := h1 p (by omega)
      omega
  · rw [if_neg (show ¬ p = (K 39 2).toNat by omega)]
    by_cases e1 : q = (K 39 2).toNat
    · rw [if_pos e1]
      have := h1 p (by omega)
      omega
    · rw [if_neg e1]
      exact h2 p q hpq (by omega)
  · rw [if_neg (show ¬ p = (K 39 2).toNat by omega), if_neg (show ¬ p = (K 39 2).toNat by omega)]
    by_cases e1 : q = (K 39 2).toNat
    · rw [if_pos e1]
      have := h1 p (by omega)
      omega
    · rw [if_neg e1]
      exact h3 p q hpq (by omega)
  · by_cases e1 : q = (K 39 2).toNat
    · simp only [if_pos e1]
      intro z y
      rw [if_neg (by omega)] at y
      exact absurd (hE z) y
    · simp only [if_neg e1]
      intro z y
      have := hpar q (by omega)
      rw [if_neg (by omega)] at y
      rw [if_neg (by omega)]
      exact h4 q (by omega) z y
end TV
