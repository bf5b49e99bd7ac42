/-! ===== a piece is added, in both ===== -/
section AS
variable {I J0 J K K' : IF} {u n : Nat} {kd : Int}
/-- the class's side of an added piece, beyond the arrays' last places -/
def KA (kd : Int) (n : Nat) (K K' : IF) : Prop :=
  (∀ p : Nat, K' 41 p = if p = n then kd else K 41 p) ∧ (∀ p : Nat, K' 42 p = if p = n then K 51 1 else K 42 p) ∧ (∀ p : Nat, p ≠ n → K' 43 p = K 43 p) ∧ (∀ p : Nat, p ≠ n → K' 44 p = K 44 p) ∧
  (∀ p : Nat, K' 45 p = if p = n then K 51 3 else K 45 p) ∧ (∀ p : Nat, K' 46 p = if p = n then -1 else if (K 51 3 ≠ -1 ∧ K 41 (K 51 3).toNat = 0) ∧ p = (K 51 3).toNat then K 46 p + 1 else K 46 p) ∧ (∀ p : Nat, p ≠ n → K' 48 p = K 48 p) ∧ K' 39 2 = K 39 2 + 1
theorem PR_add (hn : n = (K 39 2).toNat) (hc : 0 ≤ K 39 2) (hIc : I u 2 = K 39 2) (ho : -1 ≤ K 51 3 ∧ K 51 3 < K 39 2) (hOP : K 51 3 ≠ -1 → OP K (K 51 3).toNat) (hA : AD u kd (K 51 3) I J0) (hat : I 80 14 = K 51 1)
    (j2 : ∀ p : Nat, J (u + 2) p = J0 (u + 2) p) (j3 : ∀ p : Nat, J (u + 3) p = J0 (u + 3) p) (j6 : ∀ p : Nat, J (u + 6) p = J0 (u + 6) p) (j7 : ∀ p : Nat, J (u + 7) p = J0 (u + 7) p) (j9 : ∀ p : Nat, J (u + 9) p = J0 (u + 9) p)
    (j4 : ∀ p : Nat, p ≠ n → J (u + 4) p = I (u + 4) p) (j5 : ∀ p : Nat, p ≠ n → J (u + 5) p = I (u + 5) p) (j8 : ∀ p : Nat, p ≠ n → J (u + 8) p = J0 (u + 8) p)
    (hK : KA kd n K K') (n4 : ¬ (kd = 3 ∧ K' 51 7 = 1) → J (u + 4) n = K' 44 n) (n5 : kd = 0 → J (u + 5) n = K' 43 n) (n8 : J (u + 8) n = K' 48 n) (hw : K' 51 7 = K 51 7 ∨ K 51 7 = 0)
    (h : ∀ p : Nat, (p : Int) < K 39 2 → PR I K u p) : ∀ p : Nat, (p : Int) < K' 39 2 → PR J K' u p := by
  obtain ⟨a1, a2, a3, a4, a5, a6, a7, a8, a9⟩ := hA
  obtain ⟨k1, k2, k3, k4, k5, k6, k8, kc⟩ := hK
  have hn' : (I u 2).toNat = n := by rw [hIc, hn]
  rw [hn'] at a4 a5 a6 a7 a8 a9
  intro p hp
  rw [kc] at hp
  by_cases e : p = n
  · subst e
    refine ⟨?_, ?_, ?_, n8, fun z => n5 ?_, fun _ => Or.inl ⟨?_, ?_, ?_⟩, fun z => n4 ?_, ?_⟩
    · rw [j2, a4, if_pos rfl, k1, if_pos rfl]
    · rw [j3, a5, if_pos rfl, k2, if_pos rfl, hat]
    · rw [j7, a6, if_pos rfl, k5, if_pos rfl]
    · rw [k1, if_pos rfl] at z
      exact z
    · rw [k6, if_pos rfl]
    · rw [j9, a8, if_pos rfl]
    · rw [j6, a9, if_pos rfl]
    · rw [k1, if_pos rfl] at z
      exact z
    · rw [j6, a9, if_pos rfl, kc]
      omega
  · have hp' : (p : Int) < K 39 2 := by omega
    obtain ⟨p1, p2, p3, p4, p5, p6, p7, p8⟩ := h p hp'
    have f1 : K' 41 p = K 41 p := by rw [k1, if_neg e]
    refine ⟨?_, ?_, ?_, ?_, fun z => ?_, fun z => ?_, fun z => ?_, ?_⟩
    · rw [j2, a4, if_neg e, f1]
      exact p1
    · rw [j3, a5, if_neg e, k2, if_neg e]
      exact p2
    · rw [j7, a6, if_neg e, k5, if_neg e]
      exact p3
    · rw [j8 p e, a7, if_neg e, k8 p e]
      exact p4
    · rw [j5 p e, k3 p e]
      exact p5 (f1 ▸ z)
    · rw [f1] at z
      have q := p6 z
      rw [k6, if_neg e, j9, a8, if_neg e, j6, a9, if_neg e]
      by_cases c : K 51 3 ≠ -1 ∧ p = (K 51 3).toNat
      · have hz : K 41 (K 51 3).toNat = 0 := by rw [← c.2]; exact z
        rw [if_pos ⟨⟨c.1, hz⟩, c.2⟩, if_pos c]
        have hop := hOP c.1
        rw [← c.2] at hop
        have hop2 : 0 ≤ K 46 p := by
          rcases hop with ⟨-, b⟩ | b
          · exact b
          · omega
        rcases q with ⟨q1, q2, q3⟩ | ⟨q1, q2, q3⟩
        · omega
        · exact Or.inr ⟨by omega, q2, by omega⟩
      · rw [if_neg (fun y => c ⟨y.1.1, y.2⟩), if_neg c]
        exact q
    · rw [j4 p e, k4 p e]
      refine p7 (fun y => z ⟨f1.trans y.1, ?_⟩)
      rcases hw with hw | hw
      · exact hw.trans y.2
      · omega
    · rw [j6, a9, if_neg e, kc]
      split <;> omega
theorem CI_add (hR : RI K) (hn : n = (K 39 2).toNat) (h : CI K) (hK : KA kd n K K') (q3 : K' 51 3 = K 51 3) (q0 : K' 51 0 = K 51 0) (q7 : K' 51 7 = 0 ∨ K' 51 7 = 1)
    (q6 : (kd = 3 ∧ K' 51 6 = n ∧ K 51 6 = -1) ∨ (kd ≠ 3 ∧ K' 51 6 = K 51 6)) (q2 : K' 51 2 = 2 → kd = 3) (q2' : K' 51 2 = 3 → kd = 0) (q5 : K 51 0 = 1 → K' 51 5 ≤ 2) : CI K' := by
  obtain ⟨h1, h2, h3, h4, h5, h6, h7, h8⟩ := h
  obtain ⟨r1, r2, r3, r4, r5, r6, r7, r8, r9, r10, -⟩ := hR
  obtain ⟨k1, k2, k3, k4, k5, k6, k8, kc⟩ := hK
  have mv : ∀ p : Nat, p ≠ n → OP K p → OP K' p := fun p e hp => hp.mv (by rw [k1, if_neg e]) (by rw [k6, if_neg e]; split <;> (clear h5 h8 q6 q7; omega))
  have hlast : (K' 39 2 - 1).toNat = n := by rw [kc, hn]; clear h5 h8 q6 q7; omega
  refine ⟨fun z => ?_, fun p hp z => ?_, fun z => ?_, fun z => ?_, q7, fun p hp z => ?_, fun z => ?_, by rw [q0]; exact h8⟩
  · rw [q3] at z ⊢
    exact mv _ (by clear h5 h8 q6 q7; omega) (h1 z)
  · rw [kc] at hp
    rw [k5] at z ⊢
    by_cases e : p = n
    · rw [if_pos e] at z ⊢
      exact mv _ (by clear h5 h8 q6 q7; omega) (h1 z)
    · rw [if_neg e] at z ⊢
      have hp' : (p : Int) < K 39 2 := by clear h5 h8 q6 q7; omega
      have := r7 p hp'
      exact mv _ (by clear h5 h8 q6 q7; omega) (h2 p hp' z)
  · rw [hlast, k1, if_pos rfl, k5, if_pos rfl, q3]
    exact ⟨q2 z, rfl⟩
  · rw [hlast, k1, if_pos rfl, k5, if_pos rfl, q3, k6, if_pos rfl]
    exact ⟨q2' z, rfl, rfl⟩
  · rw [kc] at hp
    rw [k1] at z
    by_cases e : p = n
    · rw [if_pos e] at z
      rcases q6 with ⟨-, b, -⟩ | ⟨b, -⟩
      · rw [b, e]
      · exact absurd z b
    · rw [if_neg e] at z
      have := h6 p (by clear h5 h8 q6 q7; omega) z
      rcases q6 with ⟨-, -, b⟩ | ⟨-, b⟩
      · clear h5 h8 q7; omega
      · rw [b]
        exact this
  · rw [q0] at z
    exact q5 z
theorem KA_of {e : Int} (ho : -1 ≤ K 51 3 ∧ K 51 3 < K 39 2) (hn : n = (K 39 2).toNat) (q : ∀ a k : Nat, a ≠ 51 → a ≠ 48 → a ≠ 49 → K' a k = (kAdd kd e K) a k) (q8 : ∀ p : Nat, p ≠ n → K' 48 p = K 48 p) : KA kd n K K' := by
  subst hn
  refine ⟨fun p => ?_, fun p => ?_, fun p z => ?_, fun p z => ?_, fun p => ?_, fun p => ?_, q8, ?_⟩
  · rw [q 41 p (by decide) (by decide) (by decide), kAdd_eq kd e ho 41 p (by decide)]
    simp
  · rw [q 42 p (by decide) (by decide) (by decide), kAdd_eq kd e ho 42 p (by decide)]
    simp
  · rw [q 43 p (by decide) (by decide) (by decide), kAdd_eq kd e ho 43 p (by decide)]
    simp [z]
  · rw [q 44 p (by decide) (by decide) (by decide), kAdd_eq kd e ho 44 p (by decide)]
    simp [z]
  · rw [q 45 p (by decide) (by decide) (by decide), kAdd_eq kd e ho 45 p (by decide)]
    simp
  · rw [q 46 p (by decide) (by decide) (by decide), kAdd_46 kd e p ho]
  · rw [q 39 2 (by decide) (by decide) (by decide), kAdd_cnt]
theorem KA_ends {e : Int} (ho : -1 ≤ K 51 3 ∧ K 51 3 < K 39 2) (hn : n = (K 39 2).toNat) (q : ∀ a k : Nat, a ≠ 51 → a ≠ 48 → a ≠ 49 → K' a k = (kAdd kd e K) a k) : K' 43 n = e ∧ K' 44 n = e := by
  subst hn
  refine ⟨?_, ?_⟩
  · rw [q 43 _ (by decide) (by decide) (by decide), kAdd_eq kd e ho 43 _ (by decide)]
    simp
  · rw [q 44 _ (by decide) (by decide) (by decide), kAdd_eq kd e ho 44 _ (by decide)]
    simp
/-- the letters keep their kinds -/
theorem kKind_add (hf : ∀ l : Nat, l < 26 → -1 ≤ K 49 l ∧ K 49 l < K 39 2) (hn : n = (K 39 2).toNat) (hK : KA kd n K K') {l : Nat} (hl : l < 26) (h9 : K' 49 l = K 49 l) : kKind K' (l : Int) = kKind K (l : Int) := by
  have := hf l hl
  unfold kKind
  rw [show ((l : Int)).toNat = l by omega, h9]
  split
  · rfl
  · rw [hK.1, if_neg (by omega)]
end AS
