/-! ===== atoms and letters, in both ===== -/
section SO
variable {I J0 J K K' : IF} {u n : Nat} {kd e : Int}
/-- the class's scalars and bytes: the same but place and state -/
theorem Sim_mk (hu : Mt u) (hR : RI K) (hS : Sim I K u) (hK : KA kd n K K') (k1 : K' 39 1 = K 39 1) (k40 : ∀ j : Nat, K' 40 j = K 40 j) (k0 : K' 51 0 = K 51 0) (k4 : K' 51 4 = K 51 4)
    (j1 : J u 1 = I u 1) (jb : ∀ j : Nat, J (u + 1) j = I (u + 1) j) (j13 : J 80 13 = I 80 13) (j14 : J 80 14 = K' 51 1) (hle : 0 ≤ K' 51 1 ∧ K' 51 1 ≤ K 39 1) (j15 : J 80 15 = I 80 15) (j16 : J 80 16 = I 80 16) (j17 : J 80 17 = K' 51 5) (j18 : J 80 18 = (if K' 51 6 = -1 then 0 else 1)) (j19 : J 80 19 = K' 51 7)
    (j2 : J u 2 = K 39 2 + 1) (hp : ∀ p : Nat, (p : Int) < K' 39 2 → PR J K' u p) (hl : ∀ l : Nat, l < 26 → J 135 l = kKind K' l) : Sim J K' u := by
  obtain ⟨h1, h2, h3, h4, h5, h6, h7, h8, h9, h10, h11⟩ := hS
  have hnx : ∀ x, nx K' x = nx K x := nx_congr k1 k40
  refine ⟨⟨by rw [j1, k1]; exact h1.1, by rw [k1]; exact h1.2.1, fun j hj => ?_⟩, by rw [j13, k0]; exact h2, ⟨by rw [j14]; exact hle.1, by rw [j14, k1]; exact hle.2, by rw [j14]⟩, by rw [j15]; exact h4, by rw [j16, k4]; exact h5, j17, j18, j19, by rw [j2, hK.2.2.2.2.2.2.2], hp, hl⟩
  rw [k1] at hj
  rw [jb, k40]
  exact h1.2.2 j hj
theorem AD.fr (hA : AD u kd (K 51 3) I J0) (hu : Mt u) : (∀ a k : Nat, a < 82 ∨ 132 ≤ a → J0 a k = I a k) ∧ (∀ k : Nat, k ≠ 2 → J0 u k = I u k) ∧ (∀ k : Nat, J0 (u + 1) k = I (u + 1) k) ∧ (∀ k : Nat, J0 (u + 4) k = I (u + 4) k) ∧ (∀ k : Nat, J0 (u + 5) k = I (u + 5) k) := by
  have hu' := mt_rng hu
  exact ⟨fun a k z => hA.2.1 a k (by omega) (by omega) (by omega) (by omega) (by omega) (by omega) (by omega), hA.2.2.1, fun k => hA.2.1 _ k (by omega) (by omega) (by omega) (by omega) (by omega) (by omega) (by omega), fun k => hA.2.1 _ k (by omega) (by omega) (by omega) (by omega) (by omega) (by omega) (by omega), fun k => hA.2.1 _ k (by omega) (by omega) (by omega) (by omega) (by omega) (by omega) (by omega)⟩
theorem kAtom_q (ho : -1 ≤ K 51 3 ∧ K 51 3 < K 39 2) (a k : Nat) (ha : a ≠ 51) : kAdd 0 e (mset K 51 2 3) a k = kAdd 0 e K a k := kAdd_q 0 e (fun a k z => mset_a _ _ z) rfl rfl ho a k ha
theorem kAtom_51 {k : Nat} (h1 : k ≠ 1) (h2 : k ≠ 2) : kAdd 0 e (mset K 51 2 3) 51 k = K 51 k := by
  rw [kAdd_51 0 e h1, mset_k _ _ h2]
/-- an atom has been read -/
theorem sim_atom (hu : Mt u) (hR : RI K) (hC : CI K) (hS : Sim I K u) (hat : I 80 14 = K 51 1) (he : K 51 1 < e ∧ e ≤ K 39 1) (hA : AD u 0 (K 51 3) I J0) (hn : n = (K 39 2).toNat) :
    Sim (mset (mset (mset J0 80 14 e) (u + 5) n e) (u + 4) n e) (kAdd 0 e (mset K 51 2 3)) u ∧ CI (kAdd 0 e (mset K 51 2 3)) ∧ (mset (mset (mset J0 80 14 e) (u + 5) n e) (u + 4) n e) 80 14 = e := by
  have hu' := mt_rng hu
  have ho : -1 ≤ K 51 3 ∧ K 51 3 < K 39 2 := hR.2.2.2.2.1
  have h49 := hR.2.2.2.2.2.2.2.2.1
  have hc0 : 0 ≤ K 39 2 := hR.2.2.2.1.1
  have hpos : 0 ≤ K 51 1 := hR.1.1
  obtain ⟨f1, f2, f3, f4, f5⟩ := hA.fr hu
  have q : ∀ a k : Nat, a ≠ 51 → a ≠ 48 → a ≠ 49 → (kAdd 0 e (mset K 51 2 3)) a k = (kAdd 0 e K) a k := fun a k z _ _ => kAtom_q ho a k z
  have q48 : ∀ p : Nat, p ≠ n → (kAdd 0 e (mset K 51 2 3)) 48 p = K 48 p := fun p z => by
    rw [kAtom_q ho 48 p (by decide)]
    exact kAdd_p 0 e (by decide) (by rw [← hn]; exact z) (by decide)
  have hK := KA_of (kd := 0) (e := e) (K' := kAdd 0 e (mset K 51 2 3)) ho hn q q48
  obtain ⟨e43, e44⟩ := KA_ends (kd := 0) (e := e) (K' := kAdd 0 e (mset K 51 2 3)) ho hn q
  have m80 : ∀ k : Nat, k ≠ 14 → (mset (mset (mset J0 80 14 e) (u + 5) n e) (u + 4) n e) 80 k = I 80 k := fun k z => by
    rw [mset_a _ _ (by omega), mset_a _ _ (by omega), mset_k _ _ z]
    exact f1 80 k (Or.inl (by omega))
  have m14 : (mset (mset (mset J0 80 14 e) (u + 5) n e) (u + 4) n e) 80 14 = e := by
    rw [mset_a _ _ (by omega), mset_a _ _ (by omega), mset_s]
  have mo : ∀ a k : Nat, a ≠ 80 → a ≠ u + 4 → a ≠ u + 5 → (mset (mset (mset J0 80 14 e) (u + 5) n e) (u + 4) n e) a k = J0 a k := fun a k z1 z2 z3 => by
    rw [mset_a _ _ z2, mset_a _ _ z3, mset_a _ _ z1]
  obtain ⟨h1, h2, h3, h4, h5, h6, h7, h8, h9, h10, h11⟩ := id hS
  have hPR := PR_add (J := mset (mset (mset J0 80 14 e) (u + 5) n e) (u + 4) n e) hn hc0 h9 ho hC.1 hA hat (fun p => mo _ _ (by omega) (by omega) (by omega)) (fun p => mo _ _ (by omega) (by omega) (by omega)) (fun p => mo _ _ (by omega) (by omega) (by omega)) (fun p => mo _ _ (by omega) (by omega) (by omega)) (fun p => mo _ _ (by omega) (by omega) (by omega))
    (fun p z => by rw [mset_k _ _ z, mset_a _ _ (by omega), mset_a _ _ (by omega)]; exact f4 p) (fun p z => by rw [mset_a _ _ (by omega), mset_k _ _ z, mset_a _ _ (by omega)]; exact f5 p) (fun p z => mo _ _ (by omega) (by omega) (by omega)) hK
    (fun _ => by rw [mset_s]; exact e44.symm) (fun _ => by rw [mset_a _ _ (by omega), mset_s]; exact e43.symm)
    (by rw [mo _ _ (by omega) (by omega) (by omega), hA.2.2.2.2.2.2.1, if_pos (by rw [h9, hn]), kAtom_q ho 48 n (by decide), hn, kAdd_n 0 e (by decide)]; simp) (Or.inl (kAtom_51 (by decide) (by decide))) h10
  refine ⟨Sim_mk hu hR hS hK ?_ (fun j => ?_) (kAtom_51 (by decide) (by decide)) (kAtom_51 (by decide) (by decide)) ?_ (fun j => ?_) (m80 13 (by decide)) m14 ?_ (m80 15 (by decide)) (m80 16 (by decide)) ?_ ?_ ?_ ?_ hPR (fun l hl => ?_), ?_, m14⟩
  · rw [kAtom_q ho 39 1 (by decide)]
    exact kAdd_o 0 e (by decide) (Or.inr (by decide)) (by decide)
  · rw [kAtom_q ho 40 j (by decide)]
    exact kAdd_o 0 e (by decide) (Or.inl (by decide)) (by decide)
  · rw [mo u 1 (by omega) (by omega) (by omega)]
    exact f2 1 (by decide)
  · rw [mo (u + 1) j (by omega) (by omega) (by omega)]
    exact f3 j
  · show 0 ≤ e ∧ e ≤ K 39 1
    omega
  · rw [m80 17 (by decide), kAtom_51 (by decide) (by decide)]
    exact h6
  · rw [m80 18 (by decide), kAtom_51 (by decide) (by decide)]
    exact h7
  · rw [m80 19 (by decide), kAtom_51 (by decide) (by decide)]
    exact h8
  · rw [mo u 2 (by omega) (by omega) (by omega), hA.1, h9]
  · rw [mo 135 l (by omega) (by omega) (by omega), f1 135 l (Or.inr (by omega)), kKind_add h49 hn hK hl ?_]
    · exact h11 l hl
    · rw [kAtom_q ho 49 l (by decide)]
      exact kAdd_o 0 e (by decide) (Or.inl (by decide)) (by decide)
  · refine CI_add hR hn hC hK (kAtom_51 (by decide) (by decide)) (kAtom_51 (by decide) (by decide)) ?_ (Or.inr ⟨by decide, kAtom_51 (by decide) (by decide)⟩) (fun z => ?_) (fun _ => rfl) (fun z => ?_)
    · rw [kAtom_51 (by decide) (by decide)]
      exact hC.2.2.2.2.1
    · rw [kAdd_51 0 e (by decide)] at z
      have z' : (3 : Int) = 2 := z
      omega
    · rw [kAtom_51 (by decide) (by decide)]
      exact hC.2.2.2.2.2.2.1 z
end SO
