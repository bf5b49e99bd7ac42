/-! ===== the class's reader: what holds stays, and readTree ===== -/
section RP
variable {Γ : GX} {g : AG} {I K : IF}
theorem kSkip_o {a k : Nat} (h : a ≠ 51 ∨ k ≠ 1) : (kSkip K) a k = K a k := by
  unfold kSkip mset
  rw [if_neg (fun z => h.elim (fun y => y z.1) (fun y => y z.2))]
theorem kSkip_pos : (kSkip K) 51 1 = skp K (K 39 1 - K 51 1).toNat (K 51 1) := by
  unfold kSkip mset
  rw [if_pos ⟨rfl, rfl⟩]
theorem kSkip_ge (h : RI K) : K 51 1 ≤ (kSkip K) 51 1 ∧ (kSkip K) 51 1 ≤ K 39 1 := by
  rw [kSkip_pos]
  exact ⟨skp_mono _ _, skp_le _ _ h.1.2.1⟩
theorem RI.skip (h : RI K) : RI (kSkip K) := by
  have h0 := kSkip_ge h
  obtain ⟨h1, h2, h3, h4, h5, h6, h7, h8, h9, h10, h11, h12, h13⟩ := h
  have e1 : (kSkip K) 39 1 = K 39 1 := kSkip_o (Or.inl (by decide))
  have e2 : (kSkip K) 51 2 = K 51 2 := kSkip_o (Or.inr (by decide))
  have e3 : (kSkip K) 51 4 = K 51 4 := kSkip_o (Or.inr (by decide))
  have e4 : (kSkip K) 39 2 = K 39 2 := kSkip_o (Or.inl (by decide))
  have e5 : (kSkip K) 51 3 = K 51 3 := kSkip_o (Or.inr (by decide))
  have e6 : (kSkip K) 51 5 = K 51 5 := kSkip_o (Or.inr (by decide))
  have e7 : ∀ p, (kSkip K) 45 p = K 45 p := fun p => kSkip_o (Or.inl (by decide))
  have e8 : ∀ p, (kSkip K) 46 p = K 46 p := fun p => kSkip_o (Or.inl (by decide))
  have e9 : ∀ p, (kSkip K) 49 p = K 49 p := fun p => kSkip_o (Or.inl (by decide))
  have e10 : ∀ p, (kSkip K) 40 p = K 40 p := fun p => kSkip_o (Or.inl (by decide))
  unfold RI
  simp only [e1, e2, e3, e4, e5, e6, e7, e8, e9, e10]
  refine ⟨by omega, h2, by omega, h4, h5, ?_, h7, h8, h9, h10, h11, h12, h13⟩
  split at h6 <;> (first | rw [if_pos (by omega)] | rw [if_neg (by omega)]) <;> omega
/-- a piece has been added: what held holds -/
theorem RI.add (h : RI K) (hs : K 51 2 < 2) (hp : K 51 1 < K 39 1) {kd e : Int} (he : K 51 1 < e ∧ e ≤ K 39 1) {K' : IF} {st rw2 : Int} (hst : 2 ≤ st ∧ st ≤ 4) (hrw : rw2 = K 51 5 ∨ rw2 = K 51 5 + 1)
    (q1 : ∀ a k : Nat, a ≠ 51 → a ≠ 48 → a ≠ 49 → K' a k = (kAdd kd e K) a k) (q2 : K' 51 1 = e) (q3 : K' 51 2 = st) (q4 : K' 51 3 = K 51 3) (q5 : K' 51 4 = K 51 4) (q6 : K' 51 5 = rw2) (q7 : ∀ l : Nat, K' 49 l = K 49 l ∨ K' 49 l = K 39 2) : RI K' := by
  have hlt := h.lt hp hs
  obtain ⟨h1, h2, h3, h4, h5, h6, h7, h8, h9, h10, h11, h12, h13⟩ := h
  rw [if_neg (by omega)] at h6
  have e1 : K' 39 1 = K 39 1 := (q1 39 1 (by decide) (by decide) (by decide)).trans (kAdd_o kd e (by decide) (Or.inr (by decide)) (by decide))
  have e2 : K' 39 2 = K 39 2 + 1 := (q1 39 2 (by decide) (by decide) (by decide)).trans (kAdd_cnt kd e)
  have e3 : ∀ p : Nat, K' 40 p = K 40 p := fun p => (q1 40 p (by decide) (by decide) (by decide)).trans (kAdd_o kd e (by decide) (Or.inl (by decide)) (by decide))
  have e4 : ∀ p : Nat, K' 45 p = if p = (K 39 2).toNat then K 51 3 else K 45 p := fun p => by
    rw [q1 45 p (by decide) (by decide) (by decide)]
    by_cases z : p = (K 39 2).toNat
    · rw [if_pos z, z, kAdd_n kd e (by decide)]
      simp
    · rw [if_neg z, kAdd_p kd e (by decide) z (by decide)]
  have e5 : ∀ p : Nat, K' 46 p = if p = (K 39 2).toNat then -1 else if (K 51 3 ≠ -1 ∧ K 41 (K 51 3).toNat = 0) ∧ p = (K 51 3).toNat then K 46 p + 1 else K 46 p := fun p => by
    rw [q1 46 p (by decide) (by decide) (by decide), kAdd_46 kd e p h5]
  refine ⟨by omega, by omega, by omega, by omega, by omega, ?_, fun p hp' => ?_, fun p hp' => ?_, fun l hl => ?_, by omega, fun _ => by omega, fun _ => by omega, fun j hj => ?_⟩
  · rw [q3, if_pos (by omega)]
    omega
  · rw [e4 p]
    split
    · omega
    · exact h7 p (by omega)
  · rw [e5 p, e2]
    split
    · omega
    · have := h8 p (by omega)
      split <;> omega
  · have := h9 l hl
    rcases q7 l with z | z <;> rw [z] <;> omega
  · rw [e3 j]
    exact h13 j (by rw [← e1]; exact hj)
/-- scalars and entries that are no matter change -/
theorem RI.move (h : RI K) {K' : IF} (q1 : K' 39 1 = K 39 1) (q2 : K' 39 2 = K 39 2) (q3 : ∀ p, K' 40 p = K 40 p) (q4 : ∀ p, K' 45 p = K 45 p) (q5 : ∀ p : Nat, (p : Int) < K 39 2 → K' 46 p = K 46 p ∨ K' 46 p = 0) (q6 : ∀ p, K' 49 p = K 49 p)
    (p1 : K 51 1 ≤ K' 51 1 ∧ K' 51 1 ≤ K 39 1) (p2 : 0 ≤ K' 51 2 ∧ K' 51 2 ≤ 4) (p3 : -1 ≤ K' 51 3 ∧ K' 51 3 < K 39 2) (p4 : -(K' 51 1) ≤ K' 51 4 ∧ K' 51 4 ≤ 12) (p5 : K' 51 5 = K 51 5) (p6 : 2 * K 39 2 ≤ K' 51 1 + (if 2 ≤ K' 51 2 then 1 else 0)) (p7 : K' 51 2 = 2 → 0 < K 39 2) (p8 : K' 51 2 = 3 → 0 < K 39 2) : RI K' := by
  obtain ⟨h1, h2, h3, h4, h5, h6, h7, h8, h9, h10, h11, h12, h13⟩ := h
  unfold RI
  simp only [q1, q2, q3, q4, q6, p5]
  refine ⟨by omega, p2, p4, h4, p3, p6, h7, fun p hp => ?_, h9, h10, p7, p8, h13⟩
  have := h8 p hp
  rcases q5 p hp with z | z <;> rw [z] <;> omega
theorem RI.clo (h : RI K) (hp : K 51 1 < K 39 1) (h1 : (kClose K).1 = 1) : RI (kClose K).2 ∧ K 51 1 + 1 ≤ (kClose K).2 51 1 := by
  unfold kClose at h1 ⊢
  by_cases c : K 51 3 = -1
  · rw [if_pos c] at h1
    cases h1
  · rw [if_neg c]
    obtain ⟨g1, g2, g3, g4, g5, g6, g7, g8, g9, g10, g11, g12, g13⟩ := id h
    have hpar := g7 (K 51 3).toNat (by omega)
    dsimp only
    generalize hK : (mset (mset (mset (mset K 51 1 (K 51 1 + 1)) 51 4 (K 51 4 - 1)) 44 (K 51 3).toNat (K 51 1 + 1)) 47 (K 51 3).toNat (K 39 2 - K 51 3)) = K1
    have a1 : K1 51 1 = K 51 1 + 1 := by rw [← hK]; rfl
    have a2 : K1 51 4 = K 51 4 - 1 := by rw [← hK]; rfl
    have a3 : ∀ a k : Nat, a ≠ 51 → a ≠ 44 → a ≠ 47 → K1 a k = K a k := fun a k z1 z2 z3 => by rw [← hK]; simp [mset, z1, z2, z3]
    have a4 : K1 51 5 = K 51 5 := by rw [← hK]; rfl
    generalize hL : (if K1 51 3 = K1 51 6 then mset K1 51 7 0 else K1) = K2
    have b1 : ∀ a k : Nat, k ≠ 7 → K2 a k = K1 a k := fun a k z => by rw [← hL]; split <;> simp [mset, z]
    have b2 : ∀ a k : Nat, a ≠ 51 → K2 a k = K1 a k := fun a k z => by rw [← hL]; split <;> simp [mset, z]
    have c0 : ∀ a k : Nat, a ≠ 51 → (mset (mset K2 51 3 (K 45 (K 51 3).toNat)) 51 2 4) a k = K1 a k := fun a k z => by simp [mset, z, b2 a k z]
    have c1 : (mset (mset K2 51 3 (K 45 (K 51 3).toNat)) 51 2 4) 51 1 = K 51 1 + 1 := by show K2 51 1 = _; rw [b1 51 1 (by decide), a1]
    have c4 : (mset (mset K2 51 3 (K 45 (K 51 3).toNat)) 51 2 4) 51 4 = K 51 4 - 1 := by show K2 51 4 = _; rw [b1 51 4 (by decide), a2]
    have c5 : (mset (mset K2 51 3 (K 45 (K 51 3).toNat)) 51 2 4) 51 5 = K 51 5 := by show K2 51 5 = _; rw [b1 51 5 (by decide), a4]
    have c2 : (mset (mset K2 51 3 (K 45 (K 51 3).toNat)) 51 2 4) 51 2 = 4 := rfl
    have c3 : (mset (mset K2 51 3 (K 45 (K 51 3).toNat)) 51 2 4) 51 3 = K 45 (K 51 3).toNat := rfl
    refine ⟨h.move ((c0 _ _ (by decide)).trans (a3 _ _ (by decide) (by decide) (by decide))) ((c0 _ _ (by decide)).trans (a3 _ _ (by decide) (by decide) (by decide))) (fun p => (c0 _ _ (by decide)).trans (a3 _ _ (by decide) (by decide) (by decide))) (fun p => (c0 _ _ (by decide)).trans (a3 _ _ (by decide) (by decide) (by decide))) (fun p _ => Or.inl ((c0 _ _ (by decide)).trans (a3 _ _ (by decide) (by decide) (by decide)))) (fun p => (c0 _ _ (by decide)).trans (a3 _ _ (by decide) (by decide) (by decide)))
      (by rw [c1]; omega) (by rw [c2]; omega) (by rw [c3]; omega) (by rw [c4, c1]; omega) c5 (by rw [c1, c2, if_pos (by decide)]; split at g6 <;> omega) (fun z => by rw [c2] at z; cases z) (fun z => by rw [c2] at z; cases z), by rw [c1]; omega⟩
theorem RI.opn (h : RI K) (hp : K 51 1 < K 39 1) (hs : K 51 2 = 2 ∨ K 51 2 = 3) (h1 : (kOpen K).1 = 1) : RI (kOpen K).2 ∧ K 51 1 + 1 ≤ (kOpen K).2 51 1 := by
  unfold kOpen at h1 ⊢
  by_cases c : 12 ≤ K 51 4
  · rw [if_pos c] at h1
    cases h1
  · rw [if_neg c]
    obtain ⟨g1, g2, g3, g4, g5, g6, g7, g8, g9, g10, g11, g12, g13⟩ := id h
    have hc : 0 < K 39 2 := hs.elim g11 g12
    rw [if_pos (by omega)] at g6
    dsimp only
    generalize hK : (mset (mset (mset K 51 3 (K 39 2 - 1)) 51 4 (K 51 4 + 1)) 51 1 (K 51 1 + 1)) = K1
    have a1 : K1 51 1 = K 51 1 + 1 := by rw [← hK]; rfl
    have a2 : K1 51 4 = K 51 4 + 1 := by rw [← hK]; rfl
    have a3 : ∀ a k : Nat, a ≠ 51 → K1 a k = K a k := fun a k z1 => by rw [← hK]; simp [mset, z1]
    have a4 : K1 51 5 = K 51 5 := by rw [← hK]; rfl
    have a5 : K1 51 3 = K 39 2 - 1 := by rw [← hK]; rfl
    split
    · refine ⟨h.move (a3 _ _ (by decide)) (a3 _ _ (by decide)) (fun p => a3 _ _ (by decide)) (fun p => a3 _ _ (by decide)) (fun p _ => ?_) (fun p => a3 _ _ (by decide)) (by show K 51 1 ≤ K1 51 1 ∧ K1 51 1 ≤ K 39 1; rw [a1]; omega) (by show 0 ≤ (1 : Int) ∧ (1 : Int) ≤ 4; omega) (by show -1 ≤ K1 51 3 ∧ K1 51 3 < K 39 2; rw [a5]; omega) (by show -(K1 51 1) ≤ K1 51 4 ∧ K1 51 4 ≤ 12; rw [a1, a2]; omega) a4 (by show 2 * K 39 2 ≤ K1 51 1 + (if (2 : Int) ≤ 1 then 1 else 0); rw [a1, if_neg (by decide)]; omega) (fun z => by cases z) (fun z => by cases z), by show K 51 1 + 1 ≤ K1 51 1; rw [a1]; omega⟩
      by_cases z : p = (K 39 2 - 1).toNat
      · exact Or.inr (by subst z; simp [mset])
      · exact Or.inl (by
          show mset K1 46 (K 39 2 - 1).toNat 0 46 p = K 46 p
          rw [mset_k _ _ z, a3 46 p (by decide)])
    · refine ⟨h.move (a3 _ _ (by decide)) (a3 _ _ (by decide)) (fun p => a3 _ _ (by decide)) (fun p => a3 _ _ (by decide)) (fun p _ => Or.inl (a3 _ _ (by decide))) (fun p => a3 _ _ (by decide)) (by show K 51 1 ≤ K1 51 1 ∧ K1 51 1 ≤ K 39 1; rw [a1]; omega) (by show 0 ≤ (0 : Int) ∧ (0 : Int) ≤ 4; omega) (by show -1 ≤ K1 51 3 ∧ K1 51 3 < K 39 2; rw [a5]; omega) (by show -(K1 51 1) ≤ K1 51 4 ∧ K1 51 4 ≤ 12; rw [a1, a2]; omega) a4 (by show 2 * K 39 2 ≤ K1 51 1 + (if (2 : Int) ≤ 0 then 1 else 0); rw [a1, if_neg (by decide)]; omega) (fun z => by cases z) (fun z => by cases z), by show K 51 1 + 1 ≤ K1 51 1; rw [a1]; omega⟩
theorem scn_gt {K : IF} {n : Nat} {e : Int} (h : e ≤ K 39 1) : e ≤ scn K n e ∧ scn K n e ≤ K 39 1 := ⟨scn_mono n e, scn_le n e h⟩
theorem kAdd_pos (kd e : Int) : (kAdd kd e K) 51 1 = e := rfl
theorem kAdd_eq (kd e : Int) (ho : -1 ≤ K 51 3 ∧ K 51 3 < K 39 2) (a k : Nat) (ha : a ≠ 51) : kAdd kd e K a k =
    if a = 39 ∧ k = 2 then K 39 2 + 1
    else if a = 46 then (if k = (K 39 2).toNat then -1 else if (K 51 3 ≠ -1 ∧ K 41 (K 51 3).toNat = 0) ∧ k = (K 51 3).toNat then K 46 k + 1 else K 46 k)
    else if k = (K 39 2).toNat then (if a = 41 then kd else if a = 42 then K 51 1 else if a = 43 then e else if a = 44 then e else if a = 45 then K 51 3 else if a = 47 then 1 else if a = 48 then -1 else K a k)
    else K a k := by
  by_cases e1 : a = 39 ∧ k = 2
  · rw [if_pos e1, e1.1, e1.2]
    exact kAdd_cnt kd e
  · rw [if_neg e1]
    by_cases e2 : a = 46
    · rw [if_pos e2, e2]
      exact kAdd_46 kd e k ho
    · rw [if_neg e2]
      by_cases e3 : k = (K 39 2).toNat
      · have h39 : ¬ (a = 39 ∧ (K 39 2).toNat = 2) := fun z => e1 ⟨z.1, e3.trans z.2⟩
        have h51 : ¬ (a = 51 ∧ (K 39 2).toNat = 1) := fun z => ha z.1
        rw [if_pos e3, e3, kAdd_n kd e e2, if_neg h39, if_neg h51]
      · rw [if_neg e3]
        by_cases e4 : 41 ≤ a ∧ a ≤ 48
        · exact kAdd_p kd e e4 e3 e2
        · exact kAdd_o kd e ha (by omega) (by omega)
theorem kAdd_q {X : IF} (kd e : Int) (hX : ∀ a k : Nat, a ≠ 51 → X a k = K a k) (h1 : X 51 1 = K 51 1) (h3 : X 51 3 = K 51 3) (ho : -1 ≤ K 51 3 ∧ K 51 3 < K 39 2) (a k : Nat) (ha : a ≠ 51) : kAdd kd e X a k = kAdd kd e K a k := by
  rw [kAdd_eq kd e ho a k ha, kAdd_eq kd e (by rw [h3, hX 39 2 (by decide)]; exact ho) a k ha, h1, h3, hX 39 2 (by decide), hX 41 _ (by decide), hX 46 _ (by decide), hX a k ha]
theorem RI.atom (h : RI K) (hs : K 51 2 < 2) (hp : K 51 1 < K 39 1) : RI (kAtom K) ∧ K 51 1 + 1 ≤ (kAtom K) 51 1 := by
  have h1 := scn_gt (K := K) (n := (K 39 1 - (K 51 1 + 1)).toNat) (e := K 51 1 + 1) (by omega)
  unfold kAtom
  generalize scn K (K 39 1 - (K 51 1 + 1)).toNat (K 51 1 + 1) = e at h1 ⊢
  have ho := h.2.2.2.2.1
  refine ⟨h.add (kd := 0) (e := e) hs hp (by omega) (st := 3) (rw2 := K 51 5) (by omega) (Or.inl rfl) (fun a k z _ _ => kAdd_q 0 e (fun a k z => mset_a _ _ z) rfl rfl ho a k z) rfl ?_ ?_ ?_ ?_ (fun l => Or.inl ?_), ?_⟩
  · rw [kAdd_51 0 e (by decide)]
    rfl
  · rw [kAdd_51 0 e (by decide)]
    rfl
  · rw [kAdd_51 0 e (by decide)]
    rfl
  · rw [kAdd_51 0 e (by decide)]
    rfl
  · rw [kAdd_o 0 e (by decide) (Or.inl (by decide)) (by decide)]
    rfl
  · rw [kAdd_pos]
    omega
theorem RI.deep (h : RI K) (hs : K 51 2 < 2) (hp : K 51 1 < K 39 1) : RI (kDeep K) ∧ K 51 1 + 1 ≤ (kDeep K) 51 1 := by
  unfold kDeep
  have ho := h.2.2.2.2.1
  refine ⟨h.add (kd := 3) (e := K 51 1 + 1) hs hp (by omega) (st := 2) (rw2 := K 51 5) (by omega) (Or.inl rfl) (fun a k z _ _ => kAdd_q (K := K) (X := mset (mset (mset K 51 6 (K 39 2)) 51 7 1) 51 2 2) 3 (K 51 1 + 1) (fun a k z => by simp [mset, z]) rfl rfl ho a k z) rfl ?_ ?_ ?_ ?_ (fun l => Or.inl ?_), ?_⟩
  · rw [kAdd_51 3 _ (by decide)]
    rfl
  · rw [kAdd_51 3 _ (by decide)]
    rfl
  · rw [kAdd_51 3 _ (by decide)]
    rfl
  · rw [kAdd_51 3 _ (by decide)]
    rfl
  · rw [kAdd_o 3 _ (by decide) (Or.inl (by decide)) (by decide)]
    rfl
  · rw [kAdd_pos]
    omega
end RP
