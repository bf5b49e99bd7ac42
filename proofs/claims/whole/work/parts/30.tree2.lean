/-! ===== the tree that the class reads: letters, openings, closings ===== -/
section TV2
variable {K K' : IF} {E : Nat → Int} {kd e st lt : Int}
theorem LT.add (h : LT K) (hR : RI K) (hA : AE kd e st lt K K')
    (hb : (kd = 0 ∧ lt = -1 ∧ ∀ j : Nat, K 51 1 ≤ j → (j : Int) < e → atomb (K 40 j) = true) ∨ ((kd = 1 ∨ kd = 2) ∧ (0 ≤ lt ∧ lt < 26) ∧ e = K 51 1 + 2 ∧ K 40 (K 51 1).toNat = (if kd = 1 then 63 else 42) ∧ K 40 (K 51 1 + 1).toNat = lt + 97) ∨ (kd = 3 ∧ lt = -1 ∧ e = K 51 1 + 1 ∧ K 40 (K 51 1).toNat = 64))
    (h9 : (lt = -1 ∧ ∀ l : Nat, l < 26 → K' 49 l = K 49 l) ∨ (0 ≤ lt ∧ (kKind K lt = -1 ∨ kKind K lt = kd) ∧ ∀ l : Nat, l < 26 → K' 49 l = if l = lt.toNat ∧ kKind K lt = -1 then K 39 2 else K 49 l)) : LT K' := by
  obtain ⟨h1, h2, h3⟩ := h
  obtain ⟨c, ⟨-, k40⟩, ⟨a41, a42, a43, a44, -, -, -, a48⟩, ⟨-, s1, -⟩, st2⟩ := hA
  have hc := hR.2.2.2.1
  have hpos := hR.1.1
  unfold LT
  simp only [c, k40, a42, a43, a44, a48, s1, a41]
  refine ⟨fun p hp => ?_, fun l hl => ?_, fun j hj hjb => ?_⟩
  · by_cases e1 : p = (K 39 2).toNat
    · simp only [if_pos e1]
      rcases hb with ⟨z1, z2, z3⟩ | ⟨z1, z2, z3, z4, z5⟩ | ⟨z1, z2, z3, z4⟩
      · exact Or.inl ⟨z1, z2, z3⟩
      · exact Or.inr (Or.inl ⟨z1, z2.1, z2.2, z3, z3, z4, z5⟩)
      · exact Or.inr (Or.inr ⟨z1, z2, z3⟩)
    · simp only [if_neg e1]
      exact h1 p (by omega)
  · have q := h2 l hl
    rcases h9 with ⟨y1, y2⟩ | ⟨y1, y2, y3⟩
    · rw [y2 l hl]
      rcases q with ⟨q1, q2⟩ | ⟨q1, q2, q3, q4⟩
      · refine Or.inl ⟨q1, fun p hp => ?_⟩
        split
        · omega
        · exact q2 p (by omega)
      · refine Or.inr ⟨q1, by omega, ?_, fun p hp => ?_⟩
        · rw [if_neg (by omega)]
          exact q3
        · rw [if_neg (show ¬ (K 49 l).toNat = (K 39 2).toNat by omega)]
          split
          · intro z
            omega
          · exact q4 p (by omega)
    · have hk : kKind K lt = if K 49 lt.toNat = -1 then -1 else K 41 (K 49 lt.toNat).toNat := rfl
      rw [y3 l hl]
      by_cases el : l = lt.toNat
      · subst el
        rcases q with ⟨q1, q2⟩ | ⟨q1, q2, q3, q4⟩
        · rw [if_pos (show lt.toNat = lt.toNat ∧ kKind K lt = -1 from ⟨rfl, by rw [hk, if_pos q1]⟩)]
          refine Or.inr ⟨hc.1, by omega, ?_, fun p hp => ?_⟩
          · rw [if_pos rfl]
            omega
          · rw [if_pos (show (K 39 2).toNat = (K 39 2).toNat from rfl)]
            split
            · intro z
              omega
            · intro z
              exact absurd z (q2 p (by omega))
        · have hkk : kKind K lt = K 41 (K 49 lt.toNat).toNat := by rw [hk, if_neg (by omega)]
          have hnn : ¬ K 41 (K 49 lt.toNat).toNat = -1 := by
            have hx := h1 (K 49 lt.toNat).toNat (by omega)
            rcases hx with ⟨x, -⟩ | ⟨x, -⟩ | ⟨x, -⟩
            · omega
            · omega
            · omega
          rw [if_neg (show ¬ (lt.toNat = lt.toNat ∧ kKind K lt = -1) from fun z => hnn (by rw [← hkk]; exact z.2))]
          refine Or.inr ⟨q1, by omega, ?_, fun p hp => ?_⟩
          · rw [if_neg (by omega)]
            exact q3
          · rw [if_neg (show ¬ (K 49 lt.toNat).toNat = (K 39 2).toNat by omega)]
            split
            · intro z
              exact ⟨by omega, by rw [← hkk]; exact (y2.resolve_left (by rw [hkk]; exact hnn)).symm⟩
            · exact q4 p (by omega)
      · rw [if_neg (fun z => el z.1)]
        rcases q with ⟨q1, q2⟩ | ⟨q1, q2, q3, q4⟩
        · refine Or.inl ⟨q1, fun p hp => ?_⟩
          split
          · omega
          · exact q2 p (by omega)
        · refine Or.inr ⟨q1, by omega, ?_, fun p hp => ?_⟩
          · rw [if_neg (by omega)]
            exact q3
          · rw [if_neg (show ¬ (K 49 l).toNat = (K 39 2).toNat by omega)]
            split
            · intro z
              omega
            · exact q4 p (by omega)
  · by_cases jp : (j : Int) < K 51 1
    · obtain ⟨p, p1, p2, p3⟩ := h3 j jp hjb
      refine ⟨p, by omega, ?_⟩
      rw [if_neg (by omega), if_neg (by omega)]
      exact ⟨p2, p3⟩
    · rcases hb with ⟨z1, z2, z3⟩ | ⟨z1, z2, z3, z4, z5⟩ | ⟨z1, z2, z3, z4⟩
      · have := z3 j (by omega) (by omega)
        simp only [atomb, decide_eq_true_eq] at this
        omega
      · by_cases j1 : (j : Int) = K 51 1
        · refine ⟨(K 39 2).toNat, by omega, ?_⟩
          rw [if_pos rfl, if_pos rfl]
          exact ⟨z1, j1.symm⟩
        · rw [show (K 51 1 + 1).toNat = j by omega] at z5
          omega
      · rw [show (K 51 1).toNat = j by omega] at z4
        omega
theorem PT.add (h : PT K) (hR : RI K) (hA : AE kd e st lt K K') (h2 : kd = 2 → K 51 3 ≠ -1 ∧ K 41 (K 51 3).toNat = 0) (h0 : K 51 0 = 0 → kd = 0) (h3 : K 51 0 = 2 → kd ≠ 3) : PT K' := by
  obtain ⟨q1, q2, q3, q4⟩ := h
  obtain ⟨c, -, ⟨a41, -, -, -, a45, -, -, -⟩, ⟨s0, -, -, -, -, s5⟩, -⟩ := hA
  have hc := hR.2.2.2.1
  have ho : -1 ≤ K 51 3 ∧ K 51 3 < K 39 2 := hR.2.2.2.2.1
  have hpar := hR.2.2.2.2.2.2.1
  have hcn : (K 39 2 + 1).toNat = (K 39 2).toNat + 1 := by omega
  unfold PT
  rw [c, s0, s5, hcn]
  refine ⟨?_, fun p hp => ?_, fun z p hp => ?_, fun z p hp => ?_⟩
  · rw [ncI_succ, ncI_congr (g := K 41) (fun q hq => by rw [a41, if_neg (by omega)]), a41, if_pos rfl, q1]
    split <;> omega
  · rw [a41, a45]
    by_cases e1 : p = (K 39 2).toNat
    · rw [if_pos e1, if_pos e1]
      intro z
      rw [a41, if_neg (by omega)]
      exact h2 z
    · rw [if_neg e1, if_neg e1]
      intro z
      have := hpar p (by omega)
      rw [a41, if_neg (by omega)]
      exact q2 p (by omega) z
  · rw [a41]
    split
    · exact h0 z
    · exact q3 z p (by omega)
  · rw [a41]
    split
    · exact h3 z
    · exact q4 z p (by omega)
/-! what only moves -/
theorem LT.mv (h : LT K) (h2 : K' 39 2 = K 39 2) (h40 : ∀ j : Nat, K' 40 j = K 40 j) (h1 : ∀ p : Nat, K' 41 p = K 41 p ∧ K' 42 p = K 42 p ∧ K' 43 p = K 43 p ∧ K' 48 p = K 48 p ∧ K' 49 p = K 49 p) (h4 : ∀ p : Nat, (p : Int) < K 39 2 → (K 41 p = 1 ∨ K 41 p = 2) → K' 44 p = K 44 p)
    (hp : ∀ j : Nat, (j : Int) < K' 51 1 → K 51 1 ≤ j → K 40 j ≠ 63 ∧ K 40 j ≠ 42) : LT K' := by
  obtain ⟨q1, q2, q3⟩ := h
  unfold LT
  simp only [h2, h40, fun p => (h1 p).1, fun p => (h1 p).2.1, fun p => (h1 p).2.2.1, fun p => (h1 p).2.2.2.1, fun p => (h1 p).2.2.2.2]
  refine ⟨fun p hp => ?_, q2, fun j hj hjb => ?_⟩
  · rcases q1 p hp with z | z | z
    · exact Or.inl z
    · rw [h4 p hp z.1]
      exact Or.inr (Or.inl z)
    · exact Or.inr (Or.inr z)
  · by_cases z : (j : Int) < K 51 1
    · exact q3 j z hjb
    · have := hp j hj (by omega)
      omega
theorem PT.mv (h : PT K) (h2 : K' 39 2 = K 39 2) (h1 : ∀ p : Nat, K' 41 p = K 41 p ∧ K' 45 p = K 45 p) (h0 : K' 51 0 = K 51 0) (h5 : K' 51 5 = K 51 5) : PT K' := by
  have e1 : K' 41 = K 41 := funext (fun p => (h1 p).1)
  have e2 : K' 45 = K 45 := funext (fun p => (h1 p).2)
  unfold PT
  rw [h2, e1, e2, h0, h5]
  exact h
theorem TI.mv (h : TI K E) (h2 : K' 39 2 = K 39 2) (h1 : ∀ p : Nat, K' 45 p = K 45 p ∧ K' 47 p = K 47 p) (h3 : K' 51 3 = K 51 3) (hs : K' 51 3 = -1 → K' 51 2 < 2 → K 51 2 < 2) : TI K' E := by
  obtain ⟨q1, q2, q3, q4, q5, q6, q7⟩ := h
  have e1 : K' 45 = K 45 := funext (fun p => (h1 p).1)
  have e2 : K' 47 = K 47 := funext (fun p => (h1 p).2)
  unfold TI
  rw [h2, e1, e2, h3]
  exact ⟨q1, q2, q3, q4, q5, q6, fun z y => q7 z (hs (h3.trans z) y)⟩
theorem SN.mv (h : SN K E) (h2 : K' 39 2 = K 39 2) (h1 : ∀ p : Nat, K' 42 p = K 42 p ∧ K' 43 p = K 43 p ∧ K' 44 p = K 44 p ∧ K' 45 p = K 45 p) (hp : K 51 1 ≤ K' 51 1) : SN K' E := by
  obtain ⟨q1, q2, q3, q4⟩ := h
  have e1 : K' 42 = K 42 := funext (fun p => (h1 p).1)
  have e2 : K' 43 = K 43 := funext (fun p => (h1 p).2.1)
  have e3 : K' 44 = K 44 := funext (fun p => (h1 p).2.2.1)
  have e4 : K' 45 = K 45 := funext (fun p => (h1 p).2.2.2)
  unfold SN
  rw [h2, e1, e2, e3, e4]
  exact ⟨fun p hp' => by have := q1 p hp'; omega, q2, q3, q4⟩
theorem DP.mv {D : Nat → Int} (h : DP K D) (h2 : K' 39 2 = K 39 2) (h1 : ∀ p : Nat, K' 45 p = K 45 p) (h3 : K' 51 3 = K 51 3) (h4 : K' 51 4 = K 51 4) : DP K' D := by
  have e1 : K' 45 = K 45 := funext h1
  unfold DP
  rw [h2, e1, h3, h4]
  exact h
/-! openings -/
/-- the effect of an opening -/
def OE (K K' : IF) : Prop :=
  K' 39 2 = K 39 2 ∧ (∀ a k : Nat, a ≠ 51 → a ≠ 46 → K' a k = K a k) ∧ (∀ p : Nat, K' 46 p = if K 41 (K 39 2 - 1).toNat = 0 ∧ p = (K 39 2 - 1).toNat then 0 else K 46 p) ∧
  (K' 51 0 = K 51 0 ∧ K' 51 1 = K 51 1 + 1 ∧ K' 51 2 = (if K 41 (K 39 2 - 1).toNat = 0 then 1 else 0) ∧ K' 51 3 = K 39 2 - 1 ∧ K' 51 4 = K 51 4 + 1 ∧ K' 51 5 = K 51 5) ∧ (K 51 2 = 2 ∨ K 51 2 = 3)
theorem TI.opn (h : TI K E) (hR : RI K) (hC : CI K) (hO : OE K K') : TI K' (fun p => if p = (K 39 2 - 1).toNat then 1000 else E p) := by
  obtain ⟨h1, h2, h3, h4, h5, h6, h7⟩ := h
  obtain ⟨c, a, -, ⟨-, -, s2, s3, -, -⟩, hs⟩ := hO
  have hc := hR.2.2.2.1
  have hpos : 0 < K 39 2 := hs.elim hR.2.2.2.2.2.2.2.2.2.2.1 hR.2.2.2.2.2.2.2.2.2.2.2.1
  have ho : -1 ≤ K 51 3 ∧ K 51 3 < K 39 2 := hR.2.2.2.2.1
  have hpar := hR.2.2.2.2.2.2.1
  have hpo : K 45 (K 39 2 - 1).toNat = K 51 3 := hs.elim (fun z => (hC.2.2.1 z).2) (fun z => (hC.2.2.2.1 z).2.2)
  have a45 : ∀ p : Nat, K' 45 p = K 45 p := fun p => a 45 p (by decide) (by decide)
  have a47 : ∀ p : Nat, K' 47 p = K 47 p := fun p => a 47 p (by decide) (by decide)
  unfold TI
  simp only [c, a45, a47, s3]
  refine ⟨fun p hp => ?_, fun p hp _ => by omega, fun _ => if_pos trivial, fun q hq z => ?_, fun p q hpq hq => ?_, h6, fun z => by omega⟩
  · by_cases e1 : p = (K 39 2 - 1).toNat
    · rw [if_pos e1]
      exact ⟨Or.inl rfl, (h1 p hp).2⟩
    · rw [if_neg e1]
      exact h1 p hp
  · have hq' := hpar q hq
    rw [if_neg (show ¬ (K 45 q).toNat = (K 39 2 - 1).toNat by omega)]
    by_cases e1 : q = (K 39 2 - 1).toNat
    · rw [if_pos e1]
      rw [e1, hpo] at z
      rw [e1, hpo, h3 z]
      omega
    · rw [if_neg e1]
      exact h4 q hq z
  · rw [if_neg (show ¬ p = (K 39 2 - 1).toNat by omega)]
    exact h5 p q hpq hq
theorem SN.opn (h : SN K E) (hR : RI K) (hT : TI K E) (hO : OE K K') : SN K' (fun p => if p = (K 39 2 - 1).toNat then 1000 else E p) := by
  obtain ⟨q1, q2, q3, q4⟩ := h
  obtain ⟨c, a, -, ⟨-, s1, s2, s3, -, -⟩, hs⟩ := hO
  have hc := hR.2.2.2.1
  have hpos : 0 < K 39 2 := hs.elim hR.2.2.2.2.2.2.2.2.2.2.1 hR.2.2.2.2.2.2.2.2.2.2.2.1
  have hpar := hR.2.2.2.2.2.2.1
  unfold SN
  simp only [c, s1, fun p => a 42 p (by decide) (by decide), fun p => a 43 p (by decide) (by decide), fun p => a 44 p (by decide) (by decide), fun p => a 45 p (by decide) (by decide)]
  refine ⟨fun p hp => by have := q1 p hp; omega, q2, fun p q hpq hq => ?_, fun q hq z => ?_⟩
  · rw [if_neg (show ¬ p = (K 39 2 - 1).toNat by omega)]
    exact q3 p q hpq hq
  · have hq' := hpar q hq
    rw [if_neg (show ¬ (K 45 q).toNat = (K 39 2 - 1).toNat by omega)]
    exact q4 q hq z
theorem CH.opn (h : CH K) (hR : RI K) (hC : CI K) (hO : OE K K') : CH K' := by
  obtain ⟨h1, h2⟩ := h
  obtain ⟨c, a, a46, ⟨-, -, s2, s3, -, -⟩, hs⟩ := hO
  have hc := hR.2.2.2.1
  have hpos : 0 < K 39 2 := hs.elim hR.2.2.2.2.2.2.2.2.2.2.1 hR.2.2.2.2.2.2.2.2.2.2.2.1
  have hpar := hR.2.2.2.2.2.2.1
  have e45 : K' 45 = K 45 := funext (fun p => a 45 p (by decide) (by decide))
  have h0 : ncI (K 45) (((K 39 2 - 1).toNat : Nat) : Int) (K 39 2).toNat = 0 := ncI_zero (fun q hq => by have := hpar q (by omega); omega)
  have hk : (K 51 2 = 2 ∧ K 41 (K 39 2 - 1).toNat = 3) ∨ (K 51 2 = 3 ∧ K 41 (K 39 2 - 1).toNat = 0) := hs.imp (fun z => ⟨z, (hC.2.2.1 z).1⟩) (fun z => ⟨z, (hC.2.2.2.1 z).1⟩)
  unfold CH
  simp only [c, e45, s2, s3, a46, fun p => a 41 p (by decide) (by decide)]
  refine ⟨fun p hp => ?_, fun z => ?_⟩
  · have q := h1 p hp
    by_cases e1 : p = (K 39 2 - 1).toNat
    · subst e1
      rw [h0] at q ⊢
      rcases hk with ⟨k1, k2⟩ | ⟨k1, k2⟩
      · rw [if_neg (fun z => by omega), k2, if_neg (by decide)]
        rw [k2] at q
        refine Or.inr (Or.inr ⟨rfl, ?_, Or.inr ⟨rfl, Or.inr ⟨by decide, by omega⟩⟩⟩)
        omega
      · rw [if_pos ⟨k2, rfl⟩, k2]
        exact Or.inl ⟨rfl, Or.inr ⟨by decide, rfl⟩⟩
    · rw [if_neg (fun z => e1 z.2)]
      have hne : ¬ (p : Int) = K 39 2 - 1 := by omega
      rcases q with q | q | ⟨q1, q2, q3⟩
      · exact Or.inl q
      · exact Or.inr (Or.inl q)
      · refine Or.inr (Or.inr ⟨q1, q2, Or.inl ⟨?_, fun z => hne z.2⟩⟩)
        omega
  · refine ⟨by omega, ?_⟩
    by_cases y : K 41 (K 39 2 - 1).toNat = 0
    · exact y
    · rw [if_neg y] at z
      cases z
theorem DP.opn {D : Nat → Int} (h : DP K D) (hR : RI K) (hC : CI K) (hO : OE K K') : DP K' D := by
  obtain ⟨h1, h2, h3⟩ := h
  obtain ⟨c, a, -, ⟨-, -, s2, s3, s4, -⟩, hs⟩ := hO
  have hc := hR.2.2.2.1
  have hpos : 0 < K 39 2 := hs.elim hR.2.2.2.2.2.2.2.2.2.2.1 hR.2.2.2.2.2.2.2.2.2.2.2.1
  have hpo : K 45 (K 39 2 - 1).toNat = K 51 3 := hs.elim (fun z => (hC.2.2.1 z).2) (fun z => (hC.2.2.2.1 z).2.2)
  unfold DP
  simp only [c, s3, s4, fun p => a 45 p (by decide) (by decide)]
  refine ⟨h1, fun z => by omega, fun _ => ?_⟩
  obtain ⟨q1, q2, q3, q4⟩ := h1 (K 39 2 - 1).toNat (by omega)
  rw [hpo] at q3 q4
  by_cases z : K 51 3 = -1
  · rw [q3 z, h2 z]
  · rw [q4 z, h3 z]
/-! closings -/
/-- the effect of a closing -/
def CE (K K' : IF) : Prop :=
  K' 39 2 = K 39 2 ∧ (∀ a k : Nat, a ≠ 51 → a ≠ 44 → a ≠ 47 → K' a k = K a k) ∧ (∀ p : Nat, K' 44 p = if p = (K 51 3).toNat then K 51 1 + 1 else K 44 p) ∧ (∀ p : Nat, K' 47 p = if p = (K 51 3).toNat then K 39 2 - K 51 3 else K 47 p) ∧
  (K' 51 0 = K 51 0 ∧ K' 51 1 = K 51 1 + 1 ∧ K' 51 2 = 4 ∧ K' 51 3 = K 45 (K 51 3).toNat ∧ K' 51 4 = K 51 4 - 1 ∧ K' 51 5 = K 51 5) ∧ K 51 3 ≠ -1
theorem TI.clo (h : TI K E) (hR : RI K) (hO : CE K K') : TI K' (fun p => if p = (K 51 3).toNat then K 39 2 else E p) := by
  obtain ⟨h1, h2, h3, h4, h5, h6, h7⟩ := h
  obtain ⟨c, a, -, a47, ⟨-, -, s2, s3, -, -⟩, ho1⟩ := hO
  have hc := hR.2.2.2.1
  have ho : -1 ≤ K 51 3 ∧ K 51 3 < K 39 2 := hR.2.2.2.2.1
  have hpar := hR.2.2.2.2.2.2.1
  have hE := h3 ho1
  have hpo := hpar (K 51 3).toNat (by omega)
  unfold TI
  simp only [c, a47, s2, s3, fun p => a 45 p (by decide) (by decide) (by decide)]
  refine ⟨fun p hp => ?_, fun p hp => ?_, fun z => ?_, fun q hq z => ?_, fun p q hpq hq => ?_, h6, fun z y => by omega⟩
  · by_cases e1 : p = (K 51 3).toNat
    · rw [if_pos e1, if_pos e1]
      exact ⟨Or.inr ⟨by omega, Int.le_refl _⟩, by omega⟩
    · rw [if_neg e1, if_neg e1]
      exact h1 p hp
  · by_cases e1 : p = (K 51 3).toNat
    · rw [if_pos e1]
      intro z
      omega
    · rw [if_neg e1]
      intro z
      have hle := h2 p hp z
      have := h5 p (K 51 3).toNat (by omega) (by omega) (by omega)
      exact this
  · rw [if_neg (by omega)]
    have := h4 (K 51 3).toNat (by omega) z
    rw [hE] at this
    have := (h1 (K 45 (K 51 3).toNat).toNat (by omega)).1
    omega
  · have hq' := hpar q hq
    have hqE := h4 q hq z
    by_cases e1 : q = (K 51 3).toNat
    · subst e1
      rw [if_pos rfl, if_neg (by omega)]
      omega
    · rw [if_neg e1]
      by_cases e2 : (K 45 q).toNat = (K 51 3).toNat
      · rw [if_pos e2]
        rcases (h1 q hq).1 with y | y
        · have := h2 q hq y
          omega
        · exact y.2
      · rw [if_neg e2]
        exact hqE
  · by_cases e1 : p = (K 51 3).toNat
    · rw [if_pos e1]
      intro _
      exact h5 p q hpq hq (by rw [e1, hE]; omega)
    · rw [if_neg e1]
      exact h5 p q hpq hq
theorem SN.clo (h : SN K E) (hR : RI K) (hT : TI K E) (hO : CE K K') : SN K' (fun p => if p = (K 51 3).toNat then K 39 2 else E p) := by
  obtain ⟨q1, q2, q3, q4⟩ := h
  obtain ⟨c, a, a44, -, ⟨-, s1, s2, s3, -, -⟩, ho1⟩ := hO
  have hc := hR.2.2.2.1
  have ho : -1 ≤ K 51 3 ∧ K 51 3 < K 39 2 := hR.2.2.2.2.1
  have hpar := hR.2.2.2.2.2.2.1
  have hE := hT.2.2.1 ho1
  have h4 := hT.2.2.2.1
  have hb : ∀ p : Nat, (p : Int) < K 39 2 → K 44 p ≤ K 51 1 := fun p hp => (q1 p hp).2.2.2
  unfold SN
  simp only [c, a44, s1, fun p => a 42 p (by decide) (by decide) (by decide), fun p => a 43 p (by decide) (by decide) (by decide), fun p => a 45 p (by decide) (by decide) (by decide)]
  refine ⟨fun p hp => ?_, q2, fun p q hpq hq => ?_, fun q hq z => ?_⟩
  · have := q1 p hp
    split <;> omega
  · by_cases e1 : p = (K 51 3).toNat
    · rw [if_pos e1]
      intro y
      omega
    · rw [if_neg e1, if_neg e1]
      exact q3 p q hpq hq
  · have hq' := hpar q hq
    have hbq := hb q hq
    by_cases e2 : (K 45 q).toNat = (K 51 3).toNat
    · rw [if_pos e2, if_pos e2, if_neg (by omega)]
      omega
    · rw [if_neg e2, if_neg e2]
      by_cases e1 : q = (K 51 3).toNat
      · intro y
        have := h4 q hq z
        rw [e1] at this y
        rw [hE] at this
        have := (hT.1 (K 45 (K 51 3).toNat).toNat (by rw [← e1]; omega)).1
        omega
      · rw [if_neg e1]
        exact q4 q hq z
theorem CH.clo (h : CH K) (hR : RI K) (hO : CE K K') (hs : K 51 2 = 1 ∨ 3 ≤ K 51 2) : CH K' := by
  obtain ⟨h1, h2⟩ := h
  obtain ⟨c, a, -, -, ⟨-, -, s2, s3, -, -⟩, ho1⟩ := hO
  have e45 : K' 45 = K 45 := funext (fun p => a 45 p (by decide) (by decide) (by decide))
  have ho : -1 ≤ K 51 3 ∧ K 51 3 < K 39 2 := hR.2.2.2.2.1
  unfold CH
  simp only [c, e45, s2, s3, fun p => a 41 p (by decide) (by decide) (by decide), fun p => a 46 p (by decide) (by decide) (by decide)]
  refine ⟨fun p hp => ?_, fun z => by omega⟩
  rcases h1 p hp with q | q | ⟨q1, q2, q3⟩
  · exact Or.inl q
  · exact Or.inr (Or.inl q)
  · refine Or.inr (Or.inr ⟨q1, q2, Or.inl ⟨?_, by omega⟩⟩)
    rcases q3 with ⟨q3, -⟩ | ⟨-, ⟨q3, -⟩ | ⟨q3, q4⟩⟩
    · exact q3
    · omega
    · have := (h2 (by omega)).2
      rw [show (K 51 3).toNat = p by omega] at this
      omega
theorem DP.clo {D : Nat → Int} (h : DP K D) (hR : RI K) (hO : CE K K') : DP K' D := by
  obtain ⟨h1, h2, h3⟩ := h
  obtain ⟨c, a, -, -, ⟨-, -, s2, s3, s4, -⟩, ho1⟩ := hO
  have ho : -1 ≤ K 51 3 ∧ K 51 3 < K 39 2 := hR.2.2.2.2.1
  unfold DP
  simp only [c, s3, s4, fun p => a 45 p (by decide) (by decide) (by decide)]
  obtain ⟨q1, q2, q3, q4⟩ := h1 (K 51 3).toNat (by omega)
  have := h3 ho1
  exact ⟨h1, fun z => by rw [this, q3 z]; omega, fun z => by rw [this, q4 z]; omega⟩
end TV2
