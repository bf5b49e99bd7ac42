/-! ===== the tree that the class reads: all of it, along the reading ===== -/
section TV3
variable {K K' : IF} {E : Nat → Int} {kd e st lt c : Int}
theorem skp_blank : ∀ (n : Nat) (e : Int), 0 ≤ e → ∀ j : Nat, e ≤ j → (j : Int) < skp K n e → blankb (K 40 j) = true
  | 0, e, h0, j, h1, h2 => by
    have : (j : Int) < e := h2
    omega
  | n + 1, e, h0, j, h1, h2 => by
    unfold skp at h2
    by_cases z : e < K 39 1 ∧ blankb (K 40 e.toNat) = true
    · rw [if_pos z] at h2
      by_cases y : (j : Int) = e
      · rw [← show e.toNat = j by omega]
        exact z.2
      · exact skp_blank n (e + 1) (by omega) j (by omega) h2
    · rw [if_neg z] at h2
      omega
theorem scn_atom : ∀ (n : Nat) (e : Int), 0 ≤ e → ∀ j : Nat, e ≤ j → (j : Int) < scn K n e → atomb (K 40 j) = true
  | 0, e, h0, j, h1, h2 => by
    have : (j : Int) < e := h2
    omega
  | n + 1, e, h0, j, h1, h2 => by
    unfold scn at h2
    by_cases z : e < K 39 1 ∧ atomb (K 40 e.toNat) = true
    · rw [if_pos z] at h2
      by_cases y : (j : Int) = e
      · rw [← show e.toNat = j by omega]
        exact z.2
      · exact scn_atom n (e + 1) (by omega) j (by omega) h2
    · rw [if_neg z] at h2
      omega
/-- what holds of the tree along the reading -/
def WI (K : IF) : Prop := ∃ E D : Nat → Int, TI K E ∧ CH K ∧ DP K D ∧ SN K E ∧ LT K ∧ PT K ∧ (2 ≤ K 51 2 → 0 < K 39 2)
theorem WI.skip (h : WI K) (hR : RI K) : WI (kSkip K) := by
  obtain ⟨E, D, h1, h2, h3, h4, h5, h6, h7⟩ := h
  have ka : ∀ a k : Nat, a ≠ 51 → (kSkip K) a k = K a k := fun a k z => kSkip_o (Or.inl z)
  have k5 : ∀ k : Nat, k ≠ 1 → (kSkip K) 51 k = K 51 k := fun k z => kSkip_o (Or.inr z)
  have hge := kSkip_ge hR
  refine ⟨E, D, h1.mv (ka 39 2 (by decide)) (fun p => ⟨ka 45 p (by decide), ka 47 p (by decide)⟩) (k5 3 (by decide)) (fun _ y => by rw [k5 2 (by decide)] at y; exact y), ?_, h3.mv (ka 39 2 (by decide)) (fun p => ka 45 p (by decide)) (k5 3 (by decide)) (k5 4 (by decide)), h4.mv (ka 39 2 (by decide)) (fun p => ⟨ka 42 p (by decide), ka 43 p (by decide), ka 44 p (by decide), ka 45 p (by decide)⟩) hge.1, h5.mv (ka 39 2 (by decide)) (fun j => ka 40 j (by decide)) (fun p => ⟨ka 41 p (by decide), ka 42 p (by decide), ka 43 p (by decide), ka 48 p (by decide), ka 49 p (by decide)⟩) (fun p _ _ => ka 44 p (by decide)) (fun j hj hk => ?_), h6.mv (ka 39 2 (by decide)) (fun p => ⟨ka 41 p (by decide), ka 45 p (by decide)⟩) (k5 0 (by decide)) (k5 5 (by decide)), ?_⟩
  · have e45 : (kSkip K) 45 = K 45 := funext (fun p => ka 45 p (by decide))
    unfold CH
    simp only [e45, ka 39 2 (by decide), k5 2 (by decide), k5 3 (by decide), fun p => ka 41 p (by decide), fun p => ka 46 p (by decide)]
    exact h2
  · have := skp_blank (K := K) _ (K 51 1) hR.1.1 j hk hj
    simp only [blankb, decide_eq_true_eq] at this
    omega
  · rw [k5 2 (by decide), ka 39 2 (by decide)]
    exact h7
theorem WI.d4 {D : Nat → Int} (hR : RI K) (h : DP K D) : 0 ≤ K 51 4 := by
  have ho : -1 ≤ K 51 3 ∧ K 51 3 < K 39 2 := hR.2.2.2.2.1
  by_cases z : K 51 3 = -1
  · rw [h.2.1 z]
    decide
  · have := h.2.2 z
    have := (h.1 (K 51 3).toNat (by omega)).1
    omega
theorem WI.add (h : WI K) (hR : RI K) (hC : CI K) (hs : K 51 2 < 2) (hA : AE kd e st lt K K') (he : K 51 1 < e) (hk : (kd = 0 ∧ st = 3) ∨ ((kd = 1 ∨ kd = 2) ∧ st = 4) ∨ (kd = 3 ∧ st = 2))
    (hb : (kd = 0 ∧ lt = -1 ∧ ∀ j : Nat, K 51 1 ≤ j → (j : Int) < e → atomb (K 40 j) = true) ∨ ((kd = 1 ∨ kd = 2) ∧ (0 ≤ lt ∧ lt < 26) ∧ e = K 51 1 + 2 ∧ K 40 (K 51 1).toNat = (if kd = 1 then 63 else 42) ∧ K 40 (K 51 1 + 1).toNat = lt + 97) ∨ (kd = 3 ∧ lt = -1 ∧ e = K 51 1 + 1 ∧ K 40 (K 51 1).toNat = 64))
    (h9 : (lt = -1 ∧ ∀ l : Nat, l < 26 → K' 49 l = K 49 l) ∨ (0 ≤ lt ∧ (kKind K lt = -1 ∨ kKind K lt = kd) ∧ ∀ l : Nat, l < 26 → K' 49 l = if l = lt.toNat ∧ kKind K lt = -1 then K 39 2 else K 49 l))
    (p2 : kd = 2 → K 51 3 ≠ -1 ∧ K 41 (K 51 3).toNat = 0) (p0 : K 51 0 = 0 → kd = 0) (p3 : K 51 0 = 2 → kd ≠ 3) : WI K' := by
  obtain ⟨E, D, h1, h2, h3, h4, h5, h6, h7⟩ := h
  exact ⟨_, _, h1.add hR hA hs, h2.add hR hC hA hs hk, h3.add hR hA (WI.d4 hR h3), h4.add hR h1 hA he, h5.add hR hA hb h9, h6.add hR hA p2 p0 p3, fun _ => by rw [hA.1]; have := hR.2.2.2.1; omega⟩
theorem AE_of (hR : RI K) {X : IF} (hX : ∀ a k : Nat, a ≠ 51 → X a k = K a k) (x1 : X 51 1 = K 51 1) (x3 : X 51 3 = K 51 3) (hK : ∀ a k : Nat, a ≠ 51 → a ≠ 48 → a ≠ 49 → K' a k = (kAdd kd e X) a k) (h48 : ∀ p : Nat, K' 48 p = if p = (K 39 2).toNat then lt else K 48 p)
    (s : K' 51 0 = K 51 0 ∧ K' 51 1 = e ∧ K' 51 2 = st ∧ K' 51 3 = K 51 3 ∧ K' 51 4 = K 51 4 ∧ K' 51 5 = (if kd = 2 then K 51 5 + 1 else K 51 5)) (hst : 2 ≤ st ∧ st ≤ 4) : AE kd e st lt K K' := by
  have ho : -1 ≤ K 51 3 ∧ K 51 3 < K 39 2 := hR.2.2.2.2.1
  have q : ∀ a k : Nat, a ≠ 51 → a ≠ 48 → a ≠ 49 → K' a k = (kAdd kd e K) a k := fun a k z1 z2 z3 => (hK a k z1 z2 z3).trans (kAdd_q (K := K) (X := X) kd e hX x1 x3 ho a k z1)
  obtain ⟨k1, k2, -, -, k5, k6, -, kc⟩ := KA_of (n := (K 39 2).toNat) (K' := kAdd kd e K) ho rfl (fun a k _ _ _ => rfl) (fun p z => kAdd_p kd e (by decide) z (by decide))
  refine ⟨?_, ⟨?_, fun j => ?_⟩, ⟨fun p => ?_, fun p => ?_, fun p => ?_, fun p => ?_, fun p => ?_, fun p => ?_, fun p => ?_, h48⟩, s, hst⟩
  · rw [q 39 2 (by decide) (by decide) (by decide), kc]
  · rw [q 39 1 (by decide) (by decide) (by decide)]
    exact kAdd_o kd e (by decide) (Or.inr (by decide)) (by decide)
  · rw [q 40 j (by decide) (by decide) (by decide)]
    exact kAdd_o kd e (by decide) (Or.inl (by decide)) (by decide)
  · rw [q 41 p (by decide) (by decide) (by decide), k1]
  · rw [q 42 p (by decide) (by decide) (by decide), k2]
  · rw [q 43 p (by decide) (by decide) (by decide), kAdd_eq kd e ho 43 p (by decide)]
    simp
  · rw [q 44 p (by decide) (by decide) (by decide), kAdd_eq kd e ho 44 p (by decide)]
    simp
  · rw [q 45 p (by decide) (by decide) (by decide), k5]
  · rw [q 46 p (by decide) (by decide) (by decide), k6]
  · rw [q 47 p (by decide) (by decide) (by decide), kAdd_eq kd e ho 47 p (by decide)]
    simp
theorem WI.atom (h : WI K) (hR : RI K) (hC : CI K) (hs : K 51 2 < 2) (hp : K 51 1 < K 39 1) (ha : atomb (K 40 (K 51 1).toNat) = true) : WI (kAtom K) := by
  have hE := scn_gt (K := K) (n := (K 39 1 - (K 51 1 + 1)).toNat) (e := K 51 1 + 1) (by omega)
  have hsa := scn_atom (K := K) (K 39 1 - (K 51 1 + 1)).toNat (K 51 1 + 1) (by have := hR.1.1; omega)
  have hKA : kAtom K = kAdd 0 (scn K (K 39 1 - (K 51 1 + 1)).toNat (K 51 1 + 1)) (mset K 51 2 3) := rfl
  have ho : -1 ≤ K 51 3 ∧ K 51 3 < K 39 2 := hR.2.2.2.2.1
  generalize scn K (K 39 1 - (K 51 1 + 1)).toNat (K 51 1 + 1) = e at hE hKA hsa
  have hA : AE 0 e 3 (-1) K (kAtom K) := by
    rw [hKA]
    refine AE_of (X := mset K 51 2 3) hR (fun a k z => mset_a _ _ z) rfl rfl (fun _ _ _ _ _ => rfl) (fun p => ?_) ⟨kAtom_51 (by decide) (by decide), rfl, by rw [kAdd_51 0 e (by decide)]; rfl, kAtom_51 (by decide) (by decide), kAtom_51 (by decide) (by decide), by rw [if_neg (by decide)]; exact kAtom_51 (by decide) (by decide)⟩ (by decide)
    rw [kAtom_q ho 48 p (by decide), kAdd_eq 0 e ho 48 p (by decide)]
    simp
  refine h.add hR hC hs hA (by omega) (Or.inl ⟨rfl, rfl⟩) (Or.inl ⟨rfl, rfl, fun j h1 h2 => ?_⟩) (Or.inl ⟨rfl, fun l _ => ?_⟩) (fun z => (by cases z)) (fun _ => rfl) (fun _ => by decide)
  · by_cases z : (j : Int) = K 51 1
    · rw [← show (K 51 1).toNat = j by omega]
      exact ha
    · exact hsa j (by omega) h2
  · rw [hKA, kAtom_q ho 49 l (by decide)]
    exact kAdd_o 0 e (by decide) (Or.inl (by decide)) (by decide)
theorem WI.let (h : WI K) (hR : RI K) (hC : CI K) (hs : K 51 2 < 2) (hk : kd = 1 ∨ kd = 2) (hc : K 40 (K 51 1).toNat = (if kd = 1 then 63 else 42)) (h1 : (kLet kd K).1 = 1) (p2 : kd = 2 → kWt K = true) (p0 : K 51 0 ≠ 0) : WI (kLet kd K).2 := by
  obtain ⟨⟨e1, e1'⟩, e2, e3, e4, e5, e6, e7, e8, e9⟩ := kLet_eff h1
  have hsm : 97 ≤ K 40 (K 51 1 + 1).toNat ∧ K 40 (K 51 1 + 1).toNat ≤ 122 := by simpa only [smallb, decide_eq_true_eq] using e1'
  have hA : AE kd (K 51 1 + 2) 4 (K 40 (K 51 1 + 1).toNat - 97) K (kLet kd K).2 := AE_of (X := K) hR (fun _ _ _ => rfl) rfl rfl e3 e8 ⟨e6 0 (by decide) (by decide) (by decide), e4, e5, e6 3 (by decide) (by decide) (by decide), e6 4 (by decide) (by decide) (by decide), e7⟩ (by decide)
  refine h.add hR hC hs hA (by omega) (Or.inr (Or.inl ⟨hk, rfl⟩)) (Or.inr (Or.inl ⟨hk, by omega, rfl, hc, by omega⟩)) (Or.inr ⟨by omega, e2, fun l _ => e9 l⟩) (fun z => ?_) (fun z => absurd z p0) (fun _ => by omega)
  have := p2 z
  unfold kWt at this
  rwa [decide_eq_true_eq] at this
theorem WI.deep (h : WI K) (hR : RI K) (hC : CI K) (hs : K 51 2 < 2) (hc : K 40 (K 51 1).toNat = 64) (p0 : K 51 0 = 1) : WI (kDeep K) := by
  have ho : -1 ≤ K 51 3 ∧ K 51 3 < K 39 2 := hR.2.2.2.2.1
  have d51 : ∀ k : Nat, k = 0 ∨ k = 3 ∨ k = 4 ∨ k = 5 → (kDeep K) 51 k = K 51 k := fun k z => by
    unfold kDeep
    rw [kAdd_51 3 _ (by omega), mset_k _ _ (by omega), mset_k _ _ (by omega), mset_k _ _ (by omega)]
  have qq : ∀ a k : Nat, a ≠ 51 → (kDeep K) a k = (kAdd 3 (K 51 1 + 1) K) a k := fun a k z => by
    unfold kDeep
    exact kAdd_q (K := K) (X := mset (mset (mset K 51 6 (K 39 2)) 51 7 1) 51 2 2) 3 _ (fun a k z => by rw [mset_a _ _ z, mset_a _ _ z, mset_a _ _ z]) rfl rfl ho a k z
  have hA : AE 3 (K 51 1 + 1) 2 (-1) K (kDeep K) := by
    refine AE_of (X := K) hR (fun _ _ _ => rfl) rfl rfl (fun a k z _ _ => qq a k z) (fun p => ?_) ⟨d51 0 (by decide), rfl, by unfold kDeep; rw [kAdd_51 3 _ (by decide)]; rfl, d51 3 (by decide), d51 4 (by decide), by rw [if_neg (by decide)]; exact d51 5 (by decide)⟩ (by decide)
    rw [qq 48 p (by decide), kAdd_eq 3 _ ho 48 p (by decide)]
    simp
  refine h.add hR hC hs hA (by omega) (Or.inr (Or.inr ⟨rfl, rfl⟩)) (Or.inr (Or.inr ⟨rfl, rfl, rfl, hc⟩)) (Or.inl ⟨rfl, fun l _ => ?_⟩) (fun z => (by cases z)) (fun z => by omega) (fun z => by omega)
  rw [qq 49 l (by decide)]
  exact kAdd_o 3 _ (by decide) (Or.inl (by decide)) (by decide)
theorem OE_of (hs : K 51 2 = 2 ∨ K 51 2 = 3) (h1 : (kOpen K).1 = 1) : OE K (kOpen K).2 ∧ (∀ k : Nat, k = 0 ∨ 4 < k → (kOpen K).2 51 k = K 51 k) := by
  have hd : K 51 4 < 12 := by
    by_cases z : 12 ≤ K 51 4
    · rw [kOpen_bad z] at h1
      cases h1
    · omega
  obtain ⟨e1, e2, e3, e4, e5, e6, e7, e8⟩ := kOpen_eff hd
  exact ⟨⟨e8 39 2 (by decide) (by decide), e8, e7, ⟨e6 0 (by decide), e2, e3, e4, e5, e6 5 (by decide)⟩, hs⟩, e6⟩
theorem CI.opn (hC : CI K) (hR : RI K) (hO : OE K K') (h7 : K' 51 7 = K 51 7) (h6 : K' 51 6 = K 51 6) : CI K' := by
  obtain ⟨c, a, a46, ⟨s0, s1, s2, s3, s4, s5⟩, hs⟩ := hO
  obtain ⟨c1, c2, c3, c4, c5, c6, c7, c8⟩ := id hC
  have hcnt : 0 < K 39 2 := hs.elim hR.2.2.2.2.2.2.2.2.2.2.1 hR.2.2.2.2.2.2.2.2.2.2.2.1
  have hop : ∀ p : Nat, OP K p → OP K' p := fun p h => h.mv (a 41 p (by decide) (by decide)) (by
    rw [a46]
    split
    · next z =>
      have h46 : K 46 (K 39 2 - 1).toNat = -1 := by
        rcases hs with y | y
        · have := (c3 y).1
          omega
        · exact (c4 y).2.1
      rw [z.2, h46]
      decide
    · exact Int.le_refl _)
  unfold CI
  rw [s2, s3, h7, h6, s5, s0, c]
  refine ⟨fun _ => ?_, fun p hp' z => ?_, fun z => ?_, fun z => ?_, c5, fun p hp' z => ?_, c7, c8⟩
  · unfold OP
    rw [a46, a 41 _ (by decide) (by decide)]
    rcases hs with y | y
    · exact Or.inr (c3 y).1
    · have := (c4 y).1
      rw [if_pos ⟨this, rfl⟩]
      exact Or.inl ⟨this, Int.le_refl _⟩
  · rw [a 45 p (by decide) (by decide)] at z ⊢
    exact hop _ (c2 p hp' z)
  · split at z <;> omega
  · split at z <;> omega
  · rw [a 41 p (by decide) (by decide)] at z
    exact c6 p hp' z
theorem WI.opn (h : WI K) (hR : RI K) (hC : CI K) (hO : OE K K') (hb : K 40 (K 51 1).toNat = 40) : WI K' := by
  obtain ⟨E, D, h1, h2, h3, h4, h5, h6, h7⟩ := h
  obtain ⟨c, a, a46, ⟨s0, s1, s2, s3, s4, s5⟩, hs⟩ := id hO
  have hpos := hR.1.1
  refine ⟨_, _, h1.opn hR hC hO, h2.opn hR hC hO, h3.opn hR hC hO, h4.opn hR h1 hO, h5.mv c (fun j => a 40 j (by decide) (by decide)) (fun p => ⟨a 41 p (by decide) (by decide), a 42 p (by decide) (by decide), a 43 p (by decide) (by decide), a 48 p (by decide) (by decide), a 49 p (by decide) (by decide)⟩) (fun p _ _ => a 44 p (by decide) (by decide)) (fun j hj hk => ?_), h6.mv c (fun p => ⟨a 41 p (by decide) (by decide), a 45 p (by decide) (by decide)⟩) s0 s5, fun _ => ?_⟩
  · rw [← show (K 51 1).toNat = j by omega, hb]
    decide
  · rw [c]
    exact h7 (by omega)
theorem CE_of (ho : K 51 3 ≠ -1) : CE K (kClose K).2 := by
  obtain ⟨e1, e2, e3, e4, e5, e6, e7, e8, e9, e10⟩ := kClose_eff ho
  exact ⟨e10 39 2 (by decide) (by decide) (by decide), e10, e8, e9, ⟨e7 0 (by decide), e2, e3, e4, e5, e7 5 (by decide)⟩, ho⟩
theorem CI.clo (hC : CI K) (hR : RI K) (hO : CE K K') (h7 : K' 51 7 = 0 ∨ K' 51 7 = K 51 7) (h6 : K' 51 6 = K 51 6) : CI K' := by
  obtain ⟨c, a, -, -, ⟨s0, s1, s2, s3, s4, s5⟩, ho⟩ := hO
  obtain ⟨c1, c2, c3, c4, c5, c6, c7, c8⟩ := id hC
  have ho' : -1 ≤ K 51 3 ∧ K 51 3 < K 39 2 := hR.2.2.2.2.1
  have hop : ∀ p : Nat, OP K p → OP K' p := fun p h => h.mv (a 41 p (by decide) (by decide) (by decide)) (by rw [a 46 p (by decide) (by decide) (by decide)]; exact Int.le_refl _)
  unfold CI
  rw [s2, s3, h6, s5, s0, c]
  refine ⟨fun z => hop _ (c2 _ (by omega) z), fun p hp' z => ?_, fun z => absurd z (by decide), fun z => absurd z (by decide), ?_, fun p hp' z => ?_, c7, c8⟩
  · rw [a 45 p (by decide) (by decide) (by decide)] at z ⊢
    exact hop _ (c2 p hp' z)
  · rcases h7 with z | z
    · exact Or.inl z
    · rw [z]
      exact c5
  · rw [a 41 p (by decide) (by decide) (by decide)] at z
    exact c6 p hp' z
theorem WI.clo (h : WI K) (hR : RI K) (hC : CI K) (hO : CE K K') (hs : K 51 2 = 1 ∨ 3 ≤ K 51 2) (hb : K 40 (K 51 1).toNat = 41) : WI K' := by
  obtain ⟨E, D, h1, h2, h3, h4, h5, h6, h7⟩ := h
  obtain ⟨c, a, a44, a47, ⟨s0, s1, s2, s3, s4, s5⟩, ho⟩ := id hO
  have hpos := hR.1.1
  have ho' : -1 ≤ K 51 3 ∧ K 51 3 < K 39 2 := hR.2.2.2.2.1
  have hop := hC.1 ho
  refine ⟨_, _, h1.clo hR hO, h2.clo hR hO hs, h3.clo hR hO, h4.clo hR h1 hO, h5.mv c (fun j => a 40 j (by decide) (by decide) (by decide)) (fun p => ⟨a 41 p (by decide) (by decide) (by decide), a 42 p (by decide) (by decide) (by decide), a 43 p (by decide) (by decide) (by decide), a 48 p (by decide) (by decide) (by decide), a 49 p (by decide) (by decide) (by decide)⟩) (fun p _ z => ?_) (fun j hj hk => ?_), h6.mv c (fun p => ⟨a 41 p (by decide) (by decide) (by decide), a 45 p (by decide) (by decide) (by decide)⟩) s0 s5, fun _ => by rw [c]; omega⟩
  · rw [a44, if_neg]
    intro y
    rw [← y] at hop
    unfold OP at hop
    omega
  · rw [← show (K 51 1).toNat = j by omega, hb]
    decide
theorem WI.comma (h : WI K) (hR : RI K) (hw : kWt K = true) (hs : 3 ≤ K 51 2) (hb : K 40 (K 51 1).toNat = 44) : WI (mset (mset K 51 1 (K 51 1 + 1)) 51 2 0) := by
  obtain ⟨E, D, h1, h2, h3, h4, h5, h6, h7⟩ := h
  have hpos := hR.1.1
  unfold kWt at hw
  rw [decide_eq_true_eq] at hw
  have ho' : -1 ≤ K 51 3 ∧ K 51 3 < K 39 2 := hR.2.2.2.2.1
  refine ⟨E, D, h1.mv rfl (fun _ => ⟨rfl, rfl⟩) rfl (fun z _ => absurd z hw.1), ?_, h3.mv rfl (fun _ => rfl) rfl rfl, h4.mv rfl (fun _ => ⟨rfl, rfl, rfl, rfl⟩) (by show K 51 1 ≤ K 51 1 + 1; omega), h5.mv rfl (fun _ => rfl) (fun _ => ⟨rfl, rfl, rfl, rfl, rfl⟩) (fun _ _ _ => rfl) (fun j hj hk => ?_), h6.mv rfl (fun _ => ⟨rfl, rfl⟩) rfl rfl, fun z => absurd (show (2 : Int) ≤ 0 from z) (by decide)⟩
  · refine ⟨fun p hp => ?_, fun z => absurd (show (0 : Int) = 1 from z) (by decide)⟩
    have q := h2.1 p hp
    rcases q with q | q | ⟨q1, q2, q3⟩
    · exact Or.inl q
    · exact Or.inr (Or.inl q)
    · refine Or.inr (Or.inr ⟨q1, q2, Or.inl ⟨?_, fun z => ?_⟩⟩)
      · show ncI (K 45) p (K 39 2).toNat = 1
        omega
      · have hz : (p : Int) = K 51 3 := z.2
        have := hw.2
        rw [show (K 51 3).toNat = p by omega] at this
        omega
  · have hj' : (j : Int) < K 51 1 + 1 := hj
    rw [← show (K 51 1).toNat = j by omega, hb]
    decide
end TV3
