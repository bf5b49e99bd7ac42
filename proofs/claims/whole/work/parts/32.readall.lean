/-! ===== the tree that the class has read: at the end ===== -/
section RA
variable {K K' : IF} {kd e st lt c : Int}
theorem kTok_neg (h0 : 0 ≤ K 51 1) (h : (kTok c K).1 = 0) : 0 ≤ (kTok c K).2 51 1 := by
  have hL : ∀ kd : Int, (kLet kd K).1 = 0 → 0 ≤ (kLet kd K).2 51 1 := by
    intro kd h
    unfold kLet at h ⊢
    by_cases c1 : K 39 1 ≤ K 51 1 + 1 ∨ smallb (K 40 (K 51 1 + 1).toNat) = false
    · rw [if_pos c1]
      show 0 ≤ K 51 1 + 1
      omega
    · rw [if_neg c1] at h ⊢
      by_cases c2 : kKind K (K 40 (K 51 1 + 1).toNat - 97) ≠ -1 ∧ kKind K (K 40 (K 51 1 + 1).toNat - 97) ≠ kd
      · rw [if_pos c2]
        exact h0
      · rw [if_neg c2] at h
        exact absurd (show (1 : Int) = 0 from h) (by decide)
  have hC : (kClose K).1 = 0 → 0 ≤ (kClose K).2 51 1 := by
    intro h
    by_cases c1 : K 51 3 = -1
    · unfold kClose
      rw [if_pos c1]
      exact h0
    · exact absurd ((kClose_eff c1).1.symm.trans h) (by decide)
  have hO : (kOpen K).1 = 0 → 0 ≤ (kOpen K).2 51 1 := by
    intro h
    by_cases c1 : K 51 4 < 12
    · exact absurd ((kOpen_eff c1).1.symm.trans h) (by decide)
    · rw [kOpen_bad (by omega)]
      exact h0
  have hP : (kPiece c K).1 = 0 → 0 ≤ (kPiece c K).2 51 1 := by
    intro h
    unfold kPiece at h ⊢
    split at h
    · exact absurd (show (1 : Int) = 0 from h) (by decide)
    · next z =>
      rw [if_neg z]
      split at h
      · next z =>
        rw [if_pos z]
        split at h
        · next z => rw [if_pos z]; exact hL 1 h
        · next z => rw [if_neg z]; exact h0
      · next z =>
        rw [if_neg z]
        split at h
        · next z =>
          rw [if_pos z]
          split at h
          · next z => rw [if_pos z]; exact hL 2 h
          · next z => rw [if_neg z]; exact h0
        · next z =>
          rw [if_neg z]
          split at h
          · next z =>
            rw [if_pos z]
            split at h
            · exact absurd (show (1 : Int) = 0 from h) (by decide)
            · next z => rw [if_neg z]; exact h0
          · next z => rw [if_neg z]; exact h0
  have hB : (kBehind c K).1 = 0 → 0 ≤ (kBehind c K).2 51 1 := by
    intro h
    unfold kBehind at h ⊢
    split at h
    · next z => rw [if_pos z]; exact hC h
    · next z =>
      rw [if_neg z]
      split at h
      · exact absurd (show (1 : Int) = 0 from h) (by decide)
      · next z => rw [if_neg z]; exact h0
  unfold kTok at h ⊢
  split at h
  · next z => rw [if_pos z]; exact hP h
  · next z =>
    rw [if_neg z]
    split at h
    · next z =>
      rw [if_pos z]
      split at h
      · next z => rw [if_pos z]; exact hC h
      · next z => rw [if_neg z]; exact hP h
    · next z =>
      rw [if_neg z]
      split at h
      · next z =>
        rw [if_pos z]
        split at h
        · next z => rw [if_pos z]; exact hO h
        · next z => rw [if_neg z]; exact h0
      · next z =>
        rw [if_neg z]
        split at h
        · next z =>
          rw [if_pos z]
          split at h
          · next z => rw [if_pos z]; exact hO h
          · next z => rw [if_neg z]; exact hB h
        · next z => rw [if_neg z]; exact hB h
theorem AE_atom (hR : RI K) : AE 0 (scn K (K 39 1 - (K 51 1 + 1)).toNat (K 51 1 + 1)) 3 (-1) K (kAtom K) := by
  have hKA : kAtom K = kAdd 0 (scn K (K 39 1 - (K 51 1 + 1)).toNat (K 51 1 + 1)) (mset K 51 2 3) := rfl
  have ho : -1 ≤ K 51 3 ∧ K 51 3 < K 39 2 := hR.2.2.2.2.1
  generalize scn K (K 39 1 - (K 51 1 + 1)).toNat (K 51 1 + 1) = e at hKA ⊢
  rw [hKA]
  refine AE_of (X := mset K 51 2 3) hR (fun a k z => mset_a _ _ z) rfl rfl (fun _ _ _ _ _ => rfl) (fun p => ?_) ⟨kAtom_51 (by decide) (by decide), rfl, by rw [kAdd_51 0 e (by decide)]; rfl, kAtom_51 (by decide) (by decide), kAtom_51 (by decide) (by decide), by rw [if_neg (by decide)]; exact kAtom_51 (by decide) (by decide)⟩ (by decide)
  rw [kAtom_q ho 48 p (by decide), kAdd_eq 0 e ho 48 p (by decide)]
  simp
theorem kAtom_49 (hR : RI K) (l : Nat) : (kAtom K) 49 l = K 49 l := by
  have ho : -1 ≤ K 51 3 ∧ K 51 3 < K 39 2 := hR.2.2.2.2.1
  have hKA : kAtom K = kAdd 0 (scn K (K 39 1 - (K 51 1 + 1)).toNat (K 51 1 + 1)) (mset K 51 2 3) := rfl
  rw [hKA, kAtom_q ho 49 l (by decide)]
  exact kAdd_o 0 _ (by decide) (Or.inl (by decide)) (by decide)
theorem kAtom_5 {k : Nat} (h1 : k ≠ 1) (h2 : k ≠ 2) : (kAtom K) 51 k = K 51 k := kAtom_51 h1 h2
theorem AE_let (hR : RI K) (h1 : (kLet kd K).1 = 1) : AE kd (K 51 1 + 2) 4 (K 40 (K 51 1 + 1).toNat - 97) K (kLet kd K).2 := by
  obtain ⟨⟨e1, e1'⟩, e2, e3, e4, e5, e6, e7, e8, e9⟩ := kLet_eff h1
  exact AE_of (X := K) hR (fun _ _ _ => rfl) rfl rfl e3 e8 ⟨e6 0 (by decide) (by decide) (by decide), e4, e5, e6 3 (by decide) (by decide) (by decide), e6 4 (by decide) (by decide) (by decide), e7⟩ (by decide)
theorem AE_deep (hR : RI K) : AE 3 (K 51 1 + 1) 2 (-1) K (kDeep K) ∧ (∀ l : Nat, (kDeep K) 49 l = K 49 l) ∧ (kDeep K) 51 6 = K 39 2 ∧ (kDeep K) 51 7 = 1 := by
  have ho : -1 ≤ K 51 3 ∧ K 51 3 < K 39 2 := hR.2.2.2.2.1
  have d51 : ∀ k : Nat, k = 0 ∨ k = 3 ∨ k = 4 ∨ k = 5 → (kDeep K) 51 k = K 51 k := fun k z => by
    unfold kDeep
    rw [kAdd_51 3 _ (by omega), mset_k _ _ (by omega), mset_k _ _ (by omega), mset_k _ _ (by omega)]
  have qq : ∀ a k : Nat, a ≠ 51 → (kDeep K) a k = (kAdd 3 (K 51 1 + 1) K) a k := fun a k z => by
    unfold kDeep
    exact kAdd_q (K := K) (X := mset (mset (mset K 51 6 (K 39 2)) 51 7 1) 51 2 2) 3 _ (fun a k z => by rw [mset_a _ _ z, mset_a _ _ z, mset_a _ _ z]) rfl rfl ho a k z
  refine ⟨AE_of (X := K) hR (fun _ _ _ => rfl) rfl rfl (fun a k z _ _ => qq a k z) (fun p => ?_) ⟨d51 0 (by decide), rfl, by unfold kDeep; rw [kAdd_51 3 _ (by decide)]; rfl, d51 3 (by decide), d51 4 (by decide), by rw [if_neg (by decide)]; exact d51 5 (by decide)⟩ (by decide), fun l => ?_, ?_, ?_⟩
  · rw [qq 48 p (by decide), kAdd_eq 3 _ ho 48 p (by decide)]
    simp
  · rw [qq 49 l (by decide)]
    exact kAdd_o 3 _ (by decide) (Or.inl (by decide)) (by decide)
  · unfold kDeep
    rw [kAdd_51 3 _ (by decide)]
    rfl
  · unfold kDeep
    rw [kAdd_51 3 _ (by decide)]
    rfl
theorem CI_AE (hR : RI K) (hC : CI K) (hA : AE kd e st lt K K') (q7 : K' 51 7 = 0 ∨ K' 51 7 = 1) (q6 : (kd = 3 ∧ K' 51 6 = K 39 2 ∧ K 51 6 = -1) ∨ (kd ≠ 3 ∧ K' 51 6 = K 51 6)) (q2 : st = 2 → kd = 3) (q2' : st = 3 → kd = 0) (q5 : K 51 0 = 1 → K' 51 5 ≤ 2) : CI K' := by
  obtain ⟨c, -, ⟨a41, a42, a43, a44, a45, a46, -, a48⟩, ⟨s0, s1, s2, s3, s4, s5⟩, -⟩ := hA
  have hc := hR.2.2.2.1
  exact CI_add (kd := kd) (n := (K 39 2).toNat) hR rfl hC ⟨a41, a42, fun p z => by rw [a43, if_neg z], fun p z => by rw [a44, if_neg z], a45, a46, fun p z => by rw [a48, if_neg z], c⟩ s3 s0 q7 (by rcases q6 with ⟨z1, z2, z3⟩ | z; exact Or.inl ⟨z1, by rw [z2]; omega, z3⟩; exact Or.inr z) (fun z => q2 (s2.symm.trans z)) (fun z => q2' (s2.symm.trans z)) q5
theorem CI.comma (hC : CI K) : CI (mset (mset K 51 1 (K 51 1 + 1)) 51 2 0) := by
  obtain ⟨c1, c2, c3, c4, c5, c6, c7, c8⟩ := hC
  exact ⟨c1, c2, fun z => absurd (show (0 : Int) = 2 from z) (by decide), fun z => absurd (show (0 : Int) = 3 from z) (by decide), c5, c6, c7, c8⟩
/-- all that holds of the reading -/
def WA (K : IF) : Prop := RI K ∧ CI K ∧ WI K
theorem WA.piece (h : WA K) (hs : K 51 2 < 2) (hp : K 51 1 < K 39 1) (hc : K 40 (K 51 1).toNat = c) (h1 : (kPiece c K).1 = 1) : CI (kPiece c K).2 ∧ WI (kPiece c K).2 := by
  obtain ⟨hR, hC, hW⟩ := h
  have h7 := hC.2.2.2.2.1
  have h5 : K 51 0 = 1 → K 51 5 ≤ 2 := hC.2.2.2.2.2.2.1
  unfold kPiece at h1 ⊢
  split at h1
  · next z =>
    rw [if_pos z]
    show CI (kAtom K) ∧ WI (kAtom K)
    refine ⟨CI_AE hR hC (AE_atom hR) (by rw [kAtom_5 (by decide) (by decide)]; exact h7) (Or.inr ⟨by decide, kAtom_5 (by decide) (by decide)⟩) (fun y => absurd y (by decide)) (fun _ => rfl) (by rw [kAtom_5 (by decide) (by decide)]; exact h5), hW.atom hR hC hs hp (by rw [hc]; exact z)⟩
  · next z =>
    rw [if_neg z]
    split at h1
    · next y =>
      rw [if_pos y]
      split at h1
      · next x =>
        rw [if_pos x]
        obtain ⟨⟨e1, e1'⟩, e2, e3, e4, e5, e6, e7, e8, e9⟩ := kLet_eff h1
        refine ⟨CI_AE hR hC (AE_let hR h1) (by rw [e6 7 (by decide) (by decide) (by decide)]; exact h7) (Or.inr ⟨by decide, e6 6 (by decide) (by decide) (by decide)⟩) (fun y => absurd y (by decide)) (fun y => absurd y (by decide)) (by rw [e7, if_neg (by decide)]; exact h5), hW.let hR hC hs (Or.inl rfl) (by rw [hc, y]; rfl) h1 (fun z => absurd z (by decide)) x⟩
      · exact absurd (show (0 : Int) = 1 from h1) (by decide)
    · next y =>
      rw [if_neg y]
      split at h1
      · next y2 =>
        rw [if_pos y2]
        split at h1
        · next x =>
          rw [if_pos x]
          have x' := x
          unfold kRow at x'
          simp only [Bool.and_eq_true, Bool.or_eq_true, decide_eq_true_eq] at x'
          obtain ⟨⟨x1, x2⟩, x3⟩ := x'
          obtain ⟨⟨e1, e1'⟩, e2, e3, e4, e5, e6, e7, e8, e9⟩ := kLet_eff h1
          refine ⟨CI_AE hR hC (AE_let hR h1) (by rw [e6 7 (by decide) (by decide) (by decide)]; exact h7) (Or.inr ⟨by decide, e6 6 (by decide) (by decide) (by decide)⟩) (fun y => absurd y (by decide)) (fun y => absurd y (by decide)) (by rw [e7, if_pos rfl]; omega), hW.let hR hC hs (Or.inr rfl) (by rw [hc, y2]; rfl) h1 (fun _ => x2) x1⟩
        · exact absurd (show (0 : Int) = 1 from h1) (by decide)
      · next y2 =>
        rw [if_neg y2]
        split at h1
        · next y3 =>
          rw [if_pos y3]
          split at h1
          · next x =>
            rw [if_pos x]
            obtain ⟨a1, a2, a3, a4⟩ := AE_deep hR
            show CI (kDeep K) ∧ WI (kDeep K)
            refine ⟨CI_AE hR hC a1 (Or.inr a4) (Or.inl ⟨rfl, a3, x.2⟩) (fun _ => rfl) (fun y => absurd y (by decide)) (by rw [a1.2.2.2.1.2.2.2.2.2, if_neg (by decide)]; exact h5), hW.deep hR hC hs (by rw [hc, y3]) x.1⟩
          · exact absurd (show (0 : Int) = 1 from h1) (by decide)
        · exact absurd (show (0 : Int) = 1 from h1) (by decide)
theorem WA.close (h : WA K) (hs : K 51 2 = 1 ∨ 3 ≤ K 51 2) (hc : K 40 (K 51 1).toNat = 41) (h1 : (kClose K).1 = 1) : CI (kClose K).2 ∧ WI (kClose K).2 := by
  obtain ⟨hR, hC, hW⟩ := h
  have ho : K 51 3 ≠ -1 := fun z => by
    unfold kClose at h1
    rw [if_pos z] at h1
    exact absurd (show (0 : Int) = 1 from h1) (by decide)
  obtain ⟨e1, e2, e3, e4, e5, e6, e7, e8, e9, e10⟩ := kClose_eff ho
  refine ⟨hC.clo hR (CE_of ho) ?_ (e7 6 (by decide)), hW.clo hR hC (CE_of ho) hs hc⟩
  rw [e6]
  split
  · exact Or.inl rfl
  · exact Or.inr rfl
theorem WA.opn (h : WA K) (hs : K 51 2 = 2 ∨ K 51 2 = 3) (hc : K 40 (K 51 1).toNat = 40) (h1 : (kOpen K).1 = 1) : CI (kOpen K).2 ∧ WI (kOpen K).2 := by
  obtain ⟨hR, hC, hW⟩ := h
  obtain ⟨o1, o2⟩ := OE_of hs h1
  exact ⟨hC.opn hR o1 (o2 7 (by decide)) (o2 6 (by decide)), hW.opn hR hC o1 hc⟩
theorem WA.behind (h : WA K) (hs : 3 ≤ K 51 2) (hc : K 40 (K 51 1).toNat = c) (h1 : (kBehind c K).1 = 1) : CI (kBehind c K).2 ∧ WI (kBehind c K).2 := by
  unfold kBehind at h1 ⊢
  split at h1
  · next z => rw [if_pos z]; exact h.close (Or.inr hs) (by rw [hc, z]) h1
  · next z =>
    rw [if_neg z]
    split at h1
    · next y => rw [if_pos y]; exact ⟨h.2.1.comma, h.2.2.comma h.1 y.2 hs (by rw [hc, y.1])⟩
    · exact absurd (show (0 : Int) = 1 from h1) (by decide)
theorem WA.tok (h : WA K) (hp : K 51 1 < K 39 1) (hc : K 40 (K 51 1).toNat = c) (h1 : (kTok c K).1 = 1) : WA (kTok c K).2 := by
  refine ⟨(h.1.tok hp h1).1, ?_⟩
  have hst := h.1.2.1
  unfold kTok at h1 ⊢
  split at h1
  · next z => rw [if_pos z]; exact h.piece (by omega) hp hc h1
  · next z =>
    rw [if_neg z]
    split at h1
    · next z =>
      rw [if_pos z]
      split at h1
      · next y => rw [if_pos y]; exact h.close (Or.inl z) (by rw [hc, y]) h1
      · next y => rw [if_neg y]; exact h.piece (by omega) hp hc h1
    · next z =>
      rw [if_neg z]
      split at h1
      · next z =>
        rw [if_pos z]
        split at h1
        · next y => rw [if_pos y]; exact h.opn (Or.inl z) (by rw [hc, y]) h1
        · exact absurd (show (0 : Int) = 1 from h1) (by decide)
      · next z =>
        rw [if_neg z]
        split at h1
        · next z =>
          rw [if_pos z]
          split at h1
          · next y => rw [if_pos y]; exact h.opn (Or.inr z) (by rw [hc, y]) h1
          · next y => rw [if_neg y]; exact h.behind (by omega) hc h1
        · next z => rw [if_neg z]; exact h.behind (by omega) hc h1
theorem WA.run : ∀ (n : Nat) (K : IF), WA K → (kRun n K).1 = -1 → WA (kRun n K).2 ∧ (kRun n K).2 51 3 = -1 ∧ 3 ≤ (kRun n K).2 51 2 ∧ (kRun n K).2 51 1 = (kRun n K).2 39 1 := by
  intro n
  induction n with
  | zero =>
    intro K h h1
    have := h.1.1.1
    have : K 51 1 = -1 := h1
    omega
  | succ n ih =>
    intro K h h1
    have hS : WA (kSkip K) := ⟨h.1.skip, h.2.1.skip, h.2.2.skip h.1⟩
    have hsk := kSkip_ge h.1
    have e1 : (kSkip K) 39 1 = K 39 1 := kSkip_o (Or.inl (by decide))
    unfold kRun at h1 ⊢
    by_cases c1 : K 39 1 ≤ (kSkip K) 51 1
    · rw [if_pos c1] at h1 ⊢
      dsimp only at h1 ⊢
      by_cases c2 : K 51 3 = -1 ∧ 3 ≤ K 51 2
      · refine ⟨hS, ?_, ?_⟩
        · rw [kSkip_o (Or.inr (by decide))]
          exact c2.1
        · rw [kSkip_o (Or.inr (by decide))]
          exact ⟨c2.2, by rw [e1]; omega⟩
      · rw [if_neg c2] at h1
        have := h.1.1
        omega
    · rw [if_neg c1] at h1 ⊢
      dsimp only at h1 ⊢
      by_cases c2 : (kTok ((kSkip K) 40 ((kSkip K) 51 1).toNat) (kSkip K)).1 = 0
      · rw [if_pos c2] at h1
        have h3 := kTok_neg (by have := h.1.1; omega) c2
        dsimp only at h1
        omega
      · rw [if_neg c2] at h1 ⊢
        exact ih _ (hS.tok (by omega) rfl (kTok_01.resolve_left c2)) h1
theorem WA.start {w : Int} (hw : w = 0 ∨ w = 1 ∨ w = 2) (hl : 0 ≤ K 39 1 ∧ K 39 1 ≤ 240) (hb : ∀ j : Nat, (j : Int) < K 39 1 → 0 ≤ K 40 j ∧ K 40 j ≤ 255) : WA (kStart w K) := by
  have k2 : (kStart w K) 39 2 = 0 := rfl
  have k4 : (kStart w K) 51 3 = -1 := rfl
  have nop : ∀ p : Nat, ¬ (p : Int) < (kStart w K) 39 2 := fun p hp => by rw [k2] at hp; omega
  refine ⟨RI_start hl hb, ?_, fun _ => 0, fun _ => 0, ?_, ?_, ?_, ?_, ?_, ?_, ?_⟩
  · exact ⟨fun z => absurd rfl z, fun p hp => absurd hp (nop p), fun z => absurd (show (0 : Int) = 2 from z) (by decide), fun z => absurd (show (0 : Int) = 3 from z) (by decide), Or.inl rfl, fun p hp => absurd hp (nop p), fun _ => (by decide : (0 : Int) ≤ 2), hw⟩
  · exact ⟨fun p hp => absurd hp (nop p), fun p hp => absurd hp (nop p), fun z => absurd rfl z, fun p hp => absurd hp (nop p), fun p q _ hp => absurd hp (nop q), fun p hp => absurd hp (nop p), fun _ _ => rfl⟩
  · exact ⟨fun p hp => absurd hp (nop p), fun z => absurd (show (0 : Int) = 1 from z) (by decide)⟩
  · exact ⟨fun p hp => absurd hp (nop p), fun _ => rfl, fun z => absurd rfl z⟩
  · exact ⟨fun p hp => absurd hp (nop p), fun p q _ hp => absurd hp (nop q), fun p q _ hp => absurd hp (nop q), fun p hp => absurd hp (nop p)⟩
  · refine ⟨fun p hp => absurd hp (nop p), fun l hl' => Or.inl ⟨?_, fun p hp => absurd hp (nop p)⟩, fun j hj => ?_⟩
    · simp [kStart, hl']
    · have : (j : Int) < 0 := hj
      omega
  · exact ⟨rfl, fun p hp => absurd hp (nop p), fun _ p hp => absurd hp (nop p), fun _ p hp => absurd hp (nop p)⟩
  · exact fun z => absurd (show (2 : Int) ≤ 0 from z) (by decide)
theorem frR_run {a k : Nat} (hf : frR a k) (hk : a ≠ 51 ∨ k ≠ 1) : ∀ (n : Nat) (K : IF), (kRun n K).2 a k = K a k := by
  intro n
  induction n with
  | zero => intro K; rfl
  | succ n ih =>
    intro K
    unfold kRun
    by_cases c1 : K 39 1 ≤ (kSkip K) 51 1
    · rw [if_pos c1]
      exact kSkip_o hk
    · rw [if_neg c1]
      dsimp only
      by_cases c2 : (kTok ((kSkip K) 40 ((kSkip K) 51 1).toNat) (kSkip K)).1 = 0
      · rw [if_pos c2]
        exact (frR_tok hf).trans (kSkip_o hk)
      · rw [if_neg c2]
        exact (ih _).trans ((frR_tok hf).trans (kSkip_o hk))
end RA
