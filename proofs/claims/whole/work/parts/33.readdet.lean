/-! ===== reading is a matter of the bytes alone ===== -/
/-- the same where it counts -/
def Eqv (K K' : IF) : Prop := K 39 1 = K' 39 1 ∧ K 39 2 = K' 39 2 ∧ (∀ k : Nat, k < 8 → K 51 k = K' 51 k) ∧ (∀ j : Nat, (j : Int) < K 39 1 → K 40 j = K' 40 j) ∧ (∀ a p : Nat, 41 ≤ a → a ≤ 48 → (p : Int) < K 39 2 → K a p = K' a p) ∧ (∀ l : Nat, l < 26 → K 49 l = K' 49 l)
section RE
variable {K K' X X' : IF} {kd e st lt c : Int}
theorem skp_eqv (h : Eqv K K') : ∀ (n : Nat) (e : Int), 0 ≤ e → skp K n e = skp K' n e
  | 0, e, _ => rfl
  | n + 1, e, h0 => by
    unfold skp
    rw [skp_eqv h n (e + 1) (by omega), ← h.1]
    by_cases c : e < K 39 1
    · rw [h.2.2.2.1 e.toNat (by omega)]
    · rw [if_neg (fun z => c z.1), if_neg (fun z => c z.1)]
theorem scn_eqv (h : Eqv K K') : ∀ (n : Nat) (e : Int), 0 ≤ e → scn K n e = scn K' n e
  | 0, e, _ => rfl
  | n + 1, e, h0 => by
    unfold scn
    rw [scn_eqv h n (e + 1) (by omega), ← h.1]
    by_cases c : e < K 39 1
    · rw [h.2.2.2.1 e.toNat (by omega)]
    · rw [if_neg (fun z => c z.1), if_neg (fun z => c z.1)]
theorem Eqv.skip (h : Eqv K K') (hR : RI K) : Eqv (kSkip K) (kSkip K') := by
  have ka : ∀ a k : Nat, a ≠ 51 ∨ k ≠ 1 → (kSkip K) a k = K a k := fun a k z => kSkip_o z
  have kb : ∀ a k : Nat, a ≠ 51 ∨ k ≠ 1 → (kSkip K') a k = K' a k := fun a k z => kSkip_o z
  have e1 : (kSkip K) 51 1 = (kSkip K') 51 1 := by
    rw [kSkip_pos, kSkip_pos, ← h.1, ← h.2.2.1 1 (by decide)]
    exact skp_eqv h _ _ hR.1.1
  obtain ⟨h1, h2, h3, h4, h5, h6⟩ := h
  refine ⟨by rw [ka 39 1 (by decide), kb 39 1 (by decide)]; exact h1, by rw [ka 39 2 (by decide), kb 39 2 (by decide)]; exact h2, fun k hk => ?_, fun j hj => ?_, fun a p ha hb hp => ?_, fun l hl => ?_⟩
  · by_cases z : k = 1
    · rw [z]; exact e1
    · rw [ka 51 k (Or.inr z), kb 51 k (Or.inr z)]; exact h3 k hk
  · rw [ka 39 1 (by decide)] at hj
    rw [ka 40 j (by omega), kb 40 j (by omega)]; exact h4 j hj
  · rw [ka 39 2 (by decide)] at hp
    rw [ka a p (by omega), kb a p (by omega)]; exact h5 a p ha hb hp
  · rw [ka 49 l (by omega), kb 49 l (by omega)]; exact h6 l hl
theorem Eqv.add (h : Eqv K K') (hR : RI K) (hA : AE kd e st lt K X) (hA' : AE kd e st lt K' X') (h6 : X 51 6 = X' 51 6) (h7 : X 51 7 = X' 51 7) (h9 : ∀ l : Nat, l < 26 → X 49 l = X' 49 l) : Eqv X X' := by
  obtain ⟨q1, q2, q3, q4, q5, q6⟩ := h
  obtain ⟨c, ⟨l1, l2⟩, ⟨a41, a42, a43, a44, a45, a46, a47, a48⟩, ⟨s0, s1, s2, s3, s4, s5⟩, -⟩ := hA
  obtain ⟨c', ⟨l1', l2'⟩, ⟨b41, b42, b43, b44, b45, b46, b47, b48⟩, ⟨t0, t1, t2, t3, t4, t5⟩, -⟩ := hA'
  have hc := hR.2.2.2.1
  have ho : -1 ≤ K 51 3 ∧ K 51 3 < K 39 2 := hR.2.2.2.2.1
  have o3 := q3 3 (by decide)
  have o1 := q3 1 (by decide)
  refine ⟨by rw [l1, l1']; exact q1, by rw [c, c', q2], fun k hk => ?_, fun j hj => ?_, fun a p ha hb hp => ?_, h9⟩
  · rcases (show k = 0 ∨ k = 1 ∨ k = 2 ∨ k = 3 ∨ k = 4 ∨ k = 5 ∨ k = 6 ∨ k = 7 by omega) with rfl | rfl | rfl | rfl | rfl | rfl | rfl | rfl
    · rw [s0, t0]; exact q3 0 (by decide)
    · rw [s1, t1]
    · rw [s2, t2]
    · rw [s3, t3]; exact o3
    · rw [s4, t4]; exact q3 4 (by decide)
    · rw [s5, t5, q3 5 (by decide)]
    · exact h6
    · exact h7
  · rw [l1] at hj
    rw [l2, l2']; exact q4 j hj
  · rw [c] at hp
    have old : ∀ b : Nat, 41 ≤ b → b ≤ 48 → ¬ p = (K 39 2).toNat → K b p = K' b p := fun b z1 z2 z3 => q5 b p z1 z2 (by omega)
    rcases (show a = 41 ∨ a = 42 ∨ a = 43 ∨ a = 44 ∨ a = 45 ∨ a = 46 ∨ a = 47 ∨ a = 48 by omega) with rfl | rfl | rfl | rfl | rfl | rfl | rfl | rfl
    · rw [a41, b41, ← q2]; split; rfl; exact old _ (by decide) (by decide) (by assumption)
    · rw [a42, b42, ← q2]; split; exact o1; exact old _ (by decide) (by decide) (by assumption)
    · rw [a43, b43, ← q2]; split; rfl; exact old _ (by decide) (by decide) (by assumption)
    · rw [a44, b44, ← q2]; split; rfl; exact old _ (by decide) (by decide) (by assumption)
    · rw [a45, b45, ← q2]; split; exact o3; exact old _ (by decide) (by decide) (by assumption)
    · rw [a46, b46, ← q2, ← o3]
      by_cases z : p = (K 39 2).toNat
      · rw [if_pos z, if_pos z]
      · rw [if_neg z, if_neg z, ← old 46 (by decide) (by decide) z]
        by_cases y : K 51 3 = -1
        · rw [if_neg (fun w => w.1.1 y), if_neg (fun w => w.1.1 y)]
        · rw [← q5 41 (K 51 3).toNat (by decide) (by decide) (by omega)]
    · rw [a47, b47, ← q2]; split; rfl; exact old _ (by decide) (by decide) (by assumption)
    · rw [a48, b48, ← q2]; split; rfl; exact old _ (by decide) (by decide) (by assumption)
theorem kKind_eqv (h : Eqv K K') (hR : RI K) {l : Int} (h0 : 0 ≤ l) (h1 : l < 26) : kKind K l = kKind K' l := by
  have h9 := hR.2.2.2.2.2.2.2.2.1 l.toNat (by omega)
  unfold kKind
  rw [← h.2.2.2.2.2 l.toNat (by omega)]
  by_cases z : K 49 l.toNat = -1
  · rw [if_pos z, if_pos z]
  · rw [if_neg z, if_neg z]
    exact h.2.2.2.2.1 41 _ (by decide) (by decide) (by omega)
/-- two steps go alike -/
def Go2 (x y : Int × IF) : Prop := x.1 = y.1 ∧ x.2 51 1 = y.2 51 1 ∧ (x.1 = 1 → Eqv x.2 y.2)
theorem Go2.let (h : Eqv K K') (hR : RI K) (hR' : RI K') (hp : K 51 1 < K 39 1) : Go2 (kLet kd K) (kLet kd K') := by
  have o1 := h.2.2.1 1 (by decide)
  have hp0 := hR.1.1
  by_cases c1 : K 39 1 ≤ K 51 1 + 1 ∨ smallb (K 40 (K 51 1 + 1).toNat) = false
  · have c1' : K' 39 1 ≤ K' 51 1 + 1 ∨ smallb (K' 40 (K' 51 1 + 1).toNat) = false := by
      rw [← h.1, ← o1]
      by_cases z : K 39 1 ≤ K 51 1 + 1
      · exact Or.inl z
      · exact Or.inr (by rw [← h.2.2.2.1 _ (by omega)]; exact c1.resolve_left z)
    unfold kLet
    rw [if_pos c1, if_pos c1']
    refine ⟨rfl, ?_, fun z => absurd (show (0 : Int) = 1 from z) (by decide)⟩
    show K 51 1 + 1 = K' 51 1 + 1
    rw [o1]
  · have hlt : K 51 1 + 1 < K 39 1 := by omega
    have eb : K 40 (K 51 1 + 1).toNat = K' 40 (K' 51 1 + 1).toNat := by rw [← o1]; exact h.2.2.2.1 _ (by omega)
    have c1' : ¬ (K' 39 1 ≤ K' 51 1 + 1 ∨ smallb (K' 40 (K' 51 1 + 1).toNat) = false) := by rw [← h.1, ← eb, ← o1]; exact c1
    have hsm : smallb (K 40 (K 51 1 + 1).toNat) = true := by
      cases hq : smallb (K 40 (K 51 1 + 1).toNat)
      · exact absurd (Or.inr hq) c1
      · rfl
    simp only [smallb, decide_eq_true_eq] at hsm
    have ek := kKind_eqv h hR (l := K 40 (K 51 1 + 1).toNat - 97) (by omega) (by omega)
    by_cases c2 : kKind K (K 40 (K 51 1 + 1).toNat - 97) ≠ -1 ∧ kKind K (K 40 (K 51 1 + 1).toNat - 97) ≠ kd
    · have c2' : kKind K' (K' 40 (K' 51 1 + 1).toNat - 97) ≠ -1 ∧ kKind K' (K' 40 (K' 51 1 + 1).toNat - 97) ≠ kd := by rw [← eb, ← ek]; exact c2
      unfold kLet
      rw [if_neg c1, if_neg c1', if_pos c2, if_pos c2']
      exact ⟨rfl, o1, fun z => absurd (show (0 : Int) = 1 from z) (by decide)⟩
    · have c2' : ¬ (kKind K' (K' 40 (K' 51 1 + 1).toNat - 97) ≠ -1 ∧ kKind K' (K' 40 (K' 51 1 + 1).toNat - 97) ≠ kd) := by rw [← eb, ← ek]; exact c2
      have w1 : (kLet kd K).1 = 1 := by unfold kLet; rw [if_neg c1, if_neg c2]
      have w2 : (kLet kd K').1 = 1 := by unfold kLet; rw [if_neg c1', if_neg c2']
      have A1 := AE_let hR w1
      have A2 := AE_let hR' w2
      rw [← eb, ← o1] at A2
      obtain ⟨-, -, -, e4, -, e6, -, -, e9⟩ := kLet_eff w1
      obtain ⟨-, -, -, f4, -, f6, -, -, f9⟩ := kLet_eff w2
      refine ⟨w1.trans w2.symm, by rw [e4, f4, o1], fun _ => h.add hR A1 A2 ?_ ?_ (fun l hl => ?_)⟩
      · rw [e6 6 (by decide) (by decide) (by decide), f6 6 (by decide) (by decide) (by decide)]; exact h.2.2.1 6 (by decide)
      · rw [e6 7 (by decide) (by decide) (by decide), f6 7 (by decide) (by decide) (by decide)]; exact h.2.2.1 7 (by decide)
      · rw [e9, f9, ← eb, ← ek, ← h.2.1, h.2.2.2.2.2 l hl]
theorem kWt_eqv (h : Eqv K K') (hR : RI K) : kWt K = kWt K' := by
  have ho : -1 ≤ K 51 3 ∧ K 51 3 < K 39 2 := hR.2.2.2.2.1
  unfold kWt
  rw [← h.2.2.1 3 (by decide)]
  by_cases z : K 51 3 = -1
  · rw [decide_eq_false (fun w => w.1 z), decide_eq_false (fun w => w.1 z)]
  · rw [← h.2.2.2.2.1 41 _ (by decide) (by decide) (by omega)]
theorem Go2.z (h : Eqv K K') : Go2 (0, K) (0, K') := ⟨rfl, h.2.2.1 1 (by decide), fun z => absurd (show (0 : Int) = 1 from z) (by decide)⟩
theorem Go2.piece (h : Eqv K K') (hR : RI K) (hR' : RI K') (hp : K 51 1 < K 39 1) : Go2 (kPiece c K) (kPiece c K') := by
  have o : ∀ k : Nat, k < 8 → K 51 k = K' 51 k := h.2.2.1
  have er : kRow K = kRow K' := by
    unfold kRow
    rw [kWt_eqv h hR, o 0 (by decide), o 5 (by decide), o 7 (by decide)]
  unfold kPiece
  rw [← o 0 (by decide), ← o 6 (by decide), ← er]
  by_cases z1 : atomb c = true
  · rw [if_pos z1, if_pos z1]
    have A1 := AE_atom hR
    have A2 := AE_atom hR'
    rw [← scn_eqv h _ _ (by have := hR'.1.1; omega), ← h.1, ← o 1 (by decide)] at A2
    refine ⟨rfl, A1.2.2.2.1.2.1.trans A2.2.2.2.1.2.1.symm, fun _ => h.add hR A1 A2 ?_ ?_ (fun l hl => ?_)⟩
    · exact (kAtom_5 (K := K) (k := 6) (by decide) (by decide)).trans ((o 6 (by decide)).trans (kAtom_5 (K := K') (k := 6) (by decide) (by decide)).symm)
    · exact (kAtom_5 (K := K) (k := 7) (by decide) (by decide)).trans ((o 7 (by decide)).trans (kAtom_5 (K := K') (k := 7) (by decide) (by decide)).symm)
    · exact (kAtom_49 hR l).trans ((h.2.2.2.2.2 l hl).trans (kAtom_49 hR' l).symm)
  · rw [if_neg z1, if_neg z1]
    by_cases z2 : c = 63
    · rw [if_pos z2, if_pos z2]
      by_cases y : K 51 0 ≠ 0
      · rw [if_pos y, if_pos y]; exact Go2.let h hR hR' hp
      · rw [if_neg y, if_neg y]; exact Go2.z h
    · rw [if_neg z2, if_neg z2]
      by_cases z3 : c = 42
      · rw [if_pos z3, if_pos z3]
        by_cases y : kRow K = true
        · rw [if_pos y, if_pos y]; exact Go2.let h hR hR' hp
        · rw [if_neg y, if_neg y]; exact Go2.z h
      · rw [if_neg z3, if_neg z3]
        by_cases z4 : c = 64
        · rw [if_pos z4, if_pos z4]
          by_cases y : K 51 0 = 1 ∧ K 51 6 = -1
          · rw [if_pos y, if_pos y]
            obtain ⟨A1, x1, x2, x3⟩ := AE_deep hR
            obtain ⟨A2, w1, w2, w3⟩ := AE_deep hR'
            rw [← o 1 (by decide)] at A2
            refine ⟨rfl, A1.2.2.2.1.2.1.trans A2.2.2.2.1.2.1.symm, fun _ => h.add hR A1 A2 ?_ ?_ (fun l hl => ?_)⟩
            · exact x2.trans (h.2.1.trans w2.symm)
            · exact x3.trans w3.symm
            · exact (x1 l).trans ((h.2.2.2.2.2 l hl).trans (w1 l).symm)
          · rw [if_neg y, if_neg y]; exact Go2.z h
        · rw [if_neg z4, if_neg z4]; exact Go2.z h
theorem Go2.close (h : Eqv K K') (hR : RI K) : Go2 (kClose K) (kClose K') := by
  have o : ∀ k : Nat, k < 8 → K 51 k = K' 51 k := h.2.2.1
  have ho : -1 ≤ K 51 3 ∧ K 51 3 < K 39 2 := hR.2.2.2.2.1
  by_cases z : K 51 3 = -1
  · have z' : K' 51 3 = -1 := by rw [← o 3 (by decide)]; exact z
    unfold kClose
    rw [if_pos z, if_pos z']
    exact Go2.z h
  · have z' : K' 51 3 ≠ -1 := by rw [← o 3 (by decide)]; exact z
    obtain ⟨e1, e2, e3, e4, e5, e6, e7, e8, e9, e10⟩ := kClose_eff z
    obtain ⟨f1, f2, f3, f4, f5, f6, f7, f8, f9, f10⟩ := kClose_eff z'
    obtain ⟨q1, q2, q3, q4, q5, q6⟩ := h
    refine ⟨e1.trans f1.symm, by rw [e2, f2, o 1 (by decide)], fun _ => ⟨?_, ?_, fun k hk => ?_, fun j hj => ?_, fun a p ha hb hp => ?_, fun l hl => ?_⟩⟩
    · rw [e10 39 1 (by decide) (by decide) (by decide), f10 39 1 (by decide) (by decide) (by decide)]; exact q1
    · rw [e10 39 2 (by decide) (by decide) (by decide), f10 39 2 (by decide) (by decide) (by decide)]; exact q2
    · rcases (show k = 0 ∨ k = 1 ∨ k = 2 ∨ k = 3 ∨ k = 4 ∨ k = 5 ∨ k = 6 ∨ k = 7 by omega) with rfl | rfl | rfl | rfl | rfl | rfl | rfl | rfl
      · rw [e7 0 (by decide), f7 0 (by decide)]; exact o 0 (by decide)
      · rw [e2, f2, o 1 (by decide)]
      · rw [e3, f3]
      · rw [e4, f4, ← o 3 (by decide)]; exact q5 45 _ (by decide) (by decide) (by omega)
      · rw [e5, f5, o 4 (by decide)]
      · rw [e7 5 (by decide), f7 5 (by decide)]; exact o 5 (by decide)
      · rw [e7 6 (by decide), f7 6 (by decide)]; exact o 6 (by decide)
      · rw [e6, f6, o 3 (by decide), o 6 (by decide), o 7 (by decide)]
    · rw [e10 39 1 (by decide) (by decide) (by decide)] at hj
      rw [e10 40 j (by decide) (by decide) (by decide), f10 40 j (by decide) (by decide) (by decide)]; exact q4 j hj
    · rw [e10 39 2 (by decide) (by decide) (by decide)] at hp
      by_cases a44 : a = 44
      · subst a44
        rw [e8, f8, o 3 (by decide), o 1 (by decide), q5 44 p (by decide) (by decide) hp]
      · by_cases a47 : a = 47
        · subst a47
          rw [e9, f9, o 3 (by decide), q2, q5 47 p (by decide) (by decide) hp]
        · rw [e10 a p (by omega) a44 a47, f10 a p (by omega) a44 a47]; exact q5 a p ha hb hp
    · rw [e10 49 l (by decide) (by decide) (by decide), f10 49 l (by decide) (by decide) (by decide)]; exact q6 l hl
theorem Go2.opn (h : Eqv K K') (hR : RI K) (hc : 0 < K 39 2) : Go2 (kOpen K) (kOpen K') := by
  have o : ∀ k : Nat, k < 8 → K 51 k = K' 51 k := h.2.2.1
  by_cases z : K 51 4 < 12
  · have z' : K' 51 4 < 12 := by rw [← o 4 (by decide)]; exact z
    obtain ⟨e1, e2, e3, e4, e5, e6, e7, e8⟩ := kOpen_eff z
    obtain ⟨f1, f2, f3, f4, f5, f6, f7, f8⟩ := kOpen_eff z'
    obtain ⟨q1, q2, q3, q4, q5, q6⟩ := h
    have hk : K 41 (K 39 2 - 1).toNat = K' 41 (K' 39 2 - 1).toNat := by rw [← q2]; exact q5 41 _ (by decide) (by decide) (by omega)
    refine ⟨e1.trans f1.symm, by rw [e2, f2, o 1 (by decide)], fun _ => ⟨?_, ?_, fun k hk => ?_, fun j hj => ?_, fun a p ha hb hp => ?_, fun l hl => ?_⟩⟩
    · rw [e8 39 1 (by decide) (by decide), f8 39 1 (by decide) (by decide)]; exact q1
    · rw [e8 39 2 (by decide) (by decide), f8 39 2 (by decide) (by decide)]; exact q2
    · rcases (show k = 0 ∨ k = 1 ∨ k = 2 ∨ k = 3 ∨ k = 4 ∨ k = 5 ∨ k = 6 ∨ k = 7 by omega) with rfl | rfl | rfl | rfl | rfl | rfl | rfl | rfl
      · rw [e6 0 (by decide), f6 0 (by decide)]; exact o 0 (by decide)
      · rw [e2, f2, o 1 (by decide)]
      · rw [e3, f3]; simp only [‹K 41 (K 39 2 - 1).toNat = K' 41 (K' 39 2 - 1).toNat›]
      · rw [e4, f4, q2]
      · rw [e5, f5, o 4 (by decide)]
      · rw [e6 5 (by decide), f6 5 (by decide)]; exact o 5 (by decide)
      · rw [e6 6 (by decide), f6 6 (by decide)]; exact o 6 (by decide)
      · rw [e6 7 (by decide), f6 7 (by decide)]; exact o 7 (by decide)
    · rw [e8 39 1 (by decide) (by decide)] at hj
      rw [e8 40 j (by decide) (by decide), f8 40 j (by decide) (by decide)]; exact q4 j hj
    · rw [e8 39 2 (by decide) (by decide)] at hp
      by_cases a46 : a = 46
      · subst a46
        rw [e7, f7, ← hk, ← q2, q5 46 p (by decide) (by decide) hp]
      · rw [e8 a p (by omega) a46, f8 a p (by omega) a46]; exact q5 a p ha hb hp
    · rw [e8 49 l (by decide) (by decide), f8 49 l (by decide) (by decide)]; exact q6 l hl
  · rw [kOpen_bad (by omega), kOpen_bad (by rw [← o 4 (by decide)]; omega)]
    exact Go2.z h
theorem Go2.behind (h : Eqv K K') (hR : RI K) : Go2 (kBehind c K) (kBehind c K') := by
  unfold kBehind
  rw [← kWt_eqv h hR]
  by_cases z : c = 41
  · rw [if_pos z, if_pos z]; exact Go2.close h hR
  · rw [if_neg z, if_neg z]
    by_cases y : c = 44 ∧ kWt K = true
    · rw [if_pos y, if_pos y]
      obtain ⟨q1, q2, q3, q4, q5, q6⟩ := h
      refine ⟨rfl, by show K 51 1 + 1 = K' 51 1 + 1; rw [q3 1 (by decide)], fun _ => ⟨q1, q2, fun k hk => ?_, q4, fun a p ha hb hp => ?_, q6⟩⟩
      · unfold mset
        rcases (show k = 2 ∨ (k ≠ 2 ∧ k = 1) ∨ (k ≠ 2 ∧ k ≠ 1) by omega) with x | x | x
        · simp [x]
        · simp [x, q3 1 (by decide)]
        · simp [x, q3 k hk]
      · show mset (mset K 51 1 (K 51 1 + 1)) 51 2 0 a p = mset (mset K' 51 1 (K' 51 1 + 1)) 51 2 0 a p
        rw [mset_a _ _ (by omega), mset_a _ _ (by omega), mset_a _ _ (by omega), mset_a _ _ (by omega)]
        exact q5 a p ha hb hp
    · rw [if_neg y, if_neg y]; exact Go2.z h
theorem Go2.tok (h : Eqv K K') (hR : RI K) (hR' : RI K') (hp : K 51 1 < K 39 1) : Go2 (kTok c K) (kTok c K') := by
  have h2 := hR.2.2.2.2.2.2.2.2.2.2.1
  have h3 := hR.2.2.2.2.2.2.2.2.2.2.2.1
  unfold kTok
  rw [← h.2.2.1 2 (by decide)]
  by_cases z0 : K 51 2 = 0
  · rw [if_pos z0, if_pos z0]; exact Go2.piece h hR hR' hp
  · rw [if_neg z0, if_neg z0]
    by_cases z1 : K 51 2 = 1
    · rw [if_pos z1, if_pos z1]
      by_cases y : c = 41
      · rw [if_pos y, if_pos y]; exact Go2.close h hR
      · rw [if_neg y, if_neg y]; exact Go2.piece h hR hR' hp
    · rw [if_neg z1, if_neg z1]
      by_cases z2 : K 51 2 = 2
      · rw [if_pos z2, if_pos z2]
        by_cases y : c = 40
        · rw [if_pos y, if_pos y]; exact Go2.opn h hR (h2 z2)
        · rw [if_neg y, if_neg y]; exact Go2.z h
      · rw [if_neg z2, if_neg z2]
        by_cases z3 : K 51 2 = 3
        · rw [if_pos z3, if_pos z3]
          by_cases y : c = 40
          · rw [if_pos y, if_pos y]; exact Go2.opn h hR (h3 z3)
          · rw [if_neg y, if_neg y]; exact Go2.behind h hR
        · rw [if_neg z3, if_neg z3]; exact Go2.behind h hR
theorem Eqv.run : ∀ (n : Nat) (K K' : IF), Eqv K K' → RI K → RI K' → (kRun n K).1 = (kRun n K').1 ∧ ((kRun n K).1 = -1 → Eqv (kRun n K).2 (kRun n K').2) := by
  intro n
  induction n with
  | zero =>
    intro K K' h hR hR'
    exact ⟨h.2.2.1 1 (by decide), fun _ => h⟩
  | succ n ih =>
    intro K K' h hR hR'
    have hs := h.skip hR
    have hge := kSkip_ge hR
    have ge2 := hR.skip.1.1
    have e1 : (kSkip K) 39 1 = K 39 1 := kSkip_o (Or.inl (by decide))
    unfold kRun
    rw [← hs.2.2.1 1 (by decide), ← h.1, ← h.2.2.1 3 (by decide), ← h.2.2.1 2 (by decide)]
    by_cases c1 : K 39 1 ≤ (kSkip K) 51 1
    · rw [if_pos c1, if_pos c1]
      exact ⟨rfl, fun _ => hs⟩
    · rw [if_neg c1, if_neg c1]
      dsimp only
      rw [← hs.2.2.2.1 ((kSkip K) 51 1).toNat (by omega)]
      obtain ⟨g1, g2, g3⟩ := Go2.tok (c := (kSkip K) 40 ((kSkip K) 51 1).toNat) hs hR.skip hR'.skip (by omega)
      rw [← g1]
      by_cases c2 : (kTok ((kSkip K) 40 ((kSkip K) 51 1).toNat) (kSkip K)).1 = 0
      · rw [if_pos c2, if_pos c2]
        refine ⟨g2, fun z => ?_⟩
        have h3 := kTok_neg ge2 c2
        dsimp only at z
        omega
      · rw [if_neg c2, if_neg c2]
        have t1 := kTok_01.resolve_left c2
        exact ih _ _ (g3 t1) (hR.skip.tok (by omega) t1).1 (hR'.skip.tok (by rw [← hs.2.2.1 1 (by decide), ← hs.1]; omega) (g1 ▸ t1)).1
theorem Eqv.start {w : Int} (hl : K 39 1 = K' 39 1) (hb : ∀ j : Nat, (j : Int) < K 39 1 → K 40 j = K' 40 j) : Eqv (kStart w K) (kStart w K') := by
  refine ⟨hl, rfl, fun k hk => ?_, hb, fun a p ha hb hp => ?_, fun l hl => ?_⟩
  · rcases (show k = 0 ∨ k = 1 ∨ k = 2 ∨ k = 3 ∨ k = 4 ∨ k = 5 ∨ k = 6 ∨ k = 7 by omega) with rfl | rfl | rfl | rfl | rfl | rfl | rfl | rfl <;> rfl
  · have : (p : Int) < 0 := hp
    omega
  · simp [kStart, hl]
end RE
