section RP2
variable {Γ : GX} {g : AG} {I K : IF}
/-- what readLettered has made, field by field -/
theorem kLet_eff {kd : Int} (h1 : (kLet kd K).1 = 1) : (K 51 1 + 1 < K 39 1 ∧ smallb (K 40 (K 51 1 + 1).toNat) = true) ∧ (kKind K (K 40 (K 51 1 + 1).toNat - 97) = -1 ∨ kKind K (K 40 (K 51 1 + 1).toNat - 97) = kd) ∧
    (∀ a k : Nat, a ≠ 51 → a ≠ 48 → a ≠ 49 → (kLet kd K).2 a k = (kAdd kd (K 51 1 + 2) K) a k) ∧ (kLet kd K).2 51 1 = K 51 1 + 2 ∧ (kLet kd K).2 51 2 = 4 ∧ (∀ k : Nat, k ≠ 1 → k ≠ 2 → k ≠ 5 → (kLet kd K).2 51 k = K 51 k) ∧
    ((kLet kd K).2 51 5 = if kd = 2 then K 51 5 + 1 else K 51 5) ∧
    (∀ k : Nat, (kLet kd K).2 48 k = if k = (K 39 2).toNat then K 40 (K 51 1 + 1).toNat - 97 else K 48 k) ∧
    (∀ l : Nat, (kLet kd K).2 49 l = if l = (K 40 (K 51 1 + 1).toNat - 97).toNat ∧ kKind K (K 40 (K 51 1 + 1).toNat - 97) = -1 then K 39 2 else K 49 l) := by
  unfold kLet at h1 ⊢
  by_cases c : K 39 1 ≤ K 51 1 + 1 ∨ smallb (K 40 (K 51 1 + 1).toNat) = false
  · rw [if_pos c] at h1
    cases h1
  · rw [if_neg c] at h1 ⊢
    by_cases c2 : kKind K (K 40 (K 51 1 + 1).toNat - 97) ≠ -1 ∧ kKind K (K 40 (K 51 1 + 1).toNat - 97) ≠ kd
    · rw [if_pos c2] at h1
      cases h1
    · rw [if_neg c2]
      generalize hL : K 40 (K 51 1 + 1).toNat - 97 = l at c2 ⊢
      dsimp only
      rw [show K 51 1 + 1 + 1 = K 51 1 + 2 by omega]
      have hsm : smallb (K 40 (K 51 1 + 1).toNat) = true := by
        cases hq : smallb (K 40 (K 51 1 + 1).toNat)
        · exact absurd (Or.inr hq) c
        · rfl
      generalize hK1 : kAdd kd (K 51 1 + 2) K = K1
      have f1 : ∀ k : Nat, k ≠ 1 → K1 51 k = K 51 k := fun k z => by rw [← hK1]; exact kAdd_51 kd _ z
      have f2 : K1 51 1 = K 51 1 + 2 := by rw [← hK1]; rfl
      have f3 : ∀ k : Nat, K1 49 k = K 49 k := fun k => by rw [← hK1]; exact kAdd_o kd _ (by decide) (Or.inl (by decide)) (by decide)
      have f4 : ∀ k : Nat, k ≠ (K 39 2).toNat → K1 48 k = K 48 k := fun k z => by rw [← hK1]; exact kAdd_p kd _ (by decide) z (by decide)
      refine ⟨⟨by omega, hsm⟩, by omega, fun a k z1 z2 z3 => ?_, ?_, rfl, fun k z1 z2 z3 => ?_, ?_, fun k => ?_, fun j => ?_⟩
      · rw [mset_a _ _ z1]
        by_cases d1 : kd = 2
        · rw [if_pos d1, mset_a _ _ z1]
          by_cases d2 : kKind K l = -1
          · rw [if_pos d2, mset_a _ _ z3, mset_a _ _ z2]
          · rw [if_neg d2, mset_a _ _ z2]
        · rw [if_neg d1]
          by_cases d2 : kKind K l = -1
          · rw [if_pos d2, mset_a _ _ z3, mset_a _ _ z2]
          · rw [if_neg d2, mset_a _ _ z2]
      · rw [mset_k _ _ (by decide)]
        by_cases d1 : kd = 2 <;> by_cases d2 : kKind K l = -1 <;> simp only [d1, d2, if_true, if_false] <;> exact f2
      · rw [mset_k _ _ z2]
        by_cases d1 : kd = 2 <;> by_cases d2 : kKind K l = -1 <;> simp [mset, d1, d2, z3, f1 k z1]
      · rw [mset_k _ _ (by decide)]
        by_cases d1 : kd = 2 <;> by_cases d2 : kKind K l = -1 <;> simp [mset, d1, d2, f1 5 (by decide)]
      · rw [mset_a _ _ (by decide)]
        by_cases z : k = (K 39 2).toNat
        · rw [if_pos z]
          by_cases d1 : kd = 2 <;> by_cases d2 : kKind K l = -1 <;> simp [mset, d1, d2, z]
        · rw [if_neg z, ← f4 k z]
          by_cases d1 : kd = 2 <;> by_cases d2 : kKind K l = -1 <;> simp [mset, d1, d2, z]
      · rw [mset_a _ _ (by decide)]
        by_cases d2 : kKind K l = -1
        · by_cases z : j = l.toNat
          · rw [if_pos (show j = l.toNat ∧ kKind K l = -1 from ⟨z, d2⟩)]
            by_cases d1 : kd = 2 <;> simp [mset, d1, d2, z]
          · rw [if_neg (show ¬ (j = l.toNat ∧ kKind K l = -1) from fun y => z y.1), ← f3 j]
            by_cases d1 : kd = 2 <;> simp [mset, d1, d2, z]
        · rw [if_neg (show ¬ (j = l.toNat ∧ kKind K l = -1) from fun y => d2 y.2), ← f3 j]
          by_cases d1 : kd = 2 <;> simp [mset, d1, d2]
theorem RI.let (h : RI K) (hs : K 51 2 < 2) (hp : K 51 1 < K 39 1) {kd : Int} (h1 : (kLet kd K).1 = 1) : RI (kLet kd K).2 ∧ K 51 1 + 1 ≤ (kLet kd K).2 51 1 := by
  obtain ⟨e1, e2, e3, e4, e5, e6, e7, e8, e9⟩ := kLet_eff h1
  refine ⟨h.add (kd := kd) (e := K 51 1 + 2) hs hp (by omega) (st := 4) (rw2 := if kd = 2 then K 51 5 + 1 else K 51 5) (by omega) ?_ e3 e4 e5 (e6 3 (by decide) (by decide) (by decide)) (e6 4 (by decide) (by decide) (by decide)) e7 (fun l => ?_), by rw [e4]; omega⟩
  · split
    · exact Or.inr rfl
    · exact Or.inl rfl
  · rw [e9 l]
    split
    · exact Or.inr rfl
    · exact Or.inl rfl
theorem RI.piece (h : RI K) (hs : K 51 2 < 2) (hp : K 51 1 < K 39 1) {c : Int} (h1 : (kPiece c K).1 = 1) : RI (kPiece c K).2 ∧ K 51 1 + 1 ≤ (kPiece c K).2 51 1 := by
  unfold kPiece at h1 ⊢
  split at h1
  · next z => rw [if_pos z]; exact h.atom hs hp
  · next z =>
    rw [if_neg z]
    split at h1
    · next z => 
      rw [if_pos z]
      split at h1
      · next z => rw [if_pos z]; exact h.let hs hp h1
      · cases h1
    · next z =>
      rw [if_neg z]
      split at h1
      · next z =>
        rw [if_pos z]
        split at h1
        · next z => rw [if_pos z]; exact h.let hs hp h1
        · cases h1
      · next z =>
        rw [if_neg z]
        split at h1
        · next z =>
          rw [if_pos z]
          split at h1
          · next z => rw [if_pos z]; exact h.deep hs hp
          · cases h1
        · cases h1
theorem RI.beh (h : RI K) (hs : 2 ≤ K 51 2) (hp : K 51 1 < K 39 1) {c : Int} (h1 : (kBehind c K).1 = 1) : RI (kBehind c K).2 ∧ K 51 1 + 1 ≤ (kBehind c K).2 51 1 := by
  unfold kBehind at h1 ⊢
  split at h1
  · next z => rw [if_pos z]; exact h.clo hp h1
  · next z =>
    rw [if_neg z]
    split at h1
    · next z =>
      rw [if_pos z]
      obtain ⟨g1, g2, g3, g4, g5, g6, -⟩ := id h
      rw [if_pos hs] at g6
      refine ⟨h.move rfl rfl (fun _ => rfl) (fun _ => rfl) (fun _ _ => Or.inl rfl) (fun _ => rfl) (by show K 51 1 ≤ K 51 1 + 1 ∧ K 51 1 + 1 ≤ K 39 1; omega) (by show 0 ≤ (0 : Int) ∧ (0 : Int) ≤ 4; omega) g5 (by show -(K 51 1 + 1) ≤ K 51 4 ∧ K 51 4 ≤ 12; omega) rfl (by show 2 * K 39 2 ≤ K 51 1 + 1 + (if (2 : Int) ≤ 0 then 1 else 0); rw [if_neg (by decide)]; omega) (fun z => by cases z) (fun z => by cases z), by show K 51 1 + 1 ≤ K 51 1 + 1; omega⟩
    · cases h1
theorem RI.tok (h : RI K) (hp : K 51 1 < K 39 1) {c : Int} (h1 : (kTok c K).1 = 1) : RI (kTok c K).2 ∧ K 51 1 + 1 ≤ (kTok c K).2 51 1 := by
  have hst := h.2.1
  unfold kTok at h1 ⊢
  split at h1
  · next z => rw [if_pos z]; exact h.piece (by omega) hp h1
  · next z =>
    rw [if_neg z]
    split at h1
    · next z =>
      rw [if_pos z]
      split at h1
      · next y => rw [if_pos y]; exact h.clo hp h1
      · next y => rw [if_neg y]; exact h.piece (by omega) hp h1
    · next z =>
      rw [if_neg z]
      split at h1
      · next z =>
        rw [if_pos z]
        split at h1
        · next y => rw [if_pos y]; exact h.opn hp (Or.inl z) h1
        · cases h1
      · next z =>
        rw [if_neg z]
        split at h1
        · next z =>
          rw [if_pos z]
          split at h1
          · next y => rw [if_pos y]; exact h.opn hp (Or.inr z) h1
          · next y => rw [if_neg y]; exact h.beh (by omega) hp h1
        · next z => rw [if_neg z]; exact h.beh (by omega) hp h1
/-- what the reader never writes -/
def frR (a k : Nat) : Prop := (a ≠ 51 ∧ (a ≠ 39 ∨ k ≠ 2) ∧ (a < 41 ∨ 49 < a)) ∨ (a = 51 ∧ k = 0)
theorem frR_add {kd e : Int} {a k : Nat} (h : frR a k) : kAdd kd e K a k = K a k := by
  rcases h with ⟨h1, h2, h3⟩ | ⟨h1, h2⟩
  · exact kAdd_o kd e h1 h2 (by omega)
  · subst h1; subst h2
    exact kAdd_51 kd e (by decide)
theorem frR_close {a k : Nat} (h : frR a k) : (kClose K).2 a k = K a k := by
  unfold kClose
  split
  · rfl
  · dsimp only
    rcases h with ⟨h1, h2, h3⟩ | ⟨h1, h2⟩
    · have e1 : a ≠ 44 := by omega
      have e2 : a ≠ 47 := by omega
      rw [mset_a _ _ h1, mset_a _ _ h1]
      split
      · rw [mset_a _ _ h1, mset_a _ _ e2, mset_a _ _ e1, mset_a _ _ h1, mset_a _ _ h1]
      · rw [mset_a _ _ e2, mset_a _ _ e1, mset_a _ _ h1, mset_a _ _ h1]
    · subst h1; subst h2
      rw [mset_k _ _ (by decide), mset_k _ _ (by decide)]
      split <;> rfl
theorem frR_open {a k : Nat} (h : frR a k) : (kOpen K).2 a k = K a k := by
  unfold kOpen
  split
  · rfl
  · dsimp only
    rcases h with ⟨h1, h2, h3⟩ | ⟨h1, h2⟩
    · have e1 : a ≠ 46 := by omega
      split
      · rw [mset_a _ _ h1, mset_a _ _ e1, mset_a _ _ h1, mset_a _ _ h1, mset_a _ _ h1]
      · rw [mset_a _ _ h1, mset_a _ _ h1, mset_a _ _ h1, mset_a _ _ h1]
    · subst h1; subst h2
      split <;> rfl
theorem frR_let {kd : Int} {a k : Nat} (h : frR a k) : (kLet kd K).2 a k = K a k := by
  by_cases c : (kLet kd K).1 = 1
  · obtain ⟨e1, e2, e3, e4, e5, e6, e7, e8, e9⟩ := kLet_eff c
    rcases h with ⟨h1, h2, h3⟩ | ⟨h1, h2⟩
    · rw [e3 a k h1 (by omega) (by omega)]
      exact frR_add (Or.inl ⟨h1, h2, h3⟩)
    · subst h1; subst h2
      exact e6 0 (by decide) (by decide) (by decide)
  · unfold kLet at c ⊢
    split
    · rcases h with ⟨h1, h2, h3⟩ | ⟨h1, h2⟩
      · exact mset_a _ _ h1
      · subst h1; subst h2
        rfl
    · split
      · rfl
      · next z1 z2 =>
        rw [if_neg z1, if_neg z2] at c
        exact absurd rfl c
theorem frR_tok {c : Int} {a k : Nat} (h : frR a k) : (kTok c K).2 a k = K a k := by
  have hms : ∀ (K' : IF) (j : Nat) (x : Int), j ≠ 0 → mset K' 51 j x a k = K' a k := fun K' j x hj => by
    rcases h with ⟨h1, -⟩ | ⟨h1, h2⟩
    · exact mset_a _ _ h1
    · subst h1; subst h2
      exact mset_k _ _ (Ne.symm hj)
  have hp : (kPiece c K).2 a k = K a k := by
    unfold kPiece
    split
    · unfold kAtom
      dsimp only
      rw [frR_add h, hms _ _ _ (by decide)]
    · split
      · split
        · exact frR_let h
        · rfl
      · split
        · split
          · exact frR_let h
          · rfl
        · split
          · split
            · unfold kDeep
              dsimp only
              rw [frR_add h, hms _ _ _ (by decide), hms _ _ _ (by decide), hms _ _ _ (by decide)]
            · rfl
          · rfl
  have hb : (kBehind c K).2 a k = K a k := by
    unfold kBehind
    split
    · exact frR_close h
    · split
      · show mset (mset K 51 1 (K 51 1 + 1)) 51 2 0 a k = K a k
        rw [hms _ _ _ (by decide), hms _ _ _ (by decide)]
      · rfl
  unfold kTok
  split
  · exact hp
  · split
    · split
      · exact frR_close h
      · exact hp
    · split
      · split
        · exact frR_open h
        · rfl
      · split
        · split
          · exact frR_open h
          · exact hb
        · exact hb
theorem c_skip (hg : GOc g) (h1 : 0 ≤ K 51 1) (h2 : K 51 1 ≤ K 39 1) (h3 : K 39 1 ≤ 240) : CT Γ 1 mX4_skipBlanks [.inr (some 51), .inr (some 39)] (g, K) (none, (g, kSkip K)) :=
  CT.of (R := (none, (g, kSkip K))) oX4_skipBlanks (Nat.le_of_ble_eq_true rfl) (Nat.le_refl _) (Nat.le_refl _) (c_skipBlanks hg _ K h1 h2 h3 rfl)
theorem c_readTree_8 (hg : GOc g) : ∀ (n : Nat) (K : IF) (x : Int), RI K → 0 ≤ x → x ≤ K 51 1 → n = (K 39 1 - x + 1).toNat →
    Ev Γ 4 mX4_readTree 8 [some (.inr (some 51)), some (.inr (some 39)), none, some (.inl x)] [] (g, K) (some (.inl (kRun n K).1), (g, (kRun n K).2)) := by
  intro n
  induction n with
  | zero =>
    intro K x h h0 h1 hn
    have := h.1
    omega
  | succ n ih =>
    intro K x h h0 h1 hn
    have hb := h.1
    have hsk := kSkip_ge h
    have hRS := h.skip
    have e1 : (kSkip K) 39 1 = K 39 1 := kSkip_o (Or.inl (by decide))
    refine v_X4_readTree_8 hg 39 tr39 x ⟨fun c => absurd c (by omega), fun c => ⟨_, c_skip hg hb.1 hb.2.1 hb.2.2, fun c2 => ⟨by omega, _, _, c_readToken hg _ hRS c2, fun c3 => ⟨by unfold inR; omega, ?_⟩, fun c3 => ?_⟩, fun c2 => ⟨fun c3 => ?_, fun c3 => ⟨fun c4 => ?_, fun c4 => ?_⟩⟩⟩⟩
    · have h1' : (kTok ((kSkip K) (39 + 1) ((kSkip K) 51 1).toNat) (kSkip K)).1 = 1 := kTok_01.resolve_left c3
      obtain ⟨t1, t2⟩ := hRS.tok c2 h1'
      have hl : (kTok ((kSkip K) (39 + 1) ((kSkip K) 51 1).toNat) (kSkip K)).2 39 1 = K 39 1 := (frR_tok (Or.inl ⟨by decide, Or.inr (by decide), by decide⟩)).trans e1
      have h5 := ih _ (x + 1) t1 (by omega) (by omega) (by rw [hl]; omega)
      have h6 : kRun (n + 1) K = kRun n (kTok ((kSkip K) (39 + 1) ((kSkip K) 51 1).toNat) (kSkip K)).2 := by
        conv => lhs; unfold kRun
        rw [if_neg (by omega)]
        exact if_neg c3
      rw [h6]
      exact h5
    · have h6 : kRun (n + 1) K = ((kTok ((kSkip K) (39 + 1) ((kSkip K) 51 1).toNat) (kSkip K)).2 51 1, (kTok ((kSkip K) (39 + 1) ((kSkip K) 51 1).toNat) (kSkip K)).2) := by
        conv => lhs; unfold kRun
        rw [if_neg (by omega)]
        exact if_pos c3
      rw [h6]
      exact ⟨rfl, rfl⟩
    · unfold kRun
      rw [if_pos (by omega), if_neg (fun z => c3 (by rw [kSkip_o (Or.inr (by decide))]; exact z.1))]
      exact ⟨some_i e1.symm, rfl⟩
    · unfold kRun
      have e2 : (kSkip K) 51 2 = K 51 2 := kSkip_o (Or.inr (by decide))
      rw [if_pos (by omega), if_neg (fun z => by omega)]
      exact ⟨some_i e1.symm, rfl⟩
    · unfold kRun
      have e2 : (kSkip K) 51 2 = K 51 2 := kSkip_o (Or.inr (by decide))
      have e3 : (kSkip K) 51 3 = K 51 3 := kSkip_o (Or.inr (by decide))
      rw [if_pos (by omega), if_pos (by omega)]
      exact ⟨rfl, rfl⟩
theorem RI_start {w : Int} (hl : 0 ≤ I 39 1 ∧ I 39 1 ≤ 240) (hb : ∀ j : Nat, (j : Int) < I 39 1 → 0 ≤ I 40 j ∧ I 40 j ≤ 255) : RI (kStart w I) := by
  refine ⟨⟨by show (0 : Int) ≤ 0; omega, hl.1, hl.2⟩, by show 0 ≤ (0 : Int) ∧ (0 : Int) ≤ 4; omega, by show -(0 : Int) ≤ 0 ∧ (0 : Int) ≤ 12; omega, by show 0 ≤ (0 : Int) ∧ (0 : Int) ≤ 120; omega, by show -1 ≤ (-1 : Int) ∧ (-1 : Int) < 0; omega, by show 2 * (0 : Int) ≤ 0 + (if (2 : Int) ≤ 0 then 1 else 0); rw [if_neg (by decide)]; omega, fun p hp => ?_, fun p hp => ?_, fun l hl' => ?_, by show 0 ≤ (0 : Int) ∧ (0 : Int) ≤ 0; omega, fun z => (by cases z), fun z => (by cases z), hb⟩
  · have hp' : (p : Int) < 0 := hp
    omega
  · have hp' : (p : Int) < 0 := hp
    omega
  · have e : (kStart w I) 49 l = -1 := by simp [kStart, hl']
    rw [e]
    show -1 ≤ (-1 : Int) ∧ (-1 : Int) < 0
    omega
/-- READTREE of the class, as the machine -/
theorem c_readTree (hg : GOc g) (w : Int) (hl : 0 ≤ I 39 1 ∧ I 39 1 ≤ 240) (hb : ∀ j : Nat, (j : Int) < I 39 1 → 0 ≤ I 40 j ∧ I 40 j ≤ 255) :
    CT Γ 4 mX4_readTree [.inr (some 51), .inr (some 39), .inl w] (g, I) (some (.inl (kRun (I 39 1 + 1).toNat (kStart w I)).1), (g, (kRun (I 39 1 + 1).toNat (kStart w I)).2)) := by
  refine CT.of oX4_readTree (Nat.le_of_ble_eq_true rfl) (Nat.le_refl _) (Nat.le_refl _) (v_X4_readTree_0 hg 39 tr39 w ⟨_, c_start hg w, ?_⟩)
  have h := c_readTree_8 (Γ := Γ) hg (I 39 1 + 1).toNat (kStart w I) 0 (RI_start hl hb) (by omega) (by show (0 : Int) ≤ 0; omega) (by show (I 39 1 + 1).toNat = (I 39 1 - 0 + 1).toNat; omega)
  exact h
end RP2
