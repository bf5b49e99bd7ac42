/-! ===== reading: the class's machine goes on the same from what is the same ===== -/
section RR
variable {K : IF}
theorem kSkip_nx : (kSkip K) 51 1 = nx K (K 51 1) := kSkip_pos
theorem kRun_st : ∀ (n m : Nat) (K : IF), RI K → (K 39 1 - K 51 1).toNat + 1 ≤ n → (K 39 1 - K 51 1).toNat + 1 ≤ m → kRun n K = kRun m K := by
  intro n
  induction n with
  | zero => intro m K h h1; omega
  | succ n ih =>
    intro m K h h1 h2
    obtain ⟨m, rfl⟩ : ∃ j, m = j + 1 := ⟨m - 1, by omega⟩
    have hsk := kSkip_ge h
    have e1 : (kSkip K) 39 1 = K 39 1 := kSkip_o (Or.inl (by decide))
    conv => lhs; unfold kRun
    conv => rhs; unfold kRun
    by_cases c : K 39 1 ≤ (kSkip K) 51 1
    · rw [if_pos c, if_pos c]
    · rw [if_neg c, if_neg c]
      dsimp only
      by_cases c2 : (kTok ((kSkip K) 40 ((kSkip K) 51 1).toNat) (kSkip K)).1 = 0
      · rw [if_pos c2, if_pos c2]
      · rw [if_neg c2, if_neg c2]
        obtain ⟨t1, t2⟩ := h.skip.tok (by omega) (kTok_01.resolve_left c2)
        have hl : (kTok ((kSkip K) 40 ((kSkip K) 51 1).toNat) (kSkip K)).2 39 1 = K 39 1 := (frR_tok (Or.inl ⟨by decide, Or.inr (by decide), by decide⟩)).trans e1
        exact ih m _ t1 (by rw [hl]; omega) (by rw [hl]; omega)
/-- the answer and the end of the reading from here -/
def RR (K : IF) : Int × IF := kRun 300 K
theorem RR_run {n : Nat} (h : RI K) (hn : (K 39 1 - K 51 1).toNat + 1 ≤ n) : kRun n K = RR K := kRun_st n 300 K h hn (by have := h.1; omega)
theorem RR_end (h : K 39 1 ≤ nx K (K 51 1)) : RR K = (if K 51 3 = -1 ∧ 3 ≤ K 51 2 then -1 else K 39 1, kSkip K) := by
  unfold RR
  conv => lhs; unfold kRun
  rw [if_pos (by rw [kSkip_nx]; exact h)]
theorem RR_tok (h : RI K) (hp : nx K (K 51 1) < K 39 1) (h1 : (kTok (cur K (nx K (K 51 1))) (kSkip K)).1 = 1) : RR K = RR (kTok (cur K (nx K (K 51 1))) (kSkip K)).2 ∧ RI (kTok (cur K (nx K (K 51 1))) (kSkip K)).2 ∧ nx K (K 51 1) + 1 ≤ (kTok (cur K (nx K (K 51 1))) (kSkip K)).2 51 1 := by
  have hc : cur K (nx K (K 51 1)) = (kSkip K) 40 ((kSkip K) 51 1).toNat := by
    unfold cur
    rw [if_neg (by omega), kSkip_nx, kSkip_o (Or.inl (by decide))]
  have e1 : (kSkip K) 39 1 = K 39 1 := kSkip_o (Or.inl (by decide))
  obtain ⟨t1, t2⟩ := h.skip.tok (c := cur K (nx K (K 51 1))) (by rw [kSkip_nx, e1]; exact hp) h1
  have hl : (kTok (cur K (nx K (K 51 1))) (kSkip K)).2 39 1 = K 39 1 := (frR_tok (Or.inl ⟨by decide, Or.inr (by decide), by decide⟩)).trans e1
  refine ⟨?_, t1, by rw [kSkip_nx] at t2; exact t2⟩
  unfold RR
  conv => lhs; unfold kRun
  rw [if_neg (by rw [kSkip_nx]; omega), ← hc]
  dsimp only
  rw [if_neg (by rw [h1]; decide)]
  exact kRun_st 299 300 _ t1 (by rw [hl]; have := h.1; have := t1.1; omega) (by rw [hl]; have := h.1; have := t1.1; omega)
theorem RR_bad (hp : nx K (K 51 1) < K 39 1) (h1 : (kTok (cur K (nx K (K 51 1))) (kSkip K)).1 = 0) : RR K = ((kTok (cur K (nx K (K 51 1))) (kSkip K)).2 51 1, (kTok (cur K (nx K (K 51 1))) (kSkip K)).2) := by
  have hc : cur K (nx K (K 51 1)) = (kSkip K) 40 ((kSkip K) 51 1).toNat := by
    unfold cur
    rw [if_neg (by omega), kSkip_nx, kSkip_o (Or.inl (by decide))]
  unfold RR
  conv => lhs; unfold kRun
  rw [if_neg (by rw [kSkip_nx]; omega), ← hc]
  dsimp only
  rw [if_pos h1]
theorem skp_congr {K K' : IF} (h1 : K' 39 1 = K 39 1) (h2 : ∀ j, K' 40 j = K 40 j) : ∀ (n : Nat) (e : Int), skp K' n e = skp K n e
  | 0, e => rfl
  | n + 1, e => by
    unfold skp
    rw [skp_congr h1 h2 n (e + 1), h1, h2]
theorem nx_congr {K K' : IF} (h1 : K' 39 1 = K 39 1) (h2 : ∀ j, K' 40 j = K 40 j) (e : Int) : nx K' e = nx K e := by
  unfold nx
  rw [skp_congr h1 h2, h1]
theorem cur_congr {K K' : IF} (h1 : K' 39 1 = K 39 1) (h2 : ∀ j, K' 40 j = K 40 j) (e : Int) : cur K' e = cur K e := by
  unfold cur
  rw [h1, h2]
theorem nx_ge (K : IF) (e : Int) : e ≤ nx K e := skp_mono _ _
theorem nx_le {e : Int} (h : e ≤ K 39 1) : nx K e ≤ K 39 1 := skp_le _ _ h
theorem skp_end : ∀ (n : Nat) (e : Int), n = (K 39 1 - e).toNat → e ≤ K 39 1 → K 39 1 ≤ skp K n e ∨ blankb (K 40 (skp K n e).toNat) = false
  | 0, e, h, h1 => Or.inl (by show K 39 1 ≤ e; omega)
  | n + 1, e, h, h1 => by
    unfold skp
    by_cases c : e < K 39 1 ∧ blankb (K 40 e.toNat) = true
    · rw [if_pos c]
      exact skp_end n (e + 1) (by omega) (by omega)
    · rw [if_neg c]
      by_cases c2 : blankb (K 40 e.toNat) = true
      · exact Or.inl (by by_cases c3 : e < K 39 1; exact absurd ⟨c3, c2⟩ c; omega)
      · exact Or.inr (by simpa using c2)
theorem nx_idem {e : Int} (h : e ≤ K 39 1) : nx K (nx K e) = nx K e := by
  have h1 := skp_end (K := K) _ e rfl h
  have h2 := nx_le (K := K) h
  generalize hz : nx K e = z at h2 ⊢
  have h1' : K 39 1 ≤ z ∨ blankb (K 40 z.toNat) = false := by rw [← hz]; exact h1
  unfold nx
  rcases h1' with h1' | h1'
  · rw [show (K 39 1 - z).toNat = 0 by omega]
    rfl
  · cases hn : (K 39 1 - z).toNat with
    | zero => rfl
    | succ n =>
      unfold skp
      rw [if_neg (fun q => by rw [h1'] at q; exact absurd q.2 (by decide))]
end RR
/-- opened -/
def OP (K : IF) (p : Nat) : Prop := (K 41 p = 0 ∧ 0 ≤ K 46 p) ∨ K 41 p = 3
/-- what else holds of the class's reader -/
def CI (K : IF) : Prop :=
  (K 51 3 ≠ -1 → OP K (K 51 3).toNat) ∧ (∀ p : Nat, (p : Int) < K 39 2 → K 45 p ≠ -1 → OP K (K 45 p).toNat) ∧
  (K 51 2 = 2 → K 41 (K 39 2 - 1).toNat = 3 ∧ K 45 (K 39 2 - 1).toNat = K 51 3) ∧ (K 51 2 = 3 → K 41 (K 39 2 - 1).toNat = 0 ∧ K 46 (K 39 2 - 1).toNat = -1 ∧ K 45 (K 39 2 - 1).toNat = K 51 3) ∧
  (K 51 7 = 0 ∨ K 51 7 = 1) ∧ (∀ p : Nat, (p : Int) < K 39 2 → K 41 p = 3 → K 51 6 = p) ∧ (K 51 0 = 1 → K 51 5 ≤ 2) ∧ (K 51 0 = 0 ∨ K 51 0 = 1 ∨ K 51 0 = 2)
/-- a piece in both trees -/
def PR (I K : IF) (u p : Nat) : Prop :=
  I (u + 2) p = K 41 p ∧ I (u + 3) p = K 42 p ∧ I (u + 7) p = K 45 p ∧ I (u + 8) p = K 48 p ∧ (K 41 p = 0 → I (u + 5) p = K 43 p) ∧
  (K 41 p = 0 → (K 46 p = -1 ∧ I (u + 9) p = 0 ∧ I (u + 6) p = 0) ∨ (0 ≤ K 46 p ∧ I (u + 9) p = 1 ∧ I (u + 6) p = K 46 p)) ∧ (¬ (K 41 p = 3 ∧ K 51 7 = 1) → I (u + 4) p = K 44 p) ∧ (0 ≤ I (u + 6) p ∧ I (u + 6) p ≤ K 39 2)
/-- the reference's reader stands where the class's does -/
def Sim (I K : IF) (u : Nat) : Prop :=
  BR I K u ∧ I 80 13 = K 51 0 ∧ (0 ≤ I 80 14 ∧ I 80 14 ≤ K 39 1 ∧ nx K (I 80 14) = nx K (K 51 1)) ∧ I 80 15 = -1 ∧ I 80 16 = K 51 4 ∧ I 80 17 = K 51 5 ∧ I 80 18 = (if K 51 6 = -1 then 0 else 1) ∧ I 80 19 = K 51 7 ∧
  I u 2 = K 39 2 ∧ (∀ p : Nat, (p : Int) < K 39 2 → PR I K u p) ∧ ∀ l : Nat, l < 26 → I 135 l = kKind K l
section SM2
variable {I K : IF} {u : Nat}
theorem OP.mv {K' : IF} {p : Nat} (h : OP K p) (h1 : K' 41 p = K 41 p) (h2 : K 46 p ≤ K' 46 p) : OP K' p := by
  rcases h with ⟨a, b⟩ | a
  · exact Or.inl ⟨h1.trans a, by omega⟩
  · exact Or.inr (h1.trans a)
theorem CI.skip (h : CI K) : CI (kSkip K) := by
  obtain ⟨h1, h2, h3, h4, h5, h6, h7, h8⟩ := h
  have e : ∀ a k : Nat, (a ≠ 51 ∨ k ≠ 1) → (kSkip K) a k = K a k := fun a k z => kSkip_o z
  unfold CI OP
  simp only [e 51 3 (by decide), e 51 2 (by decide), e 51 7 (by decide), e 51 6 (by decide), e 51 0 (by decide), e 51 5 (by decide), e 39 2 (by decide), fun p => e 41 p (by omega), fun p => e 45 p (by omega), fun p => e 46 p (by omega)]
  exact ⟨h1, h2, h3, h4, h5, h6, h7, h8⟩
theorem kKind_skip (l : Int) : kKind (kSkip K) l = kKind K l := by
  unfold kKind
  rw [kSkip_o (Or.inl (by decide)), kSkip_o (Or.inl (by decide))]
/-- the place at hand may stand ahead of blanks or behind them -/
theorem Sim.skip (h : Sim I K u) (hu : Mt u) (hR : RI K) : Sim (mset I 80 14 (nx K (I 80 14))) (kSkip K) u := by
  have hu' := mt_rng hu
  obtain ⟨h1, h2, ⟨h3, h3', h3''⟩, h4, h5, h6, h7, h8, h9, h10, h11⟩ := h
  have e : ∀ a k : Nat, (a ≠ 51 ∨ k ≠ 1) → (kSkip K) a k = K a k := fun a k z => kSkip_o z
  have hnx : ∀ x, nx (kSkip K) x = nx K x := fun x => nx_congr (e 39 1 (by decide)) (fun j => e 40 j (by omega)) x
  have m : ∀ a k : Nat, (a ≠ 80 ∨ k ≠ 14) → mset I 80 14 (nx K (I 80 14)) a k = I a k := fun a k z => by
    rcases z with z | z
    · exact mset_a _ _ z
    · exact mset_k _ _ z
  unfold Sim
  refine ⟨⟨by rw [m u 1 (by omega), e 39 1 (by decide)]; exact h1.1, by rw [e 39 1 (by decide)]; exact h1.2.1, fun j hj => ?_⟩, by rw [m 80 13 (by decide), e 51 0 (by decide)]; exact h2, ⟨?_, ?_, ?_⟩, by rw [m 80 15 (by decide)]; exact h4, by rw [m 80 16 (by decide), e 51 4 (by decide)]; exact h5, by rw [m 80 17 (by decide), e 51 5 (by decide)]; exact h6, by rw [m 80 18 (by decide), e 51 6 (by decide)]; exact h7, by rw [m 80 19 (by decide), e 51 7 (by decide)]; exact h8, by rw [m u 2 (by omega), e 39 2 (by decide)]; exact h9, fun p hp => ?_, fun l hl => ?_⟩
  · rw [e 39 1 (by decide)] at hj
    rw [m (u + 1) j (by omega), e 40 j (by omega)]
    exact h1.2.2 j hj
  · rw [mset_s]
    have := nx_ge K (I 80 14)
    omega
  · rw [mset_s, e 39 1 (by decide)]
    exact nx_le h3'
  · rw [mset_s, hnx, hnx, kSkip_nx, nx_idem h3', nx_idem hR.1.2.1]
    exact h3''
  · rw [e 39 2 (by decide)] at hp
    have := h10 p hp
    unfold PR at this ⊢
    simp only [m (u + 2) p (by omega), m (u + 3) p (by omega), m (u + 4) p (by omega), m (u + 5) p (by omega), m (u + 6) p (by omega), m (u + 7) p (by omega), m (u + 8) p (by omega), m (u + 9) p (by omega), e 41 p (by omega), e 42 p (by omega), e 43 p (by omega), e 44 p (by omega), e 45 p (by omega), e 46 p (by omega), e 48 p (by omega), e 51 7 (by decide), e 39 2 (by decide)]
    exact this
  · rw [m 135 l (by omega), kKind_skip]
    exact h11 l hl
end SM2
