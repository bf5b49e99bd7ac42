/-! ===== the class's reader: pieces, tokens, the loop ===== -/
section RT
variable {Γ : GX} {g : AG} {I : IF}
theorem kLet_01 {kd : Int} : (kLet kd I).1 = 0 ∨ (kLet kd I).1 = 1 := by
  unfold kLet
  split
  · exact Or.inl rfl
  · split
    · exact Or.inl rfl
    · exact Or.inr rfl
theorem fin01 {z : Int × IF} (h : z.1 = 0 ∨ z.1 = 1) {r : Int} (hr : ¬ r = 0) (e : r = z.1) : (some (Sum.inl z.1) : Option AV) = some (Sum.inl 1) := by
  rcases h with h | h
  · exact absurd (e.trans h) hr
  · rw [h]
theorem c_readPiece (hg : GOc g) (x : Int) (hp : 0 ≤ I 51 1 ∧ I 51 1 < I 39 1) (hl : I 39 1 ≤ 240) (hc : 0 ≤ I 39 2 ∧ I 39 2 < 120) (ho : -1 ≤ I 51 3 ∧ I 51 3 < I 39 2) (ht : I 51 3 ≠ -1 → -1 ≤ I 46 (I 51 3).toNat ∧ I 46 (I 51 3).toNat ≤ 120)
    (hb : ∀ j : Nat, (j : Int) < I 39 1 → 0 ≤ I 40 j ∧ I 40 j ≤ 255) (hf : ∀ l : Nat, l < 26 → -1 ≤ I 49 l ∧ I 49 l < I 39 2) (hr : 0 ≤ I 51 5 ∧ I 51 5 ≤ 120) :
    CT Γ 2 mX4_readPiece [.inr (some 51), .inr (some 39), .inl x] (g, I) (some (.inl (kPiece x I).1), (g, (kPiece x I).2)) := by
  refine CT.of oX4_readPiece (Nat.le_of_ble_eq_true rfl) (Nat.le_refl _) (Nat.le_refl _) (v_X4_readPiece_0 hg 39 tr39 x ⟨_, _, c_isAtomByte hg x, fun c => ⟨fun c2 => ?_, fun c2 => ?_, fun c2 => ?_, fun c2 => ?_⟩, fun c => ?_⟩)
  · rw [bI_0] at c
    have hna : ¬ atomb x = true := by rw [c]; decide
    refine ⟨_, _, c_rowMayStand hg (by omega), fun c3 => ?_, fun c3 => ?_⟩
    · rw [bI_0] at c3
      unfold kPiece
      rw [if_neg hna, if_neg (by omega), if_pos c2, if_neg (by rw [c3]; decide)]
      exact ⟨rfl, rfl⟩
    · rw [bI_n0] at c3
      have e : kPiece x I = kLet 2 I := by
        unfold kPiece
        rw [if_neg hna, if_neg (by omega), if_pos c2, if_pos c3]
      rw [e]
      exact ⟨_, _, c_readLettered hg 2 hp hl hc ho ht hb hf hr, fun c4 => ⟨some_i c4, rfl⟩, fun c4 => ⟨fin01 kLet_01 c4 rfl, rfl⟩⟩
  · rw [bI_0] at c
    have hna : ¬ atomb x = true := by rw [c]; decide
    refine ⟨fun c3 => ?_, fun c3 => ?_⟩
    · unfold kPiece
      rw [if_neg hna, if_pos c2, if_neg (fun z => z c3)]
      exact ⟨rfl, rfl⟩
    · have e : kPiece x I = kLet 1 I := by
        unfold kPiece
        rw [if_neg hna, if_pos c2, if_pos c3]
      rw [e]
      exact ⟨_, _, c_readLettered hg 1 hp hl hc ho ht hb hf hr, fun c4 => ⟨some_i c4, rfl⟩, fun c4 => ⟨fin01 kLet_01 c4 rfl, rfl⟩⟩
  · rw [bI_0] at c
    have hna : ¬ atomb x = true := by rw [c]; decide
    have e0 : kPiece x I = if I 51 0 = 1 ∧ I 51 6 = -1 then (1, kDeep I) else (0, I) := by
      unfold kPiece
      rw [if_neg hna, if_neg (by omega), if_neg (by omega), if_pos c2]
    rw [e0]
    refine ⟨fun c3 => ?_, fun c3 => ⟨fun c4 => ?_, fun c4 => ?_⟩⟩
    · rw [if_neg (fun z => c3 z.1)]
      exact ⟨rfl, rfl⟩
    · rw [if_neg (fun z => c4 z.2)]
      exact ⟨rfl, rfl⟩
    · rw [if_pos ⟨c3, c4⟩]
      exact ⟨_, _, c_readDeep hg (by omega) hc ho ht, fun z => absurd z (by decide), fun _ => ⟨rfl, rfl⟩⟩
  · rw [bI_0] at c
    have hna : ¬ atomb x = true := by rw [c]; decide
    unfold kPiece
    rw [if_neg hna, if_neg c2.2.1, if_neg c2.1, if_neg c2.2.2]
    exact ⟨rfl, rfl⟩
  · rw [bI_n0] at c
    unfold kPiece
    rw [if_pos c]
    exact ⟨_, _, c_readAtom hg hp hl hc ho ht, Or.inr rfl, rfl, rfl⟩
theorem kPiece_01 {x : Int} : (kPiece x I).1 = 0 ∨ (kPiece x I).1 = 1 := by
  unfold kPiece
  split
  · exact Or.inr rfl
  · split
    · split
      · exact kLet_01
      · exact Or.inl rfl
    · split
      · split
        · exact kLet_01
        · exact Or.inl rfl
      · split
        · split
          · exact Or.inr rfl
          · exact Or.inl rfl
        · exact Or.inl rfl
theorem kBehind_01 {x : Int} : (kBehind x I).1 = 0 ∨ (kBehind x I).1 = 1 := by
  unfold kBehind
  split
  · exact kClose_01
  · split
    · exact Or.inr rfl
    · exact Or.inl rfl
theorem kTok_01 {x : Int} : (kTok x I).1 = 0 ∨ (kTok x I).1 = 1 := by
  unfold kTok
  split
  · exact kPiece_01
  · split
    · split
      · exact kClose_01
      · exact kPiece_01
    · split
      · split
        · exact kOpen_01
        · exact Or.inl rfl
      · split
        · split
          · exact kOpen_01
          · exact kBehind_01
        · exact kBehind_01
/-- room for one more piece -/
theorem RI.lt {K : IF} (h : RI K) (hp : K 51 1 < K 39 1) (hs : K 51 2 < 2) : K 39 2 < 120 := by
  obtain ⟨h1, h2, h3, h4, h5, h6, -⟩ := h
  rw [if_neg (by omega)] at h6
  omega
theorem RI.tm {K : IF} (h : RI K) : K 51 3 ≠ -1 → -1 ≤ K 46 (K 51 3).toNat ∧ K 46 (K 51 3).toNat ≤ 120 := by
  obtain ⟨h1, h2, h3, h4, h5, h6, h7, h8, -⟩ := h
  intro hz
  have := h8 (K 51 3).toNat (by omega)
  omega
theorem c_readToken (hg : GOc g) (x : Int) (h : RI I) (hp : I 51 1 < I 39 1) :
    CT Γ 3 mX4_readToken [.inr (some 51), .inr (some 39), .inl x] (g, I) (some (.inl (kTok x I).1), (g, (kTok x I).2)) := by
  have ht := h.tm
  have hlt := h.lt hp
  obtain ⟨h1, h2, h3, h4, h5, h6, h7, h8, h9, h10, h11, h12, h13⟩ := h
  refine CT.of oX4_readToken (Nat.le_of_ble_eq_true rfl) (Nat.le_refl _) (Nat.le_refl _) (v_X4_readToken_0 hg 39 tr39 x ⟨fun c => ?_, fun c => ⟨fun c2 => ?_, fun c2 => ?_⟩, fun c => ⟨fun c2 => ?_, fun c2 => ?_⟩, fun c => ⟨fun c2 => ?_, fun c2 => ?_⟩, fun c => ?_⟩)
  · unfold kTok
    rw [if_pos c]
    exact ⟨_, _, c_readPiece hg x ⟨h1.1, hp⟩ h1.2.2 ⟨h4.1, hlt (by omega)⟩ h5 ht h13 h9 (by omega), kPiece_01, rfl, rfl⟩
  · unfold kTok
    rw [if_neg (by omega), if_pos c, if_neg c2]
    exact ⟨_, _, c_readPiece hg x ⟨h1.1, hp⟩ h1.2.2 ⟨h4.1, hlt (by omega)⟩ h5 ht h13 h9 (by omega), kPiece_01, rfl, rfl⟩
  · unfold kTok
    rw [if_neg (by omega), if_pos c, if_pos c2]
    exact ⟨_, _, c_readClosing hg (by omega) h4 h5 (by omega), kClose_01, rfl, rfl⟩
  · unfold kTok
    rw [if_neg (by omega), if_neg (by omega), if_pos c, if_neg c2]
    exact ⟨rfl, rfl⟩
  · unfold kTok
    rw [if_neg (by omega), if_neg (by omega), if_pos c, if_pos c2]
    exact ⟨_, _, c_readOpening hg (by omega) ⟨h11 c, h4.2⟩ (by omega), fun c3 => ⟨some_i c3, rfl⟩, fun c3 => ⟨fin01 kOpen_01 c3 rfl, rfl⟩⟩
  · unfold kTok
    rw [if_neg (by omega), if_neg (by omega), if_neg (by omega), if_pos c, if_neg c2]
    exact ⟨_, _, c_readBehindPiece hg x (by omega) h4 h5 (by omega), kBehind_01, rfl, rfl⟩
  · unfold kTok
    rw [if_neg (by omega), if_neg (by omega), if_neg (by omega), if_pos c, if_pos c2]
    exact ⟨_, _, c_readOpening hg (by omega) ⟨h12 c, h4.2⟩ (by omega), kOpen_01, rfl, rfl⟩
  · unfold kTok
    rw [if_neg (by omega), if_neg (by omega), if_neg (by omega), if_neg (by omega)]
    exact ⟨_, _, c_readBehindPiece hg x (by omega) h4 h5 (by omega), kBehind_01, rfl, rfl⟩
theorem c_start_47 (hg : GOc g) : ∀ (n : Nat) (I : IF) (x : Int), 0 ≤ x → x ≤ 26 → n = (26 - x).toNat →
    Ev Γ 0 mX4_start 47 [none, some (.inr (some 39)), none, some (.inl x)] [] (g, I) (none, (g, fun a k => if a = 49 ∧ x.toNat ≤ k ∧ k < 26 then -1 else I a k)) := by
  intro n
  induction n with
  | zero =>
    intro I x h0 h1 hn
    refine v_X4_start_47 hg 39 tr39 x ⟨fun c => ⟨rfl, ?_⟩, fun c => absurd c (by omega)⟩
    funext a k
    rw [if_neg (by omega)]
  | succ n ih =>
    intro I x h0 h1 hn
    refine v_X4_start_47 hg 39 tr39 x ⟨fun c => absurd c (by omega), fun c => ⟨by omega, ?_⟩⟩
    rintro _ rfl
    refine ⟨by unfold inR; omega, ?_⟩
    have h3 := ih (mset I (39 + 10) x.toNat (-1)) (x + 1) (by omega) (by omega) (by omega)
    have h4 : (fun a k => if a = 49 ∧ (x + 1).toNat ≤ k ∧ k < 26 then (-1 : Int) else mset I (39 + 10) x.toNat (-1) a k) = fun a k => if a = 49 ∧ x.toNat ≤ k ∧ k < 26 then -1 else I a k := by
      funext a k
      unfold mset
      by_cases e1 : a = 49
      · by_cases e2 : k = x.toNat
        · rw [if_neg (by omega), if_pos ⟨e1, e2⟩, if_pos (by omega)]
        · rw [if_neg (show ¬ (a = 39 + 10 ∧ k = x.toNat) from fun z => e2 z.2)]
          by_cases e3 : x.toNat ≤ k ∧ k < 26
          · rw [if_pos (by omega), if_pos (by omega)]
          · rw [if_neg (by omega), if_neg (by omega)]
      · rw [if_neg (fun z => e1 z.1), if_neg (fun z => e1 z.1), if_neg (fun z => e1 z.1)]
    rw [h4] at h3
    exact h3
theorem c_start (hg : GOc g) (w : Int) : CT Γ 0 mX4_start [.inr (some 51), .inr (some 39), .inl w] (g, I) (none, (g, kStart w I)) := by
  refine CT.of oX4_start (Nat.le_of_ble_eq_true rfl) (Nat.le_refl _) (Nat.le_refl _) (v_X4_start_0 hg 39 tr39 w ?_)
  rintro _ rfl _ rfl _ rfl _ rfl _ rfl _ rfl _ rfl _ rfl _ rfl
  have h := c_start_47 (Γ := Γ) hg 26 (mset (mset (mset (mset (mset (mset (mset (mset (mset I 51 0 w) 51 1 0) 51 2 0) 51 3 (-1)) 51 4 0) 51 5 0) 51 6 (-1)) 51 7 0) 39 2 0) 0 (by omega) (by omega) (by decide)
  have e : (fun a k => if a = 49 ∧ (0 : Int).toNat ≤ k ∧ k < 26 then (-1 : Int) else (mset (mset (mset (mset (mset (mset (mset (mset (mset I 51 0 w) 51 1 0) 51 2 0) 51 3 (-1)) 51 4 0) 51 5 0) 51 6 (-1)) 51 7 0) 39 2 0) a k) = kStart w I := by
    funext a k
    unfold kStart mset
    by_cases e1 : a = 51
    · subst e1
      simp
      repeat' split
      all_goals first | rfl | omega
    · by_cases e2 : a = 39
      · subst e2
        simp
      · by_cases e3 : a = 49
        · subst e3
          simp
        · simp [e1, e2, e3]
  rw [e] at h
  exact h
end RT
