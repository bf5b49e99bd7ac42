/-! ===== feed and differ ===== -/
abbrev FS : Type := (Nat → Int) × Nat
def fst1 (x : Int) (s : Nat) (z : FS) : FS := if fb x (s : Int) = 0 then z else (fun k => if k = z.2 then fb x (s : Int) else z.1 k, z.2 + 1)
def wk (x : Int) : Nat → FS → FS
  | 0, z => z
  | m + 1, z => wk x m (fst1 x (8 * m) z)
section FD
variable {Γ : GX} {g : AG} {I J X : IF}
theorem fst1_le (x : Int) (s : Nat) (z : FS) : z.2 ≤ (fst1 x s z).2 ∧ (fst1 x s z).2 ≤ z.2 + 1 := by
  unfold fst1
  split
  · exact ⟨Nat.le_refl _, by omega⟩
  · exact ⟨by show z.2 ≤ z.2 + 1; omega, Nat.le_refl _⟩
theorem wk_le (x : Int) : ∀ (m : Nat) (z : FS), z.2 ≤ (wk x m z).2 ∧ (wk x m z).2 ≤ z.2 + m
  | 0, z => ⟨Nat.le_refl _, Nat.le_refl _⟩
  | m + 1, z => by
    have a := wk_le x m (fst1 x (8 * m) z)
    have b := fst1_le x (8 * m) z
    show z.2 ≤ (wk x m (fst1 x (8 * m) z)).2 ∧ (wk x m (fst1 x (8 * m) z)).2 ≤ z.2 + (m + 1)
    omega
theorem fst1_old (x : Int) (s : Nat) (z : FS) {k : Nat} (hk : k < z.2) : (fst1 x s z).1 k = z.1 k := by
  unfold fst1
  split
  · rfl
  · show (if k = z.2 then _ else z.1 k) = z.1 k
    rw [if_neg (by omega)]
theorem wk_old (x : Int) : ∀ (m : Nat) (z : FS) {k : Nat}, k < z.2 → (wk x m z).1 k = z.1 k
  | 0, z, k, _ => rfl
  | m + 1, z, k, h => by
    have b := fst1_le x (8 * m) z
    exact (wk_old x m (fst1 x (8 * m) z) (by omega)).trans (fst1_old x (8 * m) z h)
/-- bytes of the tape -/
def Byt (z : FS) : Prop := ∀ k : Nat, k < z.2 → 0 ≤ z.1 k ∧ z.1 k ≤ 255
theorem fst1_byt {x : Int} {s : Nat} {z : FS} (h : Byt z) : Byt (fst1 x s z) := by
  unfold fst1
  split
  · exact h
  · intro k hk
    have hk' : k < z.2 + 1 := hk
    show 0 ≤ (if k = z.2 then fb x (s : Int) else z.1 k) ∧ (if k = z.2 then fb x (s : Int) else z.1 k) ≤ 255
    by_cases e : k = z.2
    · rw [if_pos e]; exact fb_r x s
    · rw [if_neg e]; exact h k (by omega)
theorem wk_byt {x : Int} : ∀ (m : Nat) (z : FS), Byt z → Byt (wk x m z)
  | 0, z, h => h
  | m + 1, z, h => wk_byt m (fst1 x (8 * m) z) (fst1_byt h)
theorem c_writeFed (hg : GOc g) (x : Int) {n : Nat} (hn : n + 4 ≤ 260) : ∃ J : IF, CT Γ 0 mX6_writeFed [.inr (some 1), .inl x, .inl n] (g, I) (some (.inl (((wk x 4 (I 2, n)).2 : Nat) : Int)), (g, J)) ∧ J 2 = (wk x 4 (I 2, n)).1 ∧ ∀ a k : Nat, a ≠ 2 → J a k = I a k := by
  have lp : ∀ (m : Nat) (X : IF) (n : Nat), m ≤ 4 → n + m ≤ 260 → ∃ J : IF, Ev Γ 0 mX6_writeFed 6 [some (.inr (some 1)), some (.inl x), none, some (.inl n), some (.inl (8 * (m : Int) - 8)), none] [] (g, X) (some (.inl (((wk x m (X 2, n)).2 : Nat) : Int)), (g, J)) ∧ J 2 = (wk x m (X 2, n)).1 ∧ ∀ a k : Nat, a ≠ 2 → J a k = X a k := by
    intro m
    induction m with
    | zero =>
      intro X n h1 h2
      exact ⟨X, v_X6_writeFed_6 hg x n _ ⟨fun _ => ⟨rfl, rfl⟩, fun z => absurd (show 8 * ((0 : Nat) : Int) - 8 < 0 by decide) z⟩, rfl, fun _ _ _ => rfl⟩
    | succ m ih =>
      intro X n h1 h2
      have es : 8 * ((m + 1 : Nat) : Int) - 8 = ((8 * m : Nat) : Int) := by omega
      have e8 : ((8 * m : Nat) : Int) + -8 = 8 * (m : Int) - 8 := by omega
      have hf := fb_u (x := x) (s := 8 * m) (by omega)
      rw [es]
      show ∃ J : IF, Ev Γ 0 mX6_writeFed 6 [some (.inr (some 1)), some (.inl x), none, some (.inl n), some (.inl ((8 * m : Nat) : Int)), none] [] (g, X) (some (.inl (((wk x m (fst1 x (8 * m) (X 2, n))).2 : Nat) : Int)), (g, J)) ∧ J 2 = (wk x m (fst1 x (8 * m) (X 2, n))).1 ∧ ∀ a k : Nat, a ≠ 2 → J a k = X a k
      by_cases z : fb x ((8 * m : Nat) : Int) = 0
      · have e1 : fst1 x (8 * m) (X 2, n) = (X 2, n) := by unfold fst1; rw [if_pos z]
        rw [e1]
        obtain ⟨J, j1, j2⟩ := ih X n (by omega) (by omega)
        refine ⟨J, v_X6_writeFed_6 hg x n _ ⟨fun y => absurd y (by omega), fun _ => ?_⟩, j2⟩
        rw [hf]
        rintro _ rfl
        exact ⟨fun _ => ⟨by unfold inR; omega, by rw [e8]; exact j1⟩, fun y => absurd z y⟩
      · have e1 : fst1 x (8 * m) (X 2, n) = ((mset X 2 n (fb x ((8 * m : Nat) : Int))) 2, n + 1) := by
          unfold fst1
          rw [if_neg z]
          congr 1
          funext k
          show (if k = n then _ else X 2 k) = mset X 2 n _ 2 k
          unfold mset
          by_cases e : k = n
          · rw [if_pos e, if_pos ⟨rfl, e⟩]
          · rw [if_neg e, if_neg (fun w => e w.2)]
        rw [e1]
        obtain ⟨J, j1, j2, j3⟩ := ih (mset X 2 n (fb x ((8 * m : Nat) : Int))) (n + 1) (by omega) (by omega)
        refine ⟨J, v_X6_writeFed_6 hg x n _ ⟨fun y => absurd y (by omega), fun _ => ?_⟩, j2, fun a k w => (j3 a k w).trans (mset_a _ _ w)⟩
        rw [hf]
        rintro _ rfl
        refine ⟨fun y => absurd y z, fun _ => ⟨fun y => absurd y (by omega), fun _ => ⟨by omega, ?_⟩⟩⟩
        rw [Int.toNat_natCast]
        rintro _ rfl
        exact ⟨by unfold inR; omega, by unfold inR; omega, by rw [e8]; exact j1⟩
  obtain ⟨J, j1, j2⟩ := lp 4 I n (Nat.le_refl _) hn
  exact ⟨J, CT.of (R := (some (.inl (((wk x 4 (I 2, n)).2 : Nat) : Int)), (g, J))) oX6_writeFed (Nat.le_of_ble_eq_true rfl) (Nat.le_refl _) (Nat.le_refl _) (v_X6_writeFed_0 hg x n j1), j2⟩
theorem m_bytesIn (hg : GOk g) (x : Int) (B : Nat → Int) (n : Nat) : CT Γ 0 mX8_bytesIn [.inl x] (g, I) (some (.inl ((((wk x 4 (B, n)).2 : Nat) : Int) - n)), (g, I)) := by
  have lp : ∀ (m : Nat) (z : FS) (c : Int), m ≤ 4 → c = (z.2 : Int) - n → 0 ≤ c → c + m ≤ 4 → Ev Γ 0 mX8_bytesIn 5 [some (.inl x), some (.inl c), some (.inl (8 * (m : Int) - 8))] [] (g, I) (some (.inl ((((wk x m z).2 : Nat) : Int) - n)), (g, I)) := by
    intro m
    induction m with
    | zero =>
      intro z c h1 h2 _ _
      exact v_X8_bytesIn_5 hg x c _ ⟨fun _ => ⟨some_i h2.symm, rfl⟩, fun z => absurd (show 8 * ((0 : Nat) : Int) - 8 < 0 by decide) z⟩
    | succ m ih =>
      intro z c h1 h2 h3 h4
      have es : 8 * ((m + 1 : Nat) : Int) - 8 = ((8 * m : Nat) : Int) := by omega
      have e8 : ((8 * m : Nat) : Int) + -8 = 8 * (m : Int) - 8 := by omega
      rw [es]
      show Ev Γ 0 mX8_bytesIn 5 [some (.inl x), some (.inl c), some (.inl ((8 * m : Nat) : Int))] [] (g, I) (some (.inl ((((wk x m (fst1 x (8 * m) z)).2 : Nat) : Int) - n)), (g, I))
      refine v_X8_bytesIn_5 hg x c _ ⟨fun y => absurd y (by omega), fun _ => ⟨fun y => ⟨by unfold inR; omega, ?_⟩, fun y => ⟨by unfold inR; omega, ?_⟩⟩⟩
      · rintro _ rfl
        have y' : fb x ((8 * m : Nat) : Int) = 0 := y
        have e1 : fst1 x (8 * m) z = z := by unfold fst1; rw [if_pos y']
        rw [e1, e8]
        exact ⟨by unfold inR; omega, ih z (c + 0) (by omega) (by omega) (by omega) (by omega)⟩
      · rintro _ rfl
        have y' : ¬ fb x ((8 * m : Nat) : Int) = 0 := y
        have e1 : (fst1 x (8 * m) z).2 = z.2 + 1 := by unfold fst1; rw [if_neg y']
        rw [e8]
        exact ⟨by unfold inR; omega, ih (fst1 x (8 * m) z) (c + 1) (by omega) (by rw [e1]; omega) (by omega) (by omega)⟩
  exact CT.of oX8_bytesIn (Nat.le_of_ble_eq_true rfl) (Nat.le_refl _) (Nat.le_refl _) (v_X8_bytesIn_0 hg x (lp 4 (B, n) 0 (Nat.le_refl _) (by show (0 : Int) = (n : Int) - n; omega) (by decide) (by decide)))
/-- the reference's tape holds this -/
def MT (z : FS) (I : IF) : Prop := I 80 2 = z.2 ∧ ∀ k : Nat, k < z.2 → I 81 k = sb (z.1 k)
theorem m_put4 (hg : GOk g) (x : Int) {z : FS} (hz : MT z I) (hl : (wk x 4 z).2 ≤ 240) : ∃ J : IF, CT Γ 0 mX8_put4 [.inr (some 80), .inl x] (g, I) (none, (g, J)) ∧ MT (wk x 4 z) J ∧ ∀ a k : Nat, a ≠ 81 → (a ≠ 80 ∨ k ≠ 2) → J a k = I a k := by
  have lp : ∀ (m : Nat) (z : FS) (X : IF), m ≤ 4 → MT z X → (wk x m z).2 ≤ 240 → ∃ J : IF, Ev Γ 0 mX8_put4 3 [some (.inr (some 80)), some (.inl x), some (.inl (8 * (m : Int) - 8))] [] (g, X) (none, (g, J)) ∧ MT (wk x m z) J ∧ ∀ a k : Nat, a ≠ 81 → (a ≠ 80 ∨ k ≠ 2) → J a k = X a k := by
    intro m
    induction m with
    | zero =>
      intro z X h1 h2 h3
      exact ⟨X, v_X8_put4_3 hg x _ ⟨fun _ => ⟨rfl, rfl⟩, fun z => absurd (show 8 * ((0 : Nat) : Int) - 8 < 0 by decide) z⟩, h2, fun _ _ _ _ => rfl⟩
    | succ m ih =>
      intro z X h1 h2 h3
      have es : 8 * ((m + 1 : Nat) : Int) - 8 = ((8 * m : Nat) : Int) := by omega
      have e8 : ((8 * m : Nat) : Int) + -8 = 8 * (m : Int) - 8 := by omega
      have h3' : (wk x m (fst1 x (8 * m) z)).2 ≤ 240 := h3
      have hle := (wk_le x m (fst1 x (8 * m) z)).1
      rw [es]
      show ∃ J : IF, Ev Γ 0 mX8_put4 3 [some (.inr (some 80)), some (.inl x), some (.inl ((8 * m : Nat) : Int))] [] (g, X) (none, (g, J)) ∧ MT (wk x m (fst1 x (8 * m) z)) J ∧ ∀ a k : Nat, a ≠ 81 → (a ≠ 80 ∨ k ≠ 2) → J a k = X a k
      by_cases y : fb x ((8 * m : Nat) : Int) = 0
      · have e1 : fst1 x (8 * m) z = z := by unfold fst1; rw [if_pos y]
        rw [e1] at h3' ⊢
        obtain ⟨J, j1, j2⟩ := ih z X (by omega) h2 h3'
        exact ⟨J, v_X8_put4_3 hg x _ ⟨fun w => absurd w (by omega), fun _ => ⟨fun w => absurd y w, fun _ => ⟨by unfold inR; omega, by rw [e8]; exact j1⟩⟩⟩, j2⟩
      · have e1 : (fst1 x (8 * m) z).2 = z.2 + 1 := by unfold fst1; rw [if_neg y]
        have e0 : ∀ k : Nat, (fst1 x (8 * m) z).1 k = if k = z.2 then fb x ((8 * m : Nat) : Int) else z.1 k := fun k => by unfold fst1; rw [if_neg y]
        have h80 := h2.1
        obtain ⟨J, j1, j2, j3⟩ := ih (fst1 x (8 * m) z) (mset (mset X 81 z.2 (sb (fb x ((8 * m : Nat) : Int)))) 80 2 ((z.2 : Int) + 1)) (by omega) ⟨by rw [mset_s, e1]; omega, fun k hk => by
          rw [mset_a _ _ (by decide), e0]
          by_cases e : k = z.2
          · rw [e, mset_s, if_pos rfl]
          · rw [mset_k _ _ e, if_neg e]
            exact h2.2 k (by rw [e1] at hk; omega)⟩ h3'
        refine ⟨J, v_X8_put4_3 hg x _ ⟨fun w => absurd w (by omega), fun _ => ⟨fun _ => ⟨by omega, ?_⟩, fun w => absurd w y⟩⟩, j2, fun a k w1 w2 => ?_⟩
        · rw [h80, Int.toNat_natCast, fb_b]
          rintro _ rfl
          rw [mset_a (b := 80) _ _ (by decide), h80]
          refine ⟨by unfold inR; omega, ?_⟩
          rintro _ rfl
          exact ⟨by unfold inR; omega, by rw [e8]; exact j1⟩
        · rw [j3 a k w1 w2]
          unfold mset
          rw [if_neg (by omega), if_neg (by omega)]
  obtain ⟨J, j1, j2⟩ := lp 4 z I (Nat.le_refl _) hz hl
  exact ⟨J, CT.of (R := (none, (g, J))) oX8_put4 (Nat.le_of_ble_eq_true rfl) (Nat.le_refl _) (Nat.le_refl _) (v_X8_put4_0 hg x j1), j2⟩
/-- the tape alone has changed -/
theorem Inv.tape (h : Inv I) (e : ∀ a k : Nat, a ≠ 2 → a ≠ 81 → (a ≠ 1 ∨ k ≠ 1) → (a ≠ 80 ∨ (k ≠ 0 ∧ k ≠ 2)) → J a k = I a k) (ht : TapeR J) : Inv J := by
  obtain ⟨⟨h1, h2, h3, h4, h5, h6, h7⟩, h8⟩ := h
  have hs : CSame I J := ⟨fun i k hi => e _ _ (by omega) (by omega) (by omega) (by omega), fun i k hi => e _ _ (by omega) (by omega) (by omega) (by omega), fun k => ⟨e _ _ (by omega) (by omega) (by omega) (by omega), e _ _ (by omega) (by omega) (by omega) (by omega)⟩, e _ _ (by omega) (by omega) (by omega) (by omega), e _ _ (by omega) (by omega) (by omega) (by omega)⟩
  refine ⟨⟨ht, h2.mv hs (e _ _ (by omega) (by omega) (by omega) (by omega)), ⟨?_, ?_⟩, ?_, h5.mv (fun a k z => e _ _ (by omega) (by omega) (by omega) (by omega)), h6.mv (fun k => e _ _ (by omega) (by omega) (by omega) (by omega)) (fun k => e _ _ (by omega) (by omega) (by omega) (by omega)), h7.mv (fun a k z => e _ _ (by omega) (by omega) (by omega) (by omega))⟩, fun z => ?_⟩
  · rw [ct_eq (t := 27) (Z := I) (fun i k hi => e _ _ (by omega) (by omega) (by omega) (by omega))]
    exact h3.1
  · rw [e 27 1 (by omega) (by omega) (by omega) (by omega)]; exact h3.2
  · rw [ct_eq (t := 3) (Z := I) (fun i k hi => e _ _ (by omega) (by omega) (by omega) (by omega))]
    exact h4
  · rw [e 52 15 (by omega) (by omega) (by omega) (by omega)] at z
    have k := h8 z
    obtain ⟨e1, e2, e3, e4⟩ := hs.eqs
    unfold KnA at k ⊢
    rw [e4, e 3 2 (by omega) (by omega) (by omega) (by omega), e 52 13 (by omega) (by omega) (by omega) (by omega)]
    exact ⟨fun n hn => by rw [e 60 n (by omega) (by omega) (by omega) (by omega)]; exact k.1 n hn, k.2.1, fun n hn z => by rw [e 59 _ (by omega) (by omega) (by omega) (by omega)]; exact k.2.2 n hn z⟩
/-- FEED -/
theorem q_feed (hg : GOk g) (h : Inv I) (x1 x2 x3 x4 x5 : Int) : Q2 Γ g I 1 mX6_feed [.inl x1, .inl x2, .inl x3, .inl x4, .inl x5] 1 mX8_feed [.inl x1, .inl x2, .inl x3, .inl x4, .inl x5] := by
  obtain ⟨t1, t2, t3⟩ := h.1.1
  obtain ⟨n, en⟩ : ∃ n : Nat, I 1 1 = n := ⟨(I 1 1).toNat, by omega⟩
  rw [en] at t1 t2 t3
  have l1 := wk_le x1 4 (I 2, n)
  obtain ⟨J1, a1, a2, a3⟩ := c_writeFed (Γ := Γ) (I := I) (n := n) hg.c x1 (by omega)
  have z1 : (J1 2, (wk x1 4 (I 2, n)).2) = wk x1 4 (I 2, n) := by rw [a2]
  generalize hw1 : wk x1 4 (I 2, n) = w1 at a1 a2 l1 z1
  have l1' : n ≤ w1.2 ∧ w1.2 ≤ n + 4 := l1
  have l2 := wk_le x2 4 w1
  obtain ⟨J2, b1, b2, b3⟩ := c_writeFed (Γ := Γ) (I := J1) (n := w1.2) hg.c x2 (by omega)
  rw [z1] at b1 b2
  have z2 : (J2 2, (wk x2 4 w1).2) = wk x2 4 w1 := by rw [b2]
  generalize hw2 : wk x2 4 w1 = w2 at b1 b2 l2 z2
  have l3 := wk_le x3 4 w2
  obtain ⟨J3, c1, c2, c3⟩ := c_writeFed (Γ := Γ) (I := J2) (n := w2.2) hg.c x3 (by omega)
  rw [z2] at c1 c2
  have z3 : (J3 2, (wk x3 4 w2).2) = wk x3 4 w2 := by rw [c2]
  generalize hw3 : wk x3 4 w2 = w3 at c1 c2 l3 z3
  have l4 := wk_le x4 4 w3
  obtain ⟨J4, d1, d2, d3⟩ := c_writeFed (Γ := Γ) (I := J3) (n := w3.2) hg.c x4 (by omega)
  rw [z3] at d1 d2
  have z4 : (J4 2, (wk x4 4 w3).2) = wk x4 4 w3 := by rw [d2]
  generalize hw4 : wk x4 4 w3 = w4 at d1 d2 l4 z4
  have l5 := wk_le x5 4 w4
  obtain ⟨J5, e1, e2, e3⟩ := c_writeFed (Γ := Γ) (I := J4) (n := w4.2) hg.c x5 (by omega)
  rw [z4] at e1 e2
  generalize hw5 : wk x5 4 w4 = w5 at e1 e2 l5
  have j5 : ∀ a k : Nat, a ≠ 2 → J5 a k = I a k := fun a k z => (e3 a k z).trans ((d3 a k z).trans ((c3 a k z).trans ((b3 a k z).trans (a3 a k z))))
  have old : ∀ k : Nat, k < n → J5 2 k = I 2 k := fun k hk => by
    rw [e2, ← hw5, wk_old x5 4 w4 (by omega), ← hw4, wk_old x4 4 w3 (by omega), ← hw3, wk_old x3 4 w2 (by omega), ← hw2, wk_old x2 4 w1 (by omega), ← hw1, wk_old x1 4 (I 2, n) hk]
  have byt : Byt w5 := by
    rw [← hw5, ← hw4, ← hw3, ← hw2, ← hw1]
    exact wk_byt 4 _ (wk_byt 4 _ (wk_byt 4 _ (wk_byt 4 _ (wk_byt 4 _ (fun k hk => (t3 k (by have hk' : k < n := hk; omega)).2)))))
  have n1 := m_bytesIn (Γ := Γ) (I := mset (if w5.2 ≤ 240 then mset J5 1 1 w5.2 else J5) 80 0 0) hg x1 (I 2) n
  have n2 := m_bytesIn (Γ := Γ) (I := mset (if w5.2 ≤ 240 then mset J5 1 1 w5.2 else J5) 80 0 0) hg x2 w1.1 w1.2
  have n3 := m_bytesIn (Γ := Γ) (I := mset (if w5.2 ≤ 240 then mset J5 1 1 w5.2 else J5) 80 0 0) hg x3 w2.1 w2.2
  have n4 := m_bytesIn (Γ := Γ) (I := mset (if w5.2 ≤ 240 then mset J5 1 1 w5.2 else J5) 80 0 0) hg x4 w3.1 w3.2
  have n5 := m_bytesIn (Γ := Γ) (I := mset (if w5.2 ≤ 240 then mset J5 1 1 w5.2 else J5) 80 0 0) hg x5 w4.1 w4.2
  rw [hw1] at n1
  rw [show ((w1.1, w1.2) : FS) = w1 from rfl, hw2] at n2
  rw [show ((w2.1, w2.2) : FS) = w2 from rfl, hw3] at n3
  rw [show ((w3.1, w3.2) : FS) = w3 from rfl, hw4] at n4
  rw [show ((w4.1, w4.2) : FS) = w4 from rfl, hw5] at n5
  have s : ∀ v : Int, v = n → v + ((w1.2 : Int) - n) + ((w2.2 : Int) - w1.2) + ((w3.2 : Int) - w2.2) + ((w4.2 : Int) - w3.2) + ((w5.2 : Int) - w4.2) = w5.2 := fun v hv => by omega
  by_cases hle : w5.2 ≤ 240
  · rw [if_pos hle] at n1 n2 n3 n4 n5
    have K80 : (mset (mset J5 1 1 (w5.2 : Int)) 80 0 0) 80 2 = n := by
      rw [mset_k _ _ (by decide), mset_a _ _ (by decide), j5 80 2 (by decide)]; exact t1
    have mt0 : MT (I 2, n) (mset (mset J5 1 1 (w5.2 : Int)) 80 0 0) := ⟨K80, fun k hk => by
      have hk' : k < n := hk
      rw [mset_a _ _ (by decide), mset_a _ _ (by decide), j5 81 k (by decide)]
      exact (t3 k (by omega)).1⟩
    obtain ⟨P1, p1, p2, p3⟩ := m_put4 (Γ := Γ) hg x1 mt0 (by rw [hw1]; omega)
    rw [hw1] at p2
    obtain ⟨P2, p4, p5, p6⟩ := m_put4 (Γ := Γ) hg x2 p2 (by rw [hw2]; omega)
    rw [hw2] at p5
    obtain ⟨P3, p7, p8, p9⟩ := m_put4 (Γ := Γ) hg x3 p5 (by rw [hw3]; omega)
    rw [hw3] at p8
    obtain ⟨P4, p10, p11, p12⟩ := m_put4 (Γ := Γ) hg x4 p8 (by rw [hw4]; omega)
    rw [hw4] at p11
    obtain ⟨P5, p13, p14, p15⟩ := m_put4 (Γ := Γ) hg x5 p11 (by rw [hw5]; omega)
    rw [hw5] at p14
    have fr : ∀ a k : Nat, a ≠ 81 → (a ≠ 80 ∨ k ≠ 2) → P5 a k = (mset (mset J5 1 1 (w5.2 : Int)) 80 0 0) a k := fun a k z1 z2 => (p15 a k z1 z2).trans ((p12 a k z1 z2).trans ((p9 a k z1 z2).trans ((p6 a k z1 z2).trans (p3 a k z1 z2))))
    refine Q2.same (r := (w5.2 : Int)) hg (CT.of (R := (some (.inl (w5.2 : Int)), (g, mset J5 1 1 (w5.2 : Int)))) oX6_feed (Nat.le_of_ble_eq_true rfl) (Nat.le_refl _) (Nat.le_refl _) (v_X6_feed_0 hg.c x1 x2 x3 x4 x5 ⟨_, _, by rw [en]; exact a1, _, _, b1, _, _, c1, _, _, d1, _, _, e1, fun _ => ?_, fun z => absurd (by omega) z⟩)) (CT.of (R := (some (.inl (w5.2 : Int)), (g, P5))) oX8_feed (Nat.le_of_ble_eq_true rfl) (Nat.le_refl _) (Nat.le_refl _) (v_X8_feed_0 hg x1 x2 x3 x4 x5 ?_)) (h.tape (fun a k q1 q2 q3 q4 => ?_) ⟨?_, ?_, fun j hj => ?_⟩)
    · rintro _ rfl
      exact ⟨rfl, rfl⟩
    · rintro _ rfl
      rw [K80]
      refine ⟨_, _, n1, by unfold inR; omega, _, _, n2, by unfold inR; omega, _, _, n3, by unfold inR; omega, _, _, n4, by unfold inR; omega, _, _, n5, by unfold inR; omega, fun _ => ⟨_, p1, _, p4, _, p7, _, p10, _, p13, some_i p14.1.symm, rfl⟩, fun z => absurd (by rw [s n rfl]; omega) z⟩
    · rw [fr a k q2 (by omega), show mset (mset J5 1 1 (w5.2 : Int)) 80 0 0 a k = J5 a k by unfold mset; rw [if_neg (by omega), if_neg (by omega)]]
      exact j5 a k q1
    · rw [p14.1, fr 1 1 (by decide) (by decide)]
      rfl
    · rw [fr 1 1 (by decide) (by decide)]
      show 0 ≤ (w5.2 : Int) ∧ (w5.2 : Int) ≤ 240
      omega
    · rw [fr 1 1 (by decide) (by decide)] at hj
      have hj' : (j : Int) < (w5.2 : Int) := hj
      rw [p14.2 j (by omega), fr 2 j (by decide) (Or.inl (by decide)), show mset (mset J5 1 1 (w5.2 : Int)) 80 0 0 2 j = J5 2 j by rw [mset_a _ _ (by decide), mset_a _ _ (by decide)], e2]
      exact ⟨rfl, byt j (by omega)⟩
  · rw [if_neg hle] at n1 n2 n3 n4 n5
    have K80 : (mset J5 80 0 0) 80 2 = n := by
      rw [mset_k _ _ (by decide), j5 80 2 (by decide)]; exact t1
    refine Q2.same (r := -1) hg (CT.of (R := (some (.inl (-1)), (g, J5))) oX6_feed (Nat.le_of_ble_eq_true rfl) (Nat.le_refl _) (Nat.le_refl _) (v_X6_feed_0 hg.c x1 x2 x3 x4 x5 ⟨_, _, by rw [en]; exact a1, _, _, b1, _, _, c1, _, _, d1, _, _, e1, fun z => absurd z (by omega), fun _ => ⟨rfl, rfl⟩⟩)) (CT.of (R := (some (.inl (-1)), (g, mset J5 80 0 0))) oX8_feed (Nat.le_of_ble_eq_true rfl) (Nat.le_refl _) (Nat.le_refl _) (v_X8_feed_0 hg x1 x2 x3 x4 x5 ?_)) (h.tape (fun a k q1 q2 q3 q4 => ?_) ⟨?_, ?_, fun j hj => ?_⟩)
    · rintro _ rfl
      rw [K80]
      exact ⟨_, _, n1, by unfold inR; omega, _, _, n2, by unfold inR; omega, _, _, n3, by unfold inR; omega, _, _, n4, by unfold inR; omega, _, _, n5, by unfold inR; omega, fun z => absurd z (by rw [s n rfl]; omega), fun _ => ⟨rfl, rfl⟩⟩
    · rw [show mset J5 80 0 0 a k = J5 a k by unfold mset; rw [if_neg (by omega)]]
      exact j5 a k q1
    · rw [K80, mset_a _ _ (by decide), j5 1 1 (by decide), en]
    · rw [mset_a _ _ (by decide), j5 1 1 (by decide), en]; exact t2
    · rw [mset_a _ _ (by decide), j5 1 1 (by decide), en] at hj
      rw [mset_a _ _ (by decide), mset_a _ _ (by decide), j5 81 j (by decide), old j (by omega)]
      exact t3 j hj
end FD
