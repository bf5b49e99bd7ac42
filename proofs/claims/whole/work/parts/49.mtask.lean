/-! ===== matching: the reference's tasks and letters in the heap ===== -/
def FrD (I J : IF) : Prop := ∀ a k : Nat, (a < 136 ∨ 145 < a) → (a ≠ 80 ∨ k ≠ 26) → J a k = I a k
/-- what the reference's matching rests on -/
def MSt (T P : IF) (Df : Nat → Nat → Prop) (Z : IF) : Prop := TOK 0 T ∧ TOK 1 P ∧ SmO T 0 ∧ TR T (tv 82 Z) ∧ TR P (tv 92 Z) ∧ ∀ a b : Nat, a < 26 → b < 26 → (¬ Z 134 (26 * a + b) = 0 ↔ Df a b)
/-- the chain of tasks -/
def ChR (I : IF) : Int → List Tk → Prop
  | c, [] => c = -1
  | c, (p, i, n, j) :: ks => (0 ≤ c ∧ c < I 80 26) ∧ (I 136 c.toNat = p ∧ I 137 c.toNat = i ∧ I 138 c.toNat = n ∧ I 139 c.toNat = j) ∧ ChR I (I 140 c.toNat) ks
/-- the letters -/
def SgR (σ I : IF) : Prop := ∀ l : Nat, l < 26 → I 141 l = σ 141 l ∧ I 143 l = σ 143 l ∧ (σ 143 l ≠ -1 → I 142 l = σ 142 l ∧ I 144 l = σ 144 l ∧ I 145 l = σ 145 l)
/-- the letters are well -/
def SW (T σ : IF) : Prop := ∀ l : Nat, l < 26 → (σ 141 l ≠ -1 → 0 ≤ σ 141 l ∧ σ 141 l < T 0 2) ∧ (σ 143 l ≠ -1 → 0 ≤ σ 143 l ∧ (0 ≤ σ 144 l ∧ σ 144 l < T 0 2) ∧ 0 ≤ σ 145 l ∧ σ 145 l + σ 143 l ≤ max 0 (T 7 (σ 144 l).toNat))
def Old (I J : IF) : Prop := ∀ a k : Nat, 136 ≤ a → a ≤ 140 → (k : Int) < I 80 26 → J a k = I a k
/-- behind a try -/
def Po (σ I J : IF) (o : Option IF) : Prop := FrD I J ∧ Old I J ∧ (o = none → SgR σ J) ∧ ∀ τ : IF, o = some τ → SgR τ J
section MTK
variable {Γ : GX} {g : AG} {T P Z I J X σ : IF} {Df : Nat → Nat → Prop} {ks : List Tk} {c : Int}
theorem FrD.rf : FrD I I := fun _ _ _ _ => rfl
theorem FrD.tr (h1 : FrD I J) (h2 : FrD J X) : FrD I X := fun a k z y => (h2 a k z y).trans (h1 a k z y)
theorem FrD.st {a k : Nat} {v : Int} (ha : 136 ≤ a ∧ a ≤ 145) : FrD I (mset I a k v) := fun b j z _ => mset_a _ _ (by omega)
theorem FrD.s26 {v : Int} : FrD I (mset I 80 26 v) := fun b j z y => by
  unfold mset
  rw [if_neg (by omega)]
theorem TR.cgU {U U' : IF} (h : TR T U) (e : ∀ i k : Nat, i ≤ 9 → U' i k = U i k) : TR T U' := by
  obtain ⟨h1, h2, h3, h4⟩ := h
  refine ⟨by rw [e 0 1 (by decide)]; exact h1, by rw [e 0 2 (by decide)]; exact h2, fun j hj => by rw [e 1 j (by decide)]; exact h3 j hj, fun p hp => ?_⟩
  have q := h4 p hp
  rw [e 2 p (by decide), e 3 p (by decide), e 4 p (by decide), e 5 p (by decide), e 6 p (by decide), e 7 p (by decide), e 8 p (by decide), e 9 p (by decide)]
  exact q
theorem MSt.mv (h : MSt T P Df Z) (hF : FrD Z I) : MSt T P Df I := by
  obtain ⟨h1, h2, h3, h4, h5, h6⟩ := h
  refine ⟨h1, h2, h3, h4.cgU (fun i k hi => hF (82 + i) k (by omega) (Or.inl (by omega))), h5.cgU (fun i k hi => hF (92 + i) k (by omega) (Or.inl (by omega))), fun a b ha hb => ?_⟩
  rw [hF 134 _ (by omega) (Or.inl (by omega))]
  exact h6 a b ha hb
theorem ChR.mv : ∀ (ks : List Tk) (c : Int), ChR I c ks → Old I J → I 80 26 ≤ J 80 26 → ChR J c ks
  | [], c, h, _, _ => h
  | (p, i, n, j) :: ks, c, h, ho, hb => by
    obtain ⟨h1, ⟨h2, h3, h4, h5⟩, h6⟩ := h
    refine ⟨⟨h1.1, by omega⟩, ⟨?_, ?_, ?_, ?_⟩, ?_⟩
    · rw [ho 136 _ (by decide) (by decide) (by omega)]; exact h2
    · rw [ho 137 _ (by decide) (by decide) (by omega)]; exact h3
    · rw [ho 138 _ (by decide) (by decide) (by omega)]; exact h4
    · rw [ho 139 _ (by decide) (by decide) (by omega)]; exact h5
    · rw [ho 140 _ (by decide) (by decide) (by omega)]
      exact ChR.mv ks _ h6 ho hb
theorem SgR.mv (h : SgR σ I) (e : ∀ a k : Nat, 141 ≤ a → a ≤ 145 → J a k = I a k) : SgR σ J := fun l hl => by
  have := h l hl
  rw [e 141 l (by decide) (by decide), e 142 l (by decide) (by decide), e 143 l (by decide) (by decide), e 144 l (by decide) (by decide), e 145 l (by decide) (by decide)]
  exact this
/-- what a new task does -/
def TkE (I J : IF) (x1 x2 x3 x4 x5 : Int) : Prop := J 80 26 = I 80 26 + 1 ∧ (J 136 (I 80 26).toNat = x1 ∧ J 137 (I 80 26).toNat = x2 ∧ J 138 (I 80 26).toNat = x3 ∧ J 139 (I 80 26).toNat = x4 ∧ J 140 (I 80 26).toNat = x5) ∧ (∀ a k : Nat, (a ≠ 80 ∨ k ≠ 26) → (a < 136 ∨ 140 < a ∨ k ≠ (I 80 26).toNat) → J a k = I a k)
theorem m_task (hg : GOk g) (x1 x2 x3 x4 x5 : Int) (h : 0 ≤ I 80 26 ∧ I 80 26 < 4000) : ∃ J : IF, CT Γ 0 mX8_task [.inr (some 80), .inl x1, .inl x2, .inl x3, .inl x4, .inl x5] (g, I) (some (.inl (I 80 26)), (g, J)) ∧ TkE I J x1 x2 x3 x4 x5 := by
  refine ⟨mset (mset (mset (mset (mset (mset I 80 26 (I 80 26 + 1)) 136 (I 80 26).toNat x1) 137 (I 80 26).toNat x2) 138 (I 80 26).toNat x3) 139 (I 80 26).toNat x4) 140 (I 80 26).toNat x5, CT.of (R := (some (.inl (I 80 26)), (g, mset (mset (mset (mset (mset (mset I 80 26 (I 80 26 + 1)) 136 (I 80 26).toNat x1) 137 (I 80 26).toNat x2) 138 (I 80 26).toNat x3) 139 (I 80 26).toNat x4) 140 (I 80 26).toNat x5))) oX8_task (Nat.le_of_ble_eq_true rfl) (Nat.le_refl _) (Nat.le_refl _) (v_X8_task_0 hg x1 x2 x3 x4 x5 ?_), rfl, ⟨?_, ?_, ?_, ?_, ?_⟩, fun a k z1 z2 => ?_⟩
  · rintro _ rfl
    refine ⟨by unfold inR; omega, ?_⟩
    rintro _ rfl
    refine ⟨h, ?_⟩
    rintro _ rfl
    refine ⟨h, ?_⟩
    rintro _ rfl
    refine ⟨h, ?_⟩
    rintro _ rfl
    refine ⟨h, ?_⟩
    rintro _ rfl
    refine ⟨h, ?_⟩
    rintro _ rfl
    exact ⟨rfl, rfl⟩
  · rw [mset_a _ _ (by decide), mset_a _ _ (by decide), mset_a _ _ (by decide), mset_a _ _ (by decide), mset_s]
  · rw [mset_a _ _ (by decide), mset_a _ _ (by decide), mset_a _ _ (by decide), mset_s]
  · rw [mset_a _ _ (by decide), mset_a _ _ (by decide), mset_s]
  · rw [mset_a _ _ (by decide), mset_s]
  · rw [mset_s]
  · unfold mset
    rw [if_neg (by omega), if_neg (by omega), if_neg (by omega), if_neg (by omega), if_neg (by omega), if_neg (by omega)]
theorem TkE.fr {x1 x2 x3 x4 x5 : Int} (h : TkE I J x1 x2 x3 x4 x5) : FrD I J := fun a k z y => h.2.2 a k y (by omega)
theorem TkE.old {x1 x2 x3 x4 x5 : Int} (h : TkE I J x1 x2 x3 x4 x5) (h0 : 0 ≤ I 80 26) : Old I J := fun a k z1 z2 z3 => h.2.2 a k (Or.inl (by omega)) (by omega)
theorem TkE.sg {x1 x2 x3 x4 x5 : Int} (h : TkE I J x1 x2 x3 x4 x5) (hs : SgR σ I) : SgR σ J := hs.mv (fun a k z1 z2 => h.2.2 a k (Or.inl (by omega)) (by omega))
theorem TkE.ch {x1 x2 x3 x4 x5 : Int} (h : TkE I J x1 x2 x3 x4 x5) (h0 : 0 ≤ I 80 26) (hc : ChR I x5 ks) : ChR J (I 80 26) ((x1, x2, x3, x4) :: ks) := by
  refine ⟨⟨h0, by rw [h.1]; omega⟩, ⟨h.2.1.1, h.2.1.2.1, h.2.1.2.2.1, h.2.1.2.2.2.1⟩, ?_⟩
  rw [h.2.1.2.2.2.2]
  exact ChR.mv ks x5 hc (h.old h0) (by rw [h.1]; omega)
/-- DIFFERALL of the reference -/
theorem m_differAll (hg : GOk g) (hM : MSt T P Df I) (hs : SgR σ I) (hw : SW T σ) : CT Γ 41 mX8_differAll [.inr (some 80)] (g, I) (some (.inl (pb (dOk T Df σ))), (g, I)) := by
  obtain ⟨hT, hP, hSm, hr, -, hd⟩ := hM
  have h141 : ∀ l : Nat, l < 26 → I 141 l = σ 141 l := fun l hl => (hs l hl).1
  have lp : ∀ (m a : Nat), a + m = 26 → (∀ a' b' : Nat, a' < a → b' < a' → Df a' b' → σ 141 a' ≠ -1 → σ 141 b' ≠ -1 → T 11 (σ 141 a').toNat ≠ T 11 (σ 141 b').toNat) → Ev Γ 41 mX8_differAll 2 [some (.inr (some 80)), some (.inl a), none] [] (g, I) (some (.inl (pb (dOk T Df σ))), (g, I)) := by
    intro m
    induction m with
    | zero =>
      intro a ha h
      exact v_X8_differAll_2 hg a ⟨fun _ => ⟨pbs_t (fun a' b' z1 z2 z3 z4 z5 => h a' b' (by omega) z2 z3 z4 z5), rfl⟩, fun z => absurd (by omega) z⟩
    | succ m ih =>
      intro a ha h
      have lp2 : ∀ (k b : Nat), b + k = a → (∀ b' : Nat, b' < b → Df a b' → σ 141 a ≠ -1 → σ 141 b' ≠ -1 → T 11 (σ 141 a).toNat ≠ T 11 (σ 141 b').toNat) → Ev Γ 41 mX8_differAll 10 [some (.inr (some 80)), some (.inl a), some (.inl b)] [] (g, I) (some (.inl (pb (dOk T Df σ))), (g, I)) := by
        intro k
        induction k with
        | zero =>
          intro b hb h2
          refine v_X8_differAll_10 hg a b ⟨fun _ => ⟨by unfold inR; omega, ih (a + 1) (by omega) (fun a' b' z1 z2 => ?_)⟩, fun z => absurd (by omega) z⟩
          by_cases e : a' = a
          · rw [e] at z2 ⊢; exact h2 b' (by omega)
          · exact h a' b' (by omega) z2
        | succ k ih2 =>
          intro b hb h2
          have nx1 : (Df a b → σ 141 a ≠ -1 → σ 141 b ≠ -1 → T 11 (σ 141 a).toNat ≠ T 11 (σ 141 b).toNat) → Ev Γ 41 mX8_differAll 10 [some (.inr (some 80)), some (.inl a), some (.inl ((b : Int) + 1))] [] (g, I) (some (.inl (pb (dOk T Df σ))), (g, I)) := fun h3 => ih2 (b + 1) (by omega) (fun b' hb' => by
            by_cases e : b' = b
            · rw [e]; exact h3
            · exact h2 b' (by omega))
          have e26 : (26 * (a : Int) + b).toNat = 26 * a + b := by omega
          refine v_X8_differAll_10 hg a b ⟨fun z => absurd z (by omega), fun _ => ⟨by unfold inR; omega, by unfold inR; omega, by omega, fun z => ⟨by unfold inR; omega, nx1 (fun y => absurd z ?_)⟩, fun z => ⟨by omega, fun y => ⟨by unfold inR; omega, nx1 (fun _ x => absurd ?_ x)⟩, fun y => ⟨by omega, fun x => ⟨by unfold inR; omega, nx1 (fun _ _ w => absurd ?_ w)⟩, fun x => ⟨by omega, by omega, ?_⟩⟩⟩⟩⟩
          · rw [e26]
            exact (hd a b (by omega) (by omega)).mpr y
          · rw [Int.toNat_natCast, h141 a (by omega)] at y; exact y
          · rw [Int.toNat_natCast, h141 b (by omega)] at x; exact x
          · rw [e26] at z
            rw [Int.toNat_natCast, h141 a (by omega)] at y
            rw [Int.toNat_natCast, h141 b (by omega)] at x
            have hab := (hd a b (by omega) (by omega)).mp z
            have w1 := (hw a (by omega)).1 y
            have w2 := (hw b (by omega)).1 x
            have hc := m_areAlike40 (Γ := Γ) (p := (σ 141 a).toNat) (q := (σ 141 b).toNat) hg hT hr hSm (by omega) (by omega)
            rw [show (((σ 141 a).toNat : Nat) : Int) = σ 141 a by omega, show (((σ 141 b).toNat : Nat) : Int) = σ 141 b by omega] at hc
            rw [Int.toNat_natCast, Int.toNat_natCast, h141 a (by omega), h141 b (by omega)]
            refine ⟨_, _, hc, fun v => ⟨by unfold inR; omega, nx1 (fun _ _ _ => pb_0.mp v)⟩, fun v => ⟨pbs_f (fun u => u a b (by omega) (by omega) hab y x (pb_1.mp v)), rfl⟩⟩
      exact v_X8_differAll_2 hg a ⟨fun z => absurd z (by omega), fun _ => lp2 a 0 (by omega) (fun b' hb' => by omega)⟩
  exact CT.of oX8_differAll (Nat.le_of_ble_eq_true rfl) (Nat.le_refl _) (Nat.le_refl _) (v_X8_differAll_0 hg (lp 26 0 rfl (fun a' b' z => by omega)))
/-- ISROWALIKE of the reference -/
theorem m_isRowAlike (hg : GOk g) (hM : MSt T P Df I) (hs : SgR σ I) (hw : SW T σ) {l : Nat} (hl : l < 26) (hb : σ 143 l ≠ -1) {n j k : Nat} (hn : (n : Int) < T 0 2) (hj : (j : Int) + k ≤ max 0 (T 7 n)) :
    CT Γ 41 mX8_isRowAlike [.inr (some 80), .inl l, .inl n, .inl j, .inl k] (g, I) (some (.inl (pb (RowL T σ l n j k))), (g, I)) := by
  obtain ⟨hT, hP, hSm, hr, -, hd⟩ := hM
  obtain ⟨s1, s2, s3⟩ := hs l hl
  obtain ⟨s4, s5, s6⟩ := s3 hb
  obtain ⟨w1, w2, w3, w4⟩ := (hw l hl).2 hb
  have htc := hT.1.2.1
  have t7n := hT.t7n hn
  have t7s := hT.t7n (n := (σ 144 l).toNat) (by omega)
  refine CT.of oX8_isRowAlike (Nat.le_of_ble_eq_true rfl) (Nat.le_refl _) (Nat.le_refl _) (v_X8_isRowAlike_0 hg l n j k ⟨by omega, fun z => ?_, fun z => ⟨pbs_f (fun y => z ?_), rfl⟩⟩)
  · rw [Int.toNat_natCast, s2] at z
    have lp : ∀ (m x : Nat) (b : Int), x + m = k → b = pb (∀ y : Nat, y < x → T 11 (tmI (T 8) (σ 144 l) (σ 145 l + y).toNat).toNat = T 11 (tmI (T 8) n ((j : Int) + y).toNat).toNat) →
        Ev Γ 41 mX8_isRowAlike 19 [some (.inr (some 80)), some (.inl l), some (.inl n), some (.inl j), some (.inl k), some (.inl b), some (.inl x)] [] (g, I) (some (.inl (pb (RowL T σ l n j k))), (g, I)) := by
      have fin : ∀ (x : Nat) (b : Int), b = pb (∀ y : Nat, y < x → T 11 (tmI (T 8) (σ 144 l) (σ 145 l + y).toNat).toNat = T 11 (tmI (T 8) n ((j : Int) + y).toNat).toNat) → (b = 0 ∨ x = k) → x ≤ k → b = pb (RowL T σ l n j k) := fun x b hb2 h1 h2 => by
        rw [hb2]
        refine pb_c ⟨fun y => ⟨z, fun x' hx' => ?_⟩, fun y x' hx' => y.2 x' (by omega)⟩
        rcases h1 with h1 | h1
        · rw [hb2, pb_t y] at h1; exact absurd h1 (by decide)
        · exact y x' (by omega)
      intro m
      induction m with
      | zero =>
        intro x b hx hb2
        rw [fin x b hb2 (Or.inr (by omega)) (by omega)]
        exact v_X8_isRowAlike_19 hg l n j k _ x ⟨fun _ => ⟨pb_01 _, rfl, rfl⟩, fun y => absurd (by omega) y⟩
      | succ m ih =>
        intro x b hx hb2
        refine v_X8_isRowAlike_19 hg l n j k b x ⟨fun y => absurd y (by omega), fun _ => ⟨fun y => ⟨Or.inl y, by rw [fin x b hb2 (Or.inl y) (by omega)], rfl⟩, fun y => ⟨by omega, by omega, ?_, ?_⟩⟩⟩
        · rw [Int.toNat_natCast, s6]
          unfold inR
          omega
        · rw [hb2, pb_1] at y
          have t1 := hT.t7t (p := (σ 144 l).toNat) (by omega) (k := (σ 145 l + x).toNat) (by omega)
          have t2 := hT.t7t (p := n) hn (k := ((j : Int) + x).toNat) (by omega)
          have c1 := m_term (Γ := Γ) (n := (σ 144 l).toNat) (k := (σ 145 l + x).toNat) hg (Or.inl rfl) hT hr (by omega) (hT.t7c (by omega) (by omega))
          have c2 := m_term (Γ := Γ) (n := n) (k := ((j : Int) + x).toNat) hg (Or.inl rfl) hT hr hn (hT.t7c hn (by omega))
          rw [show (((σ 144 l).toNat : Nat) : Int) = σ 144 l by omega] at t1 c1
          rw [show (((σ 145 l + x).toNat : Nat) : Int) = σ 145 l + x by omega] at c1
          rw [show ((((j : Int) + x).toNat : Nat) : Int) = (j : Int) + x by omega] at c2
          have c3 := m_areAlike40 (Γ := Γ) (p := (tmI (T 8) (σ 144 l) (σ 145 l + x).toNat).toNat) (q := (tmI (T 8) n ((j : Int) + x).toNat).toNat) hg hT hr hSm (by omega) (by omega)
          rw [show (((tmI (T 8) (σ 144 l) (σ 145 l + x).toNat).toNat : Nat) : Int) = tmI (T 8) (σ 144 l) (σ 145 l + x).toNat by omega, show (((tmI (T 8) n ((j : Int) + x).toNat).toNat : Nat) : Int) = tmI (T 8) n ((j : Int) + x).toNat by omega] at c3
          rw [Int.toNat_natCast, s5, s6]
          refine ⟨_, _, c1, by unfold inR; omega, _, _, c2, _, _, c3, by unfold inR; omega, ih (x + 1) _ (by omega) (pb_c ⟨fun v x' hx' => ?_, fun v => v x (by omega)⟩)⟩
          by_cases e : x' = x
          · rw [e]; exact v
          · exact y x' (by omega)
    exact lp k 0 1 (by omega) (pb_t (fun y hy => by omega)).symm
  · rw [Int.toNat_natCast, s2]; exact y.1
end MTK
