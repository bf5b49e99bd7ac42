/-! ===== a pattern made ready; trees loaded and copied ===== -/
section PRP
variable {Γ : GX} {g : AG} {I J X : IF}
theorem rows3 (h : TOK 1 X) {q r s : Nat} (h1 : q < r) (h2 : r < s) (h3 : (s : Int) < X 0 2) (k1 : X 2 q = 2) (k2 : X 2 r = 2) (k3 : X 2 s = 2) : False := by
  have hP := h.2.2.2.2.2.2.2.2.2.1 rfl
  have a1 := ncI_succ (X 2) 2 q
  have a2 := ncI_succ (X 2) 2 r
  have a3 := ncI_succ (X 2) 2 s
  rw [if_pos k1] at a1
  rw [if_pos k2] at a2
  rw [if_pos k3] at a3
  have m1 := ncI_mono (f := X 2) (p := 2) (x := q + 1) r (by omega)
  have m2 := ncI_mono (f := X 2) (p := 2) (x := r + 1) s (by omega)
  have m3 := ncI_mono (f := X 2) (p := 2) (x := s + 1) (X 0 2).toNat (by omega)
  have := ncI_nn (X 2) 2 q
  omega
theorem c_countSingles (hg : GOc g) (hP : TOK 1 (zP I)) {p : Nat} (hp : (p : Int) < I 15 2) : CT Γ 0 mX1_countSingles [.inr (some 52), .inl p] (g, I) (some (.inl (sgl (zP I) p)), (g, I)) := by
  have hc : 1 ≤ I 15 2 ∧ I 15 2 ≤ 120 := hP.1.2.1
  have loop : ∀ (n x : Nat) (a : Int), -1 ≤ a → n + x = (I 15 2).toNat → p + 1 ≤ x → Ev Γ 0 mX1_countSingles 34 [some (.inr (some 52)), none, some (.inl a), some (.inl (ncI (fS (zP I)) a x - ncI (fS (zP I)) a (p + 1))), some (.inl x)] [] (g, I) (some (.inl (sgR (zP I) a (p + 1))), (g, I)) := by
    intro n
    induction n with
    | zero =>
      intro x a ha hn h1
      refine v_X1_countSingles_34 hg a _ x ⟨fun _ => ⟨?_, rfl⟩, fun z => absurd (show I 15 2 ≤ (x : Int) by omega) z⟩
      have e : x = (I 15 2).toNat := by omega
      rw [e]
      rfl
    | succ n ih =>
      intro x a ha hn h1
      have st := ncI_succ (fS (zP I)) a x
      have f1 : fS (zP I) x = if I 17 x = 2 then -2 else I 21 x := rfl
      have g1 := ncI_mono (f := fS (zP I)) (p := a) (x := p + 1) x h1
      have g2 := ncI_rng (f := fS (zP I)) (p := a) (x := p + 1) x h1
      have k := ih (x + 1) a ha (by omega) (by omega)
      refine v_X1_countSingles_34 hg a _ x ⟨fun z => absurd z (by omega), fun _ => ?_⟩
      rw [Int.toNat_natCast]
      refine ⟨⟨by omega, by omega⟩, fun z => ⟨by unfold inR; omega, ?_⟩, fun z => ⟨⟨by omega, by omega⟩, fun y => ⟨by unfold inR; omega, ?_⟩, fun y => ⟨by unfold inR; omega, by unfold inR; omega, ?_⟩⟩⟩
      · have ne : fS (zP I) x ≠ a := by
          rw [f1]
          by_cases w : I 17 x = 2
          · rw [if_pos w]; omega
          · rw [if_neg w]; exact z
        rw [if_neg ne, Int.add_zero] at st
        rw [st] at k
        exact k
      · have ne : fS (zP I) x ≠ a := by
          rw [f1, if_pos y]; omega
        rw [if_neg ne, Int.add_zero] at st
        rw [st] at k
        exact k
      · have ne : fS (zP I) x = a := by
          rw [f1, if_neg y]; exact z
        rw [if_pos ne] at st
        rw [st, show ncI (fS (zP I)) a x + 1 - ncI (fS (zP I)) a (p + 1) = ncI (fS (zP I)) a x - ncI (fS (zP I)) a (p + 1) + 1 by omega] at k
        exact k
  have hpar := (hP.2.1.2.1 p hp).1
  have hpar' : -1 ≤ I 21 p := hpar
  have start := fun a ha => loop ((I 15 2).toNat - (p + 1)) (p + 1) a ha (by omega) (Nat.le_refl _)
  simp only [Int.sub_self] at start
  refine CT.of (R := (some (.inl (sgl (zP I) p)), (g, I))) oX1_countSingles (Nat.le_of_ble_eq_true rfl) (Nat.le_refl _) (Nat.le_refl _) (v_X1_countSingles_0 hg p ?_)
  rw [Int.toNat_natCast]
  unfold sgl
  refine ⟨⟨by omega, by omega⟩, fun z => ⟨by unfold inR; omega, fun y e => ?_⟩, fun z => ⟨⟨by omega, by omega⟩, fun y e => ⟨by unfold inR; omega, fun y2 e2 => ?_⟩⟩⟩
  · rw [if_neg (show ¬ zP I 2 p = 2 from z), e]
    exact start p (by omega)
  · rw [if_pos (show zP I 2 p = 2 from z), e2, e]
    exact start (I 21 p) hpar'
/-- nothing but what preparing the pattern sets -/
def FrP (I J : IF) : Prop := ∀ a k : Nat, a ≠ 57 → (a ≠ 52 ∨ (k ≠ 7 ∧ k ≠ 8)) → J a k = I a k
theorem FrP.rf : FrP I I := fun _ _ _ _ => rfl
theorem FrP.zp (h : FrP I J) : zP J = zP I := ct_eq (t := 15) (fun i k hi => h _ _ (by omega) (Or.inl (by omega)))
def PrI (P : IF) (p : Nat) (row fr dp : Int) : Prop :=
  ((row = -1 ∧ ∀ q : Nat, q < p → P 2 q ≠ 2) ∨ (0 ≤ row ∧ row < p ∧ P 2 row.toNat = 2 ∧ ∀ q : Nat, row < q → q < p → P 2 q ≠ 2)) ∧
  ((fr = P 0 2 ∧ ∀ q r : Nat, q < r → r < p → P 2 q = 2 → P 2 r = 2 → P 6 q ≠ P 6 r) ∨ (0 ≤ fr ∧ fr < row ∧ P 2 fr.toNat = 2 ∧ P 6 fr.toNat = P 6 row.toNat)) ∧
  ((dp = P 0 2 ∧ ∀ q : Nat, q < p → P 2 q ≠ 3) ∨ (0 ≤ dp ∧ dp < p ∧ P 2 dp.toNat = 3))
theorem PrI.fro {P : IF} (h : TOK 1 P) {row fr dp : Int} (hi : PrI P (P 0 2).toNat row fr dp) : FRO P fr ∧ DPO P dp := by
  have hc := h.1.2.1
  have hPO := h.2.2.2.2.2.2
  have hL := h.2.2.2.2.2.1
  have hT := h.2.1
  obtain ⟨hr, hf, hd⟩ := hi
  have none_after : ∀ p : Nat, (p : Int) < P 0 2 → P 2 p = 2 → (∀ r : Nat, p < r → (r : Int) < P 0 2 → P 2 r = 2 → P 6 p ≠ P 6 r) → rwR P (P 6 p) (p + 1) = 0 := fun p hp k2 hh => by
    unfold rwR
    have := (hT.2.1 p hp).1
    rw [ncI_gap (f := fW P) (p := P 6 p) (x := p + 1) (P 0 2).toNat (by omega) (fun q h1 h2 => ?_)]
    · omega
    · unfold fW
      by_cases z : P 2 q = 2
      · rw [if_pos z]
        exact fun w => hh q (by omega) (by omega) z w.symm
      · rw [if_neg z]; omega
  refine ⟨?_, ?_⟩
  · rcases hf with ⟨f1, f2⟩ | ⟨f1, f2, f3, f4⟩
    · refine ⟨Or.inl f1, fun p hp k2 _ => none_after p hp k2 (fun r h1 h2 h3 => f2 p r h1 (by omega) k2 h3)⟩
    · rcases hr with ⟨r1, r2⟩ | ⟨r1, r2, r3, r4⟩
      · omega
      · have uniq : ∀ p : Nat, (p : Int) < P 0 2 → P 2 p = 2 → (p : Int) = fr ∨ (p : Int) = row := fun p hp k2 => by
          rcases Int.lt_trichotomy (p : Int) fr with z | z | z
          · exact (rows3 h (q := p) (r := fr.toNat) (s := row.toNat) (by omega) (by omega) (by omega) k2 f3 r3).elim
          · exact Or.inl z
          · rcases Int.lt_trichotomy (p : Int) row with y | y | y
            · exact (rows3 h (q := fr.toNat) (r := p) (s := row.toNat) (by omega) (by omega) (by omega) f3 k2 r3).elim
            · exact Or.inr y
            · exact (r4 p y (by omega) k2).elim
        refine ⟨Or.inr ⟨f1, by omega, f3, ?_, ?_⟩, fun p hp k2 ne => ?_⟩
        · have hk := hL.1 fr.toNat (by omega)
          have hl : 0 ≤ P 9 fr.toNat ∧ P 9 fr.toNat < 26 := by
            rcases hk with z | z | z
            · omega
            · exact ⟨z.2.1, z.2.2.1⟩
            · omega
          rcases hL.2.1 (P 9 fr.toNat).toNat (by omega) with z | ⟨z1, z2, z3, z4⟩
          · exact absurd (show P 9 fr.toNat = ((P 9 fr.toNat).toNat : Int) by omega) (z.2 fr.toNat (by omega))
          · obtain ⟨w1, w2⟩ := z4 fr.toNat (by omega) (by omega)
            rw [f3] at w2
            rcases uniq _ (by omega) w2.symm with y | y
            · omega
            · omega
        · unfold rwR
          have s1 := ncI_succ (fW P) (P 6 fr.toNat) row.toNat
          rw [if_pos (show fW P row.toNat = P 6 fr.toNat by unfold fW; rw [if_pos r3]; exact f4.symm)] at s1
          have m1 := ncI_mono (f := fW P) (p := P 6 fr.toNat) (x := fr.toNat + 1) row.toNat (by omega)
          have m2 := ncI_mono (f := fW P) (p := P 6 fr.toNat) (x := row.toNat + 1) (P 0 2).toNat (by omega)
          omega
        · have e := (uniq p hp k2).resolve_left ne
          exact none_after p hp k2 (fun r h1 h2 h3 => (r4 r (by omega) (by omega) h3).elim)
  · rcases hd with ⟨d1, d2⟩ | ⟨d1, d2, d3⟩
    · exact ⟨Or.inl d1, fun p hp k3 => absurd k3 (d2 p (by omega))⟩
    · exact ⟨Or.inr ⟨d1, by omega, d3⟩, fun p hp k3 => by
        have := hPO.2.2.2.2 p dp.toNat hp (by omega) k3 d3
        omega⟩
theorem c_preparePattern (hg : GOc g) (hP : TOK 1 (zP I)) : ∃ J : IF, CT Γ 1 mX1_preparePattern [.inr (some 52)] (g, I) (none, (g, J)) ∧ FrP I J ∧ (∀ p : Nat, (p : Int) < I 15 2 → J 57 p = sgl (zP I) p) ∧ FRO (zP I) (J 52 7) ∧ DPO (zP I) (J 52 8) := by
  have hc : 1 ≤ I 15 2 ∧ I 15 2 ≤ 120 := hP.1.2.1
  have loop : ∀ (m p : Nat) (row : Int) (X : IF), m + p = (I 15 2).toNat → FrP I X → (∀ q : Nat, q < p → X 57 q = sgl (zP I) q) → PrI (zP I) p row (X 52 7) (X 52 8) →
      ∃ J : IF, Ev Γ 1 mX1_preparePattern 26 [some (.inr (some 52)), some (.inl row), some (.inl p)] [] (g, X) (none, (g, J)) ∧ FrP I J ∧ (∀ p : Nat, (p : Int) < I 15 2 → J 57 p = sgl (zP I) p) ∧ FRO (zP I) (J 52 7) ∧ DPO (zP I) (J 52 8) := by
    intro m
    induction m with
    | zero =>
      intro p row X hm hX h57 hi
      have x15 : X 15 2 = I 15 2 := hX 15 2 (by decide) (Or.inl (by decide))
      have ep : p = (zP I 0 2).toNat := by show p = (I 15 2).toNat; omega
      rw [ep] at hi
      obtain ⟨f1, f2⟩ := hi.fro hP
      exact ⟨X, v_X1_preparePattern_26 hg row p ⟨fun _ => ⟨rfl, rfl⟩, fun z => absurd (by rw [x15]; omega) z⟩, hX, fun q hq => h57 q (by omega), f1, f2⟩
    | succ m ih =>
      intro p row X hm hX h57 hi
      have x15 : X 15 2 = I 15 2 := hX 15 2 (by decide) (Or.inl (by decide))
      have x17 : ∀ k : Nat, X 17 k = I 17 k := fun k => hX 17 k (by decide) (Or.inl (by decide))
      have x21 : ∀ k : Nat, X 21 k = I 21 k := fun k => hX 21 k (by decide) (Or.inl (by decide))
      have cs := c_countSingles (Γ := Γ) (g := g) (I := X) hg (by rw [hX.zp]; exact hP) (p := p) (by rw [x15]; omega)
      rw [hX.zp] at cs
      obtain ⟨hr, hf, hd⟩ := hi
      -- the state behind singles and deep
      have main : ∀ X2 : IF, FrP I X2 → (∀ q : Nat, q < p + 1 → X2 57 q = sgl (zP I) q) → X2 52 7 = X 52 7 → ((X2 52 8 = zP I 0 2 ∧ ∀ q : Nat, q < p + 1 → zP I 2 q ≠ 3) ∨ (0 ≤ X2 52 8 ∧ X2 52 8 < (p + 1 : Nat) ∧ zP I 2 (X2 52 8).toNat = 3)) →
          ∃ J : IF, Ev Γ 1 mX1_preparePattern 66 [some (.inr (some 52)), some (.inl row), some (.inl p)] [] (g, X2) (none, (g, J)) ∧ FrP I J ∧ (∀ p : Nat, (p : Int) < I 15 2 → J 57 p = sgl (zP I) p) ∧ FRO (zP I) (J 52 7) ∧ DPO (zP I) (J 52 8) := by
        intro X2 hX2 h57' e7 hd'
        have y17 : ∀ k : Nat, X2 17 k = I 17 k := fun k => hX2 17 k (by decide) (Or.inl (by decide))
        have y21 : ∀ k : Nat, X2 21 k = I 21 k := fun k => hX2 21 k (by decide) (Or.inl (by decide))
        rw [← e7] at hf
        by_cases k2 : I 17 p = 2
        · by_cases hrow : row = -1
          · have hf' : PrI (zP I) (p + 1) p (X2 52 7) (X2 52 8) := by
              refine ⟨Or.inr ⟨by omega, by omega, by rw [Int.toNat_natCast]; exact k2, fun q h1 h2 => by omega⟩, ?_, hd'⟩
              rcases hf with ⟨f1, f2⟩ | ⟨f1, f2, f3, f4⟩
              · refine Or.inl ⟨f1, fun q r h1 h2 h3 h4 => ?_⟩
                rcases hr with ⟨r1, r2⟩ | ⟨r1, r2, r3, r4⟩
                · exact absurd h3 (r2 q (by omega))
                · omega
              · omega
            obtain ⟨J, j1, j2⟩ := ih (p + 1) p X2 (by omega) hX2 h57' hf'
            refine ⟨J, v_X1_preparePattern_66 hg row p ⟨⟨by omega, by omega⟩, ?_⟩, j2⟩
            rw [Int.toNat_natCast, y17]
            exact ⟨fun z => absurd k2 z, fun _ => ⟨fun _ => v_X1_preparePattern_110 hg p (v_X1_preparePattern_112 hg p p ⟨by unfold inR; omega, j1⟩), fun z => absurd hrow z⟩⟩
          · rcases hr with ⟨r1, r2⟩ | ⟨r1, r2, r3, r4⟩
            · omega
            · have hfc : X2 52 7 = zP I 0 2 := by
                rcases hf with ⟨f1, f2⟩ | ⟨f1, f2, f3, f4⟩
                · exact f1
                · exact (rows3 hP (q := (X2 52 7).toNat) (r := row.toNat) (s := p) (by omega) (by omega) (by show (p : Int) < I 15 2; omega) f3 r3 k2).elim
              have uniq : ∀ q : Nat, q < p → zP I 2 q = 2 → (q : Int) = row := fun q hq k => by
                rcases Int.lt_trichotomy (q : Int) row with z | z | z
                · exact (rows3 hP (q := q) (r := row.toNat) (s := p) (by omega) (by omega) (by show (p : Int) < I 15 2; omega) k r3 k2).elim
                · exact z
                · exact (r4 q z hq k).elim
              by_cases hpar : I 21 row.toNat = I 21 p
              · obtain ⟨J, j1, j2⟩ := ih (p + 1) p (mset X2 52 7 row) (by omega) (fun a k z y => by
                    unfold mset
                    rw [if_neg (by omega)]
                    exact hX2 a k z y) (fun q hq => by rw [mset_a _ _ (by decide)]; exact h57' q hq) ⟨Or.inr ⟨by omega, by omega, by rw [Int.toNat_natCast]; exact k2, fun q h1 h2 => by omega⟩, by
                    rw [mset_s]
                    refine Or.inr ⟨r1, r2, r3, ?_⟩
                    rw [Int.toNat_natCast]
                    exact hpar, by rw [mset_k _ _ (by decide)]; exact hd'⟩
                refine ⟨J, v_X1_preparePattern_66 hg row p ⟨⟨by omega, by omega⟩, ?_⟩, j2⟩
                rw [Int.toNat_natCast, y17, y21, y21]
                refine ⟨fun z => absurd k2 z, fun _ => ⟨fun z => absurd z hrow, fun _ => ⟨⟨by omega, by omega⟩, ⟨by omega, by omega⟩, fun z => absurd hpar z, fun _ => ?_⟩⟩⟩
                rintro _ rfl
                exact v_X1_preparePattern_110 hg p (v_X1_preparePattern_112 hg p p ⟨by unfold inR; omega, j1⟩)
              · obtain ⟨J, j1, j2⟩ := ih (p + 1) p X2 (by omega) hX2 h57' ⟨Or.inr ⟨by omega, by omega, by rw [Int.toNat_natCast]; exact k2, fun q h1 h2 => by omega⟩, Or.inl ⟨hfc, fun q r h1 h2 h3 h4 w => by
                    have e1 := uniq q (by omega) h3
                    by_cases er : r = p
                    · rw [er] at w
                      refine hpar ?_
                      rw [show row.toNat = q by omega]
                      exact w
                    · have e2 := uniq r (by omega) h4
                      omega⟩, hd'⟩
                refine ⟨J, v_X1_preparePattern_66 hg row p ⟨⟨by omega, by omega⟩, ?_⟩, j2⟩
                rw [Int.toNat_natCast, y17, y21, y21]
                exact ⟨fun z => absurd k2 z, fun _ => ⟨fun z => absurd z hrow, fun _ => ⟨⟨by omega, by omega⟩, ⟨by omega, by omega⟩, fun _ => v_X1_preparePattern_110 hg p (v_X1_preparePattern_112 hg p p ⟨by unfold inR; omega, j1⟩), fun z => absurd z hpar⟩⟩⟩
        · have hf' : PrI (zP I) (p + 1) row (X2 52 7) (X2 52 8) := by
            refine ⟨?_, ?_, hd'⟩
            · rcases hr with ⟨r1, r2⟩ | ⟨r1, r2, r3, r4⟩
              · refine Or.inl ⟨r1, fun q hq => ?_⟩
                by_cases e : q = p
                · rw [e]; exact k2
                · exact r2 q (by omega)
              · refine Or.inr ⟨r1, by omega, r3, fun q h1 h2 => ?_⟩
                by_cases e : q = p
                · rw [e]; exact k2
                · exact r4 q h1 (by omega)
            · rcases hf with ⟨f1, f2⟩ | f
              · refine Or.inl ⟨f1, fun q r h1 h2 h3 h4 => ?_⟩
                by_cases e : r = p
                · rw [e] at h4; exact absurd h4 k2
                · exact f2 q r h1 (by omega) h3 h4
              · exact Or.inr f
          obtain ⟨J, j1, j2⟩ := ih (p + 1) row X2 (by omega) hX2 h57' hf'
          refine ⟨J, v_X1_preparePattern_66 hg row p ⟨⟨by omega, by omega⟩, ?_⟩, j2⟩
          rw [Int.toNat_natCast, y17]
          exact ⟨fun _ => v_X1_preparePattern_112 hg row p ⟨by unfold inR; omega, j1⟩, fun z => absurd z k2⟩
      have cells : FrP I (mset X 57 p (sgl (zP I) p)) := fun a k z y => by
        rw [mset_a _ _ z]
        exact hX a k z y
      have s57 : ∀ q : Nat, q < p + 1 → (mset X 57 p (sgl (zP I) p)) 57 q = sgl (zP I) q := fun q hq => by
        by_cases e : q = p
        · rw [e, mset_s]
        · rw [mset_k _ _ e]; exact h57 q (by omega)
      by_cases k3 : I 17 p = 3
      · obtain ⟨J, j1, j2⟩ := main (mset (mset X 57 p (sgl (zP I) p)) 52 8 p) (fun a k z y => by
            unfold mset
            rw [if_neg (by omega), if_neg (by omega)]
            exact hX a k z y) (fun q hq => by rw [mset_a _ _ (by decide)]; exact s57 q hq) (by rw [mset_k _ _ (by decide), mset_a _ _ (by decide)]) (Or.inr (by
            rw [mset_s]
            exact ⟨by omega, by omega, by rw [Int.toNat_natCast]; exact k3⟩))
        refine ⟨J, v_X1_preparePattern_26 hg row p ⟨fun z => absurd z (by rw [x15]; omega), fun _ => ⟨_, _, cs, ⟨by omega, by omega⟩, ?_⟩⟩, j2⟩
        rw [Int.toNat_natCast]
        rintro _ rfl
        rw [mset_a _ _ (by decide), x17]
        refine ⟨⟨by omega, by omega⟩, fun z => absurd k3 z, fun _ => ?_⟩
        rintro _ rfl
        exact j1
      · obtain ⟨J, j1, j2⟩ := main (mset X 57 p (sgl (zP I) p)) cells s57 (mset_a _ _ (by decide)) (by
            rw [mset_a _ _ (by decide)]
            rcases hd with ⟨d1, d2⟩ | ⟨d1, d2, d3⟩
            · refine Or.inl ⟨d1, fun q hq => ?_⟩
              by_cases e : q = p
              · rw [e]; exact k3
              · exact d2 q (by omega)
            · exact Or.inr ⟨d1, by omega, d3⟩)
        refine ⟨J, v_X1_preparePattern_26 hg row p ⟨fun z => absurd z (by rw [x15]; omega), fun _ => ⟨_, _, cs, ⟨by omega, by omega⟩, ?_⟩⟩, j2⟩
        rw [Int.toNat_natCast]
        rintro _ rfl
        rw [mset_a _ _ (by decide), x17]
        exact ⟨⟨by omega, by omega⟩, fun _ => j1, fun z => absurd z k3⟩
  obtain ⟨J, j1, j2⟩ := loop (I 15 2).toNat 0 (-1) (mset (mset I 52 7 (I 15 2)) 52 8 (I 15 2)) (by omega) (fun a k z y => by
      unfold mset
      rw [if_neg (by omega), if_neg (by omega)]) (fun q hq => by omega) ⟨Or.inl ⟨rfl, fun q hq => by omega⟩, Or.inl ⟨by rw [mset_k _ _ (by decide), mset_s]; rfl, fun q r h1 h2 => by omega⟩, Or.inl ⟨by rw [mset_s]; rfl, fun q hq => by omega⟩⟩
  refine ⟨J, CT.of (R := (none, (g, J))) oX1_preparePattern (Nat.le_of_ble_eq_true rfl) (Nat.le_refl _) (Nat.le_refl _) (v_X1_preparePattern_0 hg ?_), j2⟩
  rintro _ rfl _ rfl
  rw [mset_a _ _ (by decide)]
  exact j1
end PRP
