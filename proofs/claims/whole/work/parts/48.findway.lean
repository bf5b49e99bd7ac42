/-! ===== matching: firstFailing and findWay of the class ===== -/
section FW
variable {Γ : GX} {g : AG} {Z I J X s s' : IF} {p : Nat} {root : Int}
theorem c_firstFailing (hg : GOc g) (hZ : CSt Z) (hF : FrM Z I) (hr : 0 ≤ root ∧ root < Z 3 2) (hx : 0 ≤ I 52 9 ∧ I 52 9 ≤ 1000) (hy : 0 ≤ I 52 10 ∧ I 52 10 ≤ 1000) {ch : Nat → Int} (hch : ∀ q : Nat, ch q = if (q : Int) = Z 52 7 then I 52 9 else I 52 10) :
    ∃ J : IF, CT Γ 2 mX1_firstFailing [.inr (some 52), .inl root] (g, I) (some (.inl (((gRun (zT Z) (zP Z) (Z 52 7) root (zDf Z) ch (Z 15 2).toNat 0 s00).1 : Nat) : Int)), (g, J)) ∧ Fr4 I J ∧
      ((gRun (zT Z) (zP Z) (Z 52 7) root (zDf Z) ch (Z 15 2).toNat 0 s00).1 = (Z 15 2).toNat → Ag Z (Z 15 2).toNat (gRun (zT Z) (zP Z) (Z 52 7) root (zDf Z) ch (Z 15 2).toNat 0 s00).2 J) := by
  have hZ' := hZ
  obtain ⟨hT, hP, hSm, hsg, hFR, hDP, hDf, -⟩ := hZ
  have hpc : 1 ≤ Z 15 2 ∧ Z 15 2 ≤ 120 := hP.1.2.1
  have htc : Z 3 2 ≤ 120 := hT.1.2.1.2
  have lp : ∀ (m p : Nat) (s X : IF), p + m = (Z 15 2).toNat → GI (zT Z) (zP Z) (zDf Z) p s → Ag Z p s X → Fr4 I X →
      ∃ J : IF, Ev Γ 2 mX1_firstFailing 2 [some (.inr (some 52)), some (.inl root), some (.inl p), none] [] (g, X) (some (.inl (((gRun (zT Z) (zP Z) (Z 52 7) root (zDf Z) ch m p s).1 : Nat) : Int)), (g, J)) ∧ Fr4 I J ∧
        ((gRun (zT Z) (zP Z) (Z 52 7) root (zDf Z) ch m p s).1 = (Z 15 2).toNat → Ag Z (Z 15 2).toNat (gRun (zT Z) (zP Z) (Z 52 7) root (zDf Z) ch m p s).2 J) := by
    intro m
    induction m with
    | zero =>
      intro p s X hpm hG hA hX
      have x15 : X 15 2 = Z 15 2 := (hX 15 2 (by decide)).trans (hF.v.2.1 0 2 (by decide))
      refine ⟨X, v_X1_firstFailing_2 hg root p ⟨fun _ => ⟨?_, rfl⟩, fun z => absurd (by rw [x15]; omega) z⟩, hX, fun _ => ?_⟩
      · refine some_i ?_
        show (p : Int) = X 15 2
        rw [x15]
        omega
      · show Ag Z (Z 15 2).toNat s X
        rw [show (Z 15 2).toNat = p by omega]
        exact hA
    | succ m ih =>
      intro p s X hpm hG hA hX
      have hFX := hF.tr hX
      obtain ⟨v1, v2, v3, v4, v5⟩ := hFX.v
      have hp : (p : Int) < Z 15 2 := by omega
      have x15 : X 15 2 = Z 15 2 := v2 0 2 (by decide)
      have x17 : X 17 p = Z 17 p := v2 2 p (by decide)
      have x9 : X 52 9 = I 52 9 := hX 52 9 (by decide)
      have x10 : X 52 10 = I 52 10 := hX 52 10 (by decide)
      have hc0 : 0 ≤ ch p := by rw [hch]; split <;> omega
      have hpn : p ≠ (Z 15 2).toNat := by omega
      -- a failure, a success
      have fail : ∀ J : IF, gStep (zT Z) (zP Z) (Z 52 7) root (zDf Z) (ch p) p s = none → Fr4 I J → Ev Γ 2 mX1_firstFailing 2 [some (.inr (some 52)), some (.inl root), some (.inl p), none] [] (g, X) (some (.inl (p : Int)), (g, J)) →
          ∃ J : IF, Ev Γ 2 mX1_firstFailing 2 [some (.inr (some 52)), some (.inl root), some (.inl p), none] [] (g, X) (some (.inl (((gRun (zT Z) (zP Z) (Z 52 7) root (zDf Z) ch (m + 1) p s).1 : Nat) : Int)), (g, J)) ∧ Fr4 I J ∧ ((gRun (zT Z) (zP Z) (Z 52 7) root (zDf Z) ch (m + 1) p s).1 = (Z 15 2).toNat → Ag Z (Z 15 2).toNat (gRun (zT Z) (zP Z) (Z 52 7) root (zDf Z) ch (m + 1) p s).2 J) := fun J h1 h2 h3 => by
        rw [gRun_n h1]
        exact ⟨J, h3, h2, fun z => absurd z hpn⟩
      have good : ∀ (s' J : IF), gStep (zT Z) (zP Z) (Z 52 7) root (zDf Z) (ch p) p s = some s' → Fr4 I J → Ag Z (p + 1) s' J →
          (∀ (r : Option AV) (J' : IF), Ev Γ 2 mX1_firstFailing 2 [some (.inr (some 52)), some (.inl root), some (.inl ((p : Int) + 1)), none] [] (g, J) (r, (g, J')) → Ev Γ 2 mX1_firstFailing 2 [some (.inr (some 52)), some (.inl root), some (.inl p), none] [] (g, X) (r, (g, J'))) →
          ∃ J : IF, Ev Γ 2 mX1_firstFailing 2 [some (.inr (some 52)), some (.inl root), some (.inl p), none] [] (g, X) (some (.inl (((gRun (zT Z) (zP Z) (Z 52 7) root (zDf Z) ch (m + 1) p s).1 : Nat) : Int)), (g, J)) ∧ Fr4 I J ∧ ((gRun (zT Z) (zP Z) (Z 52 7) root (zDf Z) ch (m + 1) p s).1 = (Z 15 2).toNat → Ag Z (Z 15 2).toNat (gRun (zT Z) (zP Z) (Z 52 7) root (zDf Z) ch (m + 1) p s).2 J) := fun s' J h1 h2 h3 h4 => by
        rw [gRun_s h1]
        obtain ⟨J', j1, j2, j3⟩ := ih (p + 1) s' J (by omega) (hG.step hT hP hFR hDf hp hr hc0 h1) h3 h2
        exact ⟨J', h4 _ _ j1, j2, j3⟩
      by_cases k2 : Z 17 p = 2
      · have hst : gStep (zT Z) (zP Z) (Z 52 7) root (zDf Z) (ch p) p s = gRow (zT Z) (zP Z) (Z 52 7) p (X 52 9) s := by
          by_cases z : (p : Int) = Z 52 7
          · rw [hch, if_pos z, x9]
            unfold gStep
            exact if_pos k2
          · rw [gStep_nf (c' := X 52 9) z (show (zP Z) 2 p ≠ 3 by show Z 17 p ≠ 3; omega) (hP.kinds hp)]
            unfold gStep
            exact if_pos k2
        obtain ⟨r, J, c1, c2, c3, c4⟩ := c_rowFits (Γ := Γ) hg hZ' hFX hA hG hp k2 (by rw [x9]; exact hx)
        rw [← hst] at c3 c4
        cases e : gStep (zT Z) (zP Z) (Z 52 7) root (zDf Z) (ch p) p s with
        | none =>
          have r0 := c3 e
          subst r0
          exact fail J e (hX.tr c2) (v_X1_firstFailing_2 hg root p ⟨fun z => absurd z (by rw [x15]; omega), fun _ => ⟨by omega, fun z => absurd (by rw [Int.toNat_natCast, x17]; exact k2) z, fun _ => ⟨_, _, c1, fun z => absurd rfl z, fun _ => ⟨rfl, rfl⟩⟩⟩⟩)
        | some s' =>
          obtain ⟨r1, hAg⟩ := c4 s' e
          subst r1
          exact good s' J e (hX.tr c2) hAg (fun rr J' h => v_X1_firstFailing_2 hg root p ⟨fun z => absurd z (by rw [x15]; omega), fun _ => ⟨by omega, fun z => absurd (by rw [Int.toNat_natCast, x17]; exact k2) z, fun _ => ⟨_, _, c1, fun _ => ⟨by unfold inR; omega, h⟩, fun z => absurd z (by decide)⟩⟩⟩)
      · have hpfr : (p : Int) ≠ Z 52 7 := fun z => by
          rcases hFR.1 with y | ⟨y1, y2, y3, y4, y5⟩
          · have y' : Z 52 7 = Z 15 2 := y
            omega
          · rw [← z, Int.toNat_natCast] at y3
            exact k2 y3
        have hcp : ch p = I 52 10 := by rw [hch, if_neg hpfr]
        obtain ⟨J4, c1, c2, c3, c4, c5, c6⟩ := c_seatPiece (Γ := Γ) hg hZ' hFX hA hG hp k2 hr
        have n1 := (hG.seat hT hP hp k2 hr).1
        have hst : gStep (zT Z) (zP Z) (Z 52 7) root (zDf Z) (ch p) p s = gFit (zT Z) (zP Z) (zDf Z) p (gSeat (zT Z) (zP Z) root p s).1 (ch p) (gPut p (gSeat (zT Z) (zP Z) root p s).1 (gSeat (zT Z) (zP Z) root p s).2) := by
          unfold gStep
          exact if_neg k2
        have hF4 := hFX.tr c2
        have hI4 := hX.tr c2
        have j17 : J4 17 p = Z 17 p := hF4.v.2.1 2 p (by decide)
        generalize hnn : (gSeat (zT Z) (zP Z) root p s).1 = n at *
        generalize hs2 : gPut p n (gSeat (zT Z) (zP Z) root p s).2 = s2 at *
        obtain ⟨nn, en⟩ : ∃ k : Nat, n = k := ⟨n.toNat, by omega⟩
        subst en
        have n2 : (nn : Int) < Z 3 2 := n1.2
        have j53 : J4 53 p = nn := c3
        rcases hP.kinds hp with k | k | k | k
        · have k' : Z 17 p = 0 := k
          obtain ⟨J5, d1, d2, d3, d4, d5⟩ := c_termFits (Γ := Γ) (n := nn) hg hZ' hF4 hp n2 k'
          have hfit : gFit (zT Z) (zP Z) (zDf Z) p nn (ch p) s2 = cif (TeF (zT Z) (zP Z) p nn) (some (if (zP Z) 7 p = -1 then s2 else mset (mset s2 2 p ((nn : Int) + 1)) 3 p ((zT Z) 7 ((nn : Int)).toNat))) none := by
            unfold gFit
            exact if_pos k
          rw [hst, hfit] at fail good
          by_cases hte : TeF (zT Z) (zP Z) p nn
          · rw [pb_t hte] at d1
            refine good _ J5 (cif_t hte) (hI4.tr d2) ?_ (fun rr J' h => v_X1_firstFailing_2 hg root p ⟨fun z => absurd z (by rw [x15]; omega), fun _ => ⟨by omega, fun _ => ⟨_, _, c1, fun _ => ⟨by omega, fun z => absurd (by rw [Int.toNat_natCast, j17]; exact k') z, fun _ => ⟨by omega, _, _, by rw [Int.toNat_natCast, j53]; exact d1, fun _ => ⟨by unfold inR; omega, h⟩, fun z => absurd z (by decide)⟩⟩, fun z => absurd z (by decide)⟩, fun z => absurd (by rw [Int.toNat_natCast, x17] at z; exact z) k2⟩⟩)
            intro q hq
            have e01 : ∀ q : Nat, (if (zP Z) 7 p = -1 then s2 else mset (mset s2 2 p ((nn : Int) + 1)) 3 p ((zT Z) 7 ((nn : Int)).toNat)) 0 q = s2 0 q ∧ (if (zP Z) 7 p = -1 then s2 else mset (mset s2 2 p ((nn : Int) + 1)) 3 p ((zT Z) 7 ((nn : Int)).toNat)) 1 q = s2 1 q := fun q => by
              split
              · exact ⟨rfl, rfl⟩
              · rw [mset_a _ _ (by decide), mset_a _ _ (by decide), mset_a _ _ (by decide), mset_a _ _ (by decide)]
                exact ⟨rfl, rfl⟩
            rw [(e01 q).1, (e01 q).2, (d3 q).1, (d3 q).2]
            refine ⟨(c4 q hq).1, (c4 q hq).2, fun z1 z2 => ?_, fun z => ?_⟩
            · by_cases e : q = p
              · rw [e] at z2 ⊢
                have z2' : ¬ (zP Z) 7 p = -1 := z2
                rw [if_neg z2', mset_a _ _ (by decide), mset_s, mset_s, Int.toNat_natCast]
                exact d5 hte z2
              · have e23 : (if (zP Z) 7 p = -1 then s2 else mset (mset s2 2 p ((nn : Int) + 1)) 3 p ((zT Z) 7 ((nn : Int)).toNat)) 2 q = s2 2 q ∧ (if (zP Z) 7 p = -1 then s2 else mset (mset s2 2 p ((nn : Int) + 1)) 3 p ((zT Z) 7 ((nn : Int)).toNat)) 3 q = s2 3 q := by
                  split
                  · exact ⟨rfl, rfl⟩
                  · rw [mset_a _ _ (by decide), mset_k _ _ e, mset_k _ _ e, mset_a _ _ (by decide)]
                    exact ⟨rfl, rfl⟩
                rw [e23.1, e23.2, (d4 q e).1, (d4 q e).2]
                exact c5 q (by omega) z1 z2
            · have e : q ≠ p := fun w => by rw [w, k'] at z; exact absurd z (by decide)
              have e2 : (if (zP Z) 7 p = -1 then s2 else mset (mset s2 2 p ((nn : Int) + 1)) 3 p ((zT Z) 7 ((nn : Int)).toNat)) 2 q = s2 2 q := by
                split
                · rfl
                · rw [mset_a _ _ (by decide), mset_k _ _ e]
              rw [e2, d2 52 10 (by decide)]
              exact c6 q (by omega) z
          · rw [pb_f hte] at d1
            exact fail J5 (cif_f hte) (hI4.tr d2) (v_X1_firstFailing_2 hg root p ⟨fun z => absurd z (by rw [x15]; omega), fun _ => ⟨by omega, fun _ => ⟨_, _, c1, fun _ => ⟨by omega, fun z => absurd (by rw [Int.toNat_natCast, j17]; exact k') z, fun _ => ⟨by omega, _, _, by rw [Int.toNat_natCast, j53]; exact d1, fun z => absurd rfl z, fun _ => ⟨rfl, rfl⟩⟩⟩, fun z => absurd z (by decide)⟩, fun z => absurd (by rw [Int.toNat_natCast, x17] at z; exact z) k2⟩⟩)
        · have k' : Z 17 p = 1 := k
          have d1 := c_holeFits (Γ := Γ) (s := s2) (n := nn) hg hZ' hF4 hp n2 k' (fun q hq => (c4 q (by omega)).1) (fun q hq z => by
            have e0 := (seat_eff (T := zT Z) (root := root) (s := s) (n := (nn : Int)) hP hp).1 q (by omega)
            rw [hs2] at e0
            rw [e0.1]
            have := hG.1 q hq z
            exact ⟨this.1, this.2.1⟩)
          have hfit : gFit (zT Z) (zP Z) (zDf Z) p nn (ch p) s2 = cif (HoF (zT Z) (zP Z) (zDf Z) p nn s2) (some s2) none := by
            unfold gFit
            rw [if_neg (by omega)]
            exact if_pos k
          rw [hst, hfit] at fail good
          by_cases hte : HoF (zT Z) (zP Z) (zDf Z) p nn s2
          · rw [pb_t hte] at d1
            exact good _ J4 (cif_t hte) hI4 (fun q hq => ⟨(c4 q hq).1, (c4 q hq).2, fun z1 z2 => c5 q (by
                by_cases e : q = p
                · rw [e, k'] at z1; exact absurd z1 (by decide)
                · omega) z1 z2, fun z => c6 q (by
                by_cases e : q = p
                · rw [e, k'] at z; exact absurd z (by decide)
                · omega) z⟩) (fun rr J' h => v_X1_firstFailing_2 hg root p ⟨fun z => absurd z (by rw [x15]; omega), fun _ => ⟨by omega, fun _ => ⟨_, _, c1, fun _ => ⟨by omega, fun _ => ⟨by omega, fun z => absurd (by rw [Int.toNat_natCast, j17]; exact k') z, fun _ => ⟨by omega, _, _, by rw [Int.toNat_natCast, j53]; exact d1, fun _ => ⟨by unfold inR; omega, h⟩, fun z => absurd z (by decide)⟩⟩, fun z => absurd z (by rw [Int.toNat_natCast, j17, k']; decide)⟩, fun z => absurd z (by decide)⟩, fun z => absurd (by rw [Int.toNat_natCast, x17] at z; exact z) k2⟩⟩)
          · rw [pb_f hte] at d1
            exact fail J4 (cif_f hte) hI4 (v_X1_firstFailing_2 hg root p ⟨fun z => absurd z (by rw [x15]; omega), fun _ => ⟨by omega, fun _ => ⟨_, _, c1, fun _ => ⟨by omega, fun _ => ⟨by omega, fun z => absurd (by rw [Int.toNat_natCast, j17]; exact k') z, fun _ => ⟨by omega, _, _, by rw [Int.toNat_natCast, j53]; exact d1, fun z => absurd rfl z, fun _ => ⟨rfl, rfl⟩⟩⟩, fun z => absurd z (by rw [Int.toNat_natCast, j17, k']; decide)⟩, fun z => absurd z (by decide)⟩, fun z => absurd (by rw [Int.toNat_natCast, x17] at z; exact z) k2⟩⟩)
        · exact absurd k k2
        · have k' : Z 17 p = 3 := k
          have j11 : J4 11 nn = (zT Z) 8 nn := hF4.v.1 8 nn (by decide)
          have j10 : J4 52 10 = I 52 10 := hI4 52 10 (by decide)
          have hfit : gFit (zT Z) (zP Z) (zDf Z) p nn (ch p) s2 = cif (I 52 10 < (zT Z) 8 nn) (some (mset s2 2 p ((nn : Int) + I 52 10))) none := by
            unfold gFit
            rw [if_neg (by omega), if_neg (by omega), hcp, Int.toNat_natCast]
          rw [hst, hfit] at fail good
          have pre : ∀ (r : Option AV) (J' : IF), (((zT Z) 8 nn ≤ I 52 10) → r = some (.inl (p : Int)) ∧ J' = J4) ∧ (¬ ((zT Z) 8 nn ≤ I 52 10) → Ev Γ 2 mX1_firstFailing 2 [some (.inr (some 52)), some (.inl root), some (.inl ((p : Int) + 1)), none] [] (g, J4) (r, (g, J'))) → Ev Γ 2 mX1_firstFailing 2 [some (.inr (some 52)), some (.inl root), some (.inl p), none] [] (g, X) (r, (g, J')) := fun r J' h => v_X1_firstFailing_2 hg root p ⟨fun z => absurd z (by rw [x15]; omega), fun _ => ⟨by omega, fun _ => ⟨_, _, c1, fun _ => ⟨by omega, fun _ => ⟨by omega, fun _ => ⟨by omega, by rw [Int.toNat_natCast, j53]; omega, by rw [Int.toNat_natCast, j53, Int.toNat_natCast, j11, j10]; exact h.1, by rw [Int.toNat_natCast, j53, Int.toNat_natCast, j11, j10]; exact fun z => ⟨by unfold inR; omega, h.2 z⟩⟩, fun z => absurd z (by rw [Int.toNat_natCast, j17, k']; decide)⟩, fun z => absurd z (by rw [Int.toNat_natCast, j17, k']; decide)⟩, fun z => absurd z (by decide)⟩, fun z => absurd (by rw [Int.toNat_natCast, x17] at z; exact z) k2⟩⟩
          by_cases hte : I 52 10 < (zT Z) 8 nn
          · refine good _ J4 (cif_t hte) hI4 (fun q hq => ?_) (fun rr J' h => pre rr J' ⟨fun z => absurd z (by omega), fun _ => h⟩)
            rw [mset_a _ _ (by decide), mset_a _ _ (by decide), mset_a (a := 2) (b := 3) _ _ (by decide)]
            refine ⟨(c4 q hq).1, (c4 q hq).2, fun z1 z2 => ?_, fun z => ?_⟩
            · have e : q ≠ p := fun w => by rw [w, k'] at z1; exact absurd z1 (by decide)
              rw [mset_k _ _ e]
              exact c5 q (by omega) z1 z2
            · by_cases e : q = p
              · rw [e, mset_s, ← (c4 p (by omega)).1, j53, j10]
              · rw [mset_k _ _ e]
                exact c6 q (by omega) z
          · exact fail J4 (cif_f hte) hI4 (pre _ _ ⟨fun _ => ⟨rfl, rfl⟩, fun z => absurd (by omega) z⟩)
  obtain ⟨J, j1, j2, j3⟩ := lp (Z 15 2).toNat 0 s00 I (by omega) (GI.zero hP) (fun q hq => by omega) Fr4.rf
  exact ⟨J, CT.of oX1_firstFailing (Nat.le_of_ble_eq_true rfl) (Nat.le_refl _) (Nat.le_refl _) (v_X1_firstFailing_0 hg root j1), j2, j3⟩
def FrW (I J : IF) : Prop := ∀ a k : Nat, (a < 53 ∨ 56 < a) → (a ≠ 52 ∨ (k ≠ 9 ∧ k ≠ 10)) → J a k = I a k
/-- FINDWAY of the class -/
theorem c_findWay (hg : GOc g) (hZ : CSt Z) (hF : FrM Z I) (hr : 0 ≤ root ∧ root < Z 3 2) :
    ∃ J : IF, CT Γ 3 mX1_findWay [.inr (some 52), .inl root] (g, I) (some (.inl (pb (WAY (zT Z) (zP Z) (Z 52 7) (zDf Z) root ≠ none))), (g, J)) ∧ FrM Z J ∧ (∀ s' : IF, WAY (zT Z) (zP Z) (Z 52 7) (zDf Z) root = some s' → Ag Z (Z 15 2).toNat s' J) := by
  have hZ' := hZ
  obtain ⟨hT, hP, hSm, hsg, hFR, hDP, hDf, -⟩ := hZ
  have hpc : 1 ≤ Z 15 2 ∧ Z 15 2 ≤ 120 := hP.1.2.1
  have htc : 1 ≤ Z 3 2 ∧ Z 3 2 ≤ 120 := hT.1.2.1
  obtain ⟨v1, v2, v3, v4, v5⟩ := hF.v
  have i3 : I 3 2 = Z 3 2 := v1 0 2 (by decide)
  have f1 : Z 52 7 = Z 15 2 ∨ (0 ≤ Z 52 7 ∧ Z 52 7 < Z 15 2 ∧ _) := hFR.1
  have d1 : Z 52 8 = Z 15 2 ∨ (0 ≤ Z 52 8 ∧ Z 52 8 < Z 15 2 ∧ _) := hDP.1
  have hmul : ∀ u : Nat, (u : Int) ≤ Z 3 2 → (u : Int) * (Z 3 2 + 1) ≤ Z 3 2 * (Z 3 2 + 1) := fun u hu => Int.mul_le_mul_of_nonneg_right hu (by omega)
  have hsq : (Z 3 2 + 1) * (Z 3 2 + 1) = Z 3 2 * (Z 3 2 + 1) + (Z 3 2 + 1) := by rw [Int.add_mul, Int.one_mul]
  have hsq3 : 0 ≤ Z 3 2 * (Z 3 2 + 1) := Int.mul_nonneg (by omega) (by omega)
  have hsq2 : Z 3 2 * (Z 3 2 + 1) ≤ 120 * 121 := Int.mul_le_mul htc.2 (by omega) (by omega) (by omega)
  have lp : ∀ (n : Nat) (u v : Nat) (w : Int) (X : IF), n = ((Z 3 2 + 1) * (Z 3 2 + 1) - w).toNat → 0 ≤ w → w ≤ (u : Int) * (Z 3 2 + 1) + v → (u : Int) ≤ Z 3 2 → (v : Int) ≤ Z 3 2 → LI (zT Z) (zP Z) (Z 52 7) (Z 52 8) (zDf Z) root u v → (max (Z 52 7) (Z 52 8) = Z 15 2 → v = 0) → (min (Z 52 7) (Z 52 8) = Z 15 2 → u = 0) → FrM Z X →
      ∃ J : IF, Ev Γ 3 mX1_findWay 72 [some (.inr (some 52)), some (.inl root), some (.inl (if Z 52 8 ≤ Z 52 7 then 0 else 1)), some (.inl (min (Z 52 7) (Z 52 8))), some (.inl (max (Z 52 7) (Z 52 8))), some (.inl u), some (.inl v), some (.inl ((Z 3 2 + 1) * (Z 3 2 + 1))), some (.inl w), none] [] (g, X) (some (.inl (pb (WAY (zT Z) (zP Z) (Z 52 7) (zDf Z) root ≠ none))), (g, J)) ∧ FrM Z J ∧ (∀ s' : IF, WAY (zT Z) (zP Z) (Z 52 7) (zDf Z) root = some s' → Ag Z (Z 15 2).toNat s' J) := by
    intro n
    induction n with
    | zero =>
      intro u v w X hn h0 hw hu hv
      have := hmul u hu
      omega
    | succ n ih =>
      intro u v w X hn h0 hw hu hv hL hlv hlu hX
      have hm := hmul u hu
      have hwlt : w < (Z 3 2 + 1) * (Z 3 2 + 1) := by omega
      -- one try
      have try1 : ∀ rc dc : Int, (Z 52 8 ≤ Z 52 7 → rc = v ∧ dc = u) → (¬ Z 52 8 ≤ Z 52 7 → rc = u ∧ dc = v) → ∃ J6 : IF, CT Γ 2 mX1_firstFailing [.inr (some 52), .inl root] (g, mset (mset X 52 9 rc) 52 10 dc) (some (.inl (((fR (zT Z) (zP Z) (Z 52 7) (Z 52 8) (zDf Z) root u v).1 : Nat) : Int)), (g, J6)) ∧ FrM Z J6 ∧ J6 15 2 = Z 15 2 ∧
          ((fR (zT Z) (zP Z) (Z 52 7) (Z 52 8) (zDf Z) root u v).1 = (Z 15 2).toNat → Ag Z (Z 15 2).toNat (fR (zT Z) (zP Z) (Z 52 7) (Z 52 8) (zDf Z) root u v).2 J6) := by
        intro rc dc h1 h2
        have hX1 : FrM Z (mset (mset X 52 9 rc) 52 10 dc) := fun a k z y => by
          rw [show mset (mset X 52 9 rc) 52 10 dc a k = X a k by unfold mset; rw [if_neg (by omega), if_neg (by omega)]]
          exact hX a k z y
        have e9 : (mset (mset X 52 9 rc) 52 10 dc) 52 9 = rc := rfl
        have e10 : (mset (mset X 52 9 rc) 52 10 dc) 52 10 = dc := rfl
        have hrd : (0 ≤ rc ∧ rc ≤ 1000) ∧ 0 ≤ dc ∧ dc ≤ 1000 := by
          by_cases z : Z 52 8 ≤ Z 52 7
          · have := h1 z; omega
          · have := h2 z; omega
        obtain ⟨J6, c1, c2, c3⟩ := c_firstFailing (Γ := Γ) (ch := fun q => if (q : Int) = Z 52 7 then rc else dc) hg hZ' hX1 hr (by rw [e9]; exact hrd.1) (by rw [e10]; exact hrd.2) (fun q => by rw [e9, e10])
        have hcg : gRun (zT Z) (zP Z) (Z 52 7) root (zDf Z) (fun q => if (q : Int) = Z 52 7 then rc else dc) (Z 15 2).toNat 0 s00 = fR (zT Z) (zP Z) (Z 52 7) (Z 52 8) (zDf Z) root u v := by
          refine gRun_cg hP (fun q hq hf => ?_) (Z 15 2).toNat 0 s00 (Nat.zero_add _)
          have hq' : (q : Int) < Z 15 2 := hq
          unfold chs
          rcases hf with hf | hf
          · rw [if_pos hf]
            by_cases z : Z 52 8 ≤ Z 52 7
            · rw [(h1 z).1]
              by_cases y : (q : Int) = min (Z 52 7) (Z 52 8)
              · exfalso
                have e78 : Z 52 7 = Z 52 8 := by omega
                rcases hDP.1 with x | x
                · have x' : Z 52 8 = Z 15 2 := x
                  omega
                · have x3 := x.2.2
                  rcases hFR.1 with t | t
                  · have t' : Z 52 7 = Z 15 2 := t
                    omega
                  · have t3 := t.2.2.1
                    rw [← e78, t3] at x3
                    exact absurd x3 (by decide)
              · rw [if_neg y]
            · rw [(h2 z).1, if_pos (by omega)]
          · have hq8 := hDP.2 q hq hf
            by_cases z : Z 52 8 ≤ Z 52 7
            · have hne : (q : Int) ≠ Z 52 7 := fun y => by
                rcases hFR.1 with t | t
                · have t' : Z 52 7 = Z 15 2 := t
                  omega
                · have t3 := t.2.2.1
                  rw [← y, Int.toNat_natCast, hf] at t3
                  exact absurd t3 (by decide)
              rw [if_neg hne, (h1 z).2, if_pos (by omega)]
            · rw [if_neg (by omega), (h2 z).2, if_neg (by omega)]
        rw [hcg] at c1 c3
        exact ⟨J6, c1, hX1.tr c2, (c2 15 2 (by decide)).trans (hX1.v.2.1 0 2 (by decide)), c3⟩
      have hge : (fR (zT Z) (zP Z) (Z 52 7) (Z 52 8) (zDf Z) root u v).1 ≤ (Z 15 2).toNat := by
        have := (gRun_ge (T := zT Z) (P := zP Z) (fr := Z 52 7) (root := root) (Df := zDf Z) (ch := chs (min (Z 52 7) (Z 52 8)) u v) (Z 15 2).toNat 0 s00).2
        show (gRun (zT Z) (zP Z) (Z 52 7) root (zDf Z) (chs (min (Z 52 7) (Z 52 8)) u v) (Z 15 2).toNat 0 s00).1 ≤ _
        omega
      -- how a try goes on
      have cont : ∀ J6 : IF, FrM Z J6 → J6 15 2 = Z 15 2 → ((fR (zT Z) (zP Z) (Z 52 7) (Z 52 8) (zDf Z) root u v).1 = (Z 15 2).toNat → Ag Z (Z 15 2).toNat (fR (zT Z) (zP Z) (Z 52 7) (Z 52 8) (zDf Z) root u v).2 J6) →
          ∃ J : IF, ((((((fR (zT Z) (zP Z) (Z 52 7) (Z 52 8) (zDf Z) root u v).1 : Nat) : Int) < (J6 15 2))) → ((((((fR (zT Z) (zP Z) (Z 52 7) (Z 52 8) (zDf Z) root u v).1 : Nat) : Int) ≤ (max (Z 52 7) (Z 52 8)))) → ((((((fR (zT Z) (zP Z) (Z 52 7) (Z 52 8) (zDf Z) root u v).1 : Nat) : Int) ≤ (min (Z 52 7) (Z 52 8)))) → ((some (.inl (pb (WAY (zT Z) (zP Z) (Z 52 7) (zDf Z) root ≠ none))) : Option AV) = some (.inl 0) ∧ J = J6)) ∧ ((¬ ((((fR (zT Z) (zP Z) (Z 52 7) (Z 52 8) (zDf Z) root u v).1 : Nat) : Int) ≤ (min (Z 52 7) (Z 52 8)))) → (inR ((u : Int) + 1) ∧ (Ev Γ 3 mX1_findWay 160 [some (.inr (some 52)), some (.inl root), some (.inl (if Z 52 8 ≤ Z 52 7 then 0 else 1)), some (.inl (min (Z 52 7) (Z 52 8))), some (.inl (max (Z 52 7) (Z 52 8))), some (.inl ((u : Int) + 1)), some (.inl 0), some (.inl ((Z 3 2 + 1) * (Z 3 2 + 1))), some (.inl w), none] [] (g, J6) (some (.inl (pb (WAY (zT Z) (zP Z) (Z 52 7) (zDf Z) root ≠ none))), (g, J)))))) ∧ ((¬ ((((fR (zT Z) (zP Z) (Z 52 7) (Z 52 8) (zDf Z) root u v).1 : Nat) : Int) ≤ (max (Z 52 7) (Z 52 8)))) → (inR ((v : Int) + 1) ∧ (Ev Γ 3 mX1_findWay 160 [some (.inr (some 52)), some (.inl root), some (.inl (if Z 52 8 ≤ Z 52 7 then 0 else 1)), some (.inl (min (Z 52 7) (Z 52 8))), some (.inl (max (Z 52 7) (Z 52 8))), some (.inl u), some (.inl ((v : Int) + 1)), some (.inl ((Z 3 2 + 1) * (Z 3 2 + 1))), some (.inl w), none] [] (g, J6) (some (.inl (pb (WAY (zT Z) (zP Z) (Z 52 7) (zDf Z) root ≠ none))), (g, J)))))) ∧ ((¬ ((((fR (zT Z) (zP Z) (Z 52 7) (Z 52 8) (zDf Z) root u v).1 : Nat) : Int) < (J6 15 2))) → ((some (.inl (pb (WAY (zT Z) (zP Z) (Z 52 7) (zDf Z) root ≠ none))) : Option AV) = some (.inl 1) ∧ J = J6)) ∧ FrM Z J ∧ (∀ s' : IF, WAY (zT Z) (zP Z) (Z 52 7) (zDf Z) root = some s' → Ag Z (Z 15 2).toNat s' J) := by
        intro J6 hJ6 j15 hAg
        by_cases hfound : (fR (zT Z) (zP Z) (Z 52 7) (Z 52 8) (zDf Z) root u v).1 = (Z 15 2).toNat
        · have hway := way_found hT hP hFR hDP hDf hr hL hlv hlu hfound
          refine ⟨J6, fun z => absurd z (by rw [j15, hfound]; omega), fun _ => ⟨pbs_t (by rw [hway]; exact fun z => (by cases z)), rfl⟩, hJ6, fun s' hs' => ?_⟩
          rw [hway] at hs'
          cases hs'
          exact hAg hfound
        · have hlt : (fR (zT Z) (zP Z) (Z 52 7) (Z 52 8) (zDf Z) root u v).1 < (Z 15 2).toNat := by omega
          by_cases hla : (((fR (zT Z) (zP Z) (Z 52 7) (Z 52 8) (zDf Z) root u v).1 : Nat) : Int) ≤ max (Z 52 7) (Z 52 8)
          · by_cases hea : (((fR (zT Z) (zP Z) (Z 52 7) (Z 52 8) (zDf Z) root u v).1 : Nat) : Int) ≤ min (Z 52 7) (Z 52 8)
            · have hway := way_none hT hP hFR hDP hL hlv hlu hea hlt
              exact ⟨J6, fun _ => ⟨fun _ => ⟨fun _ => ⟨pbs_f (fun z => z hway), rfl⟩, fun z => absurd hea z⟩, fun z => absurd hla z⟩, fun z => absurd (by rw [j15]; omega) z, hJ6, fun s' hs' => by rw [hway] at hs'; cases hs'⟩
            · obtain ⟨l1, l2, l3⟩ := way_early hT hP hFR hDP hDf hr hL hlv (by omega) hla hlt
              have l2' : (u : Int) + 1 ≤ Z 3 2 := l2
              have l3' : min (Z 52 7) (Z 52 8) < Z 15 2 := l3
              have hexp : ((u : Int) + 1) * (Z 3 2 + 1) = (u : Int) * (Z 3 2 + 1) + (Z 3 2 + 1) := by rw [Int.add_mul, Int.one_mul]
              obtain ⟨J, j1, j2⟩ := ih (u + 1) 0 (w + 1) J6 (by omega) (by omega) (by rw [show ((u + 1 : Nat) : Int) = (u : Int) + 1 by omega, hexp]; omega) (by omega) (by omega) l1 (fun _ => rfl) (fun z => by omega) hJ6
              exact ⟨J, fun _ => ⟨fun _ => ⟨fun z => absurd z hea, fun _ => ⟨by unfold inR; omega, v_X1_findWay_160 hg root _ _ _ _ _ _ w ⟨by unfold inR; omega, j1⟩⟩⟩, fun z => absurd hla z⟩, fun z => absurd (by rw [j15]; omega) z, j2⟩
          · obtain ⟨l1, l2, l3⟩ := way_late hT hP hFR hDP hDf hr hL (by omega) hlt
            have l2' : (v : Int) + 1 ≤ Z 3 2 := l2
            have l3' : max (Z 52 7) (Z 52 8) < Z 15 2 := l3
            obtain ⟨J, j1, j2⟩ := ih u (v + 1) (w + 1) J6 (by omega) (by omega) (by omega) hu (by omega) l1 (fun z => by omega) hlu hJ6
            exact ⟨J, fun _ => ⟨fun z => absurd z hla, fun _ => ⟨by unfold inR; omega, v_X1_findWay_160 hg root _ _ _ _ _ _ w ⟨by unfold inR; omega, j1⟩⟩⟩, fun z => absurd (by rw [j15]; omega) z, j2⟩
      by_cases hz : Z 52 8 ≤ Z 52 7
      · obtain ⟨J6, t1, t2, t3, t4⟩ := try1 v u (fun _ => ⟨rfl, rfl⟩) (fun z => absurd hz z)
        obtain ⟨J, c1, c2, c3⟩ := cont J6 t2 t3 t4
        rw [if_pos hz] at c1 ⊢
        refine ⟨J, v_X1_findWay_72 hg root 0 _ _ u v _ w ⟨fun z => absurd z (by omega), fun _ => ⟨fun _ => ?_, fun z => absurd rfl z⟩⟩, c3⟩
        rintro _ rfl
        refine ⟨fun _ => ?_, fun z => absurd rfl z⟩
        rintro _ rfl
        exact ⟨_, J6, t1, c1, c2⟩
      · obtain ⟨J6, t1, t2, t3, t4⟩ := try1 u v (fun z => absurd z hz) (fun _ => ⟨rfl, rfl⟩)
        obtain ⟨J, c1, c2, c3⟩ := cont J6 t2 t3 t4
        rw [if_neg hz] at c1 ⊢
        refine ⟨J, v_X1_findWay_72 hg root 1 _ _ u v _ w ⟨fun z => absurd z (by omega), fun _ => ⟨fun z => absurd z (by decide), fun _ => ?_⟩⟩, c3⟩
        rintro _ rfl
        refine ⟨fun z => absurd z (by decide), fun _ => ?_⟩
        rintro _ rfl
        exact ⟨_, J6, t1, c1, c2⟩
  obtain ⟨J, j1, j2⟩ := lp _ 0 0 0 I rfl (by decide) (by omega) (by omega) (by omega) ⟨fun u' hu' => by omega, fun v' hv' => by omega⟩ (fun _ => rfl) (fun _ => rfl) hF
  refine ⟨J, CT.of oX1_findWay (Nat.le_of_ble_eq_true rfl) (Nat.le_refl _) (Nat.le_refl _) (v_X1_findWay_0 hg root ?_), j2⟩
  rw [v4, v5, i3]
  refine ⟨fun z => ?_, fun z => ?_⟩
  · rw [if_pos z] at j1
    rintro _ rfl _ rfl
    refine ⟨by unfold inR; omega, by unfold inR; omega, by unfold inR; omega, ?_⟩
    rintro _ rfl
    exact j1
  · rw [if_neg z] at j1
    rintro _ rfl _ rfl
    refine ⟨by unfold inR; omega, by unfold inR; omega, by unfold inR; omega, ?_⟩
    rintro _ rfl
    exact j1
end FW
