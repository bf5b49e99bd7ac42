/-- behind what the class writes -/
def FrT (I J : IF) : Prop := ∀ a k : Nat, a ≠ 40 → a ≠ 65 → (a ≠ 39 ∨ k ≠ 1) → J a k = I a k
section FIC
variable {Γ : GX} {g : AG} {I J X K T : IF} {S : Int → Prop} {sg : Nat → List Int} {B C : List Int} {w a m : Int}
theorem FrT.rf : FrT I I := fun _ _ _ _ _ => rfl
theorem FrT.tr (h : FrT I J) (h2 : FrT J K) : FrT I K := fun a k z y x => (h2 a k z y x).trans (h a k z y x)
theorem FrS.ft (h : FrS I J) : FrT I J := fun a k z _ x => h a k z x
theorem FrG.ft (h : FrG I J) : FrT I J := fun a k _ y _ => h a k y
theorem FrT.ct (h : FrT I J) {t : Nat} (ht : t = 3 ∨ t = 15 ∨ t = 27) : ct t J = ct t I := ct_eq (t := t) (fun i k hi => h _ _ (by omega) (by omega) (by omega))
theorem FrT.lets (h : FrT I J) (l : Nat) : fn J l = fn I l ∧ hm J l = hm I l := by
  unfold fn hm
  rw [h 25 l (by decide) (by decide) (by omega), h 53 _ (by decide) (by decide) (by omega), h 54 _ (by decide) (by decide) (by omega)]
  exact ⟨rfl, rfl⟩
/-- the template filled, pure -/
noncomputable def tmpl (X : IF) (N : Nat → Prop) (sg : Nat → List Int) : List Int := cat (cb X (SS X N (X 0 2).toNat) sg) (X 5 0 - X 3 0).toNat (X 3 0).toNat
theorem cb_s {i : Nat} (h : S i) : cb X S sg i = [] := cif_t h
theorem cb_g {i : Nat} (h : ¬ S i) (h2 : sgnb X i) : cb X S sg i = sg (X 1 (i + 1) - 97).toNat := by
  unfold cb
  rw [cif_f h, cif_t h2]
theorem cb_l {i : Nat} (h2 : ¬ sgnb X i) (h3 : lpos X i) : cb X S sg i = [] := by
  unfold cb
  by_cases h : S i
  · rw [cif_t h]
  · rw [cif_f h, cif_f h2, cif_t h3]
theorem cb_b {i : Nat} (h : ¬ S i) (h2 : ¬ sgnb X i) (h3 : ¬ lpos X i) : cb X S sg i = [X 1 i] := by
  unfold cb
  rw [cif_f h, cif_f h2, cif_f h3]
/-- FILLTEMPLATE -/
theorem c_fillTemplate (hg : GOc g) (hT : TOK 0 (ct 3 I)) (hP : TOK 1 (ct 15 I)) (hX : TOK 2 (ct 27 I)) (hl : I 27 1 ≤ 80) (hB : SB I B)
    (hL : ∀ q : Nat, (q : Int) < I 27 2 → (I 29 q = 1 ∨ I 29 q = 2) → ¬ Non (ct 27 I) I q → fn I (I 36 q).toNat ≠ -1 ∧ LF (ct 3 I) (fn I (I 36 q).toNat) (hm I (I 36 q).toNat)) :
    ∃ (r : Int) (J : IF), CT Γ 3 mX3_fillTemplate [.inr (some 64), .inr (some 39)] (g, I) (some (.inl r), (g, J)) ∧ (r = 0 ∨ r = 1) ∧ FrT I J ∧ Out J (B ++ tmpl (ct 27 I) (Non (ct 27 I) I) (fun l => sgf (ct 3 I) (fn I l) (hm I l))) r := by
  obtain ⟨D, d1, d2, d3⟩ := c_dropRowsOfNone (Γ := Γ) hg hP hX hl
  have hc : 1 ≤ I 27 2 ∧ I 27 2 ≤ 120 := hX.1.2.1
  have s : ∀ q : Nat, (q : Int) < I 27 2 → 0 ≤ I 30 q ∧ I 30 q < I 31 q ∧ I 31 q ≤ I 32 q ∧ I 32 q ≤ I 27 1 := hX.2.2.2.2.1.1
  have s0 := s 0 (by omega)
  have hlen : (ct 27 I) 0 1 = I 27 1 := rfl
  have x1 : ∀ j : Nat, (ct 27 I) 1 j = I 28 j := fun _ => rfl
  have lp : ∀ (n i : Nat) (K : IF) (B : List Int), (n : Int) = I 32 0 - i → I 30 0 ≤ i → FrT D K → (∀ k : Nat, K 65 k = D 65 k) → SB K B → ¬ lpos (ct 27 I) i →
      ∃ (r : Int) (J : IF), Ev Γ 3 mX3_fillTemplate 32 [some (.inr (some 64)), some (.inr (some 39)), some (.inl (I 32 0)), some (.inl 0), some (.inl i), none, none] [] (g, K) (some (.inl r), (g, J)) ∧ (r = 0 ∨ r = 1) ∧ FrT D J ∧ Out J (B ++ cat (cb (ct 27 I) (SS (ct 27 I) (Non (ct 27 I) I) (I 27 2).toNat) (fun l => sgf (ct 3 I) (fn I l) (hm I l))) n i) r := by
    intro n
    induction n using Nat.strongRecOn with
    | ind n ih =>
      intro i K B hn hi hK h65 hB hnl
      cases n with
      | zero =>
        refine ⟨1, K, v_X3_fillTemplate_32 hg 39 tr39 _ 0 i ⟨fun _ => ⟨rfl, rfl⟩, fun z => absurd (show I 32 0 ≤ (i : Int) by omega) z⟩, Or.inr rfl, hK, ?_⟩
        rw [cat, List.append_nil]
        exact ⟨fun _ => ⟨rfl, hB⟩, fun z => by have := hB.2.1; omega⟩
      | succ n =>
        have fd := d2.ft.tr hK
        have k28 : ∀ j : Nat, K 28 j = I 28 j := fun j => fd 28 j (by decide) (by decide) (by omega)
        have hi80 : i < 80 := by omega
        have g65 : K 65 i ≠ 0 ↔ SS (ct 27 I) (Non (ct 27 I) I) (I 27 2).toNat i := by rw [h65]; exact d3 i hi80
        by_cases hs : sgnb (ct 27 I) i
        · obtain ⟨q, q1, q2, q3⟩ := sgn_p hX (by rw [hlen]; omega) hs
          have lt := let_p hX q1 q2
          have i0 := in0 hX q1
          have i0' : ct 27 I 5 q ≤ I 32 0 := i0.1
          have ei : (ct 27 I 3 q).toNat = i := by omega
          rw [ei] at lt
          have nl := no_lpos2 hX q1 q2
          rw [ei] at nl
          have sl := SS_let hX (Non.nr (X := ct 27 I) (I := I)) (k := (I 27 2).toNat) q1 q2
          rw [q3] at sl
          have c1 : I 28 (i + 1) = ct 27 I 9 q + 97 := lt.2.2.2.2
          obtain ⟨n', rfl⟩ : ∃ n', n = n' + 1 := ⟨n - 1, by omega⟩
          have g65' : K 65 (i + 1) ≠ 0 ↔ SS (ct 27 I) (Non (ct 27 I) I) (I 27 2).toNat (i : Int) := by
            rw [h65, d3 (i + 1) (by omega), sl]
            exact Iff.rfl
          -- at the sign, then at the letter
          have first : ∀ {r : Int} {J : IF}, Ev Γ 3 mX3_fillTemplate 32 [some (.inr (some 64)), some (.inr (some 39)), some (.inl (I 32 0)), some (.inl 1), some (.inl ((i : Int) + 1)), none, none] [] (g, K) (some (.inl r), (g, J)) → Ev Γ 3 mX3_fillTemplate 32 [some (.inr (some 64)), some (.inr (some 39)), some (.inl (I 32 0)), some (.inl 0), some (.inl i), none, none] [] (g, K) (some (.inl r), (g, J)) := fun {r J} e => by
            refine v_X3_fillTemplate_32 hg 39 tr39 _ 0 i ⟨fun z => absurd z (by omega), fun _ => ⟨⟨by omega, by omega⟩, fun y ey => ⟨fun _ => ⟨fun _ => ⟨by unfold inR; omega, e⟩, fun z => ⟨fun x => ?_, fun _ => ⟨by unfold inR; omega, e⟩⟩⟩, fun z => absurd rfl z⟩⟩⟩
            rw [Int.toNat_natCast, k28] at ey
            rcases hs with h | h
            · rw [x1] at h; omega
            · rw [x1] at h; omega
          by_cases hgo : SS (ct 27 I) (Non (ct 27 I) I) (I 27 2).toNat (i : Int)
          · obtain ⟨r, J, j1, j2, j3, j4⟩ := ih n' (by omega) (i + 2) K B (by omega) (by omega) hK h65 hB nl.1
            have e1 := cb_s (X := ct 27 I) (sg := fun l => sgf (ct 3 I) (fn I l) (hm I l)) hgo
            have e2 := cb_s (X := ct 27 I) (sg := fun l => sgf (ct 3 I) (fn I l) (hm I l)) (i := i + 1) (show SS (ct 27 I) (Non (ct 27 I) I) (I 27 2).toNat ((i + 1 : Nat) : Int) from sl.1 hgo)
            refine ⟨r, J, first (v_X3_fillTemplate_32 hg 39 tr39 _ 1 ((i : Int) + 1) ⟨fun z => absurd z (by omega), fun _ => ⟨⟨by omega, by omega⟩, fun y ey => ⟨fun z => absurd z (by decide), fun _ => ⟨⟨by omega, by omega⟩, fun _ => ⟨by unfold inR; omega, ?_⟩, fun z => absurd z ?_⟩⟩⟩⟩), j2, j3, ?_⟩
            · rw [show (i : Int) + 1 + 1 = ((i + 2 : Nat) : Int) by omega]
              exact j1
            · rw [show ((i : Int) + 1).toNat = i + 1 by omega]
              exact g65'.2 hgo
            · rw [cat, cat, e1, e2, List.nil_append, List.nil_append]
              exact j4
          · have hnq : ¬ Non (ct 27 I) I q := fun z => hgo (by
              have := (SS_3 hX (Non.nr (X := ct 27 I) (I := I)) (k := (I 27 2).toNat) q1).2 ⟨by have q1' : (q : Int) < I 27 2 := q1; omega, z⟩
              rw [q3] at this
              exact this)
            obtain ⟨f1, f2⟩ := hL q q1 q2 hnq
            have fe := fd.lets (I 36 q).toNat
            obtain ⟨r1, L, l1, l2, l3⟩ := c_fillLetter (Γ := Γ) (I := K) (B := B) hg (by rw [fd.ct (Or.inl rfl)]; exact hT) (by rw [fd.ct (Or.inr (Or.inl rfl))]; exact hP) (l := (I 36 q).toNat) (by have : ct 27 I 9 q = I 36 q := rfl; omega) (by rw [fe.1]; exact f1) (by rw [fd.ct (Or.inl rfl), fe.1, fe.2]; exact f2) hB
            rw [fd.ct (Or.inl rfl), fe.1, fe.2] at l3
            have e36 : ct 27 I 9 q = I 36 q := rfl
            have ea : ((I 36 q).toNat : Int) = K 28 ((i : Int) + 1).toNat - 97 := by
              rw [show ((i : Int) + 1).toNat = i + 1 by omega, k28, c1, e36]
              omega
            rw [ea] at l1
            have e1 : cb (ct 27 I) (SS (ct 27 I) (Non (ct 27 I) I) (I 27 2).toNat) (fun l => sgf (ct 3 I) (fn I l) (hm I l)) i = sgf (ct 3 I) (fn I (I 36 q).toNat) (hm I (I 36 q).toNat) := by
              rw [cb_g hgo hs, x1, c1, e36, show I 36 q + 97 - 97 = I 36 q by omega]
            have e2 := cb_l (S := SS (ct 27 I) (Non (ct 27 I) I) (I 27 2).toNat) (sg := fun l => sgf (ct 3 I) (fn I l) (hm I l)) (i := i + 1) nl.2 ⟨by omega, by rw [Nat.add_sub_cancel]; exact hs⟩
            have ecat : cat (cb (ct 27 I) (SS (ct 27 I) (Non (ct 27 I) I) (I 27 2).toNat) (fun l => sgf (ct 3 I) (fn I l) (hm I l))) (n' + 1 + 1) i = sgf (ct 3 I) (fn I (I 36 q).toNat) (hm I (I 36 q).toNat) ++ cat (cb (ct 27 I) (SS (ct 27 I) (Non (ct 27 I) I) (I 27 2).toNat) (fun l => sgf (ct 3 I) (fn I l) (hm I l))) n' (i + 2) := by
              rw [cat, cat, e1, e2, List.nil_append]
            rw [ecat, ← List.append_assoc]
            have second : ∀ {r : Int} {J : IF}, ((r1 = 0) → r = 0 ∧ J = L) → ((¬ r1 = 0) → Ev Γ 3 mX3_fillTemplate 32 [some (.inr (some 64)), some (.inr (some 39)), some (.inl (I 32 0)), some (.inl 0), some (.inl ((i : Int) + 1 + 1)), none, none] [] (g, L) (some (.inl r), (g, J))) → Ev Γ 3 mX3_fillTemplate 32 [some (.inr (some 64)), some (.inr (some 39)), some (.inl (I 32 0)), some (.inl 0), some (.inl i), none, none] [] (g, K) (some (.inl r), (g, J)) := fun {r J} h1 h2 => by
              refine first (v_X3_fillTemplate_32 hg 39 tr39 _ 1 ((i : Int) + 1) ⟨fun z => absurd z (by omega), fun _ => ⟨⟨by omega, by omega⟩, fun y ey => ⟨fun z => absurd z (by decide), fun _ => ⟨⟨by omega, by omega⟩, fun z => ?_, fun _ => ⟨?_, r1, L, ?_, fun z => ⟨by rw [(h1 z).1], (h1 z).2⟩, fun z => ⟨by unfold inR; omega, h2 z⟩⟩⟩⟩⟩⟩)
              · rw [show ((i : Int) + 1).toNat = i + 1 by omega] at z
                exact absurd (g65'.1 z) hgo
              · rw [ey, ← ea]
                unfold inR
                omega
              · rw [ey]; exact l1
            by_cases hfit : (B ++ sgf (ct 3 I) (fn I (I 36 q).toNat) (hm I (I 36 q).toNat)).length ≤ 240
            · obtain ⟨r1e, sb1⟩ := l3.1 hfit
              obtain ⟨r, J, j1, j2, j3, j4⟩ := ih n' (by omega) (i + 2) L _ (by omega) (by omega) (hK.tr l2.ft) (fun k => (l2 65 k (by decide) (by omega)).trans (h65 k)) sb1 nl.1
              refine ⟨r, J, second (fun z => by omega) (fun _ => ?_), j2, j3, j4⟩
              rw [show (i : Int) + 1 + 1 = ((i + 2 : Nat) : Int) by omega]
              exact j1
            · have r0 := l3.2 (by omega)
              exact ⟨0, L, second (fun _ => ⟨rfl, rfl⟩) (fun z => absurd r0 z), Or.inl rfl, hK.tr l2.ft, (Out.long l3 (by omega) 0).2 rfl⟩
        · have hnl2 : ¬ lpos (ct 27 I) (i + 1) := fun z => hs (by have := z.2; rw [Nat.add_sub_cancel] at this; exact this)
          have c0 : ∀ {y : Int}, y = K 28 (i : Int).toNat → ¬ y = 63 ∧ ¬ y = 42 := fun {y} ey => by
            rw [Int.toNat_natCast, k28, ← x1] at ey
            rw [ey]
            exact ⟨fun z => hs (Or.inl z), fun z => hs (Or.inr z)⟩
          by_cases hgo : SS (ct 27 I) (Non (ct 27 I) I) (I 27 2).toNat (i : Int)
          · obtain ⟨r, J, j1, j2, j3, j4⟩ := ih n (by omega) (i + 1) K B (by omega) (by omega) hK h65 hB hnl2
            refine ⟨r, J, v_X3_fillTemplate_32 hg 39 tr39 _ 0 i ⟨fun z => absurd z (by omega), fun _ => ⟨⟨by omega, by omega⟩, fun y ey => ⟨fun _ => ⟨fun z => absurd z (c0 ey).1, fun _ => ⟨fun _ => ⟨⟨by omega, by omega⟩, fun _ => ⟨by unfold inR; omega, j1⟩, fun z => absurd z ?_⟩, fun z => absurd z (c0 ey).2⟩⟩, fun z => absurd rfl z⟩⟩⟩, j2, j3, ?_⟩
            · rw [Int.toNat_natCast]; exact g65.2 hgo
            · rw [cat, cb_s hgo, List.nil_append]
              exact j4
          · obtain ⟨r1, L, l1, l2, l3⟩ := c_app (Γ := Γ) (X := ct 27 I) hg hB (b := 28) ⟨Or.inr rfl, gs_28 hg⟩ (x := (i : Int)) (y := (i : Int) + 1) ⟨by omega, by omega, by omega⟩ (fun j _ _ => k28 j)
            rw [byt_one] at l3
            rw [cat, cb_b hgo hs hnl, ← List.append_assoc]
            have go : ∀ {r : Int} {J : IF}, ((r1 = 0) → r = 0 ∧ J = L) → ((¬ r1 = 0) → Ev Γ 3 mX3_fillTemplate 32 [some (.inr (some 64)), some (.inr (some 39)), some (.inl (I 32 0)), some (.inl 0), some (.inl ((i : Int) + 1)), none, none] [] (g, L) (some (.inl r), (g, J))) → Ev Γ 3 mX3_fillTemplate 32 [some (.inr (some 64)), some (.inr (some 39)), some (.inl (I 32 0)), some (.inl 0), some (.inl i), none, none] [] (g, K) (some (.inl r), (g, J)) := fun {r J} h1 h2 => by
              refine v_X3_fillTemplate_32 hg 39 tr39 _ 0 i ⟨fun z => absurd z (by omega), fun _ => ⟨⟨by omega, by omega⟩, fun y ey => ⟨fun _ => ⟨fun z => absurd z (c0 ey).1, fun _ => ⟨fun _ => ⟨⟨by omega, by omega⟩, fun z => absurd (g65.1 ?_) hgo, fun _ => ⟨by unfold inR; omega, r1, L, l1, fun z => ⟨by rw [(h1 z).1], (h1 z).2⟩, fun z => ⟨by unfold inR; omega, h2 z⟩⟩⟩, fun z => absurd z (c0 ey).2⟩⟩, fun z => absurd rfl z⟩⟩⟩
              rw [Int.toNat_natCast] at z
              exact z
            by_cases hfit : (B ++ [ct 27 I 1 i]).length ≤ 240
            · obtain ⟨r1e, sb1⟩ := l3.1 hfit
              obtain ⟨r, J, j1, j2, j3, j4⟩ := ih n (by omega) (i + 1) L _ (by omega) (by omega) (hK.tr l2.ft) (fun k => (l2 65 k (by decide) (by omega)).trans (h65 k)) sb1 hnl2
              exact ⟨r, J, go (fun z => by omega) (fun _ => j1), j2, j3, j4⟩
            · have r0 := l3.2 (by omega)
              exact ⟨0, L, go (fun _ => ⟨rfl, rfl⟩) (fun z => absurd r0 z), Or.inl rfl, hK.tr l2.ft, (Out.long l3 (by omega) 0).2 rfl⟩
  have nl0 : ¬ lpos (ct 27 I) (I 30 0).toNat := fun z => by
    obtain ⟨q, q1, q2, q3⟩ := sgn_p hX (by rw [hlen]; omega) z.2
    have a := (in0 hX q1).2
    have a' : I 30 0 ≤ ct 27 I 3 q := a
    have := z.1
    omega
  obtain ⟨r, J, j1, j2, j3, j4⟩ := lp (I 32 0 - I 30 0).toNat (I 30 0).toNat D B (by omega) (by omega) FrT.rf (fun _ => rfl) (hB.mv (d2 39 1 (by decide)) (fun k => d2 40 k (by decide))) nl0
  refine ⟨r, J, CT.of (R := (some (.inl r), (g, J))) oX3_fillTemplate (Nat.le_of_ble_eq_true rfl) (Nat.le_refl _) (Nat.le_refl _) (v_X3_fillTemplate_0 hg 39 tr39 ⟨D, d1, fun y5 e5 y7 e7 => ?_⟩), j2, d2.ft.tr j3, j4⟩
  rw [d2 32 0 (by decide), Int.min_eq_left (by omega)] at e5
  rw [d2 30 0 (by decide)] at e7
  rw [e5, e7]
  rw [show (((I 30 0).toNat : Nat) : Int) = I 30 0 by omega] at j1
  exact j1
end FIC
