section TAK2
variable {Γ : GX} {g : AG} {I J X L : IF} {w : Int}
/-- no differences -/
theorem zDf_0 (h : ∀ k : Nat, k < 26 → I 58 k = 0) (a b : Nat) : ¬ zDf I a b := by
  rw [zDf_tb]
  intro z
  rw [h a z.1] at z
  have e : ∀ n : Nat, n < 32 → tb 0 n = false := by decide +kernel
  have := z.2.2
  rw [e b (by omega)] at this
  cases this
/-- TAKE -/
theorem q_take (hg : GOk g) (h : Inv I) (x : Int) : Q2 Γ g I 6 mX6_take [.inl x] 63 mX8_take [.inl x] := by
  have hT := h.1.1
  by_cases hw : x = 0 ∨ ((x = 1 ∨ x = 2) ∧ I 1 1 ≤ 80)
  · have c1 := c_readTape (Γ := Γ) hg.c hT hw
    have hkc := kc_r hT
    by_cases hr : (RR (kStart x (kc I))).1 = -1
    · rw [hr] at c1
      obtain ⟨t1, t2, t3⟩ := RR_51 (w := x) (Kc := kc I) (by omega) hkc.1 hkc.2 hr
      have hR2 : (RR (kStart x (kc I))).2 39 2 ≤ 120 := t1.1.2.1.2
      -- the reference, up to its reading
      have mgo : ∀ {u : Nat} {J : IF}, Mt u → u ≠ 112 → J 80 2 = I 80 2 → (∀ j : Nat, J 81 j = I 81 j) → ∃ L1 L : IF, CT Γ 62 mX8_fault [.inr (some 80), .inl x] (g, J) (some (.inl (-1)), (sT g 112, L1)) ∧ CT Γ 61 mX8_read [.inr (some 80), .inr (some u), .inr (some 81), .inl 0, .inl (L1 80 2), .inl x] (sT g 112, L1) (some (.inl (-1)), (sT (sT g 112) u, L)) ∧
          (∀ a k : Nat, ((a ≠ 80 ∧ a ≠ 135 ∧ (a < 112 ∨ 121 < a) ∧ (a < u ∨ u + 9 < a)) ∨ (a = 80 ∧ k ≠ 0 ∧ (k < 13 ∨ 19 < k))) → L a k = J a k) ∧ TR (tv 39 (RR (kStart x (kc I))).2) (tv u L) := fun {u J} hu hu2 e80 e81 => by
        obtain ⟨L1, l1, l2⟩ := m_fault (Γ := Γ) (I := I) (J := J) (w := x) hg hT e80 e81 hw
        rw [hr] at l1
        obtain ⟨L, m1, m2, m3⟩ := m_tape (Γ := Γ) (I := I) (J := L1) (u := u) (w := x) (gS hg) hT ((l2 80 2 (by omega)).trans e80) (fun j => (l2 81 j (by omega)).trans (e81 j)) hu (by omega)
        rw [hr] at m1
        obtain ⟨s1, s2⟩ := m3 hr
        exact ⟨L1, L, l1, m1, fun a k z => (m2 a k (by omega)).trans (l2 a k (by omega)), TR_of s1 s2 hR2⟩
      have h' := h.2
      have hB := h.1
      obtain ⟨b1, b2, b3, b4, b5, b6, b7⟩ := hB
      by_cases h0 : x = 0
      · subst h0
        obtain ⟨A, a1, a2, a3, a4, a5⟩ := c_adopt0 (Γ := Γ) hg.c t1
        have af : ∀ a k : Nat, (a < 3 ∨ 14 < a) → (a < 39 ∨ 51 < a) → (a ≠ 52 ∨ k ≠ 15) → A a k = I a k := fun a k z1 z2 z3 => (a2 a k z1 z3).trans (kc_f z2)
        have fg := c_forget (Γ := Γ) (I := mset A 1 1 0) hg.c
        obtain ⟨L1, L, l1, l2, l3, l4⟩ := mgo (u := 82) (J := mset (mset A 1 1 0) 66 3 0) (by unfold Mt; omega) (by decide) (by
            rw [mset_a _ _ (by decide), mset_a _ _ (by decide)]; exact af 80 2 (by omega) (by omega) (by omega)) (fun j => by
            rw [mset_a _ _ (by decide), mset_a _ _ (by decide)]; exact af 81 j (by omega) (by omega) (by omega))
        have cl : CT Γ 6 mX6_take [.inr (some 1), .inl 0] (g, I) (some (.inl 1), (g, mset (mset A 1 1 0) 66 3 0)) := by
          refine CT.of (R := (some (.inl 1), (g, mset (mset A 1 1 0) 66 3 0))) oX6_take (Nat.le_of_ble_eq_true rfl) (Nat.le_refl _) (Nat.le_refl _) (v_X6_take_0 hg.c 0 ⟨_, _, c1, fun _ => ⟨_, a1, ?_⟩, fun z => absurd rfl z⟩)
          intro I8 e8
          subst e8
          exact ⟨fun z => absurd rfl z, fun _ => ⟨_, fg, rfl, rfl⟩⟩
        have md : CT Γ 63 mX8_take [.inr (some 80), .inl 0] (g, mset (mset A 1 1 0) 66 3 0) (some (.inl 1), (sT (sT g 112) 82, mset (mset L 80 2 0) 80 10 0)) := by
          refine CT.of (R := (some (.inl 1), (sT (sT g 112) 82, mset (mset L 80 2 0) 80 10 0))) oX8_take (Nat.le_of_ble_eq_true rfl) (Nat.le_refl _) (Nat.le_refl _) (v_X8_take_0 (gf := sT (sT g 112) 82) hg rfl 0 ⟨_, _, _, l1, gS hg, rfl, fun _ => ⟨fun z => absurd rfl z, fun _ => ⟨_, _, _, l2, gS (gS hg), rfl, ?_⟩⟩, fun z => absurd rfl z⟩)
          intro I26 e26
          subst e26
          refine ⟨fun z => absurd rfl z, fun _ I28 e28 => ?_⟩
          subst e28
          exact v_X8_take_67 (gf := sT (sT g 112) 82) (gS (gS hg)) rfl 0 ⟨fun _ => v_X8_take_96 (gf := sT (sT g 112) 82) (gS (gS hg)) rfl ⟨rfl, rfl, rfl⟩, fun z => absurd z (by decide)⟩
        have cells : ∀ a k : Nat, a ≠ 1 → (a < 3 ∨ 14 < a) → (a < 39 ∨ 51 < a) → (a ≠ 52 ∨ k ≠ 15) → (a ≠ 66 ∨ k ≠ 3) → ((a ≠ 80 ∧ a ≠ 135 ∧ (a < 82 ∨ 91 < a) ∧ (a < 112 ∨ 121 < a)) ∨ (a = 80 ∧ k ≠ 0 ∧ k ≠ 2 ∧ k ≠ 10 ∧ (k < 13 ∨ 19 < k))) → (mset (mset L 80 2 0) 80 10 0) a k = I a k := fun a k z1 z2 z3 z4 z5 z6 => by
          unfold mset
          rw [if_neg (by omega), if_neg (by omega), l3 a k (by omega)]
          unfold mset
          rw [if_neg (by omega), if_neg (by omega)]
          exact af a k z2 z3 z4
        have n : ∀ a k : Nat, (a ≠ 80 ∧ a ≠ 135 ∧ (a < 82 ∨ 91 < a) ∧ (a < 112 ∨ 121 < a)) → a ≠ 1 → a ≠ 66 → (mset (mset L 80 2 0) 80 10 0) a k = A a k := fun a k z1 z2 z3 => by
          rw [mset_a _ _ z1.1, mset_a _ _ z1.1, l3 a k (by omega), mset_a _ _ z3, mset_a _ _ z2]
        have ct3 : ct 3 (mset (mset L 80 2 0) 80 10 0) = ct 3 A := ct_eq (t := 3) (fun i k hi => n _ _ (by omega) (by omega) (by omega))
        have zp : ct 15 (mset (mset L 80 2 0) 80 10 0) = ct 15 I := ct_eq (t := 15) (fun i k hi => cells _ _ (by omega) (by omega) (by omega) (by omega) (by omega) (by omega))
        have z27 : ct 27 (mset (mset L 80 2 0) 80 10 0) = ct 27 I := ct_eq (t := 27) (fun i k hi => cells _ _ (by omega) (by omega) (by omega) (by omega) (by omega) (by omega))
        have zd : zDf (mset (mset L 80 2 0) 80 10 0) = zDf I := by
          funext a b
          unfold zDf
          rw [cells 58 _ (by omega) (by omega) (by omega) (by omega) (by omega) (by omega)]
        have u3 : (mset (mset L 80 2 0) 80 10 0) 66 3 = 0 := by
          rw [mset_a _ _ (by decide), mset_a _ _ (by decide), l3 66 3 (by omega), mset_s]
        have u1 : (mset (mset L 80 2 0) 80 10 0) 1 1 = 0 := by
          rw [mset_a _ _ (by decide), mset_a _ _ (by decide), l3 1 1 (by omega), mset_a _ _ (by decide), mset_s]
        have s52 : ∀ k : Nat, k ≠ 15 → (mset (mset L 80 2 0) 80 10 0) 52 k = I 52 k := fun k hk => cells 52 k (by omega) (by omega) (by omega) (by omega) (by omega) (by omega)
        have e152 : (mset (mset L 80 2 0) 80 10 0) 15 2 = I 15 2 := cells 15 2 (by omega) (by omega) (by omega) (by omega) (by omega) (by omega)
        have e151 : (mset (mset L 80 2 0) 80 10 0) 15 1 = I 15 1 := cells 15 1 (by omega) (by omega) (by omega) (by omega) (by omega) (by omega)
        have e27 : (mset (mset L 80 2 0) 80 10 0) 27 1 = I 27 1 := cells 27 1 (by omega) (by omega) (by omega) (by omega) (by omega) (by omega)
        refine ⟨1, _, _, _, cl, md, ⟨gS (gS hg), rfl, rfl⟩, ⟨⟨?_, ⟨by show TOK 0 (ct 3 _); rw [ct3]; exact t1.cg a3, by show TOK 1 (ct 15 _); rw [zp]; exact b2.2.1, by show SmO (ct 3 _) 0; rw [ct3]; exact a4, ?_, ?_, ?_, ?_, by rw [e151]; exact b2.2.2.2.2.2.2.2⟩, ⟨by rw [z27]; exact b3.1, by rw [e27]; exact b3.2⟩, ?_, ?_, ?_, ?_⟩, ?_⟩⟩
        · refine ⟨?_, by rw [u1]; decide, fun j hj => by rw [u1] at hj; omega⟩
          rw [u1, mset_k _ _ (by decide), mset_s]
        · intro p hp
          rw [e152] at hp
          rw [cells 57 p (by omega) (by omega) (by omega) (by omega) (by omega) (by omega)]
          show I 57 p = sgl (ct 15 _) p
          rw [zp]
          exact b2.2.2.2.1 p hp
        · show FRO (ct 15 _) _
          rw [zp, s52 7 (by decide)]
          exact b2.2.2.2.2.1
        · show DPO (ct 15 _) _
          rw [zp, s52 8 (by decide)]
          exact b2.2.2.2.2.2.1
        · rw [zd]; exact b2.2.2.2.2.2.2.1
        · rw [ct3]
          exact ⟨kc I, Or.inl rfl, hkc.1, hkc.2, hr, a3⟩
        · refine ⟨?_, ?_, ?_⟩
          · rw [ct3]
            exact (l4.cg a3).cgU (fun i k hi => by
              show (mset (mset L 80 2 0) 80 10 0) (82 + i) k = L (82 + i) k
              rw [mset_a _ _ (by omega), mset_a _ _ (by omega)])
          · rw [zp]
            exact b5.2.1.cgU (fun i k hi => cells (92 + i) k (by omega) (by omega) (by omega) (by omega) (by omega) (by omega))
          · rw [z27]
            exact b5.2.2.cgU (fun i k hi => cells (102 + i) k (by omega) (by omega) (by omega) (by omega) (by omega) (by omega))
        · exact b6.mv (fun k => cells 134 k (by omega) (by omega) (by omega) (by omega) (by omega) (by omega)) (fun k => cells 58 k (by omega) (by omega) (by omega) (by omega) (by omega) (by omega))
        · refine ⟨⟨by rw [u3, mset_s], by rw [u3]; decide, ?_⟩, fun i hi => by rw [u3] at hi; omega⟩
          rw [cells 66 2 (by omega) (by omega) (by omega) (by omega) (by omega) (by omega)]
          exact b7.1.2.2
        · intro z
          refine absurd ?_ z
          rw [n 52 15 (by omega) (by omega) (by omega)]
          exact a5
      · by_cases h1 : x = 1
        · subst h1
          have hlen : I 1 1 ≤ 80 := by omega
          obtain ⟨A, a1, a2, a3, a4, a5⟩ := c_adopt1 (Γ := Γ) hg.c t1
          have af : ∀ a k : Nat, (a < 15 ∨ 25 < a) → a ≠ 57 → (a < 39 ∨ 51 < a) → (a ≠ 52 ∨ (k ≠ 7 ∧ k ≠ 8 ∧ k ≠ 15)) → A a k = I a k := fun a k z1 z2 z3 z4 => (a2 a k z1 z2 z4).trans (kc_f z3)
          obtain ⟨F, f1, f2, f3, f4⟩ := c_forgetDifferences (Γ := Γ) (I := mset A 1 1 0) hg.c
          have ff : ∀ a k : Nat, a ≠ 58 → a ≠ 1 → (a ≠ 52 ∨ k ≠ 15) → F a k = A a k := fun a k z1 z2 z3 => (f2 a k z1 z3).trans (mset_a _ _ z2)
          obtain ⟨L1, L, l1, l2, l3, l4⟩ := mgo (u := 92) (J := F) (by unfold Mt; omega) (by decide) (by
              rw [ff 80 2 (by omega) (by omega) (by omega)]; exact af 80 2 (by omega) (by omega) (by omega) (by omega)) (fun j => by
              rw [ff 81 j (by omega) (by omega) (by omega)]; exact af 81 j (by omega) (by omega) (by omega) (by omega))
          obtain ⟨N, n1, n2, n3⟩ := m_take_74 (Γ := Γ) (g := sT (sT g 112) 92) (gS (gS hg)) 676 0 (mset L 80 2 0) rfl (fun k hk => by omega)
          have cl : CT Γ 6 mX6_take [.inr (some 1), .inl 1] (g, I) (some (.inl 1), (g, F)) := by
            refine CT.of (R := (some (.inl 1), (g, F))) oX6_take (Nat.le_of_ble_eq_true rfl) (Nat.le_refl _) (Nat.le_refl _) (v_X6_take_0 hg.c 1 ⟨_, _, c1, fun _ => ⟨_, a1, ?_⟩, fun z => absurd rfl z⟩)
            intro I8 e8
            subst e8
            exact ⟨fun _ => ⟨fun z => absurd rfl z, fun _ => ⟨_, f1, rfl, rfl⟩⟩, fun z => absurd z (by decide)⟩
          have md : CT Γ 63 mX8_take [.inr (some 80), .inl 1] (g, F) (some (.inl 1), (sT (sT g 112) 92, N)) := by
            refine CT.of (R := (some (.inl 1), (sT (sT g 112) 92, N))) oX8_take (Nat.le_of_ble_eq_true rfl) (Nat.le_refl _) (Nat.le_refl _) (v_X8_take_0 (gf := sT (sT g 112) 92) hg rfl 1 ⟨_, _, _, l1, gS hg, rfl, fun _ => ⟨fun _ => ⟨fun z => absurd rfl z, fun _ => ⟨_, _, _, l2, gS (gS hg), rfl, ?_⟩⟩, fun z => absurd z (by decide)⟩, fun z => absurd rfl z⟩)
            intro I26 e26
            subst e26
            exact ⟨fun _ => v_X8_take_67 (gf := sT (sT g 112) 92) (gS (gS hg)) rfl 1 ⟨fun z => absurd rfl z, fun _ => n1⟩, fun z => absurd z (by decide)⟩
          have n : ∀ a k : Nat, (a ≠ 80 ∧ a ≠ 134 ∧ a ≠ 135 ∧ (a < 92 ∨ 101 < a) ∧ (a < 112 ∨ 121 < a)) → a ≠ 1 → a ≠ 58 → (a ≠ 52 ∨ k ≠ 15) → N a k = A a k := fun a k z1 z2 z3 z4 => by
            rw [n2 a k (by omega), mset_a _ _ (by omega), l3 a k (by omega), ff a k z3 z2 z4]
          have cells : ∀ a k : Nat, (a ≠ 134 ∧ a ≠ 135 ∧ (a < 92 ∨ 101 < a) ∧ (a < 112 ∨ 121 < a)) → a ≠ 1 → a ≠ 58 → (a < 15 ∨ 25 < a) → a ≠ 57 → (a < 39 ∨ 51 < a) → (a ≠ 52 ∨ (k ≠ 7 ∧ k ≠ 8 ∧ k ≠ 15)) → (a ≠ 80 ∨ (k ≠ 0 ∧ k ≠ 2 ∧ (k < 13 ∨ 19 < k))) → N a k = I a k := fun a k z1 z2 z3 z4 z5 z6 z7 z8 => by
            rw [n2 a k (by omega)]
            unfold mset
            rw [if_neg (by omega), l3 a k (by omega), ff a k z3 z2 (by omega)]
            exact af a k z4 z5 z6 z7
          have ct3 : ct 3 N = ct 3 I := ct_eq (t := 3) (fun i k hi => cells _ _ (by omega) (by omega) (by omega) (by omega) (by omega) (by omega) (by omega) (by omega))
          have zp : ct 15 N = ct 15 A := ct_eq (t := 15) (fun i k hi => n _ _ (by omega) (by omega) (by omega) (by omega))
          have zp' : zP N = zP A := zp
          have z27 : ct 27 N = ct 27 I := ct_eq (t := 27) (fun i k hi => cells _ _ (by omega) (by omega) (by omega) (by omega) (by omega) (by omega) (by omega) (by omega))
          have n58 : ∀ k : Nat, k < 26 → N 58 k = 0 := fun k hk => by
            rw [n2 58 k (by omega), mset_a _ _ (by omega), l3 58 k (by omega)]
            exact f3 k hk
          have u1 : N 1 1 = 0 := by
            rw [n2 1 1 (by omega), mset_a _ _ (by omega), l3 1 1 (by omega), f2 1 1 (by omega) (by omega), mset_s]
          have e151 : N 15 1 ≤ 80 := by
            have q1 : A 15 1 = (RR (kStart 1 (kc I))).2 39 1 := a3.1
            rw [n 15 1 (by omega) (by omega) (by omega) (by omega), q1, t2, kc_l hT]
            exact hlen
          have e27 : N 27 1 = I 27 1 := cells _ _ (by omega) (by omega) (by omega) (by omega) (by omega) (by omega) (by omega) (by omega)
          refine ⟨1, _, _, _, cl, md, ⟨gS (gS hg), rfl, rfl⟩, ⟨⟨?_, ⟨by show TOK 0 (ct 3 _); rw [ct3]; exact b2.1, by show TOK 1 (ct 15 _); rw [zp]; exact t1.cg a3, by show SmO (ct 3 _) 0; rw [ct3]; exact b2.2.2.1, ?_, ?_, ?_, ?_, e151⟩, ⟨by rw [z27]; exact b3.1, by rw [e27]; exact b3.2⟩, ?_, ?_, ?_, ?_⟩, ?_⟩⟩
          · refine ⟨?_, by rw [u1]; decide, fun j hj => by rw [u1] at hj; omega⟩
            rw [u1, n2 80 2 (by omega), mset_s]
          · intro p hp
            rw [n 15 2 (by omega) (by omega) (by omega) (by omega)] at hp
            rw [n 57 p (by omega) (by omega) (by omega) (by omega), zp']
            exact a4.1 p hp
          · rw [zp', n 52 7 (by omega) (by omega) (by omega) (by omega)]
            exact a4.2.1
          · rw [zp', n 52 8 (by omega) (by omega) (by omega) (by omega)]
            exact a4.2.2
          · exact ⟨fun l => zDf_0 n58 l l, fun l o z => absurd z (zDf_0 n58 l o)⟩
          · rw [ct3]; exact b4
          · refine ⟨?_, ?_, ?_⟩
            · rw [ct3]
              exact b5.1.cgU (fun i k hi => cells (82 + i) k (by omega) (by omega) (by omega) (by omega) (by omega) (by omega) (by omega) (by omega))
            · rw [zp]
              exact (l4.cg a3).cgU (fun i k hi => by
                show N (92 + i) k = L (92 + i) k
                rw [n2 _ k (by omega), mset_a _ _ (by omega)])
            · rw [z27]
              exact b5.2.2.cgU (fun i k hi => cells (102 + i) k (by omega) (by omega) (by omega) (by omega) (by omega) (by omega) (by omega) (by omega))
          · intro a b ha hb
            rw [n3 (26 * a + b) (by omega)]
            exact ⟨Or.inl rfl, fun z => absurd rfl z, fun z => absurd z (zDf_0 n58 a b)⟩
          · exact b7.mv (fun a k z => cells a k (by omega) (by omega) (by omega) (by omega) (by omega) (by omega) (by omega) (by omega))
          · intro z
            refine absurd ?_ z
            rw [n2 52 15 (by omega), mset_a _ _ (by omega), l3 52 15 (by omega)]
            exact f4
        · obtain h2 : x = 2 := by omega
          subst h2
          have hlen : I 1 1 ≤ 80 := by omega
          obtain ⟨A, a1, a2, a3⟩ := c_adopt2 (Γ := Γ) hg.c t1
          have af : ∀ a k : Nat, (a < 27 ∨ 37 < a) → (a < 39 ∨ 51 < a) → A a k = I a k := fun a k z1 z2 => (a2 a k z1).trans (kc_f z2)
          obtain ⟨L1, L, l1, l2, l3, l4⟩ := mgo (u := 102) (J := mset A 1 1 0) (by unfold Mt; omega) (by decide) (by
              rw [mset_a _ _ (by decide)]; exact af 80 2 (by omega) (by omega)) (fun j => by
              rw [mset_a _ _ (by decide)]; exact af 81 j (by omega) (by omega))
          have cl : CT Γ 6 mX6_take [.inr (some 1), .inl 2] (g, I) (some (.inl 1), (g, mset A 1 1 0)) := by
            refine CT.of (R := (some (.inl 1), (g, mset A 1 1 0))) oX6_take (Nat.le_of_ble_eq_true rfl) (Nat.le_refl _) (Nat.le_refl _) (v_X6_take_0 hg.c 2 ⟨_, _, c1, fun _ => ⟨_, a1, ?_⟩, fun z => absurd rfl z⟩)
            intro I8 e8
            subst e8
            exact ⟨fun _ => ⟨fun _ => ⟨rfl, rfl⟩, fun z => absurd z (by decide)⟩, fun z => absurd z (by decide)⟩
          have md : CT Γ 63 mX8_take [.inr (some 80), .inl 2] (g, mset A 1 1 0) (some (.inl 1), (sT (sT g 112) 102, mset L 80 2 0)) := by
            refine CT.of (R := (some (.inl 1), (sT (sT g 112) 102, mset L 80 2 0))) oX8_take (Nat.le_of_ble_eq_true rfl) (Nat.le_refl _) (Nat.le_refl _) (v_X8_take_0 (gf := sT (sT g 112) 102) hg rfl 2 ⟨_, _, _, l1, gS hg, rfl, fun _ => ⟨fun _ => ⟨fun _ => ⟨_, _, _, l2, gS (gS hg), rfl, ?_⟩, fun z => absurd z (by decide)⟩, fun z => absurd z (by decide)⟩, fun z => absurd rfl z⟩)
            intro I26 e26
            subst e26
            exact ⟨fun _ => v_X8_take_67 (gf := sT (sT g 112) 102) (gS (gS hg)) rfl 2 ⟨fun _ => v_X8_take_96 (gf := sT (sT g 112) 102) (gS (gS hg)) rfl ⟨rfl, rfl, rfl⟩, fun z => absurd z (by decide)⟩, fun z => absurd z (by decide)⟩
          have cells : ∀ a k : Nat, (a ≠ 135 ∧ (a < 102 ∨ 121 < a)) → a ≠ 1 → (a < 27 ∨ 37 < a) → (a < 39 ∨ 51 < a) → (a ≠ 80 ∨ (k ≠ 0 ∧ k ≠ 2 ∧ (k < 13 ∨ 19 < k))) → (mset L 80 2 0) a k = I a k := fun a k z1 z2 z3 z4 z5 => by
            unfold mset
            rw [if_neg (by omega), l3 a k (by omega), mset_a _ _ z2]
            exact af a k z3 z4
          have n : ∀ a k : Nat, (a ≠ 80 ∧ a ≠ 135 ∧ (a < 102 ∨ 121 < a)) → a ≠ 1 → (mset L 80 2 0) a k = A a k := fun a k z1 z2 => by
            rw [mset_a _ _ z1.1, l3 a k (by omega), mset_a _ _ z2]
          have z27 : ct 27 (mset L 80 2 0) = ct 27 A := ct_eq (t := 27) (fun i k hi => n _ _ (by omega) (by omega))
          have ct3 : ct 3 (mset L 80 2 0) = ct 3 I := ct_eq (t := 3) (fun i k hi => cells _ _ (by omega) (by omega) (by omega) (by omega) (by omega))
          have zp : ct 15 (mset L 80 2 0) = ct 15 I := ct_eq (t := 15) (fun i k hi => cells _ _ (by omega) (by omega) (by omega) (by omega) (by omega))
          have sm : CSame I (mset L 80 2 0) := ⟨fun i k hi => cells _ _ (by omega) (by omega) (by omega) (by omega) (by omega), fun i k hi => cells _ _ (by omega) (by omega) (by omega) (by omega) (by omega), fun k => ⟨cells _ _ (by omega) (by omega) (by omega) (by omega) (by omega), cells _ _ (by omega) (by omega) (by omega) (by omega) (by omega)⟩, cells _ _ (by omega) (by omega) (by omega) (by omega) (by omega), cells _ _ (by omega) (by omega) (by omega) (by omega) (by omega)⟩
          have u1 : (mset L 80 2 0) 1 1 = 0 := by
            rw [mset_a _ _ (by decide), l3 1 1 (by omega), mset_s]
          refine ⟨1, _, _, _, cl, md, ⟨gS (gS hg), rfl, rfl⟩, ⟨⟨?_, b2.mv sm (cells _ _ (by omega) (by omega) (by omega) (by omega) (by omega)), ⟨by rw [z27]; exact t1.cg a3, ?_⟩, by rw [ct3]; exact b4, ?_, ?_, ?_⟩, ?_⟩⟩
          · refine ⟨?_, by rw [u1]; decide, fun j hj => by rw [u1] at hj; omega⟩
            rw [u1, mset_s]
          · have q1 : A 27 1 = (RR (kStart 2 (kc I))).2 39 1 := a3.1
            rw [n 27 1 (by omega) (by omega), q1, t2, kc_l hT]
            exact hlen
          · refine ⟨?_, ?_, ?_⟩
            · rw [ct3]
              exact b5.1.cgU (fun i k hi => cells (82 + i) k (by omega) (by omega) (by omega) (by omega) (by omega))
            · rw [zp]
              exact b5.2.1.cgU (fun i k hi => cells (92 + i) k (by omega) (by omega) (by omega) (by omega) (by omega))
            · rw [z27]
              exact (l4.cg a3).cgU (fun i k hi => by
                show (mset L 80 2 0) (102 + i) k = L (102 + i) k
                rw [mset_a _ _ (by omega)])
          · exact b6.mv (fun k => cells 134 k (by omega) (by omega) (by omega) (by omega) (by omega)) (fun k => cells 58 k (by omega) (by omega) (by omega) (by omega) (by omega))
          · exact b7.mv (fun a k z => cells a k (by omega) (by omega) (by omega) (by omega) (by omega))
          · intro z
            have z' : I 52 15 ≠ 0 := by
              rw [cells 52 15 (by omega) (by omega) (by omega) (by omega) (by omega)] at z
              exact z
            have kn := h' z'
            obtain ⟨q1, q2, q3, q4⟩ := sm.eqs
            unfold KnA
            rw [q4, cells 3 2 (by omega) (by omega) (by omega) (by omega) (by omega), cells 52 13 (by omega) (by omega) (by omega) (by omega) (by omega)]
            refine ⟨fun n hn => ?_, kn.2.1, fun n hn y => ?_⟩
            · rw [cells 60 n (by omega) (by omega) (by omega) (by omega) (by omega)]
              exact kn.1 n hn
            · rw [cells 59 _ (by omega) (by omega) (by omega) (by omega) (by omega)]
              exact kn.2.2 n hn y
    · obtain ⟨L, l1, l2⟩ := m_fault (Γ := Γ) (I := I) (J := (RR (kStart x (kc I))).2) (w := x) hg hT (kc_f (by decide)) (fun j => kc_f (by decide)) hw
      have cells : ∀ a k : Nat, (a < 39 ∨ 51 < a) → ((a ≠ 80 ∧ a ≠ 135 ∧ (a < 112 ∨ 121 < a)) ∨ (a = 80 ∧ k ≠ 0 ∧ (k < 13 ∨ 19 < k))) → L a k = I a k := fun a k z y => (l2 a k y).trans (kc_f z)
      refine ⟨0, _, L, sT g 112, CT.of (R := (some (.inl 0), (g, (RR (kStart x (kc I))).2))) oX6_take (Nat.le_of_ble_eq_true rfl) (Nat.le_refl _) (Nat.le_refl _) (v_X6_take_0 hg.c x ⟨_, _, c1, fun z => absurd z hr, fun _ => ⟨rfl, rfl⟩⟩), CT.of (R := (some (.inl 0), (sT g 112, L))) oX8_take (Nat.le_of_ble_eq_true rfl) (Nat.le_refl _) (Nat.le_refl _) (v_X8_take_0 (gf := sT g 112) hg rfl x ⟨_, _, _, l1, gS hg, rfl, fun z => absurd z hr, fun _ => ⟨rfl, rfl, rfl⟩⟩), sT_ok hg, h.mv (fun a k z => ?_) (fun k => ⟨cells _ _ (by omega) (by omega), cells _ _ (by omega) (by omega)⟩) (cells _ _ (by omega) (by omega)) (cells _ _ (by omega) (by omega))⟩
      unfold core at z
      exact cells a k (by omega) (by omega)
  · have c1 := c_readTape_n (Γ := Γ) (I := I) hg.c hw
    exact Q2.same (r := 0) hg (CT.of (R := (some (.inl 0), (g, I))) oX6_take (Nat.le_of_ble_eq_true rfl) (Nat.le_refl _) (Nat.le_refl _) (v_X6_take_0 hg.c x ⟨_, _, c1, fun z => absurd z (by decide), fun _ => ⟨rfl, rfl⟩⟩)) (CT.of (R := (some (.inl 0), (g, mset I 80 0 0))) oX8_take (Nat.le_of_ble_eq_true rfl) (Nat.le_refl _) (Nat.le_refl _) (v_X8_take_0 hg rfl x ⟨_, _, _, m_fault_n hg hT hw, hg, rfl, fun z => absurd z (by decide), fun _ => ⟨rfl, rfl, rfl⟩⟩)) (h.m80 (by decide))
end TAK2
