/-! ===== letters, in both ===== -/
/-- what the reference's reader may write: itself, the letters' kinds, its tree -/
def FM (u : Nat) (I J : IF) : Prop := ∀ a k : Nat, ((a ≠ 80 ∧ a ≠ 135 ∧ (a < u ∨ u + 9 < a)) ∨ (a = 80 ∧ (k < 14 ∨ 19 < k))) → J a k = I a k
section SL
variable {Γ : GX} {g : AG} {I I0 J0 J K K' : IF} {u n : Nat} {kd e : Int}
theorem FM.rf : FM u I I := fun _ _ _ => rfl
theorem FM.tr {X : IF} (h1 : FM u I J) (h2 : FM u J X) : FM u I X := fun a k z => (h2 a k z).trans (h1 a k z)
theorem FM.m80 {k : Nat} {x : Int} (hk : 14 ≤ k ∧ k ≤ 19) : FM u I (mset I 80 k x) := fun a j z => by
  unfold mset
  rw [if_neg (by omega)]
theorem FM.m135 {k : Nat} {x : Int} : FM u I (mset I 135 k x) := fun a j z => by
  unfold mset
  rw [if_neg (by omega)]
theorem FM.mu {i k : Nat} {x : Int} (hi : i ≤ 9) (hu : Mt u) : FM u I (mset I (u + i) k x) := fun a j z => by
  have := mt_rng hu
  unfold mset
  rw [if_neg (by omega)]
theorem FM.ad {inn : Int} (hA : AD u kd inn I J) (hu : Mt u) : FM u I J := fun a k z => by
  have := mt_rng hu
  exact hA.2.1 a k (by omega) (by omega) (by omega) (by omega) (by omega) (by omega) (by omega)
theorem PR.mv {p : Nat} (h : PR I K u p) (hm : ∀ i : Nat, 2 ≤ i → i ≤ 9 → J (u + i) p = I (u + i) p) : PR J K u p := by
  unfold PR at h ⊢
  rw [hm 2 (by decide) (by decide), hm 3 (by decide) (by decide), hm 4 (by decide) (by decide), hm 5 (by decide) (by decide), hm 6 (by decide) (by decide), hm 7 (by decide) (by decide), hm 8 (by decide) (by decide), hm 9 (by decide) (by decide)]
  exact h
theorem kLet_ok (h1 : K 51 1 + 1 < K 39 1) (h2 : smallb (K 40 (K 51 1 + 1).toNat) = true) (h3 : kKind K (K 40 (K 51 1 + 1).toNat - 97) = -1 ∨ kKind K (K 40 (K 51 1 + 1).toNat - 97) = kd) : (kLet kd K).1 = 1 := by
  unfold kLet
  rw [if_neg (fun z => z.elim (fun y => by omega) (fun y => by rw [h2] at y; cases y)), if_neg (fun z => h3.elim z.1 z.2)]
theorem kLet_a (h : K 39 1 ≤ K 51 1 + 1 ∨ smallb (K 40 (K 51 1 + 1).toNat) = false) : kLet kd K = (0, mset K 51 1 (K 51 1 + 1)) := by
  unfold kLet
  rw [if_pos h]
theorem kLet_b (h1 : K 51 1 + 1 < K 39 1) (h2 : smallb (K 40 (K 51 1 + 1).toNat) = true) (h3 : kKind K (K 40 (K 51 1 + 1).toNat - 97) ≠ -1 ∧ kKind K (K 40 (K 51 1 + 1).toNat - 97) ≠ kd) : kLet kd K = (0, K) := by
  unfold kLet
  rw [if_neg (fun z => z.elim (fun y => by omega) (fun y => by rw [h2] at y; cases y)), if_pos h3]
/-- LETTERED of the reference and readLettered of the class -/
theorem m_lettered (hg : GOk g) (hu : Mt u) (cu : g.2.1 80 12 = some u) (hR : RI K) (hC : CI K) (hS : Sim I K u) (hat : I 80 14 = K 51 1) (hst : K 51 2 < 2) (hp : K 51 1 < K 39 1) (hkd : kd = 1 ∨ kd = 2)
    (h5 : kd = 2 → K 51 0 = 1 → K 51 5 < 2) (hI0 : I0 = mset I 80 17 (if kd = 2 then K 51 5 + 1 else K 51 5)) :
    ∃ (b : Int) (J : IF), CT Γ 1 mX8_lettered [.inr (some 80), .inl kd, .inl (K 51 3)] (g, I0) (some (.inl b), (g, J)) ∧ FM u I J ∧
      ((b = 1 ∧ (kLet kd K).1 = 1 ∧ Sim J (kLet kd K).2 u ∧ CI (kLet kd K).2) ∨ (b = 0 ∧ (kLet kd K).1 = 0 ∧ J 80 15 = (kLet kd K).2 51 1)) := by
  have hu' := mt_rng hu
  have hlt := hR.lt hp hst
  have ho : -1 ≤ K 51 3 ∧ K 51 3 < K 39 2 := hR.2.2.2.2.1
  have h49 := hR.2.2.2.2.2.2.2.2.1
  have hc0 : 0 ≤ K 39 2 := hR.2.2.2.1.1
  have hpos : 0 ≤ K 51 1 := hR.1.1
  have hlen : K 39 1 ≤ 240 := hR.1.2.2
  obtain ⟨s1, s2, s3, s4, s5, s6, s7, s8, s9, s10, s11⟩ := id hS
  have i14 : I0 80 14 = K 51 1 := by rw [hI0, mset_k _ _ (by decide)]; exact hat
  have i15 : I0 80 15 = -1 := by rw [hI0, mset_k _ _ (by decide)]; exact s4
  have iu : ∀ a k : Nat, a ≠ 80 → I0 a k = I a k := fun a k z => by rw [hI0]; exact mset_a _ _ z
  have hB3 : BR (mset I0 80 14 (K 51 1 + 1)) K u := s1.mv ((mset_a _ _ (by omega)).trans (iu u 1 (by omega))) (fun j => (mset_a _ _ (by omega)).trans (iu (u + 1) j (by omega)))
  have f0 : FM u I I0 := by rw [hI0]; exact FM.m80 (by decide)
  -- from pc 51 on, with the byte behind the sign
  have go : ∀ (r : Option AV) (J : IF), (smallb (cur K (K 51 1 + 1)) = false → r = some (.inl 0) ∧ J = mset (mset I0 80 14 (K 51 1 + 1)) 80 15 (K 51 1 + 1)) →
      (smallb (cur K (K 51 1 + 1)) = true → kKind K (cur K (K 51 1 + 1) - 97) ≠ -1 ∧ kKind K (cur K (K 51 1 + 1) - 97) ≠ kd → r = some (.inl 0) ∧ J = mset (mset I0 80 14 (K 51 1)) 80 15 (K 51 1)) →
      (smallb (cur K (K 51 1 + 1)) = true → kKind K (cur K (K 51 1 + 1) - 97) = -1 ∨ kKind K (cur K (K 51 1 + 1) - 97) = kd → Ev Γ 1 mX8_lettered 103 [some (.inr (some 80)), some (.inl kd), some (.inl (K 51 3)), none, none, some (.inl (cur K (K 51 1 + 1) - 97)), none] [] (g, mset I0 80 14 (K 51 1)) (r, (g, J))) →
      Ev Γ 1 mX8_lettered 0 [some (.inr (some 80)), some (.inl kd), some (.inl (K 51 3)), none, none, none, none] [] (g, I0) (r, (g, J)) := by
    intro r J q1 q2 q3
    have at51 : Ev Γ 1 mX8_lettered 51 [some (.inr (some 80)), some (.inl kd), some (.inl (K 51 3)), some (.inl (K 51 1)), some (.inl (cur K (K 51 1 + 1))), none, none] [] (g, mset I0 80 14 (K 51 1 + 1)) (r, (g, J)) := by
      refine v_X8_lettered_51 hg kd (K 51 3) (K 51 1) (cur K (K 51 1 + 1)) ⟨_, _, m_isSmall hg _, fun c => ?_, fun c => ?_⟩
      · rw [bI_n0] at c
        have hsm : 97 ≤ cur K (K 51 1 + 1) ∧ cur K (K 51 1 + 1) ≤ 122 := by simpa only [smallb, decide_eq_true_eq] using c
        refine ⟨by unfold inR; omega, ?_⟩
        rintro _ rfl
        rw [mset_mset]
        rintro _ rfl
        have hk : mset I0 80 14 (K 51 1) 135 (cur K (K 51 1 + 1) - 97).toNat = kKind K (cur K (K 51 1 + 1) - 97) := by
          rw [mset_a _ _ (by decide), iu 135 _ (by decide), s11 _ (by omega)]
          congr 1
          omega
        refine ⟨by omega, fun c2 => q3 c (Or.inl (hk.symm.trans c2)), fun c2 => ⟨by omega, fun c3 => q3 c (Or.inr (hk.symm.trans c3)), fun c3 => ?_⟩⟩
        have hw := m_wrong (Γ := Γ) (I := mset I0 80 14 (K 51 1)) hg ((mset_k _ _ (by decide)).trans i15)
        rw [mset_s] at hw
        rw [hk] at c2 c3
        exact ⟨_, _, hw, Or.inl rfl, (q2 c ⟨c2, c3⟩).1, (q2 c ⟨c2, c3⟩).2⟩
      · rw [bI_0] at c
        have hw := m_wrong (Γ := Γ) (I := mset I0 80 14 (K 51 1 + 1)) hg ((mset_k _ _ (by decide)).trans i15)
        rw [mset_s] at hw
        exact ⟨_, _, hw, Or.inl rfl, (q1 c).1, (q1 c).2⟩
    refine v_X8_lettered_0 hg kd (K 51 3) u hu cu ?_
    rw [i14]
    rintro _ rfl
    refine ⟨by unfold inR; omega, ?_⟩
    rintro _ rfl
    rw [mset_s, mset_a _ _ (show u ≠ 80 by omega), iu u 1 (by omega), s1.1]
    refine ⟨fun c => ?_, fun c => ⟨by omega, ?_⟩⟩
    · rw [show cur K (K 51 1 + 1) = -1 from if_pos c] at at51
      exact at51
    · rintro _ rfl
      obtain ⟨b1, b2, b3⟩ := hB3.2.2 (K 51 1 + 1).toNat (by omega)
      rw [b1, bAnd_sb b2 b3]
      rw [show cur K (K 51 1 + 1) = K 40 (K 51 1 + 1).toNat from if_neg c] at at51
      exact at51
  have hcur : ∀ x, smallb (cur K (K 51 1 + 1)) = x → x = true → K 51 1 + 1 < K 39 1 ∧ cur K (K 51 1 + 1) = K 40 (K 51 1 + 1).toNat := fun x h hx => by
    subst hx
    by_cases c : K 39 1 ≤ K 51 1 + 1
    · rw [show cur K (K 51 1 + 1) = -1 from if_pos c] at h
      exact absurd h (by decide)
    · exact ⟨by omega, if_neg c⟩
  by_cases c : smallb (cur K (K 51 1 + 1)) = true
  · obtain ⟨d1, d2⟩ := hcur _ c rfl
    by_cases c2 : kKind K (cur K (K 51 1 + 1) - 97) = -1 ∨ kKind K (cur K (K 51 1 + 1) - 97) = kd
    · -- it is read
      have c' := c
      rw [d2] at c' c2
      have hL1 := kLet_ok d1 c' c2
      obtain ⟨e1, e2, e3, e4, e5, e6, e7, e8, e9⟩ := kLet_eff hL1
      generalize hl : K 40 (K 51 1 + 1).toNat - 97 = l at c2 e2 e8 e9
      have hsm : 97 ≤ K 40 (K 51 1 + 1).toNat ∧ K 40 (K 51 1 + 1).toNat ≤ 122 := by simpa only [smallb, decide_eq_true_eq] using c'
      have hl0 : 0 ≤ l ∧ l < 26 := by omega
      have hI1u : ∀ a k : Nat, a ≠ 80 → a ≠ 135 → mset (mset I0 80 14 (K 51 1)) 135 l.toNat kd a k = I a k := fun a k z1 z2 => by
        rw [mset_a _ _ z2, mset_a _ _ z1]
        exact iu a k z1
      have hPR1 : ∀ p : Nat, (p : Int) < K 39 2 → PR (mset (mset I0 80 14 (K 51 1)) 135 l.toNat kd) K u p := fun p hp' => (s10 p hp').mv (fun i _ _ => hI1u _ _ (by omega) (by omega))
      have hc1 : (mset (mset I0 80 14 (K 51 1)) 135 l.toNat kd) u 2 = K 39 2 := (hI1u u 2 (by omega) (by omega)).trans s9
      obtain ⟨J3, hct, hA⟩ := m_adds (Γ := Γ) (I := mset (mset I0 80 14 (K 51 1)) 135 l.toNat kd) hg hu cu kd (K 51 3) (by rw [hc1]; omega) (by rw [hc1]; exact ho) (fun z => by
        have := (hPR1 (K 51 3).toNat (by omega)).2.2.2.2.2.2.2
        omega)
      rw [hc1] at hct
      obtain ⟨f1, f2, f3, f4, f5⟩ := hA.fr hu
      have m14 : (mset (mset I0 80 14 (K 51 1)) 135 l.toNat kd) 80 14 = K 51 1 := by rw [mset_a _ _ (by decide), mset_s]
      have j14 : J3 80 14 = K 51 1 := (f1 80 14 (Or.inl (by decide))).trans m14
      have hJ : ∀ a k : Nat, a ≠ 80 → a ≠ u + 4 → a ≠ u + 8 → mset (mset (mset J3 (u + 8) (K 39 2).toNat l) 80 14 (K 51 1 + 2)) (u + 4) (K 39 2).toNat (K 51 1 + 2) a k = J3 a k := fun a k z1 z2 z3 => by
        rw [mset_a _ _ z2, mset_a _ _ z1, mset_a _ _ z3]
      have hJ80 : ∀ k : Nat, k ≠ 14 → mset (mset (mset J3 (u + 8) (K 39 2).toNat l) 80 14 (K 51 1 + 2)) (u + 4) (K 39 2).toNat (K 51 1 + 2) 80 k = I0 80 k := fun k z => by
        rw [mset_a _ _ (by omega), mset_k _ _ z, mset_a _ _ (by omega), f1 80 k (Or.inl (by decide)), mset_a _ _ (by decide), mset_k _ _ z]
      refine ⟨1, mset (mset (mset J3 (u + 8) (K 39 2).toNat l) 80 14 (K 51 1 + 2)) (u + 4) (K 39 2).toNat (K 51 1 + 2), CT.of (R := (some (.inl 1), (g, mset (mset (mset J3 (u + 8) (K 39 2).toNat l) 80 14 (K 51 1 + 2)) (u + 4) (K 39 2).toNat (K 51 1 + 2)))) oX8_lettered (Nat.le_of_ble_eq_true rfl) (Nat.le_refl _) (Nat.le_refl _) (go _ _ (fun z => absurd z (by rw [c]; decide)) (fun _ z => absurd (show kKind K (cur K (K 51 1 + 1) - 97) = -1 ∨ kKind K (cur K (K 51 1 + 1) - 97) = kd by rw [d2, hl]; exact c2) (fun y => y.elim z.1 z.2)) (fun _ _ => ?_)), ?_, Or.inl ⟨rfl, hL1, ?_, ?_⟩⟩
      · rw [d2, hl]
        refine v_X8_lettered_103 hg kd (K 51 3) l u hu cu ⟨hl0, ?_⟩
        rintro _ rfl
        refine ⟨_, _, hct, by omega, ?_⟩
        rintro _ rfl
        have a14 : mset J3 (u + 8) (K 39 2).toNat l 80 14 = K 51 1 := (mset_a _ _ (by omega)).trans j14
        rw [a14]
        refine ⟨by unfold inR; omega, ?_⟩
        rintro _ rfl
        refine ⟨by omega, ?_⟩
        rw [mset_s]
        rintro _ rfl
        exact ⟨rfl, rfl⟩
      · exact f0.tr ((FM.m80 (k := 14) (x := K 51 1) (by decide)).tr (FM.m135.tr ((FM.ad hA hu).tr ((FM.mu (by decide) hu).tr ((FM.m80 (by decide)).tr (FM.mu (by decide) hu))))))
      · have hn : (K 39 2).toNat = (K 39 2).toNat := rfl
        have q48 : ∀ p : Nat, p ≠ (K 39 2).toNat → (kLet kd K).2 48 p = K 48 p := fun p z => by rw [e8 p, if_neg z]
        have hK := KA_of ho rfl e3 q48
        obtain ⟨z43, z44⟩ := KA_ends ho rfl e3
        have hkn : (kLet kd K).2 51 7 = K 51 7 := e6 7 (by decide) (by decide) (by decide)
        have hPR := PR_add (I := mset (mset I0 80 14 (K 51 1)) 135 l.toNat kd) (J0 := J3) (J := mset (mset (mset J3 (u + 8) (K 39 2).toNat l) 80 14 (K 51 1 + 2)) (u + 4) (K 39 2).toNat (K 51 1 + 2)) rfl hc0 hc1 ho hC.1 hA m14 (fun p => hJ _ _ (by omega) (by omega) (by omega)) (fun p => hJ _ _ (by omega) (by omega) (by omega)) (fun p => hJ _ _ (by omega) (by omega) (by omega)) (fun p => hJ _ _ (by omega) (by omega) (by omega)) (fun p => hJ _ _ (by omega) (by omega) (by omega))
          (fun p z => by rw [mset_k _ _ z, mset_a _ _ (by omega), mset_a _ _ (by omega)]; exact f4 p) (fun p z => by rw [hJ _ _ (by omega) (by omega) (by omega)]; exact f5 p) (fun p z => by rw [mset_a _ _ (by omega), mset_a _ _ (by omega), mset_k _ _ z]) hK
          (fun _ => by rw [mset_s]; exact z44.symm) (fun z => absurd z (by omega)) (by rw [mset_a _ _ (by omega), mset_a _ _ (by omega), mset_s, e8, if_pos rfl]) (Or.inl hkn) hPR1
        have r51 : (kLet kd K).2 51 1 = K 51 1 + 2 := e4
        refine Sim_mk hu hR hS hK ?_ (fun j => ?_) (e6 0 (by decide) (by decide) (by decide)) (e6 4 (by decide) (by decide) (by decide)) ?_ (fun j => ?_) ?_ ?_ (by rw [r51]; omega) ?_ ?_ ?_ ?_ ?_ ?_ hPR (fun j hj => ?_)
        · rw [e3 39 1 (by decide) (by decide) (by decide)]
          exact kAdd_o kd _ (by decide) (Or.inr (by decide)) (by decide)
        · rw [e3 40 j (by decide) (by decide) (by decide)]
          exact kAdd_o kd _ (by decide) (Or.inl (by decide)) (by decide)
        · rw [hJ u 1 (by omega) (by omega) (by omega), f2 1 (by decide)]
          exact hI1u u 1 (by omega) (by omega)
        · rw [hJ (u + 1) j (by omega) (by omega) (by omega), f3 j]
          exact hI1u (u + 1) j (by omega) (by omega)
        · rw [hJ80 13 (by decide), hI0, mset_k _ _ (by decide)]
        · rw [mset_a _ _ (by omega), mset_s, r51]
        · rw [hJ80 15 (by decide), hI0, mset_k _ _ (by decide)]
        · rw [hJ80 16 (by decide), hI0, mset_k _ _ (by decide)]
        · rw [hJ80 17 (by decide), hI0, mset_s, e7]
        · rw [hJ80 18 (by decide), hI0, mset_k _ _ (by decide), e6 6 (by decide) (by decide) (by decide)]
          exact s7
        · rw [hJ80 19 (by decide), hI0, mset_k _ _ (by decide), hkn]
          exact s8
        · rw [hJ u 2 (by omega) (by omega) (by omega), hA.1, hc1]
        · rw [hJ 135 j (by omega) (by omega) (by omega), f1 135 j (Or.inr (by omega))]
          by_cases z : j = l.toNat
          · subst z
            rw [mset_s]
            have hk : kKind (kLet kd K).2 ((l.toNat : Nat) : Int) = if (kLet kd K).2 49 l.toNat = -1 then -1 else (kLet kd K).2 41 ((kLet kd K).2 49 l.toNat).toNat := rfl
            rw [hk, e9 l.toNat]
            by_cases y : kKind K l = -1
            · rw [if_pos (show l.toNat = l.toNat ∧ kKind K l = -1 from ⟨rfl, y⟩), if_neg (show ¬ K 39 2 = -1 by omega), hK.1, if_pos rfl]
            · have y2 : kKind K l = kd := c2.resolve_left y
              rw [if_neg (show ¬ (l.toNat = l.toNat ∧ kKind K l = -1) from fun w => y w.2)]
              unfold kKind at y y2
              have := h49 l.toNat (by omega)
              by_cases w : K 49 l.toNat = -1
              · rw [if_pos w] at y
                exact absurd rfl y
              · rw [if_neg w] at y2 ⊢
                rw [hK.1, if_neg (by omega)]
                exact y2.symm
          · rw [mset_k _ _ z, mset_a _ _ (by decide), iu 135 j (by decide), s11 j hj, kKind_add h49 rfl hK hj (by rw [e9, if_neg (fun w => z w.1)])]
      · have q48 : ∀ p : Nat, p ≠ (K 39 2).toNat → (kLet kd K).2 48 p = K 48 p := fun p z => by rw [e8 p, if_neg z]
        have hK := KA_of ho rfl e3 q48
        refine CI_add hR rfl hC hK (e6 3 (by decide) (by decide) (by decide)) (e6 0 (by decide) (by decide) (by decide)) ?_ (Or.inr ⟨by omega, e6 6 (by decide) (by decide) (by decide)⟩) (fun z => ?_) (fun z => ?_) (fun z => ?_)
        · rw [e6 7 (by decide) (by decide) (by decide)]
          exact hC.2.2.2.2.1
        · rw [e5] at z
          omega
        · rw [e5] at z
          omega
        · rw [e7]
          have := hC.2.2.2.2.2.2.1 z
          split
          · next y => have := h5 y z; omega
          · exact this
    · -- the letter is of the other kind
      have c3 : kKind K (cur K (K 51 1 + 1) - 97) ≠ -1 ∧ kKind K (cur K (K 51 1 + 1) - 97) ≠ kd := ⟨fun z => c2 (Or.inl z), fun z => c2 (Or.inr z)⟩
      have hL := kLet_b (kd := kd) d1 (by rw [← d2]; exact c) (by rw [← d2]; exact c3)
      refine ⟨0, mset (mset I0 80 14 (K 51 1)) 80 15 (K 51 1), CT.of (R := (some (.inl 0), (g, mset (mset I0 80 14 (K 51 1)) 80 15 (K 51 1)))) oX8_lettered (Nat.le_of_ble_eq_true rfl) (Nat.le_refl _) (Nat.le_refl _) (go _ _ (fun z => absurd z (by rw [c]; decide)) (fun _ _ => ⟨rfl, rfl⟩) (fun _ z => absurd z c2)), f0.tr ((FM.m80 (by decide)).tr (FM.m80 (by decide))), Or.inr ⟨rfl, by rw [hL], ?_⟩⟩
      rw [mset_s, hL]
  · have c' : smallb (cur K (K 51 1 + 1)) = false := by simpa using c
    have hL : kLet kd K = (0, mset K 51 1 (K 51 1 + 1)) := kLet_a (by
      by_cases z : K 39 1 ≤ K 51 1 + 1
      · exact Or.inl z
      · exact Or.inr (by rw [← show cur K (K 51 1 + 1) = K 40 (K 51 1 + 1).toNat from if_neg z]; exact c'))
    refine ⟨0, mset (mset I0 80 14 (K 51 1 + 1)) 80 15 (K 51 1 + 1), CT.of (R := (some (.inl 0), (g, mset (mset I0 80 14 (K 51 1 + 1)) 80 15 (K 51 1 + 1)))) oX8_lettered (Nat.le_of_ble_eq_true rfl) (Nat.le_refl _) (Nat.le_refl _) (go _ _ (fun _ => ⟨rfl, rfl⟩) (fun z => absurd z c) (fun z => absurd z c)), f0.tr ((FM.m80 (by decide)).tr (FM.m80 (by decide))), Or.inr ⟨rfl, by rw [hL], ?_⟩⟩
    rw [mset_s, hL]
    rfl
end SL
