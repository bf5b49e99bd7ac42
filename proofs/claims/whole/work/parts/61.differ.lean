/-! ===== differ ===== -/
section DIF
variable {Γ : GX} {g : AG} {I J X : IF}
/-- a letter's new set -/
def nwD (x : Int) (o : Nat) (v : Int) : Int := if v = 0 then bAnd x (bXor (bShl 1 (o : Int)) (-1)) else bOr x (bShl 1 (o : Int))
theorem nwD_tb {x v : Int} {o i : Nat} (ho : o < 32) (hi : i < 32) (hv : v = 0 ∨ v = 1) : tb (nwD x o v) i = true ↔ (if i = o then v = 1 else tb x i = true) := by
  unfold nwD
  by_cases z : v = 0
  · rw [if_pos z, tb_clr _ _ hi, tb_one ho hi]
    by_cases e : i = o
    · rw [if_pos e, decide_eq_true e]
      simp [z]
    · rw [if_neg e, decide_eq_false e]
      simp
  · rw [if_neg z, tb_or, tb_one ho hi]
    by_cases e : i = o
    · rw [if_pos e, decide_eq_true e]
      simp [hv.resolve_left z]
    · rw [if_neg e, decide_eq_false e]
      simp
theorem c_setDiffer (hg : GOc g) {a b : Nat} (ha : a < 26) (hb : b < 26) (hab : a ≠ b) (v : Int) : CT Γ 0 mX1_setDiffer [.inr (some 52), .inl a, .inl b, .inl v] (g, I) (none, (g, mset (mset (mset I 58 a (nwD (I 58 a) b v)) 58 b (nwD (I 58 b) a v)) 52 15 0)) := by
  refine CT.of (R := (none, (g, mset (mset (mset I 58 a (nwD (I 58 a) b v)) 58 b (nwD (I 58 b) a v)) 52 15 0))) oX1_setDiffer (Nat.le_of_ble_eq_true rfl) (Nat.le_refl _) (Nat.le_refl _) (v_X1_setDiffer_0 hg a b v ?_)
  rintro _ rfl _ rfl
  rw [Int.toNat_natCast, Int.toNat_natCast]
  unfold nwD
  refine ⟨fun z => ⟨by omega, by omega, ?_⟩, fun z => ⟨by omega, by omega, ?_⟩⟩
  · rintro _ rfl
    rw [mset_k _ _ (show b ≠ a by omega)]
    refine ⟨fun _ => ⟨by omega, by omega, ?_⟩, fun y => absurd z y⟩
    rintro _ rfl _ rfl
    exact ⟨rfl, by rw [if_pos z, if_pos z]⟩
  · rintro _ rfl
    rw [mset_k _ _ (show b ≠ a by omega)]
    refine ⟨fun y => absurd y z, fun _ => ⟨by omega, by omega, ?_⟩⟩
    rintro _ rfl _ rfl
    exact ⟨rfl, by rw [if_neg z, if_neg z]⟩
/-- DIFFER -/
theorem q_differ (hg : GOk g) (h : Inv I) (x y v : Int) (hv : v = 0 ∨ v = 1) : Q2 Γ g I 1 mX6_differ [.inl x, .inl y, .inl v] 1 mX8_differ [.inl x, .inl y, .inl v] := by
  have cx := c_isLetter (Γ := Γ) (I := I) hg.c x
  have cy := c_isLetter (Γ := Γ) (I := I) hg.c y
  have e25 : ∀ z : Int, decide (0 ≤ z ∧ z ≤ 25) = decide (0 ≤ z ∧ z < 26) := fun z => by
    rw [decide_eq_decide]
    omega
  have refuse : ∀ (hc : CT Γ 1 mX6_differ [.inr (some 1), .inl x, .inl y, .inl v] (g, I) (some (.inl 0), (g, I))) (hm : CT Γ 1 mX8_differ [.inr (some 80), .inl x, .inl y, .inl v] (g, I) (some (.inl 0), (g, mset I 80 0 0))), Q2 Γ g I 1 mX6_differ [.inl x, .inl y, .inl v] 1 mX8_differ [.inl x, .inl y, .inl v] := fun hc hm => Q2.same (r := 0) hg hc hm (h.m80 (by decide))
  have mx := fun (K : IF) => m_isIn (Γ := Γ) (I := K) hg x 0 25
  have my := fun (K : IF) => m_isIn (Γ := Γ) (I := K) hg y 0 25
  simp only [e25] at mx my
  by_cases hx : 0 ≤ x ∧ x < 26
  · rw [decide_eq_true hx, bI_t rfl] at cx
    simp only [decide_eq_true hx, bI_t rfl] at mx
    by_cases hy : 0 ≤ y ∧ y < 26
    · rw [decide_eq_true hy, bI_t rfl] at cy
      simp only [decide_eq_true hy, bI_t rfl] at my
      by_cases hxy : x = y
      · refine refuse (CT.of (R := (some (.inl 0), (g, I))) oX6_differ (Nat.le_of_ble_eq_true rfl) (Nat.le_refl _) (Nat.le_refl _) (v_X6_differ_0 hg.c x y v ⟨_, _, cx, fun z => absurd z (by decide), fun _ => ⟨_, _, cy, fun z => absurd z (by decide), fun _ => ⟨fun _ => ⟨rfl, rfl⟩, fun z => absurd hxy z⟩⟩⟩)) (CT.of (R := (some (.inl 0), (g, mset I 80 0 0))) oX8_differ (Nat.le_of_ble_eq_true rfl) (Nat.le_refl _) (Nat.le_refl _) (v_X8_differ_0 hg x y v ?_))
        rintro _ rfl
        exact ⟨_, _, mx _, fun z => absurd z (by decide), fun _ => ⟨_, _, my _, fun z => absurd z (by decide), fun _ => ⟨fun _ => ⟨rfl, rfl⟩, fun z => absurd hxy z⟩⟩⟩
      · obtain ⟨a, ea⟩ : ∃ a : Nat, x = a := ⟨x.toNat, by omega⟩
        obtain ⟨b, eb⟩ : ∃ b : Nat, y = b := ⟨y.toNat, by omega⟩
        subst ea; subst eb
        have ha : a < 26 := by omega
        have hb : b < 26 := by omega
        have hab : a ≠ b := by omega
        have hd := h.1.2.2.2.2.2.1 a b ha hb
        have cm := c_mustDiffer (Γ := Γ) (Z := I) (I := I) hg.c ha hb rfl
        have ed : pb (zDf I a b) = I 134 (26 * a + b) := by
          by_cases z : zDf I a b
          · rw [pb_t z]
            exact (hd.1.resolve_left (hd.2.mpr z)).symm
          · rw [pb_f z]
            exact (Classical.byContradiction (fun w => z (hd.2.mp w))).symm
        have ei : (26 * (a : Int) + b).toNat = 26 * a + b := by omega
        have ej : (26 * (b : Int) + a).toNat = 26 * b + a := by omega
        by_cases hs : I 134 (26 * a + b) = v
        · refine refuse (CT.of (R := (some (.inl 0), (g, I))) oX6_differ (Nat.le_of_ble_eq_true rfl) (Nat.le_refl _) (Nat.le_refl _) (v_X6_differ_0 hg.c a b v ⟨_, _, cx, fun z => absurd z (by decide), fun _ => ⟨_, _, cy, fun z => absurd z (by decide), fun _ => ⟨fun z => absurd z hxy, fun _ => ⟨_, _, cm, fun z => absurd (ed.trans hs) z, fun _ => ⟨rfl, rfl⟩⟩⟩⟩⟩)) (CT.of (R := (some (.inl 0), (g, mset I 80 0 0))) oX8_differ (Nat.le_of_ble_eq_true rfl) (Nat.le_refl _) (Nat.le_refl _) (v_X8_differ_0 hg a b v ?_))
          rintro _ rfl
          refine ⟨_, _, mx _, fun z => absurd z (by decide), fun _ => ⟨_, _, my _, fun z => absurd z (by decide), fun _ => ⟨fun z => absurd z hxy, fun _ => ⟨by unfold inR; omega, by unfold inR; omega, by omega, fun z => absurd ?_ z, fun _ => ⟨rfl, rfl⟩⟩⟩⟩⟩
          rw [ei, mset_a _ _ (by decide)]; exact hs
        · have cs := c_setDiffer (Γ := Γ) (I := I) hg.c ha hb hab v
          generalize hK : mset (mset (mset I 58 a (nwD (I 58 a) b v)) 58 b (nwD (I 58 b) a v)) 52 15 0 = K at cs
          have kc : ∀ c k : Nat, (c ≠ 58 ∨ (k ≠ a ∧ k ≠ b)) → (c ≠ 52 ∨ k ≠ 15) → K c k = I c k := fun c k z1 z2 => by
            rw [← hK]
            unfold mset
            rw [if_neg (by omega), if_neg (by omega), if_neg (by omega)]
          have ka : K 58 a = nwD (I 58 a) b v := by
            rw [← hK, mset_a _ _ (by decide), mset_k _ _ hab, mset_s]
          have kb : K 58 b = nwD (I 58 b) a v := by
            rw [← hK, mset_a _ _ (by decide), mset_s]
          generalize hL : mset (mset (mset K 80 0 0) 134 (26 * a + b) v) 134 (26 * b + a) v = L
          have lc : ∀ c k : Nat, (c ≠ 134 ∨ (k ≠ 26 * a + b ∧ k ≠ 26 * b + a)) → (c ≠ 80 ∨ k ≠ 0) → L c k = K c k := fun c k z1 z2 => by
            rw [← hL]
            unfold mset
            rw [if_neg (by omega), if_neg (by omega), if_neg (by omega)]
          have l58 : ∀ k : Nat, L 58 k = K 58 k := fun k => lc 58 k (by omega) (by omega)
          have la : L 134 (26 * a + b) = v := by
            rw [← hL, mset_k _ _ (by omega), mset_s]
          have lb : L 134 (26 * b + a) = v := by
            rw [← hL, mset_s]
          -- what must differ now
          have nz : ∀ l o : Nat, zDf L l o ↔ l < 26 ∧ o < 26 ∧ (if (l = a ∧ o = b) ∨ (l = b ∧ o = a) then v = 1 else zDf I l o) := fun l o => by
            rw [zDf_tb, l58]
            by_cases hl : l < 26
            · by_cases ho : o < 26
              · by_cases e1 : l = a
                · rw [e1, ka, nwD_tb (by omega) (by omega) hv, zDf_tb]
                  by_cases e2 : o = b
                  · rw [if_pos e2, if_pos (Or.inl ⟨rfl, e2⟩)]
                  · rw [if_neg e2, if_neg (fun w => by omega)]
                    exact ⟨fun z => ⟨ha, ho, ha, ho, z.2.2⟩, fun z => ⟨ha, ho, z.2.2.2.2⟩⟩
                · by_cases e1b : l = b
                  · rw [e1b, kb, nwD_tb (by omega) (by omega) hv, zDf_tb]
                    by_cases e2 : o = a
                    · rw [if_pos e2, if_pos (Or.inr ⟨rfl, e2⟩)]
                    · rw [if_neg e2, if_neg (fun w => by omega)]
                      exact ⟨fun z => ⟨hb, ho, hb, ho, z.2.2⟩, fun z => ⟨hb, ho, z.2.2.2.2⟩⟩
                  · rw [kc 58 l (Or.inr ⟨e1, e1b⟩) (by omega), if_neg (fun w => by omega), zDf_tb]
                    exact ⟨fun z => ⟨hl, ho, z⟩, fun z => z.2.2⟩
              · exact ⟨fun z => absurd z.2.1 ho, fun z => absurd z.2.1 ho⟩
            · exact ⟨fun z => absurd z.1 hl, fun z => absurd z.1 hl⟩
          have core : ∀ c k : Nat, c ≠ 58 → c ≠ 134 → (c ≠ 52 ∨ k ≠ 15) → (c ≠ 80 ∨ k ≠ 0) → L c k = I c k := fun c k z1 z2 z3 z4 => (lc c k (Or.inl z2) z4).trans (kc c k (Or.inl z1) z3)
          obtain ⟨⟨h1, ⟨g1, g2, g3, g4, g5, g6, g7, g8⟩, h3, h4, h5, h6, h7⟩, -⟩ := id h
          have q1 : zT L = zT I := ct_eq (fun i k hi => core _ _ (by omega) (by omega) (by omega) (by omega))
          have q2 : zP L = zP I := ct_eq (fun i k hi => core _ _ (by omega) (by omega) (by omega) (by omega))
          have q3 : ct 27 L = ct 27 I := ct_eq (fun i k hi => core _ _ (by omega) (by omega) (by omega) (by omega))
          have hInv : Inv L := by
            refine ⟨⟨h1.mv (core _ _ (by omega) (by omega) (by omega) (by omega)) (core _ _ (by omega) (by omega) (by omega) (by omega)) (fun j _ => ⟨core _ _ (by omega) (by omega) (by omega) (by omega), core _ _ (by omega) (by omega) (by omega) (by omega)⟩), ⟨by rw [q1]; exact g1, by rw [q2]; exact g2, by rw [q1]; exact g3, fun p hp => ?_, ?_, ?_, ⟨fun l z => ?_, fun l o z => ?_⟩, ?_⟩, ⟨?_, ?_⟩, ?_, h5.mv (fun a k z => core _ _ (by omega) (by omega) (by omega) (by omega)), fun l o hl ho => ?_, h7.mv (fun a k z => core _ _ (by omega) (by omega) (by omega) (by omega))⟩, fun z => ?_⟩
            · rw [core 15 2 (by omega) (by omega) (by omega) (by omega)] at hp
              rw [core 57 p (by omega) (by omega) (by omega) (by omega), q2]
              exact g4 p hp
            · rw [q2, core 52 7 (by omega) (by omega) (by omega) (by omega)]; exact g5
            · rw [q2, core 52 8 (by omega) (by omega) (by omega) (by omega)]; exact g6
            · have w := (nz l l).mp z
              rw [if_neg (fun w => by omega)] at w
              exact g7.1 l w.2.2
            · have w := (nz l o).mp z
              refine (nz o l).mpr ⟨w.2.1, w.1, ?_⟩
              by_cases e : (l = a ∧ o = b) ∨ (l = b ∧ o = a)
              · rw [if_pos e] at w
                rw [if_pos (by omega)]
                exact w.2.2
              · rw [if_neg e] at w
                rw [if_neg (fun y => by omega)]
                exact g7.2 l o w.2.2
            · rw [core 15 1 (by omega) (by omega) (by omega) (by omega)]; exact g8
            · rw [q3]; exact h3.1
            · rw [core 27 1 (by omega) (by omega) (by omega) (by omega)]; exact h3.2
            · rw [show ct 3 L = ct 3 I from q1]; exact h4
            · by_cases e : (l = a ∧ o = b) ∨ (l = b ∧ o = a)
              · have el : L 134 (26 * l + o) = v := by
                  rcases e with e | e
                  · rw [e.1, e.2]; exact la
                  · rw [e.1, e.2]; exact lb
                rw [el, nz l o, if_pos e]
                exact ⟨hv, ⟨fun y => ⟨hl, ho, hv.resolve_left y⟩, fun y w => by rw [w] at y; exact absurd y.2.2 (by decide)⟩⟩
              · have el : L 134 (26 * l + o) = I 134 (26 * l + o) := (lc 134 _ (Or.inr ⟨by omega, by omega⟩) (by omega)).trans (kc 134 _ (by omega) (by omega))
                rw [el, nz l o, if_neg e]
                have q := h6 l o hl ho
                exact ⟨q.1, ⟨fun y => ⟨hl, ho, q.2.mp y⟩, fun y => q.2.mpr y.2.2⟩⟩
            · exfalso
              refine z ?_
              rw [lc 52 15 (by omega) (by omega), ← hK, mset_s]
          refine Q2.same (r := 1) hg (CT.of (R := (some (.inl 1), (g, K))) oX6_differ (Nat.le_of_ble_eq_true rfl) (Nat.le_refl _) (Nat.le_refl _) (v_X6_differ_0 hg.c a b v ⟨_, _, cx, fun z => absurd z (by decide), fun _ => ⟨_, _, cy, fun z => absurd z (by decide), fun _ => ⟨fun z => absurd z hxy, fun _ => ⟨_, _, cm, fun _ => ⟨_, cs, rfl, rfl⟩, fun z => absurd (ed.symm.trans z) hs⟩⟩⟩⟩)) (CT.of (R := (some (.inl 1), (g, L))) oX8_differ (Nat.le_of_ble_eq_true rfl) (Nat.le_refl _) (Nat.le_refl _) (v_X8_differ_0 hg a b v ?_)) hInv
          rintro _ rfl
          refine ⟨_, _, mx _, fun z => absurd z (by decide), fun _ => ⟨_, _, my _, fun z => absurd z (by decide), fun _ => ⟨fun z => absurd z hxy, fun _ => ⟨by unfold inR; omega, by unfold inR; omega, by omega, fun _ => ⟨by unfold inR; omega, by unfold inR; omega, by omega, hv, ?_⟩, fun z => absurd ?_ hs⟩⟩⟩⟩
          · rw [ei]
            rintro _ rfl
            refine ⟨by unfold inR; omega, by unfold inR; omega, by omega, hv, ?_⟩
            rw [ej]
            rintro _ rfl
            exact ⟨rfl, hL.symm⟩
          · rw [ei, mset_a _ _ (by decide), kc 134 _ (by omega) (by omega)] at z
            exact z
    · rw [decide_eq_false hy, bI_f rfl] at cy
      simp only [decide_eq_false hy, bI_f rfl] at my
      refine refuse (CT.of (R := (some (.inl 0), (g, I))) oX6_differ (Nat.le_of_ble_eq_true rfl) (Nat.le_refl _) (Nat.le_refl _) (v_X6_differ_0 hg.c x y v ⟨_, _, cx, fun z => absurd z (by decide), fun _ => ⟨_, _, cy, fun _ => ⟨rfl, rfl⟩, fun z => absurd rfl z⟩⟩)) (CT.of (R := (some (.inl 0), (g, mset I 80 0 0))) oX8_differ (Nat.le_of_ble_eq_true rfl) (Nat.le_refl _) (Nat.le_refl _) (v_X8_differ_0 hg x y v ?_))
      rintro _ rfl
      exact ⟨_, _, mx _, fun z => absurd z (by decide), fun _ => ⟨_, _, my _, fun _ => ⟨rfl, rfl⟩, fun z => absurd rfl z⟩⟩
  · rw [decide_eq_false hx, bI_f rfl] at cx
    simp only [decide_eq_false hx, bI_f rfl] at mx
    refine refuse (CT.of (R := (some (.inl 0), (g, I))) oX6_differ (Nat.le_of_ble_eq_true rfl) (Nat.le_refl _) (Nat.le_refl _) (v_X6_differ_0 hg.c x y v ⟨_, _, cx, fun _ => ⟨rfl, rfl⟩, fun z => absurd rfl z⟩)) (CT.of (R := (some (.inl 0), (g, mset I 80 0 0))) oX8_differ (Nat.le_of_ble_eq_true rfl) (Nat.le_refl _) (Nat.le_refl _) (v_X8_differ_0 hg x y v ?_))
    rintro _ rfl
    exact ⟨_, _, mx _, fun _ => ⟨rfl, rfl⟩, fun z => absurd rfl z⟩
end DIF
