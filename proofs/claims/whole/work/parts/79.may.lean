/-! ===== may it be put; one put, the reference ===== -/
section MAY
variable {Γ : GX} {g : AG} {I J X K T P T' : IF} {Df : Nat → Nat → Prop} {w fr rule r : Int}
theorem let_iff (hP : TOK 1 P) (hX : TOK w X) : LetOk X P ↔ ∀ l : Nat, l < 26 → kdO X l ≠ -1 → kdO X l = kdO P l := by
  constructor
  · intro h l hl hk
    have h10 := hX.2.2.2.2.2.1.2.1 l hl
    have hne : X 10 l ≠ -1 := fun z => hk (by unfold kdO; rw [if_pos z])
    obtain ⟨a1, a2, a3⟩ : 0 ≤ X 10 l ∧ X 10 l < X 0 2 ∧ X 9 (X 10 l).toNat = l := by
      rcases h10 with z | z
      · exact absurd z.1 hne
      · exact ⟨z.1, z.2.1, z.2.2.1⟩
    have hq : (((X 10 l).toNat : Nat) : Int) < X 0 2 := by omega
    have hk2 := (kd9 hX hq).1 (by rw [a3]; omega)
    have e := (kdO_ok hP hX hq hk2).2 (h _ hq hk2)
    rw [a3, Int.toNat_natCast] at e
    rw [e]
    unfold kdO
    rw [if_neg hne]
  · intro h q hq hk
    refine (kdO_ok hP hX hq hk).1 ?_
    have l9 := (let_p hX hq hk).1
    have h10 := hX.2.2.2.2.2.1.2.1 (X 9 q).toNat (by omega)
    have e9 : (((X 9 q).toNat : Nat) : Int) = X 9 q := by omega
    rcases h10 with z | z
    · exact absurd e9.symm (z.2 q hq)
    · have e2 := (z.2.2.2 q hq e9.symm).2
      have ek : kdO X (X 9 q).toNat = X 2 q := by
        unfold kdO
        rw [if_neg (by omega), e2]
      rw [← ek]
      exact (h _ (by omega) (by rw [ek]; omega)).symm
/-- MAYPUT -/
theorem c_mayPut (hg : GOc g) (hP : TOK 1 (zP I)) (hX : TOK 2 (ct 27 I)) : CT Γ 1 mX6_mayPut [.inr (some 1), .inl rule] (g, I) (some (.inl (pb ((rule = 0 ∨ rule = 1 ∨ rule = 2) ∧ LetOk (ct 27 I) (zP I)))), (g, I)) := by
  have ci := c_isRule (Γ := Γ) (I := I) hg rule
  by_cases hr : 0 ≤ rule ∧ rule ≤ 2
  · rw [decide_eq_true hr, bI_t rfl] at ci
    have lp : ∀ m n : Nat, m + n = 26 → (∀ l : Nat, l < n → kdO (ct 27 I) l ≠ -1 → kdO (ct 27 I) l = kdO (zP I) l) → Ev Γ 1 mX6_mayPut 11 [some (.inr (some 1)), none, some (.inl n), none] [] (g, I) (some (.inl (pb (LetOk (ct 27 I) (zP I)))), (g, I)) := by
      intro m
      induction m with
      | zero =>
        intro n hn h
        exact v_X6_mayPut_11 hg n ⟨fun _ => ⟨some_i (pb_t ((let_iff hP hX).2 (fun l hl => h l (by omega)))), rfl⟩, fun z => absurd (by omega) z⟩
      | succ m ih =>
        intro n hn h
        have k27 : CT Γ 0 mX5_kindOf [.inr (some 27), .inl n] (g, I) (some (.inl (kdO (ct 27 I) n)), (g, I)) := c_kindOf2 (Γ := Γ) (t := 27) (w := 2) hg (Or.inr (Or.inr (Or.inl rfl))) (hX.cg ct_tag.sy) (l := n) (by omega)
        have k15 : CT Γ 0 mX5_kindOf [.inr (some 15), .inl n] (g, I) (some (.inl (kdO (zP I) n)), (g, I)) := c_kindOf2 (Γ := Γ) (t := 15) (w := 1) hg (Or.inr (Or.inl rfl)) (hP.cg ct_tag.sy) (l := n) (by omega)
        by_cases e : kdO (ct 27 I) n = -1
        · have go := ih (n + 1) (by omega) (fun l hl hk => by
            by_cases el : l = n
            · rw [el] at hk; exact absurd e hk
            · exact h l (by omega) hk)
          exact v_X6_mayPut_11 hg n ⟨fun z => absurd z (by omega), fun _ => ⟨_, _, k27, fun _ => ⟨by unfold inR; omega, go⟩, fun z => absurd e z⟩⟩
        · by_cases e2 : kdO (ct 27 I) n = kdO (zP I) n
          · have go := ih (n + 1) (by omega) (fun l hl hk => by
              by_cases el : l = n
              · rw [el]; exact e2
              · exact h l (by omega) hk)
            exact v_X6_mayPut_11 hg n ⟨fun z => absurd z (by omega), fun _ => ⟨_, _, k27, fun z => absurd z e, fun _ => ⟨_, _, k15, fun _ => ⟨by unfold inR; omega, go⟩, fun z => absurd e2 z⟩⟩⟩
          · exact v_X6_mayPut_11 hg n ⟨fun z => absurd z (by omega), fun _ => ⟨_, _, k27, fun z => absurd z e, fun _ => ⟨_, _, k15, fun z => absurd z e2, fun _ => ⟨some_i (pb_f (fun y => e2 ((let_iff hP hX).1 y n (by omega) e))), rfl⟩⟩⟩⟩
    have go := lp 26 0 rfl (fun l hl => absurd hl (Nat.not_lt_zero _))
    rw [show pb ((rule = 0 ∨ rule = 1 ∨ rule = 2) ∧ LetOk (ct 27 I) (zP I)) = pb (LetOk (ct 27 I) (zP I)) from by
      by_cases z : LetOk (ct 27 I) (zP I)
      · rw [pb_t z, pb_t ⟨by omega, z⟩]
      · rw [pb_f z, pb_f (fun y => z y.2)]]
    exact CT.of (R := (some (.inl (pb (LetOk (ct 27 I) (zP I)))), (g, I))) oX6_mayPut (Nat.le_of_ble_eq_true rfl) (Nat.le_refl _) (Nat.le_refl _) (v_X6_mayPut_0 hg rule ⟨_, _, ci, fun _ => go, fun z => absurd z (by decide)⟩)
  · rw [decide_eq_false hr] at ci
    rw [pb_f (fun y => hr (by omega))]
    exact CT.of (R := (some (.inl 0), (g, I))) oX6_mayPut (Nat.le_of_ble_eq_true rfl) (Nat.le_refl _) (Nat.le_refl _) (v_X6_mayPut_0 hg rule ⟨_, _, ci, fun z => absurd rfl z, fun _ => ⟨rfl, rfl⟩⟩)
/-- the reference's put, the class's done -/
theorem m_step (hg : GOk g) (hM : MSt T P Df I) (hF : FRO P fr) (hD : (∀ l : Nat, ¬ Df l l) ∧ ∀ l o : Nat, Df l o → Df o l) (hX : TOK w X) (hrX : TR X (tv 102 I)) (hO : LetOk X P) (hr : rule = 0 ∨ rule = 1 ∨ rule = 2) (h : Step P X fr Df rule T T' r) :
    ∃ (gf : AG) (J : IF), CT Γ 904 mX8_puts [.inr (some 80), .inl rule] (g, I) (some (.inl r), (gf, J)) ∧ (GOk gf ∧ gf.1 = g.1 ∧ gf.2.2 = g.2.2) ∧ FrU I J ∧ MSt T' P Df J := by
  obtain ⟨Kc, k1, k2⟩ := h
  obtain ⟨ro, gf, J, j1, j2, j3, j4, j5⟩ := m_puts (Γ := Γ) (fr := fr) (Kc := Kc) hg hM hF hD hX hrX hr (fun _ hl => k1 hl)
  obtain ⟨h1, h2, h3, h4, h5, h6⟩ := hM
  have h5' : TR P (tv 92 J) := h5.cgU (fun i k hi => j3 (92 + i) k (by omega) (by omega))
  have h6' : ∀ a b : Nat, a < 26 → b < 26 → (¬ J 134 (26 * a + b) = 0 ↔ Df a b) := fun a b ha hb => by
    rw [j3 134 _ (by omega) (by omega)]
    exact h6 a b ha hb
  rcases k2 with ⟨e1, e2, e3, e4⟩ | ⟨e1, e2, e3, e4, e5, e6⟩
  · obtain ⟨q1, q2⟩ := j4 (Or.inr e4)
    rw [q1] at j1
    rw [e1, e2]
    exact ⟨gf, J, j1, j2, j3, h1, h2, h3, h4.cgU (fun i k hi => q2 (82 + i) k (by omega) (by omega)), h5', h6'⟩
  · obtain ⟨q1, q2⟩ := j5 ⟨hO, e2, e3⟩
    rw [q1] at j1
    rw [e1]
    obtain ⟨kc1, kc2⟩ := k1 e2
    have br : BLs (newT T P X fr Df (mTk T P fr Df rule)) := BLs_newT h1 h2 hX hO hF hD
    have t1 := (RR_51 (w := 0) (Kc := Kc) (Or.inl rfl) (by rw [kc1]; omega) (fun j hj => by
      rw [kc1] at hj
      rw [kc2 j (by omega)]
      exact br j (by omega)) e3).1
    exact ⟨gf, J, j1, j2, j3, t1.cg e4, h2, e5, q2.cg e4, h5', h6'⟩
end MAY
