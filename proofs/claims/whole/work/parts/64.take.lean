/-! ===== fault, take ===== -/
section TAK
variable {Γ : GX} {g : AG} {I J X : IF} {w : Int}
theorem c_adopt1 (hg : GOc g) (h : TOK 1 (tv 39 I)) : ∃ J : IF, CT Γ 3 mX6_adoptSpare [.inr (some 1), .inl 1] (g, I) (none, (g, J)) ∧ (∀ a k : Nat, (a < 15 ∨ 25 < a) → a ≠ 57 → (a ≠ 52 ∨ (k ≠ 7 ∧ k ≠ 8 ∧ k ≠ 15)) → J a k = I a k) ∧ TAg (tv 39 I) (ct 15 J) ∧ ((∀ p : Nat, (p : Int) < J 15 2 → J 57 p = sgl (zP J) p) ∧ FRO (zP J) (J 52 7) ∧ DPO (zP J) (J 52 8)) ∧ J 52 15 = 0 := by
  have hl : 0 ≤ I 39 1 ∧ I 39 1 ≤ 240 := h.1.1
  have hc : 1 ≤ I 39 2 ∧ I 39 2 ≤ 120 := h.1.2.1
  have k1 := c_copyOf (Γ := Γ) (I := I) (t := 15) (u := 39) hg (Or.inr (Or.inl rfl)) tr39 (by decide) hl (by omega)
  have tg : TAg (tv 39 I) (ct 15 (cpN I 15 39 10)) := (cpN_tag (I := I) (t := 15) (u := 39) (by omega)).tr ct_tag
  obtain ⟨X, x1, x2, x3, x4, x5⟩ := c_preparePattern (Γ := Γ) (I := cpN I 15 39 10) hg (h.cg tg)
  have k2 := c_forgetMatched (Γ := Γ) (I := X) hg
  have ez : ct 15 (mset X 52 15 0) = ct 15 (cpN I 15 39 10) := (ct_eq (t := 15) (fun i k hi => mset_a _ _ (by omega))).trans x2.zp
  have ez' : zP (mset X 52 15 0) = zP (cpN I 15 39 10) := ez
  have e152 : (mset X 52 15 0) 15 2 = (cpN I 15 39 10) 15 2 := (mset_a _ _ (by decide)).trans (x2 15 2 (by decide) (Or.inl (by decide)))
  refine ⟨mset X 52 15 0, CT.of (R := (none, (g, mset X 52 15 0))) oX6_adoptSpare (Nat.le_of_ble_eq_true rfl) (Nat.le_refl _) (Nat.le_refl _) (v_X6_adoptSpare_0 hg 1 ⟨fun _ => ⟨fun z => absurd rfl z, fun _ => ⟨_, k1, fun _ => ⟨fun z => absurd rfl z, fun _ => ⟨_, x1, v_X6_adoptSpare_62 hg 1 ⟨fun z => absurd z (by decide), fun _ => ⟨_, k2, v_X6_adoptSpare_74 hg ⟨rfl, rfl⟩⟩⟩⟩⟩, fun z => absurd z (by decide)⟩⟩, fun z => absurd z (by decide)⟩), fun a k z1 z2 z3 => ?_, ?_, ⟨fun p hp => ?_, ?_, ?_⟩, mset_s _ _ _ _⟩
  · unfold mset
    rw [if_neg (by omega), x2 a k (by omega) (by omega), cpN_f (by omega)]
  · rw [ez]; exact tg
  · rw [e152] at hp
    rw [mset_a _ _ (by decide), ez']
    exact x3 p hp
  · rw [mset_k _ _ (by decide), ez']; exact x4
  · rw [mset_k _ _ (by decide), ez']; exact x5
theorem c_adopt2 (hg : GOc g) (h : TOK 2 (tv 39 I)) : ∃ J : IF, CT Γ 3 mX6_adoptSpare [.inr (some 1), .inl 2] (g, I) (none, (g, J)) ∧ (∀ a k : Nat, (a < 27 ∨ 37 < a) → J a k = I a k) ∧ TAg (tv 39 I) (ct 27 J) := by
  have hl : 0 ≤ I 39 1 ∧ I 39 1 ≤ 240 := h.1.1
  have hc : 1 ≤ I 39 2 ∧ I 39 2 ≤ 120 := h.1.2.1
  have k1 := c_copyOf (Γ := Γ) (I := I) (t := 27) (u := 39) hg (Or.inr (Or.inr (Or.inl rfl))) tr39 (by decide) hl (by omega)
  have tg : TAg (tv 39 I) (ct 27 (cpN I 27 39 10)) := (cpN_tag (I := I) (t := 27) (u := 39) (by omega)).tr ct_tag
  exact ⟨cpN I 27 39 10, CT.of (R := (none, (g, cpN I 27 39 10))) oX6_adoptSpare (Nat.le_of_ble_eq_true rfl) (Nat.le_refl _) (Nat.le_refl _) (v_X6_adoptSpare_0 hg 2 ⟨fun _ => ⟨fun _ => ⟨_, k1, fun _ => ⟨fun _ => v_X6_adoptSpare_62 hg 2 ⟨fun _ => v_X6_adoptSpare_74 hg ⟨rfl, rfl⟩, fun z => absurd rfl z⟩, fun z => absurd z (by decide)⟩, fun z => absurd z (by decide)⟩, fun z => absurd z (by decide)⟩, fun z => absurd z (by decide)⟩), fun a k z => cpN_f (by omega), tg⟩
/-- the tape, loaded -/
abbrev kc (I : IF) : IF := ldN I 39 2 (I 1 1).toNat
theorem kc_f {a k : Nat} (h : a < 39 ∨ 51 < a) : (RR (kStart w (kc I))).2 a k = I a k := by
  exact (RR_f h).trans (ldN_f (by omega) (by omega))
theorem kc_l (h : TapeR I) : kc I 39 1 = I 1 1 := by
  have := h.2.1
  show ldN I 39 2 (I 1 1).toNat 39 1 = I 1 1
  rw [ldN_1]; omega
theorem kc_b (h : TapeR I) {j : Nat} (hj : (j : Int) < I 1 1) : kc I 40 j = I 2 j := ldN_n (t := 39) (by decide) (by omega)
theorem kc_r (h : TapeR I) : (0 ≤ kc I 39 1 ∧ kc I 39 1 ≤ 240) ∧ ∀ j : Nat, (j : Int) < kc I 39 1 → 0 ≤ kc I 40 j ∧ kc I 40 j ≤ 255 := by
  rw [kc_l h]
  exact ⟨h.2.1, fun j hj => by rw [kc_b h hj]; exact (h.2.2 j hj).2⟩
/-- the reference reads its tape the same -/
theorem m_tape (hg : GOk g) (h : TapeR I) (h80 : J 80 2 = I 80 2) (h81 : ∀ j : Nat, J 81 j = I 81 j) {u : Nat} (hu : Mt u) (hw : w = 0 ∨ w = 1 ∨ w = 2) :
    ∃ L : IF, CT Γ 61 mX8_read [.inr (some 80), .inr (some u), .inr (some 81), .inl 0, .inl (J 80 2), .inl w] (g, J) (some (.inl (RR (kStart w (kc I))).1), (sT g u, L)) ∧ FR u J L ∧ ((RR (kStart w (kc I))).1 = -1 → Sim L (RR (kStart w (kc I))).2 u ∧ (RR (kStart w (kc I))).2 51 7 = 0) := by
  have h1 := kc_l h
  have h2 := h.2.1
  have hr := mt_rng hu
  exact m_read (Γ := Γ) (I := J) (Kc := kc I) hg hu (b2 := 81) (nb2 := 240) (by decide) (gs_81 hg) (by decide) ⟨by decide, by omega, by omega⟩ (fr := 0) (m := J 80 2) ⟨by decide, by rw [h80, h.1]; omega⟩ hw (by rw [h80, h.1, h1]) (by rw [h1]; exact h2) (fun j hj => by
    rw [h1] at hj
    rw [show ((0 : Int) + (j : Int)).toNat = j by omega, h81, kc_b h hj]
    exact ⟨(h.2.2 j hj).1, (h.2.2 j hj).2⟩)
theorem sT_ok {u : Nat} (hg : GOk g) : GOk (sT g u) ∧ (sT g u).1 = g.1 ∧ (sT g u).2.2 = g.2.2 := ⟨gS hg, rfl, rfl⟩
/-- FAULT of the reference, the class's reading done -/
theorem m_fault (hg : GOk g) (h : TapeR I) (h80 : J 80 2 = I 80 2) (h81 : ∀ j : Nat, J 81 j = I 81 j) (hw : w = 0 ∨ ((w = 1 ∨ w = 2) ∧ I 1 1 ≤ 80)) :
    ∃ L : IF, CT Γ 62 mX8_fault [.inr (some 80), .inl w] (g, J) (some (.inl (RR (kStart w (kc I))).1), (sT g 112, L)) ∧ (∀ a k : Nat, ((a ≠ 80 ∧ a ≠ 135 ∧ (a < 112 ∨ 121 < a)) ∨ (a = 80 ∧ k ≠ 0 ∧ (k < 13 ∨ 19 < k))) → L a k = J a k) := by
  obtain ⟨L, l1, l2, -⟩ := m_tape (Γ := Γ) (J := mset J 80 0 0) (u := 112) (w := w) hg h (by rw [mset_k _ _ (by decide)]; exact h80) (fun j => by rw [mset_a _ _ (by decide)]; exact h81 j) (by unfold Mt; omega) (by omega)
  have ci := m_isIn (Γ := Γ) (I := mset J 80 0 0) hg w 0 2
  rw [decide_eq_true (show 0 ≤ w ∧ w ≤ 2 by omega), bI_t rfl] at ci
  refine ⟨L, CT.of (R := (some (.inl (RR (kStart w (kc I))).1), (sT g 112, L))) oX8_fault (Nat.le_of_ble_eq_true rfl) (Nat.le_refl _) (Nat.le_refl _) (v_X8_fault_0 (gf := sT g 112) hg rfl w ?_), fun a k z => ?_⟩
  · intro I1 e1
    subst e1
    refine ⟨_, _, ci, fun z => absurd z (by decide), fun _ => ⟨fun _ => ⟨_, _, _, l1, gS hg, rfl, rfl, rfl, rfl⟩, fun z => ⟨fun _ => ⟨_, _, _, l1, gS hg, rfl, rfl, rfl, rfl⟩, fun y => absurd ?_ y⟩⟩⟩
    rw [mset_k _ _ (by decide), h80, h.1]
    omega
  · rw [l2 a k (by omega)]
    unfold mset
    rw [if_neg (by omega)]
theorem m_fault_n (hg : GOk g) (h : TapeR I) (hw : ¬ (w = 0 ∨ ((w = 1 ∨ w = 2) ∧ I 1 1 ≤ 80))) : CT Γ 62 mX8_fault [.inr (some 80), .inl w] (g, I) (some (.inl (-2)), (g, mset I 80 0 0)) := by
  have ci := m_isIn (Γ := Γ) (I := mset I 80 0 0) hg w 0 2
  refine CT.of (R := (some (.inl (-2)), (g, mset I 80 0 0))) oX8_fault (Nat.le_of_ble_eq_true rfl) (Nat.le_refl _) (Nat.le_refl _) (v_X8_fault_0 hg rfl w ?_)
  intro I1 e1
  subst e1
  by_cases hw2 : 0 ≤ w ∧ w ≤ 2
  · rw [decide_eq_true hw2, bI_t rfl] at ci
    refine ⟨_, _, ci, fun z => absurd z (by decide), fun _ => ⟨fun z => absurd z (by omega), fun z => ⟨fun y => absurd y ?_, fun _ => ⟨rfl, rfl, rfl⟩⟩⟩⟩
    rw [mset_k _ _ (by decide), h.1]
    omega
  · rw [decide_eq_false hw2] at ci
    exact ⟨_, _, ci, fun _ => ⟨rfl, rfl, rfl⟩, fun z => absurd rfl z⟩
/-- FAULT -/
theorem q_fault (hg : GOk g) (h : Inv I) (x : Int) : Q2 Γ g I 6 mX6_fault [.inl x] 62 mX8_fault [.inl x] := by
  have hT := h.1.1
  by_cases hw : x = 0 ∨ ((x = 1 ∨ x = 2) ∧ I 1 1 ≤ 80)
  · have c1 := c_readTape (Γ := Γ) hg.c hT hw
    obtain ⟨L, l1, l2⟩ := m_fault (Γ := Γ) (I := I) (J := (RR (kStart x (kc I))).2) (w := x) hg hT (kc_f (by decide)) (fun j => kc_f (by decide)) hw
    have cells : ∀ a k : Nat, (a < 39 ∨ 51 < a) → ((a ≠ 80 ∧ a ≠ 135 ∧ (a < 112 ∨ 121 < a)) ∨ (a = 80 ∧ k ≠ 0 ∧ (k < 13 ∨ 19 < k))) → L a k = I a k := fun a k z y => (l2 a k y).trans (kc_f z)
    refine ⟨_, _, L, sT g 112, CT.of (R := (some (.inl (RR (kStart x (kc I))).1), (g, (RR (kStart x (kc I))).2))) oX6_fault (Nat.le_of_ble_eq_true rfl) (Nat.le_refl _) (Nat.le_refl _) (v_X6_fault_0 hg.c x ⟨_, _, c1, rfl, rfl⟩), l1, sT_ok hg, h.mv (fun a k z => ?_) (fun k => ⟨cells _ _ (by omega) (by omega), cells _ _ (by omega) (by omega)⟩) (cells _ _ (by omega) (by omega)) (cells _ _ (by omega) (by omega))⟩
    unfold core at z
    exact cells a k (by omega) (by omega)
  · have c1 := c_readTape_n (Γ := Γ) (I := I) hg.c hw
    exact Q2.same (r := -2) hg (CT.of (R := (some (.inl (-2)), (g, I))) oX6_fault (Nat.le_of_ble_eq_true rfl) (Nat.le_refl _) (Nat.le_refl _) (v_X6_fault_0 hg.c x ⟨_, _, c1, rfl, rfl⟩)) (m_fault_n hg hT hw) (h.m80 (by decide))
/-- the reference's differences forgotten -/
theorem m_take_74 (hg : GOk g) : ∀ (m n : Nat) (X : IF), m + n = 676 → (∀ k : Nat, k < n → X 134 k = 0) → ∃ J : IF, Ev Γ 63 mX8_take 74 [some (.inr (some 80)), none, none, some (.inl n)] [] (g, X) (some (.inl 1), (g, J)) ∧ (∀ a k : Nat, a ≠ 134 → J a k = X a k) ∧ (∀ k : Nat, k < 676 → J 134 k = 0) := by
  intro m
  induction m with
  | zero =>
    intro n X hn h0
    exact ⟨X, v_X8_take_74 hg rfl n ⟨fun _ => v_X8_take_96 hg rfl ⟨rfl, rfl, rfl⟩, fun z => absurd (show (676 : Int) ≤ n by omega) z⟩, fun _ _ _ => rfl, fun k hk => h0 k (by omega)⟩
  | succ m ih =>
    intro n X hn h0
    obtain ⟨J, j1, j2, j3⟩ := ih (n + 1) (mset X 134 n 0) (by omega) (fun k hk => by
      by_cases e : k = n
      · rw [e, mset_s]
      · rw [mset_k _ _ e]; exact h0 k (by omega))
    refine ⟨J, v_X8_take_74 hg rfl n ⟨fun z => absurd z (by omega), fun _ => ⟨by omega, ?_⟩⟩, fun a k z => (j2 a k z).trans (mset_a _ _ z), j3⟩
    rw [Int.toNat_natCast]
    intro I2 e2
    rw [e2]
    exact ⟨by unfold inR; omega, j1⟩
end TAK
