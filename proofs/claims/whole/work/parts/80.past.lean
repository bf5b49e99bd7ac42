/-! ===== the past ===== -/
def wrt (I : IF) : IF := mset (cpy I 4 0 (68 + (I 66 2).toNat) 0 (I 3 1).toNat) 79 (I 66 2).toNat (I 3 1)
def Wr (X I : IF) : Prop := I 79 (I 66 2).toNat = X 0 1 ∧ ∀ j : Nat, (j : Int) < X 0 1 → I (68 + (I 66 2).toNat) j = X 1 j
def kpt (I : IF) : IF := mset (mset I 66 2 (if 11 ≤ I 66 2 + 1 then 0 else I 66 2 + 1)) 66 3 (min (I 66 3 + 1) 10)
def stb (I : IF) : IF := mset (mset I 66 3 (I 66 3 - 1)) 66 2 (if I 66 2 ≤ 0 then 10 else I 66 2 - 1)
/-- what KEEP of the reference does -/
def Kpd (I J : IF) : Prop := (∀ a k : Nat, a ≠ 132 → a ≠ 133 → (a ≠ 80 ∨ k ≠ 10) → J a k = I a k) ∧ ∃ s k' : Nat, ((s = 0 ∧ I 80 10 < 10) ∨ (s = 1 ∧ I 80 10 = 10)) ∧ I 80 10 = k' + s ∧ J 80 10 = k' + 1 ∧ (∀ i : Nat, i < k' → J 133 i = I 133 (i + s) ∧ ∀ j : Nat, j < 240 → J 132 (240 * i + j) = if s = 0 then I 132 (240 * i + j) else bByte (I 132 (240 * (i + 1) + j))) ∧ J 133 k' = I 122 1 ∧ ∀ j : Nat, (j : Int) < I 122 1 → J 132 (240 * k' + j) = bByte (I 123 j)
section PST
variable {Γ : GX} {g : AG} {I J X K T A L : IF}
theorem wrt_f {a k : Nat} (h : a ≠ 79 ∨ k ≠ (I 66 2).toNat) (h2 : a ≠ 68 + (I 66 2).toNat) : wrt I a k = I a k := by
  unfold wrt mset
  rw [if_neg (by omega)]
  unfold cpy
  rw [if_neg (by omega)]
theorem wrt_l : wrt I 79 (I 66 2).toNat = I 3 1 := mset_s _ _ _ _
theorem wrt_b (hp : I 66 2 ≤ 10) {j : Nat} (h : (j : Int) < I 3 1) : wrt I (68 + (I 66 2).toNat) j = I 4 j := by
  unfold wrt
  rw [mset_a _ _ (by omega)]
  unfold cpy
  rw [if_pos (by omega)]
  rw [show 0 + (j - 0) = j by omega]
theorem c_write (hg : GOc g) (hp : 0 ≤ I 66 2 ∧ I 66 2 ≤ 10) (hl : 0 ≤ I 3 1 ∧ I 3 1 ≤ 240) : CT Γ 1 mX2_write [.inr (some 66), .inr (some 3)] (g, I) (none, (g, wrt I)) := by
  refine CT.of (R := (none, (g, wrt I))) oX2_write (Nat.le_of_ble_eq_true rfl) (Nat.le_refl _) (Nat.le_refl _) (v_X2_write_0 hg 3 (Or.inl rfl) ⟨by omega, by omega, ?_⟩)
  intro I2 e2
  have f66 : I2 66 2 = I 66 2 := by
    rw [e2]; unfold cpy; rw [if_neg (by omega)]
  have f3 : I2 3 1 = I 3 1 := by
    rw [e2]; unfold cpy; rw [if_neg (by omega)]
  rw [f66, f3]
  refine ⟨by omega, fun I4 e4 => ⟨rfl, ?_⟩⟩
  rw [e4, e2]
  rfl
theorem wrt_w (hp : 0 ≤ I 66 2 ∧ I 66 2 ≤ 10) : Wr (ct 3 I) (wrt I) := by
  have e : wrt I 66 2 = I 66 2 := wrt_f (by omega) (by omega)
  unfold Wr
  rw [e]
  exact ⟨wrt_l, fun j hj => wrt_b hp.2 hj⟩
theorem Wr.mv (h : Wr X I) (hp : 0 ≤ I 66 2 ∧ I 66 2 ≤ 10) (e : ∀ a k : Nat, (a = 66 ∨ (68 ≤ a ∧ a ≤ 79)) → J a k = I a k) : Wr X J := by
  unfold Wr
  rw [e 66 2 (by omega)]
  refine ⟨by rw [e 79 _ (by omega)]; exact h.1, fun j hj => by rw [e _ _ (by omega)]; exact h.2 j hj⟩
theorem PastR.wr2 (h : PastR I) : PastR (wrt I) := by
  obtain ⟨⟨h1, h2, h3⟩, h4⟩ := h
  have e2 : wrt I 66 2 = I 66 2 := wrt_f (by omega) (by omega)
  have e3 : wrt I 66 3 = I 66 3 := wrt_f (by omega) (by omega)
  have e10 : wrt I 80 10 = I 80 10 := wrt_f (by omega) (by omega)
  refine ⟨by rw [e2, e3, e10]; exact ⟨h1, h2, h3⟩, fun i hi => ?_⟩
  rw [e3] at hi
  have es : slot (wrt I) i = slot I i := by unfold slot; rw [e2, e3]
  rw [es]
  have hs := slot_le (I := I) i
  have hn : slot I i ≠ (I 66 2).toNat := by unfold slot; omega
  exact (h4 i hi).mv hs (wrt_f (by omega) (by omega)) (wrt_f (by omega) (by omega)) (fun j _ => wrt_f (by omega) (by omega)) (fun j _ => wrt_f (by omega) (by omega))
theorem c_keepWritten (hg : GOc g) (hp : 0 ≤ I 66 2 ∧ I 66 2 ≤ 10) (hk : 0 ≤ I 66 3 ∧ I 66 3 ≤ 10) : CT Γ 1 mX2_keepWritten [.inr (some 66)] (g, I) (none, (g, kpt I)) := by
  refine CT.of (R := (none, (g, kpt I))) oX2_keepWritten (Nat.le_of_ble_eq_true rfl) (Nat.le_refl _) (Nat.le_refl _) (v_X2_keepWritten_0 hg ⟨by unfold inR; omega, fun z => ?_, fun z => ⟨by unfold inR; omega, ?_⟩⟩)
  · intro I3 e3
    have f : I3 66 3 = I 66 3 := by rw [e3, mset_k _ _ (by decide)]
    rw [f]
    refine ⟨by unfold inR; omega, fun I5 e5 => ⟨rfl, ?_⟩⟩
    unfold kpt
    rw [e5, e3, if_pos z]
  · intro I3 e3
    have f : I3 66 3 = I 66 3 := by rw [e3, mset_k _ _ (by decide)]
    rw [f]
    refine ⟨by unfold inR; omega, fun I5 e5 => ⟨rfl, ?_⟩⟩
    unfold kpt
    rw [e5, e3, if_neg z]
theorem kpt_f {a k : Nat} (h : a ≠ 66 ∨ (k ≠ 2 ∧ k ≠ 3)) : kpt I a k = I a k := by
  unfold kpt mset
  rw [if_neg (by omega), if_neg (by omega)]
theorem c_stepBack (hg : GOc g) (hp : 0 ≤ I 66 2 ∧ I 66 2 ≤ 10) (hk : 0 < I 66 3 ∧ I 66 3 ≤ 10) : CT Γ 0 mX2_stepBack [.inr (some 66)] (g, I) (some (.inl 1), (g, stb I)) := by
  refine CT.of (R := (some (.inl 1), (g, stb I))) oX2_stepBack (Nat.le_of_ble_eq_true rfl) (Nat.le_refl _) (Nat.le_refl _) (v_X2_stepBack_0 hg ⟨fun _ => ⟨by unfold inR; omega, ?_⟩, fun z => absurd z (by omega)⟩)
  intro I3 e3
  have f : I3 66 2 = I 66 2 := by rw [e3, mset_k _ _ (by decide)]
  rw [f]
  refine ⟨fun z I5 e5 => ⟨rfl, ?_⟩, fun z => ⟨by unfold inR; omega, fun I5 e5 => ⟨rfl, ?_⟩⟩⟩
  · unfold stb
    rw [e5, e3, if_pos z]
  · unfold stb
    rw [e5, e3, if_neg z]
theorem c_stepBack_n (hg : GOc g) (hk : I 66 3 = 0) : CT Γ 0 mX2_stepBack [.inr (some 66)] (g, I) (some (.inl 0), (g, I)) :=
  CT.of (R := (some (.inl 0), (g, I))) oX2_stepBack (Nat.le_of_ble_eq_true rfl) (Nat.le_refl _) (Nat.le_refl _) (v_X2_stepBack_0 hg ⟨fun z => absurd hk z, fun _ => ⟨rfl, rfl⟩⟩)
theorem stb_f {a k : Nat} (h : a ≠ 66 ∨ (k ≠ 2 ∧ k ≠ 3)) : stb I a k = I a k := by
  unfold stb mset
  rw [if_neg (by omega), if_neg (by omega)]
/-- another text, as read -/
theorem CIn.text (h : CIn I) (fo : FrO I A) (hX : RdOk 0 X) (a3 : TAg X (ct 3 A)) (a4 : SmO (ct 3 A) 0) (a5 : A 52 15 = 0) : CIn A := by
  obtain ⟨p1, p2, p3, p4⟩ := fo.p
  refine ⟨⟨hX.tok.cg a3, by show TOK 1 (zP A); rw [p1]; exact h.1.2.1, a4, ?_, ?_, ?_, ?_, ?_⟩, ⟨?_, ?_⟩, hX.cg a3, fun z => absurd a5 z⟩
  · intro p hp
    rw [fo 15 2 (by omega)] at hp
    rw [fo 57 p (by omega), p1]
    exact h.1.2.2.2.1 p hp
  · rw [p1, p4]; exact h.1.2.2.2.2.1
  · rw [p1, fo 52 8 (by omega)]; exact h.1.2.2.2.2.2.1
  · rw [p3]; exact h.1.2.2.2.2.2.2.1
  · rw [fo 15 1 (by omega)]; exact h.1.2.2.2.2.2.2.2
  · rw [p2]; exact h.2.1.1
  · rw [fo 27 1 (by omega)]; exact h.2.1.2
/-- RESTOREWRITTEN -/
theorem c_restore (hg : GOc g) (hc : CIn I) (hp : 0 ≤ I 66 2 ∧ I 66 2 ≤ 10) (hX : RdOk 0 X) (hW : Wr X I) :
    ∃ A : IF, CT Γ 5 mX6_restoreWritten [.inr (some 1)] (g, I) (none, (g, A)) ∧ FrO I A ∧ CIn A ∧ TAg X (ct 3 A) := by
  have tx := hX.tok
  have hl := tx.1.1
  have w1 := hW.1
  have ld := c_load (Γ := Γ) (I := I) (t := 39) hg tr39 (b := 68 + (I 66 2).toNat) (nb := 240) (by omega) (gs_row hg hp.1 (by omega)) (by decide) (x := I 79 (I 66 2).toNat) (by rw [w1]; omega)
  have k1 : ldN I 39 (68 + (I 66 2).toNat) (I 79 (I 66 2).toNat).toNat 39 1 = X 0 1 := by
    rw [ldN_1, w1]; omega
  have k2 : ∀ j : Nat, (j : Int) < X 0 1 → ldN I 39 (68 + (I 66 2).toNat) (I 79 (I 66 2).toNat).toNat 40 j = X 1 j := fun j hj => by
    rw [ldN_n (t := 39) (by omega) (by rw [w1]; omega)]
    exact hW.2 j hj
  have kf : ∀ a k : Nat, (a < 39 ∨ 51 < a) → ldN I 39 (68 + (I 66 2).toNat) (I 79 (I 66 2).toNat).toNat a k = I a k := fun a k z => ldN_f (by omega) (by omega)
  generalize ldN I 39 (68 + (I 66 2).toNat) (I 79 (I 66 2).toNat).toNat = Y at ld k1 k2 kf
  have rt := c_readTree' (Γ := Γ) (I := Y) (w := 0) hg (by rw [k1]; exact hl) (fun j hj => by
    rw [k1] at hj
    rw [k2 j hj]
    exact tx.1.2.2 j hj)
  obtain ⟨ag1, ag2⟩ := hX.again k1 k2
  rw [ag1] at rt
  obtain ⟨A, a1, a2, a3, a4, a5⟩ := c_adopt0 (Γ := Γ) (I := (RR (kStart 0 Y)).2) hg (tx.cg ag2)
  have fo : FrO I A := fun a k z => (a2 a k (by omega) (by omega)).trans ((RR_f (by omega)).trans (kf a k (by omega)))
  have rw' : CT Γ 3 mX2_readWritten [.inr (some 66), .inr (some 39)] (g, I) (none, (g, Y)) := CT.of (R := (none, (g, Y))) oX2_readWritten (Nat.le_of_ble_eq_true rfl) (Nat.le_refl _) (Nat.le_refl _) (v_X2_readWritten_0 hg 39 tr39 ⟨by omega, by omega, _, ld, rfl, rfl⟩)
  exact ⟨A, CT.of (R := (none, (g, A))) oX6_restoreWritten (Nat.le_of_ble_eq_true rfl) (Nat.le_refl _) (Nat.le_refl _) (v_X6_restoreWritten_0 hg ⟨_, rw', _, _, rt, _, a1, rfl, rfl⟩), fo, hc.text fo hX (ag2.tr a3) a4 a5, ag2.tr a3⟩
/-! the reference's KEEP -/
theorem m_keep_82 (hg : GOk g) {kn : Nat} (hk : kn < 10) (hl : 0 ≤ I 122 1 ∧ I 122 1 ≤ 240) (h10 : I 80 10 = kn) : ∀ (m n : Nat) (X : IF), m + n = (I 122 1).toNat → (∀ a k : Nat, a ≠ 132 → X a k = I a k) → (∀ k : Nat, k < 240 * kn → X 132 k = I 132 k) → (∀ j : Nat, j < n → X 132 (240 * kn + j) = bByte (I 123 j)) →
    ∃ J : IF, Ev Γ 0 mX8_keep 82 [some (.inr (some 80)), some (.inr (some 122)), some (.inl n)] [] (g, X) (none, (g, J)) ∧ (∀ a k : Nat, a ≠ 132 → (a ≠ 133 ∨ k ≠ kn) → (a ≠ 80 ∨ k ≠ 10) → J a k = I a k) ∧ (∀ k : Nat, k < 240 * kn → J 132 k = I 132 k) ∧ (∀ j : Nat, (j : Int) < I 122 1 → J 132 (240 * kn + j) = bByte (I 123 j)) ∧ J 133 kn = I 122 1 ∧ J 80 10 = kn + 1 := by
  intro m
  induction m with
  | zero =>
    intro n X hn hX h1 h2
    have e1 := hX 80 10 (by decide)
    have e2 := hX 122 1 (by decide)
    refine ⟨mset (mset X 133 kn (I 122 1)) 80 10 (kn + 1), v_X8_keep_82 hg 122 (by unfold Mt; omega) n ⟨fun _ => ⟨by omega, ?_⟩, fun z => absurd (by omega) z⟩, fun a k z1 z2 z3 => ?_, fun k hk => ?_, fun j hj => ?_, ?_, mset_s _ _ _ _⟩
    · rw [e1, h10, e2]
      intro I2 e3
      have e4 : I2 80 10 = kn := by rw [e3, mset_a _ _ (by decide), e1, h10]
      rw [e4]
      refine ⟨by unfold inR; omega, fun I5 e5 => ⟨rfl, ?_⟩⟩
      rw [e5, e3]
      rfl
    · unfold mset
      rw [if_neg (by omega), if_neg (by omega)]
      exact hX a k z1
    · rw [mset_a _ _ (by decide), mset_a _ _ (by decide)]
      exact h1 k hk
    · rw [mset_a _ _ (by decide), mset_a _ _ (by decide)]
      exact h2 j (by omega)
    · rw [mset_a _ _ (by decide), mset_s]
  | succ m ih =>
    intro n X hn hX h1 h2
    have e1 := hX 80 10 (by decide)
    have e2 := hX 122 1 (by decide)
    obtain ⟨J, j1, j2⟩ := ih (n + 1) (mset X 132 (240 * kn + n) (bByte (I 123 n))) (by omega) (fun a k z => (mset_a _ _ z).trans (hX a k z)) (fun k hk => by
      rw [mset_k _ _ (by omega)]; exact h1 k hk) (fun j hj => by
      by_cases e : j = n
      · rw [e, mset_s]
      · rw [mset_k _ _ (by omega)]; exact h2 j (by omega))
    refine ⟨J, v_X8_keep_82 hg 122 (by unfold Mt; omega) n ⟨fun z => absurd z (by omega), fun _ => ?_⟩, j2⟩
    rw [e1, h10]
    refine ⟨by unfold inR; omega, by unfold inR; omega, by omega, by omega, fun I9 e9 => ⟨by unfold inR; omega, ?_⟩⟩
    rw [e9, show (240 * (kn : Int) + (n : Int)).toNat = 240 * kn + n by omega, Int.toNat_natCast, hX 123 n (by decide)]
    exact j1
theorem m_keep_44 (hg : GOk g) {Q : IF → Prop} (fin : ∀ X : IF, (∀ a k : Nat, a ≠ 133 → X a k = I a k) → (∀ k : Nat, k < 9 → X 133 k = I 133 (k + 1)) → inR (X 80 10 - 1) ∧ ∃ J : IF, Ev Γ 0 mX8_keep 82 [some (.inr (some 80)), some (.inr (some 122)), some (.inl 0)] [] (g, mset X 80 10 (X 80 10 - 1)) (none, (g, J)) ∧ Q J) : ∀ (m n : Nat) (X : IF), m + n = 9 → (∀ a k : Nat, a ≠ 133 → X a k = I a k) → (∀ k : Nat, k < n → X 133 k = I 133 (k + 1)) → (∀ k : Nat, n ≤ k → X 133 k = I 133 k) →
    ∃ J : IF, Ev Γ 0 mX8_keep 44 [some (.inr (some 80)), some (.inr (some 122)), some (.inl ((n : Int) + 1))] [] (g, X) (none, (g, J)) ∧ Q J := by
  intro m
  induction m with
  | zero =>
    intro n X hn hX h1 h2
    obtain ⟨f1, J, f2, f3⟩ := fin X hX (fun k hk => h1 k (by omega))
    exact ⟨J, v_X8_keep_44 hg 122 (by unfold Mt; omega) _ ⟨fun _ => ⟨f1, fun I3 e3 => by rw [e3]; exact f2⟩, fun z => absurd (by omega) z⟩, f3⟩
  | succ m ih =>
    intro n X hn hX h1 h2
    obtain ⟨J, go, hq⟩ := ih (n + 1) (mset X 133 n (I 133 (n + 1))) (by omega) (fun a k z => (mset_a _ _ z).trans (hX a k z)) (fun k hk => by
      by_cases e : k = n
      · rw [e, mset_s]
      · rw [mset_k _ _ e]; exact h1 k (by omega)) (fun k hk => by rw [mset_k _ _ (by omega)]; exact h2 k (by omega))
    refine ⟨J, v_X8_keep_44 hg 122 (by unfold Mt; omega) _ ⟨fun z => absurd z (by omega), fun _ => ⟨by unfold inR; omega, by omega, by omega, fun I6 e6 => ⟨by unfold inR; omega, ?_⟩⟩⟩, hq⟩
    rw [e6, show ((n : Int) + 1 - 1).toNat = n by omega, show ((n : Int) + 1).toNat = n + 1 by omega, h2 (n + 1) (by omega)]
    exact go
theorem m_keep_13 (hg : GOk g) {Q : IF → Prop} (fin : ∀ X : IF, (∀ a k : Nat, a ≠ 132 → X a k = I a k) → (∀ k : Nat, k < 2160 → X 132 k = bByte (I 132 (k + 240))) → ∃ J : IF, Ev Γ 0 mX8_keep 44 [some (.inr (some 80)), some (.inr (some 122)), some (.inl 1)] [] (g, X) (none, (g, J)) ∧ Q J) : ∀ (m n : Nat) (X : IF), m + n = 2160 → (∀ a k : Nat, a ≠ 132 → X a k = I a k) → (∀ k : Nat, k < n → X 132 k = bByte (I 132 (k + 240))) → (∀ k : Nat, n ≤ k → X 132 k = I 132 k) →
    ∃ J : IF, Ev Γ 0 mX8_keep 13 [some (.inr (some 80)), some (.inr (some 122)), some (.inl ((n : Int) + 240))] [] (g, X) (none, (g, J)) ∧ Q J := by
  intro m
  induction m with
  | zero =>
    intro n X hn hX h1 h2
    obtain ⟨J, f1, f2⟩ := fin X hX (fun k hk => h1 k (by omega))
    exact ⟨J, v_X8_keep_13 hg 122 (by unfold Mt; omega) _ ⟨fun _ => f1, fun z => absurd (by omega) z⟩, f2⟩
  | succ m ih =>
    intro n X hn hX h1 h2
    obtain ⟨J, go, hq⟩ := ih (n + 1) (mset X 132 n (bByte (I 132 (n + 240)))) (by omega) (fun a k z => (mset_a _ _ z).trans (hX a k z)) (fun k hk => by
      by_cases e : k = n
      · rw [e, mset_s]
      · rw [mset_k _ _ e]; exact h1 k (by omega)) (fun k hk => by rw [mset_k _ _ (by omega)]; exact h2 k (by omega))
    refine ⟨J, v_X8_keep_13 hg 122 (by unfold Mt; omega) _ ⟨fun z => absurd z (by omega), fun _ => ⟨by unfold inR; omega, by omega, by omega, fun I6 e6 => ⟨by unfold inR; omega, ?_⟩⟩⟩, hq⟩
    rw [e6, show ((n : Int) + 240 - 240).toNat = n by omega, show ((n : Int) + 240).toNat = n + 240 by omega, h2 (n + 240) (by omega), show (n : Int) + 240 + 1 = ((n + 1 : Nat) : Int) + 240 by omega]
    exact go
/-- KEEP -/
theorem m_keep (hg : GOk g) (hl : 0 ≤ I 122 1 ∧ I 122 1 ≤ 240) (h10 : 0 ≤ I 80 10 ∧ I 80 10 ≤ 10) : ∃ J : IF, CT Γ 0 mX8_keep [.inr (some 80), .inr (some 122)] (g, I) (none, (g, J)) ∧ Kpd I J := by
  by_cases hk : I 80 10 = 10
  · have k13 := m_keep_13 (Γ := Γ) (g := g) (I := I) (Q := Kpd I) hg (fun X x1 x2 => by
      refine m_keep_44 (Γ := Γ) (g := g) (I := X) (Q := Kpd I) hg (fun Y y1 y2 => ?_) 9 0 X rfl (fun _ _ _ => rfl) (fun k hk => absurd hk (Nat.not_lt_zero _)) (fun _ _ => rfl)
      have e10 : Y 80 10 = 10 := by rw [y1 80 10 (by decide), x1 80 10 (by decide), hk]
      rw [e10]
      refine ⟨by unfold inR; omega, ?_⟩
      have e122 : mset Y 80 10 (10 - 1) 122 1 = I 122 1 := by
        rw [mset_a _ _ (by decide), y1 122 1 (by decide), x1 122 1 (by decide)]
      have yf : ∀ a k : Nat, a ≠ 132 → a ≠ 133 → (a ≠ 80 ∨ k ≠ 10) → mset Y 80 10 (10 - 1) a k = I a k := fun a k z1 z2 z3 => by
        unfold mset
        rw [if_neg (by omega), y1 a k z2, x1 a k z1]
      obtain ⟨J, j1, j2, j3, j4, j5, j6⟩ := m_keep_82 (Γ := Γ) (I := mset Y 80 10 (10 - 1)) (kn := 9) hg (by omega) (by rw [e122]; exact hl) (mset_s _ _ _ _) (mset Y 80 10 (10 - 1) 122 1).toNat 0 _ (by omega) (fun _ _ _ => rfl) (fun _ _ => rfl) (fun j hj => absurd hj (Nat.not_lt_zero _))
      refine ⟨J, j1, fun a k z1 z2 z3 => (j2 a k z1 (Or.inl z2) z3).trans (yf a k z1 z2 z3), 1, 9, Or.inr ⟨rfl, hk⟩, by omega, j6, fun i hi => ⟨?_, fun j hj => ?_⟩, by rw [j5, e122], fun j hj => ?_⟩
      · rw [j2 133 i (by decide) (by omega) (by omega), mset_a _ _ (by decide), y2 i hi, x1 133 _ (by decide)]
      · rw [if_neg (by decide), j3 _ (by omega), mset_a _ _ (by decide), y1 132 _ (by decide), x2 _ (by omega), show 240 * i + j + 240 = 240 * (i + 1) + j by omega]
      · rw [j4 j (by rw [e122]; exact hj), yf 123 j (by decide) (by decide) (by omega)]) 2160 0 I rfl (fun _ _ _ => rfl) (fun k hk => absurd hk (Nat.not_lt_zero _)) (fun _ _ => rfl)
    obtain ⟨J, j1, j2⟩ := k13
    exact ⟨J, CT.of (R := (none, (g, J))) oX8_keep (Nat.le_of_ble_eq_true rfl) (Nat.le_refl _) (Nat.le_refl _) (v_X8_keep_0 hg 122 (by unfold Mt; omega) ⟨fun z => absurd hk z, fun _ => j1⟩), j2⟩
  · obtain ⟨kn, ekn⟩ : ∃ kn : Nat, I 80 10 = kn := ⟨(I 80 10).toNat, by omega⟩
    obtain ⟨J, j1, j2, j3, j4, j5, j6⟩ := m_keep_82 (Γ := Γ) (I := I) (kn := kn) hg (by omega) hl ekn (I 122 1).toNat 0 I (by omega) (fun _ _ _ => rfl) (fun _ _ => rfl) (fun j hj => absurd hj (Nat.not_lt_zero _))
    refine ⟨J, CT.of (R := (none, (g, J))) oX8_keep (Nat.le_of_ble_eq_true rfl) (Nat.le_refl _) (Nat.le_refl _) (v_X8_keep_0 hg 122 (by unfold Mt; omega) ⟨fun _ => j1, fun z => absurd z hk⟩), fun a k z1 z2 z3 => j2 a k z1 (Or.inl z2) z3, 0, kn, Or.inl ⟨rfl, by omega⟩, by omega, j6, fun i hi => ⟨j2 133 i (by decide) (by omega) (by omega), fun j hj => ?_⟩, j5, j4⟩
    rw [if_pos rfl]
    exact j3 _ (by omega)
/-- the past stands behind a keep of both -/
theorem PastR.keep (h : PastR A) (hW : Wr T A) (hR : RdOk 0 T) (e2 : J 66 2 = if 11 ≤ A 66 2 + 1 then 0 else A 66 2 + 1) (e3 : J 66 3 = min (A 66 3 + 1) 10) (e68 : ∀ a k : Nat, 68 ≤ a → a ≤ 79 → J a k = A a k) (L10 : L 80 10 = A 80 10) (L132 : ∀ k : Nat, L 132 k = A 132 k ∧ L 133 k = A 133 k) (Lb : L 122 1 = T 0 1 ∧ ∀ j : Nat, (j : Int) < T 0 1 → L 123 j = sb (T 1 j)) (hk : Kpd L J) : PastR J := by
  obtain ⟨⟨h1, h2, h3⟩, h4⟩ := h
  obtain ⟨k1, s, kn, k2, k3, k4, k5, k6, k7⟩ := hk
  have tx := hR.tok
  have e3' : J 66 3 = kn + 1 := by rw [e3]; omega
  have e2' : (J 66 2 = 0 ∧ A 66 2 = 10) ∨ (J 66 2 = A 66 2 + 1 ∧ A 66 2 < 10) := by
    by_cases z : 11 ≤ A 66 2 + 1
    · rw [if_pos z] at e2
      exact Or.inl ⟨e2, by omega⟩
    · rw [if_neg z] at e2
      exact Or.inr ⟨e2, by omega⟩
  refine ⟨⟨by rw [k4, e3'], by omega, by omega⟩, fun i hi => ?_⟩
  by_cases ei : i < kn
  · have es : slot J i = slot A (i + s) := by
      unfold slot
      rw [e3']
      omega
    rw [es]
    have hs := slot_le (I := A) (i + s)
    obtain ⟨q1, q2, q3, X, q4, q5, q6⟩ := h4 (i + s) (by omega)
    have xt := q4.tok
    refine ⟨by rw [e68 79 _ (by omega) (by omega)]; exact q1, ?_, fun j hj => ?_, X, q4, by rw [e68 79 _ (by omega) (by omega)]; exact q5, fun j hj => ?_⟩
    · rw [e68 79 _ (by omega) (by omega), (k5 i ei).1, (L132 _).2]
      exact q2
    · rw [e68 79 _ (by omega) (by omega)] at hj
      rw [(k5 i ei).2 j (by omega), e68 _ _ (by omega) (by omega)]
      rcases k2 with z | z
      · rw [if_pos z.1, (L132 _).1]
        have := q3 j hj
        rw [z.1] at this ⊢
        exact this
      · rw [if_neg (by omega), (L132 _).1]
        have w := q3 j hj
        rw [z.1] at w hj q6 q5 ⊢
        rw [w, ← q6 j hj]
        have b := xt.1.2.2 j (by rw [q5]; exact hj)
        exact bByte_sb b.1 b.2
    · rw [e68 79 _ (by omega) (by omega)] at hj
      rw [e68 _ _ (by omega) (by omega)]
      exact q6 j hj
  · have ei' : i = kn := by omega
    have es : slot J i = (A 66 2).toNat := by
      unfold slot
      rw [e3']
      omega
    rw [es, ei']
    have f79 : J 79 (A 66 2).toNat = T 0 1 := by rw [e68 79 _ (by omega) (by omega)]; exact hW.1
    refine ⟨by rw [f79]; exact tx.1.1, by rw [f79, k6]; exact Lb.1, fun j hj => ?_, T, hR, f79.symm, fun j hj => ?_⟩
    · rw [f79] at hj
      rw [k7 j (by rw [Lb.1]; exact hj), Lb.2 j hj, e68 _ _ (by omega) (by omega), hW.2 j hj]
      have b := tx.1.2.2 j hj
      exact bByte_sb b.1 b.2
    · rw [f79] at hj
      rw [e68 _ _ (by omega) (by omega), hW.2 j hj]
end PST
