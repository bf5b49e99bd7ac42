/-! ===== rows of none: the class ===== -/
def FrG (I J : IF) : Prop := ∀ a k : Nat, a ≠ 65 → J a k = I a k
/-- a letter's first node, and how many -/
def fn (I : IF) (l : Nat) : Int := if I 25 l = -1 then -1 else I 53 (I 25 l).toNat
def hm (I : IF) (l : Nat) : Int := if I 25 l = -1 then -1 else I 54 (I 25 l).toNat
def Non (X I : IF) (q : Nat) : Prop := (q : Int) < X 0 2 ∧ X 2 q = 2 ∧ hm I (X 9 q).toNat = 0
section DRP
variable {Γ : GX} {g : AG} {I J X K : IF} {N : Nat → Prop}
theorem FrG.rf : FrG I I := fun _ _ _ => rfl
theorem FrG.tr (h : FrG I J) (h2 : FrG J K) : FrG I K := fun a k z => (h2 a k z).trans (h a k z)
theorem FrG.ct (h : FrG I J) : ct 27 J = ct 27 I := ct_eq (t := 27) (fun i k hi => h _ _ (by omega))
theorem Non.nr : NR X (Non X I) := fun p h => ⟨h.1, h.2.1⟩
theorem pl10 (h : TOK 1 (ct 15 I)) {l : Nat} (hl : l < 26) : I 25 l = -1 ∨ (0 ≤ I 25 l ∧ I 25 l < 120) := by
  have a := h.2.2.2.2.2.1.2.1 l hl
  have b := h.1.2.1
  have a' : (I 25 l = -1 ∧ _) ∨ (0 ≤ I 25 l ∧ I 25 l < ct 15 I 0 2 ∧ _) := a
  rcases a' with z | z
  · exact Or.inl z.1
  · exact Or.inr ⟨z.1, by omega⟩
theorem c_howMany (hg : GOc g) (h : TOK 1 (ct 15 I)) {l : Nat} (hl : l < 26) : CT Γ 0 mX1_howMany [.inr (some 52), .inl l] (g, I) (some (.inl (hm I l)), (g, I)) := by
  have p := pl10 h hl
  refine CT.of (R := (some (.inl (hm I l)), (g, I))) oX1_howMany (Nat.le_of_ble_eq_true rfl) (Nat.le_refl _) (Nat.le_refl _) (v_X1_howMany_0 hg l ⟨⟨by omega, by omega⟩, ?_⟩)
  rw [Int.toNat_natCast]
  intro y ey
  unfold hm
  refine ⟨fun z => ⟨⟨by omega, by omega⟩, ?_, rfl⟩, fun z => ⟨?_, rfl⟩⟩
  · rw [if_neg (by rw [← ey]; exact z), ey]
  · rw [if_pos (by rw [← ey]; exact z)]
theorem c_firstNode (hg : GOc g) (h : TOK 1 (ct 15 I)) {l : Nat} (hl : l < 26) : CT Γ 0 mX1_firstNode [.inr (some 52), .inl l] (g, I) (some (.inl (fn I l)), (g, I)) := by
  have p := pl10 h hl
  refine CT.of (R := (some (.inl (fn I l)), (g, I))) oX1_firstNode (Nat.le_of_ble_eq_true rfl) (Nat.le_refl _) (Nat.le_refl _) (v_X1_firstNode_0 hg l ⟨⟨by omega, by omega⟩, ?_⟩)
  rw [Int.toNat_natCast]
  intro y ey
  unfold fn
  refine ⟨fun z => ⟨⟨by omega, by omega⟩, ?_, rfl⟩, fun z => ⟨?_, rfl⟩⟩
  · rw [if_neg (by rw [← ey]; exact z), ey]
  · rw [if_pos (by rw [← ey]; exact z)]
theorem c_dropBytes (hg : GOc g) {x y : Int} (hx : 0 ≤ x ∧ x ≤ 1000) : ∃ J : IF, CT Γ 0 mX3_dropBytes [.inr (some 64), .inl x, .inl y] (g, I) (none, (g, J)) ∧ FrG I J ∧ ∀ k : Nat, k < 80 → J 65 k = (if x ≤ k ∧ (k : Int) < y then 1 else I 65 k) := by
  have lp : ∀ (n : Nat) (x : Int) (I : IF), n = (80 - x).toNat → 0 ≤ x → ∃ J : IF, Ev Γ 0 mX3_dropBytes 2 [some (.inr (some 64)), none, some (.inl y), some (.inl x)] [] (g, I) (none, (g, J)) ∧ FrG I J ∧ ∀ k : Nat, k < 80 → J 65 k = (if x ≤ k ∧ (k : Int) < y then 1 else I 65 k) := by
    intro n
    induction n with
    | zero =>
      intro x I hn hx
      refine ⟨I, v_X3_dropBytes_2 hg y x ⟨fun _ => ⟨rfl, rfl⟩, fun _ => ⟨fun _ => ⟨rfl, rfl⟩, fun z => absurd (show (80 : Int) ≤ x by omega) z⟩⟩, FrG.rf, fun k hk => ?_⟩
      rw [if_neg (by omega)]
    | succ n ih =>
      intro x I hn hx
      by_cases hy : y ≤ x
      · refine ⟨I, v_X3_dropBytes_2 hg y x ⟨fun _ => ⟨rfl, rfl⟩, fun z => absurd hy z⟩, FrG.rf, fun k hk => ?_⟩
        rw [if_neg (by omega)]
      · obtain ⟨J, j1, j2, j3⟩ := ih (x + 1) (mset I 65 x.toNat 1) (by omega) (by omega)
        refine ⟨J, v_X3_dropBytes_2 hg y x ⟨fun z => absurd z hy, fun _ => ⟨fun z => absurd z (by omega), fun _ => ⟨⟨by omega, by omega⟩, fun I3 e3 => ?_⟩⟩⟩, fun a k z => (j2 a k z).trans (mset_a _ _ z), fun k hk => ?_⟩
        · rw [e3]
          exact ⟨by unfold inR; omega, j1⟩
        · rw [j3 k hk]
          by_cases e : (k : Int) = x
          · rw [if_neg (by omega), if_pos (by omega), show k = x.toNat by omega, mset_s]
          · rw [mset_k _ _ (by omega)]
            by_cases z : x + 1 ≤ (k : Int) ∧ (k : Int) < y
            · rw [if_pos z, if_pos (by omega)]
            · rw [if_neg z, if_neg (by omega)]
  obtain ⟨J, j1, j2⟩ := lp (80 - x).toNat x I rfl hx.1
  exact ⟨J, CT.of (R := (none, (g, J))) oX3_dropBytes (Nat.le_of_ble_eq_true rfl) (Nat.le_refl _) (Nat.le_refl _) (v_X3_dropBytes_0 hg x y j1), j2⟩
theorem c_pieceAhead (hg : GOc g) (hX : TOK 2 (ct 27 I)) (hl : I 27 1 ≤ 80) {p : Nat} (hp : (p : Int) < I 27 2) (hN : ∀ q : Nat, q < p → (I 65 (I 30 q).toNat ≠ 0 ↔ N q)) : CT Γ 0 mX3_pieceAhead [.inr (some 64), .inl p] (g, I) (some (.inl (ahf (ct 27 I) N p p)), (g, I)) := by
  have hc : 1 ≤ I 27 2 ∧ I 27 2 ≤ 120 := hX.1.2.1
  have s : ∀ q : Nat, (q : Int) < I 27 2 → 0 ≤ I 30 q ∧ I 30 q < 80 := fun q hq => by
    have a : 0 ≤ I 30 q ∧ I 30 q < I 31 q ∧ I 31 q ≤ I 32 q ∧ I 32 q ≤ I 27 1 := hX.2.2.2.2.1.1 q hq
    omega
  have lp : ∀ m : Nat, m ≤ p → Ev Γ 0 mX3_pieceAhead 4 [some (.inr (some 64)), some (.inl p), some (.inl ((m : Int) - 1))] [] (g, I) (some (.inl (ahf (ct 27 I) N p m)), (g, I)) := by
    intro m
    induction m with
    | zero =>
      intro hm
      exact v_X3_pieceAhead_4 hg p _ ⟨fun _ => ⟨rfl, rfl⟩, fun z => absurd (by decide) z⟩
    | succ m ih =>
      intro hm
      have k := ih (by omega)
      have sm := s m (by omega)
      have e : (((m + 1 : Nat) : Int) - 1) = (m : Int) := by omega
      rw [e]
      refine v_X3_pieceAhead_4 hg p m ⟨fun z => absurd z (by omega), fun _ => ?_⟩
      rw [Int.toNat_natCast, Int.toNat_natCast]
      have h6 : ∀ q : Nat, ct 27 I 6 q = I 33 q := fun q => rfl
      unfold ahf
      rw [h6, h6]
      refine ⟨⟨by omega, by omega⟩, ⟨by omega, by omega⟩, fun z => ⟨by unfold inR; omega, ?_⟩, fun z => ⟨⟨by omega, by omega⟩, sm, fun y => ⟨by unfold inR; omega, ?_⟩, fun y => ⟨?_, rfl⟩⟩⟩
      · rw [cif_f (fun w => z w.1)]
        exact k
      · rw [cif_f (fun w => w.2 ((hN m (by omega)).1 y))]
        exact k
      · rw [cif_t ⟨z, fun w => (hN m (by omega)).2 w y⟩]
  refine CT.of (R := (some (.inl (ahf (ct 27 I) N p p)), (g, I))) oX3_pieceAhead (Nat.le_of_ble_eq_true rfl) (Nat.le_refl _) (Nat.le_refl _) (v_X3_pieceAhead_0 hg p ⟨by unfold inR; omega, fun y ey => ?_⟩)
  rw [ey]
  exact lp p (Nat.le_refl _)
theorem c_dropRow (hg : GOc g) (hX : TOK 2 (ct 27 I)) (hl : I 27 1 ≤ 80) {p : Nat} (hp : (p : Int) < I 27 2) (hN : ∀ q : Nat, q < p → (I 65 (I 30 q).toNat ≠ 0 ↔ N q)) :
    ∃ J : IF, CT Γ 1 mX3_dropRow [.inr (some 64), .inl p] (g, I) (none, (g, J)) ∧ FrG I J ∧ ∀ k : Nat, k < 80 → (J 65 k ≠ 0 ↔ (I 65 k ≠ 0 ∨ (iv0 (ct 27 I) N p ≤ k ∧ (k : Int) < iv1 (ct 27 I) p))) := by
  have hc : 1 ≤ I 27 2 ∧ I 27 2 ≤ 120 := hX.1.2.1
  have s : ∀ q : Nat, (q : Int) < I 27 2 → 0 ≤ I 30 q ∧ I 30 q < I 31 q ∧ I 31 q ≤ I 32 q ∧ I 32 q ≤ I 27 1 := hX.2.2.2.2.1.1
  have ib : 0 ≤ iv0 (ct 27 I) N p ∧ iv1 (ct 27 I) p ≤ I 27 1 := iv_b (N := N) hX hp
  have i0 : iv0 (ct 27 I) N p ≤ 1000 := by
    unfold iv0
    by_cases z : ((p : Int) + 1 < ct 27 I 0 2 ∧ ct 27 I 6 (p + 1) = ct 27 I 6 p) ∨ ahf (ct 27 I) N p p = -1
    · rw [if_pos z]
      have := s p hp
      show I 30 p ≤ 1000
      omega
    · rw [if_neg z]
      rcases ahf_r (ct 27 I) N p p with y | y
      · exact absurd (Or.inr y.1) z
      · have := s (ahf (ct 27 I) N p p).toNat (by omega)
        show I 32 (ahf (ct 27 I) N p p).toNat ≤ 1000
        omega
  obtain ⟨J, j1, j2, j3⟩ := c_dropBytes (Γ := Γ) (I := I) hg (x := iv0 (ct 27 I) N p) (y := iv1 (ct 27 I) p) ⟨ib.1, i0⟩
  have fin : ∀ k : Nat, k < 80 → (J 65 k ≠ 0 ↔ (I 65 k ≠ 0 ∨ (iv0 (ct 27 I) N p ≤ k ∧ (k : Int) < iv1 (ct 27 I) p))) := fun k hk => by
    rw [j3 k hk]
    by_cases z : iv0 (ct 27 I) N p ≤ k ∧ (k : Int) < iv1 (ct 27 I) p
    · rw [if_pos z]
      exact ⟨fun _ => Or.inr z, fun _ => by decide⟩
    · rw [if_neg z]
      exact ⟨fun y => Or.inl y, fun y => y.resolve_right z⟩
  have ah := c_pieceAhead (Γ := Γ) hg hX hl hp hN
  have e59 : ¬ ((p : Int) + 1 < I 27 2 ∧ I 33 (p + 1) = I 33 p) → Ev Γ 1 mX3_dropRow 59 [some (.inr (some 64)), some (.inl p), none, none] [] (g, I) (none, (g, J)) := fun hn => by
    have e1 : iv1 (ct 27 I) p = I 32 p := if_neg hn
    refine v_X3_dropRow_59 hg p ⟨_, _, ah, ?_, ?_⟩
    · intro z
      rcases ahf_r (ct 27 I) N p p with y | y
      · exact absurd y.1 z
      · refine ⟨⟨y.1, by omega⟩, ⟨by omega, by omega⟩, J, ?_, rfl, rfl⟩
        rw [Int.toNat_natCast, ← e1]
        have e0 : iv0 (ct 27 I) N p = I 32 (ahf (ct 27 I) N p p).toNat := if_neg (fun w => w.elim hn z)
        rw [← e0]
        exact j1
    · intro z
      refine ⟨⟨by omega, by omega⟩, ⟨by omega, by omega⟩, J, ?_, rfl, rfl⟩
      rw [Int.toNat_natCast, ← e1]
      have e0 : iv0 (ct 27 I) N p = I 30 p := if_pos (Or.inr z)
      rw [← e0]
      exact j1
  refine ⟨J, CT.of (R := (none, (g, J))) oX3_dropRow (Nat.le_of_ble_eq_true rfl) (Nat.le_refl _) (Nat.le_refl _) (v_X3_dropRow_0 hg p ⟨by unfold inR; omega, fun y ey => ?_⟩), j2, fin⟩
  subst ey
  rw [show ((p : Int) + 1).toNat = p + 1 by omega, Int.toNat_natCast]
  refine ⟨fun z => e59 (fun w => by omega), fun z => ⟨⟨by omega, by omega⟩, ⟨by omega, by omega⟩, fun y => e59 (fun w => y w.2), fun y => ⟨⟨by omega, by omega⟩, ⟨by omega, by omega⟩, J, ?_, rfl, rfl⟩⟩⟩
  have e0 : iv0 (ct 27 I) N p = I 30 p := if_pos (Or.inl ⟨by show (p : Int) + 1 < I 27 2; omega, y⟩)
  have e1 : iv1 (ct 27 I) p = I 30 (p + 1) := if_pos ⟨by show (p : Int) + 1 < I 27 2; omega, y⟩
  rw [← e0, ← e1]
  exact j1
/-- DROPROWSOFNONE -/
theorem c_dropRowsOfNone (hg : GOc g) (hP : TOK 1 (ct 15 I)) (hX : TOK 2 (ct 27 I)) (hl : I 27 1 ≤ 80) :
    ∃ J : IF, CT Γ 2 mX3_dropRowsOfNone [.inr (some 64)] (g, I) (none, (g, J)) ∧ FrG I J ∧ ∀ k : Nat, k < 80 → (J 65 k ≠ 0 ↔ SS (ct 27 I) (Non (ct 27 I) I) (I 27 2).toNat k) := by
  have hc : 1 ≤ I 27 2 ∧ I 27 2 ≤ 120 := hX.1.2.1
  have hx := hX
  have lp : ∀ (m p : Nat) (K : IF), m + p = (I 27 2).toNat → FrG I K → (∀ k : Nat, k < 80 → (K 65 k ≠ 0 ↔ SS (ct 27 I) (Non (ct 27 I) I) p k)) →
      ∃ J : IF, Ev Γ 2 mX3_dropRowsOfNone 23 [some (.inr (some 64)), some (.inl p)] [] (g, K) (none, (g, J)) ∧ FrG I J ∧ ∀ k : Nat, k < 80 → (J 65 k ≠ 0 ↔ SS (ct 27 I) (Non (ct 27 I) I) (I 27 2).toNat k) := by
    intro m
    induction m with
    | zero =>
      intro p K hmp hK hs
      have k27 : K 27 2 = I 27 2 := hK 27 2 (by decide)
      refine ⟨K, v_X3_dropRowsOfNone_23 hg p ⟨fun _ => ⟨rfl, rfl⟩, fun z => absurd (by rw [k27]; omega) z⟩, hK, fun k hk => ?_⟩
      rw [show (I 27 2).toNat = p by omega]
      exact hs k hk
    | succ m ih =>
      intro p K hmp hK hs
      have k27 : K 27 2 = I 27 2 := hK 27 2 (by decide)
      have k29 : ∀ q : Nat, K 29 q = I 29 q := fun q => hK 29 q (by decide)
      have k36 : ∀ q : Nat, K 36 q = I 36 q := fun q => hK 36 q (by decide)
      have hmK : ∀ l : Nat, hm K l = hm I l := fun l => by
        unfold hm
        rw [hK 25 l (by decide), hK 54 _ (by decide)]
      have skip : ¬ Non (ct 27 I) I p → ∃ J : IF, Ev Γ 2 mX3_dropRowsOfNone 23 [some (.inr (some 64)), some (.inl ((p : Int) + 1))] [] (g, K) (none, (g, J)) ∧ FrG I J ∧ ∀ k : Nat, k < 80 → (J 65 k ≠ 0 ↔ SS (ct 27 I) (Non (ct 27 I) I) (I 27 2).toNat k) := fun hn => ih (p + 1) K (by omega) hK (fun k hk => by
        rw [hs k hk]
        constructor
        · rintro ⟨q, q1, q2⟩
          exact ⟨q, by omega, q2⟩
        · rintro ⟨q, q1, q2, q3⟩
          by_cases e : q = p
          · rw [e] at q2; exact absurd q2 hn
          · exact ⟨q, by omega, q2, q3⟩)
      by_cases k2 : I 29 p = 2
      · have l9 : 0 ≤ I 36 p ∧ I 36 p < 26 := by
          have a := hX.2.2.2.2.2.1.1 p (by show (p : Int) < I 27 2; omega)
          have a' : (I 29 p = 0 ∧ _) ∨ ((I 29 p = 1 ∨ I 29 p = 2) ∧ 0 ≤ I 36 p ∧ I 36 p < 26 ∧ _) ∨ (I 29 p = 3 ∧ _) := a
          rcases a' with z | z | z
          · omega
          · exact ⟨z.2.1, z.2.2.1⟩
          · omega
        have ch := c_howMany (Γ := Γ) (g := g) (I := K) hg (by
          rw [ct_eq (t := 15) (Z := I) (fun i k hi => hK _ _ (by omega))]
          exact hP) (l := (I 36 p).toNat) (by omega)
        rw [hmK, show (((I 36 p).toNat : Nat) : Int) = I 36 p by omega] at ch
        by_cases h0 : hm I (I 36 p).toNat = 0
        · have hNp : Non (ct 27 I) I p := ⟨by show (p : Int) < I 27 2; omega, k2, h0⟩
          have dr := c_dropRow (Γ := Γ) (g := g) (I := K) (N := Non (ct 27 I) I) hg (by rw [hK.ct]; exact hX) (by rw [hK 27 1 (by decide)]; exact hl) (p := p) (by rw [k27]; omega) (fun q hq => by
            have sq : 0 ≤ I 30 q ∧ I 30 q < I 31 q ∧ I 31 q ≤ I 32 q ∧ I 32 q ≤ I 27 1 := hX.2.2.2.2.1.1 q (by show (q : Int) < I 27 2; omega)
            rw [hK 30 q (by decide), hs (I 30 q).toNat (by omega), show (((I 30 q).toNat : Nat) : Int) = ct 27 I 3 q by show (((I 30 q).toNat : Nat) : Int) = I 30 q; omega, SS_3 hx Non.nr (by show (q : Int) < I 27 2; omega)]
            exact ⟨fun z => z.2, fun z => ⟨hq, z⟩⟩)
          rw [hK.ct] at dr
          obtain ⟨L, l1, l2, l3⟩ := dr
          obtain ⟨J, j1, j2⟩ := ih (p + 1) L (by omega) (hK.tr l2) (fun k hk => by
            rw [l3 k hk, hs k hk]
            constructor
            · rintro (⟨q, q1, q2⟩ | z)
              · exact ⟨q, by omega, q2⟩
              · exact ⟨p, by omega, hNp, z⟩
            · rintro ⟨q, q1, q2, q3⟩
              by_cases e : q = p
              · rw [e] at q3; exact Or.inr q3
              · exact Or.inl ⟨q, by omega, q2, q3⟩)
          refine ⟨J, v_X3_dropRowsOfNone_23 hg p ⟨fun z => absurd z (by rw [k27]; omega), fun _ => ⟨⟨by omega, by omega⟩, ?_⟩⟩, j2⟩
          rw [Int.toNat_natCast, k29, k36]
          exact ⟨fun z => absurd k2 z, fun _ => ⟨⟨by omega, by omega⟩, _, _, ch, fun z => absurd h0 z, fun _ => ⟨_, l1, by unfold inR; omega, j1⟩⟩⟩
        · obtain ⟨J, j1, j2⟩ := skip (fun z => h0 z.2.2)
          refine ⟨J, v_X3_dropRowsOfNone_23 hg p ⟨fun z => absurd z (by rw [k27]; omega), fun _ => ⟨⟨by omega, by omega⟩, ?_⟩⟩, j2⟩
          rw [Int.toNat_natCast, k29, k36]
          exact ⟨fun z => absurd k2 z, fun _ => ⟨⟨by omega, by omega⟩, _, _, ch, fun _ => ⟨by unfold inR; omega, j1⟩, fun z => absurd z h0⟩⟩
      · obtain ⟨J, j1, j2⟩ := skip (fun z => k2 z.2.1)
        refine ⟨J, v_X3_dropRowsOfNone_23 hg p ⟨fun z => absurd z (by rw [k27]; omega), fun _ => ⟨⟨by omega, by omega⟩, ?_⟩⟩, j2⟩
        rw [Int.toNat_natCast, k29, k36]
        exact ⟨fun _ => ⟨by unfold inR; omega, j1⟩, fun z => absurd z k2⟩
  have clr : ∀ (m n : Nat) (K : IF), m + n = 80 → FrG I K → (∀ k : Nat, k < n → K 65 k = 0) → ∃ J : IF, Ev Γ 2 mX3_dropRowsOfNone 2 [some (.inr (some 64)), some (.inl n)] [] (g, K) (none, (g, J)) ∧ FrG I J ∧ ∀ k : Nat, k < 80 → (J 65 k ≠ 0 ↔ SS (ct 27 I) (Non (ct 27 I) I) (I 27 2).toNat k) := by
    intro m
    induction m with
    | zero =>
      intro n K hn hK h0
      obtain ⟨J, j1, j2⟩ := lp (I 27 2).toNat 0 K (by omega) hK (fun k hk => ⟨fun z => absurd (h0 k (by omega)) z, fun ⟨q, q1, _⟩ => absurd q1 (Nat.not_lt_zero _)⟩)
      exact ⟨J, v_X3_dropRowsOfNone_2 hg n ⟨fun _ => j1, fun z => absurd (show (80 : Int) ≤ n by omega) z⟩, j2⟩
    | succ m ih =>
      intro n K hn hK h0
      obtain ⟨J, j1, j2⟩ := ih (n + 1) (mset K 65 n 0) (by omega) (fun a k z => (mset_a _ _ z).trans (hK a k z)) (fun k hk => by
        by_cases e : k = n
        · rw [e, mset_s]
        · rw [mset_k _ _ e]; exact h0 k (by omega))
      refine ⟨J, v_X3_dropRowsOfNone_2 hg n ⟨fun z => absurd z (by omega), fun _ => ⟨by omega, ?_⟩⟩, j2⟩
      rw [Int.toNat_natCast]
      intro I2 e2
      rw [e2]
      exact ⟨by unfold inR; omega, j1⟩
  obtain ⟨J, j1, j2⟩ := clr 80 0 I rfl FrG.rf (fun k hk => by omega)
  exact ⟨J, CT.of (R := (none, (g, J))) oX3_dropRowsOfNone (Nat.le_of_ble_eq_true rfl) (Nat.le_refl _) (Nat.le_refl _) (v_X3_dropRowsOfNone_0 hg j1), j2⟩
end DRP
