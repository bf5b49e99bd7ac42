/-! ===== choosing: the class's methods ===== -/
noncomputable def zM (Z : IF) (n : Nat) : Int := pb (WAY (zT Z) (zP Z) (Z 52 7) (zDf Z) n ≠ none)
def CSame (Z J : IF) : Prop := (∀ i k : Nat, i ≤ 11 → J (3 + i) k = Z (3 + i) k) ∧ (∀ i k : Nat, i ≤ 11 → J (15 + i) k = Z (15 + i) k) ∧ (∀ k : Nat, J 57 k = Z 57 k ∧ J 58 k = Z 58 k) ∧ J 52 7 = Z 52 7 ∧ J 52 8 = Z 52 8
/-- what is known of all nodes -/
def KnA (Z J : IF) : Prop := (∀ n : Nat, (n : Int) < Z 3 2 → J 60 n = zM Z n) ∧ J 52 13 = ncI (zM Z) 1 (Z 3 2).toNat ∧ ∀ n : Nat, (n : Int) < Z 3 2 → zM Z n = 1 → J 59 (ncI (zM Z) 1 n).toNat = n
def FrA (Z J : IF) : Prop := ∀ a k : Nat, (a < 53 ∨ 60 < a ∨ a = 57 ∨ a = 58) → (a ≠ 52 ∨ (k ≠ 9 ∧ k ≠ 10 ∧ k ≠ 13 ∧ k ≠ 15)) → J a k = Z a k
theorem wit_ex {T : IF} (hT : TOK 0 T) (M : Nat → Int) : ∀ m : Nat, m ≤ (T 0 2).toNat → ∃ W : Nat → Int, WitOk T M W ((T 0 2).toNat - m)
  | 0, _ => ⟨fun _ => 0, fun p h1 h2 => by omega⟩
  | m + 1, hm => by
    obtain ⟨W, hW⟩ := wit_ex hT M m (by omega)
    refine ⟨fun p => if p = (T 0 2).toNat - (m + 1) then swI (T 6) (vM M W) ((((T 0 2).toNat - (m + 1) : Nat)) : Int) (T 0 2).toNat else W p, fun p h1 h2 => ?_⟩
    have cg : ∀ x : Nat, (T 0 2).toNat - (m + 1) ≤ x → (x : Int) < T 0 2 → swI (T 6) (vM M W) x (T 0 2).toNat = swI (T 6) (vM M (fun p => if p = (T 0 2).toNat - (m + 1) then swI (T 6) (vM M W) ((((T 0 2).toNat - (m + 1) : Nat)) : Int) (T 0 2).toNat else W p)) x (T 0 2).toNat := fun x z1 z2 => swI_cg _ (fun q hq he => by
      have := hT.2.1.2.1 q (by omega)
      have e : ¬ q = (T 0 2).toNat - (m + 1) := by omega
      unfold vM
      simp only [e, if_false])
    by_cases e : p = (T 0 2).toNat - (m + 1)
    · rw [← cg p h1 h2]
      simp only [e, if_true]
    · rw [← cg p h1 h2]
      simp only [e, if_false]
      exact hW p (by omega) h2
noncomputable def wit (T : IF) (M : Nat → Int) : Nat → Int := Classical.epsilon (fun W => WitOk T M W 0)
theorem wit_ok {T : IF} (hT : TOK 0 T) (M : Nat → Int) : WitOk T M (wit T M) 0 := by
  have := wit_ex hT M (T 0 2).toNat (Nat.le_refl _)
  rw [Nat.sub_self] at this
  exact Classical.epsilon_spec this
def alw (rule : Int) : Int := if rule = 0 then 120 else if rule = 1 then 0 else 1
/-- taken by a rule -/
noncomputable def zTk (Z : IF) (rule : Int) (n : Nat) : Int := tI (zT Z) (zM Z) (wit (zT Z) (zM Z)) (alw rule) n
section CCH
variable {Γ : GX} {g : AG} {Z I J X : IF}
theorem CSt.mv (h : CSt Z) (e : CSame Z J) (h1 : J 15 1 = Z 15 1) : CSt J := by
  obtain ⟨e1, e2, e3, e4, e5⟩ := e
  have q1 : zT J = zT Z := ct_eq e1
  have q2 : zP J = zP Z := ct_eq e2
  have q3 : zDf J = zDf Z := by
    funext l o
    unfold zDf
    rw [(e3 l).2]
  obtain ⟨c1, c2, c3, c4, c5, c6, c7, c8⟩ := h
  refine ⟨by rw [q1]; exact c1, by rw [q2]; exact c2, by rw [q1]; exact c3, fun p hp => ?_, by rw [q2, e4]; exact c5, by rw [q2, e5]; exact c6, by rw [q3]; exact c7, by rw [h1]; exact c8⟩
  rw [show J 15 2 = Z 15 2 from e2 0 2 (by decide)] at hp
  rw [(e3 p).1, q2]
  exact c4 p hp
theorem CSame.eqs (e : CSame Z J) : zT J = zT Z ∧ zP J = zP Z ∧ zDf J = zDf Z ∧ zM J = zM Z := by
  obtain ⟨e1, e2, e3, e4, e5⟩ := e
  have q1 : zT J = zT Z := ct_eq e1
  have q2 : zP J = zP Z := ct_eq e2
  have q3 : zDf J = zDf Z := by
    funext l o
    unfold zDf
    rw [(e3 l).2]
  refine ⟨q1, q2, q3, ?_⟩
  funext n
  unfold zM
  rw [q1, q2, q3, e4]
theorem CSame.tk (e : CSame Z J) : zTk J = zTk Z := by
  obtain ⟨q1, q2, q3, q4⟩ := e.eqs
  funext r n
  unfold zTk
  rw [q1, q4]
theorem FrA.same (h : FrA Z J) : CSame Z J := ⟨fun i k hi => h _ _ (by omega) (Or.inl (by omega)), fun i k hi => h _ _ (by omega) (Or.inl (by omega)), fun k => ⟨h _ _ (by omega) (Or.inl (by omega)), h _ _ (by omega) (Or.inl (by omega))⟩, h _ _ (by omega) (Or.inr (by decide)), h _ _ (by omega) (Or.inr (by decide))⟩
theorem FrM.rf : FrM I I := fun _ _ _ _ => rfl
theorem FrM.fa (h : FrM I J) : FrA I J := fun a k z y => h a k (by omega) (by omega)
theorem FrA.tr (h1 : FrA I J) (h2 : FrA J X) : FrA I X := fun a k z y => (h2 a k z y).trans (h1 a k z y)
theorem zM_01 (n : Nat) : zM Z n = 0 ∨ zM Z n = 1 := pb_01 _
/-- FINDALL -/
theorem c_findAll (hg : GOk g) (hZ : CSt Z) (hK : Z 52 15 ≠ 0 → KnA Z Z) : ∃ J : IF, CT Γ 4 mX1_findAll [.inr (some 52)] (g, Z) (none, (g, J)) ∧ FrA Z J ∧ KnA Z J := by
  by_cases hk : Z 52 15 = 0
  · have htc : 1 ≤ Z 3 2 ∧ Z 3 2 ≤ 120 := hZ.1.1.2.1
    have lp : ∀ (m n : Nat) (X : IF), n + m = (Z 3 2).toNat → FrA Z X → (∀ q : Nat, q < n → X 60 q = zM Z q) → X 52 13 = ncI (zM Z) 1 n → (∀ q : Nat, q < n → zM Z q = 1 → X 59 (ncI (zM Z) 1 q).toNat = q) →
        ∃ J : IF, Ev Γ 4 mX1_findAll 15 [some (.inr (some 52)), some (.inl n)] [] (g, X) (none, (g, J)) ∧ FrA Z J ∧ KnA Z J := by
      intro m
      induction m with
      | zero =>
        intro n X hn hX h60 h13 h59
        have x3 : X 3 2 = Z 3 2 := hX 3 2 (by decide) (by decide)
        refine ⟨mset X 52 15 1, v_X1_findAll_15 hg.c n ⟨fun _ => ?_, fun z => absurd (by rw [x3]; omega) z⟩, fun a k z y => ?_, fun q hq => ?_, ?_, fun q hq z => ?_⟩
        · rintro _ rfl
          exact ⟨rfl, rfl⟩
        · unfold mset
          rw [if_neg (by omega)]
          exact hX a k z y
        · rw [mset_a _ _ (by decide)]; exact h60 q (by omega)
        · rw [mset_k _ _ (by decide), show (Z 3 2).toNat = n by omega]; exact h13
        · rw [mset_a _ _ (by decide)]; exact h59 q (by omega) z
      | succ m ih =>
        intro n X hn hX h60 h13 h59
        have x3 : X 3 2 = Z 3 2 := hX 3 2 (by decide) (by decide)
        have hCX := hZ.mv hX.same (hX 15 1 (by decide) (by decide))
        obtain ⟨q1, q2, q3, q4⟩ := hX.same.eqs
        obtain ⟨J3, c1, c2, -⟩ := c_findWay (Γ := Γ) (root := (n : Int)) hg.c hCX FrM.rf (by omega)
        have ez : pb (WAY (zT X) (zP X) (X 52 7) (zDf X) n ≠ none) = zM Z n := by
          have : zM X n = zM Z n := by rw [q4]
          exact this
        rw [ez] at c1
        have j3 := c2.fa
        have hnle := ncI_le (zM Z) 1 n
        have hnn := ncI_nn (zM Z) 1 n
        have j13 : J3 52 13 = ncI (zM Z) 1 n := (c2 52 13 (by decide) (by decide)).trans h13
        have o60 : ∀ q : Nat, J3 60 q = X 60 q := fun q => c2 60 q (by omega) (Or.inl (by decide))
        have o59 : ∀ q : Nat, J3 59 q = X 59 q := fun q => c2 59 q (by omega) (Or.inl (by decide))
        have hs : ncI (zM Z) 1 (n + 1) = ncI (zM Z) 1 n + (if zM Z n = 1 then 1 else 0) := rfl
        by_cases hz : zM Z n = 0
        · rw [hz, if_neg (by decide)] at hs
          obtain ⟨J, j1, j2⟩ := ih (n + 1) (mset J3 60 n 0) (by omega) (fun a k z y => by
              unfold mset
              rw [if_neg (by omega)]
              exact (j3 a k z y).trans (hX a k z y)) (fun q hq => by
              by_cases e : q = n
              · rw [e, mset_s, hz]
              · rw [mset_k _ _ e, o60]; exact h60 q (by omega)) (by rw [mset_a _ _ (by decide), j13]; omega) (fun q hq z => by
              have e : q ≠ n := fun w => by rw [w, hz] at z; exact absurd z (by decide)
              rw [mset_a _ _ (by decide), o59]; exact h59 q (by omega) z)
          refine ⟨J, v_X1_findAll_15 hg.c n ⟨fun z => absurd z (by omega), fun _ => ⟨_, _, c1, by omega, zM_01 n, ?_⟩⟩, j2⟩
          rw [Int.toNat_natCast, hz]
          rintro _ rfl
          exact ⟨by omega, fun _ => ⟨by unfold inR; omega, j1⟩, fun z => absurd (mset_s _ _ _ _) z⟩
        · have h1 := (zM_01 n).resolve_left hz
          rw [h1, if_pos rfl] at hs
          obtain ⟨J, j1, j2⟩ := ih (n + 1) (mset (mset (mset J3 60 n 1) 59 (ncI (zM Z) 1 n).toNat n) 52 13 (ncI (zM Z) 1 n + 1)) (by omega) (fun a k z y => by
              unfold mset
              rw [if_neg (by omega), if_neg (by omega), if_neg (by omega)]
              exact (j3 a k z y).trans (hX a k z y)) (fun q hq => by
              rw [mset_a _ _ (by decide), mset_a _ _ (by decide)]
              by_cases e : q = n
              · rw [e, mset_s, h1]
              · rw [mset_k _ _ e, o60]; exact h60 q (by omega)) (by rw [mset_s]; omega) (fun q hq z => by
              rw [mset_a _ _ (by decide)]
              by_cases e : q = n
              · rw [e, mset_s]
              · have h3 := ncI_mono (f := zM Z) (p := 1) (x := q + 1) n (by omega)
                rw [ncI_succ, if_pos z] at h3
                have h4 := ncI_nn (zM Z) 1 q
                rw [mset_k _ _ (by omega), mset_a _ _ (by decide), o59]
                exact h59 q (by omega) z)
          refine ⟨J, v_X1_findAll_15 hg.c n ⟨fun z => absurd z (by omega), fun _ => ⟨_, _, c1, by omega, zM_01 n, ?_⟩⟩, j2⟩
          rw [Int.toNat_natCast, h1]
          rintro _ rfl
          rw [mset_s, mset_a (b := 52) _ _ (by decide), j13]
          refine ⟨by omega, fun z => absurd z (by decide), fun _ => ⟨by omega, ?_⟩⟩
          rintro _ rfl
          rw [mset_a (b := 52) _ _ (by decide), mset_a (b := 52) _ _ (by decide), j13]
          refine ⟨by unfold inR; omega, ?_⟩
          rintro _ rfl
          exact ⟨by unfold inR; omega, j1⟩
    obtain ⟨J, j1, j2⟩ := lp (Z 3 2).toNat 0 (mset Z 52 13 0) (by omega) (fun a k z y => by unfold mset; rw [if_neg (by omega)]) (fun q hq => by omega) (mset_s _ _ _ _) (fun q hq => by omega)
    refine ⟨J, CT.of (R := (none, (g, J))) oX1_findAll (Nat.le_of_ble_eq_true rfl) (Nat.le_refl _) (Nat.le_refl _) (v_X1_findAll_0 hg.c ⟨fun _ => ?_, fun z => absurd hk z⟩), j2⟩
    rintro _ rfl
    exact j1
  · exact ⟨Z, CT.of oX1_findAll (Nat.le_of_ble_eq_true rfl) (Nat.le_refl _) (Nat.le_refl _) (v_X1_findAll_0 hg.c ⟨fun z => absurd z hk, fun _ => ⟨rfl, rfl⟩⟩), fun _ _ _ _ => rfl, hK hk⟩
theorem swI_bd {f v : Nat → Int} {p : Int} {x : Nat} : ∀ y : Nat, x ≤ y → (∀ q : Nat, x ≤ q → q < y → 0 ≤ v q ∧ v q ≤ 120) → 0 ≤ swI f v p y - swI f v p x ∧ swI f v p y - swI f v p x ≤ 120 * (y - x)
  | 0, h, _ => by rw [show x = 0 by omega]; omega
  | y + 1, h, hv => by
    by_cases e : x = y + 1
    · rw [e]; omega
    · have i := swI_bd (f := f) (v := v) (p := p) y (by omega) (fun q h1 h2 => hv q h1 (by omega))
      have := hv y (by omega) (by omega)
      rw [swI_s]
      split <;> omega
/-- COUNTWITHIN -/
theorem c_countWithin (hg : GOc g) (hT : TOK 0 (zT I)) {M : Nat → Int} (hM : ∀ n : Nat, (n : Int) < I 3 2 → I 60 n = M n) (hM1 : ∀ n : Nat, M n = 0 ∨ M n = 1) :
    ∃ J : IF, CT Γ 0 mX0_countWithin [.inr (some 61)] (g, I) (none, (g, J)) ∧ (∀ a k : Nat, a ≠ 63 → J a k = I a k) ∧ WitOk (zT I) M (J 63) 0 := by
  have htc : 1 ≤ I 3 2 ∧ I 3 2 ≤ 120 := hT.1.2.1
  have hpar : ∀ q : Nat, (q : Int) < I 3 2 → -1 ≤ I 9 q ∧ I 9 q < q ∧ (I 9 q = -1 → q = 0) := hT.2.1.2.1
  have e2 : (zT I) 0 2 = I 3 2 := rfl
  have e6 : (zT I) 6 = I 9 := rfl
  -- the second loop
  have lp2 : ∀ (x : Nat) (X : IF), (x : Int) < I 3 2 → (∀ a k : Nat, a ≠ 63 → X a k = I a k) → (∀ p : Nat, (p : Int) < I 3 2 → X 63 p = swI (I 9) (vM M (X 63)) p (I 3 2).toNat - swI (I 9) (vM M (X 63)) p (x + 1)) →
      ∃ J : IF, Ev Γ 0 mX0_countWithin 36 [some (.inr (some 61)), some (.inl x), none] [] (g, X) (none, (g, J)) ∧ (∀ a k : Nat, a ≠ 63 → J a k = I a k) ∧ WitOk (zT I) M (J 63) 0 := by
    intro x
    induction x with
    | zero =>
      intro X hx hX hS
      refine ⟨X, v_X0_countWithin_36 hg _ ⟨fun _ => ⟨rfl, rfl⟩, fun z => absurd (show ((0 : Nat) : Int) ≤ 0 by decide) z⟩, hX, fun p _ hp => ?_⟩
      have h0 := hpar 0 (by omega)
      have := hS p hp
      rw [swI_s, if_neg (by omega)] at this
      have z : swI (I 9) (vM M (X 63)) p 0 = 0 := rfl
      show X 63 p = swI (I 9) (vM M (X 63)) p (I 3 2).toNat
      omega
    | succ x ih =>
      intro X hx hX hS
      have hp := hpar (x + 1) hx
      have x9 : X 9 (x + 1) = I 9 (x + 1) := hX 9 _ (by decide)
      have x60 : X 60 (x + 1) = M (x + 1) := (hX 60 _ (by decide)).trans (hM _ hx)
      have hW : WitOk (zT I) M (X 63) (x + 2) := fun p h1 h2 => by
        have := hS p h2
        rw [swI_gap (x := 0) (x + 1 + 1) (by omega) (fun q _ h4 z => by
          have := hpar q (by omega)
          omega)] at this
        have z : swI (I 9) (vM M (X 63)) p 0 = 0 := rfl
        show X 63 p = swI (I 9) (vM M (X 63)) p (I 3 2).toNat
        omega
      have hW1 : WitOk (zT I) M (X 63) (x + 1) := fun p h1 h2 => by
        have := hS p h2
        rw [swI_gap (x := 0) (x + 1 + 1) (by omega) (fun q _ h4 z => by
          have := hpar q (by omega)
          omega)] at this
        have z : swI (I 9) (vM M (X 63)) p 0 = 0 := rfl
        show X 63 p = swI (I 9) (vM M (X 63)) p (I 3 2).toNat
        omega
      have hr := hW1.rng hT (I 3 2).toNat (x + 1) (by show (I 3 2).toNat ≤ _; omega) (Nat.le_refl _) hx
      have h8 : 1 ≤ (zT I) 8 (x + 1) ∧ ((x + 1 : Nat) : Int) + (zT I) 8 (x + 1) ≤ I 3 2 := hT.2.1.2.2.1 (x + 1) hx
      have hv : ∀ q : Nat, x + 1 + 1 ≤ q → q < (I 3 2).toNat → 0 ≤ vM M (X 63) q ∧ vM M (X 63) q ≤ 120 := fun q z1 z2 => by
        have r := hW.rng hT (I 3 2).toNat q (by show (I 3 2).toNat ≤ _; omega) (by omega) (show (q : Int) < I 3 2 by omega)
        have h8q : 1 ≤ (zT I) 8 q ∧ (q : Int) + (zT I) 8 q ≤ I 3 2 := hT.2.1.2.2.1 q (show (q : Int) < I 3 2 by omega)
        unfold vM
        split <;> omega
      obtain ⟨pp, epp⟩ : ∃ pp : Nat, I 9 (x + 1) = pp := ⟨(I 9 (x + 1)).toNat, by omega⟩
      have hbd := swI_bd (f := I 9) (v := vM M (X 63)) (p := (pp : Int)) (x := x + 1 + 1) (I 3 2).toNat (by omega) hv
      rw [← hS pp (by omega)] at hbd
      -- the new sums
      have nx1 : ∀ v : Int, v = vM M (X 63) (x + 1) → (∀ p : Nat, (p : Int) < I 3 2 → (mset X 63 pp (X 63 pp + v)) 63 p = swI (I 9) (vM M ((mset X 63 pp (X 63 pp + v)) 63)) p (I 3 2).toNat - swI (I 9) (vM M ((mset X 63 pp (X 63 pp + v)) 63)) p (x + 1)) := fun v hv2 p hp2 => by
        have same : ∀ q : Nat, x + 1 ≤ q → vM M ((mset X 63 pp (X 63 pp + v)) 63) q = vM M (X 63) q := fun q hq => by
          unfold vM
          rw [mset_k _ _ (show q ≠ pp by omega)]
        have dif : ∀ y : Nat, x + 1 ≤ y → swI (I 9) (vM M ((mset X 63 pp (X 63 pp + v)) 63)) p y - swI (I 9) (vM M ((mset X 63 pp (X 63 pp + v)) 63)) p (x + 1) = swI (I 9) (vM M (X 63)) p y - swI (I 9) (vM M (X 63)) p (x + 1) := by
          intro y
          induction y with
          | zero => intro h; omega
          | succ y ihy =>
            intro h
            by_cases e : x + 1 = y + 1
            · rw [e]; omega
            · have := ihy (by omega)
              rw [swI_s (I 9) (vM M ((mset X 63 pp (X 63 pp + v)) 63)) p y, swI_s (I 9) (vM M (X 63)) p y, same y (by omega)]
              omega
        rw [dif _ (by omega)]
        have hp3 := hS p hp2
        rw [swI_s] at hp3
        by_cases e : p = pp
        · rw [e] at hp3 ⊢
          rw [mset_s, hv2, hp3, if_pos epp]
          omega
        · rw [mset_k _ _ e, hp3, if_neg (by omega)]
          omega
      have hX2 : ∀ v : Int, ∀ a k : Nat, a ≠ 63 → (mset X 63 pp (X 63 pp + v)) a k = I a k := fun v a k z => by rw [mset_a _ _ z]; exact hX a k z
      have vv : vM M (X 63) (x + 1) = if M (x + 1) ≠ 0 ∧ X 63 (x + 1) = 0 then 1 else X 63 (x + 1) := rfl
      obtain ⟨J, j1, j2⟩ := ih (mset X 63 pp (X 63 pp + vM M (X 63) (x + 1))) (by omega) (hX2 _) (nx1 _ rfl)
      refine ⟨J, v_X0_countWithin_36 hg _ ⟨fun z => absurd z (by omega), fun _ => ⟨by omega, ?_⟩⟩, j2⟩
      rw [Int.toNat_natCast, x9, epp]
      rintro _ rfl
      rw [show ((x + 1 : Nat) : Int) + -1 = (x : Int) by omega, Int.toNat_natCast, x60]
      refine ⟨fun z => absurd z (by omega), fun _ => ⟨by omega, by omega, fun z => ?_, fun z => ⟨by omega, fun y => ?_, fun y => ?_⟩⟩⟩
      · rw [vv, if_neg (fun w => w.1 z)] at j1
        refine ⟨by omega, by unfold inR; omega, by omega, ?_⟩
        rintro _ rfl
        exact ⟨by unfold inR; omega, j1⟩
      · rw [vv, if_neg (fun w => y w.2)] at j1
        refine ⟨by omega, by unfold inR; omega, by omega, ?_⟩
        rintro _ rfl
        exact ⟨by unfold inR; omega, j1⟩
      · rw [vv, if_pos ⟨z, y⟩] at j1
        refine ⟨by unfold inR; omega, by omega, ?_⟩
        rintro _ rfl
        exact ⟨by unfold inR; omega, j1⟩
  have lp1 : ∀ (m n : Nat) (X : IF), n + m = (I 3 2).toNat → (∀ a k : Nat, a ≠ 63 → X a k = I a k) → (∀ q : Nat, q < n → X 63 q = 0) → ∃ J : IF, Ev Γ 0 mX0_countWithin 2 [some (.inr (some 61)), some (.inl n), none] [] (g, X) (none, (g, J)) ∧ (∀ a k : Nat, a ≠ 63 → J a k = I a k) ∧ WitOk (zT I) M (J 63) 0 := by
    intro m
    induction m with
    | zero =>
      intro n X hn hX h0
      have x3 : X 3 2 = I 3 2 := hX 3 2 (by decide)
      obtain ⟨J, j1, j2⟩ := lp2 ((I 3 2).toNat - 1) X (by omega) hX (fun p hp => by
        rw [h0 p (by omega), show (I 3 2).toNat - 1 + 1 = (I 3 2).toNat by omega]
        omega)
      refine ⟨J, v_X0_countWithin_2 hg n ⟨fun _ => ⟨by rw [x3]; unfold inR; omega, ?_⟩, fun z => absurd (by rw [x3]; omega) z⟩, j2⟩
      rw [x3]
      rintro _ rfl
      rw [show (((I 3 2).toNat - 1 : Nat) : Int) = I 3 2 - 1 by omega] at j1
      exact j1
    | succ m ih =>
      intro n X hn hX h0
      have x3 : X 3 2 = I 3 2 := hX 3 2 (by decide)
      obtain ⟨J, j1, j2⟩ := ih (n + 1) (mset X 63 n 0) (by omega) (fun a k z => by rw [mset_a _ _ z]; exact hX a k z) (fun q hq => by
        by_cases e : q = n
        · rw [e, mset_s]
        · rw [mset_k _ _ e]; exact h0 q (by omega))
      refine ⟨J, v_X0_countWithin_2 hg n ⟨fun z => absurd z (by omega), fun _ => ⟨by omega, ?_⟩⟩, j2⟩
      rw [Int.toNat_natCast]
      rintro _ rfl
      exact ⟨by unfold inR; omega, j1⟩
  obtain ⟨J, j1, j2⟩ := lp1 (I 3 2).toNat 0 I (by omega) (fun _ _ _ => rfl) (fun q hq => by omega)
  exact ⟨J, CT.of (R := (none, (g, J))) oX0_countWithin (Nat.le_of_ble_eq_true rfl) (Nat.le_refl _) (Nat.le_refl _) (v_X0_countWithin_0 hg j1), j2⟩
/-- the list of those taken -/
def TkL (Z J : IF) (rule : Int) : Prop := J 61 3 = ncI (zTk Z rule) 1 (Z 3 2).toNat ∧ ∀ n : Nat, (n : Int) < Z 3 2 → zTk Z rule n = 1 → J 62 (ncI (zTk Z rule) 1 n).toNat = n
/-- CHOOSE -/
theorem c_choose (hg : GOc g) (hZ : CSt Z) (hK : ∀ n : Nat, (n : Int) < Z 3 2 → Z 60 n = zM Z n) {rule : Int} (hr : rule = 0 ∨ rule = 1 ∨ rule = 2) :
    ∃ J : IF, CT Γ 1 mX0_choose [.inr (some 61), .inl rule] (g, Z) (none, (g, J)) ∧ (∀ a k : Nat, a ≠ 62 → a ≠ 63 → (a ≠ 61 ∨ k ≠ 3) → J a k = Z a k) ∧ TkL Z J rule := by
  have hT := hZ.1
  have htc : 1 ≤ Z 3 2 ∧ Z 3 2 ≤ 120 := hT.1.2.1
  obtain ⟨J1, w1, w2, w3⟩ := c_countWithin (Γ := Γ) (I := Z) (M := zM Z) hg hT hK zM_01
  have hWok := wit_ok hT (zM Z)
  have hW1 : ∀ p : Nat, (p : Int) < Z 3 2 → J1 63 p = wit (zT Z) (zM Z) p := fun p hp => WitOk.one hT w3 hWok (Z 3 2).toNat p (by show (Z 3 2).toNat ≤ _; omega) (by omega) hp
  have h01 : ∀ n : Nat, zTk Z rule n = 0 ∨ zTk Z rule n = 1 := fun n => pb_01 _
  have t1 : ∀ n : Nat, zTk Z rule n = 1 ↔ tkn (zT Z) (zM Z) (wit (zT Z) (zM Z)) (alw rule) n := fun n => by
    unfold zTk tI
    exact ⟨fun z => pb_1.mp (by rw [z]; decide), fun z => pb_t z⟩
  have lp : ∀ (m n : Nat) (bt : Int) (X : IF), n + m = (Z 3 2).toNat → (∀ a k : Nat, a ≠ 62 → a ≠ 63 → (a ≠ 61 ∨ k ≠ 3) → X a k = Z a k) → (∀ p : Nat, (p : Int) < Z 3 2 → X 63 p = wit (zT Z) (zM Z) p) → X 61 3 = ncI (zTk Z rule) 1 n → (∀ q : Nat, q < n → zTk Z rule q = 1 → X 62 (ncI (zTk Z rule) 1 q).toNat = q) →
      (∀ q : Nat, n ≤ q → (q : Int) < Z 3 2 → ((q : Int) < bt ↔ ∃ a : Nat, a < n ∧ zTk Z rule a = 1 ∧ (q : Int) < a + (zT Z) 8 a)) → 
      ∃ J : IF, Ev Γ 1 mX0_choose 34 [some (.inr (some 61)), none, some (.inl (alw rule)), some (.inl bt), some (.inl n)] [] (g, X) (none, (g, J)) ∧ (∀ a k : Nat, a ≠ 62 → a ≠ 63 → (a ≠ 61 ∨ k ≠ 3) → J a k = Z a k) ∧ TkL Z J rule := by
    intro m
    induction m with
    | zero =>
      intro n bt X hn hX h63 h613 h62 hbt
      have x3 : X 3 2 = Z 3 2 := hX 3 2 (by decide) (by decide) (by decide)
      refine ⟨X, v_X0_choose_34 hg _ bt n ⟨fun _ => ⟨rfl, rfl⟩, fun z => absurd (by rw [x3]; omega) z⟩, hX, ?_, fun q hq z => h62 q (by omega) z⟩
      rw [show (Z 3 2).toNat = n by omega]
      exact h613
    | succ m ih =>
      intro n bt X hn hX h63 h613 h62 hbt
      have hnc : (n : Int) < Z 3 2 := by omega
      have x3 : X 3 2 = Z 3 2 := hX 3 2 (by decide) (by decide) (by decide)
      have x60 : X 60 n = zM Z n := (hX 60 n (by decide) (by decide) (by omega)).trans (hK n hnc)
      have x63 := h63 n hnc
      have hs : ncI (zTk Z rule) 1 (n + 1) = ncI (zTk Z rule) 1 n + (if zTk Z rule n = 1 then 1 else 0) := rfl
      have hnle := ncI_le (zTk Z rule) 1 n
      have hnn := ncI_nn (zTk Z rule) 1 n
      have h8 : 1 ≤ (zT Z) 8 n ∧ (n : Int) + (zT Z) 8 n ≤ Z 3 2 := hT.2.1.2.2.1 n hnc
      -- not taken
      have no : zTk Z rule n ≠ 1 → ∃ J : IF, Ev Γ 1 mX0_choose 34 [some (.inr (some 61)), none, some (.inl (alw rule)), some (.inl bt), some (.inl ((n : Int) + 1))] [] (g, X) (none, (g, J)) ∧ (∀ a k : Nat, a ≠ 62 → a ≠ 63 → (a ≠ 61 ∨ k ≠ 3) → J a k = Z a k) ∧ TkL Z J rule := fun hz => by
        rw [if_neg hz] at hs
        exact ih (n + 1) bt X (by omega) hX h63 (by rw [h613]; omega) (fun q hq z => by
          by_cases e : q = n
          · rw [e] at z; exact absurd z hz
          · exact h62 q (by omega) z) (fun q hq hqc => (hbt q (by omega) hqc).trans ⟨fun ⟨a, a1, a2⟩ => ⟨a, by omega, a2⟩, fun ⟨a, a1, a2⟩ => ⟨a, by
          by_cases e : a = n
          · rw [e] at a2; exact absurd a2.1 hz
          · omega, a2⟩⟩)
      by_cases c1 : (n : Int) < bt
      · obtain ⟨a, a1, a2, a3⟩ := (hbt n (Nat.le_refl _) hnc).mp c1
        obtain ⟨J, j1, j2⟩ := no (fun z => ((t1 n).mp z).2 a (show (a : Int) < Z 3 2 by omega) (by omega) ((t1 a).mp a2).1 ⟨by omega, a3⟩)
        exact ⟨J, v_X0_choose_34 hg _ bt n ⟨fun z => absurd z (by omega), fun _ => ⟨fun _ => ⟨by unfold inR; omega, j1⟩, fun z => absurd c1 z⟩⟩, j2⟩
      · by_cases c2 : zM Z n = 0
        · obtain ⟨J, j1, j2⟩ := no (fun z => ((t1 n).mp z).1.1 c2)
          exact ⟨J, v_X0_choose_34 hg _ bt n ⟨fun z => absurd z (by omega), fun _ => ⟨fun z => absurd z c1, fun _ => ⟨by omega, fun _ => ⟨by unfold inR; omega, j1⟩, fun z => absurd (by rw [Int.toNat_natCast, x60]; exact c2) z⟩⟩⟩, j2⟩
        · by_cases c3 : alw rule < wit (zT Z) (zM Z) n
          · obtain ⟨J, j1, j2⟩ := no (fun z => by have := ((t1 n).mp z).1.2; omega)
            exact ⟨J, v_X0_choose_34 hg _ bt n ⟨fun z => absurd z (by omega), fun _ => ⟨fun z => absurd z c1, fun _ => ⟨by omega, fun z => absurd (by rw [Int.toNat_natCast, x60] at z; exact z) c2, fun _ => ⟨by omega, fun _ => ⟨by unfold inR; omega, j1⟩, fun z => absurd (by rw [Int.toNat_natCast, x63]; exact c3) z⟩⟩⟩⟩, j2⟩
          · have hcd : cdt (zM Z) (wit (zT Z) (zM Z)) (alw rule) n := ⟨c2, by omega⟩
            have htk : tkn (zT Z) (zM Z) (wit (zT Z) (zM Z)) (alw rule) n := ⟨hcd, fun b b1 b2 b3 b4 => by
              obtain ⟨a, a1, a2, a3, a4⟩ := tkn_up hT b b (Nat.le_refl _) b1 b3
              have hb := hT.2.1.sub' (p := a) (a := b) a1 (by omega) a4
              exact c1 ((hbt n (Nat.le_refl _) hnc).mpr ⟨a, by omega, (t1 a).mpr a2, by omega⟩)⟩
            have hz := (t1 n).mpr htk
            rw [if_pos hz] at hs
            have hX13 : ∀ a k : Nat, a ≠ 62 → a ≠ 63 → (a ≠ 61 ∨ k ≠ 3) → (mset (mset X 62 (ncI (zTk Z rule) 1 n).toNat n) 61 3 (ncI (zTk Z rule) 1 n + 1)) a k = Z a k := fun a k z1 z2 z3 => by
              rw [show mset (mset X 62 (ncI (zTk Z rule) 1 n).toNat (n : Int)) 61 3 (ncI (zTk Z rule) 1 n + 1) a k = X a k by unfold mset; rw [if_neg (by omega), if_neg (by omega)]]
              exact hX a k z1 z2 z3
            obtain ⟨J, j1, j2⟩ := ih (n + 1) ((n : Int) + (zT Z) 8 n) (mset (mset X 62 (ncI (zTk Z rule) 1 n).toNat n) 61 3 (ncI (zTk Z rule) 1 n + 1)) (by omega) hX13 (fun p hp => by rw [mset_a _ _ (by decide), mset_a _ _ (by decide)]; exact h63 p hp) (by rw [mset_s]; omega) (fun q hq z => by
                rw [mset_a _ _ (by decide)]
                by_cases e : q = n
                · rw [e, mset_s]
                · have h3 := ncI_mono (f := zTk Z rule) (p := 1) (x := q + 1) n (by omega)
                  rw [ncI_succ, if_pos z] at h3
                  have h4 := ncI_nn (zTk Z rule) 1 q
                  rw [mset_k _ _ (by omega)]
                  exact h62 q (by omega) z) (fun q hq hqc => ⟨fun y => ⟨n, by omega, hz, y⟩, fun ⟨a, a1, a2, a3⟩ => by
                by_cases e : a = n
                · rw [e] at a3; exact a3
                · exact absurd ((hbt n (Nat.le_refl _) hnc).mpr ⟨a, by omega, a2, by omega⟩) c1⟩)
            have hcall := c_next (Γ := Γ) (I := mset (mset X 62 (ncI (zTk Z rule) 1 n).toNat (n : Int)) 61 3 (ncI (zTk Z rule) 1 n + 1)) (t := 3) (x := (n : Int)) hg (Or.inl rfl) (by omega) (by rw [hX13 3 2 (by decide) (by decide) (by decide)]; exact hnc) (by rw [hX13 3 2 (by decide) (by decide) (by decide)]; exact htc.2) (by
              rw [hX13 11 _ (by decide) (by decide) (by omega), Int.toNat_natCast]
              show 0 ≤ (zT Z) 8 n ∧ (n : Int) + (zT Z) 8 n ≤ 120
              omega)
            rw [hX13 11 _ (by decide) (by decide) (by omega), Int.toNat_natCast] at hcall
            refine ⟨J, v_X0_choose_34 hg _ bt n ⟨fun z => absurd z (by omega), fun _ => ⟨fun z => absurd z c1, fun _ => ⟨by omega, fun z => absurd (by rw [Int.toNat_natCast, x60] at z; exact z) c2, fun _ => ⟨by omega, fun z => absurd (by rw [Int.toNat_natCast, x63] at z; exact z) c3, fun _ => ⟨by rw [h613]; omega, ?_⟩⟩⟩⟩⟩, j2⟩
            rw [h613]
            rintro _ rfl
            rw [mset_a (b := 61) _ _ (by decide), h613]
            refine ⟨by unfold inR; omega, ?_⟩
            rintro _ rfl
            exact ⟨_, _, hcall, by unfold inR; omega, j1⟩
  obtain ⟨J, j1, j2⟩ := lp (Z 3 2).toNat 0 0 (mset J1 61 3 0) (by omega) (fun a k z1 z2 z3 => by
      rw [show mset J1 61 3 0 a k = J1 a k by unfold mset; rw [if_neg (by omega)]]
      exact w2 a k z2) (fun p hp => by rw [mset_a _ _ (by decide)]; exact hW1 p hp) (mset_s _ _ _ _) (fun q hq => by omega) (fun q _ _ => ⟨fun z => by omega, fun ⟨a, a1, _⟩ => by omega⟩)
  refine ⟨J, CT.of (R := (none, (g, J))) oX0_choose (Nat.le_of_ble_eq_true rfl) (Nat.le_refl _) (Nat.le_refl _) (v_X0_choose_0 hg rule ⟨J1, w1, fun z0 => ⟨fun z1 => ?_, fun z1 => ?_⟩, fun z0 => ?_⟩), j2⟩
  · rintro _ rfl
    have : alw rule = 1 := by unfold alw; rw [if_neg z0, if_neg z1]
    rw [this] at j1
    exact j1
  · rintro _ rfl
    have : alw rule = 0 := by unfold alw; rw [if_neg z0, if_pos z1]
    rw [this] at j1
    exact j1
  · rintro _ rfl
    have : alw rule = 120 := by unfold alw; rw [if_pos z0]
    rw [this] at j1
    exact j1
end CCH
