/-! ===== calls that only ask: taken, takes, hole, row ===== -/
section QU2
variable {Γ : GX} {g : AG} {I J X : IF}
theorem gG_GI {T P : IF} {fr root : Int} {Df : Nat → Nat → Prop} (hT : TOK 0 T) (hP : TOK 1 P) (hF : FRO P fr) (hD : (∀ l : Nat, ¬ Df l l) ∧ ∀ l o : Nat, Df l o → Df o l) (hr : 0 ≤ root ∧ root < T 0 2) : ∀ (m p : Nat) (s s' : IF), p + m = (P 0 2).toNat → GI T P Df p s → gG T P fr root Df m p s = some s' → GI T P Df (P 0 2).toNat s'
  | 0, p, s, s', h, hG, hs => by
    have : s = s' := Option.some.inj hs
    rw [← this, ← h]
    exact hG
  | m + 1, p, s, s', h, hG, hs => by
    unfold gG at hs
    have one : ∀ c : Nat, (gStep T P fr root Df c p s).bind (gG T P fr root Df m (p + 1)) = some s' → GI T P Df (P 0 2).toNat s' := fun c hc => by
      cases e : gStep T P fr root Df c p s with
      | none => rw [e] at hc; cases hc
      | some s1 =>
        rw [e] at hc
        exact gG_GI hT hP hF hD hr m (p + 1) s1 s' (by omega) (hG.step hT hP hF hD (by omega) hr (by omega) e) hc
    split at hs
    · obtain ⟨c, -, -, hc⟩ := fs_some _ _ hs
      exact one c hc
    · exact one 0 hs
theorem WAY_GI {T P : IF} {fr root : Int} {Df : Nat → Nat → Prop} (hT : TOK 0 T) (hP : TOK 1 P) (hF : FRO P fr) (hD : (∀ l : Nat, ¬ Df l l) ∧ ∀ l o : Nat, Df l o → Df o l) (hr : 0 ≤ root ∧ root < T 0 2) {s' : IF} (h : WAY T P fr Df root = some s') : GI T P Df (P 0 2).toNat s' := gG_GI hT hP hF hD hr (P 0 2).toNat 0 s00 s' (Nat.zero_add _) (GI.zero hP) h
theorem FrM.inv (h : Inv I) (hf : FrM I J) : Inv J := h.mv (fun a k z => by
  unfold core at z
  exact hf a k (by omega) (by omega)) (fun k => ⟨hf _ _ (by omega) (Or.inl (by decide)), hf _ _ (by omega) (Or.inl (by decide))⟩) (hf _ _ (by omega) (Or.inr (by decide))) (hf _ _ (by omega) (Or.inr (by decide)))
/-- both ways of a node, and the letters -/
theorem q_way (hg : GOc g) (h : Inv I) {x : Int} (hx : 0 ≤ x ∧ x < I 3 2) : ∃ (J : IF), CT Γ 3 mX1_findWay [.inr (some 52), .inl x] (g, I) (some (.inl (pb (WAY (zT I) (zP I) (I 52 7) (zDf I) x ≠ none))), (g, J)) ∧ FrM I J ∧ Inv J ∧ (∀ s' : IF, WAY (zT I) (zP I) (I 52 7) (zDf I) x = some s' → Ag I (I 15 2).toNat s' J) := by
  obtain ⟨J, j1, j2, j3⟩ := c_findWay (Γ := Γ) (Z := I) (I := I) (root := x) hg h.1.2.1 FrM.rf hx
  exact ⟨J, j1, j2, FrM.inv h j2, j3⟩
theorem m_way (hg : GOk g) (h : Inv I) {x : Int} (hx : 0 ≤ x ∧ x < I 3 2) : ∃ (J : IF), CT Γ 901 mX8_isMatched [.inr (some 80), .inl x] (g, I) (some (.inl (pb (WAY (zT I) (zP I) (I 52 7) (zDf I) x ≠ none))), (g, J)) ∧ FrD I J ∧ Inv J ∧ (∀ s' : IF, WAY (zT I) (zP I) (I 52 7) (zDf I) x = some s' → LR2 (zT I) (zP I) s' J) := by
  obtain ⟨J, j1, j2, j3⟩ := m_isMatched (Γ := Γ) (fr := I 52 7) (root := x) hg (Inv.mst h.1) h.1.2.1.2.2.2.2.1 h.1.2.1.2.2.2.2.2.2.1 hx
  exact ⟨J, j1, j2, FrE.inv h j2.fe, j3⟩
theorem CSame.m80 {k : Nat} {v : Int} : CSame I (mset I 80 k v) := ⟨fun i k hi => mset_a _ _ (by omega), fun i k hi => mset_a _ _ (by omega), fun k => ⟨mset_a _ _ (by omega), mset_a _ _ (by omega)⟩, mset_a _ _ (by omega), mset_a _ _ (by omega)⟩
theorem CSame.way (e : CSame I J) (x : Int) : WAY (zT J) (zP J) (J 52 7) (zDf J) x = WAY (zT I) (zP I) (I 52 7) (zDf I) x := by
  obtain ⟨q1, q2, q3, q4⟩ := e.eqs
  rw [q1, q2, q3, e.2.2.2.1]
theorem FrM.same (h : FrM I J) : CSame I J := (h.fa).same
/-- what a bound letter answers, in both -/
theorem q_bound (hg : GOc g) (h : Inv I) {x : Int} {l : Nat} (hl : l < 26) (hx : 0 ≤ x ∧ x < I 3 2) {s' : IF} (hw : WAY (zT I) (zP I) (I 52 7) (zDf I) x = some s') (hk : kdO (zP I) l ≠ -1) :
    (0 ≤ (zP I) 10 l ∧ (zP I) 10 l < I 15 2 ∧ (zP I) 10 l < 120) ∧ (kdO (zP I) l = 1 ∨ kdO (zP I) l = 2) ∧ kdO (zP I) l = (zP I) 2 ((zP I) 10 l).toNat ∧ (kdO (zP I) l = 1 → s' 1 ((zP I) 10 l).toNat = 1) ∧ (kdO (zP I) l = 2 → 0 ≤ s' 1 ((zP I) 10 l).toNat ∧ (s' 1 ((zP I) 10 l).toNat = 0 → s' 0 ((zP I) 10 l).toNat = -1)) ∧
    (∀ J : IF, LR2 (zT I) (zP I) s' J → (kdO (zP I) l = 1 → J 141 l = s' 0 ((zP I) 10 l).toNat) ∧ (kdO (zP I) l = 2 → J 143 l = s' 1 ((zP I) 10 l).toNat ∧ J 142 l = s' 0 ((zP I) 10 l).toNat)) := by
  have hP := h.1.2.1.2.1
  have hpc : 1 ≤ I 15 2 ∧ I 15 2 ≤ 120 := hP.1.2.1
  have hGI := WAY_GI h.1.2.1.1 hP h.1.2.1.2.2.2.2.1 h.1.2.1.2.2.2.2.2.2.1 hx hw
  have h10 := hP.2.2.2.2.2.1.2.1 l hl
  have hne : (zP I) 10 l ≠ -1 := fun z => hk (by unfold kdO; rw [if_pos z])
  obtain ⟨y1, y2, y3, y4⟩ := h10.resolve_left (fun z => hne z.1)
  have y2' : (zP I) 10 l < I 15 2 := y2
  have ek : kdO (zP I) l = (zP I) 2 ((zP I) 10 l).toNat := by unfold kdO; rw [if_neg hne]
  have hL1 := hP.2.2.2.2.2.1.1 ((zP I) 10 l).toNat (show ((((zP I) 10 l).toNat : Nat) : Int) < I 15 2 by omega)
  have hk12 : (zP I) 2 ((zP I) 10 l).toNat = 1 ∨ (zP I) 2 ((zP I) 10 l).toNat = 2 := by
    rcases hL1 with k | k | k
    · omega
    · exact k.1
    · omega
  have hlt : ((zP I) 10 l).toNat < ((zP I) 0 2).toNat := by
    show _ < (I 15 2).toNat
    omega
  refine ⟨⟨y1, y2', by omega⟩, by rw [ek]; exact hk12, ek, fun z => (hGI.1 _ hlt (by rw [← ek, z]; decide)).2.2, fun z => ?_, fun J ⟨τ, t1, t2⟩ => ⟨fun z => ?_, fun z => ?_⟩⟩
  · have g4 := hGI.2.2.2.1 _ hlt (by rw [← ek]; exact z)
    exact ⟨g4.1, g4.2.1⟩
  · have a := (t1 l hl).2.1 hne y2 (by rw [← ek]; exact z)
    rw [(t2 l hl).1]
    exact a.1
  · have a := (t1 l hl).2.2 hne y2 (by rw [← ek]; exact z)
    have hg4 := (hGI.2.2.2.1 _ hlt (by rw [← ek]; exact z)).1
    have b := t2 l hl
    have b3 := b.2.2 (by rw [a.2.1]; omega)
    exact ⟨b.2.1.trans a.2.1, b3.1.trans a.2.2.1⟩
theorem c_isBound_n (hg : GOc g) (h : Inv I) {x y : Int} (hn : ¬ ((0 ≤ x ∧ x < I 3 2) ∧ (0 ≤ y ∧ y < 26) ∧ kdO (zP I) y.toNat ≠ -1)) : CT Γ 4 mX6_isBound [.inr (some 1), .inl x, .inl y] (g, I) (some (.inl 0), (g, I)) := by
  have cN := c_isNode (Γ := Γ) (I := I) hg x
  by_cases hx : 0 ≤ x ∧ x < I 3 2
  · rw [decide_eq_true hx, bI_t rfl] at cN
    have cL := c_isLetter (Γ := Γ) (I := I) hg y
    by_cases hy : 0 ≤ y ∧ y < 26
    · rw [decide_eq_true hy, bI_t rfl] at cL
      have hkd : kdO (zP I) y.toNat = -1 := Classical.byContradiction (fun z => hn ⟨hx, hy, z⟩)
      have cK := c_kindOf2 (Γ := Γ) (t := 15) (l := y.toNat) hg (Or.inr (Or.inl rfl)) (h.1.2.1.2.1.cg ct_tag.sy) (by omega)
      rw [show ((y.toNat : Nat) : Int) = y by omega] at cK
      have ek : kdO (tv 15 I) y.toNat = kdO (zP I) y.toNat := rfl
      rw [ek, hkd] at cK
      exact CT.of (R := (some (.inl 0), (g, I))) oX6_isBound (Nat.le_of_ble_eq_true rfl) (Nat.le_refl _) (Nat.le_refl _) (v_X6_isBound_0 hg x y ⟨_, _, cN, fun z => absurd z (by decide), fun _ => ⟨_, _, cL, fun z => absurd z (by decide), fun _ => ⟨_, _, cK, fun _ => ⟨rfl, rfl⟩, fun z => absurd rfl z⟩⟩⟩)
    · rw [decide_eq_false hy, bI_f rfl] at cL
      exact CT.of (R := (some (.inl 0), (g, I))) oX6_isBound (Nat.le_of_ble_eq_true rfl) (Nat.le_refl _) (Nat.le_refl _) (v_X6_isBound_0 hg x y ⟨_, _, cN, fun z => absurd z (by decide), fun _ => ⟨_, _, cL, fun _ => ⟨rfl, rfl⟩, fun z => absurd rfl z⟩⟩)
  · rw [decide_eq_false hx, bI_f rfl] at cN
    exact CT.of (R := (some (.inl 0), (g, I))) oX6_isBound (Nat.le_of_ble_eq_true rfl) (Nat.le_refl _) (Nat.le_refl _) (v_X6_isBound_0 hg x y ⟨_, _, cN, fun _ => ⟨rfl, rfl⟩, fun z => absurd rfl z⟩)
theorem c_isBound_y (hg : GOc g) (h : Inv I) {x y : Int} (hx : 0 ≤ x ∧ x < I 3 2) (hy : 0 ≤ y ∧ y < 26) (hk : kdO (zP I) y.toNat ≠ -1) :
    ∃ J : IF, CT Γ 4 mX6_isBound [.inr (some 1), .inl x, .inl y] (g, I) (some (.inl (pb (WAY (zT I) (zP I) (I 52 7) (zDf I) x ≠ none))), (g, J)) ∧ FrM I J ∧ Inv J ∧ (∀ s' : IF, WAY (zT I) (zP I) (I 52 7) (zDf I) x = some s' → Ag I (I 15 2).toNat s' J) := by
  have cN := c_isNode (Γ := Γ) (I := I) hg x
  rw [decide_eq_true hx, bI_t rfl] at cN
  have cL := c_isLetter (Γ := Γ) (I := I) hg y
  rw [decide_eq_true hy, bI_t rfl] at cL
  have cK := c_kindOf2 (Γ := Γ) (t := 15) (l := y.toNat) hg (Or.inr (Or.inl rfl)) (h.1.2.1.2.1.cg ct_tag.sy) (by omega)
  rw [show ((y.toNat : Nat) : Int) = y by omega] at cK
  have ek : kdO (tv 15 I) y.toNat = kdO (zP I) y.toNat := rfl
  rw [ek] at cK
  obtain ⟨J, j1, j2, j3, j4⟩ := q_way (Γ := Γ) hg h hx
  exact ⟨J, CT.of (R := (some (.inl (pb (WAY (zT I) (zP I) (I 52 7) (zDf I) x ≠ none))), (g, J))) oX6_isBound (Nat.le_of_ble_eq_true rfl) (Nat.le_refl _) (Nat.le_refl _) (v_X6_isBound_0 hg x y ⟨_, _, cN, fun z => absurd z (by decide), fun _ => ⟨_, _, cL, fun z => absurd z (by decide), fun _ => ⟨_, _, cK, fun z => absurd z hk, fun _ => ⟨_, _, j1, fun z => ⟨by rw [z], rfl⟩, fun z => ⟨by rw [pb_t (pb_1.mp z)], rfl⟩⟩⟩⟩⟩), j2, j3, j4⟩
/-- the reference's tests ahead of hole and row -/
theorem m_tests (hg : GOk g) (h : Inv I) (x y : Int) : CT Γ 0 mX8_isNode [.inr (some 80), .inl x] (g, I) (some (.inl (bI (decide (0 ≤ x ∧ x < I 3 2)))), (g, I)) ∧ CT Γ 0 mX8_isIn [.inl y, .inl 0, .inl 25] (g, I) (some (.inl (bI (decide (0 ≤ y ∧ y < 26)))), (g, I)) ∧ (0 ≤ y → y < 26 → CT Γ 0 mX8_kindOf [.inr (some 80), .inr (some 92), .inl y] (g, I) (some (.inl (kdO (zP I) y.toNat)), (g, I))) := by
  have mN := m_isNode (Γ := Γ) (I := I) hg x
  rw [show I 82 2 = I 3 2 from h.1.2.2.2.2.1.1.2.1] at mN
  have mI := m_isIn (Γ := Γ) (I := I) hg y 0 25
  have e : decide (0 ≤ y ∧ y ≤ 25) = decide (0 ≤ y ∧ y < 26) := by
    rw [decide_eq_decide]
    omega
  rw [e] at mI
  refine ⟨mN, mI, fun h0 h1 => ?_⟩
  have mK := m_kindOf (Γ := Γ) (u := 92) (X := zP I) (l := y.toNat) hg (Or.inr (Or.inl rfl)) h.1.2.1.2.1 h.1.2.2.2.2.1.2.1 (by omega)
  rw [show ((y.toNat : Nat) : Int) = y by omega] at mK
  exact mK
theorem q_hole (hg : GOk g) (h : Inv I) (x y : Int) : Q2 Γ g I 5 mX6_hole [.inl x, .inl y] 902 mX8_hole [.inl x, .inl y] := by
  by_cases hb : (0 ≤ x ∧ x < I 3 2) ∧ (0 ≤ y ∧ y < 26) ∧ kdO (zP I) y.toNat ≠ -1
  · obtain ⟨hx, hy, hk⟩ := hb
    obtain ⟨J, j1, j2, j3, j4⟩ := c_isBound_y (Γ := Γ) hg.c h hx hy hk
    have hJ0 := j3.m80 (v := 0) (k := 0) (by decide)
    have es : CSame I (mset J 80 0 0) := by
      have a := j2.same
      have b := CSame.m80 (I := J) (k := 0) (v := 0)
      exact ⟨fun i k hi => (b.1 i k hi).trans (a.1 i k hi), fun i k hi => (b.2.1 i k hi).trans (a.2.1 i k hi), fun k => ⟨(b.2.2.1 k).1.trans (a.2.2.1 k).1, (b.2.2.1 k).2.trans (a.2.2.1 k).2⟩, b.2.2.2.1.trans a.2.2.2.1, b.2.2.2.2.trans a.2.2.2.2⟩
    have e3 : (mset J 80 0 0) 3 2 = I 3 2 := es.1 0 2 (by decide)
    obtain ⟨q1, q2, q3, q4⟩ := es.eqs
    obtain ⟨m1, m2, m3⟩ := m_tests (Γ := Γ) hg hJ0 x y
    rw [e3, decide_eq_true hx, bI_t rfl] at m1
    rw [decide_eq_true hy, bI_t rfl] at m2
    have m3 := m3 hy.1 hy.2
    rw [q2] at m3
    obtain ⟨J2, w1, w2, w3, w4⟩ := m_way (Γ := Γ) hg hJ0 (x := x) (by rw [e3]; exact hx)
    rw [es.way x] at w1 w4
    rw [q1, q2] at w4
    have m4 := (m_tests (Γ := Γ) hg w3 x y).2.2 hy.1 hy.2
    have q2' : zP J2 = zP I := (show ct 15 J2 = ct 15 (mset J 80 0 0) from ct_eq (fun i k hi => w2 _ _ (by omega) (Or.inl (by omega)))).trans q2
    rw [q2'] at m4
    have i25 : J 25 y.toNat = (zP I) 10 y.toNat := j2 25 _ (by decide) (Or.inl (by decide))
    cases hw : WAY (zT I) (zP I) (I 52 7) (zDf I) x with
    | none =>
      rw [hw, pbn_none rfl] at j1 w1
      refine Q2.same (r := -1) hg (CT.of (R := (some (.inl (-1)), (g, J))) oX6_hole (Nat.le_of_ble_eq_true rfl) (Nat.le_refl _) (Nat.le_refl _) (v_X6_hole_0 hg.c x y ⟨_, _, j1, fun _ => ⟨rfl, rfl⟩, fun z => absurd rfl z⟩)) (CT.of (R := (some (.inl (-1)), (g, J2))) oX8_hole (Nat.le_of_ble_eq_true rfl) (Nat.le_refl _) (Nat.le_refl _) (v_X8_hole_0 hg x y ?_)) w3
      rintro _ rfl
      exact ⟨_, _, m1, fun z => absurd z (by decide), fun _ => ⟨_, _, m2, fun z => absurd z (by decide), fun _ => ⟨_, _, m3, fun z => absurd z hk, fun _ => ⟨_, _, w1, fun z => absurd rfl z, fun _ => ⟨rfl, rfl⟩⟩⟩⟩⟩
    | some s' =>
      rw [hw, pbn_some rfl] at j1 w1
      obtain ⟨b1, b2, b3, b4, b5, b6⟩ := q_bound hg.c h (show y.toNat < 26 by omega) hx hw hk
      obtain ⟨b7, b8⟩ := b6 J2 (w4 s' hw)
      have hA := j4 s' hw ((zP I) 10 y.toNat).toNat (by omega)
      refine Q2.same (r := s' 0 ((zP I) 10 y.toNat).toNat) hg (CT.of (R := (some (.inl (s' 0 ((zP I) 10 y.toNat).toNat)), (g, J))) oX6_hole (Nat.le_of_ble_eq_true rfl) (Nat.le_refl _) (Nat.le_refl _) (v_X6_hole_0 hg.c x y ⟨_, _, j1, fun z => absurd z (by decide), fun _ => ⟨_, _, CT.of (R := (some (.inl (s' 0 ((zP I) 10 y.toNat).toNat)), (g, J))) oX1_firstNode (Nat.le_of_ble_eq_true rfl) (Nat.le_refl _) (Nat.le_refl _) (v_X1_firstNode_0 hg.c y ⟨hy, ?_⟩), rfl, rfl⟩⟩)) (CT.of (R := (some (.inl (s' 0 ((zP I) 10 y.toNat).toNat)), (g, J2))) oX8_hole (Nat.le_of_ble_eq_true rfl) (Nat.le_refl _) (Nat.le_refl _) (v_X8_hole_0 hg x y ?_)) w3
      · rw [i25]
        rintro _ rfl
        exact ⟨fun _ => ⟨by omega, some_i hA.1.symm, rfl⟩, fun z => absurd z (by omega)⟩
      · rintro _ rfl
        refine ⟨_, _, m1, fun z => absurd z (by decide), fun _ => ⟨_, _, m2, fun z => absurd z (by decide), fun _ => ⟨_, _, m3, fun z => absurd z hk, fun _ => ⟨_, _, w1, fun _ => ⟨_, _, m4, fun z => ⟨hy, fun v => ⟨hy, some_i ?_, rfl⟩, fun v => ⟨some_i ?_, rfl⟩⟩, fun z => ⟨hy, some_i (b7 z).symm, rfl⟩⟩, fun z => absurd z (by decide)⟩⟩⟩⟩
        · exact (b8 (b2.resolve_left z)).2.symm
        · have k2 := b2.resolve_left z
          rw [(b8 k2).1] at v
          exact (b5 k2).2 v
  · have hcb := c_isBound_n (Γ := Γ) hg.c h hb
    have hJ0 := h.m80 (v := 0) (k := 0) (by decide)
    obtain ⟨m1, m2, m3⟩ := m_tests (Γ := Γ) hg hJ0 x y
    have es := CSame.m80 (I := I) (k := 0) (v := 0)
    have e3 : (mset I 80 0 0) 3 2 = I 3 2 := es.1 0 2 (by decide)
    rw [e3] at m1
    refine Q2.same (r := -1) hg (CT.of (R := (some (.inl (-1)), (g, I))) oX6_hole (Nat.le_of_ble_eq_true rfl) (Nat.le_refl _) (Nat.le_refl _) (v_X6_hole_0 hg.c x y ⟨_, _, hcb, fun _ => ⟨rfl, rfl⟩, fun z => absurd rfl z⟩)) (CT.of (R := (some (.inl (-1)), (g, mset I 80 0 0))) oX8_hole (Nat.le_of_ble_eq_true rfl) (Nat.le_refl _) (Nat.le_refl _) (v_X8_hole_0 hg x y ?_)) hJ0
    rintro _ rfl
    refine ⟨_, _, m1, fun _ => ⟨rfl, rfl⟩, fun z1 => ⟨_, _, m2, fun _ => ⟨rfl, rfl⟩, fun z2 => ?_⟩⟩
    have hx := of_decide_eq_true (bI_n0.mp z1)
    have hy := of_decide_eq_true (bI_n0.mp z2)
    have m3 := m3 hy.1 hy.2
    rw [es.eqs.2.1] at m3
    have hkd : kdO (zP I) y.toNat = -1 := Classical.byContradiction (fun z => hb ⟨hx, hy, z⟩)
    exact ⟨_, _, m3, fun _ => ⟨rfl, rfl⟩, fun z => absurd hkd z⟩
theorem q_row (hg : GOk g) (h : Inv I) (x y : Int) : Q2 Γ g I 5 mX6_row [.inl x, .inl y] 902 mX8_row [.inl x, .inl y] := by
  by_cases hb : (0 ≤ x ∧ x < I 3 2) ∧ (0 ≤ y ∧ y < 26) ∧ kdO (zP I) y.toNat ≠ -1
  · obtain ⟨hx, hy, hk⟩ := hb
    obtain ⟨J, j1, j2, j3, j4⟩ := c_isBound_y (Γ := Γ) hg.c h hx hy hk
    have hJ0 := j3.m80 (v := 0) (k := 0) (by decide)
    have es : CSame I (mset J 80 0 0) := by
      have a := j2.same
      have b := CSame.m80 (I := J) (k := 0) (v := 0)
      exact ⟨fun i k hi => (b.1 i k hi).trans (a.1 i k hi), fun i k hi => (b.2.1 i k hi).trans (a.2.1 i k hi), fun k => ⟨(b.2.2.1 k).1.trans (a.2.2.1 k).1, (b.2.2.1 k).2.trans (a.2.2.1 k).2⟩, b.2.2.2.1.trans a.2.2.2.1, b.2.2.2.2.trans a.2.2.2.2⟩
    have e3 : (mset J 80 0 0) 3 2 = I 3 2 := es.1 0 2 (by decide)
    obtain ⟨q1, q2, q3, q4⟩ := es.eqs
    obtain ⟨m1, m2, m3⟩ := m_tests (Γ := Γ) hg hJ0 x y
    rw [e3, decide_eq_true hx, bI_t rfl] at m1
    rw [decide_eq_true hy, bI_t rfl] at m2
    have m3 := m3 hy.1 hy.2
    rw [q2] at m3
    obtain ⟨J2, w1, w2, w3, w4⟩ := m_way (Γ := Γ) hg hJ0 (x := x) (by rw [e3]; exact hx)
    rw [es.way x] at w1 w4
    rw [q1, q2] at w4
    have m4 := (m_tests (Γ := Γ) hg w3 x y).2.2 hy.1 hy.2
    have q2' : zP J2 = zP I := (show ct 15 J2 = ct 15 (mset J 80 0 0) from ct_eq (fun i k hi => w2 _ _ (by omega) (Or.inl (by omega)))).trans q2
    rw [q2'] at m4
    have i25 : J 25 y.toNat = (zP I) 10 y.toNat := j2 25 _ (by decide) (Or.inl (by decide))
    cases hw : WAY (zT I) (zP I) (I 52 7) (zDf I) x with
    | none =>
      rw [hw, pbn_none rfl] at j1 w1
      refine Q2.same (r := -1) hg (CT.of (R := (some (.inl (-1)), (g, J))) oX6_row (Nat.le_of_ble_eq_true rfl) (Nat.le_refl _) (Nat.le_refl _) (v_X6_row_0 hg.c x y ⟨_, _, j1, fun _ => ⟨rfl, rfl⟩, fun z => absurd rfl z⟩)) (CT.of (R := (some (.inl (-1)), (g, J2))) oX8_row (Nat.le_of_ble_eq_true rfl) (Nat.le_refl _) (Nat.le_refl _) (v_X8_row_0 hg x y ?_)) w3
      rintro _ rfl
      exact ⟨_, _, m1, fun z => absurd z (by decide), fun _ => ⟨_, _, m2, fun z => absurd z (by decide), fun _ => ⟨_, _, m3, fun z => absurd z hk, fun _ => ⟨_, _, w1, fun z => absurd rfl z, fun _ => ⟨rfl, rfl⟩⟩⟩⟩⟩
    | some s' =>
      rw [hw, pbn_some rfl] at j1 w1
      obtain ⟨b1, b2, b3, b4, b5, b6⟩ := q_bound hg.c h (show y.toNat < 26 by omega) hx hw hk
      obtain ⟨b7, b8⟩ := b6 J2 (w4 s' hw)
      have hA := j4 s' hw ((zP I) 10 y.toNat).toNat (by omega)
      refine Q2.same (r := s' 1 ((zP I) 10 y.toNat).toNat) hg (CT.of (R := (some (.inl (s' 1 ((zP I) 10 y.toNat).toNat)), (g, J))) oX6_row (Nat.le_of_ble_eq_true rfl) (Nat.le_refl _) (Nat.le_refl _) (v_X6_row_0 hg.c x y ⟨_, _, j1, fun z => absurd z (by decide), fun _ => ⟨_, _, CT.of (R := (some (.inl (s' 1 ((zP I) 10 y.toNat).toNat)), (g, J))) oX1_howMany (Nat.le_of_ble_eq_true rfl) (Nat.le_refl _) (Nat.le_refl _) (v_X1_howMany_0 hg.c y ⟨hy, ?_⟩), rfl, rfl⟩⟩)) (CT.of (R := (some (.inl (s' 1 ((zP I) 10 y.toNat).toNat)), (g, J2))) oX8_row (Nat.le_of_ble_eq_true rfl) (Nat.le_refl _) (Nat.le_refl _) (v_X8_row_0 hg x y ?_)) w3
      · rw [i25]
        rintro _ rfl
        exact ⟨fun _ => ⟨by omega, some_i hA.2.1.symm, rfl⟩, fun z => absurd z (by omega)⟩
      · rintro _ rfl
        refine ⟨_, _, m1, fun z => absurd z (by decide), fun _ => ⟨_, _, m2, fun z => absurd z (by decide), fun _ => ⟨_, _, m3, fun z => absurd z hk, fun _ => ⟨_, _, w1, fun _ => ⟨_, _, m4, fun z => ⟨hy, some_i ?_, rfl⟩, fun z => ⟨some_i (b4 z), rfl⟩⟩, fun z => absurd z (by decide)⟩⟩⟩⟩
        exact (b8 (b2.resolve_left z)).1.symm
  · have hcb := c_isBound_n (Γ := Γ) hg.c h hb
    have hJ0 := h.m80 (v := 0) (k := 0) (by decide)
    obtain ⟨m1, m2, m3⟩ := m_tests (Γ := Γ) hg hJ0 x y
    have es := CSame.m80 (I := I) (k := 0) (v := 0)
    have e3 : (mset I 80 0 0) 3 2 = I 3 2 := es.1 0 2 (by decide)
    rw [e3] at m1
    refine Q2.same (r := -1) hg (CT.of (R := (some (.inl (-1)), (g, I))) oX6_row (Nat.le_of_ble_eq_true rfl) (Nat.le_refl _) (Nat.le_refl _) (v_X6_row_0 hg.c x y ⟨_, _, hcb, fun _ => ⟨rfl, rfl⟩, fun z => absurd rfl z⟩)) (CT.of (R := (some (.inl (-1)), (g, mset I 80 0 0))) oX8_row (Nat.le_of_ble_eq_true rfl) (Nat.le_refl _) (Nat.le_refl _) (v_X8_row_0 hg x y ?_)) hJ0
    rintro _ rfl
    refine ⟨_, _, m1, fun _ => ⟨rfl, rfl⟩, fun z1 => ⟨_, _, m2, fun _ => ⟨rfl, rfl⟩, fun z2 => ?_⟩⟩
    have hx := of_decide_eq_true (bI_n0.mp z1)
    have hy := of_decide_eq_true (bI_n0.mp z2)
    have m3 := m3 hy.1 hy.2
    rw [es.eqs.2.1] at m3
    have hkd : kdO (zP I) y.toNat = -1 := Classical.byContradiction (fun z => hb ⟨hx, hy, z⟩)
    exact ⟨_, _, m3, fun _ => ⟨rfl, rfl⟩, fun z => absurd hkd z⟩
/-- found and chosen, by both -/
theorem c_chosen (hg : GOk g) (h : Inv I) {rule : Int} (hr : rule = 0 ∨ rule = 1 ∨ rule = 2) : ∃ J5 J8 : IF, CT Γ 4 mX1_findAll [.inr (some 52)] (g, I) (none, (g, J5)) ∧ CT Γ 1 mX0_choose [.inr (some 61), .inl rule] (g, J5) (none, (g, J8)) ∧ TkL I J8 rule ∧ Inv J8 ∧ Core I J8 ∧ CSame I J8 ∧ (∀ a k : Nat, 80 ≤ a → J8 a k = I a k) := by
  obtain ⟨J, j1, j2, j3, j4⟩ := c_all (Γ := Γ) hg h
  obtain ⟨q1, q2, q3, q4⟩ := j2.same.eqs
  have e3 : J 3 2 = I 3 2 := j2 3 2 (by decide) (by decide)
  obtain ⟨J8, c1, c2, c3⟩ := c_choose (Γ := Γ) (Z := J) hg.c j4.1.2.1 (fun n hn => by rw [q4]; exact j3.1 n (by rw [← e3]; exact hn)) hr
  have hcore : Core J J8 := fun a k z => by
    unfold core at z
    exact c2 a k (by omega) (by omega) (by omega)
  have hinv : Inv J8 := j4.mv hcore (fun k => ⟨c2 60 k (by decide) (by decide) (by omega), c2 59 k (by decide) (by decide) (by omega)⟩) (c2 52 13 (by decide) (by decide) (by decide)) (c2 52 15 (by decide) (by decide) (by decide))
  unfold TkL at c3
  rw [j2.same.tk, e3] at c3
  exact ⟨J, J8, j1, c1, c3, hinv, j2.cor.tr hcore, (j2.cor.tr hcore).same, fun a k z => (c2 a k (by omega) (by omega) (by omega)).trans (j2 a k (by omega) (by omega))⟩
theorem m_taken' (hg : GOk g) (h : Inv I) {rule : Int} (hr : rule = 0 ∨ rule = 1 ∨ rule = 2) : ∃ J : IF, CT Γ 903 mX8_takeBy [.inr (some 80), .inl rule] (g, I) (some (.inl (ncI (zTk I rule) 1 (I 3 2).toNat)), (g, J)) ∧ FrE I J ∧ Inv J ∧ ∀ n : Nat, (n : Int) < I 3 2 → J 147 n = zTk I rule n := by
  obtain ⟨J, j1, j2, j3⟩ := m_takeBy (Γ := Γ) (fr := I 52 7) hg (Inv.mst h.1) h.1.2.1.2.2.2.2.1 h.1.2.1.2.2.2.2.2.2.1 hr
  exact ⟨J, j1, j2, FrE.inv h j2, j3⟩
theorem q_taken (hg : GOk g) (h : Inv I) (x : Int) : Q2 Γ g I 5 mX6_taken [.inl x] 904 mX8_taken [.inl x] := by
  have cR := c_isRule (Γ := Γ) (I := I) hg.c x
  by_cases hx : 0 ≤ x ∧ x ≤ 2
  · rw [decide_eq_true hx, bI_t rfl] at cR
    obtain ⟨J5, J8, c1, c2, c3, c4, c5, c6, c7⟩ := c_chosen (Γ := Γ) (rule := x) hg h (by omega)
    have hJ0 := c4.m80 (v := 0) (k := 0) (by decide)
    have mI := m_isIn (Γ := Γ) (I := mset J8 80 0 0) hg x 0 2
    rw [decide_eq_true hx, bI_t rfl] at mI
    obtain ⟨J2, t1, t2, t3, t4⟩ := m_taken' (Γ := Γ) (rule := x) hg hJ0 (by omega)
    have ez : zTk (mset J8 80 0 0) = zTk I := by
      rw [(CSame.m80 (I := J8) (k := 0) (v := 0)).tk, c6.tk]
    have e3 : (mset J8 80 0 0) 3 2 = I 3 2 := (mset_a _ _ (by decide)).trans (c6.1 0 2 (by decide))
    rw [ez, e3, ← c3.1] at t1
    refine Q2.same (r := J8 61 3) hg (CT.of (R := (some (.inl (J8 61 3)), (g, J8))) oX6_taken (Nat.le_of_ble_eq_true rfl) (Nat.le_refl _) (Nat.le_refl _) (v_X6_taken_0 hg.c x ⟨_, _, cR, fun _ => ⟨_, c1, _, c2, rfl, rfl⟩, fun z => absurd z (by decide)⟩)) (CT.of (R := (some (.inl (J8 61 3)), (g, J2))) oX8_taken (Nat.le_of_ble_eq_true rfl) (Nat.le_refl _) (Nat.le_refl _) (v_X8_taken_0 hg x ?_)) t3
    rintro _ rfl
    exact ⟨_, _, mI, fun z => absurd z (by decide), fun _ => ⟨_, _, t1, rfl, rfl⟩⟩
  · rw [decide_eq_false hx, bI_f rfl] at cR
    have mI := m_isIn (Γ := Γ) (I := mset I 80 0 0) hg x 0 2
    rw [decide_eq_false hx, bI_f rfl] at mI
    refine Q2.same (r := -1) hg (CT.of (R := (some (.inl (-1)), (g, I))) oX6_taken (Nat.le_of_ble_eq_true rfl) (Nat.le_refl _) (Nat.le_refl _) (v_X6_taken_0 hg.c x ⟨_, _, cR, fun z => absurd rfl z, fun _ => ⟨rfl, rfl⟩⟩)) (CT.of (R := (some (.inl (-1)), (g, mset I 80 0 0))) oX8_taken (Nat.le_of_ble_eq_true rfl) (Nat.le_refl _) (Nat.le_refl _) (v_X8_taken_0 hg x ?_)) (h.m80 (by decide))
    rintro _ rfl
    exact ⟨_, _, mI, fun _ => ⟨rfl, rfl⟩, fun z => absurd rfl z⟩
theorem q_takes (hg : GOk g) (h : Inv I) (x y : Int) : Q2 Γ g I 5 mX6_takes [.inl x, .inl y] 904 mX8_takes [.inl x, .inl y] := by
  have cR := c_isRule (Γ := Γ) (I := I) hg.c x
  have htc : 1 ≤ I 3 2 ∧ I 3 2 ≤ 120 := h.1.2.1.1.1.2.1
  by_cases hx : 0 ≤ x ∧ x ≤ 2
  · rw [decide_eq_true hx, bI_t rfl] at cR
    obtain ⟨J5, J8, c1, c2, c3, c4, c5, c6, c7⟩ := c_chosen (Γ := Γ) (rule := x) hg h (by omega)
    have hJ0 := c4.m80 (v := 0) (k := 0) (by decide)
    have mI := m_isIn (Γ := Γ) (I := mset J8 80 0 0) hg x 0 2
    rw [decide_eq_true hx, bI_t rfl] at mI
    obtain ⟨J2, t1, t2, t3, t4⟩ := m_taken' (Γ := Γ) (rule := x) hg hJ0 (by omega)
    have ez : zTk (mset J8 80 0 0) = zTk I := by
      rw [(CSame.m80 (I := J8) (k := 0) (v := 0)).tk, c6.tk]
    have e3 : (mset J8 80 0 0) 3 2 = I 3 2 := (mset_a _ _ (by decide)).trans (c6.1 0 2 (by decide))
    rw [ez, e3] at t1
    rw [ez, e3] at t4
    have j82 : J2 82 2 = I 3 2 := by
      have e1 : J2 82 2 = J2 3 2 := t3.1.2.2.2.2.1.1.2.1
      rw [e1, t2 3 2 (by decide) (by decide)]
      exact e3
    have h01 : ∀ n : Nat, zTk I x n = 0 ∨ zTk I x n = 1 := fun n => pb_01 _
    have sc := m_scan28 (Γ := Γ) (i := y) hg h01 (c := I 3 2) (by omega) j82 t4 (I 3 2).toNat 0 (Nat.zero_add _)
    have hl := nthI_list (f := zTk I x) (A := J8 62) (i := y) (m := (I 3 2).toNat) h01 (fun n hn z => c3.2 n (by omega) z)
    rw [← c3.1] at hl
    have hle := ncI_le (zTk I x) 1 (I 3 2).toNat
    have h13 := c3.1
    refine Q2.same (r := nthI (zTk I x) y 0 (I 3 2).toNat) hg (CT.of (R := (some (.inl (nthI (zTk I x) y 0 (I 3 2).toNat)), (g, J8))) oX6_takes (Nat.le_of_ble_eq_true rfl) (Nat.le_refl _) (Nat.le_refl _) (v_X6_takes_0 hg.c x y ⟨_, _, cR, fun _ => ⟨_, c1, _, c2, fun z => ⟨some_i ?_, rfl⟩, fun z => ⟨fun v => ⟨some_i ?_, rfl⟩, fun v => ⟨by omega, some_i ?_, rfl⟩⟩⟩, fun z => absurd z (by decide)⟩)) (CT.of (R := (some (.inl (nthI (zTk I x) y 0 (I 3 2).toNat)), (g, J2))) oX8_takes (Nat.le_of_ble_eq_true rfl) (Nat.le_refl _) (Nat.le_refl _) (v_X8_takes_0 hg x y ?_)) t3
    · rw [hl, if_neg (by omega)]
    · rw [hl, if_neg (by omega)]
    · rw [hl, if_pos (by omega)]
    · rintro _ rfl
      exact ⟨_, _, mI, fun _ => ⟨_, _, t1, sc⟩, fun z => absurd z (by decide)⟩
  · rw [decide_eq_false hx, bI_f rfl] at cR
    have mI := m_isIn (Γ := Γ) (I := mset I 80 0 0) hg x 0 2
    rw [decide_eq_false hx, bI_f rfl] at mI
    refine Q2.same (r := -1) hg (CT.of (R := (some (.inl (-1)), (g, I))) oX6_takes (Nat.le_of_ble_eq_true rfl) (Nat.le_refl _) (Nat.le_refl _) (v_X6_takes_0 hg.c x y ⟨_, _, cR, fun z => absurd rfl z, fun _ => ⟨rfl, rfl⟩⟩)) (CT.of (R := (some (.inl (-1)), (g, mset I 80 0 0))) oX8_takes (Nat.le_of_ble_eq_true rfl) (Nat.le_refl _) (Nat.le_refl _) (v_X8_takes_0 hg x y ?_)) (h.m80 (by decide))
    rintro _ rfl
    exact ⟨_, _, mI, fun z => absurd rfl z, fun _ => ⟨rfl, rfl⟩⟩
end QU2
