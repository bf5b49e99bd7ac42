/-! ===== calls that only ask ===== -/
/-- both answer alike, and the invariant stands -/
def Q2 (Γ : GX) (g : AG) (I : IF) (dc : Nat) (mc : MI) (ac : List AV) (dm : Nat) (mm : MI) (am : List AV) : Prop :=
  ∃ (r : Int) (J J2 : IF) (g2 : AG), CT Γ dc mc (.inr (some 1) :: ac) (g, I) (some (.inl r), (g, J)) ∧ CT Γ dm mm (.inr (some 80) :: am) (g, J) (some (.inl r), (g2, J2)) ∧ (GOk g2 ∧ g2.1 = g.1 ∧ g2.2.2 = g.2.2) ∧ Inv J2
section QU
variable {Γ : GX} {g : AG} {I J X : IF}
theorem Q2.same {dc dm : Nat} {mc mm : MI} {ac am : List AV} (hg : GOk g) {r : Int} {J J2 : IF} (h1 : CT Γ dc mc (.inr (some 1) :: ac) (g, I) (some (.inl r), (g, J))) (h2 : CT Γ dm mm (.inr (some 80) :: am) (g, J) (some (.inl r), (g, J2))) (h3 : Inv J2) : Q2 Γ g I dc mc ac dm mm am := ⟨r, J, J2, g, h1, h2, ⟨hg, rfl, rfl⟩, h3⟩
theorem Core.m80 {v : Int} {k : Nat} (hk : k ≠ 2 ∧ k ≠ 10) : Core I (mset I 80 k v) := fun a j z => by
  unfold core at z
  unfold mset
  rw [if_neg (by omega)]
theorem Inv.m80 (h : Inv I) {v : Int} {k : Nat} (hk : k ≠ 2 ∧ k ≠ 10) : Inv (mset I 80 k v) := h.mv (Core.m80 hk) (fun k => ⟨mset_a _ _ (by decide), mset_a _ _ (by decide)⟩) (mset_a _ _ (by decide)) (mset_a _ _ (by decide))
/-- NODES -/
theorem q_nodes (hg : GOk g) (h : Inv I) : Q2 Γ g I 0 mX6_nodes [] 0 mX8_nodes [] := by
  have e : I 82 2 = I 3 2 := h.1.2.2.2.2.1.1.2.1
  refine Q2.same (r := I 3 2) hg (CT.of oX6_nodes (Nat.le_of_ble_eq_true rfl) (Nat.le_refl _) (Nat.le_refl _) (v_X6_nodes_0 hg.c ⟨rfl, rfl⟩)) (CT.of (R := (some (.inl (I 3 2)), (g, mset I 80 0 0))) oX8_nodes (Nat.le_of_ble_eq_true rfl) (Nat.le_refl _) (Nat.le_refl _) (v_X8_nodes_0 hg ?_)) (h.m80 (by decide))
  rintro _ rfl
  exact ⟨some_i (by rw [mset_a _ _ (by decide)]; exact e.symm), rfl⟩
theorem q_count (hg : GOk g) (h : Inv I) (x : Int) : Q2 Γ g I 0 mX6_count [.inl x] 0 mX8_count [.inl x] := by
  obtain ⟨⟨⟨t1, -⟩, -, -, -, ⟨r1, r2, r3⟩, -, ⟨⟨p1, -⟩, -⟩⟩, -⟩ := id h
  have e1 : I 82 1 = I 3 1 := r1.1
  have e2 : I 92 1 = I 15 1 := r2.1
  have e3 : I 102 1 = I 27 1 := r3.1
  have go : ∀ r : Int, ((x = 0 → r = I 3 1) ∧ (x = 1 → r = I 15 1) ∧ (x = 2 → r = I 27 1) ∧ (x = 3 → r = I 1 1) ∧ (x = 4 → r = I 66 3) ∧ ((x < 0 ∨ 4 < x) → r = -1)) → Q2 Γ g I 0 mX6_count [.inl x] 0 mX8_count [.inl x] := fun r ⟨h0, h1, h2, h3, h4, h5⟩ => by
    refine Q2.same (r := r) hg (CT.of (R := (some (.inl r), (g, I))) oX6_count (Nat.le_of_ble_eq_true rfl) (Nat.le_refl _) (Nat.le_refl _) (v_X6_count_0 hg.c x ⟨fun z => ⟨some_i (h0 z), rfl⟩, fun z => ⟨some_i (h1 z), rfl⟩, fun z => ⟨some_i (h2 z), rfl⟩, fun z => ⟨some_i (h3 z), rfl⟩, fun z => ⟨some_i (h4 z), rfl⟩, fun z => ⟨some_i (h5 z), rfl⟩⟩)) (CT.of (R := (some (.inl r), (g, mset I 80 0 0))) oX8_count (Nat.le_of_ble_eq_true rfl) (Nat.le_refl _) (Nat.le_refl _) (v_X8_count_0 hg x ?_)) (h.m80 (by decide))
    rintro _ rfl
    refine ⟨fun z => ⟨some_i ?_, rfl⟩, fun z => ⟨some_i ?_, rfl⟩, fun z => ⟨some_i ?_, rfl⟩, fun z => ⟨some_i ?_, rfl⟩, fun z => ⟨some_i ?_, rfl⟩, fun z => ⟨some_i (h5 z), rfl⟩⟩
    · rw [mset_a _ _ (by decide), e1]; exact h0 z
    · rw [mset_a _ _ (by decide), e2]; exact h1 z
    · rw [mset_a _ _ (by decide), e3]; exact h2 z
    · rw [mset_k _ _ (by decide), t1]; exact h3 z
    · rw [mset_k _ _ (by decide), p1]; exact h4 z
  rcases (show x = 0 ∨ x = 1 ∨ x = 2 ∨ x = 3 ∨ x = 4 ∨ (x < 0 ∨ 4 < x) by omega) with z | z | z | z | z | z
  · exact go (I 3 1) (by omega)
  · exact go (I 15 1) (by omega)
  · exact go (I 27 1) (by omega)
  · exact go (I 1 1) (by omega)
  · exact go (I 66 3) (by omega)
  · exact go (-1) (by omega)
theorem q_node (hg : GOk g) (h : Inv I) (x y : Int) : Q2 Γ g I 1 mX6_node [.inl x, .inl y] 1 mX8_node [.inl x, .inl y] := by
  have hT := h.1.2.1.1
  have htc : 1 ≤ I 3 2 ∧ I 3 2 ≤ 120 := hT.1.2.1
  have hr := h.1.2.2.2.2.1.1
  have e2 : I 82 2 = I 3 2 := hr.2.1
  have cN := c_isNode (Γ := Γ) (I := I) hg.c x
  have mN := m_isNode (Γ := Γ) (I := mset I 80 0 0) hg x
  rw [mset_a _ _ (by decide), e2] at mN
  by_cases hx : 0 ≤ x ∧ x < I 3 2
  · rw [decide_eq_true hx, bI_t rfl] at cN mN
    obtain ⟨⟨u2, u3, u4, u7, u8⟩, u0, -⟩ := hr.2.2.2 x.toNat (show ((x.toNat : Nat) : Int) < I 3 2 by omega)
    have hk := hT.2.2.2.2.2.2.2.1 rfl x.toNat (show ((x.toNat : Nat) : Int) < I 3 2 by omega)
    have f3 : I 85 x.toNat = I 6 x.toNat := u3
    have f4 : I 86 x.toNat = I 8 x.toNat := u4
    have f6 : I 88 x.toNat = max 0 (I 10 x.toNat) := (u0 hk).2.1
    have f7 : I 89 x.toNat = I 9 x.toNat := u7
    have go : ∀ r : Int, ((y = 0 → r = I 6 x.toNat) ∧ (y = 1 → r = I 8 x.toNat) ∧ (y = 2 → r = max 0 (I 10 x.toNat)) ∧ (y = 3 → r = I 9 x.toNat) ∧ ((y < 0 ∨ 3 < y) → r = -1)) → Q2 Γ g I 1 mX6_node [.inl x, .inl y] 1 mX8_node [.inl x, .inl y] := fun r ⟨h0, h1, h2, h3, h5⟩ => by
      have hb : (0 : Int) ≤ x ∧ x < 120 := by omega
      have hb2 : (0 : Int) ≤ x ∧ x < 240 := by omega
      refine Q2.same (r := r) hg (CT.of (R := (some (.inl r), (g, I))) oX6_node (Nat.le_of_ble_eq_true rfl) (Nat.le_refl _) (Nat.le_refl _) (v_X6_node_0 hg.c x y ⟨_, _, cN, fun _ => ⟨fun z => ⟨hb, some_i (h0 z), rfl⟩, fun z => ⟨hb, some_i (h1 z), rfl⟩, fun z => ⟨hb, some_i (h2 z), rfl⟩, fun z => ⟨hb, some_i (h3 z), rfl⟩, fun z => ⟨some_i (h5 z), rfl⟩⟩, fun z => absurd z (by decide)⟩)) (CT.of (R := (some (.inl r), (g, mset I 80 0 0))) oX8_node (Nat.le_of_ble_eq_true rfl) (Nat.le_refl _) (Nat.le_refl _) (v_X8_node_0 hg x y ?_)) (h.m80 (by decide))
      rintro _ rfl
      refine ⟨_, _, mN, fun _ => ⟨fun z => ⟨hb2, some_i ?_, rfl⟩, fun z => ⟨hb2, some_i ?_, rfl⟩, fun z => ⟨hb2, some_i ?_, rfl⟩, fun z => ⟨hb2, some_i ?_, rfl⟩, fun z => ⟨some_i (h5 z), rfl⟩⟩, fun z => absurd z (by decide)⟩
      · rw [mset_a _ _ (by decide), f3]; exact h0 z
      · rw [mset_a _ _ (by decide), f4]; exact h1 z
      · rw [mset_a _ _ (by decide), f6]; exact h2 z
      · rw [mset_a _ _ (by decide), f7]; exact h3 z
    rcases (show y = 0 ∨ y = 1 ∨ y = 2 ∨ y = 3 ∨ (y < 0 ∨ 3 < y) by omega) with z | z | z | z | z
    · exact go (I 6 x.toNat) (by omega)
    · exact go (I 8 x.toNat) (by omega)
    · exact go (max 0 (I 10 x.toNat)) (by omega)
    · exact go (I 9 x.toNat) (by omega)
    · exact go (-1) (by omega)
  · rw [decide_eq_false hx, bI_f rfl] at cN mN
    refine Q2.same (r := -1) hg (CT.of (R := (some (.inl (-1)), (g, I))) oX6_node (Nat.le_of_ble_eq_true rfl) (Nat.le_refl _) (Nat.le_refl _) (v_X6_node_0 hg.c x y ⟨_, _, cN, fun z => absurd rfl z, fun _ => ⟨rfl, rfl⟩⟩)) (CT.of (R := (some (.inl (-1)), (g, mset I 80 0 0))) oX8_node (Nat.le_of_ble_eq_true rfl) (Nat.le_refl _) (Nat.le_refl _) (v_X8_node_0 hg x y ?_)) (h.m80 (by decide))
    rintro _ rfl
    exact ⟨_, _, mN, fun z => absurd rfl z, fun _ => ⟨rfl, rfl⟩⟩
theorem q_alike (hg : GOk g) (h : Inv I) (x y : Int) : Q2 Γ g I 1 mX6_alike [.inl x, .inl y] 41 mX8_alike [.inl x, .inl y] := by
  have hT := h.1.2.1.1
  have hS := h.1.2.1.2.2.1
  have htc : 1 ≤ I 3 2 ∧ I 3 2 ≤ 120 := hT.1.2.1
  have hr := h.1.2.2.2.2.1.1
  have e2 : I 82 2 = I 3 2 := hr.2.1
  have cN := fun x => c_isNode (Γ := Γ) (I := I) hg.c x
  have mN := fun x => m_isNode (Γ := Γ) (I := mset I 80 0 0) hg x
  simp only [mset_a I (a := 80) (b := 82) _ (by decide), e2] at mN
  have cx := cN x
  have cy := cN y
  have mx := mN x
  have my := mN y
  by_cases hx : 0 ≤ x ∧ x < I 3 2
  · rw [decide_eq_true hx, bI_t rfl] at cx mx
    by_cases hy : 0 ≤ y ∧ y < I 3 2
    · rw [decide_eq_true hy, bI_t rfl] at cy my
      have hrm : TR (zT I) (tv 82 (mset I 80 0 0)) := hr.cgU (fun i k hi => mset_a _ _ (by omega))
      have hal := m_areAlike40 (Γ := Γ) (I := mset I 80 0 0) (p := x.toNat) (q := y.toNat) hg hT hrm hS (show ((x.toNat : Nat) : Int) < I 3 2 by omega) (show ((y.toNat : Nat) : Int) < I 3 2 by omega)
      rw [show ((x.toNat : Nat) : Int) = x by omega, show ((y.toNat : Nat) : Int) = y by omega] at hal
      have e14 : ∀ k : Nat, (zT I) 11 k = I 14 k := fun k => rfl
      rw [e14, e14] at hal
      refine Q2.same (r := pb (I 14 x.toNat = I 14 y.toNat)) hg (CT.of (R := (some (.inl (pb (I 14 x.toNat = I 14 y.toNat))), (g, I))) oX6_alike (Nat.le_of_ble_eq_true rfl) (Nat.le_refl _) (Nat.le_refl _) (v_X6_alike_0 hg.c x y ⟨_, _, cx, fun z => absurd z (by decide), fun _ => ⟨_, _, cy, fun z => absurd z (by decide), fun _ => ⟨by omega, by omega, fun z => ⟨pbs_f z, rfl⟩, fun z => ⟨pbs_t z, rfl⟩⟩⟩⟩)) (CT.of (R := (some (.inl (pb (I 14 x.toNat = I 14 y.toNat))), (g, mset I 80 0 0))) oX8_alike (Nat.le_of_ble_eq_true rfl) (Nat.le_refl _) (Nat.le_refl _) (v_X8_alike_0 hg x y ?_)) (h.m80 (by decide))
      rintro _ rfl
      exact ⟨_, _, mx, fun z => absurd z (by decide), fun _ => ⟨_, _, my, fun z => absurd z (by decide), fun _ => ⟨_, _, hal, fun z => ⟨by rw [z], rfl⟩, fun z => ⟨by rw [pb_t (pb_1.mp z)], rfl⟩⟩⟩⟩
    · rw [decide_eq_false hy, bI_f rfl] at cy my
      refine Q2.same (r := 0) hg (CT.of (R := (some (.inl 0), (g, I))) oX6_alike (Nat.le_of_ble_eq_true rfl) (Nat.le_refl _) (Nat.le_refl _) (v_X6_alike_0 hg.c x y ⟨_, _, cx, fun z => absurd z (by decide), fun _ => ⟨_, _, cy, fun _ => ⟨rfl, rfl⟩, fun z => absurd rfl z⟩⟩)) (CT.of (R := (some (.inl 0), (g, mset I 80 0 0))) oX8_alike (Nat.le_of_ble_eq_true rfl) (Nat.le_refl _) (Nat.le_refl _) (v_X8_alike_0 hg x y ?_)) (h.m80 (by decide))
      rintro _ rfl
      exact ⟨_, _, mx, fun z => absurd z (by decide), fun _ => ⟨_, _, my, fun _ => ⟨rfl, rfl⟩, fun z => absurd rfl z⟩⟩
  · rw [decide_eq_false hx, bI_f rfl] at cx mx
    refine Q2.same (r := 0) hg (CT.of (R := (some (.inl 0), (g, I))) oX6_alike (Nat.le_of_ble_eq_true rfl) (Nat.le_refl _) (Nat.le_refl _) (v_X6_alike_0 hg.c x y ⟨_, _, cx, fun _ => ⟨rfl, rfl⟩, fun z => absurd rfl z⟩)) (CT.of (R := (some (.inl 0), (g, mset I 80 0 0))) oX8_alike (Nat.le_of_ble_eq_true rfl) (Nat.le_refl _) (Nat.le_refl _) (v_X8_alike_0 hg x y ?_)) (h.m80 (by decide))
    rintro _ rfl
    exact ⟨_, _, mx, fun _ => ⟨rfl, rfl⟩, fun z => absurd rfl z⟩
/-! what the class's finder does to the invariant -/
theorem FrA.cor (h : FrA I J) : Core I J := fun a k z => by
  unfold core at z
  exact h a k (by omega) (by omega)
theorem Inv.find (h : Inv I) (hf : FrA I J) (hk : KnA I J) : Inv J := ⟨h.1.mv hf.cor, fun _ => hk.mv hf.cor (fun _ => ⟨rfl, rfl⟩) rfl⟩
theorem FrE.inv (h : Inv I) (hf : FrE I J) : Inv J := h.mv (fun a k z => by
  unfold core at z
  exact hf a k (by omega) (by omega)) (fun k => ⟨hf _ _ (by omega) (Or.inl (by decide)), hf _ _ (by omega) (Or.inl (by decide))⟩) (hf _ _ (by omega) (Or.inl (by decide))) (hf _ _ (by omega) (Or.inl (by decide)))
theorem c_all (hg : GOk g) (h : Inv I) : ∃ J : IF, CT Γ 4 mX1_findAll [.inr (some 52)] (g, I) (none, (g, J)) ∧ FrA I J ∧ KnA I J ∧ Inv J := by
  obtain ⟨J, j1, j2, j3⟩ := c_findAll (Γ := Γ) hg h.1.2.1 h.2
  exact ⟨J, j1, j2, j3, h.find j2 j3⟩
theorem q_matches (hg : GOk g) (h : Inv I) : Q2 Γ g I 6 mX6_matches [] 903 mX8_matches [] := by
  obtain ⟨J, j1, j2, j3, j4⟩ := c_all (Γ := Γ) hg h
  obtain ⟨q1, q2, q3, q4⟩ := j2.same.eqs
  have hM := Inv.mst (j4.m80 (v := 0) (k := 0) (by decide)).1
  have hCS := (j4.m80 (v := 0) (k := 0) (by decide)).1.2.1
  obtain ⟨J2, a1, a2, a3⟩ := m_all (Γ := Γ) (fr := (mset J 80 0 0) 52 7) hg hM hCS.2.2.2.2.1 hCS.2.2.2.2.2.2.1
  have er : ncI (mM (zT (mset J 80 0 0)) (zP (mset J 80 0 0)) ((mset J 80 0 0) 52 7) (zDf (mset J 80 0 0))) 1 (zT (mset J 80 0 0) 0 2).toNat = J 52 13 := by
    have e1 : zM (mset J 80 0 0) = zM I := by
      rw [← q4]
      exact (Core.m80 (I := J) (v := 0) (k := 0) (by decide)).same.eqs.2.2.2
    have e3 : (mset J 80 0 0) 3 2 = I 3 2 := (mset_a _ _ (by decide)).trans (j2 3 2 (by decide) (by decide))
    show ncI (zM (mset J 80 0 0)) 1 ((mset J 80 0 0) 3 2).toNat = _
    rw [e1, e3, j3.2.1]
  rw [er] at a1
  refine Q2.same (r := J 52 13) hg (CT.of (R := (some (.inl (J 52 13)), (g, J))) oX6_matches (Nat.le_of_ble_eq_true rfl) (Nat.le_refl _) (Nat.le_refl _) (v_X6_matches_0 hg.c ⟨_, _, CT.of (R := (some (.inl (J 52 13)), (g, J))) oX1_countMatched (Nat.le_of_ble_eq_true rfl) (Nat.le_refl _) (Nat.le_refl _) (v_X1_countMatched_0 hg.c ⟨_, j1, rfl, rfl⟩), rfl, rfl⟩)) (CT.of (R := (some (.inl (J 52 13)), (g, J2))) oX8_matches (Nat.le_of_ble_eq_true rfl) (Nat.le_refl _) (Nat.le_refl _) (v_X8_matches_0 hg ?_)) (FrE.inv (j4.m80 (by decide)) a2)
  rintro _ rfl
  exact ⟨_, _, a1, rfl, rfl⟩
theorem m_scan15 (hg : GOk g) {f : Nat → Int} (h01 : ∀ n : Nat, f n = 0 ∨ f n = 1) {c i : Int} (hc : 0 ≤ c ∧ c ≤ 120) (h82 : I 82 2 = c) (hf : ∀ n : Nat, (n : Int) < c → I 146 n = f n) : ∀ (m n : Nat), n + m = c.toNat → Ev Γ 903 mX8_match 15 [some (.inr (some 80)), some (.inl i), none, some (.inl (ncI f 1 n)), some (.inl n)] [] (g, I) (some (.inl (nthI f i n m)), (g, I)) := by
  intro m
  induction m with
  | zero =>
    intro n hn
    exact v_X8_match_15 hg i _ n ⟨fun _ => ⟨rfl, rfl⟩, fun z => absurd (by omega) z⟩
  | succ m ih =>
    intro n hn
    have hs : ncI f 1 (n + 1) = ncI f 1 n + (if f n = 1 then 1 else 0) := rfl
    have hnle := ncI_le f 1 n
    have hnn := ncI_nn f 1 n
    have r := ih (n + 1) (by omega)
    have hfn := hf n (by omega)
    unfold nthI
    refine v_X8_match_15 hg i _ n ⟨fun z => absurd z (by omega), fun _ => ⟨by omega, fun z => ?_, fun z => ?_⟩⟩
    · rw [Int.toNat_natCast, hfn] at z
      rw [if_pos ((h01 n).resolve_left z)] at hs
      rw [if_neg z]
      rw [hs] at r
      exact ⟨fun y => ⟨by unfold inR; omega, by unfold inR; omega, by rw [if_neg y]; exact r⟩, fun y => ⟨by rw [if_pos y], rfl⟩⟩
    · rw [Int.toNat_natCast, hfn] at z
      rw [z, if_neg (by decide)] at hs
      rw [if_pos z]
      rw [hs, show ncI f 1 n + 0 = ncI f 1 n by omega] at r
      exact ⟨by unfold inR; omega, r⟩
theorem m_scan28 (hg : GOk g) {f : Nat → Int} (h01 : ∀ n : Nat, f n = 0 ∨ f n = 1) {c i : Int} (hc : 0 ≤ c ∧ c ≤ 120) (h82 : I 82 2 = c) (hf : ∀ n : Nat, (n : Int) < c → I 147 n = f n) : ∀ (m n : Nat), n + m = c.toNat → Ev Γ 904 mX8_takes 28 [some (.inr (some 80)), none, some (.inl i), none, some (.inl (ncI f 1 n)), some (.inl n)] [] (g, I) (some (.inl (nthI f i n m)), (g, I)) := by
  intro m
  induction m with
  | zero =>
    intro n hn
    exact v_X8_takes_28 hg i _ n ⟨fun _ => ⟨rfl, rfl⟩, fun z => absurd (by omega) z⟩
  | succ m ih =>
    intro n hn
    have hs : ncI f 1 (n + 1) = ncI f 1 n + (if f n = 1 then 1 else 0) := rfl
    have hnle := ncI_le f 1 n
    have hnn := ncI_nn f 1 n
    have r := ih (n + 1) (by omega)
    have hfn := hf n (by omega)
    unfold nthI
    refine v_X8_takes_28 hg i _ n ⟨fun z => absurd z (by omega), fun _ => ⟨by omega, fun z => ?_, fun z => ?_⟩⟩
    · rw [Int.toNat_natCast, hfn] at z
      rw [if_pos ((h01 n).resolve_left z)] at hs
      rw [if_neg z]
      rw [hs] at r
      exact ⟨fun y => ⟨by unfold inR; omega, by unfold inR; omega, by rw [if_neg y]; exact r⟩, fun y => ⟨by rw [if_pos y], rfl⟩⟩
    · rw [Int.toNat_natCast, hfn] at z
      rw [z, if_neg (by decide)] at hs
      rw [if_pos z]
      rw [hs, show ncI f 1 n + 0 = ncI f 1 n by omega] at r
      exact ⟨by unfold inR; omega, r⟩
theorem q_match (hg : GOk g) (h : Inv I) (i : Int) : Q2 Γ g I 6 mX6_match [.inl i] 903 mX8_match [.inl i] := by
  obtain ⟨J, j1, j2, j3, j4⟩ := c_all (Γ := Γ) hg h
  obtain ⟨q1, q2, q3, q4⟩ := j2.same.eqs
  have htc : 1 ≤ I 3 2 ∧ I 3 2 ≤ 120 := h.1.2.1.1.1.2.1
  have hM := Inv.mst (j4.m80 (v := 0) (k := 0) (by decide)).1
  have hCS := (j4.m80 (v := 0) (k := 0) (by decide)).1.2.1
  obtain ⟨J2, a1, a2, a3⟩ := m_all (Γ := Γ) (fr := (mset J 80 0 0) 52 7) hg hM hCS.2.2.2.2.1 hCS.2.2.2.2.2.2.1
  have e1 : zM (mset J 80 0 0) = zM I := by
    rw [← q4]
    exact (Core.m80 (I := J) (v := 0) (k := 0) (by decide)).same.eqs.2.2.2
  have e3 : (mset J 80 0 0) 3 2 = I 3 2 := (mset_a _ _ (by decide)).trans (j2 3 2 (by decide) (by decide))
  have a3' : ∀ n : Nat, (n : Int) < I 3 2 → J2 146 n = zM I n := fun n hn => by
    rw [← e1]
    exact a3 n (by show (n : Int) < (mset J 80 0 0) 3 2; rw [e3]; exact hn)
  have j82 : J2 82 2 = I 3 2 := by
    rw [a2 82 2 (by decide) (by decide), mset_a _ _ (by decide), j2 82 2 (by decide) (by decide)]
    exact h.1.2.2.2.2.1.1.2.1
  have sc := m_scan15 (Γ := Γ) (i := i) hg (zM_01 (Z := I)) (c := I 3 2) (by omega) j82 a3' (I 3 2).toNat 0 (Nat.zero_add _)
  have hl := nthI_list (f := zM I) (A := J 59) (i := i) (m := (I 3 2).toNat) zM_01 (fun n hn z => j3.2.2 n (by omega) z)
  rw [← j3.2.1] at hl
  have hle := ncI_le (zM I) 1 (I 3 2).toNat
  have h13 := j3.2.1
  refine Q2.same (r := nthI (zM I) i 0 (I 3 2).toNat) hg (CT.of (R := (some (.inl (nthI (zM I) i 0 (I 3 2).toNat)), (g, J))) oX6_match (Nat.le_of_ble_eq_true rfl) (Nat.le_refl _) (Nat.le_refl _) (v_X6_match_0 hg.c i ⟨_, _, CT.of (R := (some (.inl (nthI (zM I) i 0 (I 3 2).toNat)), (g, J))) oX1_matchedAt (Nat.le_of_ble_eq_true rfl) (Nat.le_refl _) (Nat.le_refl _) (v_X1_matchedAt_0 hg.c i ⟨_, j1, fun z => ⟨some_i ?_, rfl⟩, fun z => ⟨fun y => ⟨some_i ?_, rfl⟩, fun y => ⟨by omega, some_i ?_, rfl⟩⟩⟩), rfl, rfl⟩)) (CT.of (R := (some (.inl (nthI (zM I) i 0 (I 3 2).toNat)), (g, J2))) oX8_match (Nat.le_of_ble_eq_true rfl) (Nat.le_refl _) (Nat.le_refl _) (v_X8_match_0 hg i ?_)) (FrE.inv (j4.m80 (by decide)) a2)
  · rw [hl, if_neg (by omega)]
  · rw [hl, if_neg (by omega)]
  · rw [hl, if_pos (by omega)]
  · rintro _ rfl
    exact ⟨_, _, a1, sc⟩
end QU
