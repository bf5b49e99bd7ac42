/-! ===== matching: the class's methods ===== -/
/-- the cells of the class's tree at t, and nothing else -/
def ct (t : Nat) (Z : IF) : IF := fun i k => if i ≤ 11 then Z (t + i) k else 0
abbrev zT (Z : IF) : IF := ct 3 Z
abbrev zP (Z : IF) : IF := ct 15 Z
theorem ct_v {t i k : Nat} {Z : IF} (h : i ≤ 11) : ct t Z i k = Z (t + i) k := if_pos h
theorem ct_eq {t : Nat} {Z I : IF} (h : ∀ i k : Nat, i ≤ 11 → I (t + i) k = Z (t + i) k) : ct t I = ct t Z := by
  funext i k
  unfold ct
  split
  · next z => exact h i k z
  · rfl
theorem ct_tag {t : Nat} {Z : IF} : TAg (tv t Z) (ct t Z) := ⟨rfl, rfl, fun _ _ => rfl, fun i p _ hi _ => ct_v (by omega), fun _ _ => rfl⟩
def zDf (Z : IF) (l o : Nat) : Prop := l < 26 ∧ o < 26 ∧ bAnd (bShr (Z 58 l) o) 1 = 1
/-- what the class's matching rests on -/
def CSt (Z : IF) : Prop := TOK 0 (zT Z) ∧ TOK 1 (zP Z) ∧ SmO (zT Z) 0 ∧ (∀ p : Nat, (p : Int) < Z 15 2 → Z 57 p = sgl (zP Z) p) ∧ FRO (zP Z) (Z 52 7) ∧ DPO (zP Z) (Z 52 8) ∧ ((∀ l : Nat, ¬ zDf Z l l) ∧ ∀ l o : Nat, zDf Z l o → zDf Z o l) ∧ Z 15 1 ≤ 80
def FrM (Z I : IF) : Prop := ∀ a k : Nat, (a < 53 ∨ 56 < a) → (a ≠ 52 ∨ (k ≠ 9 ∧ k ≠ 10)) → I a k = Z a k
def Fr4 (I J : IF) : Prop := ∀ a k : Nat, (a < 53 ∨ 56 < a) → J a k = I a k
/-- the class's rows are the way's -/
def Ag (Z : IF) (p : Nat) (s I : IF) : Prop := ∀ q : Nat, q < p → I 53 q = s 0 q ∧ I 54 q = s 1 q ∧ (Z 17 q = 0 → Z 22 q ≠ -1 → I 55 q = s 2 q ∧ I 56 q = s 3 q) ∧ (Z 17 q = 3 → s 2 q = s 0 q + I 52 10)
section CM
variable {Γ : GX} {g : AG} {Z I J X s s' : IF} {p : Nat} {root n : Int}
theorem Fr4.rf : Fr4 I I := fun _ _ _ => rfl
theorem Fr4.tr (h1 : Fr4 I J) (h2 : Fr4 J X) : Fr4 I X := fun a k z => (h2 a k z).trans (h1 a k z)
theorem Fr4.st {a k : Nat} {v : Int} (ha : 53 ≤ a ∧ a ≤ 56) : Fr4 I (mset I a k v) := fun b j z => mset_a _ _ (by omega)
theorem FrM.tr (h1 : FrM Z I) (h2 : Fr4 I J) : FrM Z J := fun a k z y => (h2 a k z).trans (h1 a k z y)
theorem FrM.v (h : FrM Z I) : (∀ i k : Nat, i ≤ 11 → I (3 + i) k = Z (3 + i) k) ∧ (∀ i k : Nat, i ≤ 11 → I (15 + i) k = Z (15 + i) k) ∧ (∀ k : Nat, I 57 k = Z 57 k ∧ I 58 k = Z 58 k) ∧ I 52 7 = Z 52 7 ∧ I 52 8 = Z 52 8 :=
  ⟨fun i k hi => h _ _ (by omega) (Or.inl (by omega)), fun i k hi => h _ _ (by omega) (Or.inl (by omega)), fun k => ⟨h _ _ (by omega) (Or.inl (by omega)), h _ _ (by omega) (Or.inl (by omega))⟩, h _ _ (by omega) (Or.inr (by decide)), h _ _ (by omega) (Or.inr (by decide))⟩
/-- the text and the pattern in a heap that differs by the way alone -/
theorem CSt.tok (h : CSt Z) (hF : FrM Z I) : TOK 0 (tv 3 I) ∧ TOK 1 (tv 15 I) := by
  obtain ⟨v1, v2, -⟩ := hF.v
  have e1 : zT I = zT Z := ct_eq v1
  have e2 : zP I = zP Z := ct_eq v2
  exact ⟨(show TOK 0 (ct 3 I) by rw [show ct 3 I = ct 3 Z from e1]; exact h.1).cg ct_tag.sy, (show TOK 1 (ct 15 I) by rw [show ct 15 I = ct 15 Z from e2]; exact h.2.1).cg ct_tag.sy⟩
theorem c_nextNode (hg : GOc g) {a : Nat} (ha : a < 120) (hk : I 17 a ≠ 3) (h1 : 0 < I 56 a) (h1' : I 56 a ≤ 240) (h2 : 0 ≤ I 55 a ∧ I 55 a < I 3 2) (hc : I 3 2 ≤ 120) (h3 : 0 ≤ I 11 (I 55 a).toNat ∧ I 11 (I 55 a).toNat ≤ 120) :
    CT Γ 0 mX1_nextNode [.inr (some 52), .inl a] (g, I) (some (.inl (I 55 a)), (g, mset (mset I 55 a (I 55 a + I 11 (I 55 a).toNat)) 56 a (I 56 a - 1))) := by
  refine CT.of oX1_nextNode (Nat.le_of_ble_eq_true rfl) (Nat.le_refl _) (Nat.le_refl _) (v_X1_nextNode_0 hg a ⟨fun _ => ⟨by omega, fun _ => ⟨by omega, ?_⟩, fun z => absurd (by rw [Int.toNat_natCast] at z; exact z) hk⟩, fun z => absurd (by omega) z⟩)
  rw [Int.toNat_natCast]
  rintro _ rfl
  refine ⟨by omega, fun z => absurd z (by omega), fun _ => ⟨fun z => absurd z (by omega), fun _ => ⟨fun _ => ⟨by omega, by unfold inR; omega, by omega, ?_⟩, fun z => absurd h2.2 z⟩⟩⟩
  rintro _ rfl
  rw [mset_a _ _ (by decide)]
  refine ⟨by omega, by unfold inR; omega, by omega, ?_⟩
  rintro _ rfl
  exact ⟨rfl, rfl⟩
theorem c_nextDeep (hg : GOc g) {a : Nat} (ha : a < 120) (hk : I 17 a = 3) (h1 : inR (I 53 a + I 52 10)) : CT Γ 0 mX1_nextNode [.inr (some 52), .inl a] (g, I) (some (.inl (I 53 a + I 52 10)), (g, I)) := by
  refine CT.of oX1_nextNode (Nat.le_of_ble_eq_true rfl) (Nat.le_refl _) (Nat.le_refl _) (v_X1_nextNode_0 hg a ⟨fun _ => ⟨by omega, fun z => absurd (by rw [Int.toNat_natCast]; exact hk) z, fun _ => ?_⟩, fun z => absurd (by omega) z⟩)
  rw [Int.toNat_natCast]
  exact ⟨by omega, h1, rfl, rfl⟩
/-- SEATPIECE -/
theorem c_seatPiece (hg : GOc g) (hZ : CSt Z) (hF : FrM Z I) (hA : Ag Z p s I) (hG : GI (zT Z) (zP Z) (zDf Z) p s) (hp : (p : Int) < Z 15 2) (hk : Z 17 p ≠ 2) (hr : 0 ≤ root ∧ root < Z 3 2) :
    ∃ J : IF, CT Γ 1 mX1_seatPiece [.inr (some 52), .inl p, .inl root] (g, I) (some (.inl 1), (g, J)) ∧ Fr4 I J ∧ J 53 p = (gSeat (zT Z) (zP Z) root p s).1 ∧
      (∀ q : Nat, q < p + 1 → J 53 q = gPut p (gSeat (zT Z) (zP Z) root p s).1 (gSeat (zT Z) (zP Z) root p s).2 0 q ∧ J 54 q = gPut p (gSeat (zT Z) (zP Z) root p s).1 (gSeat (zT Z) (zP Z) root p s).2 1 q) ∧
      (∀ q : Nat, q < p → Z 17 q = 0 → Z 22 q ≠ -1 → J 55 q = gPut p (gSeat (zT Z) (zP Z) root p s).1 (gSeat (zT Z) (zP Z) root p s).2 2 q ∧ J 56 q = gPut p (gSeat (zT Z) (zP Z) root p s).1 (gSeat (zT Z) (zP Z) root p s).2 3 q) ∧
      (∀ q : Nat, q < p → Z 17 q = 3 → gPut p (gSeat (zT Z) (zP Z) root p s).1 (gSeat (zT Z) (zP Z) root p s).2 2 q = gPut p (gSeat (zT Z) (zP Z) root p s).1 (gSeat (zT Z) (zP Z) root p s).2 0 q + J 52 10) := by
  obtain ⟨hT, hP, -, -, -, -, -, -⟩ := hZ
  obtain ⟨v1, v2, v3, -, -⟩ := hF.v
  have hpc : Z 15 2 ≤ 120 := hP.1.2.1.2
  have htc : Z 3 2 ≤ 120 := hT.1.2.1.2
  obtain ⟨n1, st⟩ := hG.seat hT hP hp hk hr
  obtain ⟨e0, e1, e2, e3⟩ := seat_eff (T := zT Z) (root := root) (s := s) (n := (gSeat (zT Z) (zP Z) root p s).1) hP hp
  have i3 : I 3 2 = Z 3 2 := v1 0 2 (by decide)
  -- the end of both ways
  have fin : ∀ (n : Int) (I1 : IF), Fr4 I I1 → n = (gSeat (zT Z) (zP Z) root p s).1 → (∀ q : Nat, q < p → I1 53 q = s 0 q ∧ I1 54 q = s 1 q) → (∀ q : Nat, q < p → Z 17 q = 0 → Z 22 q ≠ -1 → I1 55 q = gPut p (gSeat (zT Z) (zP Z) root p s).1 (gSeat (zT Z) (zP Z) root p s).2 2 q ∧ I1 56 q = gPut p (gSeat (zT Z) (zP Z) root p s).1 (gSeat (zT Z) (zP Z) root p s).2 3 q) →
      Fr4 I (mset (mset I1 53 p n) 54 p 1) ∧ (mset (mset I1 53 p n) 54 p 1) 53 p = (gSeat (zT Z) (zP Z) root p s).1 ∧
      (∀ q : Nat, q < p + 1 → (mset (mset I1 53 p n) 54 p 1) 53 q = gPut p (gSeat (zT Z) (zP Z) root p s).1 (gSeat (zT Z) (zP Z) root p s).2 0 q ∧ (mset (mset I1 53 p n) 54 p 1) 54 q = gPut p (gSeat (zT Z) (zP Z) root p s).1 (gSeat (zT Z) (zP Z) root p s).2 1 q) ∧
      (∀ q : Nat, q < p → Z 17 q = 0 → Z 22 q ≠ -1 → (mset (mset I1 53 p n) 54 p 1) 55 q = gPut p (gSeat (zT Z) (zP Z) root p s).1 (gSeat (zT Z) (zP Z) root p s).2 2 q ∧ (mset (mset I1 53 p n) 54 p 1) 56 q = gPut p (gSeat (zT Z) (zP Z) root p s).1 (gSeat (zT Z) (zP Z) root p s).2 3 q) ∧
      (∀ q : Nat, q < p → Z 17 q = 3 → gPut p (gSeat (zT Z) (zP Z) root p s).1 (gSeat (zT Z) (zP Z) root p s).2 2 q = gPut p (gSeat (zT Z) (zP Z) root p s).1 (gSeat (zT Z) (zP Z) root p s).2 0 q + (mset (mset I1 53 p n) 54 p 1) 52 10) := by
    intro n I1 hf hn h1 h2
    refine ⟨hf.tr ((Fr4.st (by decide)).tr (Fr4.st (by decide))), by rw [mset_a _ _ (by decide), mset_s, hn], fun q hq => ?_, fun q hq z1 z2 => ?_, fun q hq z => ?_⟩
    · by_cases e : q = p
      · rw [e, mset_a _ _ (by decide), mset_s, mset_s, e1.1, e1.2]
        exact ⟨hn, rfl⟩
      · rw [mset_a _ _ (by decide), mset_k _ _ e, mset_k _ _ e, mset_a _ _ (by decide), (e0 q e).1, (e0 q e).2]
        exact h1 q (by omega)
    · rw [mset_a _ _ (by decide), mset_a _ _ (by decide), mset_a _ _ (by decide), mset_a _ _ (by decide)]
      exact h2 q hq z1 z2
    · have hpar := hP.2.1.2.1 p hp
      rw [(e2 q (by
        by_cases ea : (q : Int) = zP Z 6 p
        · exact Or.inr (Or.inr (by rw [← ea, Int.toNat_natCast]; exact z))
        · exact Or.inr (Or.inl ea))).1, (e0 q (by omega)).1, mset_a _ _ (by decide), mset_a _ _ (by decide), hf 52 10 (by decide)]
      exact (hA q hq).2.2.2 z
  by_cases h0 : p = 0
  · have hs1 : (gSeat (zT Z) (zP Z) root p s).1 = root := by unfold gSeat; rw [if_pos h0]
    have F := fin root I Fr4.rf hs1.symm (fun q hq => by omega) (fun q hq => by omega)
    refine ⟨_, CT.of (R := (some (.inl 1), (g, mset (mset I 53 p root) 54 p 1))) oX1_seatPiece (Nat.le_of_ble_eq_true rfl) (Nat.le_refl _) (Nat.le_refl _) (v_X1_seatPiece_0 hg p root ⟨fun z => absurd (by omega) z, fun _ => ⟨by omega, ?_⟩⟩), F⟩
    rw [Int.toNat_natCast]
    rintro _ rfl
    refine ⟨by omega, ?_⟩
    rintro _ rfl
    refine ⟨fun z => absurd z (by omega), fun _ => ⟨fun z => ?_, fun _ => ⟨rfl, rfl⟩⟩⟩
    rw [mset_a _ _ (by decide), mset_a _ _ (by decide)] at z
    omega
  · obtain ⟨a1, a2, a3⟩ := hP.par hp h0
    obtain ⟨a, ea⟩ : ∃ a : Nat, (zP Z) 6 p = a := ⟨((zP Z) 6 p).toNat, by omega⟩
    have i21 : I 21 p = a := (v2 6 p (by decide)).trans ea
    have i17 : I 17 a = Z 17 a := v2 2 a (by decide)
    simp only [ea, Int.toNat_natCast] at a1 a2 a3
    have hAa := hA a (by omega)
    by_cases hd : (zP Z) 2 ((zP Z) 6 p).toNat = 3
    · have hd' : Z 17 a = 3 := by rw [ea, Int.toNat_natCast] at hd; exact hd
      have hs1 : (gSeat (zT Z) (zP Z) root p s).1 = s 2 a := by
        unfold gSeat
        rw [if_neg h0, if_pos hd, ea, Int.toNat_natCast]
      have hs2 : I 53 a + I 52 10 = (gSeat (zT Z) (zP Z) root p s).1 := by rw [hs1, hAa.2.2.2 hd', hAa.1]
      have n1a : 0 ≤ (gSeat (zT Z) (zP Z) root p s).1 ∧ (gSeat (zT Z) (zP Z) root p s).1 < Z 3 2 := n1
      have F := fin (I 53 a + I 52 10) I Fr4.rf hs2 (fun q hq => ⟨(hA q hq).1, (hA q hq).2.1⟩) (fun q hq z1 z2 => by
        rw [(e2 q (Or.inr (Or.inr hd))).1, (e2 q (Or.inr (Or.inr hd))).2]
        exact (hA q hq).2.2.1 z1 z2)
      refine ⟨_, CT.of (R := (some (.inl 1), (g, mset (mset I 53 p (I 53 a + I 52 10)) 54 p 1))) oX1_seatPiece (Nat.le_of_ble_eq_true rfl) (Nat.le_refl _) (Nat.le_refl _) (v_X1_seatPiece_0 hg p root ⟨fun _ => ⟨by omega, I 53 a + I 52 10, I, ?_, by omega, ?_⟩, fun z => absurd z (by omega)⟩), F⟩
      · rw [Int.toNat_natCast, i21]
        exact c_nextDeep hg (by omega) (by rw [i17]; exact hd') (by rw [hs2]; unfold inR; omega)
      · rw [Int.toNat_natCast]
        rintro _ rfl
        refine ⟨by omega, ?_⟩
        rintro _ rfl
        refine ⟨fun z => absurd z (by omega), fun _ => ⟨fun z => ?_, fun _ => ⟨rfl, rfl⟩⟩⟩
        rw [mset_a _ _ (by decide), mset_a _ _ (by decide)] at z
        omega
    · obtain ⟨t1, t2, t3, t4, t5, t6, t7⟩ := st h0 hd
      have e3 := e3 h0 hd
      rw [ea, Int.toNat_natCast] at t1 t2 t3 t4 t5 t6 t7 hd e3
      have hAt := hAa.2.2.1 t6 t7
      have t3' : s 2 a < Z 3 2 := t3
      have hs1 : (gSeat (zT Z) (zP Z) root p s).1 = s 2 a := by
        unfold gSeat
        rw [if_neg h0, ea, Int.toNat_natCast, if_neg hd]
      have h8 : 1 ≤ Z 11 (s 2 a).toNat ∧ ((s 2 a).toNat : Int) + Z 11 (s 2 a).toNat ≤ Z 3 2 := hT.2.1.2.2.1 (s 2 a).toNat (show (((s 2 a).toNat : Nat) : Int) < Z 3 2 by omega)
      have i11 : I 11 (s 2 a).toNat = Z 11 (s 2 a).toNat := v1 8 _ (by decide)
      have hga := hG.1 a (by omega) (by rw [t6]; decide)
      have hga' : s 0 a < Z 3 2 := hga.2.1
      have ht7n := hT.t7n (n := (s 0 a).toNat) (show (((s 0 a).toNat : Nat) : Int) < Z 3 2 by omega)
      have ht7n' : (zT Z) 7 (s 0 a).toNat < Z 3 2 - ((s 0 a).toNat : Int) := ht7n
      have hcall := c_nextNode (Γ := Γ) (I := I) hg (a := a) (by omega) (by rw [i17]; exact hd) (by rw [hAt.2]; exact t1) (by rw [hAt.2]; omega) (by rw [hAt.1, i3]; exact ⟨t2, t3'⟩) (by rw [i3]; exact htc) (by rw [hAt.1, i11]; omega)
      rw [hAt.1, hAt.2, i11] at hcall
      have F := fin (s 2 a) (mset (mset I 55 a (s 2 a + Z 11 (s 2 a).toNat)) 56 a (s 3 a - 1)) ((Fr4.st (by decide)).tr (Fr4.st (by decide))) hs1.symm (fun q hq => by
          rw [mset_a _ _ (by decide), mset_a _ _ (by decide), mset_a _ _ (by decide), mset_a _ _ (by decide)]
          exact ⟨(hA q hq).1, (hA q hq).2.1⟩) (fun q hq z1 z2 => by
          by_cases e : q = a
          · rw [e, mset_a _ _ (by decide), mset_s, mset_s]
            exact ⟨e3.1.symm, e3.2.symm⟩
          · obtain ⟨x1, x2⟩ := e2 q (Or.inr (Or.inl (by rw [ea]; omega)))
            rw [mset_a _ _ (by decide), mset_k _ _ e, mset_k _ _ e, mset_a _ _ (by decide), x1, x2]
            exact (hA q hq).2.2.1 z1 z2)
      refine ⟨_, CT.of (R := (some (.inl 1), (g, mset (mset (mset (mset I 55 a (s 2 a + Z 11 (s 2 a).toNat)) 56 a (s 3 a - 1)) 53 p (s 2 a)) 54 p 1))) oX1_seatPiece (Nat.le_of_ble_eq_true rfl) (Nat.le_refl _) (Nat.le_refl _) (v_X1_seatPiece_0 hg p root ⟨fun _ => ⟨by omega, _, _, by rw [Int.toNat_natCast, i21]; exact hcall, by omega, ?_⟩, fun z => absurd z (by omega)⟩), F⟩
      rw [Int.toNat_natCast]
      rintro _ rfl
      refine ⟨by omega, ?_⟩
      rintro _ rfl
      refine ⟨fun z => absurd z (by omega), fun _ => ⟨fun z => ?_, fun _ => ⟨rfl, rfl⟩⟩⟩
      rw [mset_a _ _ (by decide), mset_a _ _ (by decide), mset_a _ _ (by decide), mset_a _ _ (by decide), i3] at z
      omega
/-- TERMFITS -/
theorem c_termFits (hg : GOc g) (hZ : CSt Z) (hF : FrM Z I) (hp : (p : Int) < Z 15 2) {n : Nat} (hn : (n : Int) < Z 3 2) (hk : Z 17 p = 0) :
    ∃ J : IF, CT Γ 1 mX1_termFits [.inr (some 52), .inl p, .inl n] (g, I) (some (.inl (pb (TeF (zT Z) (zP Z) p n))), (g, J)) ∧ Fr4 I J ∧ (∀ k : Nat, J 53 k = I 53 k ∧ J 54 k = I 54 k) ∧ (∀ k : Nat, k ≠ p → J 55 k = I 55 k ∧ J 56 k = I 56 k) ∧
      (TeF (zT Z) (zP Z) p n → Z 22 p ≠ -1 → J 55 p = n + 1 ∧ J 56 p = Z 10 n) := by
  obtain ⟨tI, pI⟩ := hZ.tok hF
  obtain ⟨hT, hP, -, hsg, -, -, -, -⟩ := hZ
  obtain ⟨v1, v2, v3, -, -⟩ := hF.v
  have hpc : Z 15 2 ≤ 120 := hP.1.2.1.2
  have htc : Z 3 2 ≤ 120 := hT.1.2.1.2
  have i3 : I 3 2 = Z 3 2 := v1 0 2 (by decide)
  have i15 : I 15 2 = Z 15 2 := v2 0 2 (by decide)
  have i10 : I 10 n = Z 10 n := v1 7 n (by decide)
  have i22 : I 22 p = Z 22 p := v2 7 p (by decide)
  have i57 : I 57 p = sgl (zP Z) p := (v3 p).1.trans (hsg p hp)
  have hat : AtE (tv 3 I) n (tv 15 I) p ↔ AtE (zT Z) n (zP Z) p := by
    have e1 : tv 3 I 4 n = zT Z 4 n := v1 4 n (by decide)
    have e2 : tv 3 I 3 n = zT Z 3 n := v1 3 n (by decide)
    have e3 : tv 15 I 4 p = zP Z 4 p := v2 4 p (by decide)
    have e4 : tv 15 I 3 p = zP Z 3 p := v2 3 p (by decide)
    have e5 : ∀ k : Nat, tv 3 I 1 k = zT Z 1 k := fun k => v1 1 k (by decide)
    have e6 : ∀ k : Nat, tv 15 I 1 k = zP Z 1 k := fun k => v2 1 k (by decide)
    unfold AtE
    simp only [e1, e2, e3, e4, e5, e6]
  have hcall := c_sameAtom (Γ := Γ) (I := I) (p := n) (q := p) hg (Or.inl rfl) (Or.inr (Or.inl rfl)) tI pI (by rw [i3]; exact hn) (by rw [i15]; exact hp)
  rw [pb_c hat] at hcall
  have t7 : (Z 10 n = -1 ∧ _) ∨ (0 ≤ Z 10 n ∧ _) := hT.t7 (p := n) hn
  have t7n : Z 10 n < Z 3 2 - n := hT.t7n hn
  by_cases hA : AtE (zT Z) n (zP Z) p
  · by_cases c1 : Z 10 n = -1 ∨ Z 22 p = -1
    · have hte : TeF (zT Z) (zP Z) p n ↔ Z 10 n = Z 22 p := by
        unfold TeF
        rw [Int.toNat_natCast]
        refine ⟨fun z => ?_, fun z => ⟨hA, Or.inl ⟨?_, ?_⟩⟩⟩
        · rcases z.2 with y | y
          · exact y.1.trans y.2.symm
          · exfalso
            rcases c1 with c1 | c1
            · exact y.1 c1
            · exact y.2.1 c1
        · show Z 10 n = -1
          omega
        · show Z 22 p = -1
          omega
      refine ⟨I, CT.of oX1_termFits (Nat.le_of_ble_eq_true rfl) (Nat.le_refl _) (Nat.le_refl _) (v_X1_termFits_0 hg p n ⟨by omega, ?_⟩), Fr4.rf, fun _ => ⟨rfl, rfl⟩, fun _ _ => ⟨rfl, rfl⟩, fun z y => ?_⟩
      · rw [Int.toNat_natCast, Int.toNat_natCast, i10, i22]
        rintro _ rfl
        refine ⟨by omega, ?_⟩
        rintro _ rfl
        refine ⟨_, _, hcall, fun _ => ⟨fun z => ⟨fun y => ⟨pbs_f (fun x => y (hte.mp x)), rfl⟩, fun y => ⟨pbs_t (hte.mpr y), rfl⟩⟩, fun z => ⟨fun y => ?_, fun y => ⟨fun x => ⟨pbs_f (fun w => x (hte.mp w)), rfl⟩, fun x => ⟨pbs_t (hte.mpr x), rfl⟩⟩⟩⟩, fun z => absurd hA (pb_0.mp z)⟩
        rcases c1 with c1 | c1
        · exact absurd c1 z
        · exact absurd c1 y
      · exfalso
        have := hte.mp z
        omega
    · have c1a : Z 10 n ≠ -1 := fun z => c1 (Or.inl z)
      have c1b : Z 22 p ≠ -1 := fun z => c1 (Or.inr z)
      have hte : TeF (zT Z) (zP Z) p n ↔ ((sgl (zP Z) p < Z 22 p ∧ sgl (zP Z) p ≤ Z 10 n) ∨ (Z 22 p ≤ sgl (zP Z) p ∧ Z 10 n = Z 22 p)) := by
        unfold TeF
        rw [Int.toNat_natCast]
        exact ⟨fun z => (z.2.resolve_left (fun y => c1a y.1)).2.2, fun z => ⟨hA, Or.inr ⟨c1a, c1b, z⟩⟩⟩
      have m57 : (mset (mset I 55 p ((n : Int) + 1)) 56 p (Z 10 n)) 57 p = sgl (zP Z) p := by
        rw [mset_a _ _ (by decide), mset_a _ _ (by decide)]
        exact i57
      refine ⟨mset (mset I 55 p ((n : Int) + 1)) 56 p (Z 10 n), CT.of (R := (some (.inl (pb (TeF (zT Z) (zP Z) p n))), (g, mset (mset I 55 p ((n : Int) + 1)) 56 p (Z 10 n)))) oX1_termFits (Nat.le_of_ble_eq_true rfl) (Nat.le_refl _) (Nat.le_refl _) (v_X1_termFits_0 hg p n ⟨by omega, ?_⟩), (Fr4.st (by decide)).tr (Fr4.st (by decide)), fun k => ⟨?_, ?_⟩, fun k hk2 => ⟨?_, ?_⟩, fun _ _ => ⟨?_, ?_⟩⟩
      · rw [Int.toNat_natCast, Int.toNat_natCast, i10, i22]
        rintro _ rfl
        refine ⟨by omega, ?_⟩
        rintro _ rfl
        refine ⟨_, _, hcall, fun _ => ⟨fun z => absurd z c1a, fun z => ⟨fun y => ⟨by unfold inR; omega, by omega, ?_⟩, fun y => absurd y c1b⟩⟩, fun z => absurd hA (pb_0.mp z)⟩
        rintro _ rfl
        refine ⟨by omega, ?_⟩
        rintro _ rfl
        rw [m57]
        refine ⟨by omega, fun x => ⟨fun w => ⟨pbs_f (fun v => ?_), rfl⟩, fun w => ⟨pbs_t (hte.mpr (Or.inr ⟨x, w⟩)), rfl⟩⟩, fun x => ⟨by omega, fun w => ⟨pbs_f (fun v => ?_), rfl⟩, fun w => ⟨pbs_t (hte.mpr (Or.inl ⟨by omega, by omega⟩)), rfl⟩⟩⟩
        · rcases hte.mp v with u | u
          · omega
          · exact w u.2
        · rcases hte.mp v with u | u
          · omega
          · omega
      · rw [mset_a _ _ (by decide), mset_a _ _ (by decide)]
      · rw [mset_a _ _ (by decide), mset_a _ _ (by decide)]
      · rw [mset_a _ _ (by decide), mset_k _ _ hk2]
      · rw [mset_k _ _ hk2, mset_a _ _ (by decide)]
      · rw [mset_a _ _ (by decide), mset_s]
      · rw [mset_s]
  · refine ⟨I, CT.of oX1_termFits (Nat.le_of_ble_eq_true rfl) (Nat.le_refl _) (Nat.le_refl _) (v_X1_termFits_0 hg p n ⟨by omega, ?_⟩), Fr4.rf, fun _ => ⟨rfl, rfl⟩, fun _ _ => ⟨rfl, rfl⟩, fun z => absurd (by have := z.1; rwa [Int.toNat_natCast] at this) hA⟩
    rintro _ rfl
    refine ⟨by omega, ?_⟩
    rintro _ rfl
    exact ⟨_, _, hcall, fun z => absurd (pb_1.mp z) hA, fun z => ⟨pbs_f (fun y => hA (by have := y.1; rwa [Int.toNat_natCast] at this)), rfl⟩⟩
end CM
