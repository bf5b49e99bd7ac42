/-! ===== matching: the class's holes and rows ===== -/
section CR
variable {Γ : GX} {g : AG} {Z I J X s s' : IF} {p : Nat} {root : Int}
theorem c_mustDiffer (hg : GOc g) {l o : Nat} (hl : l < 26) (ho : o < 26) (h : I 58 l = Z 58 l) : CT Γ 0 mX1_mustDiffer [.inr (some 52), .inl l, .inl o] (g, I) (some (.inl (pb (zDf Z l o))), (g, I)) := by
  refine CT.of oX1_mustDiffer (Nat.le_of_ble_eq_true rfl) (Nat.le_refl _) (Nat.le_refl _) (v_X1_mustDiffer_0 hg l o ⟨by omega, fun z => ⟨pbs_f (fun y => z ?_), rfl⟩, fun z => ⟨pbs_t ⟨hl, ho, ?_⟩, rfl⟩⟩)
  · rw [Int.toNat_natCast, h]; exact y.2.2
  · rw [Int.toNat_natCast, h] at z; exact z
/-- HOLEFITS -/
theorem c_holeFits (hg : GOc g) (hZ : CSt Z) (hF : FrM Z I) (hp : (p : Int) < Z 15 2) {n : Nat} (hn : (n : Int) < Z 3 2) (hk : Z 17 p = 1) (hA : ∀ q : Nat, q < p → I 53 q = s 0 q) (hR : ∀ q : Nat, q < p → Z 17 q ≠ 2 → 0 ≤ s 0 q ∧ s 0 q < Z 3 2) :
    CT Γ 1 mX1_holeFits [.inr (some 52), .inl p, .inl n] (g, I) (some (.inl (pb (HoF (zT Z) (zP Z) (zDf Z) p n s))), (g, I)) := by
  obtain ⟨hT, hP, -, hsg, -, -, -, -⟩ := hZ
  obtain ⟨v1, v2, v3, -, -⟩ := hF.v
  have hpc : Z 15 2 ≤ 120 := hP.1.2.1.2
  have htc : Z 3 2 ≤ 120 := hT.1.2.1.2
  obtain ⟨q1, q2, q3, q4, q5⟩ := hP.l10 hp (Or.inl hk)
  obtain ⟨l, el⟩ : ∃ l : Nat, (zP Z) 9 p = l := ⟨((zP Z) 9 p).toNat, by omega⟩
  simp only [el, Int.toNat_natCast] at q2 q3 q4 q5
  have hl : l < 26 := by omega
  have i24 : I 24 p = l := (v2 9 p (by decide)).trans el
  have i25 : ∀ o : Nat, I 25 o = (zP Z) 10 o := fun o => v2 10 o (by decide)
  have i14 : ∀ k : Nat, I 14 k = (zT Z) 11 k := fun k => v1 11 k (by decide)
  have i17 : ∀ k : Nat, I 17 k = (zP Z) 2 k := fun k => v2 2 k (by decide)
  have i58 : I 58 l = Z 58 l := (v3 l).2
  have ho : HoF (zT Z) (zP Z) (zDf Z) p n s ↔ (((zP Z) 10 l ≠ p → (zT Z) 11 (s 0 ((zP Z) 10 l).toNat).toNat = (zT Z) 11 n) ∧ ((zP Z) 10 l = p → ∀ o : Nat, o < 26 → zDf Z l o → (zP Z) 10 o ≠ -1 → (zP Z) 10 o < p → (zP Z) 2 ((zP Z) 10 o).toNat = 1 → (zT Z) 11 (s 0 ((zP Z) 10 o).toNat).toNat ≠ (zT Z) 11 n)) := by
    unfold HoF
    rw [el, Int.toNat_natCast, Int.toNat_natCast]
  refine CT.of oX1_holeFits (Nat.le_of_ble_eq_true rfl) (Nat.le_refl _) (Nat.le_refl _) (v_X1_holeFits_0 hg p n ⟨by omega, ?_⟩)
  rw [Int.toNat_natCast, i24]
  rintro _ rfl
  refine ⟨by omega, ?_⟩
  rw [Int.toNat_natCast, i25]
  rintro _ rfl
  refine ⟨fun z => ⟨by omega, fun y => ?_, fun y => ⟨pbs_t (ho.mpr ⟨fun x => absurd z x, fun _ o ho1 hd => ?_⟩), rfl⟩⟩, fun z => ⟨by omega, ?_⟩⟩
  · -- the loop
    have lp : ∀ (m o : Nat), o + m = 26 → (∀ o' : Nat, o' < o → zDf Z l o' → (zP Z) 10 o' ≠ -1 → (zP Z) 10 o' < p → (zP Z) 2 ((zP Z) 10 o').toNat = 1 → (zT Z) 11 (s 0 ((zP Z) 10 o').toNat).toNat ≠ (zT Z) 11 n) →
        Ev Γ 1 mX1_holeFits 74 [some (.inr (some 52)), some (.inl p), some (.inl n), some (.inl l), none, some (.inl o), none] [] (g, I) (some (.inl (pb (HoF (zT Z) (zP Z) (zDf Z) p n s))), (g, I)) := by
      intro m
      induction m with
      | zero =>
        intro o h1 h2
        refine v_X1_holeFits_74 hg p n l o ⟨fun _ => ⟨pbs_t (ho.mpr ⟨fun x => absurd z x, fun _ o' z1 => h2 o' (by omega)⟩), rfl⟩, fun x => absurd (by omega) x⟩
      | succ m ih =>
        intro o h1 h2
        have nx1 : (zDf Z l o → (zP Z) 10 o ≠ -1 → (zP Z) 10 o < p → (zP Z) 2 ((zP Z) 10 o).toNat = 1 → (zT Z) 11 (s 0 ((zP Z) 10 o).toNat).toNat ≠ (zT Z) 11 n) → Ev Γ 1 mX1_holeFits 74 [some (.inr (some 52)), some (.inl p), some (.inl n), some (.inl l), none, some (.inl ((o : Int) + 1)), none] [] (g, I) (some (.inl (pb (HoF (zT Z) (zP Z) (zDf Z) p n s))), (g, I)) := fun h3 => ih (o + 1) (by omega) (fun o' ho' => by
          by_cases e : o' = o
          · rw [e]; exact h3
          · exact h2 o' (by omega))
        refine v_X1_holeFits_74 hg p n l o ⟨fun x => absurd x (by omega), fun _ => ⟨by omega, ?_⟩⟩
        rw [Int.toNat_natCast, i25]
        rintro _ rfl
        have ho10 := hP.2.2.2.2.2.1.2.1 o (by omega)
        refine ⟨_, _, c_mustDiffer (Z := Z) hg hl (show o < 26 by omega) i58, fun x => ⟨by unfold inR; omega, nx1 (fun w => absurd w (pb_0.mp x))⟩, fun x => ?_⟩
        have x' := pb_1.mp x
        refine ⟨fun w => ⟨by unfold inR; omega, nx1 (fun _ v => absurd w v)⟩, fun w => ⟨fun v => ⟨by unfold inR; omega, nx1 (fun _ _ u => by omega)⟩, fun v => ?_⟩⟩
        rw [i17]
        refine ⟨by omega, fun u => ⟨by unfold inR; omega, nx1 (fun _ _ _ t => absurd t u)⟩, fun u => ?_⟩
        have hA1 := hA ((zP Z) 10 o).toNat (by omega)
        have hR1 := hR ((zP Z) 10 o).toNat (by omega) (show (zP Z) 2 ((zP Z) 10 o).toNat ≠ 2 by omega)
        rw [hA1, i14, i14, Int.toNat_natCast]
        refine ⟨by omega, by omega, by omega, fun t => ⟨by unfold inR; omega, nx1 (fun _ _ _ _ => t)⟩, fun t => ⟨pbs_f (fun r => (ho.mp r).2 z o (by omega) x' w (by omega) u t), rfl⟩⟩
    exact lp 26 0 rfl (fun o' z1 => by omega)
  · exfalso
    have hd2 := hd.2.2
    rw [← i58, y] at hd2
    have hdec : ∀ o : Nat, o < 26 → bAnd (bShr 0 (o : Int)) 1 ≠ 1 := by decide +kernel
    exact hdec o ho1 hd2
  · have hA1 := hA ((zP Z) 10 l).toNat (by omega)
    have hR1 := hR ((zP Z) 10 l).toNat (by omega) (show (zP Z) 2 ((zP Z) 10 l).toNat ≠ 2 by rw [q4]; show Z 17 p ≠ 2; rw [hk]; decide)
    rw [hA1, i14, i14, Int.toNat_natCast]
    exact ⟨by omega, by omega, fun y => ⟨pbs_f (fun x => y ((ho.mp x).1 z)), rfl⟩, fun y => ⟨pbs_t (ho.mpr ⟨fun _ => y, fun x => absurd x z⟩), rfl⟩⟩
/-- ROWSALIKE -/
theorem c_rowsAlike (hg : GOc g) (hZ : CSt Z) (hF : FrM Z I) {f : Nat} (hp : (p : Int) < Z 15 2) (hf : (f : Int) < Z 15 2) (h0 : I 53 f = s 0 f ∧ I 54 f = s 1 f ∧ I 53 p = s 0 p ∧ I 54 p = s 1 p) (hm : 0 ≤ s 1 f ∧ s 1 f ≤ 240)
    (r1 : ∀ k : Nat, (k : Int) < s 1 f → 0 ≤ adv ((zT Z) 8) k (s 0 f) ∧ adv ((zT Z) 8) k (s 0 f) < Z 3 2) (r2 : ∀ k : Nat, (k : Int) < s 1 p → 0 ≤ adv ((zT Z) 8) k (s 0 p) ∧ adv ((zT Z) 8) k (s 0 p) < Z 3 2) :
    CT Γ 0 mX1_rowsAlike [.inr (some 52), .inl f, .inl p] (g, I) (some (.inl (pb (RowA (zT Z) s f p))), (g, I)) := by
  obtain ⟨hT, hP, -, hsg, -, -, -, -⟩ := hZ
  obtain ⟨v1, v2, v3, -, -⟩ := hF.v
  have hpc : Z 15 2 ≤ 120 := hP.1.2.1.2
  have htc : Z 3 2 ≤ 120 := hT.1.2.1.2
  have i3 : I 3 2 = Z 3 2 := v1 0 2 (by decide)
  have i14 : ∀ k : Nat, I 14 k = (zT Z) 11 k := fun k => v1 11 k (by decide)
  have i11 : ∀ k : Nat, I 11 k = (zT Z) 8 k := fun k => v1 8 k (by decide)
  have h8 : ∀ x : Int, 0 ≤ x → x < Z 3 2 → 1 ≤ (zT Z) 8 x.toNat ∧ x + (zT Z) 8 x.toNat ≤ 120 := fun x a b => by
    have : 1 ≤ (zT Z) 8 x.toNat ∧ ((x.toNat : Nat) : Int) + (zT Z) 8 x.toNat ≤ Z 3 2 := hT.2.1.2.2.1 x.toNat (show ((x.toNat : Nat) : Int) < Z 3 2 by omega)
    omega
  refine CT.of oX1_rowsAlike (Nat.le_of_ble_eq_true rfl) (Nat.le_refl _) (Nat.le_refl _) (v_X1_rowsAlike_0 hg f p ⟨by omega, by omega, fun z => ⟨by omega, ?_⟩, fun z => ⟨pbs_f (fun y => z ?_), rfl⟩⟩)
  · rw [Int.toNat_natCast, Int.toNat_natCast, h0.1, h0.2.2.1]
    rw [Int.toNat_natCast, Int.toNat_natCast, h0.2.1, h0.2.2.2] at z
    rintro _ rfl
    refine ⟨by omega, ?_⟩
    rintro _ rfl
    have lp : ∀ (m k : Nat), (k : Int) + m = s 1 f → (∀ k' : Nat, k' < k → (zT Z) 11 (adv ((zT Z) 8) k' (s 0 f)).toNat = (zT Z) 11 (adv ((zT Z) 8) k' (s 0 p)).toNat) →
        Ev Γ 0 mX1_rowsAlike 35 [some (.inr (some 52)), some (.inl f), none, some (.inl (adv ((zT Z) 8) k (s 0 f))), some (.inl (adv ((zT Z) 8) k (s 0 p))), some (.inl k)] [] (g, I) (some (.inl (pb (RowA (zT Z) s f p))), (g, I)) := by
      intro m
      induction m with
      | zero =>
        intro k h1 h2
        refine v_X1_rowsAlike_35 hg f _ _ k ⟨by omega, fun _ => ⟨pbs_t ⟨z, fun k' hk' => h2 k' (by omega)⟩, rfl⟩, fun x => absurd (by rw [Int.toNat_natCast, h0.2.1]; omega) x⟩
      | succ m ih =>
        intro k h1 h2
        have a1 := r1 k (by omega)
        have a2 := r2 k (by omega)
        have b1 := h8 _ a1.1 a1.2
        have b2 := h8 _ a2.1 a2.2
        refine v_X1_rowsAlike_35 hg f _ _ k ⟨by omega, fun x => absurd x (by rw [Int.toNat_natCast, h0.2.1]; omega), fun _ => ⟨fun x => absurd x (by omega), fun _ => ⟨fun x => absurd x (by omega), fun _ => ⟨fun x => absurd x (by rw [i3]; omega), fun _ => ⟨fun _ => ?_, fun x => absurd (by rw [i3]; omega) x⟩⟩⟩⟩⟩
        rw [i14, i14, i11, i11]
        refine ⟨by omega, by omega, fun x => ⟨by omega, by unfold inR; omega, ?_⟩, fun x => ⟨pbs_f (fun y => x (y.2 k (by omega))), rfl⟩⟩
        rintro _ rfl
        refine ⟨by omega, by unfold inR; omega, ?_⟩
        rintro _ rfl
        rw [← adv_s, ← adv_s]
        refine ⟨by unfold inR; omega, ih (k + 1) (by omega) (fun k' hk' => ?_)⟩
        by_cases e : k' = k
        · rw [e]; exact x
        · exact h2 k' (by omega)
    exact lp (s 1 f).toNat 0 (by omega) (fun k' hk' => by omega)
  · rw [Int.toNat_natCast, Int.toNat_natCast, h0.2.1, h0.2.2.2]
    exact y.1
/-- ROWFITS -/
theorem c_rowFits (hg : GOc g) (hZ : CSt Z) (hF : FrM Z I) (hA : Ag Z p s I) (hG : GI (zT Z) (zP Z) (zDf Z) p s) (hp : (p : Int) < Z 15 2) (hk : Z 17 p = 2) (hx : 0 ≤ I 52 9 ∧ I 52 9 ≤ 1000) :
    ∃ (r : Int) (J : IF), CT Γ 1 mX1_rowFits [.inr (some 52), .inl p] (g, I) (some (.inl r), (g, J)) ∧ Fr4 I J ∧ (gRow (zT Z) (zP Z) (Z 52 7) p (I 52 9) s = none → r = 0) ∧ (∀ s' : IF, gRow (zT Z) (zP Z) (Z 52 7) p (I 52 9) s = some s' → r = 1 ∧ Ag Z (p + 1) s' J) := by
  have hZ' := hZ
  obtain ⟨hT, hP, -, hsg, hFR, -, -, -⟩ := hZ
  obtain ⟨v1, v2, v3, v4, v5⟩ := hF.v
  have hpc : Z 15 2 ≤ 120 := hP.1.2.1.2
  have htc : Z 3 2 ≤ 120 := hT.1.2.1.2
  obtain ⟨⟨a1, a2, a3, a4⟩, ⟨b1, b2⟩, ⟨c1, c2, c3⟩, d1, d2⟩ := hG.row hT hP hp hk
  obtain ⟨q1, q2, q3, q4, q5⟩ := hP.l10 hp (Or.inr hk)
  obtain ⟨a, ea⟩ : ∃ a : Nat, (zP Z) 6 p = a := ⟨((zP Z) 6 p).toNat, by omega⟩
  simp only [ea, Int.toNat_natCast] at a1 a2 a3 a4 b1 b2 c1 c2 c3 d2
  have b2' : s 0 a < Z 3 2 := b2
  have ht7n : (zT Z) 7 (s 0 a).toNat < Z 3 2 - ((s 0 a).toNat : Int) := hT.t7n (n := (s 0 a).toNat) (show (((s 0 a).toNat : Nat) : Int) < Z 3 2 by omega)
  have i3 : I 3 2 = Z 3 2 := v1 0 2 (by decide)
  have i21 : I 21 p = a := (v2 6 p (by decide)).trans ea
  have hAa := (hA a (by omega)).2.2.1 a3 a4
  have i57 : I 57 p = sgl (zP Z) p := (v3 p).1.trans (hsg p hp)
  have i24 : I 24 p = (zP Z) 9 p := v2 9 p (by decide)
  have i25 : I 25 ((zP Z) 9 p).toNat = (zP Z) 10 ((zP Z) 9 p).toNat := v2 10 _ (by decide)
  -- how it goes on with a number of nodes
  have go : ∀ (m : Nat), (m : Int) ≤ s 3 a - sgl (zP Z) p → ((p : Int) = Z 52 7 ∨ (m : Int) = s 3 a - sgl (zP Z) p) → ∀ I1 : IF, I1 = mset (mset I 53 p (if (m : Int) = 0 then -1 else s 2 a)) 54 p (m : Int) →
      ∃ (r : Int) (J : IF), Ev Γ 1 mX1_rowFits 93 [some (.inr (some 52)), some (.inl p), some (.inl a), none, some (.inl m), some (.inl 0)] [] (g, I1) (some (.inl r), (g, J)) ∧ Fr4 I J ∧
        (r = pb ((zP Z) 10 ((zP Z) 9 p).toNat = p ∨ RowA (zT Z) (rSet (zT Z) (zP Z) p m s) ((zP Z) 10 ((zP Z) 9 p).toNat).toNat p)) ∧ Ag Z (p + 1) (rSet (zT Z) (zP Z) p m s) J := by
    intro m hm hfr I1 hI1
    obtain ⟨e0, e1, e2, e3⟩ := rSet_eff (T := zT Z) (P := zP Z) (p := p) (m := (m : Int)) (s := s) (by rw [ea, Int.toNat_natCast]; omega)
    rw [ea, Int.toNat_natCast] at e1 e2 e3
    have hGI := hG.rset hT hP hFR hp hk (m := (m : Int)) ⟨by omega, by rw [ea, Int.toNat_natCast]; exact hm⟩ (by rw [ea, Int.toNat_natCast]; exact hfr)
    have w1 : Fr4 I I1 := by rw [hI1]; exact (Fr4.st (by decide)).tr (Fr4.st (by decide))
    have w53 : I1 53 p = (if (m : Int) = 0 then -1 else s 2 a) := by rw [hI1, mset_a _ _ (by decide), mset_s]
    have w54 : I1 54 p = m := by rw [hI1, mset_s]
    have wo : ∀ q : Nat, q ≠ p → I1 53 q = I 53 q ∧ I1 54 q = I 54 q := fun q hq => by
      rw [hI1, mset_a _ _ (by decide), mset_k _ _ hq, mset_k _ _ hq, mset_a _ _ (by decide)]
      exact ⟨rfl, rfl⟩
    have w5 : ∀ q : Nat, I1 55 q = I 55 q ∧ I1 56 q = I 56 q := fun q => by
      rw [hI1, mset_a _ _ (by decide), mset_a _ _ (by decide), mset_a _ _ (by decide), mset_a _ _ (by decide)]
      exact ⟨rfl, rfl⟩
    have tmr : ∀ k : Nat, (k : Int) < (zT Z) 7 (s 0 a).toNat → 0 ≤ tmI ((zT Z) 8) (s 0 a) k ∧ tmI ((zT Z) 8) (s 0 a) k < Z 3 2 := fun k hk2 => by
      have t := hT.t7t (p := (s 0 a).toNat) (show (((s 0 a).toNat : Nat) : Int) < Z 3 2 by omega) (k := k) hk2
      rw [show (((s 0 a).toNat : Nat) : Int) = s 0 a by omega] at t
      have t3 : tmI ((zT Z) 8) (s 0 a) k < Z 3 2 := t.2.2.1
      omega
    have lp : ∀ (d k : Nat) (X : IF), k + d = m → X 55 a = adv ((zT Z) 8) k (s 2 a) → (∀ b i : Nat, (b ≠ 55 ∨ i ≠ a) → X b i = I1 b i) → ∃ (r : Int) (J : IF), Ev Γ 1 mX1_rowFits 93 [some (.inr (some 52)), some (.inl p), some (.inl a), none, some (.inl m), some (.inl k)] [] (g, X) (some (.inl r), (g, J)) ∧ Fr4 I J ∧
        (r = pb ((zP Z) 10 ((zP Z) 9 p).toNat = p ∨ RowA (zT Z) (rSet (zT Z) (zP Z) p m s) ((zP Z) 10 ((zP Z) 9 p).toNat).toNat p)) ∧ Ag Z (p + 1) (rSet (zT Z) (zP Z) p m s) J := by
      intro d
      induction d with
      | zero =>
        intro k X hkd x55 xo
        have ek : k = m := by omega
        subst ek
        have x56 : X 56 a = s 3 a := (xo 56 a (Or.inl (by decide))).trans ((w5 a).2.trans hAa.2)
        generalize hJ : mset X 56 a (s 3 a - (k : Int)) = J
        have jo : ∀ b i : Nat, (b ≠ 55 ∨ i ≠ a) → (b ≠ 56 ∨ i ≠ a) → J b i = I1 b i := fun b i z1 z2 => by
          rw [← hJ]
          rcases z2 with z2 | z2
          · rw [mset_a _ _ z2]; exact xo b i z1
          · rw [mset_k _ _ z2]; exact xo b i z1
        have j55 : J 55 a = adv ((zT Z) 8) k (s 2 a) := by rw [← hJ, mset_a _ _ (by decide)]; exact x55
        have j56 : J 56 a = s 3 a - k := by rw [← hJ, mset_s]
        have jf : Fr4 I J := fun b i z => (jo b i (by omega) (by omega)).trans (w1 b i z)
        have hFJ := hF.tr jf
        have jAg : Ag Z (p + 1) (rSet (zT Z) (zP Z) p k s) J := by
          intro q hq
          by_cases e : q = p
          · subst e
            rw [jo 53 q (by omega) (by omega), jo 54 q (by omega) (by omega), w53, w54, e1.1, e1.2]
            exact ⟨rfl, rfl, fun z => by rw [hk] at z; exact absurd z (by decide), fun z => by rw [hk] at z; exact absurd z (by decide)⟩
          · have hq' := hA q (by omega)
            rw [jo 53 q (by omega) (by omega), jo 54 q (by omega) (by omega), (wo q e).1, (wo q e).2, (e0 q e).1, (e0 q e).2]
            refine ⟨hq'.1, hq'.2.1, fun z1 z2 => ?_, fun z => ?_⟩
            · by_cases e5 : q = a
              · subst e5
                rw [j55, j56, e3.1, e3.2, Int.toNat_natCast]
                exact ⟨rfl, rfl⟩
              · rw [jo 55 q (by omega) (by omega), jo 56 q (by omega) (by omega), (w5 q).1, (w5 q).2, (e2 q e5).1, (e2 q e5).2]
                exact hq'.2.2.1 z1 z2
            · have e5 : q ≠ a := fun w => by
                rw [w] at z
                have z' : (zP Z) 2 a = 3 := z
                omega
              rw [(e2 q e5).1, jf 52 10 (by decide)]
              exact hq'.2.2.2 z
        have y24 : J 24 p = (zP Z) 9 p := (jf 24 p (by decide)).trans i24
        have y25 : J 25 ((zP Z) 9 p).toNat = (zP Z) 10 ((zP Z) 9 p).toNat := (jf 25 _ (by decide)).trans i25
        by_cases ef : (zP Z) 10 ((zP Z) 9 p).toNat = p
        · refine ⟨1, J, v_X1_rowFits_93 hg p a k k ⟨fun _ => ⟨by omega, by rw [Int.toNat_natCast, x56]; unfold inR; omega, by omega, ?_⟩, fun z => absurd (Int.le_refl _) z⟩, jf, (pb_t (Or.inl ef)).symm, jAg⟩
          rw [Int.toNat_natCast, x56]
          rintro _ rfl
          rw [hJ, Int.toNat_natCast, y24]
          refine ⟨by omega, by omega, ?_⟩
          rw [y25]
          rintro _ rfl
          exact ⟨fun _ => v_X1_rowFits_171 hg ⟨rfl, rfl⟩, fun z => absurd ef z⟩
        · obtain ⟨f, efn⟩ : ∃ f : Nat, (zP Z) 10 ((zP Z) 9 p).toNat = f := ⟨((zP Z) 10 ((zP Z) 9 p).toNat).toNat, by omega⟩
          rw [efn] at ef q2 q3 q4
          rw [Int.toNat_natCast] at q4
          have hfp : f < p := by omega
          have hgf := hGI.2.2.2.1 f (by omega) (q4.trans hk)
          have hgp := hGI.2.2.2.1 p (by omega) hk
          have rng : ∀ q : Nat, q < p + 1 → (zP Z) 2 q = 2 → (q : Int) < Z 15 2 → 0 ≤ rSet (zT Z) (zP Z) p k s 1 q ∧ rSet (zT Z) (zP Z) p k s 1 q ≤ 240 ∧ ∀ x : Nat, (x : Int) < rSet (zT Z) (zP Z) p k s 1 q → 0 ≤ adv ((zT Z) 8) x (rSet (zT Z) (zP Z) p k s 0 q) ∧ adv ((zT Z) 8) x (rSet (zT Z) (zP Z) p k s 0 q) < Z 3 2 := fun q hq hkq hqc => by
            obtain ⟨g1, g2, j, g3, g4⟩ := hGI.2.2.2.1 q hq hkq
            have hrow := hP.2.2.2.2.2.2.1 q hqc hkq
            have hpar := hP.2.1.2.1 q hqc
            have h61 := hGI.1 ((zP Z) 6 q).toNat (by omega) (by rw [hrow.2]; decide)
            have h61' : rSet (zT Z) (zP Z) p k s 0 ((zP Z) 6 q).toNat < Z 3 2 := h61.2.1
            generalize rSet (zT Z) (zP Z) p k s 0 ((zP Z) 6 q).toNat = nn at *
            have hb : (zT Z) 7 nn.toNat < Z 3 2 - ((nn.toNat : Nat) : Int) := hT.t7n (n := nn.toNat) (show ((nn.toNat : Nat) : Int) < Z 3 2 by omega)
            refine ⟨g1, by omega, fun x hx => ?_⟩
            rw [g4 (by omega), tm_adv]
            have t := hT.t7t (p := nn.toNat) (show ((nn.toNat : Nat) : Int) < Z 3 2 by omega) (k := j + x) (by omega)
            rw [show ((nn.toNat : Nat) : Int) = nn by omega] at t
            have t3 : tmI ((zT Z) 8) nn (j + x) < Z 3 2 := t.2.2.1
            omega
          have rf := rng f (by omega) (q4.trans hk) (by omega)
          have rp := rng p (by omega) hk hp
          have hcall := c_rowsAlike (Γ := Γ) (s := rSet (zT Z) (zP Z) p k s) (f := f) (p := p) hg hZ' hFJ hp (by omega) ⟨(jAg f (by omega)).1, (jAg f (by omega)).2.1, (jAg p (by omega)).1, (jAg p (by omega)).2.1⟩ ⟨rf.1, rf.2.1⟩ rf.2.2 rp.2.2
          have e : pb ((zP Z) 10 ((zP Z) 9 p).toNat = p ∨ RowA (zT Z) (rSet (zT Z) (zP Z) p k s) ((zP Z) 10 ((zP Z) 9 p).toNat).toNat p) = pb (RowA (zT Z) (rSet (zT Z) (zP Z) p k s) f p) := by
            rw [efn, Int.toNat_natCast]
            exact pb_c ⟨fun z => z.resolve_left ef, Or.inr⟩
          refine ⟨pb (RowA (zT Z) (rSet (zT Z) (zP Z) p k s) f p), J, v_X1_rowFits_93 hg p a k k ⟨fun _ => ⟨by omega, by rw [Int.toNat_natCast, x56]; unfold inR; omega, by omega, ?_⟩, fun z => absurd (Int.le_refl _) z⟩, jf, e.symm, jAg⟩
          rw [Int.toNat_natCast, x56]
          rintro _ rfl
          rw [hJ, Int.toNat_natCast, y24]
          refine ⟨by omega, by omega, ?_⟩
          rw [y25, efn]
          rintro _ rfl
          refine ⟨fun z => absurd z ef, fun _ => ⟨_, _, hcall, fun z => ⟨by rw [z], rfl⟩, fun z => v_X1_rowFits_171 hg ⟨by rw [pb_t (pb_1.mp z)], rfl⟩⟩⟩
      | succ d ih =>
        intro k X hkd x55 xo
        have hX4 : Fr4 I X := fun b i z => (xo b i (by omega)).trans (w1 b i z)
        have hFX := hF.tr hX4
        have x3 : X 3 2 = Z 3 2 := (hX4 3 2 (by decide)).trans i3
        have hx := tmr ((zT Z) 7 (s 0 a).toNat - s 3 a + k).toNat (by omega)
        have ex : adv ((zT Z) 8) k (s 2 a) = tmI ((zT Z) 8) (s 0 a) ((zT Z) 7 (s 0 a).toNat - s 3 a + k).toNat := by
          rw [c3, tm_adv]
          congr 1
          omega
        rw [← ex] at hx
        have x11 : X (3 + 8) (adv ((zT Z) 8) k (s 2 a)).toNat = (zT Z) 8 (adv ((zT Z) 8) k (s 2 a)).toNat := hFX.v.1 8 _ (by decide)
        have hcall := c_next' (Γ := Γ) (I := X) (t := 3) (w := 0) hg (Or.inl rfl) (hZ'.tok hFX).1 (x := adv ((zT Z) 8) k (s 2 a)) hx.1 (by rw [x3]; exact hx.2)
        rw [x11, ← adv_s] at hcall
        obtain ⟨r, J, j1, j2⟩ := ih (k + 1) (mset X 55 a (adv ((zT Z) 8) (k + 1) (s 2 a))) (by omega) (mset_s _ _ _ _) (fun b i z => by
          rcases z with z | z
          · rw [mset_a _ _ z]; exact xo b i (Or.inl z)
          · rw [mset_k _ _ z]; exact xo b i (Or.inr z))
        refine ⟨r, J, v_X1_rowFits_93 hg p a m k ⟨fun z => absurd z (by omega), fun _ => ⟨by omega, _, _, by rw [Int.toNat_natCast, x55]; exact hcall, by omega, ?_⟩⟩, j2⟩
        rw [Int.toNat_natCast]
        rintro _ rfl
        exact ⟨by unfold inR; omega, j1⟩
    exact lp m 0 I1 (by omega) ((w5 a).1.trans hAa.1) (fun _ _ _ => rfl)
  -- the number of nodes
  have i52 : I 52 7 = Z 52 7 := v4
  have main : ∀ (m : Int), m = rMany (zP Z) (Z 52 7) p (I 52 9) s → (m < 0 ∨ s 3 a - sgl (zP Z) p < m) ∨ (0 ≤ m ∧ m ≤ s 3 a - sgl (zP Z) p) := fun m _ => by omega
  have hrm : rMany (zP Z) (Z 52 7) p (I 52 9) s = if (p : Int) = Z 52 7 then I 52 9 else s 3 a - sgl (zP Z) p := by
    unfold rMany
    rw [ea, Int.toNat_natCast]
  have hrow : gRow (zT Z) (zP Z) (Z 52 7) p (I 52 9) s = cif (0 ≤ rMany (zP Z) (Z 52 7) p (I 52 9) s ∧ rMany (zP Z) (Z 52 7) p (I 52 9) s ≤ s 3 a - sgl (zP Z) p ∧ ((zP Z) 10 ((zP Z) 9 p).toNat = p ∨ RowA (zT Z) (rSet (zT Z) (zP Z) p (rMany (zP Z) (Z 52 7) p (I 52 9) s) s) ((zP Z) 10 ((zP Z) 9 p).toNat).toNat p)) (some (rSet (zT Z) (zP Z) p (rMany (zP Z) (Z 52 7) p (I 52 9) s) s)) none := by
    unfold gRow
    rw [ea, Int.toNat_natCast]
  rw [hrow]
  have start : ∀ (r : Option AV) (J : IF), ((0 : Int) ≤ a → ((p : Int) ≠ Z 52 7 → (∀ I1 : IF, I1 = mset (mset I 53 p (if s 3 a - sgl (zP Z) p = 0 then -1 else s 2 a)) 54 p (s 3 a - sgl (zP Z) p) → Ev Γ 1 mX1_rowFits 93 [some (.inr (some 52)), some (.inl p), some (.inl a), none, some (.inl (s 3 a - sgl (zP Z) p)), some (.inl 0)] [] (g, I1) (r, (g, J)))) ∧
        ((p : Int) = Z 52 7 → ((s 3 a - sgl (zP Z) p < I 52 9 → r = some (.inl 0) ∧ J = I) ∧ (I 52 9 ≤ s 3 a - sgl (zP Z) p → ∀ I1 : IF, I1 = mset (mset I 53 p (if I 52 9 = 0 then -1 else s 2 a)) 54 p (I 52 9) → Ev Γ 1 mX1_rowFits 93 [some (.inr (some 52)), some (.inl p), some (.inl a), none, some (.inl (I 52 9)), some (.inl 0)] [] (g, I1) (r, (g, J)))))) →
      Ev Γ 1 mX1_rowFits 0 [some (.inr (some 52)), some (.inl p), none, none, none, none] [] (g, I) (r, (g, J)) := by
    intro r J h
    obtain ⟨h1, h2⟩ := h (by omega)
    refine v_X1_rowFits_0 hg p ⟨by omega, ?_⟩
    rw [Int.toNat_natCast, i21]
    rintro _ rfl
    refine ⟨fun _ => ⟨by omega, by omega, ?_, ?_⟩, fun z => absurd (by omega) z⟩
    · rw [Int.toNat_natCast, hAa.2, i57]
      unfold inR
      omega
    · rw [Int.toNat_natCast, hAa.2, i57, i52, hAa.1]
      rintro _ rfl
      refine ⟨fun z => ⟨fun y => absurd y (by omega), fun _ => ⟨fun _ => ⟨fun x => ⟨by omega, by omega, ?_⟩, fun x => ⟨by omega, ?_⟩⟩, fun y => absurd (Int.le_refl _) y⟩⟩, fun z => ?_⟩
      · rintro _ rfl
        refine ⟨by omega, ?_⟩
        rintro _ rfl
        refine h1 z _ ?_
        rw [if_neg x]
      · rintro _ rfl
        refine ⟨by omega, ?_⟩
        rintro _ rfl
        refine h1 z _ ?_
        rw [if_pos x]
      · obtain ⟨h3, h4⟩ := h2 z
        rintro _ rfl
        refine ⟨fun y => absurd y (by omega), fun _ => ⟨fun y => ⟨fun x => ⟨by omega, by omega, ?_⟩, fun x => ⟨by omega, ?_⟩⟩, fun y => v_X1_rowFits_59 hg (h3 (by omega))⟩⟩
        · rintro _ rfl
          refine ⟨by omega, ?_⟩
          rintro _ rfl
          refine h4 y _ ?_
          rw [if_neg x]
        · rintro _ rfl
          refine ⟨by omega, ?_⟩
          rintro _ rfl
          refine h4 y _ ?_
          rw [if_pos x]
  by_cases hfr : (p : Int) = Z 52 7
  · rw [if_pos hfr] at hrm
    rw [hrm]
    by_cases hle : I 52 9 ≤ s 3 a - sgl (zP Z) p
    · obtain ⟨m, em⟩ : ∃ m : Nat, I 52 9 = m := ⟨(I 52 9).toNat, by omega⟩
      rw [em] at hle ⊢
      obtain ⟨r, J, j1, j2, j3, j4⟩ := go m hle (Or.inl hfr) _ rfl
      refine ⟨r, J, CT.of (R := (some (.inl r), (g, J))) oX1_rowFits (Nat.le_of_ble_eq_true rfl) (Nat.le_refl _) (Nat.le_refl _) (start _ _ (fun _ => ⟨fun z => absurd hfr z, fun _ => ⟨fun z => absurd z (by omega), fun _ => ?_⟩⟩)), j2, fun z => ?_, fun s' z => ?_⟩
      · rw [em]
        rintro _ rfl
        exact j1
      · rw [j3]
        refine pb_f (fun y => ?_)
        rw [cif_t ⟨by omega, hle, y⟩] at z
        cases z
      · obtain ⟨z1, rfl⟩ := cif_s z
        exact ⟨by rw [j3]; exact pb_t z1.2.2, j4⟩
    · refine ⟨0, I, CT.of (R := (some (.inl 0), (g, I))) oX1_rowFits (Nat.le_of_ble_eq_true rfl) (Nat.le_refl _) (Nat.le_refl _) (start _ _ (fun _ => ⟨fun z => absurd hfr z, fun _ => ⟨fun _ => ⟨rfl, rfl⟩, fun z => absurd z hle⟩⟩)), Fr4.rf, fun _ => rfl, fun s' z => absurd (cif_s z).1.2.1 hle⟩
  · rw [if_neg hfr] at hrm
    rw [hrm]
    obtain ⟨m, em⟩ : ∃ m : Nat, s 3 a - sgl (zP Z) p = m := ⟨(s 3 a - sgl (zP Z) p).toNat, by omega⟩
    rw [em]
    obtain ⟨r, J, j1, j2, j3, j4⟩ := go m (by omega) (Or.inr em.symm) _ rfl
    refine ⟨r, J, CT.of (R := (some (.inl r), (g, J))) oX1_rowFits (Nat.le_of_ble_eq_true rfl) (Nat.le_refl _) (Nat.le_refl _) (start _ _ (fun _ => ⟨fun _ => ?_, fun z => absurd z hfr⟩)), j2, fun z => ?_, fun s' z => ?_⟩
    · rw [em]
      rintro _ rfl
      exact j1
    · rw [j3]
      refine pb_f (fun y => ?_)
      rw [cif_t ⟨by omega, Int.le_refl _, y⟩] at z
      cases z
    · obtain ⟨z1, rfl⟩ := cif_s z
      exact ⟨by rw [j3]; exact pb_t z1.2.2, j4⟩
end CR
