/-! ===== alike nodes: the class's marks and the reference's comparing ===== -/
noncomputable def pb (P : Prop) : Int := @ite Int P (Classical.propDecidable P) 1 0
theorem pb_t {P : Prop} (h : P) : pb P = 1 := by unfold pb; rw [if_pos h]
theorem pb_f {P : Prop} (h : ¬ P) : pb P = 0 := by unfold pb; rw [if_neg h]
theorem pb_01 (P : Prop) : pb P = 0 ∨ pb P = 1 := (Classical.em P).elim (fun h => Or.inr (pb_t h)) (fun h => Or.inl (pb_f h))
theorem pb_1 {P : Prop} : ¬ pb P = 0 ↔ P := ⟨fun h => Classical.byContradiction (fun z => h (pb_f z)), fun h => by rw [pb_t h]; decide⟩
theorem pb_0 {P : Prop} : pb P = 0 ↔ ¬ P := ⟨fun h z => by rw [pb_t z] at h; exact absurd h (by decide), pb_f⟩
theorem pb_c {P Q : Prop} (h : P ↔ Q) : pb P = pb Q := by rw [propext h]
theorem pbs_t {P : Prop} (h : P) : (some (Sum.inl (pb P)) : Option AV) = some (Sum.inl 1) := by rw [pb_t h]
theorem pbs_f {P : Prop} (h : ¬ P) : (some (Sum.inl (pb P)) : Option AV) = some (Sum.inl 0) := by rw [pb_f h]
theorem bI_pb {P : Prop} [Decidable P] : bI (decide P) = pb P := by
  by_cases h : P
  · rw [pb_t h, decide_eq_true h]; rfl
  · rw [pb_f h, decide_eq_false h]; rfl
/-- the same atom -/
def AtE (X : IF) (p : Nat) (Y : IF) (q : Nat) : Prop := X 4 p - X 3 p = Y 4 q - Y 3 q ∧ ∀ k : Nat, (k : Int) < X 4 p - X 3 p → X 1 (X 3 p + k).toNat = Y 1 (Y 3 q + k).toNat
/-- they look alike, if those within them are marked well -/
def Lk (X : IF) (p q : Nat) : Prop := AtE X p X q ∧ X 7 p = X 7 q ∧ ∀ k : Nat, (k : Int) < X 7 p → X 11 (tmI (X 8) p k).toNat = X 11 (tmI (X 8) q k).toNat
/-- from m on the marks are well -/
def SmO (X : IF) (m : Nat) : Prop := (∀ p : Nat, m ≤ p → (p : Int) < X 0 2 → (p : Int) ≤ X 11 p ∧ X 11 p < X 0 2) ∧ (∀ p q : Nat, m ≤ p → (p : Int) < X 0 2 → m ≤ q → (q : Int) < X 0 2 → (X 11 p = X 11 q ↔ Lk X p q)) ∧ ∀ p q : Nat, m ≤ p → (p : Int) < X 0 2 → m ≤ q → (q : Int) < X 0 2 → X 11 p = X 11 q → X 8 p = X 8 q
section ALP
variable {X Y : IF} {p q r m : Nat} {w : Int}
theorem AtE.sy (h : AtE X p Y q) : AtE Y q X p := ⟨h.1.symm, fun k hk => (h.2 k (by rw [h.1]; exact hk)).symm⟩
theorem AtE.tr {Z : IF} (h : AtE X p Y q) (h2 : AtE Y q Z r) : AtE X p Z r := ⟨h.1.trans h2.1, fun k hk => (h.2 k hk).trans (h2.2 k (by rw [← h.1]; exact hk))⟩
theorem Lk.rf : Lk X p p := ⟨⟨rfl, fun _ _ => rfl⟩, rfl, fun _ _ => rfl⟩
theorem Lk.sy (h : Lk X p q) : Lk X q p := ⟨h.1.sy, h.2.1.symm, fun k hk => (h.2.2 k (by rw [h.2.1]; exact hk)).symm⟩
theorem Lk.tr (h : Lk X p q) (h2 : Lk X q r) : Lk X p r := ⟨h.1.tr h2.1, h.2.1.trans h2.2.1, fun k hk => (h.2.2 k hk).trans (h2.2.2 k (by rw [← h.2.1]; exact hk))⟩
/-- how many terms a node of the text has -/
theorem TOK.t7 (h : TOK 0 X) (hp : (p : Int) < X 0 2) : (X 7 p = -1 ∧ ncI (X 6) p (X 0 2).toNat = 0) ∨ (0 ≤ X 7 p ∧ X 7 p = ncI (X 6) p (X 0 2).toNat) := by
  have k0 := h.2.2.2.2.2.2.2.1 rfl p hp
  rcases h.2.2.1 p hp with z | z | z
  · exact z.2
  · omega
  · omega
theorem TOK.t7c (h : TOK 0 X) (hp : (p : Int) < X 0 2) {k : Nat} (hk : (k : Int) < X 7 p) : (k : Int) < ncI (X 6) p (X 0 2).toNat := by
  rcases h.t7 hp with z | z <;> omega
theorem TOK.t7t (h : TOK 0 X) (hp : (p : Int) < X 0 2) {k : Nat} (hk : (k : Int) < X 7 p) : (p : Int) < tmI (X 8) p k ∧ tmI (X 8) p k < p + X 8 p ∧ tmI (X 8) p k < X 0 2 ∧ X 6 (tmI (X 8) p k).toNat = p ∧ ncI (X 6) p (tmI (X 8) p k).toNat = k := h.2.1.tml hp (h.t7c hp hk)
theorem Lk.siz (h : TOK 0 X) (hp : (p : Int) < X 0 2) (hq : (q : Int) < X 0 2) (hm : ∀ a b : Nat, p < a → (a : Int) < X 0 2 → q < b → (b : Int) < X 0 2 → X 11 a = X 11 b → X 8 a = X 8 b) (hl : Lk X p q) : X 8 p = X 8 q := by
  have e1 := h.2.1.tme hp
  have e2 := h.2.1.tme hq
  have t1 := h.t7 hp
  have t2 := h.t7 hq
  have l2 := hl.2.1
  have go : ∀ k : Nat, (k : Int) ≤ ncI (X 6) p (X 0 2).toNat → tmI (X 8) p k - p = tmI (X 8) q k - q := by
    intro k
    induction k with
    | zero =>
      intro _
      show (p : Int) + 1 - p = q + 1 - q
      omega
    | succ k ih =>
      intro hk
      have i := ih (by omega)
      have hk7 : (k : Int) < X 7 p := by rcases t1 with z | z <;> omega
      have a1 := h.t7t hp hk7
      have a2 := h.t7t hq (k := k) (by omega)
      have a3 := hm (tmI (X 8) p k).toNat (tmI (X 8) q k).toNat (by omega) (by omega) (by omega) (by omega) (hl.2.2 k hk7)
      have b1 : tmI (X 8) p (k + 1) = tmI (X 8) p k + X 8 (tmI (X 8) p k).toNat := adv_s _ _ _
      have b2 : tmI (X 8) q (k + 1) = tmI (X 8) q k + X 8 (tmI (X 8) q k).toNat := adv_s _ _ _
      omega
  have hn := ncI_nn (X 6) p (X 0 2).toNat
  have e : ncI (X 6) p (X 0 2).toNat = ncI (X 6) q (X 0 2).toNat := by
    rcases t1 with z | z <;> rcases t2 with y | y <;> omega
  have g := go (ncI (X 6) p (X 0 2).toNat).toNat (by omega)
  rw [e1] at g
  rw [e, e2] at g
  omega
/-- the marks but that of m are the same -/
theorem Lk.cg (h : TOK 0 X) (hY : ∀ i k : Nat, (i ≠ 11 ∨ k ≠ m) → Y i k = X i k) (hp : m ≤ p) (hpc : (p : Int) < X 0 2) (hq : m ≤ q) (hqc : (q : Int) < X 0 2) : Lk Y p q ↔ Lk X p q := by
  have e : ∀ i : Nat, i ≠ 11 → Y i = X i := fun i z => funext (fun k => hY i k (Or.inl z))
  unfold Lk AtE
  rw [e 4 (by decide), e 3 (by decide), e 1 (by decide), e 7 (by decide), e 8 (by decide)]
  refine ⟨fun z => ⟨z.1, z.2.1, fun k hk => ?_⟩, fun z => ⟨z.1, z.2.1, fun k hk => ?_⟩⟩
  · have a1 := h.t7t hpc hk
    have a2 := h.t7t hqc (k := k) (by rw [← z.2.1]; exact hk)
    have g := z.2.2 k hk
    rw [hY 11 _ (Or.inr (by omega)), hY 11 _ (Or.inr (by omega))] at g
    exact g
  · have a1 := h.t7t hpc hk
    have a2 := h.t7t hqc (k := k) (by rw [← z.2.1]; exact hk)
    rw [hY 11 _ (Or.inr (by omega)), hY 11 _ (Or.inr (by omega))]
    exact z.2.2 k hk
theorem SmO.lksiz (h : TOK 0 X) (hS : SmO X (m + 1)) (hm : (m : Int) < X 0 2) {o : Nat} (ho : m < o) (hoc : (o : Int) < X 0 2) (hl : Lk X m o) : X 8 m = X 8 o := hl.siz h hm hoc (fun a b z1 z2 z3 z4 z5 => hS.2.2 a b (by omega) z2 (by omega) z4 z5)
theorem SmO.step (h : TOK 0 X) (hS : SmO X (m + 1)) (hm : (m : Int) < X 0 2) (hY : ∀ i k : Nat, (i ≠ 11 ∨ k ≠ m) → Y i k = X i k)
    (hv : (Y 11 m = m ∧ ∀ o : Nat, m < o → (o : Int) < X 0 2 → ¬ Lk X m o) ∨ (∃ o : Nat, m < o ∧ (o : Int) < X 0 2 ∧ Lk X m o ∧ Y 11 m = X 11 o)) : SmO Y m := by
  obtain ⟨s1, s2, s3⟩ := hS
  have hc : Y 0 2 = X 0 2 := hY 0 2 (Or.inl (by decide))
  have h8 : ∀ k : Nat, Y 8 k = X 8 k := fun k => hY 8 k (Or.inl (by decide))
  have h11 : ∀ k : Nat, m < k → Y 11 k = X 11 k := fun k z => hY 11 k (Or.inr (by omega))
  have one : ∀ q : Nat, m < q → (q : Int) < X 0 2 → (Y 11 m = X 11 q ↔ Lk X m q) := fun q hq hqc => by
    rcases hv with ⟨v1, v2⟩ | ⟨o, o1, o2, o3, o4⟩
    · have := s1 q (by omega) hqc
      exact ⟨fun z => by omega, fun z => absurd z (v2 q hq hqc)⟩
    · rw [o4, s2 o q (by omega) o2 (by omega) hqc]
      exact ⟨fun z => o3.tr z, fun z => o3.sy.tr z⟩
  have eqv : ∀ p q : Nat, m ≤ p → (p : Int) < X 0 2 → m ≤ q → (q : Int) < X 0 2 → (Y 11 p = Y 11 q ↔ Lk X p q) := fun p q hp hpc hq hqc => by
    by_cases e1 : p = m
    · by_cases e2 : q = m
      · rw [e1, e2]
        exact ⟨fun _ => Lk.rf, fun _ => rfl⟩
      · rw [e1, h11 q (by omega)]
        exact one q (by omega) hqc
    · by_cases e2 : q = m
      · rw [e2, h11 p (by omega)]
        refine ⟨fun z => ((one p (by omega) hpc).mp z.symm).sy, fun z => ((one p (by omega) hpc).mpr z.sy).symm⟩
      · rw [h11 p (by omega), h11 q (by omega)]
        exact s2 p q (by omega) hpc (by omega) hqc
  refine ⟨fun p hp hpc => ?_, fun p q hp hpc hq hqc => ?_, fun p q hp hpc hq hqc z => ?_⟩
  · rw [hc] at hpc ⊢
    by_cases e : p = m
    · rw [e]
      rcases hv with ⟨v1, v2⟩ | ⟨o, o1, o2, o3, o4⟩
      · omega
      · have := s1 o (by omega) o2
        omega
    · rw [h11 p (by omega)]
      exact s1 p (by omega) hpc
  · rw [hc] at hpc hqc
    rw [eqv p q hp hpc hq hqc, Lk.cg h hY hp hpc hq hqc]
  · rw [hc] at hpc hqc
    rw [h8, h8]
    have l := (eqv p q hp hpc hq hqc).mp z
    exact l.siz h hpc hqc (fun a b z1 z2 z3 z4 z5 => s3 a b (by omega) z2 (by omega) z4 z5)
end ALP
section ALC
variable {Γ : GX} {g : AG} {I : IF} {t u v p q : Nat} {w w' : Int}
theorem c_next (hg : GOc g) (ht : Tr t) {x : Int} (h0 : 0 ≤ x) (h1 : x < I t 2) (hc : I t 2 ≤ 120) (h2 : 0 ≤ I (t + 8) x.toNat ∧ x + I (t + 8) x.toNat ≤ 120) : CT Γ 0 mX5_next [.inr (some t), .inl x] (g, I) (some (.inl (x + I (t + 8) x.toNat)), (g, I)) :=
  CT.of oX5_next (Nat.le_of_ble_eq_true rfl) (Nat.le_refl _) (Nat.le_refl _) (v_X5_next_0 hg t ht x ⟨fun z => absurd z (by omega), fun _ => ⟨fun z => absurd z (by omega), fun _ => ⟨⟨h0, by omega⟩, by unfold inR; omega, rfl, rfl⟩⟩⟩)
theorem c_next' (hg : GOc g) (ht : Tr t) (h : TOK w (tv t I)) {x : Int} (h0 : 0 ≤ x) (h1 : x < I t 2) : CT Γ 0 mX5_next [.inr (some t), .inl x] (g, I) (some (.inl (x + I (t + 8) x.toNat)), (g, I)) := by
  have hc : I t 2 ≤ 120 := h.1.2.1.2
  have h2 := h.2.1.2.2.1 x.toNat (show ((x.toNat : Nat) : Int) < I t 2 by omega)
  have h3 : 1 ≤ I (t + 8) x.toNat ∧ (x.toNat : Int) + I (t + 8) x.toNat ≤ I t 2 := h2
  exact c_next hg ht h0 h1 hc (by omega)
theorem c_sameAtom_46 (hg : GOc g) (hu : Tr u) (hv : Tr v) {f1 f2 m : Int} (b1 : 0 ≤ f1 ∧ f1 + m ≤ 240) (b2 : 0 ≤ f2 ∧ f2 + m ≤ 240) : ∀ (n : Nat) (x : Int), 0 ≤ x → x ≤ m → n = (m - x).toNat → (∀ k : Nat, (k : Int) < x → I (u + 1) (f1 + k).toNat = I (v + 1) (f2 + k).toNat) →
    Ev Γ 0 mX5_sameAtom 46 [some (.inr (some u)), none, some (.inr (some v)), none, some (.inl f1), some (.inl f2), some (.inl m), some (.inl x)] [] (g, I) (some (.inl (pb (∀ k : Nat, (k : Int) < m → I (u + 1) (f1 + k).toNat = I (v + 1) (f2 + k).toNat))), (g, I)) := by
  intro n
  induction n with
  | zero =>
    intro x h0 h1 hn hk
    have e : x = m := by omega
    refine v_X5_sameAtom_46 hg u hu v hv f1 f2 m x ⟨fun _ => ⟨pbs_t (fun k z => hk k (by omega)), rfl⟩, fun z => absurd (by omega) z⟩
  | succ n ih =>
    intro x h0 h1 hn hk
    refine v_X5_sameAtom_46 hg u hu v hv f1 f2 m x ⟨fun z => absurd z (by omega), fun _ => ⟨by unfold inR; omega, by omega, by unfold inR; omega, by omega, fun z => ⟨by unfold inR; omega, ih (x + 1) (by omega) (by omega) (by omega) (fun k hk2 => ?_)⟩, fun z => ⟨pbs_f (fun y => z ?_), rfl⟩⟩⟩
    · by_cases e : (k : Int) = x
      · rw [e]; exact z
      · exact hk k (by omega)
    · have := y x.toNat (by omega)
      rw [show ((x.toNat : Nat) : Int) = x by omega] at this
      exact this
theorem c_sameAtom (hg : GOc g) (hu : Tr u) (hv : Tr v) (hX : TOK w (tv u I)) (hY : TOK w' (tv v I)) (hp : (p : Int) < I u 2) (hq : (q : Int) < I v 2) :
    CT Γ 0 mX5_sameAtom [.inr (some u), .inl p, .inr (some v), .inl q] (g, I) (some (.inl (pb (AtE (tv u I) p (tv v I) q))), (g, I)) := by
  have s1 : 0 ≤ I (u + 3) p ∧ I (u + 3) p < I (u + 4) p ∧ I (u + 4) p ≤ I (u + 5) p ∧ I (u + 5) p ≤ I u 1 := hX.2.2.2.2.1.1 p hp
  have s2 : 0 ≤ I (v + 3) q ∧ I (v + 3) q < I (v + 4) q ∧ I (v + 4) q ≤ I (v + 5) q ∧ I (v + 5) q ≤ I v 1 := hY.2.2.2.2.1.1 q hq
  have l1 : I u 1 ≤ 240 := hX.1.1.2
  have l2 : I v 1 ≤ 240 := hY.1.1.2
  have c1 : I u 2 ≤ 120 := hX.1.2.1.2
  have c2 : I v 2 ≤ 120 := hY.1.2.1.2
  refine CT.of oX5_sameAtom (Nat.le_of_ble_eq_true rfl) (Nat.le_refl _) (Nat.le_refl _) (v_X5_sameAtom_0 hg u hu p v hv q ⟨by omega, ?_⟩)
  rintro _ rfl
  refine ⟨by omega, ?_⟩
  rintro _ rfl
  rw [Int.toNat_natCast, Int.toNat_natCast]
  refine ⟨by omega, by unfold inR; omega, ?_⟩
  rintro _ rfl
  refine ⟨by omega, by unfold inR; omega, fun z => ?_, fun z => ⟨pbs_f (fun y => z y.1), rfl⟩⟩
  have e : pb (AtE (tv u I) p (tv v I) q) = pb (∀ k : Nat, (k : Int) < I (u + 4) p - I (u + 3) p → I (u + 1) (I (u + 3) p + k).toNat = I (v + 1) (I (v + 3) q + k).toNat) := pb_c ⟨fun y => y.2, fun y => ⟨z, y⟩⟩
  rw [e]
  exact c_sameAtom_46 hg hu hv (by omega) (by omega) _ 0 (by omega) (by omega) rfl (fun k hk => by omega)
theorem c_looksAlike (hg : GOc g) (ht : Tr t) (h : TOK 0 (tv t I)) (hp : (p : Int) < I t 2) (hq : (q : Int) < I t 2) : CT Γ 1 mX5_looksAlike [.inr (some t), .inl p, .inl q] (g, I) (some (.inl (pb (Lk (tv t I) p q))), (g, I)) := by
  have hc : I t 2 ≤ 120 := h.1.2.1.2
  have h7 : I (t + 7) p ≤ 120 := by
    have := h.t7 hp
    have g1 := ncI_mono (f := tv t I 6) (p := p) (x := (I t 2).toNat) (I t 2).toNat (Nat.le_refl _)
    have g2 : ∀ n : Nat, ncI (tv t I 6) p n ≤ n := fun n => by
      induction n with
      | zero => exact Int.le_refl _
      | succ n ih =>
        rw [ncI_succ]
        split <;> omega
    have g3 := g2 (I t 2).toNat
    have this2 : (I (t + 7) p = -1 ∧ ncI (tv t I 6) p (I t 2).toNat = 0) ∨ (0 ≤ I (t + 7) p ∧ I (t + 7) p = ncI (tv t I 6) p (I t 2).toNat) := this
    omega
  refine CT.of oX5_looksAlike (Nat.le_of_ble_eq_true rfl) (Nat.le_refl _) (Nat.le_refl _) (v_X5_looksAlike_0 hg t ht p q ⟨by omega, by omega, fun z => ⟨pbs_f (fun y => z ?_), rfl⟩, fun z => ⟨_, _, c_sameAtom hg ht ht h h hp hq, fun y => ⟨by unfold inR; omega, ?_⟩, fun y => ⟨pbs_f (fun x => ?_), rfl⟩⟩⟩)
  · rw [Int.toNat_natCast, Int.toNat_natCast]; exact y.2.1
  · rw [Int.toNat_natCast, Int.toNat_natCast] at z
    rw [pb_1] at y
    rintro _ rfl
    refine ⟨by unfold inR; omega, ?_⟩
    rintro _ rfl
    have lp : ∀ (n k : Nat), n = (I (t + 7) p - k).toNat → (∀ j : Nat, j < k → (j : Int) < I (t + 7) p → I (t + 11) (tmI (I (t + 8)) p j).toNat = I (t + 11) (tmI (I (t + 8)) q j).toNat) →
        Ev Γ 1 mX5_looksAlike 39 [some (.inr (some t)), some (.inl p), none, some (.inl (tmI (I (t + 8)) p k)), some (.inl (tmI (I (t + 8)) q k)), some (.inl (k : Int))] [] (g, I) (some (.inl (pb (Lk (tv t I) p q))), (g, I)) := by
      intro n
      induction n with
      | zero =>
        intro k hn hk
        refine v_X5_looksAlike_39 hg t ht p _ _ k ⟨by omega, fun _ => ⟨pbs_t ⟨y, z, fun j hj => ?_⟩, rfl⟩, fun x => absurd (show I (t + 7) ((p : Int)).toNat ≤ (k : Int) by rw [Int.toNat_natCast]; omega) x⟩
        have hj' : (j : Int) < I (t + 7) p := hj
        exact hk j (by omega) hj'
      | succ n ih =>
        intro k hn hk
        have hk7 : (k : Int) < I (t + 7) p := by omega
        have a1 : (p : Int) < tmI (I (t + 8)) p k ∧ tmI (I (t + 8)) p k < p + I (t + 8) p ∧ tmI (I (t + 8)) p k < I t 2 ∧ I (t + 6) (tmI (I (t + 8)) p k).toNat = p ∧ ncI (I (t + 6)) p (tmI (I (t + 8)) p k).toNat = k := h.t7t hp hk7
        have a2 : (q : Int) < tmI (I (t + 8)) q k ∧ tmI (I (t + 8)) q k < q + I (t + 8) q ∧ tmI (I (t + 8)) q k < I t 2 ∧ I (t + 6) (tmI (I (t + 8)) q k).toNat = q ∧ ncI (I (t + 6)) q (tmI (I (t + 8)) q k).toNat = k := h.t7t hq (show (k : Int) < I (t + 7) q by omega)
        refine v_X5_looksAlike_39 hg t ht p _ _ k ⟨by omega, fun x => absurd x (by rw [Int.toNat_natCast]; omega), fun _ => ⟨fun x => absurd x (by omega), fun _ => ⟨fun x => absurd x (by omega), fun _ => ⟨by omega, by omega, fun x => ⟨_, _, c_next' hg ht h (by omega) a1.2.2.1, _, _, c_next' hg ht h (by omega) a2.2.2.1, by unfold inR; omega, ?_⟩, fun x => ⟨pbs_f (fun y2 => x (y2.2.2 k hk7)), rfl⟩⟩⟩⟩⟩
        have b1 : tmI (I (t + 8)) p k + I (t + 8) (tmI (I (t + 8)) p k).toNat = tmI (I (t + 8)) p (k + 1) := (adv_s _ _ _).symm
        have b2 : tmI (I (t + 8)) q k + I (t + 8) (tmI (I (t + 8)) q k).toNat = tmI (I (t + 8)) q (k + 1) := (adv_s _ _ _).symm
        rw [b1, b2]
        refine ih (k + 1) (by omega) (fun j z1 z2 => ?_)
        by_cases e : j = k
        · rw [e]; exact x
        · exact hk j (by omega) z2
    exact lp _ 0 rfl (fun j hj => by omega)
  · rw [pb_0] at y
    exact y x.1
/-- MARKALIKE of the class -/
theorem c_markAlike (hg : GOc g) (ht : Tr t) (h : TOK 0 (tv t I)) : ∃ J : IF, CT Γ 2 mX5_markAlike [.inr (some t)] (g, I) (none, (g, J)) ∧ (∀ a k : Nat, a ≠ t + 11 → J a k = I a k) ∧ SmO (tv t J) 0 := by
  have hc : 1 ≤ I t 2 ∧ I t 2 ≤ 120 := h.1.2.1
  have tvY : ∀ {I J : IF} {m : Nat}, (∀ a k : Nat, (a ≠ t + 11 ∨ k ≠ m) → J a k = I a k) → ∀ i k : Nat, (i ≠ 11 ∨ k ≠ m) → tv t J i k = tv t I i k := fun e i k z => e (t + i) k (by omega)
  have tok : ∀ {I J : IF}, TOK 0 (tv t I) → (∀ a k : Nat, a ≠ t + 11 → J a k = I a k) → TOK 0 (tv t J) := fun h e => h.cg ⟨e (t + 0) 1 (by omega), e (t + 0) 2 (by omega), fun j _ => e (t + 1) j (by omega), fun i p _ _ _ => e (t + i) p (by omega), fun l _ => e (t + 10) l (by omega)⟩
  have lp : ∀ (n : Nat) (I : IF), (n : Int) ≤ I t 2 → TOK 0 (tv t I) → SmO (tv t I) n → ∃ J : IF, Ev Γ 2 mX5_markAlike 7 [some (.inr (some t)), some (.inl ((n : Int) - 1)), none] [] (g, I) (none, (g, J)) ∧ (∀ a k : Nat, a ≠ t + 11 → J a k = I a k) ∧ SmO (tv t J) 0 := by
    intro n
    induction n with
    | zero =>
      intro I hn hT hS
      exact ⟨I, v_X5_markAlike_7 hg t ht _ ⟨fun _ => ⟨rfl, rfl⟩, fun z => absurd (show ((0 : Nat) : Int) - 1 < 0 by decide) z⟩, fun _ _ _ => rfl, hS⟩
    | succ n ih =>
      intro I hn hT hS
      have hc : I t 2 ≤ 120 := hT.1.2.1.2
      generalize hI2 : mset I (t + 11) n (n : Int) = I2
      have e2 : ∀ a k : Nat, (a ≠ t + 11 ∨ k ≠ n) → I2 a k = I a k := fun a k z => by
        rw [← hI2]
        rcases z with z | z
        · exact mset_a _ _ z
        · exact mset_k _ _ z
      have v2 : I2 (t + 11) n = n := by rw [← hI2]; exact mset_s _ _ _ _
      have hT2 : TOK 0 (tv t I2) := tok hT (fun a k z => e2 a k (Or.inl z))
      have c2 : I2 t 2 = I t 2 := e2 t 2 (Or.inl (by omega))
      have lk : ∀ o : Nat, n < o → (o : Int) < I t 2 → (Lk (tv t I2) n o ↔ Lk (tv t I) n o) := fun o z1 z2 => Lk.cg hT (tvY e2) (Nat.le_refl _) (show (n : Int) < I t 2 by omega) (by omega) z2
      -- the search for one that is alike
      have lp2 : ∀ (k o : Nat), n < o → (o : Int) ≤ I t 2 → k = (I t 2 - o).toNat → (∀ o' : Nat, n < o' → o' < o → ¬ Lk (tv t I) n o') →
          ∃ J : IF, Ev Γ 2 mX5_markAlike 22 [some (.inr (some t)), some (.inl (n : Int)), some (.inl (o : Int))] [] (g, I2) (none, (g, J)) ∧ (∀ a k : Nat, a ≠ t + 11 → J a k = I a k) ∧ SmO (tv t J) 0 := by
        intro k
        induction k with
        | zero =>
          intro o h1 h2 hk hno
          have hS2 : SmO (tv t I2) n := SmO.step hT hS (show (n : Int) < I t 2 by omega) (tvY e2) (Or.inl ⟨v2, fun o' z1 z2 => hno o' z1 (by have z2' : (o' : Int) < I t 2 := z2; omega)⟩)
          obtain ⟨J, j1, j2, j3⟩ := ih I2 (by rw [c2]; omega) hT2 hS2
          refine ⟨J, v_X5_markAlike_22 hg t ht n o ⟨fun _ => ⟨by unfold inR; omega, by rw [show (n : Int) + -1 = (n : Int) - 1 by omega]; exact j1⟩, fun z => absurd (by rw [c2]; omega) z⟩, fun a k z => (j2 a k z).trans (e2 a k (Or.inl z)), j3⟩
        | succ k ih2 =>
          intro o h1 h2 hk hno
          have hoc : (o : Int) < I t 2 := by omega
          by_cases e8 : I2 (t + 8) o = I2 (t + 8) n
          · by_cases el : Lk (tv t I) n o
            · generalize hI3 : mset I2 (t + 11) n (I2 (t + 11) o) = I3
              have e3 : ∀ a k : Nat, (a ≠ t + 11 ∨ k ≠ n) → I3 a k = I a k := fun a k z => by
                rw [← hI3]
                rcases z with z | z
                · rw [mset_a _ _ z]; exact e2 a k (Or.inl z)
                · rw [mset_k _ _ z]; exact e2 a k (Or.inr z)
              have v3 : I3 (t + 11) n = I (t + 11) o := by rw [← hI3, mset_s]; exact e2 _ _ (Or.inr (by omega))
              have hS3 : SmO (tv t I3) n := SmO.step hT hS (show (n : Int) < I t 2 by omega) (tvY e3) (Or.inr ⟨o, h1, hoc, el, v3⟩)
              obtain ⟨J, j1, j2, j3⟩ := ih I3 (by rw [e3 t 2 (Or.inl (by omega))]; omega) (tok hT (fun a k z => e3 a k (Or.inl z))) hS3
              refine ⟨J, v_X5_markAlike_22 hg t ht n o ⟨fun z => absurd z (by rw [c2]; omega), fun _ => ⟨by omega, by omega, fun z => absurd (by rw [Int.toNat_natCast, Int.toNat_natCast]; exact e8) z, fun _ => ⟨_, _, c_looksAlike hg ht hT2 (by rw [c2]; omega) (by rw [c2]; omega), fun z => absurd z (by rw [pb_t ((lk o h1 hoc).mpr el)]; decide), fun _ => ⟨by omega, by omega, ?_⟩⟩⟩⟩, fun a k z => (j2 a k z).trans (e3 a k (Or.inl z)), j3⟩
              rintro _ rfl
              rw [Int.toNat_natCast, Int.toNat_natCast, hI3]
              exact ⟨by unfold inR; omega, by rw [show (n : Int) + -1 = (n : Int) - 1 by omega]; exact j1⟩
            · obtain ⟨J, j1, j2, j3⟩ := ih2 (o + 1) (by omega) (by omega) (by omega) (fun o' z1 z2 => by
                by_cases e : o' = o
                · rw [e]; exact el
                · exact hno o' z1 (by omega))
              refine ⟨J, v_X5_markAlike_22 hg t ht n o ⟨fun z => absurd z (by rw [c2]; omega), fun _ => ⟨by omega, by omega, fun z => absurd (by rw [Int.toNat_natCast, Int.toNat_natCast]; exact e8) z, fun _ => ⟨_, _, c_looksAlike hg ht hT2 (by rw [c2]; omega) (by rw [c2]; omega), fun _ => ⟨by unfold inR; omega, j1⟩, fun z => absurd (pb_f (fun y => el ((lk o h1 hoc).mp y))) z⟩⟩⟩, j2, j3⟩
          · obtain ⟨J, j1, j2, j3⟩ := ih2 (o + 1) (by omega) (by omega) (by omega) (fun o' z1 z2 => by
              by_cases e : o' = o
              · rw [e]
                intro el
                have := SmO.lksiz hT hS (show (n : Int) < I t 2 by omega) h1 hoc el
                refine e8 ?_
                rw [e2 _ _ (Or.inl (by omega)), e2 _ _ (Or.inl (by omega))]
                exact this.symm
              · exact hno o' z1 (by omega))
            refine ⟨J, v_X5_markAlike_22 hg t ht n o ⟨fun z => absurd z (by rw [c2]; omega), fun _ => ⟨by omega, by omega, fun _ => ⟨by unfold inR; omega, j1⟩, fun z => absurd (by rw [Int.toNat_natCast, Int.toNat_natCast] at z; exact z) e8⟩⟩, j2, j3⟩
      obtain ⟨J, j1, j2, j3⟩ := lp2 _ (n + 1) (by omega) (by omega) rfl (fun o' z1 z2 => by omega)
      refine ⟨J, v_X5_markAlike_7 hg t ht _ ⟨fun z => absurd z (by omega), fun _ => ⟨by omega, ?_⟩⟩, j2, j3⟩
      rw [show ((n + 1 : Nat) : Int) - 1 = (n : Int) by omega, Int.toNat_natCast, hI2]
      rintro _ rfl
      refine ⟨by unfold inR; omega, ?_⟩
      rintro _ rfl
      exact j1
  obtain ⟨J, j1, j2, j3⟩ := lp (I t 2).toNat I (by omega) h ⟨fun p z1 z2 => by have z2' : (p : Int) < I t 2 := z2; omega, fun p q z1 z2 => by have z2' : (p : Int) < I t 2 := z2; omega, fun p q z1 z2 => by have z2' : (p : Int) < I t 2 := z2; omega⟩
  refine ⟨J, CT.of (R := (none, (g, J))) oX5_markAlike (Nat.le_of_ble_eq_true rfl) (Nat.le_refl _) (Nat.le_refl _) (v_X5_markAlike_0 hg t ht ⟨by unfold inR; omega, ?_⟩), j2, j3⟩
  rintro _ rfl
  rw [show ((I t 2).toNat : Int) - 1 = I t 2 - 1 by omega] at j1
  exact j1
end ALC
