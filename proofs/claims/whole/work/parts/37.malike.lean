/-! ===== the reference's trees: terms, atoms, alike nodes, what is within ===== -/
theorem sb_inj {x y : Int} (h0 : 0 ≤ x) (h1 : x ≤ 255) (h2 : 0 ≤ y) (h3 : y ≤ 255) : sb x = sb y ↔ x = y := by
  unfold sb
  refine ⟨fun z => ?_, fun z => by rw [z]⟩
  split at z <;> split at z <;> omega
theorem ncI_le (f : Nat → Int) (p : Int) : ∀ n : Nat, ncI f p n ≤ n
  | 0 => Int.le_refl _
  | n + 1 => by
    have := ncI_le f p n
    rw [ncI_succ]
    split <;> omega
section MAL
variable {Γ : GX} {g : AG} {I X Y : IF} {u v p q n : Nat} {w w' : Int}
/-- TERM of the reference: the k-th one of a node's -/
theorem m_term (hg : GOk g) (hu : Mt u) (hX : TOK w X) (hr : TR X (tv u I)) (hn : (n : Int) < X 0 2) {k : Nat} (hk : (k : Int) < ncI (X 6) n (X 0 2).toNat) :
    CT Γ 0 mX7_term [.inr (some u), .inl n, .inl k] (g, I) (some (.inl (tmI (X 8) n k)), (g, I)) := by
  have hc : 1 ≤ X 0 2 ∧ X 0 2 ≤ 120 := hX.1.2.1
  obtain ⟨a1, a2, a3, a4, a5⟩ := hX.2.1.tml hn hk
  have in7 : ∀ q : Nat, (q : Int) < X 0 2 → I (u + 7) q = X 6 q := fun q hq => (hr.2.2.2 q hq).1.2.2.2.1
  generalize tmI (X 8) n k = x at a1 a2 a3 a4 a5 ⊢
  obtain ⟨x, rfl⟩ : ∃ y : Nat, x = y := ⟨x.toNat, by omega⟩
  rw [Int.toNat_natCast] at a4 a5
  have hkx := ncI_le (X 6) n x
  have lp : ∀ (m t : Nat), t ≤ x → n < t → m = x - t → Ev Γ 0 mX7_term 7 [some (.inr (some u)), some (.inl n), none, some (.inl ((k : Int) - ncI (X 6) n t)), some (.inl t)] [] (g, I) (some (.inl (x : Int)), (g, I)) := by
    intro m
    induction m with
    | zero =>
      intro t h1 h2 hm
      have e : t = x := by omega
      subst e
      have i7 := in7 t (by omega)
      refine v_X7_term_7 hg u hu n _ t ⟨by omega, fun z => absurd (by rw [Int.toNat_natCast, i7]; exact a4) z, fun _ => ⟨fun _ => ⟨rfl, rfl⟩, fun z => absurd (by omega) z⟩⟩
    | succ m ih =>
      intro t h1 h2 hm
      have i7 := in7 t (by omega)
      have hle := ncI_mono (f := X 6) (p := n) (x := t) x (by omega)
      have hnn := ncI_nn (X 6) n t
      have hs : ncI (X 6) n (t + 1) = ncI (X 6) n t + (if X 6 t = n then 1 else 0) := rfl
      have i := ih (t + 1) (by omega) (by omega) (by omega)
      refine v_X7_term_7 hg u hu n _ t ⟨by omega, fun z => ⟨by omega, fun _ => ⟨by unfold inR; omega, ?_⟩, fun y => absurd y z⟩, fun z => ⟨fun y => ?_, fun y => ⟨by omega, fun x => absurd z x, fun _ => ⟨by unfold inR; omega, by unfold inR; omega, ?_⟩⟩⟩⟩
      · rw [Int.toNat_natCast, i7] at z
        rw [hs, if_neg z, show ncI (X 6) n t + 0 = ncI (X 6) n t by omega] at i
        exact i
      · exfalso
        rw [Int.toNat_natCast, i7] at z
        rw [if_pos z] at hs
        have := ncI_mono (f := X 6) (p := n) (x := t + 1) x (by omega)
        omega
      · rw [Int.toNat_natCast, i7] at z
        rw [hs, if_pos z, show (k : Int) - (ncI (X 6) n t + 1) = k - ncI (X 6) n t + -1 by omega] at i
        exact i
  have hz : ncI (X 6) n (n + 1) = 0 := ncI_zero (fun q hq => by have := hX.2.1.2.1 q (by omega); omega)
  refine CT.of oX7_term (Nat.le_of_ble_eq_true rfl) (Nat.le_refl _) (Nat.le_refl _) (v_X7_term_0 hg u hu n k ⟨by unfold inR; omega, ?_⟩)
  rintro _ rfl
  have l := lp _ (n + 1) (by omega) (by omega) rfl
  rw [hz, show (k : Int) - 0 = k by omega] at l
  exact l
/-- ISWITHIN of the reference -/
theorem m_isWithin (hg : GOk g) (hX : TOK w X) (hr : TR X (tv 82 I)) (hn : (n : Int) < X 0 2) (hp : (p : Int) < X 0 2) :
    CT Γ 0 mX8_isWithin [.inr (some 80), .inl n, .inl p] (g, I) (some (.inl (pb ((p : Int) ≤ n ∧ (n : Int) < p + X 8 p))), (g, I)) := by
  have hc : 1 ≤ X 0 2 ∧ X 0 2 ≤ 120 := hX.1.2.1
  have in7 : ∀ q : Nat, (q : Int) < X 0 2 → I 89 q = X 6 q := fun q hq => (hr.2.2.2 q hq).1.2.2.2.1
  have hp8 := (hX.2.1.2.2.1 p hp).1
  have lp : ∀ (m k : Nat), k ≤ m → (k : Int) < X 0 2 → (((p : Int) ≤ n ∧ (n : Int) < p + X 8 p) ↔ ((p : Int) ≤ k ∧ (k : Int) < p + X 8 p)) → Ev Γ 0 mX8_isWithin 2 [some (.inr (some 80)), none, some (.inl p), some (.inl k)] [] (g, I) (some (.inl (pb ((p : Int) ≤ n ∧ (n : Int) < p + X 8 p))), (g, I)) := by
    intro m
    induction m with
    | zero =>
      intro k h1 h2 he
      have h3 := (hX.2.1.2.1 k h2)
      refine v_X8_isWithin_2 hg p k ⟨fun z => by omega, fun _ => ⟨fun z => ⟨fun y => absurd z y, fun _ => ⟨pbs_t (he.mpr (by omega)), rfl⟩⟩, fun z => ⟨by omega, ?_⟩⟩⟩
      rw [Int.toNat_natCast, in7 k h2]
      rintro _ rfl
      have u1 := (hX.2.1.up h2 hp (by omega)).1 (by omega)
      refine v_X8_isWithin_2 hg p _ ⟨fun z => ⟨fun _ => ⟨pbs_f (fun y => u1 (he.mp y)), rfl⟩, fun y => by omega⟩, fun z => by omega⟩
    | succ m ih =>
      intro k h1 h2 he
      have h3 := (hX.2.1.2.1 k h2)
      refine v_X8_isWithin_2 hg p k ⟨fun z => by omega, fun _ => ⟨fun z => ⟨fun y => absurd z y, fun _ => ⟨pbs_t (he.mpr (by omega)), rfl⟩⟩, fun z => ⟨by omega, ?_⟩⟩⟩
      rw [Int.toNat_natCast, in7 k h2]
      rintro _ rfl
      have u1 := hX.2.1.up h2 hp (by omega)
      by_cases e : X 6 k = -1
      · refine v_X8_isWithin_2 hg p _ ⟨fun z => ⟨fun _ => ⟨pbs_f (fun y => u1.1 e (he.mp y)), rfl⟩, fun y => by omega⟩, fun z => by omega⟩
      · have i := ih (X 6 k).toNat (by omega) (by omega) (he.trans (by rw [show (((X 6 k).toNat : Nat) : Int) = X 6 k by omega]; exact u1.2 e))
        rw [show (((X 6 k).toNat : Nat) : Int) = X 6 k by omega] at i
        exact i
  exact CT.of oX8_isWithin (Nat.le_of_ble_eq_true rfl) (Nat.le_refl _) (Nat.le_refl _) (v_X8_isWithin_0 hg n p (lp n n (Nat.le_refl _) hn Iff.rfl))
/-- ISATOMALIKE of the reference -/
theorem m_isAtomAlike (hg : GOk g) (hu : Mt u) (hv : Mt v) (hX : TOK w X) (hr : TR X (tv u I)) (hY : TOK w' Y) (hs : TR Y (tv v I)) (hp : (p : Int) < X 0 2) (hq : (q : Int) < Y 0 2) (kp : X 2 p = 0) (kq : Y 2 q = 0) :
    CT Γ 0 mX8_isAtomAlike [.inr (some 80), .inr (some u), .inl p, .inr (some v), .inl q] (g, I) (some (.inl (pb (AtE X p Y q ∧ (X 7 p = -1 ↔ Y 7 q = -1)))), (g, I)) := by
  have hc : 1 ≤ X 0 2 ∧ X 0 2 ≤ 120 := hX.1.2.1
  have hc' : 1 ≤ Y 0 2 ∧ Y 0 2 ≤ 120 := hY.1.2.1
  have l1 := hX.1.1.2
  have l2 := hY.1.1.2
  have s1 := hX.2.2.2.2.1.1 p hp
  have s2 := hY.2.2.2.2.1.1 q hq
  obtain ⟨⟨-, r3, -, -, -⟩, r0, -⟩ := hr.2.2.2 p hp
  obtain ⟨⟨-, t3, -, -, -⟩, t0, -⟩ := hs.2.2.2 q hq
  obtain ⟨r5, -, r9⟩ := r0 kp
  obtain ⟨t5, -, t9⟩ := t0 kq
  have r3' : I (u + 3) p = X 3 p := r3
  have t3' : I (v + 3) q = Y 3 q := t3
  have r5' : I (u + 5) p = X 4 p := r5
  have t5' : I (v + 5) q = Y 4 q := t5
  have r9' : I (u + 9) p = (if X 7 p = -1 then 0 else 1) := r9
  have t9' : I (v + 9) q = (if Y 7 q = -1 then 0 else 1) := t9
  have e9 : (I (u + 9) p = I (v + 9) q) ↔ (X 7 p = -1 ↔ Y 7 q = -1) := by
    rw [r9', t9']
    by_cases a : X 7 p = -1
    · by_cases b : Y 7 q = -1
      · simp [a, b]
      · simp [a, b]
    · by_cases b : Y 7 q = -1
      · simp [a, b]
      · simp [a, b]
  refine CT.of oX8_isAtomAlike (Nat.le_of_ble_eq_true rfl) (Nat.le_refl _) (Nat.le_refl _) (v_X8_isAtomAlike_0 hg u hu p v hv q ?_)
  rw [Int.toNat_natCast, Int.toNat_natCast, r3', t3', r5', t5']
  refine ⟨by omega, by omega, by unfold inR; omega, ?_⟩
  rintro _ rfl
  refine ⟨by omega, by omega, by unfold inR; omega, fun z => ⟨pbs_f (fun y => z y.1.1), rfl⟩, fun z => ⟨by omega, by omega, fun y => ?_, fun y => ⟨pbs_f (fun x => y (e9.mpr x.2)), rfl⟩⟩⟩
  have hlen : X 4 p - X 3 p = Y 4 q - Y 3 q := z
  have e : pb (AtE X p Y q ∧ (X 7 p = -1 ↔ Y 7 q = -1)) = pb (∀ k : Nat, (k : Int) < X 4 p - X 3 p → X 1 (X 3 p + k).toNat = Y 1 (Y 3 q + k).toNat) := pb_c ⟨fun y => y.1.2, fun x => ⟨⟨hlen, x⟩, e9.mp y⟩⟩
  rw [e]
  have by1 : ∀ k : Nat, (k : Int) < X 4 p - X 3 p → (I (u + 1) (X 3 p + k).toNat = I (v + 1) (Y 3 q + k).toNat ↔ X 1 (X 3 p + k).toNat = Y 1 (Y 3 q + k).toNat) := fun k hk => by
    have b1 : I (u + 1) (X 3 p + k).toNat = sb (X 1 (X 3 p + k).toNat) := hr.2.2.1 _ (by omega)
    have b2 : I (v + 1) (Y 3 q + k).toNat = sb (Y 1 (Y 3 q + k).toNat) := hs.2.2.1 _ (by omega)
    have c1 := hX.1.2.2 (X 3 p + k).toNat (by omega)
    have c2 := hY.1.2.2 (Y 3 q + k).toNat (by omega)
    rw [b1, b2]
    exact sb_inj c1.1 c1.2 c2.1 c2.2
  have lp : ∀ (m x : Nat) (b : Int), (x : Int) ≤ X 4 p - X 3 p → m = (X 4 p - X 3 p - x).toNat → b = pb (∀ k : Nat, k < x → X 1 (X 3 p + k).toNat = Y 1 (Y 3 q + k).toNat) →
      Ev Γ 0 mX8_isAtomAlike 59 [none, some (.inr (some u)), some (.inl p), some (.inr (some v)), some (.inl q), some (.inl (X 4 p - X 3 p)), some (.inl b), some (.inl x)] [] (g, I) (some (.inl (pb (∀ k : Nat, (k : Int) < X 4 p - X 3 p → X 1 (X 3 p + k).toNat = Y 1 (Y 3 q + k).toNat))), (g, I)) := by
    intro m
    induction m with
    | zero =>
      intro x b h1 hm hb
      have e : b = pb (∀ k : Nat, (k : Int) < X 4 p - X 3 p → X 1 (X 3 p + k).toNat = Y 1 (Y 3 q + k).toNat) := by
        rw [hb]
        exact pb_c ⟨fun y k hk => y k (by omega), fun y k hk => y k (by omega)⟩
      rw [e]
      exact v_X8_isAtomAlike_59 hg u hu p v hv q _ _ x ⟨fun _ => ⟨pb_01 _, rfl, rfl⟩, fun z => absurd (by omega) z⟩
    | succ m ih =>
      intro x b h1 hm hb
      refine v_X8_isAtomAlike_59 hg u hu p v hv q _ b x ⟨fun z => absurd z (by omega), fun _ => ⟨fun z => ⟨by unfold inR; omega, ?_⟩, fun z => ?_⟩⟩
      · refine ih (x + 1) 0 (by omega) (by omega) ?_
        rw [hb, pb_0] at z
        exact (pb_f (fun y => z (fun k hk => y k (by omega)))).symm
      · rw [hb, pb_1] at z
        rw [Int.toNat_natCast, Int.toNat_natCast, r3', t3']
        refine ⟨by omega, by unfold inR; omega, by omega, by omega, by unfold inR; omega, by omega, fun y => ⟨by unfold inR; omega, ?_⟩, fun y => ⟨by unfold inR; omega, ?_⟩⟩
        · refine ih (x + 1) 0 (by omega) (by omega) ?_
          exact (pb_f (fun a => y ((by1 x (by omega)).mpr (a x (by omega))))).symm
        · refine ih (x + 1) 1 (by omega) (by omega) ?_
          refine (pb_t (fun k hk => ?_)).symm
          by_cases e2 : k = x
          · rw [e2]; exact (by1 x (by omega)).mp y
          · exact z k (by omega)
  exact lp _ 0 1 (by omega) rfl (pb_t (fun k hk => by omega)).symm
/-- AREALIKE of the reference -/
theorem m_areAlike (hg : GOk g) (hX : TOK 0 X) (hr : TR X (tv 82 I)) (hS : SmO X 0) {D : Nat → Int} (hD : DOk X D) : ∀ (f p q : Nat), (p : Int) < X 0 2 → (q : Int) < X 0 2 → 13 ≤ D p + f →
    CT Γ (f + 1) mX8_areAlike [.inr (some 80), .inl p, .inl q] (g, I) (some (.inl (pb (X 11 p = X 11 q))), (g, I)) := by
  have hc : 1 ≤ X 0 2 ∧ X 0 2 ≤ 120 := hX.1.2.1
  have k0 := hX.2.2.2.2.2.2.2.1 rfl
  intro f
  induction f with
  | zero =>
    intro p q hp hq hf
    have := hD p hp
    omega
  | succ f ih =>
    intro p q hp hq hf
    obtain ⟨-, r0, r6, r6'⟩ := hr.2.2.2 p hp
    obtain ⟨-, t0, t6, t6'⟩ := hr.2.2.2 q hq
    have r7 : I 88 p = max 0 (X 7 p) := (r0 (k0 p hp)).2.1
    have t7 : I 88 q = max 0 (X 7 q) := (t0 (k0 q hq)).2.1
    have r6a : 0 ≤ I 88 p := r6
    have r6b : I 88 p ≤ 120 := r6'
    have s := hS.2.1 p q (Nat.zero_le _) hp (Nat.zero_le _) hq
    refine CT.of oX8_areAlike (Nat.le_of_ble_eq_true rfl) (Nat.le_refl _) (Nat.le_refl _) (v_X8_areAlike_0 (by omega) hg p q ⟨_, _, m_isAtomAlike hg (Or.inl rfl) (Or.inl rfl) hX hr hX hr hp hq (k0 p hp) (k0 q hq), fun z => ⟨pbs_f (fun y => ?_), rfl⟩, fun z => ⟨by omega, by omega, fun y => ?_, fun y => ⟨pbs_f (fun x => y ?_), rfl⟩⟩⟩)
    · rw [pb_0] at z
      have l := s.mp y
      exact z ⟨l.1, by rw [l.2.1]⟩
    · rw [pb_1] at z
      rw [Int.toNat_natCast, Int.toNat_natCast, r7, t7] at y
      have h7 : X 7 p = X 7 q := by
        have a1 := hX.t7 hp
        have a2 := hX.t7 hq
        have a3 := z.2
        by_cases e1 : X 7 p = -1
        · rw [e1, a3.mp e1]
        · have : X 7 q ≠ -1 := fun e2 => e1 (a3.mpr e2)
          rcases a1 with a1 | a1 <;> rcases a2 with a2 | a2 <;> omega
      have lp : ∀ (m k : Nat) (b : Int), m = (I 88 p - k).toNat → (k : Int) ≤ I 88 p → b = pb (∀ j : Nat, j < k → X 11 (tmI (X 8) p j).toNat = X 11 (tmI (X 8) q j).toNat) →
          Ev Γ (f + 1 + 1) mX8_areAlike 45 [some (.inr (some 80)), some (.inl p), some (.inl q), some (.inl b), some (.inl k)] [] (g, I) (some (.inl (pb (X 11 p = X 11 q))), (g, I)) := by
        have fin : ∀ (k : Nat) (b : Int), b = pb (∀ j : Nat, j < k → X 11 (tmI (X 8) p j).toNat = X 11 (tmI (X 8) q j).toNat) → (b = 0 ∨ I 88 p ≤ k) → (k : Int) ≤ I 88 p → b = pb (X 11 p = X 11 q) := fun k b hb hk hk2 => by
          rw [hb]
          refine pb_c ⟨fun y2 => s.mpr ⟨z.1, h7, fun j hj => ?_⟩, fun y2 j hj => (s.mp y2).2.2 j ?_⟩
          · rcases hk with hk | hk
            · exact absurd hk (by rw [hb, pb_t y2]; decide)
            · exact y2 j (by omega)
          · omega
        intro m
        induction m with
        | zero =>
          intro k b hm hk hb
          have e := fin k b hb (Or.inr (by omega)) hk
          rw [e]
          refine v_X8_areAlike_45 (by omega) hg p q _ k ⟨by omega, fun _ => ⟨pb_01 _, rfl, rfl⟩, fun x => absurd (by rw [Int.toNat_natCast]; omega) x⟩
        | succ m ih2 =>
          intro k b hm hk hb
          have hk7 : (k : Int) < X 7 p := by omega
          have a1 := hX.t7t hp hk7
          have a2 := hX.t7t hq (k := k) (by omega)
          refine v_X8_areAlike_45 (by omega) hg p q b k ⟨by omega, fun x => absurd x (by rw [Int.toNat_natCast]; omega), fun _ => ⟨fun x => ⟨Or.inl x, by rw [fin k b hb (Or.inl x) hk], rfl⟩, fun x => ⟨_, _, m_term hg (Or.inl rfl) hX hr hp (hX.t7c hp hk7), _, _, m_term hg (Or.inl rfl) hX hr hq (hX.t7c hq (by omega)), ?_⟩⟩⟩
          rw [hb, pb_1] at x
          have dp := hD (tmI (X 8) p k).toNat (by omega)
          have dd := dp.2.2.2 (by rw [a1.2.2.2.1]; omega)
          rw [a1.2.2.2.1, Int.toNat_natCast] at dd
          have c := ih (tmI (X 8) p k).toNat (tmI (X 8) q k).toNat (by omega) (by omega) (by omega)
          rw [show (((tmI (X 8) p k).toNat : Nat) : Int) = tmI (X 8) p k by omega, show (((tmI (X 8) q k).toNat : Nat) : Int) = tmI (X 8) q k by omega] at c
          refine ⟨_, _, c, by unfold inR; omega, ih2 (k + 1) _ (by omega) (by omega) (pb_c ⟨fun y2 j hj => ?_, fun y2 => y2 k (by omega)⟩)⟩
          by_cases e : j = k
          · rw [e]; exact y2
          · exact x j (by omega)
      exact lp _ 0 1 rfl (by omega) (pb_t (fun j hj => by omega)).symm
    · have l := s.mp x
      rw [Int.toNat_natCast, Int.toNat_natCast, r7, t7, l.2.1]
theorem m_areAlike40 (hg : GOk g) (hX : TOK 0 X) (hr : TR X (tv 82 I)) (hS : SmO X 0) (hp : (p : Int) < X 0 2) (hq : (q : Int) < X 0 2) :
    CT Γ 40 mX8_areAlike [.inr (some 80), .inl p, .inl q] (g, I) (some (.inl (pb (X 11 p = X 11 q))), (g, I)) := by
  obtain ⟨D, hD⟩ := hX.2.2.2.1
  have := hD p hp
  exact m_areAlike hg hX hr hS hD 39 p q hp hq (by omega)
end MAL
