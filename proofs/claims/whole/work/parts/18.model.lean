/-! ===== the reference's reader: its small methods ===== -/
def sb (x : Int) : Int := if x < 128 then x else x - 256
theorem bAnd_sb {x : Int} (h0 : 0 ≤ x) (h1 : x ≤ 255) : bAnd (sb x) 255 = x := by
  have h : ∀ n : Nat, n < 256 → bAnd (sb (n : Int)) 255 = (n : Int) := by decide +kernel
  have := h x.toNat (by omega)
  rwa [show ((x.toNat : Nat) : Int) = x by omega] at this
theorem atomb_sb {x : Int} (h0 : 0 ≤ x) (h1 : x ≤ 255) : atomb (sb x) = atomb x := by
  unfold atomb sb
  split
  · rfl
  · rw [decide_eq_decide]
    omega
theorem sb_eq {x y : Int} (h0 : 0 ≤ x) (h1 : x ≤ 255) (h2 : 0 ≤ y) (h3 : y < 128) : sb x = y ↔ x = y := by
  unfold sb
  split <;> omega
theorem mt_rng {u : Nat} (hu : Mt u) : 82 ≤ u ∧ u ≤ 122 := by
  rcases hu with rfl | rfl | rfl | rfl | rfl <;> decide
/-- the reference's tree u holds the class's bytes -/
def BR (I K : IF) (u : Nat) : Prop := I u 1 = K 39 1 ∧ (0 ≤ K 39 1 ∧ K 39 1 ≤ 240) ∧ ∀ j : Nat, (j : Int) < K 39 1 → I (u + 1) j = sb (K 40 j) ∧ 0 ≤ K 40 j ∧ K 40 j ≤ 255
/-- the next place that counts -/
def nx (K : IF) (e : Int) : Int := skp K (K 39 1 - e).toNat e
def cur (K : IF) (e : Int) : Int := if K 39 1 ≤ e then -1 else K 40 e.toNat
section MR
variable {Γ : GX} {g : AG} {I K : IF} {u : Nat}
theorem BR.mv (h : BR I K u) {J : IF} (h1 : J u 1 = I u 1) (h2 : ∀ j : Nat, J (u + 1) j = I (u + 1) j) : BR J K u := ⟨h1.trans h.1, h.2.1, fun j hj => by rw [h2 j]; exact h.2.2 j hj⟩
theorem m_look_61 (hg : GOk g) (hu : Mt u) (cu : g.2.1 80 12 = some u) (hB : BR I K u) (ha : 0 ≤ I 80 14) : Ev Γ 0 mX8_look 61 [some (.inr (some 80))] [] (g, I) (some (.inl (cur K (I 80 14))), (g, I)) := by
  obtain ⟨b1, b2, b3⟩ := hB
  refine v_X8_look_61 hg u hu cu ⟨fun c => ⟨?_, rfl⟩, fun c => ⟨by omega, ?_, rfl⟩⟩
  · unfold cur
    rw [if_pos (by omega)]
  · obtain ⟨c1, c2, c3⟩ := b3 (I 80 14).toNat (by omega)
    unfold cur
    rw [if_neg (by omega), c1, bAnd_sb c2 c3]
theorem m_look_0 (hg : GOk g) (hu : Mt u) (cu : g.2.1 80 12 = some u) : ∀ (n : Nat) (I : IF), BR I K u → 0 ≤ I 80 14 → I 80 14 ≤ K 39 1 → n = (K 39 1 - I 80 14).toNat →
    Ev Γ 0 mX8_look 0 [some (.inr (some 80))] [] (g, I) (some (.inl (cur K (skp K n (I 80 14)))), (g, mset I 80 14 (skp K n (I 80 14)))) := by
  intro n
  induction n with
  | zero =>
    intro I hB h0 h1 hn
    have hB' := hB
    obtain ⟨b1, b2, b3⟩ := hB
    refine v_X8_look_0 hg u hu cu ⟨fun c => ?_, fun c => absurd c (by omega)⟩
    have h := m_look_61 (Γ := Γ) hg hu cu hB' h0
    rw [show mset I 80 14 (skp K 0 (I 80 14)) = I from mset_id rfl]
    exact h
  | succ n ih =>
    intro I hB h0 h1 hn
    have hB' := hB
    obtain ⟨b1, b2, b3⟩ := hB
    have hlt : I 80 14 < K 39 1 := by omega
    obtain ⟨c1, c2, c3⟩ := b3 (I 80 14).toNat (by omega)
    have hu' := mt_rng hu
    have step : blankb (K 40 (I 80 14).toNat) = true → Ev Γ 0 mX8_look 48 [some (.inr (some 80))] [] (g, I) (some (.inl (cur K (skp K (n + 1) (I 80 14)))), (g, mset I 80 14 (skp K (n + 1) (I 80 14)))) := by
      intro hb
      refine v_X8_look_48 hg ⟨by unfold inR; omega, ?_⟩
      rintro _ rfl
      have e1 : skp K (n + 1) (I 80 14) = skp K n (I 80 14 + 1) := by
        conv => lhs; unfold skp
        rw [if_pos ⟨hlt, hb⟩]
      have h := ih (mset I 80 14 (I 80 14 + 1)) (hB'.mv (mset_a _ _ (by omega)) (fun j => mset_a _ _ (by omega))) (by show 0 ≤ I 80 14 + 1; omega) (by show I 80 14 + 1 ≤ K 39 1; omega) (by show n = (K 39 1 - (I 80 14 + 1)).toNat; omega)
      rw [mset_mset] at h
      rw [e1]
      exact h
    have stop : blankb (K 40 (I 80 14).toNat) = false → Ev Γ 0 mX8_look 61 [some (.inr (some 80))] [] (g, I) (some (.inl (cur K (skp K (n + 1) (I 80 14)))), (g, mset I 80 14 (skp K (n + 1) (I 80 14)))) := by
      intro hb
      have e1 : skp K (n + 1) (I 80 14) = I 80 14 := by
        unfold skp
        rw [if_neg (fun z => by rw [hb] at z; exact absurd z.2 (by decide))]
      rw [e1, mset_id rfl]
      exact m_look_61 hg hu cu hB' h0
    have hbl : blankb (K 40 (I 80 14).toNat) = decide (K 40 (I 80 14).toNat = 32 ∨ K 40 (I 80 14).toNat = 10) := rfl
    refine v_X8_look_0 hg u hu cu ⟨fun c => absurd c (by omega), fun c => ⟨by omega, fun c4 => ?_, fun c4 => ⟨by omega, fun c5 => ?_, fun c5 => ?_⟩⟩⟩
    · rw [c1, sb_eq c2 c3 (by decide) (by decide)] at c4
      exact step (by rw [hbl, decide_eq_true_eq]; exact Or.inl c4)
    · rw [c1, sb_eq c2 c3 (by decide) (by decide)] at c4
      rw [c1, sb_eq c2 c3 (by decide) (by decide)] at c5
      exact stop (by rw [hbl, decide_eq_false_iff_not]; omega)
    · rw [c1, sb_eq c2 c3 (by decide) (by decide)] at c5
      exact step (by rw [hbl, decide_eq_true_eq]; exact Or.inr c5)
/-- LOOK of the reference -/
theorem m_look (hg : GOk g) (hu : Mt u) (cu : g.2.1 80 12 = some u) (hB : BR I K u) (h0 : 0 ≤ I 80 14) (h1 : I 80 14 ≤ K 39 1) :
    CT Γ 0 mX8_look [.inr (some 80)] (g, I) (some (.inl (cur K (nx K (I 80 14)))), (g, mset I 80 14 (nx K (I 80 14)))) :=
  CT.of (R := (some (.inl (cur K (nx K (I 80 14)))), (g, mset I 80 14 (nx K (I 80 14))))) oX8_look (Nat.le_of_ble_eq_true rfl) (Nat.le_refl _) (Nat.le_refl _) (m_look_0 hg hu cu _ I hB h0 h1 rfl)
theorem m_wrong (hg : GOk g) (hf : I 80 15 = -1) : CT Γ 0 mX8_wrong [.inr (some 80)] (g, I) (some (.inl 0), (g, mset I 80 15 (I 80 14))) := by
  refine CT.of oX8_wrong (Nat.le_of_ble_eq_true rfl) (Nat.le_refl _) (Nat.le_refl _) (v_X8_wrong_0 hg ⟨fun c => absurd hf c, fun c => ?_⟩)
  rintro _ rfl
  exact ⟨rfl, rfl⟩
theorem m_opens (hg : GOk g) (hf : I 80 15 = -1) (hd : -300 ≤ I 80 16 ∧ I 80 16 ≤ 12) (ha : 0 ≤ I 80 14 ∧ I 80 14 ≤ 240) :
    CT Γ 1 mX8_opens [.inr (some 80)] (g, I) (if I 80 16 = 12 then (some (.inl 0), (g, mset I 80 15 (I 80 14))) else (some (.inl 1), (g, mset (mset I 80 16 (I 80 16 + 1)) 80 14 (I 80 14 + 1)))) := by
  by_cases c : I 80 16 = 12
  · rw [if_pos c]
    refine CT.of oX8_opens (Nat.le_of_ble_eq_true rfl) (Nat.le_refl _) (Nat.le_refl _) (v_X8_opens_0 hg ⟨fun c2 => absurd c c2, fun c2 => ⟨_, _, m_wrong hg hf, Or.inl rfl, rfl, rfl⟩⟩)
  · rw [if_neg c]
    refine CT.of oX8_opens (Nat.le_of_ble_eq_true rfl) (Nat.le_refl _) (Nat.le_refl _) (v_X8_opens_0 hg ⟨fun c2 => ⟨by unfold inR; omega, ?_⟩, fun c2 => absurd c2 c⟩)
    rintro _ rfl
    refine ⟨by show inR (I 80 14 + 1); unfold inR; omega, ?_⟩
    rintro _ rfl
    exact ⟨rfl, rfl⟩
/-- what ADDS has made -/
def AD (u : Nat) (kd inn : Int) (I J : IF) : Prop :=
  J u 2 = I u 2 + 1 ∧ (∀ a k : Nat, a ≠ u → a ≠ u + 2 → a ≠ u + 3 → a ≠ u + 6 → a ≠ u + 7 → a ≠ u + 8 → a ≠ u + 9 → J a k = I a k) ∧ (∀ k : Nat, k ≠ 2 → J u k = I u k) ∧
  (∀ p : Nat, J (u + 2) p = if p = (I u 2).toNat then kd else I (u + 2) p) ∧ (∀ p : Nat, J (u + 3) p = if p = (I u 2).toNat then I 80 14 else I (u + 3) p) ∧ (∀ p : Nat, J (u + 7) p = if p = (I u 2).toNat then inn else I (u + 7) p) ∧
  (∀ p : Nat, J (u + 8) p = if p = (I u 2).toNat then -1 else I (u + 8) p) ∧ (∀ p : Nat, J (u + 9) p = if p = (I u 2).toNat then 0 else I (u + 9) p) ∧
  (∀ p : Nat, J (u + 6) p = if p = (I u 2).toNat then 0 else if inn ≠ -1 ∧ p = inn.toNat then I (u + 6) p + 1 else I (u + 6) p)
theorem m_adds (hg : GOk g) (hu : Mt u) (cu : g.2.1 80 12 = some u) (kd inn : Int) (hc : 0 ≤ I u 2 ∧ I u 2 < 240) (hi : -1 ≤ inn ∧ inn < I u 2) (ht : inn ≠ -1 → 0 ≤ I (u + 6) inn.toNat ∧ I (u + 6) inn.toNat ≤ 240) :
    ∃ J : IF, CT Γ 0 mX8_adds [.inr (some 80), .inl kd, .inl inn] (g, I) (some (.inl (I u 2)), (g, J)) ∧ AD u kd inn I J := by
  have hu' := mt_rng hu
  have e80 : ∀ (X : IF) (a k : Nat) (x : Int), 82 ≤ a → mset X a k x 80 14 = X 80 14 := fun X a k x h => mset_a _ _ (by omega)
  generalize hX : mset (mset (mset (mset (mset (mset (mset I u 2 (I u 2 + 1)) (u + 2) (I u 2).toNat kd) (u + 3) (I u 2).toNat (I 80 14)) (u + 7) (I u 2).toNat inn) (u + 6) (I u 2).toNat 0) (u + 9) (I u 2).toNat 0) (u + 8) (I u 2).toNat (-1) = X
  have hat : mset (mset I u 2 (I u 2 + 1)) (u + 2) (I u 2).toNat kd 80 14 = I 80 14 := by rw [e80 _ _ _ _ (by omega), e80 _ _ _ _ (by omega)]
  have x2 : X u 2 = I u 2 + 1 := by
    rw [← hX, mset_a _ _ (by omega), mset_a _ _ (by omega), mset_a _ _ (by omega), mset_a _ _ (by omega), mset_a _ _ (by omega), mset_a _ _ (by omega), mset_s]
  have xo : ∀ a k : Nat, a ≠ u → a ≠ u + 2 → a ≠ u + 3 → a ≠ u + 6 → a ≠ u + 7 → a ≠ u + 8 → a ≠ u + 9 → X a k = I a k := fun a k q1 q2 q3 q4 q5 q6 q7 => by
    rw [← hX, mset_a _ _ q6, mset_a _ _ q7, mset_a _ _ q4, mset_a _ _ q5, mset_a _ _ q3, mset_a _ _ q2, mset_a _ _ q1]
  have xu : ∀ k : Nat, k ≠ 2 → X u k = I u k := fun k q => by
    rw [← hX, mset_a _ _ (by omega), mset_a _ _ (by omega), mset_a _ _ (by omega), mset_a _ _ (by omega), mset_a _ _ (by omega), mset_a _ _ (by omega), mset_k _ _ q]
  have xv : ∀ (Y : IF) (a p : Nat) (v : Int), mset Y a (I u 2).toNat v a p = if p = (I u 2).toNat then v else Y a p := fun Y a p v => by
    unfold mset
    by_cases q : p = (I u 2).toNat
    · rw [if_pos ⟨rfl, q⟩, if_pos q]
    · rw [if_neg (fun z => q z.2), if_neg q]
  have x22 : ∀ p : Nat, X (u + 2) p = if p = (I u 2).toNat then kd else I (u + 2) p := fun p => by
    rw [← hX, mset_a _ _ (by omega), mset_a _ _ (by omega), mset_a _ _ (by omega), mset_a _ _ (by omega), mset_a _ _ (by omega), xv, mset_a _ _ (by omega)]
  have x23 : ∀ p : Nat, X (u + 3) p = if p = (I u 2).toNat then I 80 14 else I (u + 3) p := fun p => by
    rw [← hX, mset_a _ _ (by omega), mset_a _ _ (by omega), mset_a _ _ (by omega), mset_a _ _ (by omega), xv, mset_a _ _ (by omega), mset_a _ _ (by omega)]
  have x27 : ∀ p : Nat, X (u + 7) p = if p = (I u 2).toNat then inn else I (u + 7) p := fun p => by
    rw [← hX, mset_a _ _ (by omega), mset_a _ _ (by omega), mset_a _ _ (by omega), xv, mset_a _ _ (by omega), mset_a _ _ (by omega), mset_a _ _ (by omega)]
  have x26 : ∀ p : Nat, X (u + 6) p = if p = (I u 2).toNat then 0 else I (u + 6) p := fun p => by
    rw [← hX, mset_a _ _ (by omega), mset_a _ _ (by omega), xv, mset_a _ _ (by omega), mset_a _ _ (by omega), mset_a _ _ (by omega), mset_a _ _ (by omega)]
  have x29 : ∀ p : Nat, X (u + 9) p = if p = (I u 2).toNat then 0 else I (u + 9) p := fun p => by
    rw [← hX, mset_a _ _ (by omega), xv, mset_a _ _ (by omega), mset_a _ _ (by omega), mset_a _ _ (by omega), mset_a _ _ (by omega), mset_a _ _ (by omega)]
  have x28 : ∀ p : Nat, X (u + 8) p = if p = (I u 2).toNat then -1 else I (u + 8) p := fun p => by
    rw [← hX, xv, mset_a _ _ (by omega), mset_a _ _ (by omega), mset_a _ _ (by omega), mset_a _ _ (by omega), mset_a _ _ (by omega), mset_a _ _ (by omega)]
  have run : ∀ (r : Option AV) (J : IF), (inn = -1 → r = some (.inl (I u 2)) ∧ J = X) → (inn ≠ -1 → r = some (.inl (I u 2)) ∧ J = mset X (u + 6) inn.toNat (X (u + 6) inn.toNat + 1)) → Ev Γ 0 mX8_adds 0 [some (.inr (some 80)), some (.inl kd), some (.inl inn), none] [] (g, I) (r, (g, J)) := by
    intro r J q1 q2
    refine v_X8_adds_0 hg kd inn u hu cu ?_
    rintro _ rfl
    refine ⟨by unfold inR; omega, ?_⟩
    rintro _ rfl
    refine ⟨hc, ?_⟩
    rintro _ rfl
    refine ⟨hc, ?_⟩
    rw [hat]
    rintro _ rfl
    refine ⟨hc, ?_⟩
    rintro _ rfl
    refine ⟨hc, ?_⟩
    rintro _ rfl
    refine ⟨hc, ?_⟩
    rintro _ rfl
    refine ⟨hc, ?_⟩
    rw [hX]
    rintro _ rfl
    refine ⟨q1, fun c => ⟨by omega, ?_, by omega, ?_⟩⟩
    · have h3 := ht c
      rw [x26]
      split <;> (unfold inR; omega)
    · rintro _ rfl
      exact q2 c
  by_cases c : inn = -1
  · refine ⟨X, CT.of oX8_adds (Nat.le_of_ble_eq_true rfl) (Nat.le_refl _) (Nat.le_refl _) (run _ _ (fun _ => ⟨rfl, rfl⟩) (fun z => absurd c z)), x2, xo, xu, x22, x23, x27, x28, x29, fun p => ?_⟩
    rw [x26]
    split
    · rfl
    · rw [if_neg (fun z => z.1 c)]
  · have hne : inn.toNat ≠ (I u 2).toNat := by omega
    refine ⟨mset X (u + 6) inn.toNat (X (u + 6) inn.toNat + 1), CT.of (R := (some (.inl (I u 2)), (g, mset X (u + 6) inn.toNat (X (u + 6) inn.toNat + 1)))) oX8_adds (Nat.le_of_ble_eq_true rfl) (Nat.le_refl _) (Nat.le_refl _) (run _ _ (fun z => absurd z c) (fun _ => ⟨rfl, rfl⟩)), (mset_a _ _ (by omega)).trans x2, fun a k q1 q2 q3 q4 q5 q6 q7 => (mset_a _ _ q4).trans (xo a k q1 q2 q3 q4 q5 q6 q7), fun k q => (mset_a _ _ (by omega)).trans (xu k q), fun p => (mset_a _ _ (by omega)).trans (x22 p), fun p => (mset_a _ _ (by omega)).trans (x23 p), fun p => (mset_a _ _ (by omega)).trans (x27 p), fun p => (mset_a _ _ (by omega)).trans (x28 p), fun p => (mset_a _ _ (by omega)).trans (x29 p), fun p => ?_⟩
    by_cases q : p = inn.toNat
    · subst q
      rw [mset_s, x26, if_neg hne, if_neg hne, if_pos ⟨c, rfl⟩]
    · rw [mset_k _ _ q, x26]
      split
      · rfl
      · rw [if_neg (fun z => q z.2)]
end MR
