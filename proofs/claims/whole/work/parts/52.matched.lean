/-! ===== matching: does and isMatched of the reference ===== -/
section MDO3
variable {Γ : GX} {g : AG} {T P I J X σ : IF} {Df : Nat → Nat → Prop} {ks : List Tk} {f : Nat}
theorem WS.le (hP : TOK 1 P) {p b : Int} (h : WS T P p b ks) : p ≤ P 0 2 := by
  cases ks with
  | nil =>
    have : p = P 0 2 := h
    omega
  | cons k t =>
    obtain ⟨a, i, n, j⟩ := k
    obtain ⟨⟨a0, a1, a2, a3⟩, ⟨i0, i1, ip⟩, hn, hj, hrest⟩ := h
    obtain ⟨w1, w2⟩ := WS.child hP ⟨a0, a1, a3⟩ ⟨i0, i1⟩ ip
    have h8 := hP.2.1.2.2.1 a.toNat (by omega)
    by_cases hm : i = max 0 (P 7 a.toNat)
    · have := w1 hm
      omega
    · have := (w2 hm).2.1
      omega
theorem m_does_s (hg : GOk g) (hP : TOK 1 P) (ih : DCt Γ g T P Df f) : DCt Γ g T P Df (f + 1) := by
  intro p ks σ I c hM hT hc hs hw h0 hb
  obtain ⟨hp0, hT⟩ := hT
  -- back to the mark
  have back : ∀ (J5 : IF) (o : Option IF), Po σ I J5 o → Po σ I (mset J5 80 26 (I 80 26)) o ∧ (mset J5 80 26 (I 80 26)) 80 26 = I 80 26 := fun J5 o h => ⟨⟨h.1.tr FrD.s26, fun a k z1 z2 z3 => by rw [mset_a _ _ (by omega)]; exact h.2.1 a k z1 z2 z3, fun z => (h.2.2.1 z).mv (fun a k z1 z2 => mset_a _ _ (by omega)), fun τ z => (h.2.2.2 τ z).mv (fun a k z1 z2 => mset_a _ _ (by omega))⟩, mset_s _ _ _ _⟩
  rcases hT with ⟨hW, hf⟩ | ⟨n, ks', rfl, hpc, hk, hn, hW, hf⟩
  · cases ks with
    | nil =>
      have hc1 : c = -1 := hc
      subst hc1
      have hd := m_differAll (Γ := Γ) hg hM hs hw
      have eD : dD T P Df (f + 1) [] σ = cif (dOk T Df σ) (some σ) none := by conv => lhs; unfold dD
      have ep : pb (dD T P Df (f + 1) [] σ ≠ none) = pb (dOk T Df σ) := by
        rw [eD]
        refine pb_c ⟨fun z => ?_, fun z => by rw [cif_t z]; exact fun y => (by cases y)⟩
        by_cases y : dOk T Df σ
        · exact y
        · rw [cif_f y] at z
          exact absurd rfl z
      refine ⟨I, CT.of (R := (some (.inl (pb (dD T P Df (f + 1) [] σ ≠ none))), (g, I))) oX8_does (Nat.le_of_ble_eq_true rfl) (Nat.le_refl _) (Nat.le_refl _) (v_X8_does_0 (d := 2 * f + 43) (by omega) hg (-1) ⟨fun z => absurd rfl z, fun _ => ⟨_, _, hd, pb_01 _, by rw [ep], rfl⟩⟩), ⟨FrD.rf, fun _ _ _ _ _ => rfl, fun _ => hs, fun τ z => ?_⟩, rfl⟩
      rw [eD] at z
      rw [← (cif_s z).2]
      exact hs
    | cons k t =>
      obtain ⟨a, i, n, j⟩ := k
      have hc' := hc
      obtain ⟨⟨c0, c1⟩, ⟨c2, c3, c4, c5⟩, c6⟩ := hc
      have hi : 0 ≤ i := hW.2.1.1
      have nlp := nl_nn (P := P) (p := p.toNat) (by have := WS.le hP hW; omega)
      obtain ⟨J5, d1, d2⟩ := m_some hg hP ih hM hp0 hW (by simp only [List.length_cons] at hf; omega) hc' hs hw h0 hb
      obtain ⟨b1, b2⟩ := back J5 _ d2
      refine ⟨mset J5 80 26 (I 80 26), CT.of (R := (some (.inl (pb (dD T P Df (f + 1) ((a, i, n, j) :: t) σ ≠ none))), (g, mset J5 80 26 (I 80 26)))) oX8_does (Nat.le_of_ble_eq_true rfl) (Nat.le_refl _) (Nat.le_refl _) (v_X8_does_0 (d := 2 * f + 43) (by omega) hg c ⟨fun _ => ?_, fun z => by omega⟩), b1, b2⟩
      rintro _ rfl
      refine ⟨by omega, fun _ => ⟨_, _, d1, ?_⟩, fun z => by omega⟩
      rintro _ rfl
      exact ⟨pb_01 _, rfl, rfl⟩
  · obtain ⟨⟨c0, c1⟩, ⟨c2, c3, c4, c5⟩, c6⟩ := hc
    have nlp := nl_nn (P := P) (p := p.toNat) (by omega)
    have ep : ((p.toNat : Nat) : Int) = p := by omega
    have en : ((n.toNat : Nat) : Int) = n := by omega
    have hT0 := hM.1.1.2.1
    obtain ⟨J5, d1, d2⟩ := m_whole (p := p.toNat) (n := n.toNat) (next := I 140 c.toNat) hg hP ih hM (by omega) hk (by omega) (by rw [ep]; exact hW) (by rw [ep]; exact hf) c6 hs hw h0 hb
    rw [ep, en] at d1 d2
    obtain ⟨b1, b2⟩ := back J5 _ d2
    refine ⟨mset J5 80 26 (I 80 26), CT.of (R := (some (.inl (pb (dD T P Df (f + 1) ((p, -1, n, 0) :: ks') σ ≠ none))), (g, mset J5 80 26 (I 80 26)))) oX8_does (Nat.le_of_ble_eq_true rfl) (Nat.le_refl _) (Nat.le_refl _) (v_X8_does_0 (d := 2 * f + 43) (by omega) hg c ⟨fun _ => ?_, fun z => by omega⟩), b1, b2⟩
    rintro _ rfl
    refine ⟨by omega, fun z => absurd c3 z, fun _ => ⟨by omega, by omega, by omega, _, _, by rw [c2, c4]; exact d1, ?_⟩⟩
    rintro _ rfl
    exact ⟨pb_01 _, rfl, rfl⟩
theorem m_does (hg : GOk g) (hP : TOK 1 P) : ∀ f : Nat, DCt Γ g T P Df f
  | 0 => fun p ks σ I c hM hT hc hs hw h0 hb => by
    exfalso
    obtain ⟨hp0, hT⟩ := hT
    rcases hT with ⟨hW, hf⟩ | ⟨n, ks', rfl, hpc, hk, hn, hW, hf⟩
    · have := WS.le hP hW
      omega
    · omega
  | f + 1 => m_does_s hg hP (m_does hg hP f)
theorem ncI_one {fn : Nat → Int} {v : Int} : ∀ n : Nat, (∀ p q : Nat, p < n → q < n → fn p = v → fn q = v → p = q) → ncI fn v n ≤ 1
  | 0, _ => (by decide : (0 : Int) ≤ 1)
  | n + 1, h => by
    have i := ncI_one (fn := fn) (v := v) n (fun p q hp hq => h p q (by omega) (by omega))
    rw [ncI_succ]
    by_cases e : fn n = v
    · rw [if_pos e, ncI_zero (fun q hq z => by have := h q n (by omega) (by omega) z e; omega)]
      omega
    · rw [if_neg e]
      omega
theorem nl_0 (hP : TOK 1 P) : nl P 0 ≤ 3 := by
  have h1 := hP.2.2.2.2.2.2.2.2.2.1 rfl
  have h2 := ncI_one (fn := P 2) (v := 3) (P 0 2).toNat (fun p q hp hq z y => hP.2.2.2.2.2.2.2.2.2.2 p q (by omega) (by omega) z y)
  unfold nl
  show (ncI (P 2) 2 (P 0 2).toNat - 0) + (ncI (P 2) 3 (P 0 2).toNat - 0) ≤ 3
  omega
/-- the letters as the class's way has them -/
def LR2 (T P s J : IF) : Prop := ∃ τ : IF, SG T P (P 0 2) s τ ∧ SgR τ J
/-- ISMATCHED of the reference -/
theorem m_isMatched (hg : GOk g) (hM : MSt T P Df I) {fr root : Int} (hF : FRO P fr) (hD : (∀ l : Nat, ¬ Df l l) ∧ ∀ l o : Nat, Df l o → Df o l) (hr : 0 ≤ root ∧ root < T 0 2) :
    ∃ J : IF, CT Γ 901 mX8_isMatched [.inr (some 80), .inl root] (g, I) (some (.inl (pb (WAY T P fr Df root ≠ none))), (g, J)) ∧ FrD I J ∧ ∀ s' : IF, WAY T P fr Df root = some s' → LR2 T P s' J := by
  have hP := hM.2.1
  have hpc := hP.1.2.1
  have k2 : P 2 0 ≠ 2 := fun z => by
    have := hP.2.2.2.2.2.2.1 0 (by omega) z
    have := hP.2.1.2.1 0 (by omega)
    omega
  have hroot : (0 : Int) + P 8 0 = P 0 2 := by
    have h1 := hP.2.1.root ((P 0 2).toNat - 1) ((P 0 2).toNat - 1) (Nat.le_refl _) (by omega)
    have h2 := (hP.2.1.2.2.1 0 (by omega)).2
    omega
  have lp : ∀ (m l : Nat) (X : IF), l + m = 26 → FrD I X → X 80 26 = 0 → (∀ o : Nat, o < l → X 141 o = -1 ∧ X 143 o = -1) → ∃ J : IF, Ev Γ 901 mX8_isMatched 7 [some (.inr (some 80)), some (.inl root), some (.inl l)] [] (g, X) (some (.inl (pb (WAY T P fr Df root ≠ none))), (g, J)) ∧ FrD I J ∧ ∀ s' : IF, WAY T P fr Df root = some s' → LR2 T P s' J := by
    intro m
    induction m with
    | zero =>
      intro l X hl hX h26 hx
      have hMX := hM.mv hX
      obtain ⟨J1, t1, t2⟩ := m_task (Γ := Γ) (I := X) hg 0 (-1) root 0 (-1) (by omega)
      have hs0 : SgR X X := fun o _ => ⟨rfl, rfl, fun _ => ⟨rfl, rfl, rfl⟩⟩
      have hw0 : SW T X := fun o ho => ⟨fun z => absurd (hx o (by omega)).1 z, fun z => absurd (hx o (by omega)).2 z⟩
      have n0 := nl_0 hP
      have hch := t2.ch (ks := []) (by omega) rfl
      rw [h26] at hch t1
      obtain ⟨J2, d1, d2, d3⟩ := m_does (Γ := Γ) hg hP 429 0 [(0, -1, root, 0)] X J1 0 (hMX.mv t2.fr) ⟨by decide, Or.inr ⟨root, [], rfl, by omega, k2, hr, hroot, by simp only [List.length_nil]; omega⟩⟩ hch (t2.sg hs0) hw0 (by rw [t2.1]; omega) (by
        rw [t2.1, h26]
        have : nl P ((0 : Int)).toNat = nl P 0 := rfl
        omega)
      have hrl := main_way (σ := X) (f := 429) hM.1 hP hF hD hr (fun o ho => hx o (by omega)) (by decide)
      have ep : pb (dD T P Df 429 [(0, -1, root, 0)] X ≠ none) = pb (WAY T P fr Df root ≠ none) := by
        cases e : WAY T P fr Df root with
        | none => rw [hrl.1 e]
        | some s' =>
          obtain ⟨τ, t3, -⟩ := hrl.2 s' e
          rw [t3, pbn_some rfl, pbn_some rfl]
      rw [ep] at d1
      refine ⟨J2, v_X8_isMatched_7 hg root l ⟨fun _ => ⟨_, _, t1, _, _, d1, pb_01 _, rfl, rfl⟩, fun z => absurd (by omega) z⟩, hX.tr (t2.fr.tr d2.1), fun s' hs' => ?_⟩
      obtain ⟨τ, t3, t4⟩ := hrl.2 s' hs'
      exact ⟨τ, t4, d2.2.2.2 τ t3⟩
    | succ m ih =>
      intro l X hl hX h26 hx
      obtain ⟨J, j1, j2⟩ := ih (l + 1) (mset (mset X 141 l (-1)) 143 l (-1)) (by omega) (hX.tr ((FrD.st (by decide)).tr (FrD.st (by decide)))) (by rw [mset_a _ _ (by decide), mset_a _ _ (by decide)]; exact h26) (fun o ho => by
        by_cases e : o = l
        · rw [e, mset_a (b := 141) _ _ (by decide), mset_s, mset_s]
          exact ⟨rfl, rfl⟩
        · rw [mset_k _ _ e, mset_k _ _ e, mset_k _ _ e, mset_k _ _ e]
          exact hx o (by omega))
      refine ⟨J, v_X8_isMatched_7 hg root l ⟨fun z => absurd z (by omega), fun _ => ⟨by omega, ?_⟩⟩, j2⟩
      rw [Int.toNat_natCast]
      rintro _ rfl
      refine ⟨by omega, ?_⟩
      rintro _ rfl
      exact ⟨by unfold inR; omega, j1⟩
  obtain ⟨J, j1, j2⟩ := lp 26 0 (mset I 80 26 0) rfl FrD.s26 (mset_s _ _ _ _) (fun o ho => by omega)
  refine ⟨J, CT.of (R := (some (.inl (pb (WAY T P fr Df root ≠ none))), (g, J))) oX8_isMatched (Nat.le_of_ble_eq_true rfl) (Nat.le_refl _) (Nat.le_refl _) (v_X8_isMatched_0 hg root ?_), j2⟩
  rintro _ rfl
  exact j1
/-- KINDOF of the class and of the reference: by the letter's first piece -/
def kdO (X : IF) (l : Nat) : Int := if X 10 l = -1 then -1 else X 2 (X 10 l).toNat
theorem c_kindOf2 {w : Int} (hg : GOc g) {t : Nat} (ht : Tr t) (h : TOK w (tv t I)) {l : Nat} (hl : l < 26) : CT Γ 0 mX5_kindOf [.inr (some t), .inl l] (g, I) (some (.inl (kdO (tv t I) l)), (g, I)) := by
  have h10 := h.2.2.2.2.2.1.2.1 l hl
  have hc := h.1.2.1
  refine CT.of oX5_kindOf (Nat.le_of_ble_eq_true rfl) (Nat.le_refl _) (Nat.le_refl _) (v_X5_kindOf_0 hg t ht l ⟨by omega, ?_⟩)
  rw [Int.toNat_natCast]
  rintro _ rfl
  have e : (tv t I) 10 l = I (t + 10) l := rfl
  unfold kdO
  rw [e]
  rw [e] at h10
  refine ⟨fun z => ⟨by omega, by rw [if_neg z]; rfl, rfl⟩, fun z => ⟨by rw [if_pos z], rfl⟩⟩
theorem m_kindOf {w : Int} (hg : GOk g) {u : Nat} (hu : Mt u) (hX : TOK w X) (hr : TR X (tv u I)) {l : Nat} (hl : l < 26) : CT Γ 0 mX8_kindOf [.inr (some 80), .inr (some u), .inl l] (g, I) (some (.inl (kdO X l)), (g, I)) := by
  have h10 := hX.2.2.2.2.2.1.2.1 l hl
  have hc := hX.1.2.1
  have u2 : I u 2 = X 0 2 := hr.2.1
  have u8 : ∀ p : Nat, (p : Int) < X 0 2 → I (u + 8) p = X 9 p ∧ I (u + 2) p = X 2 p := fun p hp => ⟨(hr.2.2.2 p hp).1.2.2.2.2, (hr.2.2.2 p hp).1.1⟩
  have lp : ∀ (m p : Nat), p + m = (X 0 2).toNat → (∀ q : Nat, q < p → X 9 q ≠ l) → Ev Γ 0 mX8_kindOf 2 [none, some (.inr (some u)), some (.inl l), some (.inl p)] [] (g, I) (some (.inl (kdO X l)), (g, I)) := by
    intro m
    induction m with
    | zero =>
      intro p hp hn
      refine v_X8_kindOf_2 hg u hu l p ⟨fun _ => ⟨some_i ?_, rfl⟩, fun z => absurd (by omega) z⟩
      unfold kdO
      rcases h10 with z | z
      · rw [if_pos z.1]
      · exact absurd z.2.2.1 (hn _ (by omega))
    | succ m ih =>
      intro p hp hn
      have hu8 := u8 p (by omega)
      refine v_X8_kindOf_2 hg u hu l p ⟨fun z => absurd z (by omega), fun _ => ?_⟩
      rw [Int.toNat_natCast, hu8.1, hu8.2]
      refine ⟨by omega, fun z => ⟨by unfold inR; omega, ih (p + 1) (by omega) (fun q hq => ?_)⟩, fun z => ⟨by omega, some_i ?_, rfl⟩⟩
      · by_cases e : q = p
        · rw [e]; exact z
        · exact hn q (by omega)
      · unfold kdO
        rcases h10 with y | ⟨y1, y2, y3, y4⟩
        · exact absurd z (y.2 p (by omega))
        · rw [if_neg (by omega)]
          exact ((y4 p (by omega) z).2).symm
  exact CT.of oX8_kindOf (Nat.le_of_ble_eq_true rfl) (Nat.le_refl _) (Nat.le_refl _) (v_X8_kindOf_0 hg u hu l (lp (X 0 2).toNat 0 (by omega) (fun q hq => by omega)))
end MDO3
