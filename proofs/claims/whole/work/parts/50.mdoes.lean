/-! ===== matching: does, whole and some of the reference ===== -/
/-- rows and deep ones from p on -/
def nl (P : IF) (p : Nat) : Int := (ncI (P 2) 2 (P 0 2).toNat - ncI (P 2) 2 p) + (ncI (P 2) 3 (P 0 2).toNat - ncI (P 2) 3 p)
/-- the tasks at hand stand well, and piece p is the next -/
def TkW (T P : IF) (p : Int) (ks : List Tk) (f : Nat) : Prop := 0 ≤ p ∧ ((WS T P p p ks ∧ 3 * (P 0 2 - p) + ks.length + 1 ≤ f) ∨ (∃ (n : Int) (ks' : List Tk), ks = (p, -1, n, 0) :: ks' ∧ p < P 0 2 ∧ P 2 p.toNat ≠ 2 ∧ (0 ≤ n ∧ n < T 0 2) ∧ WS T P (p + P 8 p.toNat) p ks' ∧ 3 * (P 0 2 - p) + ks'.length ≤ f))
/-- DOES, with this much left -/
def DCt (Γ : GX) (g : AG) (T P : IF) (Df : Nat → Nat → Prop) (f : Nat) : Prop := ∀ (p : Int) (ks : List Tk) (σ I : IF) (c : Int), MSt T P Df I → TkW T P p ks f → ChR I c ks → SgR σ I → SW T σ → 0 ≤ I 80 26 → I 80 26 + 2 * f + 121 * nl P p.toNat ≤ 4000 →
  ∃ J : IF, CT Γ (2 * f + 42) mX8_does [.inr (some 80), .inl c] (g, I) (some (.inl (pb (dD T P Df f ks σ ≠ none))), (g, J)) ∧ Po σ I J (dD T P Df f ks σ) ∧ J 80 26 = I 80 26
section MDO
variable {Γ : GX} {g : AG} {T P I J X σ : IF} {Df : Nat → Nat → Prop} {ks : List Tk} {f : Nat}
theorem nl_nn {p : Nat} (h : p ≤ (P 0 2).toNat) : 0 ≤ nl P p := by
  have h1 := ncI_mono (f := P 2) (p := 2) (x := p) (P 0 2).toNat h
  have h2 := ncI_mono (f := P 2) (p := 3) (x := p) (P 0 2).toNat h
  unfold nl
  omega
theorem nl_s {p : Nat} : nl P p = nl P (p + 1) + (if P 2 p = 2 then 1 else 0) + (if P 2 p = 3 then 1 else 0) := by
  unfold nl
  rw [ncI_succ, ncI_succ]
  omega
theorem nl_le {p q : Nat} (h : p ≤ q) : nl P q ≤ nl P p := by
  have h1 := ncI_mono (f := P 2) (p := 2) (x := p) q h
  have h2 := ncI_mono (f := P 2) (p := 3) (x := p) q h
  unfold nl
  omega
theorem pbn_some {o : Option IF} {τ : IF} (h : o = some τ) : pb (o ≠ none) = 1 := pb_t (by rw [h]; exact fun z => (by cases z))
theorem pbn_none {o : Option IF} (h : o = none) : pb (o ≠ none) = 0 := pb_f (fun z => z h)
/-- WHOLE of the reference -/
theorem m_whole (hg : GOk g) (hP : TOK 1 P) (ih : DCt Γ g T P Df f) {p n : Nat} {next : Int} (hM : MSt T P Df I) (hp : (p : Int) < P 0 2) (hk : P 2 p ≠ 2) (hn : (n : Int) < T 0 2) (hW : WS T P (p + P 8 p) p ks) (hf : 3 * (P 0 2 - p) + ks.length ≤ ((f + 1 : Nat) : Int))
    (hc : ChR I next ks) (hs : SgR σ I) (hw : SW T σ) (h0 : 0 ≤ I 80 26) (hb : I 80 26 + 2 * ((f + 1 : Nat) : Int) + 121 * nl P p ≤ 4000) :
    ∃ J : IF, CT Γ (2 * f + 43) mX8_whole [.inr (some 80), .inl p, .inl n, .inl next] (g, I) (some (.inl (pb (dD T P Df (f + 1) ((p, -1, n, 0) :: ks) σ ≠ none))), (g, J)) ∧ Po σ I J (dD T P Df (f + 1) ((p, -1, n, 0) :: ks) σ) := by
  have hM' := hM
  obtain ⟨hT, -, hSm, hr, hq, hd⟩ := hM
  have hpc := hP.1.2.1
  have htc := hT.1.2.1
  obtain ⟨⟨q2, q3, q4, q7, q8⟩, q0, q6⟩ := hq.2.2.2 p hp
  have i94 : I 94 p = P 2 p := q2
  have i100 : I 100 p = P 9 p := q8
  have nlp := nl_nn (P := P) (p := p) (by omega)
  have nls := nl_s (P := P) (p := p)
  have eD : dD T P Df (f + 1) (((p : Int), -1, (n : Int), 0) :: ks) σ = (if P 2 p = 0 then cif (AtE P p T n ∧ (P 7 p = -1 ↔ T 7 n = -1)) (dD T P Df f (((p : Int), 0, (n : Int), 0) :: ks) σ) none
      else if P 2 p = 1 then (if σ 141 (P 9 p).toNat = -1 then dD T P Df f ks (mset σ 141 (P 9 p).toNat n) else cif (T 11 (σ 141 (P 9 p).toNat).toNat = T 11 n) (dD T P Df f ks σ) none)
      else fs (fun c => dD T P Df f ((tmI (P 8) p 0, -1, (n : Int) + c, 0) :: ks) σ) (T 8 n).toNat 0) := by
    conv => lhs; unfold dD
    rw [if_pos rfl, Int.toNat_natCast, Int.toNat_natCast]
  rw [eD]
  rcases hP.kinds hp with k | k | k | k
  · -- a term
    rw [if_pos k]
    rw [k, if_neg (by decide), if_neg (by decide)] at nls
    have k0 := hT.2.2.2.2.2.2.2.1 rfl n hn
    have hcall := m_isAtomAlike (Γ := Γ) (u := 92) (v := 82) (p := p) (q := n) hg (Or.inr (Or.inl rfl)) (Or.inl rfl) hP hq hT hr hp hn k k0
    by_cases hat : AtE P p T n ∧ (P 7 p = -1 ↔ T 7 n = -1)
    · rw [cif_t hat]
      rw [pb_t hat] at hcall
      obtain ⟨J1, t1, t2⟩ := m_task (Γ := Γ) (I := I) hg p 0 n 0 next (by omega)
      obtain ⟨J2, d1, d2, d3⟩ := ih (p + 1) (((p : Int), 0, (n : Int), 0) :: ks) σ J1 (I 80 26) (hM'.mv t2.fr) ⟨by omega, Or.inl ⟨⟨⟨by omega, hp, by omega, by rw [Int.toNat_natCast]; exact k⟩, ⟨by decide, ncI_nn _ _ _, rfl⟩, by omega, by omega, by rw [Int.toNat_natCast]; exact hW⟩, by simp only [List.length_cons]; omega⟩⟩ (t2.ch h0 hc) (t2.sg hs) hw (by rw [t2.1]; omega) (by rw [t2.1, show ((p : Int) + 1).toNat = p + 1 by omega]; omega)
      refine ⟨J2, CT.of (R := (some (.inl (pb (dD T P Df f (((p : Int), 0, (n : Int), 0) :: ks) σ ≠ none))), (g, J2))) oX8_whole (Nat.le_of_ble_eq_true rfl) (Nat.le_refl _) (Nat.le_refl _) (v_X8_whole_0 (by omega) hg p n next ⟨by omega, fun z => absurd (by rw [Int.toNat_natCast, i94]; exact k) z, fun _ => ⟨_, _, hcall, fun _ => ⟨_, _, t1, _, _, d1, pb_01 _, rfl, rfl⟩, fun z => absurd z (by decide)⟩⟩), t2.fr.tr d2.1, fun a x z1 z2 z3 => ?_, d2.2.2.1, d2.2.2.2⟩
      rw [d2.2.1 a x z1 z2 (by rw [t2.1]; omega)]
      exact t2.old h0 a x z1 z2 z3
    · rw [cif_f hat]
      rw [pb_f hat] at hcall
      exact ⟨I, CT.of oX8_whole (Nat.le_of_ble_eq_true rfl) (Nat.le_refl _) (Nat.le_refl _) (v_X8_whole_0 (by omega) hg p n next ⟨by omega, fun z => absurd (by rw [Int.toNat_natCast, i94]; exact k) z, fun _ => ⟨_, _, hcall, fun z => absurd rfl z, fun _ => ⟨by rw [pbn_none rfl], rfl⟩⟩⟩), FrD.rf, fun _ _ _ _ _ => rfl, fun _ => hs, fun τ z => (by cases z)⟩
  · -- a hole
    rw [if_neg (by omega), if_pos k]
    rw [k, if_neg (by decide), if_neg (by decide)] at nls
    obtain ⟨r1, r2, r3, r4, r5⟩ := hP.l10 hp (Or.inl k)
    have hsz := size_leaf hP hp (Or.inl k)
    obtain ⟨l, el⟩ : ∃ l : Nat, P 9 p = l := ⟨(P 9 p).toNat, by omega⟩
    have hl : l < 26 := by omega
    rw [el, Int.toNat_natCast]
    have hTW : TkW T P ((p : Int) + 1) ks f := ⟨by omega, Or.inl ⟨by rw [hsz] at hW; exact hW.up (by omega), by omega⟩⟩
    have i141 := (hs l hl).1
    have pre : ∀ (r : Option AV) (J : IF), ((I 141 l = -1 → (∀ I9 : IF, I9 = mset I 141 l n → ∃ (r13 : Int) (J11 : IF), CT Γ (2 * f + 42) mX8_does [.inr (some 80), .inl next] (g, I9) (some (.inl r13), (g, J11)) ∧ ((r13 = 0 → (r = some (.inl 0) ∧ J = mset J11 141 l (-1))) ∧ (¬ r13 = 0 → r = some (.inl 1) ∧ J = J11)))) ∧
        (¬ I 141 l = -1 → ∃ (r20 : Int) (J18 : IF), CT Γ 40 mX8_areAlike [.inr (some 80), .inl (I 141 l), .inl n] (g, I) (some (.inl r20), (g, J18)) ∧ ((r20 = 0 → r = some (.inl 0) ∧ J = J18) ∧ (¬ r20 = 0 → ∃ (r24 : Int) (J22 : IF), CT Γ (2 * f + 42) mX8_does [.inr (some 80), .inl next] (g, J18) (some (.inl r24), (g, J22)) ∧ ((r24 = 0 → r = some (.inl 0) ∧ J = J22) ∧ (¬ r24 = 0 → r = some (.inl 1) ∧ J = J22)))))) →
        Ev Γ (2 * f + 42 + 1) mX8_whole 0 [some (.inr (some 80)), some (.inl p), some (.inl n), some (.inl next), none] [] (g, I) (r, (g, J)) := by
      intro r J h
      refine v_X8_whole_0 (by omega) hg p n next ⟨by omega, fun _ => ⟨by omega, fun z => absurd (by rw [Int.toNat_natCast, i94]; exact k) z, fun _ => ⟨by omega, ?_⟩⟩, fun z => absurd z (by rw [Int.toNat_natCast, i94, k]; decide)⟩
      rw [Int.toNat_natCast, i100, el]
      rintro _ rfl
      rw [Int.toNat_natCast]
      refine ⟨by omega, fun z => ⟨by omega, fun I9 e9 => ?_⟩, fun z => ⟨by omega, ?_⟩⟩
      · obtain ⟨r13, J11, x1, x2, x3⟩ := h.1 z I9 e9
        exact ⟨r13, J11, x1, fun y => ⟨by omega, fun I15 e15 => by rw [e15]; exact x2 y⟩, x3⟩
      · obtain ⟨r20, J18, x1, x2, x3⟩ := h.2 z
        refine ⟨r20, J18, x1, fun y => v_X8_whole_107 (by omega) hg (x2 y), fun y => ?_⟩
        obtain ⟨r24, J22, w1, w2, w3⟩ := x3 y
        exact ⟨r24, J22, w1, fun v => v_X8_whole_107 (by omega) hg (w2 v), w3⟩
    by_cases hb1 : σ 141 l = -1
    · rw [if_pos hb1]
      have hs9 : SgR (mset σ 141 l n) (mset I 141 l n) := fun o ho => by
        have := hs o ho
        by_cases e : o = l
        · rw [e] at this ⊢
          rw [mset_s, mset_s, mset_a _ _ (by decide), mset_a _ _ (by decide), mset_a _ _ (by decide), mset_a _ _ (by decide), mset_a _ _ (by decide), mset_a _ _ (by decide), mset_a _ _ (by decide), mset_a _ _ (by decide)]
          exact ⟨rfl, this.2⟩
        · rw [mset_k _ _ e, mset_k _ _ e, mset_a _ _ (by decide), mset_a _ _ (by decide), mset_a _ _ (by decide), mset_a _ _ (by decide), mset_a _ _ (by decide), mset_a _ _ (by decide), mset_a _ _ (by decide), mset_a _ _ (by decide)]
          exact this
      have hw9 : SW T (mset σ 141 l n) := fun o ho => by
        have := hw o ho
        rw [mset_a (a := 141) (b := 143) _ _ (by decide), mset_a (a := 141) (b := 144) _ _ (by decide), mset_a (a := 141) (b := 145) _ _ (by decide)]
        by_cases e : o = l
        · rw [e, mset_s]
          rw [e] at this
          exact ⟨fun _ => ⟨by omega, hn⟩, this.2⟩
        · rw [mset_k _ _ e]
          exact this
      have hf9 : FrD I (mset I 141 l n) := FrD.st (by decide)
      have t9 : (mset I 141 l (n : Int)) 80 26 = I 80 26 := rfl
      obtain ⟨J2, d1, d2, d3⟩ := ih (p + 1) ks (mset σ 141 l n) (mset I 141 l n) next (hM'.mv hf9) hTW (ChR.mv ks next hc (fun a x z1 z2 z3 => mset_a _ _ (by omega)) (by rw [t9]; omega)) hs9 hw9 (by rw [t9]; exact h0) (by rw [t9, show ((p : Int) + 1).toNat = p + 1 by omega]; omega)
      have old : Old I J2 := fun a x z1 z2 z3 => by
        rw [d2.2.1 a x z1 z2 (by rw [t9]; exact z3), mset_a _ _ (by omega)]
      cases e : dD T P Df f ks (mset σ 141 l n) with
      | none =>
        rw [pbn_none e] at d1
        refine ⟨mset J2 141 l (-1), CT.of (R := (some (.inl (pb ((none : Option IF) ≠ none))), (g, mset J2 141 l (-1)))) oX8_whole (Nat.le_of_ble_eq_true rfl) (Nat.le_refl _) (Nat.le_refl _) (pre _ _ ⟨fun _ => ?_, fun z => absurd (i141.trans hb1) z⟩), (hf9.tr d2.1).tr (FrD.st (by decide)), fun a x z1 z2 z3 => ?_, fun _ o ho => ?_, fun τ z => (by cases z)⟩
        · rintro _ rfl
          exact ⟨_, _, d1, fun _ => ⟨by rw [pbn_none rfl], rfl⟩, fun z => absurd rfl z⟩
        · rw [mset_a _ _ (by omega)]
          exact old a x z1 z2 z3
        · have hx := d2.2.2.1 e o ho
          rw [mset_a (b := 143) σ _ (by decide), mset_a (b := 142) σ _ (by decide), mset_a (b := 144) σ _ (by decide), mset_a (b := 145) σ _ (by decide)] at hx
          rw [mset_a (b := 142) _ _ (by decide), mset_a (b := 143) _ _ (by decide), mset_a (b := 144) _ _ (by decide), mset_a (b := 145) _ _ (by decide)]
          by_cases eo : o = l
          · rw [eo, mset_s]
            rw [eo] at hx
            exact ⟨hb1.symm, hx.2⟩
          · rw [mset_k _ _ eo]
            rw [mset_k _ _ eo] at hx
            exact hx
      | some τ =>
        rw [pbn_some e] at d1
        refine ⟨J2, CT.of (R := (some (.inl (pb ((some τ : Option IF) ≠ none))), (g, J2))) oX8_whole (Nat.le_of_ble_eq_true rfl) (Nat.le_refl _) (Nat.le_refl _) (pre _ _ ⟨fun _ => ?_, fun z => absurd (i141.trans hb1) z⟩), hf9.tr d2.1, old, fun z => (by cases z), fun τ' z => by cases z; exact d2.2.2.2 τ e⟩
        rintro _ rfl
        exact ⟨_, _, d1, fun z => absurd z (by decide), fun _ => ⟨by rw [pbn_some rfl], rfl⟩⟩
    · rw [if_neg hb1]
      have w1 := (hw l hl).1 hb1
      have hc1 := m_areAlike40 (Γ := Γ) (p := (σ 141 l).toNat) (q := n) hg hT hr hSm (by omega) hn
      rw [show (((σ 141 l).toNat : Nat) : Int) = σ 141 l by omega, ← i141] at hc1
      have hne : ¬ I 141 l = -1 := by rw [i141]; exact hb1
      rw [i141] at hc1
      by_cases hal : T 11 (σ 141 l).toNat = T 11 n
      · rw [cif_t hal]
        rw [pb_t hal] at hc1
        obtain ⟨J2, d1, d2, d3⟩ := ih (p + 1) ks σ I next hM' hTW hc hs hw h0 (by rw [show ((p : Int) + 1).toNat = p + 1 by omega]; omega)
        refine ⟨J2, CT.of (R := (some (.inl (pb (dD T P Df f ks σ ≠ none))), (g, J2))) oX8_whole (Nat.le_of_ble_eq_true rfl) (Nat.le_refl _) (Nat.le_refl _) (pre _ _ ⟨fun z => absurd z hne, fun _ => ⟨_, _, by rw [i141]; exact hc1, fun z => absurd z (by decide), fun _ => ⟨_, _, d1, fun z => ⟨by rw [z], rfl⟩, fun z => ⟨by rw [pb_t (pb_1.mp z)], rfl⟩⟩⟩⟩), d2.1, d2.2.1, d2.2.2.1, d2.2.2.2⟩
      · rw [cif_f hal]
        rw [pb_f hal] at hc1
        exact ⟨I, CT.of oX8_whole (Nat.le_of_ble_eq_true rfl) (Nat.le_refl _) (Nat.le_refl _) (pre _ _ ⟨fun z => absurd z hne, fun _ => ⟨_, _, by rw [i141]; exact hc1, fun _ => ⟨by rw [pbn_none rfl], rfl⟩, fun z => absurd rfl z⟩⟩), FrD.rf, fun _ _ _ _ _ => rfl, fun _ => hs, fun τ z => (by cases z)⟩
  · exact absurd k hk
  · -- deep
    rw [if_neg (by omega), if_neg (by omega)]
    rw [k, if_neg (by decide), if_pos rfl] at nls
    obtain ⟨s1, s2, s3, s4⟩ := size_deep hP hp k
    have h8 := hT.2.1.2.2.1 n hn
    have nlp1 := nl_nn (P := P) (p := p + 1) (by omega)
    have h01 : tmI (P 8) p 0 = (p : Int) + 1 := rfl
    have hK3 : ncI (P 6) p (P 0 2).toNat = 1 := by
      rcases hP.2.2.1 p hp with z | z | z
      · omega
      · omega
      · exact z.2.2
    have lp : ∀ (m c : Nat) (X : IF), (c : Int) + m = T 8 n → FrD I X → Old I X → X 80 26 = I 80 26 + c → SgR σ X →
        ∃ J : IF, Ev Γ (2 * f + 42 + 1) mX8_whole 140 [some (.inr (some 80)), some (.inl p), some (.inl n), some (.inl next), some (.inl ((n : Int) + c))] [] (g, X) (some (.inl (pb (fs (fun c => dD T P Df f ((tmI (P 8) p 0, -1, (n : Int) + c, 0) :: ks) σ) m c ≠ none))), (g, J)) ∧ Po σ I J (fs (fun c => dD T P Df f ((tmI (P 8) p 0, -1, (n : Int) + c, 0) :: ks) σ) m c) := by
      intro m
      induction m with
      | zero =>
        intro c X hcm hX hO h26 hsX
        have hMX := hM'.mv hX
        have x82 : X 82 2 = T 0 2 := hMX.2.2.2.1.2.1
        refine ⟨X, v_X8_whole_140 (by omega) hg p n next _ ⟨fun _ => v_X8_whole_195 (by omega) hg ⟨pbs_f (fun z => z rfl), rfl⟩, fun z => ?_⟩, hX, hO, fun _ => hsX, fun τ z => (by cases z)⟩
        have hwi := m_isWithin (Γ := Γ) (n := n + c) (p := n) hg hT hMX.2.2.2.1 (by omega) hn
        rw [pb_f (fun y => by omega), show ((n + c : Nat) : Int) = (n : Int) + c by omega] at hwi
        exact ⟨_, _, hwi, fun _ => v_X8_whole_195 (by omega) hg ⟨pbs_f (fun z => z rfl), rfl⟩, fun y => absurd rfl y⟩
      | succ m ih2 =>
        intro c X hcm hX hO h26 hsX
        have hMX := hM'.mv hX
        have x82 : X 82 2 = T 0 2 := hMX.2.2.2.1.2.1
        have hwi := m_isWithin (Γ := Γ) (n := n + c) (p := n) hg hT hMX.2.2.2.1 (by omega) hn
        rw [pb_t (by omega), show ((n + c : Nat) : Int) = (n : Int) + c by omega] at hwi
        have hte := m_term (Γ := Γ) (u := 92) (n := p) (k := 0) hg (Or.inr (Or.inl rfl)) hP hMX.2.2.2.2.1 hp (by rw [hK3]; decide)
        obtain ⟨J1, t1, t2⟩ := m_task (Γ := Γ) (I := X) hg (tmI (P 8) p 0) (-1) ((n : Int) + c) 0 next (by omega)
        have hcX : ChR X next ks := ChR.mv ks next hc hO (by omega)
        obtain ⟨J2, d1, d2, d3⟩ := ih (p + 1) ((tmI (P 8) p 0, -1, (n : Int) + c, 0) :: ks) σ J1 (X 80 26) (hMX.mv t2.fr) ⟨by omega, Or.inr ⟨(n : Int) + c, ks, rfl, by omega, by rw [show ((p : Int) + 1).toNat = p + 1 by omega]; exact s4, by omega, by rw [show ((p : Int) + 1).toNat = p + 1 by omega, show (p : Int) + 1 + P 8 (p + 1) = p + P 8 p by omega]; exact hW.up (by omega), by omega⟩⟩ (t2.ch (by omega) hcX) (t2.sg hsX) hw (by rw [t2.1]; omega) (by rw [t2.1, show ((p : Int) + 1).toNat = p + 1 by omega]; omega)
        have fr2 := hX.tr (t2.fr.tr d2.1)
        have old2 : Old I J2 := fun a x z1 z2 z3 => by
          rw [d2.2.1 a x z1 z2 (by rw [t2.1]; omega), t2.old (by omega) a x z1 z2 (by omega)]
          exact hO a x z1 z2 z3
        cases e : dD T P Df f ((tmI (P 8) p 0, -1, (n : Int) + c, 0) :: ks) σ with
        | none =>
          rw [pbn_none e] at d1
          obtain ⟨J3, e1, e2⟩ := ih2 (c + 1) J2 (by omega) fr2 old2 (by rw [d3, t2.1]; omega) (d2.2.2.1 e)
          rw [fs_n e]
          refine ⟨J3, v_X8_whole_140 (by omega) hg p n next _ ⟨fun z => absurd z (by omega), fun _ => ⟨_, _, hwi, fun z => absurd z (by decide), fun _ => ⟨_, _, hte, _, _, t1, _, _, d1, fun _ => ⟨by unfold inR; omega, by rw [show (n : Int) + c + 1 = (n : Int) + ((c + 1 : Nat) : Int) by omega]; exact e1⟩, fun z => absurd rfl z⟩⟩⟩, e2⟩
        | some τ =>
          rw [pbn_some e] at d1
          rw [fs_s e]
          exact ⟨J2, v_X8_whole_140 (by omega) hg p n next _ ⟨fun z => absurd z (by omega), fun _ => ⟨_, _, hwi, fun z => absurd z (by decide), fun _ => ⟨_, _, hte, _, _, t1, _, _, d1, fun z => absurd z (by decide), fun _ => ⟨by rw [pbn_some rfl], rfl⟩⟩⟩⟩, fr2, old2, fun z => (by cases z), fun τ' z => by cases z; exact d2.2.2.2 τ e⟩
    obtain ⟨J, j1, j2⟩ := lp (T 8 n).toNat 0 I (by omega) FrD.rf (fun _ _ _ _ _ => rfl) (by omega) hs
    refine ⟨J, CT.of (R := (some (.inl (pb (fs (fun c => dD T P Df f ((tmI (P 8) p 0, -1, (n : Int) + c, 0) :: ks) σ) (T 8 n).toNat 0 ≠ none))), (g, J))) oX8_whole (Nat.le_of_ble_eq_true rfl) (Nat.le_refl _) (Nat.le_refl _) (v_X8_whole_0 (by omega) hg p n next ⟨by omega, fun _ => ⟨by omega, fun _ => ?_, fun z => absurd z (by rw [Int.toNat_natCast, i94, k]; decide)⟩, fun z => absurd z (by rw [Int.toNat_natCast, i94, k]; decide)⟩), j2⟩
    rw [show (n : Int) + ((0 : Nat) : Int) = n by omega] at j1
    exact j1
end MDO
