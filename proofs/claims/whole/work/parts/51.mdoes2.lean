/-! ===== matching: some, does and isMatched of the reference ===== -/
section MDO2
variable {Γ : GX} {g : AG} {T P I J X σ : IF} {Df : Nat → Nat → Prop} {ks : List Tk} {f : Nat}
theorem rBind_sg {l : Nat} {k n j : Int} (hs : SgR σ X) (hk : k ≠ -1) : SgR (rBind T σ l k n j) (mset (mset (mset (mset X 143 l k) 144 l n) 145 l j) 142 l (if k = 0 then -1 else tmI (T 8) n j.toNat)) := fun o ho => by
  have h := hs o ho
  by_cases e : o = l
  · rw [e] at h ⊢
    obtain ⟨v1, v2, v3, v4⟩ := rBind_v (T := T) (σ := σ) (l := l) (k := k) (n := n) (j := j)
    rw [rBind_141, v1, v2, v3, v4, mset_a (b := 141) _ _ (by decide), mset_a (b := 141) _ _ (by decide), mset_a (b := 141) _ _ (by decide), mset_a (b := 141) _ _ (by decide), mset_a (b := 143) _ _ (by decide), mset_a (b := 143) _ _ (by decide), mset_a (b := 143) _ _ (by decide), mset_s, mset_s, mset_a (b := 144) _ _ (by decide), mset_a (b := 144) _ _ (by decide), mset_s, mset_a (b := 145) _ _ (by decide), mset_s]
    exact ⟨h.1, rfl, fun _ => ⟨rfl, rfl, rfl⟩⟩
  · rw [rBind_o e, rBind_o e, rBind_o e, rBind_o e, rBind_o e]
    rw [mset_k _ _ e, mset_k _ _ e, mset_k _ _ e, mset_k _ _ e, mset_k _ _ e, mset_k _ _ e, mset_k _ _ e, mset_k _ _ e, mset_k _ _ e, mset_k _ _ e, mset_k _ _ e, mset_k _ _ e, mset_k _ _ e, mset_k _ _ e, mset_k _ _ e, mset_k _ _ e, mset_k _ _ e, mset_k _ _ e, mset_k _ _ e, mset_k _ _ e]
    exact h
theorem rBind_sw {l : Nat} {k n j : Int} (hw : SW T σ) (hk : 0 ≤ k) (hn : 0 ≤ n ∧ n < T 0 2) (hj : 0 ≤ j) (hjk : j + k ≤ max 0 (T 7 n.toNat)) : SW T (rBind T σ l k n j) := fun o ho => by
  have h := hw o ho
  by_cases e : o = l
  · rw [e] at h ⊢
    obtain ⟨v1, v2, v3, v4⟩ := rBind_v (T := T) (σ := σ) (l := l) (k := k) (n := n) (j := j)
    rw [rBind_141, v1, v2, v3]
    exact ⟨h.1, fun _ => ⟨hk, hn, hj, hjk⟩⟩
  · rw [rBind_o e, rBind_o e, rBind_o e, rBind_o e]
    exact h
theorem unbind_sg {l : Nat} {k n j : Int} (hb : σ 143 l = -1) (hs : SgR (rBind T σ l k n j) X) : SgR σ (mset X 143 l (-1)) := fun o ho => by
  have h := hs o ho
  by_cases e : o = l
  · rw [e] at h ⊢
    rw [rBind_141] at h
    rw [mset_a (b := 141) _ _ (by decide), mset_s, hb]
    exact ⟨h.1, rfl, fun z => absurd rfl z⟩
  · rw [rBind_o e, rBind_o e, rBind_o e, rBind_o e, rBind_o e] at h
    rw [mset_a (b := 141) _ _ (by decide), mset_k _ _ e, mset_a (b := 142) _ _ (by decide), mset_a (b := 144) _ _ (by decide), mset_a (b := 145) _ _ (by decide)]
    exact h
/-- SOME of the reference -/
theorem m_some (hg : GOk g) (hP : TOK 1 P) (ih : DCt Γ g T P Df f) {a i n j c p : Int} (hM : MSt T P Df I) (hp0 : 0 ≤ p) (hW : WS T P p p ((a, i, n, j) :: ks)) (hf : 3 * (P 0 2 - p) + (ks.length + 1 : Nat) + 1 ≤ ((f + 1 : Nat) : Int))
    (hc : ChR I c ((a, i, n, j) :: ks)) (hs : SgR σ I) (hw : SW T σ) (h0 : 0 ≤ I 80 26) (hb : I 80 26 + 2 * ((f + 1 : Nat) : Int) + 121 * nl P p.toNat ≤ 4000) :
    ∃ J : IF, CT Γ (2 * f + 43) mX8_some [.inr (some 80), .inl c] (g, I) (some (.inl (pb (dD T P Df (f + 1) ((a, i, n, j) :: ks) σ ≠ none))), (g, J)) ∧ Po σ I J (dD T P Df (f + 1) ((a, i, n, j) :: ks) σ) := by
  have hM' := hM
  obtain ⟨hT, -, hSm, hr, hq, hd⟩ := hM
  obtain ⟨⟨a0, a1, a2, a3⟩, ⟨i0, i1, ip⟩, hn, hj, hrest⟩ := hW
  obtain ⟨⟨c0, c1⟩, ⟨c2, c3, c4, c5⟩, c6⟩ := hc
  obtain ⟨w1, w2⟩ := WS.child hP ⟨a0, a1, a3⟩ ⟨i0, i1⟩ ip
  have hpc := hP.1.2.1
  have htc := hT.1.2.1
  have ea : ((a.toNat : Nat) : Int) = a := by omega
  have en : ((n.toNat : Nat) : Int) = n := by omega
  have k0 := hT.2.2.2.2.2.2.2.1 rfl n.toNat (by omega)
  have t7n := hT.t7n (n := n.toNat) (by omega)
  obtain ⟨-, q0, q6⟩ := hq.2.2.2 a.toNat (by omega)
  have i98 : I 98 a.toNat = max 0 (P 7 a.toNat) := (q0 a3).2.1
  obtain ⟨-, r0, r6⟩ := hr.2.2.2 n.toNat (by omega)
  have i88 : I 88 n.toNat = max 0 (T 7 n.toNat) := (r0 k0).2.1
  have hp7 := hP.p7 (a := a.toNat) (by omega) a3
  rw [ea] at hp7
  have hple : p.toNat ≤ (P 0 2).toNat := by
    have h8 := hP.2.1.2.2.1 a.toNat (by omega)
    by_cases hm : i = max 0 (P 7 a.toNat)
    · have := w1 hm; omega
    · have := (w2 hm).2.1; omega
  have nlp := nl_nn (P := P) (p := p.toNat) hple
  have nls := nl_s (P := P) (p := p.toNat)
  -- the first step
  have pre : ∀ (r : Option AV) (J : IF), ((i = max 0 (P 7 a.toNat) → ((¬ j = max 0 (T 7 n.toNat) → (r = some (.inl 0) ∧ J = I)) ∧ (j = max 0 (T 7 n.toNat) → ∃ (r42 : Int) (J40 : IF), CT Γ (2 * f + 42) mX8_does [.inr (some 80), .inl (I 140 c.toNat)] (g, I) (some (.inl r42), (g, J40)) ∧ ((r42 = 0 → r = some (.inl 0) ∧ J = J40) ∧ (¬ r42 = 0 → r = some (.inl 1) ∧ J = J40))))) ∧
      (i ≠ max 0 (P 7 a.toNat) → ((P 2 p.toNat = 2 → ((σ 143 (P 9 p.toNat).toNat = -1 → Ev Γ (2 * f + 42 + 1) mX8_some 196 [some (.inr (some 80)), none, some (.inl a), some (.inl i), some (.inl n), some (.inl j), some (.inl (I 140 c.toNat)), none, some (.inl (P 9 p.toNat)), some (.inl 0), some (.inl 0)] [] (g, I) (r, (g, J))) ∧ (¬ σ 143 (P 9 p.toNat).toNat = -1 → Ev Γ (2 * f + 42 + 1) mX8_some 196 [some (.inr (some 80)), none, some (.inl a), some (.inl i), some (.inl n), some (.inl j), some (.inl (I 140 c.toNat)), none, some (.inl (P 9 p.toNat)), some (.inl 1), some (.inl 0)] [] (g, I) (r, (g, J))))) ∧
        (¬ P 2 p.toNat = 2 → ((j = max 0 (T 7 n.toNat) → r = some (.inl 0) ∧ J = I) ∧ (¬ j = max 0 (T 7 n.toNat) → ∃ (r31 : Int) (J29 : IF), CT Γ 0 mX8_task [.inr (some 80), .inl a, .inl (i + 1), .inl n, .inl (j + 1), .inl (I 140 c.toNat)] (g, I) (some (.inl r31), (g, J29)) ∧ (∃ (r34 : Int) (J32 : IF), CT Γ 0 mX8_task [.inr (some 80), .inl p, .inl (-1), .inl (tmI (T 8) n j.toNat), .inl 0, .inl r31] (g, J29) (some (.inl r34), (g, J32)) ∧ (∃ (r37 : Int) (J35 : IF), CT Γ (2 * f + 42) mX8_does [.inr (some 80), .inl r34] (g, J32) (some (.inl r37), (g, J35)) ∧ ((r37 = 0 ∨ r37 = 1) ∧ r = some (.inl r37) ∧ J = J35))))))))) →
      Ev Γ (2 * f + 42 + 1) mX8_some 0 [some (.inr (some 80)), some (.inl c), none, none, none, none, none, none, none, none, none] [] (g, I) (r, (g, J)) := by
    intro r J h
    have hc4 : 0 ≤ c ∧ c < 4000 := by omega
    refine v_X8_some_0 (by omega) hg c ⟨hc4, ?_⟩
    rw [c2, c3, c4, c5]
    intro y2 e2
    rw [e2]
    refine ⟨hc4, ?_⟩
    intro y4 e4
    rw [e4]
    refine ⟨hc4, ?_⟩
    intro y6 e6
    rw [e6]
    refine ⟨hc4, ?_⟩
    intro y8 e8
    rw [e8]
    refine ⟨hc4, ?_⟩
    rintro _ rfl
    rw [i98]
    refine ⟨by omega, fun hm => ?_, fun hm => ?_⟩
    · obtain ⟨y1, y2, y3, y4, y5, y6⟩ := w2 hm
      have hte := m_term (Γ := Γ) (u := 92) (n := a.toNat) (k := i.toNat) hg (Or.inr (Or.inl rfl)) hP hq (by omega) (by rw [ea]; omega)
      rw [ea, show ((i.toNat : Nat) : Int) = i by omega, ← ip] at hte
      obtain ⟨⟨u2, -, -, -, u8⟩, -⟩ := hq.2.2.2 p.toNat (by clear h; omega)
      have i94 : I 94 p.toNat = P 2 p.toNat := u2
      have i100 : I 100 p.toNat = P 9 p.toNat := u8
      obtain ⟨h1, h2⟩ := h.2 hm
      refine ⟨_, _, hte, by clear h h1 h2; omega, ?_⟩
      rw [i94, i88, i100]
      refine ⟨fun k2 => ⟨by clear h h1 h2; omega, ?_⟩, fun k2 => ⟨by clear h h1 h2; omega, fun hjt => ?_, fun hjt => (h2 k2).1 hjt⟩⟩
      · rintro _ rfl
        obtain ⟨l1, l2⟩ := hP.l10 (p := p.toNat) (by clear h h1 h2; omega) (Or.inr k2)
        obtain ⟨h3, h4⟩ := h1 k2
        have i143 := (hs (P 9 p.toNat).toNat (by clear h h1 h2; omega)).2.1
        rw [i143]
        exact ⟨by clear h h1 h2; omega, h3, h4⟩
      · obtain ⟨r31, J29, x1, r34, J32, x2, r37, J35, x3, x4⟩ := (h2 k2).2 hjt
        have hte2 := m_term (Γ := Γ) (u := 82) (n := n.toNat) (k := j.toNat) hg (Or.inl rfl) hT hr (by clear h h1 h2; omega) (by rw [en]; have := hT.t7 (p := n.toNat) (by clear h h1 h2; omega); rw [en] at this; clear h h1 h2; omega)
        rw [en, show ((j.toNat : Nat) : Int) = j by clear h h1 h2; omega] at hte2
        exact ⟨_, _, hte2, by clear h h1 h2; unfold inR; omega, by clear h h1 h2; unfold inR; omega, r31, J29, x1, r34, J32, x2, r37, J35, x3, x4⟩
    · rw [i88]
      refine ⟨by omega, fun hjt => v_X8_some_79 (by omega) hg ((h.1 hm).1 hjt), fun hjt => ?_⟩
      obtain ⟨r42, J40, x1, x2, x3⟩ := (h.1 hm).2 hjt
      exact ⟨r42, J40, x1, fun z => v_X8_some_79 (by omega) hg (x2 z), x3⟩
  by_cases hm : i = max 0 (P 7 a.toNat)
  · have eD : dD T P Df (f + 1) ((a, i, n, j) :: ks) σ = if j = max 0 (T 7 n.toNat) then dD T P Df f ks σ else none := by
      conv => lhs; unfold dD
      rw [if_neg (by omega), if_pos hm]
    rw [eD]
    have hpe := w1 hm
    by_cases hjt : j = max 0 (T 7 n.toNat)
    · rw [if_pos hjt]
      rw [← hpe] at hrest
      obtain ⟨J2, d1, d2, d3⟩ := ih p ks σ I (I 140 c.toNat) hM' ⟨hp0, Or.inl ⟨hrest.up (by omega), by omega⟩⟩ c6 hs hw h0 (by omega)
      exact ⟨J2, CT.of (R := (some (.inl (pb (dD T P Df f ks σ ≠ none))), (g, J2))) oX8_some (Nat.le_of_ble_eq_true rfl) (Nat.le_refl _) (Nat.le_refl _) (pre _ _ ⟨fun _ => ⟨fun z => absurd hjt z, fun _ => ⟨_, _, d1, fun z => ⟨by rw [z], rfl⟩, fun z => ⟨by rw [pb_t (pb_1.mp z)], rfl⟩⟩⟩, fun z => absurd hm z⟩), d2⟩
    · rw [if_neg hjt]
      exact ⟨I, CT.of oX8_some (Nat.le_of_ble_eq_true rfl) (Nat.le_refl _) (Nat.le_refl _) (pre _ _ ⟨fun _ => ⟨fun _ => ⟨by rw [pbn_none rfl], rfl⟩, fun z => absurd z hjt⟩, fun z => absurd hm z⟩), FrD.rf, fun _ _ _ _ _ => rfl, fun _ => hs, fun τ z => (by cases z)⟩
  · obtain ⟨y1, y2, y3, y4, y5, y6⟩ := w2 hm
    have hpi : (tmI (P 8) a i.toNat).toNat = p.toNat := by rw [← ip]
    have nlp1 := nl_nn (P := P) (p := p.toNat + 1) (by omega)
    by_cases k2 : P 2 p.toNat = 2
    · have hsz := size_leaf hP (p := p.toNat) (by omega) (Or.inr k2)
      obtain ⟨⟨l1, l1'⟩, l2⟩ := hP.l10 (p := p.toNat) (by omega) (Or.inr k2)
      rw [k2, if_pos rfl, if_neg (by decide)] at nls
      obtain ⟨l, el⟩ : ∃ l : Nat, P 9 p.toNat = l := ⟨(P 9 p.toNat).toNat, by omega⟩
      have hl : l < 26 := by omega
      obtain ⟨jn, ejn⟩ : ∃ jn : Nat, j = jn := ⟨j.toNat, by omega⟩
      have hTW : ∀ k : Nat, j + k ≤ max 0 (T 7 n.toNat) → TkW T P (p + 1) ((a, i + 1, n, j + k) :: ks) f := fun k hk => ⟨by omega, Or.inl ⟨⟨⟨a0, a1, by omega, a3⟩, ⟨by omega, y5, by rw [← y4, hsz]⟩, hn, ⟨by omega, hk⟩, hrest⟩, by simp only [List.length_cons]; omega⟩⟩
      have hN : (max 0 (T 7 n.toNat) - j + 1).toNat ≤ 121 := by omega
      by_cases hb1 : σ 143 l = -1
      · have eD : dD T P Df (f + 1) ((a, i, n, j) :: ks) σ = fs (fun k => dD T P Df f ((a, i + 1, n, j + k) :: ks) (rBind T σ l k n j)) (max 0 (T 7 n.toNat) - j + 1).toNat 0 := by
          conv => lhs; unfold dD
          rw [if_neg (by omega), if_neg hm, hpi, if_pos k2, el, Int.toNat_natCast, if_pos hb1]
        rw [eD]
        have lp : ∀ (m k : Nat) (X : IF), k + m = (max 0 (T 7 n.toNat) - j + 1).toNat → FrD I X → Old I X → X 80 26 = I 80 26 + k → SgR σ X →
            ∃ J : IF, Ev Γ (2 * f + 42 + 1) mX8_some 196 [some (.inr (some 80)), none, some (.inl a), some (.inl i), some (.inl n), some (.inl j), some (.inl (I 140 c.toNat)), none, some (.inl l), some (.inl 0), some (.inl k)] [] (g, X) (some (.inl (pb (fs (fun k => dD T P Df f ((a, i + 1, n, j + k) :: ks) (rBind T σ l k n j)) m k ≠ none))), (g, J)) ∧ Po σ I J (fs (fun k => dD T P Df f ((a, i + 1, n, j + k) :: ks) (rBind T σ l k n j)) m k) := by
          intro m
          induction m with
          | zero =>
            intro k X hkm hX hO h26 hsX
            have x88 : X 88 n.toNat = max 0 (T 7 n.toNat) := (hX 88 _ (Or.inl (by decide)) (Or.inl (by decide))).trans i88
            exact ⟨X, v_X8_some_196 (by omega) hg a i n j (I 140 c.toNat) l 0 k ⟨by unfold inR; omega, by omega, fun _ => ⟨pbs_f (fun z => z rfl), rfl⟩, fun z => absurd (by rw [x88]; omega) z⟩, hX, hO, fun _ => hsX, fun τ z => (by cases z)⟩
          | succ m ih2 =>
            intro k X hkm hX hO h26 hsX
            have hMX := hM'.mv hX
            have x88 : X 88 n.toNat = max 0 (T 7 n.toNat) := (hX 88 _ (Or.inl (by decide)) (Or.inl (by decide))).trans i88
            have hjk : j + k ≤ max 0 (T 7 n.toNat) := by omega
            generalize hX1 : mset (mset (mset (mset X 143 l (k : Int)) 144 l n) 145 l j) 142 l (if (k : Int) = 0 then -1 else tmI (T 8) n j.toNat) = X1
            have hs1 : SgR (rBind T σ l k n j) X1 := by rw [← hX1]; exact rBind_sg hsX (by omega)
            have hw1 : SW T (rBind T σ l k n j) := rBind_sw hw (by omega) hn hj.1 hjk
            have f1 : FrD X X1 := by rw [← hX1]; exact (((FrD.st (by decide)).tr (FrD.st (by decide))).tr (FrD.st (by decide))).tr (FrD.st (by decide))
            have o1 : ∀ b x : Nat, b ≤ 140 → X1 b x = X b x := fun b x hb2 => by
              rw [← hX1, mset_a _ _ (by omega), mset_a _ _ (by omega), mset_a _ _ (by omega), mset_a _ _ (by omega)]
            have h261 : X1 80 26 = I 80 26 + k := (o1 80 26 (by decide)).trans h26
            have hcX : ChR X1 (I 140 c.toNat) ks := ChR.mv ks _ c6 (fun b x z1 z2 z3 => (o1 b x z2).trans (hO b x z1 z2 z3)) (by omega)
            obtain ⟨J1, t1, t2⟩ := m_task (Γ := Γ) (I := X1) hg a (i + 1) n (j + k) (I 140 c.toNat) (by omega)
            obtain ⟨J2, d1, d2, d3⟩ := ih (p + 1) ((a, i + 1, n, j + k) :: ks) (rBind T σ l k n j) J1 (X1 80 26) ((hMX.mv f1).mv t2.fr) (hTW k hjk) (t2.ch (by omega) hcX) (t2.sg hs1) hw1 (by rw [t2.1]; omega) (by rw [t2.1, show (p + 1).toNat = p.toNat + 1 by omega]; omega)
            have fr2 := (hX.tr f1).tr (t2.fr.tr d2.1)
            have old2 : Old I J2 := fun b x z1 z2 z3 => by
              rw [d2.2.1 b x z1 z2 (by rw [t2.1]; omega), t2.old (by omega) b x z1 z2 (by omega), o1 b x z2]
              exact hO b x z1 z2 z3
            -- the way to does
            have way : ∀ (r : Option AV) (J : IF), ((pb (dD T P Df f ((a, i + 1, n, j + k) :: ks) (rBind T σ l k n j) ≠ none) = 0 → Ev Γ (2 * f + 42 + 1) mX8_some 348 [some (.inr (some 80)), none, some (.inl a), some (.inl i), some (.inl n), some (.inl j), some (.inl (I 140 c.toNat)), none, some (.inl l), some (.inl 0), some (.inl k)] [] (g, mset J2 143 l (-1)) (r, (g, J))) ∧ (¬ pb (dD T P Df f ((a, i + 1, n, j + k) :: ks) (rBind T σ l k n j) ≠ none) = 0 → r = some (.inl 1) ∧ J = J2)) →
                Ev Γ (2 * f + 42 + 1) mX8_some 196 [some (.inr (some 80)), none, some (.inl a), some (.inl i), some (.inl n), some (.inl j), some (.inl (I 140 c.toNat)), none, some (.inl l), some (.inl 0), some (.inl k)] [] (g, X) (r, (g, J)) := by
              intro r J h
              refine v_X8_some_196 (by omega) hg a i n j (I 140 c.toNat) l 0 k ⟨by unfold inR; omega, by omega, fun z => absurd z (by rw [x88]; omega), fun _ => ⟨fun _ => ⟨by omega, ?_⟩, fun z => absurd rfl z⟩⟩
              rw [Int.toNat_natCast]
              rintro _ rfl
              refine ⟨by omega, ?_⟩
              rintro _ rfl
              refine ⟨by omega, ?_⟩
              rintro _ rfl
              refine ⟨fun z => ?_, fun z => ⟨by omega, ?_⟩⟩
              · have hX9 : MSt T P Df (mset (mset (mset X 143 l (k : Int)) 144 l n) 145 l j) := hMX.mv (((FrD.st (by decide)).tr (FrD.st (by decide))).tr (FrD.st (by decide)))
                have hte2 := m_term (Γ := Γ) (u := 82) (n := n.toNat) (k := j.toNat) hg (Or.inl rfl) hT hX9.2.2.2.1 (by omega) (by rw [en]; have := hT.t7 (p := n.toNat) (by omega); rw [en] at this; omega)
                rw [en, show ((j.toNat : Nat) : Int) = j by omega] at hte2
                refine ⟨_, _, hte2, by omega, ?_⟩
                rintro _ rfl
                rw [if_neg z] at hX1
                rw [hX1]
                exact ⟨by unfold inR; omega, by unfold inR; omega, _, _, t1, _, _, d1, fun y => ⟨by omega, fun I26 e26 => by rw [e26]; exact h.1 y⟩, h.2⟩
              · rintro _ rfl
                rw [if_pos z] at hX1
                rw [hX1]
                exact ⟨by unfold inR; omega, by unfold inR; omega, _, _, t1, _, _, d1, fun y => ⟨by omega, fun I26 e26 => by rw [e26]; exact h.1 y⟩, h.2⟩
            cases e : dD T P Df f ((a, i + 1, n, j + k) :: ks) (rBind T σ l k n j) with
            | none =>
              have hsu : SgR σ (mset J2 143 l (-1)) := unbind_sg hb1 (d2.2.2.1 e)
              obtain ⟨J3, e1, e2⟩ := ih2 (k + 1) (mset J2 143 l (-1)) (by omega) (fr2.tr (FrD.st (by decide))) (fun b x z1 z2 z3 => by rw [mset_a _ _ (by omega)]; exact old2 b x z1 z2 z3) (by rw [mset_a _ _ (by decide), d3, t2.1]; omega) hsu
              rw [fs_n e]
              exact ⟨J3, way _ _ ⟨fun _ => v_X8_some_348 (by omega) hg a i n j _ l 0 k ⟨by unfold inR; omega, e1⟩, fun z => absurd (pbn_none e) z⟩, e2⟩
            | some τ =>
              rw [fs_s e]
              exact ⟨J2, way _ _ ⟨fun z => absurd z (by rw [pbn_some e]; decide), fun _ => ⟨by rw [pbn_some rfl], rfl⟩⟩, fr2, old2, fun z => (by cases z), fun τ' z => by cases z; exact d2.2.2.2 τ e⟩
        obtain ⟨J, j1, j2⟩ := lp (max 0 (T 7 n.toNat) - j + 1).toNat 0 I (by omega) FrD.rf (fun _ _ _ _ _ => rfl) (by omega) hs
        refine ⟨J, CT.of (R := (some (.inl (pb (fs (fun k => dD T P Df f ((a, i + 1, n, j + k) :: ks) (rBind T σ l k n j)) (max 0 (T 7 n.toNat) - j + 1).toNat 0 ≠ none))), (g, J))) oX8_some (Nat.le_of_ble_eq_true rfl) (Nat.le_refl _) (Nat.le_refl _) (pre _ _ ⟨fun z => absurd z hm, fun _ => ⟨fun _ => ⟨fun _ => ?_, fun z => absurd (by rw [el, Int.toNat_natCast]; exact hb1) z⟩, fun z => absurd k2 z⟩⟩), j2⟩
        rw [el]
        exact j1
      · have eD : dD T P Df (f + 1) ((a, i, n, j) :: ks) σ = fs (fun k => cif (RowL T σ l n j k) (dD T P Df f ((a, i + 1, n, j + k) :: ks) σ) none) (max 0 (T 7 n.toNat) - j + 1).toNat 0 := by
          conv => lhs; unfold dD
          rw [if_neg (by omega), if_neg hm, hpi, if_pos k2, el, Int.toNat_natCast, if_neg hb1]
        rw [eD]
        have lp : ∀ (m k : Nat) (X : IF), k + m = (max 0 (T 7 n.toNat) - j + 1).toNat → FrD I X → Old I X → I 80 26 ≤ X 80 26 → X 80 26 ≤ I 80 26 + k → SgR σ X →
            ∃ J : IF, Ev Γ (2 * f + 42 + 1) mX8_some 196 [some (.inr (some 80)), none, some (.inl a), some (.inl i), some (.inl n), some (.inl j), some (.inl (I 140 c.toNat)), none, some (.inl l), some (.inl 1), some (.inl k)] [] (g, X) (some (.inl (pb (fs (fun k => cif (RowL T σ l n j k) (dD T P Df f ((a, i + 1, n, j + k) :: ks) σ) none) m k ≠ none))), (g, J)) ∧ Po σ I J (fs (fun k => cif (RowL T σ l n j k) (dD T P Df f ((a, i + 1, n, j + k) :: ks) σ) none) m k) := by
          intro m
          induction m with
          | zero =>
            intro k X hkm hX hO h26 h26' hsX
            have x88 : X 88 n.toNat = max 0 (T 7 n.toNat) := (hX 88 _ (Or.inl (by decide)) (Or.inl (by decide))).trans i88
            exact ⟨X, v_X8_some_196 (by omega) hg a i n j (I 140 c.toNat) l 1 k ⟨by unfold inR; omega, by omega, fun _ => ⟨pbs_f (fun z => z rfl), rfl⟩, fun z => absurd (by rw [x88]; omega) z⟩, hX, hO, fun _ => hsX, fun τ z => (by cases z)⟩
          | succ m ih2 =>
            intro k X hkm hX hO h26 h26' hsX
            have hMX := hM'.mv hX
            have x88 : X 88 n.toNat = max 0 (T 7 n.toNat) := (hX 88 _ (Or.inl (by decide)) (Or.inl (by decide))).trans i88
            have hjk : j + k ≤ max 0 (T 7 n.toNat) := by omega
            have hra := m_isRowAlike (Γ := Γ) (n := n.toNat) (j := jn) (k := k) hg hMX hsX hw hl hb1 (by omega) (by omega)
            rw [en, ← ejn] at hra
            by_cases hrl : RowL T σ l n j k
            · rw [pb_t hrl] at hra
              have hcX : ChR X (I 140 c.toNat) ks := ChR.mv ks _ c6 hO h26
              obtain ⟨J1, t1, t2⟩ := m_task (Γ := Γ) (I := X) hg a (i + 1) n (j + k) (I 140 c.toNat) (by omega)
              obtain ⟨J2, d1, d2, d3⟩ := ih (p + 1) ((a, i + 1, n, j + k) :: ks) σ J1 (X 80 26) (hMX.mv t2.fr) (hTW k hjk) (t2.ch (by omega) hcX) (t2.sg hsX) hw (by rw [t2.1]; omega) (by rw [t2.1, show (p + 1).toNat = p.toNat + 1 by omega]; omega)
              have fr2 := hX.tr (t2.fr.tr d2.1)
              have old2 : Old I J2 := fun b x z1 z2 z3 => by
                rw [d2.2.1 b x z1 z2 (by rw [t2.1]; omega), t2.old (by omega) b x z1 z2 (by omega)]
                exact hO b x z1 z2 z3
              have way : ∀ (r : Option AV) (J : IF), ((pb (dD T P Df f ((a, i + 1, n, j + k) :: ks) σ ≠ none) = 0 → Ev Γ (2 * f + 42 + 1) mX8_some 348 [some (.inr (some 80)), none, some (.inl a), some (.inl i), some (.inl n), some (.inl j), some (.inl (I 140 c.toNat)), none, some (.inl l), some (.inl 1), some (.inl k)] [] (g, J2) (r, (g, J))) ∧ (¬ pb (dD T P Df f ((a, i + 1, n, j + k) :: ks) σ ≠ none) = 0 → r = some (.inl 1) ∧ J = J2)) →
                  Ev Γ (2 * f + 42 + 1) mX8_some 196 [some (.inr (some 80)), none, some (.inl a), some (.inl i), some (.inl n), some (.inl j), some (.inl (I 140 c.toNat)), none, some (.inl l), some (.inl 1), some (.inl k)] [] (g, X) (r, (g, J)) := fun r J h => v_X8_some_196 (by omega) hg a i n j (I 140 c.toNat) l 1 k ⟨by unfold inR; omega, by omega, fun z => absurd z (by rw [x88]; omega), fun _ => ⟨fun z => absurd z (by decide), fun _ => ⟨_, _, hra, fun z => absurd z (by decide), fun _ => ⟨by unfold inR; omega, by unfold inR; omega, _, _, t1, _, _, d1, h.1, h.2⟩⟩⟩⟩
              have ec : cif (RowL T σ l n j k) (dD T P Df f ((a, i + 1, n, j + k) :: ks) σ) none = dD T P Df f ((a, i + 1, n, j + k) :: ks) σ := cif_t hrl
              cases e : dD T P Df f ((a, i + 1, n, j + k) :: ks) σ with
              | none =>
                obtain ⟨J3, e1, e2⟩ := ih2 (k + 1) J2 (by omega) fr2 old2 (by rw [d3, t2.1]; omega) (by rw [d3, t2.1]; omega) (d2.2.2.1 e)
                rw [fs_n (ec.trans e)]
                exact ⟨J3, way _ _ ⟨fun _ => v_X8_some_348 (by omega) hg a i n j _ l 1 k ⟨by unfold inR; omega, e1⟩, fun z => absurd (pbn_none e) z⟩, e2⟩
              | some τ =>
                rw [fs_s (ec.trans e)]
                exact ⟨J2, way _ _ ⟨fun z => absurd z (by rw [pbn_some e]; decide), fun _ => ⟨by rw [pbn_some rfl], rfl⟩⟩, fr2, old2, fun z => (by cases z), fun τ' z => by cases z; exact d2.2.2.2 τ e⟩
            · rw [pb_f hrl] at hra
              obtain ⟨J3, e1, e2⟩ := ih2 (k + 1) X (by omega) hX hO h26 (by omega) hsX
              rw [fs_n (cif_f hrl)]
              exact ⟨J3, v_X8_some_196 (by omega) hg a i n j (I 140 c.toNat) l 1 k ⟨by unfold inR; omega, by omega, fun z => absurd z (by rw [x88]; omega), fun _ => ⟨fun z => absurd z (by decide), fun _ => ⟨_, _, hra, fun _ => v_X8_some_348 (by omega) hg a i n j _ l 1 k ⟨by unfold inR; omega, e1⟩, fun z => absurd rfl z⟩⟩⟩, e2⟩
        obtain ⟨J, j1, j2⟩ := lp (max 0 (T 7 n.toNat) - j + 1).toNat 0 I (by omega) FrD.rf (fun _ _ _ _ _ => rfl) (Int.le_refl _) (by omega) hs
        refine ⟨J, CT.of (R := (some (.inl (pb (fs (fun k => cif (RowL T σ l n j k) (dD T P Df f ((a, i + 1, n, j + k) :: ks) σ) none) (max 0 (T 7 n.toNat) - j + 1).toNat 0 ≠ none))), (g, J))) oX8_some (Nat.le_of_ble_eq_true rfl) (Nat.le_refl _) (Nat.le_refl _) (pre _ _ ⟨fun z => absurd z hm, fun _ => ⟨fun _ => ⟨fun z => absurd (by rw [el, Int.toNat_natCast] at z; exact z) hb1, fun _ => ?_⟩, fun z => absurd k2 z⟩⟩), j2⟩
        rw [el]
        exact j1
    · have eD : dD T P Df (f + 1) ((a, i, n, j) :: ks) σ = if j = max 0 (T 7 n.toNat) then none else dD T P Df f ((p, -1, tmI (T 8) n j.toNat, 0) :: (a, i + 1, n, j + 1) :: ks) σ := by
        conv => lhs; unfold dD
        rw [if_neg (by omega), if_neg hm, hpi, if_neg k2, ← ip]
      rw [eD]
      rw [if_neg k2] at nls
      by_cases hjt : j = max 0 (T 7 n.toNat)
      · rw [if_pos hjt]
        exact ⟨I, CT.of oX8_some (Nat.le_of_ble_eq_true rfl) (Nat.le_refl _) (Nat.le_refl _) (pre _ _ ⟨fun z => absurd z hm, fun _ => ⟨fun z => absurd z k2, fun _ => ⟨fun _ => ⟨by rw [pbn_none rfl], rfl⟩, fun z => absurd hjt z⟩⟩⟩), FrD.rf, fun _ _ _ _ _ => rfl, fun _ => hs, fun τ z => (by cases z)⟩
      · rw [if_neg hjt]
        have t := hT.t7t (p := n.toNat) (by omega) (k := j.toNat) (by omega)
        rw [en] at t
        obtain ⟨J1, t1, t2⟩ := m_task (Γ := Γ) (I := I) hg a (i + 1) n (j + 1) (I 140 c.toNat) (by omega)
        obtain ⟨J2, u1, u2⟩ := m_task (Γ := Γ) (I := J1) hg p (-1) (tmI (T 8) n j.toNat) 0 (I 80 26) (by rw [t2.1]; omega)
        have ch1 := t2.ch h0 c6
        have ch2 := u2.ch (by rw [t2.1]; omega) ch1
        have h262 : J2 80 26 = I 80 26 + 2 := by rw [u2.1, t2.1]; omega
        obtain ⟨J3, d1, d2, d3⟩ := ih p ((p, -1, tmI (T 8) n j.toNat, 0) :: (a, i + 1, n, j + 1) :: ks) σ J2 (J1 80 26) ((hM'.mv t2.fr).mv u2.fr) ⟨hp0, Or.inr ⟨tmI (T 8) n j.toNat, (a, i + 1, n, j + 1) :: ks, rfl, y2, k2, by omega, ⟨⟨a0, a1, by omega, a3⟩, ⟨by omega, y5, y4⟩, hn, ⟨by omega, by omega⟩, hrest⟩, by simp only [List.length_cons]; omega⟩⟩ ch2 (u2.sg (t2.sg hs)) hw (by omega) (by omega)
        refine ⟨J3, CT.of (R := (some (.inl (pb (dD T P Df f ((p, -1, tmI (T 8) n j.toNat, 0) :: (a, i + 1, n, j + 1) :: ks) σ ≠ none))), (g, J3))) oX8_some (Nat.le_of_ble_eq_true rfl) (Nat.le_refl _) (Nat.le_refl _) (pre _ _ ⟨fun z => absurd z hm, fun _ => ⟨fun z => absurd z k2, fun _ => ⟨fun z => absurd z hjt, fun _ => ⟨_, _, t1, _, _, u1, _, _, d1, pb_01 _, rfl, rfl⟩⟩⟩⟩), (t2.fr.tr u2.fr).tr d2.1, fun b x z1 z2 z3 => ?_, d2.2.2.1, d2.2.2.2⟩
        rw [d2.2.1 b x z1 z2 (by omega), u2.old (by rw [t2.1]; omega) b x z1 z2 (by rw [t2.1]; omega)]
        exact t2.old h0 b x z1 z2 z3
end MDO2
