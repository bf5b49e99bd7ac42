section MP3
variable {Γ : GX} {g : AG} {I J X K T P s Z Kc : IF} {Df : Nat → Nat → Prop} {w fr rule : Int} {B C : List Int}
theorem kdO_ok (hP : TOK 1 P) (hX : TOK w X) {q : Nat} (hq : (q : Int) < X 0 2) (hk : X 2 q = 1 ∨ X 2 q = 2) : kdO P (X 9 q).toNat = X 2 q ↔ (P 10 (X 9 q).toNat ≠ -1 ∧ P 2 (P 10 (X 9 q).toNat).toNat = X 2 q) := by
  unfold kdO
  by_cases z : P 10 (X 9 q).toNat = -1
  · rw [if_pos z]
    exact ⟨fun y => by omega, fun y => absurd z y.1⟩
  · rw [if_neg z]
    exact ⟨fun y => ⟨z, y⟩, fun y => y.2⟩
/-- the check of the letters -/
theorem m_puts_14 (hg : GOk g) (hP : TOK 1 P) (hrP : TR P (tv 92 I)) (hX : TOK w X) (hrX : TR X (tv 102 I)) {Q : Option AV → AG → IF → Prop}
    (yes : LetOk X P → ∃ (r : Option AV) (gf : AG) (J : IF), Ev Γ 904 mX8_puts 14 [some (.inr (some 80)), some (.inl rule), some (.inl (X 0 2)), none, none, none] [] (g, I) (r, (gf, J)) ∧ g.2.2.2 = gf.2.2.2 ∧ Q r gf J)
    (no : ¬ LetOk X P → Q (some (.inl (-2))) g I) :
    ∀ (m q : Nat), m + q = (X 0 2).toNat → (∀ o : Nat, o < q → (X 2 o = 1 ∨ X 2 o = 2) → P 10 (X 9 o).toNat ≠ -1 ∧ P 2 (P 10 (X 9 o).toNat).toNat = X 2 o) →
      ∃ (r : Option AV) (gf : AG) (J : IF), Ev Γ 904 mX8_puts 14 [some (.inr (some 80)), some (.inl rule), some (.inl q), none, none, none] [] (g, I) (r, (gf, J)) ∧ g.2.2.2 = gf.2.2.2 ∧ Q r gf J := by
  have hc := hX.1.2.1
  intro m
  induction m with
  | zero =>
    intro q hm h
    have := yes (fun o ho hk => h o (by omega) hk)
    rw [show X 0 2 = (q : Int) by omega] at this
    exact this
  | succ m ih =>
    intro q hm h
    have hq : (q : Int) < X 0 2 := by omega
    have tq := (hrX.2.2.2 q hq).1
    have e104 : I 104 q = X 2 q := tq.1
    have e110 : I 110 q = X 9 q := tq.2.2.2.2
    have e102 : I 102 2 = X 0 2 := hrX.2.1
    by_cases k : X 9 q = -1
    · have nk := fun y => (kd9 hX hq).2 y k
      obtain ⟨r, gf, J, e, hgf, hQ⟩ := ih (q + 1) (by omega) (fun o ho hk => by
        by_cases eo : o = q
        · rw [eo] at hk; exact absurd hk nk
        · exact h o (by omega) hk)
      refine ⟨r, gf, J, v_X8_puts_14 hg hgf rule q ⟨fun z => absurd z (by rw [e102]; omega), fun _ => ⟨⟨by omega, by omega⟩, ?_⟩⟩, hgf, hQ⟩
      rw [Int.toNat_natCast, e110]
      exact ⟨fun _ => ⟨by unfold inR; omega, e⟩, fun z => absurd k z⟩
    · have hk := (kd9 hX hq).1 k
      have l9 := (let_p hX hq hk).1
      have ck := m_kindOf (Γ := Γ) (I := I) (u := 92) hg (by unfold Mt; omega) hP hrP (l := (X 9 q).toNat) (by omega)
      rw [show (((X 9 q).toNat : Nat) : Int) = X 9 q by omega] at ck
      by_cases ok : kdO P (X 9 q).toNat = X 2 q
      · obtain ⟨r, gf, J, e, hgf, hQ⟩ := ih (q + 1) (by omega) (fun o ho hko => by
          by_cases eo : o = q
          · rw [eo]; exact (kdO_ok hP hX hq hk).1 ok
          · exact h o (by omega) hko)
        refine ⟨r, gf, J, v_X8_puts_14 hg hgf rule q ⟨fun z => absurd z (by rw [e102]; omega), fun _ => ⟨⟨by omega, by omega⟩, ?_⟩⟩, hgf, hQ⟩
        rw [Int.toNat_natCast, e110]
        refine ⟨fun z => absurd z k, fun _ => ⟨⟨by omega, by omega⟩, _, _, ck, ⟨by omega, by omega⟩, fun _ => ⟨by unfold inR; omega, e⟩, fun z => absurd ?_ z⟩⟩
        rw [e104]; exact ok
      · refine ⟨some (.inl (-2)), g, I, v_X8_puts_14 hg rfl rule q ⟨fun z => absurd z (by rw [e102]; omega), fun _ => ⟨⟨by omega, by omega⟩, ?_⟩⟩, rfl, no (fun z => ok ((kdO_ok hP hX hq hk).2 (z q hq hk)))⟩
        rw [Int.toNat_natCast, e110]
        refine ⟨fun z => absurd z k, fun _ => ⟨⟨by omega, by omega⟩, _, _, ck, ⟨by omega, by omega⟩, fun z => absurd ?_ ok, fun _ => ⟨rfl, rfl, rfl⟩⟩⟩
        rw [e104] at z; exact z
/-- what puts answers, and leaves -/
def PtQ (g : AG) (I T P X : IF) (fr : Int) (Df : Nat → Nat → Prop) (rule : Int) (Kc : IF) (r : Option AV) (gf : AG) (J : IF) : Prop :=
  (GOk gf ∧ gf.1 = g.1 ∧ gf.2.2 = g.2.2) ∧ FrU I J ∧
  ((¬ LetOk X P ∨ 240 < (newT T P X fr Df (mTk T P fr Df rule)).length ∨ (RR (kStart 0 Kc)).1 ≠ -1) → r = some (.inl (-2)) ∧ ∀ a k : Nat, 82 ≤ a → a ≤ 91 → J a k = I a k) ∧
  ((LetOk X P ∧ (newT T P X fr Df (mTk T P fr Df rule)).length ≤ 240 ∧ (RR (kStart 0 Kc)).1 = -1) → r = some (.inl (ncI (mTk T P fr Df rule) 1 (T 0 2).toNat)) ∧ TR (tv 39 (RR (kStart 0 Kc)).2) (tv 82 J))
/-- PUTS -/
theorem m_puts (hg : GOk g) (hM : MSt T P Df I) (hF : FRO P fr) (hD : (∀ l : Nat, ¬ Df l l) ∧ ∀ l o : Nat, Df l o → Df o l) (hX : TOK w X) (hrX : TR X (tv 102 I)) (hr : rule = 0 ∨ rule = 1 ∨ rule = 2)
    (hKc : LetOk X P → (newT T P X fr Df (mTk T P fr Df rule)).length ≤ 240 → Kc 39 1 = (newT T P X fr Df (mTk T P fr Df rule)).length ∧ ∀ j : Nat, j < (newT T P X fr Df (mTk T P fr Df rule)).length → Kc 40 j = nth (newT T P X fr Df (mTk T P fr Df rule)) j) :
    ∃ (r : Option AV) (gf : AG) (J : IF), CT Γ 904 mX8_puts [.inr (some 80), .inl rule] (g, I) (r, (gf, J)) ∧ PtQ g I T P X fr Df rule Kc r gf J := by
  have hT := hM.1
  have hP := hM.2.1
  have htc := hT.1.2.1
  have hc := hX.1.2.1
  have e102 : I 102 2 = X 0 2 := hrX.2.1
  have ci := m_isIn (Γ := Γ) (I := I) hg rule 0 2
  rw [decide_eq_true (show 0 ≤ rule ∧ rule ≤ 2 by omega), bI_t rfl] at ci
  have lp := m_puts_14 (Γ := Γ) (g := g) (I := I) (rule := rule) (Q := fun r gf J => PtQ g I T P X fr Df rule Kc r gf J) hg hP hM.2.2.2.2.1 hX hrX (fun hO => by
    obtain ⟨E, t1, t2, t3⟩ := m_takeBy (Γ := Γ) (fr := fr) hg hM hF hD hr
    have fE : FrY I (mset E 80 36 0) := fun a k z y => by
      unfold mset
      rw [if_neg (by omega)]
      exact t2 a k (by omega) (by omega)
    have go := m_puts_92 (Γ := Γ) (g := g) (I := I) (tk := mTk T P fr Df rule) (x2 := ncI (mTk T P fr Df rule) 1 (T 0 2).toNat) (Q := fun r gf J => PtQ g I T P X fr Df rule Kc r gf J) hg hM hF hD hX hrX hO (fun n hn z => by
      have a : tkn T (mM T P fr Df) (wit T (mM T P fr Df)) (alw rule) n := pb_1.1 z
      exact pb_1.1 a.1.1) (fun K L d hK hL fL mL => by
      have rT : TR T (tv 82 K) := (hM.mvY hK).2.2.2.1
      have k82 : K 82 2 = T 0 2 := rT.2.1
      have l36 := mL.1
      have fu : FrU I L := fun a k z y => fL a k (by omega) (by omega)
      by_cases hlen : 240 < (newT T P X fr Df (mTk T P fr Df rule)).length
      · refine ⟨some (.inl (-2)), g, L, v_X8_puts_92 hg rfl _ d _ ⟨fun _ => ⟨L, hL, fun _ => ⟨rfl, rfl, rfl⟩, fun z => absurd (show 240 < L 80 36 by omega) z⟩, fun z => absurd (show K 82 2 ≤ T 0 2 by omega) z⟩, rfl, ⟨hg, rfl, rfl⟩, fu, fun _ => ⟨rfl, fun a k h1 h2 => fL a k (by omega) (by omega)⟩, fun z => ?_⟩
        omega
      · obtain ⟨kc1, kc2⟩ := hKc hO (by omega)
        have br : BLs (newT T P X fr Df (mTk T P fr Df rule)) := BLs_newT hT hP hX hO hF hD
        have hl36 : L 80 36 = ((newT T P X fr Df (mTk T P fr Df rule)).length : Int) := by omega
        have rd : ∀ {u : Nat} {g' : AG} {N : IF}, Mt u → GOk g' → N 80 36 = L 80 36 → (∀ k : Nat, N 149 k = L 149 k) → ∃ O : IF, CT Γ 61 mX8_read [.inr (some 80), .inr (some u), .inr (some 149), .inl 0, .inl (N 80 36), .inl 0] (g', N) (some (.inl (RR (kStart 0 Kc)).1), (sT g' u, O)) ∧ FR u N O ∧ ((RR (kStart 0 Kc)).1 = -1 → Sim O (RR (kStart 0 Kc)).2 u ∧ (RR (kStart 0 Kc)).2 51 7 = 0) := fun {u g' N} hu hg' e1 e2 => by
          have hr' := mt_rng hu
          exact m_read (Γ := Γ) (I := N) (Kc := Kc) hg' hu (b2 := 149) (nb2 := 40000) (by decide) (gs_149 hg') (by decide) ⟨by decide, by omega, by omega⟩ (fr := 0) (m := N 80 36) ⟨by decide, by rw [e1, hl36]; omega⟩ (Or.inl rfl) (by rw [e1, hl36, kc1]) (by rw [kc1]; omega) (fun j hj => by
            rw [kc1] at hj
            rw [show ((0 : Int) + (j : Int)).toNat = j by omega, e2, kc2 j (by omega)]
            exact ⟨mL.2 j (by omega) (by omega), br j (by omega)⟩)
        obtain ⟨O, o1, o2, -⟩ := rd (u := 112) (g' := g) (N := L) (by unfold Mt; omega) hg rfl (fun _ => rfl)
        by_cases hrr : (RR (kStart 0 Kc)).1 = -1
        · obtain ⟨O2, p1, p2, p3⟩ := rd (u := 82) (g' := sT g 112) (N := O) (Or.inl rfl) (gS hg) (o2 80 36 (by omega)) (fun k => o2 149 k (by omega))
          obtain ⟨s1, s2⟩ := p3 hrr
          have hb : (RR (kStart 0 Kc)).2 39 2 ≤ 120 := (RR_51 (w := 0) (Kc := Kc) (Or.inl rfl) (by rw [kc1]; omega) (fun j hj => by
            rw [kc1] at hj
            rw [kc2 j (by omega)]
            exact br j (by omega)) hrr).1.1.2.1.2
          refine ⟨some (.inl (ncI (mTk T P fr Df rule) 1 (T 0 2).toNat)), sT (sT g 112) 82, O2, v_X8_puts_92 (gf := sT (sT g 112) 82) hg rfl _ d _ ⟨fun _ => ⟨L, hL, fun z => absurd z (by omega), fun _ => ⟨_, O, _, o1, gS hg, rfl, fun _ => ⟨_, O2, _, p1, gS (gS hg), rfl, rfl, rfl, rfl⟩, fun z => absurd hrr z⟩⟩, fun z => absurd (show K 82 2 ≤ T 0 2 by omega) z⟩, rfl, ⟨gS (gS hg), rfl, rfl⟩, fun a k z y => ?_, fun z => ?_, fun _ => ⟨rfl, TR_of s1 s2 hb⟩⟩
          · rw [p2 a k (by omega), o2 a k (by omega)]
            exact fu a k z y
          · rcases z with z | z | z
            · exact absurd hO z
            · omega
            · exact absurd hrr z
        · refine ⟨some (.inl (-2)), sT g 112, O, v_X8_puts_92 (gf := sT g 112) hg rfl _ d _ ⟨fun _ => ⟨L, hL, fun z => absurd z (by omega), fun _ => ⟨_, O, _, o1, gS hg, rfl, fun z => absurd z hrr, fun _ => ⟨rfl, rfl, rfl⟩⟩⟩, fun z => absurd (show K 82 2 ≤ T 0 2 by omega) z⟩, rfl, ⟨gS hg, rfl, rfl⟩, fun a k z y => ?_, fun _ => ⟨rfl, fun a k h1 h2 => ?_⟩, fun z => absurd z.2.2 hrr⟩
          · rw [o2 a k (by omega)]
            exact fu a k z y
          · rw [o2 a k (by omega)]
            exact fL a k (by omega) (by omega))
    obtain ⟨r, gf, J, e, hgf, hQ⟩ := go (T 0 2).toNat 0 (mset E 80 36 0) [] 0 rfl fE ⟨by rw [mset_s]; rfl, fun j _ hj => absurd hj (Nat.not_lt_zero _)⟩ (Int.le_refl _) (fun o ho => by
      rw [mset_a _ _ (by decide)]
      exact t3 o ho) rfl
    refine ⟨r, gf, J, v_X8_puts_14 hg hgf rule _ ⟨fun _ => ⟨_, E, t1, fun I5 e5 => ?_⟩, fun z => absurd (show I 102 2 ≤ X 0 2 by omega) z⟩, hgf, hQ⟩
    rw [e5]
    exact e) (fun hn => ⟨⟨hg, rfl, rfl⟩, fun _ _ _ _ => rfl, fun _ => ⟨rfl, fun _ _ _ _ => rfl⟩, fun z => absurd z.1 hn⟩)
  obtain ⟨r, gf, J, e, hgf, hQ⟩ := lp (X 0 2).toNat 0 rfl (fun o ho => absurd ho (Nat.not_lt_zero _))
  refine ⟨r, gf, J, CT.of (R := (r, (gf, J))) oX8_puts (Nat.le_of_ble_eq_true rfl) ?_ ?_ (v_X8_puts_0 hg hgf rule ⟨_, _, ci, fun _ => e, fun z => absurd z (by decide)⟩), hQ⟩
  · show g.2.2.2.1 ≤ gf.2.2.2.1
    rw [hgf]
    exact Nat.le_refl _
  · show g.2.2.2.2 ≤ gf.2.2.2.2
    rw [hgf]
    exact Nat.le_refl _
/-- a rule that there is not -/
theorem m_puts_n (hg : GOk g) (hr : ¬ (rule = 0 ∨ rule = 1 ∨ rule = 2)) : CT Γ 904 mX8_puts [.inr (some 80), .inl rule] (g, I) (some (.inl (-2)), (g, I)) := by
  have ci := m_isIn (Γ := Γ) (I := I) hg rule 0 2
  rw [decide_eq_false (show ¬ (0 ≤ rule ∧ rule ≤ 2) by omega)] at ci
  exact CT.of (R := (some (.inl (-2)), (g, I))) oX8_puts (Nat.le_of_ble_eq_true rfl) (Nat.le_refl _) (Nat.le_refl _) (v_X8_puts_0 hg rfl rule ⟨_, _, ci, fun z => absurd rfl z, fun _ => ⟨rfl, rfl, rfl⟩⟩)
end MP3
