/-! ===== rows of none: the reference ===== -/
def FrK (I J : IF) : Prop := ∀ a k : Nat, a ≠ 150 → a ≠ 151 → J a k = I a k
section MST
variable {Γ : GX} {g : AG} {I J X K : IF} {N : Nat → Prop} {w : Int}
theorem FrK.rf : FrK I I := fun _ _ _ _ => rfl
theorem FrK.tr (h : FrK I J) (h2 : FrK J K) : FrK I K := fun a k z y => (h2 a k z y).trans (h a k z y)
/-- a row has its next sibling right behind it, or none -/
theorem nosib (h : TOK w X) {p : Nat} (hp : (p : Int) < X 0 2) (hk : X 2 p = 2) (hn : ¬ ((p : Int) + 1 < X 0 2 ∧ X 6 (p + 1) = X 6 p)) {o : Nat} (ho : p < o) (hoc : (o : Int) < X 0 2) : X 6 o ≠ X 6 p := by
  intro e
  have gp := h.2.1.2.1 p hp
  have go := h.2.1.2.1 o hoc
  by_cases e1 : o = p + 1
  · rw [e1] at e hoc
    exact hn ⟨by omega, e⟩
  · have g1 := h.2.1.2.1 (p + 1) (by omega)
    have up := h.2.1.2.2.2.1 o hoc (by omega)
    have bo := h.2.1.2.2.1 o hoc
    rw [e] at up
    have r1 := h.2.1.2.2.2.2 (X 6 p).toNat (p + 1) (by omega) (by omega) (by omega)
    have up1 := h.2.1.2.2.2.1 (p + 1) (by omega) (by omega)
    have b1 := h.2.1.2.2.1 (p + 1) (by omega)
    have lf := size_lf h hp (Or.inr hk)
    by_cases e2 : X 6 (p + 1) = X 6 p
    · exact hn ⟨by omega, e2⟩
    · by_cases e3 : X 6 (p + 1) = p
      · rw [e3, Int.toNat_natCast] at up1
        omega
      · have := h.2.1.2.2.2.2 (X 6 (p + 1)).toNat p (by omega) hp (by omega)
        omega
/-- STRIKE -/
theorem m_strike (hg : GOk g) (hX : TOK w X) (hr : TR X (tv 102 I)) (hN : ∀ q : Nat, (q : Int) < X 0 2 → (N q ↔ X 2 q = 2 ∧ I 143 (X 9 q).toNat ≤ 0)) (hNR : NR X N) :
    ∃ J : IF, CT Γ 0 mX8_strike [.inr (some 80)] (g, I) (none, (g, J)) ∧ FrK I J ∧ ∀ k : Nat, (k : Int) < X 0 1 → (J 150 k ≠ 0 ↔ SS X N (X 0 2).toNat k) := by
  have hc := hX.1.2.1
  have hlen := hX.1.1
  have s := hX.2.2.2.2.1.1
  have e1 : I 102 1 = X 0 1 := hr.1
  have e2 : I 102 2 = X 0 2 := hr.2.1
  have tr : ∀ q : Nat, (q : Int) < X 0 2 → I 104 q = X 2 q ∧ I 105 q = X 3 q ∧ I 106 q = X 5 q ∧ I 109 q = X 6 q ∧ I 110 q = X 9 q := fun q hq => (hr.2.2.2 q hq).1
  -- the strokes
  have main : ∀ (m p : Nat) (K : IF), m + p = (X 0 2).toNat → FrK I K → (∀ k : Nat, (k : Int) < X 0 1 → (K 150 k ≠ 0 ↔ SS X N p k)) → (∀ q : Nat, (q : Int) < X 0 2 → (K 151 q ≠ 0 ↔ q < p ∧ N q)) →
      ∃ J : IF, Ev Γ 0 mX8_strike 54 [some (.inr (some 80)), some (.inl p), none, none, none, none, none] [] (g, K) (none, (g, J)) ∧ FrK I J ∧ ∀ k : Nat, (k : Int) < X 0 1 → (J 150 k ≠ 0 ↔ SS X N (X 0 2).toNat k) := by
    intro m
    induction m with
    | zero =>
      intro p K hmp hK hs hgo
      have k2 : K 102 2 = X 0 2 := (hK 102 2 (by decide) (by decide)).trans e2
      refine ⟨K, v_X8_strike_54 hg p ⟨fun _ => ⟨rfl, rfl⟩, fun z => absurd (by rw [k2]; omega) z⟩, hK, fun k hk => ?_⟩
      rw [show (X 0 2).toNat = p by omega]
      exact hs k hk
    | succ m ih =>
      intro p K hmp hK hs hgo
      have k2 : K 102 2 = X 0 2 := (hK 102 2 (by decide) (by decide)).trans e2
      have kt : ∀ q : Nat, (q : Int) < X 0 2 → K 104 q = X 2 q ∧ K 105 q = X 3 q ∧ K 106 q = X 5 q ∧ K 109 q = X 6 q ∧ K 110 q = X 9 q := fun q hq => by
        rw [hK 104 q (by decide) (by decide), hK 105 q (by decide) (by decide), hK 106 q (by decide) (by decide), hK 109 q (by decide) (by decide), hK 110 q (by decide) (by decide)]
        exact tr q hq
      have hp : (p : Int) < X 0 2 := by omega
      have tp := kt p hp
      have skip : ¬ N p → ∃ J : IF, Ev Γ 0 mX8_strike 277 [some (.inr (some 80)), some (.inl p), none, none, none, none, none] [] (g, K) (none, (g, J)) ∧ FrK I J ∧ ∀ k : Nat, (k : Int) < X 0 1 → (J 150 k ≠ 0 ↔ SS X N (X 0 2).toNat k) := fun hn => by
        obtain ⟨J, j1, j2⟩ := ih (p + 1) K (by omega) hK (fun k hk => by
          rw [hs k hk]
          constructor
          · rintro ⟨q, q1, q2⟩
            exact ⟨q, by omega, q2⟩
          · rintro ⟨q, q1, q2, q3⟩
            by_cases e : q = p
            · rw [e] at q2; exact absurd q2 hn
            · exact ⟨q, by omega, q2, q3⟩) (fun q hq => by
          rw [hgo q hq]
          constructor
          · rintro ⟨a, b⟩
            exact ⟨by omega, b⟩
          · rintro ⟨a, b⟩
            by_cases e : q = p
            · rw [e] at b; exact absurd b hn
            · exact ⟨by omega, b⟩)
        exact ⟨J, v_X8_strike_277 hg p ⟨by unfold inR; omega, j1⟩, j2⟩
      have h54 := fun (J : IF) => v_X8_strike_54 (Γ := Γ) (g := g) (I := K) (J := J) (r := none) hg (p : Int)
      simp only [Int.toNat_natCast, tp.1, tp.2.2.2.2] at h54
      by_cases hk2 : X 2 p = 2
      · have l9 : 0 ≤ X 9 p ∧ X 9 p < 26 := by
          rcases hX.2.2.2.2.2.1.1 p hp with z | z | z
          · omega
          · exact ⟨z.2.1, z.2.2.1⟩
          · omega
        by_cases hNp : N p
        · have h143 := ((hN p hp).1 hNp).2
          -- the strokes of this one
          have st : ∀ (n : Nat) (x : Int) (L : IF), n = (iv1 X p - x).toNat → 0 ≤ x → FrK I L → (∀ q : Nat, (q : Int) < X 0 2 → (L 151 q ≠ 0 ↔ q < p ∧ N q)) → (∀ k : Nat, (k : Int) < X 0 1 → (L 150 k ≠ 0 ↔ (SS X N p k ∨ (iv0 X N p ≤ k ∧ (k : Int) < x ∧ (k : Int) < iv1 X p)))) → iv0 X N p ≤ x →
              ∃ J : IF, Ev Γ 0 mX8_strike 249 [some (.inr (some 80)), some (.inl p), none, none, none, some (.inl (iv1 X p)), some (.inl x)] [] (g, L) (none, (g, J)) ∧ FrK I J ∧ ∀ k : Nat, (k : Int) < X 0 1 → (J 150 k ≠ 0 ↔ SS X N (X 0 2).toNat k) := by
            intro n
            induction n with
            | zero =>
              intro x L hn hx hL hgo' hs' hxx
              obtain ⟨J, j1, j2⟩ := ih (p + 1) (mset L 151 p 1) (by omega) (fun a k z y => (mset_a _ _ y).trans (hL a k z y)) (fun k hk => by
                rw [mset_a _ _ (by decide), hs' k hk]
                constructor
                · rintro (⟨q, q1, q2⟩ | z)
                  · exact ⟨q, by omega, q2⟩
                  · exact ⟨p, by omega, hNp, z.1, z.2.2⟩
                · rintro ⟨q, q1, q2, q3⟩
                  by_cases e : q = p
                  · rw [e] at q3; exact Or.inr ⟨q3.1, by omega, q3.2⟩
                  · exact Or.inl ⟨q, by omega, q2, q3⟩) (fun q hq => by
                by_cases e : q = p
                · rw [e, mset_s]
                  exact ⟨fun _ => ⟨by omega, hNp⟩, fun _ => by decide⟩
                · rw [mset_k _ _ e, hgo' q hq]
                  exact ⟨fun z => ⟨by omega, z.2⟩, fun z => ⟨by omega, z.2⟩⟩)
              refine ⟨J, v_X8_strike_249 hg p _ x ⟨fun _ => ⟨⟨by omega, by omega⟩, ?_⟩, fun z => absurd (show iv1 X p ≤ x by omega) z⟩, j2⟩
              rw [Int.toNat_natCast]
              intro I2 e2'
              rw [e2']
              exact v_X8_strike_277 hg p ⟨by unfold inR; omega, j1⟩
            | succ n ih2 =>
              intro x L hn hx hL hgo' hs' hxx
              have ib := iv_b (N := N) hX hp
              obtain ⟨J, j1, j2⟩ := ih2 (x + 1) (mset L 150 x.toNat 1) (by omega) (by omega) (fun a k z y => (mset_a _ _ z).trans (hL a k z y)) (fun q hq => by rw [mset_a _ _ (by decide)]; exact hgo' q hq) (fun k hk => by
                by_cases e : (k : Int) = x
                · rw [show x.toNat = k by omega, mset_s]
                  exact ⟨fun _ => Or.inr ⟨by omega, by omega, by omega⟩, fun _ => by decide⟩
                · rw [mset_k _ _ (by omega), hs' k hk]
                  exact ⟨fun z => z.imp id (fun y => ⟨y.1, by omega, y.2.2⟩), fun z => z.imp id (fun y => ⟨y.1, by omega, y.2.2⟩)⟩) (by omega)
              refine ⟨J, v_X8_strike_249 hg p _ x ⟨fun z => absurd z (by omega), fun _ => ⟨⟨by omega, by omega⟩, fun I4 e4 => ?_⟩⟩, j2⟩
              rw [e4]
              exact ⟨by unfold inR; omega, j1⟩
          have ib := iv_b (N := N) hX hp
          obtain ⟨J, j1, j2⟩ := st (iv1 X p - iv0 X N p).toNat (iv0 X N p) K rfl ib.1 hK hgo (fun k hk => by
            rw [hs k hk]
            exact ⟨fun z => Or.inl z, fun z => z.resolve_right (fun y => by omega)⟩) (by omega)
          -- who stands ahead and who behind
          have sc : ∀ (n o : Nat), n + o = (X 0 2).toNat → Ev Γ 0 mX8_strike 105 [some (.inr (some 80)), some (.inl p), some (.inl (ahf X N p (min o p))), some (.inl (if p + 1 < o ∧ X 6 (p + 1) = X 6 p then ((p : Int) + 1) else -1)), some (.inl o), none, none] [] (g, K) (none, (g, J)) := by
            intro n
            induction n with
            | zero =>
              intro o hno
              have eo : (o : Int) = X 0 2 := by omega
              have em : min o p = p := by omega
              rw [em]
              refine v_X8_strike_105 hg p _ _ o ⟨fun _ => ?_, fun z => absurd (by rw [k2]; omega) z⟩
              have e194 : ∀ (x3 : Int), (x3 = -1 → iv0 X N p = X 3 p ∧ iv1 X p = X 5 p) → (x3 ≠ -1 → x3 = (p : Int) + 1 ∧ (p : Int) + 1 < X 0 2 ∧ iv0 X N p = X 3 p ∧ iv1 X p = X 3 (p + 1)) → Ev Γ 0 mX8_strike 194 [some (.inr (some 80)), some (.inl p), none, some (.inl x3), none, none, none] [] (g, K) (none, (g, J)) := fun x3 h1 h2 => by
                refine v_X8_strike_194 hg p x3 ⟨⟨by omega, by omega⟩, fun y ey => ⟨fun z => ⟨⟨by omega, by omega⟩, fun y5 e5 => ?_⟩, fun z => ?_⟩⟩
                · rw [Int.toNat_natCast] at ey e5
                  rw [e5, ey, tp.2.1, tp.2.2.1, ← (h1 z).1, ← (h1 z).2]
                  exact j1
                · obtain ⟨q1, q2, q3, q4⟩ := h2 z
                  refine ⟨⟨by omega, by omega⟩, fun y7 e7 => ?_⟩
                  rw [Int.toNat_natCast] at ey
                  rw [q1, show ((p : Int) + 1).toNat = p + 1 by omega, (kt (p + 1) (by omega)).2.1] at e7
                  rw [e7, ey, tp.2.1, ← q3, ← q4]
                  exact j1
              by_cases hsib : p + 1 < o ∧ X 6 (p + 1) = X 6 p
              · rw [if_pos hsib]
                have hs2 : (p : Int) + 1 < X 0 2 ∧ X 6 (p + 1) = X 6 p := ⟨by omega, hsib.2⟩
                exact ⟨fun _ => e194 _ (fun z => by omega) (fun _ => ⟨rfl, by omega, if_pos (Or.inl hs2), if_pos hs2⟩), fun z => absurd z (by omega)⟩
              · rw [if_neg hsib]
                have hs2 : ¬ ((p : Int) + 1 < X 0 2 ∧ X 6 (p + 1) = X 6 p) := fun z => hsib ⟨by omega, z.2⟩
                have v1 : iv1 X p = X 5 p := if_neg hs2
                refine ⟨fun z => absurd rfl z, fun _ => ⟨fun z => ?_, fun z => e194 _ (fun _ => ⟨if_pos (Or.inr z), v1⟩) (fun y => absurd rfl y)⟩⟩
                have v0 : iv0 X N p = X 5 (ahf X N p p).toNat := if_neg (fun y => y.elim hs2 z)
                rcases ahf_r X N p p with y | y
                · exact absurd y.1 z
                · refine ⟨⟨y.1, by omega⟩, fun y5 e5 => ⟨fun _ => ⟨⟨by omega, by omega⟩, fun y8 e8 => ?_⟩, fun x => absurd rfl x⟩⟩
                  rw [Int.toNat_natCast] at e8
                  rw [(kt (ahf X N p p).toNat (by omega)).2.2.1, ← v0] at e5
                  rw [tp.2.2.1, ← v1] at e8
                  rw [e5, e8]
                  exact j1
            | succ n ih3 =>
              intro o hno
              have nx := ih3 (o + 1) (by omega)
              have ho : (o : Int) < X 0 2 := by omega
              have tO := kt o ho
              have go : ∀ (x2 x3 : Int), x2 = ahf X N p (min (o + 1) p) → x3 = (if p + 1 < o + 1 ∧ X 6 (p + 1) = X 6 p then ((p : Int) + 1) else -1) → Ev Γ 0 mX8_strike 178 [some (.inr (some 80)), some (.inl p), some (.inl x2), some (.inl x3), some (.inl o), none, none] [] (g, K) (none, (g, J)) := fun x2 x3 h2 h3 => by
                rw [h2, h3]
                exact v_X8_strike_178 hg p _ _ o ⟨by unfold inR; omega, nx⟩
              refine v_X8_strike_105 hg p _ _ o ⟨fun z => absurd z (by rw [k2]; omega), fun _ => ⟨⟨by omega, by omega⟩, ⟨by omega, by omega⟩, ?_⟩⟩
              rw [Int.toNat_natCast, Int.toNat_natCast, tO.2.2.2.1, tp.2.2.2.1]
              have hgoO := hgo o ho
              have a1 : o < p → ahf X N p (min (o + 1) p) = cif (X 6 o = X 6 p ∧ ¬ N o) (o : Int) (ahf X N p (min o p)) := fun z => by
                rw [show min (o + 1) p = o + 1 by omega, show min o p = o by omega]
                rfl
              have a2 : p ≤ o → ahf X N p (min (o + 1) p) = ahf X N p (min o p) := fun z => by
                rw [show min (o + 1) p = p by omega, show min o p = p by omega]
              have b1 : ¬ o = p + 1 → (if p + 1 < o + 1 ∧ X 6 (p + 1) = X 6 p then ((p : Int) + 1) else -1) = (if p + 1 < o ∧ X 6 (p + 1) = X 6 p then ((p : Int) + 1) else -1) := fun z => by
                by_cases y : p + 1 < o ∧ X 6 (p + 1) = X 6 p
                · rw [if_pos y, if_pos ⟨by omega, y.2⟩]
                · rw [if_neg y, if_neg (fun x => y ⟨by omega, x.2⟩)]
              refine ⟨fun z => go _ _ ?_ ?_, fun z => ⟨fun y => go _ _ ?_ ?_, fun y => ⟨⟨by omega, by omega⟩, fun x => ⟨fun v => ⟨fun u => go _ _ ?_ ?_, fun u => go _ _ ?_ ?_⟩, fun v => go _ _ ?_ ?_⟩, fun x => go _ _ ?_ ?_⟩⟩⟩
              · by_cases c : o < p
                · rw [a1 c, cif_f (fun x => z x.1)]
                · rw [a2 (by omega)]
              · by_cases c : o = p + 1
                · rw [c] at z
                  rw [if_neg (fun x => z x.2), if_neg (fun x => z x.2)]
                · rw [b1 c]
              · rw [a2 (by omega)]
              · rw [b1 (by omega)]
              · rw [a2 (by omega)]
              · by_cases c : o = p + 1
                · exfalso
                  rw [if_neg (by omega)] at u
                  exact u rfl
                · rw [b1 c]
              · rw [a2 (by omega)]
              · by_cases c : o = p + 1
                · rw [c] at z
                  rw [if_pos ⟨by omega, z⟩]
                  omega
                · exfalso
                  refine nosib hX hp hk2 (fun x => ?_) (o := o) (by omega) ho z
                  rw [if_pos ⟨by omega, x.2⟩] at u
                  omega
              · rw [a1 (by omega), cif_t ⟨z, fun q => (hgoO.2 ⟨by omega, q⟩) x⟩]
              · rw [b1 (by omega)]
              · have q := hgoO.1 x
                rw [a1 q.1, cif_f (fun t => t.2 q.2)]
              · have q := hgoO.1 x
                rw [b1 (by omega)]
          have sc0 := sc (X 0 2).toNat 0 rfl
          rw [show min 0 p = 0 by omega, if_neg (show ¬ (p + 1 < 0 ∧ X 6 (p + 1) = X 6 p) by omega)] at sc0
          refine ⟨J, h54 J ⟨fun z => absurd z (by rw [k2]; omega), fun _ => ⟨⟨by omega, by omega⟩, fun z => absurd hk2 z, fun _ => ⟨⟨by omega, by omega⟩, l9, fun _ => sc0, fun z => absurd ?_ z⟩⟩⟩, j2⟩
          rw [hK 143 _ (by decide) (by decide)]
          exact h143
        · obtain ⟨J, j1, j2⟩ := skip hNp
          refine ⟨J, h54 J ⟨fun z => absurd z (by rw [k2]; omega), fun _ => ⟨⟨by omega, by omega⟩, fun z => absurd hk2 z, fun _ => ⟨⟨by omega, by omega⟩, l9, fun z => absurd ?_ hNp, fun _ => j1⟩⟩⟩, j2⟩
          rw [hK 143 _ (by decide) (by decide)] at z
          exact (hN p hp).2 ⟨hk2, z⟩
      · obtain ⟨J, j1, j2⟩ := skip (fun z => hk2 (hNR p z).2)
        exact ⟨J, h54 J ⟨fun z => absurd z (by rw [k2]; omega), fun _ => ⟨⟨by omega, by omega⟩, fun _ => j1, fun z => absurd z hk2⟩⟩, j2⟩
  have c28 : ∀ (m n : Nat) (K : IF), m + n = (X 0 2).toNat → FrK I K → (∀ k : Nat, (k : Int) < X 0 1 → K 150 k = 0) → (∀ k : Nat, k < n → K 151 k = 0) → ∃ J : IF, Ev Γ 0 mX8_strike 28 [some (.inr (some 80)), some (.inl n), none, none, none, none, none] [] (g, K) (none, (g, J)) ∧ FrK I J ∧ ∀ k : Nat, (k : Int) < X 0 1 → (J 150 k ≠ 0 ↔ SS X N (X 0 2).toNat k) := by
    intro m
    induction m with
    | zero =>
      intro n K hn hK h0 h1
      have k2 : K 102 2 = X 0 2 := (hK 102 2 (by decide) (by decide)).trans e2
      obtain ⟨J, j1, j2⟩ := main (X 0 2).toNat 0 K rfl hK (fun k hk => ⟨fun z => absurd (h0 k hk) z, fun ⟨q, q1, _⟩ => absurd q1 (Nat.not_lt_zero _)⟩) (fun q hq => ⟨fun z => absurd (h1 q (by omega)) z, fun z => absurd z.1 (Nat.not_lt_zero _)⟩)
      exact ⟨J, v_X8_strike_28 hg n ⟨fun _ => j1, fun z => absurd (by rw [k2]; omega) z⟩, j2⟩
    | succ m ih =>
      intro n K hn hK h0 h1
      have k2 : K 102 2 = X 0 2 := (hK 102 2 (by decide) (by decide)).trans e2
      obtain ⟨J, j1, j2⟩ := ih (n + 1) (mset K 151 n 0) (by omega) (fun a k z y => (mset_a _ _ y).trans (hK a k z y)) (fun k hk => by rw [mset_a _ _ (by decide)]; exact h0 k hk) (fun k hk => by
        by_cases e : k = n
        · rw [e, mset_s]
        · rw [mset_k _ _ e]; exact h1 k (by omega))
      refine ⟨J, v_X8_strike_28 hg n ⟨fun z => absurd z (by rw [k2]; omega), fun _ => ⟨by omega, ?_⟩⟩, j2⟩
      rw [Int.toNat_natCast]
      intro I2 e2'
      rw [e2']
      exact ⟨by unfold inR; omega, j1⟩
  have c2 : ∀ (m n : Nat) (K : IF), m + n = (X 0 1).toNat → FrK I K → (∀ k : Nat, k < n → K 150 k = 0) → ∃ J : IF, Ev Γ 0 mX8_strike 2 [some (.inr (some 80)), some (.inl n), none, none, none, none, none] [] (g, K) (none, (g, J)) ∧ FrK I J ∧ ∀ k : Nat, (k : Int) < X 0 1 → (J 150 k ≠ 0 ↔ SS X N (X 0 2).toNat k) := by
    intro m
    induction m with
    | zero =>
      intro n K hn hK h0
      have k1 : K 102 1 = X 0 1 := (hK 102 1 (by decide) (by decide)).trans e1
      obtain ⟨J, j1, j2⟩ := c28 (X 0 2).toNat 0 K rfl hK (fun k hk => h0 k (by omega)) (fun q hq => absurd hq (Nat.not_lt_zero _))
      exact ⟨J, v_X8_strike_2 hg n ⟨fun _ => j1, fun z => absurd (by rw [k1]; omega) z⟩, j2⟩
    | succ m ih =>
      intro n K hn hK h0
      have k1 : K 102 1 = X 0 1 := (hK 102 1 (by decide) (by decide)).trans e1
      obtain ⟨J, j1, j2⟩ := ih (n + 1) (mset K 150 n 0) (by omega) (fun a k z y => (mset_a _ _ z).trans (hK a k z y)) (fun k hk => by
        by_cases e : k = n
        · rw [e, mset_s]
        · rw [mset_k _ _ e]; exact h0 k (by omega))
      refine ⟨J, v_X8_strike_2 hg n ⟨fun z => absurd z (by rw [k1]; omega), fun _ => ⟨by omega, ?_⟩⟩, j2⟩
      rw [Int.toNat_natCast]
      intro I2 e2'
      rw [e2']
      exact ⟨by unfold inR; omega, j1⟩
  obtain ⟨J, j1, j2⟩ := c2 (X 0 1).toNat 0 I rfl FrK.rf (fun k hk => absurd hk (Nat.not_lt_zero _))
  exact ⟨J, CT.of (R := (none, (g, J))) oX8_strike (Nat.le_of_ble_eq_true rfl) (Nat.le_refl _) (Nat.le_refl _) (v_X8_strike_0 hg j1), j2⟩
end MST
