/-! ===== the template filled: the reference ===== -/
def FrV (I J : IF) : Prop := ∀ a k : Nat, a ≠ 149 → a ≠ 150 → a ≠ 151 → (a ≠ 80 ∨ k ≠ 36) → J a k = I a k
def HF (T I : IF) (l : Nat) (L : List Int) : Prop := (0 ≤ I 141 l ∧ I 141 l < T 0 2) ∧ L = byt T (T 3 (I 141 l).toNat) (T 5 (I 141 l).toNat)
def RF (T I : IF) (l : Nat) (L : List Int) : Prop := (0 ≤ I 142 l ∧ I 142 l < T 0 2) ∧ (0 ≤ I 144 l ∧ I 144 l < T 0 2) ∧ 0 ≤ I 145 l ∧ 1 ≤ I 143 l ∧ I 145 l + I 143 l ≤ T 7 (I 144 l).toNat ∧ L = byt T (T 3 (I 142 l).toNat) (T 5 (tmI (T 8) (I 144 l) (I 145 l + I 143 l - 1).toNat).toNat)
section MWR
variable {Γ : GX} {g : AG} {I J X K T : IF} {N : Nat → Prop} {sg : Nat → List Int} {B C : List Int} {w : Int}
theorem FrV.rf : FrV I I := fun _ _ _ _ _ _ => rfl
theorem FrV.tr (h : FrV I J) (h2 : FrV J K) : FrV I K := fun a k z y x v => (h2 a k z y x v).trans (h a k z y x v)
theorem FrQ.fv (h : FrQ I J) : FrV I J := fun a k z _ _ v => h a k z v
theorem FrK.fv (h : FrK I J) : FrV I J := fun a k _ y x _ => h a k y x
theorem kd9 (hX : TOK w X) {q : Nat} (hq : (q : Int) < X 0 2) : X 9 q ≠ -1 ↔ (X 2 q = 1 ∨ X 2 q = 2) := by
  rcases hX.2.2.2.2.2.1.1 q hq with z | z | z
  · exact ⟨fun y => absurd z.2.1 y, fun y => by omega⟩
  · exact ⟨fun _ => z.1, fun _ => by omega⟩
  · exact ⟨fun y => absurd z.2.1 y, fun y => by omega⟩
/-- WRITE -/
theorem m_write (hg : GOk g) (hT : TOK 0 T) (hrT : TR T (tv 82 I)) (hX : TOK w X) (hrX : TR X (tv 102 I)) (hNR : NR X N) (hN : ∀ q : Nat, (q : Int) < X 0 2 → (N q ↔ X 2 q = 2 ∧ I 143 (X 9 q).toNat ≤ 0)) (hB : MB I B)
    (hsg : ∀ q : Nat, (q : Int) < X 0 2 → ¬ N q → (X 2 q = 1 → HF T I (X 9 q).toNat (sg (X 9 q).toNat)) ∧ (X 2 q = 2 → RF T I (X 9 q).toNat (sg (X 9 q).toNat))) :
    ∃ J : IF, CT Γ 1 mX8_write [.inr (some 80)] (g, I) (none, (g, J)) ∧ FrV I J ∧ MB J (B ++ tmpl X N sg) := by
  obtain ⟨D, d1, d2, d3⟩ := m_strike (Γ := Γ) hg hX hrX hN hNR
  have hc := hX.1.2.1
  have htc := hT.1.2.1
  have hlen := hX.1.1
  have s := hX.2.2.2.2.1.1
  have sT' := hT.2.2.2.2.1.1
  have s0 := s 0 (by omega)
  have e2 : I 102 2 = X 0 2 := hrX.2.1
  have tr : ∀ q : Nat, (q : Int) < X 0 2 → I 104 q = X 2 q ∧ I 105 q = X 3 q ∧ I 106 q = X 5 q ∧ I 109 q = X 6 q ∧ I 110 q = X 9 q := fun q hq => (hrX.2.2.2 q hq).1
  have trT : ∀ q : Nat, (q : Int) < T 0 2 → I 85 q = T 3 q ∧ I 86 q = T 5 q := fun q hq => ⟨(hrT.2.2.2 q hq).1.2.1, (hrT.2.2.2 q hq).1.2.2.1⟩
  have lp : ∀ (n i : Nat) (K : IF) (B : List Int), (n : Int) = X 5 0 - i → X 3 0 ≤ i → FrQ D K → MB K B → (lpos X i → SS X N (X 0 2).toNat i) →
      ∃ J : IF, Ev Γ 1 mX8_write 14 [some (.inr (some 80)), some (.inl i), none, none] [] (g, K) (none, (g, J)) ∧ FrQ D J ∧ MB J (B ++ cat (cb X (SS X N (X 0 2).toNat) sg) n i) := by
    intro n
    induction n using Nat.strongRecOn with
    | ind n ih =>
      intro i K B hn hi hK hB hnl
      have fd := d2.fv.tr hK.fv
      have k1 : ∀ a k : Nat, a < 149 → a ≠ 80 → K a k = I a k := fun a k h1 h2 => fd a k (by omega) (by omega) (by omega) (Or.inl h2)
      have k106 : K 106 0 = X 5 0 := (k1 106 0 (by decide) (by decide)).trans (tr 0 (by omega)).2.2.1
      have k102 : K 102 2 = X 0 2 := (k1 102 2 (by decide) (by decide)).trans e2
      have trK : TR T (tv 82 K) := hrT.cgU (fun i k hi => k1 (82 + i) k (by omega) (by omega))
      have trX : TR X (tv 102 K) := hrX.cgU (fun i k hi => k1 (102 + i) k (by omega) (by omega))
      cases n with
      | zero =>
        refine ⟨K, v_X8_write_14 hg i ⟨fun _ => ⟨rfl, rfl⟩, fun z => absurd (show K 106 0 ≤ (i : Int) by omega) z⟩, hK, ?_⟩
        rw [cat, List.append_nil]
        exact hB
      | succ n =>
        have hilt : (i : Int) < X 0 1 := by omega
        have g150 : K 150 i ≠ 0 ↔ SS X N (X 0 2).toNat i := by
          rw [hK 150 i (by decide) (by omega)]
          exact d3 i hilt
        -- the scan
        have scan : ∀ (R : Option AV × (AG × IF)), (∀ x2 : Int, ((x2 = -1 ∧ ∀ q : Nat, (q : Int) < X 0 2 → (X 2 q = 1 ∨ X 2 q = 2) → X 3 q ≠ i) ∨ (∃ q : Nat, (q : Int) < X 0 2 ∧ x2 = q ∧ (X 2 q = 1 ∨ X 2 q = 2) ∧ X 3 q = i)) → ∃ J : IF, R = (none, (g, J)) ∧ Ev Γ 1 mX8_write 31 [some (.inr (some 80)), some (.inl i), some (.inl x2), some (.inl (X 0 2))] [] (g, K) (none, (g, J))) →
            ∃ J : IF, R = (none, (g, J)) ∧ Ev Γ 1 mX8_write 31 [some (.inr (some 80)), some (.inl i), some (.inl (-1)), some (.inl 0)] [] (g, K) (none, (g, J)) := fun R hR => by
          have sc : ∀ (m o : Nat) (x2 : Int), m + o = (X 0 2).toNat → ((x2 = -1 ∧ ∀ q : Nat, q < o → (X 2 q = 1 ∨ X 2 q = 2) → X 3 q ≠ i) ∨ (∃ q : Nat, q < o ∧ x2 = q ∧ (X 2 q = 1 ∨ X 2 q = 2) ∧ X 3 q = i)) → ∃ J : IF, R = (none, (g, J)) ∧ Ev Γ 1 mX8_write 31 [some (.inr (some 80)), some (.inl i), some (.inl x2), some (.inl (o : Int))] [] (g, K) (none, (g, J)) := by
            intro m
            induction m with
            | zero =>
              intro o x2 hm h
              obtain ⟨J, j1, j2⟩ := hR x2 (by
                rcases h with ⟨a, b⟩ | ⟨q, a, b, c⟩
                · exact Or.inl ⟨a, fun q h1 h2 => b q (by omega) h2⟩
                · exact Or.inr ⟨q, by omega, b, c⟩)
              clear h
              rw [show X 0 2 = (o : Int) by omega] at j2
              exact ⟨J, j1, j2⟩
            | succ m ih2 =>
              intro o x2 hm h
              have ho : (o : Int) < X 0 2 := by omega
              have tO := tr o ho
              have k105 : K 105 o = X 3 o := (k1 105 o (by decide) (by decide)).trans tO.2.1
              have k110 : K 110 o = X 9 o := (k1 110 o (by decide) (by decide)).trans tO.2.2.2.2
              have nx : ∀ y2 : Int, ((y2 = -1 ∧ ∀ q : Nat, q < o + 1 → (X 2 q = 1 ∨ X 2 q = 2) → X 3 q ≠ i) ∨ (∃ q : Nat, q < o + 1 ∧ y2 = q ∧ (X 2 q = 1 ∨ X 2 q = 2) ∧ X 3 q = i)) → ∃ J : IF, R = (none, (g, J)) ∧ Ev Γ 1 mX8_write 70 [some (.inr (some 80)), some (.inl i), some (.inl y2), some (.inl (o : Int))] [] (g, K) (none, (g, J)) := fun y2 hy => by
                obtain ⟨J, j1, j2⟩ := ih2 (o + 1) y2 (by omega) hy
                exact ⟨J, j1, v_X8_write_70 hg i y2 o ⟨by unfold inR; omega, j2⟩⟩
              by_cases c1 : X 3 o = i
              · by_cases c2 : X 9 o = -1
                · obtain ⟨J, j1, j2⟩ := nx x2 (by
                    rcases h with ⟨a, b⟩ | ⟨q, a, b, c⟩
                    · refine Or.inl ⟨a, fun q h1 h2 => ?_⟩
                      by_cases e : q = o
                      · rw [e] at h2; exact absurd c2 ((kd9 hX ho).2 h2)
                      · exact b q (by omega) h2
                    · exact Or.inr ⟨q, by omega, b, c⟩)
                  refine ⟨J, j1, v_X8_write_31 hg i x2 o ⟨fun z => absurd z (by rw [k102]; omega), fun _ => ⟨⟨by omega, by omega⟩, ?_⟩⟩⟩
                  rw [Int.toNat_natCast, k105, k110]
                  exact ⟨fun z => absurd c1 z, fun _ => ⟨⟨by omega, by omega⟩, fun _ => j2, fun z => absurd c2 z⟩⟩
                · obtain ⟨J, j1, j2⟩ := nx o (Or.inr ⟨o, by omega, rfl, (kd9 hX ho).1 c2, c1⟩)
                  refine ⟨J, j1, v_X8_write_31 hg i x2 o ⟨fun z => absurd z (by rw [k102]; omega), fun _ => ⟨⟨by omega, by omega⟩, ?_⟩⟩⟩
                  rw [Int.toNat_natCast, k105, k110]
                  exact ⟨fun z => absurd c1 z, fun _ => ⟨⟨by omega, by omega⟩, fun z => absurd z c2, fun _ => j2⟩⟩
              · obtain ⟨J, j1, j2⟩ := nx x2 (by
                  rcases h with ⟨a, b⟩ | ⟨q, a, b, c⟩
                  · refine Or.inl ⟨a, fun q h1 h2 => ?_⟩
                    by_cases e : q = o
                    · rw [e]; exact c1
                    · exact b q (by omega) h2
                  · exact Or.inr ⟨q, by omega, b, c⟩)
                refine ⟨J, j1, v_X8_write_31 hg i x2 o ⟨fun z => absurd z (by rw [k102]; omega), fun _ => ⟨⟨by omega, by omega⟩, ?_⟩⟩⟩
                rw [Int.toNat_natCast, k105, k110]
                exact ⟨fun _ => j2, fun z => absurd z c1⟩
          exact sc (X 0 2).toNat 0 (-1) rfl (Or.inl ⟨rfl, fun q h => absurd h (Nat.not_lt_zero _)⟩)
        have out : ∀ {J : IF}, (∃ J' : IF, ((none : Option AV), (g, J)) = (none, (g, J')) ∧ Ev Γ 1 mX8_write 31 [some (.inr (some 80)), some (.inl i), some (.inl (-1)), some (.inl 0)] [] (g, K) (none, (g, J'))) → Ev Γ 1 mX8_write 14 [some (.inr (some 80)), some (.inl i), none, none] [] (g, K) (none, (g, J)) := fun {J} h => by
          obtain ⟨J', j1, j2⟩ := h
          have : J' = J := by
            have := congrArg (fun z => z.2.2) j1
            exact this.symm
          rw [this] at j2
          exact v_X8_write_14 hg i ⟨fun z => absurd z (by omega), fun _ => j2⟩
        by_cases hgo : SS X N (X 0 2).toNat i
        · obtain ⟨J, j1, j2, j3⟩ := ih n (by omega) (i + 1) K B (by omega) (by omega) hK hB (fun z => by
            have hs : sgnb X i := by have := z.2; rw [Nat.add_sub_cancel] at this; exact this
            obtain ⟨q, q1, q2, q3⟩ := sgn_p hX hilt hs
            have sl := SS_let hX hNR (k := (X 0 2).toNat) q1 q2
            rw [q3] at sl
            exact sl.1 hgo)
          refine ⟨J, out (scan (none, (g, J)) (fun x2 _ => ⟨J, rfl, v_X8_write_31 hg i x2 _ ⟨fun _ => ⟨⟨by omega, by omega⟩, ?_⟩, fun z => absurd (show K 102 2 ≤ X 0 2 by omega) z⟩⟩)), j2, ?_⟩
          · rw [Int.toNat_natCast]
            exact ⟨fun z => absurd z (g150.2 hgo), fun _ => ⟨by unfold inR; omega, j1⟩⟩
          · rw [cat, cb_s hgo, List.nil_append]
            exact j3
        · have z150 : K 150 i = 0 := Classical.byContradiction (fun z => hgo (g150.1 z))
          have hnl' : ¬ lpos X i := fun z => hgo (hnl z)
          by_cases hs : sgnb X i
          · obtain ⟨q, q1, q2, q3⟩ := sgn_p hX hilt hs
            have lt := let_p hX q1 q2
            have i0 := in0 hX q1
            have ei : (X 3 q).toNat = i := by omega
            rw [ei] at lt
            have nl := no_lpos2 hX q1 q2
            rw [ei] at nl
            have hnq : ¬ N q := fun z => hgo (by
              have := (SS_3 hX hNR (k := (X 0 2).toNat) q1).2 ⟨by omega, z⟩
              rw [q3] at this
              exact this)
            obtain ⟨n', rfl⟩ : ∃ n', n = n' + 1 := ⟨n - 1, by omega⟩
            have c1 := lt.2.2.2.2
            have e1 : cb X (SS X N (X 0 2).toNat) sg i = sg (X 9 q).toNat := by
              rw [cb_g hgo hs, c1, show X 9 q + 97 - 97 = X 9 q by omega]
            have e2' := cb_l (S := SS X N (X 0 2).toNat) (sg := sg) (i := i + 1) nl.2 ⟨by omega, by rw [Nat.add_sub_cancel]; exact hs⟩
            rw [cat, cat, e1, e2', List.nil_append, ← List.append_assoc]
            have tq := tr q q1
            have k104 : K 104 q = X 2 q := (k1 104 q (by decide) (by decide)).trans tq.1
            have k110 : K 110 q = X 9 q := (k1 110 q (by decide) (by decide)).trans tq.2.2.2.2
            have l9 := lt.1
            -- only q
            have only : ∀ x2 : Int, ((x2 = -1 ∧ ∀ q : Nat, (q : Int) < X 0 2 → (X 2 q = 1 ∨ X 2 q = 2) → X 3 q ≠ i) ∨ (∃ q : Nat, (q : Int) < X 0 2 ∧ x2 = q ∧ (X 2 q = 1 ∨ X 2 q = 2) ∧ X 3 q = i)) → x2 = (q : Int) := fun x2 h => by
              rcases h with ⟨_, b⟩ | ⟨o, a, b, c, d⟩
              · exact absurd q3 (b q q1 q2)
              · rw [b]
                rcases Nat.lt_trichotomy o q with z | z | z
                · have := hX.mono3 q1 z; omega
                · rw [z]
                · have := hX.mono3 a z; omega
            -- the copying, and on
            have fin : ∀ (x y : Int), sg (X 9 q).toNat = byt T x y → 0 ≤ x ∧ y ≤ T 0 1 → ∃ L J : IF, CT Γ 0 mX8_copy [.inr (some 80), .inr (some 82), .inl x, .inl y] (g, K) (none, (g, L)) ∧ Ev Γ 1 mX8_write 234 [some (.inr (some 80)), some (.inl i), none, none] [] (g, L) (none, (g, J)) ∧ FrQ D J ∧ MB J (B ++ sg (X 9 q).toNat ++ cat (cb X (SS X N (X 0 2).toNat) sg) n' (i + 2)) := fun x y hxy hb => by
              obtain ⟨L, l1, l2, l3⟩ := m_copy (Γ := Γ) (I := K) (B := B) hg (u := 82) (Or.inl rfl) hT trK hB (x := x) (y := y) hb
              rw [← hxy] at l3
              obtain ⟨J, j1, j2, j3⟩ := ih n' (by omega) (i + 2) L _ (by omega) (by omega) (hK.tr l2) l3 (fun z => absurd z nl.1)
              exact ⟨L, J, l1, v_X8_write_234 hg i ⟨by unfold inR; omega, j1⟩, j2, j3⟩
            rcases q2 with k1' | k2'
            · obtain ⟨⟨f1, f2⟩, f3⟩ := (hsg q q1 hnq).1 k1'
              have k141 : K 141 (X 9 q).toNat = I 141 (X 9 q).toNat := k1 141 _ (by decide) (by decide)
              have tT := trT (I 141 (X 9 q).toNat).toNat (by omega)
              have st := sT' (I 141 (X 9 q).toNat).toNat (by omega)
              obtain ⟨L, J, l1, l2, l3, l4⟩ := fin _ _ f3 ⟨st.1, st.2.2.2⟩
              refine ⟨J, out (scan (none, (g, J)) (fun x2 hx2 => ⟨J, rfl, ?_⟩)), l3, l4⟩
              rw [only x2 hx2]
              refine v_X8_write_31 hg i q _ ⟨fun _ => ⟨⟨by omega, by omega⟩, ?_⟩, fun z => absurd (show K 102 2 ≤ X 0 2 by omega) z⟩
              rw [Int.toNat_natCast, Int.toNat_natCast, k110, k104]
              refine ⟨fun _ => ⟨fun _ => ⟨⟨by omega, by omega⟩, fun y6 e6 => ⟨⟨by omega, by omega⟩, fun z => absurd k1' z, fun _ => ?_⟩⟩, fun z => by omega⟩, fun z => absurd z150 z⟩
              rw [e6, k141, k1 85 _ (by decide) (by decide), k1 86 _ (by decide) (by decide), tT.1, tT.2]
              exact ⟨l9, ⟨f1, by omega⟩, l9, ⟨f1, by omega⟩, L, l1, l2⟩
            · obtain ⟨f1, f2, f3, f4, f5, f6⟩ := (hsg q q1 hnq).2 k2'
              have k14 : ∀ a : Nat, 141 ≤ a → a ≤ 145 → K a (X 9 q).toNat = I a (X 9 q).toNat := fun a h1 h2 => k1 a _ (by omega) (by omega)
              have t7 := hT.t7 (p := (I 144 (X 9 q).toNat).toNat) (by omega)
              have nle := ncI_le (T 6) (((I 144 (X 9 q).toNat).toNat : Nat) : Int) (T 0 2).toNat
              have hj : ((I 145 (X 9 q).toNat + I 143 (X 9 q).toNat - 1).toNat : Int) < ncI (T 6) (((I 144 (X 9 q).toNat).toNat : Nat) : Int) (T 0 2).toNat := by omega
              have mt := m_term (Γ := Γ) (I := K) (u := 82) hg (Or.inl rfl) hT trK (n := (I 144 (X 9 q).toNat).toNat) (by omega) hj
              have tl := hT.2.1.tml (n := (I 144 (X 9 q).toNat).toNat) (by omega) hj
              rw [show (((I 144 (X 9 q).toNat).toNat : Nat) : Int) = I 144 (X 9 q).toNat by omega, show ((I 145 (X 9 q).toNat + I 143 (X 9 q).toNat - 1).toNat : Int) = I 145 (X 9 q).toNat + I 143 (X 9 q).toNat - 1 by omega] at mt
              rw [show (((I 144 (X 9 q).toNat).toNat : Nat) : Int) = I 144 (X 9 q).toNat by omega] at tl
              have tT := trT (I 142 (X 9 q).toNat).toNat (by omega)
              have tT2 := trT (tmI (T 8) (I 144 (X 9 q).toNat) (I 145 (X 9 q).toNat + I 143 (X 9 q).toNat - 1).toNat).toNat (by omega)
              have st := sT' (I 142 (X 9 q).toNat).toNat (by omega)
              have st2 := sT' (tmI (T 8) (I 144 (X 9 q).toNat) (I 145 (X 9 q).toNat + I 143 (X 9 q).toNat - 1).toNat).toNat (by omega)
              obtain ⟨L, J, l1, l2, l3, l4⟩ := fin _ _ f6 ⟨st.1, st2.2.2.2⟩
              refine ⟨J, out (scan (none, (g, J)) (fun x2 hx2 => ⟨J, rfl, ?_⟩)), l3, l4⟩
              rw [only x2 hx2]
              refine v_X8_write_31 hg i q _ ⟨fun _ => ⟨⟨by omega, by omega⟩, ?_⟩, fun z => absurd (show K 102 2 ≤ X 0 2 by omega) z⟩
              rw [Int.toNat_natCast, Int.toNat_natCast, k110, k104]
              refine ⟨fun _ => ⟨fun _ => ⟨⟨by omega, by omega⟩, fun y6 e6 => ⟨⟨by omega, by omega⟩, fun _ => ?_, fun z => by omega⟩⟩, fun z => by omega⟩, fun z => absurd z150 z⟩
              rw [e6, k14 142 (by decide) (by decide), k14 143 (by decide) (by decide), k14 144 (by decide) (by decide), k14 145 (by decide) (by decide), k1 85 _ (by decide) (by decide), tT.1]
              refine ⟨l9, ⟨f1.1, by omega⟩, l9, l9, l9, by unfold inR; omega, by unfold inR; omega, _, _, mt, ⟨by omega, by omega⟩, L, ?_, l2⟩
              rw [k1 86 _ (by decide) (by decide), tT2.2]
              exact l1
          · obtain ⟨L, l1, l2, l3⟩ := m_copy (Γ := Γ) (I := K) (B := B) hg (u := 102) (by unfold Mt; omega) hX trX hB (x := (i : Int)) (y := (i : Int) + 1) ⟨by omega, by omega⟩
            rw [byt_one] at l3
            obtain ⟨J, j1, j2, j3⟩ := ih n (by omega) (i + 1) L _ (by omega) (by omega) (hK.tr l2) l3 (fun z => absurd (by have := z.2; rw [Nat.add_sub_cancel] at this; exact this) hs)
            refine ⟨J, out (scan (none, (g, J)) (fun x2 hx2 => ⟨J, rfl, ?_⟩)), j2, ?_⟩
            · have ex : x2 = -1 := by
                rcases hx2 with ⟨a, _⟩ | ⟨o, a, b, c, d⟩
                · exact a
                · exfalso
                  have lt := (let_p hX a c).2.2.2.1
                  rw [d, Int.toNat_natCast] at lt
                  exact hs lt
              rw [ex]
              refine v_X8_write_31 hg i (-1) _ ⟨fun _ => ⟨⟨by omega, by omega⟩, ?_⟩, fun z => absurd (show K 102 2 ≤ X 0 2 by omega) z⟩
              rw [Int.toNat_natCast]
              exact ⟨fun _ => ⟨fun z => absurd rfl z, fun _ => ⟨by unfold inR; omega, L, l1, by unfold inR; omega, j1⟩⟩, fun z => absurd z150 z⟩
            · rw [cat, cb_b hgo hs hnl', ← List.append_assoc]
              exact j3
  obtain ⟨J, j1, j2, j3⟩ := lp (X 5 0 - X 3 0).toNat (X 3 0).toNat D B (by omega) (by omega) FrQ.rf (hB.mv (d2 80 36 (by decide) (by decide)) (fun k => d2 149 k (by decide) (by decide))) (fun z => by
    obtain ⟨q, q1, q2, q3⟩ := sgn_p hX (by omega) z.2
    have a := (in0 hX q1).2
    have := z.1
    omega)
  refine ⟨J, CT.of (R := (none, (g, J))) oX8_write (Nat.le_of_ble_eq_true rfl) (Nat.le_refl _) (Nat.le_refl _) (v_X8_write_0 hg ⟨D, d1, fun y5 e5 => ?_⟩), d2.fv.tr j2.fv, j3⟩
  rw [d2 105 0 (by decide) (by decide), (tr 0 (by omega)).2.1] at e5
  rw [e5]
  rw [show (((X 3 0).toNat : Nat) : Int) = X 3 0 by omega] at j1
  exact j1
end MWR
