section MP2
variable {Γ : GX} {g : AG} {I J X K T P s Z : IF} {Df : Nat → Nat → Prop} {w fr rule : Int} {N : Nat → Prop} {sg : Nat → List Int} {B C : List Int} {tk : Nat → Int}
theorem FrY.rf : FrY I I := fun _ _ _ _ => rfl
theorem FrY.tr (h : FrY I J) (h2 : FrY J K) : FrY I K := fun a k z y => (h2 a k z y).trans (h a k z y)
theorem FrE.fy (h : FrE I J) : FrY I J := fun a k z y => h a k (by omega) (by omega)
theorem FrV.fy (h : FrV I J) : FrY I J := fun a k z y => h a k (by omega) (by omega) (by omega) (by omega)
theorem MSt.mvY (h : MSt T P Df I) (hF : FrY I J) : MSt T P Df J := by
  obtain ⟨h1, h2, h3, h4, h5, h6⟩ := h
  refine ⟨h1, h2, h3, h4.cgU (fun i k hi => hF (82 + i) k (by omega) (Or.inl (by omega))), h5.cgU (fun i k hi => hF (92 + i) k (by omega) (Or.inl (by omega))), fun a b ha hb => ?_⟩
  rw [hF 134 _ (by omega) (Or.inl (by omega))]
  exact h6 a b ha hb
/-- what puts leaves -/
def FrU (I J : IF) : Prop := ∀ a k : Nat, (a < 82 ∨ (91 < a ∧ a < 112) ∨ (121 < a ∧ a < 135) ∨ 151 < a) → (a ≠ 80 ∨ (k < 13 ∨ (19 < k ∧ k ≠ 26 ∧ k ≠ 36))) → J a k = I a k
theorem m_puts_92 (hg : GOk g) (hM : MSt T P Df I) (hF : FRO P fr) (hD : (∀ l : Nat, ¬ Df l l) ∧ ∀ l o : Nat, Df l o → Df o l) (hX : TOK w X) (hrX : TR X (tv 102 I)) (hO : LetOk X P) (htk : ∀ n : Nat, (n : Int) < T 0 2 → tk n ≠ 0 → WAY T P fr Df n ≠ none) {Q : Option AV → AG → IF → Prop} {x2 : Int}
    (fin : ∀ (K L : IF) (d : Int), FrY I K → CT Γ 0 mX8_copy [.inr (some 80), .inr (some 82), .inl d, .inl (K 82 1)] (g, K) (none, (g, L)) → FrY I L → MB L (newT T P X fr Df tk) → ∃ (r : Option AV) (gf : AG) (J : IF), Ev Γ 904 mX8_puts 92 [some (.inr (some 80)), none, some (.inl x2), some (.inl d), some (.inl (T 0 2)), none] [] (g, K) (r, (gf, J)) ∧ g.2.2.2 = gf.2.2.2 ∧ Q r gf J) :
    ∀ (m n : Nat) (K : IF) (B : List Int) (d : Int), m + n = (T 0 2).toNat → FrY I K → MB K B → 0 ≤ d → (∀ o : Nat, (o : Int) < T 0 2 → K 147 o = tk o) → B ++ outL T tk (ndL T P X fr Df) m n d = newT T P X fr Df tk → ∃ (r : Option AV) (gf : AG) (J : IF), Ev Γ 904 mX8_puts 92 [some (.inr (some 80)), none, some (.inl x2), some (.inl d), some (.inl n), none] [] (g, K) (r, (gf, J)) ∧ g.2.2.2 = gf.2.2.2 ∧ Q r gf J := by
  have hT := hM.1
  have hP := hM.2.1
  have htc := hT.1.2.1
  have sT' := hT.2.2.2.2.1.1
  intro m
  induction m with
  | zero =>
    intro n K B d hn hK hB hd h147 hout
    have rT : TR T (tv 82 K) := (hM.mvY hK).2.2.2.1
    have k821 : K 82 1 = T 0 1 := rT.1
    obtain ⟨L, l1, l2, l3⟩ := m_copy (Γ := Γ) (I := K) (B := B) hg (u := 82) (Or.inl rfl) hT rT hB (x := d) (y := T 0 1) ⟨hd, Int.le_refl _⟩
    rw [outL] at hout
    rw [hout] at l3
    have e := fin K L d hK (by rw [k821]; exact l1) (hK.tr l2.fv.fy) l3
    rw [show T 0 2 = (n : Int) by omega] at e
    exact e
  | succ m ih =>
    intro n K B d hn hK hB hd h147 hout
    have hMK := hM.mvY hK
    have rT : TR T (tv 82 K) := hMK.2.2.2.1
    have hn2 : (n : Int) < T 0 2 := by omega
    have k82 : K 82 2 = T 0 2 := rT.2.1
    have k85 : K 85 n = T 3 n := (rT.2.2.2 n hn2).1.2.1
    have sn := sT' n hn2
    have k147 := h147 n hn2
    by_cases t0 : tk n = 0
    · rw [outL, if_pos t0] at hout
      obtain ⟨r, gf, J, e, hgf, hQ⟩ := ih (n + 1) K B d (by omega) hK hB hd h147 hout
      refine ⟨r, gf, J, ?_, hgf, hQ⟩
      refine v_X8_puts_92 hg hgf x2 d n ⟨fun z => absurd z (by rw [k82]; omega), fun _ => ⟨⟨by omega, by omega⟩, ?_⟩⟩
      rw [Int.toNat_natCast, k147]
      exact ⟨fun z => absurd t0 z, fun _ => ⟨by unfold inR; omega, e⟩⟩
    · rw [outL, if_neg t0, ← List.append_assoc, ← List.append_assoc] at hout
      obtain ⟨L, l1, l2, l3⟩ := m_copy (Γ := Γ) (I := K) (B := B) hg (u := 82) (Or.inl rfl) hT rT hB (x := d) (y := T 3 n) ⟨hd, by omega⟩
      have hML := hM.mvY (hK.tr l2.fv.fy)
      obtain ⟨M, m1, m2, m3⟩ := m_isMatched (Γ := Γ) (fr := fr) (root := (n : Int)) hg hML hF hD ⟨by omega, hn2⟩
      have hW := htk n hn2 t0
      cases hs : WAY T P fr Df n with
      | none => exact absurd hs hW
      | some s' =>
        have hLR := m3 s' hs
        have hG := WAY_GI hT hP hF hD ⟨by omega, hn2⟩ hs
        obtain ⟨n1, n2⟩ := let_m hT hP hX hO hG hLR
        have fM : FrY I M := (hK.tr l2.fv.fy).tr m2.fe.fy
        have hMM := hM.mvY fM
        have lM : MB M (B ++ byt T d (T 3 n)) := l3.mv (m2 80 36 (by omega) (by omega)) (fun k => m2 149 k (by omega) (by omega))
        obtain ⟨W, w1, w2, w3⟩ := m_write (Γ := Γ) (T := T) (X := X) (N := NonS X P s') (sg := fun l => sgf T (fnS P s' l) (hmS P s' l)) hg hT hMM.2.2.2.1 hX (hrX.cgU (fun i k hi => fM (102 + i) k (by omega) (by omega))) NonS.nr n1 lM n2
        have en : ndL T P X fr Df n = tmpl X (NonS X P s') (fun l => sgf T (fnS P s' l) (hmS P s' l)) := by
          unfold ndL
          rw [hs]
          rfl
        rw [← en] at w3
        have fW : FrY I W := fM.tr w2.fy
        have rW : TR T (tv 82 W) := (hM.mvY fW).2.2.2.1
        have w86 : W 86 n = T 5 n := (rW.2.2.2 n hn2).1.2.2.1
        obtain ⟨r, gf, J, e, hgf, hQ⟩ := ih (n + 1) W _ (T 5 n) (by omega) fW w3 (by omega) (fun o ho => by
          rw [w2 147 o (by omega) (by omega) (by omega) (by omega), m2 147 o (by omega) (by omega), l2 147 o (by omega) (by omega)]
          exact h147 o ho) hout
        refine ⟨r, gf, J, ?_, hgf, hQ⟩
        refine v_X8_puts_92 hg hgf x2 d n ⟨fun z => absurd z (by rw [k82]; omega), fun _ => ⟨⟨by omega, by omega⟩, ?_⟩⟩
        rw [Int.toNat_natCast, k147, k85]
        refine ⟨fun _ => ⟨⟨by omega, by omega⟩, L, l1, _, M, m1, W, w1, ⟨by omega, by omega⟩, fun y ey => ⟨by unfold inR; omega, ?_⟩⟩, fun z => absurd z t0⟩
        rw [ey, w86]
        exact e
end MP2
