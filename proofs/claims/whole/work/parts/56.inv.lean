/-! ===== what holds between two calls ===== -/
def slot (I : IF) (i : Nat) : Nat := ((I 66 2 - I 66 3 + i + 11) % 11).toNat
def KeptR (I : IF) (i s : Nat) : Prop := (0 ≤ I 79 s ∧ I 79 s ≤ 240) ∧ I 133 i = I 79 s ∧ (∀ j : Nat, (j : Int) < I 79 s → I 132 (240 * i + j) = sb (I (68 + s) j)) ∧ ∃ X : IF, RdOk 0 X ∧ X 0 1 = I 79 s ∧ ∀ j : Nat, (j : Int) < I 79 s → X 1 j = I (68 + s) j
def PastR (I : IF) : Prop := (I 80 10 = I 66 3 ∧ (0 ≤ I 66 3 ∧ I 66 3 ≤ 10) ∧ (0 ≤ I 66 2 ∧ I 66 2 ≤ 10)) ∧ ∀ i : Nat, (i : Int) < I 66 3 → KeptR I i (slot I i)
def TapeR (I : IF) : Prop := I 80 2 = I 1 1 ∧ (0 ≤ I 1 1 ∧ I 1 1 ≤ 240) ∧ ∀ j : Nat, (j : Int) < I 1 1 → I 81 j = sb (I 2 j) ∧ 0 ≤ I 2 j ∧ I 2 j ≤ 255
def DifR (I : IF) : Prop := ∀ a b : Nat, a < 26 → b < 26 → (I 134 (26 * a + b) = 0 ∨ I 134 (26 * a + b) = 1) ∧ (¬ I 134 (26 * a + b) = 0 ↔ zDf I a b)
def TreesR (I : IF) : Prop := TR (ct 3 I) (tv 82 I) ∧ TR (ct 15 I) (tv 92 I) ∧ TR (ct 27 I) (tv 102 I)
def InvB (I : IF) : Prop := TapeR I ∧ CSt I ∧ (TOK 2 (ct 27 I) ∧ I 27 1 ≤ 80) ∧ RdOk 0 (ct 3 I) ∧ TreesR I ∧ DifR I ∧ PastR I
/-- THE INVARIANT -/
def Inv (I : IF) : Prop := InvB I ∧ (I 52 15 ≠ 0 → KnA I I)
/-- the cells that it speaks of -/
def core (a k : Nat) : Prop := (a = 1 ∧ k = 1) ∨ (2 ≤ a ∧ a ≤ 38) ∨ (a = 52 ∧ (k = 7 ∨ k = 8)) ∨ a = 57 ∨ a = 58 ∨ a = 66 ∨ (68 ≤ a ∧ a ≤ 79) ∨ (a = 80 ∧ (k = 2 ∨ k = 10)) ∨ (81 ≤ a ∧ a ≤ 111) ∨ (132 ≤ a ∧ a ≤ 134)
def Core (I J : IF) : Prop := ∀ a k : Nat, core a k → J a k = I a k
section INV
variable {Γ : GX} {g : AG} {I J X : IF}
theorem Core.same (h : Core I J) : CSame I J := ⟨fun i k hi => h _ _ (by unfold core; omega), fun i k hi => h _ _ (by unfold core; omega), fun k => ⟨h _ _ (by unfold core; omega), h _ _ (by unfold core; omega)⟩, h _ _ (by unfold core; omega), h _ _ (by unfold core; omega)⟩
theorem Core.rf : Core I I := fun _ _ _ => rfl
theorem Core.tr (h1 : Core I J) (h2 : Core J X) : Core I X := fun a k z => (h2 a k z).trans (h1 a k z)
theorem KeptR.mv {i s : Nat} (hs : s ≤ 10) (h : KeptR I i s) (e79 : J 79 s = I 79 s) (e133 : J 133 i = I 133 i) (e132 : ∀ j : Nat, j < 240 → J 132 (240 * i + j) = I 132 (240 * i + j)) (e68 : ∀ j : Nat, (j : Int) < I 79 s → J (68 + s) j = I (68 + s) j) : KeptR J i s := by
  obtain ⟨h1, h2, h3, X, h4, h5, h6⟩ := h
  refine ⟨by rw [e79]; exact h1, by rw [e79, e133]; exact h2, fun j hj => ?_, X, h4, by rw [e79]; exact h5, fun j hj => ?_⟩
  · rw [e79] at hj
    rw [e132 j (by omega), e68 j hj]; exact h3 j hj
  · rw [e79] at hj
    rw [e68 j hj]; exact h6 j hj
theorem slot_le (i : Nat) : slot I i ≤ 10 := by unfold slot; omega
theorem TapeR.mv (h : TapeR I) (e1 : J 1 1 = I 1 1) (e2 : J 80 2 = I 80 2) (e3 : ∀ j : Nat, (j : Int) < I 1 1 → J 2 j = I 2 j ∧ J 81 j = I 81 j) : TapeR J := by
  refine ⟨by rw [e1, e2]; exact h.1, by rw [e1]; exact h.2.1, fun j hj => ?_⟩
  rw [e1] at hj
  rw [(e3 j hj).1, (e3 j hj).2]
  exact h.2.2 j hj
theorem PastR.mv (h : PastR I) (e : ∀ a k : Nat, (a = 66 ∨ (68 ≤ a ∧ a ≤ 79) ∨ (a = 80 ∧ k = 10) ∨ a = 132 ∨ a = 133) → J a k = I a k) : PastR J := by
  have e3 := e 66 3 (by omega)
  have e2 := e 66 2 (by omega)
  refine ⟨by rw [e 80 10 (by omega), e3, e2]; exact h.1, fun i hi => ?_⟩
  have es : slot J i = slot I i := by unfold slot; rw [e2, e3]
  rw [es]
  rw [e3] at hi
  have hs := slot_le (I := I) i
  exact (h.2 i hi).mv hs (e 79 _ (by omega)) (e 133 _ (by omega)) (fun j _ => e 132 _ (by omega)) (fun j _ => e _ _ (by omega))
theorem DifR.mv (h : DifR I) (e : ∀ k : Nat, J 134 k = I 134 k) (e58 : ∀ k : Nat, J 58 k = I 58 k) : DifR J := fun a b ha hb => by
  have q := h a b ha hb
  rw [e]
  unfold zDf at q ⊢
  rw [e58]
  exact q
theorem TreesR.mv (h : TreesR I) (e : ∀ a k : Nat, ((3 ≤ a ∧ a ≤ 38) ∨ (82 ≤ a ∧ a ≤ 111)) → J a k = I a k) : TreesR J := by
  refine ⟨?_, ?_, ?_⟩
  · rw [ct_eq (t := 3) (Z := I) (fun i k hi => e _ _ (by omega))]
    exact h.1.cgU (fun i k hi => e (82 + i) k (by omega))
  · rw [ct_eq (t := 15) (Z := I) (fun i k hi => e _ _ (by omega))]
    exact h.2.1.cgU (fun i k hi => e (92 + i) k (by omega))
  · rw [ct_eq (t := 27) (Z := I) (fun i k hi => e _ _ (by omega))]
    exact h.2.2.cgU (fun i k hi => e (102 + i) k (by omega))
theorem InvB.mv (h : InvB I) (e : Core I J) : InvB J := by
  obtain ⟨h1, h2, h3, h4, h5, h6, h7⟩ := h
  refine ⟨h1.mv (e _ _ (by unfold core; omega)) (e _ _ (by unfold core; omega)) (fun j _ => ⟨e _ _ (by unfold core; omega), e _ _ (by unfold core; omega)⟩), h2.mv e.same (e _ _ (by unfold core; omega)), ⟨?_, by rw [e 27 1 (by unfold core; omega)]; exact h3.2⟩, ?_, h5.mv (fun a k z => e _ _ (by unfold core; omega)), h6.mv (fun k => e _ _ (by unfold core; omega)) (fun k => e _ _ (by unfold core; omega)), h7.mv (fun a k z => e _ _ (by unfold core; omega))⟩
  · rw [ct_eq (t := 27) (Z := I) (fun i k hi => e _ _ (by unfold core; omega))]
    exact h3.1
  · rw [ct_eq (t := 3) (Z := I) (fun i k hi => e _ _ (by unfold core; omega))]
    exact h4
theorem KnA.mv (h : KnA I X) (hc : Core I J) (e : ∀ k : Nat, J 60 k = X 60 k ∧ J 59 k = X 59 k) (e13 : J 52 13 = X 52 13) : KnA J J := by
  obtain ⟨q1, q2, q3, q4⟩ := hc.same.eqs
  have e3 : J 3 2 = I 3 2 := hc 3 2 (by unfold core; omega)
  unfold KnA
  rw [q4, e3, e13]
  refine ⟨fun n hn => by rw [(e n).1]; exact h.1 n hn, h.2.1, fun n hn z => by rw [(e _).2]; exact h.2.2 n hn z⟩
/-- nothing of the finder's knowledge was touched -/
theorem Inv.mv (h : Inv I) (hc : Core I J) (e : ∀ k : Nat, J 60 k = I 60 k ∧ J 59 k = I 59 k) (e13 : J 52 13 = I 52 13) (e15 : J 52 15 = I 52 15) : Inv J := ⟨h.1.mv hc, fun z => (h.2 (by rw [← e15]; exact z)).mv hc e e13⟩
theorem Inv.mst (h : InvB I) : MSt (zT I) (zP I) (zDf I) I := ⟨h.2.1.1, h.2.1.2.1, h.2.1.2.2.1, h.2.2.2.2.1.1, h.2.2.2.2.1.2.1, fun a b ha hb => (h.2.2.2.2.2.1 a b ha hb).2⟩
/-- TAKEBY of the reference -/
theorem m_takeBy {T P : IF} {Df : Nat → Nat → Prop} {fr rule : Int} (hg : GOk g) (hM : MSt T P Df I) (hF : FRO P fr) (hD : (∀ l : Nat, ¬ Df l l) ∧ ∀ l o : Nat, Df l o → Df o l) (hr : rule = 0 ∨ rule = 1 ∨ rule = 2) :
    ∃ J : IF, CT Γ 903 mX8_takeBy [.inr (some 80), .inl rule] (g, I) (some (.inl (ncI (tI T (mM T P fr Df) (wit T (mM T P fr Df)) (alw rule)) 1 (T 0 2).toNat)), (g, J)) ∧ FrE I J ∧ ∀ n : Nat, (n : Int) < T 0 2 → J 147 n = tI T (mM T P fr Df) (wit T (mM T P fr Df)) (alw rule) n := by
  have hT := hM.1
  have htc := hT.1.2.1
  obtain ⟨J1, a1, a2, a3⟩ := m_all (Γ := Γ) hg hM hF hD
  have hW := wit_ok hT (mM T P fr Df)
  have h01 : ∀ n : Nat, tI T (mM T P fr Df) (wit T (mM T P fr Df)) (alw rule) n = 0 ∨ tI T (mM T P fr Df) (wit T (mM T P fr Df)) (alw rule) n = 1 := fun n => pb_01 _
  have t1 : ∀ n : Nat, tI T (mM T P fr Df) (wit T (mM T P fr Df)) (alw rule) n = 1 ↔ tkn T (mM T P fr Df) (wit T (mM T P fr Df)) (alw rule) n := fun n => ⟨fun z => pb_1.mp (by unfold tI at z; rw [z]; decide), fun z => pb_t z⟩
  have lp : ∀ (m n : Nat) (X : IF), n + m = (T 0 2).toNat → FrE J1 X → (∀ q : Nat, (q : Int) < T 0 2 → X 146 q = mM T P fr Df q) → (∀ q : Nat, q < n → X 147 q = 0) → ∃ J : IF, Ev Γ 903 mX8_takeBy 7 [some (.inr (some 80)), some (.inl rule), none, some (.inl n), none, none] [] (g, X) (some (.inl (ncI (tI T (mM T P fr Df) (wit T (mM T P fr Df)) (alw rule)) 1 (T 0 2).toNat)), (g, J)) ∧ FrE I J ∧ ∀ n : Nat, (n : Int) < T 0 2 → J 147 n = tI T (mM T P fr Df) (wit T (mM T P fr Df)) (alw rule) n := by
    intro m
    induction m with
    | zero =>
      intro n X hn hX h146 h147
      have hMX := (hM.mvE a2).mvE hX
      have x82 : X 82 2 = T 0 2 := hMX.2.2.2.1.2.1
      by_cases h2 : rule = 2
      · have eal : alw rule = 1 := by rw [h2]; rfl
        obtain ⟨J, j1, j2, j3⟩ := m_take_175 (Γ := Γ) hg hT hW h01 (fun n _ => by have q := t1 n; rw [eal] at q ⊢; exact q) (T 0 2).toNat X (by omega) hMX.2.2.2.1 h146 (fun q z1 z2 => by omega) (fun q z1 z2 => by omega) (fun q hq => h147 q (by omega))
        refine ⟨J, v_X8_takeBy_7 hg rule n ⟨fun _ => ⟨fun _ => ⟨by unfold inR; omega, ?_⟩, fun z => absurd (by omega) z⟩, fun z => absurd (by omega) z⟩, fun a k z y => (j2 a k (by omega) (by omega)).trans ((hX a k z y).trans (a2 a k z y)), j3⟩
        rw [x82]
        rintro _ rfl
        rw [show (((T 0 2).toNat : Nat) : Int) - 1 = T 0 2 - 1 by omega] at j1
        exact j1
      · have hr2 : rule = 0 ∨ rule = 1 := by omega
        have hf : ∀ n : Nat, (n : Int) < T 0 2 → (tI T (mM T P fr Df) (wit T (mM T P fr Df)) (alw rule) n = 1 ↔ (mM T P fr Df n ≠ 0 ∧ ∀ m : Nat, (m : Int) < T 0 2 → m ≠ n → mM T P fr Df m ≠ 0 → ¬ (if rule = 0 then (m : Int) ≤ n ∧ (n : Int) < m + T 8 m else (n : Int) ≤ m ∧ (m : Int) < n + T 8 n))) := fun n hn => by
          rw [t1]
          rcases hr2 with z | z
          · have eal : alw rule = 120 := by rw [z]; rfl
            rw [eal, tkn_0 hT hW n hn]
            simp only [z, if_true]
          · have eal : alw rule = 0 := by rw [z]; rfl
            rw [eal, tkn_1 hT hW n hn]
            simp only [z, show ¬ (1 : Int) = 0 by decide, if_false]
        obtain ⟨J, j1, j2, j3⟩ := m_take_38 (Γ := Γ) (M := mM T P fr Df) hg hT hr2 h01 hf (T 0 2).toNat 0 X (by omega) hMX.2.2.2.1 h146 (fun q hq => by omega) (fun q _ hq => h147 q (by omega))
        exact ⟨J, v_X8_takeBy_7 hg rule n ⟨fun _ => ⟨fun z => absurd z (by omega), fun _ => j1⟩, fun z => absurd (by omega) z⟩, fun a k z y => (j2 a k (by omega)).trans ((hX a k z y).trans (a2 a k z y)), j3⟩
    | succ m ih =>
      intro n X hn hX h146 h147
      have hMX := (hM.mvE a2).mvE hX
      have x82 : X 82 2 = T 0 2 := hMX.2.2.2.1.2.1
      obtain ⟨J, j1, j2⟩ := ih (n + 1) (mset X 147 n 0) (by omega) (hX.tr (FrE.st (by decide))) (fun q hq => by rw [mset_a _ _ (by decide)]; exact h146 q hq) (fun q hq => by
        by_cases e : q = n
        · rw [e, mset_s]
        · rw [mset_k _ _ e]; exact h147 q (by omega))
      refine ⟨J, v_X8_takeBy_7 hg rule n ⟨fun z => absurd z (by omega), fun _ => ⟨by omega, ?_⟩⟩, j2⟩
      rw [Int.toNat_natCast]
      rintro _ rfl
      exact ⟨by unfold inR; omega, j1⟩
  obtain ⟨J, j1, j2⟩ := lp (T 0 2).toNat 0 J1 (by omega) FrE.rf a3 (fun q hq => by omega)
  exact ⟨J, CT.of (R := (some (.inl (ncI (tI T (mM T P fr Df) (wit T (mM T P fr Df)) (alw rule)) 1 (T 0 2).toNat)), (g, J))) oX8_takeBy (Nat.le_of_ble_eq_true rfl) (Nat.le_refl _) (Nat.le_refl _) (v_X8_takeBy_0 hg rule ⟨_, _, a1, j1⟩), j2⟩
end INV
