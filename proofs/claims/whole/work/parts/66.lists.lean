/-! ===== bytes in a row ===== -/
def nth : List Int → Nat → Int
  | [], _ => 0
  | a :: _, 0 => a
  | _ :: l, n + 1 => nth l n
theorem nth_l : ∀ (A B : List Int) (j : Nat), j < A.length → nth (A ++ B) j = nth A j
  | [], _, _, h => absurd h (Nat.not_lt_zero _)
  | _ :: _, _, 0, _ => rfl
  | _ :: A, B, j + 1, h => nth_l A B j (Nat.lt_of_succ_lt_succ h)
theorem nth_r : ∀ (A B : List Int) (j : Nat), nth (A ++ B) (A.length + j) = nth B j
  | [], B, j => by rw [List.nil_append, List.length_nil, Nat.zero_add]
  | a :: A, B, j => by
    rw [List.cons_append, List.length_cons, show A.length + 1 + j = (A.length + j) + 1 by omega]
    exact nth_r A B j
def sgm (f : Nat → Int) : Nat → Nat → List Int
  | 0, _ => []
  | n + 1, a => f a :: sgm f n (a + 1)
theorem sgm_len (f : Nat → Int) : ∀ (n a : Nat), (sgm f n a).length = n
  | 0, _ => rfl
  | n + 1, a => by rw [sgm, List.length_cons, sgm_len f n]
theorem sgm_nth (f : Nat → Int) : ∀ (n a j : Nat), j < n → nth (sgm f n a) j = f (a + j)
  | 0, _, _, h => absurd h (Nat.not_lt_zero _)
  | n + 1, a, 0, _ => rfl
  | n + 1, a, j + 1, h => by
    show nth (sgm f n (a + 1)) j = _
    rw [sgm_nth f n (a + 1) j (by omega), show a + 1 + j = a + (j + 1) by omega]
theorem sgm_cg {f h : Nat → Int} : ∀ (n a : Nat), (∀ j : Nat, a ≤ j → j < a + n → f j = h j) → sgm f n a = sgm h n a
  | 0, _, _ => rfl
  | n + 1, a, e => by
    rw [sgm, sgm, e a (Nat.le_refl _) (by omega), sgm_cg n (a + 1) (fun j h1 h2 => e j (by omega) (by omega))]
/-- the bytes of a tree from x to y -/
def byt (X : IF) (x y : Int) : List Int := sgm (X 1) (y - x).toNat x.toNat
theorem byt_len {X : IF} {x y : Int} : (byt X x y).length = (y - x).toNat := sgm_len _ _ _
theorem byt_one {X : IF} {i : Nat} : byt X i (i + 1) = [X 1 i] := by
  unfold byt
  rw [show ((i : Int) + 1 - i).toNat = 1 by omega, Int.toNat_natCast]
  rfl
theorem byt_no {X : IF} {x y : Int} (h : y ≤ x) : byt X x y = [] := by
  unfold byt
  rw [show (y - x).toNat = 0 by omega]
  rfl
theorem byt_s {X : IF} {x y : Int} (h : 0 ≤ x ∧ x < y) : byt X x y = X 1 x.toNat :: byt X (x + 1) y := by
  unfold byt
  rw [show (y - x).toNat = (y - (x + 1)).toNat + 1 by omega, sgm, show (x + 1).toNat = x.toNat + 1 by omega]
/-- what the class has written so far; what the reference has -/
def SB (I : IF) (B : List Int) : Prop := I 39 1 = B.length ∧ B.length ≤ 240 ∧ ∀ j : Nat, j < B.length → I 40 j = nth B j
def MB (I : IF) (B : List Int) : Prop := I 80 36 = min 40000 (B.length : Int) ∧ ∀ j : Nat, j < 40000 → j < B.length → I 149 j = sb (nth B j)
def FrS (I J : IF) : Prop := ∀ a k : Nat, a ≠ 40 → (a ≠ 39 ∨ k ≠ 1) → J a k = I a k
def FrQ (I J : IF) : Prop := ∀ a k : Nat, a ≠ 149 → (a ≠ 80 ∨ k ≠ 36) → J a k = I a k
def Out (J : IF) (B : List Int) (r : Int) : Prop := (B.length ≤ 240 → r = 1 ∧ SB J B) ∧ (240 < B.length → r = 0)
section LST
variable {Γ : GX} {g : AG} {I J X K : IF} {B C : List Int}
theorem FrS.rf : FrS I I := fun _ _ _ _ => rfl
theorem FrS.tr (h : FrS I J) (h2 : FrS J K) : FrS I K := fun a k z y => (h2 a k z y).trans (h a k z y)
theorem FrQ.rf : FrQ I I := fun _ _ _ _ => rfl
theorem FrQ.tr (h : FrQ I J) (h2 : FrQ J K) : FrQ I K := fun a k z y => (h2 a k z y).trans (h a k z y)
theorem MB.mv (h : MB I B) (e : J 80 36 = I 80 36) (e2 : ∀ k : Nat, J 149 k = I 149 k) : MB J B := ⟨by rw [e]; exact h.1, fun j h1 h2 => by rw [e2]; exact h.2 j h1 h2⟩
theorem SB.mv (h : SB I B) (e : J 39 1 = I 39 1) (e2 : ∀ k : Nat, J 40 k = I 40 k) : SB J B := ⟨by rw [e]; exact h.1, h.2.1, fun j h2 => by rw [e2]; exact h.2.2 j h2⟩
theorem c_app (hg : GOc g) (h : SB I B) {b : Nat} (hb : (b = 4 ∨ b = 28) ∧ g.1[b]? = some (.inr (.int, 240))) {x y : Int} (hx : 0 ≤ x ∧ x ≤ y ∧ y ≤ 240) (hX : ∀ j : Nat, x ≤ j → (j : Int) < y → I b j = X 1 j) :
    ∃ (r : Int) (J : IF), CT Γ 1 mX5_append [.inr (some 39), .inr (some b), .inl x, .inl y] (g, I) (some (.inl r), (g, J)) ∧ FrS I J ∧ Out J (B ++ byt X x y) r := by
  obtain ⟨h1, h2, h3⟩ := h
  have hl : (B ++ byt X x y).length = B.length + (y - x).toNat := by rw [List.length_append, byt_len]
  by_cases hf : B.length + (y - x).toNat ≤ 240
  · refine ⟨1, _, c_append (Γ := Γ) hg tr39 (b := b) (nb := 240) (by omega) hb.2 (by decide) hx (by omega), fun a k z1 z2 => apN_f z1 z2, fun _ => ⟨rfl, ?_, ?_, fun j hj => ?_⟩, fun z => by omega⟩
    · rw [apN_1, hl, h1]; omega
    · omega
    · rw [hl] at hj
      by_cases e : j < B.length
      · rw [nth_l _ _ _ e]
        rw [show (40 : Nat) = 39 + 1 from rfl, apN_o (by omega)]
        exact h3 j e
      · obtain ⟨k, rfl⟩ : ∃ k, j = B.length + k := ⟨j - B.length, by omega⟩
        rw [nth_r]
        have q := apN_n (I := I) (t := 39) (b := b) (f := x.toNat) (n := (y - x).toNat) (j := k) (by omega)
        rw [h1, Int.toNat_natCast] at q
        rw [show (40 : Nat) = 39 + 1 from rfl, q, hX _ (by omega) (by omega)]
        unfold byt
        rw [sgm_nth _ _ _ _ (by omega)]
  · exact ⟨0, I, c_append_n (Γ := Γ) hg tr39 (b := b) (nb := 240) (by omega) hb.2 (by decide) hx (by omega), FrS.rf, fun z => by omega, fun _ => rfl⟩
/-- COPY of the reference -/
theorem m_copy {w : Int} (hg : GOk g) {u : Nat} (hu : Mt u) (hX : TOK w X) (hr : TR X (tv u I)) (h : MB I B) {x y : Int} (hx : 0 ≤ x ∧ y ≤ X 0 1) :
    ∃ J : IF, CT Γ 0 mX8_copy [.inr (some 80), .inr (some u), .inl x, .inl y] (g, I) (none, (g, J)) ∧ FrQ I J ∧ MB J (B ++ byt X x y) := by
  have hu' := mt_rng hu
  have hlen := hX.1.1
  have lp : ∀ (n : Nat) (x : Int) (I : IF) (B : List Int), n = (y - x).toNat → 0 ≤ x → TR X (tv u I) → MB I B → ∃ J : IF, Ev Γ 0 mX8_copy 3 [some (.inr (some 80)), some (.inr (some u)), none, some (.inl y), some (.inl x)] [] (g, I) (none, (g, J)) ∧ FrQ I J ∧ MB J (B ++ byt X x y) := by
    intro n
    induction n with
    | zero =>
      intro x I B hn hx0 hr h
      refine ⟨I, v_X8_copy_3 hg u hu y x ⟨fun _ => ⟨rfl, rfl⟩, fun z => absurd (show y ≤ x by omega) z⟩, FrQ.rf, ?_⟩
      rw [byt_no (by omega), List.append_nil]
      exact h
    | succ n ih =>
      intro x I B hn hx0 hr h
      by_cases hf : 40000 ≤ I 80 36
      · refine ⟨I, v_X8_copy_3 hg u hu y x ⟨fun z => absurd z (by omega), fun _ => ⟨fun _ => ⟨rfl, rfl⟩, fun z => absurd hf z⟩⟩, FrQ.rf, ?_, fun j h1 h2 => ?_⟩
        · have h1 := h.1
          rw [List.length_append]
          omega
        · have h1' := h.1
          rw [nth_l _ _ _ (by omega)]
          exact h.2 j h1 (by omega)
      · have h1 := h.1
        have hb := hX.1.2.2 x.toNat (by omega)
        have e1 : I (u + 1) x.toNat = sb (X 1 x.toNat) := hr.2.2.1 x.toNat (by omega)
        have eb : bByte (I (u + 1) x.toNat) = sb (X 1 x.toNat) := by rw [e1]; exact bByte_sb hb.1 hb.2
        have ebl : I 80 36 = (B.length : Int) := by omega
        obtain ⟨J, j1, j2, j3⟩ := ih (x + 1) (mset (mset I 149 B.length (sb (X 1 x.toNat))) 80 36 ((B.length : Int) + 1)) (B ++ [X 1 x.toNat]) (by omega) (by omega) (hr.cgU (fun i k hi => by
            show (mset (mset I 149 B.length (sb (X 1 x.toNat))) 80 36 ((B.length : Int) + 1)) (u + i) k = I (u + i) k
            rw [mset_a _ _ (by omega), mset_a _ _ (by omega)])) ⟨by
            rw [mset_s, List.length_append, List.length_singleton]
            omega, fun j hj1 hj2 => by
            rw [mset_a _ _ (by decide)]
            rw [List.length_append, List.length_singleton] at hj2
            by_cases e : j = B.length
            · rw [e, mset_s]
              have := nth_r B [X 1 x.toNat] 0
              rw [Nat.add_zero] at this
              rw [this]
              rfl
            · rw [mset_k _ _ e, nth_l _ _ _ (by omega)]
              exact h.2 j hj1 (by omega)⟩
        refine ⟨J, v_X8_copy_3 hg u hu y x ⟨fun z => absurd z (by omega), fun _ => ⟨fun z => absurd z hf, fun _ => ⟨⟨by omega, by omega⟩, ⟨by omega, by omega⟩, ?_⟩⟩⟩, (fun a k z1 z2 => ?_), ?_⟩
        · rw [eb, ebl, Int.toNat_natCast]
          intro I4 e4
          subst e4
          rw [mset_a _ _ (by decide), ebl]
          refine ⟨by unfold inR; omega, fun I7 e7 => ?_⟩
          subst e7
          exact ⟨by unfold inR; omega, j1⟩
        · rw [j2 a k z1 z2]
          unfold mset
          rw [if_neg (by omega), if_neg (by omega)]
        · rw [byt_s ⟨hx0, by omega⟩]
          rw [List.append_assoc, List.singleton_append] at j3
          exact j3
  obtain ⟨J, j1, j2⟩ := lp (y - x).toNat x I B rfl hx.1 hr h
  exact ⟨J, CT.of (R := (none, (g, J))) oX8_copy (Nat.le_of_ble_eq_true rfl) (Nat.le_refl _) (Nat.le_refl _) (v_X8_copy_0 hg u hu x y j1), j2⟩
end LST
