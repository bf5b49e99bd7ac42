/-! ===== the template filled: the class ===== -/
def sgnb (X : IF) (i : Nat) : Prop := X 1 i = 63 ∨ X 1 i = 42
def lpos (X : IF) (i : Nat) : Prop := 0 < i ∧ sgnb X (i - 1)
/-- what a byte of the template gives -/
noncomputable def cb (X : IF) (S : Int → Prop) (sg : Nat → List Int) (i : Nat) : List Int := cif (S i) [] (cif (sgnb X i) (sg (X 1 (i + 1) - 97).toNat) (cif (lpos X i) [] [X 1 i]))
def cat (c : Nat → List Int) : Nat → Nat → List Int
  | 0, _ => []
  | n + 1, a => c a ++ cat c n (a + 1)
/-- nodes in a row, all there -/
def LF (T : IF) (a m : Int) : Prop := 1 ≤ m ∧ m ≤ 1000 ∧ ∀ k : Nat, (k : Int) < m → 0 ≤ adv (T 8) k a ∧ adv (T 8) k a < T 0 2
def sgf (T : IF) (a m : Int) : List Int := byt T (T 3 a.toNat) (T 5 (adv (T 8) (m - 1).toNat a).toNat)
section FIL
variable {Γ : GX} {g : AG} {I J X K T : IF} {S : Int → Prop} {sg : Nat → List Int} {B C : List Int} {w a m : Int}
theorem LF.le (hT : TOK w T) (h : LF T a m) : ∀ k : Nat, (k : Int) < m → a ≤ adv (T 8) k a := by
  intro k
  induction k with
  | zero => intro _; exact Int.le_refl _
  | succ k ih =>
    intro hk
    have a1 := ih (by omega)
    have a2 := h.2.2 k (by omega)
    have a3 := hT.2.1.2.2.1 (adv (T 8) k a).toNat (by omega)
    rw [adv_s]
    omega
theorem LF.b (hT : TOK w T) (h : LF T a m) : (0 ≤ a ∧ a < T 0 2) ∧ 0 ≤ T 3 a.toNat ∧ T 3 a.toNat ≤ T 5 (adv (T 8) (m - 1).toNat a).toNat ∧ T 5 (adv (T 8) (m - 1).toNat a).toNat ≤ T 0 1 := by
  have hm := h.1
  have h0 : 0 ≤ a ∧ a < T 0 2 := h.2.2 0 (by omega)
  have h1 := h.2.2 (m - 1).toNat (by omega)
  have h2 := h.le hT (m - 1).toNat (by omega)
  have s1 := hT.2.2.2.2.1.1 a.toNat (by omega)
  have s2 := hT.2.2.2.2.1.1 (adv (T 8) (m - 1).toNat a).toNat (by omega)
  refine ⟨h0, s1.1, ?_, s2.2.2.2⟩
  by_cases e : a = adv (T 8) (m - 1).toNat a
  · rw [← e] at s2 ⊢
    omega
  · have := hT.mono3 (p := a.toNat) (q := (adv (T 8) (m - 1).toNat a).toNat) (by omega) (by omega)
    omega
theorem c_lastByteBehind (hg : GOc g) (hT : TOK 0 (ct 3 I)) (h : LF (ct 3 I) a m) : CT Γ 1 mX5_lastByteBehind [.inr (some 3), .inl a, .inl m] (g, I) (some (.inl (ct 3 I 5 (adv (ct 3 I 8) (m - 1).toNat a).toNat)), (g, I)) := by
  have hc : 1 ≤ I 3 2 ∧ I 3 2 ≤ 120 := hT.1.2.1
  have h' : ∀ k : Nat, (k : Int) < m → 0 ≤ adv (ct 3 I 8) k a ∧ adv (ct 3 I 8) k a < I 3 2 := h.2.2
  have hm1 := h.1
  have hm2 := h.2.1
  have lp : ∀ (n k : Nat), (n : Int) + 1 + k = m → Ev Γ 1 mX5_lastByteBehind 5 [some (.inr (some 3)), none, some (.inl m), some (.inl (adv (ct 3 I 8) k a)), some (.inl ((k : Int) + 1))] [] (g, I) (some (.inl (ct 3 I 5 (adv (ct 3 I 8) (m - 1).toNat a).toNat)), (g, I)) := by
    intro n
    induction n with
    | zero =>
      intro k hk
      have q := h' k (by omega)
      refine v_X5_lastByteBehind_5 hg 3 (Or.inl rfl) m _ _ ⟨fun _ => ⟨fun z => absurd z (by omega), fun _ => ⟨fun z => absurd z (by omega), fun _ => ⟨⟨by omega, by omega⟩, ?_, rfl⟩⟩⟩, fun z => absurd (show m ≤ (k : Int) + 1 by omega) z⟩
      rw [show (m - 1).toNat = k by omega]
      rfl
    | succ n ih =>
      intro k hk
      have q := h' k (by omega)
      have nx := c_next' (Γ := Γ) (I := I) (t := 3) hg (Or.inl rfl) (show TOK 0 (tv 3 I) from hT.cg ⟨rfl, rfl, fun _ _ => rfl, fun i p _ hi _ => (ct_v (by omega)).symm, fun _ _ => rfl⟩) (x := adv (ct 3 I 8) k a) q.1 q.2
      have nn := ih (k + 1) (by omega)
      rw [adv_s] at nn
      refine v_X5_lastByteBehind_5 hg 3 (Or.inl rfl) m _ _ ⟨fun z => absurd z (by omega), fun _ => ⟨_, _, nx, by unfold inR; omega, ?_⟩⟩
      exact nn
  have l0 := lp (m - 1).toNat 0 (by omega)
  exact CT.of (R := (some (.inl (ct 3 I 5 (adv (ct 3 I 8) (m - 1).toNat a).toNat)), (g, I))) oX5_lastByteBehind (Nat.le_of_ble_eq_true rfl) (Nat.le_refl _) (Nat.le_refl _) (v_X5_lastByteBehind_0 hg 3 (Or.inl rfl) a m l0)
theorem Out.long (h : Out J B w) (hl : 240 < B.length) (r : Int) : Out K (B ++ C) r ↔ r = 0 := by
  constructor
  · intro z
    exact z.2 (by rw [List.length_append]; omega)
  · intro z
    exact ⟨fun y => by rw [List.length_append] at y; omega, fun _ => z⟩
/-- FILLLETTER -/
theorem c_fillLetter (hg : GOc g) (hT : TOK 0 (ct 3 I)) (hP : TOK 1 (ct 15 I)) {l : Nat} (hl : l < 26) (hf : fn I l ≠ -1) (h : LF (ct 3 I) (fn I l) (hm I l)) (hB : SB I B) :
    ∃ (r : Int) (J : IF), CT Γ 2 mX3_fillLetter [.inr (some 64), .inr (some 39), .inl l] (g, I) (some (.inl r), (g, J)) ∧ FrS I J ∧ Out J (B ++ sgf (ct 3 I) (fn I l) (hm I l)) r := by
  obtain ⟨b1, b2, b3, b4⟩ := h.b hT
  have hc : 1 ≤ I 3 2 ∧ I 3 2 ≤ 120 := hT.1.2.1
  have hlen : I 3 1 ≤ 240 := hT.1.1.2
  have b1' : fn I l < I 3 2 := b1.2
  have b4' : ct 3 I 5 (adv (ct 3 I 8) (hm I l - 1).toNat (fn I l)).toNat ≤ I 3 1 := b4
  obtain ⟨r, J, j1, j2, j3⟩ := c_app (Γ := Γ) (X := ct 3 I) hg hB (b := 4) ⟨Or.inl rfl, gs_4 hg⟩ (x := ct 3 I 3 (fn I l).toNat) (y := ct 3 I 5 (adv (ct 3 I 8) (hm I l - 1).toNat (fn I l)).toNat) ⟨b2, b3, by omega⟩ (fun j _ _ => rfl)
  have r01 : r = 0 ∨ r = 1 := by
    by_cases z : (B ++ byt (ct 3 I) (ct 3 I 3 (fn I l).toNat) (ct 3 I 5 (adv (ct 3 I 8) (hm I l - 1).toNat (fn I l)).toNat)).length ≤ 240
    · exact Or.inr (j3.1 z).1
    · exact Or.inl (j3.2 (by omega))
  refine ⟨r, J, CT.of (R := (some (.inl r), (g, J))) oX3_fillLetter (Nat.le_of_ble_eq_true rfl) (Nat.le_refl _) (Nat.le_refl _) (v_X3_fillLetter_0 hg 39 tr39 l ⟨_, _, c_firstNode hg hP hl, _, _, c_howMany hg hP hl, fun z => absurd z hf, fun _ => ⟨⟨b1.1, by omega⟩, _, _, c_lastByteBehind hg hT h, r, J, j1, fun z => ⟨by rw [z], rfl⟩, fun z => ⟨by rw [r01.resolve_left z], rfl⟩⟩⟩), j2, j3⟩
/-- a sign is a piece's first byte -/
theorem sgn_p (hX : TOK w X) {i : Nat} (hi : (i : Int) < X 0 1) (h : sgnb X i) : ∃ q : Nat, (q : Int) < X 0 2 ∧ (X 2 q = 1 ∨ X 2 q = 2) ∧ X 3 q = i := hX.2.2.2.2.2.1.2.2 i hi h
theorem let_p (hX : TOK w X) {q : Nat} (hq : (q : Int) < X 0 2) (hk : X 2 q = 1 ∨ X 2 q = 2) : (0 ≤ X 9 q ∧ X 9 q < 26) ∧ X 5 q = X 3 q + 2 ∧ X 4 q = X 3 q + 2 ∧ sgnb X (X 3 q).toNat ∧ X 1 ((X 3 q).toNat + 1) = X 9 q + 97 := by
  have s := hX.2.2.2.2.1.1 q hq
  rcases hX.2.2.2.2.2.1.1 q hq with z | z | z
  · omega
  · refine ⟨⟨z.2.1, z.2.2.1⟩, z.2.2.2.1, z.2.2.2.2.1, ?_, ?_⟩
    · unfold sgnb
      rw [z.2.2.2.2.2.1]
      by_cases y : X 2 q = 1
      · rw [if_pos y]; exact Or.inl rfl
      · rw [if_neg y]; exact Or.inr rfl
    · rw [show (X 3 q).toNat + 1 = (X 3 q + 1).toNat by omega]
      exact z.2.2.2.2.2.2
  · omega
theorem in0 (hX : TOK w X) {q : Nat} (hq : (q : Int) < X 0 2) : X 5 q ≤ X 5 0 ∧ X 3 0 ≤ X 3 q := by
  by_cases e : q = 0
  · rw [e]; exact ⟨Int.le_refl _, Int.le_refl _⟩
  · have r := hX.2.1.root q q (Nat.le_refl _) hq
    have := hX.in5' (p := 0) (q := q) (by omega) (by omega) (by omega)
    have := hX.mono3 hq (show 0 < q by omega)
    exact ⟨by omega, by omega⟩
/-- behind a sign and its letter no letter stands -/
theorem no_lpos2 (hX : TOK w X) {q : Nat} (hq : (q : Int) < X 0 2) (hk : X 2 q = 1 ∨ X 2 q = 2) : ¬ lpos X ((X 3 q).toNat + 2) ∧ ¬ sgnb X ((X 3 q).toNat + 1) := by
  have a := let_p hX hq hk
  have n : ¬ sgnb X ((X 3 q).toNat + 1) := by
    unfold sgnb
    rw [a.2.2.2.2]
    omega
  exact ⟨fun z => n z.2, n⟩
end FIL
