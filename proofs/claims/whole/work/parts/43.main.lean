/-! ===== matching: both ways are one ===== -/
/-- what the reference's letters are, by the class's way so far -/
def SG (T P : IF) (p : Int) (s σ : IF) : Prop := ∀ l : Nat, l < 26 →
  ((P 10 l = -1 ∨ p ≤ P 10 l) → σ 141 l = -1 ∧ σ 143 l = -1) ∧
  (P 10 l ≠ -1 → P 10 l < p → P 2 (P 10 l).toNat = 1 → σ 141 l = s 0 (P 10 l).toNat ∧ σ 143 l = -1) ∧
  (P 10 l ≠ -1 → P 10 l < p → P 2 (P 10 l).toNat = 2 → σ 141 l = -1 ∧ σ 143 l = s 1 (P 10 l).toNat ∧ σ 142 l = s 0 (P 10 l).toNat ∧ (0 ≤ σ 144 l ∧ σ 144 l < T 0 2) ∧ 0 ≤ σ 145 l ∧ σ 145 l + s 1 (P 10 l).toNat ≤ T 7 (σ 144 l).toNat ∧ (0 < s 1 (P 10 l).toNat → s 0 (P 10 l).toNat = tmI (T 8) (σ 144 l) (σ 145 l).toNat))
def KR (T P s : IF) (ks : List Tk) : Prop := ∀ k ∈ ks, k.2.2.1 = s 0 k.1.toNat ∧ (P 7 k.1.toNat ≠ -1 → k.2.2.2 = T 7 k.2.2.1.toNat - s 3 k.1.toNat) ∧ (P 7 k.1.toNat = -1 → k.2.2.2 = 0)
def Rl (T P : IF) (x y : Option IF) : Prop := (y = none → x = none) ∧ ∀ s' : IF, y = some s' → ∃ τ : IF, x = some τ ∧ SG T P (P 0 2) s' τ
section MN
variable {T P s s' σ σ' : IF} {fr dp root : Int} {Df : Nat → Nat → Prop} {ks : List Tk} {p : Nat}
theorem Rl.nn : Rl T P none none := ⟨fun _ => rfl, fun _ z => (by cases z)⟩
theorem fs_rel {F G : Nat → Option IF} : ∀ (n c : Nat), (∀ k : Nat, c ≤ k → k < c + n → Rl T P (F k) (G k)) → Rl T P (fs F n c) (fs G n c)
  | 0, _, _ => Rl.nn
  | n + 1, c, h => by
    have h0 := h c (Nat.le_refl _) (by omega)
    have h1 := fs_rel (F := F) (G := G) n (c + 1) (fun k a b => h k (by omega) (by omega))
    cases e : G c with
    | none =>
      rw [fs_n e, fs_n (h0.1 e)]
      exact h1
    | some s' =>
      obtain ⟨τ, t1, t2⟩ := h0.2 s' e
      rw [fs_s e, fs_s t1]
      exact ⟨fun z => (by cases z), fun s'' z => ⟨τ, rfl, by cases z; exact t2⟩⟩
theorem fs_only {F : Nat → Option IF} {n k0 : Nat} (h : ∀ k : Nat, k < n → k ≠ k0 → F k = none) (hk : k0 < n) : fs F n 0 = F k0 := by
  cases e : F k0 with
  | none => exact fs_none n 0 (fun k _ h2 => by
      by_cases z : k = k0
      · rw [z]; exact e
      · exact h k (by omega) z)
  | some x => exact fs_at n 0 k0 (Nat.zero_le _) (by omega) (fun j _ h2 => h j (by omega) (by omega)) e
/-- all entries' pieces are below -/
theorem WS.lt : ∀ (ks : List Tk) (p b : Int), WS T P p b ks → ∀ k ∈ ks, 0 ≤ k.1 ∧ k.1 < b
  | [], _, _, _, k, hk => by cases hk
  | (a, i, n, j) :: ks, p, b, h, k, hk => by
    rcases List.mem_cons.mp hk with rfl | hk
    · exact ⟨h.1.1, h.1.2.2.1⟩
    · have := WS.lt ks _ _ h.2.2.2.2 k hk
      have := h.1.2.2.1
      omega
theorem KR.mv {b : Int} (h : KR T P s ks) (hl : ∀ k ∈ ks, 0 ≤ k.1 ∧ k.1 < b) (e : ∀ q : Nat, (q : Int) < b → s' 0 q = s 0 q ∧ s' 3 q = s 3 q) : KR T P s' ks := fun k hk => by
  have := h k hk
  have l := hl k hk
  obtain ⟨e1, e2⟩ := e k.1.toNat (by omega)
  rw [e1, e2]
  exact this
/-- letters of a piece that has none -/
theorem SG.mv {p : Nat} (hP : TOK 1 P) (h : SG T P p s σ) (hp : (p : Int) < P 0 2) (hk : P 2 p = 0 ∨ P 2 p = 3) (e : ∀ q : Nat, q < p → s' 0 q = s 0 q ∧ s' 1 q = s 1 q) : SG T P ((p + 1 : Nat) : Int) s' σ := by
  intro l hl
  have hl10 := hP.2.2.2.2.2.1.2.1 l hl
  have hL1 := hP.2.2.2.2.2.1.1 p hp
  have hne : P 10 l ≠ p := fun z => by
    rcases hl10 with w | w
    · omega
    · have w3 := w.2.2.1
      rw [z, Int.toNat_natCast] at w3
      rcases hL1 with x | x | x <;> omega
  obtain ⟨h1, h2, h3⟩ := h l hl
  refine ⟨fun z => h1 (by omega), fun z1 z2 z3 => ?_, fun z1 z2 z3 => ?_⟩
  · rw [(e (P 10 l).toNat (by omega)).1]
    exact h2 z1 (by omega) z3
  · rw [(e (P 10 l).toNat (by omega)).1, (e (P 10 l).toNat (by omega)).2]
    exact h3 z1 (by omega) z3
/-- a letter's first piece -/
theorem TOK.l10 (hP : TOK 1 P) {p : Nat} (hp : (p : Int) < P 0 2) (hk : P 2 p = 1 ∨ P 2 p = 2) : (0 ≤ P 9 p ∧ P 9 p < 26) ∧ 0 ≤ P 10 (P 9 p).toNat ∧ P 10 (P 9 p).toNat ≤ p ∧ P 2 (P 10 (P 9 p).toNat).toNat = P 2 p ∧ (∀ o : Nat, o < 26 → P 10 o = p → o = (P 9 p).toNat) := by
  have hL1 := hP.2.2.2.2.2.1.1 p hp
  have h9 : 0 ≤ P 9 p ∧ P 9 p < 26 := by rcases hL1 with x | x | x <;> omega
  have hl10 := hP.2.2.2.2.2.1.2.1 (P 9 p).toNat (by omega)
  rw [show (((P 9 p).toNat : Nat) : Int) = P 9 p by omega] at hl10
  rcases hl10 with w | ⟨w1, w2, w3, w4⟩
  · exact absurd rfl (w.2 p hp)
  · have w5 := w4 p hp rfl
    refine ⟨h9, w1, w5.1, w5.2.symm, fun o ho z => ?_⟩
    have ho10 := hP.2.2.2.2.2.1.2.1 o ho
    rcases ho10 with y | y
    · omega
    · have := y.2.2.1
      rw [z, Int.toNat_natCast] at this
      omega
theorem size_leaf (hP : TOK 1 P) {p : Nat} (hp : (p : Int) < P 0 2) (hk : P 2 p = 1 ∨ P 2 p = 2) : P 8 p = 1 := by
  have h := hP.2.1.tme hp
  have hK := hP.2.2.1 p hp
  have e : ncI (P 6) p (P 0 2).toNat = 0 := by
    rcases hK with z | z | z <;> omega
  rw [e] at h
  have h' : (p : Int) + 1 = p + P 8 p := h
  omega
theorem size_deep (hP : TOK 1 P) {p : Nat} (hp : (p : Int) < P 0 2) (hk : P 2 p = 3) : ((p + 1 : Nat) : Int) < P 0 2 ∧ P 6 (p + 1) = p ∧ P 8 p = 1 + P 8 (p + 1) ∧ P 2 (p + 1) ≠ 2 := by
  have h := hP.2.1.tme hp
  have hK := hP.2.2.1 p hp
  have e : ncI (P 6) p (P 0 2).toNat = 1 := by
    rcases hK with z | z | z <;> omega
  have t := hP.2.1.tml (n := p) (j := 0) hp (by rw [e]; decide)
  rw [e] at h
  have h0 : tmI (P 8) p 0 = p + 1 := rfl
  have h1 : tmI (P 8) p 1 = (p + 1) + P 8 ((p : Int) + 1).toNat := rfl
  rw [show ((1 : Int)).toNat = 1 from rfl, h1] at h
  rw [h0] at t
  rw [show ((p : Int) + 1).toNat = p + 1 by omega] at h t
  refine ⟨by omega, t.2.2.2.1, by omega, fun z => ?_⟩
  have := hP.2.2.2.2.2.2.1 (p + 1) (by omega) z
  rw [t.2.2.2.1, Int.toNat_natCast] at this
  omega
/-- the text's side of a term that is open -/
theorem GI.term (h : GI T P Df p s) {a : Nat} (ha : a < p) (hk : P 2 a = 0) (hT : TOK 0 T) : (P 7 a = -1 ∧ max 0 (T 7 (s 0 a).toNat) = 0) ∨ (P 7 a ≠ -1 ∧ max 0 (T 7 (s 0 a).toNat) = T 7 (s 0 a).toNat ∧ 0 ≤ s 3 a ∧ s 3 a ≤ T 7 (s 0 a).toNat ∧ s 2 a = tmI (T 8) (s 0 a) (T 7 (s 0 a).toNat - s 3 a).toNat ∧ CN P s a p) := by
  rcases h.2.1 a ha hk with z | ⟨z1, z2, z3, z4, z5⟩
  · exact Or.inl ⟨z.1, by omega⟩
  · exact Or.inr ⟨z1, by omega, z2, z3, z4, z5⟩
end MN
