/-! ===== trees numbered as their pieces come: pure rows ===== -/
def PTr (c : Int) (par siz : Nat → Int) : Prop :=
  0 ≤ c ∧ (∀ q : Nat, (q : Int) < c → -1 ≤ par q ∧ par q < q ∧ (par q = -1 → q = 0)) ∧ (∀ p : Nat, (p : Int) < c → 1 ≤ siz p ∧ p + siz p ≤ c) ∧ (∀ q : Nat, (q : Int) < c → par q ≠ -1 → q + siz q ≤ par q + siz (par q).toNat) ∧
  (∀ p q : Nat, p < q → (q : Int) < c → (q : Int) < p + siz p → (p : Int) ≤ par q)
/-- k nodes further among those of one term -/
def adv (siz : Nat → Int) : Nat → Int → Int
  | 0, x => x
  | k + 1, x => adv siz k (x + siz x.toNat)
theorem adv_s (siz : Nat → Int) : ∀ (k : Nat) (x : Int), adv siz (k + 1) x = adv siz k x + siz (adv siz k x).toNat
  | 0, x => rfl
  | k + 1, x => by
    show adv siz (k + 1) (x + siz x.toNat) = _
    rw [adv_s siz k]
    rfl
theorem adv_add (siz : Nat → Int) : ∀ (j k : Nat) (x : Int), adv siz (j + k) x = adv siz k (adv siz j x)
  | 0, k, x => by rw [Nat.zero_add]; rfl
  | j + 1, k, x => by
    rw [show j + 1 + k = (j + k) + 1 by omega]
    show adv siz (j + k) (x + siz x.toNat) = _
    rw [adv_add siz j k]
    rfl
theorem ncI_gap {f : Nat → Int} {p : Int} {x : Nat} : ∀ y : Nat, x ≤ y → (∀ q : Nat, x ≤ q → q < y → f q ≠ p) → ncI f p y = ncI f p x
  | 0, h, _ => by rw [show x = 0 by omega]
  | y + 1, h, hq => by
    by_cases e : x = y + 1
    · rw [e]
    · rw [ncI_succ, ncI_gap y (by omega) (fun q h1 h2 => hq q h1 (by omega)), if_neg (hq y (by omega) (by omega))]
      omega
theorem ncI_mono {f : Nat → Int} {p : Int} {x : Nat} : ∀ y : Nat, x ≤ y → ncI f p x ≤ ncI f p y
  | 0, h => by rw [show x = 0 by omega]; exact Int.le_refl _
  | y + 1, h => by
    by_cases e : x = y + 1
    · rw [e]; exact Int.le_refl _
    · have := ncI_mono (f := f) (p := p) (x := x) y (by omega)
      rw [ncI_succ]
      split <;> omega
section PTS
variable {c : Int} {par siz : Nat → Int}
theorem PTr.sub (h : PTr c par siz) {p : Nat} (hp : (p : Int) < c) : ∀ (m a : Nat), a ≤ m → p ≤ a → (a : Int) < p + siz p → a + siz a ≤ p + siz p := by
  obtain ⟨h0, h1, h2, h3, h4⟩ := h
  intro m
  induction m with
  | zero =>
    intro a ha hpa hlt
    rw [show a = p by omega]
    exact Int.le_refl _
  | succ m ih =>
    intro a ha hpa hlt
    by_cases e : a = p
    · rw [e]; exact Int.le_refl _
    · have hac : (a : Int) < c := by have := (h2 p hp).2; omega
      have g1 := h4 p a (by omega) hac hlt
      have g2 := h1 a hac
      have g3 := h3 a hac (by omega)
      have g4 := ih (par a).toNat (by omega) (by omega) (by omega)
      rw [show (((par a).toNat : Nat) : Int) = par a by omega] at g4
      omega
theorem PTr.sub' (h : PTr c par siz) {p a : Nat} (hp : (p : Int) < c) (h1 : p ≤ a) (h2 : (a : Int) < p + siz p) : a + siz a ≤ p + siz p := h.sub hp a a (Nat.le_refl _) h1 h2
/-- the whole is the root's -/
theorem PTr.root (h : PTr c par siz) : ∀ (m q : Nat), q ≤ m → (q : Int) < c → (q : Int) < siz 0 := by
  obtain ⟨h0, h1, h2, h3, h4⟩ := id h
  intro m
  induction m with
  | zero =>
    intro q hq hc
    rw [show q = 0 by omega]
    have := (h2 0 (by omega)).1
    omega
  | succ m ih =>
    intro q hq hc
    have g1 := h1 q hc
    have g0 := h2 0 (by omega)
    by_cases e : par q = -1
    · rw [g1.2.2 e]
      omega
    · have g2 := ih (par q).toNat (by omega) (by omega)
      have g3 := h3 q hc e
      have g4 := h.sub' (p := 0) (a := (par q).toNat) (by omega) (by omega) (by omega)
      have g5 := (h2 q hc).1
      omega
theorem PTr.tm (h : PTr c par siz) {n : Nat} (hn : (n : Int) < c) : ∀ j : Nat, (j : Int) ≤ ncI par n c.toNat →
    (n : Int) < adv siz j (n + 1) ∧ adv siz j (n + 1) ≤ n + siz n ∧ ncI par n (adv siz j (n + 1)).toNat = j ∧ (∀ a : Nat, n < a → (a : Int) < adv siz j (n + 1) → a + siz a ≤ adv siz j (n + 1)) ∧ (adv siz j (n + 1) < n + siz n → par (adv siz j (n + 1)).toNat = n) := by
  obtain ⟨h0, h1, h2, h3, h4⟩ := id h
  have hsn := h2 n hn
  have hout : ∀ q : Nat, (n : Int) + siz n ≤ q → (q : Int) < c → par q ≠ n := fun q z1 z2 z3 => by
    have g := h3 q z2 (by omega)
    rw [z3, show ((n : Int)).toNat = n by omega] at g
    have := (h2 q z2).1
    omega
  intro j
  induction j with
  | zero =>
    intro _
    show (n : Int) < n + 1 ∧ (n : Int) + 1 ≤ n + siz n ∧ ncI par n ((n : Int) + 1).toNat = 0 ∧ (∀ a : Nat, n < a → (a : Int) < n + 1 → a + siz a ≤ (n : Int) + 1) ∧ ((n : Int) + 1 < n + siz n → par ((n : Int) + 1).toNat = n)
    refine ⟨by omega, by omega, ncI_zero (fun q hq => ?_), fun a z1 z2 => by omega, fun z => ?_⟩
    · have := h1 q (by omega)
      omega
    · have g1 := h4 n (n + 1) (by omega) (by omega) (by omega)
      have g2 := h1 (n + 1) (by omega)
      rw [show ((n : Int) + 1).toNat = n + 1 by omega]
      omega
  | succ j ih =>
    intro hj
    obtain ⟨i1, i2, i3, i4, i5⟩ := ih (by omega)
    rw [adv_s]
    generalize adv siz j (n + 1) = x at i1 i2 i3 i4 i5 ⊢
    obtain ⟨x, rfl⟩ : ∃ y : Nat, x = y := ⟨x.toNat, by omega⟩
    rw [Int.toNat_natCast] at *
    have hlt : (x : Int) < n + siz n := by
      by_cases z : (x : Int) < n + siz n
      · exact z
      · have := ncI_gap (f := par) (p := n) (x := x) c.toNat (by omega) (fun q z1 z2 => hout q (by omega) (by omega))
        omega
    have hpx := i5 hlt
    have hxc : (x : Int) < c := by omega
    have hsx := h2 x hxc
    have hxe := h3 x hxc (by omega)
    rw [hpx, Int.toNat_natCast] at hxe
    have hcl : ∀ a : Nat, n < a → (a : Int) < x + siz x → a + siz a ≤ x + siz x := fun a z1 z2 => by
      by_cases y : (a : Int) < x
      · have := i4 a z1 y
        omega
      · exact h.sub' hxc (by omega) z2
    refine ⟨by omega, hxe, ?_, hcl, fun z => ?_⟩
    · rw [ncI_gap (x := x + 1) (x + siz x).toNat (by omega) (fun q z1 z2 z3 => ?_), ncI_succ, if_pos hpx, i3]
      · rfl
      · have := h4 x q (by omega) (by omega) (by omega)
        omega
    · have g0 : ((x : Int) + siz x) < c := by omega
      have g1 := h4 n ((x : Int) + siz x).toNat (by omega) (by omega) (by omega)
      have g2 := h1 ((x : Int) + siz x).toNat (by omega)
      have g3 := h3 ((x : Int) + siz x).toNat (by omega) (by omega)
      have g4 := (h2 ((x : Int) + siz x).toNat (by omega)).1
      by_cases y : par ((x : Int) + siz x).toNat = n
      · exact y
      · have g5 := hcl (par ((x : Int) + siz x).toNat).toNat (by omega) (by omega)
        omega
/-- a term of n, its j-th one -/
def tmI (siz : Nat → Int) (n : Int) (j : Nat) : Int := adv siz j (n + 1)
theorem PTr.tml (h : PTr c par siz) {n j : Nat} (hn : (n : Int) < c) (hj : (j : Int) < ncI par n c.toNat) : (n : Int) < tmI siz n j ∧ tmI siz n j < n + siz n ∧ tmI siz n j < c ∧ par (tmI siz n j).toNat = n ∧ ncI par n (tmI siz n j).toNat = j := by
  obtain ⟨i1, i2, i3, i4, i5⟩ := h.tm hn j (by omega)
  obtain ⟨h0, h1, h2, h3, h4⟩ := id h
  have hsn := h2 n hn
  have hlt : adv siz j (n + 1) < n + siz n := by
    by_cases z : adv siz j (n + 1) < n + siz n
    · exact z
    · have := ncI_gap (f := par) (p := n) (x := (adv siz j (n + 1)).toNat) c.toNat (by omega) (fun q z1 z2 z3 => by
        have g := h3 q (by omega) (by omega)
        rw [z3, show ((n : Int)).toNat = n by omega] at g
        have := (h2 q (by omega)).1
        omega)
      omega
  exact ⟨i1, hlt, by show adv siz j (n + 1) < c; omega, i5 hlt, i3⟩
theorem PTr.tme (h : PTr c par siz) {n : Nat} (hn : (n : Int) < c) : tmI siz n (ncI par n c.toNat).toNat = n + siz n := by
  have hnn := ncI_nn par n c.toNat
  obtain ⟨i1, i2, i3, i4, i5⟩ := h.tm hn (ncI par n c.toNat).toNat (by omega)
  obtain ⟨h0, h1, h2, h3, h4⟩ := id h
  have hsn := h2 n hn
  show adv siz (ncI par n c.toNat).toNat (n + 1) = _
  by_cases z : adv siz (ncI par n c.toNat).toNat (n + 1) < n + siz n
  · have g := i5 z
    have g2 : ncI par n ((adv siz (ncI par n c.toNat).toNat (n + 1)).toNat + 1) = ncI par n c.toNat + 1 := by
      rw [ncI_succ, if_pos g, i3]
      omega
    have g3 := ncI_mono (f := par) (p := n) (x := (adv siz (ncI par n c.toNat).toNat (n + 1)).toNat + 1) c.toNat (by omega)
    omega
  · omega
/-- within: upwards -/
theorem PTr.up (h : PTr c par siz) {k m : Nat} (hk : (k : Int) < c) (hm : (m : Int) < c) (hne : k ≠ m) : (par k = -1 → ¬ ((m : Int) ≤ k ∧ (k : Int) < m + siz m)) ∧ (par k ≠ -1 → (((m : Int) ≤ k ∧ (k : Int) < m + siz m) ↔ ((m : Int) ≤ par k ∧ par k < m + siz m))) := by
  obtain ⟨h0, h1, h2, h3, h4⟩ := id h
  refine ⟨fun z y => ?_, fun z => ⟨fun y => ?_, fun y => ?_⟩⟩
  · have := (h1 k hk).2.2 z
    omega
  · have := h4 m k (by omega) hk y.2
    have := (h1 k hk).2.1
    omega
  · have g1 := h1 k hk
    have g2 := h.sub' (p := m) (a := (par k).toNat) hm (by omega) (by omega)
    have g3 := h3 k hk z
    have g4 := (h2 k hk).1
    omega
end PTS
