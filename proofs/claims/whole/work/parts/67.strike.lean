/-! ===== what goes with rows of none ===== -/
noncomputable def ahf (X : IF) (N : Nat → Prop) (p : Nat) : Nat → Int
  | 0 => -1
  | q + 1 => cif (X 6 q = X 6 p ∧ ¬ N q) (q : Int) (ahf X N p q)
noncomputable def iv0 (X : IF) (N : Nat → Prop) (p : Nat) : Int := if ((p : Int) + 1 < X 0 2 ∧ X 6 (p + 1) = X 6 p) ∨ ahf X N p p = -1 then X 3 p else X 5 (ahf X N p p).toNat
noncomputable def iv1 (X : IF) (p : Nat) : Int := if (p : Int) + 1 < X 0 2 ∧ X 6 (p + 1) = X 6 p then X 3 (p + 1) else X 5 p
def SS (X : IF) (N : Nat → Prop) (k : Nat) (i : Int) : Prop := ∃ p : Nat, p < k ∧ N p ∧ iv0 X N p ≤ i ∧ i < iv1 X p
/-- rows, all of them -/
def NR (X : IF) (N : Nat → Prop) : Prop := ∀ p : Nat, N p → (p : Int) < X 0 2 ∧ X 2 p = 2
section STK
variable {X : IF} {N : Nat → Prop} {w : Int}
theorem size_lf (hP : TOK w X) {p : Nat} (hp : (p : Int) < X 0 2) (hk : X 2 p = 1 ∨ X 2 p = 2) : X 8 p = 1 := by
  have h := hP.2.1.tme hp
  have hK := hP.2.2.1 p hp
  have : ncI (X 6) p (X 0 2).toNat = 0 := by
    rcases hK with z | z | z
    · omega
    · exact z.2.2
    · omega
  rw [this] at h
  have e : tmI (X 8) p (0 : Int).toNat = (p : Int) + 1 := rfl
  rw [e] at h
  omega
theorem ahf_r (X : IF) (N : Nat → Prop) (p : Nat) : ∀ m : Nat, (ahf X N p m = -1 ∧ ∀ q : Nat, q < m → X 6 q = X 6 p → N q) ∨ (0 ≤ ahf X N p m ∧ ahf X N p m < m ∧ X 6 (ahf X N p m).toNat = X 6 p ∧ ¬ N (ahf X N p m).toNat ∧ ∀ q : Nat, ahf X N p m < q → q < m → X 6 q = X 6 p → N q)
  | 0 => Or.inl ⟨rfl, fun q h => absurd h (Nat.not_lt_zero _)⟩
  | m + 1 => by
    unfold ahf
    by_cases z : X 6 m = X 6 p ∧ ¬ N m
    · rw [cif_t z]
      refine Or.inr ⟨by omega, by omega, ?_, ?_, fun q h1 h2 => by omega⟩
      · rw [Int.toNat_natCast]; exact z.1
      · rw [Int.toNat_natCast]; exact z.2
    · rw [cif_f z]
      have nm : X 6 m = X 6 p → N m := fun y => Classical.byContradiction (fun x => z ⟨y, x⟩)
      rcases ahf_r X N p m with ⟨a, b⟩ | ⟨a, b, c, d, e⟩
      · refine Or.inl ⟨a, fun q h1 h2 => ?_⟩
        by_cases y : q = m
        · rw [y]; exact nm (by rw [← y]; exact h2)
        · exact b q (by omega) h2
      · refine Or.inr ⟨a, by omega, c, d, fun q h1 h2 h3 => ?_⟩
        by_cases y : q = m
        · rw [y]; exact nm (by rw [← y]; exact h3)
        · exact e q h1 (by omega) h3
/-- within: it ends before -/
theorem TOK.in5 (h : TOK w X) {p : Nat} (hp : (p : Int) < X 0 2) : ∀ (m q : Nat), q ≤ m → p < q → (q : Int) < p + X 8 p → X 5 q < X 5 p := by
  intro m
  induction m with
  | zero => intro q h1 h2; omega
  | succ m ih =>
    intro q h1 h2 h3
    have b := h.2.1.2.2.1 p hp
    have g1 := h.2.1.2.1 q (by omega)
    have g2 := h.2.1.2.2.2.2 p q h2 (by omega) h3
    have g3 := h.2.2.2.2.1.2.2.2 q (by omega) (by omega)
    by_cases e : X 6 q = p
    · rw [e, Int.toNat_natCast] at g3; exact g3
    · have := ih (X 6 q).toNat (by omega) (by omega) (by omega)
      omega
theorem TOK.in5' (h : TOK w X) {p q : Nat} (hp : (p : Int) < X 0 2) (h1 : p < q) (h2 : (q : Int) < p + X 8 p) : X 5 q < X 5 p := h.in5 hp q q (Nat.le_refl _) h1 h2
theorem TOK.mono3 (h : TOK w X) {p q : Nat} (hq : (q : Int) < X 0 2) (h1 : p < q) : X 3 p < X 3 q := by
  have a := h.2.2.2.2.1.2.1 p q h1 hq
  have b := h.2.2.2.2.1.1 p (by omega)
  omega
/-- siblings -/
theorem TOK.sib (h : TOK w X) {a p : Nat} (hp : (p : Int) < X 0 2) (ha : a < p) (e : X 6 a = X 6 p) : a + X 8 a ≤ p ∧ X 5 a ≤ X 3 p := by
  have g1 := h.2.1.2.1 p hp
  have g2 := h.2.1.2.1 a (by omega)
  have k : a + X 8 a ≤ p := by
    by_cases z : a + X 8 a ≤ p
    · exact z
    · have := h.2.1.2.2.2.2 a p ha hp (by omega)
      omega
  exact ⟨k, h.2.2.2.2.1.2.2.1 a p ha hp k⟩
/-- what stands between a sibling that stays and a row that has no sibling behind it, goes -/
theorem between (h : TOK w X) (hN : NR X N) {a p : Nat} (hp : (p : Int) < X 0 2) (ha : a < p) (e : X 6 a = X 6 p) (hm : ∀ q : Nat, a < q → q < p → X 6 q = X 6 p → N q) : ∀ (m q : Nat), q ≤ m → a + X 8 a ≤ q → q < p → N q := by
  intro m
  induction m with
  | zero =>
    intro q h1 h2 h3
    have := h.2.1.2.2.1 a (by omega)
    omega
  | succ m ih =>
    intro q h1 h2 h3
    have ba := h.2.1.2.2.1 a (by omega)
    have gp := h.2.1.2.1 p hp
    have ga := h.2.1.2.1 a (by omega)
    have gq := h.2.1.2.1 q (by omega)
    by_cases eq : X 6 q = X 6 p
    · exact hm q (by omega) h3 eq
    · exfalso
      -- its parent is within the parent of both
      have hb : 0 ≤ X 6 p := by omega
      have up := h.2.1.2.2.2.1 p hp (by omega)
      have bp := h.2.1.2.2.1 p hp
      have r1 := h.2.1.2.2.2.2 (X 6 p).toNat q (by omega) (by omega) (by omega)
      have up2 := h.2.1.2.2.2.1 q (by omega) (by omega)
      have bq := h.2.1.2.2.1 q (by omega)
      have ra : (a : Int) < X 6 q := by
        rcases Int.lt_trichotomy (X 6 q) a with z | z | z
        · have := h.2.1.2.2.2.2 (X 6 q).toNat a (by omega) (by omega) (by omega)
          omega
        · rw [z, Int.toNat_natCast] at up2
          omega
        · exact z
      have rb : a + X 8 a ≤ X 6 q := by
        by_cases z : a + X 8 a ≤ X 6 q
        · exact z
        · have := h.2.1.sub' (p := a) (a := (X 6 q).toNat) (by omega) (by omega) (by omega)
          omega
      have n := ih (X 6 q).toNat (by omega) (by omega) (by omega)
      have lf := size_lf h (hN _ n).1 (Or.inr (hN _ n).2)
      omega
theorem row_5 (h : TOK w X) {p : Nat} (hp : (p : Int) < X 0 2) (hk : X 2 p = 2) : X 5 p = X 3 p + 2 ∧ X 4 p = X 3 p + 2 := by
  rcases h.2.2.2.2.2.1.1 p hp with z | z | z
  · omega
  · exact ⟨z.2.2.2.1, z.2.2.2.2.1⟩
  · omega
theorem iv_b (h : TOK w X) {p : Nat} (hp : (p : Int) < X 0 2) : 0 ≤ iv0 X N p ∧ iv1 X p ≤ X 0 1 := by
  have s := h.2.2.2.2.1.1
  refine ⟨?_, ?_⟩
  · unfold iv0
    by_cases z : ((p : Int) + 1 < X 0 2 ∧ X 6 (p + 1) = X 6 p) ∨ ahf X N p p = -1
    · rw [if_pos z]; exact (s p hp).1
    · rw [if_neg z]
      rcases ahf_r X N p p with y | y
      · exact absurd (Or.inr y.1) z
      · have := s (ahf X N p p).toNat (by omega)
        omega
  · unfold iv1
    by_cases z : (p : Int) + 1 < X 0 2 ∧ X 6 (p + 1) = X 6 p
    · rw [if_pos z]
      have := s (p + 1) (by omega)
      omega
    · rw [if_neg z]
      have := s p hp
      omega
theorem SS_3 (h : TOK w X) (hN : NR X N) {q k : Nat} (hq : (q : Int) < X 0 2) : SS X N k (X 3 q) ↔ q < k ∧ N q := by
  have s := h.2.2.2.2.1.1
  constructor
  · rintro ⟨p, p1, p2, p3, p4⟩
    obtain ⟨hp, kp⟩ := hN p p2
    have r5 := row_5 h hp kp
    have notlt : q < p → X 3 q < X 3 p := fun z => h.mono3 hp z
    have notgt : p < q → X 3 p + 2 ≤ X 3 q := fun z => by
      have := h.2.2.2.2.1.2.1 p q z hq
      omega
    unfold iv0 at p3
    unfold iv1 at p4
    by_cases z : (p : Int) + 1 < X 0 2 ∧ X 6 (p + 1) = X 6 p
    · rw [if_pos (Or.inl z)] at p3
      rw [if_pos z] at p4
      have e : q = p := by
        rcases Nat.lt_trichotomy q p with y | y | y
        · have := notlt y; omega
        · exact y
        · by_cases x : q = p + 1
          · rw [x] at p4; omega
          · have := h.mono3 hq (show p + 1 < q by omega)
            omega
      rw [e]; exact ⟨p1, p2⟩
    · rw [if_neg z] at p4
      have le : q ≤ p := by
        rcases Nat.lt_trichotomy q p with y | y | y
        · omega
        · omega
        · have := notgt y; omega
      by_cases eq : q = p
      · rw [eq]; exact ⟨p1, p2⟩
      · have lt := notlt (by omega)
        rcases ahf_r X N p p with y | ⟨y1, y2, y3, y4, y5⟩
        · rw [if_pos (Or.inr y.1)] at p3
          omega
        · rw [if_neg (by omega)] at p3
          have sa := s (ahf X N p p).toNat (by omega)
          have ab : ahf X N p p + X 8 (ahf X N p p).toNat ≤ q := by
            rcases Int.lt_trichotomy (q : Int) (ahf X N p p) with x | x | x
            · have := h.mono3 (p := q) (q := (ahf X N p p).toNat) (by omega) (by omega)
              omega
            · rw [← x, Int.toNat_natCast] at p3 sa
              omega
            · by_cases v : ahf X N p p + X 8 (ahf X N p p).toNat ≤ q
              · exact v
              · have := h.in5' (p := (ahf X N p p).toNat) (q := q) (by omega) (by omega) (by omega)
                have := s q hq
                omega
          exact ⟨by omega, between h hN (a := (ahf X N p p).toNat) hp (by omega) y3 (fun o h1 h2 h3 => y5 o (by omega) h2 h3) q q (Nat.le_refl _) (by omega) (by omega)⟩
  · rintro ⟨h1, h2⟩
    obtain ⟨hp, kp⟩ := hN q h2
    have sq := s q hp
    refine ⟨q, h1, h2, ?_, ?_⟩
    · unfold iv0
      by_cases z : ((q : Int) + 1 < X 0 2 ∧ X 6 (q + 1) = X 6 q) ∨ ahf X N q q = -1
      · rw [if_pos z]; omega
      · rw [if_neg z]
        rcases ahf_r X N q q with y | ⟨y1, y2, y3, y4, y5⟩
        · exact absurd (Or.inr y.1) z
        · have := (h.sib (a := (ahf X N q q).toNat) hp (by omega) y3).2
          omega
    · unfold iv1
      by_cases z : (q : Int) + 1 < X 0 2 ∧ X 6 (q + 1) = X 6 q
      · rw [if_pos z]
        exact h.mono3 (by omega) (by omega)
      · rw [if_neg z]; omega
/-- a sign goes with its letter -/
theorem SS_let (h : TOK w X) (hN : NR X N) {q k : Nat} (hq : (q : Int) < X 0 2) (hk : X 2 q = 1 ∨ X 2 q = 2) : SS X N k (X 3 q) ↔ SS X N k (X 3 q + 1) := by
  have s := h.2.2.2.2.1.1
  have r5 : X 5 q = X 3 q + 2 ∧ X 4 q = X 3 q + 2 := by
    rcases h.2.2.2.2.2.1.1 q hq with z | z | z
    · omega
    · exact ⟨z.2.2.2.1, z.2.2.2.2.1⟩
    · omega
  have n3 : ∀ p : Nat, (p : Int) < X 0 2 → X 3 p ≠ X 3 q + 1 := fun p hp => by
    rcases Nat.lt_trichotomy p q with z | z | z
    · have := h.mono3 hq z; omega
    · rw [z]; omega
    · have := h.2.2.2.2.1.2.1 q p z hp
      omega
  have n5 : ∀ p : Nat, (p : Int) < X 0 2 → X 5 p ≠ X 3 q + 1 := fun p hp => by
    rcases Nat.lt_trichotomy p q with z | z | z
    · by_cases y : (q : Int) < p + X 8 p
      · have := h.in5' hp z y
        omega
      · have := h.2.2.2.2.1.2.2.1 p q z hq (by omega)
        omega
    · rw [z]; omega
    · have := h.2.2.2.2.1.2.1 q p z hp
      have := s p hp
      omega
  have e0 : ∀ p : Nat, N p → iv0 X N p ≠ X 3 q + 1 := fun p hp => by
    have hp' := (hN p hp).1
    unfold iv0
    by_cases z : ((p : Int) + 1 < X 0 2 ∧ X 6 (p + 1) = X 6 p) ∨ ahf X N p p = -1
    · rw [if_pos z]; exact n3 p hp'
    · rw [if_neg z]
      rcases ahf_r X N p p with y | y
      · exact absurd (Or.inr y.1) z
      · exact n5 _ (by omega)
  have e1 : ∀ p : Nat, N p → iv1 X p ≠ X 3 q + 1 := fun p hp => by
    have hp' := (hN p hp).1
    unfold iv1
    by_cases z : (p : Int) + 1 < X 0 2 ∧ X 6 (p + 1) = X 6 p
    · rw [if_pos z]; exact n3 _ (by omega)
    · rw [if_neg z]; exact n5 p hp'
  constructor
  · rintro ⟨p, p1, p2, p3, p4⟩
    have := e1 p p2
    exact ⟨p, p1, p2, by omega, by omega⟩
  · rintro ⟨p, p1, p2, p3, p4⟩
    have := e0 p p2
    exact ⟨p, p1, p2, by omega, by omega⟩
end STK
