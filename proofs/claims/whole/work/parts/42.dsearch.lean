/-! ===== matching: the reference's way, on its own ===== -/
abbrev Tk : Type := Int × Int × Int × Int
def RowL (T σ : IF) (l : Nat) (n j : Int) (k : Nat) : Prop := σ 143 l = k ∧ ∀ x : Nat, x < k → T 11 (tmI (T 8) (σ 144 l) (σ 145 l + x).toNat).toNat = T 11 (tmI (T 8) n (j + x).toNat).toNat
def rBind (T σ : IF) (l : Nat) (k n j : Int) : IF := mset (mset (mset (mset σ 143 l k) 144 l n) 145 l j) 142 l (if k = 0 then -1 else tmI (T 8) n j.toNat)
def dOk (T : IF) (Df : Nat → Nat → Prop) (σ : IF) : Prop := ∀ a b : Nat, a < 26 → b < a → Df a b → σ 141 a ≠ -1 → σ 141 b ≠ -1 → T 11 (σ 141 a).toNat ≠ T 11 (σ 141 b).toNat
noncomputable def dD (T P : IF) (Df : Nat → Nat → Prop) : Nat → List Tk → IF → Option IF
  | 0, _, _ => none
  | _ + 1, [], σ => cif (dOk T Df σ) (some σ) none
  | f + 1, (p, i, n, j) :: ks, σ =>
    if i = -1 then
      (if P 2 p.toNat = 0 then cif (AtE P p.toNat T n.toNat ∧ (P 7 p.toNat = -1 ↔ T 7 n.toNat = -1)) (dD T P Df f ((p, 0, n, 0) :: ks) σ) none
      else if P 2 p.toNat = 1 then
        (if σ 141 (P 9 p.toNat).toNat = -1 then dD T P Df f ks (mset σ 141 (P 9 p.toNat).toNat n) else cif (T 11 (σ 141 (P 9 p.toNat).toNat).toNat = T 11 n.toNat) (dD T P Df f ks σ) none)
      else fs (fun c => dD T P Df f ((tmI (P 8) p 0, -1, n + c, 0) :: ks) σ) (T 8 n.toNat).toNat 0)
    else if i = max 0 (P 7 p.toNat) then (if j = max 0 (T 7 n.toNat) then dD T P Df f ks σ else none)
    else if P 2 (tmI (P 8) p i.toNat).toNat = 2 then
      (if σ 143 (P 9 (tmI (P 8) p i.toNat).toNat).toNat = -1 then fs (fun k => dD T P Df f ((p, i + 1, n, j + k) :: ks) (rBind T σ (P 9 (tmI (P 8) p i.toNat).toNat).toNat k n j)) (max 0 (T 7 n.toNat) - j + 1).toNat 0
      else fs (fun k => cif (RowL T σ (P 9 (tmI (P 8) p i.toNat).toNat).toNat n j k) (dD T P Df f ((p, i + 1, n, j + k) :: ks) σ) none) (max 0 (T 7 n.toNat) - j + 1).toNat 0)
    else (if j = max 0 (T 7 n.toNat) then none else dD T P Df f ((tmI (P 8) p i.toNat, -1, tmI (T 8) n j.toNat, 0) :: (p, i + 1, n, j + 1) :: ks) σ)
theorem cif_n {α : Type} {Q : Prop} {a : Option α} {x : α} (h : cif Q a none = some x) : Q ∧ a = some x := by
  by_cases z : Q
  · rw [cif_t z] at h; exact ⟨z, h⟩
  · rw [cif_f z] at h; cases h
section DDS
variable {T P σ τ : IF} {Df : Nat → Nat → Prop} {p i n j : Int} {ks : List Tk} {f : Nat}
theorem rBind_141 {l k : Nat} {m n j : Int} : rBind T σ l m n j 141 k = σ 141 k := by
  unfold rBind
  rw [mset_a _ _ (by decide), mset_a _ _ (by decide), mset_a _ _ (by decide), mset_a _ _ (by decide)]
/-- what a success came from -/
theorem dD_inv (h : dD T P Df (f + 1) ((p, i, n, j) :: ks) σ = some τ) : ∃ (pre : List Tk) (σ' : IF), dD T P Df f (pre ++ ks) σ' = some τ ∧ (∀ l : Nat, σ 141 l ≠ -1 → σ' 141 l = σ 141 l) ∧
    (i ≠ -1 → (i = max 0 (P 7 p.toNat) ∧ j = max 0 (T 7 n.toNat) ∧ pre = []) ∨ (i ≠ max 0 (P 7 p.toNat) ∧ P 2 (tmI (P 8) p i.toNat).toNat ≠ 2 ∧ j ≠ max 0 (T 7 n.toNat) ∧ pre = [(tmI (P 8) p i.toNat, -1, tmI (T 8) n j.toNat, 0), (p, i + 1, n, j + 1)]) ∨
      (i ≠ max 0 (P 7 p.toNat) ∧ P 2 (tmI (P 8) p i.toNat).toNat = 2 ∧ ∃ k : Nat, k < (max 0 (T 7 n.toNat) - j + 1).toNat ∧ pre = [(p, i + 1, n, j + k)])) := by
  unfold dD at h
  by_cases hi : i = -1
  · rw [if_pos hi] at h
    by_cases k0 : P 2 p.toNat = 0
    · rw [if_pos k0] at h
      exact ⟨[(p, 0, n, 0)], σ, (cif_n h).2, fun _ _ => rfl, fun z => absurd hi z⟩
    · rw [if_neg k0] at h
      by_cases k1 : P 2 p.toNat = 1
      · rw [if_pos k1] at h
        by_cases b : σ 141 (P 9 p.toNat).toNat = -1
        · rw [if_pos b] at h
          refine ⟨[], _, h, fun l hl => ?_, fun z => absurd hi z⟩
          by_cases e : l = (P 9 p.toNat).toNat
          · rw [e] at hl
            exact absurd b hl
          · exact mset_k _ _ e
        · rw [if_neg b] at h
          exact ⟨[], σ, (cif_n h).2, fun _ _ => rfl, fun z => absurd hi z⟩
      · rw [if_neg k1] at h
        obtain ⟨c, -, -, hc⟩ := fs_some _ _ h
        exact ⟨[(tmI (P 8) p 0, -1, n + c, 0)], σ, hc, fun _ _ => rfl, fun z => absurd hi z⟩
  · rw [if_neg hi] at h
    by_cases hm : i = max 0 (P 7 p.toNat)
    · rw [if_pos hm] at h
      by_cases hj : j = max 0 (T 7 n.toNat)
      · rw [if_pos hj] at h
        exact ⟨[], σ, h, fun _ _ => rfl, fun _ => Or.inl ⟨hm, hj, rfl⟩⟩
      · rw [if_neg hj] at h
        cases h
    · rw [if_neg hm] at h
      by_cases k2 : P 2 (tmI (P 8) p i.toNat).toNat = 2
      · rw [if_pos k2] at h
        by_cases b : σ 143 (P 9 (tmI (P 8) p i.toNat).toNat).toNat = -1
        · rw [if_pos b] at h
          obtain ⟨k, -, hk, hc⟩ := fs_some _ _ h
          exact ⟨[(p, i + 1, n, j + k)], _, hc, fun l _ => rBind_141, fun _ => Or.inr (Or.inr ⟨hm, k2, k, by omega, rfl⟩)⟩
        · rw [if_neg b] at h
          obtain ⟨k, -, hk, hc⟩ := fs_some _ _ h
          exact ⟨[(p, i + 1, n, j + k)], σ, (cif_n hc).2, fun _ _ => rfl, fun _ => Or.inr (Or.inr ⟨hm, k2, k, by omega, rfl⟩)⟩
      · rw [if_neg k2] at h
        by_cases hj : j = max 0 (T 7 n.toNat)
        · rw [if_pos hj] at h
          cases h
        · rw [if_neg hj] at h
          exact ⟨[(tmI (P 8) p i.toNat, -1, tmI (T 8) n j.toNat, 0), (p, i + 1, n, j + 1)], σ, h, fun _ _ => rfl, fun _ => Or.inr (Or.inl ⟨hm, k2, hj, rfl⟩)⟩
/-- a success has passed what was behind -/
theorem dD_pass : ∀ (f : Nat) (ks1 ks2 : List Tk) (σ : IF), dD T P Df f (ks1 ++ ks2) σ = some τ → ∃ (f' : Nat) (σ' : IF), f' ≤ f ∧ dD T P Df f' ks2 σ' = some τ := by
  intro f
  induction f with
  | zero => intro ks1 ks2 σ h; cases h
  | succ f ih =>
    intro ks1 ks2 σ h
    cases ks1 with
    | nil => exact ⟨f + 1, σ, Nat.le_refl _, h⟩
    | cons k t =>
      obtain ⟨p, i, n, j⟩ := k
      obtain ⟨pre, σ', h1, -, -⟩ := dD_inv (ks := t ++ ks2) h
      rw [← List.append_assoc] at h1
      obtain ⟨f', σ'', h2, h3⟩ := ih (pre ++ t) ks2 σ' h1
      exact ⟨f', σ'', by omega, h3⟩
/-- what was bound stays, and what must differ differs -/
theorem dD_ext : ∀ (f : Nat) (ks : List Tk) (σ : IF), dD T P Df f ks σ = some τ → dOk T Df τ ∧ ∀ l : Nat, σ 141 l ≠ -1 → τ 141 l = σ 141 l := by
  intro f
  induction f with
  | zero => intro ks σ h; cases h
  | succ f ih =>
    intro ks σ h
    cases ks with
    | nil =>
      unfold dD at h
      obtain ⟨h1, h2⟩ := cif_s h
      subst h2
      exact ⟨h1, fun _ _ => rfl⟩
    | cons k t =>
      obtain ⟨p, i, n, j⟩ := k
      obtain ⟨pre, σ', h1, h2, -⟩ := dD_inv h
      obtain ⟨h3, h4⟩ := ih _ σ' h1
      exact ⟨h3, fun l hl => (h4 l (by rw [h2 l hl]; exact hl)).trans (h2 l hl)⟩
/-- the tasks stand well: the terms that are open ahead of piece p, the innermost first -/
def WS (T P : IF) : Int → Int → List Tk → Prop
  | p, _, [] => p = P 0 2
  | p, b, (a, i, n, j) :: ks => (0 ≤ a ∧ a < P 0 2 ∧ a < b ∧ P 2 a.toNat = 0) ∧ (0 ≤ i ∧ i ≤ ncI (P 6) a (P 0 2).toNat ∧ p = tmI (P 8) a i.toNat) ∧ (0 ≤ n ∧ n < T 0 2) ∧ (0 ≤ j ∧ j ≤ max 0 (T 7 n.toNat)) ∧ WS T P (a + P 8 a.toNat) a ks
theorem WS.up {b b' : Int} (h : WS T P p b ks) (hb : b ≤ b') : WS T P p b' ks := by
  cases ks with
  | nil => exact h
  | cons k t =>
    obtain ⟨a, i, n, j⟩ := k
    obtain ⟨h1, h2⟩ := h
    exact ⟨⟨h1.1, h1.2.1, by omega, h1.2.2.2⟩, h2⟩
/-- the terms of a term of the pattern -/
theorem TOK.p7 (hP : TOK 1 P) {a : Nat} (ha : (a : Int) < P 0 2) (hk : P 2 a = 0) : max 0 (P 7 a) = ncI (P 6) a (P 0 2).toNat := by
  rcases hP.2.2.1 a ha with ⟨z, y⟩ | ⟨z, y⟩ | ⟨z, y⟩
  · omega
  · omega
  · omega
theorem jump (hP : TOK 1 P) {a p : Nat} (hp : (p : Int) < P 0 2) (ha : P 6 p = a) : sgR P a p = sgR P a (p + P 8 p).toNat + (if P 2 p = 2 then 0 else 1) ∧ rwR P a p = rwR P a (p + P 8 p).toNat + (if P 2 p = 2 then 1 else 0) := by
  have h8 := hP.2.1.2.2.1 p hp
  have hpar := hP.2.1.2.1 p hp
  have g : ∀ q : Nat, p + 1 ≤ q → q < (p + P 8 p).toNat → P 6 q ≠ a := fun q z1 z2 z3 => by
    have := hP.2.1.2.2.2.2 p q (by omega) (by omega) (by omega)
    omega
  have g1 : ncI (fS P) a (p + P 8 p).toNat = ncI (fS P) a (p + 1) := ncI_gap _ (by omega) (fun q z1 z2 => by
    have := g q z1 z2
    unfold fS
    split <;> omega)
  have g2 : ncI (fW P) a (p + P 8 p).toNat = ncI (fW P) a (p + 1) := ncI_gap _ (by omega) (fun q z1 z2 => by
    have := g q z1 z2
    unfold fW
    split <;> omega)
  unfold sgR rwR
  rw [g1, g2, ncI_succ, ncI_succ]
  by_cases z : P 2 p = 2
  · have e1 : fS P p = -2 := by unfold fS; rw [if_pos z]
    have e2 : fW P p = P 6 p := by unfold fW; rw [if_pos z]
    rw [e1, e2, if_pos ha, if_pos z, if_pos z, if_neg (show ¬ (-2 : Int) = (a : Int) by omega)]
    omega
  · have e1 : fS P p = P 6 p := by unfold fS; rw [if_neg z]
    have e2 : fW P p = -2 := by unfold fW; rw [if_neg z]
    rw [e1, e2, if_pos ha, if_neg z, if_neg z, if_neg (show ¬ (-2 : Int) = (a : Int) by omega)]
    omega
theorem jump_end (hP : TOK 1 P) {a : Nat} (ha : (a : Int) < P 0 2) : sgR P a (a + P 8 a).toNat = 0 ∧ rwR P a (a + P 8 a).toNat = 0 := by
  have h8 := hP.2.1.2.2.1 a ha
  have g : ∀ q : Nat, (a + P 8 a).toNat ≤ q → q < (P 0 2).toNat → P 6 q ≠ a := fun q z1 z2 z3 => by
    have h3 := hP.2.1.2.2.2.1 q (by omega) (by omega)
    have := (hP.2.1.2.2.1 q (by omega)).1
    rw [z3, Int.toNat_natCast] at h3
    omega
  have g1 : ncI (fS P) a (P 0 2).toNat = ncI (fS P) a (a + P 8 a).toNat := ncI_gap _ (by omega) (fun q z1 z2 => by
    have := g q z1 z2
    unfold fS
    split <;> omega)
  have g2 : ncI (fW P) a (P 0 2).toNat = ncI (fW P) a (a + P 8 a).toNat := ncI_gap _ (by omega) (fun q z1 z2 => by
    have := g q z1 z2
    unfold fW
    split <;> omega)
  unfold sgR rwR
  omega
/-- where a term's piece at hand stands -/
theorem WS.child (hP : TOK 1 P) {a i : Int} (h1 : 0 ≤ a ∧ a < P 0 2 ∧ P 2 a.toNat = 0) (hi : 0 ≤ i ∧ i ≤ ncI (P 6) a (P 0 2).toNat) (hp : p = tmI (P 8) a i.toNat) :
    (i = max 0 (P 7 a.toNat) → p = a + P 8 a.toNat) ∧ (i ≠ max 0 (P 7 a.toNat) → a < p ∧ p < P 0 2 ∧ P 6 p.toNat = a ∧ p + P 8 p.toNat = tmI (P 8) a (i + 1).toNat ∧ i + 1 ≤ ncI (P 6) a (P 0 2).toNat ∧ p < a + P 8 a.toNat) := by
  have e7 := hP.p7 (a := a.toNat) (by omega) h1.2.2
  rw [show ((a.toNat : Nat) : Int) = a by omega] at e7
  refine ⟨fun z => ?_, fun z => ?_⟩
  · have := hP.2.1.tme (n := a.toNat) (by omega)
    rw [show ((a.toNat : Nat) : Int) = a by omega, ← e7, ← z] at this
    rw [hp, this]
  · have t := hP.2.1.tml (n := a.toNat) (j := i.toNat) (by omega) (by rw [show ((a.toNat : Nat) : Int) = a by omega]; omega)
    rw [show ((a.toNat : Nat) : Int) = a by omega, ← hp] at t
    refine ⟨t.1, t.2.2.1, t.2.2.2.1, ?_, by omega, t.2.1⟩
    rw [show (i + 1).toNat = i.toNat + 1 by omega]
    have : tmI (P 8) a (i.toNat + 1) = tmI (P 8) a i.toNat + P 8 (tmI (P 8) a i.toNat).toNat := adv_s _ _ _
    rw [this, ← hp]
/-- a success has counted well -/
theorem dD_cnt (hP : TOK 1 P) : ∀ (f : Nat) (p a i n j : Int) (ks : List Tk) (σ : IF), 0 ≤ a ∧ a < P 0 2 ∧ P 2 a.toNat = 0 → 0 ≤ i ∧ i ≤ ncI (P 6) a (P 0 2).toNat → p = tmI (P 8) a i.toNat → 0 ≤ j → dD T P Df f ((a, i, n, j) :: ks) σ = some τ →
    (0 < rwR P a p.toNat → sgR P a p.toNat ≤ max 0 (T 7 n.toNat) - j) ∧ (rwR P a p.toNat = 0 → sgR P a p.toNat = max 0 (T 7 n.toNat) - j) := by
  intro f
  induction f using Nat.strongRecOn with
  | ind f ih =>
    intro p a i n j ks σ h1 hi hp hj h
    cases f with
    | zero => cases h
    | succ f =>
      obtain ⟨pre, σ', g1, -, g3⟩ := dD_inv h
      obtain ⟨w1, w2⟩ := WS.child hP h1 hi hp
      have ea : ((a.toNat : Nat) : Int) = a := by omega
      rcases g3 (by omega) with ⟨x1, x2, x3⟩ | ⟨x1, x2, x3, x4⟩ | ⟨x1, x2, k, x3, x4⟩
      · have e := jump_end hP (a := a.toNat) (by omega)
        rw [ea, ← w1 x1] at e
        omega
      · obtain ⟨y1, y2, y3, y4, y5, y6⟩ := w2 x1
        rw [x4] at g1
        obtain ⟨f', σ'', z1, z2⟩ := dD_pass f [(tmI (P 8) a i.toNat, -1, tmI (T 8) n j.toNat, 0)] ((a, i + 1, n, j + 1) :: ks) σ' g1
        have r := ih f' (by omega) (p + P 8 p.toNat) a (i + 1) n (j + 1) ks σ'' h1 ⟨by omega, y5⟩ y4 (by omega) z2
        have e := jump hP (a := a.toNat) (p := p.toNat) (by omega) (by rw [ea]; exact y3)
        rw [← hp] at x2
        rw [ea, if_neg x2, if_neg x2, show ((p.toNat : Nat) : Int) = p by omega] at e
        omega
      · obtain ⟨y1, y2, y3, y4, y5, y6⟩ := w2 x1
        rw [x4] at g1
        have r := ih f (by omega) (p + P 8 p.toNat) a (i + 1) n (j + k) ks σ' h1 ⟨by omega, y5⟩ y4 (by omega) g1
        have e := jump hP (a := a.toNat) (p := p.toNat) (by omega) (by rw [ea]; exact y3)
        rw [← hp] at x2
        rw [ea, if_pos x2, if_pos x2, show ((p.toNat : Nat) : Int) = p by omega] at e
        have nn := rwR_nn (P := P) (a := a) (p := (p + P 8 p.toNat).toNat) (by have := hP.2.1.2.2.1 p.toNat (by omega); omega)
        by_cases q : rwR P a (p + P 8 p.toNat).toNat = 0
        · have := r.2 q
          omega
        · have := r.1 (by omega)
          omega
end DDS
