/-! ===== choosing, on its own ===== -/
/-- the sum of v over those below the bound whose f is p -/
def swI (f v : Nat → Int) (p : Int) : Nat → Int
  | 0 => 0
  | q + 1 => swI f v p q + (if f q = p then v q else 0)
theorem swI_s (f v : Nat → Int) (p : Int) (q : Nat) : swI f v p (q + 1) = swI f v p q + (if f q = p then v q else 0) := rfl
theorem swI_gap {f v : Nat → Int} {p : Int} {x : Nat} : ∀ y : Nat, x ≤ y → (∀ q : Nat, x ≤ q → q < y → f q ≠ p) → swI f v p y = swI f v p x
  | 0, h, _ => by rw [show x = 0 by omega]
  | y + 1, h, hq => by
    by_cases e : x = y + 1
    · rw [e]
    · rw [swI_s, swI_gap y (by omega) (fun q h1 h2 => hq q h1 (by omega)), if_neg (hq y (by omega) (by omega))]
      omega
theorem swI_cg {f v v' : Nat → Int} {p : Int} : ∀ n : Nat, (∀ q : Nat, q < n → f q = p → v q = v' q) → swI f v p n = swI f v' p n
  | 0, _ => rfl
  | n + 1, h => by
    rw [swI_s, swI_s, swI_cg n (fun q hq => h q (by omega))]
    by_cases e : f n = p
    · rw [if_pos e, if_pos e, h n (by omega) e]
    · rw [if_neg e, if_neg e]
theorem swI_nn {f v : Nat → Int} {p : Int} : ∀ n : Nat, (∀ q : Nat, q < n → f q = p → 0 ≤ v q) → 0 ≤ swI f v p n
  | 0, _ => Int.le_refl _
  | n + 1, h => by
    have := swI_nn (f := f) (v := v) (p := p) n (fun q hq => h q (by omega))
    rw [swI_s]
    by_cases e : f n = p
    · rw [if_pos e]
      have := h n (by omega) e
      omega
    · rw [if_neg e]
      omega
/-- the most that a node and those within it can be taken for -/
def vM (M W : Nat → Int) (q : Nat) : Int := if M q ≠ 0 ∧ W q = 0 then 1 else W q
/-- W p: how many within p have no matched ones within themselves -/
def WitOk (T : IF) (M W : Nat → Int) (x : Nat) : Prop := ∀ p : Nat, x ≤ p → (p : Int) < T 0 2 → W p = swI (T 6) (vM M W) p (T 0 2).toNat
/-- may be taken, is taken -/
def cdt (M W : Nat → Int) (al : Int) (n : Nat) : Prop := M n ≠ 0 ∧ W n ≤ al
def tkn (T : IF) (M W : Nat → Int) (al : Int) (n : Nat) : Prop := cdt M W al n ∧ ∀ m : Nat, (m : Int) < T 0 2 → m ≠ n → cdt M W al m → ¬ ((m : Int) ≤ n ∧ (n : Int) < m + T 8 m)
noncomputable def tI (T : IF) (M W : Nat → Int) (al : Int) (n : Nat) : Int := pb (tkn T M W al n)
section CHP
variable {T : IF} {M W W' : Nat → Int} {al : Int}
/-- sums over a node's terms -/
theorem swI_tm (hT : TOK 0 T) {v : Nat → Int} {n k : Nat} (hn : (n : Int) < T 0 2) (hk : (k : Int) < ncI (T 6) n (T 0 2).toNat) : swI (T 6) v n (tmI (T 8) n (k + 1)).toNat = swI (T 6) v n (tmI (T 8) n k).toNat + v (tmI (T 8) n k).toNat := by
  obtain ⟨a1, a2, a3, a4, a5⟩ := hT.2.1.tml hn hk
  have e : tmI (T 8) n (k + 1) = tmI (T 8) n k + T 8 (tmI (T 8) n k).toNat := adv_s _ _ _
  rw [e]
  generalize tmI (T 8) n k = x at a1 a2 a3 a4 a5 ⊢
  obtain ⟨x, rfl⟩ : ∃ y : Nat, x = y := ⟨x.toNat, by omega⟩
  rw [Int.toNat_natCast] at a4 ⊢
  have h8 := hT.2.1.2.2.1 x a3
  rw [swI_gap (x := x + 1) ((x : Int) + T 8 x).toNat (by omega) (fun q z1 z2 z3 => by
    have := hT.2.1.2.2.2.2 x q (by omega) (by omega) (by omega)
    omega), swI_s, if_pos a4]
theorem swI_0 (hT : TOK 0 T) {v : Nat → Int} {n : Nat} (hn : (n : Int) < T 0 2) : swI (T 6) v n (n + 1) = 0 := by
  rw [swI_gap (x := 0) (n + 1) (by omega) (fun q _ h2 z => by have := hT.2.1.2.1 q (by omega); omega)]
  rfl
theorem swI_end (hT : TOK 0 T) {v : Nat → Int} {n : Nat} (hn : (n : Int) < T 0 2) : swI (T 6) v n (T 0 2).toNat = swI (T 6) v n (n + T 8 n).toNat := by
  have h8 := hT.2.1.2.2.1 n hn
  refine swI_gap _ (by omega) (fun q z1 z2 z3 => ?_)
  have h3 := hT.2.1.2.2.2.1 q (by omega) (by omega)
  have := (hT.2.1.2.2.1 q (by omega)).1
  rw [z3, Int.toNat_natCast] at h3
  omega
/-- within its bounds -/
theorem WitOk.rng (hT : TOK 0 T) {x : Nat} (hW : WitOk T M W x) : ∀ (m p : Nat), (T 0 2).toNat ≤ p + m → x ≤ p → (p : Int) < T 0 2 → 0 ≤ W p ∧ W p ≤ T 8 p - 1 := by
  intro m
  induction m with
  | zero => intro p h1 h2 h3; omega
  | succ m ih =>
    intro p h1 h2 h3
    have h8 := hT.2.1.2.2.1 p h3
    have hv : ∀ q : Nat, p < q → (q : Int) < T 0 2 → 0 ≤ vM M W q ∧ vM M W q ≤ T 8 q := fun q z1 z2 => by
      have i := ih q (by omega) (by omega) z2
      have h8q := hT.2.1.2.2.1 q z2
      unfold vM
      split <;> omega
    have go : ∀ k : Nat, (k : Int) ≤ ncI (T 6) p (T 0 2).toNat → 0 ≤ swI (T 6) (vM M W) p (tmI (T 8) p k).toNat ∧ swI (T 6) (vM M W) p (tmI (T 8) p k).toNat ≤ tmI (T 8) p k - p - 1 := by
      intro k
      induction k with
      | zero =>
        intro _
        have e : (tmI (T 8) p 0).toNat = p + 1 := by show ((p : Int) + 1).toNat = p + 1; omega
        rw [e, swI_0 hT h3]
        show (0 : Int) ≤ 0 ∧ (0 : Int) ≤ (p : Int) + 1 - p - 1
        omega
      | succ k ihk =>
        intro hk
        have i := ihk (by omega)
        have t := hT.2.1.tml h3 (j := k) (by omega)
        rw [swI_tm hT h3 (by omega)]
        have e : tmI (T 8) p (k + 1) = tmI (T 8) p k + T 8 (tmI (T 8) p k).toNat := adv_s _ _ _
        have := hv (tmI (T 8) p k).toNat (by omega) (by omega)
        omega
    have hn := ncI_nn (T 6) p (T 0 2).toNat
    have g := go (ncI (T 6) p (T 0 2).toNat).toNat (by omega)
    rw [hT.2.1.tme h3, ← swI_end hT h3, ← hW p h2 h3] at g
    omega
/-- there is but one such W -/
theorem WitOk.one (hT : TOK 0 T) {x : Nat} (hW : WitOk T M W x) (hW' : WitOk T M W' x) : ∀ (m p : Nat), (T 0 2).toNat ≤ p + m → x ≤ p → (p : Int) < T 0 2 → W p = W' p := by
  intro m
  induction m with
  | zero => intro p h1 h2 h3; omega
  | succ m ih =>
    intro p h1 h2 h3
    rw [hW p h2 h3, hW' p h2 h3]
    refine swI_cg _ (fun q hq he => ?_)
    have := hT.2.1.2.1 q (by omega)
    have e := ih q (by omega) (by omega) (by omega)
    unfold vM
    rw [e]
theorem tkn_cg (hT : TOK 0 T) (hW : WitOk T M W 0) (hW' : WitOk T M W' 0) {n : Nat} (hn : (n : Int) < T 0 2) : tkn T M W al n ↔ tkn T M W' al n := by
  have e : ∀ p : Nat, (p : Int) < T 0 2 → W p = W' p := fun p hp => WitOk.one hT hW hW' (T 0 2).toNat p (by omega) (by omega) hp
  have c : ∀ p : Nat, (p : Int) < T 0 2 → (cdt M W al p ↔ cdt M W' al p) := fun p hp => by
    unfold cdt
    rw [e p hp]
  unfold tkn
  rw [c n hn]
  exact ⟨fun z => ⟨z.1, fun m h1 h2 h3 => z.2 m h1 h2 ((c m h1).mpr h3)⟩, fun z => ⟨z.1, fun m h1 h2 h3 => z.2 m h1 h2 ((c m h1).mp h3)⟩⟩
/-- who may be taken and isn't is within one that is -/
theorem tkn_up (hT : TOK 0 T) : ∀ (m n : Nat), n ≤ m → (n : Int) < T 0 2 → cdt M W al n → ∃ a : Nat, (a : Int) < T 0 2 ∧ tkn T M W al a ∧ (a : Int) ≤ n ∧ (n : Int) < a + T 8 a := by
  intro m
  induction m with
  | zero =>
    intro n hn hc hd
    have h8 := hT.2.1.2.2.1 n hc
    exact ⟨n, hc, ⟨hd, fun m' h1 h2 _ h4 => by omega⟩, by omega, by omega⟩
  | succ m ih =>
    intro n hn hc hd
    have h8 := hT.2.1.2.2.1 n hc
    by_cases z : tkn T M W al n
    · exact ⟨n, hc, z, by omega, by omega⟩
    · have : ∃ b : Nat, (b : Int) < T 0 2 ∧ b ≠ n ∧ cdt M W al b ∧ ((b : Int) ≤ n ∧ (n : Int) < b + T 8 b) := by
        refine Classical.byContradiction (fun y => z ⟨hd, fun b h1 h2 h3 h4 => y ⟨b, h1, h2, h3, h4⟩⟩)
      obtain ⟨b, b1, b2, b3, b4⟩ := this
      obtain ⟨a, a1, a2, a3, a4⟩ := ih b (by omega) b1 b3
      have := hT.2.1.sub' (p := a) (a := b) a1 (by omega) a4
      exact ⟨a, a1, a2, by omega, by omega⟩
/-- by the first two rules -/
theorem tkn_0 (hT : TOK 0 T) (hW : WitOk T M W 0) (n : Nat) (hn : (n : Int) < T 0 2) : tkn T M W 120 n ↔ (M n ≠ 0 ∧ ∀ m : Nat, (m : Int) < T 0 2 → m ≠ n → M m ≠ 0 → ¬ ((m : Int) ≤ n ∧ (n : Int) < m + T 8 m)) := by
  have htc := hT.1.2.1
  have c : ∀ p : Nat, (p : Int) < T 0 2 → (cdt M W 120 p ↔ M p ≠ 0) := fun p hp => by
    have := hW.rng hT (T 0 2).toNat p (by omega) (by omega) hp
    have h8 := hT.2.1.2.2.1 p hp
    exact ⟨fun z => z.1, fun z => ⟨z, by omega⟩⟩
  unfold tkn
  rw [c n hn]
  exact ⟨fun z => ⟨z.1, fun m h1 h2 h3 => z.2 m h1 h2 ((c m h1).mpr h3)⟩, fun z => ⟨z.1, fun m h1 h2 h3 => z.2 m h1 h2 ((c m h1).mp h3)⟩⟩
/-- something matched within means some to count -/
theorem Wit_pos (hT : TOK 0 T) (hW : WitOk T M W 0) {n : Nat} (hn : (n : Int) < T 0 2) : ∀ (k m : Nat), m ≤ k → (m : Int) < T 0 2 → M m ≠ 0 → n < m → (m : Int) < n + T 8 n → 1 ≤ W n := by
  have key : ∀ q : Nat, (q : Int) < T 0 2 → T 6 q = n → 1 ≤ vM M W q → 1 ≤ W n := fun q hq h6 h1 => by
    rw [hW n (by omega) hn]
    have nn : ∀ q : Nat, (q : Int) < T 0 2 → 0 ≤ vM M W q := fun q hq => by
      have := hW.rng hT (T 0 2).toNat q (by omega) (by omega) hq
      unfold vM
      split <;> omega
    have h2 : ∀ y : Nat, y ≤ (T 0 2).toNat → q < y → 1 ≤ swI (T 6) (vM M W) n y := by
      intro y
      induction y with
      | zero => intro _ h; omega
      | succ y ih =>
        intro hy hqy
        rw [swI_s]
        by_cases e : y = q
        · rw [e, if_pos h6]
          have := swI_nn (f := T 6) (v := vM M W) (p := n) q (fun q' hq' _ => nn q' (by omega))
          omega
        · have := ih (by omega) (by omega)
          split
          · have := nn y (by omega)
            omega
          · omega
    exact h2 _ (Nat.le_refl _) (by omega)
  intro k
  induction k with
  | zero => intro m h1 h2 h3 h4; omega
  | succ k ih =>
    intro m h1 h2 h3 h4 h5
    have hv : 1 ≤ vM M W m := by
      have := hW.rng hT (T 0 2).toNat m (by omega) (by omega) h2
      unfold vM
      split
      · omega
      · next z => 
        by_cases y : W m = 0
        · exact absurd ⟨h3, y⟩ z
        · omega
    have g := hT.2.1.2.2.2.2 n m h4 h2 h5
    have g2 := hT.2.1.2.1 m h2
    -- climb from m to n's term
    have climb : ∀ (d q : Nat), q ≤ d → n < q → (q : Int) < T 0 2 → (q : Int) < n + T 8 n → 1 ≤ vM M W q → 1 ≤ W n := by
      intro d
      induction d with
      | zero => intro q z1 z2; omega
      | succ d ihd =>
        intro q z1 z2 z3 z4 z5
        have gq := hT.2.1.2.2.2.2 n q z2 z3 z4
        have gq2 := hT.2.1.2.1 q z3
        by_cases e : T 6 q = n
        · exact key q z3 e z5
        · have hp : 1 ≤ W (T 6 q).toNat := by
            have hpc : (((T 6 q).toNat : Nat) : Int) < T 0 2 := by omega
            have nn : ∀ q : Nat, (q : Int) < T 0 2 → 0 ≤ vM M W q := fun q hq => by
              have := hW.rng hT (T 0 2).toNat q (by omega) (by omega) hq
              unfold vM
              split <;> omega
            rw [hW (T 6 q).toNat (by omega) hpc]
            have h2' : ∀ y : Nat, y ≤ (T 0 2).toNat → q < y → 1 ≤ swI (T 6) (vM M W) (((T 6 q).toNat : Nat) : Int) y := by
              intro y
              induction y with
              | zero => intro _ h; omega
              | succ y ihy =>
                intro hy hqy
                rw [swI_s]
                by_cases e2 : y = q
                · rw [e2, if_pos (by omega)]
                  have := swI_nn (f := T 6) (v := vM M W) (p := (((T 6 q).toNat : Nat) : Int)) q (fun q' hq' _ => nn q' (by omega))
                  omega
                · have := ihy (by omega) (by omega)
                  split
                  · have := nn y (by omega)
                    omega
                  · omega
            exact h2' _ (Nat.le_refl _) (by omega)
          refine ihd (T 6 q).toNat (by omega) (by omega) (by omega) ?_ ?_
          · have := hT.2.1.2.2.1 q z3
            omega
          · unfold vM
            split
            · omega
            · omega
    exact climb m m (Nat.le_refl _) h4 h2 h5 hv
theorem Wit_zero (hT : TOK 0 T) (hW : WitOk T M W 0) {n : Nat} (hn : (n : Int) < T 0 2) (h : ∀ m : Nat, (m : Int) < T 0 2 → n < m → (m : Int) < n + T 8 n → M m = 0) : W n = 0 := by
  have go : ∀ (d q : Nat), (T 0 2).toNat ≤ q + d → n ≤ q → (q : Int) < n + T 8 n → (q : Int) < T 0 2 → W q = 0 := by
    intro d
    induction d with
    | zero => intro q z1 z2 z3 z4; omega
    | succ d ih =>
      intro q z1 z2 z3 z4
      rw [hW q (by omega) z4, swI_cg (v' := fun _ => 0) _ (fun x hx he => ?_)]
      · have : ∀ y : Nat, swI (T 6) (fun _ => 0) q y = 0 := by
          intro y
          induction y with
          | zero => rfl
          | succ y ihy =>
            rw [swI_s, ihy]
            split <;> rfl
        exact this _
      · have hx2 := hT.2.1.2.1 x (by omega)
        have hx3 := hT.2.1.2.2.2.1 x (by omega) (by omega)
        have hx8 := (hT.2.1.2.2.1 x (by omega)).1
        have hq := hT.2.1.sub' (p := n) (a := q) hn z2 z3
        rw [he, Int.toNat_natCast] at hx3
        have hwx := ih x (by omega) (by omega) (by omega) (by omega)
        have hmx := h x (by omega) (by omega) (by omega)
        unfold vM
        rw [hmx, hwx]
        simp
  have h8 := hT.2.1.2.2.1 n hn
  exact go (T 0 2).toNat n (by omega) (Nat.le_refl _) (by omega) hn
theorem tkn_1 (hT : TOK 0 T) (hW : WitOk T M W 0) (n : Nat) (hn : (n : Int) < T 0 2) : tkn T M W 0 n ↔ (M n ≠ 0 ∧ ∀ m : Nat, (m : Int) < T 0 2 → m ≠ n → M m ≠ 0 → ¬ ((n : Int) ≤ m ∧ (m : Int) < n + T 8 n)) := by
  have c : ∀ p : Nat, (p : Int) < T 0 2 → (cdt M W 0 p ↔ (M p ≠ 0 ∧ ∀ m : Nat, (m : Int) < T 0 2 → m ≠ p → M m ≠ 0 → ¬ ((p : Int) ≤ m ∧ (m : Int) < p + T 8 p))) := fun p hp => by
    refine ⟨fun z => ⟨z.1, fun m h1 h2 h3 h4 => ?_⟩, fun z => ⟨z.1, ?_⟩⟩
    · have := Wit_pos hT hW hp m m (Nat.le_refl _) h1 h3 (by omega) h4.2
      have := z.2
      omega
    · rw [Wit_zero hT hW hp (fun m h1 h2 h3 => Classical.byContradiction (fun y => z.2 m h1 (by omega) y ⟨by omega, h3⟩))]
      exact Int.le_refl _
  unfold tkn
  rw [c n hn]
  refine ⟨fun z => z.1, fun z => ⟨z, fun m h1 h2 h3 h4 => ?_⟩⟩
  exact ((c m h1).mp h3).2 n hn (by omega) z.1 h4
/-- the i-th one of those with f = 1 -/
def nthI (f : Nat → Int) (i : Int) : Nat → Nat → Int
  | _, 0 => -1
  | n, m + 1 => if f n = 0 then nthI f i (n + 1) m else if ncI f 1 n = i then n else nthI f i (n + 1) m
theorem nth_ex {f : Nat → Int} {i : Nat} : ∀ m : Nat, (i : Int) < ncI f 1 m → ∃ n : Nat, n < m ∧ f n = 1 ∧ ncI f 1 n = i
  | 0, h => by
    have : (i : Int) < 0 := h
    omega
  | m + 1, h => by
    rw [ncI_succ] at h
    by_cases e : (i : Int) < ncI f 1 m
    · obtain ⟨n, n1, n2⟩ := nth_ex m e
      exact ⟨n, by omega, n2⟩
    · by_cases e2 : f m = 1
      · rw [if_pos e2] at h
        exact ⟨m, by omega, e2, by omega⟩
      · rw [if_neg e2] at h
        omega
theorem nthI_no {f : Nat → Int} {i : Int} (h01 : ∀ n : Nat, f n = 0 ∨ f n = 1) : ∀ m n : Nat, (∀ k : Nat, n ≤ k → k < n + m → f k = 1 → ncI f 1 k ≠ i) → nthI f i n m = -1
  | 0, n, _ => rfl
  | m + 1, n, h => by
    have r := nthI_no (f := f) (i := i) h01 m (n + 1) (fun k h1 h2 => h k (by omega) (by omega))
    unfold nthI
    split
    · exact r
    · next z =>
      rw [if_neg (h n (Nat.le_refl _) (by omega) ((h01 n).resolve_left z))]
      exact r
theorem nthI_at {f : Nat → Int} {i : Int} (h01 : ∀ n : Nat, f n = 0 ∨ f n = 1) {k : Nat} (hk : f k = 1) (hi : ncI f 1 k = i) : ∀ m n : Nat, n ≤ k → k < n + m → nthI f i n m = k
  | 0, n, h1, h2 => by omega
  | m + 1, n, h1, h2 => by
    unfold nthI
    by_cases e : n = k
    · rw [e, if_neg (by rw [hk]; decide), if_pos hi]
    · have r := nthI_at h01 hk hi m (n + 1) (by omega) (by omega)
      split
      · exact r
      · next z =>
        have h3 := ncI_mono (f := f) (p := 1) (x := n + 1) k (by omega)
        rw [ncI_succ, if_pos ((h01 n).resolve_left z)] at h3
        rw [if_neg (by omega)]
        exact r
/-- from a list -/
theorem nthI_list {f : Nat → Int} {A : Nat → Int} {i : Int} {m : Nat} (h01 : ∀ n : Nat, f n = 0 ∨ f n = 1) (hA : ∀ n : Nat, n < m → f n = 1 → A (ncI f 1 n).toNat = n) : nthI f i 0 m = if 0 ≤ i ∧ i < ncI f 1 m then A i.toNat else -1 := by
  by_cases z : 0 ≤ i ∧ i < ncI f 1 m
  · rw [if_pos z]
    obtain ⟨n, n1, n2, n3⟩ := nth_ex (f := f) (i := i.toNat) m (by omega)
    rw [nthI_at h01 n2 (show ncI f 1 n = i by omega) m 0 (by omega) (by omega), ← hA n n1 n2, n3, Int.toNat_natCast]
  · rw [if_neg z]
    refine nthI_no h01 m 0 (fun k h1 h2 h3 h4 => z ?_)
    have g1 := ncI_nn f 1 k
    have g2 := ncI_mono (f := f) (p := 1) (x := k + 1) m (by omega)
    rw [ncI_succ, if_pos h3] at g2
    omega
end CHP
