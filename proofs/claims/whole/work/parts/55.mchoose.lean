/-! ===== choosing: the reference's methods ===== -/
def FrE (I J : IF) : Prop := ∀ a k : Nat, (a < 136 ∨ 148 < a) → (a ≠ 80 ∨ k ≠ 26) → J a k = I a k
noncomputable def mM (T P : IF) (fr : Int) (Df : Nat → Nat → Prop) (n : Nat) : Int := pb (WAY T P fr Df n ≠ none)
section MCH
variable {Γ : GX} {g : AG} {T P I J X : IF} {Df : Nat → Nat → Prop} {fr : Int} {M W : Nat → Int}
theorem FrE.rf : FrE I I := fun _ _ _ _ => rfl
theorem FrE.tr (h1 : FrE I J) (h2 : FrE J X) : FrE I X := fun a k z y => (h2 a k z y).trans (h1 a k z y)
theorem FrD.fe (h : FrD I J) : FrE I J := fun a k z y => h a k (by omega) y
theorem FrE.st {a k : Nat} {v : Int} (ha : 136 ≤ a ∧ a ≤ 148) : FrE I (mset I a k v) := fun b j z _ => mset_a _ _ (by omega)
theorem MSt.mvE (h : MSt T P Df I) (hF : FrE I J) : MSt T P Df J := by
  obtain ⟨h1, h2, h3, h4, h5, h6⟩ := h
  refine ⟨h1, h2, h3, h4.cgU (fun i k hi => hF (82 + i) k (by omega) (Or.inl (by omega))), h5.cgU (fun i k hi => hF (92 + i) k (by omega) (Or.inl (by omega))), fun a b ha hb => ?_⟩
  rw [hF 134 _ (by omega) (Or.inl (by omega))]
  exact h6 a b ha hb
theorem mM_01 (n : Nat) : mM T P fr Df n = 0 ∨ mM T P fr Df n = 1 := pb_01 _
/-- ALL of the reference -/
theorem m_all (hg : GOk g) (hM : MSt T P Df I) (hF : FRO P fr) (hD : (∀ l : Nat, ¬ Df l l) ∧ ∀ l o : Nat, Df l o → Df o l) :
    ∃ J : IF, CT Γ 902 mX8_all [.inr (some 80)] (g, I) (some (.inl (ncI (mM T P fr Df) 1 (T 0 2).toNat)), (g, J)) ∧ FrE I J ∧ ∀ n : Nat, (n : Int) < T 0 2 → J 146 n = mM T P fr Df n := by
  have htc := hM.1.1.2.1
  have lp : ∀ (m n : Nat) (X : IF), n + m = (T 0 2).toNat → FrE I X → (∀ q : Nat, q < n → X 146 q = mM T P fr Df q) → ∃ J : IF, Ev Γ 902 mX8_all 4 [some (.inr (some 80)), some (.inl (ncI (mM T P fr Df) 1 n)), some (.inl n)] [] (g, X) (some (.inl (ncI (mM T P fr Df) 1 (T 0 2).toNat)), (g, J)) ∧ FrE I J ∧ ∀ n : Nat, (n : Int) < T 0 2 → J 146 n = mM T P fr Df n := by
    intro m
    induction m with
    | zero =>
      intro n X hn hX h
      have x82 : X 82 2 = T 0 2 := (hM.mvE hX).2.2.2.1.2.1
      refine ⟨X, v_X8_all_4 hg _ n ⟨fun _ => ⟨by rw [show (T 0 2).toNat = n by omega], rfl⟩, fun z => absurd (by omega) z⟩, hX, fun q hq => h q (by omega)⟩
    | succ m ih =>
      intro n X hn hX h
      have hMX := hM.mvE hX
      have x82 : X 82 2 = T 0 2 := hMX.2.2.2.1.2.1
      obtain ⟨J2, c1, c2, -⟩ := m_isMatched (Γ := Γ) (root := (n : Int)) hg hMX hF hD (by omega)
      have hs : ncI (mM T P fr Df) 1 (n + 1) = ncI (mM T P fr Df) 1 n + (if mM T P fr Df n = 1 then 1 else 0) := rfl
      have hnle := ncI_le (mM T P fr Df) 1 n
      have hnn := ncI_nn (mM T P fr Df) 1 n
      obtain ⟨J, j1, j2⟩ := ih (n + 1) (mset J2 146 n (mM T P fr Df n)) (by omega) (hX.tr (c2.fe.tr (FrE.st (by decide)))) (fun q hq => by
        by_cases e : q = n
        · rw [e, mset_s]
        · rw [mset_k _ _ e, c2 146 q (by decide) (Or.inl (by decide))]
          exact h q (by omega))
      refine ⟨J, v_X8_all_4 hg _ n ⟨fun z => absurd z (by omega), fun _ => ⟨_, _, c1, by omega, pb_01 _, ?_⟩⟩, j2⟩
      rw [Int.toNat_natCast]
      rintro _ rfl
      rw [mset_s]
      have e : pb (WAY T P fr Df (n : Int) ≠ none) = mM T P fr Df n := rfl
      rw [e]
      refine ⟨by omega, fun z => ⟨by unfold inR; omega, ?_⟩, fun z => ⟨by unfold inR; omega, ?_⟩⟩
      · rw [z, if_neg (by decide)] at hs
        rintro _ rfl
        rw [hs] at j1
        refine ⟨by unfold inR; omega, j1⟩
      · rw [if_pos ((mM_01 n).resolve_left z)] at hs
        rintro _ rfl
        rw [hs] at j1
        refine ⟨by unfold inR; omega, j1⟩
  obtain ⟨J, j1, j2⟩ := lp (T 0 2).toNat 0 I (by omega) FrE.rf (fun q hq => by omega)
  exact ⟨J, CT.of (R := (some (.inl (ncI (mM T P fr Df) 1 (T 0 2).toNat)), (g, J))) oX8_all (Nat.le_of_ble_eq_true rfl) (Nat.le_refl _) (Nat.le_refl _) (v_X8_all_0 hg j1), j2⟩
/-- the end: counting those taken -/
theorem m_take_318 (hg : GOk g) {f : Nat → Int} (h01 : ∀ n : Nat, f n = 0 ∨ f n = 1) {c : Int} (hc : 0 ≤ c ∧ c ≤ 120) (h82 : I 82 2 = c) (hf : ∀ n : Nat, (n : Int) < c → I 147 n = f n) : ∀ (m n : Nat), n + m = c.toNat → Ev Γ 903 mX8_takeBy 318 [some (.inr (some 80)), none, none, some (.inl (ncI f 1 n)), some (.inl n), none] [] (g, I) (some (.inl (ncI f 1 c.toNat)), (g, I)) := by
  intro m
  induction m with
  | zero =>
    intro n hn
    exact v_X8_takeBy_318 hg _ n ⟨fun _ => ⟨by rw [show c.toNat = n by omega], rfl⟩, fun z => absurd (by omega) z⟩
  | succ m ih =>
    intro n hn
    have hs : ncI f 1 (n + 1) = ncI f 1 n + (if f n = 1 then 1 else 0) := rfl
    have hnle := ncI_le f 1 n
    have hnn := ncI_nn f 1 n
    have i := ih (n + 1) (by omega)
    have hfn := hf n (by omega)
    refine v_X8_takeBy_318 hg _ n ⟨fun z => absurd z (by omega), fun _ => ⟨by omega, fun z => ⟨by unfold inR; omega, ?_⟩, fun z => ⟨by unfold inR; omega, ?_⟩⟩⟩
    · rw [Int.toNat_natCast, hfn] at z
      rw [z, if_neg (by decide)] at hs
      rintro _ rfl
      rw [hs] at i
      exact ⟨by unfold inR; omega, i⟩
    · rw [Int.toNat_natCast, hfn] at z
      rw [if_pos ((h01 n).resolve_left z)] at hs
      rintro _ rfl
      rw [hs] at i
      exact ⟨by unfold inR; omega, i⟩
/-- the first two rules -/
theorem m_take_38 (hg : GOk g) (hT : TOK 0 T) {rule : Int} (hr : rule = 0 ∨ rule = 1) {f : Nat → Int} (h01 : ∀ n : Nat, f n = 0 ∨ f n = 1)
    (hf : ∀ n : Nat, (n : Int) < T 0 2 → (f n = 1 ↔ (M n ≠ 0 ∧ ∀ m : Nat, (m : Int) < T 0 2 → m ≠ n → M m ≠ 0 → ¬ (if rule = 0 then (m : Int) ≤ n ∧ (n : Int) < m + T 8 m else (n : Int) ≤ m ∧ (m : Int) < n + T 8 n)))) :
    ∀ (m n : Nat) (X : IF), n + m = (T 0 2).toNat → TR T (tv 82 X) → (∀ q : Nat, (q : Int) < T 0 2 → X 146 q = M q) → (∀ q : Nat, q < n → X 147 q = f q) → (∀ q : Nat, n ≤ q → (q : Int) < T 0 2 → X 147 q = 0) →
      ∃ J : IF, Ev Γ 903 mX8_takeBy 38 [some (.inr (some 80)), some (.inl rule), none, some (.inl n), none, none] [] (g, X) (some (.inl (ncI f 1 (T 0 2).toNat)), (g, J)) ∧ (∀ a k : Nat, a ≠ 147 → J a k = X a k) ∧ ∀ q : Nat, (q : Int) < T 0 2 → J 147 q = f q := by
  have htc := hT.1.2.1
  intro m
  induction m with
  | zero =>
    intro n X hn hr2 h146 h147 h0
    have x82 : X 82 2 = T 0 2 := hr2.2.1
    exact ⟨X, v_X8_takeBy_38 hg rule n ⟨fun _ => v_X8_takeBy_313 hg (m_take_318 hg h01 (by omega) x82 (fun q hq => h147 q (by omega)) _ 0 (Nat.zero_add _)), fun z => absurd (by omega) z⟩, fun _ _ _ => rfl, fun q hq => h147 q (by omega)⟩
  | succ m ih =>
    intro n X hn hr2 h146 h147 h0
    have hnc : (n : Int) < T 0 2 := by omega
    have x82 : X 82 2 = T 0 2 := hr2.2.1
    have x146 := h146 n hnc
    by_cases hz : M n = 0
    · have hfn : f n = 0 := (h01 n).resolve_right (fun z => ((hf n hnc).mp z).1 hz)
      obtain ⟨J, j1, j2, j3⟩ := ih (n + 1) X (by omega) hr2 h146 (fun q hq => by
        by_cases e : q = n
        · rw [e, hfn]; exact h0 n (Nat.le_refl _) hnc
        · exact h147 q (by omega)) (fun q hq hqc => h0 q (by omega) hqc)
      exact ⟨J, v_X8_takeBy_38 hg rule n ⟨fun z => absurd z (by omega), fun _ => ⟨by omega, fun z => absurd (by rw [Int.toNat_natCast, x146]; exact hz) z, fun _ => v_X8_takeBy_156 hg rule n ⟨by unfold inR; omega, j1⟩⟩⟩, j2, j3⟩
    · -- the search for another one
      have hX2 : TR T (tv 82 (mset X 147 n (f n))) := hr2.cgU (fun i k hi => mset_a _ _ (by omega))
      obtain ⟨J, j1, j2, j3⟩ := ih (n + 1) (mset X 147 n (f n)) (by omega) hX2 (fun q hq => by rw [mset_a _ _ (by decide)]; exact h146 q hq) (fun q hq => by
        by_cases e : q = n
        · rw [e, mset_s]
        · rw [mset_k _ _ e]; exact h147 q (by omega)) (fun q hq hqc => by rw [mset_k _ _ (by omega)]; exact h0 q (by omega) hqc)
      have lp2 : ∀ (k x : Nat) (b : Int), x + k = (T 0 2).toNat → b = pb (∃ m' : Nat, m' < x ∧ m' ≠ n ∧ M m' ≠ 0 ∧ (if rule = 0 then (m' : Int) ≤ n ∧ (n : Int) < m' + T 8 m' else (n : Int) ≤ m' ∧ (m' : Int) < n + T 8 n)) →
          Ev Γ 903 mX8_takeBy 67 [some (.inr (some 80)), some (.inl rule), none, some (.inl n), some (.inl b), some (.inl x)] [] (g, X) (some (.inl (ncI f 1 (T 0 2).toNat)), (g, J)) := by
        intro k
        induction k with
        | zero =>
          intro x b hx hb
          have efn : f n = 1 ↔ b = 0 := by
            rw [hf n hnc, hb, pb_0]
            refine ⟨fun z ⟨m', z1, z2, z3, z4⟩ => z.2 m' (by omega) z2 z3 z4, fun z => ⟨hz, fun m' z1 z2 z3 z4 => z ⟨m', by omega, z2, z3, z4⟩⟩⟩
          refine v_X8_takeBy_67 hg rule n b x ⟨fun _ => ⟨fun z => ⟨by omega, ?_⟩, fun z => ⟨by omega, ?_⟩⟩, fun z => absurd (by omega) z⟩
          · rw [Int.toNat_natCast]
            rintro _ rfl
            have e0 : f n = 0 := (h01 n).resolve_right (fun y => z (efn.mp y))
            rw [e0] at j1
            exact v_X8_takeBy_156 hg rule n ⟨by unfold inR; omega, j1⟩
          · rw [Int.toNat_natCast]
            rintro _ rfl
            rw [efn.mpr z] at j1
            exact v_X8_takeBy_156 hg rule n ⟨by unfold inR; omega, j1⟩
        | succ k ih2 =>
          intro x b hx hb
          have hxc : (x : Int) < T 0 2 := by omega
          have w1 := h146 x hxc
          have yes : (∃ m' : Nat, m' < x + 1 ∧ m' ≠ n ∧ M m' ≠ 0 ∧ (if rule = 0 then (m' : Int) ≤ n ∧ (n : Int) < m' + T 8 m' else (n : Int) ≤ m' ∧ (m' : Int) < n + T 8 n)) → Ev Γ 903 mX8_takeBy 127 [some (.inr (some 80)), some (.inl rule), none, some (.inl n), none, some (.inl x)] [] (g, X) (some (.inl (ncI f 1 (T 0 2).toNat)), (g, J)) := fun h => v_X8_takeBy_127 hg rule n x ⟨by unfold inR; omega, ih2 (x + 1) 1 (by omega) (pb_t h).symm⟩
          have no : (¬ b = 0 → False) → ¬ (x ≠ n ∧ M x ≠ 0 ∧ (if rule = 0 then (x : Int) ≤ n ∧ (n : Int) < x + T 8 x else (n : Int) ≤ x ∧ (x : Int) < n + T 8 n)) → Ev Γ 903 mX8_takeBy 131 [some (.inr (some 80)), some (.inl rule), none, some (.inl n), none, some (.inl x)] [] (g, X) (some (.inl (ncI f 1 (T 0 2).toNat)), (g, J)) := fun h1 h2 => v_X8_takeBy_131 hg rule n x ⟨by unfold inR; omega, ih2 (x + 1) 0 (by omega) (pb_f (fun ⟨m', z1, z2⟩ => by
            by_cases e : m' = x
            · rw [e] at z2; exact h2 z2
            · refine h1 ?_
              rw [hb, pb_1]
              exact ⟨m', by omega, z2⟩)).symm⟩
          refine v_X8_takeBy_67 hg rule n b x ⟨fun z => absurd z (by omega), fun _ => ⟨fun z => ?_, fun z => ⟨fun y => no (fun w => w z) (fun w => by omega), fun y => ⟨by omega, fun v => ?_, fun v => ⟨fun u => ?_, fun u => ?_⟩⟩⟩⟩⟩
          · rw [hb, pb_1] at z
            obtain ⟨m', z1, z2⟩ := z
            exact yes ⟨m', by omega, z2⟩
          · rw [Int.toNat_natCast, w1] at v
            exact no (fun w => w z) (fun w => w.2.1 v)
          · rw [Int.toNat_natCast, w1] at v
            have hwi := m_isWithin (Γ := Γ) (n := x) (p := n) hg hT hr2 hxc hnc
            refine ⟨_, _, hwi, fun t => ?_, fun t => ?_⟩
            · rw [pb_0] at t
              exact no (fun w => w z) (fun w => by rw [if_neg u] at w; exact t w.2.2)
            · rw [pb_1] at t
              exact yes ⟨x, by omega, by omega, v, by rw [if_neg u]; exact t⟩
          · rw [Int.toNat_natCast, w1] at v
            have hwi := m_isWithin (Γ := Γ) (n := n) (p := x) hg hT hr2 hnc hxc
            refine ⟨_, _, hwi, fun t => ?_, fun t => ?_⟩
            · rw [pb_0] at t
              exact no (fun w => w z) (fun w => by rw [if_pos u] at w; exact t w.2.2)
            · rw [pb_1] at t
              exact yes ⟨x, by omega, by omega, v, by rw [if_pos u]; exact t⟩
      refine ⟨J, v_X8_takeBy_38 hg rule n ⟨fun z => absurd z (by omega), fun _ => ⟨by omega, fun _ => lp2 _ 0 0 (Nat.zero_add _) (pb_f (fun ⟨m', z1, _⟩ => by omega)).symm, fun z => absurd (by rw [Int.toNat_natCast, x146] at z; exact z) hz⟩⟩, fun a k z => (j2 a k z).trans (mset_a _ _ z), j3⟩
/-- the third rule -/
theorem m_take_175 (hg : GOk g) (hT : TOK 0 T) (hW : WitOk T M W 0) {f : Nat → Int} (h01 : ∀ n : Nat, f n = 0 ∨ f n = 1) (hf : ∀ n : Nat, (n : Int) < T 0 2 → (f n = 1 ↔ tkn T M W 1 n)) :
    ∀ (b : Nat) (X : IF), (b : Int) ≤ T 0 2 → TR T (tv 82 X) → (∀ q : Nat, (q : Int) < T 0 2 → X 146 q = M q) → (∀ q : Nat, b ≤ q → (q : Int) < T 0 2 → X 148 q = vM M W q) →
      (∀ q : Nat, b ≤ q → (q : Int) < T 0 2 → X 147 q = pb (cdt M W 1 q ∧ ∀ m : Nat, b ≤ m → (m : Int) < T 0 2 → m ≠ q → cdt M W 1 m → ¬ ((m : Int) ≤ q ∧ (q : Int) < m + T 8 m))) → (∀ q : Nat, q < b → X 147 q = 0) →
      ∃ J : IF, Ev Γ 903 mX8_takeBy 175 [some (.inr (some 80)), none, none, some (.inl ((b : Int) - 1)), none, none] [] (g, X) (some (.inl (ncI f 1 (T 0 2).toNat)), (g, J)) ∧ (∀ a k : Nat, a ≠ 147 → a ≠ 148 → J a k = X a k) ∧ ∀ q : Nat, (q : Int) < T 0 2 → J 147 q = f q := by
  have htc := hT.1.2.1
  have hk0 := hT.2.2.2.2.2.2.2.1 rfl
  intro b
  induction b with
  | zero =>
    intro X hb hr h146 h148 h147 h0
    have x82 : X 82 2 = T 0 2 := hr.2.1
    have e : ∀ q : Nat, (q : Int) < T 0 2 → X 147 q = f q := fun q hq => by
      rw [h147 q (by omega) hq]
      by_cases z : f q = 1
      · rw [z]
        have t := (hf q hq).mp z
        exact pb_t ⟨t.1, fun m _ => t.2 m⟩
      · rw [(h01 q).resolve_right z]
        exact pb_f (fun y => z ((hf q hq).mpr ⟨y.1, fun m => y.2 m (by omega)⟩))
    exact ⟨X, v_X8_takeBy_175 hg _ ⟨fun _ => v_X8_takeBy_313 hg (m_take_318 hg h01 (by omega) x82 e _ 0 (Nat.zero_add _)), fun z => absurd (show ((0 : Nat) : Int) - 1 < 0 by decide) z⟩, fun _ _ _ _ => rfl, e⟩
  | succ b ih =>
    intro X hb hr h146 h148 h147 h0
    have hbc : (b : Int) < T 0 2 := by omega
    have x146 := h146 b hbc
    have hWr := hW.rng hT (T 0 2).toNat b (by omega) (by omega) hbc
    have h8 := hT.2.1.2.2.1 b hbc
    have hvq : ∀ q : Nat, (q : Int) < T 0 2 → 0 ≤ vM M W q ∧ vM M W q ≤ 120 := fun q hq => by
      have r := hW.rng hT (T 0 2).toNat q (by omega) (by omega) hq
      have h8q := hT.2.1.2.2.1 q hq
      unfold vM
      split <;> omega
    obtain ⟨-, r0, r6, r6'⟩ := hr.2.2.2 b hbc
    have x88 : X 88 b = max 0 (T 7 b) := (r0 (hk0 b hbc)).2.1
    have t7 := hT.t7 hbc
    have t7n := hT.t7n hbc
    have nnc := ncI_nn (T 6) b (T 0 2).toNat
    have e88 : max 0 (T 7 b) = ncI (T 6) b (T 0 2).toNat := by rcases t7 with z | z <;> omega
    have eW : swI (T 6) (vM M W) b (tmI (T 8) b (ncI (T 6) b (T 0 2).toNat).toNat).toNat = W b := by
      rw [hT.2.1.tme hbc, ← swI_end hT hbc]
      exact (hW b (by omega) hbc).symm
    have vb : vM M W b = if M b ≠ 0 ∧ W b ≤ 1 then 1 else W b := by
      unfold vM
      by_cases z : M b ≠ 0
      · by_cases y : W b = 0
        · rw [if_pos ⟨z, y⟩, if_pos ⟨z, by omega⟩]
        · rw [if_neg (fun w => y w.2)]
          split
          · omega
          · rfl
      · rw [if_neg (fun w => z w.1), if_neg (fun w => z w.1)]
    -- the end of a node
    have fin : ∀ Y : IF, (∀ a k : Nat, a ≠ 147 → a ≠ 148 → Y a k = X a k) → (∀ q : Nat, q ≠ b → Y 148 q = X 148 q) → Y 148 b = vM M W b → (∀ q : Nat, b ≤ q → (q : Int) < T 0 2 → Y 147 q = pb (cdt M W 1 q ∧ ∀ m : Nat, b ≤ m → (m : Int) < T 0 2 → m ≠ q → cdt M W 1 m → ¬ ((m : Int) ≤ q ∧ (q : Int) < m + T 8 m))) → (∀ q : Nat, q < b → Y 147 q = 0) →
        ∃ J : IF, Ev Γ 903 mX8_takeBy 307 [some (.inr (some 80)), none, none, some (.inl (b : Int)), none, none] [] (g, Y) (some (.inl (ncI f 1 (T 0 2).toNat)), (g, J)) ∧ (∀ a k : Nat, a ≠ 147 → a ≠ 148 → J a k = X a k) ∧ ∀ q : Nat, (q : Int) < T 0 2 → J 147 q = f q := by
      intro Y hY y148 y148b y147 y0
      obtain ⟨J, j1, j2, j3⟩ := ih Y (by omega) (hr.cgU (fun i k hi => hY (82 + i) k (by omega) (by omega))) (fun q hq => by rw [hY 146 q (by decide) (by decide)]; exact h146 q hq) (fun q hq hqc => by
        by_cases e : q = b
        · rw [e]; exact y148b
        · rw [y148 q e]; exact h148 q (by omega) hqc) y147 y0
      refine ⟨J, v_X8_takeBy_307 hg b ⟨by unfold inR; omega, ?_⟩, fun a k z1 z2 => (j2 a k z1 z2).trans (hY a k z1 z2), j3⟩
      rw [show (b : Int) + -1 = (b : Int) - 1 by omega]
      exact j1
    -- the sum
    have lp : ∀ (m k : Nat) (Y : IF), k + m = (ncI (T 6) b (T 0 2).toNat).toNat → (∀ a x : Nat, (a ≠ 148 ∨ x ≠ b) → Y a x = X a x) → Y 148 b = swI (T 6) (vM M W) b (tmI (T 8) b k).toNat →
        ∃ J : IF, Ev Γ 903 mX8_takeBy 189 [some (.inr (some 80)), none, none, some (.inl b), some (.inl k), none] [] (g, Y) (some (.inl (ncI f 1 (T 0 2).toNat)), (g, J)) ∧ (∀ a k : Nat, a ≠ 147 → a ≠ 148 → J a k = X a k) ∧ ∀ q : Nat, (q : Int) < T 0 2 → J 147 q = f q := by
      intro m
      induction m with
      | zero =>
        intro k Y hk hY yb
        have yb' : Y 148 b = W b := by rw [yb, show k = (ncI (T 6) b (T 0 2).toNat).toNat by omega]; exact eW
        have y88 : Y 88 b = ncI (T 6) b (T 0 2).toNat := (hY 88 b (Or.inl (by decide))).trans (x88.trans e88)
        have y146 : Y 146 b = M b := (hY 146 b (Or.inl (by decide))).trans x146
        by_cases hcd : M b ≠ 0 ∧ W b ≤ 1
        · -- b may be taken
          rw [if_pos hcd] at vb
          have lp2 : ∀ (d x : Nat) (V : IF), (x : Int) + d = b + T 8 b → b < x → (∀ a y : Nat, a ≠ 147 → a ≠ 148 → V a y = X a y) → (∀ q : Nat, q ≠ b → V 148 q = X 148 q) → V 148 b = 1 → (∀ q : Nat, b < q → q < x → V 147 q = 0) → (∀ q : Nat, (q ≤ b ∨ x ≤ q) → V 147 q = X 147 q) →
              ∃ J : IF, Ev Γ 903 mX8_takeBy 264 [some (.inr (some 80)), none, none, some (.inl b), some (.inl x), none] [] (g, V) (some (.inl (ncI f 1 (T 0 2).toNat)), (g, J)) ∧ (∀ a k : Nat, a ≠ 147 → a ≠ 148 → J a k = X a k) ∧ ∀ q : Nat, (q : Int) < T 0 2 → J 147 q = f q := by
            intro d
            induction d with
            | zero =>
              intro x V hx hbx hV v148 v148b vz vo
              have v82 : V 82 2 = T 0 2 := (hV 82 2 (by decide) (by decide)).trans hr.2.1
              have hVr : TR T (tv 82 V) := hr.cgU (fun i k hi => hV (82 + i) k (by omega) (by omega))
              obtain ⟨J, j1, j2⟩ := fin (mset V 147 b 1) (fun a y z1 z2 => by rw [mset_a _ _ z1]; exact hV a y z1 z2) (fun q hq => by rw [mset_a _ _ (by decide)]; exact v148 q hq) (by rw [mset_a _ _ (by decide), vb]; exact v148b) (fun q hq hqc => by
                by_cases e : q = b
                · rw [e, mset_s]
                  exact (pb_t ⟨hcd, fun m m1 m2 m3 _ m5 => by omega⟩).symm
                · rw [mset_k _ _ e]
                  by_cases hin : (q : Int) < b + T 8 b
                  · rw [vz q (by omega) (by omega)]
                    exact (pb_f (fun z => z.2 b (Nat.le_refl _) hbc (by omega) hcd ⟨by omega, hin⟩)).symm
                  · rw [vo q (by omega), h147 q (by omega) hqc]
                    refine pb_c ⟨fun z => ⟨z.1, fun m m1 m2 m3 m4 m5 => ?_⟩, fun z => ⟨z.1, fun m m1 => z.2 m (by omega)⟩⟩
                    by_cases em : m = b
                    · rw [em] at m5; omega
                    · exact z.2 m (by omega) m2 m3 m4 m5) (fun q hq => by
                rw [mset_k _ _ (by omega), vo q (by omega)]
                exact h0 q (by omega))
              have e300 : Ev Γ 903 mX8_takeBy 300 [some (.inr (some 80)), none, none, some (.inl (b : Int)), none, none] [] (g, V) (some (.inl (ncI f 1 (T 0 2).toNat)), (g, J)) := v_X8_takeBy_300 hg b ⟨by omega, by
                rw [Int.toNat_natCast]
                rintro _ rfl
                exact j1⟩
              refine ⟨J, v_X8_takeBy_264 hg b x ⟨fun _ => e300, fun z => ?_⟩, j2⟩
              have hwi := m_isWithin (Γ := Γ) (n := x) (p := b) hg hT hVr (by omega) hbc
              rw [pb_f (fun y => by omega)] at hwi
              exact ⟨_, _, hwi, fun _ => e300, fun y => absurd rfl y⟩
            | succ d ihd =>
              intro x V hx hbx hV v148 v148b vz vo
              have v82 : V 82 2 = T 0 2 := (hV 82 2 (by decide) (by decide)).trans hr.2.1
              have hVr : TR T (tv 82 V) := hr.cgU (fun i k hi => hV (82 + i) k (by omega) (by omega))
              have hwi := m_isWithin (Γ := Γ) (n := x) (p := b) hg hT hVr (by omega) hbc
              rw [pb_t ⟨by omega, by omega⟩] at hwi
              obtain ⟨J, j1, j2⟩ := ihd (x + 1) (mset V 147 x 0) (by omega) (by omega) (fun a y z1 z2 => by rw [mset_a _ _ z1]; exact hV a y z1 z2) (fun q hq => by rw [mset_a _ _ (by decide)]; exact v148 q hq) (by rw [mset_a _ _ (by decide)]; exact v148b) (fun q q1 q2 => by
                by_cases e : q = x
                · rw [e, mset_s]
                · rw [mset_k _ _ e]; exact vz q q1 (by omega)) (fun q hq => by
                rw [mset_k _ _ (by omega)]
                exact vo q (by omega))
              refine ⟨J, v_X8_takeBy_264 hg b x ⟨fun z => absurd z (by omega), fun _ => ⟨_, _, hwi, fun y => absurd y (by decide), fun _ => ⟨by omega, ?_⟩⟩⟩, j2⟩
              rw [Int.toNat_natCast]
              rintro _ rfl
              exact ⟨by unfold inR; omega, j1⟩
          obtain ⟨J, j1, j2⟩ := lp2 (T 8 b - 1).toNat (b + 1) (mset Y 148 b 1) (by omega) (by omega) (fun a y z1 z2 => by rw [mset_a _ _ z2]; exact hY a y (Or.inl z2)) (fun q hq => by rw [mset_k _ _ hq]; exact hY 148 q (Or.inr hq)) (mset_s _ _ _ _) (fun q q1 q2 => by omega) (fun q _ => by rw [mset_a _ _ (by decide)]; exact hY 147 q (Or.inl (by decide)))
          refine ⟨J, v_X8_takeBy_189 hg b k ⟨by omega, fun _ => ⟨by omega, fun z => absurd (by rw [Int.toNat_natCast, y146] at z; exact z) hcd.1, fun _ => ⟨by omega, fun z => absurd z (by rw [Int.toNat_natCast, yb']; omega), fun _ => ⟨by omega, ?_⟩⟩⟩, fun z => absurd (by rw [Int.toNat_natCast, y88]; omega) z⟩, j2⟩
          rw [Int.toNat_natCast]
          rintro _ rfl
          refine ⟨by unfold inR; omega, ?_⟩
          rintro _ rfl
          exact j1
        · rw [if_neg hcd] at vb
          obtain ⟨J, j1, j2⟩ := fin Y (fun a y z1 z2 => hY a y (Or.inl z2)) (fun q hq => hY 148 q (Or.inr hq)) (by rw [yb', vb]) (fun q hq hqc => by
            rw [hY 147 q (Or.inl (by decide))]
            by_cases e : q = b
            · rw [e, h0 b (by omega)]
              exact (pb_f (fun z => hcd z.1)).symm
            · rw [h147 q (by omega) hqc]
              refine pb_c ⟨fun z => ⟨z.1, fun m m1 m2 m3 m4 m5 => ?_⟩, fun z => ⟨z.1, fun m m1 => z.2 m (by omega)⟩⟩
              by_cases em : m = b
              · rw [em] at m4; exact hcd m4
              · exact z.2 m (by omega) m2 m3 m4 m5) (fun q hq => by
            rw [hY 147 q (Or.inl (by decide))]
            exact h0 q (by omega))
          refine ⟨J, v_X8_takeBy_189 hg b k ⟨by omega, fun _ => ⟨by omega, fun _ => j1, fun z => ⟨by omega, fun _ => j1, fun y => ?_⟩⟩, fun z => absurd (by rw [Int.toNat_natCast, y88]; omega) z⟩, j2⟩
          rw [Int.toNat_natCast, y146] at z
          rw [Int.toNat_natCast, yb'] at y
          exact absurd ⟨z, by omega⟩ hcd
      | succ m ihm =>
        intro k Y hk hY yb
        have y88 : Y 88 b = ncI (T 6) b (T 0 2).toNat := (hY 88 b (Or.inl (by decide))).trans (x88.trans e88)
        have hkc : (k : Int) < ncI (T 6) b (T 0 2).toNat := by omega
        have t := hT.2.1.tml hbc hkc
        have hYr : TR T (tv 82 Y) := hr.cgU (fun i x hi => hY (82 + i) x (Or.inl (by omega)))
        have hte := m_term (Γ := Γ) (u := 82) (n := b) (k := k) hg (Or.inl rfl) hT hYr hbc hkc
        have ych : Y 148 (tmI (T 8) b k).toNat = vM M W (tmI (T 8) b k).toNat := (hY 148 _ (Or.inr (by omega))).trans (h148 _ (by omega) (by omega))
        have hv1 := hvq (tmI (T 8) b k).toNat (by omega)
        have hbd := swI_bd (f := T 6) (v := vM M W) (p := (b : Int)) (x := 0) (tmI (T 8) b k).toNat (by omega) (fun q _ hq => hvq q (by omega))
        rw [show swI (T 6) (vM M W) (b : Int) 0 = 0 from rfl, ← yb] at hbd
        obtain ⟨J, j1, j2⟩ := ihm (k + 1) (mset Y 148 b (Y 148 b + vM M W (tmI (T 8) b k).toNat)) (by omega) (fun a x z => by
          rcases z with z | z
          · rw [mset_a _ _ z]; exact hY a x (Or.inl z)
          · rw [mset_k _ _ z]; exact hY a x (Or.inr z)) (by rw [mset_s, yb]; exact (swI_tm hT hbc hkc).symm)
        refine ⟨J, v_X8_takeBy_189 hg b k ⟨by omega, fun z => absurd z (by rw [Int.toNat_natCast, y88]; omega), fun _ => ⟨by omega, _, _, hte, by omega, ?_⟩⟩, j2⟩
        rw [Int.toNat_natCast, ych]
        refine ⟨by unfold inR; omega, by omega, ?_⟩
        rintro _ rfl
        exact ⟨by unfold inR; omega, j1⟩
    obtain ⟨J, j1, j2⟩ := lp _ 0 (mset X 148 b 0) (Nat.zero_add _) (fun a x z => by
      rcases z with z | z
      · exact mset_a _ _ z
      · exact mset_k _ _ z) (by
      rw [mset_s]
      have e : (tmI (T 8) b 0).toNat = b + 1 := by show ((b : Int) + 1).toNat = b + 1; omega
      rw [e, swI_0 hT hbc])
    refine ⟨J, v_X8_takeBy_175 hg _ ⟨fun z => absurd z (by omega), fun _ => ⟨by omega, ?_⟩⟩, j2⟩
    rw [show ((b + 1 : Nat) : Int) - 1 = (b : Int) by omega, Int.toNat_natCast]
    rintro _ rfl
    exact j1
end MCH
