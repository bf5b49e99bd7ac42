/-! ===== trees loaded, copied, adopted ===== -/
/-- a tree copied as far as its row n -/
def cn (I : IF) (u i : Nat) : Nat := if i = 1 then (I u 1).toNat else if i ≤ 9 then (I u 2).toNat else 26
def cpN (I : IF) (t u n : Nat) : IF := fun a k => if a = t ∧ k = 1 then I u 1 else if a = t ∧ k = 2 then I u 2 else if t + 1 ≤ a ∧ a ≤ t + n ∧ k < cn I u (a - t) then I (u + (a - t)) k else I a k
section ADO
variable {Γ : GX} {g : AG} {I J X : IF} {t u n m c : Nat} {w : Int}
theorem cpN_1 : cpN I t u n t 1 = I u 1 := if_pos ⟨rfl, rfl⟩
theorem cpN_2 : cpN I t u n t 2 = I u 2 := by unfold cpN; rw [if_neg (by omega), if_pos ⟨rfl, rfl⟩]
theorem cpN_0 (h : u ≠ t) : mset (mset I t 1 (I u 1)) t 2 ((mset I t 1 (I u 1)) u 2) = cpN I t u 0 := by
  rw [mset_a _ _ h]
  funext a k
  unfold mset cpN
  by_cases h1 : a = t ∧ k = 2
  · rw [if_pos h1, if_neg (by omega), if_pos h1]
  · rw [if_neg h1]
    by_cases h2 : a = t ∧ k = 1
    · rw [if_pos h2, if_pos h2]
    · rw [if_neg h2, if_neg h2, if_neg h1, if_neg (by omega)]
theorem cpN_s (hm : m = n + 1) (hn : n ≤ 9) (hc : c = cn I u m) (hd : u + 12 ≤ t ∨ t + 12 ≤ u) : cpy (cpN I t u n) (u + m) 0 (t + m) 0 c = cpN I t u m := by
  funext a k
  unfold cpy
  by_cases h1 : a = t + m ∧ 0 ≤ k ∧ k < 0 + c
  · rw [if_pos h1]
    have e : a - t = m := by omega
    have r : cpN I t u m a k = I (u + m) k := by
      unfold cpN
      rw [if_neg (by omega), if_neg (by omega), e, if_pos (by omega)]
    rw [r]
    unfold cpN
    rw [if_neg (by omega), if_neg (by omega), if_neg (by omega)]
    congr 1
    omega
  · rw [if_neg h1]
    unfold cpN
    by_cases h2 : a = t ∧ k = 1
    · rw [if_pos h2, if_pos h2]
    · rw [if_neg h2, if_neg h2]
      by_cases h3 : a = t ∧ k = 2
      · rw [if_pos h3, if_pos h3]
      · rw [if_neg h3, if_neg h3]
        by_cases h4 : t + 1 ≤ a ∧ a ≤ t + n ∧ k < cn I u (a - t)
        · rw [if_pos h4, if_pos (by omega)]
        · rw [if_neg h4, if_neg]
          intro z
          by_cases e : a = t + m
          · have e' : a - t = m := by omega
            rw [e'] at z
            omega
          · omega
theorem cpN_tag (hl : 0 ≤ I u 1 ∧ 0 ≤ I u 2) : TAg (tv u I) (tv t (cpN I t u 10)) := by
  refine ⟨cpN_1, cpN_2, fun j hj => ?_, fun i p h1 h2 hp => ?_, fun l hl => ?_⟩
  · have hj' : (j : Int) < I u 1 := hj
    show cpN I t u 10 (t + 1) j = I (u + 1) j
    unfold cpN
    rw [if_neg (by omega), if_neg (by omega), show t + 1 - t = 1 by omega, if_pos ⟨by omega, by omega, by unfold cn; rw [if_pos rfl]; omega⟩]
  · have hp' : (p : Int) < I u 2 := hp
    show cpN I t u 10 (t + i) p = I (u + i) p
    unfold cpN
    rw [if_neg (by omega), if_neg (by omega), show t + i - t = i by omega, if_pos ⟨by omega, by omega, by unfold cn; rw [if_neg (by omega), if_pos h2]; omega⟩]
  · show cpN I t u 10 (t + 10) l = I (u + 10) l
    unfold cpN
    rw [if_neg (by omega), if_neg (by omega), show t + 10 - t = 10 by omega, if_pos ⟨by omega, by omega, by unfold cn; rw [if_neg (by omega), if_neg (by omega)]; exact hl⟩]
theorem cpN_f {a k : Nat} (h : a < t ∨ t + 10 < a) : cpN I t u 10 a k = I a k := by
  unfold cpN
  rw [if_neg (by omega), if_neg (by omega), if_neg (by omega)]
/-- COPYOF -/
theorem c_copyOf (hg : GOc g) (ht : Tr t) (hu : Tr u) (hd : u + 12 ≤ t ∨ t + 12 ≤ u) (hl : 0 ≤ I u 1 ∧ I u 1 ≤ 240) (hc : 0 ≤ I u 2 ∧ I u 2 ≤ 120) : CT Γ 1 mX5_copyOf [.inr (some t), .inr (some u)] (g, I) (none, (g, cpN I t u 10)) := by
  refine CT.of (R := (none, (g, cpN I t u 10))) oX5_copyOf (Nat.le_of_ble_eq_true rfl) (Nat.le_refl _) (Nat.le_refl _) (v_X5_copyOf_0 hg t ht u hu ?_)
  intro I1 e1 I2 e2
  have E2 : I2 = cpN I t u 0 := by rw [e2, e1]; exact cpN_0 (by omega)
  clear e2 e1
  subst E2
  rw [cpN_1]
  refine ⟨⟨by omega, by omega, by omega, by omega, by omega⟩, fun I3 e3 => ?_⟩
  rw [cpN_s (n := 0) (m := 1) rfl (by decide) (by unfold cn; rw [if_pos rfl]) hd] at e3
  subst e3
  have cc : ∀ i : Nat, 2 ≤ i → i ≤ 9 → (I u 2).toNat = cn I u i := fun i h1 h2 => by unfold cn; rw [if_neg (by omega), if_pos h2]
  rw [cpN_2]
  refine ⟨⟨by omega, by omega, by omega, by omega, by omega⟩, fun I5 e5 => ?_⟩
  rw [cpN_s (n := 1) (m := 2) rfl (by decide) (cc 2 (by decide) (by decide)) hd] at e5
  subst e5
  rw [cpN_2]
  refine ⟨⟨by omega, by omega, by omega, by omega, by omega⟩, fun I5 e5 => ?_⟩
  rw [cpN_s (n := 2) (m := 3) rfl (by decide) (cc 3 (by decide) (by decide)) hd] at e5
  subst e5
  rw [cpN_2]
  refine ⟨⟨by omega, by omega, by omega, by omega, by omega⟩, fun I5 e5 => ?_⟩
  rw [cpN_s (n := 3) (m := 4) rfl (by decide) (cc 4 (by decide) (by decide)) hd] at e5
  subst e5
  rw [cpN_2]
  refine ⟨⟨by omega, by omega, by omega, by omega, by omega⟩, fun I5 e5 => ?_⟩
  rw [cpN_s (n := 4) (m := 5) rfl (by decide) (cc 5 (by decide) (by decide)) hd] at e5
  subst e5
  rw [cpN_2]
  refine ⟨⟨by omega, by omega, by omega, by omega, by omega⟩, fun I5 e5 => ?_⟩
  rw [cpN_s (n := 5) (m := 6) rfl (by decide) (cc 6 (by decide) (by decide)) hd] at e5
  subst e5
  rw [cpN_2]
  refine ⟨⟨by omega, by omega, by omega, by omega, by omega⟩, fun I5 e5 => ?_⟩
  rw [cpN_s (n := 6) (m := 7) rfl (by decide) (cc 7 (by decide) (by decide)) hd] at e5
  subst e5
  rw [cpN_2]
  refine ⟨⟨by omega, by omega, by omega, by omega, by omega⟩, fun I5 e5 => ?_⟩
  rw [cpN_s (n := 7) (m := 8) rfl (by decide) (cc 8 (by decide) (by decide)) hd] at e5
  subst e5
  rw [cpN_2]
  refine ⟨⟨by omega, by omega, by omega, by omega, by omega⟩, fun I5 e5 => ?_⟩
  rw [cpN_s (n := 8) (m := 9) rfl (by decide) (cc 9 (by decide) (by decide)) hd] at e5
  subst e5
  refine ⟨⟨by decide, by decide, by decide, by decide, by decide⟩, fun I5 e5 => ?_⟩
  rw [cpN_s (n := 9) (m := 10) rfl (by decide) (by unfold cn; rw [if_neg (by decide), if_neg (by decide)]) hd] at e5
  subst e5
  exact ⟨rfl, rfl⟩
/-- bytes put behind those of a tree -/
def apN (I : IF) (t b f n : Nat) : IF := mset (cpy I b f (t + 1) (I t 1).toNat n) t 1 (I t 1 + n)
theorem apN_1 {b f : Nat} : apN I t b f n t 1 = I t 1 + n := mset_s _ _ _ _
theorem apN_f {b f a k : Nat} (h : a ≠ t + 1) (h2 : a ≠ t ∨ k ≠ 1) : apN I t b f n a k = I a k := by
  unfold apN mset cpy
  rw [if_neg (by omega), if_neg (by omega)]
theorem apN_o {b f j : Nat} (h : j < (I t 1).toNat) : apN I t b f n (t + 1) j = I (t + 1) j := by
  unfold apN mset cpy
  rw [if_neg (by omega), if_neg (by omega)]
theorem apN_n {b f j : Nat} (h : j < n) : apN I t b f n (t + 1) ((I t 1).toNat + j) = I b (f + j) := by
  unfold apN mset cpy
  rw [if_neg (by omega), if_pos (by omega)]
  congr 1
  omega
theorem c_append (hg : GOc g) (ht : Tr t) {b nb : Nat} (pb : 0 < b) (sb : g.1[b]? = some (.inr (.int, nb))) (lb : (nb : Int) < 100000) {x y : Int} (hx : 0 ≤ x ∧ x ≤ y ∧ y ≤ nb) (hl : 0 ≤ I t 1 ∧ I t 1 + (y - x) ≤ 240) :
    CT Γ 1 mX5_append [.inr (some t), .inr (some b), .inl x, .inl y] (g, I) (some (.inl 1), (g, apN I t b x.toNat (y - x).toNat)) := by
  refine CT.of (R := (some (.inl 1), (g, apN I t b x.toNat (y - x).toNat))) oX5_append (Nat.le_of_ble_eq_true rfl) (Nat.le_refl _) (Nat.le_refl _) (v_X5_append_0 hg t ht b nb pb sb (by omega) x y ⟨by unfold inR; omega, fun d ed => ?_⟩)
  refine ⟨fun z => absurd z (by omega), fun _ => ⟨fun z => absurd z (by omega), fun _ => ⟨fun z => absurd z (by omega), fun _ => ⟨by unfold inR; omega, fun _ => ⟨⟨by omega, by omega, by omega, by omega, by omega⟩, fun I8 e8 => ?_⟩, fun z => absurd (show d ≤ 240 - I t 1 by omega) z⟩⟩⟩⟩
  have e1 : I8 t 1 = I t 1 := by
    rw [e8]
    unfold cpy
    rw [if_neg (by omega)]
  rw [e1]
  refine ⟨by unfold inR; omega, fun I11 e11 => ⟨rfl, ?_⟩⟩
  rw [e11, e8, ed]
  unfold apN
  rw [show (((y - x).toNat : Nat) : Int) = y - x by omega]
theorem c_append_n (hg : GOc g) (ht : Tr t) {b nb : Nat} (pb : 0 < b) (sb : g.1[b]? = some (.inr (.int, nb))) (lb : (nb : Int) < 100000) {x y : Int} (hx : 0 ≤ x ∧ x ≤ y ∧ y ≤ nb) (hl : 0 ≤ I t 1 ∧ I t 1 ≤ 240 ∧ 240 < I t 1 + (y - x)) :
    CT Γ 1 mX5_append [.inr (some t), .inr (some b), .inl x, .inl y] (g, I) (some (.inl 0), (g, I)) := by
  refine CT.of (R := (some (.inl 0), (g, I))) oX5_append (Nat.le_of_ble_eq_true rfl) (Nat.le_refl _) (Nat.le_refl _) (v_X5_append_0 hg t ht b nb pb sb (by omega) x y ⟨by unfold inR; omega, fun d ed => ?_⟩)
  exact ⟨fun z => absurd z (by omega), fun _ => ⟨fun z => absurd z (by omega), fun _ => ⟨fun z => absurd z (by omega), fun _ => ⟨by unfold inR; omega, fun z => absurd z (by omega), fun _ => ⟨rfl, rfl⟩⟩⟩⟩⟩
/-- LOAD -/
def ldN (I : IF) (t b n : Nat) : IF := apN (mset I t 1 0) t b 0 n
theorem ldN_1 {b : Nat} : ldN I t b n t 1 = n := by
  unfold ldN
  rw [apN_1, mset_s, Int.zero_add]
theorem ldN_f {b a k : Nat} (h : a ≠ t + 1) (h2 : a ≠ t ∨ k ≠ 1) : ldN I t b n a k = I a k := by
  unfold ldN
  rw [apN_f h h2]
  unfold mset
  rw [if_neg (by omega)]
theorem ldN_n {b j : Nat} (hb : b ≠ t) (h : j < n) : ldN I t b n (t + 1) j = I b j := by
  unfold ldN
  have e := apN_n (I := mset I t 1 0) (t := t) (b := b) (f := 0) h
  rw [mset_s, mset_a _ _ hb, Nat.zero_add, show ((0 : Int).toNat + j) = j from Nat.zero_add j] at e
  exact e
theorem c_load (hg : GOc g) (ht : Tr t) {b nb : Nat} (pb : 0 < b) (sb : g.1[b]? = some (.inr (.int, nb))) (lb : (nb : Int) < 100000) {x : Int} (hx : 0 ≤ x ∧ x ≤ nb ∧ x ≤ 240) : CT Γ 2 mX5_load [.inr (some t), .inr (some b), .inl x] (g, I) (none, (g, ldN I t b x.toNat)) := by
  refine CT.of (R := (none, (g, ldN I t b x.toNat))) oX5_load (Nat.le_of_ble_eq_true rfl) (Nat.le_refl _) (Nat.le_refl _) (v_X5_load_0 hg t ht b nb pb sb (by omega) x ?_)
  intro I1 e1
  have k := c_append (Γ := Γ) (I := I1) hg ht pb sb lb (x := 0) (y := x) ⟨by omega, hx.1, hx.2.1⟩ (by rw [e1, mset_s]; omega)
  refine ⟨1, _, k, rfl, ?_⟩
  rw [e1, Int.sub_zero]
  rfl
/-- what reading leaves -/
theorem RR_f {a k : Nat} {K : IF} (h : a < 39 ∨ 51 < a) : (RR (kStart w K)).2 a k = K a k := by
  have e : (RR (kStart w K)).2 a k = kStart w K a k := frR_run (Or.inl ⟨by omega, Or.inl (by omega), by omega⟩) (Or.inl (by omega)) 300 (kStart w K)
  rw [e]
  unfold kStart
  rw [if_neg (by omega), if_neg (by omega), if_neg (by omega), if_neg (by omega), if_neg (by omega), if_neg (by omega), if_neg (by omega), if_neg (by omega), if_neg (by omega), if_neg (by omega)]
theorem c_readTree' (hg : GOc g) (hl : 0 ≤ I 39 1 ∧ I 39 1 ≤ 240) (hb : ∀ j : Nat, (j : Int) < I 39 1 → 0 ≤ I 40 j ∧ I 40 j ≤ 255) : CT Γ 4 mX4_readTree [.inr (some 51), .inr (some 39), .inl w] (g, I) (some (.inl (RR (kStart w I)).1), (g, (RR (kStart w I)).2)) := by
  have h := c_readTree (Γ := Γ) hg w hl hb
  rw [RR_run (RI_start hl hb) (by show (I 39 1 - 0).toNat + 1 ≤ (I 39 1 + 1).toNat; omega)] at h
  exact h
/-- READTAPE -/
theorem c_readTape (hg : GOc g) (h : TapeR I) {w : Int} (hw : w = 0 ∨ ((w = 1 ∨ w = 2) ∧ I 1 1 ≤ 80)) : CT Γ 5 mX6_readTape [.inr (some 1), .inl w] (g, I) (some (.inl (RR (kStart w (ldN I 39 2 (I 1 1).toNat))).1), (g, (RR (kStart w (ldN I 39 2 (I 1 1).toNat))).2)) := by
  obtain ⟨h1, h2, h3⟩ := h
  have k1 := c_load (Γ := Γ) (I := I) hg tr39 (b := 2) (nb := 260) (by decide) (gs_2 hg) (by decide) (x := I 1 1) (by omega)
  have l1 : ldN I 39 2 (I 1 1).toNat 39 1 = I 1 1 := by rw [ldN_1]; omega
  have k2 := c_readTree' (Γ := Γ) (I := ldN I 39 2 (I 1 1).toNat) (w := w) hg (by rw [l1]; exact h2) (fun j hj => by
    rw [l1] at hj
    rw [ldN_n (t := 39) (by decide) (by omega)]
    exact (h3 j hj).2)
  refine CT.of (R := (some (.inl (RR (kStart w (ldN I 39 2 (I 1 1).toNat))).1), (g, (RR (kStart w (ldN I 39 2 (I 1 1).toNat))).2))) oX6_readTape (Nat.le_of_ble_eq_true rfl) (Nat.le_refl _) (Nat.le_refl _) (v_X6_readTape_0 hg w ?_)
  exact ⟨fun z => absurd z (by omega), fun _ => ⟨fun z => absurd z (by omega), fun _ => ⟨fun _ => ⟨_, k1, _, _, k2, rfl, rfl⟩, fun z => ⟨fun _ => ⟨_, k1, _, _, k2, rfl, rfl⟩, fun y => absurd (show I 1 1 ≤ 80 by omega) y⟩⟩⟩⟩
theorem c_readTape_n (hg : GOc g) {w : Int} (hw : ¬ (w = 0 ∨ ((w = 1 ∨ w = 2) ∧ I 1 1 ≤ 80))) : CT Γ 5 mX6_readTape [.inr (some 1), .inl w] (g, I) (some (.inl (-2)), (g, I)) := by
  refine CT.of (R := (some (.inl (-2)), (g, I))) oX6_readTape (Nat.le_of_ble_eq_true rfl) (Nat.le_refl _) (Nat.le_refl _) (v_X6_readTape_0 hg w ?_)
  exact ⟨fun _ => ⟨rfl, rfl⟩, fun _ => ⟨fun _ => ⟨rfl, rfl⟩, fun _ => ⟨fun z => absurd z (by omega), fun z => ⟨fun y => absurd y (by omega), fun _ => ⟨rfl, rfl⟩⟩⟩⟩⟩
theorem c_forgetMatched (hg : GOc g) : CT Γ 0 mX1_forgetMatched [.inr (some 52)] (g, I) (none, (g, mset I 52 15 0)) := by
  refine CT.of (R := (none, (g, mset I 52 15 0))) oX1_forgetMatched (Nat.le_of_ble_eq_true rfl) (Nat.le_refl _) (Nat.le_refl _) (v_X1_forgetMatched_0 hg ?_)
  intro I1 e1
  exact ⟨rfl, e1.symm⟩
theorem c_forget (hg : GOc g) : CT Γ 0 mX2_forget [.inr (some 66)] (g, I) (none, (g, mset I 66 3 0)) := by
  refine CT.of (R := (none, (g, mset I 66 3 0))) oX2_forget (Nat.le_of_ble_eq_true rfl) (Nat.le_refl _) (Nat.le_refl _) (v_X2_forget_0 hg ?_)
  intro I1 e1
  exact ⟨rfl, e1.symm⟩
theorem c_forgetDifferences (hg : GOc g) : ∃ J : IF, CT Γ 0 mX1_forgetDifferences [.inr (some 52)] (g, I) (none, (g, J)) ∧ (∀ a k : Nat, a ≠ 58 → (a ≠ 52 ∨ k ≠ 15) → J a k = I a k) ∧ (∀ k : Nat, k < 26 → J 58 k = 0) ∧ J 52 15 = 0 := by
  have lp : ∀ (m n : Nat) (X : IF), m + n = 26 → (∀ k : Nat, k < n → X 58 k = 0) → ∃ J : IF, Ev Γ 0 mX1_forgetDifferences 2 [some (.inr (some 52)), some (.inl n)] [] (g, X) (none, (g, J)) ∧ (∀ a k : Nat, a ≠ 58 → (a ≠ 52 ∨ k ≠ 15) → J a k = X a k) ∧ (∀ k : Nat, k < 26 → J 58 k = 0) ∧ J 52 15 = 0 := by
    intro m
    induction m with
    | zero =>
      intro n X hn h0
      refine ⟨mset X 52 15 0, v_X1_forgetDifferences_2 hg n ⟨fun _ I2 e2 => ⟨rfl, e2.symm⟩, fun z => absurd (show (26 : Int) ≤ n by omega) z⟩, fun a k z y => ?_, fun k hk => ?_, mset_s _ _ _ _⟩
      · unfold mset
        rw [if_neg (by omega)]
      · rw [mset_a _ _ (by decide)]; exact h0 k (by omega)
    | succ m ih =>
      intro n X hn h0
      obtain ⟨J, j1, j2, j3⟩ := ih (n + 1) (mset X 58 n 0) (by omega) (fun k hk => by
        by_cases e : k = n
        · rw [e, mset_s]
        · rw [mset_k _ _ e]; exact h0 k (by omega))
      refine ⟨J, v_X1_forgetDifferences_2 hg n ⟨fun z => absurd z (by omega), fun _ => ⟨by omega, ?_⟩⟩, fun a k z y => (j2 a k z y).trans (mset_a _ _ z), j3⟩
      rw [Int.toNat_natCast]
      intro I3 e3
      rw [e3]
      exact ⟨by unfold inR; omega, j1⟩
  obtain ⟨J, j1, j2⟩ := lp 26 0 I rfl (fun k hk => by omega)
  exact ⟨J, CT.of (R := (none, (g, J))) oX1_forgetDifferences (Nat.le_of_ble_eq_true rfl) (Nat.le_refl _) (Nat.le_refl _) (v_X1_forgetDifferences_0 hg j1), j2⟩
/-- ADOPTSPARE, the text -/
theorem c_adopt0 (hg : GOc g) (h : TOK 0 (tv 39 I)) : ∃ J : IF, CT Γ 3 mX6_adoptSpare [.inr (some 1), .inl 0] (g, I) (none, (g, J)) ∧ (∀ a k : Nat, (a < 3 ∨ 14 < a) → (a ≠ 52 ∨ k ≠ 15) → J a k = I a k) ∧ TAg (tv 39 I) (ct 3 J) ∧ SmO (ct 3 J) 0 ∧ J 52 15 = 0 := by
  have hl : 0 ≤ I 39 1 ∧ I 39 1 ≤ 240 := h.1.1
  have hc : 1 ≤ I 39 2 ∧ I 39 2 ≤ 120 := h.1.2.1
  have k1 := c_copyOf (Γ := Γ) (I := I) (t := 3) (u := 39) hg (Or.inl rfl) tr39 (by decide) hl (by omega)
  have tg := cpN_tag (I := I) (t := 3) (u := 39) (by omega)
  obtain ⟨X, x1, x2, x3⟩ := c_markAlike (Γ := Γ) (I := cpN I 3 39 10) (t := 3) hg (Or.inl rfl) (h.cg tg)
  have k2 := c_forgetMatched (Γ := Γ) (I := X) hg
  refine ⟨mset X 52 15 0, CT.of (R := (none, (g, mset X 52 15 0))) oX6_adoptSpare (Nat.le_of_ble_eq_true rfl) (Nat.le_refl _) (Nat.le_refl _) (v_X6_adoptSpare_0 hg 0 ⟨fun z => absurd rfl z, fun _ => ⟨_, k1, fun z => absurd rfl z, fun _ => ⟨_, x1, v_X6_adoptSpare_62 hg 0 ⟨fun z => absurd z (by decide), fun _ => ⟨_, k2, v_X6_adoptSpare_74 hg ⟨rfl, rfl⟩⟩⟩⟩⟩⟩), fun a k z y => ?_, ?_, ?_, mset_s _ _ _ _⟩
  · unfold mset
    rw [if_neg (by omega), x2 a k (by omega), cpN_f (by omega)]
  · have e : TAg (tv 3 (cpN I 3 39 10)) (tv 3 X) := ⟨x2 3 1 (by decide), x2 3 2 (by decide), fun j _ => x2 4 j (by decide), fun i p _ _ _ => x2 (3 + i) p (by omega), fun l _ => x2 13 l (by decide)⟩
    have e2 : ct 3 (mset X 52 15 0) = ct 3 X := ct_eq (t := 3) (fun i k hi => mset_a _ _ (by omega))
    rw [e2]
    exact (tg.tr e).tr ct_tag
  · have e2 : ct 3 (mset X 52 15 0) = ct 3 X := ct_eq (t := 3) (fun i k hi => mset_a _ _ (by omega))
    rw [e2]
    exact x3
end ADO
