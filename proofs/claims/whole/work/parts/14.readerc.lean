/-! ===== contracts of the class's reader ===== -/
theorem tr39 : Tr 39 := Or.inr (Or.inr (Or.inr rfl))
section RC
variable {Γ : GX} {g : AG} {I : IF}
theorem c_kindOf (hg : GOc g) {t : Nat} (ht : Tr t) {l : Int} (h0 : 0 ≤ l ∧ l < 26) (hb : -1 ≤ I (t + 10) l.toNat ∧ I (t + 10) l.toNat < 120) :
    CT Γ 0 mX5_kindOf [.inr (some t), .inl l] (g, I) (some (.inl (if I (t + 10) l.toNat = -1 then -1 else I (t + 2) (I (t + 10) l.toNat).toNat)), (g, I)) := by
  refine CT.of oX5_kindOf (Nat.le_of_ble_eq_true rfl) (Nat.le_refl _) (Nat.le_refl _) (v_X5_kindOf_0 hg t ht l ⟨h0, ?_⟩)
  rintro _ rfl
  refine ⟨fun c => ⟨by omega, ?_, rfl⟩, fun c => ⟨?_, rfl⟩⟩
  · rw [if_neg c]
  · rw [if_pos c]
theorem c_isWithinTerm (hg : GOc g) (ho : -1 ≤ I 51 3 ∧ I 51 3 < 120) : CT Γ 0 mX4_isWithinTerm [.inr (some 51), .inr (some 39)] (g, I) (some (.inl (bI (kWt I))), (g, I)) := by
  refine CT.of oX4_isWithinTerm (Nat.le_of_ble_eq_true rfl) (Nat.le_refl _) (Nat.le_refl _) (v_X4_isWithinTerm_0 hg 39 tr39 ⟨fun c => ⟨?_, rfl⟩, fun c => ⟨by omega, fun c2 => ⟨?_, rfl⟩, fun c2 => ⟨?_, rfl⟩⟩⟩)
  · exact some_f (by simp only [kWt, decide_eq_false_iff_not]; exact fun z => z.1 c)
  · exact some_f (by simp only [kWt, decide_eq_false_iff_not]; exact fun z => c2 z.2)
  · exact some_t (by simp only [kWt, decide_eq_true_eq]; exact ⟨c, c2⟩)
theorem c_addPiece (hg : GOc g) (kd e : Int) (hc : 0 ≤ I 39 2 ∧ I 39 2 < 120) (ho : -1 ≤ I 51 3 ∧ I 51 3 < I 39 2) (ht : I 51 3 ≠ -1 → -1 ≤ I 46 (I 51 3).toNat ∧ I 46 (I 51 3).toNat ≤ 120) :
    CT Γ 0 mX4_addPiece [.inr (some 51), .inr (some 39), .inl kd, .inl e] (g, I) (some (.inl 1), (g, kAdd kd e I)) := by
  refine CT.of oX4_addPiece (Nat.le_of_ble_eq_true rfl) (Nat.le_refl _) (Nat.le_refl _) (v_X4_addPiece_0 hg 39 tr39 kd e ?_)
  rintro _ rfl
  refine ⟨fun c => ?_, fun c => absurd hc.2 c⟩
  refine ⟨hc, ?_⟩
  rintro _ rfl
  refine ⟨hc, ?_⟩
  rintro _ rfl
  refine ⟨hc, ?_⟩
  rintro _ rfl
  refine ⟨hc, ?_⟩
  rintro _ rfl
  refine ⟨hc, ?_⟩
  rintro _ rfl
  refine ⟨hc, ?_⟩
  rintro _ rfl
  refine ⟨hc, ?_⟩
  rintro _ rfl
  refine ⟨hc, ?_⟩
  rintro _ rfl
  have hne : I 51 3 ≠ -1 → (I 51 3).toNat ≠ (I 39 2).toNat := fun z => by omega
  refine ⟨fun c2 => ⟨by unfold inR; omega, ?_⟩, fun c2 => ⟨?_, fun c3 => ⟨by unfold inR; omega, ?_⟩, fun c3 => ⟨?_, ?_, ?_, ?_⟩⟩⟩
  · rintro _ rfl _ rfl
    refine ⟨rfl, ?_⟩
    unfold kAdd
    dsimp only
    rw [if_neg (fun z => z.1 c2)]
    rfl
  · have h1 : I 51 3 ≠ -1 := c2
    show 0 ≤ I 51 3 ∧ I 51 3 < 120
    omega
  · rintro _ rfl _ rfl
    refine ⟨rfl, ?_⟩
    unfold kAdd
    dsimp only
    rw [if_neg (fun z => c3 z.2)]
    rfl
  · have h1 : I 51 3 ≠ -1 := c2
    show 0 ≤ I 51 3 ∧ I 51 3 < 120
    omega
  · have h1 : I 51 3 ≠ -1 := c2
    have h2 := ht h1
    have h3 := hne h1
    simp [mset, h3, inR]
    omega
  · have h1 : I 51 3 ≠ -1 := c2
    show 0 ≤ I 51 3 ∧ I 51 3 < 120
    omega
  · rintro _ rfl
    refine ⟨by unfold inR; omega, ?_⟩
    rintro _ rfl _ rfl
    refine ⟨rfl, ?_⟩
    unfold kAdd
    dsimp only
    rw [if_pos ⟨c2, c3⟩]
    rfl
theorem c_readOpening (hg : GOc g) (hd : -240 ≤ I 51 4 ∧ I 51 4 ≤ 12) (hc : 0 < I 39 2 ∧ I 39 2 ≤ 120) (hp : 0 ≤ I 51 1 ∧ I 51 1 ≤ 240) :
    CT Γ 0 mX4_readOpening [.inr (some 51), .inr (some 39)] (g, I) (some (.inl (kOpen I).1), (g, (kOpen I).2)) := by
  refine CT.of oX4_readOpening (Nat.le_of_ble_eq_true rfl) (Nat.le_refl _) (Nat.le_refl _) (v_X4_readOpening_0 hg 39 tr39 ⟨fun c => ?_, fun c => ⟨fun c2 => ?_, fun c2 => absurd c2 (by omega)⟩⟩)
  · unfold kOpen
    rw [if_pos c]
    exact ⟨rfl, rfl⟩
  · unfold kOpen
    rw [if_neg c]
    refine ⟨by unfold inR; omega, ?_⟩
    rintro _ rfl
    refine ⟨by show inR (I 51 4 + 1); unfold inR; omega, ?_⟩
    rintro _ rfl
    refine ⟨by show inR (I 51 1 + 1); unfold inR; omega, ?_⟩
    rintro _ rfl
    refine ⟨by show 0 ≤ I 39 2 - 1 ∧ I 39 2 - 1 < 120; omega, fun c3 => ?_, fun c3 => ⟨by show 0 ≤ I 39 2 - 1 ∧ I 39 2 - 1 < 120; omega, ?_⟩⟩
    · rintro _ rfl
      refine ⟨rfl, ?_⟩
      dsimp only
      rw [if_neg (by exact c3)]
      rfl
    · rintro _ rfl _ rfl
      refine ⟨rfl, ?_⟩
      dsimp only
      rw [if_pos (by exact c3)]
      rfl
theorem c_readClosing (hg : GOc g) (hd : -240 ≤ I 51 4 ∧ I 51 4 ≤ 12) (hc : 0 ≤ I 39 2 ∧ I 39 2 ≤ 120) (ho : -1 ≤ I 51 3 ∧ I 51 3 < I 39 2) (hp : 0 ≤ I 51 1 ∧ I 51 1 ≤ 240) :
    CT Γ 0 mX4_readClosing [.inr (some 51), .inr (some 39)] (g, I) (some (.inl (kClose I).1), (g, (kClose I).2)) := by
  refine CT.of oX4_readClosing (Nat.le_of_ble_eq_true rfl) (Nat.le_refl _) (Nat.le_refl _) (v_X4_readClosing_0 hg 39 tr39 ⟨fun c => ?_, fun c => ?_⟩)
  · unfold kClose
    rw [if_neg c]
    refine ⟨by unfold inR; omega, ?_⟩
    rintro _ rfl
    refine ⟨by show inR (I 51 4 - 1); unfold inR; omega, ?_⟩
    rintro _ rfl
    have hb : 0 ≤ I 51 3 ∧ I 51 3 < 120 := by omega
    refine ⟨hb, ?_⟩
    rintro _ rfl
    refine ⟨by show inR (I 39 2 - I 51 3); unfold inR; omega, hb, ?_⟩
    rintro _ rfl
    refine ⟨fun c2 => ⟨hb, ?_⟩, fun c2 => ?_⟩
    · rintro _ rfl _ rfl
      refine ⟨rfl, ?_⟩
      dsimp only
      rw [if_neg (by exact c2)]
      rfl
    · rintro _ rfl
      refine ⟨hb, ?_⟩
      rintro _ rfl _ rfl
      refine ⟨rfl, ?_⟩
      dsimp only
      rw [if_pos (by exact c2)]
      rfl
  · unfold kClose
    rw [if_pos c]
    exact ⟨rfl, rfl⟩
theorem kClose_01 : (kClose I).1 = 0 ∨ (kClose I).1 = 1 := by
  unfold kClose
  split
  · exact Or.inl rfl
  · exact Or.inr rfl
theorem kOpen_01 : (kOpen I).1 = 0 ∨ (kOpen I).1 = 1 := by
  unfold kOpen
  split
  · exact Or.inl rfl
  · exact Or.inr rfl
theorem c_readBehindPiece (hg : GOc g) (x : Int) (hd : -240 ≤ I 51 4 ∧ I 51 4 ≤ 12) (hc : 0 ≤ I 39 2 ∧ I 39 2 ≤ 120) (ho : -1 ≤ I 51 3 ∧ I 51 3 < I 39 2) (hp : 0 ≤ I 51 1 ∧ I 51 1 ≤ 240) :
    CT Γ 1 mX4_readBehindPiece [.inr (some 51), .inr (some 39), .inl x] (g, I) (some (.inl (kBehind x I).1), (g, (kBehind x I).2)) := by
  refine CT.of oX4_readBehindPiece (Nat.le_of_ble_eq_true rfl) (Nat.le_refl _) (Nat.le_refl _) (v_X4_readBehindPiece_0 hg 39 tr39 x ⟨fun c => ⟨fun c2 => ?_, fun c2 => ?_⟩, fun c => ?_⟩)
  · unfold kBehind
    rw [if_neg c, if_neg (fun z => c2 z.1)]
    exact ⟨rfl, rfl⟩
  · refine ⟨_, _, c_isWithinTerm hg (by omega), fun c3 => ?_, fun c3 => ?_⟩
    · rw [bI_n0] at c3
      refine ⟨by unfold inR; omega, ?_⟩
      rintro _ rfl _ rfl
      unfold kBehind
      rw [if_neg c, if_pos ⟨c2, c3⟩]
      exact ⟨rfl, rfl⟩
    · rw [bI_0] at c3
      unfold kBehind
      rw [if_neg c, if_neg (fun z => by rw [c3] at z; exact absurd z.2 (by decide))]
      exact ⟨rfl, rfl⟩
  · refine ⟨_, _, c_readClosing hg hd hc ho hp, kClose_01, ?_⟩
    unfold kBehind
    rw [if_pos c]
    exact ⟨rfl, rfl⟩
theorem c_rowMayStand (hg : GOc g) (ho : -1 ≤ I 51 3 ∧ I 51 3 < 120) : CT Γ 1 mX4_rowMayStand [.inr (some 51), .inr (some 39)] (g, I) (some (.inl (bI (kRow I))), (g, I)) := by
  refine CT.of oX4_rowMayStand (Nat.le_of_ble_eq_true rfl) (Nat.le_refl _) (Nat.le_refl _) (v_X4_rowMayStand_0 hg 39 tr39 ⟨fun c => ⟨?_, rfl⟩, fun c => ⟨_, _, c_isWithinTerm hg ho, fun c2 => ?_, fun c2 => ⟨?_, rfl⟩⟩⟩)
  · exact some_f (by simp [kRow, c])
  · rw [bI_n0] at c2
    refine ⟨fun c3 => ⟨?_, rfl⟩, fun c3 => ⟨fun c4 => ⟨?_, rfl⟩, fun c4 => ⟨fun c5 => ⟨?_, rfl⟩, fun c5 => ⟨?_, rfl⟩⟩⟩⟩
    · exact some_t (by simp [kRow, c2, c3])
    · exact some_f (by simp [kRow, c2, c3]; omega)
    · exact some_f (by simp [kRow, c2, c3, c5])
    · exact some_t (by simp [kRow, c, c2, c5]; omega)
  · rw [bI_0] at c2
    exact some_f (by simp [kRow, c2])
theorem skp_mono {K : IF} : ∀ (n : Nat) (e : Int), e ≤ skp K n e
  | 0, e => Int.le_refl _
  | n + 1, e => by
    unfold skp
    split
    · have := skp_mono (K := K) n (e + 1)
      omega
    · omega
theorem skp_le {K : IF} : ∀ (n : Nat) (e : Int), e ≤ K 39 1 → skp K n e ≤ K 39 1
  | 0, e => fun h => h
  | n + 1, e => fun h => by
    unfold skp
    split
    · exact skp_le n (e + 1) (by omega)
    · exact h
theorem scn_mono {K : IF} : ∀ (n : Nat) (e : Int), e ≤ scn K n e
  | 0, e => Int.le_refl _
  | n + 1, e => by
    unfold scn
    split
    · have := scn_mono (K := K) n (e + 1)
      omega
    · omega
theorem scn_le {K : IF} : ∀ (n : Nat) (e : Int), e ≤ K 39 1 → scn K n e ≤ K 39 1
  | 0, e => fun h => h
  | n + 1, e => fun h => by
    unfold scn
    split
    · exact scn_le n (e + 1) (by omega)
    · exact h
theorem skp_pos {K : IF} {x : Int} : ∀ (n : Nat) (e : Int), skp (mset K 51 1 x) n e = skp K n e
  | 0, e => rfl
  | n + 1, e => by
    unfold skp
    rw [skp_pos n (e + 1)]
    rfl
theorem scn_st {K : IF} {j : Nat} {x : Int} : ∀ (n : Nat) (e : Int), scn (mset K 51 j x) n e = scn K n e
  | 0, e => rfl
  | n + 1, e => by
    unfold scn
    rw [scn_st n (e + 1)]
    rfl
theorem mset_mset {K : IF} {a k : Nat} {x y : Int} : mset (mset K a k x) a k y = mset K a k y := by
  funext b j
  unfold mset
  split <;> rfl
theorem mset_id {K : IF} {a k : Nat} {x : Int} (h : x = K a k) : mset K a k x = K := by
  funext b j
  unfold mset
  split
  · next z => rw [h, z.1, z.2]
  · rfl
theorem c_skipBlanks (hg : GOc g) : ∀ (n : Nat) (I : IF), 0 ≤ I 51 1 → I 51 1 ≤ I 39 1 → I 39 1 ≤ 240 → n = (I 39 1 - I 51 1).toNat →
    Ev Γ 1 mX4_skipBlanks 0 [some (.inr (some 51)), some (.inr (some 39))] [] (g, I) (none, (g, kSkip I)) := by
  intro n
  induction n with
  | zero =>
    intro I h0 h1 h2 hn
    refine v_X4_skipBlanks_0 hg 39 tr39 ⟨fun c => ⟨rfl, ?_⟩, fun c => absurd c (by omega)⟩
    unfold kSkip
    rw [← hn]
    exact mset_id rfl
  | succ n ih =>
    intro I h0 h1 h2 hn
    refine v_X4_skipBlanks_0 hg 39 tr39 ⟨fun c => absurd c (by omega), fun c => ⟨by omega, _, _, c_isBlank hg _, fun c2 => ⟨rfl, ?_⟩, fun c2 => ⟨by unfold inR; omega, ?_⟩⟩⟩
    · rw [bI_0] at c2
      unfold kSkip
      rw [← hn]
      unfold skp
      rw [if_neg (fun z => by have := z.2; rw [show I (39 + 1) = I 40 from rfl] at c2; rw [c2] at this; cases this)]
      exact mset_id rfl
    · rw [bI_n0] at c2
      rintro _ rfl
      have h3 := ih (mset I 51 1 (I 51 1 + 1)) (by show 0 ≤ I 51 1 + 1; omega) (by show I 51 1 + 1 ≤ I 39 1; omega) h2 (by show n = (I 39 1 - (I 51 1 + 1)).toNat; omega)
      have h4 : kSkip (mset I 51 1 (I 51 1 + 1)) = kSkip I := by
        unfold kSkip
        rw [mset_mset]
        congr 1
        rw [← hn]
        show skp (mset I 51 1 (I 51 1 + 1)) (I 39 1 - (I 51 1 + 1)).toNat (I 51 1 + 1) = skp I (n + 1) (I 51 1)
        rw [skp_pos, show (I 39 1 - (I 51 1 + 1)).toNat = n by omega]
        conv => rhs; unfold skp
        rw [if_pos ⟨by omega, c2⟩]
      rw [h4] at h3
      exact h3
theorem c_readAtom_7 (hg : GOc g) : ∀ (n : Nat) (e : Int), 0 ≤ e → e ≤ I 39 1 → I 39 1 ≤ 240 → n = (I 39 1 - e).toNat → 0 ≤ I 39 2 ∧ I 39 2 < 120 → -1 ≤ I 51 3 ∧ I 51 3 < I 39 2 → (I 51 3 ≠ -1 → -1 ≤ I 46 (I 51 3).toNat ∧ I 46 (I 51 3).toNat ≤ 120) →
    Ev Γ 1 mX4_readAtom 7 [some (.inr (some 51)), some (.inr (some 39)), some (.inl e)] [] (g, I) (some (.inl 1), (g, kAdd 0 (scn I n e) (mset I 51 2 3))) := by
  intro n
  induction n with
  | zero =>
    intro e h0 h1 h2 hn hc ho ht
    refine v_X4_readAtom_7 hg 39 tr39 e ⟨fun c => ?_, fun c => absurd c (by omega)⟩
    rintro _ rfl
    exact ⟨_, _, c_addPiece hg 0 e hc ho ht, Or.inr rfl, rfl, rfl⟩
  | succ n ih =>
    intro e h0 h1 h2 hn hc ho ht
    refine v_X4_readAtom_7 hg 39 tr39 e ⟨fun c => absurd c (by omega), fun c => ⟨by omega, _, _, c_isAtomByte hg _, fun c2 => ?_, fun c2 => ⟨by unfold inR; omega, ?_⟩⟩⟩
    · rw [bI_0] at c2
      rintro _ rfl
      refine ⟨_, _, c_addPiece hg 0 e hc ho ht, Or.inr rfl, rfl, ?_⟩
      unfold scn
      rw [if_neg (fun z => by have := z.2; rw [show I (39 + 1) = I 40 from rfl] at c2; rw [c2] at this; cases this)]
    · rw [bI_n0] at c2
      have h3 := ih (e + 1) (by omega) (by omega) h2 (by omega) hc ho ht
      unfold scn
      rw [if_pos ⟨by omega, c2⟩]
      exact h3
theorem c_readAtom (hg : GOc g) (hp : 0 ≤ I 51 1 ∧ I 51 1 < I 39 1) (hl : I 39 1 ≤ 240) (hc : 0 ≤ I 39 2 ∧ I 39 2 < 120) (ho : -1 ≤ I 51 3 ∧ I 51 3 < I 39 2) (ht : I 51 3 ≠ -1 → -1 ≤ I 46 (I 51 3).toNat ∧ I 46 (I 51 3).toNat ≤ 120) :
    CT Γ 1 mX4_readAtom [.inr (some 51), .inr (some 39)] (g, I) (some (.inl 1), (g, kAtom I)) := by
  refine CT.of oX4_readAtom (Nat.le_of_ble_eq_true rfl) (Nat.le_refl _) (Nat.le_refl _) (v_X4_readAtom_0 hg 39 tr39 ⟨by unfold inR; omega, ?_⟩)
  rintro _ rfl
  exact c_readAtom_7 hg _ _ (by omega) (by omega) hl rfl hc ho ht
theorem c_readDeep (hg : GOc g) (hp : 0 ≤ I 51 1 ∧ I 51 1 ≤ 240) (hc : 0 ≤ I 39 2 ∧ I 39 2 < 120) (ho : -1 ≤ I 51 3 ∧ I 51 3 < I 39 2) (ht : I 51 3 ≠ -1 → -1 ≤ I 46 (I 51 3).toNat ∧ I 46 (I 51 3).toNat ≤ 120) :
    CT Γ 1 mX4_readDeep [.inr (some 51), .inr (some 39)] (g, I) (some (.inl 1), (g, kDeep I)) := by
  refine CT.of oX4_readDeep (Nat.le_of_ble_eq_true rfl) (Nat.le_refl _) (Nat.le_refl _) (v_X4_readDeep_0 hg 39 tr39 ?_)
  rintro _ rfl _ rfl _ rfl
  exact ⟨by show inR (I 51 1 + 1); unfold inR; omega, _, _, c_addPiece hg 3 _ hc ho ht, Or.inr rfl, rfl, rfl⟩
theorem kAdd_cnt (kd e : Int) : (kAdd kd e I) 39 2 = I 39 2 + 1 := rfl
theorem kAdd_51 (kd e : Int) {k : Nat} (hk : k ≠ 1) : (kAdd kd e I) 51 k = I 51 k := by
  unfold kAdd
  dsimp only
  split <;> simp [mset, hk]
theorem kAdd_o (kd e : Int) {a k : Nat} (h1 : a ≠ 51) (h2 : a ≠ 39 ∨ k ≠ 2) (h3 : a < 41 ∨ 48 < a) : (kAdd kd e I) a k = I a k := by
  have h4 : ¬ (a = 39 ∧ k = 2) := fun z => h2.elim (fun y => y z.1) (fun y => y z.2)
  have e1 : a ≠ 41 := by omega
  have e2 : a ≠ 42 := by omega
  have e3 : a ≠ 43 := by omega
  have e4 : a ≠ 44 := by omega
  have e5 : a ≠ 45 := by omega
  have e6 : a ≠ 46 := by omega
  have e7 : a ≠ 47 := by omega
  have e8 : a ≠ 48 := by omega
  unfold kAdd
  dsimp only
  split <;> simp [mset, h1, h4, e1, e2, e3, e4, e5, e6, e7, e8]
theorem kAdd_p (kd e : Int) {a k : Nat} (h3 : 41 ≤ a ∧ a ≤ 48) (hk : k ≠ (I 39 2).toNat) (h6 : a ≠ 46) : (kAdd kd e I) a k = I a k := by
  have e1 : a ≠ 51 := by omega
  have e2 : a ≠ 39 := by omega
  unfold kAdd
  dsimp only
  split <;> simp [mset, e1, e2, hk, h6]
theorem kAdd_n (kd e : Int) {a : Nat} (h6 : a ≠ 46) : (kAdd kd e I) a (I 39 2).toNat = if a = 41 then kd else if a = 42 then I 51 1 else if a = 43 then e else if a = 44 then e else if a = 45 then I 51 3 else if a = 47 then 1 else if a = 48 then -1 else if a = 39 ∧ (I 39 2).toNat = 2 then I 39 2 + 1 else if a = 51 ∧ (I 39 2).toNat = 1 then e else I a (I 39 2).toNat := by
  unfold kAdd
  dsimp only
  split <;> simp only [mset, h6, false_and, if_false, and_true] <;> (repeat' split) <;> first | rfl | omega
theorem kAdd_46 (kd e : Int) (k : Nat) (ho : -1 ≤ I 51 3 ∧ I 51 3 < I 39 2) : (kAdd kd e I) 46 k = if k = (I 39 2).toNat then -1 else if (I 51 3 ≠ -1 ∧ I 41 (I 51 3).toNat = 0) ∧ k = (I 51 3).toNat then I 46 k + 1 else I 46 k := by
  have hne : I 51 3 ≠ -1 → (I 51 3).toNat ≠ (I 39 2).toNat := fun z => by omega
  unfold kAdd
  dsimp only
  by_cases c : I 51 3 ≠ -1 ∧ I 41 (I 51 3).toNat = 0
  · rw [if_pos (by refine ⟨c.1, ?_⟩; have h1 := hne c.1; simp [mset, h1, c.2])]
    have h1 := hne c.1
    by_cases e1 : k = (I 39 2).toNat
    · subst e1
      simp [mset, h1, Ne.symm h1]
    · by_cases e2 : k = (I 51 3).toNat
      · subst e2
        simp [mset, c, e1]
      · simp [mset, e1, e2]
  · rw [if_neg (by
      intro z
      refine c ⟨z.1, ?_⟩
      have h1 := hne z.1
      have h2 := z.2
      simpa [mset, h1] using h2)]
    by_cases e1 : k = (I 39 2).toNat
    · subst e1
      simp [mset]
    · simp [mset, e1, c]
theorem c_readLettered (hg : GOc g) (kd : Int) (hp : 0 ≤ I 51 1 ∧ I 51 1 < I 39 1) (hl : I 39 1 ≤ 240) (hc : 0 ≤ I 39 2 ∧ I 39 2 < 120) (ho : -1 ≤ I 51 3 ∧ I 51 3 < I 39 2) (ht : I 51 3 ≠ -1 → -1 ≤ I 46 (I 51 3).toNat ∧ I 46 (I 51 3).toNat ≤ 120)
    (hb : ∀ j : Nat, (j : Int) < I 39 1 → 0 ≤ I 40 j ∧ I 40 j ≤ 255) (hf : ∀ l : Nat, l < 26 → -1 ≤ I 49 l ∧ I 49 l < I 39 2) (hr : 0 ≤ I 51 5 ∧ I 51 5 ≤ 120) :
    CT Γ 1 mX4_readLettered [.inr (some 51), .inr (some 39), .inl kd] (g, I) (some (.inl (kLet kd I).1), (g, (kLet kd I).2)) := by
  refine CT.of oX4_readLettered (Nat.le_of_ble_eq_true rfl) (Nat.le_refl _) (Nat.le_refl _) (v_X4_readLettered_0 hg 39 tr39 kd ⟨by unfold inR; omega, ?_⟩)
  rintro _ rfl
  refine ⟨fun c => ?_, fun c => ⟨by omega, _, _, c_isSmall hg _, fun c2 => ⟨by omega, ?_⟩, fun c2 => ?_⟩⟩
  · rintro _ rfl
    unfold kLet
    rw [if_pos (Or.inl c)]
    exact ⟨rfl, rfl⟩
  · rw [bI_n0] at c2
    have c2' : smallb (I 40 (I 51 1 + 1).toNat) = true := c2
    have hsm : 97 ≤ I 40 (I 51 1 + 1).toNat ∧ I 40 (I 51 1 + 1).toNat ≤ 122 := by simpa only [smallb, decide_eq_true_eq] using c2'
    refine ⟨by show inR (I 40 (I 51 1 + 1).toNat - 97); unfold inR; omega, ?_⟩
    rintro _ rfl
    generalize hL : I 40 (I 51 1 + 1).toNat - 97 = l
    have hl2 : I (39 + 1) (I 51 1 + 1).toNat - 97 = l := hL
    have hl0 : 0 ≤ l ∧ l < 26 := by omega
    have hfl := hf l.toNat (by omega)
    have hkk : (if I (39 + 10) l.toNat = -1 then -1 else I (39 + 2) (I (39 + 10) l.toNat).toNat) = kKind I l := rfl
    have hct := c_kindOf (Γ := Γ) hg tr39 hl0 (show -1 ≤ I (39 + 10) l.toNat ∧ I (39 + 10) l.toNat < 120 by show -1 ≤ I 49 l.toNat ∧ I 49 l.toNat < 120; omega)
    rw [hkk] at hct
    have hadd := c_addPiece (Γ := Γ) hg kd (I 51 1 + 1 + 1) hc ho ht
    have hcm : (kAdd kd (I 51 1 + 1 + 1) I) 39 2 - 1 = I 39 2 := by rw [kAdd_cnt]; omega
    refine ⟨_, _, hct, fun c3 => ⟨by unfold inR; omega, _, _, hadd, fun _ => ⟨by rw [hcm]; unfold inR; omega, ?_⟩, fun z => absurd z (by decide)⟩, fun c3 => ⟨fun c4 => ?_, fun c4 => ⟨by unfold inR; omega, _, _, hadd, fun _ => ⟨by rw [hcm]; unfold inR; omega, ?_⟩, fun z => absurd z (by decide)⟩⟩⟩
    · rw [hcm]
      rintro _ rfl
      refine ⟨hc, ?_⟩
      rintro _ rfl
      refine ⟨fun z => absurd c3 z, fun _ => ⟨hl0, ?_⟩⟩
      rintro _ rfl
      unfold kLet
      rw [if_neg (fun z => z.elim c (fun z => by rw [c2'] at z; cases z)), hL, if_neg (fun z => z.1 c3)]
      dsimp only
      rw [if_pos c3]
      refine ⟨fun c5 => ?_, fun c5 => ⟨by rw [show mset (mset (kAdd kd (I 51 1 + 1 + 1) I) (39 + 9) (I 39 2).toNat l) (39 + 10) l.toNat (I 39 2) 51 5 = I 51 5 from kAdd_51 (I := I) kd (I 51 1 + 1 + 1) (k := 5) (by decide)]; unfold inR; omega, ?_⟩⟩
      · rintro _ rfl
        rw [if_neg c5]
        exact ⟨rfl, rfl⟩
      · rintro _ rfl _ rfl
        rw [if_pos c5]
        exact ⟨rfl, rfl⟩
    · unfold kLet
      rw [if_neg (fun z => z.elim c (fun z => by rw [c2'] at z; cases z)), hL, if_pos ⟨c3, c4⟩]
      exact ⟨rfl, rfl⟩
    · rw [hcm]
      rintro _ rfl
      refine ⟨hc, ?_⟩
      rintro _ rfl
      refine ⟨fun _ => ?_, fun z => absurd z c3⟩
      unfold kLet
      rw [if_neg (fun z => z.elim c (fun z => by rw [c2'] at z; cases z)), hL, if_neg (fun z => z.2 c4)]
      dsimp only
      rw [if_neg c3]
      refine ⟨fun c5 => ?_, fun c5 => ⟨by rw [show mset (kAdd kd (I 51 1 + 1 + 1) I) (39 + 9) (I 39 2).toNat l 51 5 = I 51 5 from kAdd_51 (I := I) kd (I 51 1 + 1 + 1) (k := 5) (by decide)]; unfold inR; omega, ?_⟩⟩
      · rintro _ rfl
        rw [if_neg c5]
        exact ⟨rfl, rfl⟩
      · rintro _ rfl _ rfl
        rw [if_pos c5]
        exact ⟨rfl, rfl⟩
  · rw [bI_0] at c2
    rintro _ rfl
    unfold kLet
    rw [if_pos (Or.inr c2)]
    exact ⟨rfl, rfl⟩
end RC
