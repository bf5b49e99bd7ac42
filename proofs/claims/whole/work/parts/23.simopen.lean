/-! ===== opening, closing, commas and deep pieces, in both ===== -/
section SP
variable {Γ : GX} {g : AG} {I I0 J0 J X K K' : IF} {u n : Nat} {kd e : Int}
theorem mset_comm {a k b j : Nat} {x y : Int} (h : a ≠ b ∨ k ≠ j) : mset (mset K a k x) b j y = mset (mset K b j y) a k x := by
  funext c i
  unfold mset
  by_cases h1 : c = b ∧ i = j
  · rw [if_pos h1]
    rw [if_neg (fun z => by omega), if_pos h1]
  · rw [if_neg h1]
    by_cases h2 : c = a ∧ i = k
    · rw [if_pos h2, if_pos h2]
    · rw [if_neg h2, if_neg h2, if_neg h1]
theorem kSkip_kSkip (h : K 51 1 ≤ K 39 1) : kSkip (kSkip K) = kSkip K := by
  have h1 : nx (kSkip K) ((kSkip K) 51 1) = (kSkip K) 51 1 := by
    rw [nx_congr (K := K) (kSkip_o (Or.inl (by decide))) (fun j => kSkip_o (Or.inl (by decide))), kSkip_nx]
    exact nx_idem h
  show mset (kSkip K) 51 1 (nx (kSkip K) ((kSkip K) 51 1)) = kSkip K
  exact mset_id h1
theorem RR_skip (h : K 51 1 ≤ K 39 1) : RR (kSkip K) = RR K := by
  unfold RR kRun
  rw [kSkip_kSkip h, kSkip_o (K := K) (a := 39) (k := 1) (Or.inl (by decide)), kSkip_o (K := K) (a := 51) (k := 3) (Or.inr (by decide)), kSkip_o (K := K) (a := 51) (k := 2) (Or.inr (by decide))]
/-- the deep one that is known is one -/
def CD (K : IF) : Prop := (K 51 6 ≠ -1 → 0 ≤ K 51 6 ∧ K 51 6 < K 39 2 ∧ K 41 (K 51 6).toNat = 3) ∧ (K 51 6 = -1 → K 51 7 = 0)
theorem CD.skip (h : CD K) : CD (kSkip K) := by
  unfold CD
  rw [kSkip_o (K := K) (a := 51) (k := 6) (Or.inr (by decide)), kSkip_o (K := K) (a := 51) (k := 7) (Or.inr (by decide)), kSkip_o (K := K) (a := 39) (k := 2) (Or.inl (by decide)), kSkip_o (K := K) (a := 41) (Or.inl (by decide))]
  exact h
theorem CD_add (hn : n = (K 39 2).toNat) (hc : 0 ≤ K 39 2) (h : CD K) (hK : KA kd n K K') (h6 : K' 51 6 = K 51 6) (h7 : K' 51 7 = K 51 7) : CD K' := by
  refine ⟨fun z => ?_, fun z => ?_⟩
  · rw [h6] at z ⊢
    obtain ⟨h1, h2, h3⟩ := h.1 z
    obtain ⟨k1, -, -, -, -, -, -, kc⟩ := hK
    rw [kc, k1, if_neg (by omega)]
    exact ⟨h1, by omega, h3⟩
  · rw [h6] at z
    rw [h7]
    exact h.2 z
theorem kOpen_bad (h : 12 ≤ K 51 4) : kOpen K = (0, K) := by
  unfold kOpen
  rw [if_pos h]
theorem kOpen_eff (h : K 51 4 < 12) : (kOpen K).1 = 1 ∧ (kOpen K).2 51 1 = K 51 1 + 1 ∧ (kOpen K).2 51 2 = (if K 41 (K 39 2 - 1).toNat = 0 then 1 else 0) ∧ (kOpen K).2 51 3 = K 39 2 - 1 ∧ (kOpen K).2 51 4 = K 51 4 + 1 ∧
    (∀ k : Nat, k = 0 ∨ 4 < k → (kOpen K).2 51 k = K 51 k) ∧ (∀ p : Nat, (kOpen K).2 46 p = if K 41 (K 39 2 - 1).toNat = 0 ∧ p = (K 39 2 - 1).toNat then 0 else K 46 p) ∧ (∀ a k : Nat, a ≠ 51 → a ≠ 46 → (kOpen K).2 a k = K a k) := by
  unfold kOpen
  rw [if_neg (by omega)]
  dsimp only
  have hz : mset (mset (mset K 51 3 (K 39 2 - 1)) 51 4 (K 51 4 + 1)) 51 1 (K 51 1 + 1) 41 (K 39 2 - 1).toNat = K 41 (K 39 2 - 1).toNat := rfl
  rw [hz]
  by_cases c : K 41 (K 39 2 - 1).toNat = 0
  · rw [if_pos c, if_pos c]
    refine ⟨rfl, rfl, rfl, rfl, rfl, fun k z => ?_, fun p => ?_, fun a k z1 z2 => ?_⟩
    · rw [mset_k _ _ (by omega), mset_a _ _ (by decide), mset_k _ _ (by omega), mset_k _ _ (by omega), mset_k _ _ (by omega)]
    · rw [mset_a _ _ (by decide)]
      by_cases d : p = (K 39 2 - 1).toNat
      · rw [if_pos ⟨c, d⟩, d, mset_s]
      · rw [if_neg (fun z => d z.2), mset_k _ _ d]
        rfl
    · rw [mset_a _ _ z1, mset_a _ _ z2, mset_a _ _ z1, mset_a _ _ z1, mset_a _ _ z1]
  · rw [if_neg c, if_neg c]
    refine ⟨rfl, rfl, rfl, rfl, rfl, fun k z => ?_, fun p => ?_, fun a k z1 z2 => ?_⟩
    · rw [mset_k _ _ (by omega), mset_k _ _ (by omega), mset_k _ _ (by omega), mset_k _ _ (by omega)]
    · rw [if_neg (fun z => c z.1)]
      rfl
    · rw [mset_a _ _ z1, mset_a _ _ z1, mset_a _ _ z1, mset_a _ _ z1]
theorem kClose_eff (h : K 51 3 ≠ -1) : (kClose K).1 = 1 ∧ (kClose K).2 51 1 = K 51 1 + 1 ∧ (kClose K).2 51 2 = 4 ∧ (kClose K).2 51 3 = K 45 (K 51 3).toNat ∧ (kClose K).2 51 4 = K 51 4 - 1 ∧
    (kClose K).2 51 7 = (if K 51 3 = K 51 6 then 0 else K 51 7) ∧ (∀ k : Nat, k = 0 ∨ k = 5 ∨ k = 6 → (kClose K).2 51 k = K 51 k) ∧ (∀ p : Nat, (kClose K).2 44 p = if p = (K 51 3).toNat then K 51 1 + 1 else K 44 p) ∧
    (∀ p : Nat, (kClose K).2 47 p = if p = (K 51 3).toNat then K 39 2 - K 51 3 else K 47 p) ∧ (∀ a k : Nat, a ≠ 51 → a ≠ 44 → a ≠ 47 → (kClose K).2 a k = K a k) := by
  unfold kClose
  rw [if_neg h]
  dsimp only
  have hz : (mset (mset (mset (mset K 51 1 (K 51 1 + 1)) 51 4 (K 51 4 - 1)) 44 (K 51 3).toNat (K 51 1 + 1)) 47 (K 51 3).toNat (K 39 2 - K 51 3)) 51 3 = K 51 3 := rfl
  have hz6 : (mset (mset (mset (mset K 51 1 (K 51 1 + 1)) 51 4 (K 51 4 - 1)) 44 (K 51 3).toNat (K 51 1 + 1)) 47 (K 51 3).toNat (K 39 2 - K 51 3)) 51 6 = K 51 6 := rfl
  rw [hz, hz6]
  have h44 : ∀ p : Nat, (mset (mset (mset (mset K 51 1 (K 51 1 + 1)) 51 4 (K 51 4 - 1)) 44 (K 51 3).toNat (K 51 1 + 1)) 47 (K 51 3).toNat (K 39 2 - K 51 3)) 44 p = if p = (K 51 3).toNat then K 51 1 + 1 else K 44 p := fun p => by
    rw [mset_a _ _ (by decide)]
    by_cases d : p = (K 51 3).toNat
    · rw [if_pos d, d, mset_s]
    · rw [if_neg d, mset_k _ _ d]
      rfl
  have h47 : ∀ p : Nat, (mset (mset (mset (mset K 51 1 (K 51 1 + 1)) 51 4 (K 51 4 - 1)) 44 (K 51 3).toNat (K 51 1 + 1)) 47 (K 51 3).toNat (K 39 2 - K 51 3)) 47 p = if p = (K 51 3).toNat then K 39 2 - K 51 3 else K 47 p := fun p => by
    by_cases d : p = (K 51 3).toNat
    · rw [if_pos d, d, mset_s]
    · rw [if_neg d, mset_k _ _ d]
      rfl
  by_cases c : K 51 3 = K 51 6
  · rw [if_pos c, if_pos c]
    refine ⟨rfl, rfl, rfl, rfl, rfl, rfl, fun k z => ?_, fun p => ?_, fun p => ?_, fun a k z1 z2 z3 => ?_⟩
    · rcases z with rfl | rfl | rfl <;> rfl
    · exact h44 p
    · exact h47 p
    · rw [mset_a _ _ z1, mset_a _ _ z1, mset_a _ _ z1, mset_a _ _ z3, mset_a _ _ z2, mset_a _ _ z1, mset_a _ _ z1]
  · rw [if_neg c, if_neg c]
    refine ⟨rfl, rfl, rfl, rfl, rfl, rfl, fun k z => ?_, fun p => ?_, fun p => ?_, fun a k z1 z2 z3 => ?_⟩
    · rcases z with rfl | rfl | rfl <;> rfl
    · exact h44 p
    · exact h47 p
    · rw [mset_a _ _ z1, mset_a _ _ z1, mset_a _ _ z3, mset_a _ _ z2, mset_a _ _ z1, mset_a _ _ z1]
theorem kKind_same (h1 : ∀ p : Nat, K' 49 p = K 49 p) (h2 : ∀ p : Nat, K' 41 p = K 41 p) (l : Int) : kKind K' l = kKind K l := by
  unfold kKind
  rw [h1, h2]
theorem Sim_cnt (hS : Sim I K u) (k1 : K' 39 1 = K 39 1) (k40 : ∀ j : Nat, K' 40 j = K 40 j) (k0 : K' 51 0 = K 51 0) (k2 : K' 39 2 = K 39 2) (k49 : ∀ p : Nat, K' 49 p = K 49 p) (k41 : ∀ p : Nat, K' 41 p = K 41 p)
    (j1 : J u 1 = I u 1) (jb : ∀ j : Nat, J (u + 1) j = I (u + 1) j) (j13 : J 80 13 = I 80 13) (j14 : J 80 14 = K' 51 1) (hle : 0 ≤ K' 51 1 ∧ K' 51 1 ≤ K 39 1) (j15 : J 80 15 = I 80 15) (j16 : J 80 16 = K' 51 4) (j17 : J 80 17 = K' 51 5) (j18 : J 80 18 = (if K' 51 6 = -1 then 0 else 1)) (j19 : J 80 19 = K' 51 7)
    (j2 : J u 2 = I u 2) (hp : ∀ p : Nat, (p : Int) < K 39 2 → PR J K' u p) (hl : ∀ l : Nat, J 135 l = I 135 l) : Sim J K' u := by
  obtain ⟨h1, h2, h3, h4, h5, h6, h7, h8, h9, h10, h11⟩ := hS
  refine ⟨⟨by rw [j1, k1]; exact h1.1, by rw [k1]; exact h1.2.1, fun j hj => ?_⟩, by rw [j13, k0]; exact h2, ⟨by rw [j14]; exact hle.1, by rw [j14, k1]; exact hle.2, by rw [j14]⟩, by rw [j15]; exact h4, j16, j17, j18, j19, by rw [j2, k2]; exact h9, fun p z => hp p (k2 ▸ z), fun l z => ?_⟩
  · rw [k1] at hj
    rw [jb, k40]
    exact h1.2.2 j hj
  · rw [hl, kKind_same k49 k41]
    exact h11 l z
/-- an opening has been read -/
theorem sim_open (hu : Mt u) (hR : RI K) (hC : CI K) (hD : CD K) (hS : Sim I K u) (hat : I 80 14 = K 51 1) (hp : K 51 1 < K 39 1) (hd : K 51 4 < 12)
    (hX : (K 51 2 = 3 ∧ X = mset I (u + 9) (K 39 2 - 1).toNat 1) ∨ (K 51 2 = 2 ∧ X = I)) :
    Sim (mset (mset X 80 16 (X 80 16 + 1)) 80 14 (X 80 14 + 1)) (kOpen K).2 u ∧ CI (kOpen K).2 ∧ CD (kOpen K).2 := by
  have hu' := mt_rng hu
  obtain ⟨e1, e2, e3, e4, e5, e6, e7, e8⟩ := kOpen_eff hd
  have hcnt : 0 < K 39 2 := by
    rcases hX with ⟨z, -⟩ | ⟨z, -⟩
    · exact hR.2.2.2.2.2.2.2.2.2.2.2.1 z
    · exact hR.2.2.2.2.2.2.2.2.2.2.1 z
  have hpos : 0 ≤ K 51 1 := hR.1.1
  have x80 : ∀ k : Nat, X 80 k = I 80 k := fun k => by
    rcases hX with ⟨-, z⟩ | ⟨-, z⟩
    · rw [z, mset_a _ _ (by omega)]
    · rw [z]
  have xo : ∀ a k : Nat, a ≠ u + 9 → X a k = I a k := fun a k z => by
    rcases hX with ⟨-, z1⟩ | ⟨-, z1⟩
    · rw [z1, mset_a _ _ z]
    · rw [z1]
  have x9 : ∀ p : Nat, X (u + 9) p = if K 51 2 = 3 ∧ p = (K 39 2 - 1).toNat then 1 else I (u + 9) p := fun p => by
    rcases hX with ⟨z0, z1⟩ | ⟨z0, z1⟩
    · by_cases d : p = (K 39 2 - 1).toNat
      · rw [if_pos ⟨z0, d⟩, z1, d, mset_s]
      · rw [if_neg (fun z => d z.2), z1, mset_k _ _ d]
    · rw [if_neg (fun z => by omega), z1]
  have hk : ∀ p : Nat, (K 41 (K 39 2 - 1).toNat = 0 ∧ p = (K 39 2 - 1).toNat) ↔ (K 51 2 = 3 ∧ p = (K 39 2 - 1).toNat) := fun p => by
    rcases hX with ⟨z0, -⟩ | ⟨z0, -⟩
    · have := (hC.2.2.2.1 z0).1
      exact ⟨fun z => ⟨z0, z.2⟩, fun z => ⟨this, z.2⟩⟩
    · have := (hC.2.2.1 z0).1
      exact ⟨fun z => by omega, fun z => by omega⟩
  have ha : ∀ a k : Nat, a ≠ 80 → (mset (mset X 80 16 (X 80 16 + 1)) 80 14 (X 80 14 + 1)) a k = X a k := fun a k z => by rw [mset_a _ _ z, mset_a _ _ z]
  have h80 : ∀ k : Nat, k ≠ 14 → k ≠ 16 → (mset (mset X 80 16 (X 80 16 + 1)) 80 14 (X 80 14 + 1)) 80 k = I 80 k := fun k z1 z2 => by rw [mset_k _ _ z1, mset_k _ _ z2, x80]
  obtain ⟨s1, s2, s3, s4, s5, s6, s7, s8, s9, s10, s11⟩ := id hS
  refine ⟨Sim_cnt hS (e8 39 1 (by decide) (by decide)) (fun j => e8 40 j (by decide) (by decide)) (e6 0 (by decide)) (e8 39 2 (by decide) (by decide)) (fun p => e8 49 p (by decide) (by decide)) (fun p => e8 41 p (by decide) (by decide)) ?_ (fun j => ?_) (h80 13 (by decide) (by decide)) ?_ ?_ (h80 15 (by decide) (by decide)) ?_ ?_ ?_ ?_ ?_ (fun p hp' => ?_) (fun l => ?_), ?_, ?_⟩
  · rw [ha u 1 (by omega), xo u 1 (by omega)]
  · rw [ha _ j (by omega), xo _ j (by omega)]
  · rw [mset_s, e2, x80, hat]
  · rw [e2]; omega
  · rw [mset_k _ _ (by decide), mset_s, e5, x80, s5]
  · rw [h80 17 (by decide) (by decide), e6 5 (by decide), s6]
  · rw [h80 18 (by decide) (by decide), e6 6 (by decide), s7]
  · rw [h80 19 (by decide) (by decide), e6 7 (by decide), s8]
  · rw [ha u 2 (by omega), xo u 2 (by omega)]
  · obtain ⟨p1, p2, p3, p4, p5, p6, p7, p8⟩ := s10 p hp'
    unfold PR
    rw [ha _ p (by omega), ha _ p (by omega), ha _ p (by omega), ha _ p (by omega), ha _ p (by omega), ha _ p (by omega), ha _ p (by omega), ha _ p (by omega), x9, xo (u + 2) p (by omega), xo (u + 3) p (by omega), xo (u + 4) p (by omega), xo (u + 5) p (by omega), xo (u + 6) p (by omega), xo (u + 7) p (by omega), xo (u + 8) p (by omega), e7,
      e8 41 p (by decide) (by decide), e8 42 p (by decide) (by decide), e8 43 p (by decide) (by decide), e8 44 p (by decide) (by decide), e8 45 p (by decide) (by decide), e8 48 p (by decide) (by decide), e6 7 (by decide), e8 39 2 (by decide) (by decide)]
    refine ⟨p1, p2, p3, p4, p5, fun z => ?_, p7, p8⟩
    have q := p6 z
    by_cases c : K 51 2 = 3 ∧ p = (K 39 2 - 1).toNat
    · rw [if_pos ((hk p).2 c), if_pos c]
      have := (hC.2.2.2.1 c.1).2.1
      rw [← c.2] at this
      rcases q with ⟨q1, q2, q3⟩ | ⟨q1, q2, q3⟩
      · exact Or.inr ⟨by omega, rfl, q3⟩
      · omega
    · rw [if_neg (fun z => c ((hk p).1 z)), if_neg c]
      exact q
  · rw [ha 135 l (by decide), xo 135 l (by omega)]
  · obtain ⟨c1, c2, c3, c4, c5, c6, c7, c8⟩ := id hC
    have hop : ∀ p : Nat, OP K p → OP (kOpen K).2 p := fun p h => h.mv (e8 41 p (by decide) (by decide)) (by
      rw [e7]
      split
      · next z =>
        have z' := (hk p).1 z
        have := (c4 z'.1).2.1
        rw [← z'.2] at this
        omega
      · exact Int.le_refl _)
    unfold CI
    rw [e3, e4, e6 7 (by decide), e6 6 (by decide), e6 5 (by decide), e6 0 (by decide), e8 39 2 (by decide) (by decide)]
    refine ⟨fun _ => ?_, fun p hp' z => ?_, fun z => ?_, fun z => ?_, c5, fun p hp' z => ?_, c7, c8⟩
    · unfold OP
      rw [e7, e8 41 _ (by decide) (by decide)]
      rcases hX with ⟨z0, -⟩ | ⟨z0, -⟩
      · have := (c4 z0).1
        rw [if_pos ⟨this, rfl⟩]
        exact Or.inl ⟨this, Int.le_refl _⟩
      · exact Or.inr (c3 z0).1
    · rw [e8 45 p (by decide) (by decide)] at z ⊢
      exact hop _ (c2 p hp' z)
    · split at z <;> omega
    · split at z <;> omega
    · rw [e8 41 p (by decide) (by decide)] at z
      exact c6 p hp' z
  · unfold CD
    rw [e6 6 (by decide), e6 7 (by decide), e8 39 2 (by decide) (by decide), e8 41 _ (by decide) (by decide)]
    exact hD
/-- a closing has been read -/
theorem sim_close (hu : Mt u) (hR : RI K) (hC : CI K) (hD : CD K) (hS : Sim I K u) (hat : I 80 14 = K 51 1) (hp : K 51 1 < K 39 1) (ho : K 51 3 ≠ -1)
    (hX : X = if K 51 3 = K 51 6 then mset I 80 19 0 else I) :
    Sim (mset (mset (mset X 80 16 (X 80 16 - 1)) 80 14 (X 80 14 + 1)) (u + 4) (K 51 3).toNat (X 80 14 + 1)) (kClose K).2 u ∧ CI (kClose K).2 ∧ CD (kClose K).2 := by
  have hu' := mt_rng hu
  obtain ⟨e1, e2, e3, e4, e5, e6, e7, e8, e9, e10⟩ := kClose_eff ho
  have ho' : -1 ≤ K 51 3 ∧ K 51 3 < K 39 2 := hR.2.2.2.2.1
  have hpos : 0 ≤ K 51 1 := hR.1.1
  have xa : ∀ a k : Nat, a ≠ 80 → X a k = I a k := fun a k z => by
    rw [hX]
    split
    · exact mset_a _ _ z
    · rfl
  have x80 : ∀ k : Nat, k ≠ 19 → X 80 k = I 80 k := fun k z => by
    rw [hX]
    split
    · exact mset_k _ _ z
    · rfl
  have h80 : ∀ k : Nat, k ≠ 14 → k ≠ 16 → (mset (mset (mset X 80 16 (X 80 16 - 1)) 80 14 (X 80 14 + 1)) (u + 4) (K 51 3).toNat (X 80 14 + 1)) 80 k = X 80 k := fun k z1 z2 => by rw [mset_a _ _ (by omega), mset_k _ _ z1, mset_k _ _ z2]
  have ha : ∀ a k : Nat, a ≠ 80 → a ≠ u + 4 → (mset (mset (mset X 80 16 (X 80 16 - 1)) 80 14 (X 80 14 + 1)) (u + 4) (K 51 3).toNat (X 80 14 + 1)) a k = I a k := fun a k z1 z2 => by rw [mset_a _ _ z2, mset_a _ _ z1, mset_a _ _ z1, xa a k z1]
  have ha4 : ∀ k : Nat, (mset (mset (mset X 80 16 (X 80 16 - 1)) 80 14 (X 80 14 + 1)) (u + 4) (K 51 3).toNat (X 80 14 + 1)) (u + 4) k = if k = (K 51 3).toNat then K 51 1 + 1 else I (u + 4) k := fun k => by
    by_cases d : k = (K 51 3).toNat
    · rw [if_pos d, d, mset_s, x80 14 (by decide), hat]
    · rw [if_neg d, mset_k _ _ d, mset_a _ _ (by omega), mset_a _ _ (by omega), xa _ _ (by omega)]
  obtain ⟨s1, s2, s3, s4, s5, s6, s7, s8, s9, s10, s11⟩ := id hS
  obtain ⟨c1, c2, c3, c4, c5, c6, c7, c8⟩ := id hC
  refine ⟨Sim_cnt hS (e10 39 1 (by decide) (by decide) (by decide)) (fun j => e10 40 j (by decide) (by decide) (by decide)) (e7 0 (by decide)) (e10 39 2 (by decide) (by decide) (by decide)) (fun p => e10 49 p (by decide) (by decide) (by decide)) (fun p => e10 41 p (by decide) (by decide) (by decide)) ?_ (fun j => ?_) ?_ ?_ ?_ ?_ ?_ ?_ ?_ ?_ ?_ (fun p hp' => ?_) (fun l => ?_), ?_, ?_⟩
  · exact ha u 1 (by omega) (by omega)
  · exact ha _ j (by omega) (by omega)
  · rw [h80 13 (by decide) (by decide), x80 13 (by decide)]
  · rw [mset_a _ _ (by omega), mset_s, e2, x80 14 (by decide), hat]
  · rw [e2]; omega
  · rw [h80 15 (by decide) (by decide), x80 15 (by decide)]
  · rw [mset_a _ _ (by omega), mset_k _ _ (by decide), mset_s, e5, x80 16 (by decide), s5]
  · rw [h80 17 (by decide) (by decide), e7 5 (by decide), x80 17 (by decide), s6]
  · rw [h80 18 (by decide) (by decide), e7 6 (by decide), x80 18 (by decide), s7]
  · rw [h80 19 (by decide) (by decide), e6, hX]
    split
    · exact mset_s _ _ _ _
    · exact s8
  · exact ha u 2 (by omega) (by omega)
  · obtain ⟨p1, p2, p3, p4, p5, p6, p7, p8⟩ := s10 p hp'
    unfold PR
    rw [ha _ p (by omega) (by omega), ha _ p (by omega) (by omega), ha _ p (by omega) (by omega), ha _ p (by omega) (by omega), ha _ p (by omega) (by omega), ha _ p (by omega) (by omega), ha _ p (by omega) (by omega), ha4, e8, e6,
      e10 41 p (by decide) (by decide) (by decide), e10 42 p (by decide) (by decide) (by decide), e10 43 p (by decide) (by decide) (by decide), e10 45 p (by decide) (by decide) (by decide), e10 46 p (by decide) (by decide) (by decide), e10 48 p (by decide) (by decide) (by decide), e10 39 2 (by decide) (by decide) (by decide)]
    refine ⟨p1, p2, p3, p4, p5, p6, fun z => ?_, p8⟩
    by_cases c : p = (K 51 3).toNat
    · rw [if_pos c, if_pos c]
    · rw [if_neg c, if_neg c]
      refine p7 (fun y => ?_)
      have h6 := c6 p hp' y.1
      by_cases c' : K 51 3 = K 51 6
      · omega
      · rw [if_neg c'] at z
        exact z y
  · exact ha 135 l (by omega) (by omega)
  · have hop : ∀ p : Nat, OP K p → OP (kClose K).2 p := fun p h => h.mv (e10 41 p (by decide) (by decide) (by decide)) (by rw [e10 46 p (by decide) (by decide) (by decide)]; exact Int.le_refl _)
    unfold CI
    rw [e3, e4, e6, e7 6 (by decide), e7 5 (by decide), e7 0 (by decide), e10 39 2 (by decide) (by decide) (by decide)]
    refine ⟨fun z => ?_, fun p hp' z => ?_, fun z => absurd z (by decide), fun z => absurd z (by decide), ?_, fun p hp' z => ?_, c7, c8⟩
    · exact hop _ (c2 _ (by omega) z)
    · rw [e10 45 p (by decide) (by decide) (by decide)] at z ⊢
      exact hop _ (c2 p hp' z)
    · split
      · exact Or.inl rfl
      · exact c5
    · rw [e10 41 p (by decide) (by decide) (by decide)] at z
      exact c6 p hp' z
  · unfold CD
    rw [e7 6 (by decide), e6, e10 39 2 (by decide) (by decide) (by decide), e10 41 _ (by decide) (by decide) (by decide)]
    refine ⟨hD.1, fun z => ?_⟩
    split
    · rfl
    · exact hD.2 z
/-- a comma has been read -/
theorem sim_comma (hu : Mt u) (hR : RI K) (hC : CI K) (hD : CD K) (hS : Sim I K u) (hat : I 80 14 = K 51 1) (hp : K 51 1 < K 39 1) :
    Sim (mset I 80 14 (I 80 14 + 1)) (mset (mset K 51 1 (K 51 1 + 1)) 51 2 0) u ∧ CI (mset (mset K 51 1 (K 51 1 + 1)) 51 2 0) ∧ CD (mset (mset K 51 1 (K 51 1 + 1)) 51 2 0) := by
  have hu' := mt_rng hu
  have hpos : 0 ≤ K 51 1 := hR.1.1
  obtain ⟨s1, s2, s3, s4, s5, s6, s7, s8, s9, s10, s11⟩ := id hS
  obtain ⟨c1, c2, c3, c4, c5, c6, c7, c8⟩ := id hC
  refine ⟨Sim_cnt hS rfl (fun _ => rfl) rfl rfl (fun _ => rfl) (fun _ => rfl) (mset_a _ _ (by omega)) (fun j => mset_a _ _ (by omega)) rfl ?_ ?_ rfl s5 s6 s7 s8 (mset_a _ _ (by omega)) (fun p hp' => ?_) (fun l => rfl), ?_, hD⟩
  · show I 80 14 + 1 = K 51 1 + 1
    rw [hat]
  · show 0 ≤ K 51 1 + 1 ∧ K 51 1 + 1 ≤ K 39 1
    omega
  · have h : PR (mset I 80 14 (I 80 14 + 1)) K u p := (s10 p hp').mv (fun i _ _ => mset_a _ _ (by omega))
    exact h
  · exact ⟨c1, c2, fun z => absurd (show (0 : Int) = 2 from z) (by decide), fun z => absurd (show (0 : Int) = 3 from z) (by decide), c5, c6, c7, c8⟩
/-- the sign of a deep one has been read -/
theorem sim_deep (hu : Mt u) (hR : RI K) (hC : CI K) (hD : CD K) (hS : Sim I K u) (hat : I 80 14 = K 51 1) (hp : K 51 1 < K 39 1) (h6 : K 51 6 = -1) (hA : AD u 3 (K 51 3) (mset I 80 18 (I 80 18 + 1)) J0) :
    Sim (mset (mset J0 80 14 (J0 80 14 + 1)) 80 19 1) (kDeep K) u ∧ CI (kDeep K) ∧ CD (kDeep K) ∧ J0 80 14 = K 51 1 := by
  have hu' := mt_rng hu
  have ho : -1 ≤ K 51 3 ∧ K 51 3 < K 39 2 := hR.2.2.2.2.1
  have h49 := hR.2.2.2.2.2.2.2.2.1
  have hc0 : 0 ≤ K 39 2 := hR.2.2.2.1.1
  have hpos : 0 ≤ K 51 1 := hR.1.1
  obtain ⟨f1, f2, f3, f4, f5⟩ := hA.fr hu
  have d51 : ∀ k : Nat, k = 0 ∨ k = 3 ∨ k = 4 ∨ k = 5 → (kDeep K) 51 k = K 51 k := fun k z => by
    unfold kDeep
    rw [kAdd_51 3 _ (by omega), mset_k _ _ (by omega), mset_k _ _ (by omega), mset_k _ _ (by omega)]
  have d6 : (kDeep K) 51 6 = K 39 2 := by unfold kDeep; rw [kAdd_51 3 _ (by decide)]; rfl
  have d7 : (kDeep K) 51 7 = 1 := by unfold kDeep; rw [kAdd_51 3 _ (by decide)]; rfl
  have d2 : (kDeep K) 51 2 = 2 := by unfold kDeep; rw [kAdd_51 3 _ (by decide)]; rfl
  have d1 : (kDeep K) 51 1 = K 51 1 + 1 := rfl
  have qq : ∀ a k : Nat, a ≠ 51 → (kDeep K) a k = (kAdd 3 (K 51 1 + 1) K) a k := fun a k z => by
    unfold kDeep
    exact kAdd_q (K := K) (X := mset (mset (mset K 51 6 (K 39 2)) 51 7 1) 51 2 2) 3 _ (fun a k z => by rw [mset_a _ _ z, mset_a _ _ z, mset_a _ _ z]) rfl rfl ho a k z
  have q : ∀ a k : Nat, a ≠ 51 → a ≠ 48 → a ≠ 49 → (kDeep K) a k = (kAdd 3 (K 51 1 + 1) K) a k := fun a k z _ _ => qq a k z
  have q48 : ∀ k : Nat, (kDeep K) 48 k = (kAdd 3 (K 51 1 + 1) K) 48 k := fun k => qq 48 k (by decide)
  have q49 : ∀ k : Nat, (kDeep K) 49 k = (kAdd 3 (K 51 1 + 1) K) 49 k := fun k => qq 49 k (by decide)
  have hK := KA_of (n := (K 39 2).toNat) ho rfl q (fun p z => by rw [q48]; exact kAdd_p 3 _ (by decide) z (by decide))
  obtain ⟨s1, s2, s3, s4, s5, s6, s7, s8, s9, s10, s11⟩ := id hS
  have j80 : ∀ k : Nat, k ≠ 18 → J0 80 k = I 80 k := fun k z => by rw [f1 80 k (Or.inl (by decide)), mset_k _ _ z]
  have j14 : J0 80 14 = K 51 1 := (j80 14 (by decide)).trans hat
  have mo : ∀ a k : Nat, a ≠ 80 → (mset (mset J0 80 14 (J0 80 14 + 1)) 80 19 1) a k = J0 a k := fun a k z => by rw [mset_a _ _ z, mset_a _ _ z]
  have m80 : ∀ k : Nat, k ≠ 14 → k ≠ 19 → k ≠ 18 → (mset (mset J0 80 14 (J0 80 14 + 1)) 80 19 1) 80 k = I 80 k := fun k z1 z2 z3 => by rw [mset_k _ _ z2, mset_k _ _ z1, j80 k z3]
  have hI5 : (mset I 80 18 (I 80 18 + 1)) u 2 = K 39 2 := by rw [mset_a _ _ (by omega)]; exact s9
  have hPR := PR_add (I := mset I 80 18 (I 80 18 + 1)) (J := mset (mset J0 80 14 (J0 80 14 + 1)) 80 19 1) (K' := kDeep K) (n := (K 39 2).toNat) rfl hc0 hI5 ho hC.1 hA (by rw [mset_k _ _ (by decide)]; exact hat) (fun p => mo _ _ (by omega)) (fun p => mo _ _ (by omega)) (fun p => mo _ _ (by omega)) (fun p => mo _ _ (by omega)) (fun p => mo _ _ (by omega))
    (fun p z => by rw [mo _ _ (by omega)]; exact f4 p) (fun p z => by rw [mo _ _ (by omega)]; exact f5 p) (fun p z => mo _ _ (by omega)) hK
    (fun z => absurd ⟨rfl, d7⟩ z) (fun z => absurd z (by decide))
    (by rw [mo _ _ (by omega), hA.2.2.2.2.2.2.1, if_pos (by rw [hI5]), q48, kAdd_n 3 _ (by decide)]; simp) (Or.inr (hD.2 h6)) (fun p hp' => (s10 p hp').mv (fun i _ _ => mset_a _ _ (by omega)))
  refine ⟨Sim_mk hu hR hS hK ?_ (fun j => ?_) (d51 0 (by decide)) (d51 4 (by decide)) ?_ (fun j => ?_) (m80 13 (by decide) (by decide) (by decide)) ?_ ?_ (m80 15 (by decide) (by decide) (by decide)) (m80 16 (by decide) (by decide) (by decide)) ?_ ?_ (by rw [mset_s, d7]) ?_ hPR (fun l hl => ?_), ?_, ?_, j14⟩
  · rw [q 39 1 (by decide) (by decide) (by decide)]
    exact kAdd_o 3 _ (by decide) (Or.inr (by decide)) (by decide)
  · rw [q 40 j (by decide) (by decide) (by decide)]
    exact kAdd_o 3 _ (by decide) (Or.inl (by decide)) (by decide)
  · rw [mo u 1 (by omega), f2 1 (by decide), mset_a _ _ (by omega)]
  · rw [mo (u + 1) j (by omega), f3 j, mset_a _ _ (by omega)]
  · rw [mset_k _ _ (by decide), mset_s, d1, j14]
  · rw [d1]; omega
  · rw [m80 17 (by decide) (by decide) (by decide), d51 5 (by decide), s6]
  · rw [mset_k _ _ (by decide), mset_k _ _ (by decide), f1 80 18 (Or.inl (by decide)), mset_s, d6, s7, if_pos h6, if_neg (by omega)]
    rfl
  · rw [mo u 2 (by omega), hA.1, hI5]
  · rw [mo 135 l (by decide), f1 135 l (Or.inr (by decide)), mset_a _ _ (by decide), kKind_add h49 rfl hK hl ?_]
    · exact s11 l hl
    · rw [q49]
      exact kAdd_o 3 _ (by decide) (Or.inl (by decide)) (by decide)
  · refine CI_add hR rfl hC hK (d51 3 (by decide)) (d51 0 (by decide)) (Or.inr d7) (Or.inl ⟨rfl, by rw [d6]; omega, h6⟩) (fun _ => rfl) (fun z => ?_) (fun z => ?_)
    · rw [d2] at z
      omega
    · rw [d51 5 (by decide)]
      exact hC.2.2.2.2.2.2.1 z
  · refine ⟨fun _ => ?_, fun z => ?_⟩
    · rw [d6, hK.2.2.2.2.2.2.2, hK.1, if_pos rfl]
      exact ⟨hc0, by omega, rfl⟩
    · rw [d6] at z
      omega
end SP
