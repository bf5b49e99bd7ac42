/-! ===== read of the reference ===== -/
/-- what read may write -/
def FR (u : Nat) (I J : IF) : Prop := ∀ a k : Nat, ((a ≠ 80 ∧ a ≠ 135 ∧ (a < u ∨ u + 9 < a)) ∨ (a = 80 ∧ (k < 13 ∨ 19 < k))) → J a k = I a k
theorem bByte_sb {x : Int} (h0 : 0 ≤ x) (h1 : x ≤ 255) : bByte (sb x) = sb x := by
  have h : ∀ n : Nat, n < 256 → bByte (sb (n : Int)) = sb (n : Int) := by decide +kernel
  have := h x.toNat (by omega)
  rwa [show ((x.toNat : Nat) : Int) = x by omega] at this
section RD
variable {Γ : GX} {g : AG} {I J X K Kc : IF} {u n : Nat} {w : Int}
theorem FR.rf : FR u I I := fun _ _ _ => rfl
theorem FR.tr (h1 : FR u I J) (h2 : FR u J X) : FR u I X := fun a k z => (h2 a k z).trans (h1 a k z)
theorem FR.fm (h : FM u I J) : FR u I J := fun a k z => h a k (by omega)
theorem FR.m80 {k : Nat} {x : Int} (hk : 13 ≤ k ∧ k ≤ 19) : FR u I (mset I 80 k x) := fun a j z => by
  unfold mset
  rw [if_neg (by omega)]
theorem FR.m135 {k : Nat} {x : Int} : FR u I (mset I 135 k x) := FR.fm FM.m135
theorem FR.mu {i k : Nat} {x : Int} (hi : i ≤ 9) (hu : Mt u) : FR u I (mset I (u + i) k x) := FR.fm (FM.mu hi hu)
theorem kRun_end (hR : RI K) (h : K 51 3 = -1) (h2 : 3 ≤ K 51 2) (h3 : cur K (nx K (K 51 1)) = -1) : RR K = (-1, kSkip K) := by
  have hz : K 39 1 ≤ nx K (K 51 1) := by
    by_cases z : K 39 1 ≤ nx K (K 51 1)
    · exact z
    · have e : cur K (nx K (K 51 1)) = K 40 (nx K (K 51 1)).toNat := if_neg z
      have h40 := hR.2.2.2.2.2.2.2.2.2.2.2.2 (nx K (K 51 1)).toNat (by have := nx_ge K (K 51 1); have := hR.1; omega)
      omega
  rw [RR_end hz, if_pos ⟨h, h2⟩]
theorem read_fin (hg : GOk g) (hu : Mt u) (cu : g.2.1 80 12 = some u) (hR : RI K) (hC : CI K) (hD : CD K) (hS : Sim I K u) (h2 : K 51 2 = 0) (h3 : K 51 3 = -1) (h4 : K 51 4 = 0) (h7 : K 51 7 = 0) :
    ∃ J : IF, Ev Γ 61 mX8_read 84 [some (.inr (some 80)), none, none, none, none, none, some (.inl 26)] [] (g, I) (some (.inl (RR K).1), (g, J)) ∧ FR u I J ∧ ((RR K).1 = -1 → Sim J (RR K).2 u ∧ (RR K).2 51 7 = 0) := by
  obtain ⟨b, J2, hct, hF, hres⟩ := PP_all (Γ := Γ) hg hu cu 13 60 (by decide) I K hR hC hD hS (by rw [h2]; decide) (fun z => (by rw [h2] at z; cases z)) (by rw [h4]; decide)
  have hw : kWt K = false := by
    unfold kWt
    rw [decide_eq_false_iff_not]
    exact fun z => z.1 h3
  rw [hw, h3] at hct
  rcases hres with ⟨rfl, K', ⟨g1, g2, g3, g4, g5, g6, ⟨g7, g8, g9, g10⟩, g11⟩, hS'⟩ | ⟨rfl, hbad, h0⟩
  · rw [h3] at g7
    obtain ⟨L1, L2, L3⟩ := look_step (Γ := Γ) hg hu cu g1 _ hS'.gh
    have L2' := L2.ug hS'.2.2.2.2.2.2.2.1
    by_cases c : cur K' (nx K' (K' 51 1)) = -1
    · have he := kRun_end g1 g7 g5 c
      rw [g4] at he
      refine ⟨_, v_X8_read_84 hg rfl 26 ⟨fun _ => ⟨_, _, hct, fun z => absurd z (by decide), fun _ => ⟨_, _, L1, fun _ => ⟨?_, rfl, rfl⟩, fun z => absurd c z⟩⟩, fun z => absurd (Int.le_refl _) z⟩, FR.fm (hF.tr L3), fun _ => ?_⟩
      · rw [he, L2'.2.2.2.1]
      · rw [he]
        exact ⟨L2', kSkip_7.trans (g9.trans h7)⟩
    · have hlt := cur_lt c
      have hT : kTok (cur K' (nx K' (K' 51 1))) (kSkip K') = (0, kSkip K') := by
        rw [kTok_behind (by rw [kSkip_2]; exact g5) (by rw [kSkip_2]; exact g6)]
        unfold kBehind
        split
        · unfold kClose
          rw [kSkip_3, if_pos g7]
        · rw [if_neg (fun y => by
            have := y.2
            unfold kWt at this
            rw [kSkip_3, decide_eq_true_eq] at this
            exact this.1 g7)]
      have hb := RR_bad hlt (by rw [hT])
      rw [hT, g4] at hb
      have hbn : (RR K).1 = nx K' (K' 51 1) := by rw [hb]; exact kSkip_nx
      have hwr := m_wrong (Γ := Γ) (I := mset J2 80 14 (nx K' (K' 51 1))) hg L2'.2.2.2.1
      rw [mset_s] at hwr
      have hnn := nx_ge K' (K' 51 1)
      have hp0 := g1.1.1
      refine ⟨_, v_X8_read_84 hg rfl 26 ⟨fun _ => ⟨_, _, hct, fun z => absurd z (by decide), fun _ => ⟨_, _, L1, fun z => absurd z c, fun _ => ⟨_, _, hwr, ?_, rfl, rfl⟩⟩⟩, fun z => absurd (Int.le_refl _) z⟩, FR.fm (hF.tr (L3.tr (FM.m80 (by decide)))), fun z => ?_⟩
      · rw [mset_s, hbn]
      · omega
  · refine ⟨_, v_X8_read_84 hg rfl 26 ⟨fun _ => ⟨_, _, hct, fun _ => ⟨?_, rfl, rfl⟩, fun z => absurd rfl z⟩, fun z => absurd (Int.le_refl _) z⟩, FR.fm hF, fun z => ?_⟩
    · rw [hbad]
    · omega
theorem read_84 (hg : GOk g) (hu : Mt u) (cu : g.2.1 80 12 = some u) : ∀ (n : Nat) (x : Int) (I : IF), 0 ≤ x → x ≤ 26 → n = (26 - x).toNat → (∀ (I' : IF), FR u I I' → (∀ k : Nat, I' 80 k = I 80 k) → (∀ a k : Nat, u ≤ a → a ≤ u + 9 → I' a k = I a k) → (∀ l : Nat, l < 26 → (l : Int) < x → I' 135 l = I 135 l) → (∀ l : Nat, l < 26 → x ≤ l → I' 135 l = -1) →
      ∃ J : IF, Ev Γ 61 mX8_read 84 [some (.inr (some 80)), none, none, none, none, none, some (.inl 26)] [] (g, I') (some (.inl (RR K).1), (g, J)) ∧ FR u I' J ∧ ((RR K).1 = -1 → Sim J (RR K).2 u ∧ (RR K).2 51 7 = 0)) →
    ∃ J : IF, Ev Γ 61 mX8_read 84 [some (.inr (some 80)), none, none, none, none, none, some (.inl x)] [] (g, I) (some (.inl (RR K).1), (g, J)) ∧ FR u I J ∧ ((RR K).1 = -1 → Sim J (RR K).2 u ∧ (RR K).2 51 7 = 0) := by
  have hu' := mt_rng hu
  intro n
  induction n with
  | zero =>
    intro x I h0 h1 hn hk
    have : x = 26 := by omega
    subst this
    exact hk I FR.rf (fun _ => rfl) (fun _ _ _ _ => rfl) (fun _ _ _ => rfl) (fun l h1 h2 => by omega)
  | succ n ih =>
    intro x I h0 h1 hn hk
    obtain ⟨J, hev, hF, hS⟩ := ih (x + 1) (mset I 135 x.toNat (-1)) (by omega) (by omega) (by omega) (fun I' w1 w2 w3 w4 w5 => hk I' (FR.m135.tr w1) (fun k => (w2 k).trans (mset_a _ _ (by decide))) (fun a k z1 z2 => (w3 a k z1 z2).trans (mset_a _ _ (by omega))) (fun l z1 z2 => by rw [w4 l z1 (by omega), mset_k _ _ (by omega)]) (fun l z1 z2 => by
      by_cases e : (l : Int) = x
      · rw [w4 l z1 (by omega), show l = x.toNat by omega, mset_s]
      · exact w5 l z1 (by omega)))
    refine ⟨J, v_X8_read_84 hg rfl x ⟨fun z => absurd z (by omega), fun _ => ⟨by omega, ?_⟩⟩, FR.m135.tr hF, hS⟩
    rintro _ rfl
    exact ⟨by unfold inR; omega, hev⟩
/-- READ of the reference, beside the class's reading of the same bytes -/
theorem m_read (hg : GOk g) (hu : Mt u) {b2 nb2 : Nat} (pb2 : 0 < b2) (sb2 : g.1[b2]? = some (.inr (.byte, nb2))) (lb2 : (nb2 : Int) < 100000) (hb2 : b2 ≠ 80 ∧ b2 ≠ u ∧ b2 ≠ u + 1) {fr m : Int} (hfr : 0 ≤ fr ∧ fr + m ≤ nb2)
    (hw : w = 0 ∨ w = 1 ∨ w = 2) (hm : m = Kc 39 1) (hl : 0 ≤ Kc 39 1 ∧ Kc 39 1 ≤ 240) (hby : ∀ j : Nat, (j : Int) < Kc 39 1 → I b2 (fr + j).toNat = sb (Kc 40 j) ∧ 0 ≤ Kc 40 j ∧ Kc 40 j ≤ 255) :
    ∃ J : IF, CT Γ 61 mX8_read [.inr (some 80), .inr (some u), .inr (some b2), .inl fr, .inl m, .inl w] (g, I) (some (.inl (RR (kStart w Kc)).1), (sT g u, J)) ∧ FR u I J ∧ ((RR (kStart w Kc)).1 = -1 → Sim J (RR (kStart w Kc)).2 u ∧ (RR (kStart w Kc)).2 51 7 = 0) := by
  have hu' := mt_rng hu
  subst hm
  have hgs := gS (t := u) hg
  have hR : RI (kStart w Kc) := RI_start hl (fun j hj => (hby j hj).2)
  have hC : CI (kStart w Kc) := by
    refine ⟨fun z => absurd rfl z, fun p hp => ?_, fun z => absurd (show (0 : Int) = 2 from z) (by decide), fun z => absurd (show (0 : Int) = 3 from z) (by decide), Or.inl rfl, fun p hp => ?_, fun _ => ?_, hw⟩
    · have : (p : Int) < 0 := hp
      omega
    · have : (p : Int) < 0 := hp
      omega
    · show (0 : Int) ≤ 2
      decide
  have hD : CD (kStart w Kc) := ⟨fun z => absurd rfl z, fun _ => rfl⟩
  -- the bytes
  have lp : ∀ (n : Nat) (x : Int) (I : IF), 0 ≤ x → x ≤ Kc 39 1 → n = (Kc 39 1 - x).toNat → I u 1 = Kc 39 1 → I 80 13 = w → (∀ j : Nat, (j : Int) < x → I (u + 1) j = sb (Kc 40 j)) → (∀ j : Nat, (j : Int) < Kc 39 1 → I b2 (fr + j).toNat = sb (Kc 40 j)) →
      ∃ J : IF, Ev Γ 61 mX8_read 20 [some (.inr (some 80)), some (.inr (some u)), some (.inr (some b2)), some (.inl fr), some (.inl (Kc 39 1)), none, some (.inl x)] [] (sT g u, I) (some (.inl (RR (kStart w Kc)).1), (sT g u, J)) ∧ FR u I J ∧ ((RR (kStart w Kc)).1 = -1 → Sim J (RR (kStart w Kc)).2 u ∧ (RR (kStart w Kc)).2 51 7 = 0) := by
    intro n
    induction n with
    | zero =>
      intro x I h0 h1 hn q1 q2 q3 q4
      have hx : x = Kc 39 1 := by omega
      subst hx
      generalize hI8 : mset (mset (mset (mset (mset (mset (mset I u 2 0) 80 14 0) 80 15 (-1)) 80 16 0) 80 17 0) 80 18 0) 80 19 0 = I8
      have fr8 : FR u I I8 := by
        rw [← hI8]
        exact (FR.mu (i := 0) (by decide) hu).tr ((FR.m80 (by decide)).tr ((FR.m80 (by decide)).tr ((FR.m80 (by decide)).tr ((FR.m80 (by decide)).tr ((FR.m80 (by decide)).tr (FR.m80 (by decide)))))))
      have e8 : ∀ a k : Nat, a ≠ 80 → (a ≠ u ∨ k ≠ 2) → I8 a k = I a k := fun a k z1 z2 => by
        rw [← hI8, mset_a _ _ z1, mset_a _ _ z1, mset_a _ _ z1, mset_a _ _ z1, mset_a _ _ z1, mset_a _ _ z1]
        rcases z2 with z2 | z2
        · exact mset_a _ _ z2
        · exact mset_k _ _ z2
      have e82 : I8 u 2 = 0 := by
        rw [← hI8, mset_a _ _ (by omega), mset_a _ _ (by omega), mset_a _ _ (by omega), mset_a _ _ (by omega), mset_a _ _ (by omega), mset_a _ _ (by omega), mset_s]
      have e13 : I8 80 13 = w := by
        rw [← hI8, mset_k _ _ (by decide), mset_k _ _ (by decide), mset_k _ _ (by decide), mset_k _ _ (by decide), mset_k _ _ (by decide), mset_k _ _ (by decide), mset_a _ _ (by omega)]
        exact q2
      have e14 : I8 80 14 = 0 := by rw [← hI8]; rfl
      have e15 : I8 80 15 = -1 := by rw [← hI8]; rfl
      have e16 : I8 80 16 = 0 := by rw [← hI8]; rfl
      have e17 : I8 80 17 = 0 := by rw [← hI8]; rfl
      have e18 : I8 80 18 = 0 := by rw [← hI8]; rfl
      have e19 : I8 80 19 = 0 := by rw [← hI8]; rfl
      obtain ⟨J, hev, hF, hS⟩ := read_84 (Γ := Γ) (K := kStart w Kc) hgs hu (gC g u) 26 0 I8 (by decide) (by decide) rfl (fun I' w1 w2 w3 w4 w5 => read_fin hgs hu (gC g u) hR hC hD (by
        refine ⟨⟨?_, hl, fun j hj => ⟨?_, (hby j hj).2⟩⟩, ?_, ⟨?_, ?_, ?_⟩, ?_, ?_, ?_, ?_, ?_, ?_, fun p hp => ?_, fun l hl' => ?_⟩
        · rw [w3 u 1 (by omega) (by omega), e8 u 1 (by omega) (Or.inr (by decide))]
          exact q1
        · rw [w3 (u + 1) j (by omega) (by omega), e8 (u + 1) j (by omega) (Or.inl (by omega))]
          exact q3 j hj
        · rw [w2, e13]; rfl
        · rw [w2, e14]; decide
        · rw [w2, e14]; exact hl.1
        · rw [w2, e14]; rfl
        · rw [w2, e15]
        · rw [w2, e16]; rfl
        · rw [w2, e17]; rfl
        · rw [w2, e18]; rfl
        · rw [w2, e19]; rfl
        · rw [w3 u 2 (by omega) (by omega), e82]; rfl
        · have : (p : Int) < 0 := hp
          omega
        · rw [w5 l hl' (by omega)]
          unfold kKind
          have e : (kStart w Kc) 49 ((l : Int)).toNat = -1 := by simp [kStart, hl']
          rw [e, if_pos rfl]) rfl rfl rfl rfl)
      refine ⟨J, v_X8_read_20 hgs rfl u hu b2 nb2 pb2 sb2 (by omega) fr (Kc 39 1) (Kc 39 1) ⟨fun _ => ?_, fun z => absurd (Int.le_refl _) z⟩, fr8.tr hF, hS⟩
      rintro _ rfl _ rfl _ rfl _ rfl _ rfl _ rfl _ rfl
      rw [hI8]
      exact hev
    | succ n ih =>
      intro x I h0 h1 hn q1 q2 q3 q4
      have hb := hby x.toNat (by omega)
      have q5 := q4 x.toNat (by omega)
      rw [show ((x.toNat : Nat) : Int) = x by omega] at q5
      obtain ⟨J, hev, hF, hS⟩ := ih (x + 1) (mset I (u + 1) x.toNat (sb (Kc 40 x.toNat))) (by omega) (by omega) (by omega) (by rw [mset_a _ _ (by omega)]; exact q1) (by rw [mset_a _ _ (by omega)]; exact q2) (fun j hj => by
        by_cases e : j = x.toNat
        · rw [e, mset_s]
        · rw [mset_k _ _ e]
          exact q3 j (by omega)) (fun j hj => by rw [mset_a _ _ (by omega)]; exact q4 j hj)
      refine ⟨J, v_X8_read_20 hgs rfl u hu b2 nb2 pb2 sb2 (by omega) fr (Kc 39 1) x ⟨fun z => absurd z (by omega), fun _ => ⟨by unfold inR; omega, by omega, by omega, ?_⟩⟩, (FR.mu (by decide) hu).tr hF, hS⟩
      rw [q5, bByte_sb hb.2.1 hb.2.2]
      rintro _ rfl
      exact ⟨by unfold inR; omega, hev⟩
  have i1 : ∀ a k : Nat, a ≠ 80 → (a ≠ u ∨ k ≠ 1) → (mset (mset I 80 13 w) u 1 (Kc 39 1)) a k = I a k := fun a k z1 z2 => by
    rcases z2 with z2 | z2
    · rw [mset_a _ _ z2, mset_a _ _ z1]
    · rw [mset_k _ _ z2, mset_a _ _ z1]
  obtain ⟨J, hev, hF, hS⟩ := lp _ 0 (mset (mset I 80 13 w) u 1 (Kc 39 1)) (by decide) hl.1 rfl (mset_s _ _ _ _) (by rw [mset_a _ _ (by omega), mset_s]) (fun j hj => by omega) (fun j hj => by
    rw [i1 b2 _ hb2.1 (Or.inl hb2.2.1)]
    exact (hby j hj).1)
  refine ⟨J, CT.of (R := (some (.inl (RR (kStart w Kc)).1), (sT g u, J))) oX8_read (Nat.le_of_ble_eq_true rfl) (Nat.le_refl _) (Nat.le_refl _) (v_X8_read_0 (gf := sT g u) hg rfl u hu b2 nb2 pb2 sb2 (by omega) fr (Kc 39 1) w ?_), (FR.m80 (by decide)).tr ((FR.mu (i := 0) (by decide) hu).tr hF), hS⟩
  rintro _ rfl _ rfl
  exact hev
end RD
