/-! ===== piece and term of the reference, beside the class's machine ===== -/
section SR
variable {Γ : GX} {g : AG} {I I0 J0 J X K K' K'' : IF} {u n : Nat} {kd e c : Int}
theorem cur_lt (h : cur K e ≠ -1) : e < K 39 1 := by
  by_cases z : K 39 1 ≤ e
  · exact absurd (if_pos z) h
  · omega
theorem look_step (hg : GOk g) (hu : Mt u) (cu : g.2.1 80 12 = some u) (hR : RI K) (y : Int) (hS : Sim (mset I 80 19 y) K u) :
    CT Γ 0 mX8_look [.inr (some 80)] (g, I) (some (.inl (cur K (nx K (K 51 1)))), (g, mset I 80 14 (nx K (K 51 1)))) ∧ Sim (mset (mset I 80 14 (nx K (K 51 1))) 80 19 y) (kSkip K) u ∧ FM u I (mset I 80 14 (nx K (K 51 1))) := by
  have hu' := mt_rng hu
  obtain ⟨s1, -, ⟨s3, s4, s5⟩, -⟩ := id hS
  have e14 : (mset I 80 19 y) 80 14 = I 80 14 := rfl
  rw [e14] at s3 s4 s5
  have hB : BR I K u := s1.mv (mset_a _ _ (by omega)).symm (fun j => (mset_a _ _ (by omega)).symm)
  have h1 := m_look (Γ := Γ) hg hu cu hB s3 s4
  have h2 := hS.skip hu hR
  rw [e14] at h2
  rw [s5] at h1 h2
  refine ⟨h1, ?_, FM.m80 (by decide)⟩
  rw [mset_comm (Or.inr (by decide))]
  exact h2
theorem RR_wrong (hR : RI K) (h1 : nx K (K 51 1) < K 39 1 → kTok (cur K (nx K (K 51 1))) (kSkip K) = (0, kSkip K)) (h2 : ¬ (K 51 3 = -1 ∧ 3 ≤ K 51 2)) : (RR K).1 = nx K (K 51 1) := by
  by_cases c : nx K (K 51 1) < K 39 1
  · have h := h1 c
    rw [RR_bad c (by rw [h]), h]
    exact kSkip_nx
  · have := nx_le (K := K) hR.1.2.1
    rw [RR_end (by omega), if_neg h2]
    show K 39 1 = _
    omega
/-- what is kept -/
def FK (K K' : IF) : Prop := K' 51 0 = K 51 0 ∧ K' 39 1 = K 39 1 ∧ (∀ j : Nat, K' 40 j = K 40 j) ∧ K 51 1 ≤ K' 51 1 ∧ K 39 2 ≤ K' 39 2 ∧ ∀ p : Nat, (p : Int) < K 39 2 → K' 41 p = K 41 p ∧ K' 45 p = K 45 p
theorem FK.tr (h1 : FK K K') (h2 : FK K' K'') : FK K K'' := by
  obtain ⟨a1, a2, a3, a4, a5, a6⟩ := h1
  obtain ⟨b1, b2, b3, b4, b5, b6⟩ := h2
  exact ⟨b1.trans a1, b2.trans a2, fun j => (b3 j).trans (a3 j), by omega, by omega, fun p hp => ⟨((b6 p (by omega)).1).trans (a6 p hp).1, ((b6 p (by omega)).2).trans (a6 p hp).2⟩⟩
theorem FK.skip (hR : RI K) : FK K (kSkip K) := by
  refine ⟨kSkip_o (Or.inr (by decide)), kSkip_o (Or.inl (by decide)), fun j => kSkip_o (Or.inl (by decide)), (kSkip_ge hR).1, by rw [kSkip_o (Or.inl (by decide))]; exact Int.le_refl _, fun p hp => ⟨kSkip_o (Or.inl (by decide)), kSkip_o (Or.inl (by decide))⟩⟩
theorem FK.add (hc : 0 ≤ K 39 2) (hn : n = (K 39 2).toNat) (hK : KA kd n K K') (h0 : K' 51 0 = K 51 0) (h1 : K' 39 1 = K 39 1) (h2 : ∀ j : Nat, K' 40 j = K 40 j) (h3 : K 51 1 ≤ K' 51 1) : FK K K' := by
  obtain ⟨k1, -, -, -, k5, -, -, kc⟩ := hK
  exact ⟨h0, h1, h2, h3, by omega, fun p hp => ⟨by rw [k1, if_neg (by omega)], by rw [k5, if_neg (by omega)]⟩⟩
/-- a piece has been read to its end -/
def GE (K K' : IF) : Prop := RI K' ∧ CI K' ∧ CD K' ∧ RR K' = RR K ∧ 3 ≤ K' 51 2 ∧ (K' 51 2 = 3 → cur K' (nx K' (K' 51 1)) ≠ 40) ∧ (K' 51 3 = K 51 3 ∧ K' 51 4 = K 51 4 ∧ K' 51 7 = K 51 7 ∧ K 51 1 < K' 51 1) ∧ FK K K'
/-- the closing of the piece that is open has been read -/
def GC (K K' : IF) : Prop := RI K' ∧ CI K' ∧ CD K' ∧ RR K' = RR K ∧ K' 51 2 = 4 ∧ (K' 51 3 = K 45 (K 51 3).toNat ∧ K' 51 4 = K 51 4 - 1 ∧ K' 51 7 = (if K 51 3 = K 51 6 then 0 else K 51 7) ∧ K 51 1 < K' 51 1) ∧ FK K K'
def PE (u : Nat) (I K : IF) (b : Int) (J : IF) : Prop := FM u I J ∧ ((b = 1 ∧ ∃ K', GE K K' ∧ Sim J K' u) ∨ (b = 0 ∧ J 80 15 = (RR K).1 ∧ 0 ≤ (RR K).1))
def PP (Γ : GX) (g : AG) (u m : Nat) : Prop := ∀ d : Nat, 2 * m + 3 ≤ d → ∀ I K : IF, RI K → CI K → CD K → Sim I K u → K 51 2 < 2 → (K 51 2 = 1 → cur K (nx K (K 51 1)) ≠ 41) → 12 - K 51 4 < m →
  ∃ (b : Int) (J : IF), CT Γ d mX8_piece [.inr (some 80), .inl (K 51 3), .inl (bI (kWt K))] (g, I) (some (.inl b), (g, J)) ∧ PE u I K b J
theorem kTok_close (h : K 51 2 = 1 ∨ 3 ≤ K 51 2) : kTok 41 K = kClose K := by
  unfold kTok
  rw [if_neg (by omega)]
  rcases h with h | h
  · rw [if_pos h, if_pos rfl]
  · rw [if_neg (by omega), if_neg (by omega)]
    split
    · rw [if_neg (by decide)]
      unfold kBehind
      rw [if_pos rfl]
    · unfold kBehind
      rw [if_pos rfl]
theorem kTok_behind (h : 3 ≤ K 51 2) (h3 : K 51 2 = 3 → c ≠ 40) : kTok c K = kBehind c K := by
  unfold kTok
  rw [if_neg (by omega), if_neg (by omega), if_neg (by omega)]
  split
  · next z => rw [if_neg (h3 z)]
  · rfl
theorem kTok_piece (h : K 51 2 < 2) (h0 : 0 ≤ K 51 2) (h3 : K 51 2 = 1 → c ≠ 41) : kTok c K = kPiece c K := by
  unfold kTok
  split
  · rfl
  · rw [if_pos (by omega), if_neg (h3 (by omega))]
theorem kSkip_2 : (kSkip K) 51 2 = K 51 2 := kSkip_o (Or.inr (by decide))
theorem kSkip_3 : (kSkip K) 51 3 = K 51 3 := kSkip_o (Or.inr (by decide))
theorem kSkip_4 : (kSkip K) 51 4 = K 51 4 := kSkip_o (Or.inr (by decide))
theorem kSkip_6 : (kSkip K) 51 6 = K 51 6 := kSkip_o (Or.inr (by decide))
theorem kSkip_7 : (kSkip K) 51 7 = K 51 7 := kSkip_o (Or.inr (by decide))
theorem close_step (hu : Mt u) (hR : RI K) (hC : CI K) (hD : CD K) (hS : Sim J (kSkip K) u) (hat : J 80 14 = nx K (K 51 1)) (hc : cur K (nx K (K 51 1)) = 41) (ho : K 51 3 ≠ -1) (hst : K 51 2 = 1 ∨ 3 ≤ K 51 2)
    (hX : X = if K 51 3 = K 51 6 then mset J 80 19 0 else J) :
    ∃ K', GC K K' ∧ Sim (mset (mset (mset X 80 16 (X 80 16 - 1)) 80 14 (X 80 14 + 1)) (u + 4) (K 51 3).toNat (X 80 14 + 1)) K' u := by
  have hlt : nx K (K 51 1) < K 39 1 := cur_lt (by rw [hc]; decide)
  have hT : kTok (cur K (nx K (K 51 1))) (kSkip K) = kClose (kSkip K) := by
    rw [hc]
    exact kTok_close (by rw [kSkip_2]; exact hst)
  have ho' : (kSkip K) 51 3 ≠ -1 := by rw [kSkip_3]; exact ho
  obtain ⟨e1, e2, e3, e4, e5, e6, e7, e8, e9, e10⟩ := kClose_eff ho'
  obtain ⟨t1, t2, t3⟩ := RR_tok hR hlt (by rw [hT]; exact e1)
  rw [hT] at t1 t2 t3
  obtain ⟨q1, q2, q3⟩ := sim_close (X := X) hu hR.skip hC.skip hD.skip hS (by rw [kSkip_nx]; exact hat) (by rw [kSkip_nx, kSkip_o (K := K) (a := 39) (Or.inl (by decide))]; exact hlt) ho' (by rw [kSkip_3, kSkip_6]; exact hX)
  rw [kSkip_3] at q1
  rw [kSkip_3, kSkip_o (K := K) (a := 45) (Or.inl (by decide))] at e4
  rw [kSkip_4] at e5
  rw [kSkip_3, kSkip_6, kSkip_7] at e6
  have hge := nx_ge K (K 51 1)
  refine ⟨(kClose (kSkip K)).2, ⟨t2, q2, q3, t1.symm, e3, ⟨e4, e5, e6, by omega⟩, ?_⟩, q1⟩
  refine (FK.skip hR).tr ⟨e7 0 (by decide), e10 39 1 (by decide) (by decide) (by decide), fun j => e10 40 j (by decide) (by decide) (by decide), by rw [kSkip_nx]; omega, by rw [e10 39 2 (by decide) (by decide) (by decide)]; exact Int.le_refl _, fun p hp => ⟨e10 41 p (by decide) (by decide) (by decide), e10 45 p (by decide) (by decide) (by decide)⟩⟩
theorem Sim.gh (h : Sim I K u) : Sim (mset I 80 19 (K 51 7)) K u := by
  rw [mset_id h.2.2.2.2.2.2.2.1.symm]
  exact h
theorem Sim.ug (h : Sim (mset I 80 19 e) K u) (h1 : I 80 19 = e) : Sim I K u := by
  rw [mset_id h1.symm] at h
  exact h
/-- the rest of a term, from behind one of its terms on -/
theorem term_128 (hg : GOk g) (hu : Mt u) (cu : g.2.1 80 12 = some u) {m d : Nat} (hPP : PP Γ g u m) (hd : 2 * m + 3 ≤ d) : ∀ (k : Nat) (I K : IF), (K 39 1 - K 51 1).toNat ≤ k → RI K → CI K → CD K → Sim I K u → 3 ≤ K 51 2 → (K 51 2 = 3 → cur K (nx K (K 51 1)) ≠ 40) → K 51 3 ≠ -1 → K 41 (K 51 3).toNat = 0 → 12 - K 51 4 < m →
    ∃ (b : Int) (J : IF), Ev Γ (d + 1) mX8_term 128 [some (.inr (some 80)), none, some (.inl (K 51 3))] [] (g, I) (some (.inl b), (g, J)) ∧ FM u I J ∧ ((b = 1 ∧ ∃ K', GC K K' ∧ Sim J K' u) ∨ (b = 0 ∧ J 80 15 = (RR K).1 ∧ 0 ≤ (RR K).1)) := by
  intro k
  induction k with
  | zero =>
    intro I K hk hR hC hD hS hst hs3 ho hkd hdp
    have hcur : cur K (nx K (K 51 1)) = -1 := by
      by_cases z : cur K (nx K (K 51 1)) = -1
      · exact z
      · have := cur_lt z
        have := nx_ge K (K 51 1)
        omega
    obtain ⟨L1, L2, L3⟩ := look_step (Γ := Γ) hg hu cu hR _ hS.gh
    have L2' := L2.ug hS.2.2.2.2.2.2.2.1
    obtain ⟨M1, M2, M3⟩ := look_step (Γ := Γ) hg hu cu hR.skip _ L2'.gh
    have hn2 : nx (kSkip K) ((kSkip K) 51 1) = nx K (K 51 1) := by
      rw [nx_congr (K := K) (kSkip_o (Or.inl (by decide))) (fun j => kSkip_o (Or.inl (by decide))), kSkip_nx]
      exact nx_idem hR.1.2.1
    rw [hn2, cur_congr (K := K) (kSkip_o (Or.inl (by decide))) (fun j => kSkip_o (Or.inl (by decide))), hcur, mset_mset] at M1
    rw [hcur] at L1
    have hw := m_wrong (Γ := Γ) (I := mset I 80 14 (nx K (K 51 1))) hg ((mset_k _ _ (by decide)).trans hS.2.2.2.1)
    rw [mset_s] at hw
    have hRw : (RR K).1 = nx K (K 51 1) := RR_wrong hR (fun z => by
      rw [show cur K (nx K (K 51 1)) = K 40 (nx K (K 51 1)).toNat from if_neg (by omega)] at hcur
      have h40 := hR.2.2.2.2.2.2.2.2.2.2.2.2 (nx K (K 51 1)).toNat (by have := nx_ge K (K 51 1); have := hR.1; omega)
      omega) (fun z => ho z.1)
    have hnn := nx_ge K (K 51 1)
    have hp0 := hR.1.1
    refine ⟨0, mset (mset I 80 14 (nx K (K 51 1))) 80 15 (nx K (K 51 1)), ?_, L3.tr (FM.m80 (by decide)), Or.inr ⟨rfl, by rw [mset_s]; exact hRw.symm, by rw [hRw]; omega⟩⟩
    exact v_X8_term_128 (by omega) hg (K 51 3) ⟨_, _, L1, fun _ => ⟨_, _, M1, fun z => absurd z (by decide), fun _ => ⟨_, _, hw, Or.inl rfl, rfl, rfl⟩⟩, fun z => absurd z (by decide)⟩
  | succ k ih =>
    intro I K hk hR hC hD hS hst hs3 ho hkd hdp
    obtain ⟨L1, L2, L3⟩ := look_step (Γ := Γ) hg hu cu hR _ hS.gh
    have L2' := L2.ug hS.2.2.2.2.2.2.2.1
    obtain ⟨M1, M2, M3⟩ := look_step (Γ := Γ) hg hu cu hR.skip _ L2'.gh
    have hn2 : nx (kSkip K) ((kSkip K) 51 1) = nx K (K 51 1) := by
      rw [nx_congr (K := K) (kSkip_o (Or.inl (by decide))) (fun j => kSkip_o (Or.inl (by decide))), kSkip_nx]
      exact nx_idem hR.1.2.1
    rw [hn2, cur_congr (K := K) (kSkip_o (Or.inl (by decide))) (fun j => kSkip_o (Or.inl (by decide))), mset_mset] at M1
    have hnn := nx_ge K (K 51 1)
    have hnl := nx_le (K := K) hR.1.2.1
    have hp0 := hR.1.1
    have hlen := hR.1.2.2
    have hdep := hR.2.2.1
    have hor := hR.2.2.2.2.1
    have hcn := hR.2.2.2.1
    have i15 : (mset I 80 14 (nx K (K 51 1))) 80 15 = -1 := (mset_k _ _ (by decide)).trans hS.2.2.2.1
    have i16 : (mset I 80 14 (nx K (K 51 1))) 80 16 = K 51 4 := (mset_k _ _ (by decide)).trans hS.2.2.2.2.1
    have hkB : kTok (cur K (nx K (K 51 1))) (kSkip K) = kBehind (cur K (nx K (K 51 1))) (kSkip K) := kTok_behind (by rw [kSkip_2]; exact hst) (by rw [kSkip_2]; exact hs3)
    have hWt : kWt (kSkip K) = true := by
      unfold kWt
      rw [kSkip_3, kSkip_o (K := K) (a := 41) (Or.inl (by decide)), decide_eq_true_eq]
      exact ⟨ho, hkd⟩
    by_cases c44 : cur K (nx K (K 51 1)) = 44
    · -- one term more
      have hlt : nx K (K 51 1) < K 39 1 := cur_lt (by rw [c44]; decide)
      have hT : kTok (cur K (nx K (K 51 1))) (kSkip K) = (1, mset (mset (kSkip K) 51 1 ((kSkip K) 51 1 + 1)) 51 2 0) := by
        rw [hkB, c44]
        unfold kBehind
        rw [if_neg (by decide), if_pos ⟨rfl, hWt⟩]
      obtain ⟨t1, t2, t3⟩ := RR_tok hR hlt (by rw [hT])
      rw [hT] at t1 t2 t3
      obtain ⟨q1, q2, q3⟩ := sim_comma hu hR.skip hC.skip hD.skip L2' (by rw [mset_s, kSkip_nx]) (by rw [kSkip_nx, kSkip_o (K := K) (a := 39) (Or.inl (by decide))]; exact hlt)
      dsimp only at t1 t2 t3
      generalize hK2 : mset (mset (kSkip K) 51 1 ((kSkip K) 51 1 + 1)) 51 2 0 = K2 at t1 t2 t3 q1 q2 q3
      have k51 : ∀ j : Nat, j ≠ 1 → j ≠ 2 → K2 51 j = K 51 j := fun j z1 z2 => by rw [← hK2, mset_k _ _ z2, mset_k _ _ z1, kSkip_o (Or.inr z1)]
      have ka : ∀ a j : Nat, a ≠ 51 → K2 a j = K a j := fun a j z => by rw [← hK2, mset_a _ _ z, mset_a _ _ z, kSkip_o (Or.inl z)]
      have k2 : K2 51 2 = 0 := by rw [← hK2, mset_s]
      obtain ⟨b, J1, hct, hF, hres⟩ := hPP d hd _ K2 t2 q2 q3 q1 (by rw [k2]; decide) (fun z => by rw [k2] at z; cases z) (by rw [k51 4 (by decide) (by decide)]; exact hdp)
      have hw2 : kWt K2 = true := by
        unfold kWt
        rw [k51 3 (by decide) (by decide), ka 41 _ (by decide), decide_eq_true_eq]
        exact ⟨ho, hkd⟩
      rw [hw2, k51 3 (by decide) (by decide), mset_s, mset_mset] at hct
      have hFK2 : FK K K2 := ⟨k51 0 (by decide) (by decide), ka 39 1 (by decide), fun j => ka 40 j (by decide), by omega, by rw [ka 39 2 (by decide)]; exact Int.le_refl _, fun p _ => ⟨ka 41 p (by decide), ka 45 p (by decide)⟩⟩
      rw [mset_s, mset_mset] at hF
      rcases hres with ⟨rfl, K3, ⟨g1, g2, g3, g4, g5, g6, ⟨g7, g8, g9, g10⟩, g11⟩, hS3⟩ | ⟨rfl, hbad, h0⟩
      · have hFK3 := hFK2.tr g11
        have e3 : K3 51 3 = K 51 3 := g7.trans (k51 3 (by decide) (by decide))
        obtain ⟨b, J2, hev, hF2, hres⟩ := ih J1 K3 (by have := hFK3.2.1; omega) g1 g2 g3 hS3 g5 g6 (by rw [e3]; exact ho) (by rw [e3, (hFK3.2.2.2.2.2 _ (by omega)).1]; exact hkd) (by rw [g8, k51 4 (by decide) (by decide)]; exact hdp)
        rw [e3] at hev
        refine ⟨b, J2, ?_, L3.tr ((FM.m80 (by decide)).tr ((by rw [mset_mset]; exact hF : FM u (mset (mset I 80 14 (nx K (K 51 1))) 80 14 (nx K (K 51 1) + 1)) J1).tr hF2)), ?_⟩
        · refine v_X8_term_128 (by omega) hg (K 51 3) ⟨_, _, L1, fun z => absurd c44 z, fun _ => ⟨by rw [mset_s]; unfold inR; omega, ?_⟩⟩
          rw [mset_s, mset_mset]
          rintro _ rfl
          exact ⟨_, _, hct, fun _ => hev, fun z => absurd z (by decide)⟩
        · rcases hres with ⟨rfl, K4, ⟨p1, p2, p3, p4, p5, ⟨p6, p7, p8, p9⟩, p10⟩, hS4⟩ | ⟨rfl, hbad, h0⟩
          · refine Or.inl ⟨rfl, K4, ⟨p1, p2, p3, p4.trans (g4.trans t1.symm), p5, ⟨?_, ?_, ?_, by omega⟩, hFK3.tr p10⟩, hS4⟩
            · rw [p6, e3, (hFK3.2.2.2.2.2 _ (by omega)).2]
            · rw [p7, g8, k51 4 (by decide) (by decide)]
            · have h6 : ∀ (Y : IF), CD Y → Y 51 3 = K 51 3 → Y 41 (K 51 3).toNat = 0 → ¬ Y 51 3 = Y 51 6 := fun Y hY h1 h2 h3 => by
                have := (hY.1 (by omega)).2.2
                rw [← h3, h1] at this
                omega
              rw [p8, if_neg (h6 K3 g3 e3 (by rw [(hFK3.2.2.2.2.2 _ (by omega)).1]; exact hkd)), if_neg (h6 K hD rfl hkd), g9, k51 7 (by decide) (by decide)]
          · exact Or.inr ⟨rfl, by rw [hbad, g4, t1], by rw [t1, ← g4]; exact h0⟩
      · refine ⟨0, J1, ?_, L3.tr ((FM.m80 (by decide)).tr (by rw [mset_mset]; exact hF : FM u (mset (mset I 80 14 (nx K (K 51 1))) 80 14 (nx K (K 51 1) + 1)) J1)), Or.inr ⟨rfl, by rw [hbad, t1], by rw [t1]; exact h0⟩⟩
        refine v_X8_term_128 (by omega) hg (K 51 3) ⟨_, _, L1, fun z => absurd c44 z, fun _ => ⟨by rw [mset_s]; unfold inR; omega, ?_⟩⟩
        rw [mset_s, mset_mset]
        rintro _ rfl
        exact ⟨_, _, hct, fun z => absurd rfl z, fun _ => ⟨rfl, rfl⟩⟩
    · by_cases c41 : cur K (nx K (K 51 1)) = 41
      · have hne : ¬ K 51 3 = K 51 6 := fun h3 => by
          have := (hD.1 (by omega)).2.2
          rw [← h3] at this
          omega
        obtain ⟨K', hG, hS'⟩ := close_step (X := mset I 80 14 (nx K (K 51 1))) hu hR hC hD L2' (mset_s _ _ _ _) c41 ho (Or.inr hst) (by rw [if_neg hne])
        rw [i16, mset_s] at hS'
        refine ⟨1, _, ?_, ?_, Or.inl ⟨rfl, K', hG, hS'⟩⟩
        · refine v_X8_term_128 (by omega) hg (K 51 3) ⟨_, _, L1, fun _ => ⟨_, _, M1, fun _ => ?_, fun z => absurd c41 z⟩, fun z => absurd z c44⟩
          refine v_X8_term_172 (by omega) hg (K 51 3) u hu cu ⟨by rw [i16]; unfold inR; omega, ?_⟩
          rw [i16]
          rintro _ rfl
          have e14 : mset (mset I 80 14 (nx K (K 51 1))) 80 16 (K 51 4 - 1) 80 14 = nx K (K 51 1) := by rw [mset_k _ _ (by decide), mset_s]
          rw [e14]
          refine ⟨by unfold inR; omega, ?_⟩
          rintro _ rfl
          refine ⟨by omega, ?_⟩
          rw [mset_s]
          rintro _ rfl
          exact ⟨rfl, rfl⟩
        · exact L3.tr ((FM.m80 (by decide)).tr ((FM.m80 (by decide)).tr (FM.mu (by decide) hu)))
      · have hw := m_wrong (Γ := Γ) (I := mset I 80 14 (nx K (K 51 1))) hg i15
        rw [mset_s] at hw
        have hRw : (RR K).1 = nx K (K 51 1) := RR_wrong hR (fun z => by
          rw [hkB]
          unfold kBehind
          rw [if_neg c41, if_neg (fun z => c44 z.1)]) (fun z => ho z.1)
        refine ⟨0, mset (mset I 80 14 (nx K (K 51 1))) 80 15 (nx K (K 51 1)), ?_, L3.tr (FM.m80 (by decide)), Or.inr ⟨rfl, by rw [mset_s]; exact hRw.symm, by rw [hRw]; omega⟩⟩
        exact v_X8_term_128 (by omega) hg (K 51 3) ⟨_, _, L1, fun _ => ⟨_, _, M1, fun z => absurd z c41, fun _ => ⟨_, _, hw, Or.inl rfl, rfl, rfl⟩⟩, fun z => absurd z c44⟩
end SR
