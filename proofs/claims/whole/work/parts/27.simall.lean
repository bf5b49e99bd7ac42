/-! ===== piece of the reference, all of it ===== -/
section SZ
variable {Γ : GX} {g : AG} {I I0 J0 J X K K' K'' : IF} {u n : Nat} {kd e c : Int}
theorem kPiece_none (h1 : atomb c = false) (h2 : c = 63 → K 51 0 = 0) (h3 : c = 42 → kRow K = false) (h4 : c = 64 → ¬ (K 51 0 = 1 ∧ K 51 6 = -1)) : kPiece c K = (0, K) := by
  unfold kPiece
  rw [if_neg (by rw [h1]; decide)]
  split
  · next z => rw [if_neg (by rw [h2 z]; exact fun y => y rfl)]
  · split
    · next z => rw [if_neg (by rw [h3 z]; decide)]
    · split
      · next z => rw [if_neg (h4 z)]
      · rfl
theorem PP_succ (hg : GOk g) (hu : Mt u) (cu : g.2.1 80 12 = some u) {m : Nat} (hPP : PP Γ g u m) : PP Γ g u (m + 1) := by
  intro d0 hd0 I K hR hC hD hS hst hs1 hdp
  obtain ⟨d, rfl⟩ : ∃ d, d0 = d + 1 := ⟨d0 - 1, by omega⟩
  obtain ⟨d', rfl⟩ : ∃ d', d = d' + 1 := ⟨d - 1, by omega⟩
  have hu' := mt_rng hu
  have hst0 := hR.2.1.1
  obtain ⟨L1, L2, L3⟩ := look_step (Γ := Γ) hg hu cu hR _ hS.gh
  have L2' := L2.ug hS.2.2.2.2.2.2.2.1
  have hat : (mset I 80 14 (nx K (K 51 1))) 80 14 = nx K (K 51 1) := mset_s _ _ _ _
  generalize hI1 : mset I 80 14 (nx K (K 51 1)) = I1 at L1 L2' L3 hat
  have k0 : (kSkip K) 51 0 = K 51 0 := kSkip_o (Or.inr (by decide))
  have k5 : (kSkip K) 51 5 = K 51 5 := kSkip_o (Or.inr (by decide))
  have i13 : I1 80 13 = K 51 0 := L2'.2.1.trans k0
  have i15 : I1 80 15 = -1 := L2'.2.2.2.1
  have i17 : I1 80 17 = K 51 5 := L2'.2.2.2.2.2.1.trans k5
  have i18 : I1 80 18 = (if K 51 6 = -1 then 0 else 1) := by rw [L2'.2.2.2.2.2.2.1, kSkip_6]
  have i19 : I1 80 19 = K 51 7 := L2'.2.2.2.2.2.2.2.1.trans kSkip_7
  have hWt : kWt (kSkip K) = kWt K := by
    unfold kWt
    rw [kSkip_3, kSkip_o (K := K) (a := 41) (Or.inl (by decide))]
  have hTp : kTok (cur K (nx K (K 51 1))) (kSkip K) = kPiece (cur K (nx K (K 51 1))) (kSkip K) := kTok_piece (by rw [kSkip_2]; exact hst) (by rw [kSkip_2]; exact hst0) (by rw [kSkip_2]; exact hs1)
  have hn3 : ¬ (K 51 3 = -1 ∧ 3 ≤ K 51 2) := fun z => by omega
  have hrow : kRow (kSkip K) = (decide (K 51 0 ≠ 0) && kWt K && (decide (K 51 0 = 2) || (decide (K 51 5 < 2) && decide (K 51 7 = 0)))) := by
    unfold kRow
    rw [k0, k5, kSkip_7, hWt]
  have h5 : K 51 0 = 1 → K 51 5 ≤ 2 := hC.2.2.2.2.2.2.1
  have h50 := hR.2.2.2.2.2.2.2.2.2.1.1
  have h7 := hC.2.2.2.2.1
  have h08 := hC.2.2.2.2.2.2.2
  have hcnt := hR.2.2.2.1.2
  have h5c := hR.2.2.2.2.2.2.2.2.2.1.2
  by_cases ca : atomb (cur K (nx K (K 51 1))) = true
  · obtain ⟨b, J, hct, hpe⟩ := sim_term (Γ := Γ) (d := d') hg hu cu hPP (by omega) hR hC hD L2' hat hst hs1 (by omega) ca
    refine ⟨b, J, CT.of (R := (some (.inl b), (g, J))) oX8_piece (Nat.le_of_ble_eq_true rfl) (Nat.le_refl _) (Nat.le_refl _) (v_X8_piece_0 (by omega) hg (K 51 3) (bI (kWt K)) ⟨_, _, L1, _, _, m_isAtom hg _, fun z => absurd z (by rw [ca]; decide), fun _ => ⟨_, _, hct, ?_, rfl, rfl⟩⟩), hpe.fm L3⟩
    rcases hpe.2 with ⟨z, -⟩ | ⟨z, -⟩
    · exact Or.inr z
    · exact Or.inl z
  · have ca' : atomb (cur K (nx K (K 51 1))) = false := by simpa using ca
    -- all ways through pc 38
    have way : ∀ (b : Int) (J : IF), (K 51 0 ≠ 0 → cur K (nx K (K 51 1)) = 63 → ∃ J10 : IF, CT Γ 1 mX8_lettered [.inr (some 80), .inl 1, .inl (K 51 3)] (g, I1) (some (.inl b), (g, J10)) ∧ ((b = 0 ∨ b = 1) ∧ J = J10)) →
        ((K 51 0 = 0 ∨ cur K (nx K (K 51 1)) ≠ 63) → Ev Γ (d' + 1 + 1) mX8_piece 38 [some (.inr (some 80)), some (.inl (K 51 3)), some (.inl (bI (kWt K))), some (.inl (cur K (nx K (K 51 1)))), none] [] (g, I1) (some (.inl b), (g, J))) →
        CT Γ (d' + 1 + 1) mX8_piece [.inr (some 80), .inl (K 51 3), .inl (bI (kWt K))] (g, I) (some (.inl b), (g, J)) := by
      intro b J w1 w2
      refine CT.of (R := (some (.inl b), (g, J))) oX8_piece (Nat.le_of_ble_eq_true rfl) (Nat.le_refl _) (Nat.le_refl _) (v_X8_piece_0 (by omega) hg (K 51 3) (bI (kWt K)) ⟨_, _, L1, _, _, m_isAtom hg _, fun _ => ⟨fun z => w2 (Or.inl (i13 ▸ z)), fun z => ⟨fun y => w2 (Or.inr y), fun y => ?_⟩⟩, fun z => absurd (by rw [ca']; rfl) z⟩)
      obtain ⟨J10, y1, y2, y3⟩ := w1 (i13 ▸ z) y
      exact ⟨b, J10, y1, y2, rfl, y3⟩
    -- where both are wrong
    have wr : (cur K (nx K (K 51 1)) = 63 → K 51 0 = 0) → (cur K (nx K (K 51 1)) = 42 → kRow (kSkip K) = false) → (cur K (nx K (K 51 1)) = 64 → ¬ (K 51 0 = 1 ∧ K 51 6 = -1)) →
        CT Γ 0 mX8_wrong [.inr (some 80)] (g, I1) (some (.inl 0), (g, mset I1 80 15 (nx K (K 51 1)))) ∧ PE u I1 K 0 (mset I1 80 15 (nx K (K 51 1))) := fun w1 w2 w3 =>
      wrong_here hg hR i15 hat (fun _ => by rw [hTp]; exact kPiece_none ca' (by rw [k0]; exact w1) w2 (by rw [k0, kSkip_6]; exact w3)) hn3
    by_cases c63 : cur K (nx K (K 51 1)) = 63
    · have hlt : nx K (K 51 1) < K 39 1 := cur_lt (by rw [c63]; decide)
      by_cases c0 : K 51 0 = 0
      · obtain ⟨hw, hpe⟩ := wr (fun _ => c0) (fun z => by rw [z] at c63; cases c63) (fun z => by rw [z] at c63; cases c63)
        refine ⟨0, _, way _ _ (fun z => absurd c0 z) (fun _ => ?_), hpe.fm L3⟩
        refine v_X8_piece_38 (by omega) hg _ _ _ ⟨fun _ => v_X8_piece_100 (by omega) hg _ _ u hu cu ⟨fun _ => v_X8_piece_250 (by omega) hg ⟨_, _, hw, Or.inl rfl, rfl, rfl⟩, fun z => absurd (i13.symm.trans z) (by omega)⟩, fun z => absurd (i13.trans c0) z⟩
      · obtain ⟨b, J, hct, h01, hpe⟩ := let_here (Γ := Γ) (kd := 1) (I0 := I1) hg hu cu hR hC hD L2' hat hst hlt (Or.inl rfl) (fun z => (by cases z)) (by rw [if_neg (by decide)]; exact (mset_id i17.symm).symm) (by
          rw [hTp]
          unfold kPiece
          rw [if_neg (by rw [ca']; decide), if_pos c63, if_pos (by rw [k0]; exact c0)])
        exact ⟨b, J, way _ _ (fun _ _ => ⟨J, hct, h01, rfl⟩) (fun z => z.elim (fun y => absurd y c0) (fun y => absurd c63 y)), hpe.fm L3⟩
    · by_cases c42 : cur K (nx K (K 51 1)) = 42
      · have hlt : nx K (K 51 1) < K 39 1 := cur_lt (by rw [c42]; decide)
        by_cases cr : kRow (kSkip K) = true
        · have hr := cr
          rw [hrow] at hr
          simp only [Bool.and_eq_true, Bool.or_eq_true, decide_eq_true_eq] at hr
          obtain ⟨⟨hr1, hr2⟩, hr3⟩ := hr
          obtain ⟨b, J, hct, h01, hpe⟩ := let_here (Γ := Γ) (kd := 2) (I0 := mset I1 80 17 (K 51 5 + 1)) hg hu cu hR hC hD L2' hat hst hlt (Or.inr rfl) (fun _ z => by omega) (by rw [if_pos rfl]) (by
            rw [hTp]
            unfold kPiece
            rw [if_neg (by rw [ca']; decide), if_neg c63, if_pos c42, if_pos cr])
          have at83 : Ev Γ (d' + 1 + 1) mX8_piece 83 [some (.inr (some 80)), some (.inl (K 51 3)), none, none, none] [] (g, I1) (some (.inl b), (g, J)) := by
            refine v_X8_piece_83 (by omega) hg _ ⟨by rw [i17]; unfold inR; omega, ?_⟩
            rw [i17]
            rintro _ rfl
            exact ⟨_, _, hct, h01, rfl, rfl⟩
          refine ⟨b, J, way _ _ (fun _ z => absurd z c63) (fun _ => ?_), hpe.fm L3⟩
          refine v_X8_piece_38 (by omega) hg _ _ _ ⟨fun z => absurd (i13.symm.trans z) hr1, fun _ => ⟨fun z => absurd c42 z, fun _ => ⟨fun z => absurd z (by rw [hr2]; decide), fun _ => ⟨fun _ => at83, fun z => ⟨fun y => ?_, fun _ => ⟨fun _ => at83, fun y => ?_⟩⟩⟩⟩⟩⟩
          · rw [i13] at z
            rw [i19] at y
            omega
          · rw [i13] at z
            rw [i17] at y
            omega
        · have cr' : kRow (kSkip K) = false := by simpa using cr
          obtain ⟨hw, hpe⟩ := wr (fun z => absurd z c63) (fun _ => cr') (fun z => by rw [z] at c42; cases c42)
          have at100 : Ev Γ (d' + 1 + 1) mX8_piece 100 [some (.inr (some 80)), some (.inl (K 51 3)), none, some (.inl (cur K (nx K (K 51 1)))), none] [] (g, I1) (some (.inl 0), (g, mset I1 80 15 (nx K (K 51 1)))) :=
            v_X8_piece_100 (by omega) hg _ _ u hu cu ⟨fun _ => v_X8_piece_250 (by omega) hg ⟨_, _, hw, Or.inl rfl, rfl, rfl⟩, fun _ => ⟨fun _ => v_X8_piece_250 (by omega) hg ⟨_, _, hw, Or.inl rfl, rfl, rfl⟩, fun z => absurd (z.symm.trans c42) (by decide)⟩⟩
          have at78 : Ev Γ (d' + 1 + 1) mX8_piece 78 [some (.inr (some 80)), none, none, none, none] [] (g, I1) (some (.inl 0), (g, mset I1 80 15 (nx K (K 51 1)))) := v_X8_piece_78 (by omega) hg ⟨_, _, hw, Or.inl rfl, rfl, rfl⟩
          refine ⟨0, _, way _ _ (fun _ z => absurd z c63) (fun _ => ?_), hpe.fm L3⟩
          refine v_X8_piece_38 (by omega) hg _ _ _ ⟨fun _ => at100, fun z1 => ⟨fun _ => at100, fun _ => ⟨fun _ => at100, fun z2 => ⟨fun z3 => ?_, fun z3 => ⟨fun _ => at78, fun z4 => ⟨fun z5 => ?_, fun _ => at78⟩⟩⟩⟩⟩⟩
          · exfalso
            rw [i13] at z1 z3
            rw [bI_n0] at z2
            refine cr ?_
            rw [hrow]
            simp only [Bool.and_eq_true, Bool.or_eq_true, decide_eq_true_eq]
            exact ⟨⟨z1, z2⟩, Or.inl (by omega)⟩
          · exfalso
            rw [i13] at z1 z3
            rw [bI_n0] at z2
            rw [i19] at z4
            rw [i17] at z5
            refine cr ?_
            rw [hrow]
            simp only [Bool.and_eq_true, Bool.or_eq_true, decide_eq_true_eq]
            exact ⟨⟨z1, z2⟩, Or.inr ⟨by have := h5 z3; omega, z4⟩⟩
      · have way2 : ∀ (b : Int) (J : IF), Ev Γ (d' + 1 + 1) mX8_piece 100 [some (.inr (some 80)), some (.inl (K 51 3)), none, some (.inl (cur K (nx K (K 51 1)))), none] [] (g, I1) (some (.inl b), (g, J)) →
            CT Γ (d' + 1 + 1) mX8_piece [.inr (some 80), .inl (K 51 3), .inl (bI (kWt K))] (g, I) (some (.inl b), (g, J)) := fun b J h => way b J (fun _ z => absurd z c63) (fun _ => v_X8_piece_38 (by omega) hg _ _ _ ⟨fun _ => h, fun _ => ⟨fun _ => h, fun z => absurd z c42⟩⟩)
        by_cases c64 : cur K (nx K (K 51 1)) = 64
        · have hlt : nx K (K 51 1) < K 39 1 := cur_lt (by rw [c64]; decide)
          by_cases cd : K 51 0 = 1 ∧ K 51 6 = -1
          · obtain ⟨b, J, hev, hpe⟩ := deep_here (Γ := Γ) (d := d' + 1) hg hu cu hPP (by omega) hR hC hD L2' hat hst hlt (by omega) cd.2 cd.1 c64 (by
              rw [hTp]
              unfold kPiece
              rw [if_neg (by rw [ca']; decide), if_neg c63, if_neg c42, if_pos c64, if_pos (by rw [k0, kSkip_6]; exact cd)])
            exact ⟨b, J, way2 b J (by rw [c64]; exact hev), hpe.fm L3⟩
          · obtain ⟨hw, hpe⟩ := wr (fun z => absurd z c63) (fun z => absurd z c42) (fun _ => cd)
            refine ⟨0, _, way2 _ _ ?_, hpe.fm L3⟩
            refine v_X8_piece_100 (by omega) hg _ _ u hu cu ⟨fun _ => v_X8_piece_250 (by omega) hg ⟨_, _, hw, Or.inl rfl, rfl, rfl⟩, fun z => ⟨fun y => absurd c64 y, fun _ => ⟨fun y => ?_, fun _ => ⟨_, _, hw, Or.inl rfl, rfl, rfl⟩⟩⟩⟩
            exfalso
            rw [i13] at z
            rw [i18] at y
            split at y
            · next w => exact cd ⟨z, w⟩
            · exact y rfl
        · obtain ⟨hw, hpe⟩ := wr (fun z => absurd z c63) (fun z => absurd z c42) (fun z => absurd z c64)
          refine ⟨0, _, way2 _ _ ?_, hpe.fm L3⟩
          exact v_X8_piece_100 (by omega) hg _ _ u hu cu ⟨fun _ => v_X8_piece_250 (by omega) hg ⟨_, _, hw, Or.inl rfl, rfl, rfl⟩, fun _ => ⟨fun _ => v_X8_piece_250 (by omega) hg ⟨_, _, hw, Or.inl rfl, rfl, rfl⟩, fun z => absurd z c64⟩⟩
theorem PP_all (hg : GOk g) (hu : Mt u) (cu : g.2.1 80 12 = some u) : ∀ m : Nat, PP Γ g u m
  | 0 => fun d _ I K hR _ _ _ _ _ h => by have := hR.2.2.1; omega
  | m + 1 => PP_succ hg hu cu (PP_all hg hu cu m)
end SZ
