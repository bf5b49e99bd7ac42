/-! ===== piece of the reference ===== -/
section SQ
variable {Γ : GX} {g : AG} {I I0 J0 J X K K' K'' : IF} {u n : Nat} {kd e c : Int}
/-- the reference says 'wrong' here, and the class stops here -/
theorem wrong_here (hg : GOk g) (hR : RI K) (h15 : I 80 15 = -1) (hat : I 80 14 = nx K (K 51 1)) (h1 : nx K (K 51 1) < K 39 1 → kTok (cur K (nx K (K 51 1))) (kSkip K) = (0, kSkip K)) (h2 : ¬ (K 51 3 = -1 ∧ 3 ≤ K 51 2)) :
    CT Γ 0 mX8_wrong [.inr (some 80)] (g, I) (some (.inl 0), (g, mset I 80 15 (nx K (K 51 1)))) ∧ PE u I K 0 (mset I 80 15 (nx K (K 51 1))) := by
  have hw := m_wrong (Γ := Γ) hg h15
  rw [hat] at hw
  have hRw := RR_wrong hR h1 h2
  have hnn := nx_ge K (K 51 1)
  have hp0 := hR.1.1
  exact ⟨hw, FM.m80 (by decide), Or.inr ⟨rfl, by rw [mset_s]; exact hRw.symm, by rw [hRw]; omega⟩⟩
theorem PE.fm {b : Int} (h : PE u I K b J) (hF : FM u I0 I) : PE u I0 K b J := ⟨hF.tr h.1, h.2⟩
/-- a letter is due in both -/
theorem let_here (hg : GOk g) (hu : Mt u) (cu : g.2.1 80 12 = some u) (hR : RI K) (hC : CI K) (hD : CD K) (hS : Sim I (kSkip K) u) (hat : I 80 14 = nx K (K 51 1)) (hst : K 51 2 < 2) (hlt : nx K (K 51 1) < K 39 1) (hkd : kd = 1 ∨ kd = 2)
    (h5 : kd = 2 → K 51 0 = 1 → K 51 5 < 2) (hI0 : I0 = mset I 80 17 (if kd = 2 then K 51 5 + 1 else K 51 5)) (hT : kTok (cur K (nx K (K 51 1))) (kSkip K) = kLet kd (kSkip K)) :
    ∃ (b : Int) (J : IF), CT Γ 1 mX8_lettered [.inr (some 80), .inl kd, .inl (K 51 3)] (g, I0) (some (.inl b), (g, J)) ∧ (b = 0 ∨ b = 1) ∧ PE u I K b J := by
  have k0 : (kSkip K) 51 0 = K 51 0 := kSkip_o (Or.inr (by decide))
  have k5 : (kSkip K) 51 5 = K 51 5 := kSkip_o (Or.inr (by decide))
  have k1 : (kSkip K) 39 1 = K 39 1 := kSkip_o (Or.inl (by decide))
  obtain ⟨b, J, hct, hF, hres⟩ := m_lettered (Γ := Γ) (kd := kd) (I0 := I0) hg hu cu hR.skip hC.skip hS (by rw [kSkip_nx]; exact hat) (by rw [kSkip_2]; exact hst) (by rw [kSkip_nx, k1]; exact hlt) hkd (by rw [k0, k5]; exact h5) (by rw [k5]; exact hI0)
  rw [kSkip_3] at hct
  have hnn := nx_ge K (K 51 1)
  have hp0 := hR.1.1
  rcases hres with ⟨rfl, h1, h2, h3⟩ | ⟨rfl, h1, h2⟩
  · obtain ⟨t1, t2, t3⟩ := RR_tok hR hlt (by rw [hT]; exact h1)
    rw [hT] at t1 t2 t3
    obtain ⟨e1, e2, e3, e4, e5, e6, e7, e8, e9⟩ := kLet_eff h1
    have ho : -1 ≤ (kSkip K) 51 3 ∧ (kSkip K) 51 3 < (kSkip K) 39 2 := hR.skip.2.2.2.2.1
    have q48 : ∀ p : Nat, p ≠ ((kSkip K) 39 2).toNat → (kLet kd (kSkip K)).2 48 p = (kSkip K) 48 p := fun p z => by rw [e8 p, if_neg z]
    have hK := KA_of ho rfl e3 q48
    have hc0 : 0 ≤ (kSkip K) 39 2 := hR.skip.2.2.2.1.1
    refine ⟨1, J, hct, Or.inr rfl, hF, Or.inl ⟨rfl, _, ⟨t2, h3, ?_, t1.symm, by rw [e5]; decide, fun z => (by rw [e5] at z; cases z), ⟨?_, ?_, ?_, ?_⟩, (FK.skip hR).tr (FK.add hc0 rfl hK (e6 0 (by decide) (by decide) (by decide)) ?_ (fun j => ?_) ?_)⟩, h2⟩⟩
    · exact CD_add rfl hc0 hD.skip hK (e6 6 (by decide) (by decide) (by decide)) (e6 7 (by decide) (by decide) (by decide))
    · rw [e6 3 (by decide) (by decide) (by decide), kSkip_3]
    · rw [e6 4 (by decide) (by decide) (by decide), kSkip_4]
    · rw [e6 7 (by decide) (by decide) (by decide), kSkip_7]
    · omega
    · exact frR_let (Or.inl ⟨by decide, Or.inr (by decide), by decide⟩)
    · exact frR_let (Or.inl ⟨by decide, Or.inl (by decide), by decide⟩)
    · rw [kSkip_nx]; omega
  · have hbad := RR_bad hlt (by rw [hT]; exact h1)
    rw [hT] at hbad
    refine ⟨0, J, hct, Or.inl rfl, hF, Or.inr ⟨rfl, by rw [hbad]; exact h2, ?_⟩⟩
    rw [hbad]
    show 0 ≤ (kLet kd (kSkip K)).2 51 1
    have : (kLet kd (kSkip K)).2 51 1 = nx K (K 51 1) ∨ (kLet kd (kSkip K)).2 51 1 = nx K (K 51 1) + 1 := by
      unfold kLet at h1 ⊢
      split
      · right
        show mset (kSkip K) 51 1 ((kSkip K) 51 1 + 1) 51 1 = _
        rw [mset_s, kSkip_nx]
      · split
        · left
          exact kSkip_nx
        · next z1 z2 =>
          rw [if_neg z1, if_neg z2] at h1
          cases h1
    omega
/-- a deep piece is due in both -/
theorem deep_here (hg : GOk g) (hu : Mt u) (cu : g.2.1 80 12 = some u) {m d : Nat} (hPP : PP Γ g u m) (hd : 2 * m + 3 ≤ d) (hR : RI K) (hC : CI K) (hD : CD K) (hS : Sim I (kSkip K) u) (hat : I 80 14 = nx K (K 51 1)) (hst : K 51 2 < 2) (hlt : nx K (K 51 1) < K 39 1) (hdp : 12 - K 51 4 < m + 1) (h6 : K 51 6 = -1)
    (h13 : K 51 0 = 1) (hc : cur K (nx K (K 51 1)) = 64) (hT : kTok (cur K (nx K (K 51 1))) (kSkip K) = (1, kDeep (kSkip K))) :
    ∃ (b : Int) (J : IF), Ev Γ (d + 1) mX8_piece 100 [some (.inr (some 80)), some (.inl (K 51 3)), none, some (.inl 64), none] [] (g, I) (some (.inl b), (g, J)) ∧ PE u I K b J := by
  have hu' := mt_rng hu
  have hnn := nx_ge K (K 51 1)
  have hp0 := hR.1.1
  have hlen := hR.1.2.2
  have hdep := hR.2.2.1
  obtain ⟨t1, t2, t3⟩ := RR_tok hR hlt (by rw [hT])
  rw [hT] at t1 t2 t3
  dsimp only at t1 t2 t3
  have hR1 := hR.skip
  have hC1 := hC.skip
  have hD1 := hD.skip
  have pos1 : (kSkip K) 51 1 = nx K (K 51 1) := kSkip_nx
  have len1 : (kSkip K) 39 1 = K 39 1 := kSkip_o (Or.inl (by decide))
  have o1 : (kSkip K) 51 3 = K 51 3 := kSkip_3
  have d1 : (kSkip K) 51 4 = K 51 4 := kSkip_4
  have w1 : (kSkip K) 51 7 = K 51 7 := kSkip_7
  have s1 : (kSkip K) 51 2 = K 51 2 := kSkip_2
  have h61 : (kSkip K) 51 6 = -1 := kSkip_6.trans h6
  have fk1 := FK.skip hR
  generalize hK1 : kSkip K = K1 at hS t1 t2 t3 hR1 hC1 hD1 pos1 len1 o1 d1 w1 s1 fk1 h61
  have ho : -1 ≤ K1 51 3 ∧ K1 51 3 < K1 39 2 := hR1.2.2.2.2.1
  have hcn := hR1.2.2.2.1
  have hlt120 := hR1.lt (by rw [pos1, len1]; exact hlt) (by rw [s1]; exact hst)
  have hc1 : (mset I 80 18 (I 80 18 + 1)) u 2 = K1 39 2 := (mset_a _ _ (by omega)).trans hS.2.2.2.2.2.2.2.2.1
  have hat1 : I 80 14 = K1 51 1 := hat.trans pos1.symm
  have i18 : I 80 18 = 0 := by rw [hS.2.2.2.2.2.2.1, if_pos h61]
  obtain ⟨J6, hct, hA⟩ := m_adds (Γ := Γ) (I := mset I 80 18 (I 80 18 + 1)) hg hu cu 3 (K1 51 3) (by rw [hc1]; omega) (by rw [hc1]; exact ho) (fun z => by
    have := (hS.2.2.2.2.2.2.2.2.2.1 (K1 51 3).toNat (by omega)).2.2.2.2.2.2.2
    rw [mset_a _ _ (by omega)]
    omega)
  rw [hc1] at hct
  obtain ⟨q1, q2, q3, j14⟩ := sim_deep hu hR1 hC1 hD1 hS hat1 (by rw [pos1, len1]; exact hlt) h61 hA
  rw [j14] at q1
  have d51 : ∀ k : Nat, k = 0 ∨ k = 3 ∨ k = 4 ∨ k = 5 → (kDeep K1) 51 k = K1 51 k := fun k z => by
    unfold kDeep
    rw [kAdd_51 3 _ (by omega), mset_k _ _ (by omega), mset_k _ _ (by omega), mset_k _ _ (by omega)]
  have e6 : (kDeep K1) 51 6 = K1 39 2 := by unfold kDeep; rw [kAdd_51 3 _ (by decide)]; rfl
  have e7 : (kDeep K1) 51 7 = 1 := by unfold kDeep; rw [kAdd_51 3 _ (by decide)]; rfl
  have e2 : (kDeep K1) 51 2 = 2 := by unfold kDeep; rw [kAdd_51 3 _ (by decide)]; rfl
  have e1 : (kDeep K1) 51 1 = K1 51 1 + 1 := rfl
  have qq : ∀ a k : Nat, a ≠ 51 → (kDeep K1) a k = (kAdd 3 (K1 51 1 + 1) K1) a k := fun a k z => by
    unfold kDeep
    exact kAdd_q (K := K1) (X := mset (mset (mset K1 51 6 (K1 39 2)) 51 7 1) 51 2 2) 3 _ (fun a k z => by rw [mset_a _ _ z, mset_a _ _ z, mset_a _ _ z]) rfl rfl ho a k z
  have hKad : KA 3 (K1 39 2).toNat K1 (kDeep K1) := KA_of (n := (K1 39 2).toNat) ho rfl (fun a k z _ _ => qq a k z) (fun p z => by rw [qq 48 p (by decide)]; exact kAdd_p 3 _ (by decide) z (by decide))
  have fk2 : FK K1 (kDeep K1) := FK.add hcn.1 rfl hKad (d51 0 (by decide)) (by rw [qq 39 1 (by decide)]; exact kAdd_o 3 _ (by decide) (Or.inr (by decide)) (by decide)) (fun j => by rw [qq 40 j (by decide)]; exact kAdd_o 3 _ (by decide) (Or.inl (by decide)) (by decide)) (by rw [e1]; omega)
  have cnt2 : kDeep K1 39 2 = K1 39 2 + 1 := hKad.2.2.2.2.2.2.2
  have knd2 : kDeep K1 41 (K1 39 2).toNat = 3 := by rw [hKad.1, if_pos rfl]
  have par2 : kDeep K1 45 (K1 39 2).toNat = K1 51 3 := by rw [hKad.2.2.2.2.1, if_pos rfl]
  have d24 : kDeep K1 51 4 = K 51 4 := (d51 4 (by decide)).trans d1
  generalize hK2 : kDeep K1 = K2 at t1 t2 t3 q1 q2 q3 e1 e2 e6 e7 fk2 cnt2 knd2 par2 d24
  have fm3 : FM u I (mset J6 80 14 (K1 51 1 + 1)) := (FM.m80 (k := 18) (x := I 80 18 + 1) (by decide)).tr ((FM.ad hA hu).tr (FM.m80 (by decide)))
  generalize hI3 : mset J6 80 14 (K1 51 1 + 1) = I3 at q1 fm3
  obtain ⟨L1, L2, L3⟩ := look_step (Γ := Γ) hg hu cu t2 _ q1
  have fmL := fm3.tr L3
  have hnn2 := nx_ge K2 (K2 51 1)
  have hnl2 := nx_le (K := K2) t2.1.2.1
  have len2 : K2 39 1 = K1 39 1 := fk2.2.1
  have i15 : (mset I3 80 14 (nx K2 (K2 51 1))) 80 15 = -1 := by
    have := q1.2.2.2.1
    rw [mset_k _ _ (by decide)] at this
    rw [mset_k _ _ (by decide)]
    exact this
  have i16 : (mset I3 80 14 (nx K2 (K2 51 1))) 80 16 = K 51 4 := by
    have := q1.2.2.2.2.1
    rw [mset_k _ _ (by decide)] at this
    rw [mset_k _ _ (by decide), this, d24]
  have go : ∀ (r : Option AV) (J : IF), (¬ cur K2 (nx K2 (K2 51 1)) = 40 → ∃ (r40 : Int) (J38 : IF), CT Γ 0 mX8_wrong [.inr (some 80)] (g, mset I3 80 14 (nx K2 (K2 51 1))) (some (.inl r40), (g, J38)) ∧ ((r40 = 0 ∨ r40 = 1) ∧ r = some (.inl r40) ∧ J = J38)) →
      (cur K2 (nx K2 (K2 51 1)) = 40 → (∃ (r17 : Int) (J15 : IF), CT Γ 1 mX8_opens [.inr (some 80)] (g, mset I3 80 14 (nx K2 (K2 51 1))) (some (.inl r17), (g, J15)) ∧ (((¬ (r17 = 0)) → (∀ I19 : Nat → Nat → Int, I19 = mset J15 80 19 1 → (∃ (r22 : Int) (J20 : Nat → Nat → Int), CT Γ d mX8_piece [.inr (some 80), .inl (K1 39 2), .inl 0] (g, I19) (some (.inl r22), (g, J20)) ∧ (((¬ (r22 = 0)) → (∀ I24 : Nat → Nat → Int, I24 = mset J20 80 19 0 → (∃ (r27 : Int) (J25 : Nat → Nat → Int), CT Γ 0 mX8_look [.inr (some 80)] (g, I24) (some (.inl r27), (g, J25)) ∧ ((((r27 = 41)) → (inR ((J25 80 16) - 1) ∧ (∀ I30 : Nat → Nat → Int, I30 = mset J25 80 16 ((J25 80 16) - 1) → (inR ((I30 80 14) + 1) ∧ (∀ I32 : Nat → Nat → Int, I32 = mset I30 80 14 ((I30 80 14) + 1) → (((0 : Int) ≤ (K1 39 2) ∧ (K1 39 2 : Int) < 240) ∧ (∀ I33 : Nat → Nat → Int, I33 = mset I32 (u + 4) (K1 39 2).toNat (I32 80 14) → (r = some (.inl 1) ∧ J = I33)))))))) ∧ ((¬ (r27 = 41)) → (∃ (r37 : Int) (J35 : Nat → Nat → Int), CT Γ 0 mX8_wrong [.inr (some 80)] (g, J25) (some (.inl r37), (g, J35)) ∧ ((r37 = 0 ∨ r37 = 1) ∧ r = some (.inl r37) ∧ J = J35))))))) ∧ (((r22 = 0)) → (r = some (.inl 0) ∧ J = J20)))))) ∧ (((r17 = 0)) → (r = some (.inl 0) ∧ J = J15))))) →
      Ev Γ (d + 1) mX8_piece 100 [some (.inr (some 80)), some (.inl (K 51 3)), none, some (.inl 64), none] [] (g, I) (r, (g, J)) := by
    intro r J w1 w2
    rw [← o1]
    have i13 : I 80 13 = 1 := by rw [hS.2.1, fk1.1, h13]
    refine v_X8_piece_100 (by omega) hg (K1 51 3) 64 u hu cu ⟨fun z => absurd i13 z, fun _ => ⟨fun z => absurd rfl z, fun _ => ⟨fun _ => ⟨by rw [i18]; unfold inR; omega, ?_⟩, fun z => absurd (i18.symm.trans z) (by decide)⟩⟩⟩
    rintro _ rfl
    refine ⟨_, _, hct, by rw [j14]; unfold inR; omega, ?_⟩
    rw [j14, hI3]
    rintro _ rfl
    exact ⟨_, _, L1, w2, w1⟩
  by_cases c40 : cur K2 (nx K2 (K2 51 1)) = 40
  · have hlt2 : nx K2 (K2 51 1) < K2 39 1 := cur_lt (by rw [c40]; decide)
    have hT2 : kTok (cur K2 (nx K2 (K2 51 1))) (kSkip K2) = kOpen (kSkip K2) := by
      rw [c40]
      unfold kTok
      rw [kSkip_2, e2, if_neg (by decide), if_neg (by decide), if_pos rfl, if_pos rfl]
    have i14 : (mset I3 80 14 (nx K2 (K2 51 1))) 80 14 = nx K2 (K2 51 1) := mset_s _ _ _ _
    have hop := m_opens (Γ := Γ) hg i15 (by rw [i16]; omega) (by rw [i14]; omega)
    rw [i16, i14] at hop
    have d2 : (kSkip K2) 51 4 = K 51 4 := kSkip_4.trans d24
    by_cases c12 : K 51 4 = 12
    · rw [if_pos c12] at hop
      have hRR : (RR K2).1 = nx K2 (K2 51 1) := by
        have hb := kOpen_bad (K := kSkip K2) (by rw [d2]; omega)
        rw [RR_bad hlt2 (by rw [hT2, hb]), hT2, hb]
        exact kSkip_nx
      refine ⟨0, _, go _ _ (fun z => absurd c40 z) (fun _ => ⟨_, _, hop, fun z => absurd rfl z, fun _ => ⟨rfl, rfl⟩⟩), fmL.tr (FM.m80 (by decide)), Or.inr ⟨rfl, ?_, ?_⟩⟩
      · rw [mset_s, t1, hRR]
      · rw [t1, hRR]
        omega
    · rw [if_neg c12] at hop
      obtain ⟨f1, f2, f3, f4, f5, f6, f7, f8⟩ := kOpen_eff (K := kSkip K2) (by rw [d2]; omega)
      obtain ⟨v1, v2, v3⟩ := RR_tok t2 hlt2 (by rw [hT2]; exact f1)
      rw [hT2] at v1 v2 v3
      have hcnt : (kSkip K2) 39 2 - 1 = K1 39 2 := by rw [kSkip_o (K := K2) (a := 39) (Or.inl (by decide)), cnt2]; omega
      obtain ⟨r1, r2, r3⟩ := sim_open (X := mset (mset I3 80 14 (nx K2 (K2 51 1))) 80 19 1) hu t2.skip q2.skip q3.skip L2 (by rw [mset_k _ _ (by decide), mset_s, kSkip_nx]) (by rw [kSkip_nx, kSkip_o (K := K2) (a := 39) (Or.inl (by decide))]; exact hlt2) (by rw [d2]; omega) (Or.inr ⟨by rw [kSkip_2]; exact e2, rfl⟩)
      rw [mset_k (mset I3 80 14 (nx K2 (K2 51 1))) _ (show (16 : Nat) ≠ 19 by decide), i16, mset_k (mset I3 80 14 (nx K2 (K2 51 1))) _ (show (14 : Nat) ≠ 19 by decide), i14, mset_comm (K := mset I3 80 14 (nx K2 (K2 51 1))) (Or.inr (show (19 : Nat) ≠ 16 by decide)), mset_comm (Or.inr (show (19 : Nat) ≠ 14 by decide))] at r1
      have k41 : ∀ p : Nat, (kSkip K2) 41 p = K2 41 p := fun p => kSkip_o (Or.inl (by decide))
      rw [hcnt] at f3 f4
      rw [k41, knd2, if_neg (by decide)] at f3
      rw [d2] at f5
      have w7 : (kOpen (kSkip K2)).2 51 7 = 1 := by rw [f6 7 (by decide), kSkip_7, e7]
      have fk3 : FK K2 (kOpen (kSkip K2)).2 := (FK.skip t2).tr ⟨f6 0 (by decide), f8 39 1 (by decide) (by decide), fun j => f8 40 j (by decide) (by decide), by rw [f2]; omega, by rw [f8 39 2 (by decide) (by decide)]; exact Int.le_refl _, fun p _ => ⟨f8 41 p (by decide) (by decide), f8 45 p (by decide) (by decide)⟩⟩
      generalize hK3 : (kOpen (kSkip K2)).2 = K3 at v1 v2 v3 r1 r2 r3 f2 f3 f4 f5 w7 fk3
      have fm4 : FM u I (mset (mset (mset (mset I3 80 14 (nx K2 (K2 51 1))) 80 16 (K 51 4 + 1)) 80 14 (nx K2 (K2 51 1) + 1)) 80 19 1) := fmL.tr ((FM.m80 (by decide)).tr ((FM.m80 (by decide)).tr (FM.m80 (by decide))))
      have kn3 : K3 41 (K1 39 2).toNat = 3 := by rw [(fk3.2.2.2.2.2 _ (by omega)).1]; exact knd2
      have pr3 : K3 45 (K1 39 2).toNat = K 51 3 := by rw [(fk3.2.2.2.2.2 _ (by omega)).2, par2, o1]
      have fkA := fk1.tr (fk2.tr fk3)
      obtain ⟨b, J20, hct1, hF1, hres1⟩ := hPP d hd _ K3 v2 r2 r3 r1 (by rw [f3]; decide) (fun z => (by rw [f3] at z; cases z)) (by rw [f5]; omega)
      have hw3 : kWt K3 = false := by
        unfold kWt
        rw [decide_eq_false_iff_not, f4]
        rintro ⟨-, z⟩
        omega
      rw [hw3, f4] at hct1
      rcases hres1 with ⟨rfl, K4, ⟨g1, g2, g3, g4, g5, g6, ⟨g7, g8, g9, g10⟩, g11⟩, hS4⟩ | ⟨rfl, hbad, h0⟩
      · have e34 : K4 51 3 = K1 39 2 := g7.trans f4
        have kn4 : K4 41 (K1 39 2).toNat = 3 := by rw [(g11.2.2.2.2.2 _ (by have := fk3.2.2.2.2.1; omega)).1]; exact kn3
        have pr4 : K4 45 (K1 39 2).toNat = K 51 3 := by rw [(g11.2.2.2.2.2 _ (by have := fk3.2.2.2.2.1; omega)).2]; exact pr3
        have h64 : K4 51 6 = K1 39 2 := by
          have := g2.2.2.2.2.2.1 (K1 39 2).toNat (by have := g11.2.2.2.2.1; have := fk3.2.2.2.2.1; omega) kn4
          omega
        have hRR4 : RR K4 = RR K := by rw [g4, ← v1, ← t1]
        have j19 : J20 80 19 = 1 := by rw [hS4.2.2.2.2.2.2.2.1, g9, w7]
        have hSg : Sim (mset (mset J20 80 19 0) 80 19 1) K4 u := by
          rw [mset_mset, mset_id j19.symm]
          exact hS4
        obtain ⟨M1, M2, M3⟩ := look_step (Γ := Γ) hg hu cu g1 _ hSg
        have fmM : FM u I (mset (mset J20 80 19 0) 80 14 (nx K4 (K4 51 1))) := fm4.tr (hF1.tr ((FM.m80 (by decide)).tr M3))
        have hnn4 := nx_ge K4 (K4 51 1)
        have hnl4 := nx_le (K := K4) g1.1.2.1
        have hp4 := g1.1
        have j16 : (mset (mset J20 80 19 0) 80 14 (nx K4 (K4 51 1))) 80 16 = K 51 4 + 1 := by rw [mset_k _ _ (by decide), mset_k _ _ (by decide), hS4.2.2.2.2.1, g8, f5]
        have j15 : (mset (mset J20 80 19 0) 80 14 (nx K4 (K4 51 1))) 80 15 = -1 := by rw [mset_k _ _ (by decide), mset_k _ _ (by decide)]; exact hS4.2.2.2.1
        have ho4 : K4 51 3 ≠ -1 := by rw [e34]; omega
        by_cases c41 : cur K4 (nx K4 (K4 51 1)) = 41
        · have hX : mset (mset J20 80 19 0) 80 14 (nx K4 (K4 51 1)) = if K4 51 3 = K4 51 6 then mset (mset (mset (mset J20 80 19 0) 80 14 (nx K4 (K4 51 1))) 80 19 1) 80 19 0 else mset (mset (mset J20 80 19 0) 80 14 (nx K4 (K4 51 1))) 80 19 1 := by
            rw [if_pos (by rw [e34, h64]), mset_mset]
            exact (mset_id (K := mset (mset J20 80 19 0) 80 14 (nx K4 (K4 51 1))) (by rw [mset_k _ _ (by decide), mset_s])).symm
          obtain ⟨K5, ⟨p1, p2, p3, p4, p5, ⟨p6, p7, p8, p9⟩, p10⟩, hS5⟩ := close_step hu g1 g2 g3 M2 (by rw [mset_k _ _ (by decide), mset_s]) c41 ho4 (Or.inr g5) hX
          rw [j16, mset_s, e34] at hS5
          have fkF := fkA.tr (g11.tr p10)
          refine ⟨1, _, go _ _ (fun z => absurd c40 z) (fun _ => ⟨_, _, hop, fun _ => ?_, fun z => absurd z (by decide)⟩), fmM.tr ((FM.m80 (by decide)).tr ((FM.m80 (by decide)).tr (FM.mu (by decide) hu))), Or.inl ⟨rfl, K5, ⟨p1, p2, p3, p4.trans hRR4, by rw [p5]; decide, fun z => (by rw [p5] at z; cases z), ⟨?_, ?_, ?_, ?_⟩, fkF⟩, hS5⟩⟩
          · rintro _ rfl
            refine ⟨_, _, hct1, fun _ => ?_, fun z => absurd z (by decide)⟩
            rintro _ rfl
            refine ⟨_, _, M1, fun _ => ⟨by rw [j16]; unfold inR; omega, ?_⟩, fun z => absurd c41 z⟩
            rw [j16]
            rintro _ rfl
            have e14 : mset (mset (mset J20 80 19 0) 80 14 (nx K4 (K4 51 1))) 80 16 (K 51 4 + 1 - 1) 80 14 = nx K4 (K4 51 1) := by rw [mset_k _ _ (by decide), mset_s]
            rw [e14]
            refine ⟨by unfold inR; omega, ?_⟩
            rintro _ rfl
            refine ⟨by omega, ?_⟩
            rw [mset_s]
            rintro _ rfl
            exact ⟨rfl, rfl⟩
          · rw [p6, e34]; exact pr4
          · rw [p7, g8, f5]; omega
          · rw [p8, if_pos (by rw [e34, h64]), hD.2 h6]
          · have := fkA.2.2.2.1
            omega
        · obtain ⟨hw, hpe⟩ := wrong_here (Γ := Γ) (u := u) hg g1 j15 (mset_s _ _ _ _) (fun z => by
            rw [kTok_behind (by rw [kSkip_2]; exact g5) (by rw [kSkip_2]; exact g6)]
            unfold kBehind
            rw [if_neg c41, if_neg (fun y => by
              have := y.2
              unfold kWt at this
              rw [kSkip_3, kSkip_o (K := K4) (a := 41) (Or.inl (by decide)), decide_eq_true_eq, e34] at this
              omega)]) (fun z => ho4 z.1)
          refine ⟨0, _, go _ _ (fun z => absurd c40 z) (fun _ => ⟨_, _, hop, fun _ => ?_, fun z => absurd z (by decide)⟩), fmM.tr hpe.1, ?_⟩
          · rintro _ rfl
            refine ⟨_, _, hct1, fun _ => ?_, fun z => absurd z (by decide)⟩
            rintro _ rfl
            exact ⟨_, _, M1, fun z => absurd z c41, fun _ => ⟨_, _, hw, Or.inl rfl, rfl, rfl⟩⟩
          · rcases hpe.2 with ⟨z, -⟩ | ⟨-, z1, z2⟩
            · cases z
            · exact Or.inr ⟨rfl, by rw [z1, hRR4], by rw [← hRR4]; exact z2⟩
      · refine ⟨0, J20, go _ _ (fun z => absurd c40 z) (fun _ => ⟨_, _, hop, fun _ => ?_, fun z => absurd z (by decide)⟩), fm4.tr hF1, Or.inr ⟨rfl, by rw [hbad, ← v1, ← t1], by rw [t1, v1]; exact h0⟩⟩
        rintro _ rfl
        exact ⟨_, _, hct1, fun z => absurd rfl z, fun _ => ⟨rfl, rfl⟩⟩
  · obtain ⟨hw, hpe⟩ := wrong_here (Γ := Γ) (u := u) hg t2 i15 (mset_s _ _ _ _) (fun z => by
      unfold kTok
      rw [kSkip_2, e2, if_neg (by decide), if_neg (by decide), if_pos rfl, if_neg c40]) (fun z => by rw [e2] at z; omega)
    refine ⟨0, _, go _ _ (fun _ => ⟨_, _, hw, Or.inl rfl, rfl, rfl⟩) (fun z => absurd z c40), fmL.tr hpe.1, ?_⟩
    rcases hpe.2 with ⟨z, -⟩ | ⟨-, z1, z2⟩
    · cases z
    · exact Or.inr ⟨rfl, by rw [z1, t1], by rw [t1]; exact z2⟩
end SQ
