/-! ===== term of the reference ===== -/
section ST
variable {Γ : GX} {g : AG} {I I0 J0 J X K K' K'' : IF} {u n : Nat} {kd e c : Int}
theorem term_7 (hg : GOk g) (hu : Mt u) (cu : g.2.1 80 12 = some u) {d : Nat} (hd : 1 ≤ d) (x2 : Int) : ∀ (k : Nat) (J : IF), BR J K u → 0 ≤ J 80 14 → J 80 14 ≤ K 39 1 → k = (K 39 1 - J 80 14).toNat → ∀ (r : Option AV) (J' : IF),
    Ev Γ (d + 1) mX8_term 52 [some (.inr (some 80)), none, some (.inl x2)] [] (g, mset J 80 14 (scn K k (J 80 14))) (r, (g, J')) → Ev Γ (d + 1) mX8_term 7 [some (.inr (some 80)), none, some (.inl x2)] [] (g, J) (r, (g, J')) := by
  have hu' := mt_rng hu
  intro k
  induction k with
  | zero =>
    intro J hB h0 h1 hk r J' hev
    rw [show mset J 80 14 (scn K 0 (J 80 14)) = J from mset_id rfl] at hev
    exact v_X8_term_7 hd hg x2 u hu cu ⟨fun _ => hev, fun z => absurd (by rw [hB.1]; omega) z⟩
  | succ k ih =>
    intro J hB h0 h1 hk r J' hev
    obtain ⟨b1, b2, b3⟩ := id hB
    obtain ⟨c1, c2, c3⟩ := b3 (J 80 14).toNat (by omega)
    refine v_X8_term_7 hd hg x2 u hu cu ⟨fun z => absurd z (by rw [b1]; omega), fun _ => ⟨by omega, _, _, m_isAtom hg _, fun z => ?_, fun z => ⟨by unfold inR; omega, ?_⟩⟩⟩
    · rw [bI_0, c1, atomb_sb c2 c3] at z
      have e : scn K (k + 1) (J 80 14) = J 80 14 := by
        unfold scn
        rw [if_neg (fun y => by rw [z] at y; exact absurd y.2 (by decide))]
      rw [e, mset_id rfl] at hev
      exact hev
    · rw [bI_n0, c1, atomb_sb c2 c3] at z
      rintro _ rfl
      have e : scn K (k + 1) (J 80 14) = scn K k (J 80 14 + 1) := by
        conv => lhs; unfold scn
        rw [if_pos ⟨by omega, z⟩]
      refine ih (mset J 80 14 (J 80 14 + 1)) (hB.mv (mset_a _ _ (by omega)) (fun j => mset_a _ _ (by omega))) (by show 0 ≤ J 80 14 + 1; omega) (by show J 80 14 + 1 ≤ K 39 1; omega) (by show k = (K 39 1 - (J 80 14 + 1)).toNat; omega) r J' ?_
      rw [mset_s, mset_mset, ← e]
      exact hev
/-- TERM of the reference, where the class reads an atom and what belongs to it -/
theorem sim_term (hg : GOk g) (hu : Mt u) (cu : g.2.1 80 12 = some u) {m d : Nat} (hPP : PP Γ g u m) (hd : 2 * m + 3 ≤ d) (hR : RI K) (hC : CI K) (hD : CD K) (hS : Sim I (kSkip K) u) (hat : I 80 14 = nx K (K 51 1)) (hst : K 51 2 < 2) (hs1 : K 51 2 = 1 → cur K (nx K (K 51 1)) ≠ 41)
    (hdp : 12 - K 51 4 < m + 1) (ha : atomb (cur K (nx K (K 51 1))) = true) :
    ∃ (b : Int) (J : IF), CT Γ (d + 1) mX8_term [.inr (some 80), .inl (K 51 3)] (g, I) (some (.inl b), (g, J)) ∧ PE u I K b J := by
  have hu' := mt_rng hu
  have hlt : nx K (K 51 1) < K 39 1 := cur_lt (fun z => by rw [z] at ha; exact absurd ha (by decide))
  have hnn := nx_ge K (K 51 1)
  have hp0 := hR.1.1
  have hlen := hR.1.2.2
  have hst0 := hR.2.1.1
  have hT : kTok (cur K (nx K (K 51 1))) (kSkip K) = (1, kAtom (kSkip K)) := by
    rw [kTok_piece (by rw [kSkip_2]; exact hst) (by rw [kSkip_2]; exact hst0) (by rw [kSkip_2]; exact hs1)]
    unfold kPiece
    rw [if_pos ha]
  obtain ⟨t1, t2, t3⟩ := RR_tok hR hlt (by rw [hT])
  rw [hT] at t1 t2 t3
  dsimp only at t1 t2 t3
  have hR1 := hR.skip
  have hC1 := hC.skip
  have hD1 := hD.skip
  have pos1 : (kSkip K) 51 1 = nx K (K 51 1) := kSkip_nx
  have len1 : (kSkip K) 39 1 = K 39 1 := kSkip_o (Or.inl (by decide))
  have b1 : ∀ j : Nat, (kSkip K) 40 j = K 40 j := fun j => kSkip_o (Or.inl (by decide))
  have o1 : (kSkip K) 51 3 = K 51 3 := kSkip_3
  have d1 : (kSkip K) 51 4 = K 51 4 := kSkip_4
  have w1 : (kSkip K) 51 7 = K 51 7 := kSkip_7
  have s1 : (kSkip K) 51 2 = K 51 2 := kSkip_2
  have fk1 := FK.skip hR
  have hcb : cur K (nx K (K 51 1)) = K 40 (nx K (K 51 1)).toNat := if_neg (by omega)
  generalize hK1 : kSkip K = K1 at hS t1 t2 t3 hR1 hC1 hD1 pos1 len1 b1 o1 d1 w1 s1 fk1
  have ho : -1 ≤ K1 51 3 ∧ K1 51 3 < K1 39 2 := hR1.2.2.2.2.1
  have hcn := hR1.2.2.2.1
  have hlt120 := hR1.lt (by rw [pos1, len1]; exact hlt) (by rw [s1]; exact hst)
  have hc1 : I u 2 = K1 39 2 := hS.2.2.2.2.2.2.2.2.1
  have hat1 : I 80 14 = K1 51 1 := hat.trans pos1.symm
  obtain ⟨J0, hct, hA⟩ := m_adds (Γ := Γ) (I := I) hg hu cu 0 (K1 51 3) (by rw [hc1]; omega) (by rw [hc1]; exact ho) (fun z => by
    have := (hS.2.2.2.2.2.2.2.2.2.1 (K1 51 3).toNat (by omega)).2.2.2.2.2.2.2
    omega)
  rw [hc1] at hct
  obtain ⟨f1, f2, f3, f4, f5⟩ := hA.fr hu
  have j14 : J0 80 14 = K1 51 1 := (f1 80 14 (Or.inl (by decide))).trans hat1
  -- the atom's end
  have hsc : scn K1 (K1 39 1 - K1 51 1).toNat (K1 51 1) = scn K1 (K1 39 1 - (K1 51 1 + 1)).toNat (K1 51 1 + 1) := by
    rw [show (K1 39 1 - K1 51 1).toNat = (K1 39 1 - (K1 51 1 + 1)).toNat + 1 by omega]
    conv => lhs; unfold scn
    rw [if_pos ⟨by omega, by rw [b1, pos1, ← hcb]; exact ha⟩]
  have hKA : kAtom K1 = kAdd 0 (scn K1 (K1 39 1 - (K1 51 1 + 1)).toNat (K1 51 1 + 1)) (mset K1 51 2 3) := rfl
  have hev := scn_gt (K := K1) (n := (K1 39 1 - (K1 51 1 + 1)).toNat) (e := K1 51 1 + 1) (by omega)
  generalize hE : scn K1 (K1 39 1 - (K1 51 1 + 1)).toNat (K1 51 1 + 1) = E at hsc hKA hev
  obtain ⟨q1, q2, q3⟩ := sim_atom hu hR1 hC1 hS hat1 (e := E) (by omega) hA rfl
  have hfr : ∀ a k : Nat, frR a k → kAtom K1 a k = K1 a k := fun a k z => by
    rw [hKA]
    rcases z with ⟨z1, z2, z3⟩ | ⟨z1, z2⟩
    · rw [frR_add (Or.inl ⟨z1, z2, z3⟩), mset_a _ _ z1]
    · subst z1; subst z2
      rw [frR_add (Or.inr ⟨rfl, rfl⟩)]
      rfl
  have hKad : KA 0 (K1 39 2).toNat K1 (kAtom K1) := by
    rw [hKA]
    exact KA_of (e := E) ho rfl (fun a k z _ _ => kAtom_q ho a k z) (fun p z => by rw [kAtom_q ho 48 p (by decide)]; exact kAdd_p 0 E (by decide) z (by decide))
  have a51 : ∀ k : Nat, k ≠ 1 → k ≠ 2 → kAtom K1 51 k = K1 51 k := fun k z1 z2 => by rw [hKA]; exact kAtom_51 z1 z2
  have a2 : kAtom K1 51 2 = 3 := by
    rw [hKA, kAdd_51 0 E (by decide)]
    rfl
  have a1 : kAtom K1 51 1 = E := by rw [hKA]; rfl
  rw [← hKA] at q1 q2
  have fk2 : FK K1 (kAtom K1) := FK.add hcn.1 rfl hKad (a51 0 (by decide) (by decide)) (hfr 39 1 (Or.inl ⟨by decide, Or.inr (by decide), by decide⟩)) (fun j => hfr 40 j (Or.inl ⟨by decide, Or.inl (by decide), by decide⟩)) (by rw [a1]; omega)
  have cd2 : CD (kAtom K1) := CD_add rfl hcn.1 hD1 hKad (a51 6 (by decide) (by decide)) (a51 7 (by decide) (by decide))
  have cnt2 : kAtom K1 39 2 = K1 39 2 + 1 := hKad.2.2.2.2.2.2.2
  have knd2 : kAtom K1 41 (K1 39 2).toNat = 0 := by rw [hKad.1, if_pos rfl]
  have par2 : kAtom K1 45 (K1 39 2).toNat = K1 51 3 := by rw [hKad.2.2.2.2.1, if_pos rfl]
  generalize hK2 : kAtom K1 = K2 at t1 t2 t3 hKad a51 a2 a1 q1 q2 fk2 cd2 cnt2 knd2 par2
  generalize hI3 : mset (mset (mset J0 80 14 E) (u + 5) (K1 39 2).toNat E) (u + 4) (K1 39 2).toNat E = I3 at q1 q3
  have fm3 : FM u I I3 := by
    rw [← hI3]
    exact (FM.ad hA hu).tr ((FM.m80 (by decide)).tr ((FM.mu (by decide) hu).tr (FM.mu (by decide) hu)))
  obtain ⟨L1, L2, L3⟩ := look_step (Γ := Γ) hg hu cu t2 _ q1.gh
  have L2' := L2.ug q1.2.2.2.2.2.2.2.1
  have fmL := fm3.tr L3
  have hnn2 := nx_ge K2 (K2 51 1)
  have hnl2 := nx_le (K := K2) t2.1.2.1
  have len2 : K2 39 1 = K1 39 1 := fk2.2.1
  have hx : (K1 39 2).toNat < 240 ∧ ((K1 39 2).toNat : Int) = K1 39 2 := by omega
  have go : ∀ (r : Option AV) (J : IF), (¬ cur K2 (nx K2 (K2 51 1)) = 40 → r = some (.inl 1) ∧ J = mset I3 80 14 (nx K2 (K2 51 1))) →
      (cur K2 (nx K2 (K2 51 1)) = 40 → ∃ (r13 : Int) (J11 : IF), CT Γ 1 mX8_opens [.inr (some 80)] (g, mset (mset I3 80 14 (nx K2 (K2 51 1))) (u + 9) (K1 39 2).toNat 1) (some (.inl r13), (g, J11)) ∧ (((¬ (r13 = 0)) → (∃ (r17 : Int) (J15 : IF), CT Γ 0 mX8_look [.inr (some 80)] (g, J11) (some (.inl r17), (g, J15)) ∧ ((((r17 = 41)) → (Ev Γ (d + 1) mX8_term 172 [some (.inr (some 80)), none, some (.inl (K1 39 2))] [] (g, J15) (r, (g, J)))) ∧ ((¬ (r17 = 41)) → (∃ (r21 : Int) (J19 : IF), CT Γ d mX8_piece [.inr (some 80), .inl (K1 39 2), .inl 1] (g, J15) (some (.inl r21), (g, J19)) ∧ (((¬ (r21 = 0)) → (Ev Γ (d + 1) mX8_term 128 [some (.inr (some 80)), none, some (.inl (K1 39 2))] [] (g, J19) (r, (g, J)))) ∧ (((r21 = 0)) → (r = some (.inl 0) ∧ J = J19)))))))) ∧ (((r13 = 0)) → (r = some (.inl 0) ∧ J = J11)))) →
      Ev Γ (d + 1) mX8_term 0 [some (.inr (some 80)), some (.inl (K 51 3)), none] [] (g, I) (r, (g, J)) := by
    intro r J w1 w2
    rw [← o1]
    refine v_X8_term_0 (by omega) hg (K1 51 3) ⟨_, _, hct, ?_⟩
    refine term_7 (K := K1) hg hu cu (by omega) (K1 39 2) _ J0 (hS.1.mv (f2 1 (by decide)) f3) (by rw [j14]; omega) (by rw [j14]; omega) rfl r J ?_
    rw [j14, hsc]
    refine v_X8_term_52 (by omega) hg (K1 39 2) u hu cu ⟨by omega, ?_⟩
    rw [mset_s]
    rintro _ rfl
    refine ⟨by omega, ?_⟩
    have e14 : mset (mset J0 80 14 E) (u + 5) (K1 39 2).toNat E 80 14 = E := by rw [mset_a _ _ (by omega), mset_s]
    rw [e14, hI3]
    rintro _ rfl
    refine ⟨_, _, L1, fun z => ⟨by omega, ?_⟩, w1⟩
    rintro _ rfl
    exact w2 z
  by_cases c40 : cur K2 (nx K2 (K2 51 1)) = 40
  · have hlt2 : nx K2 (K2 51 1) < K2 39 1 := cur_lt (by rw [c40]; decide)
    have hT2 : kTok (cur K2 (nx K2 (K2 51 1))) (kSkip K2) = kOpen (kSkip K2) := by
      rw [c40]
      unfold kTok
      rw [kSkip_2, a2, if_neg (by decide), if_neg (by decide), if_neg (by decide), if_pos rfl, if_pos rfl]
    have i15 : (mset (mset I3 80 14 (nx K2 (K2 51 1))) (u + 9) (K1 39 2).toNat 1) 80 15 = -1 := by rw [mset_a _ _ (by omega), mset_k _ _ (by decide)]; exact q1.2.2.2.1
    have i16 : (mset (mset I3 80 14 (nx K2 (K2 51 1))) (u + 9) (K1 39 2).toNat 1) 80 16 = K 51 4 := by rw [mset_a _ _ (by omega), mset_k _ _ (by decide), q1.2.2.2.2.1, a51 4 (by decide) (by decide), d1]
    have i14 : (mset (mset I3 80 14 (nx K2 (K2 51 1))) (u + 9) (K1 39 2).toNat 1) 80 14 = nx K2 (K2 51 1) := by rw [mset_a _ _ (by omega), mset_s]
    have hdep := hR.2.2.1
    have hop := m_opens (Γ := Γ) hg i15 (by rw [i16]; omega) (by rw [i14]; omega)
    rw [i16, i14] at hop
    have d2 : (kSkip K2) 51 4 = K 51 4 := by rw [kSkip_4, a51 4 (by decide) (by decide), d1]
    by_cases c12 : K 51 4 = 12
    · rw [if_pos c12] at hop
      have hRR : (RR K2).1 = nx K2 (K2 51 1) := by
        have hb := kOpen_bad (K := kSkip K2) (by rw [d2]; omega)
        rw [RR_bad hlt2 (by rw [hT2, hb]), hT2, hb]
        exact kSkip_nx
      refine ⟨0, _, CT.of (R := (some (.inl 0), (g, mset (mset (mset I3 80 14 (nx K2 (K2 51 1))) (u + 9) (K1 39 2).toNat 1) 80 15 (nx K2 (K2 51 1))))) oX8_term (Nat.le_of_ble_eq_true rfl) (Nat.le_refl _) (Nat.le_refl _) (go _ _ (fun z => absurd c40 z) (fun _ => ⟨_, _, hop, fun z => absurd rfl z, fun _ => ⟨rfl, rfl⟩⟩)), fmL.tr ((FM.mu (by decide) hu).tr (FM.m80 (by decide))), Or.inr ⟨rfl, ?_, ?_⟩⟩
      · rw [mset_s, t1, hRR]
      · rw [t1, hRR]
        omega
    · rw [if_neg c12] at hop
      obtain ⟨e1, e2, e3, e4, e5, e6, e7, e8⟩ := kOpen_eff (K := kSkip K2) (by rw [d2]; omega)
      obtain ⟨v1, v2, v3⟩ := RR_tok t2 hlt2 (by rw [hT2]; exact e1)
      rw [hT2] at v1 v2 v3
      have hcnt : (kSkip K2) 39 2 - 1 = K1 39 2 := by rw [kSkip_o (K := K2) (a := 39) (Or.inl (by decide)), cnt2]; omega
      obtain ⟨r1, r2, r3⟩ := sim_open (X := mset (mset I3 80 14 (nx K2 (K2 51 1))) (u + 9) (K1 39 2).toNat 1) hu t2.skip q2.skip cd2.skip L2' (by rw [mset_s, kSkip_nx]) (by rw [kSkip_nx, kSkip_o (K := K2) (a := 39) (Or.inl (by decide))]; exact hlt2) (by rw [d2]; omega) (Or.inl ⟨by rw [kSkip_2]; exact a2, by rw [hcnt]⟩)
      rw [i16, i14] at r1
      have k41 : ∀ p : Nat, (kSkip K2) 41 p = K2 41 p := fun p => kSkip_o (Or.inl (by decide))
      rw [hcnt] at e3 e4
      rw [k41, knd2, if_pos rfl] at e3
      rw [d2] at e5
      have w7 : (kOpen (kSkip K2)).2 51 7 = K 51 7 := by rw [e6 7 (by decide), kSkip_7, a51 7 (by decide) (by decide), w1]
      have fk3 : FK K2 (kOpen (kSkip K2)).2 := (FK.skip t2).tr ⟨e6 0 (by decide), e8 39 1 (by decide) (by decide), fun j => e8 40 j (by decide) (by decide), by rw [e2]; omega, by rw [e8 39 2 (by decide) (by decide)]; exact Int.le_refl _, fun p _ => ⟨e8 41 p (by decide) (by decide), e8 45 p (by decide) (by decide)⟩⟩
      generalize hK3 : (kOpen (kSkip K2)).2 = K3 at v1 v2 v3 r1 r2 r3 e2 e3 e4 e5 w7 fk3
      generalize hI4 : mset (mset (mset (mset I3 80 14 (nx K2 (K2 51 1))) (u + 9) (K1 39 2).toNat 1) 80 16 (K 51 4 + 1)) 80 14 (nx K2 (K2 51 1) + 1) = I4 at hop r1
      have fm4 : FM u I I4 := by
        rw [← hI4]
        exact fmL.tr ((FM.mu (by decide) hu).tr ((FM.m80 (by decide)).tr (FM.m80 (by decide))))
      have kn3 : K3 41 (K1 39 2).toNat = 0 := by rw [(fk3.2.2.2.2.2 _ (by omega)).1]; exact knd2
      have pr3 : K3 45 (K1 39 2).toNat = K 51 3 := by rw [(fk3.2.2.2.2.2 _ (by omega)).2, par2, o1]
      have fkA := fk1.tr (fk2.tr fk3)
      obtain ⟨M1, M2, M3⟩ := look_step (Γ := Γ) hg hu cu v2 _ r1.gh
      have M2' := M2.ug r1.2.2.2.2.2.2.2.1
      have fmM := fm4.tr M3
      have hnn3 := nx_ge K3 (K3 51 1)
      have hnl3 := nx_le (K := K3) v2.1.2.1
      have len3 : K3 39 1 = K2 39 1 := fk3.2.1
      have ho3 : K3 51 3 ≠ -1 := by rw [e4]; omega
      -- behind the closing
      have fin : ∀ K4 K5 : IF, FK K K4 → RR K4 = RR K → K4 51 3 = K1 39 2 → K4 51 4 = K 51 4 + 1 → K4 51 7 = K 51 7 → K4 41 (K1 39 2).toNat = 0 → K4 45 (K1 39 2).toNat = K 51 3 → CD K4 → GC K4 K5 → GE K K5 := by
        intro K4 K5 y1 y2 y3 y4 y5 y6 y7 y8 ⟨p1, p2, p3, p4, p5, ⟨p6, p7, p8, p9⟩, p10⟩
        refine ⟨p1, p2, p3, p4.trans y2, by rw [p5]; decide, (fun z => (by rw [p5] at z; cases z)), ⟨?_, ?_, ?_, ?_⟩, y1.tr p10⟩
        · rw [p6, y3]; exact y7
        · rw [p7, y4]; omega
        · rw [p8, if_neg (fun z => ?_)]
          · exact y5
          · have := (y8.1 (by rw [← z, y3]; omega)).2.2
            rw [← z, y3] at this
            omega
        · have := y1.2.2.2.1
          omega
      by_cases c41 : cur K3 (nx K3 (K3 51 1)) = 41
      · have hne : ¬ K3 51 3 = K3 51 6 := fun h3 => by
          have := (r3.1 (by omega)).2.2
          rw [← h3, e4] at this
          omega
        have i16' : (mset I4 80 14 (nx K3 (K3 51 1))) 80 16 = K3 51 4 := (mset_k _ _ (by decide)).trans r1.2.2.2.2.1
        obtain ⟨K5, hG, hS5⟩ := close_step (X := mset I4 80 14 (nx K3 (K3 51 1))) hu v2 r2 r3 M2' (mset_s _ _ _ _) c41 ho3 (Or.inl e3) (by rw [if_neg hne])
        rw [i16', mset_s, e4] at hS5
        have hGE := fin K3 K5 fkA (by rw [t1, v1]) e4 e5 w7 kn3 pr3 r3 hG
        refine ⟨1, _, CT.of (R := (some (.inl 1), (g, mset (mset (mset (mset I4 80 14 (nx K3 (K3 51 1))) 80 16 (K3 51 4 - 1)) 80 14 (nx K3 (K3 51 1) + 1)) (u + 4) (K1 39 2).toNat (nx K3 (K3 51 1) + 1)))) oX8_term (Nat.le_of_ble_eq_true rfl) (Nat.le_refl _) (Nat.le_refl _) (go _ _ (fun z => absurd c40 z) (fun _ => ⟨_, _, hop, fun _ => ⟨_, _, M1, fun _ => ?_, fun z => absurd c41 z⟩, fun z => absurd z (by decide)⟩)), fmM.tr ((FM.m80 (by decide)).tr ((FM.m80 (by decide)).tr (FM.mu (by decide) hu))), Or.inl ⟨rfl, K5, hGE, hS5⟩⟩
        refine v_X8_term_172 (by omega) hg (K1 39 2) u hu cu ⟨by rw [i16', e5]; unfold inR; omega, ?_⟩
        rw [i16']
        rintro _ rfl
        have e14 : mset (mset I4 80 14 (nx K3 (K3 51 1))) 80 16 (K3 51 4 - 1) 80 14 = nx K3 (K3 51 1) := by rw [mset_k _ _ (by decide), mset_s]
        rw [e14]
        refine ⟨by unfold inR; omega, ?_⟩
        rintro _ rfl
        refine ⟨by omega, ?_⟩
        rw [mset_s]
        rintro _ rfl
        exact ⟨rfl, rfl⟩
      · -- a first term
        have hn3 : nx (kSkip K3) ((kSkip K3) 51 1) = nx K3 (K3 51 1) := by
          rw [nx_congr (K := K3) (kSkip_o (Or.inl (by decide))) (fun j => kSkip_o (Or.inl (by decide))), kSkip_nx]
          exact nx_idem v2.1.2.1
        obtain ⟨b, J1, hct1, hF1, hres1⟩ := hPP d hd _ (kSkip K3) v2.skip r2.skip r3.skip M2' (by rw [kSkip_2, e3]; decide) (fun _ => by rw [hn3, cur_congr (K := K3) (kSkip_o (Or.inl (by decide))) (fun j => kSkip_o (Or.inl (by decide)))]; exact c41) (by rw [kSkip_4, e5]; omega)
        have hw3 : kWt (kSkip K3) = true := by
          unfold kWt
          rw [kSkip_3, kSkip_o (K := K3) (a := 41) (Or.inl (by decide)), decide_eq_true_eq, e4]
          exact ⟨by omega, kn3⟩
        rw [hw3, kSkip_3, e4] at hct1
        rcases hres1 with ⟨rfl, K4, ⟨g1, g2, g3, g4, g5, g6, ⟨g7, g8, g9, g10⟩, g11⟩, hS4⟩ | ⟨rfl, hbad, h0⟩
        · rw [kSkip_3] at g7
          rw [kSkip_4] at g8
          rw [kSkip_7] at g9
          rw [RR_skip v2.1.2.1] at g4
          have fkB : FK K3 K4 := (FK.skip v2).tr g11
          have e34 : K4 51 3 = K1 39 2 := g7.trans e4
          have kn4 : K4 41 (K1 39 2).toNat = 0 := by rw [(fkB.2.2.2.2.2 _ (by have := fk3.2.2.2.2.1; omega)).1]; exact kn3
          have pr4 : K4 45 (K1 39 2).toNat = K 51 3 := by rw [(fkB.2.2.2.2.2 _ (by have := fk3.2.2.2.2.1; omega)).2]; exact pr3
          obtain ⟨b, J2, hev2, hF2, hres2⟩ := term_128 hg hu cu hPP hd _ J1 K4 (Nat.le_refl _) g1 g2 g3 hS4 g5 g6 (by rw [e34]; omega) (by rw [e34]; exact kn4) (by rw [g8, e5]; omega)
          rw [e34] at hev2
          refine ⟨b, J2, CT.of (R := (some (.inl b), (g, J2))) oX8_term (Nat.le_of_ble_eq_true rfl) (Nat.le_refl _) (Nat.le_refl _) (go _ _ (fun z => absurd c40 z) (fun _ => ⟨_, _, hop, fun _ => ⟨_, _, M1, fun z => absurd z c41, fun _ => ⟨_, _, hct1, fun _ => hev2, fun z => absurd z (by decide)⟩⟩, fun z => absurd z (by decide)⟩)), fmM.tr (hF1.tr hF2), ?_⟩
          have hRR4 : RR K4 = RR K := by rw [g4, ← v1, ← t1]
          rcases hres2 with ⟨rfl, K5, hG, hS5⟩ | ⟨rfl, hbad, h0⟩
          · exact Or.inl ⟨rfl, K5, fin K4 K5 (fkA.tr fkB) hRR4 e34 (g8.trans e5) (g9.trans w7) kn4 pr4 g3 hG, hS5⟩
          · exact Or.inr ⟨rfl, by rw [hbad, hRR4], by rw [← hRR4]; exact h0⟩
        · rw [RR_skip v2.1.2.1, ← v1, ← t1] at hbad h0
          exact ⟨0, J1, CT.of (R := (some (.inl 0), (g, J1))) oX8_term (Nat.le_of_ble_eq_true rfl) (Nat.le_refl _) (Nat.le_refl _) (go _ _ (fun z => absurd c40 z) (fun _ => ⟨_, _, hop, fun _ => ⟨_, _, M1, fun z => absurd z c41, fun _ => ⟨_, _, hct1, fun z => absurd rfl z, fun _ => ⟨rfl, rfl⟩⟩⟩, fun z => absurd z (by decide)⟩)), fmM.tr hF1, Or.inr ⟨rfl, hbad, h0⟩⟩
  · refine ⟨1, _, CT.of (R := (some (.inl 1), (g, mset I3 80 14 (nx K2 (K2 51 1))))) oX8_term (Nat.le_of_ble_eq_true rfl) (Nat.le_refl _) (Nat.le_refl _) (go _ _ (fun _ => ⟨rfl, rfl⟩) (fun z => absurd z c40)), fmL, Or.inl ⟨rfl, kSkip K2, ⟨t2.skip, q2.skip, cd2.skip, by rw [RR_skip t2.1.2.1, t1], by rw [kSkip_2, a2]; decide, fun _ => ?_, ⟨?_, ?_, ?_, ?_⟩, fk1.tr (fk2.tr (FK.skip t2))⟩, L2'⟩⟩
    · rw [nx_congr (K := K2) (kSkip_o (Or.inl (by decide))) (fun j => kSkip_o (Or.inl (by decide))), kSkip_nx, nx_idem t2.1.2.1, cur_congr (K := K2) (kSkip_o (Or.inl (by decide))) (fun j => kSkip_o (Or.inl (by decide)))]
      exact c40
    · rw [kSkip_3, a51 3 (by decide) (by decide), o1]
    · rw [kSkip_4, a51 4 (by decide) (by decide), d1]
    · rw [kSkip_7, a51 7 (by decide) (by decide), w1]
    · rw [kSkip_nx]
      omega
end ST
