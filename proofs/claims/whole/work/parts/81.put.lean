/-! ===== put, back ===== -/
/-- what the reference leaves of the class's heap -/
def FrZ (C M : IF) : Prop := ∀ a k : Nat, (a < 80 ∨ a = 81 ∨ (91 < a ∧ a < 112) ∨ (131 < a ∧ a < 135) ∨ (a = 80 ∧ (k = 2 ∨ k = 10))) → M a k = C a k
def GS (g g2 : AG) : Prop := GOk g2 ∧ g2.1 = g.1 ∧ g2.2.2 = g.2.2
section PUT
variable {Γ : GX} {g g2 g3 : AG} {I J X K T P C A L M N T' : IF} {Df : Nat → Nat → Prop} {w fr rule r : Int}
theorem GS.tr (h : GS g g2) (h2 : GS g2 g3) : GS g g3 := ⟨h2.1, h2.2.1.trans h.2.1, h2.2.2.trans h.2.2⟩
theorem FrZ.tr (h : FrZ C L) (h2 : FrZ L M) : FrZ C M := fun a k z => (h2 a k z).trans (h a k z)
theorem m_readT (hg : GOk g) {u : Nat} (hu : Mt u) {b2 nb2 : Nat} (pb2 : 0 < b2) (sb2 : g.1[b2]? = some (.inr (.byte, nb2))) (lb2 : (nb2 : Int) < 100000) (hb2 : b2 ≠ 80 ∧ b2 ≠ u ∧ b2 ≠ u + 1) {fr : Int} (hfr : 0 ≤ fr ∧ fr + T 0 1 ≤ nb2) (hT : RdOk 0 T) (hby : ∀ j : Nat, (j : Int) < T 0 1 → I b2 (fr + j).toNat = sb (T 1 j)) :
    ∃ J : IF, CT Γ 61 mX8_read [.inr (some 80), .inr (some u), .inr (some b2), .inl fr, .inl (T 0 1), .inl 0] (g, I) (some (.inl (-1)), (sT g u, J)) ∧ FR u I J ∧ TR T (tv u J) := by
  have tx := hT.tok
  obtain ⟨l1, l2⟩ := lay_again hT
  obtain ⟨J, j1, j2, j3⟩ := m_read (Γ := Γ) (I := I) (Kc := lay T) (w := 0) hg hu pb2 sb2 lb2 hb2 (fr := fr) (m := T 0 1) hfr (Or.inl rfl) rfl tx.1.1 (fun j hj => ⟨hby j hj, tx.1.2.2 j hj⟩)
  rw [l1] at j1
  obtain ⟨s1, s2⟩ := j3 l1
  have hb : (RR (kStart 0 (lay T))).2 39 2 ≤ 120 := by
    have e : (RR (kStart 0 (lay T))).2 39 2 = T 0 2 := l2.2.1
    have := tx.1.2.1
    omega
  exact ⟨J, j1, j2, (TR_of s1 s2 hb).cg l2.sy⟩
theorem Inv.cin (h : Inv I) : CIn I := ⟨h.1.2.1, h.1.2.2.1, h.1.2.2.2.1, h.2⟩
theorem CIn.mv (h : CIn I) (e : ∀ a k : Nat, a < 66 → J a k = I a k) : CIn J := by
  have cs : CSame I J := ⟨fun i k hi => e _ _ (by omega), fun i k hi => e _ _ (by omega), fun k => ⟨e _ _ (by omega), e _ _ (by omega)⟩, e _ _ (by omega), e _ _ (by omega)⟩
  have c3 : ct 3 J = ct 3 I := cs.eqs.1
  have c27 : ct 27 J = ct 27 I := ct_eq (t := 27) (fun i k hi => e _ _ (by omega))
  refine ⟨h.1.mv cs (e 15 1 (by omega)), ⟨by rw [c27]; exact h.2.1.1, by rw [e 27 1 (by omega)]; exact h.2.1.2⟩, by rw [c3]; exact h.2.2.1, fun z => ?_⟩
  rw [e 52 15 (by omega)] at z
  exact (h.2.2.2 z).cs cs (fun k => ⟨e _ _ (by omega), e _ _ (by omega)⟩) (e _ _ (by omega))
/-- the invariant, behind both -/
theorem Inv.fin (h : Inv I) (hc : CIn C) (fo : ∀ a k : Nat, (a < 3 ∨ (14 < a ∧ a < 39) ∨ (a = 52 ∧ (k = 7 ∨ k = 8)) ∨ a = 57 ∨ a = 58 ∨ 79 < a) → C a k = I a k) (fm : ∀ a k : Nat, (a < 80 ∨ a = 81 ∨ (91 < a ∧ a < 112) ∨ a = 134 ∨ (a = 80 ∧ k = 2)) → J a k = C a k) (hT : TR (zT C) (tv 82 J)) (hP : PastR J) : Inv J := by
  obtain ⟨⟨b1, b2, b3, b4, b5, b6, b7⟩, -⟩ := h
  have cs : CSame C J := ⟨fun i k hi => fm _ _ (by omega), fun i k hi => fm _ _ (by omega), fun k => ⟨fm _ _ (by omega), fm _ _ (by omega)⟩, fm _ _ (by omega), fm _ _ (by omega)⟩
  have hJ : CIn J := hc.mv (fun a k z => fm a k (by omega))
  have c3 : ct 3 J = ct 3 C := cs.eqs.1
  have all : ∀ a k : Nat, (a < 3 ∨ (14 < a ∧ a < 39) ∨ a = 57 ∨ a = 58 ∨ a = 81 ∨ (91 < a ∧ a < 112) ∨ a = 134 ∨ (a = 80 ∧ k = 2)) → J a k = I a k := fun a k z => (fm a k (by omega)).trans (fo a k (by omega))
  have c15 : ct 15 J = ct 15 I := ct_eq (t := 15) (fun i k hi => all _ _ (by omega))
  have c27 : ct 27 J = ct 27 I := ct_eq (t := 27) (fun i k hi => all _ _ (by omega))
  exact ⟨⟨b1.mv (all _ _ (by omega)) (all _ _ (by omega)) (fun j _ => ⟨all _ _ (by omega), all _ _ (by omega)⟩), hJ.1, hJ.2.1, hJ.2.2.1, ⟨by rw [c3]; exact hT, by rw [c15]; exact b5.2.1.cgU (fun i k hi => all (92 + i) k (by omega)), by rw [c27]; exact b5.2.2.cgU (fun i k hi => all (102 + i) k (by omega))⟩, b6.mv (fun k => all _ _ (by omega)) (fun k => all _ _ (by omega)), hP⟩, hJ.2.2.2⟩
theorem Step.nn {P X T T' : IF} (h : Step P X fr Df rule T T' r) : r = -2 ∨ 0 ≤ r := by
  obtain ⟨Kc, -, z | z⟩ := h
  · exact Or.inl z.1
  · right; rw [z.1]; exact ncI_nn _ _ _
theorem Step.zr {P X T T' : IF} (h : Step P X fr Df rule T T' r) : (r = 0 → T' = T) ∧ (r = 0 ↔ ncI (mTk T P fr Df rule) 1 (T 0 2).toNat = 0) := by
  obtain ⟨Kc, -, z | z⟩ := h
  · exact ⟨fun y => by omega, fun y => by omega, fun y => absurd y z.2.2.1⟩
  · exact ⟨z.2.2.2.2.2, fun y => by rw [← z.1]; exact y, fun y => by rw [z.1]; exact y⟩
/-- the text before, read by the reference -/
theorem m_before (hg : GOk g) (h : Inv I) (fc : ∀ a k : Nat, 79 < a → C a k = I a k) :
    ∃ L : IF, CT Γ 61 mX8_read [.inr (some 80), .inr (some 122), .inr (some 83), .inl 0, .inl (mset C 80 0 0 82 1), .inl 0] (g, mset C 80 0 0) (some (.inl (-1)), (sT g 122, L)) ∧ FrZ C L ∧ TR (zT I) (tv 122 L) ∧ MSt (zT I) (zP I) (zDf I) L ∧ TR (ct 27 I) (tv 102 L) := by
  have hM := Inv.mst h.1
  have hr := h.1.2.2.2.2.1
  have hT := h.1.2.2.2.1
  have hl : 0 ≤ zT I 0 1 ∧ zT I 0 1 ≤ 240 := hT.tok.1.1
  have e1 : mset C 80 0 0 82 1 = zT I 0 1 := by
    rw [mset_a _ _ (by decide), fc 82 1 (by decide)]
    exact hr.1.1
  obtain ⟨L, l1, l2, l3⟩ := m_readT (Γ := Γ) (I := mset C 80 0 0) (T := zT I) (u := 122) (b2 := 83) (nb2 := 240) hg (by unfold Mt; omega) (by decide) (gs_83 hg) (by decide) ⟨by decide, by decide, by decide⟩ (fr := 0) ⟨by decide, by omega⟩ hT (fun j hj => by
    rw [show ((0 : Int) + (j : Int)).toNat = j by omega, mset_a _ _ (by decide), fc 83 j (by decide)]
    exact hr.1.2.2.1 j hj)
  have lf : ∀ a k : Nat, ((a ≠ 80 ∧ a ≠ 135 ∧ (a < 122 ∨ 131 < a)) ∨ (a = 80 ∧ k ≠ 0 ∧ (k < 13 ∨ 19 < k))) → L a k = C a k := fun a k z => by
    rw [l2 a k (by omega)]
    unfold mset
    rw [if_neg (by omega)]
  have lI : ∀ a k : Nat, (79 < a ∧ a ≠ 80 ∧ a ≠ 135 ∧ (a < 122 ∨ 131 < a)) → L a k = I a k := fun a k z => (lf a k (by omega)).trans (fc a k z.1)
  rw [e1]
  obtain ⟨h1, h2, h3, h4, h5, h6⟩ := hM
  refine ⟨L, l1, fun a k z => lf a k (by omega), l3, ⟨h1, h2, h3, h4.cgU (fun i k hi => lI (82 + i) k (by omega)), h5.cgU (fun i k hi => lI (92 + i) k (by omega)), fun a b ha hb => ?_⟩, hr.2.2.cgU (fun i k hi => lI (102 + i) k (by omega))⟩
  rw [lI 134 _ (by omega)]
  exact h6 a b ha hb
/-- the ends -/
theorem fin_stay (h : Inv I) (foA : FrO (wrt I) A) (hcA : CIn A) (fm : FrZ A M) (hT : TR (zT A) (tv 82 M)) : Inv M := by
  have hp := h.1.2.2.2.2.2.2
  have hp3 := hp.1.2.2
  refine h.fin hcA (fun a k z => (foA a k (by omega)).trans (wrt_f (by omega) (by omega))) (fun a k z => fm a k (by omega)) hT (hp.wr2.mv (fun a k z => ?_))
  rw [fm a k (by omega)]
  exact foA a k (by omega)
theorem fin_keep (hg : GOk g) (h : Inv I) (foA : FrO (wrt I) A) (hcA : CIn A) (fm : FrZ (kpt A) M) (hT : TR (zT A) (tv 82 M)) (hb : TR (zT I) (tv 122 M)) :
    ∃ N : IF, CT Γ 0 mX8_keep [.inr (some 80), .inr (some 122)] (g, M) (none, (g, N)) ∧ Inv N := by
  have hp := h.1.2.2.2.2.2.2
  have hp3 := hp.1.2.2
  have hRd := h.1.2.2.2.1
  have hl : 0 ≤ zT I 0 1 ∧ zT I 0 1 ≤ 240 := hRd.tok.1.1
  have b1 : M 122 1 = zT I 0 1 := hb.1
  have hpA : PastR A := hp.wr2.mv (fun a k z => foA a k (by omega))
  have pA := hpA.1
  have m10 : M 80 10 = A 80 10 := (fm 80 10 (by omega)).trans (kpt_f (by omega))
  obtain ⟨N, n1, n2⟩ := m_keep (Γ := Γ) (g := g) (I := M) hg (by rw [b1]; exact hl) (by rw [m10]; omega)
  have nf := n2.1
  have e662 : wrt I 66 2 = I 66 2 := wrt_f (by omega) (by omega)
  have hW : Wr (zT I) A := (wrt_w hp3).mv (by rw [e662]; exact hp3) (fun a k z => foA a k (by omega))
  have ck : zT (kpt A) = zT A := ct_eq (t := 3) (fun i k hi => kpt_f (by omega))
  refine ⟨N, n1, h.fin (C := kpt A) (hcA.mv (fun a k z => kpt_f (by omega))) (fun a k z => (kpt_f (by omega)).trans ((foA a k (by omega)).trans (wrt_f (by omega) (by omega)))) (fun a k z => (nf a k (by omega) (by omega) (by omega)).trans (fm a k (by omega))) ?_ ?_⟩
  · rw [ck]
    exact hT.cgU (fun i k hi => nf (82 + i) k (by omega) (by omega) (by omega))
  · refine hpA.keep (L := M) hW hRd ?_ ?_ (fun a k z1 z2 => ?_) m10 (fun k => ⟨(fm 132 k (by omega)).trans (kpt_f (by omega)), (fm 133 k (by omega)).trans (kpt_f (by omega))⟩) ⟨b1, fun j hj => hb.2.2.1 j hj⟩ n2
    · rw [nf 66 2 (by omega) (by omega) (by omega), fm 66 2 (by omega)]
      unfold kpt
      rw [mset_k _ _ (by decide), mset_s]
    · rw [nf 66 3 (by omega) (by omega) (by omega), fm 66 3 (by omega)]
      exact mset_s _ _ _ _
    · rw [nf a k (by omega) (by omega) (by omega), fm a k (by omega)]
      exact kpt_f (by omega)
theorem FrU.z (h : FrU L M) : FrZ L M := fun a k z => h a k (by omega) (by omega)
theorem FrU.b (h : FrU L M) (hb : TR T (tv 122 L)) : TR T (tv 122 M) := hb.cgU (fun i k hi => h (122 + i) k (by omega) (by omega))
theorem FrU.t (h : FrU L M) (hb : TR T (tv 102 L)) : TR T (tv 102 M) := hb.cgU (fun i k hi => h (102 + i) k (by omega) (by omega))
/-- not put: the reference -/
theorem m_puts_no (hg : GOk g) (h : Inv I) (no : ¬ ((rule = 0 ∨ rule = 1 ∨ rule = 2) ∧ LetOk (ct 27 I) (zP I))) :
    ∃ (L M : IF) (g9 : AG), CT Γ 61 mX8_read [.inr (some 80), .inr (some 122), .inr (some 83), .inl 0, .inl (mset I 80 0 0 82 1), .inl 0] (g, mset I 80 0 0) (some (.inl (-1)), (sT g 122, L)) ∧ CT Γ 904 mX8_puts [.inr (some 80), .inl rule] (sT g 122, L) (some (.inl (-2)), (g9, M)) ∧ GS (sT g 122) g9 ∧ Inv M := by
  obtain ⟨L, l1, l2, l3, l4, l5⟩ := m_before (Γ := Γ) (C := I) hg h (fun _ _ _ => rfl)
  have iv : ∀ M : IF, FrZ I M → TR (zT I) (tv 82 M) → Inv M := fun M fm hT => h.fin h.cin (fun _ _ _ => rfl) (fun a k z => fm a k (by omega)) hT (h.1.2.2.2.2.2.2.mv (fun a k z => fm a k (by omega)))
  by_cases hr : rule = 0 ∨ rule = 1 ∨ rule = 2
  · obtain ⟨ro, gf, J, j1, j2, j3, j4, -⟩ := m_puts (Γ := Γ) (fr := I 52 7) (Kc := I) (w := 2) (gS (t := 122) hg) l4 h.cin.1.2.2.2.2.1 h.cin.1.2.2.2.2.2.2.1 h.cin.2.1.1 l5 hr (fun z => absurd ⟨hr, z⟩ no)
    obtain ⟨q1, q2⟩ := j4 (Or.inl (fun z => no ⟨hr, z⟩))
    rw [q1] at j1
    exact ⟨L, J, gf, l1, j1, j2, iv J (l2.tr j3.z) (l4.2.2.2.1.cgU (fun i k hi => q2 (82 + i) k (by omega) (by omega)))⟩
  · exact ⟨L, L, sT g 122, l1, m_puts_n (gS (t := 122) hg) hr, ⟨gS hg, rfl, rfl⟩, iv L l2 l4.2.2.2.1⟩
/-- written, and once put -/
theorem c_written (hg : GOc g) (h : Inv I) : CT Γ 1 mX2_write [.inr (some 66), .inr (some 3)] (g, I) (none, (g, wrt I)) ∧ CIn (wrt I) ∧ zT (wrt I) = zT I ∧ zP (wrt I) = zP I ∧ ct 27 (wrt I) = ct 27 I ∧ zDf (wrt I) = zDf I ∧ wrt I 52 7 = I 52 7 := by
  have hp := h.1.2.2.2.2.2.2
  have hp3 := hp.1.2.2
  have hl : 0 ≤ I 3 1 ∧ I 3 1 ≤ 240 := h.1.2.2.2.1.tok.1.1
  refine ⟨c_write hg hp3 hl, h.cin.mv (fun a k z => wrt_f (by omega) (by omega)), ct_eq (t := 3) (fun i k hi => wrt_f (by omega) (by omega)), ct_eq (t := 15) (fun i k hi => wrt_f (by omega) (by omega)), ct_eq (t := 27) (fun i k hi => wrt_f (by omega) (by omega)), ?_, wrt_f (by omega) (by omega)⟩
  funext a b
  unfold zDf
  rw [wrt_f (a := 58) (by omega) (by omega)]
theorem c_once (hg : GOk g) (h : Inv I) (hr : rule = 0 ∨ rule = 1 ∨ rule = 2) (hO : LetOk (ct 27 I) (zP I)) {Y : IF} (fo : FrO (wrt I) Y) (hY : CIn Y) :
    ∃ (r : Int) (A : IF), CT Γ 5 mX6_putOnce [.inr (some 1), .inl rule] (g, Y) (some (.inl r), (g, A)) ∧ FrO (wrt I) A ∧ CIn A ∧ Step (zP I) (ct 27 I) (I 52 7) (zDf I) rule (zT Y) (zT A) r := by
  obtain ⟨-, -, w1, w2, w3, w4, w5⟩ := c_written (Γ := Γ) hg.c h
  obtain ⟨p1, p2, p3, p4⟩ := fo.p
  obtain ⟨r, A, a1, a2, a3, a4⟩ := c_putOnce (Γ := Γ) (I := Y) (rule := rule) hg hY (by rw [p1, p2, w2, w3]; exact hO) hr
  rw [p1, p2, p3, p4, w2, w3, w4, w5] at a4
  exact ⟨r, A, a1, fo.tr a2, a3, a4⟩
/-- PUT -/
theorem q_put (hg : GOk g) (h : Inv I) (rule : Int) : Q2 Γ g I 6 mX6_put [.inl rule] 905 mX8_put [.inl rule] := by
  have hc : CIn I := h.cin
  have cm := c_mayPut (Γ := Γ) (rule := rule) hg.c hc.1.2.1 hc.2.1.1
  by_cases ok : (rule = 0 ∨ rule = 1 ∨ rule = 2) ∧ LetOk (ct 27 I) (zP I)
  · rw [pb_t ok] at cm
    obtain ⟨w0, wc, w1, w2, w3, w4, w5⟩ := c_written (Γ := Γ) hg.c h
    obtain ⟨r, A, a1, a2, a3, a4⟩ := c_once (Γ := Γ) (rule := rule) hg h ok.1 ok.2 FrO.rf wc
    rw [w1] at a4
    have hp := h.1.2.2.2.2.2.2
    have hp3 := hp.1.2.2
    by_cases r2 : r = -2
    · obtain ⟨L, l1, l2, l3, l4, l5⟩ := m_before (Γ := Γ) (C := A) hg h (fun a k z => (a2 a k (by omega)).trans (wrt_f (by omega) (by omega)))
      obtain ⟨gf, M, m1, m2, m3, m4⟩ := m_step (Γ := Γ) (g := sT g 122) (w := 2) (gS hg) l4 hc.1.2.2.2.2.1 hc.1.2.2.2.2.2.2.1 hc.2.1.1 l5 ok.2 ok.1 a4
      refine ⟨r, A, M, gf, CT.of (R := (some (.inl r), (g, A))) oX6_put (Nat.le_of_ble_eq_true rfl) (Nat.le_refl _) (Nat.le_refl _) (v_X6_put_0 hg.c rule ⟨_, _, cm, fun _ => ⟨_, w0, _, _, a1, fun _ => ⟨rfl, rfl⟩, fun z => absurd r2 z⟩, fun z => absurd z (by decide)⟩), ?_, GS.tr ⟨gS hg, rfl, rfl⟩ m2, fin_stay h a2 a3 (l2.tr m3.z) m4.2.2.2.1⟩
      have e22 : gf.2.2 = g.2.2 := m2.2.2
      refine CT.of (R := (some (.inl r), (gf, M))) oX8_put (Nat.le_of_ble_eq_true rfl) ?_ ?_ (v_X8_put_0 (gf := gf) hg (by rw [e22]) rule (fun I1 e1 => ?_))
      · show g.2.2.2.1 ≤ gf.2.2.2.1
        rw [e22]; exact Nat.le_refl _
      · show g.2.2.2.2 ≤ gf.2.2.2.2
        rw [e22]; exact Nat.le_refl _
      · rw [e1]
        exact ⟨_, _, _, l1, gS hg, rfl, _, _, _, m1, m2.1, by rw [m2.2.2], fun _ => ⟨rfl, rfl, rfl⟩, fun z => absurd (by omega) z⟩
    · have r0 : 0 ≤ r := by
        rcases a4.nn with z | z
        · exact absurd z r2
        · exact z
      have pA := (hp.wr2.mv (J := A) (fun a k z => a2 a k (by omega))).1
      have kw := c_keepWritten (Γ := Γ) (I := A) hg.c pA.2.2 pA.2.1
      obtain ⟨L, l1, l2, l3, l4, l5⟩ := m_before (Γ := Γ) (C := kpt A) hg h (fun a k z => (kpt_f (by omega)).trans ((a2 a k (by omega)).trans (wrt_f (by omega) (by omega))))
      obtain ⟨gf, M, m1, m2, m3, m4⟩ := m_step (Γ := Γ) (g := sT g 122) (w := 2) (gS hg) l4 hc.1.2.2.2.2.1 hc.1.2.2.2.2.2.2.1 hc.2.1.1 l5 ok.2 ok.1 a4
      obtain ⟨N, n1, n2⟩ := fin_keep (Γ := Γ) (g := gf) m2.1 h a2 a3 (l2.tr m3.z) m4.2.2.2.1 (m3.b l3)
      refine ⟨r, kpt A, N, gf, CT.of (R := (some (.inl r), (g, kpt A))) oX6_put (Nat.le_of_ble_eq_true rfl) (Nat.le_refl _) (Nat.le_refl _) (v_X6_put_0 hg.c rule ⟨_, _, cm, fun _ => ⟨_, w0, _, _, a1, fun z => absurd z r2, fun _ => ⟨_, kw, rfl, rfl⟩⟩, fun z => absurd z (by decide)⟩), ?_, GS.tr ⟨gS hg, rfl, rfl⟩ m2, n2⟩
      have e22 : gf.2.2 = g.2.2 := m2.2.2
      refine CT.of (R := (some (.inl r), (gf, N))) oX8_put (Nat.le_of_ble_eq_true rfl) ?_ ?_ (v_X8_put_0 (gf := gf) hg (by rw [e22]) rule (fun I1 e1 => ?_))
      · show g.2.2.2.1 ≤ gf.2.2.2.1
        rw [e22]; exact Nat.le_refl _
      · show g.2.2.2.2 ≤ gf.2.2.2.2
        rw [e22]; exact Nat.le_refl _
      · rw [e1]
        exact ⟨_, _, _, l1, gS hg, rfl, _, _, _, m1, m2.1, by rw [m2.2.2], fun z => absurd z (by omega), fun _ => ⟨_, n1, rfl, rfl, rfl⟩⟩
  · rw [pb_f ok] at cm
    obtain ⟨L, M, gf, l1, m1, m2, m3⟩ := m_puts_no (Γ := Γ) hg h ok
    have e22 : gf.2.2 = g.2.2 := m2.2.2
    refine ⟨-2, I, M, gf, CT.of (R := (some (.inl (-2)), (g, I))) oX6_put (Nat.le_of_ble_eq_true rfl) (Nat.le_refl _) (Nat.le_refl _) (v_X6_put_0 hg.c rule ⟨_, _, cm, fun z => absurd rfl z, fun _ => ⟨rfl, rfl⟩⟩), ?_, GS.tr ⟨gS hg, rfl, rfl⟩ m2, m3⟩
    refine CT.of (R := (some (.inl (-2)), (gf, M))) oX8_put (Nat.le_of_ble_eq_true rfl) ?_ ?_ (v_X8_put_0 (gf := gf) hg (by rw [e22]) rule (fun I1 e1 => ?_))
    · show g.2.2.2.1 ≤ gf.2.2.2.1
      rw [e22]; exact Nat.le_refl _
    · show g.2.2.2.2 ≤ gf.2.2.2.2
      rw [e22]; exact Nat.le_refl _
    · rw [e1]
      exact ⟨_, _, _, l1, gS hg, rfl, _, _, _, m1, m2.1, by rw [m2.2.2], fun _ => ⟨rfl, rfl, rfl⟩, fun z => absurd (by decide) z⟩
/-- BACK -/
theorem q_back (hg : GOk g) (h : Inv I) : Q2 Γ g I 6 mX6_back [] 62 mX8_back [] := by
  have hp := h.1.2.2.2.2.2.2
  obtain ⟨⟨p1, p2, p3⟩, p4⟩ := hp
  by_cases k0 : I 66 3 = 0
  · refine Q2.same (r := 0) hg (CT.of (R := (some (.inl 0), (g, I))) oX6_back (Nat.le_of_ble_eq_true rfl) (Nat.le_refl _) (Nat.le_refl _) (v_X6_back_0 hg.c ⟨_, _, c_stepBack_n hg.c k0, fun z => absurd rfl z, fun _ => ⟨rfl, rfl⟩⟩)) (CT.of (R := (some (.inl 0), (g, mset I 80 0 0))) oX8_back (Nat.le_of_ble_eq_true rfl) (Nat.le_refl _) (Nat.le_refl _) (v_X8_back_0 (gf := g) hg rfl (fun I1 e1 => ?_))) (h.m80 (by decide))
    subst e1
    refine ⟨fun z => absurd ?_ z, fun _ => ⟨rfl, rfl, rfl⟩⟩
    rw [mset_k _ _ (by decide), p1, k0]
  · obtain ⟨kn, ek⟩ : ∃ kn : Nat, I 66 3 = kn + 1 := ⟨(I 66 3 - 1).toNat, by omega⟩
    have sb' := c_stepBack (Γ := Γ) (I := I) hg.c p3 (by omega)
    obtain ⟨q1, q2, q3, X, q4, q5, q6⟩ := p4 kn (by omega)
    have s2 : stb I 66 2 = if I 66 2 ≤ 0 then 10 else I 66 2 - 1 := mset_s _ _ _ _
    have s3 : stb I 66 3 = kn := by
      unfold stb
      rw [mset_k _ _ (by decide), mset_s, ek]
      omega
    have sp : 0 ≤ stb I 66 2 ∧ stb I 66 2 ≤ 10 := by
      rw [s2]
      split <;> omega
    have es : slot I kn = (stb I 66 2).toNat := by
      unfold slot
      rw [s2, ek]
      split <;> omega
    rw [es] at q1 q2 q3 q5 q6
    have hW : Wr X (stb I) := ⟨by rw [stb_f (a := 79) (by omega)]; exact q5.symm, fun j hj => by rw [stb_f (by omega)]; rw [q5] at hj; exact (q6 j hj).symm⟩
    obtain ⟨A, a1, a2, a3, a4⟩ := c_restore (Γ := Γ) (I := stb I) hg.c (h.cin.mv (fun a k z => stb_f (by omega))) sp q4 hW
    have fA : ∀ a k : Nat, (a < 3 ∨ (14 < a ∧ a < 39) ∨ (a = 52 ∧ (k = 7 ∨ k = 8)) ∨ a = 57 ∨ a = 58 ∨ 66 < a) → A a k = I a k := fun a k z => (a2 a k (by omega)).trans (stb_f (by omega))
    have xl := q4.tok.1.1
    -- the reference
    have e10 : mset (mset A 80 0 0) 80 10 kn 80 10 = kn := mset_s _ _ _ _
    have e133 : mset (mset A 80 0 0) 80 10 kn 133 kn = X 0 1 := by
      rw [mset_a _ _ (by decide), mset_a _ _ (by decide), fA 133 kn (by omega), q2, q5]
    obtain ⟨L, l1, l2, l3⟩ := m_readT (Γ := Γ) (I := mset (mset A 80 0 0) 80 10 kn) (T := X) (u := 82) (b2 := 132) (nb2 := 2400) hg (by unfold Mt; omega) (by decide) (gs_132 hg) (by decide) ⟨by decide, by decide, by decide⟩ (fr := 240 * kn) ⟨by omega, by omega⟩ q4 (fun j hj => by
      rw [q5] at hj
      rw [show (240 * (kn : Int) + (j : Int)).toNat = 240 * kn + j by omega, mset_a _ _ (by decide), mset_a _ _ (by decide), fA 132 _ (by omega), q6 j (by exact hj)]
      exact q3 j hj)
    have lf : ∀ a k : Nat, ((a ≠ 80 ∧ a ≠ 135 ∧ (a < 82 ∨ 91 < a)) ∨ (a = 80 ∧ k ≠ 0 ∧ k ≠ 10 ∧ (k < 13 ∨ 19 < k))) → L a k = A a k := fun a k z => by
      rw [l2 a k (by omega)]
      unfold mset
      rw [if_neg (by omega), if_neg (by omega)]
    have L10 : L 80 10 = kn := (l2 80 10 (by omega)).trans e10
    refine ⟨1, A, L, sT g 82, CT.of (R := (some (.inl 1), (g, A))) oX6_back (Nat.le_of_ble_eq_true rfl) (Nat.le_refl _) (Nat.le_refl _) (v_X6_back_0 hg.c ⟨_, _, sb', fun _ => ⟨_, a1, rfl, rfl⟩, fun z => absurd z (by decide)⟩), CT.of (R := (some (.inl 1), (sT g 82, L))) oX8_back (Nat.le_of_ble_eq_true rfl) (Nat.le_refl _) (Nat.le_refl _) (v_X8_back_0 (gf := sT g 82) hg rfl (fun I1 e1 => ?_)), sT_ok hg, h.fin (C := A) a3 (fun a k z => fA a k (by omega)) (fun a k z => lf a k (by omega)) (l3.cg a4) ?_⟩
    · have i10 : I1 80 10 = kn + 1 := by rw [e1, mset_k _ _ (by decide), fA 80 10 (by omega), p1, ek]
      rw [i10]
      refine ⟨fun _ => ⟨by unfold inR; omega, fun I4 e4 => ?_⟩, fun z => by omega⟩
      rw [show (kn : Int) + 1 - 1 = kn by omega, e1] at e4
      rw [e4, e10, Int.toNat_natCast, e133]
      exact ⟨by unfold inR; omega, by omega, _, _, _, l1, gS hg, rfl, rfl, rfl, rfl⟩
    · have L3 : L 66 3 = kn := (lf 66 3 (by omega)).trans ((a2 66 3 (by omega)).trans s3)
      have L2 : L 66 2 = stb I 66 2 := (lf 66 2 (by omega)).trans (a2 66 2 (by omega))
      have pI : PastR I := ⟨⟨p1, p2, p3⟩, p4⟩
      refine ⟨⟨by rw [L10, L3], by omega, by rw [L2]; exact sp⟩, fun i hi => ?_⟩
      have hs := slot_le (I := I) i
      have e2 : slot L i = slot I i := by
        unfold slot
        rw [L2, L3, s2, ek]
        split <;> omega
      rw [e2]
      exact (p4 i (by omega)).mv hs ((lf _ _ (by omega)).trans (fA _ _ (by omega))) ((lf _ _ (by omega)).trans (fA _ _ (by omega))) (fun j _ => (lf _ _ (by omega)).trans (fA _ _ (by omega))) (fun j _ => (lf _ _ (by omega)).trans (fA _ _ (by omega)))
end PUT
