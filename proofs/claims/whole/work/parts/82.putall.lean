/-! ===== putAll ===== -/
/-- puts until none is taken: m more are allowed, k were made -/
def AllR (S : IF → IF → Int → Prop) : Nat → Nat → IF → IF → Int → Prop
  | 0, _, T, T', a => T' = T ∧ a = -1
  | m + 1, k, T, T', a => ∃ (T1 : IF) (r : Int), S T T1 r ∧ ((r = 0 ∧ T' = T1 ∧ a = k) ∨ (r = -2 ∧ T' = T1 ∧ a = if k = 0 then -2 else -1) ∨ (0 < r ∧ AllR S m (k + 1) T1 T' a))
section PAL
variable {Γ : GX} {g g2 g3 : AG} {I J X K T P C A L M N T' : IF} {Df : Nat → Nat → Prop} {w fr rule r a : Int}
/-- the class's loop -/
theorem c_all_24 (hg : GOk g) (h : Inv I) (hr : rule = 0 ∨ rule = 1 ∨ rule = 2) (hO : LetOk (ct 27 I) (zP I)) : ∀ (m k : Nat) (Y : IF), m + k = 21 → FrO (wrt I) Y → CIn Y →
    ∃ (a : Int) (A J : IF), Ev Γ 6 mX6_putAll 24 [some (.inr (some 1)), some (.inl rule), some (.inl k), none] [] (g, Y) (some (.inl a), (g, J)) ∧ FrO (wrt I) A ∧ CIn A ∧ AllR (Step (zP I) (ct 27 I) (I 52 7) (zDf I) rule) m k (zT Y) (zT A) a ∧ (-2 ≤ a) ∧ (0 ≤ a → J = kpt A) ∧ (a = -2 → J = A ∧ k = 0) ∧ (a = -1 → FrO (wrt I) J ∧ CIn J ∧ TAg (zT I) (ct 3 J)) := by
  have hp := h.1.2.2.2.2.2.2
  have hp3 := hp.1.2.2
  have hRd := h.1.2.2.2.1
  have e662 : wrt I 66 2 = I 66 2 := wrt_f (by omega) (by omega)
  have res : ∀ Y : IF, FrO (wrt I) Y → CIn Y → ∃ J : IF, CT Γ 5 mX6_restoreWritten [.inr (some 1)] (g, Y) (none, (g, J)) ∧ FrO (wrt I) J ∧ CIn J ∧ TAg (zT I) (ct 3 J) := fun Y fo hY => by
    have y2 : Y 66 2 = I 66 2 := (fo 66 2 (by omega)).trans e662
    obtain ⟨J, j1, j2, j3, j4⟩ := c_restore (Γ := Γ) (I := Y) (X := zT I) hg.c hY (by rw [y2]; exact hp3) hRd ((wrt_w hp3).mv (by rw [e662]; exact hp3) (fun a k z => fo a k (by omega)))
    exact ⟨J, j1, fo.tr j2, j3, j4⟩
  intro m
  induction m with
  | zero =>
    intro k Y hm fo hY
    obtain ⟨J, j1, j2, j3, j4⟩ := res Y fo hY
    exact ⟨-1, Y, J, v_X6_putAll_24 hg.c rule k ⟨fun _ => ⟨_, j1, rfl, rfl⟩, fun z => absurd (by omega) z⟩, fo, hY, ⟨rfl, rfl⟩, by decide, fun z => absurd z (by decide), fun z => absurd z (by decide), fun _ => ⟨j2, j3, j4⟩⟩
  | succ m ih =>
    intro k Y hm fo hY
    obtain ⟨r, A, a1, a2, a3, a4⟩ := c_once (Γ := Γ) (rule := rule) hg h hr hO fo hY
    by_cases r0 : r = 0
    · have pA := (hp.wr2.mv (J := A) (fun a k z => a2 a k (by omega))).1
      have kw := c_keepWritten (Γ := Γ) (I := A) hg.c pA.2.2 pA.2.1
      exact ⟨k, A, kpt A, v_X6_putAll_24 hg.c rule k ⟨fun z => absurd z (by omega), fun _ => ⟨_, _, a1, fun z => absurd r0 z, fun _ => ⟨_, kw, rfl, rfl⟩⟩⟩, a2, a3, ⟨_, _, a4, Or.inl ⟨r0, rfl, rfl⟩⟩, by omega, fun _ => rfl, fun z => by omega, fun z => by omega⟩
    · by_cases r2 : r = -2
      · by_cases k0 : k = 0
        · refine ⟨-2, A, A, v_X6_putAll_24 hg.c rule k ⟨fun z => absurd z (by omega), fun _ => ⟨_, _, a1, fun _ => ⟨fun z => absurd r2 z, fun _ => ⟨fun z => absurd (by omega) z, fun _ => ⟨rfl, rfl⟩⟩⟩, fun z => absurd z r0⟩⟩, a2, a3, ⟨_, _, a4, Or.inr (Or.inl ⟨r2, rfl, by rw [if_pos k0]⟩)⟩, by decide, fun z => absurd z (by decide), fun _ => ⟨rfl, k0⟩, fun z => absurd z (by decide)⟩
        · obtain ⟨J, j1, j2, j3, j4⟩ := res A a2 a3
          refine ⟨-1, A, J, v_X6_putAll_24 hg.c rule k ⟨fun z => absurd z (by omega), fun _ => ⟨_, _, a1, fun _ => ⟨fun z => absurd r2 z, fun _ => ⟨fun _ => ⟨fun z => absurd r2 z, fun _ => ⟨_, j1, rfl, rfl⟩⟩, fun z => absurd z (by omega)⟩⟩, fun z => absurd z r0⟩⟩, a2, a3, ⟨_, _, a4, Or.inr (Or.inl ⟨r2, rfl, by rw [if_neg k0]⟩)⟩, by decide, fun z => absurd z (by decide), fun z => absurd z (by decide), fun _ => ⟨j2, j3, j4⟩⟩
      · have rp : 0 < r := by
          rcases a4.nn with z | z
          · exact absurd z r2
          · omega
        obtain ⟨a, A2, J, b1, b2, b3, b4, b5, b6, b7, b8⟩ := ih (k + 1) A (by omega) a2 a3
        exact ⟨a, A2, J, v_X6_putAll_24 hg.c rule k ⟨fun z => absurd z (by omega), fun _ => ⟨_, _, a1, fun _ => ⟨fun _ => ⟨fun _ => ⟨by unfold inR; omega, b1⟩, fun z => absurd z r2⟩, fun z => absurd z r2⟩, fun z => absurd z r0⟩⟩, b2, b3, ⟨_, _, a4, Or.inr (Or.inr ⟨rp, b4⟩)⟩, b5, b6, fun z => absurd (b7 z).2 (by omega), b8⟩
/-- the reference's ends -/
theorem m_all_k (hg : GOk g) {k : Nat} (fin : ∃ N : IF, CT Γ 0 mX8_keep [.inr (some 80), .inr (some 122)] (g, M) (none, (g, N)) ∧ Inv N) :
    ∃ (gf : AG) (N : IF), Ev Γ 905 mX8_putAll 46 [some (.inr (some 80)), some (.inl rule), none, some (.inl 0), some (.inl k)] [] (g, M) (some (.inl k), (gf, N)) ∧ GS g gf ∧ Inv N := by
  obtain ⟨N, n1, n2⟩ := fin
  exact ⟨g, N, v_X8_putAll_46 (gf := g) hg rfl rule 0 k ⟨fun _ => ⟨fun _ => ⟨_, n1, rfl, rfl, rfl⟩, fun z => absurd (Int.le_refl _) z⟩, fun z => absurd (Int.le_refl _) z⟩, ⟨hg, rfl, rfl⟩, n2⟩
theorem m_all_r (hg : GOk g) {k : Nat} (hr : r < 0) (fin : ∃ N : IF, CT Γ 61 mX8_read [.inr (some 80), .inr (some 82), .inr (some 123), .inl 0, .inl (M 122 1), .inl 0] (g, M) (some (.inl (-1)), (sT g 82, N)) ∧ Inv N) :
    ∃ (gf : AG) (N : IF), Ev Γ 905 mX8_putAll 46 [some (.inr (some 80)), some (.inl rule), none, some (.inl r), some (.inl k)] [] (g, M) (some (.inl (-1)), (gf, N)) ∧ GS g gf ∧ Inv N := by
  obtain ⟨N, n1, n2⟩ := fin
  exact ⟨sT g 82, N, v_X8_putAll_46 (gf := sT g 82) hg rfl rule r k ⟨fun _ => ⟨fun z => absurd z (by omega), fun _ => ⟨_, _, _, n1, gS hg, rfl, rfl, rfl, rfl⟩⟩, fun z => absurd (by omega) z⟩, ⟨gS hg, rfl, rfl⟩, n2⟩
/-- the reference's loop -/
theorem m_all_46 (hF : FRO P fr) (hD : (∀ l : Nat, ¬ Df l l) ∧ ∀ l o : Nat, Df l o → Df o l) (hX : TOK w X) (hO : LetOk X P) (hr : rule = 0 ∨ rule = 1 ∨ rule = 2)
    (finK : ∀ (g : AG) (M : IF), GOk g → FrZ C M → MSt T' P Df M → TR T (tv 122 M) → 0 ≤ a → ∃ N : IF, CT Γ 0 mX8_keep [.inr (some 80), .inr (some 122)] (g, M) (none, (g, N)) ∧ Inv N)
    (finR : ∀ (g : AG) (M : IF), GOk g → FrZ C M → TR T (tv 122 M) → a = -1 → ∃ N : IF, CT Γ 61 mX8_read [.inr (some 80), .inr (some 82), .inr (some 123), .inl 0, .inl (M 122 1), .inl 0] (g, M) (some (.inl (-1)), (sT g 82, N)) ∧ Inv N) :
    ∀ (m k : Nat) (g : AG) (L T1 : IF) (r : Int), m + k = 20 → GOk g → FrZ C L → MSt T1 P Df L → TR X (tv 102 L) → TR T (tv 122 L) → ((r = 0 ∧ T' = T1 ∧ a = k) ∨ (r = -2 ∧ T' = T1 ∧ a = -1) ∨ (0 < r ∧ k < 20 ∧ AllR (Step P X fr Df rule) m (k + 1) T1 T' a)) →
      ∃ (gf : AG) (J : IF), Ev Γ 905 mX8_putAll 46 [some (.inr (some 80)), some (.inl rule), none, some (.inl r), some (.inl k)] [] (g, L) (some (.inl a), (gf, J)) ∧ GS g gf ∧ Inv J := by
  intro m
  induction m with
  | zero =>
    intro k g L T1 r hm hg fL hM hrX hb hc
    rcases hc with ⟨c1, c2, c3⟩ | ⟨c1, c2, c3⟩ | ⟨c1, c2, c3⟩
    · rw [c1, c3]
      exact m_all_k hg (finK g L hg fL (by rw [c2]; exact hM) hb (by omega))
    · rw [c3]
      exact m_all_r hg (by omega) (finR g L hg fL hb c3)
    · omega
  | succ m ih =>
    intro k g L T1 r hm hg fL hM hrX hb hc
    rcases hc with ⟨c1, c2, c3⟩ | ⟨c1, c2, c3⟩ | ⟨c1, c2, c3⟩
    · rw [c1, c3]
      exact m_all_k hg (finK g L hg fL (by rw [c2]; exact hM) hb (by omega))
    · rw [c3]
      exact m_all_r hg (by omega) (finR g L hg fL hb c3)
    · obtain ⟨T2, r2, s1, s2⟩ := c3
      by_cases k20 : k + 1 = 20
      · have m0 : m = 0 := by omega
        subst m0
        have ci := m_isIn (Γ := Γ) (I := L) hg rule 0 2
        rw [decide_eq_true (show 0 ≤ rule ∧ rule ≤ 2 by omega), bI_t rfl] at ci
        obtain ⟨E, t1, t2, -⟩ := m_takeBy (Γ := Γ) (fr := fr) hg hM hF hD hr
        have fE : FrZ C E := fL.tr (fun a k z => t2 a k (by omega) (by omega))
        have bE : TR T (tv 122 E) := hb.cgU (fun i k hi => t2 (122 + i) k (by omega) (by omega))
        obtain ⟨z1, z2⟩ := s1.zr
        by_cases r20 : r2 = 0
        · have tz : ncI (tI T1 (mM T1 P fr Df) (wit T1 (mM T1 P fr Df)) (alw rule)) 1 (T1 0 2).toNat = 0 := z2.1 r20
          obtain ⟨d1, d2⟩ : T' = T2 ∧ a = ((k + 1 : Nat) : Int) := by
            rcases s2 with z | z | z
            · exact z.2
            · omega
            · omega
          have hM' : MSt T' P Df E := by
            rw [d1, z1 r20]
            exact hM.mvE t2
          obtain ⟨gf, N, n1, n2⟩ := m_all_k (Γ := Γ) (rule := rule) (k := k + 1) hg (finK g E hg fE hM' bE (by omega))
          rw [← d2] at n1
          refine ⟨gf, N, v_X8_putAll_46 (gf := gf) hg (by rw [n2.1.2.2]) rule r k ⟨fun z => absurd z (by omega), fun _ => ⟨by unfold inR; omega, fun z => absurd (by omega) z, fun _ => ⟨_, _, ci, fun z => absurd z (by decide), fun _ => ⟨_, _, t1, fun _ => ?_, fun z => absurd (by rw [tz]; decide) z⟩⟩⟩⟩, n2⟩
          rw [d2] at n1 ⊢
          exact n1
        · have tz : ¬ ncI (tI T1 (mM T1 P fr Df) (wit T1 (mM T1 P fr Df)) (alw rule)) 1 (T1 0 2).toNat ≤ 0 := fun z => r20 (z2.2 (by
            have nn := ncI_nn (tI T1 (mM T1 P fr Df) (wit T1 (mM T1 P fr Df)) (alw rule)) 1 (T1 0 2).toNat
            exact Int.le_antisymm z nn))
          have d2 : a = -1 := by
            rcases s2 with z | z | z
            · exact absurd z.1 r20
            · have := z.2.2
              rw [if_neg (by omega)] at this
              exact this
            · exact z.2.2
          obtain ⟨gf, N, n1, n2⟩ := m_all_r (Γ := Γ) (rule := rule) (k := k + 1) (r := -1) hg (by decide) (finR g E hg fE bE d2)
          rw [← d2] at n1
          exact ⟨gf, N, v_X8_putAll_46 (gf := gf) hg (by rw [n2.1.2.2]) rule r k ⟨fun z => absurd z (by omega), fun _ => ⟨by unfold inR; omega, fun z => absurd (by omega) z, fun _ => ⟨_, _, ci, fun z => absurd z (by decide), fun _ => ⟨_, _, t1, fun z => absurd z tz, fun _ => by rw [d2] at n1 ⊢; exact n1⟩⟩⟩⟩, n2⟩
      · obtain ⟨g5, E, t1, t2, t3, t4⟩ := m_step (Γ := Γ) hg hM hF hD hX hrX hO hr s1
        obtain ⟨gf, N, n1, n2, n3⟩ := ih (k + 1) g5 E T2 r2 (by omega) t2.1 (fL.tr t3.z) t4 (t3.t hrX) (t3.b hb) (by
          rcases s2 with z | z | z
          · exact Or.inl z
          · refine Or.inr (Or.inl ⟨z.1, z.2.1, ?_⟩)
            have := z.2.2
            rw [if_neg (by omega)] at this
            exact this
          · exact Or.inr (Or.inr ⟨z.1, by omega, z.2⟩))
        have gg : GS g gf := GS.tr t2 n2
        exact ⟨gf, N, v_X8_putAll_46 (gf := gf) hg (by rw [gg.2.2]) rule r k ⟨fun z => absurd z (by omega), fun _ => ⟨by unfold inR; omega, fun _ => ⟨_, _, _, t1, t2.1, by rw [t2.2.2], n1⟩, fun z => absurd z (by omega)⟩⟩, gg, n3⟩
/-- PUTALL -/
theorem q_putAll (hg : GOk g) (h : Inv I) (rule : Int) : Q2 Γ g I 6 mX6_putAll [.inl rule] 905 mX8_putAll [.inl rule] := by
  have hc : CIn I := h.cin
  have cm := c_mayPut (Γ := Γ) (rule := rule) hg.c hc.1.2.1 hc.2.1.1
  by_cases ok : (rule = 0 ∨ rule = 1 ∨ rule = 2) ∧ LetOk (ct 27 I) (zP I)
  · rw [pb_t ok] at cm
    obtain ⟨w0, wc, w1, w2, w3, w4, w5⟩ := c_written (Γ := Γ) hg.c h
    obtain ⟨a, A, J, a1, a2, a3, a4, a5, a6, a7, a8⟩ := c_all_24 (Γ := Γ) (g := g) hg h ok.1 ok.2 21 0 (wrt I) rfl FrO.rf wc
    rw [w1] at a4
    have hp3 := h.1.2.2.2.2.2.2.1.2.2
    have hRd := h.1.2.2.2.1
    have hl : 0 ≤ zT I 0 1 ∧ zT I 0 1 ≤ 240 := hRd.tok.1.1
    have cl : CT Γ 6 mX6_putAll [.inr (some 1), .inl rule] (g, I) (some (.inl a), (g, J)) := CT.of (R := (some (.inl a), (g, J))) oX6_putAll (Nat.le_of_ble_eq_true rfl) (Nat.le_refl _) (Nat.le_refl _) (v_X6_putAll_0 hg.c rule ⟨_, _, cm, fun _ => ⟨_, w0, a1⟩, fun z => absurd z (by decide)⟩)
    have f79 : ∀ b k : Nat, 79 < b → J b k = I b k := fun b k z => by
      have q : A b k = I b k := (a2 b k (by omega)).trans (wrt_f (by omega) (by omega))
      by_cases z0 : 0 ≤ a
      · rw [a6 z0, kpt_f (by omega)]; exact q
      · by_cases z2 : a = -2
        · rw [(a7 z2).1]; exact q
        · exact ((a8 (by omega)).1 b k (by omega)).trans (wrt_f (by omega) (by omega))
    obtain ⟨L, l1, l2, l3, l4, l5⟩ := m_before (Γ := Γ) (C := J) hg h f79
    obtain ⟨T1, r, s1, s2⟩ := a4
    obtain ⟨g5, E, t1, t2, t3, t4⟩ := m_step (Γ := Γ) (g := sT g 122) (w := 2) (gS hg) l4 hc.1.2.2.2.2.1 hc.1.2.2.2.2.2.2.1 hc.2.1.1 l5 ok.2 ok.1 s1
    have e22 : g5.2.2 = g.2.2 := t2.2.2
    by_cases r2 : r = -2
    · obtain ⟨d1, d2⟩ : zT A = T1 ∧ a = -2 := by
        rcases s2 with z | z | z
        · omega
        · have := z.2.2
          rw [if_pos rfl] at this
          exact ⟨z.2.1, this⟩
        · omega
      refine ⟨a, J, E, g5, cl, ?_, GS.tr ⟨gS hg, rfl, rfl⟩ t2, ?_⟩
      · refine CT.of (R := (some (.inl a), (g5, E))) oX8_putAll (Nat.le_of_ble_eq_true rfl) ?_ ?_ (v_X8_putAll_0 (gf := g5) hg (by rw [e22]) rule (fun I1 e1 => ?_))
        · show g.2.2.2.1 ≤ g5.2.2.2.1
          rw [e22]; exact Nat.le_refl _
        · show g.2.2.2.2 ≤ g5.2.2.2.2
          rw [e22]; exact Nat.le_refl _
        · rw [e1, d2]
          exact ⟨_, _, _, l1, gS hg, rfl, _, _, _, t1, t2.1, by rw [t2.2.2], fun z => absurd z (by omega), fun _ => ⟨rfl, rfl, rfl⟩⟩
      · have eJ := (a7 d2).1
        rw [eJ] at l2
        exact fin_stay h a2 a3 (l2.tr t3.z) (by rw [d1]; exact t4.2.2.2.1)
    · obtain ⟨gf, N, n1, n2, n3⟩ := m_all_46 (Γ := Γ) (P := zP I) (X := ct 27 I) (fr := I 52 7) (Df := zDf I) (w := 2) (T := zT I) (T' := zT A) (a := a) (C := J) (rule := rule) hc.1.2.2.2.2.1 hc.1.2.2.2.2.2.2.1 hc.2.1.1 ok.2 ok.1
        (fun g M hg fM mM bM z => by
          rw [a6 z] at fM
          exact fin_keep hg h a2 a3 fM mM.2.2.2.1 bM)
        (fun g M hg fM bM z => by
          obtain ⟨q1, q2, q3⟩ := a8 z
          have e1 : M 122 1 = zT I 0 1 := bM.1
          obtain ⟨N, n1, n2, n3⟩ := m_readT (Γ := Γ) (I := M) (T := zT I) (u := 82) (b2 := 123) (nb2 := 240) hg (by unfold Mt; omega) (by decide) (gs_123 hg) (by decide) ⟨by decide, by decide, by decide⟩ (fr := 0) ⟨by decide, by omega⟩ hRd (fun j hj => by
            rw [show ((0 : Int) + (j : Int)).toNat = j by omega]
            exact bM.2.2.1 j hj)
          rw [e1]
          exact ⟨N, n1, fin_stay h q1 q2 (fM.tr (fun a k z => n2 a k (by omega))) (n3.cg q3)⟩)
        20 0 g5 E T1 r rfl t2.1 (l2.tr t3.z) t4 (t3.t l5) (t3.b l3) (by
          rcases s2 with z | z | z
          · exact Or.inl z
          · exact absurd z.1 r2
          · exact Or.inr (Or.inr ⟨z.1, by decide, z.2⟩))
      have gg : GS g gf := GS.tr (GS.tr ⟨gS hg, rfl, rfl⟩ t2) n2
      refine ⟨a, J, N, gf, cl, ?_, gg, n3⟩
      refine CT.of (R := (some (.inl a), (gf, N))) oX8_putAll (Nat.le_of_ble_eq_true rfl) ?_ ?_ (v_X8_putAll_0 (gf := gf) hg (by rw [gg.2.2]) rule (fun I1 e1 => ?_))
      · show g.2.2.2.1 ≤ gf.2.2.2.1
        rw [gg.2.2]; exact Nat.le_refl _
      · show g.2.2.2.2 ≤ gf.2.2.2.2
        rw [gg.2.2]; exact Nat.le_refl _
      · rw [e1]
        refine ⟨_, _, _, l1, gS hg, rfl, _, _, _, t1, t2.1, by rw [t2.2.2], fun _ => n1, fun z => absurd ?_ z⟩
        rcases s1.nn with y | y
        · exact absurd y r2
        · exact y
  · rw [pb_f ok] at cm
    obtain ⟨L, M, gf, l1, m1, m2, m3⟩ := m_puts_no (Γ := Γ) hg h ok
    have e22 : gf.2.2 = g.2.2 := m2.2.2
    refine ⟨-2, I, M, gf, CT.of (R := (some (.inl (-2)), (g, I))) oX6_putAll (Nat.le_of_ble_eq_true rfl) (Nat.le_refl _) (Nat.le_refl _) (v_X6_putAll_0 hg.c rule ⟨_, _, cm, fun z => absurd rfl z, fun _ => ⟨rfl, rfl⟩⟩), ?_, GS.tr ⟨gS hg, rfl, rfl⟩ m2, m3⟩
    refine CT.of (R := (some (.inl (-2)), (gf, M))) oX8_putAll (Nat.le_of_ble_eq_true rfl) ?_ ?_ (v_X8_putAll_0 (gf := gf) hg (by rw [e22]) rule (fun I1 e1 => ?_))
    · show g.2.2.2.1 ≤ gf.2.2.2.1
      rw [e22]; exact Nat.le_refl _
    · show g.2.2.2.2 ≤ gf.2.2.2.2
      rw [e22]; exact Nat.le_refl _
    · rw [e1]
      exact ⟨_, _, _, l1, gS hg, rfl, _, _, _, m1, m2.1, by rw [m2.2.2], fun z => absurd z (by decide), fun _ => ⟨rfl, rfl, rfl⟩⟩
end PAL
