/-! ===== matching: what holds along the class's way ===== -/
section MGI
variable {T P s s' : IF} {fr root : Int} {Df : Nat → Nat → Prop} {p q : Nat} {n c : Int}
theorem CN.mv (h : CN P s q p) (e : s' 3 q = s 3 q) (h1 : fS P p ≠ q) (h2 : fW P p ≠ q) : CN P s' q (p + 1) := by
  have e1 : sgR P q p = sgR P q (p + 1) + (if fS P p = q then 1 else 0) := sgR_s
  have e2 : rwR P q p = rwR P q (p + 1) + (if fW P p = q then 1 else 0) := rwR_s
  rw [if_neg h1] at e1
  rw [if_neg h2] at e2
  unfold CN at h ⊢
  rw [e, ← show sgR P q p = sgR P q (p + 1) by omega, ← show rwR P q p = rwR P q (p + 1) by omega]
  exact h
/-- a seat's effect -/
theorem seat_eff (hP : TOK 1 P) (hp : (p : Int) < P 0 2) : (∀ q : Nat, q ≠ p → gPut p n (gSeat T P root p s).2 0 q = s 0 q ∧ gPut p n (gSeat T P root p s).2 1 q = s 1 q) ∧ (gPut p n (gSeat T P root p s).2 0 p = n ∧ gPut p n (gSeat T P root p s).2 1 p = 1) ∧
    (∀ q : Nat, (p = 0 ∨ (q : Int) ≠ P 6 p ∨ P 2 (P 6 p).toNat = 3) → gPut p n (gSeat T P root p s).2 2 q = s 2 q ∧ gPut p n (gSeat T P root p s).2 3 q = s 3 q) ∧
    (p ≠ 0 → P 2 (P 6 p).toNat ≠ 3 → gPut p n (gSeat T P root p s).2 2 (P 6 p).toNat = s 2 (P 6 p).toNat + T 8 (s 2 (P 6 p).toNat).toNat ∧ gPut p n (gSeat T P root p s).2 3 (P 6 p).toNat = s 3 (P 6 p).toNat - 1) := by
  unfold gPut
  have m01 : ∀ (x : IF) (q : Nat), (mset (mset x 0 p n) 1 p 1 2 q = x 2 q ∧ mset (mset x 0 p n) 1 p 1 3 q = x 3 q) := fun x q => ⟨rfl, rfl⟩
  have m2 : ∀ (x : IF) (q : Nat), q ≠ p → (mset (mset x 0 p n) 1 p 1 0 q = x 0 q ∧ mset (mset x 0 p n) 1 p 1 1 q = x 1 q) := fun x q z => ⟨by rw [mset_a _ _ (by decide), mset_k _ _ z], by rw [mset_k _ _ z, mset_a _ _ (by decide)]⟩
  have m3 : ∀ (x : IF), (mset (mset x 0 p n) 1 p 1 0 p = n ∧ mset (mset x 0 p n) 1 p 1 1 p = 1) := fun x => ⟨by rw [mset_a _ _ (by decide), mset_s], mset_s _ _ _ _⟩
  by_cases h0 : p = 0
  · have e : gSeat T P root p s = (root, s) := by unfold gSeat; rw [if_pos h0]
    rw [e]
    exact ⟨fun q z => m2 s q z, m3 s, fun q _ => m01 s q, fun z => absurd h0 z⟩
  · by_cases hd : P 2 (P 6 p).toNat = 3
    · have e : gSeat T P root p s = (s 2 (P 6 p).toNat, s) := by unfold gSeat; rw [if_neg h0, if_pos hd]
      rw [e]
      exact ⟨fun q z => m2 s q z, m3 s, fun q _ => m01 s q, fun _ z => absurd hd z⟩
    · have e : gSeat T P root p s = (s 2 (P 6 p).toNat, mset (mset s 2 (P 6 p).toNat (s 2 (P 6 p).toNat + T 8 (s 2 (P 6 p).toNat).toNat)) 3 (P 6 p).toNat (s 3 (P 6 p).toNat - 1)) := by unfold gSeat; rw [if_neg h0, if_neg hd]
      rw [e]
      have a := hP.par hp h0
      refine ⟨fun q z => m2 _ q z, m3 _, fun q z => ?_, fun _ _ => ⟨?_, ?_⟩⟩
      · have z' : q ≠ (P 6 p).toNat := by omega
        have w := m01 (mset (mset s 2 (P 6 p).toNat (s 2 (P 6 p).toNat + T 8 (s 2 (P 6 p).toNat).toNat)) 3 (P 6 p).toNat (s 3 (P 6 p).toNat - 1)) q
        rw [w.1, w.2, mset_a _ _ (by decide), mset_k _ _ z', mset_k _ _ z', mset_a _ _ (by decide)]
        exact ⟨rfl, rfl⟩
      · rw [(m01 _ _).1]
        dsimp only
        rw [mset_a _ _ (by decide), mset_s]
      · rw [(m01 _ _).2]
        dsimp only
        rw [mset_s]
/-- behind a piece that took one node: all but what the piece's own kind asks -/
theorem GI.put (hT : TOK 0 T) (hP : TOK 1 P) (h : GI T P Df p s) (hp : (p : Int) < P 0 2) (hk : P 2 p ≠ 2) (hr : 0 ≤ root ∧ root < T 0 2)
    (hs : (∀ q : Nat, s' 0 q = gPut p (gSeat T P root p s).1 (gSeat T P root p s).2 0 q ∧ s' 1 q = gPut p (gSeat T P root p s).1 (gSeat T P root p s).2 1 q) ∧ ∀ q : Nat, q ≠ p → s' 2 q = gPut p (gSeat T P root p s).1 (gSeat T P root p s).2 2 q ∧ s' 3 q = gPut p (gSeat T P root p s).1 (gSeat T P root p s).2 3 q)
    (h2 : P 2 p = 0 → (P 7 p = -1 ∧ T 7 (gSeat T P root p s).1.toNat = -1) ∨ (P 7 p ≠ -1 ∧ 0 ≤ s' 3 p ∧ s' 3 p ≤ T 7 (gSeat T P root p s).1.toNat ∧ s' 2 p = tmI (T 8) (gSeat T P root p s).1 (T 7 (gSeat T P root p s).1.toNat - s' 3 p).toNat ∧ CN P s' p (p + 1)))
    (h3 : P 2 p = 3 → (gSeat T P root p s).1 ≤ s' 2 p ∧ s' 2 p < (gSeat T P root p s).1 + T 8 (gSeat T P root p s).1.toNat)
    (h5 : P 2 p = 1 → ∀ l o : Nat, l < 26 → o < 26 → Df l o → P 10 l = p → P 10 o ≠ -1 → P 10 o < p → P 2 (P 10 o).toNat = 1 → T 11 (s 0 (P 10 o).toNat).toNat ≠ T 11 (gSeat T P root p s).1.toNat)
    (hD : (∀ l : Nat, ¬ Df l l) ∧ ∀ l o : Nat, Df l o → Df o l) : GI T P Df (p + 1) s' := by
  obtain ⟨n1, st⟩ := h.seat hT hP hp hk hr
  obtain ⟨e0, e1, e2, e3⟩ := seat_eff (T := T) (root := root) (s := s) (n := (gSeat T P root p s).1) hP hp
  obtain ⟨g1, g2, g3, g4, g5⟩ := h
  obtain ⟨hs0, hs2⟩ := hs
  generalize (gSeat T P root p s).1 = n at *
  have nd : ∀ q : Nat, q ≠ p → s' 0 q = s 0 q ∧ s' 1 q = s 1 q := fun q z => ⟨(hs0 q).1.trans (e0 q z).1, (hs0 q).2.trans (e0 q z).2⟩
  have ndp : s' 0 p = n ∧ s' 1 p = 1 := ⟨(hs0 p).1.trans e1.1, (hs0 p).2.trans e1.2⟩
  have hfW : fW P p = -2 := by unfold fW; rw [if_neg hk]
  have hfS : fS P p = P 6 p := by unfold fS; rw [if_neg hk]
  have hpar := hP.2.1.2.1 p hp
  refine ⟨fun q hq z => ?_, fun q hq z => ?_, fun q hq z => ?_, fun q hq z => ?_, fun l o hl ho hd l1 l2 l3 o1 o2 o3 => ?_⟩
  · by_cases e : q = p
    · rw [e, ndp.1, ndp.2]
      exact ⟨n1.1, n1.2, rfl⟩
    · rw [(nd q e).1, (nd q e).2]
      exact g1 q (by omega) z
  · by_cases e : q = p
    · rw [e] at z ⊢
      rw [ndp.1]
      exact h2 z
    · have hq' : q < p := by omega
      rw [(nd q e).1, (hs2 q e).1, (hs2 q e).2]
      by_cases ea : (q : Int) = P 6 p
      · have h0 : p ≠ 0 := by omega
        have ea' : (P 6 p).toNat = q := by omega
        have hd : P 2 (P 6 p).toNat ≠ 3 := by rw [ea', z]; decide
        obtain ⟨t1, t2, t3, t4, t5, t6, t7⟩ := st h0 hd
        obtain ⟨x1, x2⟩ := e3 h0 hd
        rw [ea'] at t1 t2 t3 t4 t5 t6 t7 x1 x2
        rcases g2 q hq' z with y | ⟨y1, y2, y3, y4, y5⟩
        · exact absurd y.1 t7
        · refine Or.inr ⟨y1, by omega, by omega, ?_, ?_⟩
          · rw [x1, x2]
            rw [show (T 7 (s 0 q).toNat - (s 3 q - 1)).toNat = (T 7 (s 0 q).toNat - s 3 q).toNat + 1 by omega, ← tm_next hT, ← y4]
          · have e1 : sgR P q p = sgR P q (p + 1) + (if fS P p = q then 1 else 0) := sgR_s
            have e2 : rwR P q p = rwR P q (p + 1) + (if fW P p = q then 1 else 0) := rwR_s
            rw [hfS, if_pos ea.symm] at e1
            rw [hfW, if_neg (by omega)] at e2
            unfold CN at y5 ⊢
            rw [(hs2 q e).2, x2]
            refine ⟨fun w => ?_, fun w => ?_⟩
            · have := y5.1 (by omega)
              omega
            · have := y5.2 (by omega)
              omega
      · obtain ⟨x1, x2⟩ := e2 q (Or.inr (Or.inl ea))
        rw [x1, x2]
        rcases g2 q hq' z with y | ⟨y1, y2, y3, y4, y5⟩
        · exact Or.inl y
        · exact Or.inr ⟨y1, y2, y3, y4, y5.mv ((hs2 q e).2.trans x2) (by rw [hfS]; exact fun w => ea w.symm) (by rw [hfW]; omega)⟩
  · by_cases e : q = p
    · rw [e] at z ⊢
      rw [ndp.1]
      exact h3 z
    · obtain ⟨x1, x2⟩ := e2 q (by
        by_cases ea : (q : Int) = P 6 p
        · exact Or.inr (Or.inr (by rw [show (P 6 p).toNat = q by omega]; exact z))
        · exact Or.inr (Or.inl ea))
      rw [(nd q e).1, (hs2 q e).1, x1]
      exact g3 q (by omega) z
  · have e : q ≠ p := fun w => hk (w ▸ z)
    have hqc : (q : Int) < P 0 2 := by omega
    have := hP.2.1.2.1 q hqc
    rw [(nd q e).1, (nd q e).2, (nd (P 6 q).toNat (by omega)).1]
    exact g4 q (by omega) z
  · have hl10 := hP.2.2.2.2.2.1.2.1 l hl
    have ho10 := hP.2.2.2.2.2.1.2.1 o ho
    by_cases el : P 10 l = p
    · by_cases eo : P 10 o = p
      · exfalso
        have a1 : P 9 p = l := by
          rcases hl10 with w | w
          · omega
          · have := w.2.2.1
            rw [el, Int.toNat_natCast] at this
            exact this
        have a2 : P 9 p = o := by
          rcases ho10 with w | w
          · omega
          · have := w.2.2.1
            rw [eo, Int.toNat_natCast] at this
            exact this
        have : l = o := by omega
        exact hD.1 l (by rw [← this] at hd; exact hd)
      · rw [el, Int.toNat_natCast, ndp.1, (nd (P 10 o).toNat (by omega)).1]
        rw [el, Int.toNat_natCast] at l3
        exact fun w => h5 l3 l o hl ho hd el o1 (by omega) o3 w.symm
    · by_cases eo : P 10 o = p
      · rw [eo, Int.toNat_natCast, ndp.1, (nd (P 10 l).toNat (by omega)).1]
        rw [eo, Int.toNat_natCast] at o3
        exact h5 o3 o l ho hl (hD.2 l o hd) eo l1 (by omega) l3
      · rw [(nd (P 10 l).toNat (by omega)).1, (nd (P 10 o).toNat (by omega)).1]
        exact g5 l o hl ho hd l1 (by omega) l3 o1 (by omega) o3
theorem rSet_eff {m : Int} (ha : (P 6 p).toNat ≠ p) : (∀ q : Nat, q ≠ p → rSet T P p m s 0 q = s 0 q ∧ rSet T P p m s 1 q = s 1 q) ∧ (rSet T P p m s 0 p = (if m = 0 then -1 else s 2 (P 6 p).toNat) ∧ rSet T P p m s 1 p = m) ∧
    (∀ q : Nat, q ≠ (P 6 p).toNat → rSet T P p m s 2 q = s 2 q ∧ rSet T P p m s 3 q = s 3 q) ∧ (rSet T P p m s 2 (P 6 p).toNat = adv (T 8) m.toNat (s 2 (P 6 p).toNat) ∧ rSet T P p m s 3 (P 6 p).toNat = s 3 (P 6 p).toNat - m) := by
  unfold rSet
  refine ⟨fun q z => ⟨?_, ?_⟩, ⟨?_, ?_⟩, fun q z => ⟨?_, ?_⟩, ?_, ?_⟩
  · rw [mset_a _ _ (by decide), mset_a _ _ (by decide), mset_a _ _ (by decide), mset_k _ _ z]
  · rw [mset_a _ _ (by decide), mset_a _ _ (by decide), mset_k _ _ z, mset_a _ _ (by decide)]
  · rw [mset_a _ _ (by decide), mset_a _ _ (by decide), mset_a _ _ (by decide), mset_s]
  · rw [mset_a _ _ (by decide), mset_a _ _ (by decide), mset_s]
  · rw [mset_a _ _ (by decide), mset_k _ _ z, mset_a _ _ (by decide), mset_a _ _ (by decide)]
  · rw [mset_k _ _ z, mset_a _ _ (by decide), mset_a _ _ (by decide), mset_a _ _ (by decide)]
  · rw [mset_a _ _ (by decide), mset_s]
  · rw [mset_s]
/-- where a row stands -/
theorem GI.row (hT : TOK 0 T) (hP : TOK 1 P) (h : GI T P Df p s) (hp : (p : Int) < P 0 2) (hk : P 2 p = 2) : (0 ≤ P 6 p ∧ P 6 p < p ∧ P 2 (P 6 p).toNat = 0 ∧ P 7 (P 6 p).toNat ≠ -1) ∧ (0 ≤ s 0 (P 6 p).toNat ∧ s 0 (P 6 p).toNat < T 0 2) ∧
    (0 ≤ s 3 (P 6 p).toNat ∧ s 3 (P 6 p).toNat ≤ T 7 (s 0 (P 6 p).toNat).toNat ∧ s 2 (P 6 p).toNat = tmI (T 8) (s 0 (P 6 p).toNat) (T 7 (s 0 (P 6 p).toNat).toNat - s 3 (P 6 p).toNat).toNat) ∧ 0 ≤ sgl P p ∧ sgl P p ≤ s 3 (P 6 p).toNat := by
  obtain ⟨g1, g2, g3, g4, g5⟩ := h
  have hrow := hP.2.2.2.2.2.2.1 p hp hk
  have h0 : p ≠ 0 := fun z => by
    have := hP.2.1.2.1 p hp
    omega
  obtain ⟨a1, a2, a3⟩ := hP.par hp h0
  have hz := hrow.2
  have q2 := a3.resolve_left (by omega)
  have gk := g1 (P 6 p).toNat (by omega) (by omega)
  rcases g2 (P 6 p).toNat (by omega) hz with y | ⟨y1, y2, y3, y4, y5⟩
  · omega
  · refine ⟨⟨a1, a2, hz, y1⟩, ⟨gk.1, gk.2.1⟩, ⟨y2, y3, y4⟩, ?_⟩
    rw [sgl_row hP hk]
    have e1 := sgR_s (P := P) (a := P 6 p) (p := p)
    have e2 := rwR_s (P := P) (a := P 6 p) (p := p)
    have e3 := sgR_nn (P := P) (a := P 6 p) (p := p + 1) (by omega)
    have e4 := rwR_nn (P := P) (a := P 6 p) (p := p + 1) (by omega)
    unfold fS at e1
    unfold fW at e2
    rw [if_pos hk, if_neg (show ¬ (-2 : Int) = P 6 p by omega)] at e1
    rw [if_pos hk, if_pos rfl] at e2
    unfold CN at y5
    rw [show (((P 6 p).toNat : Nat) : Int) = P 6 p by omega] at y5
    have := y5.1 (by omega)
    omega
theorem GI.rset (hT : TOK 0 T) (hP : TOK 1 P) (hF : FRO P fr) (h : GI T P Df p s) (hp : (p : Int) < P 0 2) (hk : P 2 p = 2) {m : Int} (hm : 0 ≤ m ∧ m ≤ s 3 (P 6 p).toNat - sgl P p) (hf : (p : Int) = fr ∨ m = s 3 (P 6 p).toNat - sgl P p) : GI T P Df (p + 1) (rSet T P p m s) := by
  obtain ⟨⟨a1, a2, a3, a4⟩, ⟨b1, b2⟩, ⟨c1, c2, c3⟩, d1, d2⟩ := h.row hT hP hp hk
  obtain ⟨g1, g2, g3, g4, g5⟩ := h
  obtain ⟨e0, e1, e2, e3⟩ := rSet_eff (T := T) (P := P) (p := p) (m := m) (s := s) (by omega)
  have hfW : fW P p = P 6 p := by unfold fW; rw [if_pos hk]
  have hfS : fS P p = -2 := by unfold fS; rw [if_pos hk]
  refine ⟨fun q hq z => ?_, fun q hq z => ?_, fun q hq z => ?_, fun q hq z => ?_, fun l o hl ho hd l1 l2 l3 o1 o2 o3 => ?_⟩
  · have e : q ≠ p := fun w => z (w ▸ hk)
    rw [(e0 q e).1, (e0 q e).2]
    exact g1 q (by omega) z
  · have e : q ≠ p := fun w => by rw [w, hk] at z; exact absurd z (by decide)
    rw [(e0 q e).1]
    by_cases ea : q = (P 6 p).toNat
    · subst ea
      rcases g2 (P 6 p).toNat (by omega) z with y | ⟨y1, y2, y3, y4, y5⟩
      · exact absurd y.1 a4
      · refine Or.inr ⟨y1, by rw [e3.2]; omega, by rw [e3.2]; omega, ?_, ?_⟩
        · rw [e3.1, e3.2, c3, tm_adv]
          congr 1
          omega
        · have q1 := sgR_s (P := P) (a := P 6 p) (p := p)
          have q2 := rwR_s (P := P) (a := P 6 p) (p := p)
          rw [hfS, if_neg (show ¬ (-2 : Int) = P 6 p by omega)] at q1
          rw [hfW, if_pos rfl] at q2
          have q3 := sgl_row hP hk
          unfold CN
          rw [show (((P 6 p).toNat : Nat) : Int) = P 6 p by omega, e3.2]
          refine ⟨fun w => by omega, fun w => ?_⟩
          rcases hf with hf | hf
          · exfalso
            rcases hF.1 with x | ⟨x1, x2, x3, x4, x5⟩
            · omega
            · rw [← hf, Int.toNat_natCast] at x5
              omega
          · omega
    · obtain ⟨x1, x2⟩ := e2 q ea
      rw [x1, x2]
      rcases g2 q (by omega) z with y | ⟨y1, y2, y3, y4, y5⟩
      · exact Or.inl y
      · exact Or.inr ⟨y1, y2, y3, y4, y5.mv x2 (by rw [hfS]; omega) (by rw [hfW]; omega)⟩
  · have e : q ≠ p := fun w => by rw [w, hk] at z; exact absurd z (by decide)
    obtain ⟨x1, x2⟩ := e2 q (fun w => by rw [w, a3] at z; exact absurd z (by decide))
    rw [(e0 q e).1, x1]
    exact g3 q (by omega) z
  · by_cases e : q = p
    · subst e
      rw [e1.1, e1.2, (e0 (P 6 q).toNat (by omega)).1]
      refine ⟨hm.1, fun w => if_pos w, (T 7 (s 0 (P 6 q).toNat).toNat - s 3 (P 6 q).toNat).toNat, by omega, fun w => ?_⟩
      rw [if_neg (by omega)]
      exact c3
    · have hqc : (q : Int) < P 0 2 := by omega
      have := hP.2.1.2.1 q hqc
      rw [(e0 q e).1, (e0 q e).2, (e0 (P 6 q).toNat (by omega)).1]
      exact g4 q (by omega) z
  · have x1 : P 10 l ≠ p := fun w => by
      rw [w, Int.toNat_natCast, hk] at l3
      exact absurd l3 (by decide)
    have x2 : P 10 o ≠ p := fun w => by
      rw [w, Int.toNat_natCast, hk] at o3
      exact absurd o3 (by decide)
    have hl10 := hP.2.2.2.2.2.1.2.1 l hl
    have ho10 := hP.2.2.2.2.2.1.2.1 o ho
    rw [(e0 (P 10 l).toNat (by omega)).1, (e0 (P 10 o).toNat (by omega)).1]
    exact g5 l o hl ho hd l1 (by omega) l3 o1 (by omega) o3
/-- how a step's choice of rows goes -/
theorem rMany_c (hF : FRO P fr) (c : Int) : (p : Int) = fr ∨ rMany P fr p c s = s 3 (P 6 p).toNat - sgl P p := by
  by_cases z : (p : Int) = fr
  · exact Or.inl z
  · exact Or.inr (by unfold rMany; rw [if_neg z])
theorem CN_new (hP : TOK 1 P) (hp : (p : Int) < P 0 2) (hk : P 2 p = 0) (h7 : P 7 p ≠ -1) (h : (sgl P p < P 7 p ∧ sgl P p ≤ n) ∨ (P 7 p ≤ sgl P p ∧ n = P 7 p)) (e : s 3 p = n) : CN P s p (p + 1) := by
  have hK := hP.2.2.1 p hp
  have e7 : P 7 p = ncI (P 6) p (P 0 2).toNat := by
    rcases hK with ⟨z, y⟩ | ⟨z, y⟩ | ⟨z, y⟩
    · rcases y with y | y
      · exact absurd y.1 h7
      · exact y.2
    · omega
    · omega
  have e8 := nc_sw (P := P) (a := (p : Int)) (by omega) (P 0 2).toNat
  have e9 := nc_sw (P := P) (a := (p : Int)) (by omega) (p + 1)
  have e10 : ncI (P 6) p (p + 1) = 0 := ncI_zero (fun q hq => by have := hP.2.1.2.1 q (by omega); omega)
  have e11 := ncI_nn (fS P) p (p + 1)
  have e12 := ncI_nn (fW P) p (p + 1)
  have e13 := sgl_term hP (p := p) (by omega)
  have e14 := rwR_nn (P := P) (a := (p : Int)) (p := p + 1) (by omega)
  have e15 : sgR P p (p + 1) + rwR P p (p + 1) = P 7 p := by
    unfold sgR rwR
    omega
  unfold CN
  rw [e]
  refine ⟨fun z => by omega, fun z => by omega⟩
/-- the way goes on well -/
theorem GI.step (hT : TOK 0 T) (hP : TOK 1 P) (hF : FRO P fr) (hD : (∀ l : Nat, ¬ Df l l) ∧ ∀ l o : Nat, Df l o → Df o l) (h : GI T P Df p s) (hp : (p : Int) < P 0 2) (hr : 0 ≤ root ∧ root < T 0 2) (hc : 0 ≤ c) (hs : gStep T P fr root Df c p s = some s') : GI T P Df (p + 1) s' := by
  unfold gStep at hs
  by_cases hk : P 2 p = 2
  · rw [if_pos hk] at hs
    unfold gRow at hs
    obtain ⟨⟨z1, z2, -⟩, rfl⟩ := cif_s hs
    exact h.rset hT hP hF hp hk ⟨z1, z2⟩ (rMany_c hF c)
  · rw [if_neg hk] at hs
    unfold gFit at hs
    by_cases k0 : P 2 p = 0
    · rw [if_pos k0] at hs
      obtain ⟨hte, e⟩ := cif_s hs
      by_cases k7 : P 7 p = -1
      · rw [if_pos k7] at e
        subst e
        refine h.put hT hP hp hk hr ⟨fun q => ⟨rfl, rfl⟩, fun q _ => ⟨rfl, rfl⟩⟩ (fun _ => Or.inl ⟨k7, ?_⟩) (fun z => by omega) (fun z => by omega) hD
        rcases hte.2 with z | z
        · exact z.1
        · exact absurd k7 z.2.1
      · rw [if_neg k7] at e
        obtain ⟨z1, z2, z3⟩ := hte.2.resolve_left (fun z => k7 z.2)
        have hseat := (h.seat hT hP hp hk hr).1
        have t7 := hT.t7 (p := (gSeat T P root p s).1.toNat) (by omega)
        subst e
        refine h.put hT hP hp hk hr ⟨fun q => ⟨?_, ?_⟩, fun q z => ⟨?_, ?_⟩⟩ (fun _ => Or.inr ⟨k7, ?_, ?_, ?_, ?_⟩) (fun z => by omega) (fun z => by omega) hD
        · rw [mset_a _ _ (by decide), mset_a _ _ (by decide)]
        · rw [mset_a _ _ (by decide), mset_a _ _ (by decide)]
        · rw [mset_a _ _ (by decide), mset_k _ _ z]
        · rw [mset_k _ _ z, mset_a _ _ (by decide)]
        · rw [mset_s]; omega
        · rw [mset_s]; omega
        · rw [mset_s, mset_a _ _ (by decide), mset_s, show (T 7 (gSeat T P root p s).1.toNat - T 7 (gSeat T P root p s).1.toNat).toNat = 0 by omega]
          rfl
        · exact CN_new hP hp k0 k7 z3 (mset_s _ _ _ _)
    · rw [if_neg k0] at hs
      by_cases k1 : P 2 p = 1
      · rw [if_pos k1] at hs
        obtain ⟨hho, e⟩ := cif_s hs
        subst e
        obtain ⟨e0, -, -, -⟩ := seat_eff (T := T) (root := root) (s := s) (n := (gSeat T P root p s).1) hP hp
        refine h.put hT hP hp hk hr ⟨fun q => ⟨rfl, rfl⟩, fun q _ => ⟨rfl, rfl⟩⟩ (fun z => by omega) (fun z => by omega) (fun _ l o hl ho hd l1 o1 o2 o3 => ?_) hD
        have hl10 := hP.2.2.2.2.2.1.2.1 l hl
        have a1 : P 9 p = l := by
          rcases hl10 with w | w
          · omega
          · have := w.2.2.1
            rw [l1, Int.toNat_natCast] at this
            exact this
        have q := hho.2 (by rw [a1, Int.toNat_natCast]; exact l1) o ho (by rw [a1, Int.toNat_natCast]; exact hd) o1 o2 o3
        have ho10 := hP.2.2.2.2.2.1.2.1 o ho
        rw [(e0 (P 10 o).toNat (by omega)).1] at q
        exact q
      · rw [if_neg k1] at hs
        obtain ⟨hde, e⟩ := cif_s hs
        subst e
        refine h.put hT hP hp hk hr ⟨fun q => ⟨?_, ?_⟩, fun q z => ⟨?_, ?_⟩⟩ (fun z => by omega) (fun _ => ?_) (fun z => absurd z k1) hD
        · rw [mset_a _ _ (by decide)]
        · rw [mset_a _ _ (by decide)]
        · rw [mset_k _ _ z]
        · rw [mset_a _ _ (by decide)]
        · rw [mset_s]
          omega
end MGI
