/-! ===== the law's loop ===== -/
section LLP
variable {Γ : GX} {g : AG} {I : IF} {nm : String} {x5 x6 : Option AV} {i n : Nat}
theorem m_thrown (hg : GOk g) : CT Γ 0 mX8_thrown [.inr (some 80)] (g, I) (some (.inl (I 80 0)), (g, I)) := CT.of oX8_thrown (Nat.le_of_ble_eq_true rfl) (Nat.le_refl _) (Nat.le_refl _) (v_X8_thrown_0 hg ⟨rfl, rfl⟩)
theorem m_at (hg : GOk g) (hv : Inv I) {x : Int} (hx : 0 ≤ x ∧ x < I 3 1) : CT Γ 0 mX8_at [.inr (some 80), .inl x] (g, I) (some (.inl (I 4 x.toNat)), (g, mset I 80 0 0)) := by
  have hr := hv.1.2.2.2.2.1.1
  have e1 : I 82 1 = I 3 1 := hr.1
  have hl : 0 ≤ I 3 1 ∧ I 3 1 ≤ 240 := hv.1.2.2.2.1.tok.1.1
  have hb : 0 ≤ I 4 x.toNat ∧ I 4 x.toNat ≤ 255 := hv.1.2.2.2.1.tok.1.2.2 x.toNat (show ((x.toNat : Nat) : Int) < I 3 1 by omega)
  have e2 : I 83 x.toNat = sb (I 4 x.toNat) := hr.2.2.1 x.toNat (show ((x.toNat : Nat) : Int) < I 3 1 by omega)
  refine CT.of (R := (some (.inl (I 4 x.toNat)), (g, mset I 80 0 0))) oX8_at (Nat.le_of_ble_eq_true rfl) (Nat.le_refl _) (Nat.le_refl _) (v_X8_at_0 hg x ⟨fun z => absurd z (by omega), fun _ => ⟨fun _ I6 e6 => ?_, fun z => absurd (show x < I 82 1 by omega) z⟩⟩)
  subst e6
  refine ⟨fun _ => ⟨⟨hx.1, by omega⟩, some_i ?_, rfl⟩, fun z => absurd (by rw [mset_s]; decide) z⟩
  rw [mset_a _ _ (by decide), e2, bAnd_sb hb.1 hb.2]
theorem m_atX (hg : GOk g) (hv : Inv I) {x : Int} (hx : x < 0 ∨ I 3 1 ≤ x) : CT Γ 0 mX8_at [.inr (some 80), .inl x] (g, I) (some (.inl 0), (g, mset I 80 0 1)) := by
  have hr := hv.1.2.2.2.2.1.1
  have e1 : I 82 1 = I 3 1 := hr.1
  refine CT.of (R := (some (.inl 0), (g, mset I 80 0 1))) oX8_at (Nat.le_of_ble_eq_true rfl) (Nat.le_refl _) (Nat.le_refl _) (v_X8_at_0 hg x ⟨fun _ I6 e6 => ?_, fun z => ⟨fun y => absurd y (by omega), fun _ I6 e6 => ?_⟩⟩)
  · subst e6
    exact ⟨fun z => absurd z (by rw [mset_s]; decide), fun _ => ⟨rfl, rfl⟩⟩
  · subst e6
    exact ⟨fun z => absurd z (by rw [mset_s]; decide), fun _ => ⟨rfl, rfl⟩⟩
theorem l_at (hg : GOk g) (hS : g.1 = S0) (hF : gF Γ = false) (hv : Inv I) (hL : gL Γ ≤ 3072) (hi : i + 6 ≤ gL Γ) (k : ∀ (g2 : AG) (I2 : IF) (y5 y6 : Option AV), Nx g g2 → Inv I2 → ∃ R : AR, Ev Γ 1000 (qL nm) 750 (lsl i y5 y6) [] (g2, I2) R ∧ Rk g2 R n) : ∃ R : AR, Ev Γ 1000 (qL nm) 669 (lsl i x5 x6) [] (g, I) R ∧ Rk g R (n + 1) := by
  have hl : 0 ≤ I 3 1 ∧ I 3 1 ≤ 240 := hv.1.2.2.2.1.tok.1.1
  have h152 : g.1[152]? = some (.inr (.long, 1)) := gs_152 hS
  by_cases hx : 0 ≤ sc Γ ((i : Int) + 1) ∧ sc Γ ((i : Int) + 1) < I 3 1
  · have hg2 : GOk (lG g (Int32.ofInt (I 4 (sc Γ ((i : Int) + 1)).toNat)).toInt64) := hg
    have nx : Nx g (lG g (Int32.ofInt (I 4 (sc Γ ((i : Int) + 1)).toNat)).toInt64) := ⟨⟨hg2, rfl⟩, ⟨Nat.le_refl _, Nat.le_succ _⟩, Nat.le_refl _, Nat.le_add_right _ _⟩
    obtain ⟨R, e, hk⟩ := k _ (mset I 80 0 0) (some (.inl 0)) (some (.inl (I 4 (sc Γ ((i : Int) + 1)).toNat))) nx (hv.m80 (by decide))
    have hk0 := hk.nx nx
    have hk1 : g.2.2.2.1 ≤ R.2.1.2.2.2.1 ∧ g.2.2.2.2 ≤ R.2.1.2.2.2.2 := ⟨hk0.2.1.1, hk0.2.2.1⟩
    refine ⟨R, ?_, hk0⟩
    refine e_aload_n dL_law_669 rfl ?_
    refine e_aload_n dL_law_670 rfl ?_
    refine e_iload dL_law_671 rfl ?_
    refine e_iconst dL_law_673 ⟨by decide, by decide⟩ ?_
    refine e_iadd dL_law_674 (by unfold inR; omega) ?_
    refine e_sld dL_law_675 (by omega) (by omega) ?_
    refine e_aload_n dL_law_676 rfl ?_
    refine e_callsw (av := [.inr (some 1), .inl (sc Γ ((i : Int) + 1)), .inr (some 152)]) (st := []) dL_law_677 rfl rfl (by decide) (by decide) (c_lat (Γ := Γ) hg.c h152 hx hl.2) hk1.1 hk1.2 rfl rfl ?_
    refine e_istore dL_law_680 (show 5 < 7 by decide) (ls' := lsl i (some (.inl 0)) x6) rfl ?_
    refine e_aload_n dL_law_682 rfl ?_
    refine e_aload_n dL_law_683 rfl ?_
    refine e_iload dL_law_684 rfl ?_
    refine e_iconst dL_law_686 ⟨by decide, by decide⟩ ?_
    refine e_iadd dL_law_687 (by unfold inR; omega) ?_
    refine e_sld dL_law_688 (by omega) (by omega) ?_
    refine e_callv (av := [.inl (sc Γ ((i : Int) + 1))]) (st := []) dL_law_689 cO_9_99 oX8_at rfl (by decide) (gs_80 hg2) rfl (by decide) (by decide) (m_at (Γ := Γ) hg2 hv hx) hk1.1 hk1.2 rfl rfl ?_
    refine e_istore dL_law_692 (show 6 < 7 by decide) (ls' := lsl i (some (.inl 0)) (some (.inl (I 4 (sc Γ ((i : Int) + 1)).toNat)))) rfl ?_
    refine e_aload_n dL_law_694 rfl ?_
    refine e_callv (av := []) (st := []) dL_law_695 cO_9_100 oX8_thrown rfl (by decide) (gs_80 hg2) rfl (by decide) (by decide) (m_thrown (Γ := Γ) (I := mset I 80 0 0) hg2) hk1.1 hk1.2 rfl rfl ?_
    refine e_iload dL_law_698 rfl ?_
    refine e_ic_eq (tgt := 705) dL_law_700 (by decide) (fun _ => ?_) (fun c => absurd (mset_s _ _ _ _) c)
    refine e_iload dL_law_705 rfl ?_
    refine e_if_ne (tgt := 722) dL_law_707 (by decide) (fun c => absurd rfl c) (fun _ => ?_)
    refine e_aload_n dL_law_710 rfl ?_
    refine e_iconst dL_law_711 ⟨by decide, by decide⟩ ?_
    refine e_lc (b := I 4 (sc Γ ((i : Int) + 1)).toNat) h152 (show mset g.2.2.1 152 0 (Int32.ofInt (I 4 (sc Γ ((i : Int) + 1)).toNat)).toInt64 152 0 = _ from mset_s _ _ _ _) rfl ?_
    exact e_goto (tgt := 750) dL_law_722 (by decide) e
  · have hx' : sc Γ ((i : Int) + 1) < 0 ∨ I 3 1 ≤ sc Γ ((i : Int) + 1) := by omega
    have hg2 : GOk (xG g) := hg
    have nx : Nx g (xG g) := ⟨⟨hg2, rfl⟩, ⟨Nat.le_succ _, Nat.le_refl _⟩, Nat.le_add_right _ _, Nat.le_refl _⟩
    obtain ⟨R, e, hk⟩ := k (xG g) (mset I 80 0 1) (some (.inl 1)) (some (.inl 0)) nx (hv.m80 (by decide))
    have hk0 := hk.nx nx
    have hk2 : (xG g).2.2.2.1 ≤ R.2.1.2.2.2.1 ∧ (xG g).2.2.2.2 ≤ R.2.1.2.2.2.2 := ⟨hk.2.1.1, hk.2.2.1⟩
    refine ⟨R, ?_, hk0⟩
    refine e_aload_n dL_law_669 rfl ?_
    refine e_aload_n dL_law_670 rfl ?_
    refine e_iload dL_law_671 rfl ?_
    refine e_iconst dL_law_673 ⟨by decide, by decide⟩ ?_
    refine e_iadd dL_law_674 (by unfold inR; omega) ?_
    refine e_sld dL_law_675 (by omega) (by omega) ?_
    refine e_aload_n dL_law_676 rfl ?_
    refine e_callsw (av := [.inr (some 1), .inl (sc Γ ((i : Int) + 1)), .inr (some 152)]) (st := []) dL_law_677 rfl rfl (by decide) (by decide) (c_latX (Γ := Γ) hF hg.c hx') hk2.1 hk2.2 rfl rfl ?_
    refine e_istore dL_law_680 (show 5 < 7 by decide) (ls' := lsl i (some (.inl 1)) x6) rfl ?_
    refine e_aload_n dL_law_682 rfl ?_
    refine e_aload_n dL_law_683 rfl ?_
    refine e_iload dL_law_684 rfl ?_
    refine e_iconst dL_law_686 ⟨by decide, by decide⟩ ?_
    refine e_iadd dL_law_687 (by unfold inR; omega) ?_
    refine e_sld dL_law_688 (by omega) (by omega) ?_
    refine e_callv (av := [.inl (sc Γ ((i : Int) + 1))]) (st := []) dL_law_689 cO_9_99 oX8_at rfl (by decide) (gs_80 hg2) rfl (by decide) (by decide) (m_atX (Γ := Γ) hg2 hv hx') hk2.1 hk2.2 rfl rfl ?_
    refine e_istore dL_law_692 (show 6 < 7 by decide) (ls' := lsl i (some (.inl 1)) (some (.inl 0))) rfl ?_
    refine e_aload_n dL_law_694 rfl ?_
    refine e_callv (av := []) (st := []) dL_law_695 cO_9_100 oX8_thrown rfl (by decide) (gs_80 hg2) rfl (by decide) (by decide) (m_thrown (Γ := Γ) (I := mset I 80 0 1) hg2) hk2.1 hk2.2 rfl rfl ?_
    refine e_iload dL_law_698 rfl ?_
    refine e_ic_eq (tgt := 705) dL_law_700 (by decide) (fun _ => ?_) (fun c => absurd (mset_s _ _ _ _) c)
    refine e_iload dL_law_705 rfl ?_
    refine e_if_ne (tgt := 722) dL_law_707 (by decide) (fun _ => ?_) (fun c => absurd c (by decide))
    exact e_goto (tgt := 750) dL_law_722 (by decide) e
/-- behind the last call -/
theorem l_out {m : Nat} (hL : gL Γ ≤ 3072) (hi : gL Γ < i + 6) (hi2 : i ≤ 4000) : ∃ R : AR, Ev Γ 1000 (qL nm) 23 (lsl i x5 x6) [] (g, I) R ∧ Rk g R m := by
  refine ⟨(some (.inl 1), (g, I)), ?_, rfl, ⟨Nat.le_refl _, Nat.le_add_right _ _⟩, Nat.le_refl _, Nat.le_add_right _ _⟩
  refine e_iload dL_law_23 rfl ?_
  refine e_aload_n dL_law_25 rfl ?_
  refine e_slen dL_law_26 ?_
  refine e_bipush dL_law_27 (by decide) ⟨by decide, by decide⟩ ?_
  refine e_isub dL_law_29 (by unfold inR; omega) ?_
  refine e_ic_gt (tgt := 756) dL_law_30 (by decide) (fun _ => ?_) (fun c => absurd (by omega) c)
  refine e_iconst dL_law_756 ⟨by decide, by decide⟩ ?_
  exact e_zret dL_law_757 rfl (by decide) rfl
set_option maxHeartbeats 1000000 in
/-- THE LOOP -/
theorem law_loop (hL : gL Γ ≤ 3072) (hF : gF Γ = false) : ∀ (n i : Nat) (x5 x6 : Option AV) (g : AG) (I : IF), gL Γ < i + 6 * n + 6 → i ≤ 3078 → GOk g → g.1 = S0 → Inv I → ∃ R : AR, Ev Γ 1000 (qL nm) 23 (lsl i x5 x6) [] (g, I) R ∧ Rk g R n := by
  intro n
  induction n with
  | zero =>
    intro i x5 x6 g I h hi hg hS hv
    exact l_out hL (by omega) (by omega)
  | succ n ih =>
    intro i x5 x6 g I h hi hg hS hv
    by_cases hin : i + 6 ≤ gL Γ
    · have kk : ∀ (g2 : AG) (I2 : IF) (y5 y6 : Option AV), Nx g g2 → Inv I2 → ∃ R : AR, Ev Γ 1000 (qL nm) 750 (lsl i y5 y6) [] (g2, I2) R ∧ Rk g2 R n := fun g2 I2 y5 y6 nx hv2 => by
        obtain ⟨R, e, hk⟩ := ih (i + 6) y5 y6 g2 I2 (by omega) (by omega) nx.1.1 (nx.1.2.trans hS) hv2
        refine ⟨R, ?_, hk⟩
        refine e_iinc dL_law_750 (show 4 < 7 by decide) rfl (by unfold inR; omega) (ls' := lsl ((i : Int) + 6) y5 y6) rfl ?_
        exact e_goto (tgt := 23) dL_law_753 (by decide) e
      have head : ∀ R : AR, Ev Γ 1000 (qL nm) 40 (lsl i x5 x6) [.inl (bAnd (sc Γ i) 31)] (g, I) R → Ev Γ 1000 (qL nm) 23 (lsl i x5 x6) [] (g, I) R := fun R e => by
        refine e_iload dL_law_23 rfl ?_
        refine e_aload_n dL_law_25 rfl ?_
        refine e_slen dL_law_26 ?_
        refine e_bipush dL_law_27 (by decide) ⟨by decide, by decide⟩ ?_
        refine e_isub dL_law_29 (by unfold inR; omega) ?_
        refine e_ic_gt (tgt := 756) dL_law_30 (by decide) (fun c => absurd c (by omega)) (fun _ => ?_)
        refine e_aload_n dL_law_33 rfl ?_
        refine e_iload dL_law_34 rfl ?_
        refine e_sld dL_law_36 (by omega) (by omega) ?_
        refine e_bipush dL_law_37 (by decide) ⟨by decide, by decide⟩ ?_
        refine e_iand dL_law_39 ?_
        exact e
      by_cases hy : bAnd (sc Γ i) 31 < 0 ∨ 18 < bAnd (sc Γ i) 31
      · obtain ⟨R, e, hk⟩ := kk g I x5 x6 ⟨⟨hg, rfl⟩, ⟨Nat.le_refl _, Nat.le_succ _⟩, Nat.le_refl _, Nat.le_add_right _ _⟩ hv
        exact ⟨R, head R (e_tabOut (tgt := 750) dL_law_40 hy (by decide) e), hk.nx ⟨⟨hg, rfl⟩, ⟨Nat.le_refl _, Nat.le_succ _⟩, Nat.le_refl _, Nat.le_add_right _ _⟩⟩
      · have hcase : bAnd (sc Γ i) 31 = 0 ∨ bAnd (sc Γ i) 31 = 1 ∨ bAnd (sc Γ i) 31 = 2 ∨ bAnd (sc Γ i) 31 = 3 ∨ bAnd (sc Γ i) 31 = 4 ∨ bAnd (sc Γ i) 31 = 5 ∨ bAnd (sc Γ i) 31 = 6 ∨ bAnd (sc Γ i) 31 = 7 ∨ bAnd (sc Γ i) 31 = 8 ∨ bAnd (sc Γ i) 31 = 9 ∨ bAnd (sc Γ i) 31 = 10 ∨ bAnd (sc Γ i) 31 = 11 ∨ bAnd (sc Γ i) 31 = 12 ∨ bAnd (sc Γ i) 31 = 13 ∨ bAnd (sc Γ i) 31 = 14 ∨ bAnd (sc Γ i) 31 = 15 ∨ bAnd (sc Γ i) 31 = 16 ∨ bAnd (sc Γ i) 31 = 17 ∨ bAnd (sc Γ i) 31 = 18 := by omega
        generalize bAnd (sc Γ i) 31 = y at head hy hcase
        rcases hcase with hc | hc | hc | hc | hc | hc | hc | hc | hc | hc | hc | hc | hc | hc | hc | hc | hc | hc | hc
        · obtain ⟨R, e, hk⟩ := l_feed (Γ := Γ) (nm := nm) (x5 := x5) (x6 := x6) hg hv hL hin (fun g2 I2 => kk g2 I2 x5 x6)
          exact ⟨R, head R (by rw [hc]; exact e_tabIn (off := 92) (tgt := 132) dL_law_40 (by decide) (by decide) rfl (by decide) e), hk⟩
        · obtain ⟨R, e, hk⟩ := l_end (Γ := Γ) (nm := nm) (x5 := x5) (x6 := x6) hg hv hL hin (fun g2 I2 => kk g2 I2 x5 x6)
          exact ⟨R, head R (by rw [hc]; exact e_tabIn (off := 165) (tgt := 205) dL_law_40 (by decide) (by decide) rfl (by decide) e), hk⟩
        · obtain ⟨R, e, hk⟩ := l_fault (Γ := Γ) (nm := nm) (x5 := x5) (x6 := x6) hg hv hL hin (fun g2 I2 => kk g2 I2 x5 x6)
          exact ⟨R, head R (by rw [hc]; exact e_tabIn (off := 190) (tgt := 230) dL_law_40 (by decide) (by decide) rfl (by decide) e), hk⟩
        · obtain ⟨R, e, hk⟩ := l_take (Γ := Γ) (nm := nm) (x5 := x5) (x6 := x6) hg hv hL hin (fun g2 I2 => kk g2 I2 x5 x6)
          exact ⟨R, head R (by rw [hc]; exact e_tabIn (off := 215) (tgt := 255) dL_law_40 (by decide) (by decide) rfl (by decide) e), hk⟩
        · obtain ⟨R, e, hk⟩ := l_differ (Γ := Γ) (nm := nm) (x5 := x5) (x6 := x6) hg hv hL hin (fun g2 I2 => kk g2 I2 x5 x6)
          exact ⟨R, head R (by rw [hc]; exact e_tabIn (off := 240) (tgt := 280) dL_law_40 (by decide) (by decide) rfl (by decide) e), hk⟩
        · obtain ⟨R, e, hk⟩ := l_nodes (Γ := Γ) (nm := nm) (x5 := x5) (x6 := x6) hg hv hL hin (fun g2 I2 => kk g2 I2 x5 x6)
          exact ⟨R, head R (by rw [hc]; exact e_tabIn (off := 305) (tgt := 345) dL_law_40 (by decide) (by decide) rfl (by decide) e), hk⟩
        · obtain ⟨R, e, hk⟩ := l_node (Γ := Γ) (nm := nm) (x5 := x5) (x6 := x6) hg hv hL hin (fun g2 I2 => kk g2 I2 x5 x6)
          exact ⟨R, head R (by rw [hc]; exact e_tabIn (off := 318) (tgt := 358) dL_law_40 (by decide) (by decide) rfl (by decide) e), hk⟩
        · obtain ⟨R, e, hk⟩ := l_alike (Γ := Γ) (nm := nm) (x5 := x5) (x6 := x6) hg hv hL hin (fun g2 I2 => kk g2 I2 x5 x6)
          exact ⟨R, head R (by rw [hc]; exact e_tabIn (off := 355) (tgt := 395) dL_law_40 (by decide) (by decide) rfl (by decide) e), hk⟩
        · obtain ⟨R, e, hk⟩ := l_matches (Γ := Γ) (nm := nm) (x5 := x5) (x6 := x6) hg hv hL hin (fun g2 I2 => kk g2 I2 x5 x6)
          exact ⟨R, head R (by rw [hc]; exact e_tabIn (off := 392) (tgt := 432) dL_law_40 (by decide) (by decide) rfl (by decide) e), hk⟩
        · obtain ⟨R, e, hk⟩ := l_match (Γ := Γ) (nm := nm) (x5 := x5) (x6 := x6) hg hv hL hin (fun g2 I2 => kk g2 I2 x5 x6)
          exact ⟨R, head R (by rw [hc]; exact e_tabIn (off := 405) (tgt := 445) dL_law_40 (by decide) (by decide) rfl (by decide) e), hk⟩
        · obtain ⟨R, e, hk⟩ := l_hole (Γ := Γ) (nm := nm) (x5 := x5) (x6 := x6) hg hv hL hin (fun g2 I2 => kk g2 I2 x5 x6)
          exact ⟨R, head R (by rw [hc]; exact e_tabIn (off := 430) (tgt := 470) dL_law_40 (by decide) (by decide) rfl (by decide) e), hk⟩
        · obtain ⟨R, e, hk⟩ := l_row (Γ := Γ) (nm := nm) (x5 := x5) (x6 := x6) hg hv hL hin (fun g2 I2 => kk g2 I2 x5 x6)
          exact ⟨R, head R (by rw [hc]; exact e_tabIn (off := 467) (tgt := 507) dL_law_40 (by decide) (by decide) rfl (by decide) e), hk⟩
        · obtain ⟨R, e, hk⟩ := l_taken (Γ := Γ) (nm := nm) (x5 := x5) (x6 := x6) hg hv hL hin (fun g2 I2 => kk g2 I2 x5 x6)
          exact ⟨R, head R (by rw [hc]; exact e_tabIn (off := 504) (tgt := 544) dL_law_40 (by decide) (by decide) rfl (by decide) e), hk⟩
        · obtain ⟨R, e, hk⟩ := l_takes (Γ := Γ) (nm := nm) (x5 := x5) (x6 := x6) hg hv hL hin (fun g2 I2 => kk g2 I2 x5 x6)
          exact ⟨R, head R (by rw [hc]; exact e_tabIn (off := 529) (tgt := 569) dL_law_40 (by decide) (by decide) rfl (by decide) e), hk⟩
        · obtain ⟨R, e, hk⟩ := l_put (Γ := Γ) (nm := nm) (x5 := x5) (x6 := x6) hg hv hL hin (fun g2 I2 => kk g2 I2 x5 x6)
          exact ⟨R, head R (by rw [hc]; exact e_tabIn (off := 566) (tgt := 606) dL_law_40 (by decide) (by decide) rfl (by decide) e), hk⟩
        · obtain ⟨R, e, hk⟩ := l_putAll (Γ := Γ) (nm := nm) (x5 := x5) (x6 := x6) hg hv hL hin (fun g2 I2 => kk g2 I2 x5 x6)
          exact ⟨R, head R (by rw [hc]; exact e_tabIn (off := 591) (tgt := 631) dL_law_40 (by decide) (by decide) rfl (by decide) e), hk⟩
        · obtain ⟨R, e, hk⟩ := l_back (Γ := Γ) (nm := nm) (x5 := x5) (x6 := x6) hg hv hL hin (fun g2 I2 => kk g2 I2 x5 x6)
          exact ⟨R, head R (by rw [hc]; exact e_tabIn (off := 616) (tgt := 656) dL_law_40 (by decide) (by decide) rfl (by decide) e), hk⟩
        · obtain ⟨R, e, hk⟩ := l_at (Γ := Γ) (nm := nm) (x5 := x5) (x6 := x6) hg hS hF hv hL hin kk
          exact ⟨R, head R (by rw [hc]; exact e_tabIn (off := 629) (tgt := 669) dL_law_40 (by decide) (by decide) rfl (by decide) e), hk⟩
        · obtain ⟨R, e, hk⟩ := l_count (Γ := Γ) (nm := nm) (x5 := x5) (x6 := x6) hg hv hL hin (fun g2 I2 => kk g2 I2 x5 x6)
          exact ⟨R, head R (by rw [hc]; exact e_tabIn (off := 685) (tgt := 725) dL_law_40 (by decide) (by decide) rfl (by decide) e), hk⟩
    · exact l_out hL (by omega) (by omega)
end LLP
