/-! ===== the reference is made (its walk is written by tools/gen89.py) ===== -/
def G8 : AG := nG i6 (.inl 8) 39
def i8_1  : AG := nG G8 (.inr (.byte, 240)) 240
def i8_2  : AG := pG i8_1 80 1 (81)
def i8_3  : AG := nG i8_2 (.inl 7) 11
def i8_4  : AG := i7 i8_3 82 (83)
def i8_5  : AG := pG i8_4 80 3 (82)
def i8_6  : AG := nG i8_5 (.inl 7) 11
def i8_7  : AG := i7 i8_6 92 (93)
def i8_8  : AG := pG i8_7 80 4 (92)
def i8_9  : AG := nG i8_8 (.inl 7) 11
def i8_10  : AG := i7 i8_9 102 (103)
def i8_11  : AG := pG i8_10 80 5 (102)
def i8_12  : AG := nG i8_11 (.inl 7) 11
def i8_13  : AG := i7 i8_12 112 (113)
def i8_14  : AG := pG i8_13 80 6 (112)
def i8_15  : AG := nG i8_14 (.inl 7) 11
def i8_16  : AG := i7 i8_15 122 (123)
def i8_17  : AG := pG i8_16 80 7 (122)
def i8_18  : AG := nG i8_17 (.inr (.byte, 2400)) 2400
def i8_19  : AG := pG i8_18 80 8 (132)
def i8_20  : AG := nG i8_19 (.inr (.int, 10)) 10
def i8_21  : AG := pG i8_20 80 9 (133)
def i8_22  : AG := nG i8_21 (.inr (.boolean, 676)) 676
def i8_23  : AG := pG i8_22 80 11 (134)
def i8_24  : AG := nG i8_23 (.inr (.int, 26)) 26
def i8_25  : AG := pG i8_24 80 20 (135)
def i8_26  : AG := nG i8_25 (.inr (.int, 4000)) 4000
def i8_27  : AG := pG i8_26 80 21 (136)
def i8_28  : AG := nG i8_27 (.inr (.int, 4000)) 4000
def i8_29  : AG := pG i8_28 80 22 (137)
def i8_30  : AG := nG i8_29 (.inr (.int, 4000)) 4000
def i8_31  : AG := pG i8_30 80 23 (138)
def i8_32  : AG := nG i8_31 (.inr (.int, 4000)) 4000
def i8_33  : AG := pG i8_32 80 24 (139)
def i8_34  : AG := nG i8_33 (.inr (.int, 4000)) 4000
def i8_35  : AG := pG i8_34 80 25 (140)
def i8_36  : AG := nG i8_35 (.inr (.int, 26)) 26
def i8_37  : AG := pG i8_36 80 27 (141)
def i8_38  : AG := nG i8_37 (.inr (.int, 26)) 26
def i8_39  : AG := pG i8_38 80 28 (142)
def i8_40  : AG := nG i8_39 (.inr (.int, 26)) 26
def i8_41  : AG := pG i8_40 80 29 (143)
def i8_42  : AG := nG i8_41 (.inr (.int, 26)) 26
def i8_43  : AG := pG i8_42 80 30 (144)
def i8_44  : AG := nG i8_43 (.inr (.int, 26)) 26
def i8_45  : AG := pG i8_44 80 31 (145)
def i8_46  : AG := nG i8_45 (.inr (.boolean, 240)) 240
def i8_47  : AG := pG i8_46 80 32 (146)
def i8_48  : AG := nG i8_47 (.inr (.boolean, 240)) 240
def i8_49  : AG := pG i8_48 80 33 (147)
def i8_50  : AG := nG i8_49 (.inr (.int, 240)) 240
def i8_51  : AG := pG i8_50 80 34 (148)
def i8_52  : AG := nG i8_51 (.inr (.byte, 40000)) 40000
def i8_53  : AG := pG i8_52 80 35 (149)
def i8_54  : AG := nG i8_53 (.inr (.boolean, 240)) 240
def i8_55  : AG := pG i8_54 80 37 (150)
def i8_56  : AG := nG i8_55 (.inr (.boolean, 240)) 240
def i8_57  : AG := pG i8_56 80 38 (151)
def i8  : AG := i8_57
/-- a tape of one byte beside this heap -/
def Tp (J : IF) : IF := fun a k => if a = 1 then 1 else if a = 80 then 1 else if a = 2 then 97 else if a = 81 then J 81 k else 0
section IN8
variable {Γ : GX} {g : AG} {I J L N : IF} {x : Int}
theorem tp_r (h : J 81 0 = 97) : TapeR (Tp J) := by
  refine ⟨rfl, ⟨show (0 : Int) ≤ 1 by decide, show (1 : Int) ≤ 240 by decide⟩, fun j hj => ?_⟩
  have h1 : (j : Int) < 1 := hj
  have e : j = 0 := by omega
  subst e
  exact ⟨by show J 81 0 = sb 97; rw [h]; decide, by show (0 : Int) ≤ 97; decide, by show (97 : Int) ≤ 255; decide⟩
theorem tp_again {w : Int} (h : RdOk w XA) : (RR (kStart w (kc (Tp J)))).1 = -1 ∧ TAg XA (tv 39 (RR (kStart w (kc (Tp J)))).2) := by
  refine h.again ?_ (fun j hj => ?_)
  · rw [xa_l]
    exact ldN_1
  · rw [xa_l] at hj
    have e : j = 0 := by omega
    subst e
    rw [xa_b]
    exact ldN_n (t := 39) (by decide) (show 0 < (1 : Int).toNat by decide)
theorem rd_w (hx : x = 0 ∨ x = 1 ∨ x = 2) : RdOk x XA := by
  rcases hx with rfl | rfl | rfl
  · exact rd_0
  · exact rd_1
  · exact rd_2
/-- up to the reading -/
theorem m_go_a (hg : GOk g) (h80 : J 80 2 = 1) (h81 : J 81 0 = 97) (hx : x = 0 ∨ x = 1 ∨ x = 2) {u : Nat} (hu : Mt u) : ∃ L1 L : IF, CT Γ 62 mX8_fault [.inr (some 80), .inl x] (g, J) (some (.inl (-1)), (sT g 112, L1)) ∧ CT Γ 61 mX8_read [.inr (some 80), .inr (some u), .inr (some 81), .inl 0, .inl (L1 80 2), .inl x] (sT g 112, L1) (some (.inl (-1)), (sT (sT g 112) u, L)) ∧
    (∀ a k : Nat, ((a ≠ 80 ∧ a ≠ 135 ∧ (a < 112 ∨ 121 < a) ∧ (a < u ∨ u + 9 < a)) ∨ (a = 80 ∧ k ≠ 0 ∧ (k < 13 ∨ 19 < k))) → L a k = J a k) ∧ TR XA (tv u L) := by
  have hT := tp_r h81
  obtain ⟨g1, g2⟩ := tp_again (J := J) (rd_w hx)
  obtain ⟨L1, l1, l2⟩ := m_fault (Γ := Γ) (I := Tp J) (J := J) (w := x) hg hT h80 (fun j => rfl) (by
    rcases hx with z | z | z
    · exact Or.inl z
    · exact Or.inr ⟨Or.inl z, by show (1 : Int) ≤ 80; decide⟩
    · exact Or.inr ⟨Or.inr z, by show (1 : Int) ≤ 80; decide⟩)
  rw [g1] at l1
  obtain ⟨L, m1, m2, m3⟩ := m_tape (Γ := Γ) (I := Tp J) (J := L1) (u := u) (w := x) (gS hg) hT ((l2 80 2 (by omega)).trans h80) (fun j => l2 81 j (by omega)) hu hx
  rw [g1] at m1
  obtain ⟨s1, s2⟩ := m3 g1
  have hb : (RR (kStart x (kc (Tp J)))).2 39 2 ≤ 120 := by
    have e : (RR (kStart x (kc (Tp J)))).2 39 2 = XA 0 2 := g2.2.1
    have := rd_0.tok.1.2.1
    omega
  exact ⟨L1, L, l1, m1, fun a k z => (m2 a k (by omega)).trans (l2 a k (by omega)), (TR_of s1 s2 hb).cg g2.sy⟩
theorem m_take_a0 (hg : GOk g) (h80 : J 80 2 = 1) (h81 : J 81 0 = 97) : ∃ L : IF, CT Γ 63 mX8_take [.inr (some 80), .inl 0] (g, J) (some (.inl 1), (sT (sT g 112) 82, L)) ∧ (∀ a k : Nat, ((a ≠ 80 ∧ a ≠ 135 ∧ (a < 112 ∨ 121 < a) ∧ (a < 82 ∨ 91 < a)) ∨ (a = 80 ∧ k ≠ 0 ∧ k ≠ 2 ∧ k ≠ 10 ∧ (k < 13 ∨ 19 < k))) → L a k = J a k) ∧ TR XA (tv 82 L) ∧ L 80 2 = 0 ∧ L 80 10 = 0 := by
  obtain ⟨L1, L, l1, l2, l3, l4⟩ := m_go_a (Γ := Γ) (x := 0) (u := 82) hg h80 h81 (Or.inl rfl) (by unfold Mt; omega)
  refine ⟨mset (mset L 80 2 0) 80 10 0, ?_, fun a k z => ?_, l4.cgU (fun i k hi => ?_), ?_, mset_s _ _ _ _⟩
  · refine CT.of (R := (some (.inl 1), (sT (sT g 112) 82, mset (mset L 80 2 0) 80 10 0))) oX8_take (Nat.le_of_ble_eq_true rfl) (Nat.le_refl _) (Nat.le_refl _) (v_X8_take_0 (gf := sT (sT g 112) 82) hg rfl 0 ⟨_, _, _, l1, gS hg, rfl, fun _ => ⟨fun z => absurd rfl z, fun _ => ⟨_, _, _, l2, gS (gS hg), rfl, ?_⟩⟩, fun z => absurd rfl z⟩)
    intro I26 e26
    subst e26
    refine ⟨fun z => absurd rfl z, fun _ I28 e28 => ?_⟩
    subst e28
    exact v_X8_take_67 (gf := sT (sT g 112) 82) (gS (gS hg)) rfl 0 ⟨fun _ => v_X8_take_96 (gf := sT (sT g 112) 82) (gS (gS hg)) rfl ⟨rfl, rfl, rfl⟩, fun z => absurd z (by decide)⟩
  · unfold mset
    rw [if_neg (by omega), if_neg (by omega)]
    exact l3 a k (by omega)
  · show (mset (mset L 80 2 0) 80 10 0) (82 + i) k = L (82 + i) k
    rw [mset_a _ _ (by omega), mset_a _ _ (by omega)]
  · rw [mset_k _ _ (by decide), mset_s]
theorem m_take_a1 (hg : GOk g) (h80 : J 80 2 = 1) (h81 : J 81 0 = 97) : ∃ L : IF, CT Γ 63 mX8_take [.inr (some 80), .inl 1] (g, J) (some (.inl 1), (sT (sT g 112) 92, L)) ∧ (∀ a k : Nat, ((a ≠ 80 ∧ a ≠ 134 ∧ a ≠ 135 ∧ (a < 112 ∨ 121 < a) ∧ (a < 92 ∨ 101 < a)) ∨ (a = 80 ∧ k ≠ 0 ∧ k ≠ 2 ∧ (k < 13 ∨ 19 < k))) → L a k = J a k) ∧ TR XA (tv 92 L) ∧ L 80 2 = 0 ∧ ∀ k : Nat, k < 676 → L 134 k = 0 := by
  obtain ⟨L1, L, l1, l2, l3, l4⟩ := m_go_a (Γ := Γ) (x := 1) (u := 92) hg h80 h81 (Or.inr (Or.inl rfl)) (by unfold Mt; omega)
  obtain ⟨N, n1, n2, n3⟩ := m_take_74 (Γ := Γ) (g := sT (sT g 112) 92) (gS (gS hg)) 676 0 (mset L 80 2 0) rfl (fun k hk => by omega)
  refine ⟨N, ?_, fun a k z => ?_, l4.cgU (fun i k hi => ?_), ?_, n3⟩
  · refine CT.of (R := (some (.inl 1), (sT (sT g 112) 92, N))) oX8_take (Nat.le_of_ble_eq_true rfl) (Nat.le_refl _) (Nat.le_refl _) (v_X8_take_0 (gf := sT (sT g 112) 92) hg rfl 1 ⟨_, _, _, l1, gS hg, rfl, fun _ => ⟨fun _ => ⟨fun z => absurd rfl z, fun _ => ⟨_, _, _, l2, gS (gS hg), rfl, ?_⟩⟩, fun z => absurd z (by decide)⟩, fun z => absurd rfl z⟩)
    intro I26 e26
    subst e26
    exact ⟨fun _ => v_X8_take_67 (gf := sT (sT g 112) 92) (gS (gS hg)) rfl 1 ⟨fun z => absurd rfl z, fun _ => n1⟩, fun z => absurd z (by decide)⟩
  · rw [n2 a k (by omega)]
    unfold mset
    rw [if_neg (by omega)]
    exact l3 a k (by omega)
  · show N (92 + i) k = L (92 + i) k
    rw [n2 _ k (by omega), mset_a _ _ (by omega)]
  · rw [n2 80 2 (by omega), mset_s]
theorem m_take_a2 (hg : GOk g) (h80 : J 80 2 = 1) (h81 : J 81 0 = 97) : ∃ L : IF, CT Γ 63 mX8_take [.inr (some 80), .inl 2] (g, J) (some (.inl 1), (sT (sT g 112) 102, L)) ∧ (∀ a k : Nat, ((a ≠ 80 ∧ a ≠ 135 ∧ (a < 112 ∨ 121 < a) ∧ (a < 102 ∨ 111 < a)) ∨ (a = 80 ∧ k ≠ 0 ∧ k ≠ 2 ∧ (k < 13 ∨ 19 < k))) → L a k = J a k) ∧ TR XA (tv 102 L) ∧ L 80 2 = 0 := by
  obtain ⟨L1, L, l1, l2, l3, l4⟩ := m_go_a (Γ := Γ) (x := 2) (u := 102) hg h80 h81 (Or.inr (Or.inr rfl)) (by unfold Mt; omega)
  refine ⟨mset L 80 2 0, ?_, fun a k z => ?_, l4.cgU (fun i k hi => ?_), mset_s _ _ _ _⟩
  · refine CT.of (R := (some (.inl 1), (sT (sT g 112) 102, mset L 80 2 0))) oX8_take (Nat.le_of_ble_eq_true rfl) (Nat.le_refl _) (Nat.le_refl _) (v_X8_take_0 (gf := sT (sT g 112) 102) hg rfl 2 ⟨_, _, _, l1, gS hg, rfl, fun _ => ⟨fun _ => ⟨fun _ => ⟨_, _, _, l2, gS (gS hg), rfl, ?_⟩, fun z => absurd z (by decide)⟩, fun z => absurd z (by decide)⟩, fun z => absurd rfl z⟩)
    intro I26 e26
    subst e26
    exact ⟨fun _ => v_X8_take_67 (gf := sT (sT g 112) 102) (gS (gS hg)) rfl 2 ⟨fun _ => v_X8_take_96 (gf := sT (sT g 112) 102) (gS (gS hg)) rfl ⟨rfl, rfl, rfl⟩, fun z => absurd z (by decide)⟩, fun z => absurd z (by decide)⟩
  · unfold mset
    rw [if_neg (by omega)]
    exact l3 a k (by omega)
  · show (mset L 80 2 0) (102 + i) k = L (102 + i) k
    rw [mset_a _ _ (by omega)]
set_option maxRecDepth 100000 in
theorem g8_s : ∀ a : Nat, a < 152 → i8.1[a]? = S0[a]? := by decide +kernel
set_option maxRecDepth 100000 in
theorem g8_p : ∀ x ∈ PL, i8.2.1 x.1 x.2.1 = some x.2.2 := by decide +kernel
theorem g8_ok : GOk i8 := ⟨g8_s, g8_p⟩
theorem g8_l : i8.1.length = 152 := by decide +kernel
set_option maxRecDepth 100000 in
theorem g8_0 : i8.1 ++ [.inr (.long, 1)] = S0 := by decide +kernel
/-- the references behind the constructor -/
def h8 : AG := sT (sT (sT (sT (sT (sT i8 112) 82) 112) 92) 112) 102
theorem h8_ok : GOk h8 := gS (gS (gS (gS (gS (gS g8_ok)))))
abbrev pre8 (J : IF) : IF := mset (mset J 81 0 97) 80 2 1
theorem pre8_f {a k : Nat} (h : a ≠ 81) (h2 : a ≠ 80 ∨ k ≠ 2) : pre8 J a k = J a k := by
  unfold pre8 mset
  rw [if_neg (by omega), if_neg (by omega)]
theorem pre8_1 : pre8 J 81 0 = 97 := by
  unfold pre8
  rw [mset_a _ _ (by decide), mset_s]
theorem e_turn8 {q : Nat} {R : AR} (hg : GOk g) {g2 : AG} {L : IF} (hc : CT Γ 63 mX8_take [.inr (some 80), .inl q] (g, pre8 J) (some (.inl 1), (g2, L))) (hq : q < 3) (hR : g2.2.2.2.1 ≤ R.2.1.2.2.2.1 ∧ g2.2.2.2.2 ≤ R.2.1.2.2.2.2)
    (k : Ev Γ 64 mX8_init 242 [some (.inr (some 80)), some (.inl ((q : Int) + 1)), some (.inl 1)] [] (g2, L) R) (ls : Option AV) : Ev Γ 64 mX8_init 242 [some (.inr (some 80)), some (.inl q), ls] [] (g, J) R := by
  refine e_iload_n dX8_init_242 rfl ?_
  refine e_iconst dX8_init_243 ⟨by decide, by decide⟩ ?_
  refine e_ic_ge (tgt := 272) dX8_init_244 (by decide) (fun c => absurd c (by omega)) (fun _ => ?_)
  refine e_aload_n dX8_init_247 rfl ?_
  refine e_getr dX8_init_248 fO_8_9 (by decide) (gs_80 hg) rfl (gp_80_1 hg) ?_
  refine e_iconst dX8_init_251 ⟨by decide, by decide⟩ ?_
  refine e_bipush dX8_init_252 (by decide) ⟨by decide, by decide⟩ ?_
  refine e_bast (n := 240) dX8_init_254 (by decide) (gs_81 hg) (by decide) (by decide) ?_
  refine e_aload_n dX8_init_255 rfl ?_
  refine e_iconst dX8_init_256 ⟨by decide, by decide⟩ ?_
  refine e_puti dX8_init_257 fO_8_95 (by decide) (gs_80 hg) rfl rfl ?_
  refine e_aload_n dX8_init_260 rfl ?_
  refine e_iload_n dX8_init_261 rfl ?_
  have e97 : bByte 97 = 97 := by decide
  have eh : (hI (hI (g, J) 81 (0 : Int).toNat (bByte 97)) 80 2 1 : AH) = (g, pre8 J) := by rw [e97]; rfl
  rw [eh]
  refine e_callv (av := [.inl q]) (st := []) dX8_init_262 cO_8_99 oX8_take rfl (by decide) (gs_80 hg) rfl (by decide) (by decide) hc hR.1 hR.2 rfl rfl ?_
  refine e_istore_n dX8_init_265 (by decide) (ls' := [some (.inr (some 80)), some (.inl q), some (.inl 1)]) rfl ?_
  refine e_iinc dX8_init_266 (by decide) rfl (by unfold inR; omega) (ls' := [some (.inr (some 80)), some (.inl ((q : Int) + 1)), some (.inl 1)]) rfl ?_
  refine e_goto (tgt := 242) dX8_init_269 (by decide) ?_
  exact k
theorem sT_z {I : IF} {u n : Nat} (h : Zr (g, I)) (hl : g.1.length = n) (hn : 80 < n) : Zr (sT g u, I) := zr_p (a := 80) (k := 12) (b := u) h hl hn
theorem hc8 {g : AG} (h : g.2.2 = i8.2.2) : g.2.2.2.1 ≤ h8.2.2.2.1 ∧ g.2.2.2.2 ≤ h8.2.2.2.2 := by
  have e : h8.2.2 = i8.2.2 := rfl
  rw [h, e]
  exact ⟨Nat.le_refl _, Nat.le_refl _⟩
set_option maxRecDepth 100000 in
set_option maxHeartbeats 1000000 in
theorem c_tail8 (mj : Made J) (hz : Zr (i8, J)) : ∃ L : IF, Ev Γ 64 mX8_init 242 [some (.inr (some 80)), some (.inl 0), none] [] (i8, J) (none, (h8, L)) ∧ Inv L ∧ Zr (h8, L) := by
  have k0 : GOk i8 := g8_ok
  obtain ⟨L0, a1, a2, a3, a4, a5⟩ := m_take_a0 (Γ := Γ) (J := pre8 J) k0 (mset_s _ _ _ _) pre8_1
  have k1 : GOk (sT (sT i8 112) 82) := gS (gS k0)
  obtain ⟨L1, b1, b2, b3, b4, b5⟩ := m_take_a1 (Γ := Γ) (J := pre8 L0) k1 (mset_s _ _ _ _) pre8_1
  have k2 : GOk (sT (sT (sT (sT i8 112) 82) 112) 92) := gS (gS k1)
  obtain ⟨L2, c1, c2, c3, c4⟩ := m_take_a2 (Γ := Γ) (J := pre8 L1) k2 (mset_s _ _ _ _) pre8_1
  have fl : ∀ a k : Nat, (a < 80 ∨ 151 < a) → L2 a k = J a k := fun a k z => by
    rw [c2 a k (by omega), pre8_f (by omega) (by omega), b2 a k (by omega), pre8_f (by omega) (by omega), a2 a k (by omega), pre8_f (by omega) (by omega)]
  obtain ⟨hc, ⟨t3, t15, t27⟩, z58, z15, z1, zz⟩ := mj
  have hJ : CIn L2 := hc.mv (fun a k z => fl a k (by omega))
  have e3 : ct 3 L2 = ct 3 J := ct_eq (t := 3) (fun i k hi => fl _ _ (by omega))
  have e15 : ct 15 L2 = ct 15 J := ct_eq (t := 15) (fun i k hi => fl _ _ (by omega))
  have e27 : ct 27 L2 = ct 27 J := ct_eq (t := 27) (fun i k hi => fl _ _ (by omega))
  have z58' : ∀ k : Nat, L2 58 k = 0 := fun k => by rw [fl 58 k (by omega)]; exact z58 k
  have u82 : TR XA (tv 82 L2) := a3.cgU (fun i k hi => by
    show L2 (82 + i) k = L0 (82 + i) k
    rw [c2 _ k (by omega), pre8_f (by omega) (by omega), b2 _ k (by omega), pre8_f (by omega) (by omega)])
  have u92 : TR XA (tv 92 L2) := b3.cgU (fun i k hi => by
    show L2 (92 + i) k = L1 (92 + i) k
    rw [c2 _ k (by omega), pre8_f (by omega) (by omega)])
  have m10 : L2 80 10 = 0 := by rw [c2 80 10 (by omega), pre8_f (by omega) (by omega), b2 80 10 (by omega), pre8_f (by omega) (by omega)]; exact a5
  have m134 : ∀ k : Nat, k < 676 → L2 134 k = 0 := fun k hk => by
    rw [c2 134 k (by omega), pre8_f (by omega) (by omega)]
    exact b5 k hk
  refine ⟨L2, ?_, ⟨⟨⟨?_, ?_, ?_⟩, hJ.1, hJ.2.1, hJ.2.2.1, ⟨?_, ?_, ?_⟩, ?_, ⟨⟨?_, ?_, ?_⟩, ?_⟩⟩, hJ.2.2.2⟩, ?_⟩
  · have t1 : Ev Γ 64 mX8_init 242 [some (.inr (some 80)), some (.inl 3), some (.inl 1)] [] (h8, L2) (none, (h8, L2)) := by
      refine e_iload_n dX8_init_242 rfl ?_
      refine e_iconst dX8_init_243 ⟨by decide, by decide⟩ ?_
      refine e_ic_ge (tgt := 272) dX8_init_244 (by decide) (fun _ => ?_) (fun c => absurd (by decide) c)
      exact e_vret dX8_init_272 rfl rfl
    exact e_turn8 (q := 0) k0 a1 (by decide) (hc8 rfl) (e_turn8 (q := 1) k1 b1 (by decide) (hc8 rfl) (e_turn8 (q := 2) k2 c1 (by decide) (hc8 rfl) t1 _) _) _
  · rw [c4, fl 1 1 (by omega), z1]
  · rw [fl 1 1 (by omega), z1]; decide
  · intro j hj
    rw [fl 1 1 (by omega), z1] at hj
    omega
  · rw [e3]; exact u82.cg t3
  · rw [e15]; exact u92.cg t15
  · rw [e27]; exact c3.cg t27
  · intro a b ha hb
    rw [m134 _ (by omega)]
    exact ⟨Or.inl rfl, fun z => absurd rfl z, fun z => absurd z (zDf_0 (fun k _ => z58' k) a b)⟩
  · rw [m10, fl 66 3 (by omega), zz 66 3 (by omega)]
  · rw [fl 66 3 (by omega), zz 66 3 (by omega)]; decide
  · rw [fl 66 2 (by omega), zz 66 2 (by omega)]; decide
  · intro i hi
    rw [fl 66 3 (by omega), zz 66 3 (by omega)] at hi
    omega
  · have zt : Zr (h8, J) := sT_z (n := 152) (sT_z (n := 152) (sT_z (n := 152) (sT_z (n := 152) (sT_z (n := 152) (sT_z (n := 152) hz g8_l (by decide)) g8_l (by decide)) g8_l (by decide)) g8_l (by decide)) g8_l (by decide)) g8_l (by decide)
    intro a ha k
    have hl : 152 ≤ a := by
      have : h8.1.length ≤ a := ha
      rw [show h8.1.length = 152 from g8_l] at this
      exact this
    obtain ⟨y1, y2, y3⟩ := zt a ha k
    exact ⟨by show L2 a k = 0; rw [fl a k (by omega)]; exact y1, y2, y3⟩
theorem z_init8 (hz : Zr (G8, J)) : Zr (i8, J) := by
  have hn : G8.1.length = 81 := len_n g6_l
  have z1 : Zr (i8_1, J) := zr_n hz
  have l1 : (i8_1).1.length = 82 := len_n hn
  have z2 : Zr (i8_2, J) := zr_p z1 l1 (by decide)
  have l2 : (i8_2).1.length = 82 := len_p l1
  have z3 : Zr (i8_3, J) := zr_n z2
  have l3 : (i8_3).1.length = 83 := len_n l2
  have z4 : Zr (i8_4, J) := z_init7 z3 l3 (by decide)
  have l4 : (i8_4).1.length = 92 := l_init7 l3
  have z5 : Zr (i8_5, J) := zr_p z4 l4 (by decide)
  have l5 : (i8_5).1.length = 92 := len_p l4
  have z6 : Zr (i8_6, J) := zr_n z5
  have l6 : (i8_6).1.length = 93 := len_n l5
  have z7 : Zr (i8_7, J) := z_init7 z6 l6 (by decide)
  have l7 : (i8_7).1.length = 102 := l_init7 l6
  have z8 : Zr (i8_8, J) := zr_p z7 l7 (by decide)
  have l8 : (i8_8).1.length = 102 := len_p l7
  have z9 : Zr (i8_9, J) := zr_n z8
  have l9 : (i8_9).1.length = 103 := len_n l8
  have z10 : Zr (i8_10, J) := z_init7 z9 l9 (by decide)
  have l10 : (i8_10).1.length = 112 := l_init7 l9
  have z11 : Zr (i8_11, J) := zr_p z10 l10 (by decide)
  have l11 : (i8_11).1.length = 112 := len_p l10
  have z12 : Zr (i8_12, J) := zr_n z11
  have l12 : (i8_12).1.length = 113 := len_n l11
  have z13 : Zr (i8_13, J) := z_init7 z12 l12 (by decide)
  have l13 : (i8_13).1.length = 122 := l_init7 l12
  have z14 : Zr (i8_14, J) := zr_p z13 l13 (by decide)
  have l14 : (i8_14).1.length = 122 := len_p l13
  have z15 : Zr (i8_15, J) := zr_n z14
  have l15 : (i8_15).1.length = 123 := len_n l14
  have z16 : Zr (i8_16, J) := z_init7 z15 l15 (by decide)
  have l16 : (i8_16).1.length = 132 := l_init7 l15
  have z17 : Zr (i8_17, J) := zr_p z16 l16 (by decide)
  have l17 : (i8_17).1.length = 132 := len_p l16
  have z18 : Zr (i8_18, J) := zr_n z17
  have l18 : (i8_18).1.length = 133 := len_n l17
  have z19 : Zr (i8_19, J) := zr_p z18 l18 (by decide)
  have l19 : (i8_19).1.length = 133 := len_p l18
  have z20 : Zr (i8_20, J) := zr_n z19
  have l20 : (i8_20).1.length = 134 := len_n l19
  have z21 : Zr (i8_21, J) := zr_p z20 l20 (by decide)
  have l21 : (i8_21).1.length = 134 := len_p l20
  have z22 : Zr (i8_22, J) := zr_n z21
  have l22 : (i8_22).1.length = 135 := len_n l21
  have z23 : Zr (i8_23, J) := zr_p z22 l22 (by decide)
  have l23 : (i8_23).1.length = 135 := len_p l22
  have z24 : Zr (i8_24, J) := zr_n z23
  have l24 : (i8_24).1.length = 136 := len_n l23
  have z25 : Zr (i8_25, J) := zr_p z24 l24 (by decide)
  have l25 : (i8_25).1.length = 136 := len_p l24
  have z26 : Zr (i8_26, J) := zr_n z25
  have l26 : (i8_26).1.length = 137 := len_n l25
  have z27 : Zr (i8_27, J) := zr_p z26 l26 (by decide)
  have l27 : (i8_27).1.length = 137 := len_p l26
  have z28 : Zr (i8_28, J) := zr_n z27
  have l28 : (i8_28).1.length = 138 := len_n l27
  have z29 : Zr (i8_29, J) := zr_p z28 l28 (by decide)
  have l29 : (i8_29).1.length = 138 := len_p l28
  have z30 : Zr (i8_30, J) := zr_n z29
  have l30 : (i8_30).1.length = 139 := len_n l29
  have z31 : Zr (i8_31, J) := zr_p z30 l30 (by decide)
  have l31 : (i8_31).1.length = 139 := len_p l30
  have z32 : Zr (i8_32, J) := zr_n z31
  have l32 : (i8_32).1.length = 140 := len_n l31
  have z33 : Zr (i8_33, J) := zr_p z32 l32 (by decide)
  have l33 : (i8_33).1.length = 140 := len_p l32
  have z34 : Zr (i8_34, J) := zr_n z33
  have l34 : (i8_34).1.length = 141 := len_n l33
  have z35 : Zr (i8_35, J) := zr_p z34 l34 (by decide)
  have l35 : (i8_35).1.length = 141 := len_p l34
  have z36 : Zr (i8_36, J) := zr_n z35
  have l36 : (i8_36).1.length = 142 := len_n l35
  have z37 : Zr (i8_37, J) := zr_p z36 l36 (by decide)
  have l37 : (i8_37).1.length = 142 := len_p l36
  have z38 : Zr (i8_38, J) := zr_n z37
  have l38 : (i8_38).1.length = 143 := len_n l37
  have z39 : Zr (i8_39, J) := zr_p z38 l38 (by decide)
  have l39 : (i8_39).1.length = 143 := len_p l38
  have z40 : Zr (i8_40, J) := zr_n z39
  have l40 : (i8_40).1.length = 144 := len_n l39
  have z41 : Zr (i8_41, J) := zr_p z40 l40 (by decide)
  have l41 : (i8_41).1.length = 144 := len_p l40
  have z42 : Zr (i8_42, J) := zr_n z41
  have l42 : (i8_42).1.length = 145 := len_n l41
  have z43 : Zr (i8_43, J) := zr_p z42 l42 (by decide)
  have l43 : (i8_43).1.length = 145 := len_p l42
  have z44 : Zr (i8_44, J) := zr_n z43
  have l44 : (i8_44).1.length = 146 := len_n l43
  have z45 : Zr (i8_45, J) := zr_p z44 l44 (by decide)
  have l45 : (i8_45).1.length = 146 := len_p l44
  have z46 : Zr (i8_46, J) := zr_n z45
  have l46 : (i8_46).1.length = 147 := len_n l45
  have z47 : Zr (i8_47, J) := zr_p z46 l46 (by decide)
  have l47 : (i8_47).1.length = 147 := len_p l46
  have z48 : Zr (i8_48, J) := zr_n z47
  have l48 : (i8_48).1.length = 148 := len_n l47
  have z49 : Zr (i8_49, J) := zr_p z48 l48 (by decide)
  have l49 : (i8_49).1.length = 148 := len_p l48
  have z50 : Zr (i8_50, J) := zr_n z49
  have l50 : (i8_50).1.length = 149 := len_n l49
  have z51 : Zr (i8_51, J) := zr_p z50 l50 (by decide)
  have l51 : (i8_51).1.length = 149 := len_p l50
  have z52 : Zr (i8_52, J) := zr_n z51
  have l52 : (i8_52).1.length = 150 := len_n l51
  have z53 : Zr (i8_53, J) := zr_p z52 l52 (by decide)
  have l53 : (i8_53).1.length = 150 := len_p l52
  have z54 : Zr (i8_54, J) := zr_n z53
  have l54 : (i8_54).1.length = 151 := len_n l53
  have z55 : Zr (i8_55, J) := zr_p z54 l54 (by decide)
  have l55 : (i8_55).1.length = 151 := len_p l54
  have z56 : Zr (i8_56, J) := zr_n z55
  have l56 : (i8_56).1.length = 152 := len_n l55
  have z57 : Zr (i8_57, J) := zr_p z56 l56 (by decide)
  have l57 : (i8_57).1.length = 152 := len_p l56
  exact z57
theorem ct_init8 : i8.2.2.2.1 = G8.2.2.2.1 + 71 ∧ i8.2.2.2.2 = G8.2.2.2.2 + 75537 := by
  have c0 : G8.2.2.2.1 = G8.2.2.2.1 + 0 ∧ G8.2.2.2.2 = G8.2.2.2.2 + 0 := ⟨rfl, rfl⟩
  have c1 : (i8_1).2.2.2.1 = G8.2.2.2.1 + 1 ∧ (i8_1).2.2.2.2 = G8.2.2.2.2 + 240 := ct_n c0
  have c2 : (i8_2).2.2.2.1 = G8.2.2.2.1 + 1 ∧ (i8_2).2.2.2.2 = G8.2.2.2.2 + 240 := ct_p c1
  have c3 : (i8_3).2.2.2.1 = G8.2.2.2.1 + 2 ∧ (i8_3).2.2.2.2 = G8.2.2.2.2 + 251 := ct_n c2
  have c4 : (i8_4).2.2.2.1 = G8.2.2.2.1 + 11 ∧ (i8_4).2.2.2.2 = G8.2.2.2.2 + 2411 := ct_init7 c3
  have c5 : (i8_5).2.2.2.1 = G8.2.2.2.1 + 11 ∧ (i8_5).2.2.2.2 = G8.2.2.2.2 + 2411 := ct_p c4
  have c6 : (i8_6).2.2.2.1 = G8.2.2.2.1 + 12 ∧ (i8_6).2.2.2.2 = G8.2.2.2.2 + 2422 := ct_n c5
  have c7 : (i8_7).2.2.2.1 = G8.2.2.2.1 + 21 ∧ (i8_7).2.2.2.2 = G8.2.2.2.2 + 4582 := ct_init7 c6
  have c8 : (i8_8).2.2.2.1 = G8.2.2.2.1 + 21 ∧ (i8_8).2.2.2.2 = G8.2.2.2.2 + 4582 := ct_p c7
  have c9 : (i8_9).2.2.2.1 = G8.2.2.2.1 + 22 ∧ (i8_9).2.2.2.2 = G8.2.2.2.2 + 4593 := ct_n c8
  have c10 : (i8_10).2.2.2.1 = G8.2.2.2.1 + 31 ∧ (i8_10).2.2.2.2 = G8.2.2.2.2 + 6753 := ct_init7 c9
  have c11 : (i8_11).2.2.2.1 = G8.2.2.2.1 + 31 ∧ (i8_11).2.2.2.2 = G8.2.2.2.2 + 6753 := ct_p c10
  have c12 : (i8_12).2.2.2.1 = G8.2.2.2.1 + 32 ∧ (i8_12).2.2.2.2 = G8.2.2.2.2 + 6764 := ct_n c11
  have c13 : (i8_13).2.2.2.1 = G8.2.2.2.1 + 41 ∧ (i8_13).2.2.2.2 = G8.2.2.2.2 + 8924 := ct_init7 c12
  have c14 : (i8_14).2.2.2.1 = G8.2.2.2.1 + 41 ∧ (i8_14).2.2.2.2 = G8.2.2.2.2 + 8924 := ct_p c13
  have c15 : (i8_15).2.2.2.1 = G8.2.2.2.1 + 42 ∧ (i8_15).2.2.2.2 = G8.2.2.2.2 + 8935 := ct_n c14
  have c16 : (i8_16).2.2.2.1 = G8.2.2.2.1 + 51 ∧ (i8_16).2.2.2.2 = G8.2.2.2.2 + 11095 := ct_init7 c15
  have c17 : (i8_17).2.2.2.1 = G8.2.2.2.1 + 51 ∧ (i8_17).2.2.2.2 = G8.2.2.2.2 + 11095 := ct_p c16
  have c18 : (i8_18).2.2.2.1 = G8.2.2.2.1 + 52 ∧ (i8_18).2.2.2.2 = G8.2.2.2.2 + 13495 := ct_n c17
  have c19 : (i8_19).2.2.2.1 = G8.2.2.2.1 + 52 ∧ (i8_19).2.2.2.2 = G8.2.2.2.2 + 13495 := ct_p c18
  have c20 : (i8_20).2.2.2.1 = G8.2.2.2.1 + 53 ∧ (i8_20).2.2.2.2 = G8.2.2.2.2 + 13505 := ct_n c19
  have c21 : (i8_21).2.2.2.1 = G8.2.2.2.1 + 53 ∧ (i8_21).2.2.2.2 = G8.2.2.2.2 + 13505 := ct_p c20
  have c22 : (i8_22).2.2.2.1 = G8.2.2.2.1 + 54 ∧ (i8_22).2.2.2.2 = G8.2.2.2.2 + 14181 := ct_n c21
  have c23 : (i8_23).2.2.2.1 = G8.2.2.2.1 + 54 ∧ (i8_23).2.2.2.2 = G8.2.2.2.2 + 14181 := ct_p c22
  have c24 : (i8_24).2.2.2.1 = G8.2.2.2.1 + 55 ∧ (i8_24).2.2.2.2 = G8.2.2.2.2 + 14207 := ct_n c23
  have c25 : (i8_25).2.2.2.1 = G8.2.2.2.1 + 55 ∧ (i8_25).2.2.2.2 = G8.2.2.2.2 + 14207 := ct_p c24
  have c26 : (i8_26).2.2.2.1 = G8.2.2.2.1 + 56 ∧ (i8_26).2.2.2.2 = G8.2.2.2.2 + 18207 := ct_n c25
  have c27 : (i8_27).2.2.2.1 = G8.2.2.2.1 + 56 ∧ (i8_27).2.2.2.2 = G8.2.2.2.2 + 18207 := ct_p c26
  have c28 : (i8_28).2.2.2.1 = G8.2.2.2.1 + 57 ∧ (i8_28).2.2.2.2 = G8.2.2.2.2 + 22207 := ct_n c27
  have c29 : (i8_29).2.2.2.1 = G8.2.2.2.1 + 57 ∧ (i8_29).2.2.2.2 = G8.2.2.2.2 + 22207 := ct_p c28
  have c30 : (i8_30).2.2.2.1 = G8.2.2.2.1 + 58 ∧ (i8_30).2.2.2.2 = G8.2.2.2.2 + 26207 := ct_n c29
  have c31 : (i8_31).2.2.2.1 = G8.2.2.2.1 + 58 ∧ (i8_31).2.2.2.2 = G8.2.2.2.2 + 26207 := ct_p c30
  have c32 : (i8_32).2.2.2.1 = G8.2.2.2.1 + 59 ∧ (i8_32).2.2.2.2 = G8.2.2.2.2 + 30207 := ct_n c31
  have c33 : (i8_33).2.2.2.1 = G8.2.2.2.1 + 59 ∧ (i8_33).2.2.2.2 = G8.2.2.2.2 + 30207 := ct_p c32
  have c34 : (i8_34).2.2.2.1 = G8.2.2.2.1 + 60 ∧ (i8_34).2.2.2.2 = G8.2.2.2.2 + 34207 := ct_n c33
  have c35 : (i8_35).2.2.2.1 = G8.2.2.2.1 + 60 ∧ (i8_35).2.2.2.2 = G8.2.2.2.2 + 34207 := ct_p c34
  have c36 : (i8_36).2.2.2.1 = G8.2.2.2.1 + 61 ∧ (i8_36).2.2.2.2 = G8.2.2.2.2 + 34233 := ct_n c35
  have c37 : (i8_37).2.2.2.1 = G8.2.2.2.1 + 61 ∧ (i8_37).2.2.2.2 = G8.2.2.2.2 + 34233 := ct_p c36
  have c38 : (i8_38).2.2.2.1 = G8.2.2.2.1 + 62 ∧ (i8_38).2.2.2.2 = G8.2.2.2.2 + 34259 := ct_n c37
  have c39 : (i8_39).2.2.2.1 = G8.2.2.2.1 + 62 ∧ (i8_39).2.2.2.2 = G8.2.2.2.2 + 34259 := ct_p c38
  have c40 : (i8_40).2.2.2.1 = G8.2.2.2.1 + 63 ∧ (i8_40).2.2.2.2 = G8.2.2.2.2 + 34285 := ct_n c39
  have c41 : (i8_41).2.2.2.1 = G8.2.2.2.1 + 63 ∧ (i8_41).2.2.2.2 = G8.2.2.2.2 + 34285 := ct_p c40
  have c42 : (i8_42).2.2.2.1 = G8.2.2.2.1 + 64 ∧ (i8_42).2.2.2.2 = G8.2.2.2.2 + 34311 := ct_n c41
  have c43 : (i8_43).2.2.2.1 = G8.2.2.2.1 + 64 ∧ (i8_43).2.2.2.2 = G8.2.2.2.2 + 34311 := ct_p c42
  have c44 : (i8_44).2.2.2.1 = G8.2.2.2.1 + 65 ∧ (i8_44).2.2.2.2 = G8.2.2.2.2 + 34337 := ct_n c43
  have c45 : (i8_45).2.2.2.1 = G8.2.2.2.1 + 65 ∧ (i8_45).2.2.2.2 = G8.2.2.2.2 + 34337 := ct_p c44
  have c46 : (i8_46).2.2.2.1 = G8.2.2.2.1 + 66 ∧ (i8_46).2.2.2.2 = G8.2.2.2.2 + 34577 := ct_n c45
  have c47 : (i8_47).2.2.2.1 = G8.2.2.2.1 + 66 ∧ (i8_47).2.2.2.2 = G8.2.2.2.2 + 34577 := ct_p c46
  have c48 : (i8_48).2.2.2.1 = G8.2.2.2.1 + 67 ∧ (i8_48).2.2.2.2 = G8.2.2.2.2 + 34817 := ct_n c47
  have c49 : (i8_49).2.2.2.1 = G8.2.2.2.1 + 67 ∧ (i8_49).2.2.2.2 = G8.2.2.2.2 + 34817 := ct_p c48
  have c50 : (i8_50).2.2.2.1 = G8.2.2.2.1 + 68 ∧ (i8_50).2.2.2.2 = G8.2.2.2.2 + 35057 := ct_n c49
  have c51 : (i8_51).2.2.2.1 = G8.2.2.2.1 + 68 ∧ (i8_51).2.2.2.2 = G8.2.2.2.2 + 35057 := ct_p c50
  have c52 : (i8_52).2.2.2.1 = G8.2.2.2.1 + 69 ∧ (i8_52).2.2.2.2 = G8.2.2.2.2 + 75057 := ct_n c51
  have c53 : (i8_53).2.2.2.1 = G8.2.2.2.1 + 69 ∧ (i8_53).2.2.2.2 = G8.2.2.2.2 + 75057 := ct_p c52
  have c54 : (i8_54).2.2.2.1 = G8.2.2.2.1 + 70 ∧ (i8_54).2.2.2.2 = G8.2.2.2.2 + 75297 := ct_n c53
  have c55 : (i8_55).2.2.2.1 = G8.2.2.2.1 + 70 ∧ (i8_55).2.2.2.2 = G8.2.2.2.2 + 75297 := ct_p c54
  have c56 : (i8_56).2.2.2.1 = G8.2.2.2.1 + 71 ∧ (i8_56).2.2.2.2 = G8.2.2.2.2 + 75537 := ct_n c55
  have c57 : (i8_57).2.2.2.1 = G8.2.2.2.1 + 71 ∧ (i8_57).2.2.2.2 = G8.2.2.2.2 + 75537 := ct_p c56
  exact c57
set_option maxRecDepth 100000 in
theorem ldc_ws : ([Cond.constant (cN 8) 85 (Int32.ofInt 40000)] : List Cond).all (fun w => decide (w ∈ lw_tbl) && goodWord w) = true := by decide +kernel
theorem e_ldc85 {d : Nat} {ls : List (Option AV)} {st : List AV} {h : AH} {R : AR} (k : Ev Γ d mX8_init (215 + 2) ls (.inl 40000 :: st) h R) : Ev Γ d mX8_init 215 ls st h R :=
  ev_of (fun _ _ _ _ _ _ _ _ _ _ _ _ _ _ _ C _ _ _ _ w => lv_ldc (own := cN 8) (v := Int32.ofInt 40000) C.1 C.2.1 C.2.2.2.1 (C.2.2.2.2.1 _ (mem_l ldc_ws _ List.mem_cons_self)) dX8_init_215 w) (fun _ hs _ => okS_i ⟨by decide, by decide⟩ hs) k
set_option maxRecDepth 100000 in
set_option maxHeartbeats 4000000 in
/-- THE REFERENCE'S CONSTRUCTOR -/
theorem c_init8 (hF : gF Γ = true) (mj : Made J) (hz : Zr (G8, J)) : ∃ L : IF, CT Γ 64 mX8_init [.inr (some 80)] (G8, J) (none, (h8, L)) ∧ Inv L ∧ Zr (h8, L) := by
  obtain ⟨L, tl, iv, zl⟩ := c_tail8 (Γ := Γ) mj (z_init8 hz)
  have hn : G8.1.length = 81 := len_n g6_l
  have hs : G8.1[80]? = some (.inl 8) := sh_l g6_l
  have c0 : G8.2.2.2.1 = G8.2.2.2.1 + 0 ∧ G8.2.2.2.2 = G8.2.2.2.2 + 0 := ⟨rfl, rfl⟩
  have z1 : Zr (i8_1, J) := zr_n hz
  have l1 : (i8_1).1.length = 82 := len_n hn
  have s1 : (i8_1).1[80]? = some (.inl 8) := sh_n hs
  have c1 : (i8_1).2.2.2.1 = G8.2.2.2.1 + 1 ∧ (i8_1).2.2.2.2 = G8.2.2.2.2 + 240 := ct_n c0
  have z2 : Zr (i8_2, J) := zr_p z1 l1 (by decide)
  have l2 : (i8_2).1.length = 82 := len_p l1
  have s2 : (i8_2).1[80]? = some (.inl 8) := sh_p s1
  have c2 : (i8_2).2.2.2.1 = G8.2.2.2.1 + 1 ∧ (i8_2).2.2.2.2 = G8.2.2.2.2 + 240 := ct_p c1
  have z3 : Zr (i8_3, J) := zr_n z2
  have l3 : (i8_3).1.length = 83 := len_n l2
  have s3 : (i8_3).1[80]? = some (.inl 8) := sh_n s2
  have c3 : (i8_3).2.2.2.1 = G8.2.2.2.1 + 2 ∧ (i8_3).2.2.2.2 = G8.2.2.2.2 + 251 := ct_n c2
  have t3 : (i8_3).1[82]? = some (.inl 7) := sh_l l2
  have k3 := c_init7 (Γ := Γ) (g := i8_3) (I := J) (a := 82) (n := 83) hF z3 l3 (by decide) (by decide) t3
  have z4 : Zr (i8_4, J) := z_init7 z3 l3 (by decide)
  have l4 : (i8_4).1.length = 92 := l_init7 l3
  have s4 : (i8_4).1[80]? = some (.inl 8) := s_init7 s3
  have c4 : (i8_4).2.2.2.1 = G8.2.2.2.1 + 11 ∧ (i8_4).2.2.2.2 = G8.2.2.2.2 + 2411 := ct_init7 c3
  have z5 : Zr (i8_5, J) := zr_p z4 l4 (by decide)
  have l5 : (i8_5).1.length = 92 := len_p l4
  have s5 : (i8_5).1[80]? = some (.inl 8) := sh_p s4
  have c5 : (i8_5).2.2.2.1 = G8.2.2.2.1 + 11 ∧ (i8_5).2.2.2.2 = G8.2.2.2.2 + 2411 := ct_p c4
  have z6 : Zr (i8_6, J) := zr_n z5
  have l6 : (i8_6).1.length = 93 := len_n l5
  have s6 : (i8_6).1[80]? = some (.inl 8) := sh_n s5
  have c6 : (i8_6).2.2.2.1 = G8.2.2.2.1 + 12 ∧ (i8_6).2.2.2.2 = G8.2.2.2.2 + 2422 := ct_n c5
  have t6 : (i8_6).1[92]? = some (.inl 7) := sh_l l5
  have k6 := c_init7 (Γ := Γ) (g := i8_6) (I := J) (a := 92) (n := 93) hF z6 l6 (by decide) (by decide) t6
  have z7 : Zr (i8_7, J) := z_init7 z6 l6 (by decide)
  have l7 : (i8_7).1.length = 102 := l_init7 l6
  have s7 : (i8_7).1[80]? = some (.inl 8) := s_init7 s6
  have c7 : (i8_7).2.2.2.1 = G8.2.2.2.1 + 21 ∧ (i8_7).2.2.2.2 = G8.2.2.2.2 + 4582 := ct_init7 c6
  have z8 : Zr (i8_8, J) := zr_p z7 l7 (by decide)
  have l8 : (i8_8).1.length = 102 := len_p l7
  have s8 : (i8_8).1[80]? = some (.inl 8) := sh_p s7
  have c8 : (i8_8).2.2.2.1 = G8.2.2.2.1 + 21 ∧ (i8_8).2.2.2.2 = G8.2.2.2.2 + 4582 := ct_p c7
  have z9 : Zr (i8_9, J) := zr_n z8
  have l9 : (i8_9).1.length = 103 := len_n l8
  have s9 : (i8_9).1[80]? = some (.inl 8) := sh_n s8
  have c9 : (i8_9).2.2.2.1 = G8.2.2.2.1 + 22 ∧ (i8_9).2.2.2.2 = G8.2.2.2.2 + 4593 := ct_n c8
  have t9 : (i8_9).1[102]? = some (.inl 7) := sh_l l8
  have k9 := c_init7 (Γ := Γ) (g := i8_9) (I := J) (a := 102) (n := 103) hF z9 l9 (by decide) (by decide) t9
  have z10 : Zr (i8_10, J) := z_init7 z9 l9 (by decide)
  have l10 : (i8_10).1.length = 112 := l_init7 l9
  have s10 : (i8_10).1[80]? = some (.inl 8) := s_init7 s9
  have c10 : (i8_10).2.2.2.1 = G8.2.2.2.1 + 31 ∧ (i8_10).2.2.2.2 = G8.2.2.2.2 + 6753 := ct_init7 c9
  have z11 : Zr (i8_11, J) := zr_p z10 l10 (by decide)
  have l11 : (i8_11).1.length = 112 := len_p l10
  have s11 : (i8_11).1[80]? = some (.inl 8) := sh_p s10
  have c11 : (i8_11).2.2.2.1 = G8.2.2.2.1 + 31 ∧ (i8_11).2.2.2.2 = G8.2.2.2.2 + 6753 := ct_p c10
  have z12 : Zr (i8_12, J) := zr_n z11
  have l12 : (i8_12).1.length = 113 := len_n l11
  have s12 : (i8_12).1[80]? = some (.inl 8) := sh_n s11
  have c12 : (i8_12).2.2.2.1 = G8.2.2.2.1 + 32 ∧ (i8_12).2.2.2.2 = G8.2.2.2.2 + 6764 := ct_n c11
  have t12 : (i8_12).1[112]? = some (.inl 7) := sh_l l11
  have k12 := c_init7 (Γ := Γ) (g := i8_12) (I := J) (a := 112) (n := 113) hF z12 l12 (by decide) (by decide) t12
  have z13 : Zr (i8_13, J) := z_init7 z12 l12 (by decide)
  have l13 : (i8_13).1.length = 122 := l_init7 l12
  have s13 : (i8_13).1[80]? = some (.inl 8) := s_init7 s12
  have c13 : (i8_13).2.2.2.1 = G8.2.2.2.1 + 41 ∧ (i8_13).2.2.2.2 = G8.2.2.2.2 + 8924 := ct_init7 c12
  have z14 : Zr (i8_14, J) := zr_p z13 l13 (by decide)
  have l14 : (i8_14).1.length = 122 := len_p l13
  have s14 : (i8_14).1[80]? = some (.inl 8) := sh_p s13
  have c14 : (i8_14).2.2.2.1 = G8.2.2.2.1 + 41 ∧ (i8_14).2.2.2.2 = G8.2.2.2.2 + 8924 := ct_p c13
  have z15 : Zr (i8_15, J) := zr_n z14
  have l15 : (i8_15).1.length = 123 := len_n l14
  have s15 : (i8_15).1[80]? = some (.inl 8) := sh_n s14
  have c15 : (i8_15).2.2.2.1 = G8.2.2.2.1 + 42 ∧ (i8_15).2.2.2.2 = G8.2.2.2.2 + 8935 := ct_n c14
  have t15 : (i8_15).1[122]? = some (.inl 7) := sh_l l14
  have k15 := c_init7 (Γ := Γ) (g := i8_15) (I := J) (a := 122) (n := 123) hF z15 l15 (by decide) (by decide) t15
  have z16 : Zr (i8_16, J) := z_init7 z15 l15 (by decide)
  have l16 : (i8_16).1.length = 132 := l_init7 l15
  have s16 : (i8_16).1[80]? = some (.inl 8) := s_init7 s15
  have c16 : (i8_16).2.2.2.1 = G8.2.2.2.1 + 51 ∧ (i8_16).2.2.2.2 = G8.2.2.2.2 + 11095 := ct_init7 c15
  have z17 : Zr (i8_17, J) := zr_p z16 l16 (by decide)
  have l17 : (i8_17).1.length = 132 := len_p l16
  have s17 : (i8_17).1[80]? = some (.inl 8) := sh_p s16
  have c17 : (i8_17).2.2.2.1 = G8.2.2.2.1 + 51 ∧ (i8_17).2.2.2.2 = G8.2.2.2.2 + 11095 := ct_p c16
  have z18 : Zr (i8_18, J) := zr_n z17
  have l18 : (i8_18).1.length = 133 := len_n l17
  have s18 : (i8_18).1[80]? = some (.inl 8) := sh_n s17
  have c18 : (i8_18).2.2.2.1 = G8.2.2.2.1 + 52 ∧ (i8_18).2.2.2.2 = G8.2.2.2.2 + 13495 := ct_n c17
  have z19 : Zr (i8_19, J) := zr_p z18 l18 (by decide)
  have l19 : (i8_19).1.length = 133 := len_p l18
  have s19 : (i8_19).1[80]? = some (.inl 8) := sh_p s18
  have c19 : (i8_19).2.2.2.1 = G8.2.2.2.1 + 52 ∧ (i8_19).2.2.2.2 = G8.2.2.2.2 + 13495 := ct_p c18
  have z20 : Zr (i8_20, J) := zr_n z19
  have l20 : (i8_20).1.length = 134 := len_n l19
  have s20 : (i8_20).1[80]? = some (.inl 8) := sh_n s19
  have c20 : (i8_20).2.2.2.1 = G8.2.2.2.1 + 53 ∧ (i8_20).2.2.2.2 = G8.2.2.2.2 + 13505 := ct_n c19
  have z21 : Zr (i8_21, J) := zr_p z20 l20 (by decide)
  have l21 : (i8_21).1.length = 134 := len_p l20
  have s21 : (i8_21).1[80]? = some (.inl 8) := sh_p s20
  have c21 : (i8_21).2.2.2.1 = G8.2.2.2.1 + 53 ∧ (i8_21).2.2.2.2 = G8.2.2.2.2 + 13505 := ct_p c20
  have z22 : Zr (i8_22, J) := zr_n z21
  have l22 : (i8_22).1.length = 135 := len_n l21
  have s22 : (i8_22).1[80]? = some (.inl 8) := sh_n s21
  have c22 : (i8_22).2.2.2.1 = G8.2.2.2.1 + 54 ∧ (i8_22).2.2.2.2 = G8.2.2.2.2 + 14181 := ct_n c21
  have z23 : Zr (i8_23, J) := zr_p z22 l22 (by decide)
  have l23 : (i8_23).1.length = 135 := len_p l22
  have s23 : (i8_23).1[80]? = some (.inl 8) := sh_p s22
  have c23 : (i8_23).2.2.2.1 = G8.2.2.2.1 + 54 ∧ (i8_23).2.2.2.2 = G8.2.2.2.2 + 14181 := ct_p c22
  have z24 : Zr (i8_24, J) := zr_n z23
  have l24 : (i8_24).1.length = 136 := len_n l23
  have s24 : (i8_24).1[80]? = some (.inl 8) := sh_n s23
  have c24 : (i8_24).2.2.2.1 = G8.2.2.2.1 + 55 ∧ (i8_24).2.2.2.2 = G8.2.2.2.2 + 14207 := ct_n c23
  have z25 : Zr (i8_25, J) := zr_p z24 l24 (by decide)
  have l25 : (i8_25).1.length = 136 := len_p l24
  have s25 : (i8_25).1[80]? = some (.inl 8) := sh_p s24
  have c25 : (i8_25).2.2.2.1 = G8.2.2.2.1 + 55 ∧ (i8_25).2.2.2.2 = G8.2.2.2.2 + 14207 := ct_p c24
  have z26 : Zr (i8_26, J) := zr_n z25
  have l26 : (i8_26).1.length = 137 := len_n l25
  have s26 : (i8_26).1[80]? = some (.inl 8) := sh_n s25
  have c26 : (i8_26).2.2.2.1 = G8.2.2.2.1 + 56 ∧ (i8_26).2.2.2.2 = G8.2.2.2.2 + 18207 := ct_n c25
  have z27 : Zr (i8_27, J) := zr_p z26 l26 (by decide)
  have l27 : (i8_27).1.length = 137 := len_p l26
  have s27 : (i8_27).1[80]? = some (.inl 8) := sh_p s26
  have c27 : (i8_27).2.2.2.1 = G8.2.2.2.1 + 56 ∧ (i8_27).2.2.2.2 = G8.2.2.2.2 + 18207 := ct_p c26
  have z28 : Zr (i8_28, J) := zr_n z27
  have l28 : (i8_28).1.length = 138 := len_n l27
  have s28 : (i8_28).1[80]? = some (.inl 8) := sh_n s27
  have c28 : (i8_28).2.2.2.1 = G8.2.2.2.1 + 57 ∧ (i8_28).2.2.2.2 = G8.2.2.2.2 + 22207 := ct_n c27
  have z29 : Zr (i8_29, J) := zr_p z28 l28 (by decide)
  have l29 : (i8_29).1.length = 138 := len_p l28
  have s29 : (i8_29).1[80]? = some (.inl 8) := sh_p s28
  have c29 : (i8_29).2.2.2.1 = G8.2.2.2.1 + 57 ∧ (i8_29).2.2.2.2 = G8.2.2.2.2 + 22207 := ct_p c28
  have z30 : Zr (i8_30, J) := zr_n z29
  have l30 : (i8_30).1.length = 139 := len_n l29
  have s30 : (i8_30).1[80]? = some (.inl 8) := sh_n s29
  have c30 : (i8_30).2.2.2.1 = G8.2.2.2.1 + 58 ∧ (i8_30).2.2.2.2 = G8.2.2.2.2 + 26207 := ct_n c29
  have z31 : Zr (i8_31, J) := zr_p z30 l30 (by decide)
  have l31 : (i8_31).1.length = 139 := len_p l30
  have s31 : (i8_31).1[80]? = some (.inl 8) := sh_p s30
  have c31 : (i8_31).2.2.2.1 = G8.2.2.2.1 + 58 ∧ (i8_31).2.2.2.2 = G8.2.2.2.2 + 26207 := ct_p c30
  have z32 : Zr (i8_32, J) := zr_n z31
  have l32 : (i8_32).1.length = 140 := len_n l31
  have s32 : (i8_32).1[80]? = some (.inl 8) := sh_n s31
  have c32 : (i8_32).2.2.2.1 = G8.2.2.2.1 + 59 ∧ (i8_32).2.2.2.2 = G8.2.2.2.2 + 30207 := ct_n c31
  have z33 : Zr (i8_33, J) := zr_p z32 l32 (by decide)
  have l33 : (i8_33).1.length = 140 := len_p l32
  have s33 : (i8_33).1[80]? = some (.inl 8) := sh_p s32
  have c33 : (i8_33).2.2.2.1 = G8.2.2.2.1 + 59 ∧ (i8_33).2.2.2.2 = G8.2.2.2.2 + 30207 := ct_p c32
  have z34 : Zr (i8_34, J) := zr_n z33
  have l34 : (i8_34).1.length = 141 := len_n l33
  have s34 : (i8_34).1[80]? = some (.inl 8) := sh_n s33
  have c34 : (i8_34).2.2.2.1 = G8.2.2.2.1 + 60 ∧ (i8_34).2.2.2.2 = G8.2.2.2.2 + 34207 := ct_n c33
  have z35 : Zr (i8_35, J) := zr_p z34 l34 (by decide)
  have l35 : (i8_35).1.length = 141 := len_p l34
  have s35 : (i8_35).1[80]? = some (.inl 8) := sh_p s34
  have c35 : (i8_35).2.2.2.1 = G8.2.2.2.1 + 60 ∧ (i8_35).2.2.2.2 = G8.2.2.2.2 + 34207 := ct_p c34
  have z36 : Zr (i8_36, J) := zr_n z35
  have l36 : (i8_36).1.length = 142 := len_n l35
  have s36 : (i8_36).1[80]? = some (.inl 8) := sh_n s35
  have c36 : (i8_36).2.2.2.1 = G8.2.2.2.1 + 61 ∧ (i8_36).2.2.2.2 = G8.2.2.2.2 + 34233 := ct_n c35
  have z37 : Zr (i8_37, J) := zr_p z36 l36 (by decide)
  have l37 : (i8_37).1.length = 142 := len_p l36
  have s37 : (i8_37).1[80]? = some (.inl 8) := sh_p s36
  have c37 : (i8_37).2.2.2.1 = G8.2.2.2.1 + 61 ∧ (i8_37).2.2.2.2 = G8.2.2.2.2 + 34233 := ct_p c36
  have z38 : Zr (i8_38, J) := zr_n z37
  have l38 : (i8_38).1.length = 143 := len_n l37
  have s38 : (i8_38).1[80]? = some (.inl 8) := sh_n s37
  have c38 : (i8_38).2.2.2.1 = G8.2.2.2.1 + 62 ∧ (i8_38).2.2.2.2 = G8.2.2.2.2 + 34259 := ct_n c37
  have z39 : Zr (i8_39, J) := zr_p z38 l38 (by decide)
  have l39 : (i8_39).1.length = 143 := len_p l38
  have s39 : (i8_39).1[80]? = some (.inl 8) := sh_p s38
  have c39 : (i8_39).2.2.2.1 = G8.2.2.2.1 + 62 ∧ (i8_39).2.2.2.2 = G8.2.2.2.2 + 34259 := ct_p c38
  have z40 : Zr (i8_40, J) := zr_n z39
  have l40 : (i8_40).1.length = 144 := len_n l39
  have s40 : (i8_40).1[80]? = some (.inl 8) := sh_n s39
  have c40 : (i8_40).2.2.2.1 = G8.2.2.2.1 + 63 ∧ (i8_40).2.2.2.2 = G8.2.2.2.2 + 34285 := ct_n c39
  have z41 : Zr (i8_41, J) := zr_p z40 l40 (by decide)
  have l41 : (i8_41).1.length = 144 := len_p l40
  have s41 : (i8_41).1[80]? = some (.inl 8) := sh_p s40
  have c41 : (i8_41).2.2.2.1 = G8.2.2.2.1 + 63 ∧ (i8_41).2.2.2.2 = G8.2.2.2.2 + 34285 := ct_p c40
  have z42 : Zr (i8_42, J) := zr_n z41
  have l42 : (i8_42).1.length = 145 := len_n l41
  have s42 : (i8_42).1[80]? = some (.inl 8) := sh_n s41
  have c42 : (i8_42).2.2.2.1 = G8.2.2.2.1 + 64 ∧ (i8_42).2.2.2.2 = G8.2.2.2.2 + 34311 := ct_n c41
  have z43 : Zr (i8_43, J) := zr_p z42 l42 (by decide)
  have l43 : (i8_43).1.length = 145 := len_p l42
  have s43 : (i8_43).1[80]? = some (.inl 8) := sh_p s42
  have c43 : (i8_43).2.2.2.1 = G8.2.2.2.1 + 64 ∧ (i8_43).2.2.2.2 = G8.2.2.2.2 + 34311 := ct_p c42
  have z44 : Zr (i8_44, J) := zr_n z43
  have l44 : (i8_44).1.length = 146 := len_n l43
  have s44 : (i8_44).1[80]? = some (.inl 8) := sh_n s43
  have c44 : (i8_44).2.2.2.1 = G8.2.2.2.1 + 65 ∧ (i8_44).2.2.2.2 = G8.2.2.2.2 + 34337 := ct_n c43
  have z45 : Zr (i8_45, J) := zr_p z44 l44 (by decide)
  have l45 : (i8_45).1.length = 146 := len_p l44
  have s45 : (i8_45).1[80]? = some (.inl 8) := sh_p s44
  have c45 : (i8_45).2.2.2.1 = G8.2.2.2.1 + 65 ∧ (i8_45).2.2.2.2 = G8.2.2.2.2 + 34337 := ct_p c44
  have z46 : Zr (i8_46, J) := zr_n z45
  have l46 : (i8_46).1.length = 147 := len_n l45
  have s46 : (i8_46).1[80]? = some (.inl 8) := sh_n s45
  have c46 : (i8_46).2.2.2.1 = G8.2.2.2.1 + 66 ∧ (i8_46).2.2.2.2 = G8.2.2.2.2 + 34577 := ct_n c45
  have z47 : Zr (i8_47, J) := zr_p z46 l46 (by decide)
  have l47 : (i8_47).1.length = 147 := len_p l46
  have s47 : (i8_47).1[80]? = some (.inl 8) := sh_p s46
  have c47 : (i8_47).2.2.2.1 = G8.2.2.2.1 + 66 ∧ (i8_47).2.2.2.2 = G8.2.2.2.2 + 34577 := ct_p c46
  have z48 : Zr (i8_48, J) := zr_n z47
  have l48 : (i8_48).1.length = 148 := len_n l47
  have s48 : (i8_48).1[80]? = some (.inl 8) := sh_n s47
  have c48 : (i8_48).2.2.2.1 = G8.2.2.2.1 + 67 ∧ (i8_48).2.2.2.2 = G8.2.2.2.2 + 34817 := ct_n c47
  have z49 : Zr (i8_49, J) := zr_p z48 l48 (by decide)
  have l49 : (i8_49).1.length = 148 := len_p l48
  have s49 : (i8_49).1[80]? = some (.inl 8) := sh_p s48
  have c49 : (i8_49).2.2.2.1 = G8.2.2.2.1 + 67 ∧ (i8_49).2.2.2.2 = G8.2.2.2.2 + 34817 := ct_p c48
  have z50 : Zr (i8_50, J) := zr_n z49
  have l50 : (i8_50).1.length = 149 := len_n l49
  have s50 : (i8_50).1[80]? = some (.inl 8) := sh_n s49
  have c50 : (i8_50).2.2.2.1 = G8.2.2.2.1 + 68 ∧ (i8_50).2.2.2.2 = G8.2.2.2.2 + 35057 := ct_n c49
  have z51 : Zr (i8_51, J) := zr_p z50 l50 (by decide)
  have l51 : (i8_51).1.length = 149 := len_p l50
  have s51 : (i8_51).1[80]? = some (.inl 8) := sh_p s50
  have c51 : (i8_51).2.2.2.1 = G8.2.2.2.1 + 68 ∧ (i8_51).2.2.2.2 = G8.2.2.2.2 + 35057 := ct_p c50
  have z52 : Zr (i8_52, J) := zr_n z51
  have l52 : (i8_52).1.length = 150 := len_n l51
  have s52 : (i8_52).1[80]? = some (.inl 8) := sh_n s51
  have c52 : (i8_52).2.2.2.1 = G8.2.2.2.1 + 69 ∧ (i8_52).2.2.2.2 = G8.2.2.2.2 + 75057 := ct_n c51
  have z53 : Zr (i8_53, J) := zr_p z52 l52 (by decide)
  have l53 : (i8_53).1.length = 150 := len_p l52
  have s53 : (i8_53).1[80]? = some (.inl 8) := sh_p s52
  have c53 : (i8_53).2.2.2.1 = G8.2.2.2.1 + 69 ∧ (i8_53).2.2.2.2 = G8.2.2.2.2 + 75057 := ct_p c52
  have z54 : Zr (i8_54, J) := zr_n z53
  have l54 : (i8_54).1.length = 151 := len_n l53
  have s54 : (i8_54).1[80]? = some (.inl 8) := sh_n s53
  have c54 : (i8_54).2.2.2.1 = G8.2.2.2.1 + 70 ∧ (i8_54).2.2.2.2 = G8.2.2.2.2 + 75297 := ct_n c53
  have z55 : Zr (i8_55, J) := zr_p z54 l54 (by decide)
  have l55 : (i8_55).1.length = 151 := len_p l54
  have s55 : (i8_55).1[80]? = some (.inl 8) := sh_p s54
  have c55 : (i8_55).2.2.2.1 = G8.2.2.2.1 + 70 ∧ (i8_55).2.2.2.2 = G8.2.2.2.2 + 75297 := ct_p c54
  have z56 : Zr (i8_56, J) := zr_n z55
  have l56 : (i8_56).1.length = 152 := len_n l55
  have s56 : (i8_56).1[80]? = some (.inl 8) := sh_n s55
  have c56 : (i8_56).2.2.2.1 = G8.2.2.2.1 + 71 ∧ (i8_56).2.2.2.2 = G8.2.2.2.2 + 75537 := ct_n c55
  have z57 : Zr (i8_57, J) := zr_p z56 l56 (by decide)
  have l57 : (i8_57).1.length = 152 := len_p l56
  have s57 : (i8_57).1[80]? = some (.inl 8) := sh_p s56
  have c57 : (i8_57).2.2.2.1 = G8.2.2.2.1 + 71 ∧ (i8_57).2.2.2.2 = G8.2.2.2.2 + 75537 := ct_p c56
  have cE := ct_init8
  refine ⟨L, CT.of (R := (none, (h8, L))) oX8_init (Nat.le_of_ble_eq_true rfl) (cnt0 c0.1 cE.1 (by decide)) (cnt0 c0.2 cE.2 (by decide)) ?_, iv, zl⟩
  show Ev Γ 64 mX8_init 0 [some (.inr (some 80)), none, none] [] (G8, J) (none, (h8, L))
  refine e_aload_n dX8_init_0 rfl ?_
  refine e_obji dX8_init_1 (ob_8) ob_i ob_c (by decide) (by decide) (by decide) ?_
  refine e_aload_n dX8_init_4 rfl ?_
  refine e_sipush dX8_init_5 (by decide) ⟨by decide, by decide⟩ ?_
  refine e_newaG (g := G8) (N := 240) dX8_init_8 rfl ac_byte (by decide) (Or.inl rfl) rfl (by decide) hF hn (by decide) hz (cnt c0.1 cE.1 (by decide)) (cnt c0.2 cE.2 (by decide)) ?_
  refine e_putG (g := i8_1) dX8_init_10 fO_8_9 (by decide +kernel) (by decide) s1 rfl rfl rfl rfl ?_
  refine e_aload_n dX8_init_13 rfl ?_
  refine e_newG (g := i8_2) dX8_init_14 nO_8_13 hF l2 (by decide) z2 (cnt c2.1 cE.1 (by decide)) (cnt c2.2 cE.2 (by decide)) ?_
  refine e_dup dX8_init_17 ?_
  refine e_callc (h := (i8_3, J)) (h2 := (i8_4, J)) (av := []) dX8_init_18 cO_8_15 oX7_init rfl (by decide) rfl (by decide) (by decide) k3 (cnt0 c4.1 cE.1 (by decide)) (cnt0 c4.2 cE.2 (by decide)) rfl ?_
  refine e_putG (g := i8_4) dX8_init_21 fO_8_16 (by decide +kernel) (by decide) s4 rfl rfl rfl rfl ?_
  refine e_aload_n dX8_init_24 rfl ?_
  refine e_newG (g := i8_5) dX8_init_25 nO_8_13 hF l5 (by decide) z5 (cnt c5.1 cE.1 (by decide)) (cnt c5.2 cE.2 (by decide)) ?_
  refine e_dup dX8_init_28 ?_
  refine e_callc (h := (i8_6, J)) (h2 := (i8_7, J)) (av := []) dX8_init_29 cO_8_15 oX7_init rfl (by decide) rfl (by decide) (by decide) k6 (cnt0 c7.1 cE.1 (by decide)) (cnt0 c7.2 cE.2 (by decide)) rfl ?_
  refine e_putG (g := i8_7) dX8_init_32 fO_8_20 (by decide +kernel) (by decide) s7 rfl rfl rfl rfl ?_
  refine e_aload_n dX8_init_35 rfl ?_
  refine e_newG (g := i8_8) dX8_init_36 nO_8_13 hF l8 (by decide) z8 (cnt c8.1 cE.1 (by decide)) (cnt c8.2 cE.2 (by decide)) ?_
  refine e_dup dX8_init_39 ?_
  refine e_callc (h := (i8_9, J)) (h2 := (i8_10, J)) (av := []) dX8_init_40 cO_8_15 oX7_init rfl (by decide) rfl (by decide) (by decide) k9 (cnt0 c10.1 cE.1 (by decide)) (cnt0 c10.2 cE.2 (by decide)) rfl ?_
  refine e_putG (g := i8_10) dX8_init_43 fO_8_23 (by decide +kernel) (by decide) s10 rfl rfl rfl rfl ?_
  refine e_aload_n dX8_init_46 rfl ?_
  refine e_newG (g := i8_11) dX8_init_47 nO_8_13 hF l11 (by decide) z11 (cnt c11.1 cE.1 (by decide)) (cnt c11.2 cE.2 (by decide)) ?_
  refine e_dup dX8_init_50 ?_
  refine e_callc (h := (i8_12, J)) (h2 := (i8_13, J)) (av := []) dX8_init_51 cO_8_15 oX7_init rfl (by decide) rfl (by decide) (by decide) k12 (cnt0 c13.1 cE.1 (by decide)) (cnt0 c13.2 cE.2 (by decide)) rfl ?_
  refine e_putG (g := i8_13) dX8_init_54 fO_8_26 (by decide +kernel) (by decide) s13 rfl rfl rfl rfl ?_
  refine e_aload_n dX8_init_57 rfl ?_
  refine e_newG (g := i8_14) dX8_init_58 nO_8_13 hF l14 (by decide) z14 (cnt c14.1 cE.1 (by decide)) (cnt c14.2 cE.2 (by decide)) ?_
  refine e_dup dX8_init_61 ?_
  refine e_callc (h := (i8_15, J)) (h2 := (i8_16, J)) (av := []) dX8_init_62 cO_8_15 oX7_init rfl (by decide) rfl (by decide) (by decide) k15 (cnt0 c16.1 cE.1 (by decide)) (cnt0 c16.2 cE.2 (by decide)) rfl ?_
  refine e_putG (g := i8_16) dX8_init_65 fO_8_29 (by decide +kernel) (by decide) s16 rfl rfl rfl rfl ?_
  refine e_aload_n dX8_init_68 rfl ?_
  refine e_sipush dX8_init_69 (by decide) ⟨by decide, by decide⟩ ?_
  refine e_newaG (g := i8_17) (N := 2400) dX8_init_72 rfl ac_byte (by decide) (Or.inl rfl) rfl (by decide) hF l17 (by decide) z17 (cnt c17.1 cE.1 (by decide)) (cnt c17.2 cE.2 (by decide)) ?_
  refine e_putG (g := i8_18) dX8_init_74 fO_8_32 (by decide +kernel) (by decide) s18 rfl rfl rfl rfl ?_
  refine e_aload_n dX8_init_77 rfl ?_
  refine e_bipush dX8_init_78 (by decide) ⟨by decide, by decide⟩ ?_
  refine e_newaG (g := i8_19) (N := 10) dX8_init_80 rfl ac_int (by decide) (Or.inl rfl) rfl (by decide) hF l19 (by decide) z19 (cnt c19.1 cE.1 (by decide)) (cnt c19.2 cE.2 (by decide)) ?_
  refine e_putG (g := i8_20) dX8_init_82 fO_8_35 (by decide +kernel) (by decide) s20 rfl rfl rfl rfl ?_
  refine e_aload_n dX8_init_85 rfl ?_
  refine e_sipush dX8_init_86 (by decide) ⟨by decide, by decide⟩ ?_
  refine e_newaG (g := i8_21) (N := 676) dX8_init_89 rfl ac_boolean (by decide) (Or.inl rfl) rfl (by decide) hF l21 (by decide) z21 (cnt c21.1 cE.1 (by decide)) (cnt c21.2 cE.2 (by decide)) ?_
  refine e_putG (g := i8_22) dX8_init_91 fO_8_39 (by decide +kernel) (by decide) s22 rfl rfl rfl rfl ?_
  refine e_aload_n dX8_init_94 rfl ?_
  refine e_bipush dX8_init_95 (by decide) ⟨by decide, by decide⟩ ?_
  refine e_newaG (g := i8_23) (N := 26) dX8_init_97 rfl ac_int (by decide) (Or.inl rfl) rfl (by decide) hF l23 (by decide) z23 (cnt c23.1 cE.1 (by decide)) (cnt c23.2 cE.2 (by decide)) ?_
  refine e_putG (g := i8_24) dX8_init_99 fO_8_43 (by decide +kernel) (by decide) s24 rfl rfl rfl rfl ?_
  refine e_aload_n dX8_init_102 rfl ?_
  refine e_sipush dX8_init_103 (by decide) ⟨by decide, by decide⟩ ?_
  refine e_newaG (g := i8_25) (N := 4000) dX8_init_106 rfl ac_int (by decide) (Or.inl rfl) rfl (by decide) hF l25 (by decide) z25 (cnt c25.1 cE.1 (by decide)) (cnt c25.2 cE.2 (by decide)) ?_
  refine e_putG (g := i8_26) dX8_init_108 fO_8_46 (by decide +kernel) (by decide) s26 rfl rfl rfl rfl ?_
  refine e_aload_n dX8_init_111 rfl ?_
  refine e_sipush dX8_init_112 (by decide) ⟨by decide, by decide⟩ ?_
  refine e_newaG (g := i8_27) (N := 4000) dX8_init_115 rfl ac_int (by decide) (Or.inl rfl) rfl (by decide) hF l27 (by decide) z27 (cnt c27.1 cE.1 (by decide)) (cnt c27.2 cE.2 (by decide)) ?_
  refine e_putG (g := i8_28) dX8_init_117 fO_8_49 (by decide +kernel) (by decide) s28 rfl rfl rfl rfl ?_
  refine e_aload_n dX8_init_120 rfl ?_
  refine e_sipush dX8_init_121 (by decide) ⟨by decide, by decide⟩ ?_
  refine e_newaG (g := i8_29) (N := 4000) dX8_init_124 rfl ac_int (by decide) (Or.inl rfl) rfl (by decide) hF l29 (by decide) z29 (cnt c29.1 cE.1 (by decide)) (cnt c29.2 cE.2 (by decide)) ?_
  refine e_putG (g := i8_30) dX8_init_126 fO_8_52 (by decide +kernel) (by decide) s30 rfl rfl rfl rfl ?_
  refine e_aload_n dX8_init_129 rfl ?_
  refine e_sipush dX8_init_130 (by decide) ⟨by decide, by decide⟩ ?_
  refine e_newaG (g := i8_31) (N := 4000) dX8_init_133 rfl ac_int (by decide) (Or.inl rfl) rfl (by decide) hF l31 (by decide) z31 (cnt c31.1 cE.1 (by decide)) (cnt c31.2 cE.2 (by decide)) ?_
  refine e_putG (g := i8_32) dX8_init_135 fO_8_55 (by decide +kernel) (by decide) s32 rfl rfl rfl rfl ?_
  refine e_aload_n dX8_init_138 rfl ?_
  refine e_sipush dX8_init_139 (by decide) ⟨by decide, by decide⟩ ?_
  refine e_newaG (g := i8_33) (N := 4000) dX8_init_142 rfl ac_int (by decide) (Or.inl rfl) rfl (by decide) hF l33 (by decide) z33 (cnt c33.1 cE.1 (by decide)) (cnt c33.2 cE.2 (by decide)) ?_
  refine e_putG (g := i8_34) dX8_init_144 fO_8_58 (by decide +kernel) (by decide) s34 rfl rfl rfl rfl ?_
  refine e_aload_n dX8_init_147 rfl ?_
  refine e_bipush dX8_init_148 (by decide) ⟨by decide, by decide⟩ ?_
  refine e_newaG (g := i8_35) (N := 26) dX8_init_150 rfl ac_int (by decide) (Or.inl rfl) rfl (by decide) hF l35 (by decide) z35 (cnt c35.1 cE.1 (by decide)) (cnt c35.2 cE.2 (by decide)) ?_
  refine e_putG (g := i8_36) dX8_init_152 fO_8_61 (by decide +kernel) (by decide) s36 rfl rfl rfl rfl ?_
  refine e_aload_n dX8_init_155 rfl ?_
  refine e_bipush dX8_init_156 (by decide) ⟨by decide, by decide⟩ ?_
  refine e_newaG (g := i8_37) (N := 26) dX8_init_158 rfl ac_int (by decide) (Or.inl rfl) rfl (by decide) hF l37 (by decide) z37 (cnt c37.1 cE.1 (by decide)) (cnt c37.2 cE.2 (by decide)) ?_
  refine e_putG (g := i8_38) dX8_init_160 fO_8_64 (by decide +kernel) (by decide) s38 rfl rfl rfl rfl ?_
  refine e_aload_n dX8_init_163 rfl ?_
  refine e_bipush dX8_init_164 (by decide) ⟨by decide, by decide⟩ ?_
  refine e_newaG (g := i8_39) (N := 26) dX8_init_166 rfl ac_int (by decide) (Or.inl rfl) rfl (by decide) hF l39 (by decide) z39 (cnt c39.1 cE.1 (by decide)) (cnt c39.2 cE.2 (by decide)) ?_
  refine e_putG (g := i8_40) dX8_init_168 fO_8_67 (by decide +kernel) (by decide) s40 rfl rfl rfl rfl ?_
  refine e_aload_n dX8_init_171 rfl ?_
  refine e_bipush dX8_init_172 (by decide) ⟨by decide, by decide⟩ ?_
  refine e_newaG (g := i8_41) (N := 26) dX8_init_174 rfl ac_int (by decide) (Or.inl rfl) rfl (by decide) hF l41 (by decide) z41 (cnt c41.1 cE.1 (by decide)) (cnt c41.2 cE.2 (by decide)) ?_
  refine e_putG (g := i8_42) dX8_init_176 fO_8_70 (by decide +kernel) (by decide) s42 rfl rfl rfl rfl ?_
  refine e_aload_n dX8_init_179 rfl ?_
  refine e_bipush dX8_init_180 (by decide) ⟨by decide, by decide⟩ ?_
  refine e_newaG (g := i8_43) (N := 26) dX8_init_182 rfl ac_int (by decide) (Or.inl rfl) rfl (by decide) hF l43 (by decide) z43 (cnt c43.1 cE.1 (by decide)) (cnt c43.2 cE.2 (by decide)) ?_
  refine e_putG (g := i8_44) dX8_init_184 fO_8_73 (by decide +kernel) (by decide) s44 rfl rfl rfl rfl ?_
  refine e_aload_n dX8_init_187 rfl ?_
  refine e_sipush dX8_init_188 (by decide) ⟨by decide, by decide⟩ ?_
  refine e_newaG (g := i8_45) (N := 240) dX8_init_191 rfl ac_boolean (by decide) (Or.inl rfl) rfl (by decide) hF l45 (by decide) z45 (cnt c45.1 cE.1 (by decide)) (cnt c45.2 cE.2 (by decide)) ?_
  refine e_putG (g := i8_46) dX8_init_193 fO_8_76 (by decide +kernel) (by decide) s46 rfl rfl rfl rfl ?_
  refine e_aload_n dX8_init_196 rfl ?_
  refine e_sipush dX8_init_197 (by decide) ⟨by decide, by decide⟩ ?_
  refine e_newaG (g := i8_47) (N := 240) dX8_init_200 rfl ac_boolean (by decide) (Or.inl rfl) rfl (by decide) hF l47 (by decide) z47 (cnt c47.1 cE.1 (by decide)) (cnt c47.2 cE.2 (by decide)) ?_
  refine e_putG (g := i8_48) dX8_init_202 fO_8_79 (by decide +kernel) (by decide) s48 rfl rfl rfl rfl ?_
  refine e_aload_n dX8_init_205 rfl ?_
  refine e_sipush dX8_init_206 (by decide) ⟨by decide, by decide⟩ ?_
  refine e_newaG (g := i8_49) (N := 240) dX8_init_209 rfl ac_int (by decide) (Or.inl rfl) rfl (by decide) hF l49 (by decide) z49 (cnt c49.1 cE.1 (by decide)) (cnt c49.2 cE.2 (by decide)) ?_
  refine e_putG (g := i8_50) dX8_init_211 fO_8_82 (by decide +kernel) (by decide) s50 rfl rfl rfl rfl ?_
  refine e_aload_n dX8_init_214 rfl ?_
  refine e_ldc85 ?_
  refine e_newaG (g := i8_51) (N := 40000) dX8_init_217 rfl ac_byte (by decide) (Or.inl rfl) rfl (by decide) hF l51 (by decide) z51 (cnt c51.1 cE.1 (by decide)) (cnt c51.2 cE.2 (by decide)) ?_
  refine e_putG (g := i8_52) dX8_init_219 fO_8_86 (by decide +kernel) (by decide) s52 rfl rfl rfl rfl ?_
  refine e_aload_n dX8_init_222 rfl ?_
  refine e_sipush dX8_init_223 (by decide) ⟨by decide, by decide⟩ ?_
  refine e_newaG (g := i8_53) (N := 240) dX8_init_226 rfl ac_boolean (by decide) (Or.inl rfl) rfl (by decide) hF l53 (by decide) z53 (cnt c53.1 cE.1 (by decide)) (cnt c53.2 cE.2 (by decide)) ?_
  refine e_putG (g := i8_54) dX8_init_228 fO_8_89 (by decide +kernel) (by decide) s54 rfl rfl rfl rfl ?_
  refine e_aload_n dX8_init_231 rfl ?_
  refine e_sipush dX8_init_232 (by decide) ⟨by decide, by decide⟩ ?_
  refine e_newaG (g := i8_55) (N := 240) dX8_init_235 rfl ac_boolean (by decide) (Or.inl rfl) rfl (by decide) hF l55 (by decide) z55 (cnt c55.1 cE.1 (by decide)) (cnt c55.2 cE.2 (by decide)) ?_
  refine e_putG (g := i8_56) dX8_init_237 fO_8_92 (by decide +kernel) (by decide) s56 rfl rfl rfl rfl ?_
  refine e_iconst dX8_init_240 ⟨by decide, by decide⟩ ?_
  refine e_istore_n dX8_init_241 (by decide) (ls' := [some (.inr (some 80)), some (.inl 0), none]) rfl ?_
  exact tl
end IN8
