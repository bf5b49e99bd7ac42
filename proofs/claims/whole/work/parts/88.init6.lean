/-! ===== the class is made (its walk is written by tools/gen88.py) ===== -/
def GL0 : AG := ([.inr (.int, 0)], fun _ _ => none, fun _ _ => 0, 0, 0)
def G6 : AG := nG GL0 (.inl 6) 11
def I0 : IF := fun _ _ => 0
def i6_1  : AG := nG G6 (.inr (.int, 260)) 260
def i6_2  : AG := pG i6_1 1 0 (2)
def i6_3  : AG := nG i6_2 (.inl 5) 13
def i6_4  : AG := i5 i6_3 3 (4)
def i6_5  : AG := pG i6_4 1 2 (3)
def i6_6  : AG := nG i6_5 (.inl 5) 13
def i6_7  : AG := i5 i6_6 15 (16)
def i6_8  : AG := pG i6_7 1 3 (15)
def i6_9  : AG := nG i6_8 (.inl 5) 13
def i6_10  : AG := i5 i6_9 27 (28)
def i6_11  : AG := pG i6_10 1 4 (27)
def i6_12  : AG := nG i6_11 (.inl 5) 13
def i6_13  : AG := i5 i6_12 39 (40)
def i6_14  : AG := pG i6_13 1 5 (39)
def i6_15  : AG := nG i6_14 (.inl 4) 8
def i6_16  : AG := i4 i6_15 51 (52)
def i6_17  : AG := pG i6_16 1 6 (51)
def i6_18  : AG := nG i6_17 (.inl 1) 16
def i6_19  : AG := i1 i6_18 52 (53) 3 15
def i6_20  : AG := pG i6_19 1 7 (52)
def i6_21  : AG := nG i6_20 (.inl 0) 5
def i6_22  : AG := i0 i6_21 61 (62) 3 52
def i6_23  : AG := pG i6_22 1 8 (61)
def i6_24  : AG := nG i6_23 (.inl 3) 4
def i6_25  : AG := i3 i6_24 64 (65) 3 27 52
def i6_26  : AG := pG i6_25 1 9 (64)
def i6_27  : AG := nG i6_26 (.inl 2) 4
def i6_28  : AG := i2 i6_27 66 (67)
def i6_29  : AG := pG i6_28 1 10 (66)
def i6  : AG := i6_29
abbrev I1 : IF := mset I0 2 0 97
/-- the byte 'a', laid -/
def Ka : IF := fun a _ => if a = 39 then 1 else 97
section IN6
variable {Γ : GX} {I J R A : IF} {w : Int}
set_option maxRecDepth 100000 in
theorem ka_0 : (RR (kStart 0 Ka)).1 = -1 ∧ (RR (kStart 1 Ka)).1 = -1 ∧ (RR (kStart 2 Ka)).1 = -1 := by decide +kernel
set_option maxRecDepth 100000 in
theorem ka_1 : ((RR (kStart 0 Ka)).2 39 1 = 1 ∧ (RR (kStart 0 Ka)).2 39 2 = 1) ∧ ((RR (kStart 1 Ka)).2 39 1 = 1 ∧ (RR (kStart 1 Ka)).2 39 2 = 1) ∧ ((RR (kStart 2 Ka)).2 39 1 = 1 ∧ (RR (kStart 2 Ka)).2 39 2 = 1) := by decide +kernel
set_option maxRecDepth 100000 in
theorem ka_2 : ∀ i : Nat, i < 10 → (RR (kStart 0 Ka)).2 (39 + i) 0 = (RR (kStart 1 Ka)).2 (39 + i) 0 ∧ (RR (kStart 0 Ka)).2 (39 + i) 0 = (RR (kStart 2 Ka)).2 (39 + i) 0 := by decide +kernel
set_option maxRecDepth 100000 in
theorem ka_3 : ∀ l : Nat, l < 26 → (RR (kStart 0 Ka)).2 49 l = (RR (kStart 1 Ka)).2 49 l ∧ (RR (kStart 0 Ka)).2 49 l = (RR (kStart 2 Ka)).2 49 l := by decide +kernel
/-- the tree of 'a' -/
def XA : IF := tv 39 (RR (kStart 0 Ka)).2
theorem rd_0 : RdOk 0 XA := ⟨Ka, Or.inl rfl, ⟨by decide, by decide⟩, fun j _ => ⟨by show (0 : Int) ≤ 97; decide, by show (97 : Int) ≤ 255; decide⟩, ka_0.1, TAg.rf⟩
theorem ka_ag {Z : IF} (h1 : Z 39 1 = 1 ∧ Z 39 2 = 1) (h2 : ∀ i : Nat, i < 10 → (RR (kStart 0 Ka)).2 (39 + i) 0 = Z (39 + i) 0) (h3 : ∀ l : Nat, l < 26 → (RR (kStart 0 Ka)).2 49 l = Z 49 l) : TAg (tv 39 Z) XA := by
  have e1 : (tv 39 Z) 0 1 = 1 := h1.1
  have e2 : (tv 39 Z) 0 2 = 1 := h1.2
  refine ⟨?_, ?_, fun j hj => ?_, fun i p hi1 hi2 hp => ?_, fun l hl => h3 l hl⟩
  · rw [e1]; exact ka_1.1.1
  · rw [e2]; exact ka_1.1.2
  · rw [e1] at hj
    have : j = 0 := by omega
    rw [this]
    exact h2 1 (by decide)
  · rw [e2] at hp
    have : p = 0 := by omega
    rw [this]
    exact h2 i (by omega)
theorem rd_1 : RdOk 1 XA := ⟨Ka, Or.inr (Or.inl rfl), ⟨by decide, by decide⟩, fun j _ => ⟨by show (0 : Int) ≤ 97; decide, by show (97 : Int) ≤ 255; decide⟩, ka_0.2.1, ka_ag ka_1.2.1 (fun i hi => (ka_2 i hi).1) (fun l hl => (ka_3 l hl).1)⟩
theorem rd_2 : RdOk 2 XA := ⟨Ka, Or.inr (Or.inr rfl), ⟨by decide, by decide⟩, fun j _ => ⟨by show (0 : Int) ≤ 97; decide, by show (97 : Int) ≤ 255; decide⟩, ka_0.2.2, ka_ag ka_1.2.2 (fun i hi => (ka_2 i hi).2) (fun l hl => (ka_3 l hl).2)⟩
theorem xa_l : XA 0 1 = 1 := ka_1.1.1
theorem xa_b : XA 1 0 = 97 := by
  have h := rd_0.again (K := Ka) xa_l.symm (fun j hj => by rw [xa_l] at hj; rw [show j = 0 by omega]; show (97 : Int) = _; exact (show (RR (kStart 0 Ka)).2 40 0 = 97 by decide +kernel).symm)
  exact (show (RR (kStart 0 Ka)).2 40 0 = 97 by decide +kernel)
/-- the same cells, the same tree -/
theorem tag_eq {t : Nat} (h : ∀ i k : Nat, i ≤ 10 → J (t + i) k = I (t + i) k) : TAg (tv t I) (tv t J) := ⟨h 0 1 (by omega), h 0 2 (by omega), fun j _ => h 1 j (by omega), fun i p _ hi _ => h i p (by omega), fun l _ => h 10 l (by omega)⟩
set_option maxRecDepth 100000 in
theorem g6_s : ∀ a : Nat, a < 80 → i6.1[a]? = S0[a]? := by decide +kernel
set_option maxRecDepth 100000 in
theorem g6_p : ∀ x ∈ PL.take 85, i6.2.1 x.1 x.2.1 = some x.2.2 := by decide +kernel
theorem g6_ok : GOc i6 := ⟨g6_s, g6_p⟩
theorem g6_l : i6.1.length = 80 := by decide +kernel
/-- what holds of the class, made -/
def Made (J : IF) : Prop := CIn J ∧ (TAg XA (ct 3 J) ∧ TAg XA (ct 15 J) ∧ TAg XA (ct 27 J)) ∧ (∀ k : Nat, J 58 k = 0) ∧ J 52 15 = 0 ∧ (J 1 1 = 0) ∧ ∀ a k : Nat, 65 < a → J a k = 0
set_option maxHeartbeats 1000000 in
theorem c_tail6 : ∃ J : IF, Ev Γ 5 mX6_init 148 [some (.inr (some 1))] [] (i6, I1) (none, (i6, J)) ∧ Made J := by
  have hg := g6_ok
  have ld := c_load (Γ := Γ) (I := I1) (t := 39) hg tr39 (b := 2) (nb := 260) (by decide) (gs_2 hg) (by decide) (x := 1) (by decide)
  have y1 : ldN I1 39 2 (1 : Int).toNat 39 1 = 1 := ldN_1
  have y2 : ldN I1 39 2 (1 : Int).toNat 40 0 = 97 := (ldN_n (t := 39) (b := 2) (j := 0) (by decide) (by decide)).trans (mset_s _ _ _ _)
  have yf : ∀ a k : Nat, (a < 39 ∨ 51 < a) → ldN I1 39 2 (1 : Int).toNat a k = I1 a k := fun a k z => ldN_f (by omega) (by omega)
  generalize ldN I1 39 2 (1 : Int).toNat = Y at ld y1 y2 yf
  have rt := c_readTree' (Γ := Γ) (I := Y) (w := 0) hg (by rw [y1]; decide) (fun j hj => by
    rw [y1] at hj
    rw [show j = 0 by omega, y2]
    decide)
  obtain ⟨ag1, ag2⟩ := rd_0.again (K := Y) (by rw [y1, xa_l]) (fun j hj => by
    rw [xa_l] at hj
    rw [show j = 0 by omega, y2, xa_b])
  rw [ag1] at rt
  have rf : ∀ a k : Nat, (a < 39 ∨ 51 < a) → (RR (kStart 0 Y)).2 a k = I1 a k := fun a k z => (RR_f z).trans (yf a k z)
  generalize (RR (kStart 0 Y)).2 = R at rt ag2 rf
  obtain ⟨A0, a1, a2, a3, a4, a5⟩ := c_adopt0 (Γ := Γ) (I := R) hg (rd_0.tok.cg ag2)
  have t0 : TAg (tv 39 R) (tv 39 A0) := tag_eq (fun i k hi => a2 _ _ (by omega) (by omega))
  obtain ⟨A1, b1, b2, b3, b4, b5⟩ := c_adopt1 (Γ := Γ) (I := A0) hg (rd_1.tok.cg (ag2.tr t0))
  have t1 : TAg (tv 39 A0) (tv 39 A1) := tag_eq (fun i k hi => b2 _ _ (by omega) (by omega) (by omega))
  obtain ⟨A2, c1, c2, c3⟩ := c_adopt2 (Γ := Γ) (I := A1) hg (rd_2.tok.cg ((ag2.tr t0).tr t1))
  have tg0 : TAg XA (ct 3 A0) := ag2.tr a3
  have tg1 : TAg XA (ct 15 A1) := (ag2.tr t0).tr b3
  have tg2 : TAg XA (ct 27 A2) := ((ag2.tr t0).tr t1).tr c3
  have e3 : ct 3 A2 = ct 3 A0 := ct_eq (t := 3) (fun i k hi => (c2 _ _ (by omega)).trans (b2 _ _ (by omega) (by omega) (by omega)))
  have e15 : ct 15 A2 = ct 15 A1 := ct_eq (t := 15) (fun i k hi => c2 _ _ (by omega))
  have z58 : ∀ k : Nat, A2 58 k = 0 := fun k => by
    rw [c2 58 k (by omega), b2 58 k (by omega) (by omega) (by omega), a2 58 k (by omega) (by omega), rf 58 k (by omega)]
    exact mset_a _ _ (by decide)
  have z15 : A2 52 15 = 0 := by rw [c2 52 15 (by omega)]; exact b5
  have z1 : A2 1 1 = 0 := by
    rw [c2 1 1 (by omega), b2 1 1 (by omega) (by omega) (by omega), a2 1 1 (by omega) (by omega), rf 1 1 (by omega)]
    exact mset_a _ _ (by decide)
  have zz : ∀ a k : Nat, 65 < a → A2 a k = 0 := fun a k z => by
    rw [c2 a k (by omega), b2 a k (by omega) (by omega) (by omega), a2 a k (by omega) (by omega), rf a k (by omega)]
    exact mset_a _ _ (by omega)
  refine ⟨A2, ?_, ⟨⟨?_, ?_, ?_, ?_, ?_, ?_, ?_, ?_⟩, ⟨?_, ?_⟩, ?_, fun z => absurd z15 z⟩, ⟨by rw [e3]; exact tg0, by rw [e15]; exact tg1, tg2⟩, z58, z15, z1, zz⟩
  · refine e_aload_n dX6_init_148 rfl ?_
    refine e_getr dX6_init_149 fO_6_26 (by decide) (gs_1 hg) rfl (gp_1_5 hg) ?_
    refine e_aload_n dX6_init_152 rfl ?_
    refine e_getr dX6_init_153 fO_6_9 (by decide) (gs_1 hg) rfl (gp_1_0 hg) ?_
    refine e_iconst dX6_init_156 ⟨by decide, by decide⟩ ?_
    refine e_callv (av := [.inr (some 2), .inl 1]) (st := []) dX6_init_157 cO_6_70 oX5_load rfl (by decide) (gs_39 hg) rfl (by decide) (by decide) ld (Nat.le_refl _) (Nat.le_refl _) rfl rfl ?_
    refine e_aload_n dX6_init_160 rfl ?_
    refine e_getr dX6_init_161 fO_6_32 (by decide) (gs_1 hg) rfl (gp_1_6 hg) ?_
    refine e_aload_n dX6_init_164 rfl ?_
    refine e_getr dX6_init_165 fO_6_26 (by decide) (gs_1 hg) rfl (gp_1_5 hg) ?_
    refine e_iconst dX6_init_168 ⟨by decide, by decide⟩ ?_
    refine e_callv (av := [.inr (some 39), .inl 0]) (st := []) dX6_init_169 cO_6_74 oX4_readTree rfl (by decide) (gs_51 hg) rfl (by decide) (by decide) rt (Nat.le_refl _) (Nat.le_refl _) rfl rfl ?_
    refine e_pop dX6_init_172 ?_
    refine e_aload_n dX6_init_173 rfl ?_
    refine e_iconst dX6_init_174 ⟨by decide, by decide⟩ ?_
    refine e_callv (av := [.inl 0]) (st := []) dX6_init_175 cO_6_78 oX6_adoptSpare rfl (by decide) (gs_1 hg) rfl (by decide) (by decide) a1 (Nat.le_refl _) (Nat.le_refl _) rfl rfl ?_
    refine e_aload_n dX6_init_178 rfl ?_
    refine e_iconst dX6_init_179 ⟨by decide, by decide⟩ ?_
    refine e_callv (av := [.inl 1]) (st := []) dX6_init_180 cO_6_78 oX6_adoptSpare rfl (by decide) (gs_1 hg) rfl (by decide) (by decide) b1 (Nat.le_refl _) (Nat.le_refl _) rfl rfl ?_
    refine e_aload_n dX6_init_183 rfl ?_
    refine e_iconst dX6_init_184 ⟨by decide, by decide⟩ ?_
    refine e_callv (av := [.inl 2]) (st := []) dX6_init_185 cO_6_78 oX6_adoptSpare rfl (by decide) (gs_1 hg) rfl (by decide) (by decide) c1 (Nat.le_refl _) (Nat.le_refl _) rfl rfl ?_
    exact e_vret dX6_init_188 rfl rfl
  · show TOK 0 (ct 3 A2)
    rw [e3]
    exact rd_0.tok.cg tg0
  · show TOK 1 (ct 15 A2)
    rw [e15]
    exact rd_1.tok.cg tg1
  · show SmO (ct 3 A2) 0
    rw [e3]
    exact a4
  · intro p hp
    rw [c2 15 2 (by omega)] at hp
    rw [c2 57 p (by omega), show zP A2 = zP A1 from e15]
    exact b4.1 p hp
  · rw [show zP A2 = zP A1 from e15, c2 52 7 (by omega)]
    exact b4.2.1
  · rw [show zP A2 = zP A1 from e15, c2 52 8 (by omega)]
    exact b4.2.2
  · exact ⟨fun l => zDf_0 (fun k _ => z58 k) l l, fun l o z => absurd z (zDf_0 (fun k _ => z58 k) l o)⟩
  · rw [c2 15 1 (by omega)]
    have : A1 15 1 = XA 0 1 := tg1.1
    rw [this, xa_l]
    decide
  · exact rd_2.tok.cg tg2
  · have : A2 27 1 = XA 0 1 := tg2.1
    rw [this, xa_l]
    decide
  · rw [e3]
    exact rd_0.cg tg0
theorem z_init6 : Zr (i6, I1) := by
  have hz : Zr (G6, I0) := fun a _ k => ⟨rfl, rfl, rfl⟩
  have hn : G6.1.length = 2 := rfl
  have z1 : Zr (i6_1, I0) := zr_n hz
  have l1 : (i6_1).1.length = 3 := len_n hn
  have z2 : Zr (i6_2, I0) := zr_p z1 l1 (by decide)
  have l2 : (i6_2).1.length = 3 := len_p l1
  have zi : Zr (i6_2, (mset I0 2 0 97)) := zr_i z2 l2 (by decide)
  have z3 : Zr (i6_3, (mset I0 2 0 97)) := zr_n zi
  have l3 : (i6_3).1.length = 4 := len_n l2
  have z4 : Zr (i6_4, (mset I0 2 0 97)) := z_init5 z3 l3 (by decide)
  have l4 : (i6_4).1.length = 15 := l_init5 l3
  have z5 : Zr (i6_5, (mset I0 2 0 97)) := zr_p z4 l4 (by decide)
  have l5 : (i6_5).1.length = 15 := len_p l4
  have z6 : Zr (i6_6, (mset I0 2 0 97)) := zr_n z5
  have l6 : (i6_6).1.length = 16 := len_n l5
  have z7 : Zr (i6_7, (mset I0 2 0 97)) := z_init5 z6 l6 (by decide)
  have l7 : (i6_7).1.length = 27 := l_init5 l6
  have z8 : Zr (i6_8, (mset I0 2 0 97)) := zr_p z7 l7 (by decide)
  have l8 : (i6_8).1.length = 27 := len_p l7
  have z9 : Zr (i6_9, (mset I0 2 0 97)) := zr_n z8
  have l9 : (i6_9).1.length = 28 := len_n l8
  have z10 : Zr (i6_10, (mset I0 2 0 97)) := z_init5 z9 l9 (by decide)
  have l10 : (i6_10).1.length = 39 := l_init5 l9
  have z11 : Zr (i6_11, (mset I0 2 0 97)) := zr_p z10 l10 (by decide)
  have l11 : (i6_11).1.length = 39 := len_p l10
  have z12 : Zr (i6_12, (mset I0 2 0 97)) := zr_n z11
  have l12 : (i6_12).1.length = 40 := len_n l11
  have z13 : Zr (i6_13, (mset I0 2 0 97)) := z_init5 z12 l12 (by decide)
  have l13 : (i6_13).1.length = 51 := l_init5 l12
  have z14 : Zr (i6_14, (mset I0 2 0 97)) := zr_p z13 l13 (by decide)
  have l14 : (i6_14).1.length = 51 := len_p l13
  have z15 : Zr (i6_15, (mset I0 2 0 97)) := zr_n z14
  have l15 : (i6_15).1.length = 52 := len_n l14
  have z16 : Zr (i6_16, (mset I0 2 0 97)) := z_init4 z15 l15 (by decide)
  have l16 : (i6_16).1.length = 52 := l_init4 (I := I0) l15
  have z17 : Zr (i6_17, (mset I0 2 0 97)) := zr_p z16 l16 (by decide)
  have l17 : (i6_17).1.length = 52 := len_p l16
  have z18 : Zr (i6_18, (mset I0 2 0 97)) := zr_n z17
  have l18 : (i6_18).1.length = 53 := len_n l17
  have z19 : Zr (i6_19, (mset I0 2 0 97)) := z_init1 z18 l18 (by decide)
  have l19 : (i6_19).1.length = 61 := l_init1 l18
  have z20 : Zr (i6_20, (mset I0 2 0 97)) := zr_p z19 l19 (by decide)
  have l20 : (i6_20).1.length = 61 := len_p l19
  have z21 : Zr (i6_21, (mset I0 2 0 97)) := zr_n z20
  have l21 : (i6_21).1.length = 62 := len_n l20
  have z22 : Zr (i6_22, (mset I0 2 0 97)) := z_init0 z21 l21 (by decide)
  have l22 : (i6_22).1.length = 64 := l_init0 l21
  have z23 : Zr (i6_23, (mset I0 2 0 97)) := zr_p z22 l22 (by decide)
  have l23 : (i6_23).1.length = 64 := len_p l22
  have z24 : Zr (i6_24, (mset I0 2 0 97)) := zr_n z23
  have l24 : (i6_24).1.length = 65 := len_n l23
  have z25 : Zr (i6_25, (mset I0 2 0 97)) := z_init3 z24 l24 (by decide)
  have l25 : (i6_25).1.length = 66 := l_init3 l24
  have z26 : Zr (i6_26, (mset I0 2 0 97)) := zr_p z25 l25 (by decide)
  have l26 : (i6_26).1.length = 66 := len_p l25
  have z27 : Zr (i6_27, (mset I0 2 0 97)) := zr_n z26
  have l27 : (i6_27).1.length = 67 := len_n l26
  have z28 : Zr (i6_28, (mset I0 2 0 97)) := z_init2 z27 l27 (by decide)
  have l28 : (i6_28).1.length = 80 := l_init2 l27
  have z29 : Zr (i6_29, (mset I0 2 0 97)) := zr_p z28 l28 (by decide)
  have l29 : (i6_29).1.length = 80 := len_p l28
  exact z29
theorem ct_init6 : i6.2.2.2.1 = G6.2.2.2.1 + 78 ∧ i6.2.2.2.2 = G6.2.2.2.2 + 9581 := by
  have c0 : G6.2.2.2.1 = G6.2.2.2.1 + 0 ∧ G6.2.2.2.2 = G6.2.2.2.2 + 0 := ⟨rfl, rfl⟩
  have c1 : (i6_1).2.2.2.1 = G6.2.2.2.1 + 1 ∧ (i6_1).2.2.2.2 = G6.2.2.2.2 + 260 := ct_n c0
  have c2 : (i6_2).2.2.2.1 = G6.2.2.2.1 + 1 ∧ (i6_2).2.2.2.2 = G6.2.2.2.2 + 260 := ct_p c1
  have c3 : (i6_3).2.2.2.1 = G6.2.2.2.1 + 2 ∧ (i6_3).2.2.2.2 = G6.2.2.2.2 + 273 := ct_n c2
  have c4 : (i6_4).2.2.2.1 = G6.2.2.2.1 + 13 ∧ (i6_4).2.2.2.2 = G6.2.2.2.2 + 1619 := ct_init5 c3
  have c5 : (i6_5).2.2.2.1 = G6.2.2.2.1 + 13 ∧ (i6_5).2.2.2.2 = G6.2.2.2.2 + 1619 := ct_p c4
  have c6 : (i6_6).2.2.2.1 = G6.2.2.2.1 + 14 ∧ (i6_6).2.2.2.2 = G6.2.2.2.2 + 1632 := ct_n c5
  have c7 : (i6_7).2.2.2.1 = G6.2.2.2.1 + 25 ∧ (i6_7).2.2.2.2 = G6.2.2.2.2 + 2978 := ct_init5 c6
  have c8 : (i6_8).2.2.2.1 = G6.2.2.2.1 + 25 ∧ (i6_8).2.2.2.2 = G6.2.2.2.2 + 2978 := ct_p c7
  have c9 : (i6_9).2.2.2.1 = G6.2.2.2.1 + 26 ∧ (i6_9).2.2.2.2 = G6.2.2.2.2 + 2991 := ct_n c8
  have c10 : (i6_10).2.2.2.1 = G6.2.2.2.1 + 37 ∧ (i6_10).2.2.2.2 = G6.2.2.2.2 + 4337 := ct_init5 c9
  have c11 : (i6_11).2.2.2.1 = G6.2.2.2.1 + 37 ∧ (i6_11).2.2.2.2 = G6.2.2.2.2 + 4337 := ct_p c10
  have c12 : (i6_12).2.2.2.1 = G6.2.2.2.1 + 38 ∧ (i6_12).2.2.2.2 = G6.2.2.2.2 + 4350 := ct_n c11
  have c13 : (i6_13).2.2.2.1 = G6.2.2.2.1 + 49 ∧ (i6_13).2.2.2.2 = G6.2.2.2.2 + 5696 := ct_init5 c12
  have c14 : (i6_14).2.2.2.1 = G6.2.2.2.1 + 49 ∧ (i6_14).2.2.2.2 = G6.2.2.2.2 + 5696 := ct_p c13
  have c15 : (i6_15).2.2.2.1 = G6.2.2.2.1 + 50 ∧ (i6_15).2.2.2.2 = G6.2.2.2.2 + 5704 := ct_n c14
  have c16 : (i6_16).2.2.2.1 = G6.2.2.2.1 + 50 ∧ (i6_16).2.2.2.2 = G6.2.2.2.2 + 5704 := ct_init4 c15
  have c17 : (i6_17).2.2.2.1 = G6.2.2.2.1 + 50 ∧ (i6_17).2.2.2.2 = G6.2.2.2.2 + 5704 := ct_p c16
  have c18 : (i6_18).2.2.2.1 = G6.2.2.2.1 + 51 ∧ (i6_18).2.2.2.2 = G6.2.2.2.2 + 5720 := ct_n c17
  have c19 : (i6_19).2.2.2.1 = G6.2.2.2.1 + 59 ∧ (i6_19).2.2.2.2 = G6.2.2.2.2 + 6586 := ct_init1 c18
  have c20 : (i6_20).2.2.2.1 = G6.2.2.2.1 + 59 ∧ (i6_20).2.2.2.2 = G6.2.2.2.2 + 6586 := ct_p c19
  have c21 : (i6_21).2.2.2.1 = G6.2.2.2.1 + 60 ∧ (i6_21).2.2.2.2 = G6.2.2.2.2 + 6591 := ct_n c20
  have c22 : (i6_22).2.2.2.1 = G6.2.2.2.1 + 62 ∧ (i6_22).2.2.2.2 = G6.2.2.2.2 + 6831 := ct_init0 c21
  have c23 : (i6_23).2.2.2.1 = G6.2.2.2.1 + 62 ∧ (i6_23).2.2.2.2 = G6.2.2.2.2 + 6831 := ct_p c22
  have c24 : (i6_24).2.2.2.1 = G6.2.2.2.1 + 63 ∧ (i6_24).2.2.2.2 = G6.2.2.2.2 + 6835 := ct_n c23
  have c25 : (i6_25).2.2.2.1 = G6.2.2.2.1 + 64 ∧ (i6_25).2.2.2.2 = G6.2.2.2.2 + 6915 := ct_init3 c24
  have c26 : (i6_26).2.2.2.1 = G6.2.2.2.1 + 64 ∧ (i6_26).2.2.2.2 = G6.2.2.2.2 + 6915 := ct_p c25
  have c27 : (i6_27).2.2.2.1 = G6.2.2.2.1 + 65 ∧ (i6_27).2.2.2.2 = G6.2.2.2.2 + 6919 := ct_n c26
  have c28 : (i6_28).2.2.2.1 = G6.2.2.2.1 + 78 ∧ (i6_28).2.2.2.2 = G6.2.2.2.2 + 9581 := ct_init2 c27
  have c29 : (i6_29).2.2.2.1 = G6.2.2.2.1 + 78 ∧ (i6_29).2.2.2.2 = G6.2.2.2.2 + 9581 := ct_p c28
  exact c29
set_option maxRecDepth 100000 in
set_option maxHeartbeats 4000000 in
/-- THE CLASS'S CONSTRUCTOR -/
theorem c_init6 (hF : gF Γ = true) : ∃ J : IF, CT Γ 5 mX6_init [.inr (some 1)] (G6, I0) (none, (i6, J)) ∧ Made J := by
  obtain ⟨J, tl, mj⟩ := c_tail6 (Γ := Γ)
  have hz : Zr (G6, I0) := fun a _ k => ⟨rfl, rfl, rfl⟩
  have hn : G6.1.length = 2 := rfl
  have hs : G6.1[1]? = some (.inl 6) := rfl
  have c0 : G6.2.2.2.1 = G6.2.2.2.1 + 0 ∧ G6.2.2.2.2 = G6.2.2.2.2 + 0 := ⟨rfl, rfl⟩
  have z1 : Zr (i6_1, I0) := zr_n hz
  have l1 : (i6_1).1.length = 3 := len_n hn
  have s1 : (i6_1).1[1]? = some (.inl 6) := sh_n hs
  have c1 : (i6_1).2.2.2.1 = G6.2.2.2.1 + 1 ∧ (i6_1).2.2.2.2 = G6.2.2.2.2 + 260 := ct_n c0
  have z2 : Zr (i6_2, I0) := zr_p z1 l1 (by decide)
  have l2 : (i6_2).1.length = 3 := len_p l1
  have s2 : (i6_2).1[1]? = some (.inl 6) := sh_p s1
  have c2 : (i6_2).2.2.2.1 = G6.2.2.2.1 + 1 ∧ (i6_2).2.2.2.2 = G6.2.2.2.2 + 260 := ct_p c1
  have zi : Zr (i6_2, (mset I0 2 0 97)) := zr_i z2 l2 (by decide)
  have z3 : Zr (i6_3, (mset I0 2 0 97)) := zr_n zi
  have l3 : (i6_3).1.length = 4 := len_n l2
  have s3 : (i6_3).1[1]? = some (.inl 6) := sh_n s2
  have c3 : (i6_3).2.2.2.1 = G6.2.2.2.1 + 2 ∧ (i6_3).2.2.2.2 = G6.2.2.2.2 + 273 := ct_n c2
  have t3 : (i6_3).1[3]? = some (.inl 5) := sh_l l2
  have k3 := c_init5 (Γ := Γ) (g := i6_3) (I := (mset I0 2 0 97)) (a := 3) (n := 4) hF z3 l3 (by decide) (by decide) t3
  have z4 : Zr (i6_4, (mset I0 2 0 97)) := z_init5 z3 l3 (by decide)
  have l4 : (i6_4).1.length = 15 := l_init5 l3
  have s4 : (i6_4).1[1]? = some (.inl 6) := s_init5 s3
  have c4 : (i6_4).2.2.2.1 = G6.2.2.2.1 + 13 ∧ (i6_4).2.2.2.2 = G6.2.2.2.2 + 1619 := ct_init5 c3
  have z5 : Zr (i6_5, (mset I0 2 0 97)) := zr_p z4 l4 (by decide)
  have l5 : (i6_5).1.length = 15 := len_p l4
  have s5 : (i6_5).1[1]? = some (.inl 6) := sh_p s4
  have c5 : (i6_5).2.2.2.1 = G6.2.2.2.1 + 13 ∧ (i6_5).2.2.2.2 = G6.2.2.2.2 + 1619 := ct_p c4
  have z6 : Zr (i6_6, (mset I0 2 0 97)) := zr_n z5
  have l6 : (i6_6).1.length = 16 := len_n l5
  have s6 : (i6_6).1[1]? = some (.inl 6) := sh_n s5
  have c6 : (i6_6).2.2.2.1 = G6.2.2.2.1 + 14 ∧ (i6_6).2.2.2.2 = G6.2.2.2.2 + 1632 := ct_n c5
  have t6 : (i6_6).1[15]? = some (.inl 5) := sh_l l5
  have k6 := c_init5 (Γ := Γ) (g := i6_6) (I := (mset I0 2 0 97)) (a := 15) (n := 16) hF z6 l6 (by decide) (by decide) t6
  have z7 : Zr (i6_7, (mset I0 2 0 97)) := z_init5 z6 l6 (by decide)
  have l7 : (i6_7).1.length = 27 := l_init5 l6
  have s7 : (i6_7).1[1]? = some (.inl 6) := s_init5 s6
  have c7 : (i6_7).2.2.2.1 = G6.2.2.2.1 + 25 ∧ (i6_7).2.2.2.2 = G6.2.2.2.2 + 2978 := ct_init5 c6
  have z8 : Zr (i6_8, (mset I0 2 0 97)) := zr_p z7 l7 (by decide)
  have l8 : (i6_8).1.length = 27 := len_p l7
  have s8 : (i6_8).1[1]? = some (.inl 6) := sh_p s7
  have c8 : (i6_8).2.2.2.1 = G6.2.2.2.1 + 25 ∧ (i6_8).2.2.2.2 = G6.2.2.2.2 + 2978 := ct_p c7
  have z9 : Zr (i6_9, (mset I0 2 0 97)) := zr_n z8
  have l9 : (i6_9).1.length = 28 := len_n l8
  have s9 : (i6_9).1[1]? = some (.inl 6) := sh_n s8
  have c9 : (i6_9).2.2.2.1 = G6.2.2.2.1 + 26 ∧ (i6_9).2.2.2.2 = G6.2.2.2.2 + 2991 := ct_n c8
  have t9 : (i6_9).1[27]? = some (.inl 5) := sh_l l8
  have k9 := c_init5 (Γ := Γ) (g := i6_9) (I := (mset I0 2 0 97)) (a := 27) (n := 28) hF z9 l9 (by decide) (by decide) t9
  have z10 : Zr (i6_10, (mset I0 2 0 97)) := z_init5 z9 l9 (by decide)
  have l10 : (i6_10).1.length = 39 := l_init5 l9
  have s10 : (i6_10).1[1]? = some (.inl 6) := s_init5 s9
  have c10 : (i6_10).2.2.2.1 = G6.2.2.2.1 + 37 ∧ (i6_10).2.2.2.2 = G6.2.2.2.2 + 4337 := ct_init5 c9
  have z11 : Zr (i6_11, (mset I0 2 0 97)) := zr_p z10 l10 (by decide)
  have l11 : (i6_11).1.length = 39 := len_p l10
  have s11 : (i6_11).1[1]? = some (.inl 6) := sh_p s10
  have c11 : (i6_11).2.2.2.1 = G6.2.2.2.1 + 37 ∧ (i6_11).2.2.2.2 = G6.2.2.2.2 + 4337 := ct_p c10
  have z12 : Zr (i6_12, (mset I0 2 0 97)) := zr_n z11
  have l12 : (i6_12).1.length = 40 := len_n l11
  have s12 : (i6_12).1[1]? = some (.inl 6) := sh_n s11
  have c12 : (i6_12).2.2.2.1 = G6.2.2.2.1 + 38 ∧ (i6_12).2.2.2.2 = G6.2.2.2.2 + 4350 := ct_n c11
  have t12 : (i6_12).1[39]? = some (.inl 5) := sh_l l11
  have k12 := c_init5 (Γ := Γ) (g := i6_12) (I := (mset I0 2 0 97)) (a := 39) (n := 40) hF z12 l12 (by decide) (by decide) t12
  have z13 : Zr (i6_13, (mset I0 2 0 97)) := z_init5 z12 l12 (by decide)
  have l13 : (i6_13).1.length = 51 := l_init5 l12
  have s13 : (i6_13).1[1]? = some (.inl 6) := s_init5 s12
  have c13 : (i6_13).2.2.2.1 = G6.2.2.2.1 + 49 ∧ (i6_13).2.2.2.2 = G6.2.2.2.2 + 5696 := ct_init5 c12
  have z14 : Zr (i6_14, (mset I0 2 0 97)) := zr_p z13 l13 (by decide)
  have l14 : (i6_14).1.length = 51 := len_p l13
  have s14 : (i6_14).1[1]? = some (.inl 6) := sh_p s13
  have c14 : (i6_14).2.2.2.1 = G6.2.2.2.1 + 49 ∧ (i6_14).2.2.2.2 = G6.2.2.2.2 + 5696 := ct_p c13
  have z15 : Zr (i6_15, (mset I0 2 0 97)) := zr_n z14
  have l15 : (i6_15).1.length = 52 := len_n l14
  have s15 : (i6_15).1[1]? = some (.inl 6) := sh_n s14
  have c15 : (i6_15).2.2.2.1 = G6.2.2.2.1 + 50 ∧ (i6_15).2.2.2.2 = G6.2.2.2.2 + 5704 := ct_n c14
  have t15 : (i6_15).1[51]? = some (.inl 4) := sh_l l14
  have k15 := c_init4 (Γ := Γ) (g := i6_15) (I := (mset I0 2 0 97)) (a := 51) (n := 52) hF z15 l15 (by decide) (by decide) t15
  have z16 : Zr (i6_16, (mset I0 2 0 97)) := z_init4 z15 l15 (by decide)
  have l16 : (i6_16).1.length = 52 := l_init4 (I := I0) l15
  have s16 : (i6_16).1[1]? = some (.inl 6) := s_init4 s15
  have c16 : (i6_16).2.2.2.1 = G6.2.2.2.1 + 50 ∧ (i6_16).2.2.2.2 = G6.2.2.2.2 + 5704 := ct_init4 c15
  have z17 : Zr (i6_17, (mset I0 2 0 97)) := zr_p z16 l16 (by decide)
  have l17 : (i6_17).1.length = 52 := len_p l16
  have s17 : (i6_17).1[1]? = some (.inl 6) := sh_p s16
  have c17 : (i6_17).2.2.2.1 = G6.2.2.2.1 + 50 ∧ (i6_17).2.2.2.2 = G6.2.2.2.2 + 5704 := ct_p c16
  have z18 : Zr (i6_18, (mset I0 2 0 97)) := zr_n z17
  have l18 : (i6_18).1.length = 53 := len_n l17
  have s18 : (i6_18).1[1]? = some (.inl 6) := sh_n s17
  have c18 : (i6_18).2.2.2.1 = G6.2.2.2.1 + 51 ∧ (i6_18).2.2.2.2 = G6.2.2.2.2 + 5720 := ct_n c17
  have t18 : (i6_18).1[52]? = some (.inl 1) := sh_l l17
  have k18 := c_init1 (Γ := Γ) (g := i6_18) (I := (mset I0 2 0 97)) (a := 52) (n := 53) (b1 := 3) (b2 := 15) hF z18 l18 (by decide) (by decide) t18
  have z19 : Zr (i6_19, (mset I0 2 0 97)) := z_init1 z18 l18 (by decide)
  have l19 : (i6_19).1.length = 61 := l_init1 l18
  have s19 : (i6_19).1[1]? = some (.inl 6) := s_init1 s18
  have c19 : (i6_19).2.2.2.1 = G6.2.2.2.1 + 59 ∧ (i6_19).2.2.2.2 = G6.2.2.2.2 + 6586 := ct_init1 c18
  have z20 : Zr (i6_20, (mset I0 2 0 97)) := zr_p z19 l19 (by decide)
  have l20 : (i6_20).1.length = 61 := len_p l19
  have s20 : (i6_20).1[1]? = some (.inl 6) := sh_p s19
  have c20 : (i6_20).2.2.2.1 = G6.2.2.2.1 + 59 ∧ (i6_20).2.2.2.2 = G6.2.2.2.2 + 6586 := ct_p c19
  have z21 : Zr (i6_21, (mset I0 2 0 97)) := zr_n z20
  have l21 : (i6_21).1.length = 62 := len_n l20
  have s21 : (i6_21).1[1]? = some (.inl 6) := sh_n s20
  have c21 : (i6_21).2.2.2.1 = G6.2.2.2.1 + 60 ∧ (i6_21).2.2.2.2 = G6.2.2.2.2 + 6591 := ct_n c20
  have t21 : (i6_21).1[61]? = some (.inl 0) := sh_l l20
  have k21 := c_init0 (Γ := Γ) (g := i6_21) (I := (mset I0 2 0 97)) (a := 61) (n := 62) (b1 := 3) (b2 := 52) hF z21 l21 (by decide) (by decide) t21
  have z22 : Zr (i6_22, (mset I0 2 0 97)) := z_init0 z21 l21 (by decide)
  have l22 : (i6_22).1.length = 64 := l_init0 l21
  have s22 : (i6_22).1[1]? = some (.inl 6) := s_init0 s21
  have c22 : (i6_22).2.2.2.1 = G6.2.2.2.1 + 62 ∧ (i6_22).2.2.2.2 = G6.2.2.2.2 + 6831 := ct_init0 c21
  have z23 : Zr (i6_23, (mset I0 2 0 97)) := zr_p z22 l22 (by decide)
  have l23 : (i6_23).1.length = 64 := len_p l22
  have s23 : (i6_23).1[1]? = some (.inl 6) := sh_p s22
  have c23 : (i6_23).2.2.2.1 = G6.2.2.2.1 + 62 ∧ (i6_23).2.2.2.2 = G6.2.2.2.2 + 6831 := ct_p c22
  have z24 : Zr (i6_24, (mset I0 2 0 97)) := zr_n z23
  have l24 : (i6_24).1.length = 65 := len_n l23
  have s24 : (i6_24).1[1]? = some (.inl 6) := sh_n s23
  have c24 : (i6_24).2.2.2.1 = G6.2.2.2.1 + 63 ∧ (i6_24).2.2.2.2 = G6.2.2.2.2 + 6835 := ct_n c23
  have t24 : (i6_24).1[64]? = some (.inl 3) := sh_l l23
  have k24 := c_init3 (Γ := Γ) (g := i6_24) (I := (mset I0 2 0 97)) (a := 64) (n := 65) (b1 := 3) (b2 := 27) (b3 := 52) hF z24 l24 (by decide) (by decide) t24
  have z25 : Zr (i6_25, (mset I0 2 0 97)) := z_init3 z24 l24 (by decide)
  have l25 : (i6_25).1.length = 66 := l_init3 l24
  have s25 : (i6_25).1[1]? = some (.inl 6) := s_init3 s24
  have c25 : (i6_25).2.2.2.1 = G6.2.2.2.1 + 64 ∧ (i6_25).2.2.2.2 = G6.2.2.2.2 + 6915 := ct_init3 c24
  have z26 : Zr (i6_26, (mset I0 2 0 97)) := zr_p z25 l25 (by decide)
  have l26 : (i6_26).1.length = 66 := len_p l25
  have s26 : (i6_26).1[1]? = some (.inl 6) := sh_p s25
  have c26 : (i6_26).2.2.2.1 = G6.2.2.2.1 + 64 ∧ (i6_26).2.2.2.2 = G6.2.2.2.2 + 6915 := ct_p c25
  have z27 : Zr (i6_27, (mset I0 2 0 97)) := zr_n z26
  have l27 : (i6_27).1.length = 67 := len_n l26
  have s27 : (i6_27).1[1]? = some (.inl 6) := sh_n s26
  have c27 : (i6_27).2.2.2.1 = G6.2.2.2.1 + 65 ∧ (i6_27).2.2.2.2 = G6.2.2.2.2 + 6919 := ct_n c26
  have t27 : (i6_27).1[66]? = some (.inl 2) := sh_l l26
  have k27 := c_init2 (Γ := Γ) (g := i6_27) (I := (mset I0 2 0 97)) (a := 66) (n := 67) hF z27 l27 (by decide) (by decide) t27
  have z28 : Zr (i6_28, (mset I0 2 0 97)) := z_init2 z27 l27 (by decide)
  have l28 : (i6_28).1.length = 80 := l_init2 l27
  have s28 : (i6_28).1[1]? = some (.inl 6) := s_init2 s27
  have c28 : (i6_28).2.2.2.1 = G6.2.2.2.1 + 78 ∧ (i6_28).2.2.2.2 = G6.2.2.2.2 + 9581 := ct_init2 c27
  have z29 : Zr (i6_29, (mset I0 2 0 97)) := zr_p z28 l28 (by decide)
  have l29 : (i6_29).1.length = 80 := len_p l28
  have s29 : (i6_29).1[1]? = some (.inl 6) := sh_p s28
  have c29 : (i6_29).2.2.2.1 = G6.2.2.2.1 + 78 ∧ (i6_29).2.2.2.2 = G6.2.2.2.2 + 9581 := ct_p c28
  have cE := ct_init6
  refine ⟨J, CT.of (R := (none, (i6, J))) oX6_init (Nat.le_of_ble_eq_true rfl) (cnt0 c0.1 cE.1 (by decide)) (cnt0 c0.2 cE.2 (by decide)) ?_, mj⟩
  show Ev Γ 5 mX6_init 0 [some (.inr (some 1))] [] (G6, I0) (none, (i6, J))
  refine e_aload_n dX6_init_0 rfl ?_
  refine e_obji dX6_init_1 (ob_6) ob_i ob_c (by decide) (by decide) (by decide) ?_
  refine e_aload_n dX6_init_4 rfl ?_
  refine e_sipush dX6_init_5 (by decide) ⟨by decide, by decide⟩ ?_
  refine e_newaG (g := G6) (N := 260) dX6_init_8 rfl ac_int (by decide) (Or.inl rfl) rfl (by decide) hF hn (by decide) hz (cnt c0.1 cE.1 (by decide)) (cnt c0.2 cE.2 (by decide)) ?_
  refine e_putG (g := i6_1) dX6_init_10 fO_6_9 (by decide +kernel) (by decide) s1 rfl rfl rfl rfl ?_
  refine e_aload_n dX6_init_13 rfl ?_
  refine e_getr (h := (i6_2, I0)) (b := 2) dX6_init_14 fO_6_9 (by decide) s2 rfl (by decide +kernel : i6_2.2.1 1 0 = some 2) ?_
  refine e_iconst dX6_init_17 ⟨by decide, by decide⟩ ?_
  refine e_bipush dX6_init_18 (by decide) ⟨by decide, by decide⟩ ?_
  refine e_iast (h := (i6_2, I0)) (n := 260) dX6_init_20 (by decide) (by decide +kernel : i6_2.1[2]? = some (.inr (.int, 260))) (by decide) (by decide) ?_
  refine e_aload_n dX6_init_21 rfl ?_
  refine e_newG (g := i6_2) dX6_init_22 nO_6_13 hF l2 (by decide) zi (cnt c2.1 cE.1 (by decide)) (cnt c2.2 cE.2 (by decide)) ?_
  refine e_dup dX6_init_25 ?_
  refine e_callc (h := (i6_3, (mset I0 2 0 97))) (h2 := (i6_4, (mset I0 2 0 97))) (av := []) dX6_init_26 cO_6_15 oX5_init rfl (by decide) rfl (by decide) (by decide) k3 (cnt0 c4.1 cE.1 (by decide)) (cnt0 c4.2 cE.2 (by decide)) rfl ?_
  refine e_putG (g := i6_4) dX6_init_29 fO_6_16 (by decide +kernel) (by decide) s4 rfl rfl rfl rfl ?_
  refine e_aload_n dX6_init_32 rfl ?_
  refine e_newG (g := i6_5) dX6_init_33 nO_6_13 hF l5 (by decide) z5 (cnt c5.1 cE.1 (by decide)) (cnt c5.2 cE.2 (by decide)) ?_
  refine e_dup dX6_init_36 ?_
  refine e_callc (h := (i6_6, (mset I0 2 0 97))) (h2 := (i6_7, (mset I0 2 0 97))) (av := []) dX6_init_37 cO_6_15 oX5_init rfl (by decide) rfl (by decide) (by decide) k6 (cnt0 c7.1 cE.1 (by decide)) (cnt0 c7.2 cE.2 (by decide)) rfl ?_
  refine e_putG (g := i6_7) dX6_init_40 fO_6_20 (by decide +kernel) (by decide) s7 rfl rfl rfl rfl ?_
  refine e_aload_n dX6_init_43 rfl ?_
  refine e_newG (g := i6_8) dX6_init_44 nO_6_13 hF l8 (by decide) z8 (cnt c8.1 cE.1 (by decide)) (cnt c8.2 cE.2 (by decide)) ?_
  refine e_dup dX6_init_47 ?_
  refine e_callc (h := (i6_9, (mset I0 2 0 97))) (h2 := (i6_10, (mset I0 2 0 97))) (av := []) dX6_init_48 cO_6_15 oX5_init rfl (by decide) rfl (by decide) (by decide) k9 (cnt0 c10.1 cE.1 (by decide)) (cnt0 c10.2 cE.2 (by decide)) rfl ?_
  refine e_putG (g := i6_10) dX6_init_51 fO_6_23 (by decide +kernel) (by decide) s10 rfl rfl rfl rfl ?_
  refine e_aload_n dX6_init_54 rfl ?_
  refine e_newG (g := i6_11) dX6_init_55 nO_6_13 hF l11 (by decide) z11 (cnt c11.1 cE.1 (by decide)) (cnt c11.2 cE.2 (by decide)) ?_
  refine e_dup dX6_init_58 ?_
  refine e_callc (h := (i6_12, (mset I0 2 0 97))) (h2 := (i6_13, (mset I0 2 0 97))) (av := []) dX6_init_59 cO_6_15 oX5_init rfl (by decide) rfl (by decide) (by decide) k12 (cnt0 c13.1 cE.1 (by decide)) (cnt0 c13.2 cE.2 (by decide)) rfl ?_
  refine e_putG (g := i6_13) dX6_init_62 fO_6_26 (by decide +kernel) (by decide) s13 rfl rfl rfl rfl ?_
  refine e_aload_n dX6_init_65 rfl ?_
  refine e_newG (g := i6_14) dX6_init_66 nO_6_29 hF l14 (by decide) z14 (cnt c14.1 cE.1 (by decide)) (cnt c14.2 cE.2 (by decide)) ?_
  refine e_dup dX6_init_69 ?_
  refine e_callc (h := (i6_15, (mset I0 2 0 97))) (h2 := (i6_16, (mset I0 2 0 97))) (av := []) dX6_init_70 cO_6_31 oX4_init rfl (by decide) rfl (by decide) (by decide) k15 (cnt0 c16.1 cE.1 (by decide)) (cnt0 c16.2 cE.2 (by decide)) rfl ?_
  refine e_putG (g := i6_16) dX6_init_73 fO_6_32 (by decide +kernel) (by decide) s16 rfl rfl rfl rfl ?_
  refine e_aload_n dX6_init_76 rfl ?_
  refine e_newG (g := i6_17) dX6_init_77 nO_6_36 hF l17 (by decide) z17 (cnt c17.1 cE.1 (by decide)) (cnt c17.2 cE.2 (by decide)) ?_
  refine e_dup dX6_init_80 ?_
  refine e_aload_n dX6_init_81 rfl ?_
  refine e_getr (h := (i6_18, (mset I0 2 0 97))) (b := 3) dX6_init_82 fO_6_16 (by decide) s18 rfl (by decide +kernel : i6_18.2.1 1 2 = some 3) ?_
  refine e_aload_n dX6_init_85 rfl ?_
  refine e_getr (h := (i6_18, (mset I0 2 0 97))) (b := 15) dX6_init_86 fO_6_20 (by decide) s18 rfl (by decide +kernel : i6_18.2.1 1 3 = some 15) ?_
  refine e_callc (h := (i6_18, (mset I0 2 0 97))) (h2 := (i6_19, (mset I0 2 0 97))) (av := [.inr (some 3), .inr (some 15)]) dX6_init_89 cO_6_38 oX1_init rfl (by decide) rfl (by decide) (by decide) k18 (cnt0 c19.1 cE.1 (by decide)) (cnt0 c19.2 cE.2 (by decide)) rfl ?_
  refine e_putG (g := i6_19) dX6_init_92 fO_6_41 (by decide +kernel) (by decide) s19 rfl rfl rfl rfl ?_
  refine e_aload_n dX6_init_95 rfl ?_
  refine e_newG (g := i6_20) dX6_init_96 nO_6_45 hF l20 (by decide) z20 (cnt c20.1 cE.1 (by decide)) (cnt c20.2 cE.2 (by decide)) ?_
  refine e_dup dX6_init_99 ?_
  refine e_aload_n dX6_init_100 rfl ?_
  refine e_getr (h := (i6_21, (mset I0 2 0 97))) (b := 3) dX6_init_101 fO_6_16 (by decide) s21 rfl (by decide +kernel : i6_21.2.1 1 2 = some 3) ?_
  refine e_aload_n dX6_init_104 rfl ?_
  refine e_getr (h := (i6_21, (mset I0 2 0 97))) (b := 52) dX6_init_105 fO_6_41 (by decide) s21 rfl (by decide +kernel : i6_21.2.1 1 7 = some 52) ?_
  refine e_callc (h := (i6_21, (mset I0 2 0 97))) (h2 := (i6_22, (mset I0 2 0 97))) (av := [.inr (some 3), .inr (some 52)]) dX6_init_108 cO_6_47 oX0_init rfl (by decide) rfl (by decide) (by decide) k21 (cnt0 c22.1 cE.1 (by decide)) (cnt0 c22.2 cE.2 (by decide)) rfl ?_
  refine e_putG (g := i6_22) dX6_init_111 fO_6_50 (by decide +kernel) (by decide) s22 rfl rfl rfl rfl ?_
  refine e_aload_n dX6_init_114 rfl ?_
  refine e_newG (g := i6_23) dX6_init_115 nO_6_54 hF l23 (by decide) z23 (cnt c23.1 cE.1 (by decide)) (cnt c23.2 cE.2 (by decide)) ?_
  refine e_dup dX6_init_118 ?_
  refine e_aload_n dX6_init_119 rfl ?_
  refine e_getr (h := (i6_24, (mset I0 2 0 97))) (b := 3) dX6_init_120 fO_6_16 (by decide) s24 rfl (by decide +kernel : i6_24.2.1 1 2 = some 3) ?_
  refine e_aload_n dX6_init_123 rfl ?_
  refine e_getr (h := (i6_24, (mset I0 2 0 97))) (b := 27) dX6_init_124 fO_6_23 (by decide) s24 rfl (by decide +kernel : i6_24.2.1 1 4 = some 27) ?_
  refine e_aload_n dX6_init_127 rfl ?_
  refine e_getr (h := (i6_24, (mset I0 2 0 97))) (b := 52) dX6_init_128 fO_6_41 (by decide) s24 rfl (by decide +kernel : i6_24.2.1 1 7 = some 52) ?_
  refine e_callc (h := (i6_24, (mset I0 2 0 97))) (h2 := (i6_25, (mset I0 2 0 97))) (av := [.inr (some 3), .inr (some 27), .inr (some 52)]) dX6_init_131 cO_6_56 oX3_init rfl (by decide) rfl (by decide) (by decide) k24 (cnt0 c25.1 cE.1 (by decide)) (cnt0 c25.2 cE.2 (by decide)) rfl ?_
  refine e_putG (g := i6_25) dX6_init_134 fO_6_59 (by decide +kernel) (by decide) s25 rfl rfl rfl rfl ?_
  refine e_aload_n dX6_init_137 rfl ?_
  refine e_newG (g := i6_26) dX6_init_138 nO_6_63 hF l26 (by decide) z26 (cnt c26.1 cE.1 (by decide)) (cnt c26.2 cE.2 (by decide)) ?_
  refine e_dup dX6_init_141 ?_
  refine e_callc (h := (i6_27, (mset I0 2 0 97))) (h2 := (i6_28, (mset I0 2 0 97))) (av := []) dX6_init_142 cO_6_65 oX2_init rfl (by decide) rfl (by decide) (by decide) k27 (cnt0 c28.1 cE.1 (by decide)) (cnt0 c28.2 cE.2 (by decide)) rfl ?_
  refine e_putG (g := i6_28) dX6_init_145 fO_6_66 (by decide +kernel) (by decide) s28 rfl rfl rfl rfl ?_
  exact tl
end IN6
