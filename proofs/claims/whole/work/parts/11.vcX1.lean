set_option maxRecDepth 100000 in
set_option maxHeartbeats 4000000 in
theorem v_X1_forgetMatched_0 {Γ : GX} {g : AG} {I J : Nat → Nat → Int} {r : Option AV} (hg : GOc g) 
    (V : ∀ I1 : Nat → Nat → Int, I1 = mset I 52 15 0 → (r = none ∧ J = I1)) : Ev Γ 0 mX1_forgetMatched 0 [some (.inr (some 52))] [] (g, I) (r, (g, J)) := by
  refine e_aload_n dX1_forgetMatched_0 rfl ?_
  refine e_iconst dX1_forgetMatched_1 ⟨by decide, by decide⟩ ?_
  refine e_putz dX1_forgetMatched_2 fO_1_44 (by decide) (gs_52 hg) rfl rfl (by decide) ?_
  refine e_mem (fun I1 eI1 => ?_)
  have WI1 := V I1 eI1
  exact e_vret dX1_forgetMatched_5 rfl (by rw [WI1.1, WI1.2])
set_option maxRecDepth 100000 in
set_option maxHeartbeats 4000000 in
theorem v_X1_forgetDifferences_0 {Γ : GX} {g : AG} {I J : Nat → Nat → Int} {r : Option AV} (hg : GOc g) 
    (V : Ev Γ 0 mX1_forgetDifferences 2 [some (.inr (some 52)), some (.inl 0)] [] (g, I) (r, (g, J))) : Ev Γ 0 mX1_forgetDifferences 0 [some (.inr (some 52)), none] [] (g, I) (r, (g, J)) := by
  refine e_iconst dX1_forgetDifferences_0 ⟨by decide, by decide⟩ ?_
  refine e_istore_n dX1_forgetDifferences_1 (by decide) (ls' := [some (.inr (some 52)), some (.inl 0)]) rfl ?_
  exact V
set_option maxRecDepth 100000 in
set_option maxHeartbeats 4000000 in
theorem v_X1_forgetDifferences_2 {Γ : GX} {g : AG} {I J : Nat → Nat → Int} {r : Option AV} (hg : GOc g) (x1 : Int)
    (V : (((26 ≤ x1)) → (∀ I2 : Nat → Nat → Int, I2 = mset I 52 15 0 → (r = none ∧ J = I2))) ∧ ((¬ (26 ≤ x1)) → (((0 : Int) ≤ x1 ∧ (x1 : Int) < 26) ∧ (∀ I3 : Nat → Nat → Int, I3 = mset I 58 x1.toNat 0 → (inR (x1 + 1) ∧ (Ev Γ 0 mX1_forgetDifferences 2 [some (.inr (some 52)), some (.inl (x1 + 1))] [] (g, I3) (r, (g, J)))))))) : Ev Γ 0 mX1_forgetDifferences 2 [some (.inr (some 52)), some (.inl x1)] [] (g, I) (r, (g, J)) := by
  refine e_iload_n dX1_forgetDifferences_2 rfl ?_
  refine e_bipush dX1_forgetDifferences_3 (by decide) ⟨by decide, by decide⟩ ?_
  refine e_ic_ge (tgt := 21) dX1_forgetDifferences_5 (by decide) (fun c1 => ?_) (fun c1 => ?_)
  · have Ac1 := V.1 c1
    refine e_aload_n dX1_forgetDifferences_21 rfl ?_
    refine e_iconst dX1_forgetDifferences_22 ⟨by decide, by decide⟩ ?_
    refine e_putz dX1_forgetDifferences_23 fO_1_44 (by decide) (gs_52 hg) rfl rfl (by decide) ?_
    refine e_mem (fun I2 eI2 => ?_)
    have WI2 := Ac1 I2 eI2
    exact e_vret dX1_forgetDifferences_26 rfl (by rw [WI2.1, WI2.2])
  · have Bc1 := V.2 c1
    refine e_aload_n dX1_forgetDifferences_8 rfl ?_
    refine e_getr dX1_forgetDifferences_9 fO_1_27 (by decide) (gs_52 hg) rfl (gp_52_11 hg) ?_
    refine e_iload_n dX1_forgetDifferences_12 rfl ?_
    refine e_iconst dX1_forgetDifferences_13 ⟨by decide, by decide⟩ ?_
    obtain ⟨h4, Vh4⟩ := Bc1
    refine e_iast dX1_forgetDifferences_14 (by decide) (gs_58 hg) h4.1 h4.2 ?_
    refine e_mem (fun I3 eI3 => ?_)
    have WI3 := Vh4 I3 eI3
    obtain ⟨h5, Vh5⟩ := WI3
    refine e_iinc dX1_forgetDifferences_15 (by decide) rfl h5 (ls' := [some (.inr (some 52)), some (.inl (x1 + 1))]) rfl ?_
    refine e_goto (tgt := 2) dX1_forgetDifferences_18 (by decide) ?_
    exact Vh5
set_option maxRecDepth 100000 in
set_option maxHeartbeats 4000000 in
theorem v_X1_mustDiffer_0 {Γ : GX} {g : AG} {I J : Nat → Nat → Int} {r : Option AV} (hg : GOc g) (x1 : Int) (x2 : Int)
    (V : ((0 : Int) ≤ x1 ∧ (x1 : Int) < 26) ∧ (((¬ ((bAnd (bShr (I 58 x1.toNat) x2) 1) = 1)) → (r = some (.inl 0) ∧ J = I)) ∧ ((((bAnd (bShr (I 58 x1.toNat) x2) 1) = 1)) → (r = some (.inl 1) ∧ J = I)))) : Ev Γ 0 mX1_mustDiffer 0 [some (.inr (some 52)), some (.inl x1), some (.inl x2)] [] (g, I) (r, (g, J)) := by
  refine e_aload_n dX1_mustDiffer_0 rfl ?_
  refine e_getr dX1_mustDiffer_1 fO_1_27 (by decide) (gs_52 hg) rfl (gp_52_11 hg) ?_
  refine e_iload_n dX1_mustDiffer_4 rfl ?_
  obtain ⟨h1, Vh1⟩ := V
  refine e_iald dX1_mustDiffer_5 (by decide) (gs_58 hg) h1.1 h1.2 ?_
  refine e_iload_n dX1_mustDiffer_6 rfl ?_
  refine e_ishr dX1_mustDiffer_7 ?_
  refine e_iconst dX1_mustDiffer_8 ⟨by decide, by decide⟩ ?_
  refine e_iand dX1_mustDiffer_9 ?_
  refine e_iconst dX1_mustDiffer_10 ⟨by decide, by decide⟩ ?_
  refine e_ic_ne (tgt := 18) dX1_mustDiffer_11 (by decide) (fun c2 => ?_) (fun c2 => ?_)
  · have Ac2 := Vh1.1 c2
    refine e_iconst dX1_mustDiffer_18 ⟨by decide, by decide⟩ ?_
    exact e_zret dX1_mustDiffer_19 rfl (by decide) (by rw [Ac2.1, Ac2.2])
  · have Bc2 := Vh1.2 c2
    refine e_iconst dX1_mustDiffer_14 ⟨by decide, by decide⟩ ?_
    refine e_goto (tgt := 19) dX1_mustDiffer_15 (by decide) ?_
    exact e_zret dX1_mustDiffer_19 rfl (by decide) (by rw [Bc2.1, Bc2.2])
set_option maxRecDepth 100000 in
set_option maxHeartbeats 4000000 in
theorem v_X1_setDiffer_0 {Γ : GX} {g : AG} {I J : Nat → Nat → Int} {r : Option AV} (hg : GOc g) (x1 : Int) (x2 : Int) (x3 : Int)
    (V : ∀ y1 : Int, y1 = (bShl 1 x2) → (∀ y2 : Int, y2 = (bShl 1 x1) → ((((x3 = 0)) → (((0 : Int) ≤ x1 ∧ (x1 : Int) < 26) ∧ (((0 : Int) ≤ x1 ∧ (x1 : Int) < 26) ∧ (∀ I5 : Nat → Nat → Int, I5 = mset I 58 x1.toNat (bAnd (I 58 x1.toNat) (bXor y1 (-1))) → ((((x3 = 0)) → (((0 : Int) ≤ x2 ∧ (x2 : Int) < 26) ∧ (((0 : Int) ≤ x2 ∧ (x2 : Int) < 26) ∧ (∀ I9 : Nat → Nat → Int, I9 = mset I5 58 x2.toNat (bAnd (I5 58 x2.toNat) (bXor y2 (-1))) → (∀ I11 : Nat → Nat → Int, I11 = mset I9 52 15 0 → (r = none ∧ J = I11)))))) ∧ ((¬ (x3 = 0)) → (((0 : Int) ≤ x2 ∧ (x2 : Int) < 26) ∧ (((0 : Int) ≤ x2 ∧ (x2 : Int) < 26) ∧ (∀ I13 : Nat → Nat → Int, I13 = mset I5 58 x2.toNat (bOr (I5 58 x2.toNat) y2) → (∀ I15 : Nat → Nat → Int, I15 = mset I13 52 15 0 → (r = none ∧ J = I15))))))))))) ∧ ((¬ (x3 = 0)) → (((0 : Int) ≤ x1 ∧ (x1 : Int) < 26) ∧ (((0 : Int) ≤ x1 ∧ (x1 : Int) < 26) ∧ (∀ I17 : Nat → Nat → Int, I17 = mset I 58 x1.toNat (bOr (I 58 x1.toNat) y1) → ((((x3 = 0)) → (((0 : Int) ≤ x2 ∧ (x2 : Int) < 26) ∧ (((0 : Int) ≤ x2 ∧ (x2 : Int) < 26) ∧ (∀ I21 : Nat → Nat → Int, I21 = mset I17 58 x2.toNat (bAnd (I17 58 x2.toNat) (bXor y2 (-1))) → (∀ I23 : Nat → Nat → Int, I23 = mset I21 52 15 0 → (r = none ∧ J = I23)))))) ∧ ((¬ (x3 = 0)) → (((0 : Int) ≤ x2 ∧ (x2 : Int) < 26) ∧ (((0 : Int) ≤ x2 ∧ (x2 : Int) < 26) ∧ (∀ I25 : Nat → Nat → Int, I25 = mset I17 58 x2.toNat (bOr (I17 58 x2.toNat) y2) → (∀ I27 : Nat → Nat → Int, I27 = mset I25 52 15 0 → (r = none ∧ J = I27)))))))))))))) : Ev Γ 0 mX1_setDiffer 0 [some (.inr (some 52)), some (.inl x1), some (.inl x2), some (.inl x3), none, none] [] (g, I) (r, (g, J)) := by
  refine e_iconst dX1_setDiffer_0 ⟨by decide, by decide⟩ ?_
  refine e_iload_n dX1_setDiffer_1 rfl ?_
  refine e_ishl dX1_setDiffer_2 ?_
  refine e_top (fun y1 ey1 => ?_)
  have Wy1 := V y1 ey1
  refine e_istore dX1_setDiffer_3 (by decide) (ls' := [some (.inr (some 52)), some (.inl x1), some (.inl x2), some (.inl x3), some (.inl y1), none]) rfl ?_
  refine e_iconst dX1_setDiffer_5 ⟨by decide, by decide⟩ ?_
  refine e_iload_n dX1_setDiffer_6 rfl ?_
  refine e_ishl dX1_setDiffer_7 ?_
  refine e_top (fun y2 ey2 => ?_)
  have Wy2 := Wy1 y2 ey2
  refine e_istore dX1_setDiffer_8 (by decide) (ls' := [some (.inr (some 52)), some (.inl x1), some (.inl x2), some (.inl x3), some (.inl y1), some (.inl y2)]) rfl ?_
  refine e_aload_n dX1_setDiffer_10 rfl ?_
  refine e_getr dX1_setDiffer_11 fO_1_27 (by decide) (gs_52 hg) rfl (gp_52_11 hg) ?_
  refine e_iload_n dX1_setDiffer_14 rfl ?_
  refine e_iload_n dX1_setDiffer_15 rfl ?_
  refine e_if_eq (tgt := 31) dX1_setDiffer_16 (by decide) (fun c3 => ?_) (fun c3 => ?_)
  · have Ac3 := Wy2.1 c3
    refine e_aload_n dX1_setDiffer_31 rfl ?_
    refine e_getr dX1_setDiffer_32 fO_1_27 (by decide) (gs_52 hg) rfl (gp_52_11 hg) ?_
    refine e_iload_n dX1_setDiffer_35 rfl ?_
    obtain ⟨h4, Vh4⟩ := Ac3
    refine e_iald dX1_setDiffer_36 (by decide) (gs_58 hg) h4.1 h4.2 ?_
    refine e_iload dX1_setDiffer_37 rfl ?_
    refine e_iconst dX1_setDiffer_39 ⟨by decide, by decide⟩ ?_
    refine e_ixor dX1_setDiffer_40 ?_
    refine e_iand dX1_setDiffer_41 ?_
    obtain ⟨h6, Vh6⟩ := Vh4
    refine e_iast dX1_setDiffer_42 (by decide) (gs_58 hg) h6.1 h6.2 ?_
    refine e_mem (fun I5 eI5 => ?_)
    have WI5 := Vh6 I5 eI5
    refine e_aload_n dX1_setDiffer_43 rfl ?_
    refine e_getr dX1_setDiffer_44 fO_1_27 (by decide) (gs_52 hg) rfl (gp_52_11 hg) ?_
    refine e_iload_n dX1_setDiffer_47 rfl ?_
    refine e_iload_n dX1_setDiffer_48 rfl ?_
    refine e_if_eq (tgt := 64) dX1_setDiffer_49 (by decide) (fun c7 => ?_) (fun c7 => ?_)
    · have Ac7 := WI5.1 c7
      refine e_aload_n dX1_setDiffer_64 rfl ?_
      refine e_getr dX1_setDiffer_65 fO_1_27 (by decide) (gs_52 hg) rfl (gp_52_11 hg) ?_
      refine e_iload_n dX1_setDiffer_68 rfl ?_
      obtain ⟨h8, Vh8⟩ := Ac7
      refine e_iald dX1_setDiffer_69 (by decide) (gs_58 hg) h8.1 h8.2 ?_
      refine e_iload dX1_setDiffer_70 rfl ?_
      refine e_iconst dX1_setDiffer_72 ⟨by decide, by decide⟩ ?_
      refine e_ixor dX1_setDiffer_73 ?_
      refine e_iand dX1_setDiffer_74 ?_
      obtain ⟨h10, Vh10⟩ := Vh8
      refine e_iast dX1_setDiffer_75 (by decide) (gs_58 hg) h10.1 h10.2 ?_
      refine e_mem (fun I9 eI9 => ?_)
      have WI9 := Vh10 I9 eI9
      refine e_aload_n dX1_setDiffer_76 rfl ?_
      refine e_iconst dX1_setDiffer_77 ⟨by decide, by decide⟩ ?_
      refine e_putz dX1_setDiffer_78 fO_1_44 (by decide) (gs_52 hg) rfl rfl (by decide) ?_
      refine e_mem (fun I11 eI11 => ?_)
      have WI11 := WI9 I11 eI11
      exact e_vret dX1_setDiffer_81 rfl (by rw [WI11.1, WI11.2])
    · have Bc7 := WI5.2 c7
      refine e_aload_n dX1_setDiffer_52 rfl ?_
      refine e_getr dX1_setDiffer_53 fO_1_27 (by decide) (gs_52 hg) rfl (gp_52_11 hg) ?_
      refine e_iload_n dX1_setDiffer_56 rfl ?_
      obtain ⟨h12, Vh12⟩ := Bc7
      refine e_iald dX1_setDiffer_57 (by decide) (gs_58 hg) h12.1 h12.2 ?_
      refine e_iload dX1_setDiffer_58 rfl ?_
      refine e_ior dX1_setDiffer_60 ?_
      refine e_goto (tgt := 75) dX1_setDiffer_61 (by decide) ?_
      obtain ⟨h14, Vh14⟩ := Vh12
      refine e_iast dX1_setDiffer_75 (by decide) (gs_58 hg) h14.1 h14.2 ?_
      refine e_mem (fun I13 eI13 => ?_)
      have WI13 := Vh14 I13 eI13
      refine e_aload_n dX1_setDiffer_76 rfl ?_
      refine e_iconst dX1_setDiffer_77 ⟨by decide, by decide⟩ ?_
      refine e_putz dX1_setDiffer_78 fO_1_44 (by decide) (gs_52 hg) rfl rfl (by decide) ?_
      refine e_mem (fun I15 eI15 => ?_)
      have WI15 := WI13 I15 eI15
      exact e_vret dX1_setDiffer_81 rfl (by rw [WI15.1, WI15.2])
  · have Bc3 := Wy2.2 c3
    refine e_aload_n dX1_setDiffer_19 rfl ?_
    refine e_getr dX1_setDiffer_20 fO_1_27 (by decide) (gs_52 hg) rfl (gp_52_11 hg) ?_
    refine e_iload_n dX1_setDiffer_23 rfl ?_
    obtain ⟨h16, Vh16⟩ := Bc3
    refine e_iald dX1_setDiffer_24 (by decide) (gs_58 hg) h16.1 h16.2 ?_
    refine e_iload dX1_setDiffer_25 rfl ?_
    refine e_ior dX1_setDiffer_27 ?_
    refine e_goto (tgt := 42) dX1_setDiffer_28 (by decide) ?_
    obtain ⟨h18, Vh18⟩ := Vh16
    refine e_iast dX1_setDiffer_42 (by decide) (gs_58 hg) h18.1 h18.2 ?_
    refine e_mem (fun I17 eI17 => ?_)
    have WI17 := Vh18 I17 eI17
    refine e_aload_n dX1_setDiffer_43 rfl ?_
    refine e_getr dX1_setDiffer_44 fO_1_27 (by decide) (gs_52 hg) rfl (gp_52_11 hg) ?_
    refine e_iload_n dX1_setDiffer_47 rfl ?_
    refine e_iload_n dX1_setDiffer_48 rfl ?_
    refine e_if_eq (tgt := 64) dX1_setDiffer_49 (by decide) (fun c19 => ?_) (fun c19 => ?_)
    · have Ac19 := WI17.1 c19
      refine e_aload_n dX1_setDiffer_64 rfl ?_
      refine e_getr dX1_setDiffer_65 fO_1_27 (by decide) (gs_52 hg) rfl (gp_52_11 hg) ?_
      refine e_iload_n dX1_setDiffer_68 rfl ?_
      obtain ⟨h20, Vh20⟩ := Ac19
      refine e_iald dX1_setDiffer_69 (by decide) (gs_58 hg) h20.1 h20.2 ?_
      refine e_iload dX1_setDiffer_70 rfl ?_
      refine e_iconst dX1_setDiffer_72 ⟨by decide, by decide⟩ ?_
      refine e_ixor dX1_setDiffer_73 ?_
      refine e_iand dX1_setDiffer_74 ?_
      obtain ⟨h22, Vh22⟩ := Vh20
      refine e_iast dX1_setDiffer_75 (by decide) (gs_58 hg) h22.1 h22.2 ?_
      refine e_mem (fun I21 eI21 => ?_)
      have WI21 := Vh22 I21 eI21
      refine e_aload_n dX1_setDiffer_76 rfl ?_
      refine e_iconst dX1_setDiffer_77 ⟨by decide, by decide⟩ ?_
      refine e_putz dX1_setDiffer_78 fO_1_44 (by decide) (gs_52 hg) rfl rfl (by decide) ?_
      refine e_mem (fun I23 eI23 => ?_)
      have WI23 := WI21 I23 eI23
      exact e_vret dX1_setDiffer_81 rfl (by rw [WI23.1, WI23.2])
    · have Bc19 := WI17.2 c19
      refine e_aload_n dX1_setDiffer_52 rfl ?_
      refine e_getr dX1_setDiffer_53 fO_1_27 (by decide) (gs_52 hg) rfl (gp_52_11 hg) ?_
      refine e_iload_n dX1_setDiffer_56 rfl ?_
      obtain ⟨h24, Vh24⟩ := Bc19
      refine e_iald dX1_setDiffer_57 (by decide) (gs_58 hg) h24.1 h24.2 ?_
      refine e_iload dX1_setDiffer_58 rfl ?_
      refine e_ior dX1_setDiffer_60 ?_
      refine e_goto (tgt := 75) dX1_setDiffer_61 (by decide) ?_
      obtain ⟨h26, Vh26⟩ := Vh24
      refine e_iast dX1_setDiffer_75 (by decide) (gs_58 hg) h26.1 h26.2 ?_
      refine e_mem (fun I25 eI25 => ?_)
      have WI25 := Vh26 I25 eI25
      refine e_aload_n dX1_setDiffer_76 rfl ?_
      refine e_iconst dX1_setDiffer_77 ⟨by decide, by decide⟩ ?_
      refine e_putz dX1_setDiffer_78 fO_1_44 (by decide) (gs_52 hg) rfl rfl (by decide) ?_
      refine e_mem (fun I27 eI27 => ?_)
      have WI27 := WI25 I27 eI27
      exact e_vret dX1_setDiffer_81 rfl (by rw [WI27.1, WI27.2])
set_option maxRecDepth 100000 in
set_option maxHeartbeats 4000000 in
theorem v_X1_countMatched_0 {Γ : GX} {g : AG} {I J : Nat → Nat → Int} {r : Option AV} (hg : GOc g) 
    (V : ∃ (J1 : Nat → Nat → Int), CT Γ 4 mX1_findAll [.inr (some 52)] (g, I) (none, (g, J1)) ∧ (r = some (.inl (J1 52 13)) ∧ J = J1)) : Ev Γ 5 mX1_countMatched 0 [some (.inr (some 52))] [] (g, I) (r, (g, J)) := by
  refine e_aload_n dX1_countMatched_0 rfl ?_
  obtain ⟨J1, h2, Vh2⟩ := V
  refine e_callv (av := []) (st := []) dX1_countMatched_1 cO_1_48 oX1_findAll rfl (by decide) (gs_52 hg) rfl (Nat.le_of_ble_eq_true rfl) (by decide) h2 (Nat.le_refl _) (Nat.le_refl _) rfl rfl ?_
  refine e_aload_n dX1_countMatched_4 rfl ?_
  refine e_geti dX1_countMatched_5 fO_1_51 (by decide) (gs_52 hg) rfl ?_
  exact e_iret dX1_countMatched_8 rfl (by rw [Vh2.1, Vh2.2])
set_option maxRecDepth 100000 in
set_option maxHeartbeats 4000000 in
theorem v_X1_matchedAt_0 {Γ : GX} {g : AG} {I J : Nat → Nat → Int} {r : Option AV} (hg : GOc g) (x1 : Int)
    (V : ∃ (J1 : Nat → Nat → Int), CT Γ 4 mX1_findAll [.inr (some 52)] (g, I) (none, (g, J1)) ∧ ((((x1 < 0)) → (r = some (.inl (-1)) ∧ J = J1)) ∧ ((¬ (x1 < 0)) → (((((J1 52 13) ≤ x1)) → (r = some (.inl (-1)) ∧ J = J1)) ∧ ((¬ ((J1 52 13) ≤ x1)) → (((0 : Int) ≤ x1 ∧ (x1 : Int) < 120) ∧ (r = some (.inl (J1 59 x1.toNat)) ∧ J = J1))))))) : Ev Γ 5 mX1_matchedAt 0 [some (.inr (some 52)), some (.inl x1)] [] (g, I) (r, (g, J)) := by
  refine e_aload_n dX1_matchedAt_0 rfl ?_
  obtain ⟨J1, h2, Vh2⟩ := V
  refine e_callv (av := []) (st := []) dX1_matchedAt_1 cO_1_48 oX1_findAll rfl (by decide) (gs_52 hg) rfl (Nat.le_of_ble_eq_true rfl) (by decide) h2 (Nat.le_refl _) (Nat.le_refl _) rfl rfl ?_
  refine e_iload_n dX1_matchedAt_4 rfl ?_
  refine e_if_lt (tgt := 25) dX1_matchedAt_5 (by decide) (fun c4 => ?_) (fun c4 => ?_)
  · have Ac4 := Vh2.1 c4
    refine e_iconst dX1_matchedAt_25 ⟨by decide, by decide⟩ ?_
    exact e_iret dX1_matchedAt_26 rfl (by rw [Ac4.1, Ac4.2])
  · have Bc4 := Vh2.2 c4
    refine e_iload_n dX1_matchedAt_8 rfl ?_
    refine e_aload_n dX1_matchedAt_9 rfl ?_
    refine e_geti dX1_matchedAt_10 fO_1_51 (by decide) (gs_52 hg) rfl ?_
    refine e_ic_ge (tgt := 25) dX1_matchedAt_13 (by decide) (fun c5 => ?_) (fun c5 => ?_)
    · have Ac5 := Bc4.1 c5
      refine e_iconst dX1_matchedAt_25 ⟨by decide, by decide⟩ ?_
      exact e_iret dX1_matchedAt_26 rfl (by rw [Ac5.1, Ac5.2])
    · have Bc5 := Bc4.2 c5
      refine e_aload_n dX1_matchedAt_16 rfl ?_
      refine e_getr dX1_matchedAt_17 fO_1_30 (by decide) (gs_52 hg) rfl (gp_52_12 hg) ?_
      refine e_iload_n dX1_matchedAt_20 rfl ?_
      obtain ⟨h6, Vh6⟩ := Bc5
      refine e_iald dX1_matchedAt_21 (by decide) (gs_59 hg) h6.1 h6.2 ?_
      refine e_goto (tgt := 26) dX1_matchedAt_22 (by decide) ?_
      exact e_iret dX1_matchedAt_26 rfl (by rw [Vh6.1, Vh6.2])
set_option maxRecDepth 100000 in
set_option maxHeartbeats 4000000 in
theorem v_X1_firstNode_0 {Γ : GX} {g : AG} {I J : Nat → Nat → Int} {r : Option AV} (hg : GOc g) (x1 : Int)
    (V : ((0 : Int) ≤ x1 ∧ (x1 : Int) < 26) ∧ (∀ y2 : Int, y2 = (I 25 x1.toNat) → (((¬ (y2 = (-1))) → (((0 : Int) ≤ y2 ∧ (y2 : Int) < 120) ∧ (r = some (.inl (I 53 y2.toNat)) ∧ J = I))) ∧ (((y2 = (-1))) → (r = some (.inl (-1)) ∧ J = I))))) : Ev Γ 0 mX1_firstNode 0 [some (.inr (some 52)), some (.inl x1), none] [] (g, I) (r, (g, J)) := by
  refine e_aload_n dX1_firstNode_0 rfl ?_
  refine e_getr dX1_firstNode_1 fO_1_41 (by decide) (gs_52 hg) rfl (gp_52_1 hg) ?_
  refine e_getr dX1_firstNode_4 fO_1_55 (by decide) (gs_15 hg) rfl (gp_15_11 hg) ?_
  refine e_iload_n dX1_firstNode_7 rfl ?_
  obtain ⟨h1, Vh1⟩ := V
  refine e_iald dX1_firstNode_8 (by decide) (gs_25 hg) h1.1 h1.2 ?_
  refine e_top (fun y2 ey2 => ?_)
  have Wy2 := Vh1 y2 ey2
  refine e_istore_n dX1_firstNode_9 (by decide) (ls' := [some (.inr (some 52)), some (.inl x1), some (.inl y2)]) rfl ?_
  refine e_iload_n dX1_firstNode_10 rfl ?_
  refine e_iconst dX1_firstNode_11 ⟨by decide, by decide⟩ ?_
  refine e_ic_ne (tgt := 19) dX1_firstNode_12 (by decide) (fun c3 => ?_) (fun c3 => ?_)
  · have Ac3 := Wy2.1 c3
    refine e_aload_n dX1_firstNode_19 rfl ?_
    refine e_getr dX1_firstNode_20 fO_1_9 (by decide) (gs_52 hg) rfl (gp_52_2 hg) ?_
    refine e_iload_n dX1_firstNode_23 rfl ?_
    obtain ⟨h4, Vh4⟩ := Ac3
    refine e_iald dX1_firstNode_24 (by decide) (gs_53 hg) h4.1 h4.2 ?_
    exact e_iret dX1_firstNode_25 rfl (by rw [Vh4.1, Vh4.2])
  · have Bc3 := Wy2.2 c3
    refine e_iconst dX1_firstNode_15 ⟨by decide, by decide⟩ ?_
    refine e_goto (tgt := 25) dX1_firstNode_16 (by decide) ?_
    exact e_iret dX1_firstNode_25 rfl (by rw [Bc3.1, Bc3.2])
set_option maxRecDepth 100000 in
set_option maxHeartbeats 4000000 in
theorem v_X1_howMany_0 {Γ : GX} {g : AG} {I J : Nat → Nat → Int} {r : Option AV} (hg : GOc g) (x1 : Int)
    (V : ((0 : Int) ≤ x1 ∧ (x1 : Int) < 26) ∧ (∀ y2 : Int, y2 = (I 25 x1.toNat) → (((¬ (y2 = (-1))) → (((0 : Int) ≤ y2 ∧ (y2 : Int) < 120) ∧ (r = some (.inl (I 54 y2.toNat)) ∧ J = I))) ∧ (((y2 = (-1))) → (r = some (.inl (-1)) ∧ J = I))))) : Ev Γ 0 mX1_howMany 0 [some (.inr (some 52)), some (.inl x1), none] [] (g, I) (r, (g, J)) := by
  refine e_aload_n dX1_howMany_0 rfl ?_
  refine e_getr dX1_howMany_1 fO_1_41 (by decide) (gs_52 hg) rfl (gp_52_1 hg) ?_
  refine e_getr dX1_howMany_4 fO_1_55 (by decide) (gs_15 hg) rfl (gp_15_11 hg) ?_
  refine e_iload_n dX1_howMany_7 rfl ?_
  obtain ⟨h1, Vh1⟩ := V
  refine e_iald dX1_howMany_8 (by decide) (gs_25 hg) h1.1 h1.2 ?_
  refine e_top (fun y2 ey2 => ?_)
  have Wy2 := Vh1 y2 ey2
  refine e_istore_n dX1_howMany_9 (by decide) (ls' := [some (.inr (some 52)), some (.inl x1), some (.inl y2)]) rfl ?_
  refine e_iload_n dX1_howMany_10 rfl ?_
  refine e_iconst dX1_howMany_11 ⟨by decide, by decide⟩ ?_
  refine e_ic_ne (tgt := 19) dX1_howMany_12 (by decide) (fun c3 => ?_) (fun c3 => ?_)
  · have Ac3 := Wy2.1 c3
    refine e_aload_n dX1_howMany_19 rfl ?_
    refine e_getr dX1_howMany_20 fO_1_15 (by decide) (gs_52 hg) rfl (gp_52_3 hg) ?_
    refine e_iload_n dX1_howMany_23 rfl ?_
    obtain ⟨h4, Vh4⟩ := Ac3
    refine e_iald dX1_howMany_24 (by decide) (gs_54 hg) h4.1 h4.2 ?_
    exact e_iret dX1_howMany_25 rfl (by rw [Vh4.1, Vh4.2])
  · have Bc3 := Wy2.2 c3
    refine e_iconst dX1_howMany_15 ⟨by decide, by decide⟩ ?_
    refine e_goto (tgt := 25) dX1_howMany_16 (by decide) ?_
    exact e_iret dX1_howMany_25 rfl (by rw [Bc3.1, Bc3.2])
set_option maxRecDepth 100000 in
set_option maxHeartbeats 4000000 in
theorem v_X1_findAll_0 {Γ : GX} {g : AG} {I J : Nat → Nat → Int} {r : Option AV} (hg : GOc g) 
    (V : ((((I 52 15) = 0)) → (∀ I2 : Nat → Nat → Int, I2 = mset I 52 13 0 → (Ev Γ 4 mX1_findAll 15 [some (.inr (some 52)), some (.inl 0)] [] (g, I2) (r, (g, J))))) ∧ ((¬ ((I 52 15) = 0)) → (r = none ∧ J = I))) : Ev Γ 4 mX1_findAll 0 [some (.inr (some 52)), none] [] (g, I) (r, (g, J)) := by
  refine e_aload_n dX1_findAll_0 rfl ?_
  refine e_geti dX1_findAll_1 fO_1_44 (by decide) (gs_52 hg) rfl ?_
  refine e_if_eq (tgt := 8) dX1_findAll_4 (by decide) (fun c1 => ?_) (fun c1 => ?_)
  · have Ac1 := V.1 c1
    refine e_aload_n dX1_findAll_8 rfl ?_
    refine e_iconst dX1_findAll_9 ⟨by decide, by decide⟩ ?_
    refine e_puti dX1_findAll_10 fO_1_51 (by decide) (gs_52 hg) rfl rfl ?_
    refine e_mem (fun I2 eI2 => ?_)
    have WI2 := Ac1 I2 eI2
    refine e_iconst dX1_findAll_13 ⟨by decide, by decide⟩ ?_
    refine e_istore_n dX1_findAll_14 (by decide) (ls' := [some (.inr (some 52)), some (.inl 0)]) rfl ?_
    exact WI2
  · have Bc1 := V.2 c1
    exact e_vret dX1_findAll_7 rfl (by rw [Bc1.1, Bc1.2])
set_option maxRecDepth 100000 in
set_option maxHeartbeats 4000000 in
theorem v_X1_findAll_15 {Γ : GX} {g : AG} {I J : Nat → Nat → Int} {r : Option AV} (hg : GOc g) (x1 : Int)
    (V : ((((I 3 2) ≤ x1)) → (∀ I2 : Nat → Nat → Int, I2 = mset I 52 15 1 → (r = none ∧ J = I2))) ∧ ((¬ ((I 3 2) ≤ x1)) → (∃ (r5 : Int) (J3 : Nat → Nat → Int), CT Γ 3 mX1_findWay [.inr (some 52), .inl x1] (g, I) (some (.inl r5), (g, J3)) ∧ (((0 : Int) ≤ x1 ∧ (x1 : Int) < 120) ∧ ((r5 = 0 ∨ r5 = 1) ∧ (∀ I6 : Nat → Nat → Int, I6 = mset J3 60 x1.toNat r5 → (((0 : Int) ≤ x1 ∧ (x1 : Int) < 120) ∧ (((((I6 60 x1.toNat) = 0)) → (inR (x1 + 1) ∧ (Ev Γ 4 mX1_findAll 15 [some (.inr (some 52)), some (.inl (x1 + 1))] [] (g, I6) (r, (g, J))))) ∧ ((¬ ((I6 60 x1.toNat) = 0)) → (((0 : Int) ≤ (I6 52 13) ∧ ((I6 52 13) : Int) < 120) ∧ (∀ I12 : Nat → Nat → Int, I12 = mset I6 59 (I6 52 13).toNat x1 → (inR ((I12 52 13) + 1) ∧ (∀ I15 : Nat → Nat → Int, I15 = mset I12 52 13 ((I12 52 13) + 1) → (inR (x1 + 1) ∧ (Ev Γ 4 mX1_findAll 15 [some (.inr (some 52)), some (.inl (x1 + 1))] [] (g, I15) (r, (g, J))))))))))))))))) : Ev Γ 4 mX1_findAll 15 [some (.inr (some 52)), some (.inl x1)] [] (g, I) (r, (g, J)) := by
  refine e_iload_n dX1_findAll_15 rfl ?_
  refine e_aload_n dX1_findAll_16 rfl ?_
  refine e_getr dX1_findAll_17 fO_1_37 (by decide) (gs_52 hg) rfl (gp_52_0 hg) ?_
  refine e_geti dX1_findAll_20 fO_1_60 (by decide) (gs_3 hg) rfl ?_
  refine e_ic_ge (tgt := 72) dX1_findAll_23 (by decide) (fun c1 => ?_) (fun c1 => ?_)
  · have Ac1 := V.1 c1
    refine e_aload_n dX1_findAll_72 rfl ?_
    refine e_iconst dX1_findAll_73 ⟨by decide, by decide⟩ ?_
    refine e_putz dX1_findAll_74 fO_1_44 (by decide) (gs_52 hg) rfl rfl (by decide) ?_
    refine e_mem (fun I2 eI2 => ?_)
    have WI2 := Ac1 I2 eI2
    exact e_vret dX1_findAll_77 rfl (by rw [WI2.1, WI2.2])
  · have Bc1 := V.2 c1
    refine e_aload_n dX1_findAll_26 rfl ?_
    refine e_getr dX1_findAll_27 fO_1_33 (by decide) (gs_52 hg) rfl (gp_52_14 hg) ?_
    refine e_iload_n dX1_findAll_30 rfl ?_
    refine e_aload_n dX1_findAll_31 rfl ?_
    refine e_iload_n dX1_findAll_32 rfl ?_
    obtain ⟨r5, J3, h4, Vh4⟩ := Bc1
    refine e_callv (av := [.inl x1]) (st := [.inl x1, .inr (some 60)]) dX1_findAll_33 cO_1_63 oX1_findWay rfl (by decide) (gs_52 hg) rfl (Nat.le_of_ble_eq_true rfl) (by decide) h4 (Nat.le_refl _) (Nat.le_refl _) rfl rfl ?_
    obtain ⟨h7, Vh7⟩ := Vh4
    obtain ⟨h8, Vh8⟩ := Vh7
    refine e_zast dX1_findAll_36 (by decide) (gs_60 hg) h7.1 h7.2 h8 ?_
    refine e_mem (fun I6 eI6 => ?_)
    have WI6 := Vh8 I6 eI6
    refine e_aload_n dX1_findAll_37 rfl ?_
    refine e_getr dX1_findAll_38 fO_1_33 (by decide) (gs_52 hg) rfl (gp_52_14 hg) ?_
    refine e_iload_n dX1_findAll_41 rfl ?_
    obtain ⟨h9, Vh9⟩ := WI6
    refine e_zald dX1_findAll_42 (by decide) (gs_60 hg) h9.1 h9.2 ?_
    refine e_if_eq (tgt := 66) dX1_findAll_43 (by decide) (fun c10 => ?_) (fun c10 => ?_)
    · have Ac10 := Vh9.1 c10
      obtain ⟨h11, Vh11⟩ := Ac10
      refine e_iinc dX1_findAll_66 (by decide) rfl h11 (ls' := [some (.inr (some 52)), some (.inl (x1 + 1))]) rfl ?_
      refine e_goto (tgt := 15) dX1_findAll_69 (by decide) ?_
      exact Vh11
    · have Bc10 := Vh9.2 c10
      refine e_aload_n dX1_findAll_46 rfl ?_
      refine e_getr dX1_findAll_47 fO_1_30 (by decide) (gs_52 hg) rfl (gp_52_12 hg) ?_
      refine e_aload_n dX1_findAll_50 rfl ?_
      refine e_geti dX1_findAll_51 fO_1_51 (by decide) (gs_52 hg) rfl ?_
      refine e_iload_n dX1_findAll_54 rfl ?_
      obtain ⟨h13, Vh13⟩ := Bc10
      refine e_iast dX1_findAll_55 (by decide) (gs_59 hg) h13.1 h13.2 ?_
      refine e_mem (fun I12 eI12 => ?_)
      have WI12 := Vh13 I12 eI12
      refine e_aload_n dX1_findAll_56 rfl ?_
      refine e_dup dX1_findAll_57 ?_
      refine e_geti dX1_findAll_58 fO_1_51 (by decide) (gs_52 hg) rfl ?_
      refine e_iconst dX1_findAll_61 ⟨by decide, by decide⟩ ?_
      obtain ⟨h14, Vh14⟩ := WI12
      refine e_iadd dX1_findAll_62 h14 ?_
      refine e_puti dX1_findAll_63 fO_1_51 (by decide) (gs_52 hg) rfl rfl ?_
      refine e_mem (fun I15 eI15 => ?_)
      have WI15 := Vh14 I15 eI15
      obtain ⟨h16, Vh16⟩ := WI15
      refine e_iinc dX1_findAll_66 (by decide) rfl h16 (ls' := [some (.inr (some 52)), some (.inl (x1 + 1))]) rfl ?_
      refine e_goto (tgt := 15) dX1_findAll_69 (by decide) ?_
      exact Vh16
set_option maxRecDepth 100000 in
set_option maxHeartbeats 4000000 in
theorem v_X1_preparePattern_0 {Γ : GX} {g : AG} {I J : Nat → Nat → Int} {r : Option AV} (hg : GOc g) 
    (V : ∀ I1 : Nat → Nat → Int, I1 = mset I 52 7 (I 15 2) → (∀ I2 : Nat → Nat → Int, I2 = mset I1 52 8 (I1 15 2) → (Ev Γ 1 mX1_preparePattern 26 [some (.inr (some 52)), some (.inl (-1)), some (.inl 0)] [] (g, I2) (r, (g, J))))) : Ev Γ 1 mX1_preparePattern 0 [some (.inr (some 52)), none, none] [] (g, I) (r, (g, J)) := by
  refine e_aload_n dX1_preparePattern_0 rfl ?_
  refine e_aload_n dX1_preparePattern_1 rfl ?_
  refine e_getr dX1_preparePattern_2 fO_1_41 (by decide) (gs_52 hg) rfl (gp_52_1 hg) ?_
  refine e_geti dX1_preparePattern_5 fO_1_60 (by decide) (gs_15 hg) rfl ?_
  refine e_puti dX1_preparePattern_8 fO_1_67 (by decide) (gs_52 hg) rfl rfl ?_
  refine e_mem (fun I1 eI1 => ?_)
  have WI1 := V I1 eI1
  refine e_aload_n dX1_preparePattern_11 rfl ?_
  refine e_aload_n dX1_preparePattern_12 rfl ?_
  refine e_getr dX1_preparePattern_13 fO_1_41 (by decide) (gs_52 hg) rfl (gp_52_1 hg) ?_
  refine e_geti dX1_preparePattern_16 fO_1_60 (by decide) (gs_15 hg) rfl ?_
  refine e_puti dX1_preparePattern_19 fO_1_70 (by decide) (gs_52 hg) rfl rfl ?_
  refine e_mem (fun I2 eI2 => ?_)
  have WI2 := WI1 I2 eI2
  refine e_iconst dX1_preparePattern_22 ⟨by decide, by decide⟩ ?_
  refine e_istore_n dX1_preparePattern_23 (by decide) (ls' := [some (.inr (some 52)), some (.inl (-1)), none]) rfl ?_
  refine e_iconst dX1_preparePattern_24 ⟨by decide, by decide⟩ ?_
  refine e_istore_n dX1_preparePattern_25 (by decide) (ls' := [some (.inr (some 52)), some (.inl (-1)), some (.inl 0)]) rfl ?_
  exact WI2
set_option maxRecDepth 100000 in
set_option maxHeartbeats 4000000 in
theorem v_X1_preparePattern_26 {Γ : GX} {g : AG} {I J : Nat → Nat → Int} {r : Option AV} (hg : GOc g) (x1 : Int) (x2 : Int)
    (V : ((((I 15 2) ≤ x2)) → (r = none ∧ J = I)) ∧ ((¬ ((I 15 2) ≤ x2)) → (∃ (r4 : Int) (J2 : Nat → Nat → Int), CT Γ 0 mX1_countSingles [.inr (some 52), .inl x2] (g, I) (some (.inl r4), (g, J2)) ∧ (((0 : Int) ≤ x2 ∧ (x2 : Int) < 120) ∧ (∀ I5 : Nat → Nat → Int, I5 = mset J2 57 x2.toNat r4 → (((0 : Int) ≤ x2 ∧ (x2 : Int) < 120) ∧ (((¬ ((I5 17 x2.toNat) = 3)) → (Ev Γ 1 mX1_preparePattern 66 [some (.inr (some 52)), some (.inl x1), some (.inl x2)] [] (g, I5) (r, (g, J)))) ∧ ((((I5 17 x2.toNat) = 3)) → (∀ I9 : Nat → Nat → Int, I9 = mset I5 52 8 x2 → (Ev Γ 1 mX1_preparePattern 66 [some (.inr (some 52)), some (.inl x1), some (.inl x2)] [] (g, I9) (r, (g, J)))))))))))) : Ev Γ 1 mX1_preparePattern 26 [some (.inr (some 52)), some (.inl x1), some (.inl x2)] [] (g, I) (r, (g, J)) := by
  refine e_iload_n dX1_preparePattern_26 rfl ?_
  refine e_aload_n dX1_preparePattern_27 rfl ?_
  refine e_getr dX1_preparePattern_28 fO_1_41 (by decide) (gs_52 hg) rfl (gp_52_1 hg) ?_
  refine e_geti dX1_preparePattern_31 fO_1_60 (by decide) (gs_15 hg) rfl ?_
  refine e_ic_ge (tgt := 118) dX1_preparePattern_34 (by decide) (fun c1 => ?_) (fun c1 => ?_)
  · have Ac1 := V.1 c1
    exact e_vret dX1_preparePattern_118 rfl (by rw [Ac1.1, Ac1.2])
  · have Bc1 := V.2 c1
    refine e_aload_n dX1_preparePattern_37 rfl ?_
    refine e_getr dX1_preparePattern_38 fO_1_24 (by decide) (gs_52 hg) rfl (gp_52_6 hg) ?_
    refine e_iload_n dX1_preparePattern_41 rfl ?_
    refine e_aload_n dX1_preparePattern_42 rfl ?_
    refine e_iload_n dX1_preparePattern_43 rfl ?_
    obtain ⟨r4, J2, h3, Vh3⟩ := Bc1
    refine e_callv (av := [.inl x2]) (st := [.inl x2, .inr (some 57)]) dX1_preparePattern_44 cO_1_73 oX1_countSingles rfl (by decide) (gs_52 hg) rfl (Nat.le_of_ble_eq_true rfl) (by decide) h3 (Nat.le_refl _) (Nat.le_refl _) rfl rfl ?_
    obtain ⟨h6, Vh6⟩ := Vh3
    refine e_iast dX1_preparePattern_47 (by decide) (gs_57 hg) h6.1 h6.2 ?_
    refine e_mem (fun I5 eI5 => ?_)
    have WI5 := Vh6 I5 eI5
    refine e_aload_n dX1_preparePattern_48 rfl ?_
    refine e_getr dX1_preparePattern_49 fO_1_41 (by decide) (gs_52 hg) rfl (gp_52_1 hg) ?_
    refine e_getr dX1_preparePattern_52 fO_1_77 (by decide) (gs_15 hg) rfl (gp_15_3 hg) ?_
    refine e_iload_n dX1_preparePattern_55 rfl ?_
    obtain ⟨h7, Vh7⟩ := WI5
    refine e_iald dX1_preparePattern_56 (by decide) (gs_17 hg) h7.1 h7.2 ?_
    refine e_iconst dX1_preparePattern_57 ⟨by decide, by decide⟩ ?_
    refine e_ic_ne (tgt := 66) dX1_preparePattern_58 (by decide) (fun c8 => ?_) (fun c8 => ?_)
    · have Ac8 := Vh7.1 c8
      exact Ac8
    · have Bc8 := Vh7.2 c8
      refine e_aload_n dX1_preparePattern_61 rfl ?_
      refine e_iload_n dX1_preparePattern_62 rfl ?_
      refine e_puti dX1_preparePattern_63 fO_1_70 (by decide) (gs_52 hg) rfl rfl ?_
      refine e_mem (fun I9 eI9 => ?_)
      have WI9 := Bc8 I9 eI9
      exact WI9
set_option maxRecDepth 100000 in
set_option maxHeartbeats 4000000 in
theorem v_X1_preparePattern_66 {Γ : GX} {g : AG} {I J : Nat → Nat → Int} {r : Option AV} (hg : GOc g) (x1 : Int) (x2 : Int)
    (V : ((0 : Int) ≤ x2 ∧ (x2 : Int) < 120) ∧ (((¬ ((I 17 x2.toNat) = 2)) → (Ev Γ 1 mX1_preparePattern 112 [some (.inr (some 52)), some (.inl x1), some (.inl x2)] [] (g, I) (r, (g, J)))) ∧ ((((I 17 x2.toNat) = 2)) → ((((x1 = (-1))) → (Ev Γ 1 mX1_preparePattern 110 [some (.inr (some 52)), none, some (.inl x2)] [] (g, I) (r, (g, J)))) ∧ ((¬ (x1 = (-1))) → (((0 : Int) ≤ x1 ∧ (x1 : Int) < 120) ∧ (((0 : Int) ≤ x2 ∧ (x2 : Int) < 120) ∧ (((¬ ((I 21 x1.toNat) = (I 21 x2.toNat))) → (Ev Γ 1 mX1_preparePattern 110 [some (.inr (some 52)), none, some (.inl x2)] [] (g, I) (r, (g, J)))) ∧ ((((I 21 x1.toNat) = (I 21 x2.toNat))) → (∀ I7 : Nat → Nat → Int, I7 = mset I 52 7 x1 → (Ev Γ 1 mX1_preparePattern 110 [some (.inr (some 52)), none, some (.inl x2)] [] (g, I7) (r, (g, J))))))))))))) : Ev Γ 1 mX1_preparePattern 66 [some (.inr (some 52)), some (.inl x1), some (.inl x2)] [] (g, I) (r, (g, J)) := by
  refine e_aload_n dX1_preparePattern_66 rfl ?_
  refine e_getr dX1_preparePattern_67 fO_1_41 (by decide) (gs_52 hg) rfl (gp_52_1 hg) ?_
  refine e_getr dX1_preparePattern_70 fO_1_77 (by decide) (gs_15 hg) rfl (gp_15_3 hg) ?_
  refine e_iload_n dX1_preparePattern_73 rfl ?_
  obtain ⟨h1, Vh1⟩ := V
  refine e_iald dX1_preparePattern_74 (by decide) (gs_17 hg) h1.1 h1.2 ?_
  refine e_iconst dX1_preparePattern_75 ⟨by decide, by decide⟩ ?_
  refine e_ic_ne (tgt := 112) dX1_preparePattern_76 (by decide) (fun c2 => ?_) (fun c2 => ?_)
  · have Ac2 := Vh1.1 c2
    exact Ac2
  · have Bc2 := Vh1.2 c2
    refine e_iload_n dX1_preparePattern_79 rfl ?_
    refine e_iconst dX1_preparePattern_80 ⟨by decide, by decide⟩ ?_
    refine e_ic_eq (tgt := 110) dX1_preparePattern_81 (by decide) (fun c3 => ?_) (fun c3 => ?_)
    · have Ac3 := Bc2.1 c3
      refine ev_drop (ls' := [some (.inr (some 52)), none, some (.inl x2)]) 1 rfl ?_
      exact Ac3
    · have Bc3 := Bc2.2 c3
      refine e_aload_n dX1_preparePattern_84 rfl ?_
      refine e_getr dX1_preparePattern_85 fO_1_41 (by decide) (gs_52 hg) rfl (gp_52_1 hg) ?_
      refine e_getr dX1_preparePattern_88 fO_1_80 (by decide) (gs_15 hg) rfl (gp_15_7 hg) ?_
      refine e_iload_n dX1_preparePattern_91 rfl ?_
      obtain ⟨h4, Vh4⟩ := Bc3
      refine e_iald dX1_preparePattern_92 (by decide) (gs_21 hg) h4.1 h4.2 ?_
      refine e_aload_n dX1_preparePattern_93 rfl ?_
      refine e_getr dX1_preparePattern_94 fO_1_41 (by decide) (gs_52 hg) rfl (gp_52_1 hg) ?_
      refine e_getr dX1_preparePattern_97 fO_1_80 (by decide) (gs_15 hg) rfl (gp_15_7 hg) ?_
      refine e_iload_n dX1_preparePattern_100 rfl ?_
      obtain ⟨h5, Vh5⟩ := Vh4
      refine e_iald dX1_preparePattern_101 (by decide) (gs_21 hg) h5.1 h5.2 ?_
      refine e_ic_ne (tgt := 110) dX1_preparePattern_102 (by decide) (fun c6 => ?_) (fun c6 => ?_)
      · have Ac6 := Vh5.1 c6
        refine ev_drop (ls' := [some (.inr (some 52)), none, some (.inl x2)]) 1 rfl ?_
        exact Ac6
      · have Bc6 := Vh5.2 c6
        refine e_aload_n dX1_preparePattern_105 rfl ?_
        refine e_iload_n dX1_preparePattern_106 rfl ?_
        refine e_puti dX1_preparePattern_107 fO_1_67 (by decide) (gs_52 hg) rfl rfl ?_
        refine e_mem (fun I7 eI7 => ?_)
        have WI7 := Bc6 I7 eI7
        refine ev_drop (ls' := [some (.inr (some 52)), none, some (.inl x2)]) 1 rfl ?_
        exact WI7
set_option maxRecDepth 100000 in
set_option maxHeartbeats 4000000 in
theorem v_X1_preparePattern_112 {Γ : GX} {g : AG} {I J : Nat → Nat → Int} {r : Option AV} (hg : GOc g) (x1 : Int) (x2 : Int)
    (V : inR (x2 + 1) ∧ (Ev Γ 1 mX1_preparePattern 26 [some (.inr (some 52)), some (.inl x1), some (.inl (x2 + 1))] [] (g, I) (r, (g, J)))) : Ev Γ 1 mX1_preparePattern 112 [some (.inr (some 52)), some (.inl x1), some (.inl x2)] [] (g, I) (r, (g, J)) := by
  obtain ⟨h1, Vh1⟩ := V
  refine e_iinc dX1_preparePattern_112 (by decide) rfl h1 (ls' := [some (.inr (some 52)), some (.inl x1), some (.inl (x2 + 1))]) rfl ?_
  refine e_goto (tgt := 26) dX1_preparePattern_115 (by decide) ?_
  exact Vh1
set_option maxRecDepth 100000 in
set_option maxHeartbeats 4000000 in
theorem v_X1_preparePattern_110 {Γ : GX} {g : AG} {I J : Nat → Nat → Int} {r : Option AV} (hg : GOc g) (x2 : Int)
    (V : Ev Γ 1 mX1_preparePattern 112 [some (.inr (some 52)), some (.inl x2), some (.inl x2)] [] (g, I) (r, (g, J))) : Ev Γ 1 mX1_preparePattern 110 [some (.inr (some 52)), none, some (.inl x2)] [] (g, I) (r, (g, J)) := by
  refine e_iload_n dX1_preparePattern_110 rfl ?_
  refine e_istore_n dX1_preparePattern_111 (by decide) (ls' := [some (.inr (some 52)), some (.inl x2), some (.inl x2)]) rfl ?_
  exact V
set_option maxRecDepth 100000 in
set_option maxHeartbeats 4000000 in
theorem v_X1_countSingles_0 {Γ : GX} {g : AG} {I J : Nat → Nat → Int} {r : Option AV} (hg : GOc g) (x1 : Int)
    (V : ((0 : Int) ≤ x1 ∧ (x1 : Int) < 120) ∧ (((¬ ((I 17 x1.toNat) = 2)) → (inR (x1 + 1) ∧ (∀ y4 : Int, y4 = (x1 + 1) → (Ev Γ 0 mX1_countSingles 34 [some (.inr (some 52)), none, some (.inl x1), some (.inl 0), some (.inl y4)] [] (g, I) (r, (g, J)))))) ∧ ((((I 17 x1.toNat) = 2)) → (((0 : Int) ≤ x1 ∧ (x1 : Int) < 120) ∧ (∀ y6 : Int, y6 = (I 21 x1.toNat) → (inR (x1 + 1) ∧ (∀ y8 : Int, y8 = (x1 + 1) → (Ev Γ 0 mX1_countSingles 34 [some (.inr (some 52)), none, some (.inl y6), some (.inl 0), some (.inl y8)] [] (g, I) (r, (g, J)))))))))) : Ev Γ 0 mX1_countSingles 0 [some (.inr (some 52)), some (.inl x1), none, none, none] [] (g, I) (r, (g, J)) := by
  refine e_aload_n dX1_countSingles_0 rfl ?_
  refine e_getr dX1_countSingles_1 fO_1_41 (by decide) (gs_52 hg) rfl (gp_52_1 hg) ?_
  refine e_getr dX1_countSingles_4 fO_1_77 (by decide) (gs_15 hg) rfl (gp_15_3 hg) ?_
  refine e_iload_n dX1_countSingles_7 rfl ?_
  obtain ⟨h1, Vh1⟩ := V
  refine e_iald dX1_countSingles_8 (by decide) (gs_17 hg) h1.1 h1.2 ?_
  refine e_iconst dX1_countSingles_9 ⟨by decide, by decide⟩ ?_
  refine e_ic_ne (tgt := 25) dX1_countSingles_10 (by decide) (fun c2 => ?_) (fun c2 => ?_)
  · have Ac2 := Vh1.1 c2
    refine e_iload_n dX1_countSingles_25 rfl ?_
    refine e_istore_n dX1_countSingles_26 (by decide) (ls' := [some (.inr (some 52)), some (.inl x1), some (.inl x1), none, none]) rfl ?_
    refine e_iconst dX1_countSingles_27 ⟨by decide, by decide⟩ ?_
    refine e_istore_n dX1_countSingles_28 (by decide) (ls' := [some (.inr (some 52)), some (.inl x1), some (.inl x1), some (.inl 0), none]) rfl ?_
    refine e_iload_n dX1_countSingles_29 rfl ?_
    refine e_iconst dX1_countSingles_30 ⟨by decide, by decide⟩ ?_
    obtain ⟨h3, Vh3⟩ := Ac2
    refine e_iadd dX1_countSingles_31 h3 ?_
    refine e_top (fun y4 ey4 => ?_)
    have Wy4 := Vh3 y4 ey4
    refine e_istore dX1_countSingles_32 (by decide) (ls' := [some (.inr (some 52)), some (.inl x1), some (.inl x1), some (.inl 0), some (.inl y4)]) rfl ?_
    refine ev_drop (ls' := [some (.inr (some 52)), none, some (.inl x1), some (.inl 0), some (.inl y4)]) 1 rfl ?_
    exact Wy4
  · have Bc2 := Vh1.2 c2
    refine e_aload_n dX1_countSingles_13 rfl ?_
    refine e_getr dX1_countSingles_14 fO_1_41 (by decide) (gs_52 hg) rfl (gp_52_1 hg) ?_
    refine e_getr dX1_countSingles_17 fO_1_80 (by decide) (gs_15 hg) rfl (gp_15_7 hg) ?_
    refine e_iload_n dX1_countSingles_20 rfl ?_
    obtain ⟨h5, Vh5⟩ := Bc2
    refine e_iald dX1_countSingles_21 (by decide) (gs_21 hg) h5.1 h5.2 ?_
    refine e_goto (tgt := 26) dX1_countSingles_22 (by decide) ?_
    refine e_top (fun y6 ey6 => ?_)
    have Wy6 := Vh5 y6 ey6
    refine e_istore_n dX1_countSingles_26 (by decide) (ls' := [some (.inr (some 52)), some (.inl x1), some (.inl y6), none, none]) rfl ?_
    refine e_iconst dX1_countSingles_27 ⟨by decide, by decide⟩ ?_
    refine e_istore_n dX1_countSingles_28 (by decide) (ls' := [some (.inr (some 52)), some (.inl x1), some (.inl y6), some (.inl 0), none]) rfl ?_
    refine e_iload_n dX1_countSingles_29 rfl ?_
    refine e_iconst dX1_countSingles_30 ⟨by decide, by decide⟩ ?_
    obtain ⟨h7, Vh7⟩ := Wy6
    refine e_iadd dX1_countSingles_31 h7 ?_
    refine e_top (fun y8 ey8 => ?_)
    have Wy8 := Vh7 y8 ey8
    refine e_istore dX1_countSingles_32 (by decide) (ls' := [some (.inr (some 52)), some (.inl x1), some (.inl y6), some (.inl 0), some (.inl y8)]) rfl ?_
    refine ev_drop (ls' := [some (.inr (some 52)), none, some (.inl y6), some (.inl 0), some (.inl y8)]) 1 rfl ?_
    exact Wy8
set_option maxRecDepth 100000 in
set_option maxHeartbeats 4000000 in
theorem v_X1_countSingles_34 {Γ : GX} {g : AG} {I J : Nat → Nat → Int} {r : Option AV} (hg : GOc g) (x2 : Int) (x3 : Int) (x4 : Int)
    (V : ((((I 15 2) ≤ x4)) → (r = some (.inl x3) ∧ J = I)) ∧ ((¬ ((I 15 2) ≤ x4)) → (((0 : Int) ≤ x4 ∧ (x4 : Int) < 120) ∧ (((¬ ((I 21 x4.toNat) = x2)) → (inR (x4 + 1) ∧ (Ev Γ 0 mX1_countSingles 34 [some (.inr (some 52)), none, some (.inl x2), some (.inl x3), some (.inl (x4 + 1))] [] (g, I) (r, (g, J))))) ∧ ((((I 21 x4.toNat) = x2)) → (((0 : Int) ≤ x4 ∧ (x4 : Int) < 120) ∧ (((((I 17 x4.toNat) = 2)) → (inR (x4 + 1) ∧ (Ev Γ 0 mX1_countSingles 34 [some (.inr (some 52)), none, some (.inl x2), some (.inl x3), some (.inl (x4 + 1))] [] (g, I) (r, (g, J))))) ∧ ((¬ ((I 17 x4.toNat) = 2)) → (inR (x3 + 1) ∧ (inR (x4 + 1) ∧ (Ev Γ 0 mX1_countSingles 34 [some (.inr (some 52)), none, some (.inl x2), some (.inl (x3 + 1)), some (.inl (x4 + 1))] [] (g, I) (r, (g, J))))))))))))) : Ev Γ 0 mX1_countSingles 34 [some (.inr (some 52)), none, some (.inl x2), some (.inl x3), some (.inl x4)] [] (g, I) (r, (g, J)) := by
  refine e_iload dX1_countSingles_34 rfl ?_
  refine e_aload_n dX1_countSingles_36 rfl ?_
  refine e_getr dX1_countSingles_37 fO_1_41 (by decide) (gs_52 hg) rfl (gp_52_1 hg) ?_
  refine e_geti dX1_countSingles_40 fO_1_60 (by decide) (gs_15 hg) rfl ?_
  refine e_ic_ge (tgt := 83) dX1_countSingles_43 (by decide) (fun c1 => ?_) (fun c1 => ?_)
  · have Ac1 := V.1 c1
    refine e_iload_n dX1_countSingles_83 rfl ?_
    exact e_iret dX1_countSingles_84 rfl (by rw [Ac1.1, Ac1.2])
  · have Bc1 := V.2 c1
    refine e_aload_n dX1_countSingles_46 rfl ?_
    refine e_getr dX1_countSingles_47 fO_1_41 (by decide) (gs_52 hg) rfl (gp_52_1 hg) ?_
    refine e_getr dX1_countSingles_50 fO_1_80 (by decide) (gs_15 hg) rfl (gp_15_7 hg) ?_
    refine e_iload dX1_countSingles_53 rfl ?_
    obtain ⟨h2, Vh2⟩ := Bc1
    refine e_iald dX1_countSingles_55 (by decide) (gs_21 hg) h2.1 h2.2 ?_
    refine e_iload_n dX1_countSingles_56 rfl ?_
    refine e_ic_ne (tgt := 77) dX1_countSingles_57 (by decide) (fun c3 => ?_) (fun c3 => ?_)
    · have Ac3 := Vh2.1 c3
      obtain ⟨h4, Vh4⟩ := Ac3
      refine e_iinc dX1_countSingles_77 (by decide) rfl h4 (ls' := [some (.inr (some 52)), none, some (.inl x2), some (.inl x3), some (.inl (x4 + 1))]) rfl ?_
      refine e_goto (tgt := 34) dX1_countSingles_80 (by decide) ?_
      exact Vh4
    · have Bc3 := Vh2.2 c3
      refine e_aload_n dX1_countSingles_60 rfl ?_
      refine e_getr dX1_countSingles_61 fO_1_41 (by decide) (gs_52 hg) rfl (gp_52_1 hg) ?_
      refine e_getr dX1_countSingles_64 fO_1_77 (by decide) (gs_15 hg) rfl (gp_15_3 hg) ?_
      refine e_iload dX1_countSingles_67 rfl ?_
      obtain ⟨h5, Vh5⟩ := Bc3
      refine e_iald dX1_countSingles_69 (by decide) (gs_17 hg) h5.1 h5.2 ?_
      refine e_iconst dX1_countSingles_70 ⟨by decide, by decide⟩ ?_
      refine e_ic_eq (tgt := 77) dX1_countSingles_71 (by decide) (fun c6 => ?_) (fun c6 => ?_)
      · have Ac6 := Vh5.1 c6
        obtain ⟨h7, Vh7⟩ := Ac6
        refine e_iinc dX1_countSingles_77 (by decide) rfl h7 (ls' := [some (.inr (some 52)), none, some (.inl x2), some (.inl x3), some (.inl (x4 + 1))]) rfl ?_
        refine e_goto (tgt := 34) dX1_countSingles_80 (by decide) ?_
        exact Vh7
      · have Bc6 := Vh5.2 c6
        obtain ⟨h8, Vh8⟩ := Bc6
        refine e_iinc dX1_countSingles_74 (by decide) rfl h8 (ls' := [some (.inr (some 52)), none, some (.inl x2), some (.inl (x3 + 1)), some (.inl x4)]) rfl ?_
        obtain ⟨h9, Vh9⟩ := Vh8
        refine e_iinc dX1_countSingles_77 (by decide) rfl h9 (ls' := [some (.inr (some 52)), none, some (.inl x2), some (.inl (x3 + 1)), some (.inl (x4 + 1))]) rfl ?_
        refine e_goto (tgt := 34) dX1_countSingles_80 (by decide) ?_
        exact Vh9
set_option maxRecDepth 100000 in
set_option maxHeartbeats 4000000 in
theorem v_X1_findWay_0 {Γ : GX} {g : AG} {I J : Nat → Nat → Int} {r : Option AV} (hg : GOc g) (x1 : Int)
    (V : ((((I 52 8) ≤ (I 52 7))) → (∀ y2 : Int, y2 = (min (I 52 7) (I 52 8)) → (∀ y3 : Int, y3 = (max (I 52 7) (I 52 8)) → (inR ((I 3 2) + 1) ∧ (inR ((I 3 2) + 1) ∧ (inR (((I 3 2) + 1) * ((I 3 2) + 1)) ∧ (∀ y7 : Int, y7 = (((I 3 2) + 1) * ((I 3 2) + 1)) → (Ev Γ 3 mX1_findWay 72 [some (.inr (some 52)), some (.inl x1), some (.inl 0), some (.inl y2), some (.inl y3), some (.inl 0), some (.inl 0), some (.inl y7), some (.inl 0), none] [] (g, I) (r, (g, J)))))))))) ∧ ((¬ ((I 52 8) ≤ (I 52 7))) → (∀ y8 : Int, y8 = (min (I 52 7) (I 52 8)) → (∀ y9 : Int, y9 = (max (I 52 7) (I 52 8)) → (inR ((I 3 2) + 1) ∧ (inR ((I 3 2) + 1) ∧ (inR (((I 3 2) + 1) * ((I 3 2) + 1)) ∧ (∀ y13 : Int, y13 = (((I 3 2) + 1) * ((I 3 2) + 1)) → (Ev Γ 3 mX1_findWay 72 [some (.inr (some 52)), some (.inl x1), some (.inl 1), some (.inl y8), some (.inl y9), some (.inl 0), some (.inl 0), some (.inl y13), some (.inl 0), none] [] (g, I) (r, (g, J))))))))))) : Ev Γ 3 mX1_findWay 0 [some (.inr (some 52)), some (.inl x1), none, none, none, none, none, none, none, none] [] (g, I) (r, (g, J)) := by
  refine e_aload_n dX1_findWay_0 rfl ?_
  refine e_geti dX1_findWay_1 fO_1_67 (by decide) (gs_52 hg) rfl ?_
  refine e_aload_n dX1_findWay_4 rfl ?_
  refine e_geti dX1_findWay_5 fO_1_70 (by decide) (gs_52 hg) rfl ?_
  refine e_ic_ge (tgt := 15) dX1_findWay_8 (by decide) (fun c1 => ?_) (fun c1 => ?_)
  · have Ac1 := V.1 c1
    refine e_iconst dX1_findWay_15 ⟨by decide, by decide⟩ ?_
    refine e_istore_n dX1_findWay_16 (by decide) (ls' := [some (.inr (some 52)), some (.inl x1), some (.inl 0), none, none, none, none, none, none, none]) rfl ?_
    refine e_aload_n dX1_findWay_17 rfl ?_
    refine e_geti dX1_findWay_18 fO_1_67 (by decide) (gs_52 hg) rfl ?_
    refine e_aload_n dX1_findWay_21 rfl ?_
    refine e_geti dX1_findWay_22 fO_1_70 (by decide) (gs_52 hg) rfl ?_
    refine e_min dX1_findWay_25 cMin_1_83 (Nat.le_of_ble_eq_true rfl) (by decide) (Nat.le_refl _) (Nat.le_refl _) ?_
    refine e_top (fun y2 ey2 => ?_)
    have Wy2 := Ac1 y2 ey2
    refine e_istore_n dX1_findWay_28 (by decide) (ls' := [some (.inr (some 52)), some (.inl x1), some (.inl 0), some (.inl y2), none, none, none, none, none, none]) rfl ?_
    refine e_aload_n dX1_findWay_29 rfl ?_
    refine e_geti dX1_findWay_30 fO_1_67 (by decide) (gs_52 hg) rfl ?_
    refine e_aload_n dX1_findWay_33 rfl ?_
    refine e_geti dX1_findWay_34 fO_1_70 (by decide) (gs_52 hg) rfl ?_
    refine e_max dX1_findWay_37 cMax_1_89 (Nat.le_of_ble_eq_true rfl) (by decide) (Nat.le_refl _) (Nat.le_refl _) ?_
    refine e_top (fun y3 ey3 => ?_)
    have Wy3 := Wy2 y3 ey3
    refine e_istore dX1_findWay_40 (by decide) (ls' := [some (.inr (some 52)), some (.inl x1), some (.inl 0), some (.inl y2), some (.inl y3), none, none, none, none, none]) rfl ?_
    refine e_iconst dX1_findWay_42 ⟨by decide, by decide⟩ ?_
    refine e_istore dX1_findWay_43 (by decide) (ls' := [some (.inr (some 52)), some (.inl x1), some (.inl 0), some (.inl y2), some (.inl y3), some (.inl 0), none, none, none, none]) rfl ?_
    refine e_iconst dX1_findWay_45 ⟨by decide, by decide⟩ ?_
    refine e_istore dX1_findWay_46 (by decide) (ls' := [some (.inr (some 52)), some (.inl x1), some (.inl 0), some (.inl y2), some (.inl y3), some (.inl 0), some (.inl 0), none, none, none]) rfl ?_
    refine e_aload_n dX1_findWay_48 rfl ?_
    refine e_getr dX1_findWay_49 fO_1_37 (by decide) (gs_52 hg) rfl (gp_52_0 hg) ?_
    refine e_geti dX1_findWay_52 fO_1_60 (by decide) (gs_3 hg) rfl ?_
    refine e_iconst dX1_findWay_55 ⟨by decide, by decide⟩ ?_
    obtain ⟨h4, Vh4⟩ := Wy3
    refine e_iadd dX1_findWay_56 h4 ?_
    refine e_aload_n dX1_findWay_57 rfl ?_
    refine e_getr dX1_findWay_58 fO_1_37 (by decide) (gs_52 hg) rfl (gp_52_0 hg) ?_
    refine e_geti dX1_findWay_61 fO_1_60 (by decide) (gs_3 hg) rfl ?_
    refine e_iconst dX1_findWay_64 ⟨by decide, by decide⟩ ?_
    obtain ⟨h5, Vh5⟩ := Vh4
    refine e_iadd dX1_findWay_65 h5 ?_
    obtain ⟨h6, Vh6⟩ := Vh5
    refine e_imul dX1_findWay_66 h6 ?_
    refine e_top (fun y7 ey7 => ?_)
    have Wy7 := Vh6 y7 ey7
    refine e_istore dX1_findWay_67 (by decide) (ls' := [some (.inr (some 52)), some (.inl x1), some (.inl 0), some (.inl y2), some (.inl y3), some (.inl 0), some (.inl 0), some (.inl y7), none, none]) rfl ?_
    refine e_iconst dX1_findWay_69 ⟨by decide, by decide⟩ ?_
    refine e_istore dX1_findWay_70 (by decide) (ls' := [some (.inr (some 52)), some (.inl x1), some (.inl 0), some (.inl y2), some (.inl y3), some (.inl 0), some (.inl 0), some (.inl y7), some (.inl 0), none]) rfl ?_
    exact Wy7
  · have Bc1 := V.2 c1
    refine e_iconst dX1_findWay_11 ⟨by decide, by decide⟩ ?_
    refine e_goto (tgt := 16) dX1_findWay_12 (by decide) ?_
    refine e_istore_n dX1_findWay_16 (by decide) (ls' := [some (.inr (some 52)), some (.inl x1), some (.inl 1), none, none, none, none, none, none, none]) rfl ?_
    refine e_aload_n dX1_findWay_17 rfl ?_
    refine e_geti dX1_findWay_18 fO_1_67 (by decide) (gs_52 hg) rfl ?_
    refine e_aload_n dX1_findWay_21 rfl ?_
    refine e_geti dX1_findWay_22 fO_1_70 (by decide) (gs_52 hg) rfl ?_
    refine e_min dX1_findWay_25 cMin_1_83 (Nat.le_of_ble_eq_true rfl) (by decide) (Nat.le_refl _) (Nat.le_refl _) ?_
    refine e_top (fun y8 ey8 => ?_)
    have Wy8 := Bc1 y8 ey8
    refine e_istore_n dX1_findWay_28 (by decide) (ls' := [some (.inr (some 52)), some (.inl x1), some (.inl 1), some (.inl y8), none, none, none, none, none, none]) rfl ?_
    refine e_aload_n dX1_findWay_29 rfl ?_
    refine e_geti dX1_findWay_30 fO_1_67 (by decide) (gs_52 hg) rfl ?_
    refine e_aload_n dX1_findWay_33 rfl ?_
    refine e_geti dX1_findWay_34 fO_1_70 (by decide) (gs_52 hg) rfl ?_
    refine e_max dX1_findWay_37 cMax_1_89 (Nat.le_of_ble_eq_true rfl) (by decide) (Nat.le_refl _) (Nat.le_refl _) ?_
    refine e_top (fun y9 ey9 => ?_)
    have Wy9 := Wy8 y9 ey9
    refine e_istore dX1_findWay_40 (by decide) (ls' := [some (.inr (some 52)), some (.inl x1), some (.inl 1), some (.inl y8), some (.inl y9), none, none, none, none, none]) rfl ?_
    refine e_iconst dX1_findWay_42 ⟨by decide, by decide⟩ ?_
    refine e_istore dX1_findWay_43 (by decide) (ls' := [some (.inr (some 52)), some (.inl x1), some (.inl 1), some (.inl y8), some (.inl y9), some (.inl 0), none, none, none, none]) rfl ?_
    refine e_iconst dX1_findWay_45 ⟨by decide, by decide⟩ ?_
    refine e_istore dX1_findWay_46 (by decide) (ls' := [some (.inr (some 52)), some (.inl x1), some (.inl 1), some (.inl y8), some (.inl y9), some (.inl 0), some (.inl 0), none, none, none]) rfl ?_
    refine e_aload_n dX1_findWay_48 rfl ?_
    refine e_getr dX1_findWay_49 fO_1_37 (by decide) (gs_52 hg) rfl (gp_52_0 hg) ?_
    refine e_geti dX1_findWay_52 fO_1_60 (by decide) (gs_3 hg) rfl ?_
    refine e_iconst dX1_findWay_55 ⟨by decide, by decide⟩ ?_
    obtain ⟨h10, Vh10⟩ := Wy9
    refine e_iadd dX1_findWay_56 h10 ?_
    refine e_aload_n dX1_findWay_57 rfl ?_
    refine e_getr dX1_findWay_58 fO_1_37 (by decide) (gs_52 hg) rfl (gp_52_0 hg) ?_
    refine e_geti dX1_findWay_61 fO_1_60 (by decide) (gs_3 hg) rfl ?_
    refine e_iconst dX1_findWay_64 ⟨by decide, by decide⟩ ?_
    obtain ⟨h11, Vh11⟩ := Vh10
    refine e_iadd dX1_findWay_65 h11 ?_
    obtain ⟨h12, Vh12⟩ := Vh11
    refine e_imul dX1_findWay_66 h12 ?_
    refine e_top (fun y13 ey13 => ?_)
    have Wy13 := Vh12 y13 ey13
    refine e_istore dX1_findWay_67 (by decide) (ls' := [some (.inr (some 52)), some (.inl x1), some (.inl 1), some (.inl y8), some (.inl y9), some (.inl 0), some (.inl 0), some (.inl y13), none, none]) rfl ?_
    refine e_iconst dX1_findWay_69 ⟨by decide, by decide⟩ ?_
    refine e_istore dX1_findWay_70 (by decide) (ls' := [some (.inr (some 52)), some (.inl x1), some (.inl 1), some (.inl y8), some (.inl y9), some (.inl 0), some (.inl 0), some (.inl y13), some (.inl 0), none]) rfl ?_
    exact Wy13
set_option maxRecDepth 100000 in
set_option maxHeartbeats 4000000 in
theorem v_X1_findWay_72 {Γ : GX} {g : AG} {I J : Nat → Nat → Int} {r : Option AV} (hg : GOc g) (x1 : Int) (x2 : Int) (x3 : Int) (x4 : Int) (x5 : Int) (x6 : Int) (x7 : Int) (x8 : Int)
    (V : (((x7 ≤ x8)) → (r = some (.inl 0) ∧ J = I)) ∧ ((¬ (x7 ≤ x8)) → ((((x2 = 0)) → (∀ I3 : Nat → Nat → Int, I3 = mset I 52 9 x6 → ((((x2 = 0)) → (∀ I5 : Nat → Nat → Int, I5 = mset I3 52 10 x5 → (∃ (r8 : Int) (J6 : Nat → Nat → Int), CT Γ 2 mX1_firstFailing [.inr (some 52), .inl x1] (g, I5) (some (.inl r8), (g, J6)) ∧ ((((r8 < (J6 15 2))) → ((((r8 ≤ x4)) → ((((r8 ≤ x3)) → (r = some (.inl 0) ∧ J = J6)) ∧ ((¬ (r8 ≤ x3)) → (inR (x5 + 1) ∧ (Ev Γ 3 mX1_findWay 160 [some (.inr (some 52)), some (.inl x1), some (.inl x2), some (.inl x3), some (.inl x4), some (.inl (x5 + 1)), some (.inl 0), some (.inl x7), some (.inl x8), none] [] (g, J6) (r, (g, J))))))) ∧ ((¬ (r8 ≤ x4)) → (inR (x6 + 1) ∧ (Ev Γ 3 mX1_findWay 160 [some (.inr (some 52)), some (.inl x1), some (.inl x2), some (.inl x3), some (.inl x4), some (.inl x5), some (.inl (x6 + 1)), some (.inl x7), some (.inl x8), none] [] (g, J6) (r, (g, J))))))) ∧ ((¬ (r8 < (J6 15 2))) → (r = some (.inl 1) ∧ J = J6)))))) ∧ ((¬ (x2 = 0)) → (∀ I14 : Nat → Nat → Int, I14 = mset I3 52 10 x6 → (∃ (r17 : Int) (J15 : Nat → Nat → Int), CT Γ 2 mX1_firstFailing [.inr (some 52), .inl x1] (g, I14) (some (.inl r17), (g, J15)) ∧ ((((r17 < (J15 15 2))) → ((((r17 ≤ x4)) → ((((r17 ≤ x3)) → (r = some (.inl 0) ∧ J = J15)) ∧ ((¬ (r17 ≤ x3)) → (inR (x5 + 1) ∧ (Ev Γ 3 mX1_findWay 160 [some (.inr (some 52)), some (.inl x1), some (.inl x2), some (.inl x3), some (.inl x4), some (.inl (x5 + 1)), some (.inl 0), some (.inl x7), some (.inl x8), none] [] (g, J15) (r, (g, J))))))) ∧ ((¬ (r17 ≤ x4)) → (inR (x6 + 1) ∧ (Ev Γ 3 mX1_findWay 160 [some (.inr (some 52)), some (.inl x1), some (.inl x2), some (.inl x3), some (.inl x4), some (.inl x5), some (.inl (x6 + 1)), some (.inl x7), some (.inl x8), none] [] (g, J15) (r, (g, J))))))) ∧ ((¬ (r17 < (J15 15 2))) → (r = some (.inl 1) ∧ J = J15))))))))) ∧ ((¬ (x2 = 0)) → (∀ I23 : Nat → Nat → Int, I23 = mset I 52 9 x5 → ((((x2 = 0)) → (∀ I25 : Nat → Nat → Int, I25 = mset I23 52 10 x5 → (∃ (r28 : Int) (J26 : Nat → Nat → Int), CT Γ 2 mX1_firstFailing [.inr (some 52), .inl x1] (g, I25) (some (.inl r28), (g, J26)) ∧ ((((r28 < (J26 15 2))) → ((((r28 ≤ x4)) → ((((r28 ≤ x3)) → (r = some (.inl 0) ∧ J = J26)) ∧ ((¬ (r28 ≤ x3)) → (inR (x5 + 1) ∧ (Ev Γ 3 mX1_findWay 160 [some (.inr (some 52)), some (.inl x1), some (.inl x2), some (.inl x3), some (.inl x4), some (.inl (x5 + 1)), some (.inl 0), some (.inl x7), some (.inl x8), none] [] (g, J26) (r, (g, J))))))) ∧ ((¬ (r28 ≤ x4)) → (inR (x6 + 1) ∧ (Ev Γ 3 mX1_findWay 160 [some (.inr (some 52)), some (.inl x1), some (.inl x2), some (.inl x3), some (.inl x4), some (.inl x5), some (.inl (x6 + 1)), some (.inl x7), some (.inl x8), none] [] (g, J26) (r, (g, J))))))) ∧ ((¬ (r28 < (J26 15 2))) → (r = some (.inl 1) ∧ J = J26)))))) ∧ ((¬ (x2 = 0)) → (∀ I34 : Nat → Nat → Int, I34 = mset I23 52 10 x6 → (∃ (r37 : Int) (J35 : Nat → Nat → Int), CT Γ 2 mX1_firstFailing [.inr (some 52), .inl x1] (g, I34) (some (.inl r37), (g, J35)) ∧ ((((r37 < (J35 15 2))) → ((((r37 ≤ x4)) → ((((r37 ≤ x3)) → (r = some (.inl 0) ∧ J = J35)) ∧ ((¬ (r37 ≤ x3)) → (inR (x5 + 1) ∧ (Ev Γ 3 mX1_findWay 160 [some (.inr (some 52)), some (.inl x1), some (.inl x2), some (.inl x3), some (.inl x4), some (.inl (x5 + 1)), some (.inl 0), some (.inl x7), some (.inl x8), none] [] (g, J35) (r, (g, J))))))) ∧ ((¬ (r37 ≤ x4)) → (inR (x6 + 1) ∧ (Ev Γ 3 mX1_findWay 160 [some (.inr (some 52)), some (.inl x1), some (.inl x2), some (.inl x3), some (.inl x4), some (.inl x5), some (.inl (x6 + 1)), some (.inl x7), some (.inl x8), none] [] (g, J35) (r, (g, J))))))) ∧ ((¬ (r37 < (J35 15 2))) → (r = some (.inl 1) ∧ J = J35)))))))))))) : Ev Γ 3 mX1_findWay 72 [some (.inr (some 52)), some (.inl x1), some (.inl x2), some (.inl x3), some (.inl x4), some (.inl x5), some (.inl x6), some (.inl x7), some (.inl x8), none] [] (g, I) (r, (g, J)) := by
  refine e_iload dX1_findWay_72 rfl ?_
  refine e_iload dX1_findWay_74 rfl ?_
  refine e_ic_ge (tgt := 166) dX1_findWay_76 (by decide) (fun c1 => ?_) (fun c1 => ?_)
  · have Ac1 := V.1 c1
    refine e_iconst dX1_findWay_166 ⟨by decide, by decide⟩ ?_
    exact e_zret dX1_findWay_167 rfl (by decide) (by rw [Ac1.1, Ac1.2])
  · have Bc1 := V.2 c1
    refine e_aload_n dX1_findWay_79 rfl ?_
    refine e_iload_n dX1_findWay_80 rfl ?_
    refine e_if_eq (tgt := 89) dX1_findWay_81 (by decide) (fun c2 => ?_) (fun c2 => ?_)
    · have Ac2 := Bc1.1 c2
      refine e_iload dX1_findWay_89 rfl ?_
      refine e_puti dX1_findWay_91 fO_1_92 (by decide) (gs_52 hg) rfl rfl ?_
      refine e_mem (fun I3 eI3 => ?_)
      have WI3 := Ac2 I3 eI3
      refine e_aload_n dX1_findWay_94 rfl ?_
      refine e_iload_n dX1_findWay_95 rfl ?_
      refine e_if_eq (tgt := 104) dX1_findWay_96 (by decide) (fun c4 => ?_) (fun c4 => ?_)
      · have Ac4 := WI3.1 c4
        refine e_iload dX1_findWay_104 rfl ?_
        refine e_puti dX1_findWay_106 fO_1_95 (by decide) (gs_52 hg) rfl rfl ?_
        refine e_mem (fun I5 eI5 => ?_)
        have WI5 := Ac4 I5 eI5
        refine e_aload_n dX1_findWay_109 rfl ?_
        refine e_iload_n dX1_findWay_110 rfl ?_
        obtain ⟨r8, J6, h7, Vh7⟩ := WI5
        refine e_callv (av := [.inl x1]) (st := []) dX1_findWay_111 cO_1_98 oX1_firstFailing rfl (by decide) (gs_52 hg) rfl (Nat.le_of_ble_eq_true rfl) (by decide) h7 (Nat.le_refl _) (Nat.le_refl _) rfl rfl ?_
        refine e_istore dX1_findWay_114 (by decide) (ls' := [some (.inr (some 52)), some (.inl x1), some (.inl x2), some (.inl x3), some (.inl x4), some (.inl x5), some (.inl x6), some (.inl x7), some (.inl x8), some (.inl r8)]) rfl ?_
        refine e_iload dX1_findWay_116 rfl ?_
        refine e_aload_n dX1_findWay_118 rfl ?_
        refine e_getr dX1_findWay_119 fO_1_41 (by decide) (gs_52 hg) rfl (gp_52_1 hg) ?_
        refine e_geti dX1_findWay_122 fO_1_60 (by decide) (gs_15 hg) rfl ?_
        refine e_ic_lt (tgt := 130) dX1_findWay_125 (by decide) (fun c9 => ?_) (fun c9 => ?_)
        · have Ac9 := Vh7.1 c9
          refine e_iload dX1_findWay_130 rfl ?_
          refine e_iload dX1_findWay_132 rfl ?_
          refine e_ic_le (tgt := 143) dX1_findWay_134 (by decide) (fun c10 => ?_) (fun c10 => ?_)
          · have Ac10 := Ac9.1 c10
            refine e_iload dX1_findWay_143 rfl ?_
            refine e_iload_n dX1_findWay_145 rfl ?_
            refine e_ic_le (tgt := 158) dX1_findWay_146 (by decide) (fun c11 => ?_) (fun c11 => ?_)
            · have Ac11 := Ac10.1 c11
              refine e_iconst dX1_findWay_158 ⟨by decide, by decide⟩ ?_
              exact e_zret dX1_findWay_159 rfl (by decide) (by rw [Ac11.1, Ac11.2])
            · have Bc11 := Ac10.2 c11
              obtain ⟨h12, Vh12⟩ := Bc11
              refine e_iinc dX1_findWay_149 (by decide) rfl h12 (ls' := [some (.inr (some 52)), some (.inl x1), some (.inl x2), some (.inl x3), some (.inl x4), some (.inl (x5 + 1)), some (.inl x6), some (.inl x7), some (.inl x8), some (.inl r8)]) rfl ?_
              refine e_iconst dX1_findWay_152 ⟨by decide, by decide⟩ ?_
              refine e_istore dX1_findWay_153 (by decide) (ls' := [some (.inr (some 52)), some (.inl x1), some (.inl x2), some (.inl x3), some (.inl x4), some (.inl (x5 + 1)), some (.inl 0), some (.inl x7), some (.inl x8), some (.inl r8)]) rfl ?_
              refine e_goto (tgt := 160) dX1_findWay_155 (by decide) ?_
              refine ev_drop (ls' := [some (.inr (some 52)), some (.inl x1), some (.inl x2), some (.inl x3), some (.inl x4), some (.inl (x5 + 1)), some (.inl 0), some (.inl x7), some (.inl x8), none]) 9 rfl ?_
              exact Vh12
          · have Bc10 := Ac9.2 c10
            obtain ⟨h13, Vh13⟩ := Bc10
            refine e_iinc dX1_findWay_137 (by decide) rfl h13 (ls' := [some (.inr (some 52)), some (.inl x1), some (.inl x2), some (.inl x3), some (.inl x4), some (.inl x5), some (.inl (x6 + 1)), some (.inl x7), some (.inl x8), some (.inl r8)]) rfl ?_
            refine e_goto (tgt := 160) dX1_findWay_140 (by decide) ?_
            refine ev_drop (ls' := [some (.inr (some 52)), some (.inl x1), some (.inl x2), some (.inl x3), some (.inl x4), some (.inl x5), some (.inl (x6 + 1)), some (.inl x7), some (.inl x8), none]) 9 rfl ?_
            exact Vh13
        · have Bc9 := Vh7.2 c9
          refine e_iconst dX1_findWay_128 ⟨by decide, by decide⟩ ?_
          exact e_zret dX1_findWay_129 rfl (by decide) (by rw [Bc9.1, Bc9.2])
      · have Bc4 := WI3.2 c4
        refine e_iload dX1_findWay_99 rfl ?_
        refine e_goto (tgt := 106) dX1_findWay_101 (by decide) ?_
        refine e_puti dX1_findWay_106 fO_1_95 (by decide) (gs_52 hg) rfl rfl ?_
        refine e_mem (fun I14 eI14 => ?_)
        have WI14 := Bc4 I14 eI14
        refine e_aload_n dX1_findWay_109 rfl ?_
        refine e_iload_n dX1_findWay_110 rfl ?_
        obtain ⟨r17, J15, h16, Vh16⟩ := WI14
        refine e_callv (av := [.inl x1]) (st := []) dX1_findWay_111 cO_1_98 oX1_firstFailing rfl (by decide) (gs_52 hg) rfl (Nat.le_of_ble_eq_true rfl) (by decide) h16 (Nat.le_refl _) (Nat.le_refl _) rfl rfl ?_
        refine e_istore dX1_findWay_114 (by decide) (ls' := [some (.inr (some 52)), some (.inl x1), some (.inl x2), some (.inl x3), some (.inl x4), some (.inl x5), some (.inl x6), some (.inl x7), some (.inl x8), some (.inl r17)]) rfl ?_
        refine e_iload dX1_findWay_116 rfl ?_
        refine e_aload_n dX1_findWay_118 rfl ?_
        refine e_getr dX1_findWay_119 fO_1_41 (by decide) (gs_52 hg) rfl (gp_52_1 hg) ?_
        refine e_geti dX1_findWay_122 fO_1_60 (by decide) (gs_15 hg) rfl ?_
        refine e_ic_lt (tgt := 130) dX1_findWay_125 (by decide) (fun c18 => ?_) (fun c18 => ?_)
        · have Ac18 := Vh16.1 c18
          refine e_iload dX1_findWay_130 rfl ?_
          refine e_iload dX1_findWay_132 rfl ?_
          refine e_ic_le (tgt := 143) dX1_findWay_134 (by decide) (fun c19 => ?_) (fun c19 => ?_)
          · have Ac19 := Ac18.1 c19
            refine e_iload dX1_findWay_143 rfl ?_
            refine e_iload_n dX1_findWay_145 rfl ?_
            refine e_ic_le (tgt := 158) dX1_findWay_146 (by decide) (fun c20 => ?_) (fun c20 => ?_)
            · have Ac20 := Ac19.1 c20
              refine e_iconst dX1_findWay_158 ⟨by decide, by decide⟩ ?_
              exact e_zret dX1_findWay_159 rfl (by decide) (by rw [Ac20.1, Ac20.2])
            · have Bc20 := Ac19.2 c20
              obtain ⟨h21, Vh21⟩ := Bc20
              refine e_iinc dX1_findWay_149 (by decide) rfl h21 (ls' := [some (.inr (some 52)), some (.inl x1), some (.inl x2), some (.inl x3), some (.inl x4), some (.inl (x5 + 1)), some (.inl x6), some (.inl x7), some (.inl x8), some (.inl r17)]) rfl ?_
              refine e_iconst dX1_findWay_152 ⟨by decide, by decide⟩ ?_
              refine e_istore dX1_findWay_153 (by decide) (ls' := [some (.inr (some 52)), some (.inl x1), some (.inl x2), some (.inl x3), some (.inl x4), some (.inl (x5 + 1)), some (.inl 0), some (.inl x7), some (.inl x8), some (.inl r17)]) rfl ?_
              refine e_goto (tgt := 160) dX1_findWay_155 (by decide) ?_
              refine ev_drop (ls' := [some (.inr (some 52)), some (.inl x1), some (.inl x2), some (.inl x3), some (.inl x4), some (.inl (x5 + 1)), some (.inl 0), some (.inl x7), some (.inl x8), none]) 9 rfl ?_
              exact Vh21
          · have Bc19 := Ac18.2 c19
            obtain ⟨h22, Vh22⟩ := Bc19
            refine e_iinc dX1_findWay_137 (by decide) rfl h22 (ls' := [some (.inr (some 52)), some (.inl x1), some (.inl x2), some (.inl x3), some (.inl x4), some (.inl x5), some (.inl (x6 + 1)), some (.inl x7), some (.inl x8), some (.inl r17)]) rfl ?_
            refine e_goto (tgt := 160) dX1_findWay_140 (by decide) ?_
            refine ev_drop (ls' := [some (.inr (some 52)), some (.inl x1), some (.inl x2), some (.inl x3), some (.inl x4), some (.inl x5), some (.inl (x6 + 1)), some (.inl x7), some (.inl x8), none]) 9 rfl ?_
            exact Vh22
        · have Bc18 := Vh16.2 c18
          refine e_iconst dX1_findWay_128 ⟨by decide, by decide⟩ ?_
          exact e_zret dX1_findWay_129 rfl (by decide) (by rw [Bc18.1, Bc18.2])
    · have Bc2 := Bc1.2 c2
      refine e_iload dX1_findWay_84 rfl ?_
      refine e_goto (tgt := 91) dX1_findWay_86 (by decide) ?_
      refine e_puti dX1_findWay_91 fO_1_92 (by decide) (gs_52 hg) rfl rfl ?_
      refine e_mem (fun I23 eI23 => ?_)
      have WI23 := Bc2 I23 eI23
      refine e_aload_n dX1_findWay_94 rfl ?_
      refine e_iload_n dX1_findWay_95 rfl ?_
      refine e_if_eq (tgt := 104) dX1_findWay_96 (by decide) (fun c24 => ?_) (fun c24 => ?_)
      · have Ac24 := WI23.1 c24
        refine e_iload dX1_findWay_104 rfl ?_
        refine e_puti dX1_findWay_106 fO_1_95 (by decide) (gs_52 hg) rfl rfl ?_
        refine e_mem (fun I25 eI25 => ?_)
        have WI25 := Ac24 I25 eI25
        refine e_aload_n dX1_findWay_109 rfl ?_
        refine e_iload_n dX1_findWay_110 rfl ?_
        obtain ⟨r28, J26, h27, Vh27⟩ := WI25
        refine e_callv (av := [.inl x1]) (st := []) dX1_findWay_111 cO_1_98 oX1_firstFailing rfl (by decide) (gs_52 hg) rfl (Nat.le_of_ble_eq_true rfl) (by decide) h27 (Nat.le_refl _) (Nat.le_refl _) rfl rfl ?_
        refine e_istore dX1_findWay_114 (by decide) (ls' := [some (.inr (some 52)), some (.inl x1), some (.inl x2), some (.inl x3), some (.inl x4), some (.inl x5), some (.inl x6), some (.inl x7), some (.inl x8), some (.inl r28)]) rfl ?_
        refine e_iload dX1_findWay_116 rfl ?_
        refine e_aload_n dX1_findWay_118 rfl ?_
        refine e_getr dX1_findWay_119 fO_1_41 (by decide) (gs_52 hg) rfl (gp_52_1 hg) ?_
        refine e_geti dX1_findWay_122 fO_1_60 (by decide) (gs_15 hg) rfl ?_
        refine e_ic_lt (tgt := 130) dX1_findWay_125 (by decide) (fun c29 => ?_) (fun c29 => ?_)
        · have Ac29 := Vh27.1 c29
          refine e_iload dX1_findWay_130 rfl ?_
          refine e_iload dX1_findWay_132 rfl ?_
          refine e_ic_le (tgt := 143) dX1_findWay_134 (by decide) (fun c30 => ?_) (fun c30 => ?_)
          · have Ac30 := Ac29.1 c30
            refine e_iload dX1_findWay_143 rfl ?_
            refine e_iload_n dX1_findWay_145 rfl ?_
            refine e_ic_le (tgt := 158) dX1_findWay_146 (by decide) (fun c31 => ?_) (fun c31 => ?_)
            · have Ac31 := Ac30.1 c31
              refine e_iconst dX1_findWay_158 ⟨by decide, by decide⟩ ?_
              exact e_zret dX1_findWay_159 rfl (by decide) (by rw [Ac31.1, Ac31.2])
            · have Bc31 := Ac30.2 c31
              obtain ⟨h32, Vh32⟩ := Bc31
              refine e_iinc dX1_findWay_149 (by decide) rfl h32 (ls' := [some (.inr (some 52)), some (.inl x1), some (.inl x2), some (.inl x3), some (.inl x4), some (.inl (x5 + 1)), some (.inl x6), some (.inl x7), some (.inl x8), some (.inl r28)]) rfl ?_
              refine e_iconst dX1_findWay_152 ⟨by decide, by decide⟩ ?_
              refine e_istore dX1_findWay_153 (by decide) (ls' := [some (.inr (some 52)), some (.inl x1), some (.inl x2), some (.inl x3), some (.inl x4), some (.inl (x5 + 1)), some (.inl 0), some (.inl x7), some (.inl x8), some (.inl r28)]) rfl ?_
              refine e_goto (tgt := 160) dX1_findWay_155 (by decide) ?_
              refine ev_drop (ls' := [some (.inr (some 52)), some (.inl x1), some (.inl x2), some (.inl x3), some (.inl x4), some (.inl (x5 + 1)), some (.inl 0), some (.inl x7), some (.inl x8), none]) 9 rfl ?_
              exact Vh32
          · have Bc30 := Ac29.2 c30
            obtain ⟨h33, Vh33⟩ := Bc30
            refine e_iinc dX1_findWay_137 (by decide) rfl h33 (ls' := [some (.inr (some 52)), some (.inl x1), some (.inl x2), some (.inl x3), some (.inl x4), some (.inl x5), some (.inl (x6 + 1)), some (.inl x7), some (.inl x8), some (.inl r28)]) rfl ?_
            refine e_goto (tgt := 160) dX1_findWay_140 (by decide) ?_
            refine ev_drop (ls' := [some (.inr (some 52)), some (.inl x1), some (.inl x2), some (.inl x3), some (.inl x4), some (.inl x5), some (.inl (x6 + 1)), some (.inl x7), some (.inl x8), none]) 9 rfl ?_
            exact Vh33
        · have Bc29 := Vh27.2 c29
          refine e_iconst dX1_findWay_128 ⟨by decide, by decide⟩ ?_
          exact e_zret dX1_findWay_129 rfl (by decide) (by rw [Bc29.1, Bc29.2])
      · have Bc24 := WI23.2 c24
        refine e_iload dX1_findWay_99 rfl ?_
        refine e_goto (tgt := 106) dX1_findWay_101 (by decide) ?_
        refine e_puti dX1_findWay_106 fO_1_95 (by decide) (gs_52 hg) rfl rfl ?_
        refine e_mem (fun I34 eI34 => ?_)
        have WI34 := Bc24 I34 eI34
        refine e_aload_n dX1_findWay_109 rfl ?_
        refine e_iload_n dX1_findWay_110 rfl ?_
        obtain ⟨r37, J35, h36, Vh36⟩ := WI34
        refine e_callv (av := [.inl x1]) (st := []) dX1_findWay_111 cO_1_98 oX1_firstFailing rfl (by decide) (gs_52 hg) rfl (Nat.le_of_ble_eq_true rfl) (by decide) h36 (Nat.le_refl _) (Nat.le_refl _) rfl rfl ?_
        refine e_istore dX1_findWay_114 (by decide) (ls' := [some (.inr (some 52)), some (.inl x1), some (.inl x2), some (.inl x3), some (.inl x4), some (.inl x5), some (.inl x6), some (.inl x7), some (.inl x8), some (.inl r37)]) rfl ?_
        refine e_iload dX1_findWay_116 rfl ?_
        refine e_aload_n dX1_findWay_118 rfl ?_
        refine e_getr dX1_findWay_119 fO_1_41 (by decide) (gs_52 hg) rfl (gp_52_1 hg) ?_
        refine e_geti dX1_findWay_122 fO_1_60 (by decide) (gs_15 hg) rfl ?_
        refine e_ic_lt (tgt := 130) dX1_findWay_125 (by decide) (fun c38 => ?_) (fun c38 => ?_)
        · have Ac38 := Vh36.1 c38
          refine e_iload dX1_findWay_130 rfl ?_
          refine e_iload dX1_findWay_132 rfl ?_
          refine e_ic_le (tgt := 143) dX1_findWay_134 (by decide) (fun c39 => ?_) (fun c39 => ?_)
          · have Ac39 := Ac38.1 c39
            refine e_iload dX1_findWay_143 rfl ?_
            refine e_iload_n dX1_findWay_145 rfl ?_
            refine e_ic_le (tgt := 158) dX1_findWay_146 (by decide) (fun c40 => ?_) (fun c40 => ?_)
            · have Ac40 := Ac39.1 c40
              refine e_iconst dX1_findWay_158 ⟨by decide, by decide⟩ ?_
              exact e_zret dX1_findWay_159 rfl (by decide) (by rw [Ac40.1, Ac40.2])
            · have Bc40 := Ac39.2 c40
              obtain ⟨h41, Vh41⟩ := Bc40
              refine e_iinc dX1_findWay_149 (by decide) rfl h41 (ls' := [some (.inr (some 52)), some (.inl x1), some (.inl x2), some (.inl x3), some (.inl x4), some (.inl (x5 + 1)), some (.inl x6), some (.inl x7), some (.inl x8), some (.inl r37)]) rfl ?_
              refine e_iconst dX1_findWay_152 ⟨by decide, by decide⟩ ?_
              refine e_istore dX1_findWay_153 (by decide) (ls' := [some (.inr (some 52)), some (.inl x1), some (.inl x2), some (.inl x3), some (.inl x4), some (.inl (x5 + 1)), some (.inl 0), some (.inl x7), some (.inl x8), some (.inl r37)]) rfl ?_
              refine e_goto (tgt := 160) dX1_findWay_155 (by decide) ?_
              refine ev_drop (ls' := [some (.inr (some 52)), some (.inl x1), some (.inl x2), some (.inl x3), some (.inl x4), some (.inl (x5 + 1)), some (.inl 0), some (.inl x7), some (.inl x8), none]) 9 rfl ?_
              exact Vh41
          · have Bc39 := Ac38.2 c39
            obtain ⟨h42, Vh42⟩ := Bc39
            refine e_iinc dX1_findWay_137 (by decide) rfl h42 (ls' := [some (.inr (some 52)), some (.inl x1), some (.inl x2), some (.inl x3), some (.inl x4), some (.inl x5), some (.inl (x6 + 1)), some (.inl x7), some (.inl x8), some (.inl r37)]) rfl ?_
            refine e_goto (tgt := 160) dX1_findWay_140 (by decide) ?_
            refine ev_drop (ls' := [some (.inr (some 52)), some (.inl x1), some (.inl x2), some (.inl x3), some (.inl x4), some (.inl x5), some (.inl (x6 + 1)), some (.inl x7), some (.inl x8), none]) 9 rfl ?_
            exact Vh42
        · have Bc38 := Vh36.2 c38
          refine e_iconst dX1_findWay_128 ⟨by decide, by decide⟩ ?_
          exact e_zret dX1_findWay_129 rfl (by decide) (by rw [Bc38.1, Bc38.2])
set_option maxRecDepth 100000 in
set_option maxHeartbeats 4000000 in
theorem v_X1_findWay_160 {Γ : GX} {g : AG} {I J : Nat → Nat → Int} {r : Option AV} (hg : GOc g) (x1 : Int) (x2 : Int) (x3 : Int) (x4 : Int) (x5 : Int) (x6 : Int) (x7 : Int) (x8 : Int)
    (V : inR (x8 + 1) ∧ (Ev Γ 3 mX1_findWay 72 [some (.inr (some 52)), some (.inl x1), some (.inl x2), some (.inl x3), some (.inl x4), some (.inl x5), some (.inl x6), some (.inl x7), some (.inl (x8 + 1)), none] [] (g, I) (r, (g, J)))) : Ev Γ 3 mX1_findWay 160 [some (.inr (some 52)), some (.inl x1), some (.inl x2), some (.inl x3), some (.inl x4), some (.inl x5), some (.inl x6), some (.inl x7), some (.inl x8), none] [] (g, I) (r, (g, J)) := by
  obtain ⟨h1, Vh1⟩ := V
  refine e_iinc dX1_findWay_160 (by decide) rfl h1 (ls' := [some (.inr (some 52)), some (.inl x1), some (.inl x2), some (.inl x3), some (.inl x4), some (.inl x5), some (.inl x6), some (.inl x7), some (.inl (x8 + 1)), none]) rfl ?_
  refine e_goto (tgt := 72) dX1_findWay_163 (by decide) ?_
  exact Vh1
set_option maxRecDepth 100000 in
set_option maxHeartbeats 4000000 in
theorem v_X1_firstFailing_0 {Γ : GX} {g : AG} {I J : Nat → Nat → Int} {r : Option AV} (hg : GOc g) (x1 : Int)
    (V : Ev Γ 2 mX1_firstFailing 2 [some (.inr (some 52)), some (.inl x1), some (.inl 0), none] [] (g, I) (r, (g, J))) : Ev Γ 2 mX1_firstFailing 0 [some (.inr (some 52)), some (.inl x1), none, none] [] (g, I) (r, (g, J)) := by
  refine e_iconst dX1_firstFailing_0 ⟨by decide, by decide⟩ ?_
  refine e_istore_n dX1_firstFailing_1 (by decide) (ls' := [some (.inr (some 52)), some (.inl x1), some (.inl 0), none]) rfl ?_
  exact V
set_option maxRecDepth 100000 in
set_option maxHeartbeats 4000000 in
theorem v_X1_firstFailing_2 {Γ : GX} {g : AG} {I J : Nat → Nat → Int} {r : Option AV} (hg : GOc g) (x1 : Int) (x2 : Int)
    (V : ((((I 15 2) ≤ x2)) → (r = some (.inl (I 15 2)) ∧ J = I)) ∧ ((¬ ((I 15 2) ≤ x2)) → (((0 : Int) ≤ x2 ∧ (x2 : Int) < 120) ∧ (((¬ ((I 17 x2.toNat) = 2)) → (∃ (r6 : Int) (J4 : Nat → Nat → Int), CT Γ 1 mX1_seatPiece [.inr (some 52), .inl x2, .inl x1] (g, I) (some (.inl r6), (g, J4)) ∧ (((¬ (r6 = 0)) → (((0 : Int) ≤ x2 ∧ (x2 : Int) < 120) ∧ (((¬ ((J4 17 x2.toNat) = 0)) → (((0 : Int) ≤ x2 ∧ (x2 : Int) < 120) ∧ (((¬ ((J4 17 x2.toNat) = 1)) → (((0 : Int) ≤ x2 ∧ (x2 : Int) < 120) ∧ (((0 : Int) ≤ (J4 53 x2.toNat) ∧ ((J4 53 x2.toNat) : Int) < 120) ∧ (((((J4 11 (J4 53 x2.toNat).toNat) ≤ (J4 52 10))) → (r = some (.inl x2) ∧ J = J4)) ∧ ((¬ ((J4 11 (J4 53 x2.toNat).toNat) ≤ (J4 52 10))) → (inR (x2 + 1) ∧ (Ev Γ 2 mX1_firstFailing 2 [some (.inr (some 52)), some (.inl x1), some (.inl (x2 + 1)), none] [] (g, J4) (r, (g, J))))))))) ∧ ((((J4 17 x2.toNat) = 1)) → (((0 : Int) ≤ x2 ∧ (x2 : Int) < 120) ∧ (∃ (r21 : Int) (J19 : Nat → Nat → Int), CT Γ 1 mX1_holeFits [.inr (some 52), .inl x2, .inl (J4 53 x2.toNat)] (g, J4) (some (.inl r21), (g, J19)) ∧ (((¬ (r21 = 0)) → (inR (x2 + 1) ∧ (Ev Γ 2 mX1_firstFailing 2 [some (.inr (some 52)), some (.inl x1), some (.inl (x2 + 1)), none] [] (g, J19) (r, (g, J))))) ∧ (((r21 = 0)) → (r = some (.inl x2) ∧ J = J19))))))))) ∧ ((((J4 17 x2.toNat) = 0)) → (((0 : Int) ≤ x2 ∧ (x2 : Int) < 120) ∧ (∃ (r27 : Int) (J25 : Nat → Nat → Int), CT Γ 1 mX1_termFits [.inr (some 52), .inl x2, .inl (J4 53 x2.toNat)] (g, J4) (some (.inl r27), (g, J25)) ∧ (((¬ (r27 = 0)) → (inR (x2 + 1) ∧ (Ev Γ 2 mX1_firstFailing 2 [some (.inr (some 52)), some (.inl x1), some (.inl (x2 + 1)), none] [] (g, J25) (r, (g, J))))) ∧ (((r27 = 0)) → (r = some (.inl x2) ∧ J = J25))))))))) ∧ (((r6 = 0)) → (r = some (.inl x2) ∧ J = J4))))) ∧ ((((I 17 x2.toNat) = 2)) → (∃ (r33 : Int) (J31 : Nat → Nat → Int), CT Γ 1 mX1_rowFits [.inr (some 52), .inl x2] (g, I) (some (.inl r33), (g, J31)) ∧ (((¬ (r33 = 0)) → (inR (x2 + 1) ∧ (Ev Γ 2 mX1_firstFailing 2 [some (.inr (some 52)), some (.inl x1), some (.inl (x2 + 1)), none] [] (g, J31) (r, (g, J))))) ∧ (((r33 = 0)) → (r = some (.inl x2) ∧ J = J31))))))))) : Ev Γ 2 mX1_firstFailing 2 [some (.inr (some 52)), some (.inl x1), some (.inl x2), none] [] (g, I) (r, (g, J)) := by
  refine e_iload_n dX1_firstFailing_2 rfl ?_
  refine e_aload_n dX1_firstFailing_3 rfl ?_
  refine e_getr dX1_firstFailing_4 fO_1_41 (by decide) (gs_52 hg) rfl (gp_52_1 hg) ?_
  refine e_geti dX1_firstFailing_7 fO_1_60 (by decide) (gs_15 hg) rfl ?_
  refine e_ic_ge (tgt := 143) dX1_firstFailing_10 (by decide) (fun c1 => ?_) (fun c1 => ?_)
  · have Ac1 := V.1 c1
    refine e_aload_n dX1_firstFailing_143 rfl ?_
    refine e_getr dX1_firstFailing_144 fO_1_41 (by decide) (gs_52 hg) rfl (gp_52_1 hg) ?_
    refine e_geti dX1_firstFailing_147 fO_1_60 (by decide) (gs_15 hg) rfl ?_
    exact e_iret dX1_firstFailing_150 rfl (by rw [Ac1.1, Ac1.2])
  · have Bc1 := V.2 c1
    refine e_aload_n dX1_firstFailing_13 rfl ?_
    refine e_getr dX1_firstFailing_14 fO_1_41 (by decide) (gs_52 hg) rfl (gp_52_1 hg) ?_
    refine e_getr dX1_firstFailing_17 fO_1_77 (by decide) (gs_15 hg) rfl (gp_15_3 hg) ?_
    refine e_iload_n dX1_firstFailing_20 rfl ?_
    obtain ⟨h2, Vh2⟩ := Bc1
    refine e_iald dX1_firstFailing_21 (by decide) (gs_17 hg) h2.1 h2.2 ?_
    refine e_iconst dX1_firstFailing_22 ⟨by decide, by decide⟩ ?_
    refine e_ic_ne (tgt := 35) dX1_firstFailing_23 (by decide) (fun c3 => ?_) (fun c3 => ?_)
    · have Ac3 := Vh2.1 c3
      refine e_aload_n dX1_firstFailing_35 rfl ?_
      refine e_iload_n dX1_firstFailing_36 rfl ?_
      refine e_iload_n dX1_firstFailing_37 rfl ?_
      obtain ⟨r6, J4, h5, Vh5⟩ := Ac3
      refine e_callv (av := [.inl x2, .inl x1]) (st := []) dX1_firstFailing_38 cO_1_104 oX1_seatPiece rfl (by decide) (gs_52 hg) rfl (Nat.le_of_ble_eq_true rfl) (by decide) h5 (Nat.le_refl _) (Nat.le_refl _) rfl rfl ?_
      refine e_if_ne (tgt := 49) dX1_firstFailing_41 (by decide) (fun c7 => ?_) (fun c7 => ?_)
      · have Ac7 := Vh5.1 c7
        refine e_aload_n dX1_firstFailing_49 rfl ?_
        refine e_getr dX1_firstFailing_50 fO_1_41 (by decide) (gs_52 hg) rfl (gp_52_1 hg) ?_
        refine e_getr dX1_firstFailing_53 fO_1_77 (by decide) (gs_15 hg) rfl (gp_15_3 hg) ?_
        refine e_iload_n dX1_firstFailing_56 rfl ?_
        obtain ⟨h8, Vh8⟩ := Ac7
        refine e_iald dX1_firstFailing_57 (by decide) (gs_17 hg) h8.1 h8.2 ?_
        refine e_if_ne (tgt := 76) dX1_firstFailing_58 (by decide) (fun c9 => ?_) (fun c9 => ?_)
        · have Ac9 := Vh8.1 c9
          refine e_aload_n dX1_firstFailing_76 rfl ?_
          refine e_getr dX1_firstFailing_77 fO_1_41 (by decide) (gs_52 hg) rfl (gp_52_1 hg) ?_
          refine e_getr dX1_firstFailing_80 fO_1_77 (by decide) (gs_15 hg) rfl (gp_15_3 hg) ?_
          refine e_iload_n dX1_firstFailing_83 rfl ?_
          obtain ⟨h10, Vh10⟩ := Ac9
          refine e_iald dX1_firstFailing_84 (by decide) (gs_17 hg) h10.1 h10.2 ?_
          refine e_iconst dX1_firstFailing_85 ⟨by decide, by decide⟩ ?_
          refine e_ic_ne (tgt := 104) dX1_firstFailing_86 (by decide) (fun c11 => ?_) (fun c11 => ?_)
          · have Ac11 := Vh10.1 c11
            refine e_aload_n dX1_firstFailing_104 rfl ?_
            refine e_geti dX1_firstFailing_105 fO_1_95 (by decide) (gs_52 hg) rfl ?_
            refine e_aload_n dX1_firstFailing_108 rfl ?_
            refine e_getr dX1_firstFailing_109 fO_1_37 (by decide) (gs_52 hg) rfl (gp_52_0 hg) ?_
            refine e_getr dX1_firstFailing_112 fO_1_114 (by decide) (gs_3 hg) rfl (gp_3_9 hg) ?_
            refine e_aload_n dX1_firstFailing_115 rfl ?_
            refine e_getr dX1_firstFailing_116 fO_1_9 (by decide) (gs_52 hg) rfl (gp_52_2 hg) ?_
            refine e_iload_n dX1_firstFailing_119 rfl ?_
            obtain ⟨h12, Vh12⟩ := Ac11
            refine e_iald dX1_firstFailing_120 (by decide) (gs_53 hg) h12.1 h12.2 ?_
            obtain ⟨h13, Vh13⟩ := Vh12
            refine e_iald dX1_firstFailing_121 (by decide) (gs_11 hg) h13.1 h13.2 ?_
            refine e_ic_ge (tgt := 129) dX1_firstFailing_122 (by decide) (fun c14 => ?_) (fun c14 => ?_)
            · have Ac14 := Vh13.1 c14
              refine e_iconst dX1_firstFailing_129 ⟨by decide, by decide⟩ ?_
              refine e_istore_n dX1_firstFailing_130 (by decide) (ls' := [some (.inr (some 52)), some (.inl x1), some (.inl x2), some (.inl 0)]) rfl ?_
              refine e_iload_n dX1_firstFailing_131 rfl ?_
              refine e_if_ne (tgt := 137) dX1_firstFailing_132 (by decide) (fun c15 => absurd c15 (by decide)) (fun _ => ?_)
              refine e_iload_n dX1_firstFailing_135 rfl ?_
              exact e_iret dX1_firstFailing_136 rfl (by rw [Ac14.1, Ac14.2])
            · have Bc14 := Vh13.2 c14
              refine e_iconst dX1_firstFailing_125 ⟨by decide, by decide⟩ ?_
              refine e_goto (tgt := 130) dX1_firstFailing_126 (by decide) ?_
              refine e_istore_n dX1_firstFailing_130 (by decide) (ls' := [some (.inr (some 52)), some (.inl x1), some (.inl x2), some (.inl 1)]) rfl ?_
              refine e_iload_n dX1_firstFailing_131 rfl ?_
              refine e_if_ne (tgt := 137) dX1_firstFailing_132 (by decide) (fun _ => ?_) (fun c16 => absurd c16 (by decide))
              obtain ⟨h17, Vh17⟩ := Bc14
              refine e_iinc dX1_firstFailing_137 (by decide) rfl h17 (ls' := [some (.inr (some 52)), some (.inl x1), some (.inl (x2 + 1)), some (.inl 1)]) rfl ?_
              refine e_goto (tgt := 2) dX1_firstFailing_140 (by decide) ?_
              refine ev_drop (ls' := [some (.inr (some 52)), some (.inl x1), some (.inl (x2 + 1)), none]) 3 rfl ?_
              exact Vh17
          · have Bc11 := Vh10.2 c11
            refine e_aload_n dX1_firstFailing_89 rfl ?_
            refine e_iload_n dX1_firstFailing_90 rfl ?_
            refine e_aload_n dX1_firstFailing_91 rfl ?_
            refine e_getr dX1_firstFailing_92 fO_1_9 (by decide) (gs_52 hg) rfl (gp_52_2 hg) ?_
            refine e_iload_n dX1_firstFailing_95 rfl ?_
            obtain ⟨h18, Vh18⟩ := Bc11
            refine e_iald dX1_firstFailing_96 (by decide) (gs_53 hg) h18.1 h18.2 ?_
            obtain ⟨r21, J19, h20, Vh20⟩ := Vh18
            refine e_callv (av := [.inl x2, .inl (J4 53 x2.toNat)]) (st := []) dX1_firstFailing_97 cO_1_111 oX1_holeFits rfl (by decide) (gs_52 hg) rfl (Nat.le_of_ble_eq_true rfl) (by decide) h20 (Nat.le_refl _) (Nat.le_refl _) rfl rfl ?_
            refine e_istore_n dX1_firstFailing_100 (by decide) (ls' := [some (.inr (some 52)), some (.inl x1), some (.inl x2), some (.inl r21)]) rfl ?_
            refine e_goto (tgt := 131) dX1_firstFailing_101 (by decide) ?_
            refine e_iload_n dX1_firstFailing_131 rfl ?_
            refine e_if_ne (tgt := 137) dX1_firstFailing_132 (by decide) (fun c22 => ?_) (fun c22 => ?_)
            · have Ac22 := Vh20.1 c22
              obtain ⟨h23, Vh23⟩ := Ac22
              refine e_iinc dX1_firstFailing_137 (by decide) rfl h23 (ls' := [some (.inr (some 52)), some (.inl x1), some (.inl (x2 + 1)), some (.inl r21)]) rfl ?_
              refine e_goto (tgt := 2) dX1_firstFailing_140 (by decide) ?_
              refine ev_drop (ls' := [some (.inr (some 52)), some (.inl x1), some (.inl (x2 + 1)), none]) 3 rfl ?_
              exact Vh23
            · have Bc22 := Vh20.2 c22
              refine e_iload_n dX1_firstFailing_135 rfl ?_
              exact e_iret dX1_firstFailing_136 rfl (by rw [Bc22.1, Bc22.2])
        · have Bc9 := Vh8.2 c9
          refine e_aload_n dX1_firstFailing_61 rfl ?_
          refine e_iload_n dX1_firstFailing_62 rfl ?_
          refine e_aload_n dX1_firstFailing_63 rfl ?_
          refine e_getr dX1_firstFailing_64 fO_1_9 (by decide) (gs_52 hg) rfl (gp_52_2 hg) ?_
          refine e_iload_n dX1_firstFailing_67 rfl ?_
          obtain ⟨h24, Vh24⟩ := Bc9
          refine e_iald dX1_firstFailing_68 (by decide) (gs_53 hg) h24.1 h24.2 ?_
          obtain ⟨r27, J25, h26, Vh26⟩ := Vh24
          refine e_callv (av := [.inl x2, .inl (J4 53 x2.toNat)]) (st := []) dX1_firstFailing_69 cO_1_108 oX1_termFits rfl (by decide) (gs_52 hg) rfl (Nat.le_of_ble_eq_true rfl) (by decide) h26 (Nat.le_refl _) (Nat.le_refl _) rfl rfl ?_
          refine e_istore_n dX1_firstFailing_72 (by decide) (ls' := [some (.inr (some 52)), some (.inl x1), some (.inl x2), some (.inl r27)]) rfl ?_
          refine e_goto (tgt := 131) dX1_firstFailing_73 (by decide) ?_
          refine e_iload_n dX1_firstFailing_131 rfl ?_
          refine e_if_ne (tgt := 137) dX1_firstFailing_132 (by decide) (fun c28 => ?_) (fun c28 => ?_)
          · have Ac28 := Vh26.1 c28
            obtain ⟨h29, Vh29⟩ := Ac28
            refine e_iinc dX1_firstFailing_137 (by decide) rfl h29 (ls' := [some (.inr (some 52)), some (.inl x1), some (.inl (x2 + 1)), some (.inl r27)]) rfl ?_
            refine e_goto (tgt := 2) dX1_firstFailing_140 (by decide) ?_
            refine ev_drop (ls' := [some (.inr (some 52)), some (.inl x1), some (.inl (x2 + 1)), none]) 3 rfl ?_
            exact Vh29
          · have Bc28 := Vh26.2 c28
            refine e_iload_n dX1_firstFailing_135 rfl ?_
            exact e_iret dX1_firstFailing_136 rfl (by rw [Bc28.1, Bc28.2])
      · have Bc7 := Vh5.2 c7
        refine e_iconst dX1_firstFailing_44 ⟨by decide, by decide⟩ ?_
        refine e_istore_n dX1_firstFailing_45 (by decide) (ls' := [some (.inr (some 52)), some (.inl x1), some (.inl x2), some (.inl 0)]) rfl ?_
        refine e_goto (tgt := 131) dX1_firstFailing_46 (by decide) ?_
        refine e_iload_n dX1_firstFailing_131 rfl ?_
        refine e_if_ne (tgt := 137) dX1_firstFailing_132 (by decide) (fun c30 => absurd c30 (by decide)) (fun _ => ?_)
        refine e_iload_n dX1_firstFailing_135 rfl ?_
        exact e_iret dX1_firstFailing_136 rfl (by rw [Bc7.1, Bc7.2])
    · have Bc3 := Vh2.2 c3
      refine e_aload_n dX1_firstFailing_26 rfl ?_
      refine e_iload_n dX1_firstFailing_27 rfl ?_
      obtain ⟨r33, J31, h32, Vh32⟩ := Bc3
      refine e_callv (av := [.inl x2]) (st := []) dX1_firstFailing_28 cO_1_101 oX1_rowFits rfl (by decide) (gs_52 hg) rfl (Nat.le_of_ble_eq_true rfl) (by decide) h32 (Nat.le_refl _) (Nat.le_refl _) rfl rfl ?_
      refine e_istore_n dX1_firstFailing_31 (by decide) (ls' := [some (.inr (some 52)), some (.inl x1), some (.inl x2), some (.inl r33)]) rfl ?_
      refine e_goto (tgt := 131) dX1_firstFailing_32 (by decide) ?_
      refine e_iload_n dX1_firstFailing_131 rfl ?_
      refine e_if_ne (tgt := 137) dX1_firstFailing_132 (by decide) (fun c34 => ?_) (fun c34 => ?_)
      · have Ac34 := Vh32.1 c34
        obtain ⟨h35, Vh35⟩ := Ac34
        refine e_iinc dX1_firstFailing_137 (by decide) rfl h35 (ls' := [some (.inr (some 52)), some (.inl x1), some (.inl (x2 + 1)), some (.inl r33)]) rfl ?_
        refine e_goto (tgt := 2) dX1_firstFailing_140 (by decide) ?_
        refine ev_drop (ls' := [some (.inr (some 52)), some (.inl x1), some (.inl (x2 + 1)), none]) 3 rfl ?_
        exact Vh35
      · have Bc34 := Vh32.2 c34
        refine e_iload_n dX1_firstFailing_135 rfl ?_
        exact e_iret dX1_firstFailing_136 rfl (by rw [Bc34.1, Bc34.2])
set_option maxRecDepth 100000 in
set_option maxHeartbeats 4000000 in
theorem v_X1_seatPiece_0 {Γ : GX} {g : AG} {I J : Nat → Nat → Int} {r : Option AV} (hg : GOc g) (x1 : Int) (x2 : Int)
    (V : ((¬ (x1 = 0)) → (((0 : Int) ≤ x1 ∧ (x1 : Int) < 120) ∧ (∃ (r5 : Int) (J3 : Nat → Nat → Int), CT Γ 0 mX1_nextNode [.inr (some 52), .inl (I 21 x1.toNat)] (g, I) (some (.inl r5), (g, J3)) ∧ (((0 : Int) ≤ x1 ∧ (x1 : Int) < 120) ∧ (∀ I6 : Nat → Nat → Int, I6 = mset J3 53 x1.toNat r5 → (((0 : Int) ≤ x1 ∧ (x1 : Int) < 120) ∧ (∀ I8 : Nat → Nat → Int, I8 = mset I6 54 x1.toNat 1 → ((((r5 < 0)) → (r = some (.inl 0) ∧ J = I8)) ∧ ((¬ (r5 < 0)) → (((((I8 3 2) ≤ r5)) → (r = some (.inl 0) ∧ J = I8)) ∧ ((¬ ((I8 3 2) ≤ r5)) → (r = some (.inl 1) ∧ J = I8)))))))))))) ∧ (((x1 = 0)) → (((0 : Int) ≤ x1 ∧ (x1 : Int) < 120) ∧ (∀ I12 : Nat → Nat → Int, I12 = mset I 53 x1.toNat x2 → (((0 : Int) ≤ x1 ∧ (x1 : Int) < 120) ∧ (∀ I14 : Nat → Nat → Int, I14 = mset I12 54 x1.toNat 1 → ((((x2 < 0)) → (r = some (.inl 0) ∧ J = I14)) ∧ ((¬ (x2 < 0)) → (((((I14 3 2) ≤ x2)) → (r = some (.inl 0) ∧ J = I14)) ∧ ((¬ ((I14 3 2) ≤ x2)) → (r = some (.inl 1) ∧ J = I14))))))))))) : Ev Γ 1 mX1_seatPiece 0 [some (.inr (some 52)), some (.inl x1), some (.inl x2), none] [] (g, I) (r, (g, J)) := by
  refine e_iload_n dX1_seatPiece_0 rfl ?_
  refine e_if_ne (tgt := 8) dX1_seatPiece_1 (by decide) (fun c1 => ?_) (fun c1 => ?_)
  · have Ac1 := V.1 c1
    refine e_aload_n dX1_seatPiece_8 rfl ?_
    refine e_aload_n dX1_seatPiece_9 rfl ?_
    refine e_getr dX1_seatPiece_10 fO_1_41 (by decide) (gs_52 hg) rfl (gp_52_1 hg) ?_
    refine e_getr dX1_seatPiece_13 fO_1_80 (by decide) (gs_15 hg) rfl (gp_15_7 hg) ?_
    refine e_iload_n dX1_seatPiece_16 rfl ?_
    obtain ⟨h2, Vh2⟩ := Ac1
    refine e_iald dX1_seatPiece_17 (by decide) (gs_21 hg) h2.1 h2.2 ?_
    obtain ⟨r5, J3, h4, Vh4⟩ := Vh2
    refine e_callv (av := [.inl (I 21 x1.toNat)]) (st := []) dX1_seatPiece_18 cO_1_117 oX1_nextNode rfl (by decide) (gs_52 hg) rfl (Nat.le_of_ble_eq_true rfl) (by decide) h4 (Nat.le_refl _) (Nat.le_refl _) rfl rfl ?_
    refine e_istore_n dX1_seatPiece_21 (by decide) (ls' := [some (.inr (some 52)), some (.inl x1), some (.inl x2), some (.inl r5)]) rfl ?_
    refine e_aload_n dX1_seatPiece_22 rfl ?_
    refine e_getr dX1_seatPiece_23 fO_1_9 (by decide) (gs_52 hg) rfl (gp_52_2 hg) ?_
    refine e_iload_n dX1_seatPiece_26 rfl ?_
    refine e_iload_n dX1_seatPiece_27 rfl ?_
    obtain ⟨h7, Vh7⟩ := Vh4
    refine e_iast dX1_seatPiece_28 (by decide) (gs_53 hg) h7.1 h7.2 ?_
    refine e_mem (fun I6 eI6 => ?_)
    have WI6 := Vh7 I6 eI6
    refine e_aload_n dX1_seatPiece_29 rfl ?_
    refine e_getr dX1_seatPiece_30 fO_1_15 (by decide) (gs_52 hg) rfl (gp_52_3 hg) ?_
    refine e_iload_n dX1_seatPiece_33 rfl ?_
    refine e_iconst dX1_seatPiece_34 ⟨by decide, by decide⟩ ?_
    obtain ⟨h9, Vh9⟩ := WI6
    refine e_iast dX1_seatPiece_35 (by decide) (gs_54 hg) h9.1 h9.2 ?_
    refine e_mem (fun I8 eI8 => ?_)
    have WI8 := Vh9 I8 eI8
    refine e_iload_n dX1_seatPiece_36 rfl ?_
    refine e_if_lt (tgt := 55) dX1_seatPiece_37 (by decide) (fun c10 => ?_) (fun c10 => ?_)
    · have Ac10 := WI8.1 c10
      refine e_iconst dX1_seatPiece_55 ⟨by decide, by decide⟩ ?_
      exact e_zret dX1_seatPiece_56 rfl (by decide) (by rw [Ac10.1, Ac10.2])
    · have Bc10 := WI8.2 c10
      refine e_iload_n dX1_seatPiece_40 rfl ?_
      refine e_aload_n dX1_seatPiece_41 rfl ?_
      refine e_getr dX1_seatPiece_42 fO_1_37 (by decide) (gs_52 hg) rfl (gp_52_0 hg) ?_
      refine e_geti dX1_seatPiece_45 fO_1_60 (by decide) (gs_3 hg) rfl ?_
      refine e_ic_ge (tgt := 55) dX1_seatPiece_48 (by decide) (fun c11 => ?_) (fun c11 => ?_)
      · have Ac11 := Bc10.1 c11
        refine e_iconst dX1_seatPiece_55 ⟨by decide, by decide⟩ ?_
        exact e_zret dX1_seatPiece_56 rfl (by decide) (by rw [Ac11.1, Ac11.2])
      · have Bc11 := Bc10.2 c11
        refine e_iconst dX1_seatPiece_51 ⟨by decide, by decide⟩ ?_
        refine e_goto (tgt := 56) dX1_seatPiece_52 (by decide) ?_
        exact e_zret dX1_seatPiece_56 rfl (by decide) (by rw [Bc11.1, Bc11.2])
  · have Bc1 := V.2 c1
    refine e_iload_n dX1_seatPiece_4 rfl ?_
    refine e_goto (tgt := 21) dX1_seatPiece_5 (by decide) ?_
    refine e_istore_n dX1_seatPiece_21 (by decide) (ls' := [some (.inr (some 52)), some (.inl x1), some (.inl x2), some (.inl x2)]) rfl ?_
    refine e_aload_n dX1_seatPiece_22 rfl ?_
    refine e_getr dX1_seatPiece_23 fO_1_9 (by decide) (gs_52 hg) rfl (gp_52_2 hg) ?_
    refine e_iload_n dX1_seatPiece_26 rfl ?_
    refine e_iload_n dX1_seatPiece_27 rfl ?_
    obtain ⟨h13, Vh13⟩ := Bc1
    refine e_iast dX1_seatPiece_28 (by decide) (gs_53 hg) h13.1 h13.2 ?_
    refine e_mem (fun I12 eI12 => ?_)
    have WI12 := Vh13 I12 eI12
    refine e_aload_n dX1_seatPiece_29 rfl ?_
    refine e_getr dX1_seatPiece_30 fO_1_15 (by decide) (gs_52 hg) rfl (gp_52_3 hg) ?_
    refine e_iload_n dX1_seatPiece_33 rfl ?_
    refine e_iconst dX1_seatPiece_34 ⟨by decide, by decide⟩ ?_
    obtain ⟨h15, Vh15⟩ := WI12
    refine e_iast dX1_seatPiece_35 (by decide) (gs_54 hg) h15.1 h15.2 ?_
    refine e_mem (fun I14 eI14 => ?_)
    have WI14 := Vh15 I14 eI14
    refine e_iload_n dX1_seatPiece_36 rfl ?_
    refine e_if_lt (tgt := 55) dX1_seatPiece_37 (by decide) (fun c16 => ?_) (fun c16 => ?_)
    · have Ac16 := WI14.1 c16
      refine e_iconst dX1_seatPiece_55 ⟨by decide, by decide⟩ ?_
      exact e_zret dX1_seatPiece_56 rfl (by decide) (by rw [Ac16.1, Ac16.2])
    · have Bc16 := WI14.2 c16
      refine e_iload_n dX1_seatPiece_40 rfl ?_
      refine e_aload_n dX1_seatPiece_41 rfl ?_
      refine e_getr dX1_seatPiece_42 fO_1_37 (by decide) (gs_52 hg) rfl (gp_52_0 hg) ?_
      refine e_geti dX1_seatPiece_45 fO_1_60 (by decide) (gs_3 hg) rfl ?_
      refine e_ic_ge (tgt := 55) dX1_seatPiece_48 (by decide) (fun c17 => ?_) (fun c17 => ?_)
      · have Ac17 := Bc16.1 c17
        refine e_iconst dX1_seatPiece_55 ⟨by decide, by decide⟩ ?_
        exact e_zret dX1_seatPiece_56 rfl (by decide) (by rw [Ac17.1, Ac17.2])
      · have Bc17 := Bc16.2 c17
        refine e_iconst dX1_seatPiece_51 ⟨by decide, by decide⟩ ?_
        refine e_goto (tgt := 56) dX1_seatPiece_52 (by decide) ?_
        exact e_zret dX1_seatPiece_56 rfl (by decide) (by rw [Bc17.1, Bc17.2])
set_option maxRecDepth 100000 in
set_option maxHeartbeats 4000000 in
theorem v_X1_nextNode_0 {Γ : GX} {g : AG} {I J : Nat → Nat → Int} {r : Option AV} (hg : GOc g) (x1 : Int)
    (V : (((0 ≤ x1)) → (((0 : Int) ≤ x1 ∧ (x1 : Int) < 120) ∧ (((¬ ((I 17 x1.toNat) = 3)) → (((0 : Int) ≤ x1 ∧ (x1 : Int) < 120) ∧ (∀ y5 : Int, y5 = (I 55 x1.toNat) → (((0 : Int) ≤ x1 ∧ (x1 : Int) < 120) ∧ (((((I 56 x1.toNat) ≤ 0)) → (r = some (.inl (-1)) ∧ J = I)) ∧ ((¬ ((I 56 x1.toNat) ≤ 0)) → ((((y5 < 0)) → (r = some (.inl (-1)) ∧ J = I)) ∧ ((¬ (y5 < 0)) → ((((y5 < (I 3 2))) → (((0 : Int) ≤ y5 ∧ (y5 : Int) < 120) ∧ (inR (y5 + (I 11 y5.toNat)) ∧ (((0 : Int) ≤ x1 ∧ (x1 : Int) < 120) ∧ (∀ I12 : Nat → Nat → Int, I12 = mset I 55 x1.toNat (y5 + (I 11 y5.toNat)) → (((0 : Int) ≤ x1 ∧ (x1 : Int) < 120) ∧ (inR ((I12 56 x1.toNat) - 1) ∧ (((0 : Int) ≤ x1 ∧ (x1 : Int) < 120) ∧ (∀ I16 : Nat → Nat → Int, I16 = mset I12 56 x1.toNat ((I12 56 x1.toNat) - 1) → (r = some (.inl y5) ∧ J = I16)))))))))) ∧ ((¬ (y5 < (I 3 2))) → (r = some (.inl (-1)) ∧ J = I))))))))))) ∧ ((((I 17 x1.toNat) = 3)) → (((0 : Int) ≤ x1 ∧ (x1 : Int) < 120) ∧ (inR ((I 53 x1.toNat) + (I 52 10)) ∧ (r = some (.inl ((I 53 x1.toNat) + (I 52 10))) ∧ J = I))))))) ∧ ((¬ (0 ≤ x1)) → (r = some (.inl (-1)) ∧ J = I))) : Ev Γ 0 mX1_nextNode 0 [some (.inr (some 52)), some (.inl x1), none] [] (g, I) (r, (g, J)) := by
  refine e_iload_n dX1_nextNode_0 rfl ?_
  refine e_if_ge (tgt := 6) dX1_nextNode_1 (by decide) (fun c1 => ?_) (fun c1 => ?_)
  · have Ac1 := V.1 c1
    refine e_aload_n dX1_nextNode_6 rfl ?_
    refine e_getr dX1_nextNode_7 fO_1_41 (by decide) (gs_52 hg) rfl (gp_52_1 hg) ?_
    refine e_getr dX1_nextNode_10 fO_1_77 (by decide) (gs_15 hg) rfl (gp_15_3 hg) ?_
    refine e_iload_n dX1_nextNode_13 rfl ?_
    obtain ⟨h2, Vh2⟩ := Ac1
    refine e_iald dX1_nextNode_14 (by decide) (gs_17 hg) h2.1 h2.2 ?_
    refine e_iconst dX1_nextNode_15 ⟨by decide, by decide⟩ ?_
    refine e_ic_ne (tgt := 31) dX1_nextNode_16 (by decide) (fun c3 => ?_) (fun c3 => ?_)
    · have Ac3 := Vh2.1 c3
      refine e_aload_n dX1_nextNode_31 rfl ?_
      refine e_getr dX1_nextNode_32 fO_1_18 (by decide) (gs_52 hg) rfl (gp_52_4 hg) ?_
      refine e_iload_n dX1_nextNode_35 rfl ?_
      obtain ⟨h4, Vh4⟩ := Ac3
      refine e_iald dX1_nextNode_36 (by decide) (gs_55 hg) h4.1 h4.2 ?_
      refine e_top (fun y5 ey5 => ?_)
      have Wy5 := Vh4 y5 ey5
      refine e_istore_n dX1_nextNode_37 (by decide) (ls' := [some (.inr (some 52)), some (.inl x1), some (.inl y5)]) rfl ?_
      refine e_aload_n dX1_nextNode_38 rfl ?_
      refine e_getr dX1_nextNode_39 fO_1_21 (by decide) (gs_52 hg) rfl (gp_52_5 hg) ?_
      refine e_iload_n dX1_nextNode_42 rfl ?_
      obtain ⟨h6, Vh6⟩ := Wy5
      refine e_iald dX1_nextNode_43 (by decide) (gs_56 hg) h6.1 h6.2 ?_
      refine e_if_le (tgt := 62) dX1_nextNode_44 (by decide) (fun c7 => ?_) (fun c7 => ?_)
      · have Ac7 := Vh6.1 c7
        refine e_iconst dX1_nextNode_62 ⟨by decide, by decide⟩ ?_
        exact e_iret dX1_nextNode_63 rfl (by rw [Ac7.1, Ac7.2])
      · have Bc7 := Vh6.2 c7
        refine e_iload_n dX1_nextNode_47 rfl ?_
        refine e_if_lt (tgt := 62) dX1_nextNode_48 (by decide) (fun c8 => ?_) (fun c8 => ?_)
        · have Ac8 := Bc7.1 c8
          refine e_iconst dX1_nextNode_62 ⟨by decide, by decide⟩ ?_
          exact e_iret dX1_nextNode_63 rfl (by rw [Ac8.1, Ac8.2])
        · have Bc8 := Bc7.2 c8
          refine e_iload_n dX1_nextNode_51 rfl ?_
          refine e_aload_n dX1_nextNode_52 rfl ?_
          refine e_getr dX1_nextNode_53 fO_1_37 (by decide) (gs_52 hg) rfl (gp_52_0 hg) ?_
          refine e_geti dX1_nextNode_56 fO_1_60 (by decide) (gs_3 hg) rfl ?_
          refine e_ic_lt (tgt := 64) dX1_nextNode_59 (by decide) (fun c9 => ?_) (fun c9 => ?_)
          · have Ac9 := Bc8.1 c9
            refine e_aload_n dX1_nextNode_64 rfl ?_
            refine e_getr dX1_nextNode_65 fO_1_18 (by decide) (gs_52 hg) rfl (gp_52_4 hg) ?_
            refine e_iload_n dX1_nextNode_68 rfl ?_
            refine e_iload_n dX1_nextNode_69 rfl ?_
            refine e_aload_n dX1_nextNode_70 rfl ?_
            refine e_getr dX1_nextNode_71 fO_1_37 (by decide) (gs_52 hg) rfl (gp_52_0 hg) ?_
            refine e_getr dX1_nextNode_74 fO_1_114 (by decide) (gs_3 hg) rfl (gp_3_9 hg) ?_
            refine e_iload_n dX1_nextNode_77 rfl ?_
            obtain ⟨h10, Vh10⟩ := Ac9
            refine e_iald dX1_nextNode_78 (by decide) (gs_11 hg) h10.1 h10.2 ?_
            obtain ⟨h11, Vh11⟩ := Vh10
            refine e_iadd dX1_nextNode_79 h11 ?_
            obtain ⟨h13, Vh13⟩ := Vh11
            refine e_iast dX1_nextNode_80 (by decide) (gs_55 hg) h13.1 h13.2 ?_
            refine e_mem (fun I12 eI12 => ?_)
            have WI12 := Vh13 I12 eI12
            refine e_aload_n dX1_nextNode_81 rfl ?_
            refine e_getr dX1_nextNode_82 fO_1_21 (by decide) (gs_52 hg) rfl (gp_52_5 hg) ?_
            refine e_iload_n dX1_nextNode_85 rfl ?_
            refine e_dup2 dX1_nextNode_86 ?_
            obtain ⟨h14, Vh14⟩ := WI12
            refine e_iald dX1_nextNode_87 (by decide) (gs_56 hg) h14.1 h14.2 ?_
            refine e_iconst dX1_nextNode_88 ⟨by decide, by decide⟩ ?_
            obtain ⟨h15, Vh15⟩ := Vh14
            refine e_isub dX1_nextNode_89 h15 ?_
            obtain ⟨h17, Vh17⟩ := Vh15
            refine e_iast dX1_nextNode_90 (by decide) (gs_56 hg) h17.1 h17.2 ?_
            refine e_mem (fun I16 eI16 => ?_)
            have WI16 := Vh17 I16 eI16
            refine e_iload_n dX1_nextNode_91 rfl ?_
            exact e_iret dX1_nextNode_92 rfl (by rw [WI16.1, WI16.2])
          · have Bc9 := Bc8.2 c9
            refine e_iconst dX1_nextNode_62 ⟨by decide, by decide⟩ ?_
            exact e_iret dX1_nextNode_63 rfl (by rw [Bc9.1, Bc9.2])
    · have Bc3 := Vh2.2 c3
      refine e_aload_n dX1_nextNode_19 rfl ?_
      refine e_getr dX1_nextNode_20 fO_1_9 (by decide) (gs_52 hg) rfl (gp_52_2 hg) ?_
      refine e_iload_n dX1_nextNode_23 rfl ?_
      obtain ⟨h18, Vh18⟩ := Bc3
      refine e_iald dX1_nextNode_24 (by decide) (gs_53 hg) h18.1 h18.2 ?_
      refine e_aload_n dX1_nextNode_25 rfl ?_
      refine e_geti dX1_nextNode_26 fO_1_95 (by decide) (gs_52 hg) rfl ?_
      obtain ⟨h19, Vh19⟩ := Vh18
      refine e_iadd dX1_nextNode_29 h19 ?_
      exact e_iret dX1_nextNode_30 rfl (by rw [Vh19.1, Vh19.2])
  · have Bc1 := V.2 c1
    refine e_iconst dX1_nextNode_4 ⟨by decide, by decide⟩ ?_
    exact e_iret dX1_nextNode_5 rfl (by rw [Bc1.1, Bc1.2])
set_option maxRecDepth 100000 in
set_option maxHeartbeats 4000000 in
theorem v_X1_termFits_0 {Γ : GX} {g : AG} {I J : Nat → Nat → Int} {r : Option AV} (hg : GOc g) (x1 : Int) (x2 : Int)
    (V : ((0 : Int) ≤ x2 ∧ (x2 : Int) < 120) ∧ (∀ y2 : Int, y2 = (I 10 x2.toNat) → (((0 : Int) ≤ x1 ∧ (x1 : Int) < 120) ∧ (∀ y4 : Int, y4 = (I 22 x1.toNat) → (∃ (r7 : Int) (J5 : Nat → Nat → Int), CT Γ 0 mX5_sameAtom [.inr (some 3), .inl x2, .inr (some 15), .inl x1] (g, I) (some (.inl r7), (g, J5)) ∧ (((¬ (r7 = 0)) → ((((y2 = (-1))) → (((¬ (y2 = y4)) → (r = some (.inl 0) ∧ J = J5)) ∧ (((y2 = y4)) → (r = some (.inl 1) ∧ J = J5)))) ∧ ((¬ (y2 = (-1))) → (((¬ (y4 = (-1))) → (inR (x2 + 1) ∧ (((0 : Int) ≤ x1 ∧ (x1 : Int) < 120) ∧ (∀ I13 : Nat → Nat → Int, I13 = mset J5 55 x1.toNat (x2 + 1) → (((0 : Int) ≤ x1 ∧ (x1 : Int) < 120) ∧ (∀ I15 : Nat → Nat → Int, I15 = mset I13 56 x1.toNat y2 → (((0 : Int) ≤ x1 ∧ (x1 : Int) < 120) ∧ ((((y4 ≤ (I15 57 x1.toNat))) → (((¬ (y2 = y4)) → (r = some (.inl 0) ∧ J = I15)) ∧ (((y2 = y4)) → (r = some (.inl 1) ∧ J = I15)))) ∧ ((¬ (y4 ≤ (I15 57 x1.toNat))) → (((0 : Int) ≤ x1 ∧ (x1 : Int) < 120) ∧ ((((y2 < (I15 57 x1.toNat))) → (r = some (.inl 0) ∧ J = I15)) ∧ ((¬ (y2 < (I15 57 x1.toNat))) → (r = some (.inl 1) ∧ J = I15))))))))))))) ∧ (((y4 = (-1))) → (((¬ (y2 = y4)) → (r = some (.inl 0) ∧ J = J5)) ∧ (((y2 = y4)) → (r = some (.inl 1) ∧ J = J5)))))))) ∧ (((r7 = 0)) → (r = some (.inl 0) ∧ J = J5)))))))) : Ev Γ 1 mX1_termFits 0 [some (.inr (some 52)), some (.inl x1), some (.inl x2), none, none, none] [] (g, I) (r, (g, J)) := by
  refine e_aload_n dX1_termFits_0 rfl ?_
  refine e_getr dX1_termFits_1 fO_1_37 (by decide) (gs_52 hg) rfl (gp_52_0 hg) ?_
  refine e_getr dX1_termFits_4 fO_1_120 (by decide) (gs_3 hg) rfl (gp_3_8 hg) ?_
  refine e_iload_n dX1_termFits_7 rfl ?_
  obtain ⟨h1, Vh1⟩ := V
  refine e_iald dX1_termFits_8 (by decide) (gs_10 hg) h1.1 h1.2 ?_
  refine e_top (fun y2 ey2 => ?_)
  have Wy2 := Vh1 y2 ey2
  refine e_istore_n dX1_termFits_9 (by decide) (ls' := [some (.inr (some 52)), some (.inl x1), some (.inl x2), some (.inl y2), none, none]) rfl ?_
  refine e_aload_n dX1_termFits_10 rfl ?_
  refine e_getr dX1_termFits_11 fO_1_41 (by decide) (gs_52 hg) rfl (gp_52_1 hg) ?_
  refine e_getr dX1_termFits_14 fO_1_120 (by decide) (gs_15 hg) rfl (gp_15_8 hg) ?_
  refine e_iload_n dX1_termFits_17 rfl ?_
  obtain ⟨h3, Vh3⟩ := Wy2
  refine e_iald dX1_termFits_18 (by decide) (gs_22 hg) h3.1 h3.2 ?_
  refine e_top (fun y4 ey4 => ?_)
  have Wy4 := Vh3 y4 ey4
  refine e_istore dX1_termFits_19 (by decide) (ls' := [some (.inr (some 52)), some (.inl x1), some (.inl x2), some (.inl y2), some (.inl y4), none]) rfl ?_
  refine e_aload_n dX1_termFits_21 rfl ?_
  refine e_getr dX1_termFits_22 fO_1_37 (by decide) (gs_52 hg) rfl (gp_52_0 hg) ?_
  refine e_iload_n dX1_termFits_25 rfl ?_
  refine e_aload_n dX1_termFits_26 rfl ?_
  refine e_getr dX1_termFits_27 fO_1_41 (by decide) (gs_52 hg) rfl (gp_52_1 hg) ?_
  refine e_iload_n dX1_termFits_30 rfl ?_
  obtain ⟨r7, J5, h6, Vh6⟩ := Wy4
  refine e_calls (av := [.inr (some 3), .inl x2, .inr (some 15), .inl x1]) (st := []) dX1_termFits_31 cO_1_123 oX5_sameAtom rfl rfl (Nat.le_of_ble_eq_true rfl) (by decide) h6 (Nat.le_refl _) (Nat.le_refl _) rfl rfl ?_
  refine e_if_ne (tgt := 39) dX1_termFits_34 (by decide) (fun c8 => ?_) (fun c8 => ?_)
  · have Ac8 := Vh6.1 c8
    refine e_iload_n dX1_termFits_39 rfl ?_
    refine e_iconst dX1_termFits_40 ⟨by decide, by decide⟩ ?_
    refine e_ic_eq (tgt := 50) dX1_termFits_41 (by decide) (fun c9 => ?_) (fun c9 => ?_)
    · have Ac9 := Ac8.1 c9
      refine e_iload_n dX1_termFits_50 rfl ?_
      refine e_iload dX1_termFits_51 rfl ?_
      refine e_ic_ne (tgt := 60) dX1_termFits_53 (by decide) (fun c10 => ?_) (fun c10 => ?_)
      · have Ac10 := Ac9.1 c10
        refine e_iconst dX1_termFits_60 ⟨by decide, by decide⟩ ?_
        exact e_zret dX1_termFits_61 rfl (by decide) (by rw [Ac10.1, Ac10.2])
      · have Bc10 := Ac9.2 c10
        refine e_iconst dX1_termFits_56 ⟨by decide, by decide⟩ ?_
        refine e_goto (tgt := 61) dX1_termFits_57 (by decide) ?_
        exact e_zret dX1_termFits_61 rfl (by decide) (by rw [Bc10.1, Bc10.2])
    · have Bc9 := Ac8.2 c9
      refine e_iload dX1_termFits_44 rfl ?_
      refine e_iconst dX1_termFits_46 ⟨by decide, by decide⟩ ?_
      refine e_ic_ne (tgt := 62) dX1_termFits_47 (by decide) (fun c11 => ?_) (fun c11 => ?_)
      · have Ac11 := Bc9.1 c11
        refine e_aload_n dX1_termFits_62 rfl ?_
        refine e_getr dX1_termFits_63 fO_1_18 (by decide) (gs_52 hg) rfl (gp_52_4 hg) ?_
        refine e_iload_n dX1_termFits_66 rfl ?_
        refine e_iload_n dX1_termFits_67 rfl ?_
        refine e_iconst dX1_termFits_68 ⟨by decide, by decide⟩ ?_
        obtain ⟨h12, Vh12⟩ := Ac11
        refine e_iadd dX1_termFits_69 h12 ?_
        obtain ⟨h14, Vh14⟩ := Vh12
        refine e_iast dX1_termFits_70 (by decide) (gs_55 hg) h14.1 h14.2 ?_
        refine e_mem (fun I13 eI13 => ?_)
        have WI13 := Vh14 I13 eI13
        refine e_aload_n dX1_termFits_71 rfl ?_
        refine e_getr dX1_termFits_72 fO_1_21 (by decide) (gs_52 hg) rfl (gp_52_5 hg) ?_
        refine e_iload_n dX1_termFits_75 rfl ?_
        refine e_iload_n dX1_termFits_76 rfl ?_
        obtain ⟨h16, Vh16⟩ := WI13
        refine e_iast dX1_termFits_77 (by decide) (gs_56 hg) h16.1 h16.2 ?_
        refine e_mem (fun I15 eI15 => ?_)
        have WI15 := Vh16 I15 eI15
        refine e_aload_n dX1_termFits_78 rfl ?_
        refine e_getr dX1_termFits_79 fO_1_24 (by decide) (gs_52 hg) rfl (gp_52_6 hg) ?_
        refine e_iload_n dX1_termFits_82 rfl ?_
        obtain ⟨h17, Vh17⟩ := WI15
        refine e_iald dX1_termFits_83 (by decide) (gs_57 hg) h17.1 h17.2 ?_
        refine e_iload dX1_termFits_84 rfl ?_
        refine e_ic_ge (tgt := 93) dX1_termFits_86 (by decide) (fun c18 => ?_) (fun c18 => ?_)
        · have Ac18 := Vh17.1 c18
          refine e_iconst dX1_termFits_93 ⟨by decide, by decide⟩ ?_
          refine e_istore dX1_termFits_94 (by decide) (ls' := [some (.inr (some 52)), some (.inl x1), some (.inl x2), some (.inl y2), some (.inl y4), some (.inl 0)]) rfl ?_
          refine e_iload dX1_termFits_96 rfl ?_
          refine e_if_eq (tgt := 119) dX1_termFits_98 (by decide) (fun _ => ?_) (fun c19 => absurd c19 (by decide))
          refine e_iload_n dX1_termFits_119 rfl ?_
          refine e_iload dX1_termFits_120 rfl ?_
          refine e_ic_ne (tgt := 129) dX1_termFits_122 (by decide) (fun c20 => ?_) (fun c20 => ?_)
          · have Ac20 := Ac18.1 c20
            refine e_iconst dX1_termFits_129 ⟨by decide, by decide⟩ ?_
            exact e_zret dX1_termFits_130 rfl (by decide) (by rw [Ac20.1, Ac20.2])
          · have Bc20 := Ac18.2 c20
            refine e_iconst dX1_termFits_125 ⟨by decide, by decide⟩ ?_
            refine e_goto (tgt := 130) dX1_termFits_126 (by decide) ?_
            exact e_zret dX1_termFits_130 rfl (by decide) (by rw [Bc20.1, Bc20.2])
        · have Bc18 := Vh17.2 c18
          refine e_iconst dX1_termFits_89 ⟨by decide, by decide⟩ ?_
          refine e_goto (tgt := 94) dX1_termFits_90 (by decide) ?_
          refine e_istore dX1_termFits_94 (by decide) (ls' := [some (.inr (some 52)), some (.inl x1), some (.inl x2), some (.inl y2), some (.inl y4), some (.inl 1)]) rfl ?_
          refine e_iload dX1_termFits_96 rfl ?_
          refine e_if_eq (tgt := 119) dX1_termFits_98 (by decide) (fun c21 => absurd c21 (by decide)) (fun _ => ?_)
          refine e_iload_n dX1_termFits_101 rfl ?_
          refine e_aload_n dX1_termFits_102 rfl ?_
          refine e_getr dX1_termFits_103 fO_1_24 (by decide) (gs_52 hg) rfl (gp_52_6 hg) ?_
          refine e_iload_n dX1_termFits_106 rfl ?_
          obtain ⟨h22, Vh22⟩ := Bc18
          refine e_iald dX1_termFits_107 (by decide) (gs_57 hg) h22.1 h22.2 ?_
          refine e_ic_lt (tgt := 115) dX1_termFits_108 (by decide) (fun c23 => ?_) (fun c23 => ?_)
          · have Ac23 := Vh22.1 c23
            refine e_iconst dX1_termFits_115 ⟨by decide, by decide⟩ ?_
            refine e_goto (tgt := 130) dX1_termFits_116 (by decide) ?_
            exact e_zret dX1_termFits_130 rfl (by decide) (by rw [Ac23.1, Ac23.2])
          · have Bc23 := Vh22.2 c23
            refine e_iconst dX1_termFits_111 ⟨by decide, by decide⟩ ?_
            refine e_goto (tgt := 130) dX1_termFits_112 (by decide) ?_
            exact e_zret dX1_termFits_130 rfl (by decide) (by rw [Bc23.1, Bc23.2])
      · have Bc11 := Bc9.2 c11
        refine e_iload_n dX1_termFits_50 rfl ?_
        refine e_iload dX1_termFits_51 rfl ?_
        refine e_ic_ne (tgt := 60) dX1_termFits_53 (by decide) (fun c24 => ?_) (fun c24 => ?_)
        · have Ac24 := Bc11.1 c24
          refine e_iconst dX1_termFits_60 ⟨by decide, by decide⟩ ?_
          exact e_zret dX1_termFits_61 rfl (by decide) (by rw [Ac24.1, Ac24.2])
        · have Bc24 := Bc11.2 c24
          refine e_iconst dX1_termFits_56 ⟨by decide, by decide⟩ ?_
          refine e_goto (tgt := 61) dX1_termFits_57 (by decide) ?_
          exact e_zret dX1_termFits_61 rfl (by decide) (by rw [Bc24.1, Bc24.2])
  · have Bc8 := Vh6.2 c8
    refine e_iconst dX1_termFits_37 ⟨by decide, by decide⟩ ?_
    exact e_zret dX1_termFits_38 rfl (by decide) (by rw [Bc8.1, Bc8.2])
set_option maxRecDepth 100000 in
set_option maxHeartbeats 4000000 in
theorem v_X1_holeFits_0 {Γ : GX} {g : AG} {I J : Nat → Nat → Int} {r : Option AV} (hg : GOc g) (x1 : Int) (x2 : Int)
    (V : ((0 : Int) ≤ x1 ∧ (x1 : Int) < 120) ∧ (∀ y2 : Int, y2 = (I 24 x1.toNat) → (((0 : Int) ≤ y2 ∧ (y2 : Int) < 26) ∧ (∀ y4 : Int, y4 = (I 25 y2.toNat) → ((((y4 = x1)) → (((0 : Int) ≤ y2 ∧ (y2 : Int) < 26) ∧ (((¬ ((I 58 y2.toNat) = 0)) → (Ev Γ 1 mX1_holeFits 74 [some (.inr (some 52)), some (.inl x1), some (.inl x2), some (.inl y2), none, some (.inl 0), none] [] (g, I) (r, (g, J)))) ∧ ((((I 58 y2.toNat) = 0)) → (r = some (.inl 1) ∧ J = I))))) ∧ ((¬ (y4 = x1)) → (((0 : Int) ≤ y4 ∧ (y4 : Int) < 120) ∧ (((0 : Int) ≤ (I 53 y4.toNat) ∧ ((I 53 y4.toNat) : Int) < 120) ∧ (((0 : Int) ≤ x2 ∧ (x2 : Int) < 120) ∧ (((¬ ((I 14 (I 53 y4.toNat).toNat) = (I 14 x2.toNat))) → (r = some (.inl 0) ∧ J = I)) ∧ ((((I 14 (I 53 y4.toNat).toNat) = (I 14 x2.toNat))) → (r = some (.inl 1) ∧ J = I)))))))))))) : Ev Γ 1 mX1_holeFits 0 [some (.inr (some 52)), some (.inl x1), some (.inl x2), none, none, none, none] [] (g, I) (r, (g, J)) := by
  refine e_aload_n dX1_holeFits_0 rfl ?_
  refine e_getr dX1_holeFits_1 fO_1_41 (by decide) (gs_52 hg) rfl (gp_52_1 hg) ?_
  refine e_getr dX1_holeFits_4 fO_1_127 (by decide) (gs_15 hg) rfl (gp_15_10 hg) ?_
  refine e_iload_n dX1_holeFits_7 rfl ?_
  obtain ⟨h1, Vh1⟩ := V
  refine e_iald dX1_holeFits_8 (by decide) (gs_24 hg) h1.1 h1.2 ?_
  refine e_top (fun y2 ey2 => ?_)
  have Wy2 := Vh1 y2 ey2
  refine e_istore_n dX1_holeFits_9 (by decide) (ls' := [some (.inr (some 52)), some (.inl x1), some (.inl x2), some (.inl y2), none, none, none]) rfl ?_
  refine e_aload_n dX1_holeFits_10 rfl ?_
  refine e_getr dX1_holeFits_11 fO_1_41 (by decide) (gs_52 hg) rfl (gp_52_1 hg) ?_
  refine e_getr dX1_holeFits_14 fO_1_55 (by decide) (gs_15 hg) rfl (gp_15_11 hg) ?_
  refine e_iload_n dX1_holeFits_17 rfl ?_
  obtain ⟨h3, Vh3⟩ := Wy2
  refine e_iald dX1_holeFits_18 (by decide) (gs_25 hg) h3.1 h3.2 ?_
  refine e_top (fun y4 ey4 => ?_)
  have Wy4 := Vh3 y4 ey4
  refine e_istore dX1_holeFits_19 (by decide) (ls' := [some (.inr (some 52)), some (.inl x1), some (.inl x2), some (.inl y2), some (.inl y4), none, none]) rfl ?_
  refine e_iload dX1_holeFits_21 rfl ?_
  refine e_iload_n dX1_holeFits_23 rfl ?_
  refine e_ic_eq (tgt := 60) dX1_holeFits_24 (by decide) (fun c5 => ?_) (fun c5 => ?_)
  · have Ac5 := Wy4.1 c5
    refine e_aload_n dX1_holeFits_60 rfl ?_
    refine e_getr dX1_holeFits_61 fO_1_27 (by decide) (gs_52 hg) rfl (gp_52_11 hg) ?_
    refine e_iload_n dX1_holeFits_64 rfl ?_
    obtain ⟨h6, Vh6⟩ := Ac5
    refine e_iald dX1_holeFits_65 (by decide) (gs_58 hg) h6.1 h6.2 ?_
    refine e_if_ne (tgt := 71) dX1_holeFits_66 (by decide) (fun c7 => ?_) (fun c7 => ?_)
    · have Ac7 := Vh6.1 c7
      refine e_iconst dX1_holeFits_71 ⟨by decide, by decide⟩ ?_
      refine e_istore dX1_holeFits_72 (by decide) (ls' := [some (.inr (some 52)), some (.inl x1), some (.inl x2), some (.inl y2), some (.inl y4), some (.inl 0), none]) rfl ?_
      refine ev_drop (ls' := [some (.inr (some 52)), some (.inl x1), some (.inl x2), some (.inl y2), none, some (.inl 0), none]) 4 rfl ?_
      exact Ac7
    · have Bc7 := Vh6.2 c7
      refine e_iconst dX1_holeFits_69 ⟨by decide, by decide⟩ ?_
      exact e_zret dX1_holeFits_70 rfl (by decide) (by rw [Bc7.1, Bc7.2])
  · have Bc5 := Wy4.2 c5
    refine e_aload_n dX1_holeFits_27 rfl ?_
    refine e_getr dX1_holeFits_28 fO_1_37 (by decide) (gs_52 hg) rfl (gp_52_0 hg) ?_
    refine e_getr dX1_holeFits_31 fO_1_130 (by decide) (gs_3 hg) rfl (gp_3_12 hg) ?_
    refine e_aload_n dX1_holeFits_34 rfl ?_
    refine e_getr dX1_holeFits_35 fO_1_9 (by decide) (gs_52 hg) rfl (gp_52_2 hg) ?_
    refine e_iload dX1_holeFits_38 rfl ?_
    obtain ⟨h8, Vh8⟩ := Bc5
    refine e_iald dX1_holeFits_40 (by decide) (gs_53 hg) h8.1 h8.2 ?_
    obtain ⟨h9, Vh9⟩ := Vh8
    refine e_iald dX1_holeFits_41 (by decide) (gs_14 hg) h9.1 h9.2 ?_
    refine e_aload_n dX1_holeFits_42 rfl ?_
    refine e_getr dX1_holeFits_43 fO_1_37 (by decide) (gs_52 hg) rfl (gp_52_0 hg) ?_
    refine e_getr dX1_holeFits_46 fO_1_130 (by decide) (gs_3 hg) rfl (gp_3_12 hg) ?_
    refine e_iload_n dX1_holeFits_49 rfl ?_
    obtain ⟨h10, Vh10⟩ := Vh9
    refine e_iald dX1_holeFits_50 (by decide) (gs_14 hg) h10.1 h10.2 ?_
    refine e_ic_ne (tgt := 58) dX1_holeFits_51 (by decide) (fun c11 => ?_) (fun c11 => ?_)
    · have Ac11 := Vh10.1 c11
      refine e_iconst dX1_holeFits_58 ⟨by decide, by decide⟩ ?_
      exact e_zret dX1_holeFits_59 rfl (by decide) (by rw [Ac11.1, Ac11.2])
    · have Bc11 := Vh10.2 c11
      refine e_iconst dX1_holeFits_54 ⟨by decide, by decide⟩ ?_
      refine e_goto (tgt := 59) dX1_holeFits_55 (by decide) ?_
      exact e_zret dX1_holeFits_59 rfl (by decide) (by rw [Bc11.1, Bc11.2])
set_option maxRecDepth 100000 in
set_option maxHeartbeats 4000000 in
theorem v_X1_holeFits_74 {Γ : GX} {g : AG} {I J : Nat → Nat → Int} {r : Option AV} (hg : GOc g) (x1 : Int) (x2 : Int) (x3 : Int) (x5 : Int)
    (V : (((26 ≤ x5)) → (r = some (.inl 1) ∧ J = I)) ∧ ((¬ (26 ≤ x5)) → (((0 : Int) ≤ x5 ∧ (x5 : Int) < 26) ∧ (∀ y3 : Int, y3 = (I 25 x5.toNat) → (∃ (r6 : Int) (J4 : Nat → Nat → Int), CT Γ 0 mX1_mustDiffer [.inr (some 52), .inl x3, .inl x5] (g, I) (some (.inl r6), (g, J4)) ∧ ((((r6 = 0)) → (inR (x5 + 1) ∧ (Ev Γ 1 mX1_holeFits 74 [some (.inr (some 52)), some (.inl x1), some (.inl x2), some (.inl x3), none, some (.inl (x5 + 1)), none] [] (g, J4) (r, (g, J))))) ∧ ((¬ (r6 = 0)) → ((((y3 = (-1))) → (inR (x5 + 1) ∧ (Ev Γ 1 mX1_holeFits 74 [some (.inr (some 52)), some (.inl x1), some (.inl x2), some (.inl x3), none, some (.inl (x5 + 1)), none] [] (g, J4) (r, (g, J))))) ∧ ((¬ (y3 = (-1))) → ((((x1 ≤ y3)) → (inR (x5 + 1) ∧ (Ev Γ 1 mX1_holeFits 74 [some (.inr (some 52)), some (.inl x1), some (.inl x2), some (.inl x3), none, some (.inl (x5 + 1)), none] [] (g, J4) (r, (g, J))))) ∧ ((¬ (x1 ≤ y3)) → (((0 : Int) ≤ y3 ∧ (y3 : Int) < 120) ∧ (((¬ ((J4 17 y3.toNat) = 1)) → (inR (x5 + 1) ∧ (Ev Γ 1 mX1_holeFits 74 [some (.inr (some 52)), some (.inl x1), some (.inl x2), some (.inl x3), none, some (.inl (x5 + 1)), none] [] (g, J4) (r, (g, J))))) ∧ ((((J4 17 y3.toNat) = 1)) → (((0 : Int) ≤ y3 ∧ (y3 : Int) < 120) ∧ (((0 : Int) ≤ (J4 53 y3.toNat) ∧ ((J4 53 y3.toNat) : Int) < 120) ∧ (((0 : Int) ≤ x2 ∧ (x2 : Int) < 120) ∧ (((¬ ((J4 14 (J4 53 y3.toNat).toNat) = (J4 14 x2.toNat))) → (inR (x5 + 1) ∧ (Ev Γ 1 mX1_holeFits 74 [some (.inr (some 52)), some (.inl x1), some (.inl x2), some (.inl x3), none, some (.inl (x5 + 1)), none] [] (g, J4) (r, (g, J))))) ∧ ((((J4 14 (J4 53 y3.toNat).toNat) = (J4 14 x2.toNat))) → (r = some (.inl 0) ∧ J = J4)))))))))))))))))))) : Ev Γ 1 mX1_holeFits 74 [some (.inr (some 52)), some (.inl x1), some (.inl x2), some (.inl x3), none, some (.inl x5), none] [] (g, I) (r, (g, J)) := by
  refine e_iload dX1_holeFits_74 rfl ?_
  refine e_bipush dX1_holeFits_76 (by decide) ⟨by decide, by decide⟩ ?_
  refine e_ic_ge (tgt := 164) dX1_holeFits_78 (by decide) (fun c1 => ?_) (fun c1 => ?_)
  · have Ac1 := V.1 c1
    refine e_iconst dX1_holeFits_164 ⟨by decide, by decide⟩ ?_
    exact e_zret dX1_holeFits_165 rfl (by decide) (by rw [Ac1.1, Ac1.2])
  · have Bc1 := V.2 c1
    refine e_aload_n dX1_holeFits_81 rfl ?_
    refine e_getr dX1_holeFits_82 fO_1_41 (by decide) (gs_52 hg) rfl (gp_52_1 hg) ?_
    refine e_getr dX1_holeFits_85 fO_1_55 (by decide) (gs_15 hg) rfl (gp_15_11 hg) ?_
    refine e_iload dX1_holeFits_88 rfl ?_
    obtain ⟨h2, Vh2⟩ := Bc1
    refine e_iald dX1_holeFits_90 (by decide) (gs_25 hg) h2.1 h2.2 ?_
    refine e_top (fun y3 ey3 => ?_)
    have Wy3 := Vh2 y3 ey3
    refine e_istore dX1_holeFits_91 (by decide) (ls' := [some (.inr (some 52)), some (.inl x1), some (.inl x2), some (.inl x3), none, some (.inl x5), some (.inl y3)]) rfl ?_
    refine e_aload_n dX1_holeFits_93 rfl ?_
    refine e_iload_n dX1_holeFits_94 rfl ?_
    refine e_iload dX1_holeFits_95 rfl ?_
    obtain ⟨r6, J4, h5, Vh5⟩ := Wy3
    refine e_callv (av := [.inl x3, .inl x5]) (st := []) dX1_holeFits_97 cO_1_133 oX1_mustDiffer rfl (by decide) (gs_52 hg) rfl (Nat.le_of_ble_eq_true rfl) (by decide) h5 (Nat.le_refl _) (Nat.le_refl _) rfl rfl ?_
    refine e_if_eq (tgt := 158) dX1_holeFits_100 (by decide) (fun c7 => ?_) (fun c7 => ?_)
    · have Ac7 := Vh5.1 c7
      obtain ⟨h8, Vh8⟩ := Ac7
      refine e_iinc dX1_holeFits_158 (by decide) rfl h8 (ls' := [some (.inr (some 52)), some (.inl x1), some (.inl x2), some (.inl x3), none, some (.inl (x5 + 1)), some (.inl y3)]) rfl ?_
      refine e_goto (tgt := 74) dX1_holeFits_161 (by decide) ?_
      refine ev_drop (ls' := [some (.inr (some 52)), some (.inl x1), some (.inl x2), some (.inl x3), none, some (.inl (x5 + 1)), none]) 6 rfl ?_
      exact Vh8
    · have Bc7 := Vh5.2 c7
      refine e_iload dX1_holeFits_103 rfl ?_
      refine e_iconst dX1_holeFits_105 ⟨by decide, by decide⟩ ?_
      refine e_ic_eq (tgt := 158) dX1_holeFits_106 (by decide) (fun c9 => ?_) (fun c9 => ?_)
      · have Ac9 := Bc7.1 c9
        obtain ⟨h10, Vh10⟩ := Ac9
        refine e_iinc dX1_holeFits_158 (by decide) rfl h10 (ls' := [some (.inr (some 52)), some (.inl x1), some (.inl x2), some (.inl x3), none, some (.inl (x5 + 1)), some (.inl y3)]) rfl ?_
        refine e_goto (tgt := 74) dX1_holeFits_161 (by decide) ?_
        refine ev_drop (ls' := [some (.inr (some 52)), some (.inl x1), some (.inl x2), some (.inl x3), none, some (.inl (x5 + 1)), none]) 6 rfl ?_
        exact Vh10
      · have Bc9 := Bc7.2 c9
        refine e_iload dX1_holeFits_109 rfl ?_
        refine e_iload_n dX1_holeFits_111 rfl ?_
        refine e_ic_ge (tgt := 158) dX1_holeFits_112 (by decide) (fun c11 => ?_) (fun c11 => ?_)
        · have Ac11 := Bc9.1 c11
          obtain ⟨h12, Vh12⟩ := Ac11
          refine e_iinc dX1_holeFits_158 (by decide) rfl h12 (ls' := [some (.inr (some 52)), some (.inl x1), some (.inl x2), some (.inl x3), none, some (.inl (x5 + 1)), some (.inl y3)]) rfl ?_
          refine e_goto (tgt := 74) dX1_holeFits_161 (by decide) ?_
          refine ev_drop (ls' := [some (.inr (some 52)), some (.inl x1), some (.inl x2), some (.inl x3), none, some (.inl (x5 + 1)), none]) 6 rfl ?_
          exact Vh12
        · have Bc11 := Bc9.2 c11
          refine e_aload_n dX1_holeFits_115 rfl ?_
          refine e_getr dX1_holeFits_116 fO_1_41 (by decide) (gs_52 hg) rfl (gp_52_1 hg) ?_
          refine e_getr dX1_holeFits_119 fO_1_77 (by decide) (gs_15 hg) rfl (gp_15_3 hg) ?_
          refine e_iload dX1_holeFits_122 rfl ?_
          obtain ⟨h13, Vh13⟩ := Bc11
          refine e_iald dX1_holeFits_124 (by decide) (gs_17 hg) h13.1 h13.2 ?_
          refine e_iconst dX1_holeFits_125 ⟨by decide, by decide⟩ ?_
          refine e_ic_ne (tgt := 158) dX1_holeFits_126 (by decide) (fun c14 => ?_) (fun c14 => ?_)
          · have Ac14 := Vh13.1 c14
            obtain ⟨h15, Vh15⟩ := Ac14
            refine e_iinc dX1_holeFits_158 (by decide) rfl h15 (ls' := [some (.inr (some 52)), some (.inl x1), some (.inl x2), some (.inl x3), none, some (.inl (x5 + 1)), some (.inl y3)]) rfl ?_
            refine e_goto (tgt := 74) dX1_holeFits_161 (by decide) ?_
            refine ev_drop (ls' := [some (.inr (some 52)), some (.inl x1), some (.inl x2), some (.inl x3), none, some (.inl (x5 + 1)), none]) 6 rfl ?_
            exact Vh15
          · have Bc14 := Vh13.2 c14
            refine e_aload_n dX1_holeFits_129 rfl ?_
            refine e_getr dX1_holeFits_130 fO_1_37 (by decide) (gs_52 hg) rfl (gp_52_0 hg) ?_
            refine e_getr dX1_holeFits_133 fO_1_130 (by decide) (gs_3 hg) rfl (gp_3_12 hg) ?_
            refine e_aload_n dX1_holeFits_136 rfl ?_
            refine e_getr dX1_holeFits_137 fO_1_9 (by decide) (gs_52 hg) rfl (gp_52_2 hg) ?_
            refine e_iload dX1_holeFits_140 rfl ?_
            obtain ⟨h16, Vh16⟩ := Bc14
            refine e_iald dX1_holeFits_142 (by decide) (gs_53 hg) h16.1 h16.2 ?_
            obtain ⟨h17, Vh17⟩ := Vh16
            refine e_iald dX1_holeFits_143 (by decide) (gs_14 hg) h17.1 h17.2 ?_
            refine e_aload_n dX1_holeFits_144 rfl ?_
            refine e_getr dX1_holeFits_145 fO_1_37 (by decide) (gs_52 hg) rfl (gp_52_0 hg) ?_
            refine e_getr dX1_holeFits_148 fO_1_130 (by decide) (gs_3 hg) rfl (gp_3_12 hg) ?_
            refine e_iload_n dX1_holeFits_151 rfl ?_
            obtain ⟨h18, Vh18⟩ := Vh17
            refine e_iald dX1_holeFits_152 (by decide) (gs_14 hg) h18.1 h18.2 ?_
            refine e_ic_ne (tgt := 158) dX1_holeFits_153 (by decide) (fun c19 => ?_) (fun c19 => ?_)
            · have Ac19 := Vh18.1 c19
              obtain ⟨h20, Vh20⟩ := Ac19
              refine e_iinc dX1_holeFits_158 (by decide) rfl h20 (ls' := [some (.inr (some 52)), some (.inl x1), some (.inl x2), some (.inl x3), none, some (.inl (x5 + 1)), some (.inl y3)]) rfl ?_
              refine e_goto (tgt := 74) dX1_holeFits_161 (by decide) ?_
              refine ev_drop (ls' := [some (.inr (some 52)), some (.inl x1), some (.inl x2), some (.inl x3), none, some (.inl (x5 + 1)), none]) 6 rfl ?_
              exact Vh20
            · have Bc19 := Vh18.2 c19
              refine e_iconst dX1_holeFits_156 ⟨by decide, by decide⟩ ?_
              exact e_zret dX1_holeFits_157 rfl (by decide) (by rw [Bc19.1, Bc19.2])
set_option maxRecDepth 100000 in
set_option maxHeartbeats 4000000 in
theorem v_X1_rowFits_0 {Γ : GX} {g : AG} {I J : Nat → Nat → Int} {r : Option AV} (hg : GOc g) (x1 : Int)
    (V : ((0 : Int) ≤ x1 ∧ (x1 : Int) < 120) ∧ (∀ y2 : Int, y2 = (I 21 x1.toNat) → ((((0 ≤ y2)) → (((0 : Int) ≤ y2 ∧ (y2 : Int) < 120) ∧ (((0 : Int) ≤ x1 ∧ (x1 : Int) < 120) ∧ (inR ((I 56 y2.toNat) - (I 57 x1.toNat)) ∧ (∀ y7 : Int, y7 = ((I 56 y2.toNat) - (I 57 x1.toNat)) → (((¬ (x1 = (I 52 7))) → ((((y7 < 0)) → (Ev Γ 1 mX1_rowFits 59 [none, none, none, none, none, none] [] (g, I) (r, (g, J)))) ∧ ((¬ (y7 < 0)) → ((((y7 ≤ y7)) → (((¬ (y7 = 0)) → (((0 : Int) ≤ y2 ∧ (y2 : Int) < 120) ∧ (((0 : Int) ≤ x1 ∧ (x1 : Int) < 120) ∧ (∀ I13 : Nat → Nat → Int, I13 = mset I 53 x1.toNat (I 55 y2.toNat) → (((0 : Int) ≤ x1 ∧ (x1 : Int) < 120) ∧ (∀ I15 : Nat → Nat → Int, I15 = mset I13 54 x1.toNat y7 → (Ev Γ 1 mX1_rowFits 93 [some (.inr (some 52)), some (.inl x1), some (.inl y2), none, some (.inl y7), some (.inl 0)] [] (g, I15) (r, (g, J))))))))) ∧ (((y7 = 0)) → (((0 : Int) ≤ x1 ∧ (x1 : Int) < 120) ∧ (∀ I17 : Nat → Nat → Int, I17 = mset I 53 x1.toNat (-1) → (((0 : Int) ≤ x1 ∧ (x1 : Int) < 120) ∧ (∀ I19 : Nat → Nat → Int, I19 = mset I17 54 x1.toNat y7 → (Ev Γ 1 mX1_rowFits 93 [some (.inr (some 52)), some (.inl x1), some (.inl y2), none, some (.inl y7), some (.inl 0)] [] (g, I19) (r, (g, J)))))))))) ∧ ((¬ (y7 ≤ y7)) → (Ev Γ 1 mX1_rowFits 59 [none, none, none, none, none, none] [] (g, I) (r, (g, J)))))))) ∧ (((x1 = (I 52 7))) → (∀ y21 : Int, y21 = (I 52 9) → ((((y21 < 0)) → (Ev Γ 1 mX1_rowFits 59 [none, none, none, none, none, none] [] (g, I) (r, (g, J)))) ∧ ((¬ (y21 < 0)) → ((((y21 ≤ y7)) → (((¬ (y21 = 0)) → (((0 : Int) ≤ y2 ∧ (y2 : Int) < 120) ∧ (((0 : Int) ≤ x1 ∧ (x1 : Int) < 120) ∧ (∀ I26 : Nat → Nat → Int, I26 = mset I 53 x1.toNat (I 55 y2.toNat) → (((0 : Int) ≤ x1 ∧ (x1 : Int) < 120) ∧ (∀ I28 : Nat → Nat → Int, I28 = mset I26 54 x1.toNat y21 → (Ev Γ 1 mX1_rowFits 93 [some (.inr (some 52)), some (.inl x1), some (.inl y2), none, some (.inl y21), some (.inl 0)] [] (g, I28) (r, (g, J))))))))) ∧ (((y21 = 0)) → (((0 : Int) ≤ x1 ∧ (x1 : Int) < 120) ∧ (∀ I30 : Nat → Nat → Int, I30 = mset I 53 x1.toNat (-1) → (((0 : Int) ≤ x1 ∧ (x1 : Int) < 120) ∧ (∀ I32 : Nat → Nat → Int, I32 = mset I30 54 x1.toNat y21 → (Ev Γ 1 mX1_rowFits 93 [some (.inr (some 52)), some (.inl x1), some (.inl y2), none, some (.inl y21), some (.inl 0)] [] (g, I32) (r, (g, J)))))))))) ∧ ((¬ (y21 ≤ y7)) → (Ev Γ 1 mX1_rowFits 59 [none, none, none, none, none, none] [] (g, I) (r, (g, J))))))))))))))) ∧ ((¬ (0 ≤ y2)) → (r = some (.inl 0) ∧ J = I))))) : Ev Γ 1 mX1_rowFits 0 [some (.inr (some 52)), some (.inl x1), none, none, none, none] [] (g, I) (r, (g, J)) := by
  refine e_aload_n dX1_rowFits_0 rfl ?_
  refine e_getr dX1_rowFits_1 fO_1_41 (by decide) (gs_52 hg) rfl (gp_52_1 hg) ?_
  refine e_getr dX1_rowFits_4 fO_1_80 (by decide) (gs_15 hg) rfl (gp_15_7 hg) ?_
  refine e_iload_n dX1_rowFits_7 rfl ?_
  obtain ⟨h1, Vh1⟩ := V
  refine e_iald dX1_rowFits_8 (by decide) (gs_21 hg) h1.1 h1.2 ?_
  refine e_top (fun y2 ey2 => ?_)
  have Wy2 := Vh1 y2 ey2
  refine e_istore_n dX1_rowFits_9 (by decide) (ls' := [some (.inr (some 52)), some (.inl x1), some (.inl y2), none, none, none]) rfl ?_
  refine e_iload_n dX1_rowFits_10 rfl ?_
  refine e_if_ge (tgt := 16) dX1_rowFits_11 (by decide) (fun c3 => ?_) (fun c3 => ?_)
  · have Ac3 := Wy2.1 c3
    refine e_aload_n dX1_rowFits_16 rfl ?_
    refine e_getr dX1_rowFits_17 fO_1_21 (by decide) (gs_52 hg) rfl (gp_52_5 hg) ?_
    refine e_iload_n dX1_rowFits_20 rfl ?_
    obtain ⟨h4, Vh4⟩ := Ac3
    refine e_iald dX1_rowFits_21 (by decide) (gs_56 hg) h4.1 h4.2 ?_
    refine e_aload_n dX1_rowFits_22 rfl ?_
    refine e_getr dX1_rowFits_23 fO_1_24 (by decide) (gs_52 hg) rfl (gp_52_6 hg) ?_
    refine e_iload_n dX1_rowFits_26 rfl ?_
    obtain ⟨h5, Vh5⟩ := Vh4
    refine e_iald dX1_rowFits_27 (by decide) (gs_57 hg) h5.1 h5.2 ?_
    obtain ⟨h6, Vh6⟩ := Vh5
    refine e_isub dX1_rowFits_28 h6 ?_
    refine e_top (fun y7 ey7 => ?_)
    have Wy7 := Vh6 y7 ey7
    refine e_istore_n dX1_rowFits_29 (by decide) (ls' := [some (.inr (some 52)), some (.inl x1), some (.inl y2), some (.inl y7), none, none]) rfl ?_
    refine e_iload_n dX1_rowFits_30 rfl ?_
    refine e_aload_n dX1_rowFits_31 rfl ?_
    refine e_geti dX1_rowFits_32 fO_1_67 (by decide) (gs_52 hg) rfl ?_
    refine e_ic_ne (tgt := 45) dX1_rowFits_35 (by decide) (fun c8 => ?_) (fun c8 => ?_)
    · have Ac8 := Wy7.1 c8
      refine e_iload_n dX1_rowFits_45 rfl ?_
      refine e_istore dX1_rowFits_46 (by decide) (ls' := [some (.inr (some 52)), some (.inl x1), some (.inl y2), some (.inl y7), some (.inl y7), none]) rfl ?_
      refine e_iload dX1_rowFits_48 rfl ?_
      refine e_if_lt (tgt := 59) dX1_rowFits_50 (by decide) (fun c9 => ?_) (fun c9 => ?_)
      · have Ac9 := Ac8.1 c9
        refine ev_drop (ls' := [none, some (.inl x1), some (.inl y2), some (.inl y7), some (.inl y7), none]) 0 rfl ?_
        refine ev_drop (ls' := [none, none, some (.inl y2), some (.inl y7), some (.inl y7), none]) 1 rfl ?_
        refine ev_drop (ls' := [none, none, none, some (.inl y7), some (.inl y7), none]) 2 rfl ?_
        refine ev_drop (ls' := [none, none, none, none, some (.inl y7), none]) 3 rfl ?_
        refine ev_drop (ls' := [none, none, none, none, none, none]) 4 rfl ?_
        exact Ac9
      · have Bc9 := Ac8.2 c9
        refine e_iload dX1_rowFits_53 rfl ?_
        refine e_iload_n dX1_rowFits_55 rfl ?_
        refine e_ic_le (tgt := 61) dX1_rowFits_56 (by decide) (fun c10 => ?_) (fun c10 => ?_)
        · have Ac10 := Bc9.1 c10
          refine e_aload_n dX1_rowFits_61 rfl ?_
          refine e_getr dX1_rowFits_62 fO_1_9 (by decide) (gs_52 hg) rfl (gp_52_2 hg) ?_
          refine e_iload_n dX1_rowFits_65 rfl ?_
          refine e_iload dX1_rowFits_66 rfl ?_
          refine e_if_ne (tgt := 75) dX1_rowFits_68 (by decide) (fun c11 => ?_) (fun c11 => ?_)
          · have Ac11 := Ac10.1 c11
            refine e_aload_n dX1_rowFits_75 rfl ?_
            refine e_getr dX1_rowFits_76 fO_1_18 (by decide) (gs_52 hg) rfl (gp_52_4 hg) ?_
            refine e_iload_n dX1_rowFits_79 rfl ?_
            obtain ⟨h12, Vh12⟩ := Ac11
            refine e_iald dX1_rowFits_80 (by decide) (gs_55 hg) h12.1 h12.2 ?_
            obtain ⟨h14, Vh14⟩ := Vh12
            refine e_iast dX1_rowFits_81 (by decide) (gs_53 hg) h14.1 h14.2 ?_
            refine e_mem (fun I13 eI13 => ?_)
            have WI13 := Vh14 I13 eI13
            refine e_aload_n dX1_rowFits_82 rfl ?_
            refine e_getr dX1_rowFits_83 fO_1_15 (by decide) (gs_52 hg) rfl (gp_52_3 hg) ?_
            refine e_iload_n dX1_rowFits_86 rfl ?_
            refine e_iload dX1_rowFits_87 rfl ?_
            obtain ⟨h16, Vh16⟩ := WI13
            refine e_iast dX1_rowFits_89 (by decide) (gs_54 hg) h16.1 h16.2 ?_
            refine e_mem (fun I15 eI15 => ?_)
            have WI15 := Vh16 I15 eI15
            refine e_iconst dX1_rowFits_90 ⟨by decide, by decide⟩ ?_
            refine e_istore dX1_rowFits_91 (by decide) (ls' := [some (.inr (some 52)), some (.inl x1), some (.inl y2), some (.inl y7), some (.inl y7), some (.inl 0)]) rfl ?_
            refine ev_drop (ls' := [some (.inr (some 52)), some (.inl x1), some (.inl y2), none, some (.inl y7), some (.inl 0)]) 3 rfl ?_
            exact WI15
          · have Bc11 := Ac10.2 c11
            refine e_iconst dX1_rowFits_71 ⟨by decide, by decide⟩ ?_
            refine e_goto (tgt := 81) dX1_rowFits_72 (by decide) ?_
            obtain ⟨h18, Vh18⟩ := Bc11
            refine e_iast dX1_rowFits_81 (by decide) (gs_53 hg) h18.1 h18.2 ?_
            refine e_mem (fun I17 eI17 => ?_)
            have WI17 := Vh18 I17 eI17
            refine e_aload_n dX1_rowFits_82 rfl ?_
            refine e_getr dX1_rowFits_83 fO_1_15 (by decide) (gs_52 hg) rfl (gp_52_3 hg) ?_
            refine e_iload_n dX1_rowFits_86 rfl ?_
            refine e_iload dX1_rowFits_87 rfl ?_
            obtain ⟨h20, Vh20⟩ := WI17
            refine e_iast dX1_rowFits_89 (by decide) (gs_54 hg) h20.1 h20.2 ?_
            refine e_mem (fun I19 eI19 => ?_)
            have WI19 := Vh20 I19 eI19
            refine e_iconst dX1_rowFits_90 ⟨by decide, by decide⟩ ?_
            refine e_istore dX1_rowFits_91 (by decide) (ls' := [some (.inr (some 52)), some (.inl x1), some (.inl y2), some (.inl y7), some (.inl y7), some (.inl 0)]) rfl ?_
            refine ev_drop (ls' := [some (.inr (some 52)), some (.inl x1), some (.inl y2), none, some (.inl y7), some (.inl 0)]) 3 rfl ?_
            exact WI19
        · have Bc10 := Bc9.2 c10
          refine ev_drop (ls' := [none, some (.inl x1), some (.inl y2), some (.inl y7), some (.inl y7), none]) 0 rfl ?_
          refine ev_drop (ls' := [none, none, some (.inl y2), some (.inl y7), some (.inl y7), none]) 1 rfl ?_
          refine ev_drop (ls' := [none, none, none, some (.inl y7), some (.inl y7), none]) 2 rfl ?_
          refine ev_drop (ls' := [none, none, none, none, some (.inl y7), none]) 3 rfl ?_
          refine ev_drop (ls' := [none, none, none, none, none, none]) 4 rfl ?_
          exact Bc10
    · have Bc8 := Wy7.2 c8
      refine e_aload_n dX1_rowFits_38 rfl ?_
      refine e_geti dX1_rowFits_39 fO_1_92 (by decide) (gs_52 hg) rfl ?_
      refine e_goto (tgt := 46) dX1_rowFits_42 (by decide) ?_
      refine e_top (fun y21 ey21 => ?_)
      have Wy21 := Bc8 y21 ey21
      refine e_istore dX1_rowFits_46 (by decide) (ls' := [some (.inr (some 52)), some (.inl x1), some (.inl y2), some (.inl y7), some (.inl y21), none]) rfl ?_
      refine e_iload dX1_rowFits_48 rfl ?_
      refine e_if_lt (tgt := 59) dX1_rowFits_50 (by decide) (fun c22 => ?_) (fun c22 => ?_)
      · have Ac22 := Wy21.1 c22
        refine ev_drop (ls' := [none, some (.inl x1), some (.inl y2), some (.inl y7), some (.inl y21), none]) 0 rfl ?_
        refine ev_drop (ls' := [none, none, some (.inl y2), some (.inl y7), some (.inl y21), none]) 1 rfl ?_
        refine ev_drop (ls' := [none, none, none, some (.inl y7), some (.inl y21), none]) 2 rfl ?_
        refine ev_drop (ls' := [none, none, none, none, some (.inl y21), none]) 3 rfl ?_
        refine ev_drop (ls' := [none, none, none, none, none, none]) 4 rfl ?_
        exact Ac22
      · have Bc22 := Wy21.2 c22
        refine e_iload dX1_rowFits_53 rfl ?_
        refine e_iload_n dX1_rowFits_55 rfl ?_
        refine e_ic_le (tgt := 61) dX1_rowFits_56 (by decide) (fun c23 => ?_) (fun c23 => ?_)
        · have Ac23 := Bc22.1 c23
          refine e_aload_n dX1_rowFits_61 rfl ?_
          refine e_getr dX1_rowFits_62 fO_1_9 (by decide) (gs_52 hg) rfl (gp_52_2 hg) ?_
          refine e_iload_n dX1_rowFits_65 rfl ?_
          refine e_iload dX1_rowFits_66 rfl ?_
          refine e_if_ne (tgt := 75) dX1_rowFits_68 (by decide) (fun c24 => ?_) (fun c24 => ?_)
          · have Ac24 := Ac23.1 c24
            refine e_aload_n dX1_rowFits_75 rfl ?_
            refine e_getr dX1_rowFits_76 fO_1_18 (by decide) (gs_52 hg) rfl (gp_52_4 hg) ?_
            refine e_iload_n dX1_rowFits_79 rfl ?_
            obtain ⟨h25, Vh25⟩ := Ac24
            refine e_iald dX1_rowFits_80 (by decide) (gs_55 hg) h25.1 h25.2 ?_
            obtain ⟨h27, Vh27⟩ := Vh25
            refine e_iast dX1_rowFits_81 (by decide) (gs_53 hg) h27.1 h27.2 ?_
            refine e_mem (fun I26 eI26 => ?_)
            have WI26 := Vh27 I26 eI26
            refine e_aload_n dX1_rowFits_82 rfl ?_
            refine e_getr dX1_rowFits_83 fO_1_15 (by decide) (gs_52 hg) rfl (gp_52_3 hg) ?_
            refine e_iload_n dX1_rowFits_86 rfl ?_
            refine e_iload dX1_rowFits_87 rfl ?_
            obtain ⟨h29, Vh29⟩ := WI26
            refine e_iast dX1_rowFits_89 (by decide) (gs_54 hg) h29.1 h29.2 ?_
            refine e_mem (fun I28 eI28 => ?_)
            have WI28 := Vh29 I28 eI28
            refine e_iconst dX1_rowFits_90 ⟨by decide, by decide⟩ ?_
            refine e_istore dX1_rowFits_91 (by decide) (ls' := [some (.inr (some 52)), some (.inl x1), some (.inl y2), some (.inl y7), some (.inl y21), some (.inl 0)]) rfl ?_
            refine ev_drop (ls' := [some (.inr (some 52)), some (.inl x1), some (.inl y2), none, some (.inl y21), some (.inl 0)]) 3 rfl ?_
            exact WI28
          · have Bc24 := Ac23.2 c24
            refine e_iconst dX1_rowFits_71 ⟨by decide, by decide⟩ ?_
            refine e_goto (tgt := 81) dX1_rowFits_72 (by decide) ?_
            obtain ⟨h31, Vh31⟩ := Bc24
            refine e_iast dX1_rowFits_81 (by decide) (gs_53 hg) h31.1 h31.2 ?_
            refine e_mem (fun I30 eI30 => ?_)
            have WI30 := Vh31 I30 eI30
            refine e_aload_n dX1_rowFits_82 rfl ?_
            refine e_getr dX1_rowFits_83 fO_1_15 (by decide) (gs_52 hg) rfl (gp_52_3 hg) ?_
            refine e_iload_n dX1_rowFits_86 rfl ?_
            refine e_iload dX1_rowFits_87 rfl ?_
            obtain ⟨h33, Vh33⟩ := WI30
            refine e_iast dX1_rowFits_89 (by decide) (gs_54 hg) h33.1 h33.2 ?_
            refine e_mem (fun I32 eI32 => ?_)
            have WI32 := Vh33 I32 eI32
            refine e_iconst dX1_rowFits_90 ⟨by decide, by decide⟩ ?_
            refine e_istore dX1_rowFits_91 (by decide) (ls' := [some (.inr (some 52)), some (.inl x1), some (.inl y2), some (.inl y7), some (.inl y21), some (.inl 0)]) rfl ?_
            refine ev_drop (ls' := [some (.inr (some 52)), some (.inl x1), some (.inl y2), none, some (.inl y21), some (.inl 0)]) 3 rfl ?_
            exact WI32
        · have Bc23 := Bc22.2 c23
          refine ev_drop (ls' := [none, some (.inl x1), some (.inl y2), some (.inl y7), some (.inl y21), none]) 0 rfl ?_
          refine ev_drop (ls' := [none, none, some (.inl y2), some (.inl y7), some (.inl y21), none]) 1 rfl ?_
          refine ev_drop (ls' := [none, none, none, some (.inl y7), some (.inl y21), none]) 2 rfl ?_
          refine ev_drop (ls' := [none, none, none, none, some (.inl y21), none]) 3 rfl ?_
          refine ev_drop (ls' := [none, none, none, none, none, none]) 4 rfl ?_
          exact Bc23
  · have Bc3 := Wy2.2 c3
    refine e_iconst dX1_rowFits_14 ⟨by decide, by decide⟩ ?_
    exact e_zret dX1_rowFits_15 rfl (by decide) (by rw [Bc3.1, Bc3.2])
set_option maxRecDepth 100000 in
set_option maxHeartbeats 4000000 in
theorem v_X1_rowFits_59 {Γ : GX} {g : AG} {I J : Nat → Nat → Int} {r : Option AV} (hg : GOc g) 
    (V : r = some (.inl 0) ∧ J = I) : Ev Γ 1 mX1_rowFits 59 [none, none, none, none, none, none] [] (g, I) (r, (g, J)) := by
  refine e_iconst dX1_rowFits_59 ⟨by decide, by decide⟩ ?_
  exact e_zret dX1_rowFits_60 rfl (by decide) (by rw [V.1, V.2])
set_option maxRecDepth 100000 in
set_option maxHeartbeats 4000000 in
theorem v_X1_rowFits_93 {Γ : GX} {g : AG} {I J : Nat → Nat → Int} {r : Option AV} (hg : GOc g) (x1 : Int) (x2 : Int) (x4 : Int) (x5 : Int)
    (V : (((x4 ≤ x5)) → (((0 : Int) ≤ x2 ∧ (x2 : Int) < 120) ∧ (inR ((I 56 x2.toNat) - x4) ∧ (((0 : Int) ≤ x2 ∧ (x2 : Int) < 120) ∧ (∀ I4 : Nat → Nat → Int, I4 = mset I 56 x2.toNat ((I 56 x2.toNat) - x4) → (((0 : Int) ≤ x1 ∧ (x1 : Int) < 120) ∧ (((0 : Int) ≤ (I4 24 x1.toNat) ∧ ((I4 24 x1.toNat) : Int) < 26) ∧ (∀ y8 : Int, y8 = (I4 25 (I4 24 x1.toNat).toNat) → ((((y8 = x1)) → (Ev Γ 1 mX1_rowFits 171 [none, none, none, none, none, none] [] (g, I4) (r, (g, J)))) ∧ ((¬ (y8 = x1)) → (∃ (r12 : Int) (J10 : Nat → Nat → Int), CT Γ 0 mX1_rowsAlike [.inr (some 52), .inl y8, .inl x1] (g, I4) (some (.inl r12), (g, J10)) ∧ ((((r12 = 0)) → (r = some (.inl 0) ∧ J = J10)) ∧ ((¬ (r12 = 0)) → (Ev Γ 1 mX1_rowFits 171 [none, none, none, none, none, none] [] (g, J10) (r, (g, J)))))))))))))))) ∧ ((¬ (x4 ≤ x5)) → (((0 : Int) ≤ x2 ∧ (x2 : Int) < 120) ∧ (∃ (r17 : Int) (J15 : Nat → Nat → Int), CT Γ 0 mX5_next [.inr (some 3), .inl (I 55 x2.toNat)] (g, I) (some (.inl r17), (g, J15)) ∧ (((0 : Int) ≤ x2 ∧ (x2 : Int) < 120) ∧ (∀ I18 : Nat → Nat → Int, I18 = mset J15 55 x2.toNat r17 → (inR (x5 + 1) ∧ (Ev Γ 1 mX1_rowFits 93 [some (.inr (some 52)), some (.inl x1), some (.inl x2), none, some (.inl x4), some (.inl (x5 + 1))] [] (g, I18) (r, (g, J)))))))))) : Ev Γ 1 mX1_rowFits 93 [some (.inr (some 52)), some (.inl x1), some (.inl x2), none, some (.inl x4), some (.inl x5)] [] (g, I) (r, (g, J)) := by
  refine e_iload dX1_rowFits_93 rfl ?_
  refine e_iload dX1_rowFits_95 rfl ?_
  refine e_ic_ge (tgt := 125) dX1_rowFits_97 (by decide) (fun c1 => ?_) (fun c1 => ?_)
  · have Ac1 := V.1 c1
    refine e_aload_n dX1_rowFits_125 rfl ?_
    refine e_getr dX1_rowFits_126 fO_1_21 (by decide) (gs_52 hg) rfl (gp_52_5 hg) ?_
    refine e_iload_n dX1_rowFits_129 rfl ?_
    refine e_dup2 dX1_rowFits_130 ?_
    obtain ⟨h2, Vh2⟩ := Ac1
    refine e_iald dX1_rowFits_131 (by decide) (gs_56 hg) h2.1 h2.2 ?_
    refine e_iload dX1_rowFits_132 rfl ?_
    obtain ⟨h3, Vh3⟩ := Vh2
    refine e_isub dX1_rowFits_134 h3 ?_
    obtain ⟨h5, Vh5⟩ := Vh3
    refine e_iast dX1_rowFits_135 (by decide) (gs_56 hg) h5.1 h5.2 ?_
    refine e_mem (fun I4 eI4 => ?_)
    have WI4 := Vh5 I4 eI4
    refine e_aload_n dX1_rowFits_136 rfl ?_
    refine e_getr dX1_rowFits_137 fO_1_41 (by decide) (gs_52 hg) rfl (gp_52_1 hg) ?_
    refine e_getr dX1_rowFits_140 fO_1_55 (by decide) (gs_15 hg) rfl (gp_15_11 hg) ?_
    refine e_aload_n dX1_rowFits_143 rfl ?_
    refine e_getr dX1_rowFits_144 fO_1_41 (by decide) (gs_52 hg) rfl (gp_52_1 hg) ?_
    refine e_getr dX1_rowFits_147 fO_1_127 (by decide) (gs_15 hg) rfl (gp_15_10 hg) ?_
    refine e_iload_n dX1_rowFits_150 rfl ?_
    obtain ⟨h6, Vh6⟩ := WI4
    refine e_iald dX1_rowFits_151 (by decide) (gs_24 hg) h6.1 h6.2 ?_
    obtain ⟨h7, Vh7⟩ := Vh6
    refine e_iald dX1_rowFits_152 (by decide) (gs_25 hg) h7.1 h7.2 ?_
    refine e_top (fun y8 ey8 => ?_)
    have Wy8 := Vh7 y8 ey8
    refine e_istore dX1_rowFits_153 (by decide) (ls' := [some (.inr (some 52)), some (.inl x1), some (.inl x2), none, some (.inl x4), some (.inl y8)]) rfl ?_
    refine e_iload dX1_rowFits_155 rfl ?_
    refine e_iload_n dX1_rowFits_157 rfl ?_
    refine e_ic_eq (tgt := 171) dX1_rowFits_158 (by decide) (fun c9 => ?_) (fun c9 => ?_)
    · have Ac9 := Wy8.1 c9
      refine ev_drop (ls' := [none, some (.inl x1), some (.inl x2), none, some (.inl x4), some (.inl y8)]) 0 rfl ?_
      refine ev_drop (ls' := [none, none, some (.inl x2), none, some (.inl x4), some (.inl y8)]) 1 rfl ?_
      refine ev_drop (ls' := [none, none, none, none, some (.inl x4), some (.inl y8)]) 2 rfl ?_
      refine ev_drop (ls' := [none, none, none, none, none, some (.inl y8)]) 4 rfl ?_
      refine ev_drop (ls' := [none, none, none, none, none, none]) 5 rfl ?_
      exact Ac9
    · have Bc9 := Wy8.2 c9
      refine e_aload_n dX1_rowFits_161 rfl ?_
      refine e_iload dX1_rowFits_162 rfl ?_
      refine e_iload_n dX1_rowFits_164 rfl ?_
      obtain ⟨r12, J10, h11, Vh11⟩ := Bc9
      refine e_callv (av := [.inl y8, .inl x1]) (st := []) dX1_rowFits_165 cO_1_139 oX1_rowsAlike rfl (by decide) (gs_52 hg) rfl (Nat.le_of_ble_eq_true rfl) (by decide) h11 (Nat.le_refl _) (Nat.le_refl _) rfl rfl ?_
      refine e_if_eq (tgt := 175) dX1_rowFits_168 (by decide) (fun c13 => ?_) (fun c13 => ?_)
      · have Ac13 := Vh11.1 c13
        refine e_iconst dX1_rowFits_175 ⟨by decide, by decide⟩ ?_
        exact e_zret dX1_rowFits_176 rfl (by decide) (by rw [Ac13.1, Ac13.2])
      · have Bc13 := Vh11.2 c13
        refine ev_drop (ls' := [none, some (.inl x1), some (.inl x2), none, some (.inl x4), some (.inl y8)]) 0 rfl ?_
        refine ev_drop (ls' := [none, none, some (.inl x2), none, some (.inl x4), some (.inl y8)]) 1 rfl ?_
        refine ev_drop (ls' := [none, none, none, none, some (.inl x4), some (.inl y8)]) 2 rfl ?_
        refine ev_drop (ls' := [none, none, none, none, none, some (.inl y8)]) 4 rfl ?_
        refine ev_drop (ls' := [none, none, none, none, none, none]) 5 rfl ?_
        exact Bc13
  · have Bc1 := V.2 c1
    refine e_aload_n dX1_rowFits_100 rfl ?_
    refine e_getr dX1_rowFits_101 fO_1_18 (by decide) (gs_52 hg) rfl (gp_52_4 hg) ?_
    refine e_iload_n dX1_rowFits_104 rfl ?_
    refine e_aload_n dX1_rowFits_105 rfl ?_
    refine e_getr dX1_rowFits_106 fO_1_37 (by decide) (gs_52 hg) rfl (gp_52_0 hg) ?_
    refine e_aload_n dX1_rowFits_109 rfl ?_
    refine e_getr dX1_rowFits_110 fO_1_18 (by decide) (gs_52 hg) rfl (gp_52_4 hg) ?_
    refine e_iload_n dX1_rowFits_113 rfl ?_
    obtain ⟨h14, Vh14⟩ := Bc1
    refine e_iald dX1_rowFits_114 (by decide) (gs_55 hg) h14.1 h14.2 ?_
    obtain ⟨r17, J15, h16, Vh16⟩ := Vh14
    refine e_callv (av := [.inl (I 55 x2.toNat)]) (st := [.inl x2, .inr (some 55)]) dX1_rowFits_115 cO_1_136 oX5_next rfl (by decide) (gs_3 hg) rfl (Nat.le_of_ble_eq_true rfl) (by decide) h16 (Nat.le_refl _) (Nat.le_refl _) rfl rfl ?_
    obtain ⟨h19, Vh19⟩ := Vh16
    refine e_iast dX1_rowFits_118 (by decide) (gs_55 hg) h19.1 h19.2 ?_
    refine e_mem (fun I18 eI18 => ?_)
    have WI18 := Vh19 I18 eI18
    obtain ⟨h20, Vh20⟩ := WI18
    refine e_iinc dX1_rowFits_119 (by decide) rfl h20 (ls' := [some (.inr (some 52)), some (.inl x1), some (.inl x2), none, some (.inl x4), some (.inl (x5 + 1))]) rfl ?_
    refine e_goto (tgt := 93) dX1_rowFits_122 (by decide) ?_
    exact Vh20
set_option maxRecDepth 100000 in
set_option maxHeartbeats 4000000 in
theorem v_X1_rowFits_171 {Γ : GX} {g : AG} {I J : Nat → Nat → Int} {r : Option AV} (hg : GOc g) 
    (V : r = some (.inl 1) ∧ J = I) : Ev Γ 1 mX1_rowFits 171 [none, none, none, none, none, none] [] (g, I) (r, (g, J)) := by
  refine e_iconst dX1_rowFits_171 ⟨by decide, by decide⟩ ?_
  refine e_goto (tgt := 176) dX1_rowFits_172 (by decide) ?_
  exact e_zret dX1_rowFits_176 rfl (by decide) (by rw [V.1, V.2])
set_option maxRecDepth 100000 in
set_option maxHeartbeats 4000000 in
theorem v_X1_rowsAlike_0 {Γ : GX} {g : AG} {I J : Nat → Nat → Int} {r : Option AV} (hg : GOc g) (x1 : Int) (x2 : Int)
    (V : ((0 : Int) ≤ x1 ∧ (x1 : Int) < 120) ∧ (((0 : Int) ≤ x2 ∧ (x2 : Int) < 120) ∧ (((((I 54 x1.toNat) = (I 54 x2.toNat))) → (((0 : Int) ≤ x1 ∧ (x1 : Int) < 120) ∧ (∀ y5 : Int, y5 = (I 53 x1.toNat) → (((0 : Int) ≤ x2 ∧ (x2 : Int) < 120) ∧ (∀ y7 : Int, y7 = (I 53 x2.toNat) → (Ev Γ 0 mX1_rowsAlike 35 [some (.inr (some 52)), some (.inl x1), none, some (.inl y5), some (.inl y7), some (.inl 0)] [] (g, I) (r, (g, J)))))))) ∧ ((¬ ((I 54 x1.toNat) = (I 54 x2.toNat))) → (r = some (.inl 0) ∧ J = I))))) : Ev Γ 0 mX1_rowsAlike 0 [some (.inr (some 52)), some (.inl x1), some (.inl x2), none, none, none] [] (g, I) (r, (g, J)) := by
  refine e_aload_n dX1_rowsAlike_0 rfl ?_
  refine e_getr dX1_rowsAlike_1 fO_1_15 (by decide) (gs_52 hg) rfl (gp_52_3 hg) ?_
  refine e_iload_n dX1_rowsAlike_4 rfl ?_
  obtain ⟨h1, Vh1⟩ := V
  refine e_iald dX1_rowsAlike_5 (by decide) (gs_54 hg) h1.1 h1.2 ?_
  refine e_aload_n dX1_rowsAlike_6 rfl ?_
  refine e_getr dX1_rowsAlike_7 fO_1_15 (by decide) (gs_52 hg) rfl (gp_52_3 hg) ?_
  refine e_iload_n dX1_rowsAlike_10 rfl ?_
  obtain ⟨h2, Vh2⟩ := Vh1
  refine e_iald dX1_rowsAlike_11 (by decide) (gs_54 hg) h2.1 h2.2 ?_
  refine e_ic_eq (tgt := 17) dX1_rowsAlike_12 (by decide) (fun c3 => ?_) (fun c3 => ?_)
  · have Ac3 := Vh2.1 c3
    refine e_aload_n dX1_rowsAlike_17 rfl ?_
    refine e_getr dX1_rowsAlike_18 fO_1_9 (by decide) (gs_52 hg) rfl (gp_52_2 hg) ?_
    refine e_iload_n dX1_rowsAlike_21 rfl ?_
    obtain ⟨h4, Vh4⟩ := Ac3
    refine e_iald dX1_rowsAlike_22 (by decide) (gs_53 hg) h4.1 h4.2 ?_
    refine e_top (fun y5 ey5 => ?_)
    have Wy5 := Vh4 y5 ey5
    refine e_istore_n dX1_rowsAlike_23 (by decide) (ls' := [some (.inr (some 52)), some (.inl x1), some (.inl x2), some (.inl y5), none, none]) rfl ?_
    refine e_aload_n dX1_rowsAlike_24 rfl ?_
    refine e_getr dX1_rowsAlike_25 fO_1_9 (by decide) (gs_52 hg) rfl (gp_52_2 hg) ?_
    refine e_iload_n dX1_rowsAlike_28 rfl ?_
    obtain ⟨h6, Vh6⟩ := Wy5
    refine e_iald dX1_rowsAlike_29 (by decide) (gs_53 hg) h6.1 h6.2 ?_
    refine e_top (fun y7 ey7 => ?_)
    have Wy7 := Vh6 y7 ey7
    refine e_istore dX1_rowsAlike_30 (by decide) (ls' := [some (.inr (some 52)), some (.inl x1), some (.inl x2), some (.inl y5), some (.inl y7), none]) rfl ?_
    refine e_iconst dX1_rowsAlike_32 ⟨by decide, by decide⟩ ?_
    refine e_istore dX1_rowsAlike_33 (by decide) (ls' := [some (.inr (some 52)), some (.inl x1), some (.inl x2), some (.inl y5), some (.inl y7), some (.inl 0)]) rfl ?_
    refine ev_drop (ls' := [some (.inr (some 52)), some (.inl x1), none, some (.inl y5), some (.inl y7), some (.inl 0)]) 2 rfl ?_
    exact Wy7
  · have Bc3 := Vh2.2 c3
    refine e_iconst dX1_rowsAlike_15 ⟨by decide, by decide⟩ ?_
    exact e_zret dX1_rowsAlike_16 rfl (by decide) (by rw [Bc3.1, Bc3.2])
set_option maxRecDepth 100000 in
set_option maxHeartbeats 4000000 in
theorem v_X1_rowsAlike_35 {Γ : GX} {g : AG} {I J : Nat → Nat → Int} {r : Option AV} (hg : GOc g) (x1 : Int) (x3 : Int) (x4 : Int) (x5 : Int)
    (V : ((0 : Int) ≤ x1 ∧ (x1 : Int) < 120) ∧ (((((I 54 x1.toNat) ≤ x5)) → (r = some (.inl 1) ∧ J = I)) ∧ ((¬ ((I 54 x1.toNat) ≤ x5)) → ((((x3 < 0)) → (r = some (.inl 0) ∧ J = I)) ∧ ((¬ (x3 < 0)) → ((((x4 < 0)) → (r = some (.inl 0) ∧ J = I)) ∧ ((¬ (x4 < 0)) → (((((I 3 2) ≤ x3)) → (r = some (.inl 0) ∧ J = I)) ∧ ((¬ ((I 3 2) ≤ x3)) → ((((x4 < (I 3 2))) → (((0 : Int) ≤ x3 ∧ (x3 : Int) < 120) ∧ (((0 : Int) ≤ x4 ∧ (x4 : Int) < 120) ∧ (((((I 14 x3.toNat) = (I 14 x4.toNat))) → (((0 : Int) ≤ x3 ∧ (x3 : Int) < 120) ∧ (inR (x3 + (I 11 x3.toNat)) ∧ (∀ y12 : Int, y12 = (x3 + (I 11 x3.toNat)) → (((0 : Int) ≤ x4 ∧ (x4 : Int) < 120) ∧ (inR (x4 + (I 11 x4.toNat)) ∧ (∀ y15 : Int, y15 = (x4 + (I 11 x4.toNat)) → (inR (x5 + 1) ∧ (Ev Γ 0 mX1_rowsAlike 35 [some (.inr (some 52)), some (.inl x1), none, some (.inl y12), some (.inl y15), some (.inl (x5 + 1))] [] (g, I) (r, (g, J))))))))))) ∧ ((¬ ((I 14 x3.toNat) = (I 14 x4.toNat))) → (r = some (.inl 0) ∧ J = I)))))) ∧ ((¬ (x4 < (I 3 2))) → (r = some (.inl 0) ∧ J = I)))))))))))) : Ev Γ 0 mX1_rowsAlike 35 [some (.inr (some 52)), some (.inl x1), none, some (.inl x3), some (.inl x4), some (.inl x5)] [] (g, I) (r, (g, J)) := by
  refine e_iload dX1_rowsAlike_35 rfl ?_
  refine e_aload_n dX1_rowsAlike_37 rfl ?_
  refine e_getr dX1_rowsAlike_38 fO_1_15 (by decide) (gs_52 hg) rfl (gp_52_3 hg) ?_
  refine e_iload_n dX1_rowsAlike_41 rfl ?_
  obtain ⟨h1, Vh1⟩ := V
  refine e_iald dX1_rowsAlike_42 (by decide) (gs_54 hg) h1.1 h1.2 ?_
  refine e_ic_ge (tgt := 137) dX1_rowsAlike_43 (by decide) (fun c2 => ?_) (fun c2 => ?_)
  · have Ac2 := Vh1.1 c2
    refine e_iconst dX1_rowsAlike_137 ⟨by decide, by decide⟩ ?_
    exact e_zret dX1_rowsAlike_138 rfl (by decide) (by rw [Ac2.1, Ac2.2])
  · have Bc2 := Vh1.2 c2
    refine e_iload_n dX1_rowsAlike_46 rfl ?_
    refine e_if_lt (tgt := 78) dX1_rowsAlike_47 (by decide) (fun c3 => ?_) (fun c3 => ?_)
    · have Ac3 := Bc2.1 c3
      refine e_iconst dX1_rowsAlike_78 ⟨by decide, by decide⟩ ?_
      exact e_zret dX1_rowsAlike_79 rfl (by decide) (by rw [Ac3.1, Ac3.2])
    · have Bc3 := Bc2.2 c3
      refine e_iload dX1_rowsAlike_50 rfl ?_
      refine e_if_lt (tgt := 78) dX1_rowsAlike_52 (by decide) (fun c4 => ?_) (fun c4 => ?_)
      · have Ac4 := Bc3.1 c4
        refine e_iconst dX1_rowsAlike_78 ⟨by decide, by decide⟩ ?_
        exact e_zret dX1_rowsAlike_79 rfl (by decide) (by rw [Ac4.1, Ac4.2])
      · have Bc4 := Bc3.2 c4
        refine e_iload_n dX1_rowsAlike_55 rfl ?_
        refine e_aload_n dX1_rowsAlike_56 rfl ?_
        refine e_getr dX1_rowsAlike_57 fO_1_37 (by decide) (gs_52 hg) rfl (gp_52_0 hg) ?_
        refine e_geti dX1_rowsAlike_60 fO_1_60 (by decide) (gs_3 hg) rfl ?_
        refine e_ic_ge (tgt := 78) dX1_rowsAlike_63 (by decide) (fun c5 => ?_) (fun c5 => ?_)
        · have Ac5 := Bc4.1 c5
          refine e_iconst dX1_rowsAlike_78 ⟨by decide, by decide⟩ ?_
          exact e_zret dX1_rowsAlike_79 rfl (by decide) (by rw [Ac5.1, Ac5.2])
        · have Bc5 := Bc4.2 c5
          refine e_iload dX1_rowsAlike_66 rfl ?_
          refine e_aload_n dX1_rowsAlike_68 rfl ?_
          refine e_getr dX1_rowsAlike_69 fO_1_37 (by decide) (gs_52 hg) rfl (gp_52_0 hg) ?_
          refine e_geti dX1_rowsAlike_72 fO_1_60 (by decide) (gs_3 hg) rfl ?_
          refine e_ic_lt (tgt := 80) dX1_rowsAlike_75 (by decide) (fun c6 => ?_) (fun c6 => ?_)
          · have Ac6 := Bc5.1 c6
            refine e_aload_n dX1_rowsAlike_80 rfl ?_
            refine e_getr dX1_rowsAlike_81 fO_1_37 (by decide) (gs_52 hg) rfl (gp_52_0 hg) ?_
            refine e_getr dX1_rowsAlike_84 fO_1_130 (by decide) (gs_3 hg) rfl (gp_3_12 hg) ?_
            refine e_iload_n dX1_rowsAlike_87 rfl ?_
            obtain ⟨h7, Vh7⟩ := Ac6
            refine e_iald dX1_rowsAlike_88 (by decide) (gs_14 hg) h7.1 h7.2 ?_
            refine e_aload_n dX1_rowsAlike_89 rfl ?_
            refine e_getr dX1_rowsAlike_90 fO_1_37 (by decide) (gs_52 hg) rfl (gp_52_0 hg) ?_
            refine e_getr dX1_rowsAlike_93 fO_1_130 (by decide) (gs_3 hg) rfl (gp_3_12 hg) ?_
            refine e_iload dX1_rowsAlike_96 rfl ?_
            obtain ⟨h8, Vh8⟩ := Vh7
            refine e_iald dX1_rowsAlike_98 (by decide) (gs_14 hg) h8.1 h8.2 ?_
            refine e_ic_eq (tgt := 104) dX1_rowsAlike_99 (by decide) (fun c9 => ?_) (fun c9 => ?_)
            · have Ac9 := Vh8.1 c9
              refine e_iload_n dX1_rowsAlike_104 rfl ?_
              refine e_aload_n dX1_rowsAlike_105 rfl ?_
              refine e_getr dX1_rowsAlike_106 fO_1_37 (by decide) (gs_52 hg) rfl (gp_52_0 hg) ?_
              refine e_getr dX1_rowsAlike_109 fO_1_114 (by decide) (gs_3 hg) rfl (gp_3_9 hg) ?_
              refine e_iload_n dX1_rowsAlike_112 rfl ?_
              obtain ⟨h10, Vh10⟩ := Ac9
              refine e_iald dX1_rowsAlike_113 (by decide) (gs_11 hg) h10.1 h10.2 ?_
              obtain ⟨h11, Vh11⟩ := Vh10
              refine e_iadd dX1_rowsAlike_114 h11 ?_
              refine e_top (fun y12 ey12 => ?_)
              have Wy12 := Vh11 y12 ey12
              refine e_istore_n dX1_rowsAlike_115 (by decide) (ls' := [some (.inr (some 52)), some (.inl x1), none, some (.inl y12), some (.inl x4), some (.inl x5)]) rfl ?_
              refine e_iload dX1_rowsAlike_116 rfl ?_
              refine e_aload_n dX1_rowsAlike_118 rfl ?_
              refine e_getr dX1_rowsAlike_119 fO_1_37 (by decide) (gs_52 hg) rfl (gp_52_0 hg) ?_
              refine e_getr dX1_rowsAlike_122 fO_1_114 (by decide) (gs_3 hg) rfl (gp_3_9 hg) ?_
              refine e_iload dX1_rowsAlike_125 rfl ?_
              obtain ⟨h13, Vh13⟩ := Wy12
              refine e_iald dX1_rowsAlike_127 (by decide) (gs_11 hg) h13.1 h13.2 ?_
              obtain ⟨h14, Vh14⟩ := Vh13
              refine e_iadd dX1_rowsAlike_128 h14 ?_
              refine e_top (fun y15 ey15 => ?_)
              have Wy15 := Vh14 y15 ey15
              refine e_istore dX1_rowsAlike_129 (by decide) (ls' := [some (.inr (some 52)), some (.inl x1), none, some (.inl y12), some (.inl y15), some (.inl x5)]) rfl ?_
              obtain ⟨h16, Vh16⟩ := Wy15
              refine e_iinc dX1_rowsAlike_131 (by decide) rfl h16 (ls' := [some (.inr (some 52)), some (.inl x1), none, some (.inl y12), some (.inl y15), some (.inl (x5 + 1))]) rfl ?_
              refine e_goto (tgt := 35) dX1_rowsAlike_134 (by decide) ?_
              exact Vh16
            · have Bc9 := Vh8.2 c9
              refine e_iconst dX1_rowsAlike_102 ⟨by decide, by decide⟩ ?_
              exact e_zret dX1_rowsAlike_103 rfl (by decide) (by rw [Bc9.1, Bc9.2])
          · have Bc6 := Bc5.2 c6
            refine e_iconst dX1_rowsAlike_78 ⟨by decide, by decide⟩ ?_
            exact e_zret dX1_rowsAlike_79 rfl (by decide) (by rw [Bc6.1, Bc6.2])
