set_option maxRecDepth 100000 in
set_option maxHeartbeats 4000000 in
theorem v_X3_build_0 {Γ : GX} {g : AG} {I J : Nat → Nat → Int} {r : Option AV} (hg : GOc g) (u : Nat) (hu : Tr u)
    (V : ∀ I1 : Nat → Nat → Int, I1 = mset I u 1 0 → (Ev Γ 4 mX3_build 10 [some (.inr (some 64)), some (.inr (some u)), some (.inr (some 61)), some (.inl 0), some (.inl 0), none] [] (g, I1) (r, (g, J)))) : Ev Γ 4 mX3_build 0 [some (.inr (some 64)), some (.inr (some u)), some (.inr (some 61)), none, none, none] [] (g, I) (r, (g, J)) := by
  refine e_aload_n dX3_build_0 rfl ?_
  refine e_iconst dX3_build_1 ⟨by decide, by decide⟩ ?_
  refine e_puti dX3_build_2 fO_3_26 (tr_pos hu) (tr_s0 hg hu) rfl rfl ?_
  refine e_mem (fun I1 eI1 => ?_)
  have WI1 := V I1 eI1
  refine e_iconst dX3_build_5 ⟨by decide, by decide⟩ ?_
  refine e_istore_n dX3_build_6 (by decide) (ls' := [some (.inr (some 64)), some (.inr (some u)), some (.inr (some 61)), some (.inl 0), none, none]) rfl ?_
  refine e_iconst dX3_build_7 ⟨by decide, by decide⟩ ?_
  refine e_istore dX3_build_8 (by decide) (ls' := [some (.inr (some 64)), some (.inr (some u)), some (.inr (some 61)), some (.inl 0), some (.inl 0), none]) rfl ?_
  exact WI1
set_option maxRecDepth 100000 in
set_option maxHeartbeats 4000000 in
theorem v_X3_build_10 {Γ : GX} {g : AG} {I J : Nat → Nat → Int} {r : Option AV} (hg : GOc g) (u : Nat) (hu : Tr u) (x3 : Int) (x4 : Int)
    (V : ((((I 61 3) ≤ x4)) → (∃ (r4 : Int) (J2 : Nat → Nat → Int), CT Γ 1 mX5_append [.inr (some u), .inr (some 4), .inl x3, .inl (I 3 1)] (g, I) (some (.inl r4), (g, J2)) ∧ ((r4 = 0 ∨ r4 = 1) ∧ r = some (.inl r4) ∧ J = J2))) ∧ ((¬ ((I 61 3) ≤ x4)) → (((0 : Int) ≤ x4 ∧ (x4 : Int) < 120) ∧ (∀ y6 : Int, y6 = (I 62 x4.toNat) → (((0 : Int) ≤ y6 ∧ (y6 : Int) < 120) ∧ (∃ (r10 : Int) (J8 : Nat → Nat → Int), CT Γ 1 mX5_append [.inr (some u), .inr (some 4), .inl x3, .inl (I 6 y6.toNat)] (g, I) (some (.inl r10), (g, J8)) ∧ ((((r10 = 0)) → (r = some (.inl 0) ∧ J = J8)) ∧ ((¬ (r10 = 0)) → (∃ (r14 : Int) (J12 : Nat → Nat → Int), CT Γ 3 mX1_findWay [.inr (some 52), .inl y6] (g, J8) (some (.inl r14), (g, J12)) ∧ ((((r14 = 0)) → (r = some (.inl 0) ∧ J = J12)) ∧ ((¬ (r14 = 0)) → (∃ (r18 : Int) (J16 : Nat → Nat → Int), CT Γ 3 mX3_fillTemplate [.inr (some 64), .inr (some u)] (g, J12) (some (.inl r18), (g, J16)) ∧ (((¬ (r18 = 0)) → (((0 : Int) ≤ y6 ∧ (y6 : Int) < 120) ∧ (∀ y21 : Int, y21 = (J16 8 y6.toNat) → (inR (x4 + 1) ∧ (Ev Γ 4 mX3_build 10 [some (.inr (some 64)), some (.inr (some u)), some (.inr (some 61)), some (.inl y21), some (.inl (x4 + 1)), none] [] (g, J16) (r, (g, J))))))) ∧ (((r18 = 0)) → (r = some (.inl 0) ∧ J = J16))))))))))))))) : Ev Γ 4 mX3_build 10 [some (.inr (some 64)), some (.inr (some u)), some (.inr (some 61)), some (.inl x3), some (.inl x4), none] [] (g, I) (r, (g, J)) := by
  refine e_iload dX3_build_10 rfl ?_
  refine e_aload_n dX3_build_12 rfl ?_
  refine e_geti dX3_build_13 fO_3_32 (by decide) (gs_61 hg) rfl ?_
  refine e_ic_ge (tgt := 92) dX3_build_16 (by decide) (fun c1 => ?_) (fun c1 => ?_)
  · have Ac1 := V.1 c1
    refine e_aload_n dX3_build_92 rfl ?_
    refine e_aload_n dX3_build_93 rfl ?_
    refine e_getr dX3_build_94 fO_3_15 (by decide) (gs_64 hg) rfl (gp_64_0 hg) ?_
    refine e_getr dX3_build_97 fO_3_41 (by decide) (gs_3 hg) rfl (gp_3_0 hg) ?_
    refine e_iload_n dX3_build_100 rfl ?_
    refine e_aload_n dX3_build_101 rfl ?_
    refine e_getr dX3_build_102 fO_3_15 (by decide) (gs_64 hg) rfl (gp_64_0 hg) ?_
    refine e_geti dX3_build_105 fO_3_26 (by decide) (gs_3 hg) rfl ?_
    obtain ⟨r4, J2, h3, Vh3⟩ := Ac1
    refine e_callv (av := [.inr (some 4), .inl x3, .inl (I 3 1)]) (st := []) dX3_build_108 cO_3_47 oX5_append rfl (tr_pos hu) (tr_s0 hg hu) rfl (Nat.le_of_ble_eq_true rfl) (by decide) h3 (Nat.le_refl _) (Nat.le_refl _) rfl rfl ?_
    exact e_zret dX3_build_111 rfl Vh3.1 (by rw [Vh3.2.1, Vh3.2.2])
  · have Bc1 := V.2 c1
    refine e_aload_n dX3_build_19 rfl ?_
    refine e_getr dX3_build_20 fO_3_37 (by decide) (gs_61 hg) rfl (gp_61_2 hg) ?_
    refine e_iload dX3_build_23 rfl ?_
    obtain ⟨h5, Vh5⟩ := Bc1
    refine e_iald dX3_build_25 (by decide) (gs_62 hg) h5.1 h5.2 ?_
    refine e_top (fun y6 ey6 => ?_)
    have Wy6 := Vh5 y6 ey6
    refine e_istore dX3_build_26 (by decide) (ls' := [some (.inr (some 64)), some (.inr (some u)), some (.inr (some 61)), some (.inl x3), some (.inl x4), some (.inl y6)]) rfl ?_
    refine e_aload_n dX3_build_28 rfl ?_
    refine e_aload_n dX3_build_29 rfl ?_
    refine e_getr dX3_build_30 fO_3_15 (by decide) (gs_64 hg) rfl (gp_64_0 hg) ?_
    refine e_getr dX3_build_33 fO_3_41 (by decide) (gs_3 hg) rfl (gp_3_0 hg) ?_
    refine e_iload_n dX3_build_36 rfl ?_
    refine e_aload_n dX3_build_37 rfl ?_
    refine e_getr dX3_build_38 fO_3_15 (by decide) (gs_64 hg) rfl (gp_64_0 hg) ?_
    refine e_getr dX3_build_41 fO_3_44 (by decide) (gs_3 hg) rfl (gp_3_4 hg) ?_
    refine e_iload dX3_build_44 rfl ?_
    obtain ⟨h7, Vh7⟩ := Wy6
    refine e_iald dX3_build_46 (by decide) (gs_6 hg) h7.1 h7.2 ?_
    obtain ⟨r10, J8, h9, Vh9⟩ := Vh7
    refine e_callv (av := [.inr (some 4), .inl x3, .inl (I 6 y6.toNat)]) (st := []) dX3_build_47 cO_3_47 oX5_append rfl (tr_pos hu) (tr_s0 hg hu) rfl (Nat.le_of_ble_eq_true rfl) (by decide) h9 (Nat.le_refl _) (Nat.le_refl _) rfl rfl ?_
    refine e_if_eq (tgt := 73) dX3_build_50 (by decide) (fun c11 => ?_) (fun c11 => ?_)
    · have Ac11 := Vh9.1 c11
      refine e_iconst dX3_build_73 ⟨by decide, by decide⟩ ?_
      exact e_zret dX3_build_74 rfl (by decide) (by rw [Ac11.1, Ac11.2])
    · have Bc11 := Vh9.2 c11
      refine e_aload_n dX3_build_53 rfl ?_
      refine e_getr dX3_build_54 fO_3_22 (by decide) (gs_64 hg) rfl (gp_64_2 hg) ?_
      refine e_iload dX3_build_57 rfl ?_
      obtain ⟨r14, J12, h13, Vh13⟩ := Bc11
      refine e_callv (av := [.inl y6]) (st := []) dX3_build_59 cO_3_51 oX1_findWay rfl (by decide) (gs_52 hg) rfl (Nat.le_of_ble_eq_true rfl) (by decide) h13 (Nat.le_refl _) (Nat.le_refl _) rfl rfl ?_
      refine e_if_eq (tgt := 73) dX3_build_62 (by decide) (fun c15 => ?_) (fun c15 => ?_)
      · have Ac15 := Vh13.1 c15
        refine e_iconst dX3_build_73 ⟨by decide, by decide⟩ ?_
        exact e_zret dX3_build_74 rfl (by decide) (by rw [Ac15.1, Ac15.2])
      · have Bc15 := Vh13.2 c15
        refine e_aload_n dX3_build_65 rfl ?_
        refine e_aload_n dX3_build_66 rfl ?_
        obtain ⟨r18, J16, h17, Vh17⟩ := Bc15
        refine e_callv (av := [.inr (some u)]) (st := []) dX3_build_67 cO_3_57 oX3_fillTemplate rfl (by decide) (gs_64 hg) rfl (Nat.le_of_ble_eq_true rfl) (by decide) h17 (Nat.le_refl _) (Nat.le_refl _) rfl rfl ?_
        refine e_if_ne (tgt := 75) dX3_build_70 (by decide) (fun c19 => ?_) (fun c19 => ?_)
        · have Ac19 := Vh17.1 c19
          refine e_aload_n dX3_build_75 rfl ?_
          refine e_getr dX3_build_76 fO_3_15 (by decide) (gs_64 hg) rfl (gp_64_0 hg) ?_
          refine e_getr dX3_build_79 fO_3_61 (by decide) (gs_3 hg) rfl (gp_3_6 hg) ?_
          refine e_iload dX3_build_82 rfl ?_
          obtain ⟨h20, Vh20⟩ := Ac19
          refine e_iald dX3_build_84 (by decide) (gs_8 hg) h20.1 h20.2 ?_
          refine e_top (fun y21 ey21 => ?_)
          have Wy21 := Vh20 y21 ey21
          refine e_istore_n dX3_build_85 (by decide) (ls' := [some (.inr (some 64)), some (.inr (some u)), some (.inr (some 61)), some (.inl y21), some (.inl x4), some (.inl y6)]) rfl ?_
          obtain ⟨h22, Vh22⟩ := Wy21
          refine e_iinc dX3_build_86 (by decide) rfl h22 (ls' := [some (.inr (some 64)), some (.inr (some u)), some (.inr (some 61)), some (.inl y21), some (.inl (x4 + 1)), some (.inl y6)]) rfl ?_
          refine e_goto (tgt := 10) dX3_build_89 (by decide) ?_
          refine ev_drop (ls' := [some (.inr (some 64)), some (.inr (some u)), some (.inr (some 61)), some (.inl y21), some (.inl (x4 + 1)), none]) 5 rfl ?_
          exact Vh22
        · have Bc19 := Vh17.2 c19
          refine e_iconst dX3_build_73 ⟨by decide, by decide⟩ ?_
          exact e_zret dX3_build_74 rfl (by decide) (by rw [Bc19.1, Bc19.2])
set_option maxRecDepth 100000 in
set_option maxHeartbeats 4000000 in
theorem v_X3_fillTemplate_0 {Γ : GX} {g : AG} {I J : Nat → Nat → Int} {r : Option AV} (hg : GOc g) (u : Nat) (hu : Tr u)
    (V : ∃ (J1 : Nat → Nat → Int), CT Γ 2 mX3_dropRowsOfNone [.inr (some 64)] (g, I) (none, (g, J1)) ∧ (∀ y5 : Int, y5 = (min (J1 32 0) 80) → (∀ y7 : Int, y7 = (J1 30 0) → (Ev Γ 3 mX3_fillTemplate 32 [some (.inr (some 64)), some (.inr (some u)), some (.inl y5), some (.inl 0), some (.inl y7), none, none] [] (g, J1) (r, (g, J)))))) : Ev Γ 3 mX3_fillTemplate 0 [some (.inr (some 64)), some (.inr (some u)), none, none, none, none, none] [] (g, I) (r, (g, J)) := by
  refine e_aload_n dX3_fillTemplate_0 rfl ?_
  obtain ⟨J1, h2, Vh2⟩ := V
  refine e_callv (av := []) (st := []) dX3_fillTemplate_1 cO_3_64 oX3_dropRowsOfNone rfl (by decide) (gs_64 hg) rfl (Nat.le_of_ble_eq_true rfl) (by decide) h2 (Nat.le_refl _) (Nat.le_refl _) rfl rfl ?_
  refine e_aload_n dX3_fillTemplate_4 rfl ?_
  refine e_getr dX3_fillTemplate_5 fO_3_19 (by decide) (gs_64 hg) rfl (gp_64_1 hg) ?_
  refine e_getr dX3_fillTemplate_8 fO_3_61 (by decide) (gs_27 hg) rfl (gp_27_6 hg) ?_
  refine e_iconst dX3_fillTemplate_11 ⟨by decide, by decide⟩ ?_
  have Vh4 := Vh2
  refine e_iald dX3_fillTemplate_12 (by decide) (gs_32 hg) (by decide) (by decide) ?_
  refine e_bipush dX3_fillTemplate_13 (by decide) ⟨by decide, by decide⟩ ?_
  refine e_min dX3_fillTemplate_15 cMin_3_67 (Nat.le_of_ble_eq_true rfl) (by decide) (Nat.le_refl _) (Nat.le_refl _) ?_
  refine e_top (fun y5 ey5 => ?_)
  have Wy5 := Vh4 y5 ey5
  refine e_istore_n dX3_fillTemplate_18 (by decide) (ls' := [some (.inr (some 64)), some (.inr (some u)), some (.inl y5), none, none, none, none]) rfl ?_
  refine e_iconst dX3_fillTemplate_19 ⟨by decide, by decide⟩ ?_
  refine e_istore_n dX3_fillTemplate_20 (by decide) (ls' := [some (.inr (some 64)), some (.inr (some u)), some (.inl y5), some (.inl 0), none, none, none]) rfl ?_
  refine e_aload_n dX3_fillTemplate_21 rfl ?_
  refine e_getr dX3_fillTemplate_22 fO_3_19 (by decide) (gs_64 hg) rfl (gp_64_1 hg) ?_
  refine e_getr dX3_fillTemplate_25 fO_3_44 (by decide) (gs_27 hg) rfl (gp_27_4 hg) ?_
  refine e_iconst dX3_fillTemplate_28 ⟨by decide, by decide⟩ ?_
  have Vh6 := Wy5
  refine e_iald dX3_fillTemplate_29 (by decide) (gs_30 hg) (by decide) (by decide) ?_
  refine e_top (fun y7 ey7 => ?_)
  have Wy7 := Vh6 y7 ey7
  refine e_istore dX3_fillTemplate_30 (by decide) (ls' := [some (.inr (some 64)), some (.inr (some u)), some (.inl y5), some (.inl 0), some (.inl y7), none, none]) rfl ?_
  exact Wy7
set_option maxRecDepth 100000 in
set_option maxHeartbeats 4000000 in
theorem v_X3_fillTemplate_32 {Γ : GX} {g : AG} {I J : Nat → Nat → Int} {r : Option AV} (hg : GOc g) (u : Nat) (hu : Tr u) (x2 : Int) (x3 : Int) (x4 : Int)
    (V : (((x2 ≤ x4)) → (r = some (.inl 1) ∧ J = I)) ∧ ((¬ (x2 ≤ x4)) → (((0 : Int) ≤ x4 ∧ (x4 : Int) < 240) ∧ (∀ y3 : Int, y3 = (I 28 x4.toNat) → ((((x3 = 0)) → ((((y3 = 63)) → (inR (x4 + 1) ∧ (Ev Γ 3 mX3_fillTemplate 32 [some (.inr (some 64)), some (.inr (some u)), some (.inl x2), some (.inl 1), some (.inl (x4 + 1)), none, none] [] (g, I) (r, (g, J))))) ∧ ((¬ (y3 = 63)) → (((¬ (y3 = 42)) → (((0 : Int) ≤ x4 ∧ (x4 : Int) < 80) ∧ (((¬ ((I 65 x4.toNat) = 0)) → (inR (x4 + 1) ∧ (Ev Γ 3 mX3_fillTemplate 32 [some (.inr (some 64)), some (.inr (some u)), some (.inl x2), some (.inl x3), some (.inl (x4 + 1)), none, none] [] (g, I) (r, (g, J))))) ∧ ((((I 65 x4.toNat) = 0)) → (inR (x4 + 1) ∧ (∃ (r16 : Int) (J14 : Nat → Nat → Int), CT Γ 1 mX5_append [.inr (some u), .inr (some 28), .inl x4, .inl (x4 + 1)] (g, I) (some (.inl r16), (g, J14)) ∧ ((((r16 = 0)) → (r = some (.inl 0) ∧ J = J14)) ∧ ((¬ (r16 = 0)) → (inR (x4 + 1) ∧ (Ev Γ 3 mX3_fillTemplate 32 [some (.inr (some 64)), some (.inr (some u)), some (.inl x2), some (.inl x3), some (.inl (x4 + 1)), none, none] [] (g, J14) (r, (g, J)))))))))))) ∧ (((y3 = 42)) → (inR (x4 + 1) ∧ (Ev Γ 3 mX3_fillTemplate 32 [some (.inr (some 64)), some (.inr (some u)), some (.inl x2), some (.inl 1), some (.inl (x4 + 1)), none, none] [] (g, I) (r, (g, J))))))))) ∧ ((¬ (x3 = 0)) → (((0 : Int) ≤ x4 ∧ (x4 : Int) < 80) ∧ (((¬ ((I 65 x4.toNat) = 0)) → (inR (x4 + 1) ∧ (Ev Γ 3 mX3_fillTemplate 32 [some (.inr (some 64)), some (.inr (some u)), some (.inl x2), some (.inl 0), some (.inl (x4 + 1)), none, none] [] (g, I) (r, (g, J))))) ∧ ((((I 65 x4.toNat) = 0)) → (inR (y3 - 97) ∧ (∃ (r30 : Int) (J28 : Nat → Nat → Int), CT Γ 2 mX3_fillLetter [.inr (some 64), .inr (some u), .inl (y3 - 97)] (g, I) (some (.inl r30), (g, J28)) ∧ ((((r30 = 0)) → (r = some (.inl 0) ∧ J = J28)) ∧ ((¬ (r30 = 0)) → (inR (x4 + 1) ∧ (Ev Γ 3 mX3_fillTemplate 32 [some (.inr (some 64)), some (.inr (some u)), some (.inl x2), some (.inl 0), some (.inl (x4 + 1)), none, none] [] (g, J28) (r, (g, J))))))))))))))))) : Ev Γ 3 mX3_fillTemplate 32 [some (.inr (some 64)), some (.inr (some u)), some (.inl x2), some (.inl x3), some (.inl x4), none, none] [] (g, I) (r, (g, J)) := by
  refine e_iload dX3_fillTemplate_32 rfl ?_
  refine e_iload_n dX3_fillTemplate_34 rfl ?_
  refine e_ic_ge (tgt := 161) dX3_fillTemplate_35 (by decide) (fun c1 => ?_) (fun c1 => ?_)
  · have Ac1 := V.1 c1
    refine e_iconst dX3_fillTemplate_161 ⟨by decide, by decide⟩ ?_
    exact e_zret dX3_fillTemplate_162 rfl (by decide) (by rw [Ac1.1, Ac1.2])
  · have Bc1 := V.2 c1
    refine e_aload_n dX3_fillTemplate_38 rfl ?_
    refine e_getr dX3_fillTemplate_39 fO_3_19 (by decide) (gs_64 hg) rfl (gp_64_1 hg) ?_
    refine e_getr dX3_fillTemplate_42 fO_3_41 (by decide) (gs_27 hg) rfl (gp_27_0 hg) ?_
    refine e_iload dX3_fillTemplate_45 rfl ?_
    obtain ⟨h2, Vh2⟩ := Bc1
    refine e_iald dX3_fillTemplate_47 (by decide) (gs_28 hg) h2.1 h2.2 ?_
    refine e_top (fun y3 ey3 => ?_)
    have Wy3 := Vh2 y3 ey3
    refine e_istore dX3_fillTemplate_48 (by decide) (ls' := [some (.inr (some 64)), some (.inr (some u)), some (.inl x2), some (.inl x3), some (.inl x4), some (.inl y3), none]) rfl ?_
    refine e_iconst dX3_fillTemplate_50 ⟨by decide, by decide⟩ ?_
    refine e_istore dX3_fillTemplate_51 (by decide) (ls' := [some (.inr (some 64)), some (.inr (some u)), some (.inl x2), some (.inl x3), some (.inl x4), some (.inl y3), some (.inl 1)]) rfl ?_
    refine e_iload_n dX3_fillTemplate_53 rfl ?_
    refine e_if_eq (tgt := 92) dX3_fillTemplate_54 (by decide) (fun c4 => ?_) (fun c4 => ?_)
    · have Ac4 := Wy3.1 c4
      refine e_iload dX3_fillTemplate_92 rfl ?_
      refine e_bipush dX3_fillTemplate_94 (by decide) ⟨by decide, by decide⟩ ?_
      refine e_ic_eq (tgt := 106) dX3_fillTemplate_96 (by decide) (fun c5 => ?_) (fun c5 => ?_)
      · have Ac5 := Ac4.1 c5
        refine e_iconst dX3_fillTemplate_106 ⟨by decide, by decide⟩ ?_
        refine e_istore_n dX3_fillTemplate_107 (by decide) (ls' := [some (.inr (some 64)), some (.inr (some u)), some (.inl x2), some (.inl 1), some (.inl x4), some (.inl y3), some (.inl 1)]) rfl ?_
        refine e_goto (tgt := 148) dX3_fillTemplate_108 (by decide) ?_
        refine e_iload dX3_fillTemplate_148 rfl ?_
        refine e_if_ne (tgt := 155) dX3_fillTemplate_150 (by decide) (fun _ => ?_) (fun c6 => absurd c6 (by decide))
        obtain ⟨h7, Vh7⟩ := Ac5
        refine e_iinc dX3_fillTemplate_155 (by decide) rfl h7 (ls' := [some (.inr (some 64)), some (.inr (some u)), some (.inl x2), some (.inl 1), some (.inl (x4 + 1)), some (.inl y3), some (.inl 1)]) rfl ?_
        refine e_goto (tgt := 32) dX3_fillTemplate_158 (by decide) ?_
        refine ev_drop (ls' := [some (.inr (some 64)), some (.inr (some u)), some (.inl x2), some (.inl 1), some (.inl (x4 + 1)), none, some (.inl 1)]) 5 rfl ?_
        refine ev_drop (ls' := [some (.inr (some 64)), some (.inr (some u)), some (.inl x2), some (.inl 1), some (.inl (x4 + 1)), none, none]) 6 rfl ?_
        exact Vh7
      · have Bc5 := Ac4.2 c5
        refine e_iload dX3_fillTemplate_99 rfl ?_
        refine e_bipush dX3_fillTemplate_101 (by decide) ⟨by decide, by decide⟩ ?_
        refine e_ic_ne (tgt := 111) dX3_fillTemplate_103 (by decide) (fun c8 => ?_) (fun c8 => ?_)
        · have Ac8 := Bc5.1 c8
          refine e_aload_n dX3_fillTemplate_111 rfl ?_
          refine e_getr dX3_fillTemplate_112 fO_3_9 (by decide) (gs_64 hg) rfl (gp_64_3 hg) ?_
          refine e_iload dX3_fillTemplate_115 rfl ?_
          obtain ⟨h9, Vh9⟩ := Ac8
          refine e_zald dX3_fillTemplate_117 (by decide) (gs_65 hg) h9.1 h9.2 ?_
          refine e_if_ne (tgt := 141) dX3_fillTemplate_118 (by decide) (fun c10 => ?_) (fun c10 => ?_)
          · have Ac10 := Vh9.1 c10
            refine e_iconst dX3_fillTemplate_141 ⟨by decide, by decide⟩ ?_
            refine e_goto (tgt := 146) dX3_fillTemplate_142 (by decide) ?_
            refine e_istore dX3_fillTemplate_146 (by decide) (ls' := [some (.inr (some 64)), some (.inr (some u)), some (.inl x2), some (.inl x3), some (.inl x4), some (.inl y3), some (.inl 1)]) rfl ?_
            refine e_iload dX3_fillTemplate_148 rfl ?_
            refine e_if_ne (tgt := 155) dX3_fillTemplate_150 (by decide) (fun _ => ?_) (fun c11 => absurd c11 (by decide))
            obtain ⟨h12, Vh12⟩ := Ac10
            refine e_iinc dX3_fillTemplate_155 (by decide) rfl h12 (ls' := [some (.inr (some 64)), some (.inr (some u)), some (.inl x2), some (.inl x3), some (.inl (x4 + 1)), some (.inl y3), some (.inl 1)]) rfl ?_
            refine e_goto (tgt := 32) dX3_fillTemplate_158 (by decide) ?_
            refine ev_drop (ls' := [some (.inr (some 64)), some (.inr (some u)), some (.inl x2), some (.inl x3), some (.inl (x4 + 1)), none, some (.inl 1)]) 5 rfl ?_
            refine ev_drop (ls' := [some (.inr (some 64)), some (.inr (some u)), some (.inl x2), some (.inl x3), some (.inl (x4 + 1)), none, none]) 6 rfl ?_
            exact Vh12
          · have Bc10 := Vh9.2 c10
            refine e_aload_n dX3_fillTemplate_121 rfl ?_
            refine e_aload_n dX3_fillTemplate_122 rfl ?_
            refine e_getr dX3_fillTemplate_123 fO_3_19 (by decide) (gs_64 hg) rfl (gp_64_1 hg) ?_
            refine e_getr dX3_fillTemplate_126 fO_3_41 (by decide) (gs_27 hg) rfl (gp_27_0 hg) ?_
            refine e_iload dX3_fillTemplate_129 rfl ?_
            refine e_iload dX3_fillTemplate_131 rfl ?_
            refine e_iconst dX3_fillTemplate_133 ⟨by decide, by decide⟩ ?_
            obtain ⟨h13, Vh13⟩ := Bc10
            refine e_iadd dX3_fillTemplate_134 h13 ?_
            obtain ⟨r16, J14, h15, Vh15⟩ := Vh13
            refine e_callv (av := [.inr (some 28), .inl x4, .inl (x4 + 1)]) (st := []) dX3_fillTemplate_135 cO_3_47 oX5_append rfl (tr_pos hu) (tr_s0 hg hu) rfl (Nat.le_of_ble_eq_true rfl) (by decide) h15 (Nat.le_refl _) (Nat.le_refl _) rfl rfl ?_
            refine e_if_eq (tgt := 145) dX3_fillTemplate_138 (by decide) (fun c17 => ?_) (fun c17 => ?_)
            · have Ac17 := Vh15.1 c17
              refine e_iconst dX3_fillTemplate_145 ⟨by decide, by decide⟩ ?_
              refine e_istore dX3_fillTemplate_146 (by decide) (ls' := [some (.inr (some 64)), some (.inr (some u)), some (.inl x2), some (.inl x3), some (.inl x4), some (.inl y3), some (.inl 0)]) rfl ?_
              refine e_iload dX3_fillTemplate_148 rfl ?_
              refine e_if_ne (tgt := 155) dX3_fillTemplate_150 (by decide) (fun c18 => absurd c18 (by decide)) (fun _ => ?_)
              refine e_iconst dX3_fillTemplate_153 ⟨by decide, by decide⟩ ?_
              exact e_zret dX3_fillTemplate_154 rfl (by decide) (by rw [Ac17.1, Ac17.2])
            · have Bc17 := Vh15.2 c17
              refine e_iconst dX3_fillTemplate_141 ⟨by decide, by decide⟩ ?_
              refine e_goto (tgt := 146) dX3_fillTemplate_142 (by decide) ?_
              refine e_istore dX3_fillTemplate_146 (by decide) (ls' := [some (.inr (some 64)), some (.inr (some u)), some (.inl x2), some (.inl x3), some (.inl x4), some (.inl y3), some (.inl 1)]) rfl ?_
              refine e_iload dX3_fillTemplate_148 rfl ?_
              refine e_if_ne (tgt := 155) dX3_fillTemplate_150 (by decide) (fun _ => ?_) (fun c19 => absurd c19 (by decide))
              obtain ⟨h20, Vh20⟩ := Bc17
              refine e_iinc dX3_fillTemplate_155 (by decide) rfl h20 (ls' := [some (.inr (some 64)), some (.inr (some u)), some (.inl x2), some (.inl x3), some (.inl (x4 + 1)), some (.inl y3), some (.inl 1)]) rfl ?_
              refine e_goto (tgt := 32) dX3_fillTemplate_158 (by decide) ?_
              refine ev_drop (ls' := [some (.inr (some 64)), some (.inr (some u)), some (.inl x2), some (.inl x3), some (.inl (x4 + 1)), none, some (.inl 1)]) 5 rfl ?_
              refine ev_drop (ls' := [some (.inr (some 64)), some (.inr (some u)), some (.inl x2), some (.inl x3), some (.inl (x4 + 1)), none, none]) 6 rfl ?_
              exact Vh20
        · have Bc8 := Bc5.2 c8
          refine e_iconst dX3_fillTemplate_106 ⟨by decide, by decide⟩ ?_
          refine e_istore_n dX3_fillTemplate_107 (by decide) (ls' := [some (.inr (some 64)), some (.inr (some u)), some (.inl x2), some (.inl 1), some (.inl x4), some (.inl y3), some (.inl 1)]) rfl ?_
          refine e_goto (tgt := 148) dX3_fillTemplate_108 (by decide) ?_
          refine e_iload dX3_fillTemplate_148 rfl ?_
          refine e_if_ne (tgt := 155) dX3_fillTemplate_150 (by decide) (fun _ => ?_) (fun c21 => absurd c21 (by decide))
          obtain ⟨h22, Vh22⟩ := Bc8
          refine e_iinc dX3_fillTemplate_155 (by decide) rfl h22 (ls' := [some (.inr (some 64)), some (.inr (some u)), some (.inl x2), some (.inl 1), some (.inl (x4 + 1)), some (.inl y3), some (.inl 1)]) rfl ?_
          refine e_goto (tgt := 32) dX3_fillTemplate_158 (by decide) ?_
          refine ev_drop (ls' := [some (.inr (some 64)), some (.inr (some u)), some (.inl x2), some (.inl 1), some (.inl (x4 + 1)), none, some (.inl 1)]) 5 rfl ?_
          refine ev_drop (ls' := [some (.inr (some 64)), some (.inr (some u)), some (.inl x2), some (.inl 1), some (.inl (x4 + 1)), none, none]) 6 rfl ?_
          exact Vh22
    · have Bc4 := Wy3.2 c4
      refine e_aload_n dX3_fillTemplate_57 rfl ?_
      refine e_getr dX3_fillTemplate_58 fO_3_9 (by decide) (gs_64 hg) rfl (gp_64_3 hg) ?_
      refine e_iload dX3_fillTemplate_61 rfl ?_
      obtain ⟨h23, Vh23⟩ := Bc4
      refine e_zald dX3_fillTemplate_63 (by decide) (gs_65 hg) h23.1 h23.2 ?_
      refine e_if_ne (tgt := 80) dX3_fillTemplate_64 (by decide) (fun c24 => ?_) (fun c24 => ?_)
      · have Ac24 := Vh23.1 c24
        refine e_iconst dX3_fillTemplate_80 ⟨by decide, by decide⟩ ?_
        refine e_goto (tgt := 85) dX3_fillTemplate_81 (by decide) ?_
        refine e_istore dX3_fillTemplate_85 (by decide) (ls' := [some (.inr (some 64)), some (.inr (some u)), some (.inl x2), some (.inl x3), some (.inl x4), some (.inl y3), some (.inl 1)]) rfl ?_
        refine e_iconst dX3_fillTemplate_87 ⟨by decide, by decide⟩ ?_
        refine e_istore_n dX3_fillTemplate_88 (by decide) (ls' := [some (.inr (some 64)), some (.inr (some u)), some (.inl x2), some (.inl 0), some (.inl x4), some (.inl y3), some (.inl 1)]) rfl ?_
        refine e_goto (tgt := 148) dX3_fillTemplate_89 (by decide) ?_
        refine e_iload dX3_fillTemplate_148 rfl ?_
        refine e_if_ne (tgt := 155) dX3_fillTemplate_150 (by decide) (fun _ => ?_) (fun c25 => absurd c25 (by decide))
        obtain ⟨h26, Vh26⟩ := Ac24
        refine e_iinc dX3_fillTemplate_155 (by decide) rfl h26 (ls' := [some (.inr (some 64)), some (.inr (some u)), some (.inl x2), some (.inl 0), some (.inl (x4 + 1)), some (.inl y3), some (.inl 1)]) rfl ?_
        refine e_goto (tgt := 32) dX3_fillTemplate_158 (by decide) ?_
        refine ev_drop (ls' := [some (.inr (some 64)), some (.inr (some u)), some (.inl x2), some (.inl 0), some (.inl (x4 + 1)), none, some (.inl 1)]) 5 rfl ?_
        refine ev_drop (ls' := [some (.inr (some 64)), some (.inr (some u)), some (.inl x2), some (.inl 0), some (.inl (x4 + 1)), none, none]) 6 rfl ?_
        exact Vh26
      · have Bc24 := Vh23.2 c24
        refine e_aload_n dX3_fillTemplate_67 rfl ?_
        refine e_aload_n dX3_fillTemplate_68 rfl ?_
        refine e_iload dX3_fillTemplate_69 rfl ?_
        refine e_bipush dX3_fillTemplate_71 (by decide) ⟨by decide, by decide⟩ ?_
        obtain ⟨h27, Vh27⟩ := Bc24
        refine e_isub dX3_fillTemplate_73 h27 ?_
        obtain ⟨r30, J28, h29, Vh29⟩ := Vh27
        refine e_callv (av := [.inr (some u), .inl (y3 - 97)]) (st := []) dX3_fillTemplate_74 cO_3_73 oX3_fillLetter rfl (by decide) (gs_64 hg) rfl (Nat.le_of_ble_eq_true rfl) (by decide) h29 (Nat.le_refl _) (Nat.le_refl _) rfl rfl ?_
        refine e_if_eq (tgt := 84) dX3_fillTemplate_77 (by decide) (fun c31 => ?_) (fun c31 => ?_)
        · have Ac31 := Vh29.1 c31
          refine e_iconst dX3_fillTemplate_84 ⟨by decide, by decide⟩ ?_
          refine e_istore dX3_fillTemplate_85 (by decide) (ls' := [some (.inr (some 64)), some (.inr (some u)), some (.inl x2), some (.inl x3), some (.inl x4), some (.inl y3), some (.inl 0)]) rfl ?_
          refine e_iconst dX3_fillTemplate_87 ⟨by decide, by decide⟩ ?_
          refine e_istore_n dX3_fillTemplate_88 (by decide) (ls' := [some (.inr (some 64)), some (.inr (some u)), some (.inl x2), some (.inl 0), some (.inl x4), some (.inl y3), some (.inl 0)]) rfl ?_
          refine e_goto (tgt := 148) dX3_fillTemplate_89 (by decide) ?_
          refine e_iload dX3_fillTemplate_148 rfl ?_
          refine e_if_ne (tgt := 155) dX3_fillTemplate_150 (by decide) (fun c32 => absurd c32 (by decide)) (fun _ => ?_)
          refine e_iconst dX3_fillTemplate_153 ⟨by decide, by decide⟩ ?_
          exact e_zret dX3_fillTemplate_154 rfl (by decide) (by rw [Ac31.1, Ac31.2])
        · have Bc31 := Vh29.2 c31
          refine e_iconst dX3_fillTemplate_80 ⟨by decide, by decide⟩ ?_
          refine e_goto (tgt := 85) dX3_fillTemplate_81 (by decide) ?_
          refine e_istore dX3_fillTemplate_85 (by decide) (ls' := [some (.inr (some 64)), some (.inr (some u)), some (.inl x2), some (.inl x3), some (.inl x4), some (.inl y3), some (.inl 1)]) rfl ?_
          refine e_iconst dX3_fillTemplate_87 ⟨by decide, by decide⟩ ?_
          refine e_istore_n dX3_fillTemplate_88 (by decide) (ls' := [some (.inr (some 64)), some (.inr (some u)), some (.inl x2), some (.inl 0), some (.inl x4), some (.inl y3), some (.inl 1)]) rfl ?_
          refine e_goto (tgt := 148) dX3_fillTemplate_89 (by decide) ?_
          refine e_iload dX3_fillTemplate_148 rfl ?_
          refine e_if_ne (tgt := 155) dX3_fillTemplate_150 (by decide) (fun _ => ?_) (fun c33 => absurd c33 (by decide))
          obtain ⟨h34, Vh34⟩ := Bc31
          refine e_iinc dX3_fillTemplate_155 (by decide) rfl h34 (ls' := [some (.inr (some 64)), some (.inr (some u)), some (.inl x2), some (.inl 0), some (.inl (x4 + 1)), some (.inl y3), some (.inl 1)]) rfl ?_
          refine e_goto (tgt := 32) dX3_fillTemplate_158 (by decide) ?_
          refine ev_drop (ls' := [some (.inr (some 64)), some (.inr (some u)), some (.inl x2), some (.inl 0), some (.inl (x4 + 1)), none, some (.inl 1)]) 5 rfl ?_
          refine ev_drop (ls' := [some (.inr (some 64)), some (.inr (some u)), some (.inl x2), some (.inl 0), some (.inl (x4 + 1)), none, none]) 6 rfl ?_
          exact Vh34
set_option maxRecDepth 100000 in
set_option maxHeartbeats 4000000 in
theorem v_X3_fillLetter_0 {Γ : GX} {g : AG} {I J : Nat → Nat → Int} {r : Option AV} (hg : GOc g) (u : Nat) (hu : Tr u) (x2 : Int)
    (V : ∃ (r3 : Int) (J1 : Nat → Nat → Int), CT Γ 0 mX1_firstNode [.inr (some 52), .inl x2] (g, I) (some (.inl r3), (g, J1)) ∧ (∃ (r6 : Int) (J4 : Nat → Nat → Int), CT Γ 0 mX1_howMany [.inr (some 52), .inl x2] (g, J1) (some (.inl r6), (g, J4)) ∧ ((((r3 = (-1))) → (r = some (.inl 1) ∧ J = J4)) ∧ ((¬ (r3 = (-1))) → (((0 : Int) ≤ r3 ∧ (r3 : Int) < 120) ∧ (∃ (r11 : Int) (J9 : Nat → Nat → Int), CT Γ 1 mX5_lastByteBehind [.inr (some 3), .inl r3, .inl r6] (g, J4) (some (.inl r11), (g, J9)) ∧ (∃ (r14 : Int) (J12 : Nat → Nat → Int), CT Γ 1 mX5_append [.inr (some u), .inr (some 4), .inl (J4 6 r3.toNat), .inl r11] (g, J9) (some (.inl r14), (g, J12)) ∧ ((((r14 = 0)) → (r = some (.inl 0) ∧ J = J12)) ∧ ((¬ (r14 = 0)) → (r = some (.inl 1) ∧ J = J12)))))))))) : Ev Γ 2 mX3_fillLetter 0 [some (.inr (some 64)), some (.inr (some u)), some (.inl x2), none, none] [] (g, I) (r, (g, J)) := by
  refine e_aload_n dX3_fillLetter_0 rfl ?_
  refine e_getr dX3_fillLetter_1 fO_3_22 (by decide) (gs_64 hg) rfl (gp_64_2 hg) ?_
  refine e_iload_n dX3_fillLetter_4 rfl ?_
  obtain ⟨r3, J1, h2, Vh2⟩ := V
  refine e_callv (av := [.inl x2]) (st := []) dX3_fillLetter_5 cO_3_77 oX1_firstNode rfl (by decide) (gs_52 hg) rfl (Nat.le_of_ble_eq_true rfl) (by decide) h2 (Nat.le_refl _) (Nat.le_refl _) rfl rfl ?_
  refine e_istore_n dX3_fillLetter_8 (by decide) (ls' := [some (.inr (some 64)), some (.inr (some u)), some (.inl x2), some (.inl r3), none]) rfl ?_
  refine e_aload_n dX3_fillLetter_9 rfl ?_
  refine e_getr dX3_fillLetter_10 fO_3_22 (by decide) (gs_64 hg) rfl (gp_64_2 hg) ?_
  refine e_iload_n dX3_fillLetter_13 rfl ?_
  obtain ⟨r6, J4, h5, Vh5⟩ := Vh2
  refine e_callv (av := [.inl x2]) (st := []) dX3_fillLetter_14 cO_3_81 oX1_howMany rfl (by decide) (gs_52 hg) rfl (Nat.le_of_ble_eq_true rfl) (by decide) h5 (Nat.le_refl _) (Nat.le_refl _) rfl rfl ?_
  refine e_istore dX3_fillLetter_17 (by decide) (ls' := [some (.inr (some 64)), some (.inr (some u)), some (.inl x2), some (.inl r3), some (.inl r6)]) rfl ?_
  refine e_iload_n dX3_fillLetter_19 rfl ?_
  refine e_iconst dX3_fillLetter_20 ⟨by decide, by decide⟩ ?_
  refine e_ic_eq (tgt := 57) dX3_fillLetter_21 (by decide) (fun c7 => ?_) (fun c7 => ?_)
  · have Ac7 := Vh5.1 c7
    refine e_iconst dX3_fillLetter_57 ⟨by decide, by decide⟩ ?_
    refine e_goto (tgt := 62) dX3_fillLetter_58 (by decide) ?_
    exact e_zret dX3_fillLetter_62 rfl (by decide) (by rw [Ac7.1, Ac7.2])
  · have Bc7 := Vh5.2 c7
    refine e_aload_n dX3_fillLetter_24 rfl ?_
    refine e_aload_n dX3_fillLetter_25 rfl ?_
    refine e_getr dX3_fillLetter_26 fO_3_15 (by decide) (gs_64 hg) rfl (gp_64_0 hg) ?_
    refine e_getr dX3_fillLetter_29 fO_3_41 (by decide) (gs_3 hg) rfl (gp_3_0 hg) ?_
    refine e_aload_n dX3_fillLetter_32 rfl ?_
    refine e_getr dX3_fillLetter_33 fO_3_15 (by decide) (gs_64 hg) rfl (gp_64_0 hg) ?_
    refine e_getr dX3_fillLetter_36 fO_3_44 (by decide) (gs_3 hg) rfl (gp_3_4 hg) ?_
    refine e_iload_n dX3_fillLetter_39 rfl ?_
    obtain ⟨h8, Vh8⟩ := Bc7
    refine e_iald dX3_fillLetter_40 (by decide) (gs_6 hg) h8.1 h8.2 ?_
    refine e_aload_n dX3_fillLetter_41 rfl ?_
    refine e_getr dX3_fillLetter_42 fO_3_15 (by decide) (gs_64 hg) rfl (gp_64_0 hg) ?_
    refine e_iload_n dX3_fillLetter_45 rfl ?_
    refine e_iload dX3_fillLetter_46 rfl ?_
    obtain ⟨r11, J9, h10, Vh10⟩ := Vh8
    refine e_callv (av := [.inl r3, .inl r6]) (st := [.inl (J4 6 r3.toNat), .inr (some 4), .inr (some u)]) dX3_fillLetter_48 cO_3_84 oX5_lastByteBehind rfl (by decide) (gs_3 hg) rfl (Nat.le_of_ble_eq_true rfl) (by decide) h10 (Nat.le_refl _) (Nat.le_refl _) rfl rfl ?_
    obtain ⟨r14, J12, h13, Vh13⟩ := Vh10
    refine e_callv (av := [.inr (some 4), .inl (J4 6 r3.toNat), .inl r11]) (st := []) dX3_fillLetter_51 cO_3_47 oX5_append rfl (tr_pos hu) (tr_s0 hg hu) rfl (Nat.le_of_ble_eq_true rfl) (by decide) h13 (Nat.le_refl _) (Nat.le_refl _) rfl rfl ?_
    refine e_if_eq (tgt := 61) dX3_fillLetter_54 (by decide) (fun c15 => ?_) (fun c15 => ?_)
    · have Ac15 := Vh13.1 c15
      refine e_iconst dX3_fillLetter_61 ⟨by decide, by decide⟩ ?_
      exact e_zret dX3_fillLetter_62 rfl (by decide) (by rw [Ac15.1, Ac15.2])
    · have Bc15 := Vh13.2 c15
      refine e_iconst dX3_fillLetter_57 ⟨by decide, by decide⟩ ?_
      refine e_goto (tgt := 62) dX3_fillLetter_58 (by decide) ?_
      exact e_zret dX3_fillLetter_62 rfl (by decide) (by rw [Bc15.1, Bc15.2])
set_option maxRecDepth 100000 in
set_option maxHeartbeats 4000000 in
theorem v_X3_dropRowsOfNone_0 {Γ : GX} {g : AG} {I J : Nat → Nat → Int} {r : Option AV} (hg : GOc g) 
    (V : Ev Γ 2 mX3_dropRowsOfNone 2 [some (.inr (some 64)), some (.inl 0)] [] (g, I) (r, (g, J))) : Ev Γ 2 mX3_dropRowsOfNone 0 [some (.inr (some 64)), none] [] (g, I) (r, (g, J)) := by
  refine e_iconst dX3_dropRowsOfNone_0 ⟨by decide, by decide⟩ ?_
  refine e_istore_n dX3_dropRowsOfNone_1 (by decide) (ls' := [some (.inr (some 64)), some (.inl 0)]) rfl ?_
  exact V
set_option maxRecDepth 100000 in
set_option maxHeartbeats 4000000 in
theorem v_X3_dropRowsOfNone_2 {Γ : GX} {g : AG} {I J : Nat → Nat → Int} {r : Option AV} (hg : GOc g) (x1 : Int)
    (V : (((80 ≤ x1)) → (Ev Γ 2 mX3_dropRowsOfNone 23 [some (.inr (some 64)), some (.inl 0)] [] (g, I) (r, (g, J)))) ∧ ((¬ (80 ≤ x1)) → (((0 : Int) ≤ x1 ∧ (x1 : Int) < 80) ∧ (∀ I2 : Nat → Nat → Int, I2 = mset I 65 x1.toNat 0 → (inR (x1 + 1) ∧ (Ev Γ 2 mX3_dropRowsOfNone 2 [some (.inr (some 64)), some (.inl (x1 + 1))] [] (g, I2) (r, (g, J)))))))) : Ev Γ 2 mX3_dropRowsOfNone 2 [some (.inr (some 64)), some (.inl x1)] [] (g, I) (r, (g, J)) := by
  refine e_iload_n dX3_dropRowsOfNone_2 rfl ?_
  refine e_bipush dX3_dropRowsOfNone_3 (by decide) ⟨by decide, by decide⟩ ?_
  refine e_ic_ge (tgt := 21) dX3_dropRowsOfNone_5 (by decide) (fun c1 => ?_) (fun c1 => ?_)
  · have Ac1 := V.1 c1
    refine e_iconst dX3_dropRowsOfNone_21 ⟨by decide, by decide⟩ ?_
    refine e_istore_n dX3_dropRowsOfNone_22 (by decide) (ls' := [some (.inr (some 64)), some (.inl 0)]) rfl ?_
    exact Ac1
  · have Bc1 := V.2 c1
    refine e_aload_n dX3_dropRowsOfNone_8 rfl ?_
    refine e_getr dX3_dropRowsOfNone_9 fO_3_9 (by decide) (gs_64 hg) rfl (gp_64_3 hg) ?_
    refine e_iload_n dX3_dropRowsOfNone_12 rfl ?_
    refine e_iconst dX3_dropRowsOfNone_13 ⟨by decide, by decide⟩ ?_
    obtain ⟨h3, Vh3⟩ := Bc1
    refine e_zast dX3_dropRowsOfNone_14 (by decide) (gs_65 hg) h3.1 h3.2 (by decide) ?_
    refine e_mem (fun I2 eI2 => ?_)
    have WI2 := Vh3 I2 eI2
    obtain ⟨h4, Vh4⟩ := WI2
    refine e_iinc dX3_dropRowsOfNone_15 (by decide) rfl h4 (ls' := [some (.inr (some 64)), some (.inl (x1 + 1))]) rfl ?_
    refine e_goto (tgt := 2) dX3_dropRowsOfNone_18 (by decide) ?_
    exact Vh4
set_option maxRecDepth 100000 in
set_option maxHeartbeats 4000000 in
theorem v_X3_dropRowsOfNone_23 {Γ : GX} {g : AG} {I J : Nat → Nat → Int} {r : Option AV} (hg : GOc g) (x1 : Int)
    (V : ((((I 27 2) ≤ x1)) → (r = none ∧ J = I)) ∧ ((¬ ((I 27 2) ≤ x1)) → (((0 : Int) ≤ x1 ∧ (x1 : Int) < 120) ∧ (((¬ ((I 29 x1.toNat) = 2)) → (inR (x1 + 1) ∧ (Ev Γ 2 mX3_dropRowsOfNone 23 [some (.inr (some 64)), some (.inl (x1 + 1))] [] (g, I) (r, (g, J))))) ∧ ((((I 29 x1.toNat) = 2)) → (((0 : Int) ≤ x1 ∧ (x1 : Int) < 120) ∧ (∃ (r8 : Int) (J6 : Nat → Nat → Int), CT Γ 0 mX1_howMany [.inr (some 52), .inl (I 36 x1.toNat)] (g, I) (some (.inl r8), (g, J6)) ∧ (((¬ (r8 = 0)) → (inR (x1 + 1) ∧ (Ev Γ 2 mX3_dropRowsOfNone 23 [some (.inr (some 64)), some (.inl (x1 + 1))] [] (g, J6) (r, (g, J))))) ∧ (((r8 = 0)) → (∃ (J11 : Nat → Nat → Int), CT Γ 1 mX3_dropRow [.inr (some 64), .inl x1] (g, J6) (none, (g, J11)) ∧ (inR (x1 + 1) ∧ (Ev Γ 2 mX3_dropRowsOfNone 23 [some (.inr (some 64)), some (.inl (x1 + 1))] [] (g, J11) (r, (g, J)))))))))))))) : Ev Γ 2 mX3_dropRowsOfNone 23 [some (.inr (some 64)), some (.inl x1)] [] (g, I) (r, (g, J)) := by
  refine e_iload_n dX3_dropRowsOfNone_23 rfl ?_
  refine e_aload_n dX3_dropRowsOfNone_24 rfl ?_
  refine e_getr dX3_dropRowsOfNone_25 fO_3_19 (by decide) (gs_64 hg) rfl (gp_64_1 hg) ?_
  refine e_geti dX3_dropRowsOfNone_28 fO_3_87 (by decide) (gs_27 hg) rfl ?_
  refine e_ic_ge (tgt := 77) dX3_dropRowsOfNone_31 (by decide) (fun c1 => ?_) (fun c1 => ?_)
  · have Ac1 := V.1 c1
    exact e_vret dX3_dropRowsOfNone_77 rfl (by rw [Ac1.1, Ac1.2])
  · have Bc1 := V.2 c1
    refine e_aload_n dX3_dropRowsOfNone_34 rfl ?_
    refine e_getr dX3_dropRowsOfNone_35 fO_3_19 (by decide) (gs_64 hg) rfl (gp_64_1 hg) ?_
    refine e_getr dX3_dropRowsOfNone_38 fO_3_90 (by decide) (gs_27 hg) rfl (gp_27_3 hg) ?_
    refine e_iload_n dX3_dropRowsOfNone_41 rfl ?_
    obtain ⟨h2, Vh2⟩ := Bc1
    refine e_iald dX3_dropRowsOfNone_42 (by decide) (gs_29 hg) h2.1 h2.2 ?_
    refine e_iconst dX3_dropRowsOfNone_43 ⟨by decide, by decide⟩ ?_
    refine e_ic_ne (tgt := 71) dX3_dropRowsOfNone_44 (by decide) (fun c3 => ?_) (fun c3 => ?_)
    · have Ac3 := Vh2.1 c3
      obtain ⟨h4, Vh4⟩ := Ac3
      refine e_iinc dX3_dropRowsOfNone_71 (by decide) rfl h4 (ls' := [some (.inr (some 64)), some (.inl (x1 + 1))]) rfl ?_
      refine e_goto (tgt := 23) dX3_dropRowsOfNone_74 (by decide) ?_
      exact Vh4
    · have Bc3 := Vh2.2 c3
      refine e_aload_n dX3_dropRowsOfNone_47 rfl ?_
      refine e_getr dX3_dropRowsOfNone_48 fO_3_22 (by decide) (gs_64 hg) rfl (gp_64_2 hg) ?_
      refine e_aload_n dX3_dropRowsOfNone_51 rfl ?_
      refine e_getr dX3_dropRowsOfNone_52 fO_3_19 (by decide) (gs_64 hg) rfl (gp_64_1 hg) ?_
      refine e_getr dX3_dropRowsOfNone_55 fO_3_93 (by decide) (gs_27 hg) rfl (gp_27_10 hg) ?_
      refine e_iload_n dX3_dropRowsOfNone_58 rfl ?_
      obtain ⟨h5, Vh5⟩ := Bc3
      refine e_iald dX3_dropRowsOfNone_59 (by decide) (gs_36 hg) h5.1 h5.2 ?_
      obtain ⟨r8, J6, h7, Vh7⟩ := Vh5
      refine e_callv (av := [.inl (I 36 x1.toNat)]) (st := []) dX3_dropRowsOfNone_60 cO_3_81 oX1_howMany rfl (by decide) (gs_52 hg) rfl (Nat.le_of_ble_eq_true rfl) (by decide) h7 (Nat.le_refl _) (Nat.le_refl _) rfl rfl ?_
      refine e_if_ne (tgt := 71) dX3_dropRowsOfNone_63 (by decide) (fun c9 => ?_) (fun c9 => ?_)
      · have Ac9 := Vh7.1 c9
        obtain ⟨h10, Vh10⟩ := Ac9
        refine e_iinc dX3_dropRowsOfNone_71 (by decide) rfl h10 (ls' := [some (.inr (some 64)), some (.inl (x1 + 1))]) rfl ?_
        refine e_goto (tgt := 23) dX3_dropRowsOfNone_74 (by decide) ?_
        exact Vh10
      · have Bc9 := Vh7.2 c9
        refine e_aload_n dX3_dropRowsOfNone_66 rfl ?_
        refine e_iload_n dX3_dropRowsOfNone_67 rfl ?_
        obtain ⟨J11, h12, Vh12⟩ := Bc9
        refine e_callv (av := [.inl x1]) (st := []) dX3_dropRowsOfNone_68 cO_3_96 oX3_dropRow rfl (by decide) (gs_64 hg) rfl (Nat.le_of_ble_eq_true rfl) (by decide) h12 (Nat.le_refl _) (Nat.le_refl _) rfl rfl ?_
        obtain ⟨h14, Vh14⟩ := Vh12
        refine e_iinc dX3_dropRowsOfNone_71 (by decide) rfl h14 (ls' := [some (.inr (some 64)), some (.inl (x1 + 1))]) rfl ?_
        refine e_goto (tgt := 23) dX3_dropRowsOfNone_74 (by decide) ?_
        exact Vh14
set_option maxRecDepth 100000 in
set_option maxHeartbeats 4000000 in
theorem v_X3_dropRow_0 {Γ : GX} {g : AG} {I J : Nat → Nat → Int} {r : Option AV} (hg : GOc g) (x1 : Int)
    (V : inR (x1 + 1) ∧ (∀ y2 : Int, y2 = (x1 + 1) → (((((I 27 2) ≤ y2)) → (Ev Γ 1 mX3_dropRow 59 [some (.inr (some 64)), some (.inl x1), none, none] [] (g, I) (r, (g, J)))) ∧ ((¬ ((I 27 2) ≤ y2)) → (((0 : Int) ≤ y2 ∧ (y2 : Int) < 120) ∧ (((0 : Int) ≤ x1 ∧ (x1 : Int) < 120) ∧ (((¬ ((I 33 y2.toNat) = (I 33 x1.toNat))) → (Ev Γ 1 mX3_dropRow 59 [some (.inr (some 64)), some (.inl x1), none, none] [] (g, I) (r, (g, J)))) ∧ ((((I 33 y2.toNat) = (I 33 x1.toNat))) → (((0 : Int) ≤ x1 ∧ (x1 : Int) < 120) ∧ (((0 : Int) ≤ y2 ∧ (y2 : Int) < 120) ∧ (∃ (J9 : Nat → Nat → Int), CT Γ 0 mX3_dropBytes [.inr (some 64), .inl (I 30 x1.toNat), .inl (I 30 y2.toNat)] (g, I) (none, (g, J9)) ∧ (r = none ∧ J = J9)))))))))))) : Ev Γ 1 mX3_dropRow 0 [some (.inr (some 64)), some (.inl x1), none, none] [] (g, I) (r, (g, J)) := by
  refine e_iload_n dX3_dropRow_0 rfl ?_
  refine e_iconst dX3_dropRow_1 ⟨by decide, by decide⟩ ?_
  obtain ⟨h1, Vh1⟩ := V
  refine e_iadd dX3_dropRow_2 h1 ?_
  refine e_top (fun y2 ey2 => ?_)
  have Wy2 := Vh1 y2 ey2
  refine e_istore_n dX3_dropRow_3 (by decide) (ls' := [some (.inr (some 64)), some (.inl x1), some (.inl y2), none]) rfl ?_
  refine e_iload_n dX3_dropRow_4 rfl ?_
  refine e_aload_n dX3_dropRow_5 rfl ?_
  refine e_getr dX3_dropRow_6 fO_3_19 (by decide) (gs_64 hg) rfl (gp_64_1 hg) ?_
  refine e_geti dX3_dropRow_9 fO_3_87 (by decide) (gs_27 hg) rfl ?_
  refine e_ic_ge (tgt := 59) dX3_dropRow_12 (by decide) (fun c3 => ?_) (fun c3 => ?_)
  · have Ac3 := Wy2.1 c3
    refine ev_drop (ls' := [some (.inr (some 64)), some (.inl x1), none, none]) 2 rfl ?_
    exact Ac3
  · have Bc3 := Wy2.2 c3
    refine e_aload_n dX3_dropRow_15 rfl ?_
    refine e_getr dX3_dropRow_16 fO_3_19 (by decide) (gs_64 hg) rfl (gp_64_1 hg) ?_
    refine e_getr dX3_dropRow_19 fO_3_100 (by decide) (gs_27 hg) rfl (gp_27_7 hg) ?_
    refine e_iload_n dX3_dropRow_22 rfl ?_
    obtain ⟨h4, Vh4⟩ := Bc3
    refine e_iald dX3_dropRow_23 (by decide) (gs_33 hg) h4.1 h4.2 ?_
    refine e_aload_n dX3_dropRow_24 rfl ?_
    refine e_getr dX3_dropRow_25 fO_3_19 (by decide) (gs_64 hg) rfl (gp_64_1 hg) ?_
    refine e_getr dX3_dropRow_28 fO_3_100 (by decide) (gs_27 hg) rfl (gp_27_7 hg) ?_
    refine e_iload_n dX3_dropRow_31 rfl ?_
    obtain ⟨h5, Vh5⟩ := Vh4
    refine e_iald dX3_dropRow_32 (by decide) (gs_33 hg) h5.1 h5.2 ?_
    refine e_ic_ne (tgt := 59) dX3_dropRow_33 (by decide) (fun c6 => ?_) (fun c6 => ?_)
    · have Ac6 := Vh5.1 c6
      refine ev_drop (ls' := [some (.inr (some 64)), some (.inl x1), none, none]) 2 rfl ?_
      exact Ac6
    · have Bc6 := Vh5.2 c6
      refine e_aload_n dX3_dropRow_36 rfl ?_
      refine e_aload_n dX3_dropRow_37 rfl ?_
      refine e_getr dX3_dropRow_38 fO_3_19 (by decide) (gs_64 hg) rfl (gp_64_1 hg) ?_
      refine e_getr dX3_dropRow_41 fO_3_44 (by decide) (gs_27 hg) rfl (gp_27_4 hg) ?_
      refine e_iload_n dX3_dropRow_44 rfl ?_
      obtain ⟨h7, Vh7⟩ := Bc6
      refine e_iald dX3_dropRow_45 (by decide) (gs_30 hg) h7.1 h7.2 ?_
      refine e_aload_n dX3_dropRow_46 rfl ?_
      refine e_getr dX3_dropRow_47 fO_3_19 (by decide) (gs_64 hg) rfl (gp_64_1 hg) ?_
      refine e_getr dX3_dropRow_50 fO_3_44 (by decide) (gs_27 hg) rfl (gp_27_4 hg) ?_
      refine e_iload_n dX3_dropRow_53 rfl ?_
      obtain ⟨h8, Vh8⟩ := Vh7
      refine e_iald dX3_dropRow_54 (by decide) (gs_30 hg) h8.1 h8.2 ?_
      obtain ⟨J9, h10, Vh10⟩ := Vh8
      refine e_callv (av := [.inl (I 30 x1.toNat), .inl (I 30 y2.toNat)]) (st := []) dX3_dropRow_55 cO_3_103 oX3_dropBytes rfl (by decide) (gs_64 hg) rfl (Nat.le_of_ble_eq_true rfl) (by decide) h10 (Nat.le_refl _) (Nat.le_refl _) rfl rfl ?_
      exact e_vret dX3_dropRow_58 rfl (by rw [Vh10.1, Vh10.2])
set_option maxRecDepth 100000 in
set_option maxHeartbeats 4000000 in
theorem v_X3_dropRow_59 {Γ : GX} {g : AG} {I J : Nat → Nat → Int} {r : Option AV} (hg : GOc g) (x1 : Int)
    (V : ∃ (r3 : Int) (J1 : Nat → Nat → Int), CT Γ 0 mX3_pieceAhead [.inr (some 64), .inl x1] (g, I) (some (.inl r3), (g, J1)) ∧ (((¬ (r3 = (-1))) → (((0 : Int) ≤ r3 ∧ (r3 : Int) < 120) ∧ (((0 : Int) ≤ x1 ∧ (x1 : Int) < 120) ∧ (∃ (J7 : Nat → Nat → Int), CT Γ 0 mX3_dropBytes [.inr (some 64), .inl (J1 32 r3.toNat), .inl (J1 32 x1.toNat)] (g, J1) (none, (g, J7)) ∧ (r = none ∧ J = J7))))) ∧ (((r3 = (-1))) → (((0 : Int) ≤ x1 ∧ (x1 : Int) < 120) ∧ (((0 : Int) ≤ x1 ∧ (x1 : Int) < 120) ∧ (∃ (J12 : Nat → Nat → Int), CT Γ 0 mX3_dropBytes [.inr (some 64), .inl (J1 30 x1.toNat), .inl (J1 32 x1.toNat)] (g, J1) (none, (g, J12)) ∧ (r = none ∧ J = J12))))))) : Ev Γ 1 mX3_dropRow 59 [some (.inr (some 64)), some (.inl x1), none, none] [] (g, I) (r, (g, J)) := by
  refine e_aload_n dX3_dropRow_59 rfl ?_
  refine e_iload_n dX3_dropRow_60 rfl ?_
  obtain ⟨r3, J1, h2, Vh2⟩ := V
  refine e_callv (av := [.inl x1]) (st := []) dX3_dropRow_61 cO_3_107 oX3_pieceAhead rfl (by decide) (gs_64 hg) rfl (Nat.le_of_ble_eq_true rfl) (by decide) h2 (Nat.le_refl _) (Nat.le_refl _) rfl rfl ?_
  refine e_istore_n dX3_dropRow_64 (by decide) (ls' := [some (.inr (some 64)), some (.inl x1), none, some (.inl r3)]) rfl ?_
  refine e_aload_n dX3_dropRow_65 rfl ?_
  refine e_iload_n dX3_dropRow_66 rfl ?_
  refine e_iconst dX3_dropRow_67 ⟨by decide, by decide⟩ ?_
  refine e_ic_ne (tgt := 83) dX3_dropRow_68 (by decide) (fun c4 => ?_) (fun c4 => ?_)
  · have Ac4 := Vh2.1 c4
    refine e_aload_n dX3_dropRow_83 rfl ?_
    refine e_getr dX3_dropRow_84 fO_3_19 (by decide) (gs_64 hg) rfl (gp_64_1 hg) ?_
    refine e_getr dX3_dropRow_87 fO_3_61 (by decide) (gs_27 hg) rfl (gp_27_6 hg) ?_
    refine e_iload_n dX3_dropRow_90 rfl ?_
    obtain ⟨h5, Vh5⟩ := Ac4
    refine e_iald dX3_dropRow_91 (by decide) (gs_32 hg) h5.1 h5.2 ?_
    refine e_aload_n dX3_dropRow_92 rfl ?_
    refine e_getr dX3_dropRow_93 fO_3_19 (by decide) (gs_64 hg) rfl (gp_64_1 hg) ?_
    refine e_getr dX3_dropRow_96 fO_3_61 (by decide) (gs_27 hg) rfl (gp_27_6 hg) ?_
    refine e_iload_n dX3_dropRow_99 rfl ?_
    obtain ⟨h6, Vh6⟩ := Vh5
    refine e_iald dX3_dropRow_100 (by decide) (gs_32 hg) h6.1 h6.2 ?_
    obtain ⟨J7, h8, Vh8⟩ := Vh6
    refine e_callv (av := [.inl (J1 32 r3.toNat), .inl (J1 32 x1.toNat)]) (st := []) dX3_dropRow_101 cO_3_103 oX3_dropBytes rfl (by decide) (gs_64 hg) rfl (Nat.le_of_ble_eq_true rfl) (by decide) h8 (Nat.le_refl _) (Nat.le_refl _) rfl rfl ?_
    exact e_vret dX3_dropRow_104 rfl (by rw [Vh8.1, Vh8.2])
  · have Bc4 := Vh2.2 c4
    refine e_aload_n dX3_dropRow_71 rfl ?_
    refine e_getr dX3_dropRow_72 fO_3_19 (by decide) (gs_64 hg) rfl (gp_64_1 hg) ?_
    refine e_getr dX3_dropRow_75 fO_3_44 (by decide) (gs_27 hg) rfl (gp_27_4 hg) ?_
    refine e_iload_n dX3_dropRow_78 rfl ?_
    obtain ⟨h10, Vh10⟩ := Bc4
    refine e_iald dX3_dropRow_79 (by decide) (gs_30 hg) h10.1 h10.2 ?_
    refine e_goto (tgt := 92) dX3_dropRow_80 (by decide) ?_
    refine e_aload_n dX3_dropRow_92 rfl ?_
    refine e_getr dX3_dropRow_93 fO_3_19 (by decide) (gs_64 hg) rfl (gp_64_1 hg) ?_
    refine e_getr dX3_dropRow_96 fO_3_61 (by decide) (gs_27 hg) rfl (gp_27_6 hg) ?_
    refine e_iload_n dX3_dropRow_99 rfl ?_
    obtain ⟨h11, Vh11⟩ := Vh10
    refine e_iald dX3_dropRow_100 (by decide) (gs_32 hg) h11.1 h11.2 ?_
    obtain ⟨J12, h13, Vh13⟩ := Vh11
    refine e_callv (av := [.inl (J1 30 x1.toNat), .inl (J1 32 x1.toNat)]) (st := []) dX3_dropRow_101 cO_3_103 oX3_dropBytes rfl (by decide) (gs_64 hg) rfl (Nat.le_of_ble_eq_true rfl) (by decide) h13 (Nat.le_refl _) (Nat.le_refl _) rfl rfl ?_
    exact e_vret dX3_dropRow_104 rfl (by rw [Vh13.1, Vh13.2])
set_option maxRecDepth 100000 in
set_option maxHeartbeats 4000000 in
theorem v_X3_pieceAhead_0 {Γ : GX} {g : AG} {I J : Nat → Nat → Int} {r : Option AV} (hg : GOc g) (x1 : Int)
    (V : inR (x1 - 1) ∧ (∀ y2 : Int, y2 = (x1 - 1) → (Ev Γ 0 mX3_pieceAhead 4 [some (.inr (some 64)), some (.inl x1), some (.inl y2)] [] (g, I) (r, (g, J))))) : Ev Γ 0 mX3_pieceAhead 0 [some (.inr (some 64)), some (.inl x1), none] [] (g, I) (r, (g, J)) := by
  refine e_iload_n dX3_pieceAhead_0 rfl ?_
  refine e_iconst dX3_pieceAhead_1 ⟨by decide, by decide⟩ ?_
  obtain ⟨h1, Vh1⟩ := V
  refine e_isub dX3_pieceAhead_2 h1 ?_
  refine e_top (fun y2 ey2 => ?_)
  have Wy2 := Vh1 y2 ey2
  refine e_istore_n dX3_pieceAhead_3 (by decide) (ls' := [some (.inr (some 64)), some (.inl x1), some (.inl y2)]) rfl ?_
  exact Wy2
set_option maxRecDepth 100000 in
set_option maxHeartbeats 4000000 in
theorem v_X3_pieceAhead_4 {Γ : GX} {g : AG} {I J : Nat → Nat → Int} {r : Option AV} (hg : GOc g) (x1 : Int) (x2 : Int)
    (V : (((x2 < 0)) → (r = some (.inl (-1)) ∧ J = I)) ∧ ((¬ (x2 < 0)) → (((0 : Int) ≤ x2 ∧ (x2 : Int) < 120) ∧ (((0 : Int) ≤ x1 ∧ (x1 : Int) < 120) ∧ (((¬ ((I 33 x2.toNat) = (I 33 x1.toNat))) → (inR (x2 + (-1)) ∧ (Ev Γ 0 mX3_pieceAhead 4 [some (.inr (some 64)), some (.inl x1), some (.inl (x2 + (-1)))] [] (g, I) (r, (g, J))))) ∧ ((((I 33 x2.toNat) = (I 33 x1.toNat))) → (((0 : Int) ≤ x2 ∧ (x2 : Int) < 120) ∧ (((0 : Int) ≤ (I 30 x2.toNat) ∧ ((I 30 x2.toNat) : Int) < 80) ∧ (((¬ ((I 65 (I 30 x2.toNat).toNat) = 0)) → (inR (x2 + (-1)) ∧ (Ev Γ 0 mX3_pieceAhead 4 [some (.inr (some 64)), some (.inl x1), some (.inl (x2 + (-1)))] [] (g, I) (r, (g, J))))) ∧ ((((I 65 (I 30 x2.toNat).toNat) = 0)) → (r = some (.inl x2) ∧ J = I))))))))))) : Ev Γ 0 mX3_pieceAhead 4 [some (.inr (some 64)), some (.inl x1), some (.inl x2)] [] (g, I) (r, (g, J)) := by
  refine e_iload_n dX3_pieceAhead_4 rfl ?_
  refine e_if_lt (tgt := 54) dX3_pieceAhead_5 (by decide) (fun c1 => ?_) (fun c1 => ?_)
  · have Ac1 := V.1 c1
    refine e_iconst dX3_pieceAhead_54 ⟨by decide, by decide⟩ ?_
    exact e_iret dX3_pieceAhead_55 rfl (by rw [Ac1.1, Ac1.2])
  · have Bc1 := V.2 c1
    refine e_aload_n dX3_pieceAhead_8 rfl ?_
    refine e_getr dX3_pieceAhead_9 fO_3_19 (by decide) (gs_64 hg) rfl (gp_64_1 hg) ?_
    refine e_getr dX3_pieceAhead_12 fO_3_100 (by decide) (gs_27 hg) rfl (gp_27_7 hg) ?_
    refine e_iload_n dX3_pieceAhead_15 rfl ?_
    obtain ⟨h2, Vh2⟩ := Bc1
    refine e_iald dX3_pieceAhead_16 (by decide) (gs_33 hg) h2.1 h2.2 ?_
    refine e_aload_n dX3_pieceAhead_17 rfl ?_
    refine e_getr dX3_pieceAhead_18 fO_3_19 (by decide) (gs_64 hg) rfl (gp_64_1 hg) ?_
    refine e_getr dX3_pieceAhead_21 fO_3_100 (by decide) (gs_27 hg) rfl (gp_27_7 hg) ?_
    refine e_iload_n dX3_pieceAhead_24 rfl ?_
    obtain ⟨h3, Vh3⟩ := Vh2
    refine e_iald dX3_pieceAhead_25 (by decide) (gs_33 hg) h3.1 h3.2 ?_
    refine e_ic_ne (tgt := 48) dX3_pieceAhead_26 (by decide) (fun c4 => ?_) (fun c4 => ?_)
    · have Ac4 := Vh3.1 c4
      obtain ⟨h5, Vh5⟩ := Ac4
      refine e_iinc dX3_pieceAhead_48 (by decide) rfl h5 (ls' := [some (.inr (some 64)), some (.inl x1), some (.inl (x2 + (-1)))]) rfl ?_
      refine e_goto (tgt := 4) dX3_pieceAhead_51 (by decide) ?_
      exact Vh5
    · have Bc4 := Vh3.2 c4
      refine e_aload_n dX3_pieceAhead_29 rfl ?_
      refine e_getr dX3_pieceAhead_30 fO_3_9 (by decide) (gs_64 hg) rfl (gp_64_3 hg) ?_
      refine e_aload_n dX3_pieceAhead_33 rfl ?_
      refine e_getr dX3_pieceAhead_34 fO_3_19 (by decide) (gs_64 hg) rfl (gp_64_1 hg) ?_
      refine e_getr dX3_pieceAhead_37 fO_3_44 (by decide) (gs_27 hg) rfl (gp_27_4 hg) ?_
      refine e_iload_n dX3_pieceAhead_40 rfl ?_
      obtain ⟨h6, Vh6⟩ := Bc4
      refine e_iald dX3_pieceAhead_41 (by decide) (gs_30 hg) h6.1 h6.2 ?_
      obtain ⟨h7, Vh7⟩ := Vh6
      refine e_zald dX3_pieceAhead_42 (by decide) (gs_65 hg) h7.1 h7.2 ?_
      refine e_if_ne (tgt := 48) dX3_pieceAhead_43 (by decide) (fun c8 => ?_) (fun c8 => ?_)
      · have Ac8 := Vh7.1 c8
        obtain ⟨h9, Vh9⟩ := Ac8
        refine e_iinc dX3_pieceAhead_48 (by decide) rfl h9 (ls' := [some (.inr (some 64)), some (.inl x1), some (.inl (x2 + (-1)))]) rfl ?_
        refine e_goto (tgt := 4) dX3_pieceAhead_51 (by decide) ?_
        exact Vh9
      · have Bc8 := Vh7.2 c8
        refine e_iload_n dX3_pieceAhead_46 rfl ?_
        exact e_iret dX3_pieceAhead_47 rfl (by rw [Bc8.1, Bc8.2])
set_option maxRecDepth 100000 in
set_option maxHeartbeats 4000000 in
theorem v_X3_dropBytes_0 {Γ : GX} {g : AG} {I J : Nat → Nat → Int} {r : Option AV} (hg : GOc g) (x1 : Int) (x2 : Int)
    (V : Ev Γ 0 mX3_dropBytes 2 [some (.inr (some 64)), none, some (.inl x2), some (.inl x1)] [] (g, I) (r, (g, J))) : Ev Γ 0 mX3_dropBytes 0 [some (.inr (some 64)), some (.inl x1), some (.inl x2), none] [] (g, I) (r, (g, J)) := by
  refine e_iload_n dX3_dropBytes_0 rfl ?_
  refine e_istore_n dX3_dropBytes_1 (by decide) (ls' := [some (.inr (some 64)), some (.inl x1), some (.inl x2), some (.inl x1)]) rfl ?_
  refine ev_drop (ls' := [some (.inr (some 64)), none, some (.inl x2), some (.inl x1)]) 1 rfl ?_
  exact V
set_option maxRecDepth 100000 in
set_option maxHeartbeats 4000000 in
theorem v_X3_dropBytes_2 {Γ : GX} {g : AG} {I J : Nat → Nat → Int} {r : Option AV} (hg : GOc g) (x2 : Int) (x3 : Int)
    (V : (((x2 ≤ x3)) → (r = none ∧ J = I)) ∧ ((¬ (x2 ≤ x3)) → ((((80 ≤ x3)) → (r = none ∧ J = I)) ∧ ((¬ (80 ≤ x3)) → (((0 : Int) ≤ x3 ∧ (x3 : Int) < 80) ∧ (∀ I3 : Nat → Nat → Int, I3 = mset I 65 x3.toNat 1 → (inR (x3 + 1) ∧ (Ev Γ 0 mX3_dropBytes 2 [some (.inr (some 64)), none, some (.inl x2), some (.inl (x3 + 1))] [] (g, I3) (r, (g, J)))))))))) : Ev Γ 0 mX3_dropBytes 2 [some (.inr (some 64)), none, some (.inl x2), some (.inl x3)] [] (g, I) (r, (g, J)) := by
  refine e_iload_n dX3_dropBytes_2 rfl ?_
  refine e_iload_n dX3_dropBytes_3 rfl ?_
  refine e_ic_ge (tgt := 26) dX3_dropBytes_4 (by decide) (fun c1 => ?_) (fun c1 => ?_)
  · have Ac1 := V.1 c1
    exact e_vret dX3_dropBytes_26 rfl (by rw [Ac1.1, Ac1.2])
  · have Bc1 := V.2 c1
    refine e_iload_n dX3_dropBytes_7 rfl ?_
    refine e_bipush dX3_dropBytes_8 (by decide) ⟨by decide, by decide⟩ ?_
    refine e_ic_ge (tgt := 26) dX3_dropBytes_10 (by decide) (fun c2 => ?_) (fun c2 => ?_)
    · have Ac2 := Bc1.1 c2
      exact e_vret dX3_dropBytes_26 rfl (by rw [Ac2.1, Ac2.2])
    · have Bc2 := Bc1.2 c2
      refine e_aload_n dX3_dropBytes_13 rfl ?_
      refine e_getr dX3_dropBytes_14 fO_3_9 (by decide) (gs_64 hg) rfl (gp_64_3 hg) ?_
      refine e_iload_n dX3_dropBytes_17 rfl ?_
      refine e_iconst dX3_dropBytes_18 ⟨by decide, by decide⟩ ?_
      obtain ⟨h4, Vh4⟩ := Bc2
      refine e_zast dX3_dropBytes_19 (by decide) (gs_65 hg) h4.1 h4.2 (by decide) ?_
      refine e_mem (fun I3 eI3 => ?_)
      have WI3 := Vh4 I3 eI3
      obtain ⟨h5, Vh5⟩ := WI3
      refine e_iinc dX3_dropBytes_20 (by decide) rfl h5 (ls' := [some (.inr (some 64)), none, some (.inl x2), some (.inl (x3 + 1))]) rfl ?_
      refine e_goto (tgt := 2) dX3_dropBytes_23 (by decide) ?_
      exact Vh5
