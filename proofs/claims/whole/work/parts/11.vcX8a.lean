set_option maxRecDepth 100000 in
set_option maxHeartbeats 4000000 in
theorem v_X8_thrown_0 {Γ : GX} {g : AG} {I J : Nat → Nat → Int} {r : Option AV} (hg : GOk g) 
    (V : r = some (.inl (I 80 0)) ∧ J = I) : Ev Γ 0 mX8_thrown 0 [some (.inr (some 80))] [] (g, I) (r, (g, J)) := by
  refine e_aload_n dX8_thrown_0 rfl ?_
  refine e_geti dX8_thrown_1 fO_8_103 (by decide) (gs_80 hg) rfl ?_
  exact e_iret dX8_thrown_4 rfl (by rw [V.1, V.2])
set_option maxRecDepth 100000 in
set_option maxHeartbeats 4000000 in
theorem v_X8_isIn_0 {Γ : GX} {g : AG} {I J : Nat → Nat → Int} {r : Option AV} (hg : GOk g) (x0 : Int) (x1 : Int) (x2 : Int)
    (V : (((x0 < x1)) → (r = some (.inl 0) ∧ J = I)) ∧ ((¬ (x0 < x1)) → ((((x2 < x0)) → (r = some (.inl 0) ∧ J = I)) ∧ ((¬ (x2 < x0)) → (r = some (.inl 1) ∧ J = I))))) : Ev Γ 0 mX8_isIn 0 [some (.inl x0), some (.inl x1), some (.inl x2)] [] (g, I) (r, (g, J)) := by
  refine e_iload_n dX8_isIn_0 rfl ?_
  refine e_iload_n dX8_isIn_1 rfl ?_
  refine e_ic_lt (tgt := 14) dX8_isIn_2 (by decide) (fun c1 => ?_) (fun c1 => ?_)
  · have Ac1 := V.1 c1
    refine e_iconst dX8_isIn_14 ⟨by decide, by decide⟩ ?_
    exact e_zret dX8_isIn_15 rfl (by decide) (by rw [Ac1.1, Ac1.2])
  · have Bc1 := V.2 c1
    refine e_iload_n dX8_isIn_5 rfl ?_
    refine e_iload_n dX8_isIn_6 rfl ?_
    refine e_ic_gt (tgt := 14) dX8_isIn_7 (by decide) (fun c2 => ?_) (fun c2 => ?_)
    · have Ac2 := Bc1.1 c2
      refine e_iconst dX8_isIn_14 ⟨by decide, by decide⟩ ?_
      exact e_zret dX8_isIn_15 rfl (by decide) (by rw [Ac2.1, Ac2.2])
    · have Bc2 := Bc1.2 c2
      refine e_iconst dX8_isIn_10 ⟨by decide, by decide⟩ ?_
      refine e_goto (tgt := 15) dX8_isIn_11 (by decide) ?_
      exact e_zret dX8_isIn_15 rfl (by decide) (by rw [Bc2.1, Bc2.2])
set_option maxRecDepth 100000 in
set_option maxHeartbeats 4000000 in
theorem v_X8_look_0 {Γ : GX} {g : AG} {I J : Nat → Nat → Int} {r : Option AV} (hg : GOk g) (u : Nat) (hu : Mt u) (cu : g.2.1 80 12 = some u)
    (V : ((((I u 1) ≤ (I 80 14))) → (Ev Γ 0 mX8_look 61 [some (.inr (some 80))] [] (g, I) (r, (g, J)))) ∧ ((¬ ((I u 1) ≤ (I 80 14))) → (((0 : Int) ≤ (I 80 14) ∧ ((I 80 14) : Int) < 240) ∧ (((((I (u + 1) (I 80 14).toNat) = 32)) → (Ev Γ 0 mX8_look 48 [some (.inr (some 80))] [] (g, I) (r, (g, J)))) ∧ ((¬ ((I (u + 1) (I 80 14).toNat) = 32)) → (((0 : Int) ≤ (I 80 14) ∧ ((I 80 14) : Int) < 240) ∧ (((¬ ((I (u + 1) (I 80 14).toNat) = 10)) → (Ev Γ 0 mX8_look 61 [some (.inr (some 80))] [] (g, I) (r, (g, J)))) ∧ ((((I (u + 1) (I 80 14).toNat) = 10)) → (Ev Γ 0 mX8_look 48 [some (.inr (some 80))] [] (g, I) (r, (g, J))))))))))) : Ev Γ 0 mX8_look 0 [some (.inr (some 80))] [] (g, I) (r, (g, J)) := by
  refine e_aload_n dX8_look_0 rfl ?_
  refine e_geti dX8_look_1 fO_8_106 (by decide) (gs_80 hg) rfl ?_
  refine e_aload_n dX8_look_4 rfl ?_
  refine e_getr dX8_look_5 fO_8_109 (by decide) (gs_80 hg) rfl cu ?_
  refine e_geti dX8_look_8 fO_8_112 (mt_pos hu) (mt_s0 hg hu) rfl ?_
  refine e_ic_ge (tgt := 61) dX8_look_11 (by decide) (fun c1 => ?_) (fun c1 => ?_)
  · have Ac1 := V.1 c1
    exact Ac1
  · have Bc1 := V.2 c1
    refine e_aload_n dX8_look_14 rfl ?_
    refine e_getr dX8_look_15 fO_8_109 (by decide) (gs_80 hg) rfl cu ?_
    refine e_getr dX8_look_18 fO_8_113 (mt_pos hu) (mt_s0 hg hu) rfl (mt_p1 hg hu) ?_
    refine e_aload_n dX8_look_21 rfl ?_
    refine e_geti dX8_look_22 fO_8_106 (by decide) (gs_80 hg) rfl ?_
    obtain ⟨h2, Vh2⟩ := Bc1
    refine e_bald dX8_look_25 (Nat.succ_pos _) (mt_s1 hg hu) h2.1 h2.2 ?_
    refine e_bipush dX8_look_26 (by decide) ⟨by decide, by decide⟩ ?_
    refine e_ic_eq (tgt := 48) dX8_look_28 (by decide) (fun c3 => ?_) (fun c3 => ?_)
    · have Ac3 := Vh2.1 c3
      exact Ac3
    · have Bc3 := Vh2.2 c3
      refine e_aload_n dX8_look_31 rfl ?_
      refine e_getr dX8_look_32 fO_8_109 (by decide) (gs_80 hg) rfl cu ?_
      refine e_getr dX8_look_35 fO_8_113 (mt_pos hu) (mt_s0 hg hu) rfl (mt_p1 hg hu) ?_
      refine e_aload_n dX8_look_38 rfl ?_
      refine e_geti dX8_look_39 fO_8_106 (by decide) (gs_80 hg) rfl ?_
      obtain ⟨h4, Vh4⟩ := Bc3
      refine e_bald dX8_look_42 (Nat.succ_pos _) (mt_s1 hg hu) h4.1 h4.2 ?_
      refine e_bipush dX8_look_43 (by decide) ⟨by decide, by decide⟩ ?_
      refine e_ic_ne (tgt := 61) dX8_look_45 (by decide) (fun c5 => ?_) (fun c5 => ?_)
      · have Ac5 := Vh4.1 c5
        exact Ac5
      · have Bc5 := Vh4.2 c5
        exact Bc5
set_option maxRecDepth 100000 in
set_option maxHeartbeats 4000000 in
theorem v_X8_look_61 {Γ : GX} {g : AG} {I J : Nat → Nat → Int} {r : Option AV} (hg : GOk g) (u : Nat) (hu : Mt u) (cu : g.2.1 80 12 = some u)
    (V : ((((I u 1) ≤ (I 80 14))) → (r = some (.inl (-1)) ∧ J = I)) ∧ ((¬ ((I u 1) ≤ (I 80 14))) → (((0 : Int) ≤ (I 80 14) ∧ ((I 80 14) : Int) < 240) ∧ (r = some (.inl (bAnd (I (u + 1) (I 80 14).toNat) 255)) ∧ J = I)))) : Ev Γ 0 mX8_look 61 [some (.inr (some 80))] [] (g, I) (r, (g, J)) := by
  refine e_aload_n dX8_look_61 rfl ?_
  refine e_geti dX8_look_62 fO_8_106 (by decide) (gs_80 hg) rfl ?_
  refine e_aload_n dX8_look_65 rfl ?_
  refine e_getr dX8_look_66 fO_8_109 (by decide) (gs_80 hg) rfl cu ?_
  refine e_geti dX8_look_69 fO_8_112 (mt_pos hu) (mt_s0 hg hu) rfl ?_
  refine e_ic_ge (tgt := 94) dX8_look_72 (by decide) (fun c1 => ?_) (fun c1 => ?_)
  · have Ac1 := V.1 c1
    refine e_iconst dX8_look_94 ⟨by decide, by decide⟩ ?_
    exact e_iret dX8_look_95 rfl (by rw [Ac1.1, Ac1.2])
  · have Bc1 := V.2 c1
    refine e_aload_n dX8_look_75 rfl ?_
    refine e_getr dX8_look_76 fO_8_109 (by decide) (gs_80 hg) rfl cu ?_
    refine e_getr dX8_look_79 fO_8_113 (mt_pos hu) (mt_s0 hg hu) rfl (mt_p1 hg hu) ?_
    refine e_aload_n dX8_look_82 rfl ?_
    refine e_geti dX8_look_83 fO_8_106 (by decide) (gs_80 hg) rfl ?_
    obtain ⟨h2, Vh2⟩ := Bc1
    refine e_bald dX8_look_86 (Nat.succ_pos _) (mt_s1 hg hu) h2.1 h2.2 ?_
    refine e_sipush dX8_look_87 (by decide) ⟨by decide, by decide⟩ ?_
    refine e_iand dX8_look_90 ?_
    refine e_goto (tgt := 95) dX8_look_91 (by decide) ?_
    exact e_iret dX8_look_95 rfl (by rw [Vh2.1, Vh2.2])
set_option maxRecDepth 100000 in
set_option maxHeartbeats 4000000 in
theorem v_X8_look_48 {Γ : GX} {g : AG} {I J : Nat → Nat → Int} {r : Option AV} (hg : GOk g) 
    (V : inR ((I 80 14) + 1) ∧ (∀ I2 : Nat → Nat → Int, I2 = mset I 80 14 ((I 80 14) + 1) → (Ev Γ 0 mX8_look 0 [some (.inr (some 80))] [] (g, I2) (r, (g, J))))) : Ev Γ 0 mX8_look 48 [some (.inr (some 80))] [] (g, I) (r, (g, J)) := by
  refine e_aload_n dX8_look_48 rfl ?_
  refine e_dup dX8_look_49 ?_
  refine e_geti dX8_look_50 fO_8_106 (by decide) (gs_80 hg) rfl ?_
  refine e_iconst dX8_look_53 ⟨by decide, by decide⟩ ?_
  obtain ⟨h1, Vh1⟩ := V
  refine e_iadd dX8_look_54 h1 ?_
  refine e_puti dX8_look_55 fO_8_106 (by decide) (gs_80 hg) rfl rfl ?_
  refine e_mem (fun I2 eI2 => ?_)
  have WI2 := Vh1 I2 eI2
  refine e_goto (tgt := 0) dX8_look_58 (by decide) ?_
  exact WI2
set_option maxRecDepth 100000 in
set_option maxHeartbeats 4000000 in
theorem v_X8_isSmall_0 {Γ : GX} {g : AG} {I J : Nat → Nat → Int} {r : Option AV} (hg : GOk g) (x0 : Int)
    (V : (((x0 < 97)) → (r = some (.inl 0) ∧ J = I)) ∧ ((¬ (x0 < 97)) → ((((122 < x0)) → (r = some (.inl 0) ∧ J = I)) ∧ ((¬ (122 < x0)) → (r = some (.inl 1) ∧ J = I))))) : Ev Γ 0 mX8_isSmall 0 [some (.inl x0)] [] (g, I) (r, (g, J)) := by
  refine e_iload_n dX8_isSmall_0 rfl ?_
  refine e_bipush dX8_isSmall_1 (by decide) ⟨by decide, by decide⟩ ?_
  refine e_ic_lt (tgt := 16) dX8_isSmall_3 (by decide) (fun c1 => ?_) (fun c1 => ?_)
  · have Ac1 := V.1 c1
    refine e_iconst dX8_isSmall_16 ⟨by decide, by decide⟩ ?_
    exact e_zret dX8_isSmall_17 rfl (by decide) (by rw [Ac1.1, Ac1.2])
  · have Bc1 := V.2 c1
    refine e_iload_n dX8_isSmall_6 rfl ?_
    refine e_bipush dX8_isSmall_7 (by decide) ⟨by decide, by decide⟩ ?_
    refine e_ic_gt (tgt := 16) dX8_isSmall_9 (by decide) (fun c2 => ?_) (fun c2 => ?_)
    · have Ac2 := Bc1.1 c2
      refine e_iconst dX8_isSmall_16 ⟨by decide, by decide⟩ ?_
      exact e_zret dX8_isSmall_17 rfl (by decide) (by rw [Ac2.1, Ac2.2])
    · have Bc2 := Bc1.2 c2
      refine e_iconst dX8_isSmall_12 ⟨by decide, by decide⟩ ?_
      refine e_goto (tgt := 17) dX8_isSmall_13 (by decide) ?_
      exact e_zret dX8_isSmall_17 rfl (by decide) (by rw [Bc2.1, Bc2.2])
set_option maxRecDepth 100000 in
set_option maxHeartbeats 4000000 in
theorem v_X8_isAtom_0 {Γ : GX} {g : AG} {I J : Nat → Nat → Int} {r : Option AV} (hg : GOk g) (x0 : Int)
    (V : ∃ (r3 : Int) (J1 : Nat → Nat → Int), CT Γ 0 mX8_isSmall [.inl x0] (g, I) (some (.inl r3), (g, J1)) ∧ (((¬ (r3 = 0)) → (r = some (.inl 1) ∧ J = J1)) ∧ (((r3 = 0)) → ((((x0 < 48)) → (r = some (.inl 0) ∧ J = J1)) ∧ ((¬ (x0 < 48)) → ((((57 < x0)) → (r = some (.inl 0) ∧ J = J1)) ∧ ((¬ (57 < x0)) → (r = some (.inl 1) ∧ J = J1)))))))) : Ev Γ 1 mX8_isAtom 0 [some (.inl x0)] [] (g, I) (r, (g, J)) := by
  refine e_iload_n dX8_isAtom_0 rfl ?_
  obtain ⟨r3, J1, h2, Vh2⟩ := V
  refine e_calls (av := [.inl x0]) (st := []) dX8_isAtom_1 cO_8_116 oX8_isSmall rfl rfl (Nat.le_of_ble_eq_true rfl) (by decide) h2 (Nat.le_refl _) (Nat.le_refl _) rfl rfl ?_
  refine e_if_ne (tgt := 19) dX8_isAtom_4 (by decide) (fun c4 => ?_) (fun c4 => ?_)
  · have Ac4 := Vh2.1 c4
    refine e_iconst dX8_isAtom_19 ⟨by decide, by decide⟩ ?_
    refine e_goto (tgt := 24) dX8_isAtom_20 (by decide) ?_
    exact e_zret dX8_isAtom_24 rfl (by decide) (by rw [Ac4.1, Ac4.2])
  · have Bc4 := Vh2.2 c4
    refine e_iload_n dX8_isAtom_7 rfl ?_
    refine e_bipush dX8_isAtom_8 (by decide) ⟨by decide, by decide⟩ ?_
    refine e_ic_lt (tgt := 23) dX8_isAtom_10 (by decide) (fun c5 => ?_) (fun c5 => ?_)
    · have Ac5 := Bc4.1 c5
      refine e_iconst dX8_isAtom_23 ⟨by decide, by decide⟩ ?_
      exact e_zret dX8_isAtom_24 rfl (by decide) (by rw [Ac5.1, Ac5.2])
    · have Bc5 := Bc4.2 c5
      refine e_iload_n dX8_isAtom_13 rfl ?_
      refine e_bipush dX8_isAtom_14 (by decide) ⟨by decide, by decide⟩ ?_
      refine e_ic_gt (tgt := 23) dX8_isAtom_16 (by decide) (fun c6 => ?_) (fun c6 => ?_)
      · have Ac6 := Bc5.1 c6
        refine e_iconst dX8_isAtom_23 ⟨by decide, by decide⟩ ?_
        exact e_zret dX8_isAtom_24 rfl (by decide) (by rw [Ac6.1, Ac6.2])
      · have Bc6 := Bc5.2 c6
        refine e_iconst dX8_isAtom_19 ⟨by decide, by decide⟩ ?_
        refine e_goto (tgt := 24) dX8_isAtom_20 (by decide) ?_
        exact e_zret dX8_isAtom_24 rfl (by decide) (by rw [Bc6.1, Bc6.2])
set_option maxRecDepth 100000 in
set_option maxHeartbeats 4000000 in
theorem v_X8_wrong_0 {Γ : GX} {g : AG} {I J : Nat → Nat → Int} {r : Option AV} (hg : GOk g) 
    (V : ((¬ ((I 80 15) = (-1))) → (r = some (.inl 0) ∧ J = I)) ∧ ((((I 80 15) = (-1))) → (∀ I2 : Nat → Nat → Int, I2 = mset I 80 15 (I 80 14) → (r = some (.inl 0) ∧ J = I2)))) : Ev Γ 0 mX8_wrong 0 [some (.inr (some 80))] [] (g, I) (r, (g, J)) := by
  refine e_aload_n dX8_wrong_0 rfl ?_
  refine e_geti dX8_wrong_1 fO_8_119 (by decide) (gs_80 hg) rfl ?_
  refine e_iconst dX8_wrong_4 ⟨by decide, by decide⟩ ?_
  refine e_ic_ne (tgt := 16) dX8_wrong_5 (by decide) (fun c1 => ?_) (fun c1 => ?_)
  · have Ac1 := V.1 c1
    refine e_iconst dX8_wrong_16 ⟨by decide, by decide⟩ ?_
    exact e_zret dX8_wrong_17 rfl (by decide) (by rw [Ac1.1, Ac1.2])
  · have Bc1 := V.2 c1
    refine e_aload_n dX8_wrong_8 rfl ?_
    refine e_aload_n dX8_wrong_9 rfl ?_
    refine e_geti dX8_wrong_10 fO_8_106 (by decide) (gs_80 hg) rfl ?_
    refine e_puti dX8_wrong_13 fO_8_119 (by decide) (gs_80 hg) rfl rfl ?_
    refine e_mem (fun I2 eI2 => ?_)
    have WI2 := Bc1 I2 eI2
    refine e_iconst dX8_wrong_16 ⟨by decide, by decide⟩ ?_
    exact e_zret dX8_wrong_17 rfl (by decide) (by rw [WI2.1, WI2.2])
set_option maxRecDepth 100000 in
set_option maxHeartbeats 4000000 in
theorem v_X8_adds_0 {Γ : GX} {g : AG} {I J : Nat → Nat → Int} {r : Option AV} (hg : GOk g) (x1 : Int) (x2 : Int) (u : Nat) (hu : Mt u) (cu : g.2.1 80 12 = some u)
    (V : ∀ y1 : Int, y1 = (I u 2) → (inR ((I u 2) + 1) ∧ (∀ I3 : Nat → Nat → Int, I3 = mset I u 2 ((I u 2) + 1) → (((0 : Int) ≤ y1 ∧ (y1 : Int) < 240) ∧ (∀ I4 : Nat → Nat → Int, I4 = mset I3 (u + 2) y1.toNat x1 → (((0 : Int) ≤ y1 ∧ (y1 : Int) < 240) ∧ (∀ I6 : Nat → Nat → Int, I6 = mset I4 (u + 3) y1.toNat (I4 80 14) → (((0 : Int) ≤ y1 ∧ (y1 : Int) < 240) ∧ (∀ I8 : Nat → Nat → Int, I8 = mset I6 (u + 7) y1.toNat x2 → (((0 : Int) ≤ y1 ∧ (y1 : Int) < 240) ∧ (∀ I10 : Nat → Nat → Int, I10 = mset I8 (u + 6) y1.toNat 0 → (((0 : Int) ≤ y1 ∧ (y1 : Int) < 240) ∧ (∀ I12 : Nat → Nat → Int, I12 = mset I10 (u + 9) y1.toNat 0 → (((0 : Int) ≤ y1 ∧ (y1 : Int) < 240) ∧ (∀ I14 : Nat → Nat → Int, I14 = mset I12 (u + 8) y1.toNat (-1) → ((((x2 = (-1))) → (r = some (.inl y1) ∧ J = I14)) ∧ ((¬ (x2 = (-1))) → (((0 : Int) ≤ x2 ∧ (x2 : Int) < 240) ∧ (inR ((I14 (u + 6) x2.toNat) + 1) ∧ (((0 : Int) ≤ x2 ∧ (x2 : Int) < 240) ∧ (∀ I19 : Nat → Nat → Int, I19 = mset I14 (u + 6) x2.toNat ((I14 (u + 6) x2.toNat) + 1) → (r = some (.inl y1) ∧ J = I19)))))))))))))))))))))) : Ev Γ 0 mX8_adds 0 [some (.inr (some 80)), some (.inl x1), some (.inl x2), none] [] (g, I) (r, (g, J)) := by
  refine e_aload_n dX8_adds_0 rfl ?_
  refine e_getr dX8_adds_1 fO_8_109 (by decide) (gs_80 hg) rfl cu ?_
  refine e_geti dX8_adds_4 fO_8_122 (mt_pos hu) (mt_s0 hg hu) rfl ?_
  refine e_top (fun y1 ey1 => ?_)
  have Wy1 := V y1 ey1
  refine e_istore_n dX8_adds_7 (by decide) (ls' := [some (.inr (some 80)), some (.inl x1), some (.inl x2), some (.inl y1)]) rfl ?_
  refine e_aload_n dX8_adds_8 rfl ?_
  refine e_getr dX8_adds_9 fO_8_109 (by decide) (gs_80 hg) rfl cu ?_
  refine e_dup dX8_adds_12 ?_
  refine e_geti dX8_adds_13 fO_8_122 (mt_pos hu) (mt_s0 hg hu) rfl ?_
  refine e_iconst dX8_adds_16 ⟨by decide, by decide⟩ ?_
  obtain ⟨h2, Vh2⟩ := Wy1
  refine e_iadd dX8_adds_17 h2 ?_
  refine e_puti dX8_adds_18 fO_8_122 (mt_pos hu) (mt_s0 hg hu) rfl rfl ?_
  refine e_mem (fun I3 eI3 => ?_)
  have WI3 := Vh2 I3 eI3
  refine e_aload_n dX8_adds_21 rfl ?_
  refine e_getr dX8_adds_22 fO_8_109 (by decide) (gs_80 hg) rfl cu ?_
  refine e_getr dX8_adds_25 fO_8_125 (mt_pos hu) (mt_s0 hg hu) rfl (mt_p2 hg hu) ?_
  refine e_iload_n dX8_adds_28 rfl ?_
  refine e_iload_n dX8_adds_29 rfl ?_
  obtain ⟨h5, Vh5⟩ := WI3
  refine e_iast dX8_adds_30 (Nat.succ_pos _) (mt_s2 hg hu) h5.1 h5.2 ?_
  refine e_mem (fun I4 eI4 => ?_)
  have WI4 := Vh5 I4 eI4
  refine e_aload_n dX8_adds_31 rfl ?_
  refine e_getr dX8_adds_32 fO_8_109 (by decide) (gs_80 hg) rfl cu ?_
  refine e_getr dX8_adds_35 fO_8_128 (mt_pos hu) (mt_s0 hg hu) rfl (mt_p3 hg hu) ?_
  refine e_iload_n dX8_adds_38 rfl ?_
  refine e_aload_n dX8_adds_39 rfl ?_
  refine e_geti dX8_adds_40 fO_8_106 (by decide) (gs_80 hg) rfl ?_
  obtain ⟨h7, Vh7⟩ := WI4
  refine e_iast dX8_adds_43 (Nat.succ_pos _) (mt_s3 hg hu) h7.1 h7.2 ?_
  refine e_mem (fun I6 eI6 => ?_)
  have WI6 := Vh7 I6 eI6
  refine e_aload_n dX8_adds_44 rfl ?_
  refine e_getr dX8_adds_45 fO_8_109 (by decide) (gs_80 hg) rfl cu ?_
  refine e_getr dX8_adds_48 fO_8_131 (mt_pos hu) (mt_s0 hg hu) rfl (mt_p7 hg hu) ?_
  refine e_iload_n dX8_adds_51 rfl ?_
  refine e_iload_n dX8_adds_52 rfl ?_
  obtain ⟨h9, Vh9⟩ := WI6
  refine e_iast dX8_adds_53 (Nat.succ_pos _) (mt_s7 hg hu) h9.1 h9.2 ?_
  refine e_mem (fun I8 eI8 => ?_)
  have WI8 := Vh9 I8 eI8
  refine e_aload_n dX8_adds_54 rfl ?_
  refine e_getr dX8_adds_55 fO_8_109 (by decide) (gs_80 hg) rfl cu ?_
  refine e_getr dX8_adds_58 fO_8_134 (mt_pos hu) (mt_s0 hg hu) rfl (mt_p6 hg hu) ?_
  refine e_iload_n dX8_adds_61 rfl ?_
  refine e_iconst dX8_adds_62 ⟨by decide, by decide⟩ ?_
  obtain ⟨h11, Vh11⟩ := WI8
  refine e_iast dX8_adds_63 (Nat.succ_pos _) (mt_s6 hg hu) h11.1 h11.2 ?_
  refine e_mem (fun I10 eI10 => ?_)
  have WI10 := Vh11 I10 eI10
  refine e_aload_n dX8_adds_64 rfl ?_
  refine e_getr dX8_adds_65 fO_8_109 (by decide) (gs_80 hg) rfl cu ?_
  refine e_getr dX8_adds_68 fO_8_137 (mt_pos hu) (mt_s0 hg hu) rfl (mt_p9 hg hu) ?_
  refine e_iload_n dX8_adds_71 rfl ?_
  refine e_iconst dX8_adds_72 ⟨by decide, by decide⟩ ?_
  obtain ⟨h13, Vh13⟩ := WI10
  refine e_zast dX8_adds_73 (Nat.succ_pos _) (mt_s9 hg hu) h13.1 h13.2 (by decide) ?_
  refine e_mem (fun I12 eI12 => ?_)
  have WI12 := Vh13 I12 eI12
  refine e_aload_n dX8_adds_74 rfl ?_
  refine e_getr dX8_adds_75 fO_8_109 (by decide) (gs_80 hg) rfl cu ?_
  refine e_getr dX8_adds_78 fO_8_140 (mt_pos hu) (mt_s0 hg hu) rfl (mt_p8 hg hu) ?_
  refine e_iload_n dX8_adds_81 rfl ?_
  refine e_iconst dX8_adds_82 ⟨by decide, by decide⟩ ?_
  obtain ⟨h15, Vh15⟩ := WI12
  refine e_iast dX8_adds_83 (Nat.succ_pos _) (mt_s8 hg hu) h15.1 h15.2 ?_
  refine e_mem (fun I14 eI14 => ?_)
  have WI14 := Vh15 I14 eI14
  refine e_iload_n dX8_adds_84 rfl ?_
  refine e_iconst dX8_adds_85 ⟨by decide, by decide⟩ ?_
  refine e_ic_eq (tgt := 102) dX8_adds_86 (by decide) (fun c16 => ?_) (fun c16 => ?_)
  · have Ac16 := WI14.1 c16
    refine e_iload_n dX8_adds_102 rfl ?_
    exact e_iret dX8_adds_103 rfl (by rw [Ac16.1, Ac16.2])
  · have Bc16 := WI14.2 c16
    refine e_aload_n dX8_adds_89 rfl ?_
    refine e_getr dX8_adds_90 fO_8_109 (by decide) (gs_80 hg) rfl cu ?_
    refine e_getr dX8_adds_93 fO_8_134 (mt_pos hu) (mt_s0 hg hu) rfl (mt_p6 hg hu) ?_
    refine e_iload_n dX8_adds_96 rfl ?_
    refine e_dup2 dX8_adds_97 ?_
    obtain ⟨h17, Vh17⟩ := Bc16
    refine e_iald dX8_adds_98 (Nat.succ_pos _) (mt_s6 hg hu) h17.1 h17.2 ?_
    refine e_iconst dX8_adds_99 ⟨by decide, by decide⟩ ?_
    obtain ⟨h18, Vh18⟩ := Vh17
    refine e_iadd dX8_adds_100 h18 ?_
    obtain ⟨h20, Vh20⟩ := Vh18
    refine e_iast dX8_adds_101 (Nat.succ_pos _) (mt_s6 hg hu) h20.1 h20.2 ?_
    refine e_mem (fun I19 eI19 => ?_)
    have WI19 := Vh20 I19 eI19
    refine e_iload_n dX8_adds_102 rfl ?_
    exact e_iret dX8_adds_103 rfl (by rw [WI19.1, WI19.2])
set_option maxRecDepth 100000 in
set_option maxHeartbeats 4000000 in
theorem v_X8_opens_0 {Γ : GX} {g : AG} {I J : Nat → Nat → Int} {r : Option AV} (hg : GOk g) 
    (V : ((¬ ((I 80 16) = 12)) → (inR ((I 80 16) + 1) ∧ (∀ I3 : Nat → Nat → Int, I3 = mset I 80 16 ((I 80 16) + 1) → (inR ((I3 80 14) + 1) ∧ (∀ I5 : Nat → Nat → Int, I5 = mset I3 80 14 ((I3 80 14) + 1) → (r = some (.inl 1) ∧ J = I5)))))) ∧ ((((I 80 16) = 12)) → (∃ (r8 : Int) (J6 : Nat → Nat → Int), CT Γ 0 mX8_wrong [.inr (some 80)] (g, I) (some (.inl r8), (g, J6)) ∧ ((r8 = 0 ∨ r8 = 1) ∧ r = some (.inl r8) ∧ J = J6)))) : Ev Γ 1 mX8_opens 0 [some (.inr (some 80))] [] (g, I) (r, (g, J)) := by
  refine e_aload_n dX8_opens_0 rfl ?_
  refine e_geti dX8_opens_1 fO_8_143 (by decide) (gs_80 hg) rfl ?_
  refine e_bipush dX8_opens_4 (by decide) ⟨by decide, by decide⟩ ?_
  refine e_ic_ne (tgt := 14) dX8_opens_6 (by decide) (fun c1 => ?_) (fun c1 => ?_)
  · have Ac1 := V.1 c1
    refine e_aload_n dX8_opens_14 rfl ?_
    refine e_dup dX8_opens_15 ?_
    refine e_geti dX8_opens_16 fO_8_143 (by decide) (gs_80 hg) rfl ?_
    refine e_iconst dX8_opens_19 ⟨by decide, by decide⟩ ?_
    obtain ⟨h2, Vh2⟩ := Ac1
    refine e_iadd dX8_opens_20 h2 ?_
    refine e_puti dX8_opens_21 fO_8_143 (by decide) (gs_80 hg) rfl rfl ?_
    refine e_mem (fun I3 eI3 => ?_)
    have WI3 := Vh2 I3 eI3
    refine e_aload_n dX8_opens_24 rfl ?_
    refine e_dup dX8_opens_25 ?_
    refine e_geti dX8_opens_26 fO_8_106 (by decide) (gs_80 hg) rfl ?_
    refine e_iconst dX8_opens_29 ⟨by decide, by decide⟩ ?_
    obtain ⟨h4, Vh4⟩ := WI3
    refine e_iadd dX8_opens_30 h4 ?_
    refine e_puti dX8_opens_31 fO_8_106 (by decide) (gs_80 hg) rfl rfl ?_
    refine e_mem (fun I5 eI5 => ?_)
    have WI5 := Vh4 I5 eI5
    refine e_iconst dX8_opens_34 ⟨by decide, by decide⟩ ?_
    exact e_zret dX8_opens_35 rfl (by decide) (by rw [WI5.1, WI5.2])
  · have Bc1 := V.2 c1
    refine e_aload_n dX8_opens_9 rfl ?_
    obtain ⟨r8, J6, h7, Vh7⟩ := Bc1
    refine e_callv (av := []) (st := []) dX8_opens_10 cO_8_146 oX8_wrong rfl (by decide) (gs_80 hg) rfl (Nat.le_of_ble_eq_true rfl) (by decide) h7 (Nat.le_refl _) (Nat.le_refl _) rfl rfl ?_
    exact e_zret dX8_opens_13 rfl Vh7.1 (by rw [Vh7.2.1, Vh7.2.2])
set_option maxRecDepth 100000 in
set_option maxHeartbeats 4000000 in
theorem v_X8_lettered_0 {Γ : GX} {g : AG} {I J : Nat → Nat → Int} {r : Option AV} (hg : GOk g) (x1 : Int) (x2 : Int) (u : Nat) (hu : Mt u) (cu : g.2.1 80 12 = some u)
    (V : ∀ y1 : Int, y1 = (I 80 14) → (inR ((I 80 14) + 1) ∧ (∀ I3 : Nat → Nat → Int, I3 = mset I 80 14 ((I 80 14) + 1) → (((((I3 u 1) ≤ (I3 80 14))) → (Ev Γ 1 mX8_lettered 51 [some (.inr (some 80)), some (.inl x1), some (.inl x2), some (.inl y1), some (.inl (-1)), none, none] [] (g, I3) (r, (g, J)))) ∧ ((¬ ((I3 u 1) ≤ (I3 80 14))) → (((0 : Int) ≤ (I3 80 14) ∧ ((I3 80 14) : Int) < 240) ∧ (∀ y6 : Int, y6 = (bAnd (I3 (u + 1) (I3 80 14).toNat) 255) → (Ev Γ 1 mX8_lettered 51 [some (.inr (some 80)), some (.inl x1), some (.inl x2), some (.inl y1), some (.inl y6), none, none] [] (g, I3) (r, (g, J)))))))))) : Ev Γ 1 mX8_lettered 0 [some (.inr (some 80)), some (.inl x1), some (.inl x2), none, none, none, none] [] (g, I) (r, (g, J)) := by
  refine e_aload_n dX8_lettered_0 rfl ?_
  refine e_geti dX8_lettered_1 fO_8_106 (by decide) (gs_80 hg) rfl ?_
  refine e_top (fun y1 ey1 => ?_)
  have Wy1 := V y1 ey1
  refine e_istore_n dX8_lettered_4 (by decide) (ls' := [some (.inr (some 80)), some (.inl x1), some (.inl x2), some (.inl y1), none, none, none]) rfl ?_
  refine e_aload_n dX8_lettered_5 rfl ?_
  refine e_dup dX8_lettered_6 ?_
  refine e_geti dX8_lettered_7 fO_8_106 (by decide) (gs_80 hg) rfl ?_
  refine e_iconst dX8_lettered_10 ⟨by decide, by decide⟩ ?_
  obtain ⟨h2, Vh2⟩ := Wy1
  refine e_iadd dX8_lettered_11 h2 ?_
  refine e_puti dX8_lettered_12 fO_8_106 (by decide) (gs_80 hg) rfl rfl ?_
  refine e_mem (fun I3 eI3 => ?_)
  have WI3 := Vh2 I3 eI3
  refine e_aload_n dX8_lettered_15 rfl ?_
  refine e_geti dX8_lettered_16 fO_8_106 (by decide) (gs_80 hg) rfl ?_
  refine e_aload_n dX8_lettered_19 rfl ?_
  refine e_getr dX8_lettered_20 fO_8_109 (by decide) (gs_80 hg) rfl cu ?_
  refine e_geti dX8_lettered_23 fO_8_112 (mt_pos hu) (mt_s0 hg hu) rfl ?_
  refine e_ic_ge (tgt := 48) dX8_lettered_26 (by decide) (fun c4 => ?_) (fun c4 => ?_)
  · have Ac4 := WI3.1 c4
    refine e_iconst dX8_lettered_48 ⟨by decide, by decide⟩ ?_
    refine e_istore dX8_lettered_49 (by decide) (ls' := [some (.inr (some 80)), some (.inl x1), some (.inl x2), some (.inl y1), some (.inl (-1)), none, none]) rfl ?_
    exact Ac4
  · have Bc4 := WI3.2 c4
    refine e_aload_n dX8_lettered_29 rfl ?_
    refine e_getr dX8_lettered_30 fO_8_109 (by decide) (gs_80 hg) rfl cu ?_
    refine e_getr dX8_lettered_33 fO_8_113 (mt_pos hu) (mt_s0 hg hu) rfl (mt_p1 hg hu) ?_
    refine e_aload_n dX8_lettered_36 rfl ?_
    refine e_geti dX8_lettered_37 fO_8_106 (by decide) (gs_80 hg) rfl ?_
    obtain ⟨h5, Vh5⟩ := Bc4
    refine e_bald dX8_lettered_40 (Nat.succ_pos _) (mt_s1 hg hu) h5.1 h5.2 ?_
    refine e_sipush dX8_lettered_41 (by decide) ⟨by decide, by decide⟩ ?_
    refine e_iand dX8_lettered_44 ?_
    refine e_goto (tgt := 49) dX8_lettered_45 (by decide) ?_
    refine e_top (fun y6 ey6 => ?_)
    have Wy6 := Vh5 y6 ey6
    refine e_istore dX8_lettered_49 (by decide) (ls' := [some (.inr (some 80)), some (.inl x1), some (.inl x2), some (.inl y1), some (.inl y6), none, none]) rfl ?_
    exact Wy6
set_option maxRecDepth 100000 in
set_option maxHeartbeats 4000000 in
theorem v_X8_lettered_51 {Γ : GX} {g : AG} {I J : Nat → Nat → Int} {r : Option AV} (hg : GOk g) (x1 : Int) (x2 : Int) (x3 : Int) (x4 : Int)
    (V : ∃ (r3 : Int) (J1 : Nat → Nat → Int), CT Γ 0 mX8_isSmall [.inl x4] (g, I) (some (.inl r3), (g, J1)) ∧ (((¬ (r3 = 0)) → (inR (x4 - 97) ∧ (∀ y6 : Int, y6 = (x4 - 97) → (∀ I7 : Nat → Nat → Int, I7 = mset J1 80 14 x3 → (((0 : Int) ≤ y6 ∧ (y6 : Int) < 26) ∧ (((((I7 135 y6.toNat) = (-1))) → (Ev Γ 1 mX8_lettered 103 [some (.inr (some 80)), some (.inl x1), some (.inl x2), none, none, some (.inl y6), none] [] (g, I7) (r, (g, J)))) ∧ ((¬ ((I7 135 y6.toNat) = (-1))) → (((0 : Int) ≤ y6 ∧ (y6 : Int) < 26) ∧ (((((I7 135 y6.toNat) = x1)) → (Ev Γ 1 mX8_lettered 103 [some (.inr (some 80)), some (.inl x1), some (.inl x2), none, none, some (.inl y6), none] [] (g, I7) (r, (g, J)))) ∧ ((¬ ((I7 135 y6.toNat) = x1)) → (∃ (r14 : Int) (J12 : Nat → Nat → Int), CT Γ 0 mX8_wrong [.inr (some 80)] (g, I7) (some (.inl r14), (g, J12)) ∧ ((r14 = 0 ∨ r14 = 1) ∧ r = some (.inl r14) ∧ J = J12)))))))))))) ∧ (((r3 = 0)) → (∃ (r17 : Int) (J15 : Nat → Nat → Int), CT Γ 0 mX8_wrong [.inr (some 80)] (g, J1) (some (.inl r17), (g, J15)) ∧ ((r17 = 0 ∨ r17 = 1) ∧ r = some (.inl r17) ∧ J = J15))))) : Ev Γ 1 mX8_lettered 51 [some (.inr (some 80)), some (.inl x1), some (.inl x2), some (.inl x3), some (.inl x4), none, none] [] (g, I) (r, (g, J)) := by
  refine e_iload dX8_lettered_51 rfl ?_
  obtain ⟨r3, J1, h2, Vh2⟩ := V
  refine e_calls (av := [.inl x4]) (st := []) dX8_lettered_53 cO_8_116 oX8_isSmall rfl rfl (Nat.le_of_ble_eq_true rfl) (by decide) h2 (Nat.le_refl _) (Nat.le_refl _) rfl rfl ?_
  refine e_if_ne (tgt := 64) dX8_lettered_56 (by decide) (fun c4 => ?_) (fun c4 => ?_)
  · have Ac4 := Vh2.1 c4
    refine e_iload dX8_lettered_64 rfl ?_
    refine e_bipush dX8_lettered_66 (by decide) ⟨by decide, by decide⟩ ?_
    obtain ⟨h5, Vh5⟩ := Ac4
    refine e_isub dX8_lettered_68 h5 ?_
    refine e_top (fun y6 ey6 => ?_)
    have Wy6 := Vh5 y6 ey6
    refine e_istore dX8_lettered_69 (by decide) (ls' := [some (.inr (some 80)), some (.inl x1), some (.inl x2), some (.inl x3), some (.inl x4), some (.inl y6), none]) rfl ?_
    refine e_aload_n dX8_lettered_71 rfl ?_
    refine e_iload_n dX8_lettered_72 rfl ?_
    refine e_puti dX8_lettered_73 fO_8_106 (by decide) (gs_80 hg) rfl rfl ?_
    refine e_mem (fun I7 eI7 => ?_)
    have WI7 := Wy6 I7 eI7
    refine e_aload_n dX8_lettered_76 rfl ?_
    refine e_getr dX8_lettered_77 fO_8_43 (by decide) (gs_80 hg) rfl (gp_80_20 hg) ?_
    refine e_iload dX8_lettered_80 rfl ?_
    obtain ⟨h8, Vh8⟩ := WI7
    refine e_iald dX8_lettered_82 (by decide) (gs_135 hg) h8.1 h8.2 ?_
    refine e_iconst dX8_lettered_83 ⟨by decide, by decide⟩ ?_
    refine e_ic_eq (tgt := 103) dX8_lettered_84 (by decide) (fun c9 => ?_) (fun c9 => ?_)
    · have Ac9 := Vh8.1 c9
      refine ev_drop (ls' := [some (.inr (some 80)), some (.inl x1), some (.inl x2), none, some (.inl x4), some (.inl y6), none]) 3 rfl ?_
      refine ev_drop (ls' := [some (.inr (some 80)), some (.inl x1), some (.inl x2), none, none, some (.inl y6), none]) 4 rfl ?_
      exact Ac9
    · have Bc9 := Vh8.2 c9
      refine e_aload_n dX8_lettered_87 rfl ?_
      refine e_getr dX8_lettered_88 fO_8_43 (by decide) (gs_80 hg) rfl (gp_80_20 hg) ?_
      refine e_iload dX8_lettered_91 rfl ?_
      obtain ⟨h10, Vh10⟩ := Bc9
      refine e_iald dX8_lettered_93 (by decide) (gs_135 hg) h10.1 h10.2 ?_
      refine e_iload_n dX8_lettered_94 rfl ?_
      refine e_ic_eq (tgt := 103) dX8_lettered_95 (by decide) (fun c11 => ?_) (fun c11 => ?_)
      · have Ac11 := Vh10.1 c11
        refine ev_drop (ls' := [some (.inr (some 80)), some (.inl x1), some (.inl x2), none, some (.inl x4), some (.inl y6), none]) 3 rfl ?_
        refine ev_drop (ls' := [some (.inr (some 80)), some (.inl x1), some (.inl x2), none, none, some (.inl y6), none]) 4 rfl ?_
        exact Ac11
      · have Bc11 := Vh10.2 c11
        refine e_aload_n dX8_lettered_98 rfl ?_
        obtain ⟨r14, J12, h13, Vh13⟩ := Bc11
        refine e_callv (av := []) (st := []) dX8_lettered_99 cO_8_146 oX8_wrong rfl (by decide) (gs_80 hg) rfl (Nat.le_of_ble_eq_true rfl) (by decide) h13 (Nat.le_refl _) (Nat.le_refl _) rfl rfl ?_
        exact e_zret dX8_lettered_102 rfl Vh13.1 (by rw [Vh13.2.1, Vh13.2.2])
  · have Bc4 := Vh2.2 c4
    refine e_aload_n dX8_lettered_59 rfl ?_
    obtain ⟨r17, J15, h16, Vh16⟩ := Bc4
    refine e_callv (av := []) (st := []) dX8_lettered_60 cO_8_146 oX8_wrong rfl (by decide) (gs_80 hg) rfl (Nat.le_of_ble_eq_true rfl) (by decide) h16 (Nat.le_refl _) (Nat.le_refl _) rfl rfl ?_
    exact e_zret dX8_lettered_63 rfl Vh16.1 (by rw [Vh16.2.1, Vh16.2.2])
set_option maxRecDepth 100000 in
set_option maxHeartbeats 4000000 in
theorem v_X8_lettered_103 {Γ : GX} {g : AG} {I J : Nat → Nat → Int} {r : Option AV} (hg : GOk g) (x1 : Int) (x2 : Int) (x5 : Int) (u : Nat) (hu : Mt u) (cu : g.2.1 80 12 = some u)
    (V : ((0 : Int) ≤ x5 ∧ (x5 : Int) < 26) ∧ (∀ I1 : Nat → Nat → Int, I1 = mset I 135 x5.toNat x1 → (∃ (r5 : Int) (J3 : Nat → Nat → Int), CT Γ 0 mX8_adds [.inr (some 80), .inl x1, .inl x2] (g, I1) (some (.inl r5), (g, J3)) ∧ (((0 : Int) ≤ r5 ∧ (r5 : Int) < 240) ∧ (∀ I6 : Nat → Nat → Int, I6 = mset J3 (u + 8) r5.toNat x5 → (inR ((I6 80 14) + 2) ∧ (∀ I9 : Nat → Nat → Int, I9 = mset I6 80 14 ((I6 80 14) + 2) → (((0 : Int) ≤ r5 ∧ (r5 : Int) < 240) ∧ (∀ I10 : Nat → Nat → Int, I10 = mset I9 (u + 4) r5.toNat (I9 80 14) → (r = some (.inl 1) ∧ J = I10)))))))))) : Ev Γ 1 mX8_lettered 103 [some (.inr (some 80)), some (.inl x1), some (.inl x2), none, none, some (.inl x5), none] [] (g, I) (r, (g, J)) := by
  refine e_aload_n dX8_lettered_103 rfl ?_
  refine e_getr dX8_lettered_104 fO_8_43 (by decide) (gs_80 hg) rfl (gp_80_20 hg) ?_
  refine e_iload dX8_lettered_107 rfl ?_
  refine e_iload_n dX8_lettered_109 rfl ?_
  obtain ⟨h2, Vh2⟩ := V
  refine e_iast dX8_lettered_110 (by decide) (gs_135 hg) h2.1 h2.2 ?_
  refine e_mem (fun I1 eI1 => ?_)
  have WI1 := Vh2 I1 eI1
  refine e_aload_n dX8_lettered_111 rfl ?_
  refine e_iload_n dX8_lettered_112 rfl ?_
  refine e_iload_n dX8_lettered_113 rfl ?_
  obtain ⟨r5, J3, h4, Vh4⟩ := WI1
  refine e_callv (av := [.inl x1, .inl x2]) (st := []) dX8_lettered_114 cO_8_150 oX8_adds rfl (by decide) (gs_80 hg) rfl (Nat.le_of_ble_eq_true rfl) (by decide) h4 (Nat.le_refl _) (Nat.le_refl _) rfl rfl ?_
  refine e_istore dX8_lettered_117 (by decide) (ls' := [some (.inr (some 80)), some (.inl x1), some (.inl x2), none, none, some (.inl x5), some (.inl r5)]) rfl ?_
  refine e_aload_n dX8_lettered_119 rfl ?_
  refine e_getr dX8_lettered_120 fO_8_109 (by decide) (gs_80 hg) rfl cu ?_
  refine e_getr dX8_lettered_123 fO_8_140 (mt_pos hu) (mt_s0 hg hu) rfl (mt_p8 hg hu) ?_
  refine e_iload dX8_lettered_126 rfl ?_
  refine e_iload dX8_lettered_128 rfl ?_
  obtain ⟨h7, Vh7⟩ := Vh4
  refine e_iast dX8_lettered_130 (Nat.succ_pos _) (mt_s8 hg hu) h7.1 h7.2 ?_
  refine e_mem (fun I6 eI6 => ?_)
  have WI6 := Vh7 I6 eI6
  refine e_aload_n dX8_lettered_131 rfl ?_
  refine e_dup dX8_lettered_132 ?_
  refine e_geti dX8_lettered_133 fO_8_106 (by decide) (gs_80 hg) rfl ?_
  refine e_iconst dX8_lettered_136 ⟨by decide, by decide⟩ ?_
  obtain ⟨h8, Vh8⟩ := WI6
  refine e_iadd dX8_lettered_137 h8 ?_
  refine e_puti dX8_lettered_138 fO_8_106 (by decide) (gs_80 hg) rfl rfl ?_
  refine e_mem (fun I9 eI9 => ?_)
  have WI9 := Vh8 I9 eI9
  refine e_aload_n dX8_lettered_141 rfl ?_
  refine e_getr dX8_lettered_142 fO_8_109 (by decide) (gs_80 hg) rfl cu ?_
  refine e_getr dX8_lettered_145 fO_8_154 (mt_pos hu) (mt_s0 hg hu) rfl (mt_p4 hg hu) ?_
  refine e_iload dX8_lettered_148 rfl ?_
  refine e_aload_n dX8_lettered_150 rfl ?_
  refine e_geti dX8_lettered_151 fO_8_106 (by decide) (gs_80 hg) rfl ?_
  obtain ⟨h11, Vh11⟩ := WI9
  refine e_iast dX8_lettered_154 (Nat.succ_pos _) (mt_s4 hg hu) h11.1 h11.2 ?_
  refine e_mem (fun I10 eI10 => ?_)
  have WI10 := Vh11 I10 eI10
  refine e_iconst dX8_lettered_155 ⟨by decide, by decide⟩ ?_
  exact e_zret dX8_lettered_156 rfl (by decide) (by rw [WI10.1, WI10.2])
set_option maxRecDepth 100000 in
set_option maxHeartbeats 4000000 in
theorem v_X8_piece_0 {Γ : GX} {g : AG} {I J : Nat → Nat → Int} {r : Option AV} {d : Nat} (hd : 1 ≤ d) (hg : GOk g) (x1 : Int) (x2 : Int)
    (V : ∃ (r3 : Int) (J1 : Nat → Nat → Int), CT Γ 0 mX8_look [.inr (some 80)] (g, I) (some (.inl r3), (g, J1)) ∧ (∃ (r6 : Int) (J4 : Nat → Nat → Int), CT Γ 1 mX8_isAtom [.inl r3] (g, J1) (some (.inl r6), (g, J4)) ∧ ((((r6 = 0)) → (((((J4 80 13) = 0)) → (Ev Γ (d + 1) mX8_piece 38 [some (.inr (some 80)), some (.inl x1), some (.inl x2), some (.inl r3), none] [] (g, J4) (r, (g, J)))) ∧ ((¬ ((J4 80 13) = 0)) → (((¬ (r3 = 63)) → (Ev Γ (d + 1) mX8_piece 38 [some (.inr (some 80)), some (.inl x1), some (.inl x2), some (.inl r3), none] [] (g, J4) (r, (g, J)))) ∧ (((r3 = 63)) → (∃ (r12 : Int) (J10 : Nat → Nat → Int), CT Γ 1 mX8_lettered [.inr (some 80), .inl 1, .inl x1] (g, J4) (some (.inl r12), (g, J10)) ∧ ((r12 = 0 ∨ r12 = 1) ∧ r = some (.inl r12) ∧ J = J10))))))) ∧ ((¬ (r6 = 0)) → (∃ (r15 : Int) (J13 : Nat → Nat → Int), CT Γ d mX8_term [.inr (some 80), .inl x1] (g, J4) (some (.inl r15), (g, J13)) ∧ ((r15 = 0 ∨ r15 = 1) ∧ r = some (.inl r15) ∧ J = J13)))))) : Ev Γ (d + 1) mX8_piece 0 [some (.inr (some 80)), some (.inl x1), some (.inl x2), none, none] [] (g, I) (r, (g, J)) := by
  refine e_aload_n dX8_piece_0 rfl ?_
  obtain ⟨r3, J1, h2, Vh2⟩ := V
  refine e_callv (av := []) (st := []) dX8_piece_1 cO_8_157 oX8_look rfl (by decide) (gs_80 hg) rfl (Nat.le_of_ble_eq_true rfl) (by omega) h2 (Nat.le_refl _) (Nat.le_refl _) rfl rfl ?_
  refine e_istore_n dX8_piece_4 (by decide) (ls' := [some (.inr (some 80)), some (.inl x1), some (.inl x2), some (.inl r3), none]) rfl ?_
  refine e_iload_n dX8_piece_5 rfl ?_
  obtain ⟨r6, J4, h5, Vh5⟩ := Vh2
  refine e_calls (av := [.inl r3]) (st := []) dX8_piece_6 cO_8_161 oX8_isAtom rfl rfl (Nat.le_of_ble_eq_true rfl) (by omega) h5 (Nat.le_refl _) (Nat.le_refl _) rfl rfl ?_
  refine e_if_eq (tgt := 18) dX8_piece_9 (by decide) (fun c7 => ?_) (fun c7 => ?_)
  · have Ac7 := Vh5.1 c7
    refine e_aload_n dX8_piece_18 rfl ?_
    refine e_geti dX8_piece_19 fO_8_167 (by decide) (gs_80 hg) rfl ?_
    refine e_if_eq (tgt := 38) dX8_piece_22 (by decide) (fun c8 => ?_) (fun c8 => ?_)
    · have Ac8 := Ac7.1 c8
      exact Ac8
    · have Bc8 := Ac7.2 c8
      refine e_iload_n dX8_piece_25 rfl ?_
      refine e_bipush dX8_piece_26 (by decide) ⟨by decide, by decide⟩ ?_
      refine e_ic_ne (tgt := 38) dX8_piece_28 (by decide) (fun c9 => ?_) (fun c9 => ?_)
      · have Ac9 := Bc8.1 c9
        exact Ac9
      · have Bc9 := Bc8.2 c9
        refine e_aload_n dX8_piece_31 rfl ?_
        refine e_iconst dX8_piece_32 ⟨by decide, by decide⟩ ?_
        refine e_iload_n dX8_piece_33 rfl ?_
        obtain ⟨r12, J10, h11, Vh11⟩ := Bc9
        refine e_callv (av := [.inl 1, .inl x1]) (st := []) dX8_piece_34 cO_8_170 oX8_lettered rfl (by decide) (gs_80 hg) rfl (Nat.le_of_ble_eq_true rfl) (by omega) h11 (Nat.le_refl _) (Nat.le_refl _) rfl rfl ?_
        exact e_zret dX8_piece_37 rfl Vh11.1 (by rw [Vh11.2.1, Vh11.2.2])
  · have Bc7 := Vh5.2 c7
    refine e_aload_n dX8_piece_12 rfl ?_
    refine e_iload_n dX8_piece_13 rfl ?_
    obtain ⟨r15, J13, h14, Vh14⟩ := Bc7
    refine e_callv (av := [.inl x1]) (st := []) dX8_piece_14 cO_8_164 oX8_term rfl (by decide) (gs_80 hg) rfl (Nat.le_of_ble_eq_true rfl) (by omega) h14 (Nat.le_refl _) (Nat.le_refl _) rfl rfl ?_
    exact e_zret dX8_piece_17 rfl Vh14.1 (by rw [Vh14.2.1, Vh14.2.2])
set_option maxRecDepth 100000 in
set_option maxHeartbeats 4000000 in
theorem v_X8_piece_38 {Γ : GX} {g : AG} {I J : Nat → Nat → Int} {r : Option AV} {d : Nat} (hd : 1 ≤ d) (hg : GOk g) (x1 : Int) (x2 : Int) (x3 : Int)
    (V : ((((I 80 13) = 0)) → (Ev Γ (d + 1) mX8_piece 100 [some (.inr (some 80)), some (.inl x1), none, some (.inl x3), none] [] (g, I) (r, (g, J)))) ∧ ((¬ ((I 80 13) = 0)) → (((¬ (x3 = 42)) → (Ev Γ (d + 1) mX8_piece 100 [some (.inr (some 80)), some (.inl x1), none, some (.inl x3), none] [] (g, I) (r, (g, J)))) ∧ (((x3 = 42)) → ((((x2 = 0)) → (Ev Γ (d + 1) mX8_piece 100 [some (.inr (some 80)), some (.inl x1), none, some (.inl x3), none] [] (g, I) (r, (g, J)))) ∧ ((¬ (x2 = 0)) → (((¬ ((I 80 13) = 1)) → (Ev Γ (d + 1) mX8_piece 83 [some (.inr (some 80)), some (.inl x1), none, none, none] [] (g, I) (r, (g, J)))) ∧ ((((I 80 13) = 1)) → (((¬ ((I 80 19) = 0)) → (Ev Γ (d + 1) mX8_piece 78 [some (.inr (some 80)), none, none, none, none] [] (g, I) (r, (g, J)))) ∧ ((((I 80 19) = 0)) → (((¬ ((I 80 17) = 2)) → (Ev Γ (d + 1) mX8_piece 83 [some (.inr (some 80)), some (.inl x1), none, none, none] [] (g, I) (r, (g, J)))) ∧ ((((I 80 17) = 2)) → (Ev Γ (d + 1) mX8_piece 78 [some (.inr (some 80)), none, none, none, none] [] (g, I) (r, (g, J))))))))))))))) : Ev Γ (d + 1) mX8_piece 38 [some (.inr (some 80)), some (.inl x1), some (.inl x2), some (.inl x3), none] [] (g, I) (r, (g, J)) := by
  refine e_aload_n dX8_piece_38 rfl ?_
  refine e_geti dX8_piece_39 fO_8_167 (by decide) (gs_80 hg) rfl ?_
  refine e_if_eq (tgt := 100) dX8_piece_42 (by decide) (fun c1 => ?_) (fun c1 => ?_)
  · have Ac1 := V.1 c1
    refine ev_drop (ls' := [some (.inr (some 80)), some (.inl x1), none, some (.inl x3), none]) 2 rfl ?_
    exact Ac1
  · have Bc1 := V.2 c1
    refine e_iload_n dX8_piece_45 rfl ?_
    refine e_bipush dX8_piece_46 (by decide) ⟨by decide, by decide⟩ ?_
    refine e_ic_ne (tgt := 100) dX8_piece_48 (by decide) (fun c2 => ?_) (fun c2 => ?_)
    · have Ac2 := Bc1.1 c2
      refine ev_drop (ls' := [some (.inr (some 80)), some (.inl x1), none, some (.inl x3), none]) 2 rfl ?_
      exact Ac2
    · have Bc2 := Bc1.2 c2
      refine e_iload_n dX8_piece_51 rfl ?_
      refine e_if_eq (tgt := 100) dX8_piece_52 (by decide) (fun c3 => ?_) (fun c3 => ?_)
      · have Ac3 := Bc2.1 c3
        refine ev_drop (ls' := [some (.inr (some 80)), some (.inl x1), none, some (.inl x3), none]) 2 rfl ?_
        exact Ac3
      · have Bc3 := Bc2.2 c3
        refine e_aload_n dX8_piece_55 rfl ?_
        refine e_geti dX8_piece_56 fO_8_167 (by decide) (gs_80 hg) rfl ?_
        refine e_iconst dX8_piece_59 ⟨by decide, by decide⟩ ?_
        refine e_ic_ne (tgt := 83) dX8_piece_60 (by decide) (fun c4 => ?_) (fun c4 => ?_)
        · have Ac4 := Bc3.1 c4
          refine ev_drop (ls' := [some (.inr (some 80)), some (.inl x1), none, some (.inl x3), none]) 2 rfl ?_
          refine ev_drop (ls' := [some (.inr (some 80)), some (.inl x1), none, none, none]) 3 rfl ?_
          exact Ac4
        · have Bc4 := Bc3.2 c4
          refine e_aload_n dX8_piece_63 rfl ?_
          refine e_geti dX8_piece_64 fO_8_174 (by decide) (gs_80 hg) rfl ?_
          refine e_if_ne (tgt := 78) dX8_piece_67 (by decide) (fun c5 => ?_) (fun c5 => ?_)
          · have Ac5 := Bc4.1 c5
            refine ev_drop (ls' := [some (.inr (some 80)), none, some (.inl x2), some (.inl x3), none]) 1 rfl ?_
            refine ev_drop (ls' := [some (.inr (some 80)), none, none, some (.inl x3), none]) 2 rfl ?_
            refine ev_drop (ls' := [some (.inr (some 80)), none, none, none, none]) 3 rfl ?_
            exact Ac5
          · have Bc5 := Bc4.2 c5
            refine e_aload_n dX8_piece_70 rfl ?_
            refine e_geti dX8_piece_71 fO_8_178 (by decide) (gs_80 hg) rfl ?_
            refine e_iconst dX8_piece_74 ⟨by decide, by decide⟩ ?_
            refine e_ic_ne (tgt := 83) dX8_piece_75 (by decide) (fun c6 => ?_) (fun c6 => ?_)
            · have Ac6 := Bc5.1 c6
              refine ev_drop (ls' := [some (.inr (some 80)), some (.inl x1), none, some (.inl x3), none]) 2 rfl ?_
              refine ev_drop (ls' := [some (.inr (some 80)), some (.inl x1), none, none, none]) 3 rfl ?_
              exact Ac6
            · have Bc6 := Bc5.2 c6
              refine ev_drop (ls' := [some (.inr (some 80)), none, some (.inl x2), some (.inl x3), none]) 1 rfl ?_
              refine ev_drop (ls' := [some (.inr (some 80)), none, none, some (.inl x3), none]) 2 rfl ?_
              refine ev_drop (ls' := [some (.inr (some 80)), none, none, none, none]) 3 rfl ?_
              exact Bc6
set_option maxRecDepth 100000 in
set_option maxHeartbeats 4000000 in
theorem v_X8_piece_100 {Γ : GX} {g : AG} {I J : Nat → Nat → Int} {r : Option AV} {d : Nat} (hd : 1 ≤ d) (hg : GOk g) (x1 : Int) (x3 : Int) (u : Nat) (hu : Mt u) (cu : g.2.1 80 12 = some u)
    (V : ((¬ ((I 80 13) = 1)) → (Ev Γ (d + 1) mX8_piece 250 [some (.inr (some 80)), none, none, none, none] [] (g, I) (r, (g, J)))) ∧ ((((I 80 13) = 1)) → (((¬ (x3 = 64)) → (Ev Γ (d + 1) mX8_piece 250 [some (.inr (some 80)), none, none, none, none] [] (g, I) (r, (g, J)))) ∧ (((x3 = 64)) → (((¬ ((I 80 18) = 1)) → (inR ((I 80 18) + 1) ∧ (∀ I5 : Nat → Nat → Int, I5 = mset I 80 18 ((I 80 18) + 1) → (∃ (r8 : Int) (J6 : Nat → Nat → Int), CT Γ 0 mX8_adds [.inr (some 80), .inl 3, .inl x1] (g, I5) (some (.inl r8), (g, J6)) ∧ (inR ((J6 80 14) + 1) ∧ (∀ I10 : Nat → Nat → Int, I10 = mset J6 80 14 ((J6 80 14) + 1) → (∃ (r13 : Int) (J11 : Nat → Nat → Int), CT Γ 0 mX8_look [.inr (some 80)] (g, I10) (some (.inl r13), (g, J11)) ∧ ((((r13 = 40)) → (∃ (r17 : Int) (J15 : Nat → Nat → Int), CT Γ 1 mX8_opens [.inr (some 80)] (g, J11) (some (.inl r17), (g, J15)) ∧ (((¬ (r17 = 0)) → (∀ I19 : Nat → Nat → Int, I19 = mset J15 80 19 1 → (∃ (r22 : Int) (J20 : Nat → Nat → Int), CT Γ d mX8_piece [.inr (some 80), .inl r8, .inl 0] (g, I19) (some (.inl r22), (g, J20)) ∧ (((¬ (r22 = 0)) → (∀ I24 : Nat → Nat → Int, I24 = mset J20 80 19 0 → (∃ (r27 : Int) (J25 : Nat → Nat → Int), CT Γ 0 mX8_look [.inr (some 80)] (g, I24) (some (.inl r27), (g, J25)) ∧ ((((r27 = 41)) → (inR ((J25 80 16) - 1) ∧ (∀ I30 : Nat → Nat → Int, I30 = mset J25 80 16 ((J25 80 16) - 1) → (inR ((I30 80 14) + 1) ∧ (∀ I32 : Nat → Nat → Int, I32 = mset I30 80 14 ((I30 80 14) + 1) → (((0 : Int) ≤ r8 ∧ (r8 : Int) < 240) ∧ (∀ I33 : Nat → Nat → Int, I33 = mset I32 (u + 4) r8.toNat (I32 80 14) → (r = some (.inl 1) ∧ J = I33)))))))) ∧ ((¬ (r27 = 41)) → (∃ (r37 : Int) (J35 : Nat → Nat → Int), CT Γ 0 mX8_wrong [.inr (some 80)] (g, J25) (some (.inl r37), (g, J35)) ∧ ((r37 = 0 ∨ r37 = 1) ∧ r = some (.inl r37) ∧ J = J35))))))) ∧ (((r22 = 0)) → (r = some (.inl 0) ∧ J = J20)))))) ∧ (((r17 = 0)) → (r = some (.inl 0) ∧ J = J15))))) ∧ ((¬ (r13 = 40)) → (∃ (r40 : Int) (J38 : Nat → Nat → Int), CT Γ 0 mX8_wrong [.inr (some 80)] (g, J11) (some (.inl r40), (g, J38)) ∧ ((r40 = 0 ∨ r40 = 1) ∧ r = some (.inl r40) ∧ J = J38))))))))))) ∧ ((((I 80 18) = 1)) → (∃ (r43 : Int) (J41 : Nat → Nat → Int), CT Γ 0 mX8_wrong [.inr (some 80)] (g, I) (some (.inl r43), (g, J41)) ∧ ((r43 = 0 ∨ r43 = 1) ∧ r = some (.inl r43) ∧ J = J41)))))))) : Ev Γ (d + 1) mX8_piece 100 [some (.inr (some 80)), some (.inl x1), none, some (.inl x3), none] [] (g, I) (r, (g, J)) := by
  refine e_aload_n dX8_piece_100 rfl ?_
  refine e_geti dX8_piece_101 fO_8_167 (by decide) (gs_80 hg) rfl ?_
  refine e_iconst dX8_piece_104 ⟨by decide, by decide⟩ ?_
  refine e_ic_ne (tgt := 250) dX8_piece_105 (by decide) (fun c1 => ?_) (fun c1 => ?_)
  · have Ac1 := V.1 c1
    refine ev_drop (ls' := [some (.inr (some 80)), none, none, some (.inl x3), none]) 1 rfl ?_
    refine ev_drop (ls' := [some (.inr (some 80)), none, none, none, none]) 3 rfl ?_
    exact Ac1
  · have Bc1 := V.2 c1
    refine e_iload_n dX8_piece_108 rfl ?_
    refine e_bipush dX8_piece_109 (by decide) ⟨by decide, by decide⟩ ?_
    refine e_ic_ne (tgt := 250) dX8_piece_111 (by decide) (fun c2 => ?_) (fun c2 => ?_)
    · have Ac2 := Bc1.1 c2
      refine ev_drop (ls' := [some (.inr (some 80)), none, none, some (.inl x3), none]) 1 rfl ?_
      refine ev_drop (ls' := [some (.inr (some 80)), none, none, none, none]) 3 rfl ?_
      exact Ac2
    · have Bc2 := Bc1.2 c2
      refine e_aload_n dX8_piece_114 rfl ?_
      refine e_geti dX8_piece_115 fO_8_181 (by decide) (gs_80 hg) rfl ?_
      refine e_iconst dX8_piece_118 ⟨by decide, by decide⟩ ?_
      refine e_ic_ne (tgt := 127) dX8_piece_119 (by decide) (fun c3 => ?_) (fun c3 => ?_)
      · have Ac3 := Bc2.1 c3
        refine e_aload_n dX8_piece_127 rfl ?_
        refine e_dup dX8_piece_128 ?_
        refine e_geti dX8_piece_129 fO_8_181 (by decide) (gs_80 hg) rfl ?_
        refine e_iconst dX8_piece_132 ⟨by decide, by decide⟩ ?_
        obtain ⟨h4, Vh4⟩ := Ac3
        refine e_iadd dX8_piece_133 h4 ?_
        refine e_puti dX8_piece_134 fO_8_181 (by decide) (gs_80 hg) rfl rfl ?_
        refine e_mem (fun I5 eI5 => ?_)
        have WI5 := Vh4 I5 eI5
        refine e_aload_n dX8_piece_137 rfl ?_
        refine e_iconst dX8_piece_138 ⟨by decide, by decide⟩ ?_
        refine e_iload_n dX8_piece_139 rfl ?_
        obtain ⟨r8, J6, h7, Vh7⟩ := WI5
        refine e_callv (av := [.inl 3, .inl x1]) (st := []) dX8_piece_140 cO_8_150 oX8_adds rfl (by decide) (gs_80 hg) rfl (Nat.le_of_ble_eq_true rfl) (by omega) h7 (Nat.le_refl _) (Nat.le_refl _) rfl rfl ?_
        refine e_istore dX8_piece_143 (by decide) (ls' := [some (.inr (some 80)), some (.inl x1), none, some (.inl x3), some (.inl r8)]) rfl ?_
        refine e_aload_n dX8_piece_145 rfl ?_
        refine e_dup dX8_piece_146 ?_
        refine e_geti dX8_piece_147 fO_8_106 (by decide) (gs_80 hg) rfl ?_
        refine e_iconst dX8_piece_150 ⟨by decide, by decide⟩ ?_
        obtain ⟨h9, Vh9⟩ := Vh7
        refine e_iadd dX8_piece_151 h9 ?_
        refine e_puti dX8_piece_152 fO_8_106 (by decide) (gs_80 hg) rfl rfl ?_
        refine e_mem (fun I10 eI10 => ?_)
        have WI10 := Vh9 I10 eI10
        refine e_aload_n dX8_piece_155 rfl ?_
        obtain ⟨r13, J11, h12, Vh12⟩ := WI10
        refine e_callv (av := []) (st := []) dX8_piece_156 cO_8_157 oX8_look rfl (by decide) (gs_80 hg) rfl (Nat.le_of_ble_eq_true rfl) (by omega) h12 (Nat.le_refl _) (Nat.le_refl _) rfl rfl ?_
        refine e_bipush dX8_piece_159 (by decide) ⟨by decide, by decide⟩ ?_
        refine e_ic_eq (tgt := 169) dX8_piece_161 (by decide) (fun c14 => ?_) (fun c14 => ?_)
        · have Ac14 := Vh12.1 c14
          refine e_aload_n dX8_piece_169 rfl ?_
          obtain ⟨r17, J15, h16, Vh16⟩ := Ac14
          refine e_callv (av := []) (st := []) dX8_piece_170 cO_8_184 oX8_opens rfl (by decide) (gs_80 hg) rfl (Nat.le_of_ble_eq_true rfl) (by omega) h16 (Nat.le_refl _) (Nat.le_refl _) rfl rfl ?_
          refine e_if_ne (tgt := 178) dX8_piece_173 (by decide) (fun c18 => ?_) (fun c18 => ?_)
          · have Ac18 := Vh16.1 c18
            refine e_aload_n dX8_piece_178 rfl ?_
            refine e_iconst dX8_piece_179 ⟨by decide, by decide⟩ ?_
            refine e_putz dX8_piece_180 fO_8_174 (by decide) (gs_80 hg) rfl rfl (by decide) ?_
            refine e_mem (fun I19 eI19 => ?_)
            have WI19 := Ac18 I19 eI19
            refine e_aload_n dX8_piece_183 rfl ?_
            refine e_iload dX8_piece_184 rfl ?_
            refine e_iconst dX8_piece_186 ⟨by decide, by decide⟩ ?_
            obtain ⟨r22, J20, h21, Vh21⟩ := WI19
            refine e_callv (av := [.inl r8, .inl 0]) (st := []) dX8_piece_187 cO_8_187 oX8_piece rfl (by decide) (gs_80 hg) rfl (Nat.le_of_ble_eq_true rfl) (by omega) h21 (Nat.le_refl _) (Nat.le_refl _) rfl rfl ?_
            refine e_if_ne (tgt := 195) dX8_piece_190 (by decide) (fun c23 => ?_) (fun c23 => ?_)
            · have Ac23 := Vh21.1 c23
              refine e_aload_n dX8_piece_195 rfl ?_
              refine e_iconst dX8_piece_196 ⟨by decide, by decide⟩ ?_
              refine e_putz dX8_piece_197 fO_8_174 (by decide) (gs_80 hg) rfl rfl (by decide) ?_
              refine e_mem (fun I24 eI24 => ?_)
              have WI24 := Ac23 I24 eI24
              refine e_aload_n dX8_piece_200 rfl ?_
              obtain ⟨r27, J25, h26, Vh26⟩ := WI24
              refine e_callv (av := []) (st := []) dX8_piece_201 cO_8_157 oX8_look rfl (by decide) (gs_80 hg) rfl (Nat.le_of_ble_eq_true rfl) (by omega) h26 (Nat.le_refl _) (Nat.le_refl _) rfl rfl ?_
              refine e_bipush dX8_piece_204 (by decide) ⟨by decide, by decide⟩ ?_
              refine e_ic_eq (tgt := 214) dX8_piece_206 (by decide) (fun c28 => ?_) (fun c28 => ?_)
              · have Ac28 := Vh26.1 c28
                refine e_aload_n dX8_piece_214 rfl ?_
                refine e_dup dX8_piece_215 ?_
                refine e_geti dX8_piece_216 fO_8_143 (by decide) (gs_80 hg) rfl ?_
                refine e_iconst dX8_piece_219 ⟨by decide, by decide⟩ ?_
                obtain ⟨h29, Vh29⟩ := Ac28
                refine e_isub dX8_piece_220 h29 ?_
                refine e_puti dX8_piece_221 fO_8_143 (by decide) (gs_80 hg) rfl rfl ?_
                refine e_mem (fun I30 eI30 => ?_)
                have WI30 := Vh29 I30 eI30
                refine e_aload_n dX8_piece_224 rfl ?_
                refine e_dup dX8_piece_225 ?_
                refine e_geti dX8_piece_226 fO_8_106 (by decide) (gs_80 hg) rfl ?_
                refine e_iconst dX8_piece_229 ⟨by decide, by decide⟩ ?_
                obtain ⟨h31, Vh31⟩ := WI30
                refine e_iadd dX8_piece_230 h31 ?_
                refine e_puti dX8_piece_231 fO_8_106 (by decide) (gs_80 hg) rfl rfl ?_
                refine e_mem (fun I32 eI32 => ?_)
                have WI32 := Vh31 I32 eI32
                refine e_aload_n dX8_piece_234 rfl ?_
                refine e_getr dX8_piece_235 fO_8_109 (by decide) (gs_80 hg) rfl cu ?_
                refine e_getr dX8_piece_238 fO_8_154 (mt_pos hu) (mt_s0 hg hu) rfl (mt_p4 hg hu) ?_
                refine e_iload dX8_piece_241 rfl ?_
                refine e_aload_n dX8_piece_243 rfl ?_
                refine e_geti dX8_piece_244 fO_8_106 (by decide) (gs_80 hg) rfl ?_
                obtain ⟨h34, Vh34⟩ := WI32
                refine e_iast dX8_piece_247 (Nat.succ_pos _) (mt_s4 hg hu) h34.1 h34.2 ?_
                refine e_mem (fun I33 eI33 => ?_)
                have WI33 := Vh34 I33 eI33
                refine e_iconst dX8_piece_248 ⟨by decide, by decide⟩ ?_
                exact e_zret dX8_piece_249 rfl (by decide) (by rw [WI33.1, WI33.2])
              · have Bc28 := Vh26.2 c28
                refine e_aload_n dX8_piece_209 rfl ?_
                obtain ⟨r37, J35, h36, Vh36⟩ := Bc28
                refine e_callv (av := []) (st := []) dX8_piece_210 cO_8_146 oX8_wrong rfl (by decide) (gs_80 hg) rfl (Nat.le_of_ble_eq_true rfl) (by omega) h36 (Nat.le_refl _) (Nat.le_refl _) rfl rfl ?_
                exact e_zret dX8_piece_213 rfl Vh36.1 (by rw [Vh36.2.1, Vh36.2.2])
            · have Bc23 := Vh21.2 c23
              refine e_iconst dX8_piece_193 ⟨by decide, by decide⟩ ?_
              exact e_zret dX8_piece_194 rfl (by decide) (by rw [Bc23.1, Bc23.2])
          · have Bc18 := Vh16.2 c18
            refine e_iconst dX8_piece_176 ⟨by decide, by decide⟩ ?_
            exact e_zret dX8_piece_177 rfl (by decide) (by rw [Bc18.1, Bc18.2])
        · have Bc14 := Vh12.2 c14
          refine e_aload_n dX8_piece_164 rfl ?_
          obtain ⟨r40, J38, h39, Vh39⟩ := Bc14
          refine e_callv (av := []) (st := []) dX8_piece_165 cO_8_146 oX8_wrong rfl (by decide) (gs_80 hg) rfl (Nat.le_of_ble_eq_true rfl) (by omega) h39 (Nat.le_refl _) (Nat.le_refl _) rfl rfl ?_
          exact e_zret dX8_piece_168 rfl Vh39.1 (by rw [Vh39.2.1, Vh39.2.2])
      · have Bc3 := Bc2.2 c3
        refine e_aload_n dX8_piece_122 rfl ?_
        obtain ⟨r43, J41, h42, Vh42⟩ := Bc3
        refine e_callv (av := []) (st := []) dX8_piece_123 cO_8_146 oX8_wrong rfl (by decide) (gs_80 hg) rfl (Nat.le_of_ble_eq_true rfl) (by omega) h42 (Nat.le_refl _) (Nat.le_refl _) rfl rfl ?_
        exact e_zret dX8_piece_126 rfl Vh42.1 (by rw [Vh42.2.1, Vh42.2.2])
set_option maxRecDepth 100000 in
set_option maxHeartbeats 4000000 in
theorem v_X8_piece_83 {Γ : GX} {g : AG} {I J : Nat → Nat → Int} {r : Option AV} {d : Nat} (hd : 1 ≤ d) (hg : GOk g) (x1 : Int)
    (V : inR ((I 80 17) + 1) ∧ (∀ I2 : Nat → Nat → Int, I2 = mset I 80 17 ((I 80 17) + 1) → (∃ (r5 : Int) (J3 : Nat → Nat → Int), CT Γ 1 mX8_lettered [.inr (some 80), .inl 2, .inl x1] (g, I2) (some (.inl r5), (g, J3)) ∧ ((r5 = 0 ∨ r5 = 1) ∧ r = some (.inl r5) ∧ J = J3)))) : Ev Γ (d + 1) mX8_piece 83 [some (.inr (some 80)), some (.inl x1), none, none, none] [] (g, I) (r, (g, J)) := by
  refine e_aload_n dX8_piece_83 rfl ?_
  refine e_dup dX8_piece_84 ?_
  refine e_geti dX8_piece_85 fO_8_178 (by decide) (gs_80 hg) rfl ?_
  refine e_iconst dX8_piece_88 ⟨by decide, by decide⟩ ?_
  obtain ⟨h1, Vh1⟩ := V
  refine e_iadd dX8_piece_89 h1 ?_
  refine e_puti dX8_piece_90 fO_8_178 (by decide) (gs_80 hg) rfl rfl ?_
  refine e_mem (fun I2 eI2 => ?_)
  have WI2 := Vh1 I2 eI2
  refine e_aload_n dX8_piece_93 rfl ?_
  refine e_iconst dX8_piece_94 ⟨by decide, by decide⟩ ?_
  refine e_iload_n dX8_piece_95 rfl ?_
  obtain ⟨r5, J3, h4, Vh4⟩ := WI2
  refine e_callv (av := [.inl 2, .inl x1]) (st := []) dX8_piece_96 cO_8_170 oX8_lettered rfl (by decide) (gs_80 hg) rfl (Nat.le_of_ble_eq_true rfl) (by omega) h4 (Nat.le_refl _) (Nat.le_refl _) rfl rfl ?_
  exact e_zret dX8_piece_99 rfl Vh4.1 (by rw [Vh4.2.1, Vh4.2.2])
set_option maxRecDepth 100000 in
set_option maxHeartbeats 4000000 in
theorem v_X8_piece_78 {Γ : GX} {g : AG} {I J : Nat → Nat → Int} {r : Option AV} {d : Nat} (hd : 1 ≤ d) (hg : GOk g) 
    (V : ∃ (r3 : Int) (J1 : Nat → Nat → Int), CT Γ 0 mX8_wrong [.inr (some 80)] (g, I) (some (.inl r3), (g, J1)) ∧ ((r3 = 0 ∨ r3 = 1) ∧ r = some (.inl r3) ∧ J = J1)) : Ev Γ (d + 1) mX8_piece 78 [some (.inr (some 80)), none, none, none, none] [] (g, I) (r, (g, J)) := by
  refine e_aload_n dX8_piece_78 rfl ?_
  obtain ⟨r3, J1, h2, Vh2⟩ := V
  refine e_callv (av := []) (st := []) dX8_piece_79 cO_8_146 oX8_wrong rfl (by decide) (gs_80 hg) rfl (Nat.le_of_ble_eq_true rfl) (by omega) h2 (Nat.le_refl _) (Nat.le_refl _) rfl rfl ?_
  exact e_zret dX8_piece_82 rfl Vh2.1 (by rw [Vh2.2.1, Vh2.2.2])
set_option maxRecDepth 100000 in
set_option maxHeartbeats 4000000 in
theorem v_X8_piece_250 {Γ : GX} {g : AG} {I J : Nat → Nat → Int} {r : Option AV} {d : Nat} (hd : 1 ≤ d) (hg : GOk g) 
    (V : ∃ (r3 : Int) (J1 : Nat → Nat → Int), CT Γ 0 mX8_wrong [.inr (some 80)] (g, I) (some (.inl r3), (g, J1)) ∧ ((r3 = 0 ∨ r3 = 1) ∧ r = some (.inl r3) ∧ J = J1)) : Ev Γ (d + 1) mX8_piece 250 [some (.inr (some 80)), none, none, none, none] [] (g, I) (r, (g, J)) := by
  refine e_aload_n dX8_piece_250 rfl ?_
  obtain ⟨r3, J1, h2, Vh2⟩ := V
  refine e_callv (av := []) (st := []) dX8_piece_251 cO_8_146 oX8_wrong rfl (by decide) (gs_80 hg) rfl (Nat.le_of_ble_eq_true rfl) (by omega) h2 (Nat.le_refl _) (Nat.le_refl _) rfl rfl ?_
  exact e_zret dX8_piece_254 rfl Vh2.1 (by rw [Vh2.2.1, Vh2.2.2])
set_option maxRecDepth 100000 in
set_option maxHeartbeats 4000000 in
theorem v_X8_term_0 {Γ : GX} {g : AG} {I J : Nat → Nat → Int} {r : Option AV} {d : Nat} (hd : 1 ≤ d) (hg : GOk g) (x1 : Int)
    (V : ∃ (r3 : Int) (J1 : Nat → Nat → Int), CT Γ 0 mX8_adds [.inr (some 80), .inl 0, .inl x1] (g, I) (some (.inl r3), (g, J1)) ∧ (Ev Γ (d + 1) mX8_term 7 [some (.inr (some 80)), none, some (.inl r3)] [] (g, J1) (r, (g, J)))) : Ev Γ (d + 1) mX8_term 0 [some (.inr (some 80)), some (.inl x1), none] [] (g, I) (r, (g, J)) := by
  refine e_aload_n dX8_term_0 rfl ?_
  refine e_iconst dX8_term_1 ⟨by decide, by decide⟩ ?_
  refine e_iload_n dX8_term_2 rfl ?_
  obtain ⟨r3, J1, h2, Vh2⟩ := V
  refine e_callv (av := [.inl 0, .inl x1]) (st := []) dX8_term_3 cO_8_150 oX8_adds rfl (by decide) (gs_80 hg) rfl (Nat.le_of_ble_eq_true rfl) (by omega) h2 (Nat.le_refl _) (Nat.le_refl _) rfl rfl ?_
  refine e_istore_n dX8_term_6 (by decide) (ls' := [some (.inr (some 80)), some (.inl x1), some (.inl r3)]) rfl ?_
  refine ev_drop (ls' := [some (.inr (some 80)), none, some (.inl r3)]) 1 rfl ?_
  exact Vh2
set_option maxRecDepth 100000 in
set_option maxHeartbeats 4000000 in
theorem v_X8_term_7 {Γ : GX} {g : AG} {I J : Nat → Nat → Int} {r : Option AV} {d : Nat} (hd : 1 ≤ d) (hg : GOk g) (x2 : Int) (u : Nat) (hu : Mt u) (cu : g.2.1 80 12 = some u)
    (V : ((((I u 1) ≤ (I 80 14))) → (Ev Γ (d + 1) mX8_term 52 [some (.inr (some 80)), none, some (.inl x2)] [] (g, I) (r, (g, J)))) ∧ ((¬ ((I u 1) ≤ (I 80 14))) → (((0 : Int) ≤ (I 80 14) ∧ ((I 80 14) : Int) < 240) ∧ (∃ (r5 : Int) (J3 : Nat → Nat → Int), CT Γ 1 mX8_isAtom [.inl (I (u + 1) (I 80 14).toNat)] (g, I) (some (.inl r5), (g, J3)) ∧ ((((r5 = 0)) → (Ev Γ (d + 1) mX8_term 52 [some (.inr (some 80)), none, some (.inl x2)] [] (g, J3) (r, (g, J)))) ∧ ((¬ (r5 = 0)) → (inR ((J3 80 14) + 1) ∧ (∀ I8 : Nat → Nat → Int, I8 = mset J3 80 14 ((J3 80 14) + 1) → (Ev Γ (d + 1) mX8_term 7 [some (.inr (some 80)), none, some (.inl x2)] [] (g, I8) (r, (g, J))))))))))) : Ev Γ (d + 1) mX8_term 7 [some (.inr (some 80)), none, some (.inl x2)] [] (g, I) (r, (g, J)) := by
  refine e_aload_n dX8_term_7 rfl ?_
  refine e_geti dX8_term_8 fO_8_106 (by decide) (gs_80 hg) rfl ?_
  refine e_aload_n dX8_term_11 rfl ?_
  refine e_getr dX8_term_12 fO_8_109 (by decide) (gs_80 hg) rfl cu ?_
  refine e_geti dX8_term_15 fO_8_112 (mt_pos hu) (mt_s0 hg hu) rfl ?_
  refine e_ic_ge (tgt := 52) dX8_term_18 (by decide) (fun c1 => ?_) (fun c1 => ?_)
  · have Ac1 := V.1 c1
    exact Ac1
  · have Bc1 := V.2 c1
    refine e_aload_n dX8_term_21 rfl ?_
    refine e_getr dX8_term_22 fO_8_109 (by decide) (gs_80 hg) rfl cu ?_
    refine e_getr dX8_term_25 fO_8_113 (mt_pos hu) (mt_s0 hg hu) rfl (mt_p1 hg hu) ?_
    refine e_aload_n dX8_term_28 rfl ?_
    refine e_geti dX8_term_29 fO_8_106 (by decide) (gs_80 hg) rfl ?_
    obtain ⟨h2, Vh2⟩ := Bc1
    refine e_bald dX8_term_32 (Nat.succ_pos _) (mt_s1 hg hu) h2.1 h2.2 ?_
    obtain ⟨r5, J3, h4, Vh4⟩ := Vh2
    refine e_calls (av := [.inl (I (u + 1) (I 80 14).toNat)]) (st := []) dX8_term_33 cO_8_161 oX8_isAtom rfl rfl (Nat.le_of_ble_eq_true rfl) (by omega) h4 (Nat.le_refl _) (Nat.le_refl _) rfl rfl ?_
    refine e_if_eq (tgt := 52) dX8_term_36 (by decide) (fun c6 => ?_) (fun c6 => ?_)
    · have Ac6 := Vh4.1 c6
      exact Ac6
    · have Bc6 := Vh4.2 c6
      refine e_aload_n dX8_term_39 rfl ?_
      refine e_dup dX8_term_40 ?_
      refine e_geti dX8_term_41 fO_8_106 (by decide) (gs_80 hg) rfl ?_
      refine e_iconst dX8_term_44 ⟨by decide, by decide⟩ ?_
      obtain ⟨h7, Vh7⟩ := Bc6
      refine e_iadd dX8_term_45 h7 ?_
      refine e_puti dX8_term_46 fO_8_106 (by decide) (gs_80 hg) rfl rfl ?_
      refine e_mem (fun I8 eI8 => ?_)
      have WI8 := Vh7 I8 eI8
      refine e_goto (tgt := 7) dX8_term_49 (by decide) ?_
      exact WI8
set_option maxRecDepth 100000 in
set_option maxHeartbeats 4000000 in
theorem v_X8_term_52 {Γ : GX} {g : AG} {I J : Nat → Nat → Int} {r : Option AV} {d : Nat} (hd : 1 ≤ d) (hg : GOk g) (x2 : Int) (u : Nat) (hu : Mt u) (cu : g.2.1 80 12 = some u)
    (V : ((0 : Int) ≤ x2 ∧ (x2 : Int) < 240) ∧ (∀ I1 : Nat → Nat → Int, I1 = mset I (u + 5) x2.toNat (I 80 14) → (((0 : Int) ≤ x2 ∧ (x2 : Int) < 240) ∧ (∀ I3 : Nat → Nat → Int, I3 = mset I1 (u + 4) x2.toNat (I1 80 14) → (∃ (r7 : Int) (J5 : Nat → Nat → Int), CT Γ 0 mX8_look [.inr (some 80)] (g, I3) (some (.inl r7), (g, J5)) ∧ ((((r7 = 40)) → (((0 : Int) ≤ x2 ∧ (x2 : Int) < 240) ∧ (∀ I9 : Nat → Nat → Int, I9 = mset J5 (u + 9) x2.toNat 1 → (∃ (r13 : Int) (J11 : Nat → Nat → Int), CT Γ 1 mX8_opens [.inr (some 80)] (g, I9) (some (.inl r13), (g, J11)) ∧ (((¬ (r13 = 0)) → (∃ (r17 : Int) (J15 : Nat → Nat → Int), CT Γ 0 mX8_look [.inr (some 80)] (g, J11) (some (.inl r17), (g, J15)) ∧ ((((r17 = 41)) → (Ev Γ (d + 1) mX8_term 172 [some (.inr (some 80)), none, some (.inl x2)] [] (g, J15) (r, (g, J)))) ∧ ((¬ (r17 = 41)) → (∃ (r21 : Int) (J19 : Nat → Nat → Int), CT Γ d mX8_piece [.inr (some 80), .inl x2, .inl 1] (g, J15) (some (.inl r21), (g, J19)) ∧ (((¬ (r21 = 0)) → (Ev Γ (d + 1) mX8_term 128 [some (.inr (some 80)), none, some (.inl x2)] [] (g, J19) (r, (g, J)))) ∧ (((r21 = 0)) → (r = some (.inl 0) ∧ J = J19)))))))) ∧ (((r13 = 0)) → (r = some (.inl 0) ∧ J = J11))))))) ∧ ((¬ (r7 = 40)) → (r = some (.inl 1) ∧ J = J5)))))))) : Ev Γ (d + 1) mX8_term 52 [some (.inr (some 80)), none, some (.inl x2)] [] (g, I) (r, (g, J)) := by
  refine e_aload_n dX8_term_52 rfl ?_
  refine e_getr dX8_term_53 fO_8_109 (by decide) (gs_80 hg) rfl cu ?_
  refine e_getr dX8_term_56 fO_8_191 (mt_pos hu) (mt_s0 hg hu) rfl (mt_p5 hg hu) ?_
  refine e_iload_n dX8_term_59 rfl ?_
  refine e_aload_n dX8_term_60 rfl ?_
  refine e_geti dX8_term_61 fO_8_106 (by decide) (gs_80 hg) rfl ?_
  obtain ⟨h2, Vh2⟩ := V
  refine e_iast dX8_term_64 (Nat.succ_pos _) (mt_s5 hg hu) h2.1 h2.2 ?_
  refine e_mem (fun I1 eI1 => ?_)
  have WI1 := Vh2 I1 eI1
  refine e_aload_n dX8_term_65 rfl ?_
  refine e_getr dX8_term_66 fO_8_109 (by decide) (gs_80 hg) rfl cu ?_
  refine e_getr dX8_term_69 fO_8_154 (mt_pos hu) (mt_s0 hg hu) rfl (mt_p4 hg hu) ?_
  refine e_iload_n dX8_term_72 rfl ?_
  refine e_aload_n dX8_term_73 rfl ?_
  refine e_geti dX8_term_74 fO_8_106 (by decide) (gs_80 hg) rfl ?_
  obtain ⟨h4, Vh4⟩ := WI1
  refine e_iast dX8_term_77 (Nat.succ_pos _) (mt_s4 hg hu) h4.1 h4.2 ?_
  refine e_mem (fun I3 eI3 => ?_)
  have WI3 := Vh4 I3 eI3
  refine e_aload_n dX8_term_78 rfl ?_
  obtain ⟨r7, J5, h6, Vh6⟩ := WI3
  refine e_callv (av := []) (st := []) dX8_term_79 cO_8_157 oX8_look rfl (by decide) (gs_80 hg) rfl (Nat.le_of_ble_eq_true rfl) (by omega) h6 (Nat.le_refl _) (Nat.le_refl _) rfl rfl ?_
  refine e_bipush dX8_term_82 (by decide) ⟨by decide, by decide⟩ ?_
  refine e_ic_eq (tgt := 89) dX8_term_84 (by decide) (fun c8 => ?_) (fun c8 => ?_)
  · have Ac8 := Vh6.1 c8
    refine e_aload_n dX8_term_89 rfl ?_
    refine e_getr dX8_term_90 fO_8_109 (by decide) (gs_80 hg) rfl cu ?_
    refine e_getr dX8_term_93 fO_8_137 (mt_pos hu) (mt_s0 hg hu) rfl (mt_p9 hg hu) ?_
    refine e_iload_n dX8_term_96 rfl ?_
    refine e_iconst dX8_term_97 ⟨by decide, by decide⟩ ?_
    obtain ⟨h10, Vh10⟩ := Ac8
    refine e_zast dX8_term_98 (Nat.succ_pos _) (mt_s9 hg hu) h10.1 h10.2 (by decide) ?_
    refine e_mem (fun I9 eI9 => ?_)
    have WI9 := Vh10 I9 eI9
    refine e_aload_n dX8_term_99 rfl ?_
    obtain ⟨r13, J11, h12, Vh12⟩ := WI9
    refine e_callv (av := []) (st := []) dX8_term_100 cO_8_184 oX8_opens rfl (by decide) (gs_80 hg) rfl (Nat.le_of_ble_eq_true rfl) (by omega) h12 (Nat.le_refl _) (Nat.le_refl _) rfl rfl ?_
    refine e_if_ne (tgt := 108) dX8_term_103 (by decide) (fun c14 => ?_) (fun c14 => ?_)
    · have Ac14 := Vh12.1 c14
      refine e_aload_n dX8_term_108 rfl ?_
      obtain ⟨r17, J15, h16, Vh16⟩ := Ac14
      refine e_callv (av := []) (st := []) dX8_term_109 cO_8_157 oX8_look rfl (by decide) (gs_80 hg) rfl (Nat.le_of_ble_eq_true rfl) (by omega) h16 (Nat.le_refl _) (Nat.le_refl _) rfl rfl ?_
      refine e_bipush dX8_term_112 (by decide) ⟨by decide, by decide⟩ ?_
      refine e_ic_eq (tgt := 172) dX8_term_114 (by decide) (fun c18 => ?_) (fun c18 => ?_)
      · have Ac18 := Vh16.1 c18
        exact Ac18
      · have Bc18 := Vh16.2 c18
        refine e_aload_n dX8_term_117 rfl ?_
        refine e_iload_n dX8_term_118 rfl ?_
        refine e_iconst dX8_term_119 ⟨by decide, by decide⟩ ?_
        obtain ⟨r21, J19, h20, Vh20⟩ := Bc18
        refine e_callv (av := [.inl x2, .inl 1]) (st := []) dX8_term_120 cO_8_187 oX8_piece rfl (by decide) (gs_80 hg) rfl (Nat.le_of_ble_eq_true rfl) (by omega) h20 (Nat.le_refl _) (Nat.le_refl _) rfl rfl ?_
        refine e_if_ne (tgt := 128) dX8_term_123 (by decide) (fun c22 => ?_) (fun c22 => ?_)
        · have Ac22 := Vh20.1 c22
          exact Ac22
        · have Bc22 := Vh20.2 c22
          refine e_iconst dX8_term_126 ⟨by decide, by decide⟩ ?_
          exact e_zret dX8_term_127 rfl (by decide) (by rw [Bc22.1, Bc22.2])
    · have Bc14 := Vh12.2 c14
      refine e_iconst dX8_term_106 ⟨by decide, by decide⟩ ?_
      exact e_zret dX8_term_107 rfl (by decide) (by rw [Bc14.1, Bc14.2])
  · have Bc8 := Vh6.2 c8
    refine e_iconst dX8_term_87 ⟨by decide, by decide⟩ ?_
    exact e_zret dX8_term_88 rfl (by decide) (by rw [Bc8.1, Bc8.2])
set_option maxRecDepth 100000 in
set_option maxHeartbeats 4000000 in
theorem v_X8_term_172 {Γ : GX} {g : AG} {I J : Nat → Nat → Int} {r : Option AV} {d : Nat} (hd : 1 ≤ d) (hg : GOk g) (x2 : Int) (u : Nat) (hu : Mt u) (cu : g.2.1 80 12 = some u)
    (V : inR ((I 80 16) - 1) ∧ (∀ I2 : Nat → Nat → Int, I2 = mset I 80 16 ((I 80 16) - 1) → (inR ((I2 80 14) + 1) ∧ (∀ I4 : Nat → Nat → Int, I4 = mset I2 80 14 ((I2 80 14) + 1) → (((0 : Int) ≤ x2 ∧ (x2 : Int) < 240) ∧ (∀ I5 : Nat → Nat → Int, I5 = mset I4 (u + 4) x2.toNat (I4 80 14) → (r = some (.inl 1) ∧ J = I5))))))) : Ev Γ (d + 1) mX8_term 172 [some (.inr (some 80)), none, some (.inl x2)] [] (g, I) (r, (g, J)) := by
  refine e_aload_n dX8_term_172 rfl ?_
  refine e_dup dX8_term_173 ?_
  refine e_geti dX8_term_174 fO_8_143 (by decide) (gs_80 hg) rfl ?_
  refine e_iconst dX8_term_177 ⟨by decide, by decide⟩ ?_
  obtain ⟨h1, Vh1⟩ := V
  refine e_isub dX8_term_178 h1 ?_
  refine e_puti dX8_term_179 fO_8_143 (by decide) (gs_80 hg) rfl rfl ?_
  refine e_mem (fun I2 eI2 => ?_)
  have WI2 := Vh1 I2 eI2
  refine e_aload_n dX8_term_182 rfl ?_
  refine e_dup dX8_term_183 ?_
  refine e_geti dX8_term_184 fO_8_106 (by decide) (gs_80 hg) rfl ?_
  refine e_iconst dX8_term_187 ⟨by decide, by decide⟩ ?_
  obtain ⟨h3, Vh3⟩ := WI2
  refine e_iadd dX8_term_188 h3 ?_
  refine e_puti dX8_term_189 fO_8_106 (by decide) (gs_80 hg) rfl rfl ?_
  refine e_mem (fun I4 eI4 => ?_)
  have WI4 := Vh3 I4 eI4
  refine e_aload_n dX8_term_192 rfl ?_
  refine e_getr dX8_term_193 fO_8_109 (by decide) (gs_80 hg) rfl cu ?_
  refine e_getr dX8_term_196 fO_8_154 (mt_pos hu) (mt_s0 hg hu) rfl (mt_p4 hg hu) ?_
  refine e_iload_n dX8_term_199 rfl ?_
  refine e_aload_n dX8_term_200 rfl ?_
  refine e_geti dX8_term_201 fO_8_106 (by decide) (gs_80 hg) rfl ?_
  obtain ⟨h6, Vh6⟩ := WI4
  refine e_iast dX8_term_204 (Nat.succ_pos _) (mt_s4 hg hu) h6.1 h6.2 ?_
  refine e_mem (fun I5 eI5 => ?_)
  have WI5 := Vh6 I5 eI5
  refine e_iconst dX8_term_205 ⟨by decide, by decide⟩ ?_
  exact e_zret dX8_term_206 rfl (by decide) (by rw [WI5.1, WI5.2])
set_option maxRecDepth 100000 in
set_option maxHeartbeats 4000000 in
theorem v_X8_term_128 {Γ : GX} {g : AG} {I J : Nat → Nat → Int} {r : Option AV} {d : Nat} (hd : 1 ≤ d) (hg : GOk g) (x2 : Int)
    (V : ∃ (r3 : Int) (J1 : Nat → Nat → Int), CT Γ 0 mX8_look [.inr (some 80)] (g, I) (some (.inl r3), (g, J1)) ∧ (((¬ (r3 = 44)) → (∃ (r7 : Int) (J5 : Nat → Nat → Int), CT Γ 0 mX8_look [.inr (some 80)] (g, J1) (some (.inl r7), (g, J5)) ∧ ((((r7 = 41)) → (Ev Γ (d + 1) mX8_term 172 [some (.inr (some 80)), none, some (.inl x2)] [] (g, J5) (r, (g, J)))) ∧ ((¬ (r7 = 41)) → (∃ (r11 : Int) (J9 : Nat → Nat → Int), CT Γ 0 mX8_wrong [.inr (some 80)] (g, J5) (some (.inl r11), (g, J9)) ∧ ((r11 = 0 ∨ r11 = 1) ∧ r = some (.inl r11) ∧ J = J9)))))) ∧ (((r3 = 44)) → (inR ((J1 80 14) + 1) ∧ (∀ I13 : Nat → Nat → Int, I13 = mset J1 80 14 ((J1 80 14) + 1) → (∃ (r16 : Int) (J14 : Nat → Nat → Int), CT Γ d mX8_piece [.inr (some 80), .inl x2, .inl 1] (g, I13) (some (.inl r16), (g, J14)) ∧ (((¬ (r16 = 0)) → (Ev Γ (d + 1) mX8_term 128 [some (.inr (some 80)), none, some (.inl x2)] [] (g, J14) (r, (g, J)))) ∧ (((r16 = 0)) → (r = some (.inl 0) ∧ J = J14))))))))) : Ev Γ (d + 1) mX8_term 128 [some (.inr (some 80)), none, some (.inl x2)] [] (g, I) (r, (g, J)) := by
  refine e_aload_n dX8_term_128 rfl ?_
  obtain ⟨r3, J1, h2, Vh2⟩ := V
  refine e_callv (av := []) (st := []) dX8_term_129 cO_8_157 oX8_look rfl (by decide) (gs_80 hg) rfl (Nat.le_of_ble_eq_true rfl) (by omega) h2 (Nat.le_refl _) (Nat.le_refl _) rfl rfl ?_
  refine e_bipush dX8_term_132 (by decide) ⟨by decide, by decide⟩ ?_
  refine e_ic_ne (tgt := 158) dX8_term_134 (by decide) (fun c4 => ?_) (fun c4 => ?_)
  · have Ac4 := Vh2.1 c4
    refine e_aload_n dX8_term_158 rfl ?_
    obtain ⟨r7, J5, h6, Vh6⟩ := Ac4
    refine e_callv (av := []) (st := []) dX8_term_159 cO_8_157 oX8_look rfl (by decide) (gs_80 hg) rfl (Nat.le_of_ble_eq_true rfl) (by omega) h6 (Nat.le_refl _) (Nat.le_refl _) rfl rfl ?_
    refine e_bipush dX8_term_162 (by decide) ⟨by decide, by decide⟩ ?_
    refine e_ic_eq (tgt := 172) dX8_term_164 (by decide) (fun c8 => ?_) (fun c8 => ?_)
    · have Ac8 := Vh6.1 c8
      exact Ac8
    · have Bc8 := Vh6.2 c8
      refine e_aload_n dX8_term_167 rfl ?_
      obtain ⟨r11, J9, h10, Vh10⟩ := Bc8
      refine e_callv (av := []) (st := []) dX8_term_168 cO_8_146 oX8_wrong rfl (by decide) (gs_80 hg) rfl (Nat.le_of_ble_eq_true rfl) (by omega) h10 (Nat.le_refl _) (Nat.le_refl _) rfl rfl ?_
      exact e_zret dX8_term_171 rfl Vh10.1 (by rw [Vh10.2.1, Vh10.2.2])
  · have Bc4 := Vh2.2 c4
    refine e_aload_n dX8_term_137 rfl ?_
    refine e_dup dX8_term_138 ?_
    refine e_geti dX8_term_139 fO_8_106 (by decide) (gs_80 hg) rfl ?_
    refine e_iconst dX8_term_142 ⟨by decide, by decide⟩ ?_
    obtain ⟨h12, Vh12⟩ := Bc4
    refine e_iadd dX8_term_143 h12 ?_
    refine e_puti dX8_term_144 fO_8_106 (by decide) (gs_80 hg) rfl rfl ?_
    refine e_mem (fun I13 eI13 => ?_)
    have WI13 := Vh12 I13 eI13
    refine e_aload_n dX8_term_147 rfl ?_
    refine e_iload_n dX8_term_148 rfl ?_
    refine e_iconst dX8_term_149 ⟨by decide, by decide⟩ ?_
    obtain ⟨r16, J14, h15, Vh15⟩ := WI13
    refine e_callv (av := [.inl x2, .inl 1]) (st := []) dX8_term_150 cO_8_187 oX8_piece rfl (by decide) (gs_80 hg) rfl (Nat.le_of_ble_eq_true rfl) (by omega) h15 (Nat.le_refl _) (Nat.le_refl _) rfl rfl ?_
    refine e_if_ne (tgt := 128) dX8_term_153 (by decide) (fun c17 => ?_) (fun c17 => ?_)
    · have Ac17 := Vh15.1 c17
      exact Ac17
    · have Bc17 := Vh15.2 c17
      refine e_iconst dX8_term_156 ⟨by decide, by decide⟩ ?_
      exact e_zret dX8_term_157 rfl (by decide) (by rw [Bc17.1, Bc17.2])
set_option maxRecDepth 100000 in
set_option maxHeartbeats 4000000 in
theorem v_X8_read_0 {Γ : GX} {g gf : AG} {I J : Nat → Nat → Int} {r : Option AV} (hg : GOk g) (hf : g.2.2.2 = gf.2.2.2) (u : Nat) (hu : Mt u) (b2 nb2 : Nat) (pb2 : 0 < b2) (sb2 : g.1[b2]? = some (.inr (.byte, nb2))) (lb2 : (nb2 : Int) < 2147483648) (x3 : Int) (x4 : Int) (x5 : Int)
    (V : ∀ I1 : Nat → Nat → Int, I1 = mset I 80 13 x5 → (∀ I2 : Nat → Nat → Int, I2 = mset I1 u 1 x4 → (Ev Γ 61 mX8_read 20 [some (.inr (some 80)), some (.inr (some u)), some (.inr (some b2)), some (.inl x3), some (.inl x4), none, some (.inl 0)] [] ((sT g u), I2) (r, (gf, J))))) : Ev Γ 61 mX8_read 0 [some (.inr (some 80)), some (.inr (some u)), some (.inr (some b2)), some (.inl x3), some (.inl x4), some (.inl x5), none] [] (g, I) (r, (gf, J)) := by
  refine e_aload_n dX8_read_0 rfl ?_
  refine e_aload_n dX8_read_1 rfl ?_
  refine e_putr dX8_read_2 fO_8_109 (by decide) (gs_80 hg) rfl rfl ?_
  show Ev Γ 61 mX8_read 5 [some (.inr (some 80)), some (.inr (some u)), some (.inr (some b2)), some (.inl x3), some (.inl x4), some (.inl x5), none] [] ((sT g u), I) (r, (gf, J))
  refine e_aload_n dX8_read_5 rfl ?_
  refine e_iload dX8_read_6 rfl ?_
  refine e_puti dX8_read_8 fO_8_167 (by decide) (gs_80 (gS hg)) rfl rfl ?_
  refine e_mem (fun I1 eI1 => ?_)
  have WI1 := V I1 eI1
  refine e_aload_n dX8_read_11 rfl ?_
  refine e_iload dX8_read_12 rfl ?_
  refine e_puti dX8_read_14 fO_8_112 (mt_pos hu) (mt_s0 (gS hg) hu) rfl rfl ?_
  refine e_mem (fun I2 eI2 => ?_)
  have WI2 := WI1 I2 eI2
  refine e_iconst dX8_read_17 ⟨by decide, by decide⟩ ?_
  refine e_istore dX8_read_18 (by decide) (ls' := [some (.inr (some 80)), some (.inr (some u)), some (.inr (some b2)), some (.inl x3), some (.inl x4), some (.inl x5), some (.inl 0)]) rfl ?_
  refine ev_drop (ls' := [some (.inr (some 80)), some (.inr (some u)), some (.inr (some b2)), some (.inl x3), some (.inl x4), none, some (.inl 0)]) 5 rfl ?_
  exact WI2
set_option maxRecDepth 100000 in
set_option maxHeartbeats 4000000 in
theorem v_X8_read_20 {Γ : GX} {g gf : AG} {I J : Nat → Nat → Int} {r : Option AV} (hg : GOk g) (hf : g.2.2.2 = gf.2.2.2) (u : Nat) (hu : Mt u) (b2 nb2 : Nat) (pb2 : 0 < b2) (sb2 : g.1[b2]? = some (.inr (.byte, nb2))) (lb2 : (nb2 : Int) < 2147483648) (x3 : Int) (x4 : Int) (x6 : Int)
    (V : (((x4 ≤ x6)) → (∀ I2 : Nat → Nat → Int, I2 = mset I u 2 0 → (∀ I3 : Nat → Nat → Int, I3 = mset I2 80 14 0 → (∀ I4 : Nat → Nat → Int, I4 = mset I3 80 15 (-1) → (∀ I5 : Nat → Nat → Int, I5 = mset I4 80 16 0 → (∀ I6 : Nat → Nat → Int, I6 = mset I5 80 17 0 → (∀ I7 : Nat → Nat → Int, I7 = mset I6 80 18 0 → (∀ I8 : Nat → Nat → Int, I8 = mset I7 80 19 0 → (Ev Γ 61 mX8_read 84 [some (.inr (some 80)), none, none, none, none, none, some (.inl 0)] [] (g, I8) (r, (gf, J))))))))))) ∧ ((¬ (x4 ≤ x6)) → (inR (x3 + x6) ∧ (((0 : Int) ≤ (x3 + x6) ∧ ((x3 + x6) : Int) < nb2) ∧ (((0 : Int) ≤ x6 ∧ (x6 : Int) < 240) ∧ (∀ I11 : Nat → Nat → Int, I11 = mset I (u + 1) x6.toNat (bByte (I b2 (x3 + x6).toNat)) → (inR (x6 + 1) ∧ (Ev Γ 61 mX8_read 20 [some (.inr (some 80)), some (.inr (some u)), some (.inr (some b2)), some (.inl x3), some (.inl x4), none, some (.inl (x6 + 1))] [] (g, I11) (r, (gf, J)))))))))) : Ev Γ 61 mX8_read 20 [some (.inr (some 80)), some (.inr (some u)), some (.inr (some b2)), some (.inl x3), some (.inl x4), none, some (.inl x6)] [] (g, I) (r, (gf, J)) := by
  refine e_iload dX8_read_20 rfl ?_
  refine e_iload dX8_read_22 rfl ?_
  refine e_ic_ge (tgt := 46) dX8_read_24 (by decide) (fun c1 => ?_) (fun c1 => ?_)
  · have Ac1 := V.1 c1
    refine e_aload_n dX8_read_46 rfl ?_
    refine e_iconst dX8_read_47 ⟨by decide, by decide⟩ ?_
    refine e_puti dX8_read_48 fO_8_122 (mt_pos hu) (mt_s0 hg hu) rfl rfl ?_
    refine e_mem (fun I2 eI2 => ?_)
    have WI2 := Ac1 I2 eI2
    refine e_aload_n dX8_read_51 rfl ?_
    refine e_iconst dX8_read_52 ⟨by decide, by decide⟩ ?_
    refine e_puti dX8_read_53 fO_8_106 (by decide) (gs_80 hg) rfl rfl ?_
    refine e_mem (fun I3 eI3 => ?_)
    have WI3 := WI2 I3 eI3
    refine e_aload_n dX8_read_56 rfl ?_
    refine e_iconst dX8_read_57 ⟨by decide, by decide⟩ ?_
    refine e_puti dX8_read_58 fO_8_119 (by decide) (gs_80 hg) rfl rfl ?_
    refine e_mem (fun I4 eI4 => ?_)
    have WI4 := WI3 I4 eI4
    refine e_aload_n dX8_read_61 rfl ?_
    refine e_iconst dX8_read_62 ⟨by decide, by decide⟩ ?_
    refine e_puti dX8_read_63 fO_8_143 (by decide) (gs_80 hg) rfl rfl ?_
    refine e_mem (fun I5 eI5 => ?_)
    have WI5 := WI4 I5 eI5
    refine e_aload_n dX8_read_66 rfl ?_
    refine e_iconst dX8_read_67 ⟨by decide, by decide⟩ ?_
    refine e_puti dX8_read_68 fO_8_178 (by decide) (gs_80 hg) rfl rfl ?_
    refine e_mem (fun I6 eI6 => ?_)
    have WI6 := WI5 I6 eI6
    refine e_aload_n dX8_read_71 rfl ?_
    refine e_iconst dX8_read_72 ⟨by decide, by decide⟩ ?_
    refine e_puti dX8_read_73 fO_8_181 (by decide) (gs_80 hg) rfl rfl ?_
    refine e_mem (fun I7 eI7 => ?_)
    have WI7 := WI6 I7 eI7
    refine e_aload_n dX8_read_76 rfl ?_
    refine e_iconst dX8_read_77 ⟨by decide, by decide⟩ ?_
    refine e_putz dX8_read_78 fO_8_174 (by decide) (gs_80 hg) rfl rfl (by decide) ?_
    refine e_mem (fun I8 eI8 => ?_)
    have WI8 := WI7 I8 eI8
    refine e_iconst dX8_read_81 ⟨by decide, by decide⟩ ?_
    refine e_istore dX8_read_82 (by decide) (ls' := [some (.inr (some 80)), some (.inr (some u)), some (.inr (some b2)), some (.inl x3), some (.inl x4), none, some (.inl 0)]) rfl ?_
    refine ev_drop (ls' := [some (.inr (some 80)), none, some (.inr (some b2)), some (.inl x3), some (.inl x4), none, some (.inl 0)]) 1 rfl ?_
    refine ev_drop (ls' := [some (.inr (some 80)), none, none, some (.inl x3), some (.inl x4), none, some (.inl 0)]) 2 rfl ?_
    refine ev_drop (ls' := [some (.inr (some 80)), none, none, none, some (.inl x4), none, some (.inl 0)]) 3 rfl ?_
    refine ev_drop (ls' := [some (.inr (some 80)), none, none, none, none, none, some (.inl 0)]) 4 rfl ?_
    exact WI8
  · have Bc1 := V.2 c1
    refine e_aload_n dX8_read_27 rfl ?_
    refine e_getr dX8_read_28 fO_8_113 (mt_pos hu) (mt_s0 hg hu) rfl (mt_p1 hg hu) ?_
    refine e_iload dX8_read_31 rfl ?_
    refine e_aload_n dX8_read_33 rfl ?_
    refine e_iload_n dX8_read_34 rfl ?_
    refine e_iload dX8_read_35 rfl ?_
    obtain ⟨h9, Vh9⟩ := Bc1
    refine e_iadd dX8_read_37 h9 ?_
    obtain ⟨h10, Vh10⟩ := Vh9
    refine e_bald dX8_read_38 pb2 sb2 h10.1 h10.2 ?_
    obtain ⟨h12, Vh12⟩ := Vh10
    refine e_bast dX8_read_39 (Nat.succ_pos _) (mt_s1 hg hu) h12.1 h12.2 ?_
    refine e_mem (fun I11 eI11 => ?_)
    have WI11 := Vh12 I11 eI11
    obtain ⟨h13, Vh13⟩ := WI11
    refine e_iinc dX8_read_40 (by decide) rfl h13 (ls' := [some (.inr (some 80)), some (.inr (some u)), some (.inr (some b2)), some (.inl x3), some (.inl x4), none, some (.inl (x6 + 1))]) rfl ?_
    refine e_goto (tgt := 20) dX8_read_43 (by decide) ?_
    exact Vh13
set_option maxRecDepth 100000 in
set_option maxHeartbeats 4000000 in
theorem v_X8_read_84 {Γ : GX} {g gf : AG} {I J : Nat → Nat → Int} {r : Option AV} (hg : GOk g) (hf : g.2.2.2 = gf.2.2.2) (x6 : Int)
    (V : (((26 ≤ x6)) → (∃ (r4 : Int) (J2 : Nat → Nat → Int), CT Γ 60 mX8_piece [.inr (some 80), .inl (-1), .inl 0] (g, I) (some (.inl r4), (g, J2)) ∧ ((((r4 = 0)) → (r = some (.inl (J2 80 15)) ∧ J = J2 ∧ gf = g)) ∧ ((¬ (r4 = 0)) → (∃ (r8 : Int) (J6 : Nat → Nat → Int), CT Γ 0 mX8_look [.inr (some 80)] (g, J2) (some (.inl r8), (g, J6)) ∧ ((((r8 = (-1))) → (r = some (.inl (J6 80 15)) ∧ J = J6 ∧ gf = g)) ∧ ((¬ (r8 = (-1))) → (∃ (r12 : Int) (J10 : Nat → Nat → Int), CT Γ 0 mX8_wrong [.inr (some 80)] (g, J6) (some (.inl r12), (g, J10)) ∧ (r = some (.inl (J10 80 15)) ∧ J = J10 ∧ gf = g))))))))) ∧ ((¬ (26 ≤ x6)) → (((0 : Int) ≤ x6 ∧ (x6 : Int) < 26) ∧ (∀ I13 : Nat → Nat → Int, I13 = mset I 135 x6.toNat (-1) → (inR (x6 + 1) ∧ (Ev Γ 61 mX8_read 84 [some (.inr (some 80)), none, none, none, none, none, some (.inl (x6 + 1))] [] (g, I13) (r, (gf, J)))))))) : Ev Γ 61 mX8_read 84 [some (.inr (some 80)), none, none, none, none, none, some (.inl x6)] [] (g, I) (r, (gf, J)) := by
  refine e_iload dX8_read_84 rfl ?_
  refine e_bipush dX8_read_86 (by decide) ⟨by decide, by decide⟩ ?_
  refine e_ic_ge (tgt := 105) dX8_read_88 (by decide) (fun c1 => ?_) (fun c1 => ?_)
  · have Ac1 := V.1 c1
    refine e_aload_n dX8_read_105 rfl ?_
    refine e_iconst dX8_read_106 ⟨by decide, by decide⟩ ?_
    refine e_iconst dX8_read_107 ⟨by decide, by decide⟩ ?_
    obtain ⟨r4, J2, h3, Vh3⟩ := Ac1
    refine e_callv (av := [.inl (-1), .inl 0]) (st := []) dX8_read_108 cO_8_187 oX8_piece rfl (by decide) (gs_80 hg) rfl (Nat.le_of_ble_eq_true rfl) (by decide) h3 (Nat.le_of_eq (congrArg Prod.fst hf)) (Nat.le_of_eq (congrArg Prod.snd hf)) rfl rfl ?_
    refine e_istore dX8_read_111 (by decide) (ls' := [some (.inr (some 80)), none, none, none, none, none, some (.inl r4)]) rfl ?_
    refine e_iload dX8_read_113 rfl ?_
    refine e_if_eq (tgt := 131) dX8_read_115 (by decide) (fun c5 => ?_) (fun c5 => ?_)
    · have Ac5 := Vh3.1 c5
      refine e_aload_n dX8_read_131 rfl ?_
      refine e_geti dX8_read_132 fO_8_119 (by decide) (gs_80 hg) rfl ?_
      exact e_iret dX8_read_135 rfl (by rw [Ac5.1, Ac5.2.1, Ac5.2.2])
    · have Bc5 := Vh3.2 c5
      refine e_aload_n dX8_read_118 rfl ?_
      obtain ⟨r8, J6, h7, Vh7⟩ := Bc5
      refine e_callv (av := []) (st := []) dX8_read_119 cO_8_157 oX8_look rfl (by decide) (gs_80 hg) rfl (Nat.le_of_ble_eq_true rfl) (by decide) h7 (Nat.le_of_eq (congrArg Prod.fst hf)) (Nat.le_of_eq (congrArg Prod.snd hf)) rfl rfl ?_
      refine e_iconst dX8_read_122 ⟨by decide, by decide⟩ ?_
      refine e_ic_eq (tgt := 131) dX8_read_123 (by decide) (fun c9 => ?_) (fun c9 => ?_)
      · have Ac9 := Vh7.1 c9
        refine e_aload_n dX8_read_131 rfl ?_
        refine e_geti dX8_read_132 fO_8_119 (by decide) (gs_80 hg) rfl ?_
        exact e_iret dX8_read_135 rfl (by rw [Ac9.1, Ac9.2.1, Ac9.2.2])
      · have Bc9 := Vh7.2 c9
        refine e_aload_n dX8_read_126 rfl ?_
        obtain ⟨r12, J10, h11, Vh11⟩ := Bc9
        refine e_callv (av := []) (st := []) dX8_read_127 cO_8_146 oX8_wrong rfl (by decide) (gs_80 hg) rfl (Nat.le_of_ble_eq_true rfl) (by decide) h11 (Nat.le_of_eq (congrArg Prod.fst hf)) (Nat.le_of_eq (congrArg Prod.snd hf)) rfl rfl ?_
        refine e_pop dX8_read_130 ?_
        refine e_aload_n dX8_read_131 rfl ?_
        refine e_geti dX8_read_132 fO_8_119 (by decide) (gs_80 hg) rfl ?_
        exact e_iret dX8_read_135 rfl (by rw [Vh11.1, Vh11.2.1, Vh11.2.2])
  · have Bc1 := V.2 c1
    refine e_aload_n dX8_read_91 rfl ?_
    refine e_getr dX8_read_92 fO_8_43 (by decide) (gs_80 hg) rfl (gp_80_20 hg) ?_
    refine e_iload dX8_read_95 rfl ?_
    refine e_iconst dX8_read_97 ⟨by decide, by decide⟩ ?_
    obtain ⟨h14, Vh14⟩ := Bc1
    refine e_iast dX8_read_98 (by decide) (gs_135 hg) h14.1 h14.2 ?_
    refine e_mem (fun I13 eI13 => ?_)
    have WI13 := Vh14 I13 eI13
    obtain ⟨h15, Vh15⟩ := WI13
    refine e_iinc dX8_read_99 (by decide) rfl h15 (ls' := [some (.inr (some 80)), none, none, none, none, none, some (.inl (x6 + 1))]) rfl ?_
    refine e_goto (tgt := 84) dX8_read_102 (by decide) ?_
    exact Vh15
set_option maxRecDepth 100000 in
set_option maxHeartbeats 4000000 in
theorem v_X8_bytesIn_0 {Γ : GX} {g : AG} {I J : Nat → Nat → Int} {r : Option AV} (hg : GOk g) (x0 : Int)
    (V : Ev Γ 0 mX8_bytesIn 5 [some (.inl x0), some (.inl 0), some (.inl 24)] [] (g, I) (r, (g, J))) : Ev Γ 0 mX8_bytesIn 0 [some (.inl x0), none, none] [] (g, I) (r, (g, J)) := by
  refine e_iconst dX8_bytesIn_0 ⟨by decide, by decide⟩ ?_
  refine e_istore_n dX8_bytesIn_1 (by decide) (ls' := [some (.inl x0), some (.inl 0), none]) rfl ?_
  refine e_bipush dX8_bytesIn_2 (by decide) ⟨by decide, by decide⟩ ?_
  refine e_istore_n dX8_bytesIn_4 (by decide) (ls' := [some (.inl x0), some (.inl 0), some (.inl 24)]) rfl ?_
  exact V
set_option maxRecDepth 100000 in
set_option maxHeartbeats 4000000 in
theorem v_X8_bytesIn_5 {Γ : GX} {g : AG} {I J : Nat → Nat → Int} {r : Option AV} (hg : GOk g) (x0 : Int) (x1 : Int) (x2 : Int)
    (V : (((x2 < 0)) → (r = some (.inl x1) ∧ J = I)) ∧ ((¬ (x2 < 0)) → (((((bAnd (bShr x0 x2) 255) = 0)) → (inR (x1 + 0) ∧ (∀ y4 : Int, y4 = (x1 + 0) → (inR (x2 + (-8)) ∧ (Ev Γ 0 mX8_bytesIn 5 [some (.inl x0), some (.inl y4), some (.inl (x2 + (-8)))] [] (g, I) (r, (g, J))))))) ∧ ((¬ ((bAnd (bShr x0 x2) 255) = 0)) → (inR (x1 + 1) ∧ (∀ y7 : Int, y7 = (x1 + 1) → (inR (x2 + (-8)) ∧ (Ev Γ 0 mX8_bytesIn 5 [some (.inl x0), some (.inl y7), some (.inl (x2 + (-8)))] [] (g, I) (r, (g, J)))))))))) : Ev Γ 0 mX8_bytesIn 5 [some (.inl x0), some (.inl x1), some (.inl x2)] [] (g, I) (r, (g, J)) := by
  refine e_iload_n dX8_bytesIn_5 rfl ?_
  refine e_if_lt (tgt := 33) dX8_bytesIn_6 (by decide) (fun c1 => ?_) (fun c1 => ?_)
  · have Ac1 := V.1 c1
    refine e_iload_n dX8_bytesIn_33 rfl ?_
    exact e_iret dX8_bytesIn_34 rfl (by rw [Ac1.1, Ac1.2])
  · have Bc1 := V.2 c1
    refine e_iload_n dX8_bytesIn_9 rfl ?_
    refine e_iload_n dX8_bytesIn_10 rfl ?_
    refine e_iload_n dX8_bytesIn_11 rfl ?_
    refine e_ishr dX8_bytesIn_12 ?_
    refine e_sipush dX8_bytesIn_13 (by decide) ⟨by decide, by decide⟩ ?_
    refine e_iand dX8_bytesIn_16 ?_
    refine e_if_eq (tgt := 24) dX8_bytesIn_17 (by decide) (fun c2 => ?_) (fun c2 => ?_)
    · have Ac2 := Bc1.1 c2
      refine e_iconst dX8_bytesIn_24 ⟨by decide, by decide⟩ ?_
      obtain ⟨h3, Vh3⟩ := Ac2
      refine e_iadd dX8_bytesIn_25 h3 ?_
      refine e_top (fun y4 ey4 => ?_)
      have Wy4 := Vh3 y4 ey4
      refine e_istore_n dX8_bytesIn_26 (by decide) (ls' := [some (.inl x0), some (.inl y4), some (.inl x2)]) rfl ?_
      obtain ⟨h5, Vh5⟩ := Wy4
      refine e_iinc dX8_bytesIn_27 (by decide) rfl h5 (ls' := [some (.inl x0), some (.inl y4), some (.inl (x2 + (-8)))]) rfl ?_
      refine e_goto (tgt := 5) dX8_bytesIn_30 (by decide) ?_
      exact Vh5
    · have Bc2 := Bc1.2 c2
      refine e_iconst dX8_bytesIn_20 ⟨by decide, by decide⟩ ?_
      refine e_goto (tgt := 25) dX8_bytesIn_21 (by decide) ?_
      obtain ⟨h6, Vh6⟩ := Bc2
      refine e_iadd dX8_bytesIn_25 h6 ?_
      refine e_top (fun y7 ey7 => ?_)
      have Wy7 := Vh6 y7 ey7
      refine e_istore_n dX8_bytesIn_26 (by decide) (ls' := [some (.inl x0), some (.inl y7), some (.inl x2)]) rfl ?_
      obtain ⟨h8, Vh8⟩ := Wy7
      refine e_iinc dX8_bytesIn_27 (by decide) rfl h8 (ls' := [some (.inl x0), some (.inl y7), some (.inl (x2 + (-8)))]) rfl ?_
      refine e_goto (tgt := 5) dX8_bytesIn_30 (by decide) ?_
      exact Vh8
set_option maxRecDepth 100000 in
set_option maxHeartbeats 4000000 in
theorem v_X8_put4_0 {Γ : GX} {g : AG} {I J : Nat → Nat → Int} {r : Option AV} (hg : GOk g) (x1 : Int)
    (V : Ev Γ 0 mX8_put4 3 [some (.inr (some 80)), some (.inl x1), some (.inl 24)] [] (g, I) (r, (g, J))) : Ev Γ 0 mX8_put4 0 [some (.inr (some 80)), some (.inl x1), none] [] (g, I) (r, (g, J)) := by
  refine e_bipush dX8_put4_0 (by decide) ⟨by decide, by decide⟩ ?_
  refine e_istore_n dX8_put4_2 (by decide) (ls' := [some (.inr (some 80)), some (.inl x1), some (.inl 24)]) rfl ?_
  exact V
set_option maxRecDepth 100000 in
set_option maxHeartbeats 4000000 in
theorem v_X8_put4_3 {Γ : GX} {g : AG} {I J : Nat → Nat → Int} {r : Option AV} (hg : GOk g) (x1 : Int) (x2 : Int)
    (V : (((x2 < 0)) → (r = none ∧ J = I)) ∧ ((¬ (x2 < 0)) → (((¬ ((bAnd (bShr x1 x2) 255) = 0)) → (((0 : Int) ≤ (I 80 2) ∧ ((I 80 2) : Int) < 240) ∧ (∀ I3 : Nat → Nat → Int, I3 = mset I 81 (I 80 2).toNat (bByte (bByte (bShr x1 x2))) → (inR ((I3 80 2) + 1) ∧ (∀ I6 : Nat → Nat → Int, I6 = mset I3 80 2 ((I3 80 2) + 1) → (inR (x2 + (-8)) ∧ (Ev Γ 0 mX8_put4 3 [some (.inr (some 80)), some (.inl x1), some (.inl (x2 + (-8)))] [] (g, I6) (r, (g, J))))))))) ∧ ((((bAnd (bShr x1 x2) 255) = 0)) → (inR (x2 + (-8)) ∧ (Ev Γ 0 mX8_put4 3 [some (.inr (some 80)), some (.inl x1), some (.inl (x2 + (-8)))] [] (g, I) (r, (g, J)))))))) : Ev Γ 0 mX8_put4 3 [some (.inr (some 80)), some (.inl x1), some (.inl x2)] [] (g, I) (r, (g, J)) := by
  refine e_iload_n dX8_put4_3 rfl ?_
  refine e_if_lt (tgt := 49) dX8_put4_4 (by decide) (fun c1 => ?_) (fun c1 => ?_)
  · have Ac1 := V.1 c1
    exact e_vret dX8_put4_49 rfl (by rw [Ac1.1, Ac1.2])
  · have Bc1 := V.2 c1
    refine e_iload_n dX8_put4_7 rfl ?_
    refine e_iload_n dX8_put4_8 rfl ?_
    refine e_ishr dX8_put4_9 ?_
    refine e_sipush dX8_put4_10 (by decide) ⟨by decide, by decide⟩ ?_
    refine e_iand dX8_put4_13 ?_
    refine e_if_ne (tgt := 20) dX8_put4_14 (by decide) (fun c2 => ?_) (fun c2 => ?_)
    · have Ac2 := Bc1.1 c2
      refine e_aload_n dX8_put4_20 rfl ?_
      refine e_getr dX8_put4_21 fO_8_9 (by decide) (gs_80 hg) rfl (gp_80_1 hg) ?_
      refine e_aload_n dX8_put4_24 rfl ?_
      refine e_geti dX8_put4_25 fO_8_95 (by decide) (gs_80 hg) rfl ?_
      refine e_iload_n dX8_put4_28 rfl ?_
      refine e_iload_n dX8_put4_29 rfl ?_
      refine e_ishr dX8_put4_30 ?_
      refine e_i2b dX8_put4_31 ?_
      obtain ⟨h4, Vh4⟩ := Ac2
      refine e_bast dX8_put4_32 (by decide) (gs_81 hg) h4.1 h4.2 ?_
      refine e_mem (fun I3 eI3 => ?_)
      have WI3 := Vh4 I3 eI3
      refine e_aload_n dX8_put4_33 rfl ?_
      refine e_dup dX8_put4_34 ?_
      refine e_geti dX8_put4_35 fO_8_95 (by decide) (gs_80 hg) rfl ?_
      refine e_iconst dX8_put4_38 ⟨by decide, by decide⟩ ?_
      obtain ⟨h5, Vh5⟩ := WI3
      refine e_iadd dX8_put4_39 h5 ?_
      refine e_puti dX8_put4_40 fO_8_95 (by decide) (gs_80 hg) rfl rfl ?_
      refine e_mem (fun I6 eI6 => ?_)
      have WI6 := Vh5 I6 eI6
      obtain ⟨h7, Vh7⟩ := WI6
      refine e_iinc dX8_put4_43 (by decide) rfl h7 (ls' := [some (.inr (some 80)), some (.inl x1), some (.inl (x2 + (-8)))]) rfl ?_
      refine e_goto (tgt := 3) dX8_put4_46 (by decide) ?_
      exact Vh7
    · have Bc2 := Bc1.2 c2
      refine e_goto (tgt := 43) dX8_put4_17 (by decide) ?_
      obtain ⟨h8, Vh8⟩ := Bc2
      refine e_iinc dX8_put4_43 (by decide) rfl h8 (ls' := [some (.inr (some 80)), some (.inl x1), some (.inl (x2 + (-8)))]) rfl ?_
      refine e_goto (tgt := 3) dX8_put4_46 (by decide) ?_
      exact Vh8
