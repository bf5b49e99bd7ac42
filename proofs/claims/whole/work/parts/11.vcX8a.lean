set_option maxRecDepth 100000 in
set_option maxHeartbeats 4000000 in
theorem v_X8_thrown_0 {Γ : GX} {g : AG} {I J : Nat → Nat → Int} {r : Option AV} (hg : GOk g) 
    (V : r = some (.inl (I 80 0)) ∧ J = I) : Ev Γ 0 mX8_thrown 0 [some (.inr (some 80))] [] (g, I) (r, (g, J)) := by
  refine e_aload_n dX8_thrown_0 rfl ?_
  refine e_geti dX8_thrown_1 fO_8_103 (by decide) (gs_80 hg) rfl ?_
  exact e_iret dX8_thrown_4 rfl (by rw [V.1, V.2])
set_option maxRecDepth 100000 in
set_option maxHeartbeats 4000000 in
theorem v_X8_isIn_0 {Γ : GX} {g : AG} {I J : Nat → Nat → Int} {r : Option AV} (hg : GOk g) (x0 : Int) (x1 : Int) (x2 : Int)
    (V : (((x0 < x1)) → (r = some (.inl 0) ∧ J = I)) ∧ ((¬ (x0 < x1)) → ((((x2 < x0)) → (r = some (.inl 0) ∧ J = I)) ∧ ((¬ (x2 < x0)) → (r = some (.inl 1) ∧ J = I))))) : Ev Γ 0 mX8_isIn 0 [some (.inl x0), some (.inl x1), some (.inl x2)] [] (g, I) (r, (g, J)) := by
  refine e_iload_n dX8_isIn_0 rfl ?_
  refine e_iload_n dX8_isIn_1 rfl ?_
  refine e_ic_lt (tgt := 14) dX8_isIn_2 (by decide) (fun c1 => ?_) (fun c1 => ?_)
  · have Ac1 := V.1 c1
    refine e_iconst dX8_isIn_14 ⟨by decide, by decide⟩ ?_
    exact e_zret dX8_isIn_15 rfl (by decide) (by rw [Ac1.1, Ac1.2])
  · have Bc1 := V.2 c1
    refine e_iload_n dX8_isIn_5 rfl ?_
    refine e_iload_n dX8_isIn_6 rfl ?_
    refine e_ic_gt (tgt := 14) dX8_isIn_7 (by decide) (fun c2 => ?_) (fun c2 => ?_)
    · have Ac2 := Bc1.1 c2
      refine e_iconst dX8_isIn_14 ⟨by decide, by decide⟩ ?_
      exact e_zret dX8_isIn_15 rfl (by decide) (by rw [Ac2.1, Ac2.2])
    · have Bc2 := Bc1.2 c2
      refine e_iconst dX8_isIn_10 ⟨by decide, by decide⟩ ?_
      refine e_goto (tgt := 15) dX8_isIn_11 (by decide) ?_
      exact e_zret dX8_isIn_15 rfl (by decide) (by rw [Bc2.1, Bc2.2])
set_option maxRecDepth 100000 in
set_option maxHeartbeats 4000000 in
theorem v_X8_look_0 {Γ : GX} {g : AG} {I J : Nat → Nat → Int} {r : Option AV} (hg : GOk g) (u : Nat) (hu : Mt u) (cu : g.2.1 80 12 = some u)
    (V : ((((I u 1) ≤ (I 80 14))) → (((((I u 1) ≤ (I 80 14))) → (r = some (.inl (-1)) ∧ J = I)) ∧ ((¬ ((I u 1) ≤ (I 80 14))) → (((0 : Int) ≤ (I 80 14) ∧ ((I 80 14) : Int) < 240) ∧ (r = some (.inl (bAnd (I (u + 1) (I 80 14).toNat) 255)) ∧ J = I))))) ∧ ((¬ ((I u 1) ≤ (I 80 14))) → (((0 : Int) ≤ (I 80 14) ∧ ((I 80 14) : Int) < 240) ∧ (((((I (u + 1) (I 80 14).toNat) = 32)) → (inR ((I 80 14) + 1) ∧ (∀ I7 : Nat → Nat → Int, I7 = mset I 80 14 ((I 80 14) + 1) → (Ev Γ 0 mX8_look 0 [some (.inr (some 80))] [] (g, I7) (r, (g, J)))))) ∧ ((¬ ((I (u + 1) (I 80 14).toNat) = 32)) → (((0 : Int) ≤ (I 80 14) ∧ ((I 80 14) : Int) < 240) ∧ (((¬ ((I (u + 1) (I 80 14).toNat) = 10)) → (((((I u 1) ≤ (I 80 14))) → (r = some (.inl (-1)) ∧ J = I)) ∧ ((¬ ((I u 1) ≤ (I 80 14))) → (((0 : Int) ≤ (I 80 14) ∧ ((I 80 14) : Int) < 240) ∧ (r = some (.inl (bAnd (I (u + 1) (I 80 14).toNat) 255)) ∧ J = I))))) ∧ ((((I (u + 1) (I 80 14).toNat) = 10)) → (inR ((I 80 14) + 1) ∧ (∀ I13 : Nat → Nat → Int, I13 = mset I 80 14 ((I 80 14) + 1) → (Ev Γ 0 mX8_look 0 [some (.inr (some 80))] [] (g, I13) (r, (g, J))))))))))))) : Ev Γ 0 mX8_look 0 [some (.inr (some 80))] [] (g, I) (r, (g, J)) := by
  refine e_aload_n dX8_look_0 rfl ?_
  refine e_geti dX8_look_1 fO_8_106 (by decide) (gs_80 hg) rfl ?_
  refine e_aload_n dX8_look_4 rfl ?_
  refine e_getr dX8_look_5 fO_8_109 (by decide) (gs_80 hg) rfl cu ?_
  refine e_geti dX8_look_8 fO_8_112 (mt_pos hu) (mt_s0 hg hu) rfl ?_
  refine e_ic_ge (tgt := 61) dX8_look_11 (by decide) (fun c1 => ?_) (fun c1 => ?_)
  · have Ac1 := V.1 c1
    refine e_aload_n dX8_look_61 rfl ?_
    refine e_geti dX8_look_62 fO_8_106 (by decide) (gs_80 hg) rfl ?_
    refine e_aload_n dX8_look_65 rfl ?_
    refine e_getr dX8_look_66 fO_8_109 (by decide) (gs_80 hg) rfl cu ?_
    refine e_geti dX8_look_69 fO_8_112 (mt_pos hu) (mt_s0 hg hu) rfl ?_
    refine e_ic_ge (tgt := 94) dX8_look_72 (by decide) (fun c2 => ?_) (fun c2 => ?_)
    · have Ac2 := Ac1.1 c2
      refine e_iconst dX8_look_94 ⟨by decide, by decide⟩ ?_
      exact e_iret dX8_look_95 rfl (by rw [Ac2.1, Ac2.2])
    · have Bc2 := Ac1.2 c2
      refine e_aload_n dX8_look_75 rfl ?_
      refine e_getr dX8_look_76 fO_8_109 (by decide) (gs_80 hg) rfl cu ?_
      refine e_getr dX8_look_79 fO_8_113 (mt_pos hu) (mt_s0 hg hu) rfl (mt_p1 hg hu) ?_
      refine e_aload_n dX8_look_82 rfl ?_
      refine e_geti dX8_look_83 fO_8_106 (by decide) (gs_80 hg) rfl ?_
      obtain ⟨h3, Vh3⟩ := Bc2
      refine e_bald dX8_look_86 (Nat.succ_pos _) (mt_s1 hg hu) h3.1 h3.2 ?_
      refine e_sipush dX8_look_87 (by decide) ⟨by decide, by decide⟩ ?_
      refine e_iand dX8_look_90 ?_
      refine e_goto (tgt := 95) dX8_look_91 (by decide) ?_
      exact e_iret dX8_look_95 rfl (by rw [Vh3.1, Vh3.2])
  · have Bc1 := V.2 c1
    refine e_aload_n dX8_look_14 rfl ?_
    refine e_getr dX8_look_15 fO_8_109 (by decide) (gs_80 hg) rfl cu ?_
    refine e_getr dX8_look_18 fO_8_113 (mt_pos hu) (mt_s0 hg hu) rfl (mt_p1 hg hu) ?_
    refine e_aload_n dX8_look_21 rfl ?_
    refine e_geti dX8_look_22 fO_8_106 (by decide) (gs_80 hg) rfl ?_
    obtain ⟨h4, Vh4⟩ := Bc1
    refine e_bald dX8_look_25 (Nat.succ_pos _) (mt_s1 hg hu) h4.1 h4.2 ?_
    refine e_bipush dX8_look_26 (by decide) ⟨by decide, by decide⟩ ?_
    refine e_ic_eq (tgt := 48) dX8_look_28 (by decide) (fun c5 => ?_) (fun c5 => ?_)
    · have Ac5 := Vh4.1 c5
      refine e_aload_n dX8_look_48 rfl ?_
      refine e_dup dX8_look_49 ?_
      refine e_geti dX8_look_50 fO_8_106 (by decide) (gs_80 hg) rfl ?_
      refine e_iconst dX8_look_53 ⟨by decide, by decide⟩ ?_
      obtain ⟨h6, Vh6⟩ := Ac5
      refine e_iadd dX8_look_54 h6 ?_
      refine e_puti dX8_look_55 fO_8_106 (by decide) (gs_80 hg) rfl rfl ?_
      refine e_mem (fun I7 eI7 => ?_)
      have WI7 := Vh6 I7 eI7
      refine e_goto (tgt := 0) dX8_look_58 (by decide) ?_
      exact WI7
    · have Bc5 := Vh4.2 c5
      refine e_aload_n dX8_look_31 rfl ?_
      refine e_getr dX8_look_32 fO_8_109 (by decide) (gs_80 hg) rfl cu ?_
      refine e_getr dX8_look_35 fO_8_113 (mt_pos hu) (mt_s0 hg hu) rfl (mt_p1 hg hu) ?_
      refine e_aload_n dX8_look_38 rfl ?_
      refine e_geti dX8_look_39 fO_8_106 (by decide) (gs_80 hg) rfl ?_
      obtain ⟨h8, Vh8⟩ := Bc5
      refine e_bald dX8_look_42 (Nat.succ_pos _) (mt_s1 hg hu) h8.1 h8.2 ?_
      refine e_bipush dX8_look_43 (by decide) ⟨by decide, by decide⟩ ?_
      refine e_ic_ne (tgt := 61) dX8_look_45 (by decide) (fun c9 => ?_) (fun c9 => ?_)
      · have Ac9 := Vh8.1 c9
        refine e_aload_n dX8_look_61 rfl ?_
        refine e_geti dX8_look_62 fO_8_106 (by decide) (gs_80 hg) rfl ?_
        refine e_aload_n dX8_look_65 rfl ?_
        refine e_getr dX8_look_66 fO_8_109 (by decide) (gs_80 hg) rfl cu ?_
        refine e_geti dX8_look_69 fO_8_112 (mt_pos hu) (mt_s0 hg hu) rfl ?_
        refine e_ic_ge (tgt := 94) dX8_look_72 (by decide) (fun c10 => ?_) (fun c10 => ?_)
        · have Ac10 := Ac9.1 c10
          refine e_iconst dX8_look_94 ⟨by decide, by decide⟩ ?_
          exact e_iret dX8_look_95 rfl (by rw [Ac10.1, Ac10.2])
        · have Bc10 := Ac9.2 c10
          refine e_aload_n dX8_look_75 rfl ?_
          refine e_getr dX8_look_76 fO_8_109 (by decide) (gs_80 hg) rfl cu ?_
          refine e_getr dX8_look_79 fO_8_113 (mt_pos hu) (mt_s0 hg hu) rfl (mt_p1 hg hu) ?_
          refine e_aload_n dX8_look_82 rfl ?_
          refine e_geti dX8_look_83 fO_8_106 (by decide) (gs_80 hg) rfl ?_
          obtain ⟨h11, Vh11⟩ := Bc10
          refine e_bald dX8_look_86 (Nat.succ_pos _) (mt_s1 hg hu) h11.1 h11.2 ?_
          refine e_sipush dX8_look_87 (by decide) ⟨by decide, by decide⟩ ?_
          refine e_iand dX8_look_90 ?_
          refine e_goto (tgt := 95) dX8_look_91 (by decide) ?_
          exact e_iret dX8_look_95 rfl (by rw [Vh11.1, Vh11.2])
      · have Bc9 := Vh8.2 c9
        refine e_aload_n dX8_look_48 rfl ?_
        refine e_dup dX8_look_49 ?_
        refine e_geti dX8_look_50 fO_8_106 (by decide) (gs_80 hg) rfl ?_
        refine e_iconst dX8_look_53 ⟨by decide, by decide⟩ ?_
        obtain ⟨h12, Vh12⟩ := Bc9
        refine e_iadd dX8_look_54 h12 ?_
        refine e_puti dX8_look_55 fO_8_106 (by decide) (gs_80 hg) rfl rfl ?_
        refine e_mem (fun I13 eI13 => ?_)
        have WI13 := Vh12 I13 eI13
        refine e_goto (tgt := 0) dX8_look_58 (by decide) ?_
        exact WI13
set_option maxRecDepth 100000 in
set_option maxHeartbeats 4000000 in
theorem v_X8_isSmall_0 {Γ : GX} {g : AG} {I J : Nat → Nat → Int} {r : Option AV} (hg : GOk g) (x0 : Int)
    (V : (((x0 < 97)) → (r = some (.inl 0) ∧ J = I)) ∧ ((¬ (x0 < 97)) → ((((122 < x0)) → (r = some (.inl 0) ∧ J = I)) ∧ ((¬ (122 < x0)) → (r = some (.inl 1) ∧ J = I))))) : Ev Γ 0 mX8_isSmall 0 [some (.inl x0)] [] (g, I) (r, (g, J)) := by
  refine e_iload_n dX8_isSmall_0 rfl ?_
  refine e_bipush dX8_isSmall_1 (by decide) ⟨by decide, by decide⟩ ?_
  refine e_ic_lt (tgt := 16) dX8_isSmall_3 (by decide) (fun c1 => ?_) (fun c1 => ?_)
  · have Ac1 := V.1 c1
    refine e_iconst dX8_isSmall_16 ⟨by decide, by decide⟩ ?_
    exact e_zret dX8_isSmall_17 rfl (by decide) (by rw [Ac1.1, Ac1.2])
  · have Bc1 := V.2 c1
    refine e_iload_n dX8_isSmall_6 rfl ?_
    refine e_bipush dX8_isSmall_7 (by decide) ⟨by decide, by decide⟩ ?_
    refine e_ic_gt (tgt := 16) dX8_isSmall_9 (by decide) (fun c2 => ?_) (fun c2 => ?_)
    · have Ac2 := Bc1.1 c2
      refine e_iconst dX8_isSmall_16 ⟨by decide, by decide⟩ ?_
      exact e_zret dX8_isSmall_17 rfl (by decide) (by rw [Ac2.1, Ac2.2])
    · have Bc2 := Bc1.2 c2
      refine e_iconst dX8_isSmall_12 ⟨by decide, by decide⟩ ?_
      refine e_goto (tgt := 17) dX8_isSmall_13 (by decide) ?_
      exact e_zret dX8_isSmall_17 rfl (by decide) (by rw [Bc2.1, Bc2.2])
set_option maxRecDepth 100000 in
set_option maxHeartbeats 4000000 in
theorem v_X8_isAtom_0 {Γ : GX} {g : AG} {I J : Nat → Nat → Int} {r : Option AV} (hg : GOk g) (x0 : Int)
    (V : ∃ (r3 : Int) (J1 : Nat → Nat → Int), CT Γ 0 mX8_isSmall [.inl x0] (g, I) (some (.inl r3), (g, J1)) ∧ (((¬ (r3 = 0)) → (r = some (.inl 1) ∧ J = J1)) ∧ (((r3 = 0)) → ((((x0 < 48)) → (r = some (.inl 0) ∧ J = J1)) ∧ ((¬ (x0 < 48)) → ((((57 < x0)) → (r = some (.inl 0) ∧ J = J1)) ∧ ((¬ (57 < x0)) → (r = some (.inl 1) ∧ J = J1)))))))) : Ev Γ 1 mX8_isAtom 0 [some (.inl x0)] [] (g, I) (r, (g, J)) := by
  refine e_iload_n dX8_isAtom_0 rfl ?_
  obtain ⟨r3, J1, h2, Vh2⟩ := V
  refine e_calls (av := [.inl x0]) (st := []) dX8_isAtom_1 cO_8_116 oX8_isSmall rfl rfl (Nat.le_of_ble_eq_true rfl) (by decide) h2 (Nat.le_refl _) (Nat.le_refl _) rfl rfl ?_
  refine e_if_ne (tgt := 19) dX8_isAtom_4 (by decide) (fun c4 => ?_) (fun c4 => ?_)
  · have Ac4 := Vh2.1 c4
    refine e_iconst dX8_isAtom_19 ⟨by decide, by decide⟩ ?_
    refine e_goto (tgt := 24) dX8_isAtom_20 (by decide) ?_
    exact e_zret dX8_isAtom_24 rfl (by decide) (by rw [Ac4.1, Ac4.2])
  · have Bc4 := Vh2.2 c4
    refine e_iload_n dX8_isAtom_7 rfl ?_
    refine e_bipush dX8_isAtom_8 (by decide) ⟨by decide, by decide⟩ ?_
    refine e_ic_lt (tgt := 23) dX8_isAtom_10 (by decide) (fun c5 => ?_) (fun c5 => ?_)
    · have Ac5 := Bc4.1 c5
      refine e_iconst dX8_isAtom_23 ⟨by decide, by decide⟩ ?_
      exact e_zret dX8_isAtom_24 rfl (by decide) (by rw [Ac5.1, Ac5.2])
    · have Bc5 := Bc4.2 c5
      refine e_iload_n dX8_isAtom_13 rfl ?_
      refine e_bipush dX8_isAtom_14 (by decide) ⟨by decide, by decide⟩ ?_
      refine e_ic_gt (tgt := 23) dX8_isAtom_16 (by decide) (fun c6 => ?_) (fun c6 => ?_)
      · have Ac6 := Bc5.1 c6
        refine e_iconst dX8_isAtom_23 ⟨by decide, by decide⟩ ?_
        exact e_zret dX8_isAtom_24 rfl (by decide) (by rw [Ac6.1, Ac6.2])
      · have Bc6 := Bc5.2 c6
        refine e_iconst dX8_isAtom_19 ⟨by decide, by decide⟩ ?_
        refine e_goto (tgt := 24) dX8_isAtom_20 (by decide) ?_
        exact e_zret dX8_isAtom_24 rfl (by decide) (by rw [Bc6.1, Bc6.2])
set_option maxRecDepth 100000 in
set_option maxHeartbeats 4000000 in
theorem v_X8_wrong_0 {Γ : GX} {g : AG} {I J : Nat → Nat → Int} {r : Option AV} (hg : GOk g) 
    (V : ((¬ ((I 80 15) = (-1))) → (r = some (.inl 0) ∧ J = I)) ∧ ((((I 80 15) = (-1))) → (∀ I2 : Nat → Nat → Int, I2 = mset I 80 15 (I 80 14) → (r = some (.inl 0) ∧ J = I2)))) : Ev Γ 0 mX8_wrong 0 [some (.inr (some 80))] [] (g, I) (r, (g, J)) := by
  refine e_aload_n dX8_wrong_0 rfl ?_
  refine e_geti dX8_wrong_1 fO_8_119 (by decide) (gs_80 hg) rfl ?_
  refine e_iconst dX8_wrong_4 ⟨by decide, by decide⟩ ?_
  refine e_ic_ne (tgt := 16) dX8_wrong_5 (by decide) (fun c1 => ?_) (fun c1 => ?_)
  · have Ac1 := V.1 c1
    refine e_iconst dX8_wrong_16 ⟨by decide, by decide⟩ ?_
    exact e_zret dX8_wrong_17 rfl (by decide) (by rw [Ac1.1, Ac1.2])
  · have Bc1 := V.2 c1
    refine e_aload_n dX8_wrong_8 rfl ?_
    refine e_aload_n dX8_wrong_9 rfl ?_
    refine e_geti dX8_wrong_10 fO_8_106 (by decide) (gs_80 hg) rfl ?_
    refine e_puti dX8_wrong_13 fO_8_119 (by decide) (gs_80 hg) rfl rfl ?_
    refine e_mem (fun I2 eI2 => ?_)
    have WI2 := Bc1 I2 eI2
    refine e_iconst dX8_wrong_16 ⟨by decide, by decide⟩ ?_
    exact e_zret dX8_wrong_17 rfl (by decide) (by rw [WI2.1, WI2.2])
set_option maxRecDepth 100000 in
set_option maxHeartbeats 4000000 in
theorem v_X8_adds_0 {Γ : GX} {g : AG} {I J : Nat → Nat → Int} {r : Option AV} (hg : GOk g) (x1 : Int) (x2 : Int) (u : Nat) (hu : Mt u) (cu : g.2.1 80 12 = some u)
    (V : ∀ y1 : Int, y1 = (I u 2) → (inR ((I u 2) + 1) ∧ (∀ I3 : Nat → Nat → Int, I3 = mset I u 2 ((I u 2) + 1) → (((0 : Int) ≤ y1 ∧ (y1 : Int) < 240) ∧ (∀ I4 : Nat → Nat → Int, I4 = mset I3 (u + 2) y1.toNat x1 → (((0 : Int) ≤ y1 ∧ (y1 : Int) < 240) ∧ (∀ I6 : Nat → Nat → Int, I6 = mset I4 (u + 3) y1.toNat (I4 80 14) → (((0 : Int) ≤ y1 ∧ (y1 : Int) < 240) ∧ (∀ I8 : Nat → Nat → Int, I8 = mset I6 (u + 7) y1.toNat x2 → (((0 : Int) ≤ y1 ∧ (y1 : Int) < 240) ∧ (∀ I10 : Nat → Nat → Int, I10 = mset I8 (u + 6) y1.toNat 0 → (((0 : Int) ≤ y1 ∧ (y1 : Int) < 240) ∧ (∀ I12 : Nat → Nat → Int, I12 = mset I10 (u + 9) y1.toNat 0 → (((0 : Int) ≤ y1 ∧ (y1 : Int) < 240) ∧ (∀ I14 : Nat → Nat → Int, I14 = mset I12 (u + 8) y1.toNat (-1) → ((((x2 = (-1))) → (r = some (.inl y1) ∧ J = I14)) ∧ ((¬ (x2 = (-1))) → (((0 : Int) ≤ x2 ∧ (x2 : Int) < 240) ∧ (inR ((I14 (u + 6) x2.toNat) + 1) ∧ (((0 : Int) ≤ x2 ∧ (x2 : Int) < 240) ∧ (∀ I19 : Nat → Nat → Int, I19 = mset I14 (u + 6) x2.toNat ((I14 (u + 6) x2.toNat) + 1) → (r = some (.inl y1) ∧ J = I19)))))))))))))))))))))) : Ev Γ 0 mX8_adds 0 [some (.inr (some 80)), some (.inl x1), some (.inl x2), none] [] (g, I) (r, (g, J)) := by
  refine e_aload_n dX8_adds_0 rfl ?_
  refine e_getr dX8_adds_1 fO_8_109 (by decide) (gs_80 hg) rfl cu ?_
  refine e_geti dX8_adds_4 fO_8_122 (mt_pos hu) (mt_s0 hg hu) rfl ?_
  refine e_top (fun y1 ey1 => ?_)
  have Wy1 := V y1 ey1
  refine e_istore_n dX8_adds_7 (by decide) (ls' := [some (.inr (some 80)), some (.inl x1), some (.inl x2), some (.inl y1)]) rfl ?_
  refine e_aload_n dX8_adds_8 rfl ?_
  refine e_getr dX8_adds_9 fO_8_109 (by decide) (gs_80 hg) rfl cu ?_
  refine e_dup dX8_adds_12 ?_
  refine e_geti dX8_adds_13 fO_8_122 (mt_pos hu) (mt_s0 hg hu) rfl ?_
  refine e_iconst dX8_adds_16 ⟨by decide, by decide⟩ ?_
  obtain ⟨h2, Vh2⟩ := Wy1
  refine e_iadd dX8_adds_17 h2 ?_
  refine e_puti dX8_adds_18 fO_8_122 (mt_pos hu) (mt_s0 hg hu) rfl rfl ?_
  refine e_mem (fun I3 eI3 => ?_)
  have WI3 := Vh2 I3 eI3
  refine e_aload_n dX8_adds_21 rfl ?_
  refine e_getr dX8_adds_22 fO_8_109 (by decide) (gs_80 hg) rfl cu ?_
  refine e_getr dX8_adds_25 fO_8_125 (mt_pos hu) (mt_s0 hg hu) rfl (mt_p2 hg hu) ?_
  refine e_iload_n dX8_adds_28 rfl ?_
  refine e_iload_n dX8_adds_29 rfl ?_
  obtain ⟨h5, Vh5⟩ := WI3
  refine e_iast dX8_adds_30 (Nat.succ_pos _) (mt_s2 hg hu) h5.1 h5.2 ?_
  refine e_mem (fun I4 eI4 => ?_)
  have WI4 := Vh5 I4 eI4
  refine e_aload_n dX8_adds_31 rfl ?_
  refine e_getr dX8_adds_32 fO_8_109 (by decide) (gs_80 hg) rfl cu ?_
  refine e_getr dX8_adds_35 fO_8_128 (mt_pos hu) (mt_s0 hg hu) rfl (mt_p3 hg hu) ?_
  refine e_iload_n dX8_adds_38 rfl ?_
  refine e_aload_n dX8_adds_39 rfl ?_
  refine e_geti dX8_adds_40 fO_8_106 (by decide) (gs_80 hg) rfl ?_
  obtain ⟨h7, Vh7⟩ := WI4
  refine e_iast dX8_adds_43 (Nat.succ_pos _) (mt_s3 hg hu) h7.1 h7.2 ?_
  refine e_mem (fun I6 eI6 => ?_)
  have WI6 := Vh7 I6 eI6
  refine e_aload_n dX8_adds_44 rfl ?_
  refine e_getr dX8_adds_45 fO_8_109 (by decide) (gs_80 hg) rfl cu ?_
  refine e_getr dX8_adds_48 fO_8_131 (mt_pos hu) (mt_s0 hg hu) rfl (mt_p7 hg hu) ?_
  refine e_iload_n dX8_adds_51 rfl ?_
  refine e_iload_n dX8_adds_52 rfl ?_
  obtain ⟨h9, Vh9⟩ := WI6
  refine e_iast dX8_adds_53 (Nat.succ_pos _) (mt_s7 hg hu) h9.1 h9.2 ?_
  refine e_mem (fun I8 eI8 => ?_)
  have WI8 := Vh9 I8 eI8
  refine e_aload_n dX8_adds_54 rfl ?_
  refine e_getr dX8_adds_55 fO_8_109 (by decide) (gs_80 hg) rfl cu ?_
  refine e_getr dX8_adds_58 fO_8_134 (mt_pos hu) (mt_s0 hg hu) rfl (mt_p6 hg hu) ?_
  refine e_iload_n dX8_adds_61 rfl ?_
  refine e_iconst dX8_adds_62 ⟨by decide, by decide⟩ ?_
  obtain ⟨h11, Vh11⟩ := WI8
  refine e_iast dX8_adds_63 (Nat.succ_pos _) (mt_s6 hg hu) h11.1 h11.2 ?_
  refine e_mem (fun I10 eI10 => ?_)
  have WI10 := Vh11 I10 eI10
  refine e_aload_n dX8_adds_64 rfl ?_
  refine e_getr dX8_adds_65 fO_8_109 (by decide) (gs_80 hg) rfl cu ?_
  refine e_getr dX8_adds_68 fO_8_137 (mt_pos hu) (mt_s0 hg hu) rfl (mt_p9 hg hu) ?_
  refine e_iload_n dX8_adds_71 rfl ?_
  refine e_iconst dX8_adds_72 ⟨by decide, by decide⟩ ?_
  obtain ⟨h13, Vh13⟩ := WI10
  refine e_zast dX8_adds_73 (Nat.succ_pos _) (mt_s9 hg hu) h13.1 h13.2 (by decide) ?_
  refine e_mem (fun I12 eI12 => ?_)
  have WI12 := Vh13 I12 eI12
  refine e_aload_n dX8_adds_74 rfl ?_
  refine e_getr dX8_adds_75 fO_8_109 (by decide) (gs_80 hg) rfl cu ?_
  refine e_getr dX8_adds_78 fO_8_140 (mt_pos hu) (mt_s0 hg hu) rfl (mt_p8 hg hu) ?_
  refine e_iload_n dX8_adds_81 rfl ?_
  refine e_iconst dX8_adds_82 ⟨by decide, by decide⟩ ?_
  obtain ⟨h15, Vh15⟩ := WI12
  refine e_iast dX8_adds_83 (Nat.succ_pos _) (mt_s8 hg hu) h15.1 h15.2 ?_
  refine e_mem (fun I14 eI14 => ?_)
  have WI14 := Vh15 I14 eI14
  refine e_iload_n dX8_adds_84 rfl ?_
  refine e_iconst dX8_adds_85 ⟨by decide, by decide⟩ ?_
  refine e_ic_eq (tgt := 102) dX8_adds_86 (by decide) (fun c16 => ?_) (fun c16 => ?_)
  · have Ac16 := WI14.1 c16
    refine e_iload_n dX8_adds_102 rfl ?_
    exact e_iret dX8_adds_103 rfl (by rw [Ac16.1, Ac16.2])
  · have Bc16 := WI14.2 c16
    refine e_aload_n dX8_adds_89 rfl ?_
    refine e_getr dX8_adds_90 fO_8_109 (by decide) (gs_80 hg) rfl cu ?_
    refine e_getr dX8_adds_93 fO_8_134 (mt_pos hu) (mt_s0 hg hu) rfl (mt_p6 hg hu) ?_
    refine e_iload_n dX8_adds_96 rfl ?_
    refine e_dup2 dX8_adds_97 ?_
    obtain ⟨h17, Vh17⟩ := Bc16
    refine e_iald dX8_adds_98 (Nat.succ_pos _) (mt_s6 hg hu) h17.1 h17.2 ?_
    refine e_iconst dX8_adds_99 ⟨by decide, by decide⟩ ?_
    obtain ⟨h18, Vh18⟩ := Vh17
    refine e_iadd dX8_adds_100 h18 ?_
    obtain ⟨h20, Vh20⟩ := Vh18
    refine e_iast dX8_adds_101 (Nat.succ_pos _) (mt_s6 hg hu) h20.1 h20.2 ?_
    refine e_mem (fun I19 eI19 => ?_)
    have WI19 := Vh20 I19 eI19
    refine e_iload_n dX8_adds_102 rfl ?_
    exact e_iret dX8_adds_103 rfl (by rw [WI19.1, WI19.2])
set_option maxRecDepth 100000 in
set_option maxHeartbeats 4000000 in
theorem v_X8_opens_0 {Γ : GX} {g : AG} {I J : Nat → Nat → Int} {r : Option AV} (hg : GOk g) 
    (V : ((¬ ((I 80 16) = 12)) → (inR ((I 80 16) + 1) ∧ (∀ I3 : Nat → Nat → Int, I3 = mset I 80 16 ((I 80 16) + 1) → (inR ((I3 80 14) + 1) ∧ (∀ I5 : Nat → Nat → Int, I5 = mset I3 80 14 ((I3 80 14) + 1) → (r = some (.inl 1) ∧ J = I5)))))) ∧ ((((I 80 16) = 12)) → (∃ (r8 : Int) (J6 : Nat → Nat → Int), CT Γ 0 mX8_wrong [.inr (some 80)] (g, I) (some (.inl r8), (g, J6)) ∧ ((r8 = 0 ∨ r8 = 1) ∧ r = some (.inl r8) ∧ J = J6)))) : Ev Γ 1 mX8_opens 0 [some (.inr (some 80))] [] (g, I) (r, (g, J)) := by
  refine e_aload_n dX8_opens_0 rfl ?_
  refine e_geti dX8_opens_1 fO_8_143 (by decide) (gs_80 hg) rfl ?_
  refine e_bipush dX8_opens_4 (by decide) ⟨by decide, by decide⟩ ?_
  refine e_ic_ne (tgt := 14) dX8_opens_6 (by decide) (fun c1 => ?_) (fun c1 => ?_)
  · have Ac1 := V.1 c1
    refine e_aload_n dX8_opens_14 rfl ?_
    refine e_dup dX8_opens_15 ?_
    refine e_geti dX8_opens_16 fO_8_143 (by decide) (gs_80 hg) rfl ?_
    refine e_iconst dX8_opens_19 ⟨by decide, by decide⟩ ?_
    obtain ⟨h2, Vh2⟩ := Ac1
    refine e_iadd dX8_opens_20 h2 ?_
    refine e_puti dX8_opens_21 fO_8_143 (by decide) (gs_80 hg) rfl rfl ?_
    refine e_mem (fun I3 eI3 => ?_)
    have WI3 := Vh2 I3 eI3
    refine e_aload_n dX8_opens_24 rfl ?_
    refine e_dup dX8_opens_25 ?_
    refine e_geti dX8_opens_26 fO_8_106 (by decide) (gs_80 hg) rfl ?_
    refine e_iconst dX8_opens_29 ⟨by decide, by decide⟩ ?_
    obtain ⟨h4, Vh4⟩ := WI3
    refine e_iadd dX8_opens_30 h4 ?_
    refine e_puti dX8_opens_31 fO_8_106 (by decide) (gs_80 hg) rfl rfl ?_
    refine e_mem (fun I5 eI5 => ?_)
    have WI5 := Vh4 I5 eI5
    refine e_iconst dX8_opens_34 ⟨by decide, by decide⟩ ?_
    exact e_zret dX8_opens_35 rfl (by decide) (by rw [WI5.1, WI5.2])
  · have Bc1 := V.2 c1
    refine e_aload_n dX8_opens_9 rfl ?_
    obtain ⟨r8, J6, h7, Vh7⟩ := Bc1
    refine e_callv (av := []) (st := []) dX8_opens_10 cO_8_146 oX8_wrong rfl (by decide) (gs_80 hg) rfl (Nat.le_of_ble_eq_true rfl) (by decide) h7 (Nat.le_refl _) (Nat.le_refl _) rfl rfl ?_
    exact e_zret dX8_opens_13 rfl Vh7.1 (by rw [Vh7.2.1, Vh7.2.2])
set_option maxRecDepth 100000 in
set_option maxHeartbeats 4000000 in
theorem v_X8_lettered_0 {Γ : GX} {g : AG} {I J : Nat → Nat → Int} {r : Option AV} (hg : GOk g) (x1 : Int) (x2 : Int) (u : Nat) (hu : Mt u) (cu : g.2.1 80 12 = some u)
    (V : ∀ y1 : Int, y1 = (I 80 14) → (inR ((I 80 14) + 1) ∧ (∀ I3 : Nat → Nat → Int, I3 = mset I 80 14 ((I 80 14) + 1) → (((((I3 u 1) ≤ (I3 80 14))) → (∃ (r7 : Int) (J5 : Nat → Nat → Int), CT Γ 0 mX8_isSmall [.inl (-1)] (g, I3) (some (.inl r7), (g, J5)) ∧ (((¬ (r7 = 0)) → (inR ((-1) - 97) ∧ (∀ y10 : Int, y10 = ((-1) - 97) → (∀ I11 : Nat → Nat → Int, I11 = mset J5 80 14 y1 → (((0 : Int) ≤ y10 ∧ (y10 : Int) < 26) ∧ (((((I11 135 y10.toNat) = (-1))) → (((0 : Int) ≤ y10 ∧ (y10 : Int) < 26) ∧ (∀ I14 : Nat → Nat → Int, I14 = mset I11 135 y10.toNat x1 → (∃ (r18 : Int) (J16 : Nat → Nat → Int), CT Γ 0 mX8_adds [.inr (some 80), .inl x1, .inl x2] (g, I14) (some (.inl r18), (g, J16)) ∧ (((0 : Int) ≤ r18 ∧ (r18 : Int) < 240) ∧ (∀ I19 : Nat → Nat → Int, I19 = mset J16 (u + 8) r18.toNat y10 → (inR ((I19 80 14) + 2) ∧ (∀ I22 : Nat → Nat → Int, I22 = mset I19 80 14 ((I19 80 14) + 2) → (((0 : Int) ≤ r18 ∧ (r18 : Int) < 240) ∧ (∀ I23 : Nat → Nat → Int, I23 = mset I22 (u + 4) r18.toNat (I22 80 14) → (r = some (.inl 1) ∧ J = I23))))))))))) ∧ ((¬ ((I11 135 y10.toNat) = (-1))) → (((0 : Int) ≤ y10 ∧ (y10 : Int) < 26) ∧ (((((I11 135 y10.toNat) = x1)) → (((0 : Int) ≤ y10 ∧ (y10 : Int) < 26) ∧ (∀ I27 : Nat → Nat → Int, I27 = mset I11 135 y10.toNat x1 → (∃ (r31 : Int) (J29 : Nat → Nat → Int), CT Γ 0 mX8_adds [.inr (some 80), .inl x1, .inl x2] (g, I27) (some (.inl r31), (g, J29)) ∧ (((0 : Int) ≤ r31 ∧ (r31 : Int) < 240) ∧ (∀ I32 : Nat → Nat → Int, I32 = mset J29 (u + 8) r31.toNat y10 → (inR ((I32 80 14) + 2) ∧ (∀ I35 : Nat → Nat → Int, I35 = mset I32 80 14 ((I32 80 14) + 2) → (((0 : Int) ≤ r31 ∧ (r31 : Int) < 240) ∧ (∀ I36 : Nat → Nat → Int, I36 = mset I35 (u + 4) r31.toNat (I35 80 14) → (r = some (.inl 1) ∧ J = I36))))))))))) ∧ ((¬ ((I11 135 y10.toNat) = x1)) → (∃ (r40 : Int) (J38 : Nat → Nat → Int), CT Γ 0 mX8_wrong [.inr (some 80)] (g, I11) (some (.inl r40), (g, J38)) ∧ ((r40 = 0 ∨ r40 = 1) ∧ r = some (.inl r40) ∧ J = J38)))))))))))) ∧ (((r7 = 0)) → (∃ (r43 : Int) (J41 : Nat → Nat → Int), CT Γ 0 mX8_wrong [.inr (some 80)] (g, J5) (some (.inl r43), (g, J41)) ∧ ((r43 = 0 ∨ r43 = 1) ∧ r = some (.inl r43) ∧ J = J41)))))) ∧ ((¬ ((I3 u 1) ≤ (I3 80 14))) → (((0 : Int) ≤ (I3 80 14) ∧ ((I3 80 14) : Int) < 240) ∧ (∀ y45 : Int, y45 = (bAnd (I3 (u + 1) (I3 80 14).toNat) 255) → (∃ (r48 : Int) (J46 : Nat → Nat → Int), CT Γ 0 mX8_isSmall [.inl y45] (g, I3) (some (.inl r48), (g, J46)) ∧ (((¬ (r48 = 0)) → (inR (y45 - 97) ∧ (∀ y51 : Int, y51 = (y45 - 97) → (∀ I52 : Nat → Nat → Int, I52 = mset J46 80 14 y1 → (((0 : Int) ≤ y51 ∧ (y51 : Int) < 26) ∧ (((((I52 135 y51.toNat) = (-1))) → (((0 : Int) ≤ y51 ∧ (y51 : Int) < 26) ∧ (∀ I55 : Nat → Nat → Int, I55 = mset I52 135 y51.toNat x1 → (∃ (r59 : Int) (J57 : Nat → Nat → Int), CT Γ 0 mX8_adds [.inr (some 80), .inl x1, .inl x2] (g, I55) (some (.inl r59), (g, J57)) ∧ (((0 : Int) ≤ r59 ∧ (r59 : Int) < 240) ∧ (∀ I60 : Nat → Nat → Int, I60 = mset J57 (u + 8) r59.toNat y51 → (inR ((I60 80 14) + 2) ∧ (∀ I63 : Nat → Nat → Int, I63 = mset I60 80 14 ((I60 80 14) + 2) → (((0 : Int) ≤ r59 ∧ (r59 : Int) < 240) ∧ (∀ I64 : Nat → Nat → Int, I64 = mset I63 (u + 4) r59.toNat (I63 80 14) → (r = some (.inl 1) ∧ J = I64))))))))))) ∧ ((¬ ((I52 135 y51.toNat) = (-1))) → (((0 : Int) ≤ y51 ∧ (y51 : Int) < 26) ∧ (((((I52 135 y51.toNat) = x1)) → (((0 : Int) ≤ y51 ∧ (y51 : Int) < 26) ∧ (∀ I68 : Nat → Nat → Int, I68 = mset I52 135 y51.toNat x1 → (∃ (r72 : Int) (J70 : Nat → Nat → Int), CT Γ 0 mX8_adds [.inr (some 80), .inl x1, .inl x2] (g, I68) (some (.inl r72), (g, J70)) ∧ (((0 : Int) ≤ r72 ∧ (r72 : Int) < 240) ∧ (∀ I73 : Nat → Nat → Int, I73 = mset J70 (u + 8) r72.toNat y51 → (inR ((I73 80 14) + 2) ∧ (∀ I76 : Nat → Nat → Int, I76 = mset I73 80 14 ((I73 80 14) + 2) → (((0 : Int) ≤ r72 ∧ (r72 : Int) < 240) ∧ (∀ I77 : Nat → Nat → Int, I77 = mset I76 (u + 4) r72.toNat (I76 80 14) → (r = some (.inl 1) ∧ J = I77))))))))))) ∧ ((¬ ((I52 135 y51.toNat) = x1)) → (∃ (r81 : Int) (J79 : Nat → Nat → Int), CT Γ 0 mX8_wrong [.inr (some 80)] (g, I52) (some (.inl r81), (g, J79)) ∧ ((r81 = 0 ∨ r81 = 1) ∧ r = some (.inl r81) ∧ J = J79)))))))))))) ∧ (((r48 = 0)) → (∃ (r84 : Int) (J82 : Nat → Nat → Int), CT Γ 0 mX8_wrong [.inr (some 80)] (g, J46) (some (.inl r84), (g, J82)) ∧ ((r84 = 0 ∨ r84 = 1) ∧ r = some (.inl r84) ∧ J = J82)))))))))))) : Ev Γ 1 mX8_lettered 0 [some (.inr (some 80)), some (.inl x1), some (.inl x2), none, none, none, none] [] (g, I) (r, (g, J)) := by
  refine e_aload_n dX8_lettered_0 rfl ?_
  refine e_geti dX8_lettered_1 fO_8_106 (by decide) (gs_80 hg) rfl ?_
  refine e_top (fun y1 ey1 => ?_)
  have Wy1 := V y1 ey1
  refine e_istore_n dX8_lettered_4 (by decide) (ls' := [some (.inr (some 80)), some (.inl x1), some (.inl x2), some (.inl y1), none, none, none]) rfl ?_
  refine e_aload_n dX8_lettered_5 rfl ?_
  refine e_dup dX8_lettered_6 ?_
  refine e_geti dX8_lettered_7 fO_8_106 (by decide) (gs_80 hg) rfl ?_
  refine e_iconst dX8_lettered_10 ⟨by decide, by decide⟩ ?_
  obtain ⟨h2, Vh2⟩ := Wy1
  refine e_iadd dX8_lettered_11 h2 ?_
  refine e_puti dX8_lettered_12 fO_8_106 (by decide) (gs_80 hg) rfl rfl ?_
  refine e_mem (fun I3 eI3 => ?_)
  have WI3 := Vh2 I3 eI3
  refine e_aload_n dX8_lettered_15 rfl ?_
  refine e_geti dX8_lettered_16 fO_8_106 (by decide) (gs_80 hg) rfl ?_
  refine e_aload_n dX8_lettered_19 rfl ?_
  refine e_getr dX8_lettered_20 fO_8_109 (by decide) (gs_80 hg) rfl cu ?_
  refine e_geti dX8_lettered_23 fO_8_112 (mt_pos hu) (mt_s0 hg hu) rfl ?_
  refine e_ic_ge (tgt := 48) dX8_lettered_26 (by decide) (fun c4 => ?_) (fun c4 => ?_)
  · have Ac4 := WI3.1 c4
    refine e_iconst dX8_lettered_48 ⟨by decide, by decide⟩ ?_
    refine e_istore dX8_lettered_49 (by decide) (ls' := [some (.inr (some 80)), some (.inl x1), some (.inl x2), some (.inl y1), some (.inl (-1)), none, none]) rfl ?_
    refine e_iload dX8_lettered_51 rfl ?_
    obtain ⟨r7, J5, h6, Vh6⟩ := Ac4
    refine e_calls (av := [.inl (-1)]) (st := []) dX8_lettered_53 cO_8_116 oX8_isSmall rfl rfl (Nat.le_of_ble_eq_true rfl) (by decide) h6 (Nat.le_refl _) (Nat.le_refl _) rfl rfl ?_
    refine e_if_ne (tgt := 64) dX8_lettered_56 (by decide) (fun c8 => ?_) (fun c8 => ?_)
    · have Ac8 := Vh6.1 c8
      refine e_iload dX8_lettered_64 rfl ?_
      refine e_bipush dX8_lettered_66 (by decide) ⟨by decide, by decide⟩ ?_
      obtain ⟨h9, Vh9⟩ := Ac8
      refine e_isub dX8_lettered_68 h9 ?_
      refine e_top (fun y10 ey10 => ?_)
      have Wy10 := Vh9 y10 ey10
      refine e_istore dX8_lettered_69 (by decide) (ls' := [some (.inr (some 80)), some (.inl x1), some (.inl x2), some (.inl y1), some (.inl (-1)), some (.inl y10), none]) rfl ?_
      refine e_aload_n dX8_lettered_71 rfl ?_
      refine e_iload_n dX8_lettered_72 rfl ?_
      refine e_puti dX8_lettered_73 fO_8_106 (by decide) (gs_80 hg) rfl rfl ?_
      refine e_mem (fun I11 eI11 => ?_)
      have WI11 := Wy10 I11 eI11
      refine e_aload_n dX8_lettered_76 rfl ?_
      refine e_getr dX8_lettered_77 fO_8_43 (by decide) (gs_80 hg) rfl (gp_80_20 hg) ?_
      refine e_iload dX8_lettered_80 rfl ?_
      obtain ⟨h12, Vh12⟩ := WI11
      refine e_iald dX8_lettered_82 (by decide) (gs_135 hg) h12.1 h12.2 ?_
      refine e_iconst dX8_lettered_83 ⟨by decide, by decide⟩ ?_
      refine e_ic_eq (tgt := 103) dX8_lettered_84 (by decide) (fun c13 => ?_) (fun c13 => ?_)
      · have Ac13 := Vh12.1 c13
        refine e_aload_n dX8_lettered_103 rfl ?_
        refine e_getr dX8_lettered_104 fO_8_43 (by decide) (gs_80 hg) rfl (gp_80_20 hg) ?_
        refine e_iload dX8_lettered_107 rfl ?_
        refine e_iload_n dX8_lettered_109 rfl ?_
        obtain ⟨h15, Vh15⟩ := Ac13
        refine e_iast dX8_lettered_110 (by decide) (gs_135 hg) h15.1 h15.2 ?_
        refine e_mem (fun I14 eI14 => ?_)
        have WI14 := Vh15 I14 eI14
        refine e_aload_n dX8_lettered_111 rfl ?_
        refine e_iload_n dX8_lettered_112 rfl ?_
        refine e_iload_n dX8_lettered_113 rfl ?_
        obtain ⟨r18, J16, h17, Vh17⟩ := WI14
        refine e_callv (av := [.inl x1, .inl x2]) (st := []) dX8_lettered_114 cO_8_150 oX8_adds rfl (by decide) (gs_80 hg) rfl (Nat.le_of_ble_eq_true rfl) (by decide) h17 (Nat.le_refl _) (Nat.le_refl _) rfl rfl ?_
        refine e_istore dX8_lettered_117 (by decide) (ls' := [some (.inr (some 80)), some (.inl x1), some (.inl x2), some (.inl y1), some (.inl (-1)), some (.inl y10), some (.inl r18)]) rfl ?_
        refine e_aload_n dX8_lettered_119 rfl ?_
        refine e_getr dX8_lettered_120 fO_8_109 (by decide) (gs_80 hg) rfl cu ?_
        refine e_getr dX8_lettered_123 fO_8_140 (mt_pos hu) (mt_s0 hg hu) rfl (mt_p8 hg hu) ?_
        refine e_iload dX8_lettered_126 rfl ?_
        refine e_iload dX8_lettered_128 rfl ?_
        obtain ⟨h20, Vh20⟩ := Vh17
        refine e_iast dX8_lettered_130 (Nat.succ_pos _) (mt_s8 hg hu) h20.1 h20.2 ?_
        refine e_mem (fun I19 eI19 => ?_)
        have WI19 := Vh20 I19 eI19
        refine e_aload_n dX8_lettered_131 rfl ?_
        refine e_dup dX8_lettered_132 ?_
        refine e_geti dX8_lettered_133 fO_8_106 (by decide) (gs_80 hg) rfl ?_
        refine e_iconst dX8_lettered_136 ⟨by decide, by decide⟩ ?_
        obtain ⟨h21, Vh21⟩ := WI19
        refine e_iadd dX8_lettered_137 h21 ?_
        refine e_puti dX8_lettered_138 fO_8_106 (by decide) (gs_80 hg) rfl rfl ?_
        refine e_mem (fun I22 eI22 => ?_)
        have WI22 := Vh21 I22 eI22
        refine e_aload_n dX8_lettered_141 rfl ?_
        refine e_getr dX8_lettered_142 fO_8_109 (by decide) (gs_80 hg) rfl cu ?_
        refine e_getr dX8_lettered_145 fO_8_154 (mt_pos hu) (mt_s0 hg hu) rfl (mt_p4 hg hu) ?_
        refine e_iload dX8_lettered_148 rfl ?_
        refine e_aload_n dX8_lettered_150 rfl ?_
        refine e_geti dX8_lettered_151 fO_8_106 (by decide) (gs_80 hg) rfl ?_
        obtain ⟨h24, Vh24⟩ := WI22
        refine e_iast dX8_lettered_154 (Nat.succ_pos _) (mt_s4 hg hu) h24.1 h24.2 ?_
        refine e_mem (fun I23 eI23 => ?_)
        have WI23 := Vh24 I23 eI23
        refine e_iconst dX8_lettered_155 ⟨by decide, by decide⟩ ?_
        exact e_zret dX8_lettered_156 rfl (by decide) (by rw [WI23.1, WI23.2])
      · have Bc13 := Vh12.2 c13
        refine e_aload_n dX8_lettered_87 rfl ?_
        refine e_getr dX8_lettered_88 fO_8_43 (by decide) (gs_80 hg) rfl (gp_80_20 hg) ?_
        refine e_iload dX8_lettered_91 rfl ?_
        obtain ⟨h25, Vh25⟩ := Bc13
        refine e_iald dX8_lettered_93 (by decide) (gs_135 hg) h25.1 h25.2 ?_
        refine e_iload_n dX8_lettered_94 rfl ?_
        refine e_ic_eq (tgt := 103) dX8_lettered_95 (by decide) (fun c26 => ?_) (fun c26 => ?_)
        · have Ac26 := Vh25.1 c26
          refine e_aload_n dX8_lettered_103 rfl ?_
          refine e_getr dX8_lettered_104 fO_8_43 (by decide) (gs_80 hg) rfl (gp_80_20 hg) ?_
          refine e_iload dX8_lettered_107 rfl ?_
          refine e_iload_n dX8_lettered_109 rfl ?_
          obtain ⟨h28, Vh28⟩ := Ac26
          refine e_iast dX8_lettered_110 (by decide) (gs_135 hg) h28.1 h28.2 ?_
          refine e_mem (fun I27 eI27 => ?_)
          have WI27 := Vh28 I27 eI27
          refine e_aload_n dX8_lettered_111 rfl ?_
          refine e_iload_n dX8_lettered_112 rfl ?_
          refine e_iload_n dX8_lettered_113 rfl ?_
          obtain ⟨r31, J29, h30, Vh30⟩ := WI27
          refine e_callv (av := [.inl x1, .inl x2]) (st := []) dX8_lettered_114 cO_8_150 oX8_adds rfl (by decide) (gs_80 hg) rfl (Nat.le_of_ble_eq_true rfl) (by decide) h30 (Nat.le_refl _) (Nat.le_refl _) rfl rfl ?_
          refine e_istore dX8_lettered_117 (by decide) (ls' := [some (.inr (some 80)), some (.inl x1), some (.inl x2), some (.inl y1), some (.inl (-1)), some (.inl y10), some (.inl r31)]) rfl ?_
          refine e_aload_n dX8_lettered_119 rfl ?_
          refine e_getr dX8_lettered_120 fO_8_109 (by decide) (gs_80 hg) rfl cu ?_
          refine e_getr dX8_lettered_123 fO_8_140 (mt_pos hu) (mt_s0 hg hu) rfl (mt_p8 hg hu) ?_
          refine e_iload dX8_lettered_126 rfl ?_
          refine e_iload dX8_lettered_128 rfl ?_
          obtain ⟨h33, Vh33⟩ := Vh30
          refine e_iast dX8_lettered_130 (Nat.succ_pos _) (mt_s8 hg hu) h33.1 h33.2 ?_
          refine e_mem (fun I32 eI32 => ?_)
          have WI32 := Vh33 I32 eI32
          refine e_aload_n dX8_lettered_131 rfl ?_
          refine e_dup dX8_lettered_132 ?_
          refine e_geti dX8_lettered_133 fO_8_106 (by decide) (gs_80 hg) rfl ?_
          refine e_iconst dX8_lettered_136 ⟨by decide, by decide⟩ ?_
          obtain ⟨h34, Vh34⟩ := WI32
          refine e_iadd dX8_lettered_137 h34 ?_
          refine e_puti dX8_lettered_138 fO_8_106 (by decide) (gs_80 hg) rfl rfl ?_
          refine e_mem (fun I35 eI35 => ?_)
          have WI35 := Vh34 I35 eI35
          refine e_aload_n dX8_lettered_141 rfl ?_
          refine e_getr dX8_lettered_142 fO_8_109 (by decide) (gs_80 hg) rfl cu ?_
          refine e_getr dX8_lettered_145 fO_8_154 (mt_pos hu) (mt_s0 hg hu) rfl (mt_p4 hg hu) ?_
          refine e_iload dX8_lettered_148 rfl ?_
          refine e_aload_n dX8_lettered_150 rfl ?_
          refine e_geti dX8_lettered_151 fO_8_106 (by decide) (gs_80 hg) rfl ?_
          obtain ⟨h37, Vh37⟩ := WI35
          refine e_iast dX8_lettered_154 (Nat.succ_pos _) (mt_s4 hg hu) h37.1 h37.2 ?_
          refine e_mem (fun I36 eI36 => ?_)
          have WI36 := Vh37 I36 eI36
          refine e_iconst dX8_lettered_155 ⟨by decide, by decide⟩ ?_
          exact e_zret dX8_lettered_156 rfl (by decide) (by rw [WI36.1, WI36.2])
        · have Bc26 := Vh25.2 c26
          refine e_aload_n dX8_lettered_98 rfl ?_
          obtain ⟨r40, J38, h39, Vh39⟩ := Bc26
          refine e_callv (av := []) (st := []) dX8_lettered_99 cO_8_146 oX8_wrong rfl (by decide) (gs_80 hg) rfl (Nat.le_of_ble_eq_true rfl) (by decide) h39 (Nat.le_refl _) (Nat.le_refl _) rfl rfl ?_
          exact e_zret dX8_lettered_102 rfl Vh39.1 (by rw [Vh39.2.1, Vh39.2.2])
    · have Bc8 := Vh6.2 c8
      refine e_aload_n dX8_lettered_59 rfl ?_
      obtain ⟨r43, J41, h42, Vh42⟩ := Bc8
      refine e_callv (av := []) (st := []) dX8_lettered_60 cO_8_146 oX8_wrong rfl (by decide) (gs_80 hg) rfl (Nat.le_of_ble_eq_true rfl) (by decide) h42 (Nat.le_refl _) (Nat.le_refl _) rfl rfl ?_
      exact e_zret dX8_lettered_63 rfl Vh42.1 (by rw [Vh42.2.1, Vh42.2.2])
  · have Bc4 := WI3.2 c4
    refine e_aload_n dX8_lettered_29 rfl ?_
    refine e_getr dX8_lettered_30 fO_8_109 (by decide) (gs_80 hg) rfl cu ?_
    refine e_getr dX8_lettered_33 fO_8_113 (mt_pos hu) (mt_s0 hg hu) rfl (mt_p1 hg hu) ?_
    refine e_aload_n dX8_lettered_36 rfl ?_
    refine e_geti dX8_lettered_37 fO_8_106 (by decide) (gs_80 hg) rfl ?_
    obtain ⟨h44, Vh44⟩ := Bc4
    refine e_bald dX8_lettered_40 (Nat.succ_pos _) (mt_s1 hg hu) h44.1 h44.2 ?_
    refine e_sipush dX8_lettered_41 (by decide) ⟨by decide, by decide⟩ ?_
    refine e_iand dX8_lettered_44 ?_
    refine e_goto (tgt := 49) dX8_lettered_45 (by decide) ?_
    refine e_top (fun y45 ey45 => ?_)
    have Wy45 := Vh44 y45 ey45
    refine e_istore dX8_lettered_49 (by decide) (ls' := [some (.inr (some 80)), some (.inl x1), some (.inl x2), some (.inl y1), some (.inl y45), none, none]) rfl ?_
    refine e_iload dX8_lettered_51 rfl ?_
    obtain ⟨r48, J46, h47, Vh47⟩ := Wy45
    refine e_calls (av := [.inl y45]) (st := []) dX8_lettered_53 cO_8_116 oX8_isSmall rfl rfl (Nat.le_of_ble_eq_true rfl) (by decide) h47 (Nat.le_refl _) (Nat.le_refl _) rfl rfl ?_
    refine e_if_ne (tgt := 64) dX8_lettered_56 (by decide) (fun c49 => ?_) (fun c49 => ?_)
    · have Ac49 := Vh47.1 c49
      refine e_iload dX8_lettered_64 rfl ?_
      refine e_bipush dX8_lettered_66 (by decide) ⟨by decide, by decide⟩ ?_
      obtain ⟨h50, Vh50⟩ := Ac49
      refine e_isub dX8_lettered_68 h50 ?_
      refine e_top (fun y51 ey51 => ?_)
      have Wy51 := Vh50 y51 ey51
      refine e_istore dX8_lettered_69 (by decide) (ls' := [some (.inr (some 80)), some (.inl x1), some (.inl x2), some (.inl y1), some (.inl y45), some (.inl y51), none]) rfl ?_
      refine e_aload_n dX8_lettered_71 rfl ?_
      refine e_iload_n dX8_lettered_72 rfl ?_
      refine e_puti dX8_lettered_73 fO_8_106 (by decide) (gs_80 hg) rfl rfl ?_
      refine e_mem (fun I52 eI52 => ?_)
      have WI52 := Wy51 I52 eI52
      refine e_aload_n dX8_lettered_76 rfl ?_
      refine e_getr dX8_lettered_77 fO_8_43 (by decide) (gs_80 hg) rfl (gp_80_20 hg) ?_
      refine e_iload dX8_lettered_80 rfl ?_
      obtain ⟨h53, Vh53⟩ := WI52
      refine e_iald dX8_lettered_82 (by decide) (gs_135 hg) h53.1 h53.2 ?_
      refine e_iconst dX8_lettered_83 ⟨by decide, by decide⟩ ?_
      refine e_ic_eq (tgt := 103) dX8_lettered_84 (by decide) (fun c54 => ?_) (fun c54 => ?_)
      · have Ac54 := Vh53.1 c54
        refine e_aload_n dX8_lettered_103 rfl ?_
        refine e_getr dX8_lettered_104 fO_8_43 (by decide) (gs_80 hg) rfl (gp_80_20 hg) ?_
        refine e_iload dX8_lettered_107 rfl ?_
        refine e_iload_n dX8_lettered_109 rfl ?_
        obtain ⟨h56, Vh56⟩ := Ac54
        refine e_iast dX8_lettered_110 (by decide) (gs_135 hg) h56.1 h56.2 ?_
        refine e_mem (fun I55 eI55 => ?_)
        have WI55 := Vh56 I55 eI55
        refine e_aload_n dX8_lettered_111 rfl ?_
        refine e_iload_n dX8_lettered_112 rfl ?_
        refine e_iload_n dX8_lettered_113 rfl ?_
        obtain ⟨r59, J57, h58, Vh58⟩ := WI55
        refine e_callv (av := [.inl x1, .inl x2]) (st := []) dX8_lettered_114 cO_8_150 oX8_adds rfl (by decide) (gs_80 hg) rfl (Nat.le_of_ble_eq_true rfl) (by decide) h58 (Nat.le_refl _) (Nat.le_refl _) rfl rfl ?_
        refine e_istore dX8_lettered_117 (by decide) (ls' := [some (.inr (some 80)), some (.inl x1), some (.inl x2), some (.inl y1), some (.inl y45), some (.inl y51), some (.inl r59)]) rfl ?_
        refine e_aload_n dX8_lettered_119 rfl ?_
        refine e_getr dX8_lettered_120 fO_8_109 (by decide) (gs_80 hg) rfl cu ?_
        refine e_getr dX8_lettered_123 fO_8_140 (mt_pos hu) (mt_s0 hg hu) rfl (mt_p8 hg hu) ?_
        refine e_iload dX8_lettered_126 rfl ?_
        refine e_iload dX8_lettered_128 rfl ?_
        obtain ⟨h61, Vh61⟩ := Vh58
        refine e_iast dX8_lettered_130 (Nat.succ_pos _) (mt_s8 hg hu) h61.1 h61.2 ?_
        refine e_mem (fun I60 eI60 => ?_)
        have WI60 := Vh61 I60 eI60
        refine e_aload_n dX8_lettered_131 rfl ?_
        refine e_dup dX8_lettered_132 ?_
        refine e_geti dX8_lettered_133 fO_8_106 (by decide) (gs_80 hg) rfl ?_
        refine e_iconst dX8_lettered_136 ⟨by decide, by decide⟩ ?_
        obtain ⟨h62, Vh62⟩ := WI60
        refine e_iadd dX8_lettered_137 h62 ?_
        refine e_puti dX8_lettered_138 fO_8_106 (by decide) (gs_80 hg) rfl rfl ?_
        refine e_mem (fun I63 eI63 => ?_)
        have WI63 := Vh62 I63 eI63
        refine e_aload_n dX8_lettered_141 rfl ?_
        refine e_getr dX8_lettered_142 fO_8_109 (by decide) (gs_80 hg) rfl cu ?_
        refine e_getr dX8_lettered_145 fO_8_154 (mt_pos hu) (mt_s0 hg hu) rfl (mt_p4 hg hu) ?_
        refine e_iload dX8_lettered_148 rfl ?_
        refine e_aload_n dX8_lettered_150 rfl ?_
        refine e_geti dX8_lettered_151 fO_8_106 (by decide) (gs_80 hg) rfl ?_
        obtain ⟨h65, Vh65⟩ := WI63
        refine e_iast dX8_lettered_154 (Nat.succ_pos _) (mt_s4 hg hu) h65.1 h65.2 ?_
        refine e_mem (fun I64 eI64 => ?_)
        have WI64 := Vh65 I64 eI64
        refine e_iconst dX8_lettered_155 ⟨by decide, by decide⟩ ?_
        exact e_zret dX8_lettered_156 rfl (by decide) (by rw [WI64.1, WI64.2])
      · have Bc54 := Vh53.2 c54
        refine e_aload_n dX8_lettered_87 rfl ?_
        refine e_getr dX8_lettered_88 fO_8_43 (by decide) (gs_80 hg) rfl (gp_80_20 hg) ?_
        refine e_iload dX8_lettered_91 rfl ?_
        obtain ⟨h66, Vh66⟩ := Bc54
        refine e_iald dX8_lettered_93 (by decide) (gs_135 hg) h66.1 h66.2 ?_
        refine e_iload_n dX8_lettered_94 rfl ?_
        refine e_ic_eq (tgt := 103) dX8_lettered_95 (by decide) (fun c67 => ?_) (fun c67 => ?_)
        · have Ac67 := Vh66.1 c67
          refine e_aload_n dX8_lettered_103 rfl ?_
          refine e_getr dX8_lettered_104 fO_8_43 (by decide) (gs_80 hg) rfl (gp_80_20 hg) ?_
          refine e_iload dX8_lettered_107 rfl ?_
          refine e_iload_n dX8_lettered_109 rfl ?_
          obtain ⟨h69, Vh69⟩ := Ac67
          refine e_iast dX8_lettered_110 (by decide) (gs_135 hg) h69.1 h69.2 ?_
          refine e_mem (fun I68 eI68 => ?_)
          have WI68 := Vh69 I68 eI68
          refine e_aload_n dX8_lettered_111 rfl ?_
          refine e_iload_n dX8_lettered_112 rfl ?_
          refine e_iload_n dX8_lettered_113 rfl ?_
          obtain ⟨r72, J70, h71, Vh71⟩ := WI68
          refine e_callv (av := [.inl x1, .inl x2]) (st := []) dX8_lettered_114 cO_8_150 oX8_adds rfl (by decide) (gs_80 hg) rfl (Nat.le_of_ble_eq_true rfl) (by decide) h71 (Nat.le_refl _) (Nat.le_refl _) rfl rfl ?_
          refine e_istore dX8_lettered_117 (by decide) (ls' := [some (.inr (some 80)), some (.inl x1), some (.inl x2), some (.inl y1), some (.inl y45), some (.inl y51), some (.inl r72)]) rfl ?_
          refine e_aload_n dX8_lettered_119 rfl ?_
          refine e_getr dX8_lettered_120 fO_8_109 (by decide) (gs_80 hg) rfl cu ?_
          refine e_getr dX8_lettered_123 fO_8_140 (mt_pos hu) (mt_s0 hg hu) rfl (mt_p8 hg hu) ?_
          refine e_iload dX8_lettered_126 rfl ?_
          refine e_iload dX8_lettered_128 rfl ?_
          obtain ⟨h74, Vh74⟩ := Vh71
          refine e_iast dX8_lettered_130 (Nat.succ_pos _) (mt_s8 hg hu) h74.1 h74.2 ?_
          refine e_mem (fun I73 eI73 => ?_)
          have WI73 := Vh74 I73 eI73
          refine e_aload_n dX8_lettered_131 rfl ?_
          refine e_dup dX8_lettered_132 ?_
          refine e_geti dX8_lettered_133 fO_8_106 (by decide) (gs_80 hg) rfl ?_
          refine e_iconst dX8_lettered_136 ⟨by decide, by decide⟩ ?_
          obtain ⟨h75, Vh75⟩ := WI73
          refine e_iadd dX8_lettered_137 h75 ?_
          refine e_puti dX8_lettered_138 fO_8_106 (by decide) (gs_80 hg) rfl rfl ?_
          refine e_mem (fun I76 eI76 => ?_)
          have WI76 := Vh75 I76 eI76
          refine e_aload_n dX8_lettered_141 rfl ?_
          refine e_getr dX8_lettered_142 fO_8_109 (by decide) (gs_80 hg) rfl cu ?_
          refine e_getr dX8_lettered_145 fO_8_154 (mt_pos hu) (mt_s0 hg hu) rfl (mt_p4 hg hu) ?_
          refine e_iload dX8_lettered_148 rfl ?_
          refine e_aload_n dX8_lettered_150 rfl ?_
          refine e_geti dX8_lettered_151 fO_8_106 (by decide) (gs_80 hg) rfl ?_
          obtain ⟨h78, Vh78⟩ := WI76
          refine e_iast dX8_lettered_154 (Nat.succ_pos _) (mt_s4 hg hu) h78.1 h78.2 ?_
          refine e_mem (fun I77 eI77 => ?_)
          have WI77 := Vh78 I77 eI77
          refine e_iconst dX8_lettered_155 ⟨by decide, by decide⟩ ?_
          exact e_zret dX8_lettered_156 rfl (by decide) (by rw [WI77.1, WI77.2])
        · have Bc67 := Vh66.2 c67
          refine e_aload_n dX8_lettered_98 rfl ?_
          obtain ⟨r81, J79, h80, Vh80⟩ := Bc67
          refine e_callv (av := []) (st := []) dX8_lettered_99 cO_8_146 oX8_wrong rfl (by decide) (gs_80 hg) rfl (Nat.le_of_ble_eq_true rfl) (by decide) h80 (Nat.le_refl _) (Nat.le_refl _) rfl rfl ?_
          exact e_zret dX8_lettered_102 rfl Vh80.1 (by rw [Vh80.2.1, Vh80.2.2])
    · have Bc49 := Vh47.2 c49
      refine e_aload_n dX8_lettered_59 rfl ?_
      obtain ⟨r84, J82, h83, Vh83⟩ := Bc49
      refine e_callv (av := []) (st := []) dX8_lettered_60 cO_8_146 oX8_wrong rfl (by decide) (gs_80 hg) rfl (Nat.le_of_ble_eq_true rfl) (by decide) h83 (Nat.le_refl _) (Nat.le_refl _) rfl rfl ?_
      exact e_zret dX8_lettered_63 rfl Vh83.1 (by rw [Vh83.2.1, Vh83.2.2])
set_option maxRecDepth 100000 in
set_option maxHeartbeats 4000000 in
theorem v_X8_piece_0 {Γ : GX} {g : AG} {I J : Nat → Nat → Int} {r : Option AV} {d : Nat} (hd : 1 ≤ d) (hg : GOk g) (x1 : Int) (x2 : Int) (u : Nat) (hu : Mt u) (cu : g.2.1 80 12 = some u)
    (V : ∃ (r3 : Int) (J1 : Nat → Nat → Int), CT Γ 0 mX8_look [.inr (some 80)] (g, I) (some (.inl r3), (g, J1)) ∧ (∃ (r6 : Int) (J4 : Nat → Nat → Int), CT Γ 1 mX8_isAtom [.inl r3] (g, J1) (some (.inl r6), (g, J4)) ∧ ((((r6 = 0)) → (((((J4 80 13) = 0)) → (((((J4 80 13) = 0)) → (((¬ ((J4 80 13) = 1)) → (∃ (r13 : Int) (J11 : Nat → Nat → Int), CT Γ 0 mX8_wrong [.inr (some 80)] (g, J4) (some (.inl r13), (g, J11)) ∧ ((r13 = 0 ∨ r13 = 1) ∧ r = some (.inl r13) ∧ J = J11))) ∧ ((((J4 80 13) = 1)) → (((¬ (r3 = 64)) → (∃ (r17 : Int) (J15 : Nat → Nat → Int), CT Γ 0 mX8_wrong [.inr (some 80)] (g, J4) (some (.inl r17), (g, J15)) ∧ ((r17 = 0 ∨ r17 = 1) ∧ r = some (.inl r17) ∧ J = J15))) ∧ (((r3 = 64)) → (((¬ ((J4 80 18) = 1)) → (inR ((J4 80 18) + 1) ∧ (∀ I20 : Nat → Nat → Int, I20 = mset J4 80 18 ((J4 80 18) + 1) → (∃ (r23 : Int) (J21 : Nat → Nat → Int), CT Γ 0 mX8_adds [.inr (some 80), .inl 3, .inl x1] (g, I20) (some (.inl r23), (g, J21)) ∧ (inR ((J21 80 14) + 1) ∧ (∀ I25 : Nat → Nat → Int, I25 = mset J21 80 14 ((J21 80 14) + 1) → (∃ (r28 : Int) (J26 : Nat → Nat → Int), CT Γ 0 mX8_look [.inr (some 80)] (g, I25) (some (.inl r28), (g, J26)) ∧ ((((r28 = 40)) → (∃ (r32 : Int) (J30 : Nat → Nat → Int), CT Γ 1 mX8_opens [.inr (some 80)] (g, J26) (some (.inl r32), (g, J30)) ∧ (((¬ (r32 = 0)) → (∀ I34 : Nat → Nat → Int, I34 = mset J30 80 19 1 → (∃ (r37 : Int) (J35 : Nat → Nat → Int), CT Γ d mX8_piece [.inr (some 80), .inl r23, .inl 0] (g, I34) (some (.inl r37), (g, J35)) ∧ (((¬ (r37 = 0)) → (∀ I39 : Nat → Nat → Int, I39 = mset J35 80 19 0 → (∃ (r42 : Int) (J40 : Nat → Nat → Int), CT Γ 0 mX8_look [.inr (some 80)] (g, I39) (some (.inl r42), (g, J40)) ∧ ((((r42 = 41)) → (inR ((J40 80 16) - 1) ∧ (∀ I45 : Nat → Nat → Int, I45 = mset J40 80 16 ((J40 80 16) - 1) → (inR ((I45 80 14) + 1) ∧ (∀ I47 : Nat → Nat → Int, I47 = mset I45 80 14 ((I45 80 14) + 1) → (((0 : Int) ≤ r23 ∧ (r23 : Int) < 240) ∧ (∀ I48 : Nat → Nat → Int, I48 = mset I47 (u + 4) r23.toNat (I47 80 14) → (r = some (.inl 1) ∧ J = I48)))))))) ∧ ((¬ (r42 = 41)) → (∃ (r52 : Int) (J50 : Nat → Nat → Int), CT Γ 0 mX8_wrong [.inr (some 80)] (g, J40) (some (.inl r52), (g, J50)) ∧ ((r52 = 0 ∨ r52 = 1) ∧ r = some (.inl r52) ∧ J = J50))))))) ∧ (((r37 = 0)) → (r = some (.inl 0) ∧ J = J35)))))) ∧ (((r32 = 0)) → (r = some (.inl 0) ∧ J = J30))))) ∧ ((¬ (r28 = 40)) → (∃ (r55 : Int) (J53 : Nat → Nat → Int), CT Γ 0 mX8_wrong [.inr (some 80)] (g, J26) (some (.inl r55), (g, J53)) ∧ ((r55 = 0 ∨ r55 = 1) ∧ r = some (.inl r55) ∧ J = J53))))))))))) ∧ ((((J4 80 18) = 1)) → (∃ (r58 : Int) (J56 : Nat → Nat → Int), CT Γ 0 mX8_wrong [.inr (some 80)] (g, J4) (some (.inl r58), (g, J56)) ∧ ((r58 = 0 ∨ r58 = 1) ∧ r = some (.inl r58) ∧ J = J56))))))))) ∧ ((¬ ((J4 80 13) = 0)) → (((¬ (r3 = 42)) → (((¬ ((J4 80 13) = 1)) → (∃ (r63 : Int) (J61 : Nat → Nat → Int), CT Γ 0 mX8_wrong [.inr (some 80)] (g, J4) (some (.inl r63), (g, J61)) ∧ ((r63 = 0 ∨ r63 = 1) ∧ r = some (.inl r63) ∧ J = J61))) ∧ ((((J4 80 13) = 1)) → (((¬ (r3 = 64)) → (∃ (r67 : Int) (J65 : Nat → Nat → Int), CT Γ 0 mX8_wrong [.inr (some 80)] (g, J4) (some (.inl r67), (g, J65)) ∧ ((r67 = 0 ∨ r67 = 1) ∧ r = some (.inl r67) ∧ J = J65))) ∧ (((r3 = 64)) → (((¬ ((J4 80 18) = 1)) → (inR ((J4 80 18) + 1) ∧ (∀ I70 : Nat → Nat → Int, I70 = mset J4 80 18 ((J4 80 18) + 1) → (∃ (r73 : Int) (J71 : Nat → Nat → Int), CT Γ 0 mX8_adds [.inr (some 80), .inl 3, .inl x1] (g, I70) (some (.inl r73), (g, J71)) ∧ (inR ((J71 80 14) + 1) ∧ (∀ I75 : Nat → Nat → Int, I75 = mset J71 80 14 ((J71 80 14) + 1) → (∃ (r78 : Int) (J76 : Nat → Nat → Int), CT Γ 0 mX8_look [.inr (some 80)] (g, I75) (some (.inl r78), (g, J76)) ∧ ((((r78 = 40)) → (∃ (r82 : Int) (J80 : Nat → Nat → Int), CT Γ 1 mX8_opens [.inr (some 80)] (g, J76) (some (.inl r82), (g, J80)) ∧ (((¬ (r82 = 0)) → (∀ I84 : Nat → Nat → Int, I84 = mset J80 80 19 1 → (∃ (r87 : Int) (J85 : Nat → Nat → Int), CT Γ d mX8_piece [.inr (some 80), .inl r73, .inl 0] (g, I84) (some (.inl r87), (g, J85)) ∧ (((¬ (r87 = 0)) → (∀ I89 : Nat → Nat → Int, I89 = mset J85 80 19 0 → (∃ (r92 : Int) (J90 : Nat → Nat → Int), CT Γ 0 mX8_look [.inr (some 80)] (g, I89) (some (.inl r92), (g, J90)) ∧ ((((r92 = 41)) → (inR ((J90 80 16) - 1) ∧ (∀ I95 : Nat → Nat → Int, I95 = mset J90 80 16 ((J90 80 16) - 1) → (inR ((I95 80 14) + 1) ∧ (∀ I97 : Nat → Nat → Int, I97 = mset I95 80 14 ((I95 80 14) + 1) → (((0 : Int) ≤ r73 ∧ (r73 : Int) < 240) ∧ (∀ I98 : Nat → Nat → Int, I98 = mset I97 (u + 4) r73.toNat (I97 80 14) → (r = some (.inl 1) ∧ J = I98)))))))) ∧ ((¬ (r92 = 41)) → (∃ (r102 : Int) (J100 : Nat → Nat → Int), CT Γ 0 mX8_wrong [.inr (some 80)] (g, J90) (some (.inl r102), (g, J100)) ∧ ((r102 = 0 ∨ r102 = 1) ∧ r = some (.inl r102) ∧ J = J100))))))) ∧ (((r87 = 0)) → (r = some (.inl 0) ∧ J = J85)))))) ∧ (((r82 = 0)) → (r = some (.inl 0) ∧ J = J80))))) ∧ ((¬ (r78 = 40)) → (∃ (r105 : Int) (J103 : Nat → Nat → Int), CT Γ 0 mX8_wrong [.inr (some 80)] (g, J76) (some (.inl r105), (g, J103)) ∧ ((r105 = 0 ∨ r105 = 1) ∧ r = some (.inl r105) ∧ J = J103))))))))))) ∧ ((((J4 80 18) = 1)) → (∃ (r108 : Int) (J106 : Nat → Nat → Int), CT Γ 0 mX8_wrong [.inr (some 80)] (g, J4) (some (.inl r108), (g, J106)) ∧ ((r108 = 0 ∨ r108 = 1) ∧ r = some (.inl r108) ∧ J = J106))))))))) ∧ (((r3 = 42)) → ((((x2 = 0)) → (((¬ ((J4 80 13) = 1)) → (∃ (r113 : Int) (J111 : Nat → Nat → Int), CT Γ 0 mX8_wrong [.inr (some 80)] (g, J4) (some (.inl r113), (g, J111)) ∧ ((r113 = 0 ∨ r113 = 1) ∧ r = some (.inl r113) ∧ J = J111))) ∧ ((((J4 80 13) = 1)) → (((¬ (r3 = 64)) → (∃ (r117 : Int) (J115 : Nat → Nat → Int), CT Γ 0 mX8_wrong [.inr (some 80)] (g, J4) (some (.inl r117), (g, J115)) ∧ ((r117 = 0 ∨ r117 = 1) ∧ r = some (.inl r117) ∧ J = J115))) ∧ (((r3 = 64)) → (((¬ ((J4 80 18) = 1)) → (inR ((J4 80 18) + 1) ∧ (∀ I120 : Nat → Nat → Int, I120 = mset J4 80 18 ((J4 80 18) + 1) → (∃ (r123 : Int) (J121 : Nat → Nat → Int), CT Γ 0 mX8_adds [.inr (some 80), .inl 3, .inl x1] (g, I120) (some (.inl r123), (g, J121)) ∧ (inR ((J121 80 14) + 1) ∧ (∀ I125 : Nat → Nat → Int, I125 = mset J121 80 14 ((J121 80 14) + 1) → (∃ (r128 : Int) (J126 : Nat → Nat → Int), CT Γ 0 mX8_look [.inr (some 80)] (g, I125) (some (.inl r128), (g, J126)) ∧ ((((r128 = 40)) → (∃ (r132 : Int) (J130 : Nat → Nat → Int), CT Γ 1 mX8_opens [.inr (some 80)] (g, J126) (some (.inl r132), (g, J130)) ∧ (((¬ (r132 = 0)) → (∀ I134 : Nat → Nat → Int, I134 = mset J130 80 19 1 → (∃ (r137 : Int) (J135 : Nat → Nat → Int), CT Γ d mX8_piece [.inr (some 80), .inl r123, .inl 0] (g, I134) (some (.inl r137), (g, J135)) ∧ (((¬ (r137 = 0)) → (∀ I139 : Nat → Nat → Int, I139 = mset J135 80 19 0 → (∃ (r142 : Int) (J140 : Nat → Nat → Int), CT Γ 0 mX8_look [.inr (some 80)] (g, I139) (some (.inl r142), (g, J140)) ∧ ((((r142 = 41)) → (inR ((J140 80 16) - 1) ∧ (∀ I145 : Nat → Nat → Int, I145 = mset J140 80 16 ((J140 80 16) - 1) → (inR ((I145 80 14) + 1) ∧ (∀ I147 : Nat → Nat → Int, I147 = mset I145 80 14 ((I145 80 14) + 1) → (((0 : Int) ≤ r123 ∧ (r123 : Int) < 240) ∧ (∀ I148 : Nat → Nat → Int, I148 = mset I147 (u + 4) r123.toNat (I147 80 14) → (r = some (.inl 1) ∧ J = I148)))))))) ∧ ((¬ (r142 = 41)) → (∃ (r152 : Int) (J150 : Nat → Nat → Int), CT Γ 0 mX8_wrong [.inr (some 80)] (g, J140) (some (.inl r152), (g, J150)) ∧ ((r152 = 0 ∨ r152 = 1) ∧ r = some (.inl r152) ∧ J = J150))))))) ∧ (((r137 = 0)) → (r = some (.inl 0) ∧ J = J135)))))) ∧ (((r132 = 0)) → (r = some (.inl 0) ∧ J = J130))))) ∧ ((¬ (r128 = 40)) → (∃ (r155 : Int) (J153 : Nat → Nat → Int), CT Γ 0 mX8_wrong [.inr (some 80)] (g, J126) (some (.inl r155), (g, J153)) ∧ ((r155 = 0 ∨ r155 = 1) ∧ r = some (.inl r155) ∧ J = J153))))))))))) ∧ ((((J4 80 18) = 1)) → (∃ (r158 : Int) (J156 : Nat → Nat → Int), CT Γ 0 mX8_wrong [.inr (some 80)] (g, J4) (some (.inl r158), (g, J156)) ∧ ((r158 = 0 ∨ r158 = 1) ∧ r = some (.inl r158) ∧ J = J156))))))))) ∧ ((¬ (x2 = 0)) → (((¬ ((J4 80 13) = 1)) → (inR ((J4 80 17) + 1) ∧ (∀ I161 : Nat → Nat → Int, I161 = mset J4 80 17 ((J4 80 17) + 1) → (∃ (r164 : Int) (J162 : Nat → Nat → Int), CT Γ 1 mX8_lettered [.inr (some 80), .inl 2, .inl x1] (g, I161) (some (.inl r164), (g, J162)) ∧ ((r164 = 0 ∨ r164 = 1) ∧ r = some (.inl r164) ∧ J = J162))))) ∧ ((((J4 80 13) = 1)) → (((¬ ((J4 80 19) = 0)) → (∃ (r168 : Int) (J166 : Nat → Nat → Int), CT Γ 0 mX8_wrong [.inr (some 80)] (g, J4) (some (.inl r168), (g, J166)) ∧ ((r168 = 0 ∨ r168 = 1) ∧ r = some (.inl r168) ∧ J = J166))) ∧ ((((J4 80 19) = 0)) → (((¬ ((J4 80 17) = 2)) → (inR ((J4 80 17) + 1) ∧ (∀ I171 : Nat → Nat → Int, I171 = mset J4 80 17 ((J4 80 17) + 1) → (∃ (r174 : Int) (J172 : Nat → Nat → Int), CT Γ 1 mX8_lettered [.inr (some 80), .inl 2, .inl x1] (g, I171) (some (.inl r174), (g, J172)) ∧ ((r174 = 0 ∨ r174 = 1) ∧ r = some (.inl r174) ∧ J = J172))))) ∧ ((((J4 80 17) = 2)) → (∃ (r177 : Int) (J175 : Nat → Nat → Int), CT Γ 0 mX8_wrong [.inr (some 80)] (g, J4) (some (.inl r177), (g, J175)) ∧ ((r177 = 0 ∨ r177 = 1) ∧ r = some (.inl r177) ∧ J = J175))))))))))))))) ∧ ((¬ ((J4 80 13) = 0)) → (((¬ (r3 = 63)) → (((((J4 80 13) = 0)) → (((¬ ((J4 80 13) = 1)) → (∃ (r183 : Int) (J181 : Nat → Nat → Int), CT Γ 0 mX8_wrong [.inr (some 80)] (g, J4) (some (.inl r183), (g, J181)) ∧ ((r183 = 0 ∨ r183 = 1) ∧ r = some (.inl r183) ∧ J = J181))) ∧ ((((J4 80 13) = 1)) → (((¬ (r3 = 64)) → (∃ (r187 : Int) (J185 : Nat → Nat → Int), CT Γ 0 mX8_wrong [.inr (some 80)] (g, J4) (some (.inl r187), (g, J185)) ∧ ((r187 = 0 ∨ r187 = 1) ∧ r = some (.inl r187) ∧ J = J185))) ∧ (((r3 = 64)) → (((¬ ((J4 80 18) = 1)) → (inR ((J4 80 18) + 1) ∧ (∀ I190 : Nat → Nat → Int, I190 = mset J4 80 18 ((J4 80 18) + 1) → (∃ (r193 : Int) (J191 : Nat → Nat → Int), CT Γ 0 mX8_adds [.inr (some 80), .inl 3, .inl x1] (g, I190) (some (.inl r193), (g, J191)) ∧ (inR ((J191 80 14) + 1) ∧ (∀ I195 : Nat → Nat → Int, I195 = mset J191 80 14 ((J191 80 14) + 1) → (∃ (r198 : Int) (J196 : Nat → Nat → Int), CT Γ 0 mX8_look [.inr (some 80)] (g, I195) (some (.inl r198), (g, J196)) ∧ ((((r198 = 40)) → (∃ (r202 : Int) (J200 : Nat → Nat → Int), CT Γ 1 mX8_opens [.inr (some 80)] (g, J196) (some (.inl r202), (g, J200)) ∧ (((¬ (r202 = 0)) → (∀ I204 : Nat → Nat → Int, I204 = mset J200 80 19 1 → (∃ (r207 : Int) (J205 : Nat → Nat → Int), CT Γ d mX8_piece [.inr (some 80), .inl r193, .inl 0] (g, I204) (some (.inl r207), (g, J205)) ∧ (((¬ (r207 = 0)) → (∀ I209 : Nat → Nat → Int, I209 = mset J205 80 19 0 → (∃ (r212 : Int) (J210 : Nat → Nat → Int), CT Γ 0 mX8_look [.inr (some 80)] (g, I209) (some (.inl r212), (g, J210)) ∧ ((((r212 = 41)) → (inR ((J210 80 16) - 1) ∧ (∀ I215 : Nat → Nat → Int, I215 = mset J210 80 16 ((J210 80 16) - 1) → (inR ((I215 80 14) + 1) ∧ (∀ I217 : Nat → Nat → Int, I217 = mset I215 80 14 ((I215 80 14) + 1) → (((0 : Int) ≤ r193 ∧ (r193 : Int) < 240) ∧ (∀ I218 : Nat → Nat → Int, I218 = mset I217 (u + 4) r193.toNat (I217 80 14) → (r = some (.inl 1) ∧ J = I218)))))))) ∧ ((¬ (r212 = 41)) → (∃ (r222 : Int) (J220 : Nat → Nat → Int), CT Γ 0 mX8_wrong [.inr (some 80)] (g, J210) (some (.inl r222), (g, J220)) ∧ ((r222 = 0 ∨ r222 = 1) ∧ r = some (.inl r222) ∧ J = J220))))))) ∧ (((r207 = 0)) → (r = some (.inl 0) ∧ J = J205)))))) ∧ (((r202 = 0)) → (r = some (.inl 0) ∧ J = J200))))) ∧ ((¬ (r198 = 40)) → (∃ (r225 : Int) (J223 : Nat → Nat → Int), CT Γ 0 mX8_wrong [.inr (some 80)] (g, J196) (some (.inl r225), (g, J223)) ∧ ((r225 = 0 ∨ r225 = 1) ∧ r = some (.inl r225) ∧ J = J223))))))))))) ∧ ((((J4 80 18) = 1)) → (∃ (r228 : Int) (J226 : Nat → Nat → Int), CT Γ 0 mX8_wrong [.inr (some 80)] (g, J4) (some (.inl r228), (g, J226)) ∧ ((r228 = 0 ∨ r228 = 1) ∧ r = some (.inl r228) ∧ J = J226))))))))) ∧ ((¬ ((J4 80 13) = 0)) → (((¬ (r3 = 42)) → (((¬ ((J4 80 13) = 1)) → (∃ (r233 : Int) (J231 : Nat → Nat → Int), CT Γ 0 mX8_wrong [.inr (some 80)] (g, J4) (some (.inl r233), (g, J231)) ∧ ((r233 = 0 ∨ r233 = 1) ∧ r = some (.inl r233) ∧ J = J231))) ∧ ((((J4 80 13) = 1)) → (((¬ (r3 = 64)) → (∃ (r237 : Int) (J235 : Nat → Nat → Int), CT Γ 0 mX8_wrong [.inr (some 80)] (g, J4) (some (.inl r237), (g, J235)) ∧ ((r237 = 0 ∨ r237 = 1) ∧ r = some (.inl r237) ∧ J = J235))) ∧ (((r3 = 64)) → (((¬ ((J4 80 18) = 1)) → (inR ((J4 80 18) + 1) ∧ (∀ I240 : Nat → Nat → Int, I240 = mset J4 80 18 ((J4 80 18) + 1) → (∃ (r243 : Int) (J241 : Nat → Nat → Int), CT Γ 0 mX8_adds [.inr (some 80), .inl 3, .inl x1] (g, I240) (some (.inl r243), (g, J241)) ∧ (inR ((J241 80 14) + 1) ∧ (∀ I245 : Nat → Nat → Int, I245 = mset J241 80 14 ((J241 80 14) + 1) → (∃ (r248 : Int) (J246 : Nat → Nat → Int), CT Γ 0 mX8_look [.inr (some 80)] (g, I245) (some (.inl r248), (g, J246)) ∧ ((((r248 = 40)) → (∃ (r252 : Int) (J250 : Nat → Nat → Int), CT Γ 1 mX8_opens [.inr (some 80)] (g, J246) (some (.inl r252), (g, J250)) ∧ (((¬ (r252 = 0)) → (∀ I254 : Nat → Nat → Int, I254 = mset J250 80 19 1 → (∃ (r257 : Int) (J255 : Nat → Nat → Int), CT Γ d mX8_piece [.inr (some 80), .inl r243, .inl 0] (g, I254) (some (.inl r257), (g, J255)) ∧ (((¬ (r257 = 0)) → (∀ I259 : Nat → Nat → Int, I259 = mset J255 80 19 0 → (∃ (r262 : Int) (J260 : Nat → Nat → Int), CT Γ 0 mX8_look [.inr (some 80)] (g, I259) (some (.inl r262), (g, J260)) ∧ ((((r262 = 41)) → (inR ((J260 80 16) - 1) ∧ (∀ I265 : Nat → Nat → Int, I265 = mset J260 80 16 ((J260 80 16) - 1) → (inR ((I265 80 14) + 1) ∧ (∀ I267 : Nat → Nat → Int, I267 = mset I265 80 14 ((I265 80 14) + 1) → (((0 : Int) ≤ r243 ∧ (r243 : Int) < 240) ∧ (∀ I268 : Nat → Nat → Int, I268 = mset I267 (u + 4) r243.toNat (I267 80 14) → (r = some (.inl 1) ∧ J = I268)))))))) ∧ ((¬ (r262 = 41)) → (∃ (r272 : Int) (J270 : Nat → Nat → Int), CT Γ 0 mX8_wrong [.inr (some 80)] (g, J260) (some (.inl r272), (g, J270)) ∧ ((r272 = 0 ∨ r272 = 1) ∧ r = some (.inl r272) ∧ J = J270))))))) ∧ (((r257 = 0)) → (r = some (.inl 0) ∧ J = J255)))))) ∧ (((r252 = 0)) → (r = some (.inl 0) ∧ J = J250))))) ∧ ((¬ (r248 = 40)) → (∃ (r275 : Int) (J273 : Nat → Nat → Int), CT Γ 0 mX8_wrong [.inr (some 80)] (g, J246) (some (.inl r275), (g, J273)) ∧ ((r275 = 0 ∨ r275 = 1) ∧ r = some (.inl r275) ∧ J = J273))))))))))) ∧ ((((J4 80 18) = 1)) → (∃ (r278 : Int) (J276 : Nat → Nat → Int), CT Γ 0 mX8_wrong [.inr (some 80)] (g, J4) (some (.inl r278), (g, J276)) ∧ ((r278 = 0 ∨ r278 = 1) ∧ r = some (.inl r278) ∧ J = J276))))))))) ∧ (((r3 = 42)) → ((((x2 = 0)) → (((¬ ((J4 80 13) = 1)) → (∃ (r283 : Int) (J281 : Nat → Nat → Int), CT Γ 0 mX8_wrong [.inr (some 80)] (g, J4) (some (.inl r283), (g, J281)) ∧ ((r283 = 0 ∨ r283 = 1) ∧ r = some (.inl r283) ∧ J = J281))) ∧ ((((J4 80 13) = 1)) → (((¬ (r3 = 64)) → (∃ (r287 : Int) (J285 : Nat → Nat → Int), CT Γ 0 mX8_wrong [.inr (some 80)] (g, J4) (some (.inl r287), (g, J285)) ∧ ((r287 = 0 ∨ r287 = 1) ∧ r = some (.inl r287) ∧ J = J285))) ∧ (((r3 = 64)) → (((¬ ((J4 80 18) = 1)) → (inR ((J4 80 18) + 1) ∧ (∀ I290 : Nat → Nat → Int, I290 = mset J4 80 18 ((J4 80 18) + 1) → (∃ (r293 : Int) (J291 : Nat → Nat → Int), CT Γ 0 mX8_adds [.inr (some 80), .inl 3, .inl x1] (g, I290) (some (.inl r293), (g, J291)) ∧ (inR ((J291 80 14) + 1) ∧ (∀ I295 : Nat → Nat → Int, I295 = mset J291 80 14 ((J291 80 14) + 1) → (∃ (r298 : Int) (J296 : Nat → Nat → Int), CT Γ 0 mX8_look [.inr (some 80)] (g, I295) (some (.inl r298), (g, J296)) ∧ ((((r298 = 40)) → (∃ (r302 : Int) (J300 : Nat → Nat → Int), CT Γ 1 mX8_opens [.inr (some 80)] (g, J296) (some (.inl r302), (g, J300)) ∧ (((¬ (r302 = 0)) → (∀ I304 : Nat → Nat → Int, I304 = mset J300 80 19 1 → (∃ (r307 : Int) (J305 : Nat → Nat → Int), CT Γ d mX8_piece [.inr (some 80), .inl r293, .inl 0] (g, I304) (some (.inl r307), (g, J305)) ∧ (((¬ (r307 = 0)) → (∀ I309 : Nat → Nat → Int, I309 = mset J305 80 19 0 → (∃ (r312 : Int) (J310 : Nat → Nat → Int), CT Γ 0 mX8_look [.inr (some 80)] (g, I309) (some (.inl r312), (g, J310)) ∧ ((((r312 = 41)) → (inR ((J310 80 16) - 1) ∧ (∀ I315 : Nat → Nat → Int, I315 = mset J310 80 16 ((J310 80 16) - 1) → (inR ((I315 80 14) + 1) ∧ (∀ I317 : Nat → Nat → Int, I317 = mset I315 80 14 ((I315 80 14) + 1) → (((0 : Int) ≤ r293 ∧ (r293 : Int) < 240) ∧ (∀ I318 : Nat → Nat → Int, I318 = mset I317 (u + 4) r293.toNat (I317 80 14) → (r = some (.inl 1) ∧ J = I318)))))))) ∧ ((¬ (r312 = 41)) → (∃ (r322 : Int) (J320 : Nat → Nat → Int), CT Γ 0 mX8_wrong [.inr (some 80)] (g, J310) (some (.inl r322), (g, J320)) ∧ ((r322 = 0 ∨ r322 = 1) ∧ r = some (.inl r322) ∧ J = J320))))))) ∧ (((r307 = 0)) → (r = some (.inl 0) ∧ J = J305)))))) ∧ (((r302 = 0)) → (r = some (.inl 0) ∧ J = J300))))) ∧ ((¬ (r298 = 40)) → (∃ (r325 : Int) (J323 : Nat → Nat → Int), CT Γ 0 mX8_wrong [.inr (some 80)] (g, J296) (some (.inl r325), (g, J323)) ∧ ((r325 = 0 ∨ r325 = 1) ∧ r = some (.inl r325) ∧ J = J323))))))))))) ∧ ((((J4 80 18) = 1)) → (∃ (r328 : Int) (J326 : Nat → Nat → Int), CT Γ 0 mX8_wrong [.inr (some 80)] (g, J4) (some (.inl r328), (g, J326)) ∧ ((r328 = 0 ∨ r328 = 1) ∧ r = some (.inl r328) ∧ J = J326))))))))) ∧ ((¬ (x2 = 0)) → (((¬ ((J4 80 13) = 1)) → (inR ((J4 80 17) + 1) ∧ (∀ I331 : Nat → Nat → Int, I331 = mset J4 80 17 ((J4 80 17) + 1) → (∃ (r334 : Int) (J332 : Nat → Nat → Int), CT Γ 1 mX8_lettered [.inr (some 80), .inl 2, .inl x1] (g, I331) (some (.inl r334), (g, J332)) ∧ ((r334 = 0 ∨ r334 = 1) ∧ r = some (.inl r334) ∧ J = J332))))) ∧ ((((J4 80 13) = 1)) → (((¬ ((J4 80 19) = 0)) → (∃ (r338 : Int) (J336 : Nat → Nat → Int), CT Γ 0 mX8_wrong [.inr (some 80)] (g, J4) (some (.inl r338), (g, J336)) ∧ ((r338 = 0 ∨ r338 = 1) ∧ r = some (.inl r338) ∧ J = J336))) ∧ ((((J4 80 19) = 0)) → (((¬ ((J4 80 17) = 2)) → (inR ((J4 80 17) + 1) ∧ (∀ I341 : Nat → Nat → Int, I341 = mset J4 80 17 ((J4 80 17) + 1) → (∃ (r344 : Int) (J342 : Nat → Nat → Int), CT Γ 1 mX8_lettered [.inr (some 80), .inl 2, .inl x1] (g, I341) (some (.inl r344), (g, J342)) ∧ ((r344 = 0 ∨ r344 = 1) ∧ r = some (.inl r344) ∧ J = J342))))) ∧ ((((J4 80 17) = 2)) → (∃ (r347 : Int) (J345 : Nat → Nat → Int), CT Γ 0 mX8_wrong [.inr (some 80)] (g, J4) (some (.inl r347), (g, J345)) ∧ ((r347 = 0 ∨ r347 = 1) ∧ r = some (.inl r347) ∧ J = J345))))))))))))))) ∧ (((r3 = 63)) → (∃ (r350 : Int) (J348 : Nat → Nat → Int), CT Γ 1 mX8_lettered [.inr (some 80), .inl 1, .inl x1] (g, J4) (some (.inl r350), (g, J348)) ∧ ((r350 = 0 ∨ r350 = 1) ∧ r = some (.inl r350) ∧ J = J348))))))) ∧ ((¬ (r6 = 0)) → (∃ (r353 : Int) (J351 : Nat → Nat → Int), CT Γ d mX8_term [.inr (some 80), .inl x1] (g, J4) (some (.inl r353), (g, J351)) ∧ ((r353 = 0 ∨ r353 = 1) ∧ r = some (.inl r353) ∧ J = J351)))))) : Ev Γ (d + 1) mX8_piece 0 [some (.inr (some 80)), some (.inl x1), some (.inl x2), none, none] [] (g, I) (r, (g, J)) := by
  refine e_aload_n dX8_piece_0 rfl ?_
  obtain ⟨r3, J1, h2, Vh2⟩ := V
  refine e_callv (av := []) (st := []) dX8_piece_1 cO_8_157 oX8_look rfl (by decide) (gs_80 hg) rfl (Nat.le_of_ble_eq_true rfl) (by omega) h2 (Nat.le_refl _) (Nat.le_refl _) rfl rfl ?_
  refine e_istore_n dX8_piece_4 (by decide) (ls' := [some (.inr (some 80)), some (.inl x1), some (.inl x2), some (.inl r3), none]) rfl ?_
  refine e_iload_n dX8_piece_5 rfl ?_
  obtain ⟨r6, J4, h5, Vh5⟩ := Vh2
  refine e_calls (av := [.inl r3]) (st := []) dX8_piece_6 cO_8_161 oX8_isAtom rfl rfl (Nat.le_of_ble_eq_true rfl) (by omega) h5 (Nat.le_refl _) (Nat.le_refl _) rfl rfl ?_
  refine e_if_eq (tgt := 18) dX8_piece_9 (by decide) (fun c7 => ?_) (fun c7 => ?_)
  · have Ac7 := Vh5.1 c7
    refine e_aload_n dX8_piece_18 rfl ?_
    refine e_geti dX8_piece_19 fO_8_167 (by decide) (gs_80 hg) rfl ?_
    refine e_if_eq (tgt := 38) dX8_piece_22 (by decide) (fun c8 => ?_) (fun c8 => ?_)
    · have Ac8 := Ac7.1 c8
      refine e_aload_n dX8_piece_38 rfl ?_
      refine e_geti dX8_piece_39 fO_8_167 (by decide) (gs_80 hg) rfl ?_
      refine e_if_eq (tgt := 100) dX8_piece_42 (by decide) (fun c9 => ?_) (fun c9 => ?_)
      · have Ac9 := Ac8.1 c9
        refine e_aload_n dX8_piece_100 rfl ?_
        refine e_geti dX8_piece_101 fO_8_167 (by decide) (gs_80 hg) rfl ?_
        refine e_iconst dX8_piece_104 ⟨by decide, by decide⟩ ?_
        refine e_ic_ne (tgt := 250) dX8_piece_105 (by decide) (fun c10 => ?_) (fun c10 => ?_)
        · have Ac10 := Ac9.1 c10
          refine e_aload_n dX8_piece_250 rfl ?_
          obtain ⟨r13, J11, h12, Vh12⟩ := Ac10
          refine e_callv (av := []) (st := []) dX8_piece_251 cO_8_146 oX8_wrong rfl (by decide) (gs_80 hg) rfl (Nat.le_of_ble_eq_true rfl) (by omega) h12 (Nat.le_refl _) (Nat.le_refl _) rfl rfl ?_
          exact e_zret dX8_piece_254 rfl Vh12.1 (by rw [Vh12.2.1, Vh12.2.2])
        · have Bc10 := Ac9.2 c10
          refine e_iload_n dX8_piece_108 rfl ?_
          refine e_bipush dX8_piece_109 (by decide) ⟨by decide, by decide⟩ ?_
          refine e_ic_ne (tgt := 250) dX8_piece_111 (by decide) (fun c14 => ?_) (fun c14 => ?_)
          · have Ac14 := Bc10.1 c14
            refine e_aload_n dX8_piece_250 rfl ?_
            obtain ⟨r17, J15, h16, Vh16⟩ := Ac14
            refine e_callv (av := []) (st := []) dX8_piece_251 cO_8_146 oX8_wrong rfl (by decide) (gs_80 hg) rfl (Nat.le_of_ble_eq_true rfl) (by omega) h16 (Nat.le_refl _) (Nat.le_refl _) rfl rfl ?_
            exact e_zret dX8_piece_254 rfl Vh16.1 (by rw [Vh16.2.1, Vh16.2.2])
          · have Bc14 := Bc10.2 c14
            refine e_aload_n dX8_piece_114 rfl ?_
            refine e_geti dX8_piece_115 fO_8_181 (by decide) (gs_80 hg) rfl ?_
            refine e_iconst dX8_piece_118 ⟨by decide, by decide⟩ ?_
            refine e_ic_ne (tgt := 127) dX8_piece_119 (by decide) (fun c18 => ?_) (fun c18 => ?_)
            · have Ac18 := Bc14.1 c18
              refine e_aload_n dX8_piece_127 rfl ?_
              refine e_dup dX8_piece_128 ?_
              refine e_geti dX8_piece_129 fO_8_181 (by decide) (gs_80 hg) rfl ?_
              refine e_iconst dX8_piece_132 ⟨by decide, by decide⟩ ?_
              obtain ⟨h19, Vh19⟩ := Ac18
              refine e_iadd dX8_piece_133 h19 ?_
              refine e_puti dX8_piece_134 fO_8_181 (by decide) (gs_80 hg) rfl rfl ?_
              refine e_mem (fun I20 eI20 => ?_)
              have WI20 := Vh19 I20 eI20
              refine e_aload_n dX8_piece_137 rfl ?_
              refine e_iconst dX8_piece_138 ⟨by decide, by decide⟩ ?_
              refine e_iload_n dX8_piece_139 rfl ?_
              obtain ⟨r23, J21, h22, Vh22⟩ := WI20
              refine e_callv (av := [.inl 3, .inl x1]) (st := []) dX8_piece_140 cO_8_150 oX8_adds rfl (by decide) (gs_80 hg) rfl (Nat.le_of_ble_eq_true rfl) (by omega) h22 (Nat.le_refl _) (Nat.le_refl _) rfl rfl ?_
              refine e_istore dX8_piece_143 (by decide) (ls' := [some (.inr (some 80)), some (.inl x1), some (.inl x2), some (.inl r3), some (.inl r23)]) rfl ?_
              refine e_aload_n dX8_piece_145 rfl ?_
              refine e_dup dX8_piece_146 ?_
              refine e_geti dX8_piece_147 fO_8_106 (by decide) (gs_80 hg) rfl ?_
              refine e_iconst dX8_piece_150 ⟨by decide, by decide⟩ ?_
              obtain ⟨h24, Vh24⟩ := Vh22
              refine e_iadd dX8_piece_151 h24 ?_
              refine e_puti dX8_piece_152 fO_8_106 (by decide) (gs_80 hg) rfl rfl ?_
              refine e_mem (fun I25 eI25 => ?_)
              have WI25 := Vh24 I25 eI25
              refine e_aload_n dX8_piece_155 rfl ?_
              obtain ⟨r28, J26, h27, Vh27⟩ := WI25
              refine e_callv (av := []) (st := []) dX8_piece_156 cO_8_157 oX8_look rfl (by decide) (gs_80 hg) rfl (Nat.le_of_ble_eq_true rfl) (by omega) h27 (Nat.le_refl _) (Nat.le_refl _) rfl rfl ?_
              refine e_bipush dX8_piece_159 (by decide) ⟨by decide, by decide⟩ ?_
              refine e_ic_eq (tgt := 169) dX8_piece_161 (by decide) (fun c29 => ?_) (fun c29 => ?_)
              · have Ac29 := Vh27.1 c29
                refine e_aload_n dX8_piece_169 rfl ?_
                obtain ⟨r32, J30, h31, Vh31⟩ := Ac29
                refine e_callv (av := []) (st := []) dX8_piece_170 cO_8_184 oX8_opens rfl (by decide) (gs_80 hg) rfl (Nat.le_of_ble_eq_true rfl) (by omega) h31 (Nat.le_refl _) (Nat.le_refl _) rfl rfl ?_
                refine e_if_ne (tgt := 178) dX8_piece_173 (by decide) (fun c33 => ?_) (fun c33 => ?_)
                · have Ac33 := Vh31.1 c33
                  refine e_aload_n dX8_piece_178 rfl ?_
                  refine e_iconst dX8_piece_179 ⟨by decide, by decide⟩ ?_
                  refine e_putz dX8_piece_180 fO_8_174 (by decide) (gs_80 hg) rfl rfl (by decide) ?_
                  refine e_mem (fun I34 eI34 => ?_)
                  have WI34 := Ac33 I34 eI34
                  refine e_aload_n dX8_piece_183 rfl ?_
                  refine e_iload dX8_piece_184 rfl ?_
                  refine e_iconst dX8_piece_186 ⟨by decide, by decide⟩ ?_
                  obtain ⟨r37, J35, h36, Vh36⟩ := WI34
                  refine e_callv (av := [.inl r23, .inl 0]) (st := []) dX8_piece_187 cO_8_187 oX8_piece rfl (by decide) (gs_80 hg) rfl (Nat.le_of_ble_eq_true rfl) (by omega) h36 (Nat.le_refl _) (Nat.le_refl _) rfl rfl ?_
                  refine e_if_ne (tgt := 195) dX8_piece_190 (by decide) (fun c38 => ?_) (fun c38 => ?_)
                  · have Ac38 := Vh36.1 c38
                    refine e_aload_n dX8_piece_195 rfl ?_
                    refine e_iconst dX8_piece_196 ⟨by decide, by decide⟩ ?_
                    refine e_putz dX8_piece_197 fO_8_174 (by decide) (gs_80 hg) rfl rfl (by decide) ?_
                    refine e_mem (fun I39 eI39 => ?_)
                    have WI39 := Ac38 I39 eI39
                    refine e_aload_n dX8_piece_200 rfl ?_
                    obtain ⟨r42, J40, h41, Vh41⟩ := WI39
                    refine e_callv (av := []) (st := []) dX8_piece_201 cO_8_157 oX8_look rfl (by decide) (gs_80 hg) rfl (Nat.le_of_ble_eq_true rfl) (by omega) h41 (Nat.le_refl _) (Nat.le_refl _) rfl rfl ?_
                    refine e_bipush dX8_piece_204 (by decide) ⟨by decide, by decide⟩ ?_
                    refine e_ic_eq (tgt := 214) dX8_piece_206 (by decide) (fun c43 => ?_) (fun c43 => ?_)
                    · have Ac43 := Vh41.1 c43
                      refine e_aload_n dX8_piece_214 rfl ?_
                      refine e_dup dX8_piece_215 ?_
                      refine e_geti dX8_piece_216 fO_8_143 (by decide) (gs_80 hg) rfl ?_
                      refine e_iconst dX8_piece_219 ⟨by decide, by decide⟩ ?_
                      obtain ⟨h44, Vh44⟩ := Ac43
                      refine e_isub dX8_piece_220 h44 ?_
                      refine e_puti dX8_piece_221 fO_8_143 (by decide) (gs_80 hg) rfl rfl ?_
                      refine e_mem (fun I45 eI45 => ?_)
                      have WI45 := Vh44 I45 eI45
                      refine e_aload_n dX8_piece_224 rfl ?_
                      refine e_dup dX8_piece_225 ?_
                      refine e_geti dX8_piece_226 fO_8_106 (by decide) (gs_80 hg) rfl ?_
                      refine e_iconst dX8_piece_229 ⟨by decide, by decide⟩ ?_
                      obtain ⟨h46, Vh46⟩ := WI45
                      refine e_iadd dX8_piece_230 h46 ?_
                      refine e_puti dX8_piece_231 fO_8_106 (by decide) (gs_80 hg) rfl rfl ?_
                      refine e_mem (fun I47 eI47 => ?_)
                      have WI47 := Vh46 I47 eI47
                      refine e_aload_n dX8_piece_234 rfl ?_
                      refine e_getr dX8_piece_235 fO_8_109 (by decide) (gs_80 hg) rfl cu ?_
                      refine e_getr dX8_piece_238 fO_8_154 (mt_pos hu) (mt_s0 hg hu) rfl (mt_p4 hg hu) ?_
                      refine e_iload dX8_piece_241 rfl ?_
                      refine e_aload_n dX8_piece_243 rfl ?_
                      refine e_geti dX8_piece_244 fO_8_106 (by decide) (gs_80 hg) rfl ?_
                      obtain ⟨h49, Vh49⟩ := WI47
                      refine e_iast dX8_piece_247 (Nat.succ_pos _) (mt_s4 hg hu) h49.1 h49.2 ?_
                      refine e_mem (fun I48 eI48 => ?_)
                      have WI48 := Vh49 I48 eI48
                      refine e_iconst dX8_piece_248 ⟨by decide, by decide⟩ ?_
                      exact e_zret dX8_piece_249 rfl (by decide) (by rw [WI48.1, WI48.2])
                    · have Bc43 := Vh41.2 c43
                      refine e_aload_n dX8_piece_209 rfl ?_
                      obtain ⟨r52, J50, h51, Vh51⟩ := Bc43
                      refine e_callv (av := []) (st := []) dX8_piece_210 cO_8_146 oX8_wrong rfl (by decide) (gs_80 hg) rfl (Nat.le_of_ble_eq_true rfl) (by omega) h51 (Nat.le_refl _) (Nat.le_refl _) rfl rfl ?_
                      exact e_zret dX8_piece_213 rfl Vh51.1 (by rw [Vh51.2.1, Vh51.2.2])
                  · have Bc38 := Vh36.2 c38
                    refine e_iconst dX8_piece_193 ⟨by decide, by decide⟩ ?_
                    exact e_zret dX8_piece_194 rfl (by decide) (by rw [Bc38.1, Bc38.2])
                · have Bc33 := Vh31.2 c33
                  refine e_iconst dX8_piece_176 ⟨by decide, by decide⟩ ?_
                  exact e_zret dX8_piece_177 rfl (by decide) (by rw [Bc33.1, Bc33.2])
              · have Bc29 := Vh27.2 c29
                refine e_aload_n dX8_piece_164 rfl ?_
                obtain ⟨r55, J53, h54, Vh54⟩ := Bc29
                refine e_callv (av := []) (st := []) dX8_piece_165 cO_8_146 oX8_wrong rfl (by decide) (gs_80 hg) rfl (Nat.le_of_ble_eq_true rfl) (by omega) h54 (Nat.le_refl _) (Nat.le_refl _) rfl rfl ?_
                exact e_zret dX8_piece_168 rfl Vh54.1 (by rw [Vh54.2.1, Vh54.2.2])
            · have Bc18 := Bc14.2 c18
              refine e_aload_n dX8_piece_122 rfl ?_
              obtain ⟨r58, J56, h57, Vh57⟩ := Bc18
              refine e_callv (av := []) (st := []) dX8_piece_123 cO_8_146 oX8_wrong rfl (by decide) (gs_80 hg) rfl (Nat.le_of_ble_eq_true rfl) (by omega) h57 (Nat.le_refl _) (Nat.le_refl _) rfl rfl ?_
              exact e_zret dX8_piece_126 rfl Vh57.1 (by rw [Vh57.2.1, Vh57.2.2])
      · have Bc9 := Ac8.2 c9
        refine e_iload_n dX8_piece_45 rfl ?_
        refine e_bipush dX8_piece_46 (by decide) ⟨by decide, by decide⟩ ?_
        refine e_ic_ne (tgt := 100) dX8_piece_48 (by decide) (fun c59 => ?_) (fun c59 => ?_)
        · have Ac59 := Bc9.1 c59
          refine e_aload_n dX8_piece_100 rfl ?_
          refine e_geti dX8_piece_101 fO_8_167 (by decide) (gs_80 hg) rfl ?_
          refine e_iconst dX8_piece_104 ⟨by decide, by decide⟩ ?_
          refine e_ic_ne (tgt := 250) dX8_piece_105 (by decide) (fun c60 => ?_) (fun c60 => ?_)
          · have Ac60 := Ac59.1 c60
            refine e_aload_n dX8_piece_250 rfl ?_
            obtain ⟨r63, J61, h62, Vh62⟩ := Ac60
            refine e_callv (av := []) (st := []) dX8_piece_251 cO_8_146 oX8_wrong rfl (by decide) (gs_80 hg) rfl (Nat.le_of_ble_eq_true rfl) (by omega) h62 (Nat.le_refl _) (Nat.le_refl _) rfl rfl ?_
            exact e_zret dX8_piece_254 rfl Vh62.1 (by rw [Vh62.2.1, Vh62.2.2])
          · have Bc60 := Ac59.2 c60
            refine e_iload_n dX8_piece_108 rfl ?_
            refine e_bipush dX8_piece_109 (by decide) ⟨by decide, by decide⟩ ?_
            refine e_ic_ne (tgt := 250) dX8_piece_111 (by decide) (fun c64 => ?_) (fun c64 => ?_)
            · have Ac64 := Bc60.1 c64
              refine e_aload_n dX8_piece_250 rfl ?_
              obtain ⟨r67, J65, h66, Vh66⟩ := Ac64
              refine e_callv (av := []) (st := []) dX8_piece_251 cO_8_146 oX8_wrong rfl (by decide) (gs_80 hg) rfl (Nat.le_of_ble_eq_true rfl) (by omega) h66 (Nat.le_refl _) (Nat.le_refl _) rfl rfl ?_
              exact e_zret dX8_piece_254 rfl Vh66.1 (by rw [Vh66.2.1, Vh66.2.2])
            · have Bc64 := Bc60.2 c64
              refine e_aload_n dX8_piece_114 rfl ?_
              refine e_geti dX8_piece_115 fO_8_181 (by decide) (gs_80 hg) rfl ?_
              refine e_iconst dX8_piece_118 ⟨by decide, by decide⟩ ?_
              refine e_ic_ne (tgt := 127) dX8_piece_119 (by decide) (fun c68 => ?_) (fun c68 => ?_)
              · have Ac68 := Bc64.1 c68
                refine e_aload_n dX8_piece_127 rfl ?_
                refine e_dup dX8_piece_128 ?_
                refine e_geti dX8_piece_129 fO_8_181 (by decide) (gs_80 hg) rfl ?_
                refine e_iconst dX8_piece_132 ⟨by decide, by decide⟩ ?_
                obtain ⟨h69, Vh69⟩ := Ac68
                refine e_iadd dX8_piece_133 h69 ?_
                refine e_puti dX8_piece_134 fO_8_181 (by decide) (gs_80 hg) rfl rfl ?_
                refine e_mem (fun I70 eI70 => ?_)
                have WI70 := Vh69 I70 eI70
                refine e_aload_n dX8_piece_137 rfl ?_
                refine e_iconst dX8_piece_138 ⟨by decide, by decide⟩ ?_
                refine e_iload_n dX8_piece_139 rfl ?_
                obtain ⟨r73, J71, h72, Vh72⟩ := WI70
                refine e_callv (av := [.inl 3, .inl x1]) (st := []) dX8_piece_140 cO_8_150 oX8_adds rfl (by decide) (gs_80 hg) rfl (Nat.le_of_ble_eq_true rfl) (by omega) h72 (Nat.le_refl _) (Nat.le_refl _) rfl rfl ?_
                refine e_istore dX8_piece_143 (by decide) (ls' := [some (.inr (some 80)), some (.inl x1), some (.inl x2), some (.inl r3), some (.inl r73)]) rfl ?_
                refine e_aload_n dX8_piece_145 rfl ?_
                refine e_dup dX8_piece_146 ?_
                refine e_geti dX8_piece_147 fO_8_106 (by decide) (gs_80 hg) rfl ?_
                refine e_iconst dX8_piece_150 ⟨by decide, by decide⟩ ?_
                obtain ⟨h74, Vh74⟩ := Vh72
                refine e_iadd dX8_piece_151 h74 ?_
                refine e_puti dX8_piece_152 fO_8_106 (by decide) (gs_80 hg) rfl rfl ?_
                refine e_mem (fun I75 eI75 => ?_)
                have WI75 := Vh74 I75 eI75
                refine e_aload_n dX8_piece_155 rfl ?_
                obtain ⟨r78, J76, h77, Vh77⟩ := WI75
                refine e_callv (av := []) (st := []) dX8_piece_156 cO_8_157 oX8_look rfl (by decide) (gs_80 hg) rfl (Nat.le_of_ble_eq_true rfl) (by omega) h77 (Nat.le_refl _) (Nat.le_refl _) rfl rfl ?_
                refine e_bipush dX8_piece_159 (by decide) ⟨by decide, by decide⟩ ?_
                refine e_ic_eq (tgt := 169) dX8_piece_161 (by decide) (fun c79 => ?_) (fun c79 => ?_)
                · have Ac79 := Vh77.1 c79
                  refine e_aload_n dX8_piece_169 rfl ?_
                  obtain ⟨r82, J80, h81, Vh81⟩ := Ac79
                  refine e_callv (av := []) (st := []) dX8_piece_170 cO_8_184 oX8_opens rfl (by decide) (gs_80 hg) rfl (Nat.le_of_ble_eq_true rfl) (by omega) h81 (Nat.le_refl _) (Nat.le_refl _) rfl rfl ?_
                  refine e_if_ne (tgt := 178) dX8_piece_173 (by decide) (fun c83 => ?_) (fun c83 => ?_)
                  · have Ac83 := Vh81.1 c83
                    refine e_aload_n dX8_piece_178 rfl ?_
                    refine e_iconst dX8_piece_179 ⟨by decide, by decide⟩ ?_
                    refine e_putz dX8_piece_180 fO_8_174 (by decide) (gs_80 hg) rfl rfl (by decide) ?_
                    refine e_mem (fun I84 eI84 => ?_)
                    have WI84 := Ac83 I84 eI84
                    refine e_aload_n dX8_piece_183 rfl ?_
                    refine e_iload dX8_piece_184 rfl ?_
                    refine e_iconst dX8_piece_186 ⟨by decide, by decide⟩ ?_
                    obtain ⟨r87, J85, h86, Vh86⟩ := WI84
                    refine e_callv (av := [.inl r73, .inl 0]) (st := []) dX8_piece_187 cO_8_187 oX8_piece rfl (by decide) (gs_80 hg) rfl (Nat.le_of_ble_eq_true rfl) (by omega) h86 (Nat.le_refl _) (Nat.le_refl _) rfl rfl ?_
                    refine e_if_ne (tgt := 195) dX8_piece_190 (by decide) (fun c88 => ?_) (fun c88 => ?_)
                    · have Ac88 := Vh86.1 c88
                      refine e_aload_n dX8_piece_195 rfl ?_
                      refine e_iconst dX8_piece_196 ⟨by decide, by decide⟩ ?_
                      refine e_putz dX8_piece_197 fO_8_174 (by decide) (gs_80 hg) rfl rfl (by decide) ?_
                      refine e_mem (fun I89 eI89 => ?_)
                      have WI89 := Ac88 I89 eI89
                      refine e_aload_n dX8_piece_200 rfl ?_
                      obtain ⟨r92, J90, h91, Vh91⟩ := WI89
                      refine e_callv (av := []) (st := []) dX8_piece_201 cO_8_157 oX8_look rfl (by decide) (gs_80 hg) rfl (Nat.le_of_ble_eq_true rfl) (by omega) h91 (Nat.le_refl _) (Nat.le_refl _) rfl rfl ?_
                      refine e_bipush dX8_piece_204 (by decide) ⟨by decide, by decide⟩ ?_
                      refine e_ic_eq (tgt := 214) dX8_piece_206 (by decide) (fun c93 => ?_) (fun c93 => ?_)
                      · have Ac93 := Vh91.1 c93
                        refine e_aload_n dX8_piece_214 rfl ?_
                        refine e_dup dX8_piece_215 ?_
                        refine e_geti dX8_piece_216 fO_8_143 (by decide) (gs_80 hg) rfl ?_
                        refine e_iconst dX8_piece_219 ⟨by decide, by decide⟩ ?_
                        obtain ⟨h94, Vh94⟩ := Ac93
                        refine e_isub dX8_piece_220 h94 ?_
                        refine e_puti dX8_piece_221 fO_8_143 (by decide) (gs_80 hg) rfl rfl ?_
                        refine e_mem (fun I95 eI95 => ?_)
                        have WI95 := Vh94 I95 eI95
                        refine e_aload_n dX8_piece_224 rfl ?_
                        refine e_dup dX8_piece_225 ?_
                        refine e_geti dX8_piece_226 fO_8_106 (by decide) (gs_80 hg) rfl ?_
                        refine e_iconst dX8_piece_229 ⟨by decide, by decide⟩ ?_
                        obtain ⟨h96, Vh96⟩ := WI95
                        refine e_iadd dX8_piece_230 h96 ?_
                        refine e_puti dX8_piece_231 fO_8_106 (by decide) (gs_80 hg) rfl rfl ?_
                        refine e_mem (fun I97 eI97 => ?_)
                        have WI97 := Vh96 I97 eI97
                        refine e_aload_n dX8_piece_234 rfl ?_
                        refine e_getr dX8_piece_235 fO_8_109 (by decide) (gs_80 hg) rfl cu ?_
                        refine e_getr dX8_piece_238 fO_8_154 (mt_pos hu) (mt_s0 hg hu) rfl (mt_p4 hg hu) ?_
                        refine e_iload dX8_piece_241 rfl ?_
                        refine e_aload_n dX8_piece_243 rfl ?_
                        refine e_geti dX8_piece_244 fO_8_106 (by decide) (gs_80 hg) rfl ?_
                        obtain ⟨h99, Vh99⟩ := WI97
                        refine e_iast dX8_piece_247 (Nat.succ_pos _) (mt_s4 hg hu) h99.1 h99.2 ?_
                        refine e_mem (fun I98 eI98 => ?_)
                        have WI98 := Vh99 I98 eI98
                        refine e_iconst dX8_piece_248 ⟨by decide, by decide⟩ ?_
                        exact e_zret dX8_piece_249 rfl (by decide) (by rw [WI98.1, WI98.2])
                      · have Bc93 := Vh91.2 c93
                        refine e_aload_n dX8_piece_209 rfl ?_
                        obtain ⟨r102, J100, h101, Vh101⟩ := Bc93
                        refine e_callv (av := []) (st := []) dX8_piece_210 cO_8_146 oX8_wrong rfl (by decide) (gs_80 hg) rfl (Nat.le_of_ble_eq_true rfl) (by omega) h101 (Nat.le_refl _) (Nat.le_refl _) rfl rfl ?_
                        exact e_zret dX8_piece_213 rfl Vh101.1 (by rw [Vh101.2.1, Vh101.2.2])
                    · have Bc88 := Vh86.2 c88
                      refine e_iconst dX8_piece_193 ⟨by decide, by decide⟩ ?_
                      exact e_zret dX8_piece_194 rfl (by decide) (by rw [Bc88.1, Bc88.2])
                  · have Bc83 := Vh81.2 c83
                    refine e_iconst dX8_piece_176 ⟨by decide, by decide⟩ ?_
                    exact e_zret dX8_piece_177 rfl (by decide) (by rw [Bc83.1, Bc83.2])
                · have Bc79 := Vh77.2 c79
                  refine e_aload_n dX8_piece_164 rfl ?_
                  obtain ⟨r105, J103, h104, Vh104⟩ := Bc79
                  refine e_callv (av := []) (st := []) dX8_piece_165 cO_8_146 oX8_wrong rfl (by decide) (gs_80 hg) rfl (Nat.le_of_ble_eq_true rfl) (by omega) h104 (Nat.le_refl _) (Nat.le_refl _) rfl rfl ?_
                  exact e_zret dX8_piece_168 rfl Vh104.1 (by rw [Vh104.2.1, Vh104.2.2])
              · have Bc68 := Bc64.2 c68
                refine e_aload_n dX8_piece_122 rfl ?_
                obtain ⟨r108, J106, h107, Vh107⟩ := Bc68
                refine e_callv (av := []) (st := []) dX8_piece_123 cO_8_146 oX8_wrong rfl (by decide) (gs_80 hg) rfl (Nat.le_of_ble_eq_true rfl) (by omega) h107 (Nat.le_refl _) (Nat.le_refl _) rfl rfl ?_
                exact e_zret dX8_piece_126 rfl Vh107.1 (by rw [Vh107.2.1, Vh107.2.2])
        · have Bc59 := Bc9.2 c59
          refine e_iload_n dX8_piece_51 rfl ?_
          refine e_if_eq (tgt := 100) dX8_piece_52 (by decide) (fun c109 => ?_) (fun c109 => ?_)
          · have Ac109 := Bc59.1 c109
            refine e_aload_n dX8_piece_100 rfl ?_
            refine e_geti dX8_piece_101 fO_8_167 (by decide) (gs_80 hg) rfl ?_
            refine e_iconst dX8_piece_104 ⟨by decide, by decide⟩ ?_
            refine e_ic_ne (tgt := 250) dX8_piece_105 (by decide) (fun c110 => ?_) (fun c110 => ?_)
            · have Ac110 := Ac109.1 c110
              refine e_aload_n dX8_piece_250 rfl ?_
              obtain ⟨r113, J111, h112, Vh112⟩ := Ac110
              refine e_callv (av := []) (st := []) dX8_piece_251 cO_8_146 oX8_wrong rfl (by decide) (gs_80 hg) rfl (Nat.le_of_ble_eq_true rfl) (by omega) h112 (Nat.le_refl _) (Nat.le_refl _) rfl rfl ?_
              exact e_zret dX8_piece_254 rfl Vh112.1 (by rw [Vh112.2.1, Vh112.2.2])
            · have Bc110 := Ac109.2 c110
              refine e_iload_n dX8_piece_108 rfl ?_
              refine e_bipush dX8_piece_109 (by decide) ⟨by decide, by decide⟩ ?_
              refine e_ic_ne (tgt := 250) dX8_piece_111 (by decide) (fun c114 => ?_) (fun c114 => ?_)
              · have Ac114 := Bc110.1 c114
                refine e_aload_n dX8_piece_250 rfl ?_
                obtain ⟨r117, J115, h116, Vh116⟩ := Ac114
                refine e_callv (av := []) (st := []) dX8_piece_251 cO_8_146 oX8_wrong rfl (by decide) (gs_80 hg) rfl (Nat.le_of_ble_eq_true rfl) (by omega) h116 (Nat.le_refl _) (Nat.le_refl _) rfl rfl ?_
                exact e_zret dX8_piece_254 rfl Vh116.1 (by rw [Vh116.2.1, Vh116.2.2])
              · have Bc114 := Bc110.2 c114
                refine e_aload_n dX8_piece_114 rfl ?_
                refine e_geti dX8_piece_115 fO_8_181 (by decide) (gs_80 hg) rfl ?_
                refine e_iconst dX8_piece_118 ⟨by decide, by decide⟩ ?_
                refine e_ic_ne (tgt := 127) dX8_piece_119 (by decide) (fun c118 => ?_) (fun c118 => ?_)
                · have Ac118 := Bc114.1 c118
                  refine e_aload_n dX8_piece_127 rfl ?_
                  refine e_dup dX8_piece_128 ?_
                  refine e_geti dX8_piece_129 fO_8_181 (by decide) (gs_80 hg) rfl ?_
                  refine e_iconst dX8_piece_132 ⟨by decide, by decide⟩ ?_
                  obtain ⟨h119, Vh119⟩ := Ac118
                  refine e_iadd dX8_piece_133 h119 ?_
                  refine e_puti dX8_piece_134 fO_8_181 (by decide) (gs_80 hg) rfl rfl ?_
                  refine e_mem (fun I120 eI120 => ?_)
                  have WI120 := Vh119 I120 eI120
                  refine e_aload_n dX8_piece_137 rfl ?_
                  refine e_iconst dX8_piece_138 ⟨by decide, by decide⟩ ?_
                  refine e_iload_n dX8_piece_139 rfl ?_
                  obtain ⟨r123, J121, h122, Vh122⟩ := WI120
                  refine e_callv (av := [.inl 3, .inl x1]) (st := []) dX8_piece_140 cO_8_150 oX8_adds rfl (by decide) (gs_80 hg) rfl (Nat.le_of_ble_eq_true rfl) (by omega) h122 (Nat.le_refl _) (Nat.le_refl _) rfl rfl ?_
                  refine e_istore dX8_piece_143 (by decide) (ls' := [some (.inr (some 80)), some (.inl x1), some (.inl x2), some (.inl r3), some (.inl r123)]) rfl ?_
                  refine e_aload_n dX8_piece_145 rfl ?_
                  refine e_dup dX8_piece_146 ?_
                  refine e_geti dX8_piece_147 fO_8_106 (by decide) (gs_80 hg) rfl ?_
                  refine e_iconst dX8_piece_150 ⟨by decide, by decide⟩ ?_
                  obtain ⟨h124, Vh124⟩ := Vh122
                  refine e_iadd dX8_piece_151 h124 ?_
                  refine e_puti dX8_piece_152 fO_8_106 (by decide) (gs_80 hg) rfl rfl ?_
                  refine e_mem (fun I125 eI125 => ?_)
                  have WI125 := Vh124 I125 eI125
                  refine e_aload_n dX8_piece_155 rfl ?_
                  obtain ⟨r128, J126, h127, Vh127⟩ := WI125
                  refine e_callv (av := []) (st := []) dX8_piece_156 cO_8_157 oX8_look rfl (by decide) (gs_80 hg) rfl (Nat.le_of_ble_eq_true rfl) (by omega) h127 (Nat.le_refl _) (Nat.le_refl _) rfl rfl ?_
                  refine e_bipush dX8_piece_159 (by decide) ⟨by decide, by decide⟩ ?_
                  refine e_ic_eq (tgt := 169) dX8_piece_161 (by decide) (fun c129 => ?_) (fun c129 => ?_)
                  · have Ac129 := Vh127.1 c129
                    refine e_aload_n dX8_piece_169 rfl ?_
                    obtain ⟨r132, J130, h131, Vh131⟩ := Ac129
                    refine e_callv (av := []) (st := []) dX8_piece_170 cO_8_184 oX8_opens rfl (by decide) (gs_80 hg) rfl (Nat.le_of_ble_eq_true rfl) (by omega) h131 (Nat.le_refl _) (Nat.le_refl _) rfl rfl ?_
                    refine e_if_ne (tgt := 178) dX8_piece_173 (by decide) (fun c133 => ?_) (fun c133 => ?_)
                    · have Ac133 := Vh131.1 c133
                      refine e_aload_n dX8_piece_178 rfl ?_
                      refine e_iconst dX8_piece_179 ⟨by decide, by decide⟩ ?_
                      refine e_putz dX8_piece_180 fO_8_174 (by decide) (gs_80 hg) rfl rfl (by decide) ?_
                      refine e_mem (fun I134 eI134 => ?_)
                      have WI134 := Ac133 I134 eI134
                      refine e_aload_n dX8_piece_183 rfl ?_
                      refine e_iload dX8_piece_184 rfl ?_
                      refine e_iconst dX8_piece_186 ⟨by decide, by decide⟩ ?_
                      obtain ⟨r137, J135, h136, Vh136⟩ := WI134
                      refine e_callv (av := [.inl r123, .inl 0]) (st := []) dX8_piece_187 cO_8_187 oX8_piece rfl (by decide) (gs_80 hg) rfl (Nat.le_of_ble_eq_true rfl) (by omega) h136 (Nat.le_refl _) (Nat.le_refl _) rfl rfl ?_
                      refine e_if_ne (tgt := 195) dX8_piece_190 (by decide) (fun c138 => ?_) (fun c138 => ?_)
                      · have Ac138 := Vh136.1 c138
                        refine e_aload_n dX8_piece_195 rfl ?_
                        refine e_iconst dX8_piece_196 ⟨by decide, by decide⟩ ?_
                        refine e_putz dX8_piece_197 fO_8_174 (by decide) (gs_80 hg) rfl rfl (by decide) ?_
                        refine e_mem (fun I139 eI139 => ?_)
                        have WI139 := Ac138 I139 eI139
                        refine e_aload_n dX8_piece_200 rfl ?_
                        obtain ⟨r142, J140, h141, Vh141⟩ := WI139
                        refine e_callv (av := []) (st := []) dX8_piece_201 cO_8_157 oX8_look rfl (by decide) (gs_80 hg) rfl (Nat.le_of_ble_eq_true rfl) (by omega) h141 (Nat.le_refl _) (Nat.le_refl _) rfl rfl ?_
                        refine e_bipush dX8_piece_204 (by decide) ⟨by decide, by decide⟩ ?_
                        refine e_ic_eq (tgt := 214) dX8_piece_206 (by decide) (fun c143 => ?_) (fun c143 => ?_)
                        · have Ac143 := Vh141.1 c143
                          refine e_aload_n dX8_piece_214 rfl ?_
                          refine e_dup dX8_piece_215 ?_
                          refine e_geti dX8_piece_216 fO_8_143 (by decide) (gs_80 hg) rfl ?_
                          refine e_iconst dX8_piece_219 ⟨by decide, by decide⟩ ?_
                          obtain ⟨h144, Vh144⟩ := Ac143
                          refine e_isub dX8_piece_220 h144 ?_
                          refine e_puti dX8_piece_221 fO_8_143 (by decide) (gs_80 hg) rfl rfl ?_
                          refine e_mem (fun I145 eI145 => ?_)
                          have WI145 := Vh144 I145 eI145
                          refine e_aload_n dX8_piece_224 rfl ?_
                          refine e_dup dX8_piece_225 ?_
                          refine e_geti dX8_piece_226 fO_8_106 (by decide) (gs_80 hg) rfl ?_
                          refine e_iconst dX8_piece_229 ⟨by decide, by decide⟩ ?_
                          obtain ⟨h146, Vh146⟩ := WI145
                          refine e_iadd dX8_piece_230 h146 ?_
                          refine e_puti dX8_piece_231 fO_8_106 (by decide) (gs_80 hg) rfl rfl ?_
                          refine e_mem (fun I147 eI147 => ?_)
                          have WI147 := Vh146 I147 eI147
                          refine e_aload_n dX8_piece_234 rfl ?_
                          refine e_getr dX8_piece_235 fO_8_109 (by decide) (gs_80 hg) rfl cu ?_
                          refine e_getr dX8_piece_238 fO_8_154 (mt_pos hu) (mt_s0 hg hu) rfl (mt_p4 hg hu) ?_
                          refine e_iload dX8_piece_241 rfl ?_
                          refine e_aload_n dX8_piece_243 rfl ?_
                          refine e_geti dX8_piece_244 fO_8_106 (by decide) (gs_80 hg) rfl ?_
                          obtain ⟨h149, Vh149⟩ := WI147
                          refine e_iast dX8_piece_247 (Nat.succ_pos _) (mt_s4 hg hu) h149.1 h149.2 ?_
                          refine e_mem (fun I148 eI148 => ?_)
                          have WI148 := Vh149 I148 eI148
                          refine e_iconst dX8_piece_248 ⟨by decide, by decide⟩ ?_
                          exact e_zret dX8_piece_249 rfl (by decide) (by rw [WI148.1, WI148.2])
                        · have Bc143 := Vh141.2 c143
                          refine e_aload_n dX8_piece_209 rfl ?_
                          obtain ⟨r152, J150, h151, Vh151⟩ := Bc143
                          refine e_callv (av := []) (st := []) dX8_piece_210 cO_8_146 oX8_wrong rfl (by decide) (gs_80 hg) rfl (Nat.le_of_ble_eq_true rfl) (by omega) h151 (Nat.le_refl _) (Nat.le_refl _) rfl rfl ?_
                          exact e_zret dX8_piece_213 rfl Vh151.1 (by rw [Vh151.2.1, Vh151.2.2])
                      · have Bc138 := Vh136.2 c138
                        refine e_iconst dX8_piece_193 ⟨by decide, by decide⟩ ?_
                        exact e_zret dX8_piece_194 rfl (by decide) (by rw [Bc138.1, Bc138.2])
                    · have Bc133 := Vh131.2 c133
                      refine e_iconst dX8_piece_176 ⟨by decide, by decide⟩ ?_
                      exact e_zret dX8_piece_177 rfl (by decide) (by rw [Bc133.1, Bc133.2])
                  · have Bc129 := Vh127.2 c129
                    refine e_aload_n dX8_piece_164 rfl ?_
                    obtain ⟨r155, J153, h154, Vh154⟩ := Bc129
                    refine e_callv (av := []) (st := []) dX8_piece_165 cO_8_146 oX8_wrong rfl (by decide) (gs_80 hg) rfl (Nat.le_of_ble_eq_true rfl) (by omega) h154 (Nat.le_refl _) (Nat.le_refl _) rfl rfl ?_
                    exact e_zret dX8_piece_168 rfl Vh154.1 (by rw [Vh154.2.1, Vh154.2.2])
                · have Bc118 := Bc114.2 c118
                  refine e_aload_n dX8_piece_122 rfl ?_
                  obtain ⟨r158, J156, h157, Vh157⟩ := Bc118
                  refine e_callv (av := []) (st := []) dX8_piece_123 cO_8_146 oX8_wrong rfl (by decide) (gs_80 hg) rfl (Nat.le_of_ble_eq_true rfl) (by omega) h157 (Nat.le_refl _) (Nat.le_refl _) rfl rfl ?_
                  exact e_zret dX8_piece_126 rfl Vh157.1 (by rw [Vh157.2.1, Vh157.2.2])
          · have Bc109 := Bc59.2 c109
            refine e_aload_n dX8_piece_55 rfl ?_
            refine e_geti dX8_piece_56 fO_8_167 (by decide) (gs_80 hg) rfl ?_
            refine e_iconst dX8_piece_59 ⟨by decide, by decide⟩ ?_
            refine e_ic_ne (tgt := 83) dX8_piece_60 (by decide) (fun c159 => ?_) (fun c159 => ?_)
            · have Ac159 := Bc109.1 c159
              refine e_aload_n dX8_piece_83 rfl ?_
              refine e_dup dX8_piece_84 ?_
              refine e_geti dX8_piece_85 fO_8_178 (by decide) (gs_80 hg) rfl ?_
              refine e_iconst dX8_piece_88 ⟨by decide, by decide⟩ ?_
              obtain ⟨h160, Vh160⟩ := Ac159
              refine e_iadd dX8_piece_89 h160 ?_
              refine e_puti dX8_piece_90 fO_8_178 (by decide) (gs_80 hg) rfl rfl ?_
              refine e_mem (fun I161 eI161 => ?_)
              have WI161 := Vh160 I161 eI161
              refine e_aload_n dX8_piece_93 rfl ?_
              refine e_iconst dX8_piece_94 ⟨by decide, by decide⟩ ?_
              refine e_iload_n dX8_piece_95 rfl ?_
              obtain ⟨r164, J162, h163, Vh163⟩ := WI161
              refine e_callv (av := [.inl 2, .inl x1]) (st := []) dX8_piece_96 cO_8_170 oX8_lettered rfl (by decide) (gs_80 hg) rfl (Nat.le_of_ble_eq_true rfl) (by omega) h163 (Nat.le_refl _) (Nat.le_refl _) rfl rfl ?_
              exact e_zret dX8_piece_99 rfl Vh163.1 (by rw [Vh163.2.1, Vh163.2.2])
            · have Bc159 := Bc109.2 c159
              refine e_aload_n dX8_piece_63 rfl ?_
              refine e_geti dX8_piece_64 fO_8_174 (by decide) (gs_80 hg) rfl ?_
              refine e_if_ne (tgt := 78) dX8_piece_67 (by decide) (fun c165 => ?_) (fun c165 => ?_)
              · have Ac165 := Bc159.1 c165
                refine e_aload_n dX8_piece_78 rfl ?_
                obtain ⟨r168, J166, h167, Vh167⟩ := Ac165
                refine e_callv (av := []) (st := []) dX8_piece_79 cO_8_146 oX8_wrong rfl (by decide) (gs_80 hg) rfl (Nat.le_of_ble_eq_true rfl) (by omega) h167 (Nat.le_refl _) (Nat.le_refl _) rfl rfl ?_
                exact e_zret dX8_piece_82 rfl Vh167.1 (by rw [Vh167.2.1, Vh167.2.2])
              · have Bc165 := Bc159.2 c165
                refine e_aload_n dX8_piece_70 rfl ?_
                refine e_geti dX8_piece_71 fO_8_178 (by decide) (gs_80 hg) rfl ?_
                refine e_iconst dX8_piece_74 ⟨by decide, by decide⟩ ?_
                refine e_ic_ne (tgt := 83) dX8_piece_75 (by decide) (fun c169 => ?_) (fun c169 => ?_)
                · have Ac169 := Bc165.1 c169
                  refine e_aload_n dX8_piece_83 rfl ?_
                  refine e_dup dX8_piece_84 ?_
                  refine e_geti dX8_piece_85 fO_8_178 (by decide) (gs_80 hg) rfl ?_
                  refine e_iconst dX8_piece_88 ⟨by decide, by decide⟩ ?_
                  obtain ⟨h170, Vh170⟩ := Ac169
                  refine e_iadd dX8_piece_89 h170 ?_
                  refine e_puti dX8_piece_90 fO_8_178 (by decide) (gs_80 hg) rfl rfl ?_
                  refine e_mem (fun I171 eI171 => ?_)
                  have WI171 := Vh170 I171 eI171
                  refine e_aload_n dX8_piece_93 rfl ?_
                  refine e_iconst dX8_piece_94 ⟨by decide, by decide⟩ ?_
                  refine e_iload_n dX8_piece_95 rfl ?_
                  obtain ⟨r174, J172, h173, Vh173⟩ := WI171
                  refine e_callv (av := [.inl 2, .inl x1]) (st := []) dX8_piece_96 cO_8_170 oX8_lettered rfl (by decide) (gs_80 hg) rfl (Nat.le_of_ble_eq_true rfl) (by omega) h173 (Nat.le_refl _) (Nat.le_refl _) rfl rfl ?_
                  exact e_zret dX8_piece_99 rfl Vh173.1 (by rw [Vh173.2.1, Vh173.2.2])
                · have Bc169 := Bc165.2 c169
                  refine e_aload_n dX8_piece_78 rfl ?_
                  obtain ⟨r177, J175, h176, Vh176⟩ := Bc169
                  refine e_callv (av := []) (st := []) dX8_piece_79 cO_8_146 oX8_wrong rfl (by decide) (gs_80 hg) rfl (Nat.le_of_ble_eq_true rfl) (by omega) h176 (Nat.le_refl _) (Nat.le_refl _) rfl rfl ?_
                  exact e_zret dX8_piece_82 rfl Vh176.1 (by rw [Vh176.2.1, Vh176.2.2])
    · have Bc8 := Ac7.2 c8
      refine e_iload_n dX8_piece_25 rfl ?_
      refine e_bipush dX8_piece_26 (by decide) ⟨by decide, by decide⟩ ?_
      refine e_ic_ne (tgt := 38) dX8_piece_28 (by decide) (fun c178 => ?_) (fun c178 => ?_)
      · have Ac178 := Bc8.1 c178
        refine e_aload_n dX8_piece_38 rfl ?_
        refine e_geti dX8_piece_39 fO_8_167 (by decide) (gs_80 hg) rfl ?_
        refine e_if_eq (tgt := 100) dX8_piece_42 (by decide) (fun c179 => ?_) (fun c179 => ?_)
        · have Ac179 := Ac178.1 c179
          refine e_aload_n dX8_piece_100 rfl ?_
          refine e_geti dX8_piece_101 fO_8_167 (by decide) (gs_80 hg) rfl ?_
          refine e_iconst dX8_piece_104 ⟨by decide, by decide⟩ ?_
          refine e_ic_ne (tgt := 250) dX8_piece_105 (by decide) (fun c180 => ?_) (fun c180 => ?_)
          · have Ac180 := Ac179.1 c180
            refine e_aload_n dX8_piece_250 rfl ?_
            obtain ⟨r183, J181, h182, Vh182⟩ := Ac180
            refine e_callv (av := []) (st := []) dX8_piece_251 cO_8_146 oX8_wrong rfl (by decide) (gs_80 hg) rfl (Nat.le_of_ble_eq_true rfl) (by omega) h182 (Nat.le_refl _) (Nat.le_refl _) rfl rfl ?_
            exact e_zret dX8_piece_254 rfl Vh182.1 (by rw [Vh182.2.1, Vh182.2.2])
          · have Bc180 := Ac179.2 c180
            refine e_iload_n dX8_piece_108 rfl ?_
            refine e_bipush dX8_piece_109 (by decide) ⟨by decide, by decide⟩ ?_
            refine e_ic_ne (tgt := 250) dX8_piece_111 (by decide) (fun c184 => ?_) (fun c184 => ?_)
            · have Ac184 := Bc180.1 c184
              refine e_aload_n dX8_piece_250 rfl ?_
              obtain ⟨r187, J185, h186, Vh186⟩ := Ac184
              refine e_callv (av := []) (st := []) dX8_piece_251 cO_8_146 oX8_wrong rfl (by decide) (gs_80 hg) rfl (Nat.le_of_ble_eq_true rfl) (by omega) h186 (Nat.le_refl _) (Nat.le_refl _) rfl rfl ?_
              exact e_zret dX8_piece_254 rfl Vh186.1 (by rw [Vh186.2.1, Vh186.2.2])
            · have Bc184 := Bc180.2 c184
              refine e_aload_n dX8_piece_114 rfl ?_
              refine e_geti dX8_piece_115 fO_8_181 (by decide) (gs_80 hg) rfl ?_
              refine e_iconst dX8_piece_118 ⟨by decide, by decide⟩ ?_
              refine e_ic_ne (tgt := 127) dX8_piece_119 (by decide) (fun c188 => ?_) (fun c188 => ?_)
              · have Ac188 := Bc184.1 c188
                refine e_aload_n dX8_piece_127 rfl ?_
                refine e_dup dX8_piece_128 ?_
                refine e_geti dX8_piece_129 fO_8_181 (by decide) (gs_80 hg) rfl ?_
                refine e_iconst dX8_piece_132 ⟨by decide, by decide⟩ ?_
                obtain ⟨h189, Vh189⟩ := Ac188
                refine e_iadd dX8_piece_133 h189 ?_
                refine e_puti dX8_piece_134 fO_8_181 (by decide) (gs_80 hg) rfl rfl ?_
                refine e_mem (fun I190 eI190 => ?_)
                have WI190 := Vh189 I190 eI190
                refine e_aload_n dX8_piece_137 rfl ?_
                refine e_iconst dX8_piece_138 ⟨by decide, by decide⟩ ?_
                refine e_iload_n dX8_piece_139 rfl ?_
                obtain ⟨r193, J191, h192, Vh192⟩ := WI190
                refine e_callv (av := [.inl 3, .inl x1]) (st := []) dX8_piece_140 cO_8_150 oX8_adds rfl (by decide) (gs_80 hg) rfl (Nat.le_of_ble_eq_true rfl) (by omega) h192 (Nat.le_refl _) (Nat.le_refl _) rfl rfl ?_
                refine e_istore dX8_piece_143 (by decide) (ls' := [some (.inr (some 80)), some (.inl x1), some (.inl x2), some (.inl r3), some (.inl r193)]) rfl ?_
                refine e_aload_n dX8_piece_145 rfl ?_
                refine e_dup dX8_piece_146 ?_
                refine e_geti dX8_piece_147 fO_8_106 (by decide) (gs_80 hg) rfl ?_
                refine e_iconst dX8_piece_150 ⟨by decide, by decide⟩ ?_
                obtain ⟨h194, Vh194⟩ := Vh192
                refine e_iadd dX8_piece_151 h194 ?_
                refine e_puti dX8_piece_152 fO_8_106 (by decide) (gs_80 hg) rfl rfl ?_
                refine e_mem (fun I195 eI195 => ?_)
                have WI195 := Vh194 I195 eI195
                refine e_aload_n dX8_piece_155 rfl ?_
                obtain ⟨r198, J196, h197, Vh197⟩ := WI195
                refine e_callv (av := []) (st := []) dX8_piece_156 cO_8_157 oX8_look rfl (by decide) (gs_80 hg) rfl (Nat.le_of_ble_eq_true rfl) (by omega) h197 (Nat.le_refl _) (Nat.le_refl _) rfl rfl ?_
                refine e_bipush dX8_piece_159 (by decide) ⟨by decide, by decide⟩ ?_
                refine e_ic_eq (tgt := 169) dX8_piece_161 (by decide) (fun c199 => ?_) (fun c199 => ?_)
                · have Ac199 := Vh197.1 c199
                  refine e_aload_n dX8_piece_169 rfl ?_
                  obtain ⟨r202, J200, h201, Vh201⟩ := Ac199
                  refine e_callv (av := []) (st := []) dX8_piece_170 cO_8_184 oX8_opens rfl (by decide) (gs_80 hg) rfl (Nat.le_of_ble_eq_true rfl) (by omega) h201 (Nat.le_refl _) (Nat.le_refl _) rfl rfl ?_
                  refine e_if_ne (tgt := 178) dX8_piece_173 (by decide) (fun c203 => ?_) (fun c203 => ?_)
                  · have Ac203 := Vh201.1 c203
                    refine e_aload_n dX8_piece_178 rfl ?_
                    refine e_iconst dX8_piece_179 ⟨by decide, by decide⟩ ?_
                    refine e_putz dX8_piece_180 fO_8_174 (by decide) (gs_80 hg) rfl rfl (by decide) ?_
                    refine e_mem (fun I204 eI204 => ?_)
                    have WI204 := Ac203 I204 eI204
                    refine e_aload_n dX8_piece_183 rfl ?_
                    refine e_iload dX8_piece_184 rfl ?_
                    refine e_iconst dX8_piece_186 ⟨by decide, by decide⟩ ?_
                    obtain ⟨r207, J205, h206, Vh206⟩ := WI204
                    refine e_callv (av := [.inl r193, .inl 0]) (st := []) dX8_piece_187 cO_8_187 oX8_piece rfl (by decide) (gs_80 hg) rfl (Nat.le_of_ble_eq_true rfl) (by omega) h206 (Nat.le_refl _) (Nat.le_refl _) rfl rfl ?_
                    refine e_if_ne (tgt := 195) dX8_piece_190 (by decide) (fun c208 => ?_) (fun c208 => ?_)
                    · have Ac208 := Vh206.1 c208
                      refine e_aload_n dX8_piece_195 rfl ?_
                      refine e_iconst dX8_piece_196 ⟨by decide, by decide⟩ ?_
                      refine e_putz dX8_piece_197 fO_8_174 (by decide) (gs_80 hg) rfl rfl (by decide) ?_
                      refine e_mem (fun I209 eI209 => ?_)
                      have WI209 := Ac208 I209 eI209
                      refine e_aload_n dX8_piece_200 rfl ?_
                      obtain ⟨r212, J210, h211, Vh211⟩ := WI209
                      refine e_callv (av := []) (st := []) dX8_piece_201 cO_8_157 oX8_look rfl (by decide) (gs_80 hg) rfl (Nat.le_of_ble_eq_true rfl) (by omega) h211 (Nat.le_refl _) (Nat.le_refl _) rfl rfl ?_
                      refine e_bipush dX8_piece_204 (by decide) ⟨by decide, by decide⟩ ?_
                      refine e_ic_eq (tgt := 214) dX8_piece_206 (by decide) (fun c213 => ?_) (fun c213 => ?_)
                      · have Ac213 := Vh211.1 c213
                        refine e_aload_n dX8_piece_214 rfl ?_
                        refine e_dup dX8_piece_215 ?_
                        refine e_geti dX8_piece_216 fO_8_143 (by decide) (gs_80 hg) rfl ?_
                        refine e_iconst dX8_piece_219 ⟨by decide, by decide⟩ ?_
                        obtain ⟨h214, Vh214⟩ := Ac213
                        refine e_isub dX8_piece_220 h214 ?_
                        refine e_puti dX8_piece_221 fO_8_143 (by decide) (gs_80 hg) rfl rfl ?_
                        refine e_mem (fun I215 eI215 => ?_)
                        have WI215 := Vh214 I215 eI215
                        refine e_aload_n dX8_piece_224 rfl ?_
                        refine e_dup dX8_piece_225 ?_
                        refine e_geti dX8_piece_226 fO_8_106 (by decide) (gs_80 hg) rfl ?_
                        refine e_iconst dX8_piece_229 ⟨by decide, by decide⟩ ?_
                        obtain ⟨h216, Vh216⟩ := WI215
                        refine e_iadd dX8_piece_230 h216 ?_
                        refine e_puti dX8_piece_231 fO_8_106 (by decide) (gs_80 hg) rfl rfl ?_
                        refine e_mem (fun I217 eI217 => ?_)
                        have WI217 := Vh216 I217 eI217
                        refine e_aload_n dX8_piece_234 rfl ?_
                        refine e_getr dX8_piece_235 fO_8_109 (by decide) (gs_80 hg) rfl cu ?_
                        refine e_getr dX8_piece_238 fO_8_154 (mt_pos hu) (mt_s0 hg hu) rfl (mt_p4 hg hu) ?_
                        refine e_iload dX8_piece_241 rfl ?_
                        refine e_aload_n dX8_piece_243 rfl ?_
                        refine e_geti dX8_piece_244 fO_8_106 (by decide) (gs_80 hg) rfl ?_
                        obtain ⟨h219, Vh219⟩ := WI217
                        refine e_iast dX8_piece_247 (Nat.succ_pos _) (mt_s4 hg hu) h219.1 h219.2 ?_
                        refine e_mem (fun I218 eI218 => ?_)
                        have WI218 := Vh219 I218 eI218
                        refine e_iconst dX8_piece_248 ⟨by decide, by decide⟩ ?_
                        exact e_zret dX8_piece_249 rfl (by decide) (by rw [WI218.1, WI218.2])
                      · have Bc213 := Vh211.2 c213
                        refine e_aload_n dX8_piece_209 rfl ?_
                        obtain ⟨r222, J220, h221, Vh221⟩ := Bc213
                        refine e_callv (av := []) (st := []) dX8_piece_210 cO_8_146 oX8_wrong rfl (by decide) (gs_80 hg) rfl (Nat.le_of_ble_eq_true rfl) (by omega) h221 (Nat.le_refl _) (Nat.le_refl _) rfl rfl ?_
                        exact e_zret dX8_piece_213 rfl Vh221.1 (by rw [Vh221.2.1, Vh221.2.2])
                    · have Bc208 := Vh206.2 c208
                      refine e_iconst dX8_piece_193 ⟨by decide, by decide⟩ ?_
                      exact e_zret dX8_piece_194 rfl (by decide) (by rw [Bc208.1, Bc208.2])
                  · have Bc203 := Vh201.2 c203
                    refine e_iconst dX8_piece_176 ⟨by decide, by decide⟩ ?_
                    exact e_zret dX8_piece_177 rfl (by decide) (by rw [Bc203.1, Bc203.2])
                · have Bc199 := Vh197.2 c199
                  refine e_aload_n dX8_piece_164 rfl ?_
                  obtain ⟨r225, J223, h224, Vh224⟩ := Bc199
                  refine e_callv (av := []) (st := []) dX8_piece_165 cO_8_146 oX8_wrong rfl (by decide) (gs_80 hg) rfl (Nat.le_of_ble_eq_true rfl) (by omega) h224 (Nat.le_refl _) (Nat.le_refl _) rfl rfl ?_
                  exact e_zret dX8_piece_168 rfl Vh224.1 (by rw [Vh224.2.1, Vh224.2.2])
              · have Bc188 := Bc184.2 c188
                refine e_aload_n dX8_piece_122 rfl ?_
                obtain ⟨r228, J226, h227, Vh227⟩ := Bc188
                refine e_callv (av := []) (st := []) dX8_piece_123 cO_8_146 oX8_wrong rfl (by decide) (gs_80 hg) rfl (Nat.le_of_ble_eq_true rfl) (by omega) h227 (Nat.le_refl _) (Nat.le_refl _) rfl rfl ?_
                exact e_zret dX8_piece_126 rfl Vh227.1 (by rw [Vh227.2.1, Vh227.2.2])
        · have Bc179 := Ac178.2 c179
          refine e_iload_n dX8_piece_45 rfl ?_
          refine e_bipush dX8_piece_46 (by decide) ⟨by decide, by decide⟩ ?_
          refine e_ic_ne (tgt := 100) dX8_piece_48 (by decide) (fun c229 => ?_) (fun c229 => ?_)
          · have Ac229 := Bc179.1 c229
            refine e_aload_n dX8_piece_100 rfl ?_
            refine e_geti dX8_piece_101 fO_8_167 (by decide) (gs_80 hg) rfl ?_
            refine e_iconst dX8_piece_104 ⟨by decide, by decide⟩ ?_
            refine e_ic_ne (tgt := 250) dX8_piece_105 (by decide) (fun c230 => ?_) (fun c230 => ?_)
            · have Ac230 := Ac229.1 c230
              refine e_aload_n dX8_piece_250 rfl ?_
              obtain ⟨r233, J231, h232, Vh232⟩ := Ac230
              refine e_callv (av := []) (st := []) dX8_piece_251 cO_8_146 oX8_wrong rfl (by decide) (gs_80 hg) rfl (Nat.le_of_ble_eq_true rfl) (by omega) h232 (Nat.le_refl _) (Nat.le_refl _) rfl rfl ?_
              exact e_zret dX8_piece_254 rfl Vh232.1 (by rw [Vh232.2.1, Vh232.2.2])
            · have Bc230 := Ac229.2 c230
              refine e_iload_n dX8_piece_108 rfl ?_
              refine e_bipush dX8_piece_109 (by decide) ⟨by decide, by decide⟩ ?_
              refine e_ic_ne (tgt := 250) dX8_piece_111 (by decide) (fun c234 => ?_) (fun c234 => ?_)
              · have Ac234 := Bc230.1 c234
                refine e_aload_n dX8_piece_250 rfl ?_
                obtain ⟨r237, J235, h236, Vh236⟩ := Ac234
                refine e_callv (av := []) (st := []) dX8_piece_251 cO_8_146 oX8_wrong rfl (by decide) (gs_80 hg) rfl (Nat.le_of_ble_eq_true rfl) (by omega) h236 (Nat.le_refl _) (Nat.le_refl _) rfl rfl ?_
                exact e_zret dX8_piece_254 rfl Vh236.1 (by rw [Vh236.2.1, Vh236.2.2])
              · have Bc234 := Bc230.2 c234
                refine e_aload_n dX8_piece_114 rfl ?_
                refine e_geti dX8_piece_115 fO_8_181 (by decide) (gs_80 hg) rfl ?_
                refine e_iconst dX8_piece_118 ⟨by decide, by decide⟩ ?_
                refine e_ic_ne (tgt := 127) dX8_piece_119 (by decide) (fun c238 => ?_) (fun c238 => ?_)
                · have Ac238 := Bc234.1 c238
                  refine e_aload_n dX8_piece_127 rfl ?_
                  refine e_dup dX8_piece_128 ?_
                  refine e_geti dX8_piece_129 fO_8_181 (by decide) (gs_80 hg) rfl ?_
                  refine e_iconst dX8_piece_132 ⟨by decide, by decide⟩ ?_
                  obtain ⟨h239, Vh239⟩ := Ac238
                  refine e_iadd dX8_piece_133 h239 ?_
                  refine e_puti dX8_piece_134 fO_8_181 (by decide) (gs_80 hg) rfl rfl ?_
                  refine e_mem (fun I240 eI240 => ?_)
                  have WI240 := Vh239 I240 eI240
                  refine e_aload_n dX8_piece_137 rfl ?_
                  refine e_iconst dX8_piece_138 ⟨by decide, by decide⟩ ?_
                  refine e_iload_n dX8_piece_139 rfl ?_
                  obtain ⟨r243, J241, h242, Vh242⟩ := WI240
                  refine e_callv (av := [.inl 3, .inl x1]) (st := []) dX8_piece_140 cO_8_150 oX8_adds rfl (by decide) (gs_80 hg) rfl (Nat.le_of_ble_eq_true rfl) (by omega) h242 (Nat.le_refl _) (Nat.le_refl _) rfl rfl ?_
                  refine e_istore dX8_piece_143 (by decide) (ls' := [some (.inr (some 80)), some (.inl x1), some (.inl x2), some (.inl r3), some (.inl r243)]) rfl ?_
                  refine e_aload_n dX8_piece_145 rfl ?_
                  refine e_dup dX8_piece_146 ?_
                  refine e_geti dX8_piece_147 fO_8_106 (by decide) (gs_80 hg) rfl ?_
                  refine e_iconst dX8_piece_150 ⟨by decide, by decide⟩ ?_
                  obtain ⟨h244, Vh244⟩ := Vh242
                  refine e_iadd dX8_piece_151 h244 ?_
                  refine e_puti dX8_piece_152 fO_8_106 (by decide) (gs_80 hg) rfl rfl ?_
                  refine e_mem (fun I245 eI245 => ?_)
                  have WI245 := Vh244 I245 eI245
                  refine e_aload_n dX8_piece_155 rfl ?_
                  obtain ⟨r248, J246, h247, Vh247⟩ := WI245
                  refine e_callv (av := []) (st := []) dX8_piece_156 cO_8_157 oX8_look rfl (by decide) (gs_80 hg) rfl (Nat.le_of_ble_eq_true rfl) (by omega) h247 (Nat.le_refl _) (Nat.le_refl _) rfl rfl ?_
                  refine e_bipush dX8_piece_159 (by decide) ⟨by decide, by decide⟩ ?_
                  refine e_ic_eq (tgt := 169) dX8_piece_161 (by decide) (fun c249 => ?_) (fun c249 => ?_)
                  · have Ac249 := Vh247.1 c249
                    refine e_aload_n dX8_piece_169 rfl ?_
                    obtain ⟨r252, J250, h251, Vh251⟩ := Ac249
                    refine e_callv (av := []) (st := []) dX8_piece_170 cO_8_184 oX8_opens rfl (by decide) (gs_80 hg) rfl (Nat.le_of_ble_eq_true rfl) (by omega) h251 (Nat.le_refl _) (Nat.le_refl _) rfl rfl ?_
                    refine e_if_ne (tgt := 178) dX8_piece_173 (by decide) (fun c253 => ?_) (fun c253 => ?_)
                    · have Ac253 := Vh251.1 c253
                      refine e_aload_n dX8_piece_178 rfl ?_
                      refine e_iconst dX8_piece_179 ⟨by decide, by decide⟩ ?_
                      refine e_putz dX8_piece_180 fO_8_174 (by decide) (gs_80 hg) rfl rfl (by decide) ?_
                      refine e_mem (fun I254 eI254 => ?_)
                      have WI254 := Ac253 I254 eI254
                      refine e_aload_n dX8_piece_183 rfl ?_
                      refine e_iload dX8_piece_184 rfl ?_
                      refine e_iconst dX8_piece_186 ⟨by decide, by decide⟩ ?_
                      obtain ⟨r257, J255, h256, Vh256⟩ := WI254
                      refine e_callv (av := [.inl r243, .inl 0]) (st := []) dX8_piece_187 cO_8_187 oX8_piece rfl (by decide) (gs_80 hg) rfl (Nat.le_of_ble_eq_true rfl) (by omega) h256 (Nat.le_refl _) (Nat.le_refl _) rfl rfl ?_
                      refine e_if_ne (tgt := 195) dX8_piece_190 (by decide) (fun c258 => ?_) (fun c258 => ?_)
                      · have Ac258 := Vh256.1 c258
                        refine e_aload_n dX8_piece_195 rfl ?_
                        refine e_iconst dX8_piece_196 ⟨by decide, by decide⟩ ?_
                        refine e_putz dX8_piece_197 fO_8_174 (by decide) (gs_80 hg) rfl rfl (by decide) ?_
                        refine e_mem (fun I259 eI259 => ?_)
                        have WI259 := Ac258 I259 eI259
                        refine e_aload_n dX8_piece_200 rfl ?_
                        obtain ⟨r262, J260, h261, Vh261⟩ := WI259
                        refine e_callv (av := []) (st := []) dX8_piece_201 cO_8_157 oX8_look rfl (by decide) (gs_80 hg) rfl (Nat.le_of_ble_eq_true rfl) (by omega) h261 (Nat.le_refl _) (Nat.le_refl _) rfl rfl ?_
                        refine e_bipush dX8_piece_204 (by decide) ⟨by decide, by decide⟩ ?_
                        refine e_ic_eq (tgt := 214) dX8_piece_206 (by decide) (fun c263 => ?_) (fun c263 => ?_)
                        · have Ac263 := Vh261.1 c263
                          refine e_aload_n dX8_piece_214 rfl ?_
                          refine e_dup dX8_piece_215 ?_
                          refine e_geti dX8_piece_216 fO_8_143 (by decide) (gs_80 hg) rfl ?_
                          refine e_iconst dX8_piece_219 ⟨by decide, by decide⟩ ?_
                          obtain ⟨h264, Vh264⟩ := Ac263
                          refine e_isub dX8_piece_220 h264 ?_
                          refine e_puti dX8_piece_221 fO_8_143 (by decide) (gs_80 hg) rfl rfl ?_
                          refine e_mem (fun I265 eI265 => ?_)
                          have WI265 := Vh264 I265 eI265
                          refine e_aload_n dX8_piece_224 rfl ?_
                          refine e_dup dX8_piece_225 ?_
                          refine e_geti dX8_piece_226 fO_8_106 (by decide) (gs_80 hg) rfl ?_
                          refine e_iconst dX8_piece_229 ⟨by decide, by decide⟩ ?_
                          obtain ⟨h266, Vh266⟩ := WI265
                          refine e_iadd dX8_piece_230 h266 ?_
                          refine e_puti dX8_piece_231 fO_8_106 (by decide) (gs_80 hg) rfl rfl ?_
                          refine e_mem (fun I267 eI267 => ?_)
                          have WI267 := Vh266 I267 eI267
                          refine e_aload_n dX8_piece_234 rfl ?_
                          refine e_getr dX8_piece_235 fO_8_109 (by decide) (gs_80 hg) rfl cu ?_
                          refine e_getr dX8_piece_238 fO_8_154 (mt_pos hu) (mt_s0 hg hu) rfl (mt_p4 hg hu) ?_
                          refine e_iload dX8_piece_241 rfl ?_
                          refine e_aload_n dX8_piece_243 rfl ?_
                          refine e_geti dX8_piece_244 fO_8_106 (by decide) (gs_80 hg) rfl ?_
                          obtain ⟨h269, Vh269⟩ := WI267
                          refine e_iast dX8_piece_247 (Nat.succ_pos _) (mt_s4 hg hu) h269.1 h269.2 ?_
                          refine e_mem (fun I268 eI268 => ?_)
                          have WI268 := Vh269 I268 eI268
                          refine e_iconst dX8_piece_248 ⟨by decide, by decide⟩ ?_
                          exact e_zret dX8_piece_249 rfl (by decide) (by rw [WI268.1, WI268.2])
                        · have Bc263 := Vh261.2 c263
                          refine e_aload_n dX8_piece_209 rfl ?_
                          obtain ⟨r272, J270, h271, Vh271⟩ := Bc263
                          refine e_callv (av := []) (st := []) dX8_piece_210 cO_8_146 oX8_wrong rfl (by decide) (gs_80 hg) rfl (Nat.le_of_ble_eq_true rfl) (by omega) h271 (Nat.le_refl _) (Nat.le_refl _) rfl rfl ?_
                          exact e_zret dX8_piece_213 rfl Vh271.1 (by rw [Vh271.2.1, Vh271.2.2])
                      · have Bc258 := Vh256.2 c258
                        refine e_iconst dX8_piece_193 ⟨by decide, by decide⟩ ?_
                        exact e_zret dX8_piece_194 rfl (by decide) (by rw [Bc258.1, Bc258.2])
                    · have Bc253 := Vh251.2 c253
                      refine e_iconst dX8_piece_176 ⟨by decide, by decide⟩ ?_
                      exact e_zret dX8_piece_177 rfl (by decide) (by rw [Bc253.1, Bc253.2])
                  · have Bc249 := Vh247.2 c249
                    refine e_aload_n dX8_piece_164 rfl ?_
                    obtain ⟨r275, J273, h274, Vh274⟩ := Bc249
                    refine e_callv (av := []) (st := []) dX8_piece_165 cO_8_146 oX8_wrong rfl (by decide) (gs_80 hg) rfl (Nat.le_of_ble_eq_true rfl) (by omega) h274 (Nat.le_refl _) (Nat.le_refl _) rfl rfl ?_
                    exact e_zret dX8_piece_168 rfl Vh274.1 (by rw [Vh274.2.1, Vh274.2.2])
                · have Bc238 := Bc234.2 c238
                  refine e_aload_n dX8_piece_122 rfl ?_
                  obtain ⟨r278, J276, h277, Vh277⟩ := Bc238
                  refine e_callv (av := []) (st := []) dX8_piece_123 cO_8_146 oX8_wrong rfl (by decide) (gs_80 hg) rfl (Nat.le_of_ble_eq_true rfl) (by omega) h277 (Nat.le_refl _) (Nat.le_refl _) rfl rfl ?_
                  exact e_zret dX8_piece_126 rfl Vh277.1 (by rw [Vh277.2.1, Vh277.2.2])
          · have Bc229 := Bc179.2 c229
            refine e_iload_n dX8_piece_51 rfl ?_
            refine e_if_eq (tgt := 100) dX8_piece_52 (by decide) (fun c279 => ?_) (fun c279 => ?_)
            · have Ac279 := Bc229.1 c279
              refine e_aload_n dX8_piece_100 rfl ?_
              refine e_geti dX8_piece_101 fO_8_167 (by decide) (gs_80 hg) rfl ?_
              refine e_iconst dX8_piece_104 ⟨by decide, by decide⟩ ?_
              refine e_ic_ne (tgt := 250) dX8_piece_105 (by decide) (fun c280 => ?_) (fun c280 => ?_)
              · have Ac280 := Ac279.1 c280
                refine e_aload_n dX8_piece_250 rfl ?_
                obtain ⟨r283, J281, h282, Vh282⟩ := Ac280
                refine e_callv (av := []) (st := []) dX8_piece_251 cO_8_146 oX8_wrong rfl (by decide) (gs_80 hg) rfl (Nat.le_of_ble_eq_true rfl) (by omega) h282 (Nat.le_refl _) (Nat.le_refl _) rfl rfl ?_
                exact e_zret dX8_piece_254 rfl Vh282.1 (by rw [Vh282.2.1, Vh282.2.2])
              · have Bc280 := Ac279.2 c280
                refine e_iload_n dX8_piece_108 rfl ?_
                refine e_bipush dX8_piece_109 (by decide) ⟨by decide, by decide⟩ ?_
                refine e_ic_ne (tgt := 250) dX8_piece_111 (by decide) (fun c284 => ?_) (fun c284 => ?_)
                · have Ac284 := Bc280.1 c284
                  refine e_aload_n dX8_piece_250 rfl ?_
                  obtain ⟨r287, J285, h286, Vh286⟩ := Ac284
                  refine e_callv (av := []) (st := []) dX8_piece_251 cO_8_146 oX8_wrong rfl (by decide) (gs_80 hg) rfl (Nat.le_of_ble_eq_true rfl) (by omega) h286 (Nat.le_refl _) (Nat.le_refl _) rfl rfl ?_
                  exact e_zret dX8_piece_254 rfl Vh286.1 (by rw [Vh286.2.1, Vh286.2.2])
                · have Bc284 := Bc280.2 c284
                  refine e_aload_n dX8_piece_114 rfl ?_
                  refine e_geti dX8_piece_115 fO_8_181 (by decide) (gs_80 hg) rfl ?_
                  refine e_iconst dX8_piece_118 ⟨by decide, by decide⟩ ?_
                  refine e_ic_ne (tgt := 127) dX8_piece_119 (by decide) (fun c288 => ?_) (fun c288 => ?_)
                  · have Ac288 := Bc284.1 c288
                    refine e_aload_n dX8_piece_127 rfl ?_
                    refine e_dup dX8_piece_128 ?_
                    refine e_geti dX8_piece_129 fO_8_181 (by decide) (gs_80 hg) rfl ?_
                    refine e_iconst dX8_piece_132 ⟨by decide, by decide⟩ ?_
                    obtain ⟨h289, Vh289⟩ := Ac288
                    refine e_iadd dX8_piece_133 h289 ?_
                    refine e_puti dX8_piece_134 fO_8_181 (by decide) (gs_80 hg) rfl rfl ?_
                    refine e_mem (fun I290 eI290 => ?_)
                    have WI290 := Vh289 I290 eI290
                    refine e_aload_n dX8_piece_137 rfl ?_
                    refine e_iconst dX8_piece_138 ⟨by decide, by decide⟩ ?_
                    refine e_iload_n dX8_piece_139 rfl ?_
                    obtain ⟨r293, J291, h292, Vh292⟩ := WI290
                    refine e_callv (av := [.inl 3, .inl x1]) (st := []) dX8_piece_140 cO_8_150 oX8_adds rfl (by decide) (gs_80 hg) rfl (Nat.le_of_ble_eq_true rfl) (by omega) h292 (Nat.le_refl _) (Nat.le_refl _) rfl rfl ?_
                    refine e_istore dX8_piece_143 (by decide) (ls' := [some (.inr (some 80)), some (.inl x1), some (.inl x2), some (.inl r3), some (.inl r293)]) rfl ?_
                    refine e_aload_n dX8_piece_145 rfl ?_
                    refine e_dup dX8_piece_146 ?_
                    refine e_geti dX8_piece_147 fO_8_106 (by decide) (gs_80 hg) rfl ?_
                    refine e_iconst dX8_piece_150 ⟨by decide, by decide⟩ ?_
                    obtain ⟨h294, Vh294⟩ := Vh292
                    refine e_iadd dX8_piece_151 h294 ?_
                    refine e_puti dX8_piece_152 fO_8_106 (by decide) (gs_80 hg) rfl rfl ?_
                    refine e_mem (fun I295 eI295 => ?_)
                    have WI295 := Vh294 I295 eI295
                    refine e_aload_n dX8_piece_155 rfl ?_
                    obtain ⟨r298, J296, h297, Vh297⟩ := WI295
                    refine e_callv (av := []) (st := []) dX8_piece_156 cO_8_157 oX8_look rfl (by decide) (gs_80 hg) rfl (Nat.le_of_ble_eq_true rfl) (by omega) h297 (Nat.le_refl _) (Nat.le_refl _) rfl rfl ?_
                    refine e_bipush dX8_piece_159 (by decide) ⟨by decide, by decide⟩ ?_
                    refine e_ic_eq (tgt := 169) dX8_piece_161 (by decide) (fun c299 => ?_) (fun c299 => ?_)
                    · have Ac299 := Vh297.1 c299
                      refine e_aload_n dX8_piece_169 rfl ?_
                      obtain ⟨r302, J300, h301, Vh301⟩ := Ac299
                      refine e_callv (av := []) (st := []) dX8_piece_170 cO_8_184 oX8_opens rfl (by decide) (gs_80 hg) rfl (Nat.le_of_ble_eq_true rfl) (by omega) h301 (Nat.le_refl _) (Nat.le_refl _) rfl rfl ?_
                      refine e_if_ne (tgt := 178) dX8_piece_173 (by decide) (fun c303 => ?_) (fun c303 => ?_)
                      · have Ac303 := Vh301.1 c303
                        refine e_aload_n dX8_piece_178 rfl ?_
                        refine e_iconst dX8_piece_179 ⟨by decide, by decide⟩ ?_
                        refine e_putz dX8_piece_180 fO_8_174 (by decide) (gs_80 hg) rfl rfl (by decide) ?_
                        refine e_mem (fun I304 eI304 => ?_)
                        have WI304 := Ac303 I304 eI304
                        refine e_aload_n dX8_piece_183 rfl ?_
                        refine e_iload dX8_piece_184 rfl ?_
                        refine e_iconst dX8_piece_186 ⟨by decide, by decide⟩ ?_
                        obtain ⟨r307, J305, h306, Vh306⟩ := WI304
                        refine e_callv (av := [.inl r293, .inl 0]) (st := []) dX8_piece_187 cO_8_187 oX8_piece rfl (by decide) (gs_80 hg) rfl (Nat.le_of_ble_eq_true rfl) (by omega) h306 (Nat.le_refl _) (Nat.le_refl _) rfl rfl ?_
                        refine e_if_ne (tgt := 195) dX8_piece_190 (by decide) (fun c308 => ?_) (fun c308 => ?_)
                        · have Ac308 := Vh306.1 c308
                          refine e_aload_n dX8_piece_195 rfl ?_
                          refine e_iconst dX8_piece_196 ⟨by decide, by decide⟩ ?_
                          refine e_putz dX8_piece_197 fO_8_174 (by decide) (gs_80 hg) rfl rfl (by decide) ?_
                          refine e_mem (fun I309 eI309 => ?_)
                          have WI309 := Ac308 I309 eI309
                          refine e_aload_n dX8_piece_200 rfl ?_
                          obtain ⟨r312, J310, h311, Vh311⟩ := WI309
                          refine e_callv (av := []) (st := []) dX8_piece_201 cO_8_157 oX8_look rfl (by decide) (gs_80 hg) rfl (Nat.le_of_ble_eq_true rfl) (by omega) h311 (Nat.le_refl _) (Nat.le_refl _) rfl rfl ?_
                          refine e_bipush dX8_piece_204 (by decide) ⟨by decide, by decide⟩ ?_
                          refine e_ic_eq (tgt := 214) dX8_piece_206 (by decide) (fun c313 => ?_) (fun c313 => ?_)
                          · have Ac313 := Vh311.1 c313
                            refine e_aload_n dX8_piece_214 rfl ?_
                            refine e_dup dX8_piece_215 ?_
                            refine e_geti dX8_piece_216 fO_8_143 (by decide) (gs_80 hg) rfl ?_
                            refine e_iconst dX8_piece_219 ⟨by decide, by decide⟩ ?_
                            obtain ⟨h314, Vh314⟩ := Ac313
                            refine e_isub dX8_piece_220 h314 ?_
                            refine e_puti dX8_piece_221 fO_8_143 (by decide) (gs_80 hg) rfl rfl ?_
                            refine e_mem (fun I315 eI315 => ?_)
                            have WI315 := Vh314 I315 eI315
                            refine e_aload_n dX8_piece_224 rfl ?_
                            refine e_dup dX8_piece_225 ?_
                            refine e_geti dX8_piece_226 fO_8_106 (by decide) (gs_80 hg) rfl ?_
                            refine e_iconst dX8_piece_229 ⟨by decide, by decide⟩ ?_
                            obtain ⟨h316, Vh316⟩ := WI315
                            refine e_iadd dX8_piece_230 h316 ?_
                            refine e_puti dX8_piece_231 fO_8_106 (by decide) (gs_80 hg) rfl rfl ?_
                            refine e_mem (fun I317 eI317 => ?_)
                            have WI317 := Vh316 I317 eI317
                            refine e_aload_n dX8_piece_234 rfl ?_
                            refine e_getr dX8_piece_235 fO_8_109 (by decide) (gs_80 hg) rfl cu ?_
                            refine e_getr dX8_piece_238 fO_8_154 (mt_pos hu) (mt_s0 hg hu) rfl (mt_p4 hg hu) ?_
                            refine e_iload dX8_piece_241 rfl ?_
                            refine e_aload_n dX8_piece_243 rfl ?_
                            refine e_geti dX8_piece_244 fO_8_106 (by decide) (gs_80 hg) rfl ?_
                            obtain ⟨h319, Vh319⟩ := WI317
                            refine e_iast dX8_piece_247 (Nat.succ_pos _) (mt_s4 hg hu) h319.1 h319.2 ?_
                            refine e_mem (fun I318 eI318 => ?_)
                            have WI318 := Vh319 I318 eI318
                            refine e_iconst dX8_piece_248 ⟨by decide, by decide⟩ ?_
                            exact e_zret dX8_piece_249 rfl (by decide) (by rw [WI318.1, WI318.2])
                          · have Bc313 := Vh311.2 c313
                            refine e_aload_n dX8_piece_209 rfl ?_
                            obtain ⟨r322, J320, h321, Vh321⟩ := Bc313
                            refine e_callv (av := []) (st := []) dX8_piece_210 cO_8_146 oX8_wrong rfl (by decide) (gs_80 hg) rfl (Nat.le_of_ble_eq_true rfl) (by omega) h321 (Nat.le_refl _) (Nat.le_refl _) rfl rfl ?_
                            exact e_zret dX8_piece_213 rfl Vh321.1 (by rw [Vh321.2.1, Vh321.2.2])
                        · have Bc308 := Vh306.2 c308
                          refine e_iconst dX8_piece_193 ⟨by decide, by decide⟩ ?_
                          exact e_zret dX8_piece_194 rfl (by decide) (by rw [Bc308.1, Bc308.2])
                      · have Bc303 := Vh301.2 c303
                        refine e_iconst dX8_piece_176 ⟨by decide, by decide⟩ ?_
                        exact e_zret dX8_piece_177 rfl (by decide) (by rw [Bc303.1, Bc303.2])
                    · have Bc299 := Vh297.2 c299
                      refine e_aload_n dX8_piece_164 rfl ?_
                      obtain ⟨r325, J323, h324, Vh324⟩ := Bc299
                      refine e_callv (av := []) (st := []) dX8_piece_165 cO_8_146 oX8_wrong rfl (by decide) (gs_80 hg) rfl (Nat.le_of_ble_eq_true rfl) (by omega) h324 (Nat.le_refl _) (Nat.le_refl _) rfl rfl ?_
                      exact e_zret dX8_piece_168 rfl Vh324.1 (by rw [Vh324.2.1, Vh324.2.2])
                  · have Bc288 := Bc284.2 c288
                    refine e_aload_n dX8_piece_122 rfl ?_
                    obtain ⟨r328, J326, h327, Vh327⟩ := Bc288
                    refine e_callv (av := []) (st := []) dX8_piece_123 cO_8_146 oX8_wrong rfl (by decide) (gs_80 hg) rfl (Nat.le_of_ble_eq_true rfl) (by omega) h327 (Nat.le_refl _) (Nat.le_refl _) rfl rfl ?_
                    exact e_zret dX8_piece_126 rfl Vh327.1 (by rw [Vh327.2.1, Vh327.2.2])
            · have Bc279 := Bc229.2 c279
              refine e_aload_n dX8_piece_55 rfl ?_
              refine e_geti dX8_piece_56 fO_8_167 (by decide) (gs_80 hg) rfl ?_
              refine e_iconst dX8_piece_59 ⟨by decide, by decide⟩ ?_
              refine e_ic_ne (tgt := 83) dX8_piece_60 (by decide) (fun c329 => ?_) (fun c329 => ?_)
              · have Ac329 := Bc279.1 c329
                refine e_aload_n dX8_piece_83 rfl ?_
                refine e_dup dX8_piece_84 ?_
                refine e_geti dX8_piece_85 fO_8_178 (by decide) (gs_80 hg) rfl ?_
                refine e_iconst dX8_piece_88 ⟨by decide, by decide⟩ ?_
                obtain ⟨h330, Vh330⟩ := Ac329
                refine e_iadd dX8_piece_89 h330 ?_
                refine e_puti dX8_piece_90 fO_8_178 (by decide) (gs_80 hg) rfl rfl ?_
                refine e_mem (fun I331 eI331 => ?_)
                have WI331 := Vh330 I331 eI331
                refine e_aload_n dX8_piece_93 rfl ?_
                refine e_iconst dX8_piece_94 ⟨by decide, by decide⟩ ?_
                refine e_iload_n dX8_piece_95 rfl ?_
                obtain ⟨r334, J332, h333, Vh333⟩ := WI331
                refine e_callv (av := [.inl 2, .inl x1]) (st := []) dX8_piece_96 cO_8_170 oX8_lettered rfl (by decide) (gs_80 hg) rfl (Nat.le_of_ble_eq_true rfl) (by omega) h333 (Nat.le_refl _) (Nat.le_refl _) rfl rfl ?_
                exact e_zret dX8_piece_99 rfl Vh333.1 (by rw [Vh333.2.1, Vh333.2.2])
              · have Bc329 := Bc279.2 c329
                refine e_aload_n dX8_piece_63 rfl ?_
                refine e_geti dX8_piece_64 fO_8_174 (by decide) (gs_80 hg) rfl ?_
                refine e_if_ne (tgt := 78) dX8_piece_67 (by decide) (fun c335 => ?_) (fun c335 => ?_)
                · have Ac335 := Bc329.1 c335
                  refine e_aload_n dX8_piece_78 rfl ?_
                  obtain ⟨r338, J336, h337, Vh337⟩ := Ac335
                  refine e_callv (av := []) (st := []) dX8_piece_79 cO_8_146 oX8_wrong rfl (by decide) (gs_80 hg) rfl (Nat.le_of_ble_eq_true rfl) (by omega) h337 (Nat.le_refl _) (Nat.le_refl _) rfl rfl ?_
                  exact e_zret dX8_piece_82 rfl Vh337.1 (by rw [Vh337.2.1, Vh337.2.2])
                · have Bc335 := Bc329.2 c335
                  refine e_aload_n dX8_piece_70 rfl ?_
                  refine e_geti dX8_piece_71 fO_8_178 (by decide) (gs_80 hg) rfl ?_
                  refine e_iconst dX8_piece_74 ⟨by decide, by decide⟩ ?_
                  refine e_ic_ne (tgt := 83) dX8_piece_75 (by decide) (fun c339 => ?_) (fun c339 => ?_)
                  · have Ac339 := Bc335.1 c339
                    refine e_aload_n dX8_piece_83 rfl ?_
                    refine e_dup dX8_piece_84 ?_
                    refine e_geti dX8_piece_85 fO_8_178 (by decide) (gs_80 hg) rfl ?_
                    refine e_iconst dX8_piece_88 ⟨by decide, by decide⟩ ?_
                    obtain ⟨h340, Vh340⟩ := Ac339
                    refine e_iadd dX8_piece_89 h340 ?_
                    refine e_puti dX8_piece_90 fO_8_178 (by decide) (gs_80 hg) rfl rfl ?_
                    refine e_mem (fun I341 eI341 => ?_)
                    have WI341 := Vh340 I341 eI341
                    refine e_aload_n dX8_piece_93 rfl ?_
                    refine e_iconst dX8_piece_94 ⟨by decide, by decide⟩ ?_
                    refine e_iload_n dX8_piece_95 rfl ?_
                    obtain ⟨r344, J342, h343, Vh343⟩ := WI341
                    refine e_callv (av := [.inl 2, .inl x1]) (st := []) dX8_piece_96 cO_8_170 oX8_lettered rfl (by decide) (gs_80 hg) rfl (Nat.le_of_ble_eq_true rfl) (by omega) h343 (Nat.le_refl _) (Nat.le_refl _) rfl rfl ?_
                    exact e_zret dX8_piece_99 rfl Vh343.1 (by rw [Vh343.2.1, Vh343.2.2])
                  · have Bc339 := Bc335.2 c339
                    refine e_aload_n dX8_piece_78 rfl ?_
                    obtain ⟨r347, J345, h346, Vh346⟩ := Bc339
                    refine e_callv (av := []) (st := []) dX8_piece_79 cO_8_146 oX8_wrong rfl (by decide) (gs_80 hg) rfl (Nat.le_of_ble_eq_true rfl) (by omega) h346 (Nat.le_refl _) (Nat.le_refl _) rfl rfl ?_
                    exact e_zret dX8_piece_82 rfl Vh346.1 (by rw [Vh346.2.1, Vh346.2.2])
      · have Bc178 := Bc8.2 c178
        refine e_aload_n dX8_piece_31 rfl ?_
        refine e_iconst dX8_piece_32 ⟨by decide, by decide⟩ ?_
        refine e_iload_n dX8_piece_33 rfl ?_
        obtain ⟨r350, J348, h349, Vh349⟩ := Bc178
        refine e_callv (av := [.inl 1, .inl x1]) (st := []) dX8_piece_34 cO_8_170 oX8_lettered rfl (by decide) (gs_80 hg) rfl (Nat.le_of_ble_eq_true rfl) (by omega) h349 (Nat.le_refl _) (Nat.le_refl _) rfl rfl ?_
        exact e_zret dX8_piece_37 rfl Vh349.1 (by rw [Vh349.2.1, Vh349.2.2])
  · have Bc7 := Vh5.2 c7
    refine e_aload_n dX8_piece_12 rfl ?_
    refine e_iload_n dX8_piece_13 rfl ?_
    obtain ⟨r353, J351, h352, Vh352⟩ := Bc7
    refine e_callv (av := [.inl x1]) (st := []) dX8_piece_14 cO_8_164 oX8_term rfl (by decide) (gs_80 hg) rfl (Nat.le_of_ble_eq_true rfl) (by omega) h352 (Nat.le_refl _) (Nat.le_refl _) rfl rfl ?_
    exact e_zret dX8_piece_17 rfl Vh352.1 (by rw [Vh352.2.1, Vh352.2.2])
set_option maxRecDepth 100000 in
set_option maxHeartbeats 4000000 in
theorem v_X8_term_0 {Γ : GX} {g : AG} {I J : Nat → Nat → Int} {r : Option AV} {d : Nat} (hd : 1 ≤ d) (hg : GOk g) (x1 : Int)
    (V : ∃ (r3 : Int) (J1 : Nat → Nat → Int), CT Γ 0 mX8_adds [.inr (some 80), .inl 0, .inl x1] (g, I) (some (.inl r3), (g, J1)) ∧ (Ev Γ (d + 1) mX8_term 7 [some (.inr (some 80)), none, some (.inl r3)] [] (g, J1) (r, (g, J)))) : Ev Γ (d + 1) mX8_term 0 [some (.inr (some 80)), some (.inl x1), none] [] (g, I) (r, (g, J)) := by
  refine e_aload_n dX8_term_0 rfl ?_
  refine e_iconst dX8_term_1 ⟨by decide, by decide⟩ ?_
  refine e_iload_n dX8_term_2 rfl ?_
  obtain ⟨r3, J1, h2, Vh2⟩ := V
  refine e_callv (av := [.inl 0, .inl x1]) (st := []) dX8_term_3 cO_8_150 oX8_adds rfl (by decide) (gs_80 hg) rfl (Nat.le_of_ble_eq_true rfl) (by omega) h2 (Nat.le_refl _) (Nat.le_refl _) rfl rfl ?_
  refine e_istore_n dX8_term_6 (by decide) (ls' := [some (.inr (some 80)), some (.inl x1), some (.inl r3)]) rfl ?_
  refine ev_drop (ls' := [some (.inr (some 80)), none, some (.inl r3)]) 1 rfl ?_
  exact Vh2
set_option maxRecDepth 100000 in
set_option maxHeartbeats 4000000 in
theorem v_X8_term_7 {Γ : GX} {g : AG} {I J : Nat → Nat → Int} {r : Option AV} {d : Nat} (hd : 1 ≤ d) (hg : GOk g) (x2 : Int) (u : Nat) (hu : Mt u) (cu : g.2.1 80 12 = some u)
    (V : ((((I u 1) ≤ (I 80 14))) → (((0 : Int) ≤ x2 ∧ (x2 : Int) < 240) ∧ (∀ I2 : Nat → Nat → Int, I2 = mset I (u + 5) x2.toNat (I 80 14) → (((0 : Int) ≤ x2 ∧ (x2 : Int) < 240) ∧ (∀ I4 : Nat → Nat → Int, I4 = mset I2 (u + 4) x2.toNat (I2 80 14) → (∃ (r8 : Int) (J6 : Nat → Nat → Int), CT Γ 0 mX8_look [.inr (some 80)] (g, I4) (some (.inl r8), (g, J6)) ∧ ((((r8 = 40)) → (((0 : Int) ≤ x2 ∧ (x2 : Int) < 240) ∧ (∀ I10 : Nat → Nat → Int, I10 = mset J6 (u + 9) x2.toNat 1 → (∃ (r14 : Int) (J12 : Nat → Nat → Int), CT Γ 1 mX8_opens [.inr (some 80)] (g, I10) (some (.inl r14), (g, J12)) ∧ (((¬ (r14 = 0)) → (∃ (r18 : Int) (J16 : Nat → Nat → Int), CT Γ 0 mX8_look [.inr (some 80)] (g, J12) (some (.inl r18), (g, J16)) ∧ ((((r18 = 41)) → (inR ((J16 80 16) - 1) ∧ (∀ I21 : Nat → Nat → Int, I21 = mset J16 80 16 ((J16 80 16) - 1) → (inR ((I21 80 14) + 1) ∧ (∀ I23 : Nat → Nat → Int, I23 = mset I21 80 14 ((I21 80 14) + 1) → (((0 : Int) ≤ x2 ∧ (x2 : Int) < 240) ∧ (∀ I24 : Nat → Nat → Int, I24 = mset I23 (u + 4) x2.toNat (I23 80 14) → (r = some (.inl 1) ∧ J = I24)))))))) ∧ ((¬ (r18 = 41)) → (∃ (r28 : Int) (J26 : Nat → Nat → Int), CT Γ d mX8_piece [.inr (some 80), .inl x2, .inl 1] (g, J16) (some (.inl r28), (g, J26)) ∧ (((¬ (r28 = 0)) → (Ev Γ (d + 1) mX8_term 128 [some (.inr (some 80)), none, some (.inl x2)] [] (g, J26) (r, (g, J)))) ∧ (((r28 = 0)) → (r = some (.inl 0) ∧ J = J26)))))))) ∧ (((r14 = 0)) → (r = some (.inl 0) ∧ J = J12))))))) ∧ ((¬ (r8 = 40)) → (r = some (.inl 1) ∧ J = J6))))))))) ∧ ((¬ ((I u 1) ≤ (I 80 14))) → (((0 : Int) ≤ (I 80 14) ∧ ((I 80 14) : Int) < 240) ∧ (∃ (r33 : Int) (J31 : Nat → Nat → Int), CT Γ 1 mX8_isAtom [.inl (I (u + 1) (I 80 14).toNat)] (g, I) (some (.inl r33), (g, J31)) ∧ ((((r33 = 0)) → (((0 : Int) ≤ x2 ∧ (x2 : Int) < 240) ∧ (∀ I35 : Nat → Nat → Int, I35 = mset J31 (u + 5) x2.toNat (J31 80 14) → (((0 : Int) ≤ x2 ∧ (x2 : Int) < 240) ∧ (∀ I37 : Nat → Nat → Int, I37 = mset I35 (u + 4) x2.toNat (I35 80 14) → (∃ (r41 : Int) (J39 : Nat → Nat → Int), CT Γ 0 mX8_look [.inr (some 80)] (g, I37) (some (.inl r41), (g, J39)) ∧ ((((r41 = 40)) → (((0 : Int) ≤ x2 ∧ (x2 : Int) < 240) ∧ (∀ I43 : Nat → Nat → Int, I43 = mset J39 (u + 9) x2.toNat 1 → (∃ (r47 : Int) (J45 : Nat → Nat → Int), CT Γ 1 mX8_opens [.inr (some 80)] (g, I43) (some (.inl r47), (g, J45)) ∧ (((¬ (r47 = 0)) → (∃ (r51 : Int) (J49 : Nat → Nat → Int), CT Γ 0 mX8_look [.inr (some 80)] (g, J45) (some (.inl r51), (g, J49)) ∧ ((((r51 = 41)) → (inR ((J49 80 16) - 1) ∧ (∀ I54 : Nat → Nat → Int, I54 = mset J49 80 16 ((J49 80 16) - 1) → (inR ((I54 80 14) + 1) ∧ (∀ I56 : Nat → Nat → Int, I56 = mset I54 80 14 ((I54 80 14) + 1) → (((0 : Int) ≤ x2 ∧ (x2 : Int) < 240) ∧ (∀ I57 : Nat → Nat → Int, I57 = mset I56 (u + 4) x2.toNat (I56 80 14) → (r = some (.inl 1) ∧ J = I57)))))))) ∧ ((¬ (r51 = 41)) → (∃ (r61 : Int) (J59 : Nat → Nat → Int), CT Γ d mX8_piece [.inr (some 80), .inl x2, .inl 1] (g, J49) (some (.inl r61), (g, J59)) ∧ (((¬ (r61 = 0)) → (Ev Γ (d + 1) mX8_term 128 [some (.inr (some 80)), none, some (.inl x2)] [] (g, J59) (r, (g, J)))) ∧ (((r61 = 0)) → (r = some (.inl 0) ∧ J = J59)))))))) ∧ (((r47 = 0)) → (r = some (.inl 0) ∧ J = J45))))))) ∧ ((¬ (r41 = 40)) → (r = some (.inl 1) ∧ J = J39))))))))) ∧ ((¬ (r33 = 0)) → (inR ((J31 80 14) + 1) ∧ (∀ I64 : Nat → Nat → Int, I64 = mset J31 80 14 ((J31 80 14) + 1) → (Ev Γ (d + 1) mX8_term 7 [some (.inr (some 80)), none, some (.inl x2)] [] (g, I64) (r, (g, J))))))))))) : Ev Γ (d + 1) mX8_term 7 [some (.inr (some 80)), none, some (.inl x2)] [] (g, I) (r, (g, J)) := by
  refine e_aload_n dX8_term_7 rfl ?_
  refine e_geti dX8_term_8 fO_8_106 (by decide) (gs_80 hg) rfl ?_
  refine e_aload_n dX8_term_11 rfl ?_
  refine e_getr dX8_term_12 fO_8_109 (by decide) (gs_80 hg) rfl cu ?_
  refine e_geti dX8_term_15 fO_8_112 (mt_pos hu) (mt_s0 hg hu) rfl ?_
  refine e_ic_ge (tgt := 52) dX8_term_18 (by decide) (fun c1 => ?_) (fun c1 => ?_)
  · have Ac1 := V.1 c1
    refine e_aload_n dX8_term_52 rfl ?_
    refine e_getr dX8_term_53 fO_8_109 (by decide) (gs_80 hg) rfl cu ?_
    refine e_getr dX8_term_56 fO_8_191 (mt_pos hu) (mt_s0 hg hu) rfl (mt_p5 hg hu) ?_
    refine e_iload_n dX8_term_59 rfl ?_
    refine e_aload_n dX8_term_60 rfl ?_
    refine e_geti dX8_term_61 fO_8_106 (by decide) (gs_80 hg) rfl ?_
    obtain ⟨h3, Vh3⟩ := Ac1
    refine e_iast dX8_term_64 (Nat.succ_pos _) (mt_s5 hg hu) h3.1 h3.2 ?_
    refine e_mem (fun I2 eI2 => ?_)
    have WI2 := Vh3 I2 eI2
    refine e_aload_n dX8_term_65 rfl ?_
    refine e_getr dX8_term_66 fO_8_109 (by decide) (gs_80 hg) rfl cu ?_
    refine e_getr dX8_term_69 fO_8_154 (mt_pos hu) (mt_s0 hg hu) rfl (mt_p4 hg hu) ?_
    refine e_iload_n dX8_term_72 rfl ?_
    refine e_aload_n dX8_term_73 rfl ?_
    refine e_geti dX8_term_74 fO_8_106 (by decide) (gs_80 hg) rfl ?_
    obtain ⟨h5, Vh5⟩ := WI2
    refine e_iast dX8_term_77 (Nat.succ_pos _) (mt_s4 hg hu) h5.1 h5.2 ?_
    refine e_mem (fun I4 eI4 => ?_)
    have WI4 := Vh5 I4 eI4
    refine e_aload_n dX8_term_78 rfl ?_
    obtain ⟨r8, J6, h7, Vh7⟩ := WI4
    refine e_callv (av := []) (st := []) dX8_term_79 cO_8_157 oX8_look rfl (by decide) (gs_80 hg) rfl (Nat.le_of_ble_eq_true rfl) (by omega) h7 (Nat.le_refl _) (Nat.le_refl _) rfl rfl ?_
    refine e_bipush dX8_term_82 (by decide) ⟨by decide, by decide⟩ ?_
    refine e_ic_eq (tgt := 89) dX8_term_84 (by decide) (fun c9 => ?_) (fun c9 => ?_)
    · have Ac9 := Vh7.1 c9
      refine e_aload_n dX8_term_89 rfl ?_
      refine e_getr dX8_term_90 fO_8_109 (by decide) (gs_80 hg) rfl cu ?_
      refine e_getr dX8_term_93 fO_8_137 (mt_pos hu) (mt_s0 hg hu) rfl (mt_p9 hg hu) ?_
      refine e_iload_n dX8_term_96 rfl ?_
      refine e_iconst dX8_term_97 ⟨by decide, by decide⟩ ?_
      obtain ⟨h11, Vh11⟩ := Ac9
      refine e_zast dX8_term_98 (Nat.succ_pos _) (mt_s9 hg hu) h11.1 h11.2 (by decide) ?_
      refine e_mem (fun I10 eI10 => ?_)
      have WI10 := Vh11 I10 eI10
      refine e_aload_n dX8_term_99 rfl ?_
      obtain ⟨r14, J12, h13, Vh13⟩ := WI10
      refine e_callv (av := []) (st := []) dX8_term_100 cO_8_184 oX8_opens rfl (by decide) (gs_80 hg) rfl (Nat.le_of_ble_eq_true rfl) (by omega) h13 (Nat.le_refl _) (Nat.le_refl _) rfl rfl ?_
      refine e_if_ne (tgt := 108) dX8_term_103 (by decide) (fun c15 => ?_) (fun c15 => ?_)
      · have Ac15 := Vh13.1 c15
        refine e_aload_n dX8_term_108 rfl ?_
        obtain ⟨r18, J16, h17, Vh17⟩ := Ac15
        refine e_callv (av := []) (st := []) dX8_term_109 cO_8_157 oX8_look rfl (by decide) (gs_80 hg) rfl (Nat.le_of_ble_eq_true rfl) (by omega) h17 (Nat.le_refl _) (Nat.le_refl _) rfl rfl ?_
        refine e_bipush dX8_term_112 (by decide) ⟨by decide, by decide⟩ ?_
        refine e_ic_eq (tgt := 172) dX8_term_114 (by decide) (fun c19 => ?_) (fun c19 => ?_)
        · have Ac19 := Vh17.1 c19
          refine e_aload_n dX8_term_172 rfl ?_
          refine e_dup dX8_term_173 ?_
          refine e_geti dX8_term_174 fO_8_143 (by decide) (gs_80 hg) rfl ?_
          refine e_iconst dX8_term_177 ⟨by decide, by decide⟩ ?_
          obtain ⟨h20, Vh20⟩ := Ac19
          refine e_isub dX8_term_178 h20 ?_
          refine e_puti dX8_term_179 fO_8_143 (by decide) (gs_80 hg) rfl rfl ?_
          refine e_mem (fun I21 eI21 => ?_)
          have WI21 := Vh20 I21 eI21
          refine e_aload_n dX8_term_182 rfl ?_
          refine e_dup dX8_term_183 ?_
          refine e_geti dX8_term_184 fO_8_106 (by decide) (gs_80 hg) rfl ?_
          refine e_iconst dX8_term_187 ⟨by decide, by decide⟩ ?_
          obtain ⟨h22, Vh22⟩ := WI21
          refine e_iadd dX8_term_188 h22 ?_
          refine e_puti dX8_term_189 fO_8_106 (by decide) (gs_80 hg) rfl rfl ?_
          refine e_mem (fun I23 eI23 => ?_)
          have WI23 := Vh22 I23 eI23
          refine e_aload_n dX8_term_192 rfl ?_
          refine e_getr dX8_term_193 fO_8_109 (by decide) (gs_80 hg) rfl cu ?_
          refine e_getr dX8_term_196 fO_8_154 (mt_pos hu) (mt_s0 hg hu) rfl (mt_p4 hg hu) ?_
          refine e_iload_n dX8_term_199 rfl ?_
          refine e_aload_n dX8_term_200 rfl ?_
          refine e_geti dX8_term_201 fO_8_106 (by decide) (gs_80 hg) rfl ?_
          obtain ⟨h25, Vh25⟩ := WI23
          refine e_iast dX8_term_204 (Nat.succ_pos _) (mt_s4 hg hu) h25.1 h25.2 ?_
          refine e_mem (fun I24 eI24 => ?_)
          have WI24 := Vh25 I24 eI24
          refine e_iconst dX8_term_205 ⟨by decide, by decide⟩ ?_
          exact e_zret dX8_term_206 rfl (by decide) (by rw [WI24.1, WI24.2])
        · have Bc19 := Vh17.2 c19
          refine e_aload_n dX8_term_117 rfl ?_
          refine e_iload_n dX8_term_118 rfl ?_
          refine e_iconst dX8_term_119 ⟨by decide, by decide⟩ ?_
          obtain ⟨r28, J26, h27, Vh27⟩ := Bc19
          refine e_callv (av := [.inl x2, .inl 1]) (st := []) dX8_term_120 cO_8_187 oX8_piece rfl (by decide) (gs_80 hg) rfl (Nat.le_of_ble_eq_true rfl) (by omega) h27 (Nat.le_refl _) (Nat.le_refl _) rfl rfl ?_
          refine e_if_ne (tgt := 128) dX8_term_123 (by decide) (fun c29 => ?_) (fun c29 => ?_)
          · have Ac29 := Vh27.1 c29
            exact Ac29
          · have Bc29 := Vh27.2 c29
            refine e_iconst dX8_term_126 ⟨by decide, by decide⟩ ?_
            exact e_zret dX8_term_127 rfl (by decide) (by rw [Bc29.1, Bc29.2])
      · have Bc15 := Vh13.2 c15
        refine e_iconst dX8_term_106 ⟨by decide, by decide⟩ ?_
        exact e_zret dX8_term_107 rfl (by decide) (by rw [Bc15.1, Bc15.2])
    · have Bc9 := Vh7.2 c9
      refine e_iconst dX8_term_87 ⟨by decide, by decide⟩ ?_
      exact e_zret dX8_term_88 rfl (by decide) (by rw [Bc9.1, Bc9.2])
  · have Bc1 := V.2 c1
    refine e_aload_n dX8_term_21 rfl ?_
    refine e_getr dX8_term_22 fO_8_109 (by decide) (gs_80 hg) rfl cu ?_
    refine e_getr dX8_term_25 fO_8_113 (mt_pos hu) (mt_s0 hg hu) rfl (mt_p1 hg hu) ?_
    refine e_aload_n dX8_term_28 rfl ?_
    refine e_geti dX8_term_29 fO_8_106 (by decide) (gs_80 hg) rfl ?_
    obtain ⟨h30, Vh30⟩ := Bc1
    refine e_bald dX8_term_32 (Nat.succ_pos _) (mt_s1 hg hu) h30.1 h30.2 ?_
    obtain ⟨r33, J31, h32, Vh32⟩ := Vh30
    refine e_calls (av := [.inl (I (u + 1) (I 80 14).toNat)]) (st := []) dX8_term_33 cO_8_161 oX8_isAtom rfl rfl (Nat.le_of_ble_eq_true rfl) (by omega) h32 (Nat.le_refl _) (Nat.le_refl _) rfl rfl ?_
    refine e_if_eq (tgt := 52) dX8_term_36 (by decide) (fun c34 => ?_) (fun c34 => ?_)
    · have Ac34 := Vh32.1 c34
      refine e_aload_n dX8_term_52 rfl ?_
      refine e_getr dX8_term_53 fO_8_109 (by decide) (gs_80 hg) rfl cu ?_
      refine e_getr dX8_term_56 fO_8_191 (mt_pos hu) (mt_s0 hg hu) rfl (mt_p5 hg hu) ?_
      refine e_iload_n dX8_term_59 rfl ?_
      refine e_aload_n dX8_term_60 rfl ?_
      refine e_geti dX8_term_61 fO_8_106 (by decide) (gs_80 hg) rfl ?_
      obtain ⟨h36, Vh36⟩ := Ac34
      refine e_iast dX8_term_64 (Nat.succ_pos _) (mt_s5 hg hu) h36.1 h36.2 ?_
      refine e_mem (fun I35 eI35 => ?_)
      have WI35 := Vh36 I35 eI35
      refine e_aload_n dX8_term_65 rfl ?_
      refine e_getr dX8_term_66 fO_8_109 (by decide) (gs_80 hg) rfl cu ?_
      refine e_getr dX8_term_69 fO_8_154 (mt_pos hu) (mt_s0 hg hu) rfl (mt_p4 hg hu) ?_
      refine e_iload_n dX8_term_72 rfl ?_
      refine e_aload_n dX8_term_73 rfl ?_
      refine e_geti dX8_term_74 fO_8_106 (by decide) (gs_80 hg) rfl ?_
      obtain ⟨h38, Vh38⟩ := WI35
      refine e_iast dX8_term_77 (Nat.succ_pos _) (mt_s4 hg hu) h38.1 h38.2 ?_
      refine e_mem (fun I37 eI37 => ?_)
      have WI37 := Vh38 I37 eI37
      refine e_aload_n dX8_term_78 rfl ?_
      obtain ⟨r41, J39, h40, Vh40⟩ := WI37
      refine e_callv (av := []) (st := []) dX8_term_79 cO_8_157 oX8_look rfl (by decide) (gs_80 hg) rfl (Nat.le_of_ble_eq_true rfl) (by omega) h40 (Nat.le_refl _) (Nat.le_refl _) rfl rfl ?_
      refine e_bipush dX8_term_82 (by decide) ⟨by decide, by decide⟩ ?_
      refine e_ic_eq (tgt := 89) dX8_term_84 (by decide) (fun c42 => ?_) (fun c42 => ?_)
      · have Ac42 := Vh40.1 c42
        refine e_aload_n dX8_term_89 rfl ?_
        refine e_getr dX8_term_90 fO_8_109 (by decide) (gs_80 hg) rfl cu ?_
        refine e_getr dX8_term_93 fO_8_137 (mt_pos hu) (mt_s0 hg hu) rfl (mt_p9 hg hu) ?_
        refine e_iload_n dX8_term_96 rfl ?_
        refine e_iconst dX8_term_97 ⟨by decide, by decide⟩ ?_
        obtain ⟨h44, Vh44⟩ := Ac42
        refine e_zast dX8_term_98 (Nat.succ_pos _) (mt_s9 hg hu) h44.1 h44.2 (by decide) ?_
        refine e_mem (fun I43 eI43 => ?_)
        have WI43 := Vh44 I43 eI43
        refine e_aload_n dX8_term_99 rfl ?_
        obtain ⟨r47, J45, h46, Vh46⟩ := WI43
        refine e_callv (av := []) (st := []) dX8_term_100 cO_8_184 oX8_opens rfl (by decide) (gs_80 hg) rfl (Nat.le_of_ble_eq_true rfl) (by omega) h46 (Nat.le_refl _) (Nat.le_refl _) rfl rfl ?_
        refine e_if_ne (tgt := 108) dX8_term_103 (by decide) (fun c48 => ?_) (fun c48 => ?_)
        · have Ac48 := Vh46.1 c48
          refine e_aload_n dX8_term_108 rfl ?_
          obtain ⟨r51, J49, h50, Vh50⟩ := Ac48
          refine e_callv (av := []) (st := []) dX8_term_109 cO_8_157 oX8_look rfl (by decide) (gs_80 hg) rfl (Nat.le_of_ble_eq_true rfl) (by omega) h50 (Nat.le_refl _) (Nat.le_refl _) rfl rfl ?_
          refine e_bipush dX8_term_112 (by decide) ⟨by decide, by decide⟩ ?_
          refine e_ic_eq (tgt := 172) dX8_term_114 (by decide) (fun c52 => ?_) (fun c52 => ?_)
          · have Ac52 := Vh50.1 c52
            refine e_aload_n dX8_term_172 rfl ?_
            refine e_dup dX8_term_173 ?_
            refine e_geti dX8_term_174 fO_8_143 (by decide) (gs_80 hg) rfl ?_
            refine e_iconst dX8_term_177 ⟨by decide, by decide⟩ ?_
            obtain ⟨h53, Vh53⟩ := Ac52
            refine e_isub dX8_term_178 h53 ?_
            refine e_puti dX8_term_179 fO_8_143 (by decide) (gs_80 hg) rfl rfl ?_
            refine e_mem (fun I54 eI54 => ?_)
            have WI54 := Vh53 I54 eI54
            refine e_aload_n dX8_term_182 rfl ?_
            refine e_dup dX8_term_183 ?_
            refine e_geti dX8_term_184 fO_8_106 (by decide) (gs_80 hg) rfl ?_
            refine e_iconst dX8_term_187 ⟨by decide, by decide⟩ ?_
            obtain ⟨h55, Vh55⟩ := WI54
            refine e_iadd dX8_term_188 h55 ?_
            refine e_puti dX8_term_189 fO_8_106 (by decide) (gs_80 hg) rfl rfl ?_
            refine e_mem (fun I56 eI56 => ?_)
            have WI56 := Vh55 I56 eI56
            refine e_aload_n dX8_term_192 rfl ?_
            refine e_getr dX8_term_193 fO_8_109 (by decide) (gs_80 hg) rfl cu ?_
            refine e_getr dX8_term_196 fO_8_154 (mt_pos hu) (mt_s0 hg hu) rfl (mt_p4 hg hu) ?_
            refine e_iload_n dX8_term_199 rfl ?_
            refine e_aload_n dX8_term_200 rfl ?_
            refine e_geti dX8_term_201 fO_8_106 (by decide) (gs_80 hg) rfl ?_
            obtain ⟨h58, Vh58⟩ := WI56
            refine e_iast dX8_term_204 (Nat.succ_pos _) (mt_s4 hg hu) h58.1 h58.2 ?_
            refine e_mem (fun I57 eI57 => ?_)
            have WI57 := Vh58 I57 eI57
            refine e_iconst dX8_term_205 ⟨by decide, by decide⟩ ?_
            exact e_zret dX8_term_206 rfl (by decide) (by rw [WI57.1, WI57.2])
          · have Bc52 := Vh50.2 c52
            refine e_aload_n dX8_term_117 rfl ?_
            refine e_iload_n dX8_term_118 rfl ?_
            refine e_iconst dX8_term_119 ⟨by decide, by decide⟩ ?_
            obtain ⟨r61, J59, h60, Vh60⟩ := Bc52
            refine e_callv (av := [.inl x2, .inl 1]) (st := []) dX8_term_120 cO_8_187 oX8_piece rfl (by decide) (gs_80 hg) rfl (Nat.le_of_ble_eq_true rfl) (by omega) h60 (Nat.le_refl _) (Nat.le_refl _) rfl rfl ?_
            refine e_if_ne (tgt := 128) dX8_term_123 (by decide) (fun c62 => ?_) (fun c62 => ?_)
            · have Ac62 := Vh60.1 c62
              exact Ac62
            · have Bc62 := Vh60.2 c62
              refine e_iconst dX8_term_126 ⟨by decide, by decide⟩ ?_
              exact e_zret dX8_term_127 rfl (by decide) (by rw [Bc62.1, Bc62.2])
        · have Bc48 := Vh46.2 c48
          refine e_iconst dX8_term_106 ⟨by decide, by decide⟩ ?_
          exact e_zret dX8_term_107 rfl (by decide) (by rw [Bc48.1, Bc48.2])
      · have Bc42 := Vh40.2 c42
        refine e_iconst dX8_term_87 ⟨by decide, by decide⟩ ?_
        exact e_zret dX8_term_88 rfl (by decide) (by rw [Bc42.1, Bc42.2])
    · have Bc34 := Vh32.2 c34
      refine e_aload_n dX8_term_39 rfl ?_
      refine e_dup dX8_term_40 ?_
      refine e_geti dX8_term_41 fO_8_106 (by decide) (gs_80 hg) rfl ?_
      refine e_iconst dX8_term_44 ⟨by decide, by decide⟩ ?_
      obtain ⟨h63, Vh63⟩ := Bc34
      refine e_iadd dX8_term_45 h63 ?_
      refine e_puti dX8_term_46 fO_8_106 (by decide) (gs_80 hg) rfl rfl ?_
      refine e_mem (fun I64 eI64 => ?_)
      have WI64 := Vh63 I64 eI64
      refine e_goto (tgt := 7) dX8_term_49 (by decide) ?_
      exact WI64
set_option maxRecDepth 100000 in
set_option maxHeartbeats 4000000 in
theorem v_X8_term_128 {Γ : GX} {g : AG} {I J : Nat → Nat → Int} {r : Option AV} {d : Nat} (hd : 1 ≤ d) (hg : GOk g) (x2 : Int) (u : Nat) (hu : Mt u) (cu : g.2.1 80 12 = some u)
    (V : ∃ (r3 : Int) (J1 : Nat → Nat → Int), CT Γ 0 mX8_look [.inr (some 80)] (g, I) (some (.inl r3), (g, J1)) ∧ (((¬ (r3 = 44)) → (∃ (r7 : Int) (J5 : Nat → Nat → Int), CT Γ 0 mX8_look [.inr (some 80)] (g, J1) (some (.inl r7), (g, J5)) ∧ ((((r7 = 41)) → (inR ((J5 80 16) - 1) ∧ (∀ I10 : Nat → Nat → Int, I10 = mset J5 80 16 ((J5 80 16) - 1) → (inR ((I10 80 14) + 1) ∧ (∀ I12 : Nat → Nat → Int, I12 = mset I10 80 14 ((I10 80 14) + 1) → (((0 : Int) ≤ x2 ∧ (x2 : Int) < 240) ∧ (∀ I13 : Nat → Nat → Int, I13 = mset I12 (u + 4) x2.toNat (I12 80 14) → (r = some (.inl 1) ∧ J = I13)))))))) ∧ ((¬ (r7 = 41)) → (∃ (r17 : Int) (J15 : Nat → Nat → Int), CT Γ 0 mX8_wrong [.inr (some 80)] (g, J5) (some (.inl r17), (g, J15)) ∧ ((r17 = 0 ∨ r17 = 1) ∧ r = some (.inl r17) ∧ J = J15)))))) ∧ (((r3 = 44)) → (inR ((J1 80 14) + 1) ∧ (∀ I19 : Nat → Nat → Int, I19 = mset J1 80 14 ((J1 80 14) + 1) → (∃ (r22 : Int) (J20 : Nat → Nat → Int), CT Γ d mX8_piece [.inr (some 80), .inl x2, .inl 1] (g, I19) (some (.inl r22), (g, J20)) ∧ (((¬ (r22 = 0)) → (Ev Γ (d + 1) mX8_term 128 [some (.inr (some 80)), none, some (.inl x2)] [] (g, J20) (r, (g, J)))) ∧ (((r22 = 0)) → (r = some (.inl 0) ∧ J = J20))))))))) : Ev Γ (d + 1) mX8_term 128 [some (.inr (some 80)), none, some (.inl x2)] [] (g, I) (r, (g, J)) := by
  refine e_aload_n dX8_term_128 rfl ?_
  obtain ⟨r3, J1, h2, Vh2⟩ := V
  refine e_callv (av := []) (st := []) dX8_term_129 cO_8_157 oX8_look rfl (by decide) (gs_80 hg) rfl (Nat.le_of_ble_eq_true rfl) (by omega) h2 (Nat.le_refl _) (Nat.le_refl _) rfl rfl ?_
  refine e_bipush dX8_term_132 (by decide) ⟨by decide, by decide⟩ ?_
  refine e_ic_ne (tgt := 158) dX8_term_134 (by decide) (fun c4 => ?_) (fun c4 => ?_)
  · have Ac4 := Vh2.1 c4
    refine e_aload_n dX8_term_158 rfl ?_
    obtain ⟨r7, J5, h6, Vh6⟩ := Ac4
    refine e_callv (av := []) (st := []) dX8_term_159 cO_8_157 oX8_look rfl (by decide) (gs_80 hg) rfl (Nat.le_of_ble_eq_true rfl) (by omega) h6 (Nat.le_refl _) (Nat.le_refl _) rfl rfl ?_
    refine e_bipush dX8_term_162 (by decide) ⟨by decide, by decide⟩ ?_
    refine e_ic_eq (tgt := 172) dX8_term_164 (by decide) (fun c8 => ?_) (fun c8 => ?_)
    · have Ac8 := Vh6.1 c8
      refine e_aload_n dX8_term_172 rfl ?_
      refine e_dup dX8_term_173 ?_
      refine e_geti dX8_term_174 fO_8_143 (by decide) (gs_80 hg) rfl ?_
      refine e_iconst dX8_term_177 ⟨by decide, by decide⟩ ?_
      obtain ⟨h9, Vh9⟩ := Ac8
      refine e_isub dX8_term_178 h9 ?_
      refine e_puti dX8_term_179 fO_8_143 (by decide) (gs_80 hg) rfl rfl ?_
      refine e_mem (fun I10 eI10 => ?_)
      have WI10 := Vh9 I10 eI10
      refine e_aload_n dX8_term_182 rfl ?_
      refine e_dup dX8_term_183 ?_
      refine e_geti dX8_term_184 fO_8_106 (by decide) (gs_80 hg) rfl ?_
      refine e_iconst dX8_term_187 ⟨by decide, by decide⟩ ?_
      obtain ⟨h11, Vh11⟩ := WI10
      refine e_iadd dX8_term_188 h11 ?_
      refine e_puti dX8_term_189 fO_8_106 (by decide) (gs_80 hg) rfl rfl ?_
      refine e_mem (fun I12 eI12 => ?_)
      have WI12 := Vh11 I12 eI12
      refine e_aload_n dX8_term_192 rfl ?_
      refine e_getr dX8_term_193 fO_8_109 (by decide) (gs_80 hg) rfl cu ?_
      refine e_getr dX8_term_196 fO_8_154 (mt_pos hu) (mt_s0 hg hu) rfl (mt_p4 hg hu) ?_
      refine e_iload_n dX8_term_199 rfl ?_
      refine e_aload_n dX8_term_200 rfl ?_
      refine e_geti dX8_term_201 fO_8_106 (by decide) (gs_80 hg) rfl ?_
      obtain ⟨h14, Vh14⟩ := WI12
      refine e_iast dX8_term_204 (Nat.succ_pos _) (mt_s4 hg hu) h14.1 h14.2 ?_
      refine e_mem (fun I13 eI13 => ?_)
      have WI13 := Vh14 I13 eI13
      refine e_iconst dX8_term_205 ⟨by decide, by decide⟩ ?_
      exact e_zret dX8_term_206 rfl (by decide) (by rw [WI13.1, WI13.2])
    · have Bc8 := Vh6.2 c8
      refine e_aload_n dX8_term_167 rfl ?_
      obtain ⟨r17, J15, h16, Vh16⟩ := Bc8
      refine e_callv (av := []) (st := []) dX8_term_168 cO_8_146 oX8_wrong rfl (by decide) (gs_80 hg) rfl (Nat.le_of_ble_eq_true rfl) (by omega) h16 (Nat.le_refl _) (Nat.le_refl _) rfl rfl ?_
      exact e_zret dX8_term_171 rfl Vh16.1 (by rw [Vh16.2.1, Vh16.2.2])
  · have Bc4 := Vh2.2 c4
    refine e_aload_n dX8_term_137 rfl ?_
    refine e_dup dX8_term_138 ?_
    refine e_geti dX8_term_139 fO_8_106 (by decide) (gs_80 hg) rfl ?_
    refine e_iconst dX8_term_142 ⟨by decide, by decide⟩ ?_
    obtain ⟨h18, Vh18⟩ := Bc4
    refine e_iadd dX8_term_143 h18 ?_
    refine e_puti dX8_term_144 fO_8_106 (by decide) (gs_80 hg) rfl rfl ?_
    refine e_mem (fun I19 eI19 => ?_)
    have WI19 := Vh18 I19 eI19
    refine e_aload_n dX8_term_147 rfl ?_
    refine e_iload_n dX8_term_148 rfl ?_
    refine e_iconst dX8_term_149 ⟨by decide, by decide⟩ ?_
    obtain ⟨r22, J20, h21, Vh21⟩ := WI19
    refine e_callv (av := [.inl x2, .inl 1]) (st := []) dX8_term_150 cO_8_187 oX8_piece rfl (by decide) (gs_80 hg) rfl (Nat.le_of_ble_eq_true rfl) (by omega) h21 (Nat.le_refl _) (Nat.le_refl _) rfl rfl ?_
    refine e_if_ne (tgt := 128) dX8_term_153 (by decide) (fun c23 => ?_) (fun c23 => ?_)
    · have Ac23 := Vh21.1 c23
      exact Ac23
    · have Bc23 := Vh21.2 c23
      refine e_iconst dX8_term_156 ⟨by decide, by decide⟩ ?_
      exact e_zret dX8_term_157 rfl (by decide) (by rw [Bc23.1, Bc23.2])
set_option maxRecDepth 100000 in
set_option maxHeartbeats 4000000 in
theorem v_X8_read_0 {Γ : GX} {g gf : AG} {I J : Nat → Nat → Int} {r : Option AV} (hg : GOk g) (hf : g.2.2.2 = gf.2.2.2) (u : Nat) (hu : Mt u) (b2 nb2 : Nat) (pb2 : 0 < b2) (sb2 : g.1[b2]? = some (.inr (.byte, nb2))) (lb2 : (nb2 : Int) < 2147483648) (x3 : Int) (x4 : Int) (x5 : Int)
    (V : ∀ I1 : Nat → Nat → Int, I1 = mset I 80 13 x5 → (∀ I2 : Nat → Nat → Int, I2 = mset I1 u 1 x4 → (Ev Γ 61 mX8_read 20 [some (.inr (some 80)), some (.inr (some u)), some (.inr (some b2)), some (.inl x3), some (.inl x4), none, some (.inl 0)] [] ((sT g u), I2) (r, (gf, J))))) : Ev Γ 61 mX8_read 0 [some (.inr (some 80)), some (.inr (some u)), some (.inr (some b2)), some (.inl x3), some (.inl x4), some (.inl x5), none] [] (g, I) (r, (gf, J)) := by
  refine e_aload_n dX8_read_0 rfl ?_
  refine e_aload_n dX8_read_1 rfl ?_
  refine e_putr dX8_read_2 fO_8_109 (by decide) (gs_80 hg) rfl rfl ?_
  show Ev Γ 61 mX8_read 5 [some (.inr (some 80)), some (.inr (some u)), some (.inr (some b2)), some (.inl x3), some (.inl x4), some (.inl x5), none] [] ((sT g u), I) (r, (gf, J))
  refine e_aload_n dX8_read_5 rfl ?_
  refine e_iload dX8_read_6 rfl ?_
  refine e_puti dX8_read_8 fO_8_167 (by decide) (gs_80 (gS hg)) rfl rfl ?_
  refine e_mem (fun I1 eI1 => ?_)
  have WI1 := V I1 eI1
  refine e_aload_n dX8_read_11 rfl ?_
  refine e_iload dX8_read_12 rfl ?_
  refine e_puti dX8_read_14 fO_8_112 (mt_pos hu) (mt_s0 (gS hg) hu) rfl rfl ?_
  refine e_mem (fun I2 eI2 => ?_)
  have WI2 := WI1 I2 eI2
  refine e_iconst dX8_read_17 ⟨by decide, by decide⟩ ?_
  refine e_istore dX8_read_18 (by decide) (ls' := [some (.inr (some 80)), some (.inr (some u)), some (.inr (some b2)), some (.inl x3), some (.inl x4), some (.inl x5), some (.inl 0)]) rfl ?_
  refine ev_drop (ls' := [some (.inr (some 80)), some (.inr (some u)), some (.inr (some b2)), some (.inl x3), some (.inl x4), none, some (.inl 0)]) 5 rfl ?_
  exact WI2
set_option maxRecDepth 100000 in
set_option maxHeartbeats 4000000 in
theorem v_X8_read_20 {Γ : GX} {g gf : AG} {I J : Nat → Nat → Int} {r : Option AV} (hg : GOk g) (hf : g.2.2.2 = gf.2.2.2) (u : Nat) (hu : Mt u) (b2 nb2 : Nat) (pb2 : 0 < b2) (sb2 : g.1[b2]? = some (.inr (.byte, nb2))) (lb2 : (nb2 : Int) < 2147483648) (x3 : Int) (x4 : Int) (x6 : Int)
    (V : (((x4 ≤ x6)) → (∀ I2 : Nat → Nat → Int, I2 = mset I u 2 0 → (∀ I3 : Nat → Nat → Int, I3 = mset I2 80 14 0 → (∀ I4 : Nat → Nat → Int, I4 = mset I3 80 15 (-1) → (∀ I5 : Nat → Nat → Int, I5 = mset I4 80 16 0 → (∀ I6 : Nat → Nat → Int, I6 = mset I5 80 17 0 → (∀ I7 : Nat → Nat → Int, I7 = mset I6 80 18 0 → (∀ I8 : Nat → Nat → Int, I8 = mset I7 80 19 0 → (Ev Γ 61 mX8_read 84 [some (.inr (some 80)), none, none, none, none, none, some (.inl 0)] [] (g, I8) (r, (gf, J))))))))))) ∧ ((¬ (x4 ≤ x6)) → (inR (x3 + x6) ∧ (((0 : Int) ≤ (x3 + x6) ∧ ((x3 + x6) : Int) < nb2) ∧ (((0 : Int) ≤ x6 ∧ (x6 : Int) < 240) ∧ (∀ I11 : Nat → Nat → Int, I11 = mset I (u + 1) x6.toNat (bByte (I b2 (x3 + x6).toNat)) → (inR (x6 + 1) ∧ (Ev Γ 61 mX8_read 20 [some (.inr (some 80)), some (.inr (some u)), some (.inr (some b2)), some (.inl x3), some (.inl x4), none, some (.inl (x6 + 1))] [] (g, I11) (r, (gf, J)))))))))) : Ev Γ 61 mX8_read 20 [some (.inr (some 80)), some (.inr (some u)), some (.inr (some b2)), some (.inl x3), some (.inl x4), none, some (.inl x6)] [] (g, I) (r, (gf, J)) := by
  refine e_iload dX8_read_20 rfl ?_
  refine e_iload dX8_read_22 rfl ?_
  refine e_ic_ge (tgt := 46) dX8_read_24 (by decide) (fun c1 => ?_) (fun c1 => ?_)
  · have Ac1 := V.1 c1
    refine e_aload_n dX8_read_46 rfl ?_
    refine e_iconst dX8_read_47 ⟨by decide, by decide⟩ ?_
    refine e_puti dX8_read_48 fO_8_122 (mt_pos hu) (mt_s0 hg hu) rfl rfl ?_
    refine e_mem (fun I2 eI2 => ?_)
    have WI2 := Ac1 I2 eI2
    refine e_aload_n dX8_read_51 rfl ?_
    refine e_iconst dX8_read_52 ⟨by decide, by decide⟩ ?_
    refine e_puti dX8_read_53 fO_8_106 (by decide) (gs_80 hg) rfl rfl ?_
    refine e_mem (fun I3 eI3 => ?_)
    have WI3 := WI2 I3 eI3
    refine e_aload_n dX8_read_56 rfl ?_
    refine e_iconst dX8_read_57 ⟨by decide, by decide⟩ ?_
    refine e_puti dX8_read_58 fO_8_119 (by decide) (gs_80 hg) rfl rfl ?_
    refine e_mem (fun I4 eI4 => ?_)
    have WI4 := WI3 I4 eI4
    refine e_aload_n dX8_read_61 rfl ?_
    refine e_iconst dX8_read_62 ⟨by decide, by decide⟩ ?_
    refine e_puti dX8_read_63 fO_8_143 (by decide) (gs_80 hg) rfl rfl ?_
    refine e_mem (fun I5 eI5 => ?_)
    have WI5 := WI4 I5 eI5
    refine e_aload_n dX8_read_66 rfl ?_
    refine e_iconst dX8_read_67 ⟨by decide, by decide⟩ ?_
    refine e_puti dX8_read_68 fO_8_178 (by decide) (gs_80 hg) rfl rfl ?_
    refine e_mem (fun I6 eI6 => ?_)
    have WI6 := WI5 I6 eI6
    refine e_aload_n dX8_read_71 rfl ?_
    refine e_iconst dX8_read_72 ⟨by decide, by decide⟩ ?_
    refine e_puti dX8_read_73 fO_8_181 (by decide) (gs_80 hg) rfl rfl ?_
    refine e_mem (fun I7 eI7 => ?_)
    have WI7 := WI6 I7 eI7
    refine e_aload_n dX8_read_76 rfl ?_
    refine e_iconst dX8_read_77 ⟨by decide, by decide⟩ ?_
    refine e_putz dX8_read_78 fO_8_174 (by decide) (gs_80 hg) rfl rfl (by decide) ?_
    refine e_mem (fun I8 eI8 => ?_)
    have WI8 := WI7 I8 eI8
    refine e_iconst dX8_read_81 ⟨by decide, by decide⟩ ?_
    refine e_istore dX8_read_82 (by decide) (ls' := [some (.inr (some 80)), some (.inr (some u)), some (.inr (some b2)), some (.inl x3), some (.inl x4), none, some (.inl 0)]) rfl ?_
    refine ev_drop (ls' := [some (.inr (some 80)), none, some (.inr (some b2)), some (.inl x3), some (.inl x4), none, some (.inl 0)]) 1 rfl ?_
    refine ev_drop (ls' := [some (.inr (some 80)), none, none, some (.inl x3), some (.inl x4), none, some (.inl 0)]) 2 rfl ?_
    refine ev_drop (ls' := [some (.inr (some 80)), none, none, none, some (.inl x4), none, some (.inl 0)]) 3 rfl ?_
    refine ev_drop (ls' := [some (.inr (some 80)), none, none, none, none, none, some (.inl 0)]) 4 rfl ?_
    exact WI8
  · have Bc1 := V.2 c1
    refine e_aload_n dX8_read_27 rfl ?_
    refine e_getr dX8_read_28 fO_8_113 (mt_pos hu) (mt_s0 hg hu) rfl (mt_p1 hg hu) ?_
    refine e_iload dX8_read_31 rfl ?_
    refine e_aload_n dX8_read_33 rfl ?_
    refine e_iload_n dX8_read_34 rfl ?_
    refine e_iload dX8_read_35 rfl ?_
    obtain ⟨h9, Vh9⟩ := Bc1
    refine e_iadd dX8_read_37 h9 ?_
    obtain ⟨h10, Vh10⟩ := Vh9
    refine e_bald dX8_read_38 pb2 sb2 h10.1 h10.2 ?_
    obtain ⟨h12, Vh12⟩ := Vh10
    refine e_bast dX8_read_39 (Nat.succ_pos _) (mt_s1 hg hu) h12.1 h12.2 ?_
    refine e_mem (fun I11 eI11 => ?_)
    have WI11 := Vh12 I11 eI11
    obtain ⟨h13, Vh13⟩ := WI11
    refine e_iinc dX8_read_40 (by decide) rfl h13 (ls' := [some (.inr (some 80)), some (.inr (some u)), some (.inr (some b2)), some (.inl x3), some (.inl x4), none, some (.inl (x6 + 1))]) rfl ?_
    refine e_goto (tgt := 20) dX8_read_43 (by decide) ?_
    exact Vh13
set_option maxRecDepth 100000 in
set_option maxHeartbeats 4000000 in
theorem v_X8_read_84 {Γ : GX} {g gf : AG} {I J : Nat → Nat → Int} {r : Option AV} (hg : GOk g) (hf : g.2.2.2 = gf.2.2.2) (x6 : Int)
    (V : (((26 ≤ x6)) → (∃ (r4 : Int) (J2 : Nat → Nat → Int), CT Γ 60 mX8_piece [.inr (some 80), .inl (-1), .inl 0] (g, I) (some (.inl r4), (g, J2)) ∧ ((((r4 = 0)) → (r = some (.inl (J2 80 15)) ∧ J = J2 ∧ gf = g)) ∧ ((¬ (r4 = 0)) → (∃ (r8 : Int) (J6 : Nat → Nat → Int), CT Γ 0 mX8_look [.inr (some 80)] (g, J2) (some (.inl r8), (g, J6)) ∧ ((((r8 = (-1))) → (r = some (.inl (J6 80 15)) ∧ J = J6 ∧ gf = g)) ∧ ((¬ (r8 = (-1))) → (∃ (r12 : Int) (J10 : Nat → Nat → Int), CT Γ 0 mX8_wrong [.inr (some 80)] (g, J6) (some (.inl r12), (g, J10)) ∧ (r = some (.inl (J10 80 15)) ∧ J = J10 ∧ gf = g))))))))) ∧ ((¬ (26 ≤ x6)) → (((0 : Int) ≤ x6 ∧ (x6 : Int) < 26) ∧ (∀ I13 : Nat → Nat → Int, I13 = mset I 135 x6.toNat (-1) → (inR (x6 + 1) ∧ (Ev Γ 61 mX8_read 84 [some (.inr (some 80)), none, none, none, none, none, some (.inl (x6 + 1))] [] (g, I13) (r, (gf, J)))))))) : Ev Γ 61 mX8_read 84 [some (.inr (some 80)), none, none, none, none, none, some (.inl x6)] [] (g, I) (r, (gf, J)) := by
  refine e_iload dX8_read_84 rfl ?_
  refine e_bipush dX8_read_86 (by decide) ⟨by decide, by decide⟩ ?_
  refine e_ic_ge (tgt := 105) dX8_read_88 (by decide) (fun c1 => ?_) (fun c1 => ?_)
  · have Ac1 := V.1 c1
    refine e_aload_n dX8_read_105 rfl ?_
    refine e_iconst dX8_read_106 ⟨by decide, by decide⟩ ?_
    refine e_iconst dX8_read_107 ⟨by decide, by decide⟩ ?_
    obtain ⟨r4, J2, h3, Vh3⟩ := Ac1
    refine e_callv (av := [.inl (-1), .inl 0]) (st := []) dX8_read_108 cO_8_187 oX8_piece rfl (by decide) (gs_80 hg) rfl (Nat.le_of_ble_eq_true rfl) (by decide) h3 (Nat.le_of_eq (congrArg Prod.fst hf)) (Nat.le_of_eq (congrArg Prod.snd hf)) rfl rfl ?_
    refine e_istore dX8_read_111 (by decide) (ls' := [some (.inr (some 80)), none, none, none, none, none, some (.inl r4)]) rfl ?_
    refine e_iload dX8_read_113 rfl ?_
    refine e_if_eq (tgt := 131) dX8_read_115 (by decide) (fun c5 => ?_) (fun c5 => ?_)
    · have Ac5 := Vh3.1 c5
      refine e_aload_n dX8_read_131 rfl ?_
      refine e_geti dX8_read_132 fO_8_119 (by decide) (gs_80 hg) rfl ?_
      exact e_iret dX8_read_135 rfl (by rw [Ac5.1, Ac5.2.1, Ac5.2.2])
    · have Bc5 := Vh3.2 c5
      refine e_aload_n dX8_read_118 rfl ?_
      obtain ⟨r8, J6, h7, Vh7⟩ := Bc5
      refine e_callv (av := []) (st := []) dX8_read_119 cO_8_157 oX8_look rfl (by decide) (gs_80 hg) rfl (Nat.le_of_ble_eq_true rfl) (by decide) h7 (Nat.le_of_eq (congrArg Prod.fst hf)) (Nat.le_of_eq (congrArg Prod.snd hf)) rfl rfl ?_
      refine e_iconst dX8_read_122 ⟨by decide, by decide⟩ ?_
      refine e_ic_eq (tgt := 131) dX8_read_123 (by decide) (fun c9 => ?_) (fun c9 => ?_)
      · have Ac9 := Vh7.1 c9
        refine e_aload_n dX8_read_131 rfl ?_
        refine e_geti dX8_read_132 fO_8_119 (by decide) (gs_80 hg) rfl ?_
        exact e_iret dX8_read_135 rfl (by rw [Ac9.1, Ac9.2.1, Ac9.2.2])
      · have Bc9 := Vh7.2 c9
        refine e_aload_n dX8_read_126 rfl ?_
        obtain ⟨r12, J10, h11, Vh11⟩ := Bc9
        refine e_callv (av := []) (st := []) dX8_read_127 cO_8_146 oX8_wrong rfl (by decide) (gs_80 hg) rfl (Nat.le_of_ble_eq_true rfl) (by decide) h11 (Nat.le_of_eq (congrArg Prod.fst hf)) (Nat.le_of_eq (congrArg Prod.snd hf)) rfl rfl ?_
        refine e_pop dX8_read_130 ?_
        refine e_aload_n dX8_read_131 rfl ?_
        refine e_geti dX8_read_132 fO_8_119 (by decide) (gs_80 hg) rfl ?_
        exact e_iret dX8_read_135 rfl (by rw [Vh11.1, Vh11.2.1, Vh11.2.2])
  · have Bc1 := V.2 c1
    refine e_aload_n dX8_read_91 rfl ?_
    refine e_getr dX8_read_92 fO_8_43 (by decide) (gs_80 hg) rfl (gp_80_20 hg) ?_
    refine e_iload dX8_read_95 rfl ?_
    refine e_iconst dX8_read_97 ⟨by decide, by decide⟩ ?_
    obtain ⟨h14, Vh14⟩ := Bc1
    refine e_iast dX8_read_98 (by decide) (gs_135 hg) h14.1 h14.2 ?_
    refine e_mem (fun I13 eI13 => ?_)
    have WI13 := Vh14 I13 eI13
    obtain ⟨h15, Vh15⟩ := WI13
    refine e_iinc dX8_read_99 (by decide) rfl h15 (ls' := [some (.inr (some 80)), none, none, none, none, none, some (.inl (x6 + 1))]) rfl ?_
    refine e_goto (tgt := 84) dX8_read_102 (by decide) ?_
    exact Vh15
set_option maxRecDepth 100000 in
set_option maxHeartbeats 4000000 in
theorem v_X8_bytesIn_0 {Γ : GX} {g : AG} {I J : Nat → Nat → Int} {r : Option AV} (hg : GOk g) (x0 : Int)
    (V : Ev Γ 0 mX8_bytesIn 5 [some (.inl x0), some (.inl 0), some (.inl 24)] [] (g, I) (r, (g, J))) : Ev Γ 0 mX8_bytesIn 0 [some (.inl x0), none, none] [] (g, I) (r, (g, J)) := by
  refine e_iconst dX8_bytesIn_0 ⟨by decide, by decide⟩ ?_
  refine e_istore_n dX8_bytesIn_1 (by decide) (ls' := [some (.inl x0), some (.inl 0), none]) rfl ?_
  refine e_bipush dX8_bytesIn_2 (by decide) ⟨by decide, by decide⟩ ?_
  refine e_istore_n dX8_bytesIn_4 (by decide) (ls' := [some (.inl x0), some (.inl 0), some (.inl 24)]) rfl ?_
  exact V
set_option maxRecDepth 100000 in
set_option maxHeartbeats 4000000 in
theorem v_X8_bytesIn_5 {Γ : GX} {g : AG} {I J : Nat → Nat → Int} {r : Option AV} (hg : GOk g) (x0 : Int) (x1 : Int) (x2 : Int)
    (V : (((x2 < 0)) → (r = some (.inl x1) ∧ J = I)) ∧ ((¬ (x2 < 0)) → (((((bAnd (bShr x0 x2) 255) = 0)) → (inR (x1 + 0) ∧ (∀ y4 : Int, y4 = (x1 + 0) → (inR (x2 + (-8)) ∧ (Ev Γ 0 mX8_bytesIn 5 [some (.inl x0), some (.inl y4), some (.inl (x2 + (-8)))] [] (g, I) (r, (g, J))))))) ∧ ((¬ ((bAnd (bShr x0 x2) 255) = 0)) → (inR (x1 + 1) ∧ (∀ y7 : Int, y7 = (x1 + 1) → (inR (x2 + (-8)) ∧ (Ev Γ 0 mX8_bytesIn 5 [some (.inl x0), some (.inl y7), some (.inl (x2 + (-8)))] [] (g, I) (r, (g, J)))))))))) : Ev Γ 0 mX8_bytesIn 5 [some (.inl x0), some (.inl x1), some (.inl x2)] [] (g, I) (r, (g, J)) := by
  refine e_iload_n dX8_bytesIn_5 rfl ?_
  refine e_if_lt (tgt := 33) dX8_bytesIn_6 (by decide) (fun c1 => ?_) (fun c1 => ?_)
  · have Ac1 := V.1 c1
    refine e_iload_n dX8_bytesIn_33 rfl ?_
    exact e_iret dX8_bytesIn_34 rfl (by rw [Ac1.1, Ac1.2])
  · have Bc1 := V.2 c1
    refine e_iload_n dX8_bytesIn_9 rfl ?_
    refine e_iload_n dX8_bytesIn_10 rfl ?_
    refine e_iload_n dX8_bytesIn_11 rfl ?_
    refine e_ishr dX8_bytesIn_12 ?_
    refine e_sipush dX8_bytesIn_13 (by decide) ⟨by decide, by decide⟩ ?_
    refine e_iand dX8_bytesIn_16 ?_
    refine e_if_eq (tgt := 24) dX8_bytesIn_17 (by decide) (fun c2 => ?_) (fun c2 => ?_)
    · have Ac2 := Bc1.1 c2
      refine e_iconst dX8_bytesIn_24 ⟨by decide, by decide⟩ ?_
      obtain ⟨h3, Vh3⟩ := Ac2
      refine e_iadd dX8_bytesIn_25 h3 ?_
      refine e_top (fun y4 ey4 => ?_)
      have Wy4 := Vh3 y4 ey4
      refine e_istore_n dX8_bytesIn_26 (by decide) (ls' := [some (.inl x0), some (.inl y4), some (.inl x2)]) rfl ?_
      obtain ⟨h5, Vh5⟩ := Wy4
      refine e_iinc dX8_bytesIn_27 (by decide) rfl h5 (ls' := [some (.inl x0), some (.inl y4), some (.inl (x2 + (-8)))]) rfl ?_
      refine e_goto (tgt := 5) dX8_bytesIn_30 (by decide) ?_
      exact Vh5
    · have Bc2 := Bc1.2 c2
      refine e_iconst dX8_bytesIn_20 ⟨by decide, by decide⟩ ?_
      refine e_goto (tgt := 25) dX8_bytesIn_21 (by decide) ?_
      obtain ⟨h6, Vh6⟩ := Bc2
      refine e_iadd dX8_bytesIn_25 h6 ?_
      refine e_top (fun y7 ey7 => ?_)
      have Wy7 := Vh6 y7 ey7
      refine e_istore_n dX8_bytesIn_26 (by decide) (ls' := [some (.inl x0), some (.inl y7), some (.inl x2)]) rfl ?_
      obtain ⟨h8, Vh8⟩ := Wy7
      refine e_iinc dX8_bytesIn_27 (by decide) rfl h8 (ls' := [some (.inl x0), some (.inl y7), some (.inl (x2 + (-8)))]) rfl ?_
      refine e_goto (tgt := 5) dX8_bytesIn_30 (by decide) ?_
      exact Vh8
set_option maxRecDepth 100000 in
set_option maxHeartbeats 4000000 in
theorem v_X8_put4_0 {Γ : GX} {g : AG} {I J : Nat → Nat → Int} {r : Option AV} (hg : GOk g) (x1 : Int)
    (V : Ev Γ 0 mX8_put4 3 [some (.inr (some 80)), some (.inl x1), some (.inl 24)] [] (g, I) (r, (g, J))) : Ev Γ 0 mX8_put4 0 [some (.inr (some 80)), some (.inl x1), none] [] (g, I) (r, (g, J)) := by
  refine e_bipush dX8_put4_0 (by decide) ⟨by decide, by decide⟩ ?_
  refine e_istore_n dX8_put4_2 (by decide) (ls' := [some (.inr (some 80)), some (.inl x1), some (.inl 24)]) rfl ?_
  exact V
set_option maxRecDepth 100000 in
set_option maxHeartbeats 4000000 in
theorem v_X8_put4_3 {Γ : GX} {g : AG} {I J : Nat → Nat → Int} {r : Option AV} (hg : GOk g) (x1 : Int) (x2 : Int)
    (V : (((x2 < 0)) → (r = none ∧ J = I)) ∧ ((¬ (x2 < 0)) → (((¬ ((bAnd (bShr x1 x2) 255) = 0)) → (((0 : Int) ≤ (I 80 2) ∧ ((I 80 2) : Int) < 240) ∧ (∀ I3 : Nat → Nat → Int, I3 = mset I 81 (I 80 2).toNat (bByte (bByte (bShr x1 x2))) → (inR ((I3 80 2) + 1) ∧ (∀ I6 : Nat → Nat → Int, I6 = mset I3 80 2 ((I3 80 2) + 1) → (inR (x2 + (-8)) ∧ (Ev Γ 0 mX8_put4 3 [some (.inr (some 80)), some (.inl x1), some (.inl (x2 + (-8)))] [] (g, I6) (r, (g, J))))))))) ∧ ((((bAnd (bShr x1 x2) 255) = 0)) → (inR (x2 + (-8)) ∧ (Ev Γ 0 mX8_put4 3 [some (.inr (some 80)), some (.inl x1), some (.inl (x2 + (-8)))] [] (g, I) (r, (g, J)))))))) : Ev Γ 0 mX8_put4 3 [some (.inr (some 80)), some (.inl x1), some (.inl x2)] [] (g, I) (r, (g, J)) := by
  refine e_iload_n dX8_put4_3 rfl ?_
  refine e_if_lt (tgt := 49) dX8_put4_4 (by decide) (fun c1 => ?_) (fun c1 => ?_)
  · have Ac1 := V.1 c1
    exact e_vret dX8_put4_49 rfl (by rw [Ac1.1, Ac1.2])
  · have Bc1 := V.2 c1
    refine e_iload_n dX8_put4_7 rfl ?_
    refine e_iload_n dX8_put4_8 rfl ?_
    refine e_ishr dX8_put4_9 ?_
    refine e_sipush dX8_put4_10 (by decide) ⟨by decide, by decide⟩ ?_
    refine e_iand dX8_put4_13 ?_
    refine e_if_ne (tgt := 20) dX8_put4_14 (by decide) (fun c2 => ?_) (fun c2 => ?_)
    · have Ac2 := Bc1.1 c2
      refine e_aload_n dX8_put4_20 rfl ?_
      refine e_getr dX8_put4_21 fO_8_9 (by decide) (gs_80 hg) rfl (gp_80_1 hg) ?_
      refine e_aload_n dX8_put4_24 rfl ?_
      refine e_geti dX8_put4_25 fO_8_95 (by decide) (gs_80 hg) rfl ?_
      refine e_iload_n dX8_put4_28 rfl ?_
      refine e_iload_n dX8_put4_29 rfl ?_
      refine e_ishr dX8_put4_30 ?_
      refine e_i2b dX8_put4_31 ?_
      obtain ⟨h4, Vh4⟩ := Ac2
      refine e_bast dX8_put4_32 (by decide) (gs_81 hg) h4.1 h4.2 ?_
      refine e_mem (fun I3 eI3 => ?_)
      have WI3 := Vh4 I3 eI3
      refine e_aload_n dX8_put4_33 rfl ?_
      refine e_dup dX8_put4_34 ?_
      refine e_geti dX8_put4_35 fO_8_95 (by decide) (gs_80 hg) rfl ?_
      refine e_iconst dX8_put4_38 ⟨by decide, by decide⟩ ?_
      obtain ⟨h5, Vh5⟩ := WI3
      refine e_iadd dX8_put4_39 h5 ?_
      refine e_puti dX8_put4_40 fO_8_95 (by decide) (gs_80 hg) rfl rfl ?_
      refine e_mem (fun I6 eI6 => ?_)
      have WI6 := Vh5 I6 eI6
      obtain ⟨h7, Vh7⟩ := WI6
      refine e_iinc dX8_put4_43 (by decide) rfl h7 (ls' := [some (.inr (some 80)), some (.inl x1), some (.inl (x2 + (-8)))]) rfl ?_
      refine e_goto (tgt := 3) dX8_put4_46 (by decide) ?_
      exact Vh7
    · have Bc2 := Bc1.2 c2
      refine e_goto (tgt := 43) dX8_put4_17 (by decide) ?_
      obtain ⟨h8, Vh8⟩ := Bc2
      refine e_iinc dX8_put4_43 (by decide) rfl h8 (ls' := [some (.inr (some 80)), some (.inl x1), some (.inl (x2 + (-8)))]) rfl ?_
      refine e_goto (tgt := 3) dX8_put4_46 (by decide) ?_
      exact Vh8
set_option maxRecDepth 100000 in
set_option maxHeartbeats 4000000 in
theorem v_X8_feed_0 {Γ : GX} {g : AG} {I J : Nat → Nat → Int} {r : Option AV} (hg : GOk g) (x1 : Int) (x2 : Int) (x3 : Int) (x4 : Int) (x5 : Int)
    (V : ∀ I1 : Nat → Nat → Int, I1 = mset I 80 0 0 → (∃ (r4 : Int) (J2 : Nat → Nat → Int), CT Γ 0 mX8_bytesIn [.inl x1] (g, I1) (some (.inl r4), (g, J2)) ∧ (inR ((I1 80 2) + r4) ∧ (∃ (r8 : Int) (J6 : Nat → Nat → Int), CT Γ 0 mX8_bytesIn [.inl x2] (g, J2) (some (.inl r8), (g, J6)) ∧ (inR (((I1 80 2) + r4) + r8) ∧ (∃ (r12 : Int) (J10 : Nat → Nat → Int), CT Γ 0 mX8_bytesIn [.inl x3] (g, J6) (some (.inl r12), (g, J10)) ∧ (inR ((((I1 80 2) + r4) + r8) + r12) ∧ (∃ (r16 : Int) (J14 : Nat → Nat → Int), CT Γ 0 mX8_bytesIn [.inl x4] (g, J10) (some (.inl r16), (g, J14)) ∧ (inR (((((I1 80 2) + r4) + r8) + r12) + r16) ∧ (∃ (r20 : Int) (J18 : Nat → Nat → Int), CT Γ 0 mX8_bytesIn [.inl x5] (g, J14) (some (.inl r20), (g, J18)) ∧ (inR ((((((I1 80 2) + r4) + r8) + r12) + r16) + r20) ∧ ((((((((((I1 80 2) + r4) + r8) + r12) + r16) + r20) ≤ 240)) → (∃ (J23 : Nat → Nat → Int), CT Γ 0 mX8_put4 [.inr (some 80), .inl x1] (g, J18) (none, (g, J23)) ∧ (∃ (J26 : Nat → Nat → Int), CT Γ 0 mX8_put4 [.inr (some 80), .inl x2] (g, J23) (none, (g, J26)) ∧ (∃ (J29 : Nat → Nat → Int), CT Γ 0 mX8_put4 [.inr (some 80), .inl x3] (g, J26) (none, (g, J29)) ∧ (∃ (J32 : Nat → Nat → Int), CT Γ 0 mX8_put4 [.inr (some 80), .inl x4] (g, J29) (none, (g, J32)) ∧ (∃ (J35 : Nat → Nat → Int), CT Γ 0 mX8_put4 [.inr (some 80), .inl x5] (g, J32) (none, (g, J35)) ∧ (r = some (.inl (J35 80 2)) ∧ J = J35))))))) ∧ ((¬ (((((((I1 80 2) + r4) + r8) + r12) + r16) + r20) ≤ 240)) → (r = some (.inl (-1)) ∧ J = J18)))))))))))))) : Ev Γ 1 mX8_feed 0 [some (.inr (some 80)), some (.inl x1), some (.inl x2), some (.inl x3), some (.inl x4), some (.inl x5)] [] (g, I) (r, (g, J)) := by
  refine e_aload_n dX8_feed_0 rfl ?_
  refine e_iconst dX8_feed_1 ⟨by decide, by decide⟩ ?_
  refine e_puti dX8_feed_2 fO_8_103 (by decide) (gs_80 hg) rfl rfl ?_
  refine e_mem (fun I1 eI1 => ?_)
  have WI1 := V I1 eI1
  refine e_aload_n dX8_feed_5 rfl ?_
  refine e_geti dX8_feed_6 fO_8_95 (by decide) (gs_80 hg) rfl ?_
  refine e_iload_n dX8_feed_9 rfl ?_
  obtain ⟨r4, J2, h3, Vh3⟩ := WI1
  refine e_calls (av := [.inl x1]) (st := [.inl (I1 80 2)]) dX8_feed_10 cO_8_194 oX8_bytesIn rfl rfl (Nat.le_of_ble_eq_true rfl) (by decide) h3 (Nat.le_refl _) (Nat.le_refl _) rfl rfl ?_
  obtain ⟨h5, Vh5⟩ := Vh3
  refine e_iadd dX8_feed_13 h5 ?_
  refine e_iload_n dX8_feed_14 rfl ?_
  obtain ⟨r8, J6, h7, Vh7⟩ := Vh5
  refine e_calls (av := [.inl x2]) (st := [.inl ((I1 80 2) + r4)]) dX8_feed_15 cO_8_194 oX8_bytesIn rfl rfl (Nat.le_of_ble_eq_true rfl) (by decide) h7 (Nat.le_refl _) (Nat.le_refl _) rfl rfl ?_
  obtain ⟨h9, Vh9⟩ := Vh7
  refine e_iadd dX8_feed_18 h9 ?_
  refine e_iload_n dX8_feed_19 rfl ?_
  obtain ⟨r12, J10, h11, Vh11⟩ := Vh9
  refine e_calls (av := [.inl x3]) (st := [.inl (((I1 80 2) + r4) + r8)]) dX8_feed_20 cO_8_194 oX8_bytesIn rfl rfl (Nat.le_of_ble_eq_true rfl) (by decide) h11 (Nat.le_refl _) (Nat.le_refl _) rfl rfl ?_
  obtain ⟨h13, Vh13⟩ := Vh11
  refine e_iadd dX8_feed_23 h13 ?_
  refine e_iload dX8_feed_24 rfl ?_
  obtain ⟨r16, J14, h15, Vh15⟩ := Vh13
  refine e_calls (av := [.inl x4]) (st := [.inl ((((I1 80 2) + r4) + r8) + r12)]) dX8_feed_26 cO_8_194 oX8_bytesIn rfl rfl (Nat.le_of_ble_eq_true rfl) (by decide) h15 (Nat.le_refl _) (Nat.le_refl _) rfl rfl ?_
  obtain ⟨h17, Vh17⟩ := Vh15
  refine e_iadd dX8_feed_29 h17 ?_
  refine e_iload dX8_feed_30 rfl ?_
  obtain ⟨r20, J18, h19, Vh19⟩ := Vh17
  refine e_calls (av := [.inl x5]) (st := [.inl (((((I1 80 2) + r4) + r8) + r12) + r16)]) dX8_feed_32 cO_8_194 oX8_bytesIn rfl rfl (Nat.le_of_ble_eq_true rfl) (by decide) h19 (Nat.le_refl _) (Nat.le_refl _) rfl rfl ?_
  obtain ⟨h21, Vh21⟩ := Vh19
  refine e_iadd dX8_feed_35 h21 ?_
  refine e_sipush dX8_feed_36 (by decide) ⟨by decide, by decide⟩ ?_
  refine e_ic_le (tgt := 44) dX8_feed_39 (by decide) (fun c22 => ?_) (fun c22 => ?_)
  · have Ac22 := Vh21.1 c22
    refine e_aload_n dX8_feed_44 rfl ?_
    refine e_iload_n dX8_feed_45 rfl ?_
    obtain ⟨J23, h24, Vh24⟩ := Ac22
    refine e_callv (av := [.inl x1]) (st := []) dX8_feed_46 cO_8_198 oX8_put4 rfl (by decide) (gs_80 hg) rfl (Nat.le_of_ble_eq_true rfl) (by decide) h24 (Nat.le_refl _) (Nat.le_refl _) rfl rfl ?_
    refine e_aload_n dX8_feed_49 rfl ?_
    refine e_iload_n dX8_feed_50 rfl ?_
    obtain ⟨J26, h27, Vh27⟩ := Vh24
    refine e_callv (av := [.inl x2]) (st := []) dX8_feed_51 cO_8_198 oX8_put4 rfl (by decide) (gs_80 hg) rfl (Nat.le_of_ble_eq_true rfl) (by decide) h27 (Nat.le_refl _) (Nat.le_refl _) rfl rfl ?_
    refine e_aload_n dX8_feed_54 rfl ?_
    refine e_iload_n dX8_feed_55 rfl ?_
    obtain ⟨J29, h30, Vh30⟩ := Vh27
    refine e_callv (av := [.inl x3]) (st := []) dX8_feed_56 cO_8_198 oX8_put4 rfl (by decide) (gs_80 hg) rfl (Nat.le_of_ble_eq_true rfl) (by decide) h30 (Nat.le_refl _) (Nat.le_refl _) rfl rfl ?_
    refine e_aload_n dX8_feed_59 rfl ?_
    refine e_iload dX8_feed_60 rfl ?_
    obtain ⟨J32, h33, Vh33⟩ := Vh30
    refine e_callv (av := [.inl x4]) (st := []) dX8_feed_62 cO_8_198 oX8_put4 rfl (by decide) (gs_80 hg) rfl (Nat.le_of_ble_eq_true rfl) (by decide) h33 (Nat.le_refl _) (Nat.le_refl _) rfl rfl ?_
    refine e_aload_n dX8_feed_65 rfl ?_
    refine e_iload dX8_feed_66 rfl ?_
    obtain ⟨J35, h36, Vh36⟩ := Vh33
    refine e_callv (av := [.inl x5]) (st := []) dX8_feed_68 cO_8_198 oX8_put4 rfl (by decide) (gs_80 hg) rfl (Nat.le_of_ble_eq_true rfl) (by decide) h36 (Nat.le_refl _) (Nat.le_refl _) rfl rfl ?_
    refine e_aload_n dX8_feed_71 rfl ?_
    refine e_geti dX8_feed_72 fO_8_95 (by decide) (gs_80 hg) rfl ?_
    exact e_iret dX8_feed_75 rfl (by rw [Vh36.1, Vh36.2])
  · have Bc22 := Vh21.2 c22
    refine e_iconst dX8_feed_42 ⟨by decide, by decide⟩ ?_
    exact e_iret dX8_feed_43 rfl (by rw [Bc22.1, Bc22.2])
set_option maxRecDepth 100000 in
set_option maxHeartbeats 4000000 in
theorem v_X8_end_0 {Γ : GX} {g : AG} {I J : Nat → Nat → Int} {r : Option AV} (hg : GOk g) (x1 : Int)
    (V : ∀ I1 : Nat → Nat → Int, I1 = mset I 80 0 0 → ((((x1 < 0)) → (r = some (.inl 0) ∧ J = I1)) ∧ ((¬ (x1 < 0)) → ((((x1 ≤ (I1 80 2))) → (∀ I4 : Nat → Nat → Int, I4 = mset I1 80 2 x1 → (r = some (.inl 1) ∧ J = I4))) ∧ ((¬ (x1 ≤ (I1 80 2))) → (r = some (.inl 0) ∧ J = I1)))))) : Ev Γ 0 mX8_end 0 [some (.inr (some 80)), some (.inl x1)] [] (g, I) (r, (g, J)) := by
  refine e_aload_n dX8_end_0 rfl ?_
  refine e_iconst dX8_end_1 ⟨by decide, by decide⟩ ?_
  refine e_puti dX8_end_2 fO_8_103 (by decide) (gs_80 hg) rfl rfl ?_
  refine e_mem (fun I1 eI1 => ?_)
  have WI1 := V I1 eI1
  refine e_iload_n dX8_end_5 rfl ?_
  refine e_if_lt (tgt := 17) dX8_end_6 (by decide) (fun c2 => ?_) (fun c2 => ?_)
  · have Ac2 := WI1.1 c2
    refine e_iconst dX8_end_17 ⟨by decide, by decide⟩ ?_
    exact e_zret dX8_end_18 rfl (by decide) (by rw [Ac2.1, Ac2.2])
  · have Bc2 := WI1.2 c2
    refine e_iload_n dX8_end_9 rfl ?_
    refine e_aload_n dX8_end_10 rfl ?_
    refine e_geti dX8_end_11 fO_8_95 (by decide) (gs_80 hg) rfl ?_
    refine e_ic_le (tgt := 19) dX8_end_14 (by decide) (fun c3 => ?_) (fun c3 => ?_)
    · have Ac3 := Bc2.1 c3
      refine e_aload_n dX8_end_19 rfl ?_
      refine e_iload_n dX8_end_20 rfl ?_
      refine e_puti dX8_end_21 fO_8_95 (by decide) (gs_80 hg) rfl rfl ?_
      refine e_mem (fun I4 eI4 => ?_)
      have WI4 := Ac3 I4 eI4
      refine e_iconst dX8_end_24 ⟨by decide, by decide⟩ ?_
      exact e_zret dX8_end_25 rfl (by decide) (by rw [WI4.1, WI4.2])
    · have Bc3 := Bc2.2 c3
      refine e_iconst dX8_end_17 ⟨by decide, by decide⟩ ?_
      exact e_zret dX8_end_18 rfl (by decide) (by rw [Bc3.1, Bc3.2])
set_option maxRecDepth 100000 in
set_option maxHeartbeats 4000000 in
theorem v_X8_fault_0 {Γ : GX} {g gf : AG} {I J : Nat → Nat → Int} {r : Option AV} (hg : GOk g) (hf : g.2.2.2 = gf.2.2.2) (x1 : Int)
    (V : ∀ I1 : Nat → Nat → Int, I1 = mset I 80 0 0 → (∃ (r4 : Int) (J2 : Nat → Nat → Int), CT Γ 0 mX8_isIn [.inl x1, .inl 0, .inl 2] (g, I1) (some (.inl r4), (g, J2)) ∧ ((((r4 = 0)) → (r = some (.inl (-2)) ∧ J = J2 ∧ gf = g)) ∧ ((¬ (r4 = 0)) → ((((x1 = 0)) → (∃ (r9 : Int) (J7 : Nat → Nat → Int) (g10 : AG), CT Γ 61 mX8_read [.inr (some 80), .inr (some 112), .inr (some 81), .inl 0, .inl (J2 80 2), .inl x1] (g, J2) (some (.inl r9), (g10, J7)) ∧ GOk g10 ∧ g10.2.2.2 = g.2.2.2 ∧ (r = some (.inl r9) ∧ J = J7 ∧ gf = g10))) ∧ ((¬ (x1 = 0)) → (((((J2 80 2) ≤ 80)) → (∃ (r14 : Int) (J12 : Nat → Nat → Int) (g15 : AG), CT Γ 61 mX8_read [.inr (some 80), .inr (some 112), .inr (some 81), .inl 0, .inl (J2 80 2), .inl x1] (g, J2) (some (.inl r14), (g15, J12)) ∧ GOk g15 ∧ g15.2.2.2 = g.2.2.2 ∧ (r = some (.inl r14) ∧ J = J12 ∧ gf = g15))) ∧ ((¬ ((J2 80 2) ≤ 80)) → (r = some (.inl (-2)) ∧ J = J2 ∧ gf = g))))))))) : Ev Γ 62 mX8_fault 0 [some (.inr (some 80)), some (.inl x1)] [] (g, I) (r, (gf, J)) := by
  refine e_aload_n dX8_fault_0 rfl ?_
  refine e_iconst dX8_fault_1 ⟨by decide, by decide⟩ ?_
  refine e_puti dX8_fault_2 fO_8_103 (by decide) (gs_80 hg) rfl rfl ?_
  refine e_mem (fun I1 eI1 => ?_)
  have WI1 := V I1 eI1
  refine e_iload_n dX8_fault_5 rfl ?_
  refine e_iconst dX8_fault_6 ⟨by decide, by decide⟩ ?_
  refine e_iconst dX8_fault_7 ⟨by decide, by decide⟩ ?_
  obtain ⟨r4, J2, h3, Vh3⟩ := WI1
  refine e_calls (av := [.inl x1, .inl 0, .inl 2]) (st := []) dX8_fault_8 cO_8_202 oX8_isIn rfl rfl (Nat.le_of_ble_eq_true rfl) (by decide) h3 (Nat.le_of_eq (congrArg Prod.fst hf)) (Nat.le_of_eq (congrArg Prod.snd hf)) rfl rfl ?_
  refine e_if_eq (tgt := 27) dX8_fault_11 (by decide) (fun c5 => ?_) (fun c5 => ?_)
  · have Ac5 := Vh3.1 c5
    refine e_bipush dX8_fault_27 (by decide) ⟨by decide, by decide⟩ ?_
    exact e_iret dX8_fault_29 rfl (by rw [Ac5.1, Ac5.2.1, Ac5.2.2])
  · have Bc5 := Vh3.2 c5
    refine e_iload_n dX8_fault_14 rfl ?_
    refine e_if_eq (tgt := 30) dX8_fault_15 (by decide) (fun c6 => ?_) (fun c6 => ?_)
    · have Ac6 := Bc5.1 c6
      refine e_aload_n dX8_fault_30 rfl ?_
      refine e_aload_n dX8_fault_31 rfl ?_
      refine e_getr dX8_fault_32 fO_8_26 (by decide) (gs_80 hg) rfl (gp_80_6 hg) ?_
      refine e_aload_n dX8_fault_35 rfl ?_
      refine e_getr dX8_fault_36 fO_8_9 (by decide) (gs_80 hg) rfl (gp_80_1 hg) ?_
      refine e_iconst dX8_fault_39 ⟨by decide, by decide⟩ ?_
      refine e_aload_n dX8_fault_40 rfl ?_
      refine e_geti dX8_fault_41 fO_8_95 (by decide) (gs_80 hg) rfl ?_
      refine e_iload_n dX8_fault_44 rfl ?_
      obtain ⟨r9, J7, g10, h8, kg10, cg10, Vh8⟩ := Ac6
      refine e_callv (av := [.inr (some 112), .inr (some 81), .inl 0, .inl (J2 80 2), .inl x1]) (st := []) dX8_fault_45 cO_8_206 oX8_read rfl (by decide) (gs_80 hg) rfl (Nat.le_of_ble_eq_true rfl) (by decide) h8 (Nat.le_of_eq (congrArg Prod.fst (cg10.trans hf))) (Nat.le_of_eq (congrArg Prod.snd (cg10.trans hf))) rfl rfl ?_
      exact e_iret dX8_fault_48 rfl (by rw [Vh8.1, Vh8.2.1, Vh8.2.2])
    · have Bc6 := Bc5.2 c6
      refine e_aload_n dX8_fault_18 rfl ?_
      refine e_geti dX8_fault_19 fO_8_95 (by decide) (gs_80 hg) rfl ?_
      refine e_bipush dX8_fault_22 (by decide) ⟨by decide, by decide⟩ ?_
      refine e_ic_le (tgt := 30) dX8_fault_24 (by decide) (fun c11 => ?_) (fun c11 => ?_)
      · have Ac11 := Bc6.1 c11
        refine e_aload_n dX8_fault_30 rfl ?_
        refine e_aload_n dX8_fault_31 rfl ?_
        refine e_getr dX8_fault_32 fO_8_26 (by decide) (gs_80 hg) rfl (gp_80_6 hg) ?_
        refine e_aload_n dX8_fault_35 rfl ?_
        refine e_getr dX8_fault_36 fO_8_9 (by decide) (gs_80 hg) rfl (gp_80_1 hg) ?_
        refine e_iconst dX8_fault_39 ⟨by decide, by decide⟩ ?_
        refine e_aload_n dX8_fault_40 rfl ?_
        refine e_geti dX8_fault_41 fO_8_95 (by decide) (gs_80 hg) rfl ?_
        refine e_iload_n dX8_fault_44 rfl ?_
        obtain ⟨r14, J12, g15, h13, kg15, cg15, Vh13⟩ := Ac11
        refine e_callv (av := [.inr (some 112), .inr (some 81), .inl 0, .inl (J2 80 2), .inl x1]) (st := []) dX8_fault_45 cO_8_206 oX8_read rfl (by decide) (gs_80 hg) rfl (Nat.le_of_ble_eq_true rfl) (by decide) h13 (Nat.le_of_eq (congrArg Prod.fst (cg15.trans hf))) (Nat.le_of_eq (congrArg Prod.snd (cg15.trans hf))) rfl rfl ?_
        exact e_iret dX8_fault_48 rfl (by rw [Vh13.1, Vh13.2.1, Vh13.2.2])
      · have Bc11 := Bc6.2 c11
        refine e_bipush dX8_fault_27 (by decide) ⟨by decide, by decide⟩ ?_
        exact e_iret dX8_fault_29 rfl (by rw [Bc11.1, Bc11.2.1, Bc11.2.2])
set_option maxRecDepth 100000 in
set_option maxHeartbeats 4000000 in
theorem v_X8_take_0 {Γ : GX} {g gf : AG} {I J : Nat → Nat → Int} {r : Option AV} (hg : GOk g) (hf : g.2.2.2 = gf.2.2.2) (x1 : Int)
    (V : ∃ (r3 : Int) (J1 : Nat → Nat → Int) (g4 : AG), CT Γ 62 mX8_fault [.inr (some 80), .inl x1] (g, I) (some (.inl r3), (g4, J1)) ∧ GOk g4 ∧ g4.2.2.2 = g.2.2.2 ∧ ((((r3 = (-1))) → (((¬ (x1 = 0)) → (((¬ (x1 = 1)) → (∃ (r10 : Int) (J8 : Nat → Nat → Int) (g11 : AG), CT Γ 61 mX8_read [.inr (some 80), .inr (some 102), .inr (some 81), .inl 0, .inl (J1 80 2), .inl x1] (g4, J1) (some (.inl r10), (g11, J8)) ∧ GOk g11 ∧ g11.2.2.2 = g4.2.2.2 ∧ (∀ I12 : Nat → Nat → Int, I12 = mset J8 80 2 0 → (((¬ (x1 = 0)) → (((¬ (x1 = 1)) → (r = some (.inl 1) ∧ J = I12 ∧ gf = g11)) ∧ (((x1 = 1)) → (Ev Γ 63 mX8_take 74 [some (.inr (some 80)), none, none, some (.inl 0)] [] (g11, I12) (r, (gf, J)))))) ∧ (((x1 = 0)) → (∀ I15 : Nat → Nat → Int, I15 = mset I12 80 10 0 → (((¬ (x1 = 1)) → (r = some (.inl 1) ∧ J = I15 ∧ gf = g11)) ∧ (((x1 = 1)) → (Ev Γ 63 mX8_take 74 [some (.inr (some 80)), none, none, some (.inl 0)] [] (g11, I15) (r, (gf, J))))))))))) ∧ (((x1 = 1)) → (∃ (r19 : Int) (J17 : Nat → Nat → Int) (g20 : AG), CT Γ 61 mX8_read [.inr (some 80), .inr (some 92), .inr (some 81), .inl 0, .inl (J1 80 2), .inl x1] (g4, J1) (some (.inl r19), (g20, J17)) ∧ GOk g20 ∧ g20.2.2.2 = g4.2.2.2 ∧ (∀ I21 : Nat → Nat → Int, I21 = mset J17 80 2 0 → (((¬ (x1 = 0)) → (((¬ (x1 = 1)) → (r = some (.inl 1) ∧ J = I21 ∧ gf = g20)) ∧ (((x1 = 1)) → (Ev Γ 63 mX8_take 74 [some (.inr (some 80)), none, none, some (.inl 0)] [] (g20, I21) (r, (gf, J)))))) ∧ (((x1 = 0)) → (∀ I24 : Nat → Nat → Int, I24 = mset I21 80 10 0 → (((¬ (x1 = 1)) → (r = some (.inl 1) ∧ J = I24 ∧ gf = g20)) ∧ (((x1 = 1)) → (Ev Γ 63 mX8_take 74 [some (.inr (some 80)), none, none, some (.inl 0)] [] (g20, I24) (r, (gf, J))))))))))))) ∧ (((x1 = 0)) → (∃ (r28 : Int) (J26 : Nat → Nat → Int) (g29 : AG), CT Γ 61 mX8_read [.inr (some 80), .inr (some 82), .inr (some 81), .inl 0, .inl (J1 80 2), .inl x1] (g4, J1) (some (.inl r28), (g29, J26)) ∧ GOk g29 ∧ g29.2.2.2 = g4.2.2.2 ∧ (∀ I30 : Nat → Nat → Int, I30 = mset J26 80 2 0 → (((¬ (x1 = 0)) → (((¬ (x1 = 1)) → (r = some (.inl 1) ∧ J = I30 ∧ gf = g29)) ∧ (((x1 = 1)) → (Ev Γ 63 mX8_take 74 [some (.inr (some 80)), none, none, some (.inl 0)] [] (g29, I30) (r, (gf, J)))))) ∧ (((x1 = 0)) → (∀ I33 : Nat → Nat → Int, I33 = mset I30 80 10 0 → (((¬ (x1 = 1)) → (r = some (.inl 1) ∧ J = I33 ∧ gf = g29)) ∧ (((x1 = 1)) → (Ev Γ 63 mX8_take 74 [some (.inr (some 80)), none, none, some (.inl 0)] [] (g29, I33) (r, (gf, J))))))))))))) ∧ ((¬ (r3 = (-1))) → (r = some (.inl 0) ∧ J = J1 ∧ gf = g4)))) : Ev Γ 63 mX8_take 0 [some (.inr (some 80)), some (.inl x1), none, none] [] (g, I) (r, (gf, J)) := by
  refine e_aload_n dX8_take_0 rfl ?_
  refine e_iload_n dX8_take_1 rfl ?_
  obtain ⟨r3, J1, g4, h2, kg4, cg4, Vh2⟩ := V
  refine e_callv (av := [.inl x1]) (st := []) dX8_take_2 cO_8_210 oX8_fault rfl (by decide) (gs_80 hg) rfl (Nat.le_of_ble_eq_true rfl) (by decide) h2 (Nat.le_of_eq (congrArg Prod.fst (cg4.trans hf))) (Nat.le_of_eq (congrArg Prod.snd (cg4.trans hf))) rfl rfl ?_
  refine e_iconst dX8_take_5 ⟨by decide, by decide⟩ ?_
  refine e_ic_eq (tgt := 11) dX8_take_6 (by decide) (fun c5 => ?_) (fun c5 => ?_)
  · have Ac5 := Vh2.1 c5
    refine e_aload_n dX8_take_11 rfl ?_
    refine e_iload_n dX8_take_12 rfl ?_
    refine e_if_ne (tgt := 23) dX8_take_13 (by decide) (fun c6 => ?_) (fun c6 => ?_)
    · have Ac6 := Ac5.1 c6
      refine e_iload_n dX8_take_23 rfl ?_
      refine e_iconst dX8_take_24 ⟨by decide, by decide⟩ ?_
      refine e_ic_ne (tgt := 35) dX8_take_25 (by decide) (fun c7 => ?_) (fun c7 => ?_)
      · have Ac7 := Ac6.1 c7
        refine e_aload_n dX8_take_35 rfl ?_
        refine e_getr dX8_take_36 fO_8_23 (by decide) (gs_80 kg4) rfl (gp_80_5 kg4) ?_
        refine e_aload_n dX8_take_39 rfl ?_
        refine e_getr dX8_take_40 fO_8_9 (by decide) (gs_80 kg4) rfl (gp_80_1 kg4) ?_
        refine e_iconst dX8_take_43 ⟨by decide, by decide⟩ ?_
        refine e_aload_n dX8_take_44 rfl ?_
        refine e_geti dX8_take_45 fO_8_95 (by decide) (gs_80 kg4) rfl ?_
        refine e_iload_n dX8_take_48 rfl ?_
        obtain ⟨r10, J8, g11, h9, kg11, cg11, Vh9⟩ := Ac7
        refine e_callv (av := [.inr (some 102), .inr (some 81), .inl 0, .inl (J1 80 2), .inl x1]) (st := []) dX8_take_49 cO_8_206 oX8_read rfl (by decide) (gs_80 kg4) rfl (Nat.le_of_ble_eq_true rfl) (by decide) h9 (Nat.le_of_eq (congrArg Prod.fst (cg11.trans (cg4.trans hf)))) (Nat.le_of_eq (congrArg Prod.snd (cg11.trans (cg4.trans hf)))) rfl rfl ?_
        refine e_istore_n dX8_take_52 (by decide) (ls' := [some (.inr (some 80)), some (.inl x1), some (.inl r10), none]) rfl ?_
        refine e_aload_n dX8_take_53 rfl ?_
        refine e_iconst dX8_take_54 ⟨by decide, by decide⟩ ?_
        refine e_puti dX8_take_55 fO_8_95 (by decide) (gs_80 kg11) rfl rfl ?_
        refine e_mem (fun I12 eI12 => ?_)
        have WI12 := Vh9 I12 eI12
        refine e_iload_n dX8_take_58 rfl ?_
        refine e_if_ne (tgt := 67) dX8_take_59 (by decide) (fun c13 => ?_) (fun c13 => ?_)
        · have Ac13 := WI12.1 c13
          refine e_iload_n dX8_take_67 rfl ?_
          refine e_iconst dX8_take_68 ⟨by decide, by decide⟩ ?_
          refine e_ic_ne (tgt := 96) dX8_take_69 (by decide) (fun c14 => ?_) (fun c14 => ?_)
          · have Ac14 := Ac13.1 c14
            refine e_iconst dX8_take_96 ⟨by decide, by decide⟩ ?_
            exact e_zret dX8_take_97 rfl (by decide) (by rw [Ac14.1, Ac14.2.1, Ac14.2.2])
          · have Bc14 := Ac13.2 c14
            refine e_iconst dX8_take_72 ⟨by decide, by decide⟩ ?_
            refine e_istore_n dX8_take_73 (by decide) (ls' := [some (.inr (some 80)), some (.inl x1), some (.inl r10), some (.inl 0)]) rfl ?_
            refine ev_drop (ls' := [some (.inr (some 80)), none, some (.inl r10), some (.inl 0)]) 1 rfl ?_
            refine ev_drop (ls' := [some (.inr (some 80)), none, none, some (.inl 0)]) 2 rfl ?_
            exact Bc14
        · have Bc13 := WI12.2 c13
          refine e_aload_n dX8_take_62 rfl ?_
          refine e_iconst dX8_take_63 ⟨by decide, by decide⟩ ?_
          refine e_puti dX8_take_64 fO_8_212 (by decide) (gs_80 kg11) rfl rfl ?_
          refine e_mem (fun I15 eI15 => ?_)
          have WI15 := Bc13 I15 eI15
          refine e_iload_n dX8_take_67 rfl ?_
          refine e_iconst dX8_take_68 ⟨by decide, by decide⟩ ?_
          refine e_ic_ne (tgt := 96) dX8_take_69 (by decide) (fun c16 => ?_) (fun c16 => ?_)
          · have Ac16 := WI15.1 c16
            refine e_iconst dX8_take_96 ⟨by decide, by decide⟩ ?_
            exact e_zret dX8_take_97 rfl (by decide) (by rw [Ac16.1, Ac16.2.1, Ac16.2.2])
          · have Bc16 := WI15.2 c16
            refine e_iconst dX8_take_72 ⟨by decide, by decide⟩ ?_
            refine e_istore_n dX8_take_73 (by decide) (ls' := [some (.inr (some 80)), some (.inl x1), some (.inl r10), some (.inl 0)]) rfl ?_
            refine ev_drop (ls' := [some (.inr (some 80)), none, some (.inl r10), some (.inl 0)]) 1 rfl ?_
            refine ev_drop (ls' := [some (.inr (some 80)), none, none, some (.inl 0)]) 2 rfl ?_
            exact Bc16
      · have Bc7 := Ac6.2 c7
        refine e_aload_n dX8_take_28 rfl ?_
        refine e_getr dX8_take_29 fO_8_20 (by decide) (gs_80 kg4) rfl (gp_80_4 kg4) ?_
        refine e_goto (tgt := 39) dX8_take_32 (by decide) ?_
        refine e_aload_n dX8_take_39 rfl ?_
        refine e_getr dX8_take_40 fO_8_9 (by decide) (gs_80 kg4) rfl (gp_80_1 kg4) ?_
        refine e_iconst dX8_take_43 ⟨by decide, by decide⟩ ?_
        refine e_aload_n dX8_take_44 rfl ?_
        refine e_geti dX8_take_45 fO_8_95 (by decide) (gs_80 kg4) rfl ?_
        refine e_iload_n dX8_take_48 rfl ?_
        obtain ⟨r19, J17, g20, h18, kg20, cg20, Vh18⟩ := Bc7
        refine e_callv (av := [.inr (some 92), .inr (some 81), .inl 0, .inl (J1 80 2), .inl x1]) (st := []) dX8_take_49 cO_8_206 oX8_read rfl (by decide) (gs_80 kg4) rfl (Nat.le_of_ble_eq_true rfl) (by decide) h18 (Nat.le_of_eq (congrArg Prod.fst (cg20.trans (cg4.trans hf)))) (Nat.le_of_eq (congrArg Prod.snd (cg20.trans (cg4.trans hf)))) rfl rfl ?_
        refine e_istore_n dX8_take_52 (by decide) (ls' := [some (.inr (some 80)), some (.inl x1), some (.inl r19), none]) rfl ?_
        refine e_aload_n dX8_take_53 rfl ?_
        refine e_iconst dX8_take_54 ⟨by decide, by decide⟩ ?_
        refine e_puti dX8_take_55 fO_8_95 (by decide) (gs_80 kg20) rfl rfl ?_
        refine e_mem (fun I21 eI21 => ?_)
        have WI21 := Vh18 I21 eI21
        refine e_iload_n dX8_take_58 rfl ?_
        refine e_if_ne (tgt := 67) dX8_take_59 (by decide) (fun c22 => ?_) (fun c22 => ?_)
        · have Ac22 := WI21.1 c22
          refine e_iload_n dX8_take_67 rfl ?_
          refine e_iconst dX8_take_68 ⟨by decide, by decide⟩ ?_
          refine e_ic_ne (tgt := 96) dX8_take_69 (by decide) (fun c23 => ?_) (fun c23 => ?_)
          · have Ac23 := Ac22.1 c23
            refine e_iconst dX8_take_96 ⟨by decide, by decide⟩ ?_
            exact e_zret dX8_take_97 rfl (by decide) (by rw [Ac23.1, Ac23.2.1, Ac23.2.2])
          · have Bc23 := Ac22.2 c23
            refine e_iconst dX8_take_72 ⟨by decide, by decide⟩ ?_
            refine e_istore_n dX8_take_73 (by decide) (ls' := [some (.inr (some 80)), some (.inl x1), some (.inl r19), some (.inl 0)]) rfl ?_
            refine ev_drop (ls' := [some (.inr (some 80)), none, some (.inl r19), some (.inl 0)]) 1 rfl ?_
            refine ev_drop (ls' := [some (.inr (some 80)), none, none, some (.inl 0)]) 2 rfl ?_
            exact Bc23
        · have Bc22 := WI21.2 c22
          refine e_aload_n dX8_take_62 rfl ?_
          refine e_iconst dX8_take_63 ⟨by decide, by decide⟩ ?_
          refine e_puti dX8_take_64 fO_8_212 (by decide) (gs_80 kg20) rfl rfl ?_
          refine e_mem (fun I24 eI24 => ?_)
          have WI24 := Bc22 I24 eI24
          refine e_iload_n dX8_take_67 rfl ?_
          refine e_iconst dX8_take_68 ⟨by decide, by decide⟩ ?_
          refine e_ic_ne (tgt := 96) dX8_take_69 (by decide) (fun c25 => ?_) (fun c25 => ?_)
          · have Ac25 := WI24.1 c25
            refine e_iconst dX8_take_96 ⟨by decide, by decide⟩ ?_
            exact e_zret dX8_take_97 rfl (by decide) (by rw [Ac25.1, Ac25.2.1, Ac25.2.2])
          · have Bc25 := WI24.2 c25
            refine e_iconst dX8_take_72 ⟨by decide, by decide⟩ ?_
            refine e_istore_n dX8_take_73 (by decide) (ls' := [some (.inr (some 80)), some (.inl x1), some (.inl r19), some (.inl 0)]) rfl ?_
            refine ev_drop (ls' := [some (.inr (some 80)), none, some (.inl r19), some (.inl 0)]) 1 rfl ?_
            refine ev_drop (ls' := [some (.inr (some 80)), none, none, some (.inl 0)]) 2 rfl ?_
            exact Bc25
    · have Bc6 := Ac5.2 c6
      refine e_aload_n dX8_take_16 rfl ?_
      refine e_getr dX8_take_17 fO_8_16 (by decide) (gs_80 kg4) rfl (gp_80_3 kg4) ?_
      refine e_goto (tgt := 39) dX8_take_20 (by decide) ?_
      refine e_aload_n dX8_take_39 rfl ?_
      refine e_getr dX8_take_40 fO_8_9 (by decide) (gs_80 kg4) rfl (gp_80_1 kg4) ?_
      refine e_iconst dX8_take_43 ⟨by decide, by decide⟩ ?_
      refine e_aload_n dX8_take_44 rfl ?_
      refine e_geti dX8_take_45 fO_8_95 (by decide) (gs_80 kg4) rfl ?_
      refine e_iload_n dX8_take_48 rfl ?_
      obtain ⟨r28, J26, g29, h27, kg29, cg29, Vh27⟩ := Bc6
      refine e_callv (av := [.inr (some 82), .inr (some 81), .inl 0, .inl (J1 80 2), .inl x1]) (st := []) dX8_take_49 cO_8_206 oX8_read rfl (by decide) (gs_80 kg4) rfl (Nat.le_of_ble_eq_true rfl) (by decide) h27 (Nat.le_of_eq (congrArg Prod.fst (cg29.trans (cg4.trans hf)))) (Nat.le_of_eq (congrArg Prod.snd (cg29.trans (cg4.trans hf)))) rfl rfl ?_
      refine e_istore_n dX8_take_52 (by decide) (ls' := [some (.inr (some 80)), some (.inl x1), some (.inl r28), none]) rfl ?_
      refine e_aload_n dX8_take_53 rfl ?_
      refine e_iconst dX8_take_54 ⟨by decide, by decide⟩ ?_
      refine e_puti dX8_take_55 fO_8_95 (by decide) (gs_80 kg29) rfl rfl ?_
      refine e_mem (fun I30 eI30 => ?_)
      have WI30 := Vh27 I30 eI30
      refine e_iload_n dX8_take_58 rfl ?_
      refine e_if_ne (tgt := 67) dX8_take_59 (by decide) (fun c31 => ?_) (fun c31 => ?_)
      · have Ac31 := WI30.1 c31
        refine e_iload_n dX8_take_67 rfl ?_
        refine e_iconst dX8_take_68 ⟨by decide, by decide⟩ ?_
        refine e_ic_ne (tgt := 96) dX8_take_69 (by decide) (fun c32 => ?_) (fun c32 => ?_)
        · have Ac32 := Ac31.1 c32
          refine e_iconst dX8_take_96 ⟨by decide, by decide⟩ ?_
          exact e_zret dX8_take_97 rfl (by decide) (by rw [Ac32.1, Ac32.2.1, Ac32.2.2])
        · have Bc32 := Ac31.2 c32
          refine e_iconst dX8_take_72 ⟨by decide, by decide⟩ ?_
          refine e_istore_n dX8_take_73 (by decide) (ls' := [some (.inr (some 80)), some (.inl x1), some (.inl r28), some (.inl 0)]) rfl ?_
          refine ev_drop (ls' := [some (.inr (some 80)), none, some (.inl r28), some (.inl 0)]) 1 rfl ?_
          refine ev_drop (ls' := [some (.inr (some 80)), none, none, some (.inl 0)]) 2 rfl ?_
          exact Bc32
      · have Bc31 := WI30.2 c31
        refine e_aload_n dX8_take_62 rfl ?_
        refine e_iconst dX8_take_63 ⟨by decide, by decide⟩ ?_
        refine e_puti dX8_take_64 fO_8_212 (by decide) (gs_80 kg29) rfl rfl ?_
        refine e_mem (fun I33 eI33 => ?_)
        have WI33 := Bc31 I33 eI33
        refine e_iload_n dX8_take_67 rfl ?_
        refine e_iconst dX8_take_68 ⟨by decide, by decide⟩ ?_
        refine e_ic_ne (tgt := 96) dX8_take_69 (by decide) (fun c34 => ?_) (fun c34 => ?_)
        · have Ac34 := WI33.1 c34
          refine e_iconst dX8_take_96 ⟨by decide, by decide⟩ ?_
          exact e_zret dX8_take_97 rfl (by decide) (by rw [Ac34.1, Ac34.2.1, Ac34.2.2])
        · have Bc34 := WI33.2 c34
          refine e_iconst dX8_take_72 ⟨by decide, by decide⟩ ?_
          refine e_istore_n dX8_take_73 (by decide) (ls' := [some (.inr (some 80)), some (.inl x1), some (.inl r28), some (.inl 0)]) rfl ?_
          refine ev_drop (ls' := [some (.inr (some 80)), none, some (.inl r28), some (.inl 0)]) 1 rfl ?_
          refine ev_drop (ls' := [some (.inr (some 80)), none, none, some (.inl 0)]) 2 rfl ?_
          exact Bc34
  · have Bc5 := Vh2.2 c5
    refine e_iconst dX8_take_9 ⟨by decide, by decide⟩ ?_
    exact e_zret dX8_take_10 rfl (by decide) (by rw [Bc5.1, Bc5.2.1, Bc5.2.2])
