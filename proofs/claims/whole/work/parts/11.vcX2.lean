set_option maxRecDepth 100000 in
set_option maxHeartbeats 4000000 in
theorem v_X2_write_0 {Γ : GX} {g : AG} {I J : Nat → Nat → Int} {r : Option AV} (hg : GOc g) (u : Nat) (hu : Tr u)
    (V : ((0 : Int) ≤ (I 66 2) ∧ ((I 66 2) : Int) < 11) ∧ (((0 : Int) ≤ 0 ∧ (0 : Int) ≤ 0 ∧ (0 : Int) ≤ (I u 1) ∧ (0 + (I u 1) : Int) ≤ 240 ∧ (0 + (I u 1) : Int) ≤ 240) ∧ (∀ I2 : Nat → Nat → Int, I2 = cpy I (u + 1) 0 (68 + (I 66 2).toNat) 0 (I u 1).toNat → (((0 : Int) ≤ (I2 66 2) ∧ ((I2 66 2) : Int) < 11) ∧ (∀ I4 : Nat → Nat → Int, I4 = mset I2 79 (I2 66 2).toNat (I2 u 1) → (r = none ∧ J = I4)))))) : Ev Γ 1 mX2_write 0 [some (.inr (some 66)), some (.inr (some u))] [] (g, I) (r, (g, J)) := by
  refine e_aload_n dX2_write_0 rfl ?_
  refine e_getr dX2_write_1 fO_2_20 (tr_pos hu) (tr_s0 hg hu) rfl (tr_p1 hg hu) ?_
  refine e_iconst dX2_write_4 ⟨by decide, by decide⟩ ?_
  refine e_aload_n dX2_write_5 rfl ?_
  refine e_getr dX2_write_6 fO_2_13 (by decide) (gs_66 hg) rfl (gp_66_0 hg) ?_
  refine e_aload_n dX2_write_9 rfl ?_
  refine e_geti dX2_write_10 fO_2_25 (by decide) (gs_66 hg) rfl ?_
  obtain ⟨h1, Vh1⟩ := V
  refine e_aald dX2_write_13 (by decide) (gs_67 hg) h1.1 h1.2 (gp_row hg h1.1 h1.2) ?_
  refine e_iconst dX2_write_14 ⟨by decide, by decide⟩ ?_
  refine e_aload_n dX2_write_15 rfl ?_
  refine e_geti dX2_write_16 fO_2_29 (tr_pos hu) (tr_s0 hg hu) rfl ?_
  obtain ⟨h3, Vh3⟩ := Vh1
  refine e_copy dX2_write_19 cCopy_2_32 (Nat.succ_pos _) (tr_s1 hg hu) (Nat.add_pos_left (by decide) _) (gs_row hg (x := (I 66 2)) h1.1 h1.2) h3 (Nat.le_of_ble_eq_true rfl) (by decide) ?_
  refine e_mem (fun I2 eI2 => ?_)
  have WI2 := Vh3 I2 eI2
  refine e_aload_n dX2_write_22 rfl ?_
  refine e_getr dX2_write_23 fO_2_16 (by decide) (gs_66 hg) rfl (gp_66_1 hg) ?_
  refine e_aload_n dX2_write_26 rfl ?_
  refine e_geti dX2_write_27 fO_2_25 (by decide) (gs_66 hg) rfl ?_
  refine e_aload_n dX2_write_30 rfl ?_
  refine e_geti dX2_write_31 fO_2_29 (tr_pos hu) (tr_s0 hg hu) rfl ?_
  obtain ⟨h5, Vh5⟩ := WI2
  refine e_iast dX2_write_34 (by decide) (gs_79 hg) h5.1 h5.2 ?_
  refine e_mem (fun I4 eI4 => ?_)
  have WI4 := Vh5 I4 eI4
  exact e_vret dX2_write_35 rfl (by rw [WI4.1, WI4.2])
set_option maxRecDepth 100000 in
set_option maxHeartbeats 4000000 in
theorem v_X2_keepWritten_0 {Γ : GX} {g : AG} {I J : Nat → Nat → Int} {r : Option AV} (hg : GOc g) 
    (V : inR ((I 66 2) + 1) ∧ ((((11 ≤ ((I 66 2) + 1))) → (∀ I3 : Nat → Nat → Int, I3 = mset I 66 2 0 → (inR ((I3 66 3) + 1) ∧ (∀ I5 : Nat → Nat → Int, I5 = mset I3 66 3 (min ((I3 66 3) + 1) 10) → (r = none ∧ J = I5))))) ∧ ((¬ (11 ≤ ((I 66 2) + 1))) → (inR ((I 66 2) + 1) ∧ (∀ I7 : Nat → Nat → Int, I7 = mset I 66 2 ((I 66 2) + 1) → (inR ((I7 66 3) + 1) ∧ (∀ I9 : Nat → Nat → Int, I9 = mset I7 66 3 (min ((I7 66 3) + 1) 10) → (r = none ∧ J = I9)))))))) : Ev Γ 1 mX2_keepWritten 0 [some (.inr (some 66))] [] (g, I) (r, (g, J)) := by
  refine e_aload_n dX2_keepWritten_0 rfl ?_
  refine e_aload_n dX2_keepWritten_1 rfl ?_
  refine e_geti dX2_keepWritten_2 fO_2_25 (by decide) (gs_66 hg) rfl ?_
  refine e_iconst dX2_keepWritten_5 ⟨by decide, by decide⟩ ?_
  obtain ⟨h1, Vh1⟩ := V
  refine e_iadd dX2_keepWritten_6 h1 ?_
  refine e_bipush dX2_keepWritten_7 (by decide) ⟨by decide, by decide⟩ ?_
  refine e_ic_ge (tgt := 21) dX2_keepWritten_9 (by decide) (fun c2 => ?_) (fun c2 => ?_)
  · have Ac2 := Vh1.1 c2
    refine e_iconst dX2_keepWritten_21 ⟨by decide, by decide⟩ ?_
    refine e_puti dX2_keepWritten_22 fO_2_25 (by decide) (gs_66 hg) rfl rfl ?_
    refine e_mem (fun I3 eI3 => ?_)
    have WI3 := Ac2 I3 eI3
    refine e_aload_n dX2_keepWritten_25 rfl ?_
    refine e_aload_n dX2_keepWritten_26 rfl ?_
    refine e_geti dX2_keepWritten_27 fO_2_38 (by decide) (gs_66 hg) rfl ?_
    refine e_iconst dX2_keepWritten_30 ⟨by decide, by decide⟩ ?_
    obtain ⟨h4, Vh4⟩ := WI3
    refine e_iadd dX2_keepWritten_31 h4 ?_
    refine e_bipush dX2_keepWritten_32 (by decide) ⟨by decide, by decide⟩ ?_
    refine e_min dX2_keepWritten_34 cMin_2_41 (Nat.le_of_ble_eq_true rfl) (by decide) (Nat.le_refl _) (Nat.le_refl _) ?_
    refine e_puti dX2_keepWritten_37 fO_2_38 (by decide) (gs_66 hg) rfl rfl ?_
    refine e_mem (fun I5 eI5 => ?_)
    have WI5 := Vh4 I5 eI5
    exact e_vret dX2_keepWritten_40 rfl (by rw [WI5.1, WI5.2])
  · have Bc2 := Vh1.2 c2
    refine e_aload_n dX2_keepWritten_12 rfl ?_
    refine e_geti dX2_keepWritten_13 fO_2_25 (by decide) (gs_66 hg) rfl ?_
    refine e_iconst dX2_keepWritten_16 ⟨by decide, by decide⟩ ?_
    obtain ⟨h6, Vh6⟩ := Bc2
    refine e_iadd dX2_keepWritten_17 h6 ?_
    refine e_goto (tgt := 22) dX2_keepWritten_18 (by decide) ?_
    refine e_puti dX2_keepWritten_22 fO_2_25 (by decide) (gs_66 hg) rfl rfl ?_
    refine e_mem (fun I7 eI7 => ?_)
    have WI7 := Vh6 I7 eI7
    refine e_aload_n dX2_keepWritten_25 rfl ?_
    refine e_aload_n dX2_keepWritten_26 rfl ?_
    refine e_geti dX2_keepWritten_27 fO_2_38 (by decide) (gs_66 hg) rfl ?_
    refine e_iconst dX2_keepWritten_30 ⟨by decide, by decide⟩ ?_
    obtain ⟨h8, Vh8⟩ := WI7
    refine e_iadd dX2_keepWritten_31 h8 ?_
    refine e_bipush dX2_keepWritten_32 (by decide) ⟨by decide, by decide⟩ ?_
    refine e_min dX2_keepWritten_34 cMin_2_41 (Nat.le_of_ble_eq_true rfl) (by decide) (Nat.le_refl _) (Nat.le_refl _) ?_
    refine e_puti dX2_keepWritten_37 fO_2_38 (by decide) (gs_66 hg) rfl rfl ?_
    refine e_mem (fun I9 eI9 => ?_)
    have WI9 := Vh8 I9 eI9
    exact e_vret dX2_keepWritten_40 rfl (by rw [WI9.1, WI9.2])
set_option maxRecDepth 100000 in
set_option maxHeartbeats 4000000 in
theorem v_X2_readWritten_0 {Γ : GX} {g : AG} {I J : Nat → Nat → Int} {r : Option AV} (hg : GOc g) (u : Nat) (hu : Tr u)
    (V : ((0 : Int) ≤ (I 66 2) ∧ ((I 66 2) : Int) < 11) ∧ (((0 : Int) ≤ (I 66 2) ∧ ((I 66 2) : Int) < 11) ∧ (∃ (J3 : Nat → Nat → Int), CT Γ 2 mX5_load [.inr (some u), .inr (some (68 + (I 66 2).toNat)), .inl (I 79 (I 66 2).toNat)] (g, I) (none, (g, J3)) ∧ (r = none ∧ J = J3)))) : Ev Γ 3 mX2_readWritten 0 [some (.inr (some 66)), some (.inr (some u))] [] (g, I) (r, (g, J)) := by
  refine e_aload_n dX2_readWritten_0 rfl ?_
  refine e_aload_n dX2_readWritten_1 rfl ?_
  refine e_getr dX2_readWritten_2 fO_2_13 (by decide) (gs_66 hg) rfl (gp_66_0 hg) ?_
  refine e_aload_n dX2_readWritten_5 rfl ?_
  refine e_geti dX2_readWritten_6 fO_2_25 (by decide) (gs_66 hg) rfl ?_
  obtain ⟨h1, Vh1⟩ := V
  refine e_aald dX2_readWritten_9 (by decide) (gs_67 hg) h1.1 h1.2 (gp_row hg h1.1 h1.2) ?_
  refine e_aload_n dX2_readWritten_10 rfl ?_
  refine e_getr dX2_readWritten_11 fO_2_16 (by decide) (gs_66 hg) rfl (gp_66_1 hg) ?_
  refine e_aload_n dX2_readWritten_14 rfl ?_
  refine e_geti dX2_readWritten_15 fO_2_25 (by decide) (gs_66 hg) rfl ?_
  obtain ⟨h2, Vh2⟩ := Vh1
  refine e_iald dX2_readWritten_18 (by decide) (gs_79 hg) h2.1 h2.2 ?_
  obtain ⟨J3, h4, Vh4⟩ := Vh2
  refine e_callv (av := [.inr (some (68 + (I 66 2).toNat)), .inl (I 79 (I 66 2).toNat)]) (st := []) dX2_readWritten_19 cO_2_47 oX5_load rfl (tr_pos hu) (tr_s0 hg hu) rfl (Nat.le_of_ble_eq_true rfl) (by decide) h4 (Nat.le_refl _) (Nat.le_refl _) rfl rfl ?_
  exact e_vret dX2_readWritten_22 rfl (by rw [Vh4.1, Vh4.2])
set_option maxRecDepth 100000 in
set_option maxHeartbeats 4000000 in
theorem v_X2_stepBack_0 {Γ : GX} {g : AG} {I J : Nat → Nat → Int} {r : Option AV} (hg : GOc g) 
    (V : ((¬ ((I 66 3) = 0)) → (inR ((I 66 3) - 1) ∧ (∀ I3 : Nat → Nat → Int, I3 = mset I 66 3 ((I 66 3) - 1) → (((((I3 66 2) ≤ 0)) → (∀ I5 : Nat → Nat → Int, I5 = mset I3 66 2 10 → (r = some (.inl 1) ∧ J = I5))) ∧ ((¬ ((I3 66 2) ≤ 0)) → (inR ((I3 66 2) - 1) ∧ (∀ I7 : Nat → Nat → Int, I7 = mset I3 66 2 ((I3 66 2) - 1) → (r = some (.inl 1) ∧ J = I7)))))))) ∧ ((((I 66 3) = 0)) → (r = some (.inl 0) ∧ J = I))) : Ev Γ 0 mX2_stepBack 0 [some (.inr (some 66))] [] (g, I) (r, (g, J)) := by
  refine e_aload_n dX2_stepBack_0 rfl ?_
  refine e_geti dX2_stepBack_1 fO_2_38 (by decide) (gs_66 hg) rfl ?_
  refine e_if_ne (tgt := 9) dX2_stepBack_4 (by decide) (fun c1 => ?_) (fun c1 => ?_)
  · have Ac1 := V.1 c1
    refine e_aload_n dX2_stepBack_9 rfl ?_
    refine e_dup dX2_stepBack_10 ?_
    refine e_geti dX2_stepBack_11 fO_2_38 (by decide) (gs_66 hg) rfl ?_
    refine e_iconst dX2_stepBack_14 ⟨by decide, by decide⟩ ?_
    obtain ⟨h2, Vh2⟩ := Ac1
    refine e_isub dX2_stepBack_15 h2 ?_
    refine e_puti dX2_stepBack_16 fO_2_38 (by decide) (gs_66 hg) rfl rfl ?_
    refine e_mem (fun I3 eI3 => ?_)
    have WI3 := Vh2 I3 eI3
    refine e_aload_n dX2_stepBack_19 rfl ?_
    refine e_aload_n dX2_stepBack_20 rfl ?_
    refine e_geti dX2_stepBack_21 fO_2_25 (by decide) (gs_66 hg) rfl ?_
    refine e_if_le (tgt := 36) dX2_stepBack_24 (by decide) (fun c4 => ?_) (fun c4 => ?_)
    · have Ac4 := WI3.1 c4
      refine e_bipush dX2_stepBack_36 (by decide) ⟨by decide, by decide⟩ ?_
      refine e_puti dX2_stepBack_38 fO_2_25 (by decide) (gs_66 hg) rfl rfl ?_
      refine e_mem (fun I5 eI5 => ?_)
      have WI5 := Ac4 I5 eI5
      refine e_iconst dX2_stepBack_41 ⟨by decide, by decide⟩ ?_
      exact e_zret dX2_stepBack_42 rfl (by decide) (by rw [WI5.1, WI5.2])
    · have Bc4 := WI3.2 c4
      refine e_aload_n dX2_stepBack_27 rfl ?_
      refine e_geti dX2_stepBack_28 fO_2_25 (by decide) (gs_66 hg) rfl ?_
      refine e_iconst dX2_stepBack_31 ⟨by decide, by decide⟩ ?_
      obtain ⟨h6, Vh6⟩ := Bc4
      refine e_isub dX2_stepBack_32 h6 ?_
      refine e_goto (tgt := 38) dX2_stepBack_33 (by decide) ?_
      refine e_puti dX2_stepBack_38 fO_2_25 (by decide) (gs_66 hg) rfl rfl ?_
      refine e_mem (fun I7 eI7 => ?_)
      have WI7 := Vh6 I7 eI7
      refine e_iconst dX2_stepBack_41 ⟨by decide, by decide⟩ ?_
      exact e_zret dX2_stepBack_42 rfl (by decide) (by rw [WI7.1, WI7.2])
  · have Bc1 := V.2 c1
    refine e_iconst dX2_stepBack_7 ⟨by decide, by decide⟩ ?_
    exact e_zret dX2_stepBack_8 rfl (by decide) (by rw [Bc1.1, Bc1.2])
set_option maxRecDepth 100000 in
set_option maxHeartbeats 4000000 in
theorem v_X2_forget_0 {Γ : GX} {g : AG} {I J : Nat → Nat → Int} {r : Option AV} (hg : GOc g) 
    (V : ∀ I1 : Nat → Nat → Int, I1 = mset I 66 3 0 → (r = none ∧ J = I1)) : Ev Γ 0 mX2_forget 0 [some (.inr (some 66))] [] (g, I) (r, (g, J)) := by
  refine e_aload_n dX2_forget_0 rfl ?_
  refine e_iconst dX2_forget_1 ⟨by decide, by decide⟩ ?_
  refine e_puti dX2_forget_2 fO_2_38 (by decide) (gs_66 hg) rfl rfl ?_
  refine e_mem (fun I1 eI1 => ?_)
  have WI1 := V I1 eI1
  exact e_vret dX2_forget_5 rfl (by rw [WI1.1, WI1.2])
