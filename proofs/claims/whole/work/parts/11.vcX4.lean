set_option maxRecDepth 100000 in
set_option maxHeartbeats 4000000 in
theorem v_X4_readTree_0 {Γ : GX} {g : AG} {I J : Nat → Nat → Int} {r : Option AV} (hg : GOc g) (u : Nat) (hu : Tr u) (x2 : Int)
    (V : ∃ (J1 : Nat → Nat → Int), CT Γ 0 mX4_start [.inr (some 51), .inr (some u), .inl x2] (g, I) (none, (g, J1)) ∧ (Ev Γ 4 mX4_readTree 8 [some (.inr (some 51)), some (.inr (some u)), none, some (.inl 0)] [] (g, J1) (r, (g, J)))) : Ev Γ 4 mX4_readTree 0 [some (.inr (some 51)), some (.inr (some u)), some (.inl x2), none] [] (g, I) (r, (g, J)) := by
  refine e_aload_n dX4_readTree_0 rfl ?_
  refine e_aload_n dX4_readTree_1 rfl ?_
  refine e_iload_n dX4_readTree_2 rfl ?_
  obtain ⟨J1, h2, Vh2⟩ := V
  refine e_callv (av := [.inr (some u), .inl x2]) (st := []) dX4_readTree_3 cO_4_9 oX4_start rfl (by decide) (gs_51 hg) rfl (Nat.le_of_ble_eq_true rfl) (by decide) h2 (Nat.le_refl _) (Nat.le_refl _) rfl rfl ?_
  refine e_iconst dX4_readTree_6 ⟨by decide, by decide⟩ ?_
  refine e_istore_n dX4_readTree_7 (by decide) (ls' := [some (.inr (some 51)), some (.inr (some u)), some (.inl x2), some (.inl 0)]) rfl ?_
  refine ev_drop (ls' := [some (.inr (some 51)), some (.inr (some u)), none, some (.inl 0)]) 2 rfl ?_
  exact Vh2
set_option maxRecDepth 100000 in
set_option maxHeartbeats 4000000 in
theorem v_X4_readTree_8 {Γ : GX} {g : AG} {I J : Nat → Nat → Int} {r : Option AV} (hg : GOc g) (u : Nat) (hu : Tr u) (x3 : Int)
    (V : ((((I u 1) < x3)) → (r = some (.inl (I 51 1)) ∧ J = I)) ∧ ((¬ ((I u 1) < x3)) → (∃ (J2 : Nat → Nat → Int), CT Γ 1 mX4_skipBlanks [.inr (some 51), .inr (some u)] (g, I) (none, (g, J2)) ∧ (((((J2 51 1) < (J2 u 1))) → (((0 : Int) ≤ (J2 51 1) ∧ ((J2 51 1) : Int) < 240) ∧ (∃ (r9 : Int) (J7 : Nat → Nat → Int), CT Γ 3 mX4_readToken [.inr (some 51), .inr (some u), .inl (J2 (u + 1) (J2 51 1).toNat)] (g, J2) (some (.inl r9), (g, J7)) ∧ (((¬ (r9 = 0)) → (inR (x3 + 1) ∧ (Ev Γ 4 mX4_readTree 8 [some (.inr (some 51)), some (.inr (some u)), none, some (.inl (x3 + 1))] [] (g, J7) (r, (g, J))))) ∧ (((r9 = 0)) → (r = some (.inl (J7 51 1)) ∧ J = J7)))))) ∧ ((¬ ((J2 51 1) < (J2 u 1))) → (((¬ ((J2 51 3) = (-1))) → (r = some (.inl (J2 u 1)) ∧ J = J2)) ∧ ((((J2 51 3) = (-1))) → (((((J2 51 2) < 3)) → (r = some (.inl (J2 u 1)) ∧ J = J2)) ∧ ((¬ ((J2 51 2) < 3)) → (r = some (.inl (-1)) ∧ J = J2)))))))))) : Ev Γ 4 mX4_readTree 8 [some (.inr (some 51)), some (.inr (some u)), none, some (.inl x3)] [] (g, I) (r, (g, J)) := by
  refine e_iload_n dX4_readTree_8 rfl ?_
  refine e_aload_n dX4_readTree_9 rfl ?_
  refine e_geti dX4_readTree_10 fO_4_15 (tr_pos hu) (tr_s0 hg hu) rfl ?_
  refine e_ic_gt (tgt := 85) dX4_readTree_13 (by decide) (fun c1 => ?_) (fun c1 => ?_)
  · have Ac1 := V.1 c1
    refine e_aload_n dX4_readTree_85 rfl ?_
    refine e_geti dX4_readTree_86 fO_4_25 (by decide) (gs_51 hg) rfl ?_
    exact e_iret dX4_readTree_89 rfl (by rw [Ac1.1, Ac1.2])
  · have Bc1 := V.2 c1
    refine e_aload_n dX4_readTree_16 rfl ?_
    refine e_aload_n dX4_readTree_17 rfl ?_
    obtain ⟨J2, h3, Vh3⟩ := Bc1
    refine e_callv (av := [.inr (some u)]) (st := []) dX4_readTree_18 cO_4_21 oX4_skipBlanks rfl (by decide) (gs_51 hg) rfl (Nat.le_of_ble_eq_true rfl) (by decide) h3 (Nat.le_refl _) (Nat.le_refl _) rfl rfl ?_
    refine e_aload_n dX4_readTree_21 rfl ?_
    refine e_geti dX4_readTree_22 fO_4_25 (by decide) (gs_51 hg) rfl ?_
    refine e_aload_n dX4_readTree_25 rfl ?_
    refine e_geti dX4_readTree_26 fO_4_15 (tr_pos hu) (tr_s0 hg hu) rfl ?_
    refine e_ic_lt (tgt := 57) dX4_readTree_29 (by decide) (fun c5 => ?_) (fun c5 => ?_)
    · have Ac5 := Vh3.1 c5
      refine e_aload_n dX4_readTree_57 rfl ?_
      refine e_aload_n dX4_readTree_58 rfl ?_
      refine e_aload_n dX4_readTree_59 rfl ?_
      refine e_getr dX4_readTree_60 fO_4_34 (tr_pos hu) (tr_s0 hg hu) rfl (tr_p1 hg hu) ?_
      refine e_aload_n dX4_readTree_63 rfl ?_
      refine e_geti dX4_readTree_64 fO_4_25 (by decide) (gs_51 hg) rfl ?_
      obtain ⟨h6, Vh6⟩ := Ac5
      refine e_iald dX4_readTree_67 (Nat.succ_pos _) (tr_s1 hg hu) h6.1 h6.2 ?_
      obtain ⟨r9, J7, h8, Vh8⟩ := Vh6
      refine e_callv (av := [.inr (some u), .inl (J2 (u + 1) (J2 51 1).toNat)]) (st := []) dX4_readTree_68 cO_4_38 oX4_readToken rfl (by decide) (gs_51 hg) rfl (Nat.le_of_ble_eq_true rfl) (by decide) h8 (Nat.le_refl _) (Nat.le_refl _) rfl rfl ?_
      refine e_if_ne (tgt := 79) dX4_readTree_71 (by decide) (fun c10 => ?_) (fun c10 => ?_)
      · have Ac10 := Vh8.1 c10
        obtain ⟨h11, Vh11⟩ := Ac10
        refine e_iinc dX4_readTree_79 (by decide) rfl h11 (ls' := [some (.inr (some 51)), some (.inr (some u)), none, some (.inl (x3 + 1))]) rfl ?_
        refine e_goto (tgt := 8) dX4_readTree_82 (by decide) ?_
        exact Vh11
      · have Bc10 := Vh8.2 c10
        refine e_aload_n dX4_readTree_74 rfl ?_
        refine e_geti dX4_readTree_75 fO_4_25 (by decide) (gs_51 hg) rfl ?_
        exact e_iret dX4_readTree_78 rfl (by rw [Bc10.1, Bc10.2])
    · have Bc5 := Vh3.2 c5
      refine e_aload_n dX4_readTree_32 rfl ?_
      refine e_geti dX4_readTree_33 fO_4_28 (by decide) (gs_51 hg) rfl ?_
      refine e_iconst dX4_readTree_36 ⟨by decide, by decide⟩ ?_
      refine e_ic_ne (tgt := 52) dX4_readTree_37 (by decide) (fun c12 => ?_) (fun c12 => ?_)
      · have Ac12 := Bc5.1 c12
        refine e_aload_n dX4_readTree_52 rfl ?_
        refine e_geti dX4_readTree_53 fO_4_15 (tr_pos hu) (tr_s0 hg hu) rfl ?_
        exact e_iret dX4_readTree_56 rfl (by rw [Ac12.1, Ac12.2])
      · have Bc12 := Bc5.2 c12
        refine e_aload_n dX4_readTree_40 rfl ?_
        refine e_geti dX4_readTree_41 fO_4_31 (by decide) (gs_51 hg) rfl ?_
        refine e_iconst dX4_readTree_44 ⟨by decide, by decide⟩ ?_
        refine e_ic_lt (tgt := 52) dX4_readTree_45 (by decide) (fun c13 => ?_) (fun c13 => ?_)
        · have Ac13 := Bc12.1 c13
          refine e_aload_n dX4_readTree_52 rfl ?_
          refine e_geti dX4_readTree_53 fO_4_15 (tr_pos hu) (tr_s0 hg hu) rfl ?_
          exact e_iret dX4_readTree_56 rfl (by rw [Ac13.1, Ac13.2])
        · have Bc13 := Bc12.2 c13
          refine e_iconst dX4_readTree_48 ⟨by decide, by decide⟩ ?_
          refine e_goto (tgt := 56) dX4_readTree_49 (by decide) ?_
          exact e_iret dX4_readTree_56 rfl (by rw [Bc13.1, Bc13.2])
set_option maxRecDepth 100000 in
set_option maxHeartbeats 4000000 in
theorem v_X4_start_0 {Γ : GX} {g : AG} {I J : Nat → Nat → Int} {r : Option AV} (hg : GOc g) (u : Nat) (hu : Tr u) (x2 : Int)
    (V : ∀ I1 : Nat → Nat → Int, I1 = mset I 51 0 x2 → (∀ I2 : Nat → Nat → Int, I2 = mset I1 51 1 0 → (∀ I3 : Nat → Nat → Int, I3 = mset I2 51 2 0 → (∀ I4 : Nat → Nat → Int, I4 = mset I3 51 3 (-1) → (∀ I5 : Nat → Nat → Int, I5 = mset I4 51 4 0 → (∀ I6 : Nat → Nat → Int, I6 = mset I5 51 5 0 → (∀ I7 : Nat → Nat → Int, I7 = mset I6 51 6 (-1) → (∀ I8 : Nat → Nat → Int, I8 = mset I7 51 7 0 → (∀ I9 : Nat → Nat → Int, I9 = mset I8 u 2 0 → (Ev Γ 0 mX4_start 47 [none, some (.inr (some u)), none, some (.inl 0)] [] (g, I9) (r, (g, J)))))))))))) : Ev Γ 0 mX4_start 0 [some (.inr (some 51)), some (.inr (some u)), some (.inl x2), none] [] (g, I) (r, (g, J)) := by
  refine e_aload_n dX4_start_0 rfl ?_
  refine e_iload_n dX4_start_1 rfl ?_
  refine e_puti dX4_start_2 fO_4_42 (by decide) (gs_51 hg) rfl rfl ?_
  refine e_mem (fun I1 eI1 => ?_)
  have WI1 := V I1 eI1
  refine e_aload_n dX4_start_5 rfl ?_
  refine e_iconst dX4_start_6 ⟨by decide, by decide⟩ ?_
  refine e_puti dX4_start_7 fO_4_25 (by decide) (gs_51 hg) rfl rfl ?_
  refine e_mem (fun I2 eI2 => ?_)
  have WI2 := WI1 I2 eI2
  refine e_aload_n dX4_start_10 rfl ?_
  refine e_iconst dX4_start_11 ⟨by decide, by decide⟩ ?_
  refine e_puti dX4_start_12 fO_4_31 (by decide) (gs_51 hg) rfl rfl ?_
  refine e_mem (fun I3 eI3 => ?_)
  have WI3 := WI2 I3 eI3
  refine e_aload_n dX4_start_15 rfl ?_
  refine e_iconst dX4_start_16 ⟨by decide, by decide⟩ ?_
  refine e_puti dX4_start_17 fO_4_28 (by decide) (gs_51 hg) rfl rfl ?_
  refine e_mem (fun I4 eI4 => ?_)
  have WI4 := WI3 I4 eI4
  refine e_aload_n dX4_start_20 rfl ?_
  refine e_iconst dX4_start_21 ⟨by decide, by decide⟩ ?_
  refine e_puti dX4_start_22 fO_4_45 (by decide) (gs_51 hg) rfl rfl ?_
  refine e_mem (fun I5 eI5 => ?_)
  have WI5 := WI4 I5 eI5
  refine e_aload_n dX4_start_25 rfl ?_
  refine e_iconst dX4_start_26 ⟨by decide, by decide⟩ ?_
  refine e_puti dX4_start_27 fO_4_48 (by decide) (gs_51 hg) rfl rfl ?_
  refine e_mem (fun I6 eI6 => ?_)
  have WI6 := WI5 I6 eI6
  refine e_aload_n dX4_start_30 rfl ?_
  refine e_iconst dX4_start_31 ⟨by decide, by decide⟩ ?_
  refine e_puti dX4_start_32 fO_4_51 (by decide) (gs_51 hg) rfl rfl ?_
  refine e_mem (fun I7 eI7 => ?_)
  have WI7 := WI6 I7 eI7
  refine e_aload_n dX4_start_35 rfl ?_
  refine e_iconst dX4_start_36 ⟨by decide, by decide⟩ ?_
  refine e_putz dX4_start_37 fO_4_54 (by decide) (gs_51 hg) rfl rfl (by decide) ?_
  refine e_mem (fun I8 eI8 => ?_)
  have WI8 := WI7 I8 eI8
  refine e_aload_n dX4_start_40 rfl ?_
  refine e_iconst dX4_start_41 ⟨by decide, by decide⟩ ?_
  refine e_puti dX4_start_42 fO_4_58 (tr_pos hu) (tr_s0 hg hu) rfl rfl ?_
  refine e_mem (fun I9 eI9 => ?_)
  have WI9 := WI8 I9 eI9
  refine e_iconst dX4_start_45 ⟨by decide, by decide⟩ ?_
  refine e_istore_n dX4_start_46 (by decide) (ls' := [some (.inr (some 51)), some (.inr (some u)), some (.inl x2), some (.inl 0)]) rfl ?_
  refine ev_drop (ls' := [none, some (.inr (some u)), some (.inl x2), some (.inl 0)]) 0 rfl ?_
  refine ev_drop (ls' := [none, some (.inr (some u)), none, some (.inl 0)]) 2 rfl ?_
  exact WI9
set_option maxRecDepth 100000 in
set_option maxHeartbeats 4000000 in
theorem v_X4_start_47 {Γ : GX} {g : AG} {I J : Nat → Nat → Int} {r : Option AV} (hg : GOc g) (u : Nat) (hu : Tr u) (x3 : Int)
    (V : (((26 ≤ x3)) → (r = none ∧ J = I)) ∧ ((¬ (26 ≤ x3)) → (((0 : Int) ≤ x3 ∧ (x3 : Int) < 26) ∧ (∀ I2 : Nat → Nat → Int, I2 = mset I (u + 10) x3.toNat (-1) → (inR (x3 + 1) ∧ (Ev Γ 0 mX4_start 47 [none, some (.inr (some u)), none, some (.inl (x3 + 1))] [] (g, I2) (r, (g, J)))))))) : Ev Γ 0 mX4_start 47 [none, some (.inr (some u)), none, some (.inl x3)] [] (g, I) (r, (g, J)) := by
  refine e_iload_n dX4_start_47 rfl ?_
  refine e_bipush dX4_start_48 (by decide) ⟨by decide, by decide⟩ ?_
  refine e_ic_ge (tgt := 66) dX4_start_50 (by decide) (fun c1 => ?_) (fun c1 => ?_)
  · have Ac1 := V.1 c1
    exact e_vret dX4_start_66 rfl (by rw [Ac1.1, Ac1.2])
  · have Bc1 := V.2 c1
    refine e_aload_n dX4_start_53 rfl ?_
    refine e_getr dX4_start_54 fO_4_61 (tr_pos hu) (tr_s0 hg hu) rfl (tr_p10 hg hu) ?_
    refine e_iload_n dX4_start_57 rfl ?_
    refine e_iconst dX4_start_58 ⟨by decide, by decide⟩ ?_
    obtain ⟨h3, Vh3⟩ := Bc1
    refine e_iast dX4_start_59 (Nat.succ_pos _) (tr_s10 hg hu) h3.1 h3.2 ?_
    refine e_mem (fun I2 eI2 => ?_)
    have WI2 := Vh3 I2 eI2
    obtain ⟨h4, Vh4⟩ := WI2
    refine e_iinc dX4_start_60 (by decide) rfl h4 (ls' := [none, some (.inr (some u)), none, some (.inl (x3 + 1))]) rfl ?_
    refine e_goto (tgt := 47) dX4_start_63 (by decide) ?_
    exact Vh4
set_option maxRecDepth 100000 in
set_option maxHeartbeats 4000000 in
theorem v_X4_skipBlanks_0 {Γ : GX} {g : AG} {I J : Nat → Nat → Int} {r : Option AV} (hg : GOc g) (u : Nat) (hu : Tr u)
    (V : ((((I u 1) ≤ (I 51 1))) → (r = none ∧ J = I)) ∧ ((¬ ((I u 1) ≤ (I 51 1))) → (((0 : Int) ≤ (I 51 1) ∧ ((I 51 1) : Int) < 240) ∧ (∃ (r5 : Int) (J3 : Nat → Nat → Int), CT Γ 0 mX6_isBlank [.inl (I (u + 1) (I 51 1).toNat)] (g, I) (some (.inl r5), (g, J3)) ∧ ((((r5 = 0)) → (r = none ∧ J = J3)) ∧ ((¬ (r5 = 0)) → (inR ((J3 51 1) + 1) ∧ (∀ I8 : Nat → Nat → Int, I8 = mset J3 51 1 ((J3 51 1) + 1) → (Ev Γ 1 mX4_skipBlanks 0 [some (.inr (some 51)), some (.inr (some u))] [] (g, I8) (r, (g, J))))))))))) : Ev Γ 1 mX4_skipBlanks 0 [some (.inr (some 51)), some (.inr (some u))] [] (g, I) (r, (g, J)) := by
  refine e_aload_n dX4_skipBlanks_0 rfl ?_
  refine e_geti dX4_skipBlanks_1 fO_4_25 (by decide) (gs_51 hg) rfl ?_
  refine e_aload_n dX4_skipBlanks_4 rfl ?_
  refine e_geti dX4_skipBlanks_5 fO_4_15 (tr_pos hu) (tr_s0 hg hu) rfl ?_
  refine e_ic_ge (tgt := 39) dX4_skipBlanks_8 (by decide) (fun c1 => ?_) (fun c1 => ?_)
  · have Ac1 := V.1 c1
    exact e_vret dX4_skipBlanks_39 rfl (by rw [Ac1.1, Ac1.2])
  · have Bc1 := V.2 c1
    refine e_aload_n dX4_skipBlanks_11 rfl ?_
    refine e_getr dX4_skipBlanks_12 fO_4_34 (tr_pos hu) (tr_s0 hg hu) rfl (tr_p1 hg hu) ?_
    refine e_aload_n dX4_skipBlanks_15 rfl ?_
    refine e_geti dX4_skipBlanks_16 fO_4_25 (by decide) (gs_51 hg) rfl ?_
    obtain ⟨h2, Vh2⟩ := Bc1
    refine e_iald dX4_skipBlanks_19 (Nat.succ_pos _) (tr_s1 hg hu) h2.1 h2.2 ?_
    obtain ⟨r5, J3, h4, Vh4⟩ := Vh2
    refine e_calls (av := [.inl (I (u + 1) (I 51 1).toNat)]) (st := []) dX4_skipBlanks_20 cO_4_64 oX6_isBlank rfl rfl (Nat.le_of_ble_eq_true rfl) (by decide) h4 (Nat.le_refl _) (Nat.le_refl _) rfl rfl ?_
    refine e_if_eq (tgt := 39) dX4_skipBlanks_23 (by decide) (fun c6 => ?_) (fun c6 => ?_)
    · have Ac6 := Vh4.1 c6
      exact e_vret dX4_skipBlanks_39 rfl (by rw [Ac6.1, Ac6.2])
    · have Bc6 := Vh4.2 c6
      refine e_aload_n dX4_skipBlanks_26 rfl ?_
      refine e_dup dX4_skipBlanks_27 ?_
      refine e_geti dX4_skipBlanks_28 fO_4_25 (by decide) (gs_51 hg) rfl ?_
      refine e_iconst dX4_skipBlanks_31 ⟨by decide, by decide⟩ ?_
      obtain ⟨h7, Vh7⟩ := Bc6
      refine e_iadd dX4_skipBlanks_32 h7 ?_
      refine e_puti dX4_skipBlanks_33 fO_4_25 (by decide) (gs_51 hg) rfl rfl ?_
      refine e_mem (fun I8 eI8 => ?_)
      have WI8 := Vh7 I8 eI8
      refine e_goto (tgt := 0) dX4_skipBlanks_36 (by decide) ?_
      exact WI8
set_option maxRecDepth 100000 in
set_option maxHeartbeats 4000000 in
theorem v_X4_readToken_0 {Γ : GX} {g : AG} {I J : Nat → Nat → Int} {r : Option AV} (hg : GOc g) (u : Nat) (hu : Tr u) (x2 : Int)
    (V : ((I 51 2) = 0 → (∃ (r4 : Int) (J2 : Nat → Nat → Int), CT Γ 2 mX4_readPiece [.inr (some 51), .inr (some u), .inl x2] (g, I) (some (.inl r4), (g, J2)) ∧ ((r4 = 0 ∨ r4 = 1) ∧ r = some (.inl r4) ∧ J = J2))) ∧ ((I 51 2) = 1 → (((¬ (x2 = 41)) → (∃ (r9 : Int) (J7 : Nat → Nat → Int), CT Γ 2 mX4_readPiece [.inr (some 51), .inr (some u), .inl x2] (g, I) (some (.inl r9), (g, J7)) ∧ ((r9 = 0 ∨ r9 = 1) ∧ r = some (.inl r9) ∧ J = J7))) ∧ (((x2 = 41)) → (∃ (r12 : Int) (J10 : Nat → Nat → Int), CT Γ 0 mX4_readClosing [.inr (some 51), .inr (some u)] (g, I) (some (.inl r12), (g, J10)) ∧ ((r12 = 0 ∨ r12 = 1) ∧ r = some (.inl r12) ∧ J = J10))))) ∧ ((I 51 2) = 2 → (((¬ (x2 = 40)) → (r = some (.inl 0) ∧ J = I)) ∧ (((x2 = 40)) → (∃ (r17 : Int) (J15 : Nat → Nat → Int), CT Γ 0 mX4_readOpening [.inr (some 51), .inr (some u)] (g, I) (some (.inl r17), (g, J15)) ∧ ((((r17 = 0)) → (r = some (.inl 0) ∧ J = J15)) ∧ ((¬ (r17 = 0)) → (r = some (.inl 1) ∧ J = J15))))))) ∧ ((I 51 2) = 3 → (((¬ (x2 = 40)) → (∃ (r23 : Int) (J21 : Nat → Nat → Int), CT Γ 1 mX4_readBehindPiece [.inr (some 51), .inr (some u), .inl x2] (g, I) (some (.inl r23), (g, J21)) ∧ ((r23 = 0 ∨ r23 = 1) ∧ r = some (.inl r23) ∧ J = J21))) ∧ (((x2 = 40)) → (∃ (r26 : Int) (J24 : Nat → Nat → Int), CT Γ 0 mX4_readOpening [.inr (some 51), .inr (some u)] (g, I) (some (.inl r26), (g, J24)) ∧ ((r26 = 0 ∨ r26 = 1) ∧ r = some (.inl r26) ∧ J = J24))))) ∧ (((I 51 2) < 0 ∨ 3 < (I 51 2)) → (∃ (r30 : Int) (J28 : Nat → Nat → Int), CT Γ 1 mX4_readBehindPiece [.inr (some 51), .inr (some u), .inl x2] (g, I) (some (.inl r30), (g, J28)) ∧ ((r30 = 0 ∨ r30 = 1) ∧ r = some (.inl r30) ∧ J = J28)))) : Ev Γ 3 mX4_readToken 0 [some (.inr (some 51)), some (.inr (some u)), some (.inl x2)] [] (g, I) (r, (g, J)) := by
  refine e_aload_n dX4_readToken_0 rfl ?_
  refine e_geti dX4_readToken_1 fO_4_31 (by decide) (gs_51 hg) rfl ?_
  by_cases c1 : (I 51 2) = 0
  · have Ac1 := V.1 c1
    refine e_tabIn (x := (I 51 2)) (off := 32) (tgt := 36) dX4_readToken_4 (by omega) (by omega) (by rw [c1]; rfl) (by decide) ?_
    refine e_aload_n dX4_readToken_36 rfl ?_
    refine e_aload_n dX4_readToken_37 rfl ?_
    refine e_iload_n dX4_readToken_38 rfl ?_
    obtain ⟨r4, J2, h3, Vh3⟩ := Ac1
    refine e_callv (av := [.inr (some u), .inl x2]) (st := []) dX4_readToken_39 cO_4_68 oX4_readPiece rfl (by decide) (gs_51 hg) rfl (Nat.le_of_ble_eq_true rfl) (by decide) h3 (Nat.le_refl _) (Nat.le_refl _) rfl rfl ?_
    exact e_zret dX4_readToken_42 rfl Vh3.1 (by rw [Vh3.2.1, Vh3.2.2])
  by_cases c5 : (I 51 2) = 1
  · have Ac5 := V.2.1 c5
    refine e_tabIn (x := (I 51 2)) (off := 39) (tgt := 43) dX4_readToken_4 (by omega) (by omega) (by rw [c5]; rfl) (by decide) ?_
    refine e_iload_n dX4_readToken_43 rfl ?_
    refine e_bipush dX4_readToken_44 (by decide) ⟨by decide, by decide⟩ ?_
    refine e_ic_ne (tgt := 57) dX4_readToken_46 (by decide) (fun c6 => ?_) (fun c6 => ?_)
    · have Ac6 := Ac5.1 c6
      refine e_aload_n dX4_readToken_57 rfl ?_
      refine e_aload_n dX4_readToken_58 rfl ?_
      refine e_iload_n dX4_readToken_59 rfl ?_
      obtain ⟨r9, J7, h8, Vh8⟩ := Ac6
      refine e_callv (av := [.inr (some u), .inl x2]) (st := []) dX4_readToken_60 cO_4_68 oX4_readPiece rfl (by decide) (gs_51 hg) rfl (Nat.le_of_ble_eq_true rfl) (by decide) h8 (Nat.le_refl _) (Nat.le_refl _) rfl rfl ?_
      exact e_zret dX4_readToken_63 rfl Vh8.1 (by rw [Vh8.2.1, Vh8.2.2])
    · have Bc6 := Ac5.2 c6
      refine e_aload_n dX4_readToken_49 rfl ?_
      refine e_aload_n dX4_readToken_50 rfl ?_
      obtain ⟨r12, J10, h11, Vh11⟩ := Bc6
      refine e_callv (av := [.inr (some u)]) (st := []) dX4_readToken_51 cO_4_71 oX4_readClosing rfl (by decide) (gs_51 hg) rfl (Nat.le_of_ble_eq_true rfl) (by decide) h11 (Nat.le_refl _) (Nat.le_refl _) rfl rfl ?_
      refine e_goto (tgt := 63) dX4_readToken_54 (by decide) ?_
      exact e_zret dX4_readToken_63 rfl Vh11.1 (by rw [Vh11.2.1, Vh11.2.2])
  by_cases c13 : (I 51 2) = 2
  · have Ac13 := V.2.2.1 c13
    refine e_tabIn (x := (I 51 2)) (off := 60) (tgt := 64) dX4_readToken_4 (by omega) (by omega) (by rw [c13]; rfl) (by decide) ?_
    refine e_iload_n dX4_readToken_64 rfl ?_
    refine e_bipush dX4_readToken_65 (by decide) ⟨by decide, by decide⟩ ?_
    refine e_ic_ne (tgt := 82) dX4_readToken_67 (by decide) (fun c14 => ?_) (fun c14 => ?_)
    · have Ac14 := Ac13.1 c14
      refine e_iconst dX4_readToken_82 ⟨by decide, by decide⟩ ?_
      exact e_zret dX4_readToken_83 rfl (by decide) (by rw [Ac14.1, Ac14.2])
    · have Bc14 := Ac13.2 c14
      refine e_aload_n dX4_readToken_70 rfl ?_
      refine e_aload_n dX4_readToken_71 rfl ?_
      obtain ⟨r17, J15, h16, Vh16⟩ := Bc14
      refine e_callv (av := [.inr (some u)]) (st := []) dX4_readToken_72 cO_4_75 oX4_readOpening rfl (by decide) (gs_51 hg) rfl (Nat.le_of_ble_eq_true rfl) (by decide) h16 (Nat.le_refl _) (Nat.le_refl _) rfl rfl ?_
      refine e_if_eq (tgt := 82) dX4_readToken_75 (by decide) (fun c18 => ?_) (fun c18 => ?_)
      · have Ac18 := Vh16.1 c18
        refine e_iconst dX4_readToken_82 ⟨by decide, by decide⟩ ?_
        exact e_zret dX4_readToken_83 rfl (by decide) (by rw [Ac18.1, Ac18.2])
      · have Bc18 := Vh16.2 c18
        refine e_iconst dX4_readToken_78 ⟨by decide, by decide⟩ ?_
        refine e_goto (tgt := 83) dX4_readToken_79 (by decide) ?_
        exact e_zret dX4_readToken_83 rfl (by decide) (by rw [Bc18.1, Bc18.2])
  by_cases c19 : (I 51 2) = 3
  · have Ac19 := V.2.2.2.1 c19
    refine e_tabIn (x := (I 51 2)) (off := 80) (tgt := 84) dX4_readToken_4 (by omega) (by omega) (by rw [c19]; rfl) (by decide) ?_
    refine e_iload_n dX4_readToken_84 rfl ?_
    refine e_bipush dX4_readToken_85 (by decide) ⟨by decide, by decide⟩ ?_
    refine e_ic_ne (tgt := 98) dX4_readToken_87 (by decide) (fun c20 => ?_) (fun c20 => ?_)
    · have Ac20 := Ac19.1 c20
      refine e_aload_n dX4_readToken_98 rfl ?_
      refine e_aload_n dX4_readToken_99 rfl ?_
      refine e_iload_n dX4_readToken_100 rfl ?_
      obtain ⟨r23, J21, h22, Vh22⟩ := Ac20
      refine e_callv (av := [.inr (some u), .inl x2]) (st := []) dX4_readToken_101 cO_4_78 oX4_readBehindPiece rfl (by decide) (gs_51 hg) rfl (Nat.le_of_ble_eq_true rfl) (by decide) h22 (Nat.le_refl _) (Nat.le_refl _) rfl rfl ?_
      exact e_zret dX4_readToken_104 rfl Vh22.1 (by rw [Vh22.2.1, Vh22.2.2])
    · have Bc20 := Ac19.2 c20
      refine e_aload_n dX4_readToken_90 rfl ?_
      refine e_aload_n dX4_readToken_91 rfl ?_
      obtain ⟨r26, J24, h25, Vh25⟩ := Bc20
      refine e_callv (av := [.inr (some u)]) (st := []) dX4_readToken_92 cO_4_75 oX4_readOpening rfl (by decide) (gs_51 hg) rfl (Nat.le_of_ble_eq_true rfl) (by decide) h25 (Nat.le_refl _) (Nat.le_refl _) rfl rfl ?_
      refine e_goto (tgt := 104) dX4_readToken_95 (by decide) ?_
      exact e_zret dX4_readToken_104 rfl Vh25.1 (by rw [Vh25.2.1, Vh25.2.2])
  have c27 : (I 51 2) < 0 ∨ 3 < (I 51 2) := by omega
  have Ac27 := V.2.2.2.2 c27
  refine e_tabOut (x := (I 51 2)) (tgt := 105) dX4_readToken_4 c27 (by decide) ?_
  refine e_aload_n dX4_readToken_105 rfl ?_
  refine e_aload_n dX4_readToken_106 rfl ?_
  refine e_iload_n dX4_readToken_107 rfl ?_
  obtain ⟨r30, J28, h29, Vh29⟩ := Ac27
  refine e_callv (av := [.inr (some u), .inl x2]) (st := []) dX4_readToken_108 cO_4_78 oX4_readBehindPiece rfl (by decide) (gs_51 hg) rfl (Nat.le_of_ble_eq_true rfl) (by decide) h29 (Nat.le_refl _) (Nat.le_refl _) rfl rfl ?_
  exact e_zret dX4_readToken_111 rfl Vh29.1 (by rw [Vh29.2.1, Vh29.2.2])
set_option maxRecDepth 100000 in
set_option maxHeartbeats 4000000 in
theorem v_X4_readPiece_0 {Γ : GX} {g : AG} {I J : Nat → Nat → Int} {r : Option AV} (hg : GOc g) (u : Nat) (hu : Tr u) (x2 : Int)
    (V : ∃ (r3 : Int) (J1 : Nat → Nat → Int), CT Γ 0 mX6_isAtomByte [.inl x2] (g, I) (some (.inl r3), (g, J1)) ∧ ((((r3 = 0)) → ((x2 = 42 → (∃ (r8 : Int) (J6 : Nat → Nat → Int), CT Γ 1 mX4_rowMayStand [.inr (some 51), .inr (some u)] (g, J1) (some (.inl r8), (g, J6)) ∧ ((((r8 = 0)) → (r = some (.inl 0) ∧ J = J6)) ∧ ((¬ (r8 = 0)) → (∃ (r12 : Int) (J10 : Nat → Nat → Int), CT Γ 1 mX4_readLettered [.inr (some 51), .inr (some u), .inl 2] (g, J6) (some (.inl r12), (g, J10)) ∧ ((((r12 = 0)) → (r = some (.inl 0) ∧ J = J10)) ∧ ((¬ (r12 = 0)) → (r = some (.inl 1) ∧ J = J10)))))))) ∧ (x2 = 63 → (((((J1 51 0) = 0)) → (r = some (.inl 0) ∧ J = J1)) ∧ ((¬ ((J1 51 0) = 0)) → (∃ (r18 : Int) (J16 : Nat → Nat → Int), CT Γ 1 mX4_readLettered [.inr (some 51), .inr (some u), .inl 1] (g, J1) (some (.inl r18), (g, J16)) ∧ ((((r18 = 0)) → (r = some (.inl 0) ∧ J = J16)) ∧ ((¬ (r18 = 0)) → (r = some (.inl 1) ∧ J = J16))))))) ∧ (x2 = 64 → (((¬ ((J1 51 0) = 1)) → (r = some (.inl 0) ∧ J = J1)) ∧ ((((J1 51 0) = 1)) → (((¬ ((J1 51 6) = (-1))) → (r = some (.inl 0) ∧ J = J1)) ∧ ((((J1 51 6) = (-1))) → (∃ (r25 : Int) (J23 : Nat → Nat → Int), CT Γ 1 mX4_readDeep [.inr (some 51), .inr (some u)] (g, J1) (some (.inl r25), (g, J23)) ∧ ((((r25 = 0)) → (r = some (.inl 0) ∧ J = J23)) ∧ ((¬ (r25 = 0)) → (r = some (.inl 1) ∧ J = J23))))))))) ∧ ((¬ x2 = 42 ∧ ¬ x2 = 63 ∧ ¬ x2 = 64) → (r = some (.inl 0) ∧ J = J1)))) ∧ ((¬ (r3 = 0)) → (∃ (r30 : Int) (J28 : Nat → Nat → Int), CT Γ 1 mX4_readAtom [.inr (some 51), .inr (some u)] (g, J1) (some (.inl r30), (g, J28)) ∧ ((r30 = 0 ∨ r30 = 1) ∧ r = some (.inl r30) ∧ J = J28))))) : Ev Γ 2 mX4_readPiece 0 [some (.inr (some 51)), some (.inr (some u)), some (.inl x2)] [] (g, I) (r, (g, J)) := by
  refine e_iload_n dX4_readPiece_0 rfl ?_
  obtain ⟨r3, J1, h2, Vh2⟩ := V
  refine e_calls (av := [.inl x2]) (st := []) dX4_readPiece_1 cO_4_81 oX6_isAtomByte rfl rfl (Nat.le_of_ble_eq_true rfl) (by decide) h2 (Nat.le_refl _) (Nat.le_refl _) rfl rfl ?_
  refine e_if_eq (tgt := 13) dX4_readPiece_4 (by decide) (fun c4 => ?_) (fun c4 => ?_)
  · have Ac4 := Vh2.1 c4
    refine e_iload_n dX4_readPiece_13 rfl ?_
    by_cases c5 : x2 = 42
    · have Ac5 := Ac4.1 c5
      refine e_look (x := x2) (off := 56) (tgt := 70) dX4_readPiece_14 (by decide) (by rw [c5]; rfl) (by decide) ?_
      refine e_aload_n dX4_readPiece_70 rfl ?_
      refine e_aload_n dX4_readPiece_71 rfl ?_
      obtain ⟨r8, J6, h7, Vh7⟩ := Ac5
      refine e_callv (av := [.inr (some u)]) (st := []) dX4_readPiece_72 cO_4_90 oX4_rowMayStand rfl (by decide) (gs_51 hg) rfl (Nat.le_of_ble_eq_true rfl) (by decide) h7 (Nat.le_refl _) (Nat.le_refl _) rfl rfl ?_
      refine e_if_eq (tgt := 91) dX4_readPiece_75 (by decide) (fun c9 => ?_) (fun c9 => ?_)
      · have Ac9 := Vh7.1 c9
        refine e_iconst dX4_readPiece_91 ⟨by decide, by decide⟩ ?_
        exact e_zret dX4_readPiece_92 rfl (by decide) (by rw [Ac9.1, Ac9.2])
      · have Bc9 := Vh7.2 c9
        refine e_aload_n dX4_readPiece_78 rfl ?_
        refine e_aload_n dX4_readPiece_79 rfl ?_
        refine e_iconst dX4_readPiece_80 ⟨by decide, by decide⟩ ?_
        obtain ⟨r12, J10, h11, Vh11⟩ := Bc9
        refine e_callv (av := [.inr (some u), .inl 2]) (st := []) dX4_readPiece_81 cO_4_87 oX4_readLettered rfl (by decide) (gs_51 hg) rfl (Nat.le_of_ble_eq_true rfl) (by decide) h11 (Nat.le_refl _) (Nat.le_refl _) rfl rfl ?_
        refine e_if_eq (tgt := 91) dX4_readPiece_84 (by decide) (fun c13 => ?_) (fun c13 => ?_)
        · have Ac13 := Vh11.1 c13
          refine e_iconst dX4_readPiece_91 ⟨by decide, by decide⟩ ?_
          exact e_zret dX4_readPiece_92 rfl (by decide) (by rw [Ac13.1, Ac13.2])
        · have Bc13 := Vh11.2 c13
          refine e_iconst dX4_readPiece_87 ⟨by decide, by decide⟩ ?_
          refine e_goto (tgt := 92) dX4_readPiece_88 (by decide) ?_
          exact e_zret dX4_readPiece_92 rfl (by decide) (by rw [Bc13.1, Bc13.2])
    by_cases c14 : x2 = 63
    · have Ac14 := Ac4.2.1 c14
      refine e_look (x := x2) (off := 34) (tgt := 48) dX4_readPiece_14 (by decide) (by rw [c14]; rfl) (by decide) ?_
      refine e_aload_n dX4_readPiece_48 rfl ?_
      refine e_geti dX4_readPiece_49 fO_4_42 (by decide) (gs_51 hg) rfl ?_
      refine e_if_eq (tgt := 68) dX4_readPiece_52 (by decide) (fun c15 => ?_) (fun c15 => ?_)
      · have Ac15 := Ac14.1 c15
        refine e_iconst dX4_readPiece_68 ⟨by decide, by decide⟩ ?_
        exact e_zret dX4_readPiece_69 rfl (by decide) (by rw [Ac15.1, Ac15.2])
      · have Bc15 := Ac14.2 c15
        refine e_aload_n dX4_readPiece_55 rfl ?_
        refine e_aload_n dX4_readPiece_56 rfl ?_
        refine e_iconst dX4_readPiece_57 ⟨by decide, by decide⟩ ?_
        obtain ⟨r18, J16, h17, Vh17⟩ := Bc15
        refine e_callv (av := [.inr (some u), .inl 1]) (st := []) dX4_readPiece_58 cO_4_87 oX4_readLettered rfl (by decide) (gs_51 hg) rfl (Nat.le_of_ble_eq_true rfl) (by decide) h17 (Nat.le_refl _) (Nat.le_refl _) rfl rfl ?_
        refine e_if_eq (tgt := 68) dX4_readPiece_61 (by decide) (fun c19 => ?_) (fun c19 => ?_)
        · have Ac19 := Vh17.1 c19
          refine e_iconst dX4_readPiece_68 ⟨by decide, by decide⟩ ?_
          exact e_zret dX4_readPiece_69 rfl (by decide) (by rw [Ac19.1, Ac19.2])
        · have Bc19 := Vh17.2 c19
          refine e_iconst dX4_readPiece_64 ⟨by decide, by decide⟩ ?_
          refine e_goto (tgt := 69) dX4_readPiece_65 (by decide) ?_
          exact e_zret dX4_readPiece_69 rfl (by decide) (by rw [Bc19.1, Bc19.2])
    by_cases c20 : x2 = 64
    · have Ac20 := Ac4.2.2.1 c20
      refine e_look (x := x2) (off := 79) (tgt := 93) dX4_readPiece_14 (by decide) (by rw [c20]; rfl) (by decide) ?_
      refine e_aload_n dX4_readPiece_93 rfl ?_
      refine e_geti dX4_readPiece_94 fO_4_42 (by decide) (gs_51 hg) rfl ?_
      refine e_iconst dX4_readPiece_97 ⟨by decide, by decide⟩ ?_
      refine e_ic_ne (tgt := 121) dX4_readPiece_98 (by decide) (fun c21 => ?_) (fun c21 => ?_)
      · have Ac21 := Ac20.1 c21
        refine e_iconst dX4_readPiece_121 ⟨by decide, by decide⟩ ?_
        exact e_zret dX4_readPiece_122 rfl (by decide) (by rw [Ac21.1, Ac21.2])
      · have Bc21 := Ac20.2 c21
        refine e_aload_n dX4_readPiece_101 rfl ?_
        refine e_geti dX4_readPiece_102 fO_4_51 (by decide) (gs_51 hg) rfl ?_
        refine e_iconst dX4_readPiece_105 ⟨by decide, by decide⟩ ?_
        refine e_ic_ne (tgt := 121) dX4_readPiece_106 (by decide) (fun c22 => ?_) (fun c22 => ?_)
        · have Ac22 := Bc21.1 c22
          refine e_iconst dX4_readPiece_121 ⟨by decide, by decide⟩ ?_
          exact e_zret dX4_readPiece_122 rfl (by decide) (by rw [Ac22.1, Ac22.2])
        · have Bc22 := Bc21.2 c22
          refine e_aload_n dX4_readPiece_109 rfl ?_
          refine e_aload_n dX4_readPiece_110 rfl ?_
          obtain ⟨r25, J23, h24, Vh24⟩ := Bc22
          refine e_callv (av := [.inr (some u)]) (st := []) dX4_readPiece_111 cO_4_93 oX4_readDeep rfl (by decide) (gs_51 hg) rfl (Nat.le_of_ble_eq_true rfl) (by decide) h24 (Nat.le_refl _) (Nat.le_refl _) rfl rfl ?_
          refine e_if_eq (tgt := 121) dX4_readPiece_114 (by decide) (fun c26 => ?_) (fun c26 => ?_)
          · have Ac26 := Vh24.1 c26
            refine e_iconst dX4_readPiece_121 ⟨by decide, by decide⟩ ?_
            exact e_zret dX4_readPiece_122 rfl (by decide) (by rw [Ac26.1, Ac26.2])
          · have Bc26 := Vh24.2 c26
            refine e_iconst dX4_readPiece_117 ⟨by decide, by decide⟩ ?_
            refine e_goto (tgt := 122) dX4_readPiece_118 (by decide) ?_
            exact e_zret dX4_readPiece_122 rfl (by decide) (by rw [Bc26.1, Bc26.2])
    have Ac27 := Ac4.2.2.2 ⟨c5, c14, c20⟩
    refine e_look (x := x2) (off := 109) (tgt := 123) dX4_readPiece_14 (by decide) (by simp only [Op.lookupswitch.offset_cons, Op.lookupswitch.offset_nil, Ne.symm c5, Ne.symm c14, Ne.symm c20, if_false]) (by decide) ?_
    refine e_iconst dX4_readPiece_123 ⟨by decide, by decide⟩ ?_
    exact e_zret dX4_readPiece_124 rfl (by decide) (by rw [Ac27.1, Ac27.2])
  · have Bc4 := Vh2.2 c4
    refine e_aload_n dX4_readPiece_7 rfl ?_
    refine e_aload_n dX4_readPiece_8 rfl ?_
    obtain ⟨r30, J28, h29, Vh29⟩ := Bc4
    refine e_callv (av := [.inr (some u)]) (st := []) dX4_readPiece_9 cO_4_84 oX4_readAtom rfl (by decide) (gs_51 hg) rfl (Nat.le_of_ble_eq_true rfl) (by decide) h29 (Nat.le_refl _) (Nat.le_refl _) rfl rfl ?_
    exact e_zret dX4_readPiece_12 rfl Vh29.1 (by rw [Vh29.2.1, Vh29.2.2])
set_option maxRecDepth 100000 in
set_option maxHeartbeats 4000000 in
theorem v_X4_rowMayStand_0 {Γ : GX} {g : AG} {I J : Nat → Nat → Int} {r : Option AV} (hg : GOc g) (u : Nat) (hu : Tr u)
    (V : ((((I 51 0) = 0)) → (r = some (.inl 0) ∧ J = I)) ∧ ((¬ ((I 51 0) = 0)) → (∃ (r4 : Int) (J2 : Nat → Nat → Int), CT Γ 0 mX4_isWithinTerm [.inr (some 51), .inr (some u)] (g, I) (some (.inl r4), (g, J2)) ∧ (((¬ (r4 = 0)) → (((((J2 51 0) = 2)) → (r = some (.inl 1) ∧ J = J2)) ∧ ((¬ ((J2 51 0) = 2)) → ((((2 ≤ (J2 51 5))) → (r = some (.inl 0) ∧ J = J2)) ∧ ((¬ (2 ≤ (J2 51 5))) → (((¬ ((J2 51 7) = 0)) → (r = some (.inl 0) ∧ J = J2)) ∧ ((((J2 51 7) = 0)) → (r = some (.inl 1) ∧ J = J2)))))))) ∧ (((r4 = 0)) → (r = some (.inl 0) ∧ J = J2)))))) : Ev Γ 1 mX4_rowMayStand 0 [some (.inr (some 51)), some (.inr (some u))] [] (g, I) (r, (g, J)) := by
  refine e_aload_n dX4_rowMayStand_0 rfl ?_
  refine e_geti dX4_rowMayStand_1 fO_4_42 (by decide) (gs_51 hg) rfl ?_
  refine e_if_eq (tgt := 15) dX4_rowMayStand_4 (by decide) (fun c1 => ?_) (fun c1 => ?_)
  · have Ac1 := V.1 c1
    refine e_iconst dX4_rowMayStand_15 ⟨by decide, by decide⟩ ?_
    exact e_zret dX4_rowMayStand_16 rfl (by decide) (by rw [Ac1.1, Ac1.2])
  · have Bc1 := V.2 c1
    refine e_aload_n dX4_rowMayStand_7 rfl ?_
    refine e_aload_n dX4_rowMayStand_8 rfl ?_
    obtain ⟨r4, J2, h3, Vh3⟩ := Bc1
    refine e_callv (av := [.inr (some u)]) (st := []) dX4_rowMayStand_9 cO_4_96 oX4_isWithinTerm rfl (by decide) (gs_51 hg) rfl (Nat.le_of_ble_eq_true rfl) (by decide) h3 (Nat.le_refl _) (Nat.le_refl _) rfl rfl ?_
    refine e_if_ne (tgt := 17) dX4_rowMayStand_12 (by decide) (fun c5 => ?_) (fun c5 => ?_)
    · have Ac5 := Vh3.1 c5
      refine e_aload_n dX4_rowMayStand_17 rfl ?_
      refine e_geti dX4_rowMayStand_18 fO_4_42 (by decide) (gs_51 hg) rfl ?_
      refine e_iconst dX4_rowMayStand_21 ⟨by decide, by decide⟩ ?_
      refine e_ic_eq (tgt := 40) dX4_rowMayStand_22 (by decide) (fun c6 => ?_) (fun c6 => ?_)
      · have Ac6 := Ac5.1 c6
        refine e_iconst dX4_rowMayStand_40 ⟨by decide, by decide⟩ ?_
        refine e_goto (tgt := 45) dX4_rowMayStand_41 (by decide) ?_
        exact e_zret dX4_rowMayStand_45 rfl (by decide) (by rw [Ac6.1, Ac6.2])
      · have Bc6 := Ac5.2 c6
        refine e_aload_n dX4_rowMayStand_25 rfl ?_
        refine e_geti dX4_rowMayStand_26 fO_4_48 (by decide) (gs_51 hg) rfl ?_
        refine e_iconst dX4_rowMayStand_29 ⟨by decide, by decide⟩ ?_
        refine e_ic_ge (tgt := 44) dX4_rowMayStand_30 (by decide) (fun c7 => ?_) (fun c7 => ?_)
        · have Ac7 := Bc6.1 c7
          refine e_iconst dX4_rowMayStand_44 ⟨by decide, by decide⟩ ?_
          exact e_zret dX4_rowMayStand_45 rfl (by decide) (by rw [Ac7.1, Ac7.2])
        · have Bc7 := Bc6.2 c7
          refine e_aload_n dX4_rowMayStand_33 rfl ?_
          refine e_geti dX4_rowMayStand_34 fO_4_54 (by decide) (gs_51 hg) rfl ?_
          refine e_if_ne (tgt := 44) dX4_rowMayStand_37 (by decide) (fun c8 => ?_) (fun c8 => ?_)
          · have Ac8 := Bc7.1 c8
            refine e_iconst dX4_rowMayStand_44 ⟨by decide, by decide⟩ ?_
            exact e_zret dX4_rowMayStand_45 rfl (by decide) (by rw [Ac8.1, Ac8.2])
          · have Bc8 := Bc7.2 c8
            refine e_iconst dX4_rowMayStand_40 ⟨by decide, by decide⟩ ?_
            refine e_goto (tgt := 45) dX4_rowMayStand_41 (by decide) ?_
            exact e_zret dX4_rowMayStand_45 rfl (by decide) (by rw [Bc8.1, Bc8.2])
    · have Bc5 := Vh3.2 c5
      refine e_iconst dX4_rowMayStand_15 ⟨by decide, by decide⟩ ?_
      exact e_zret dX4_rowMayStand_16 rfl (by decide) (by rw [Bc5.1, Bc5.2])
set_option maxRecDepth 100000 in
set_option maxHeartbeats 4000000 in
theorem v_X4_isWithinTerm_0 {Γ : GX} {g : AG} {I J : Nat → Nat → Int} {r : Option AV} (hg : GOc g) (u : Nat) (hu : Tr u)
    (V : ((((I 51 3) = (-1))) → (r = some (.inl 0) ∧ J = I)) ∧ ((¬ ((I 51 3) = (-1))) → (((0 : Int) ≤ (I 51 3) ∧ ((I 51 3) : Int) < 120) ∧ (((¬ ((I (u + 2) (I 51 3).toNat) = 0)) → (r = some (.inl 0) ∧ J = I)) ∧ ((((I (u + 2) (I 51 3).toNat) = 0)) → (r = some (.inl 1) ∧ J = I)))))) : Ev Γ 0 mX4_isWithinTerm 0 [some (.inr (some 51)), some (.inr (some u))] [] (g, I) (r, (g, J)) := by
  refine e_aload_n dX4_isWithinTerm_0 rfl ?_
  refine e_geti dX4_isWithinTerm_1 fO_4_28 (by decide) (gs_51 hg) rfl ?_
  refine e_iconst dX4_isWithinTerm_4 ⟨by decide, by decide⟩ ?_
  refine e_ic_eq (tgt := 24) dX4_isWithinTerm_5 (by decide) (fun c1 => ?_) (fun c1 => ?_)
  · have Ac1 := V.1 c1
    refine e_iconst dX4_isWithinTerm_24 ⟨by decide, by decide⟩ ?_
    exact e_zret dX4_isWithinTerm_25 rfl (by decide) (by rw [Ac1.1, Ac1.2])
  · have Bc1 := V.2 c1
    refine e_aload_n dX4_isWithinTerm_8 rfl ?_
    refine e_getr dX4_isWithinTerm_9 fO_4_99 (tr_pos hu) (tr_s0 hg hu) rfl (tr_p2 hg hu) ?_
    refine e_aload_n dX4_isWithinTerm_12 rfl ?_
    refine e_geti dX4_isWithinTerm_13 fO_4_28 (by decide) (gs_51 hg) rfl ?_
    obtain ⟨h2, Vh2⟩ := Bc1
    refine e_iald dX4_isWithinTerm_16 (Nat.succ_pos _) (tr_s2 hg hu) h2.1 h2.2 ?_
    refine e_if_ne (tgt := 24) dX4_isWithinTerm_17 (by decide) (fun c3 => ?_) (fun c3 => ?_)
    · have Ac3 := Vh2.1 c3
      refine e_iconst dX4_isWithinTerm_24 ⟨by decide, by decide⟩ ?_
      exact e_zret dX4_isWithinTerm_25 rfl (by decide) (by rw [Ac3.1, Ac3.2])
    · have Bc3 := Vh2.2 c3
      refine e_iconst dX4_isWithinTerm_20 ⟨by decide, by decide⟩ ?_
      refine e_goto (tgt := 25) dX4_isWithinTerm_21 (by decide) ?_
      exact e_zret dX4_isWithinTerm_25 rfl (by decide) (by rw [Bc3.1, Bc3.2])
set_option maxRecDepth 100000 in
set_option maxHeartbeats 4000000 in
theorem v_X4_readAtom_0 {Γ : GX} {g : AG} {I J : Nat → Nat → Int} {r : Option AV} (hg : GOc g) (u : Nat) (hu : Tr u)
    (V : inR ((I 51 1) + 1) ∧ (∀ y2 : Int, y2 = ((I 51 1) + 1) → (Ev Γ 1 mX4_readAtom 7 [some (.inr (some 51)), some (.inr (some u)), some (.inl y2)] [] (g, I) (r, (g, J))))) : Ev Γ 1 mX4_readAtom 0 [some (.inr (some 51)), some (.inr (some u)), none] [] (g, I) (r, (g, J)) := by
  refine e_aload_n dX4_readAtom_0 rfl ?_
  refine e_geti dX4_readAtom_1 fO_4_25 (by decide) (gs_51 hg) rfl ?_
  refine e_iconst dX4_readAtom_4 ⟨by decide, by decide⟩ ?_
  obtain ⟨h1, Vh1⟩ := V
  refine e_iadd dX4_readAtom_5 h1 ?_
  refine e_top (fun y2 ey2 => ?_)
  have Wy2 := Vh1 y2 ey2
  refine e_istore_n dX4_readAtom_6 (by decide) (ls' := [some (.inr (some 51)), some (.inr (some u)), some (.inl y2)]) rfl ?_
  exact Wy2
set_option maxRecDepth 100000 in
set_option maxHeartbeats 4000000 in
theorem v_X4_readAtom_7 {Γ : GX} {g : AG} {I J : Nat → Nat → Int} {r : Option AV} (hg : GOc g) (u : Nat) (hu : Tr u) (x2 : Int)
    (V : ((((I u 1) ≤ x2)) → (∀ I2 : Nat → Nat → Int, I2 = mset I 51 2 3 → (∃ (r5 : Int) (J3 : Nat → Nat → Int), CT Γ 0 mX4_addPiece [.inr (some 51), .inr (some u), .inl 0, .inl x2] (g, I2) (some (.inl r5), (g, J3)) ∧ ((r5 = 0 ∨ r5 = 1) ∧ r = some (.inl r5) ∧ J = J3)))) ∧ ((¬ ((I u 1) ≤ x2)) → (((0 : Int) ≤ x2 ∧ (x2 : Int) < 240) ∧ (∃ (r9 : Int) (J7 : Nat → Nat → Int), CT Γ 0 mX6_isAtomByte [.inl (I (u + 1) x2.toNat)] (g, I) (some (.inl r9), (g, J7)) ∧ ((((r9 = 0)) → (∀ I11 : Nat → Nat → Int, I11 = mset J7 51 2 3 → (∃ (r14 : Int) (J12 : Nat → Nat → Int), CT Γ 0 mX4_addPiece [.inr (some 51), .inr (some u), .inl 0, .inl x2] (g, I11) (some (.inl r14), (g, J12)) ∧ ((r14 = 0 ∨ r14 = 1) ∧ r = some (.inl r14) ∧ J = J12)))) ∧ ((¬ (r9 = 0)) → (inR (x2 + 1) ∧ (Ev Γ 1 mX4_readAtom 7 [some (.inr (some 51)), some (.inr (some u)), some (.inl (x2 + 1))] [] (g, J7) (r, (g, J)))))))))) : Ev Γ 1 mX4_readAtom 7 [some (.inr (some 51)), some (.inr (some u)), some (.inl x2)] [] (g, I) (r, (g, J)) := by
  refine e_iload_n dX4_readAtom_7 rfl ?_
  refine e_aload_n dX4_readAtom_8 rfl ?_
  refine e_geti dX4_readAtom_9 fO_4_15 (tr_pos hu) (tr_s0 hg hu) rfl ?_
  refine e_ic_ge (tgt := 33) dX4_readAtom_12 (by decide) (fun c1 => ?_) (fun c1 => ?_)
  · have Ac1 := V.1 c1
    refine e_aload_n dX4_readAtom_33 rfl ?_
    refine e_iconst dX4_readAtom_34 ⟨by decide, by decide⟩ ?_
    refine e_puti dX4_readAtom_35 fO_4_31 (by decide) (gs_51 hg) rfl rfl ?_
    refine e_mem (fun I2 eI2 => ?_)
    have WI2 := Ac1 I2 eI2
    refine e_aload_n dX4_readAtom_38 rfl ?_
    refine e_aload_n dX4_readAtom_39 rfl ?_
    refine e_iconst dX4_readAtom_40 ⟨by decide, by decide⟩ ?_
    refine e_iload_n dX4_readAtom_41 rfl ?_
    obtain ⟨r5, J3, h4, Vh4⟩ := WI2
    refine e_callv (av := [.inr (some u), .inl 0, .inl x2]) (st := []) dX4_readAtom_42 cO_4_102 oX4_addPiece rfl (by decide) (gs_51 hg) rfl (Nat.le_of_ble_eq_true rfl) (by decide) h4 (Nat.le_refl _) (Nat.le_refl _) rfl rfl ?_
    exact e_zret dX4_readAtom_45 rfl Vh4.1 (by rw [Vh4.2.1, Vh4.2.2])
  · have Bc1 := V.2 c1
    refine e_aload_n dX4_readAtom_15 rfl ?_
    refine e_getr dX4_readAtom_16 fO_4_34 (tr_pos hu) (tr_s0 hg hu) rfl (tr_p1 hg hu) ?_
    refine e_iload_n dX4_readAtom_19 rfl ?_
    obtain ⟨h6, Vh6⟩ := Bc1
    refine e_iald dX4_readAtom_20 (Nat.succ_pos _) (tr_s1 hg hu) h6.1 h6.2 ?_
    obtain ⟨r9, J7, h8, Vh8⟩ := Vh6
    refine e_calls (av := [.inl (I (u + 1) x2.toNat)]) (st := []) dX4_readAtom_21 cO_4_81 oX6_isAtomByte rfl rfl (Nat.le_of_ble_eq_true rfl) (by decide) h8 (Nat.le_refl _) (Nat.le_refl _) rfl rfl ?_
    refine e_if_eq (tgt := 33) dX4_readAtom_24 (by decide) (fun c10 => ?_) (fun c10 => ?_)
    · have Ac10 := Vh8.1 c10
      refine e_aload_n dX4_readAtom_33 rfl ?_
      refine e_iconst dX4_readAtom_34 ⟨by decide, by decide⟩ ?_
      refine e_puti dX4_readAtom_35 fO_4_31 (by decide) (gs_51 hg) rfl rfl ?_
      refine e_mem (fun I11 eI11 => ?_)
      have WI11 := Ac10 I11 eI11
      refine e_aload_n dX4_readAtom_38 rfl ?_
      refine e_aload_n dX4_readAtom_39 rfl ?_
      refine e_iconst dX4_readAtom_40 ⟨by decide, by decide⟩ ?_
      refine e_iload_n dX4_readAtom_41 rfl ?_
      obtain ⟨r14, J12, h13, Vh13⟩ := WI11
      refine e_callv (av := [.inr (some u), .inl 0, .inl x2]) (st := []) dX4_readAtom_42 cO_4_102 oX4_addPiece rfl (by decide) (gs_51 hg) rfl (Nat.le_of_ble_eq_true rfl) (by decide) h13 (Nat.le_refl _) (Nat.le_refl _) rfl rfl ?_
      exact e_zret dX4_readAtom_45 rfl Vh13.1 (by rw [Vh13.2.1, Vh13.2.2])
    · have Bc10 := Vh8.2 c10
      obtain ⟨h15, Vh15⟩ := Bc10
      refine e_iinc dX4_readAtom_27 (by decide) rfl h15 (ls' := [some (.inr (some 51)), some (.inr (some u)), some (.inl (x2 + 1))]) rfl ?_
      refine e_goto (tgt := 7) dX4_readAtom_30 (by decide) ?_
      exact Vh15
set_option maxRecDepth 100000 in
set_option maxHeartbeats 4000000 in
theorem v_X4_readLettered_0 {Γ : GX} {g : AG} {I J : Nat → Nat → Int} {r : Option AV} (hg : GOc g) (u : Nat) (hu : Tr u) (x2 : Int)
    (V : inR ((I 51 1) + 1) ∧ (∀ y2 : Int, y2 = ((I 51 1) + 1) → (((((I u 1) ≤ y2)) → (∀ I4 : Nat → Nat → Int, I4 = mset I 51 1 y2 → (r = some (.inl 0) ∧ J = I4))) ∧ ((¬ ((I u 1) ≤ y2)) → (((0 : Int) ≤ y2 ∧ (y2 : Int) < 240) ∧ (∃ (r8 : Int) (J6 : Nat → Nat → Int), CT Γ 0 mX6_isSmall [.inl (I (u + 1) y2.toNat)] (g, I) (some (.inl r8), (g, J6)) ∧ (((¬ (r8 = 0)) → (((0 : Int) ≤ y2 ∧ (y2 : Int) < 240) ∧ (inR ((J6 (u + 1) y2.toNat) - 97) ∧ (∀ y12 : Int, y12 = ((J6 (u + 1) y2.toNat) - 97) → (∃ (r15 : Int) (J13 : Nat → Nat → Int), CT Γ 0 mX5_kindOf [.inr (some u), .inl y12] (g, J6) (some (.inl r15), (g, J13)) ∧ ((((r15 = (-1))) → (inR (y2 + 1) ∧ (∃ (r20 : Int) (J18 : Nat → Nat → Int), CT Γ 0 mX4_addPiece [.inr (some 51), .inr (some u), .inl x2, .inl (y2 + 1)] (g, J13) (some (.inl r20), (g, J18)) ∧ (((¬ (r20 = 0)) → (inR ((J18 u 2) - 1) ∧ (∀ y23 : Int, y23 = ((J18 u 2) - 1) → (((0 : Int) ≤ y23 ∧ (y23 : Int) < 120) ∧ (∀ I24 : Nat → Nat → Int, I24 = mset J18 (u + 9) y23.toNat y12 → (((¬ (r15 = (-1))) → (((¬ (x2 = 2)) → (∀ I28 : Nat → Nat → Int, I28 = mset I24 51 2 4 → (r = some (.inl 1) ∧ J = I28))) ∧ (((x2 = 2)) → (inR ((I24 51 5) + 1) ∧ (∀ I30 : Nat → Nat → Int, I30 = mset I24 51 5 ((I24 51 5) + 1) → (∀ I31 : Nat → Nat → Int, I31 = mset I30 51 2 4 → (r = some (.inl 1) ∧ J = I31))))))) ∧ (((r15 = (-1))) → (((0 : Int) ≤ y12 ∧ (y12 : Int) < 26) ∧ (∀ I32 : Nat → Nat → Int, I32 = mset I24 (u + 10) y12.toNat y23 → (((¬ (x2 = 2)) → (∀ I35 : Nat → Nat → Int, I35 = mset I32 51 2 4 → (r = some (.inl 1) ∧ J = I35))) ∧ (((x2 = 2)) → (inR ((I32 51 5) + 1) ∧ (∀ I37 : Nat → Nat → Int, I37 = mset I32 51 5 ((I32 51 5) + 1) → (∀ I38 : Nat → Nat → Int, I38 = mset I37 51 2 4 → (r = some (.inl 1) ∧ J = I38))))))))))))))) ∧ (((r20 = 0)) → (r = some (.inl 0) ∧ J = J18)))))) ∧ ((¬ (r15 = (-1))) → (((¬ (r15 = x2)) → (r = some (.inl 0) ∧ J = J13)) ∧ (((r15 = x2)) → (inR (y2 + 1) ∧ (∃ (r43 : Int) (J41 : Nat → Nat → Int), CT Γ 0 mX4_addPiece [.inr (some 51), .inr (some u), .inl x2, .inl (y2 + 1)] (g, J13) (some (.inl r43), (g, J41)) ∧ (((¬ (r43 = 0)) → (inR ((J41 u 2) - 1) ∧ (∀ y46 : Int, y46 = ((J41 u 2) - 1) → (((0 : Int) ≤ y46 ∧ (y46 : Int) < 120) ∧ (∀ I47 : Nat → Nat → Int, I47 = mset J41 (u + 9) y46.toNat y12 → (((¬ (r15 = (-1))) → (((¬ (x2 = 2)) → (∀ I51 : Nat → Nat → Int, I51 = mset I47 51 2 4 → (r = some (.inl 1) ∧ J = I51))) ∧ (((x2 = 2)) → (inR ((I47 51 5) + 1) ∧ (∀ I53 : Nat → Nat → Int, I53 = mset I47 51 5 ((I47 51 5) + 1) → (∀ I54 : Nat → Nat → Int, I54 = mset I53 51 2 4 → (r = some (.inl 1) ∧ J = I54))))))) ∧ (((r15 = (-1))) → (((0 : Int) ≤ y12 ∧ (y12 : Int) < 26) ∧ (∀ I55 : Nat → Nat → Int, I55 = mset I47 (u + 10) y12.toNat y46 → (((¬ (x2 = 2)) → (∀ I58 : Nat → Nat → Int, I58 = mset I55 51 2 4 → (r = some (.inl 1) ∧ J = I58))) ∧ (((x2 = 2)) → (inR ((I55 51 5) + 1) ∧ (∀ I60 : Nat → Nat → Int, I60 = mset I55 51 5 ((I55 51 5) + 1) → (∀ I61 : Nat → Nat → Int, I61 = mset I60 51 2 4 → (r = some (.inl 1) ∧ J = I61))))))))))))))) ∧ (((r43 = 0)) → (r = some (.inl 0) ∧ J = J41)))))))))))))) ∧ (((r8 = 0)) → (∀ I62 : Nat → Nat → Int, I62 = mset J6 51 1 y2 → (r = some (.inl 0) ∧ J = I62)))))))))) : Ev Γ 1 mX4_readLettered 0 [some (.inr (some 51)), some (.inr (some u)), some (.inl x2), none, none, none, none] [] (g, I) (r, (g, J)) := by
  refine e_aload_n dX4_readLettered_0 rfl ?_
  refine e_geti dX4_readLettered_1 fO_4_25 (by decide) (gs_51 hg) rfl ?_
  refine e_iconst dX4_readLettered_4 ⟨by decide, by decide⟩ ?_
  obtain ⟨h1, Vh1⟩ := V
  refine e_iadd dX4_readLettered_5 h1 ?_
  refine e_top (fun y2 ey2 => ?_)
  have Wy2 := Vh1 y2 ey2
  refine e_istore_n dX4_readLettered_6 (by decide) (ls' := [some (.inr (some 51)), some (.inr (some u)), some (.inl x2), some (.inl y2), none, none, none]) rfl ?_
  refine e_iload_n dX4_readLettered_7 rfl ?_
  refine e_aload_n dX4_readLettered_8 rfl ?_
  refine e_geti dX4_readLettered_9 fO_4_15 (tr_pos hu) (tr_s0 hg hu) rfl ?_
  refine e_ic_ge (tgt := 27) dX4_readLettered_12 (by decide) (fun c3 => ?_) (fun c3 => ?_)
  · have Ac3 := Wy2.1 c3
    refine e_aload_n dX4_readLettered_27 rfl ?_
    refine e_iload_n dX4_readLettered_28 rfl ?_
    refine e_puti dX4_readLettered_29 fO_4_25 (by decide) (gs_51 hg) rfl rfl ?_
    refine e_mem (fun I4 eI4 => ?_)
    have WI4 := Ac3 I4 eI4
    refine e_iconst dX4_readLettered_32 ⟨by decide, by decide⟩ ?_
    exact e_zret dX4_readLettered_33 rfl (by decide) (by rw [WI4.1, WI4.2])
  · have Bc3 := Wy2.2 c3
    refine e_aload_n dX4_readLettered_15 rfl ?_
    refine e_getr dX4_readLettered_16 fO_4_34 (tr_pos hu) (tr_s0 hg hu) rfl (tr_p1 hg hu) ?_
    refine e_iload_n dX4_readLettered_19 rfl ?_
    obtain ⟨h5, Vh5⟩ := Bc3
    refine e_iald dX4_readLettered_20 (Nat.succ_pos _) (tr_s1 hg hu) h5.1 h5.2 ?_
    obtain ⟨r8, J6, h7, Vh7⟩ := Vh5
    refine e_calls (av := [.inl (I (u + 1) y2.toNat)]) (st := []) dX4_readLettered_21 cO_4_106 oX6_isSmall rfl rfl (Nat.le_of_ble_eq_true rfl) (by decide) h7 (Nat.le_refl _) (Nat.le_refl _) rfl rfl ?_
    refine e_if_ne (tgt := 34) dX4_readLettered_24 (by decide) (fun c9 => ?_) (fun c9 => ?_)
    · have Ac9 := Vh7.1 c9
      refine e_aload_n dX4_readLettered_34 rfl ?_
      refine e_getr dX4_readLettered_35 fO_4_34 (tr_pos hu) (tr_s0 hg hu) rfl (tr_p1 hg hu) ?_
      refine e_iload_n dX4_readLettered_38 rfl ?_
      obtain ⟨h10, Vh10⟩ := Ac9
      refine e_iald dX4_readLettered_39 (Nat.succ_pos _) (tr_s1 hg hu) h10.1 h10.2 ?_
      refine e_bipush dX4_readLettered_40 (by decide) ⟨by decide, by decide⟩ ?_
      obtain ⟨h11, Vh11⟩ := Vh10
      refine e_isub dX4_readLettered_42 h11 ?_
      refine e_top (fun y12 ey12 => ?_)
      have Wy12 := Vh11 y12 ey12
      refine e_istore dX4_readLettered_43 (by decide) (ls' := [some (.inr (some 51)), some (.inr (some u)), some (.inl x2), some (.inl y2), some (.inl y12), none, none]) rfl ?_
      refine e_aload_n dX4_readLettered_45 rfl ?_
      refine e_iload dX4_readLettered_46 rfl ?_
      obtain ⟨r15, J13, h14, Vh14⟩ := Wy12
      refine e_callv (av := [.inl y12]) (st := []) dX4_readLettered_48 cO_4_109 oX5_kindOf rfl (tr_pos hu) (tr_s0 hg hu) rfl (Nat.le_of_ble_eq_true rfl) (by decide) h14 (Nat.le_refl _) (Nat.le_refl _) rfl rfl ?_
      refine e_istore dX4_readLettered_51 (by decide) (ls' := [some (.inr (some 51)), some (.inr (some u)), some (.inl x2), some (.inl y2), some (.inl y12), some (.inl r15), none]) rfl ?_
      refine e_iload dX4_readLettered_53 rfl ?_
      refine e_iconst dX4_readLettered_55 ⟨by decide, by decide⟩ ?_
      refine e_ic_eq (tgt := 65) dX4_readLettered_56 (by decide) (fun c16 => ?_) (fun c16 => ?_)
      · have Ac16 := Vh14.1 c16
        refine e_aload_n dX4_readLettered_65 rfl ?_
        refine e_aload_n dX4_readLettered_66 rfl ?_
        refine e_iload_n dX4_readLettered_67 rfl ?_
        refine e_iload_n dX4_readLettered_68 rfl ?_
        refine e_iconst dX4_readLettered_69 ⟨by decide, by decide⟩ ?_
        obtain ⟨h17, Vh17⟩ := Ac16
        refine e_iadd dX4_readLettered_70 h17 ?_
        obtain ⟨r20, J18, h19, Vh19⟩ := Vh17
        refine e_callv (av := [.inr (some u), .inl x2, .inl (y2 + 1)]) (st := []) dX4_readLettered_71 cO_4_102 oX4_addPiece rfl (by decide) (gs_51 hg) rfl (Nat.le_of_ble_eq_true rfl) (by decide) h19 (Nat.le_refl _) (Nat.le_refl _) rfl rfl ?_
        refine e_if_ne (tgt := 79) dX4_readLettered_74 (by decide) (fun c21 => ?_) (fun c21 => ?_)
        · have Ac21 := Vh19.1 c21
          refine e_aload_n dX4_readLettered_79 rfl ?_
          refine e_geti dX4_readLettered_80 fO_4_58 (tr_pos hu) (tr_s0 hg hu) rfl ?_
          refine e_iconst dX4_readLettered_83 ⟨by decide, by decide⟩ ?_
          obtain ⟨h22, Vh22⟩ := Ac21
          refine e_isub dX4_readLettered_84 h22 ?_
          refine e_top (fun y23 ey23 => ?_)
          have Wy23 := Vh22 y23 ey23
          refine e_istore dX4_readLettered_85 (by decide) (ls' := [some (.inr (some 51)), some (.inr (some u)), some (.inl x2), some (.inl y2), some (.inl y12), some (.inl r15), some (.inl y23)]) rfl ?_
          refine e_aload_n dX4_readLettered_87 rfl ?_
          refine e_getr dX4_readLettered_88 fO_4_113 (tr_pos hu) (tr_s0 hg hu) rfl (tr_p9 hg hu) ?_
          refine e_iload dX4_readLettered_91 rfl ?_
          refine e_iload dX4_readLettered_93 rfl ?_
          obtain ⟨h25, Vh25⟩ := Wy23
          refine e_iast dX4_readLettered_95 (Nat.succ_pos _) (tr_s9 hg hu) h25.1 h25.2 ?_
          refine e_mem (fun I24 eI24 => ?_)
          have WI24 := Vh25 I24 eI24
          refine e_iload dX4_readLettered_96 rfl ?_
          refine e_iconst dX4_readLettered_98 ⟨by decide, by decide⟩ ?_
          refine e_ic_ne (tgt := 111) dX4_readLettered_99 (by decide) (fun c26 => ?_) (fun c26 => ?_)
          · have Ac26 := WI24.1 c26
            refine e_iload_n dX4_readLettered_111 rfl ?_
            refine e_iconst dX4_readLettered_112 ⟨by decide, by decide⟩ ?_
            refine e_ic_ne (tgt := 126) dX4_readLettered_113 (by decide) (fun c27 => ?_) (fun c27 => ?_)
            · have Ac27 := Ac26.1 c27
              refine e_aload_n dX4_readLettered_126 rfl ?_
              refine e_iconst dX4_readLettered_127 ⟨by decide, by decide⟩ ?_
              refine e_puti dX4_readLettered_128 fO_4_31 (by decide) (gs_51 hg) rfl rfl ?_
              refine e_mem (fun I28 eI28 => ?_)
              have WI28 := Ac27 I28 eI28
              refine e_iconst dX4_readLettered_131 ⟨by decide, by decide⟩ ?_
              exact e_zret dX4_readLettered_132 rfl (by decide) (by rw [WI28.1, WI28.2])
            · have Bc27 := Ac26.2 c27
              refine e_aload_n dX4_readLettered_116 rfl ?_
              refine e_dup dX4_readLettered_117 ?_
              refine e_geti dX4_readLettered_118 fO_4_48 (by decide) (gs_51 hg) rfl ?_
              refine e_iconst dX4_readLettered_121 ⟨by decide, by decide⟩ ?_
              obtain ⟨h29, Vh29⟩ := Bc27
              refine e_iadd dX4_readLettered_122 h29 ?_
              refine e_puti dX4_readLettered_123 fO_4_48 (by decide) (gs_51 hg) rfl rfl ?_
              refine e_mem (fun I30 eI30 => ?_)
              have WI30 := Vh29 I30 eI30
              refine e_aload_n dX4_readLettered_126 rfl ?_
              refine e_iconst dX4_readLettered_127 ⟨by decide, by decide⟩ ?_
              refine e_puti dX4_readLettered_128 fO_4_31 (by decide) (gs_51 hg) rfl rfl ?_
              refine e_mem (fun I31 eI31 => ?_)
              have WI31 := WI30 I31 eI31
              refine e_iconst dX4_readLettered_131 ⟨by decide, by decide⟩ ?_
              exact e_zret dX4_readLettered_132 rfl (by decide) (by rw [WI31.1, WI31.2])
          · have Bc26 := WI24.2 c26
            refine e_aload_n dX4_readLettered_102 rfl ?_
            refine e_getr dX4_readLettered_103 fO_4_61 (tr_pos hu) (tr_s0 hg hu) rfl (tr_p10 hg hu) ?_
            refine e_iload dX4_readLettered_106 rfl ?_
            refine e_iload dX4_readLettered_108 rfl ?_
            obtain ⟨h33, Vh33⟩ := Bc26
            refine e_iast dX4_readLettered_110 (Nat.succ_pos _) (tr_s10 hg hu) h33.1 h33.2 ?_
            refine e_mem (fun I32 eI32 => ?_)
            have WI32 := Vh33 I32 eI32
            refine e_iload_n dX4_readLettered_111 rfl ?_
            refine e_iconst dX4_readLettered_112 ⟨by decide, by decide⟩ ?_
            refine e_ic_ne (tgt := 126) dX4_readLettered_113 (by decide) (fun c34 => ?_) (fun c34 => ?_)
            · have Ac34 := WI32.1 c34
              refine e_aload_n dX4_readLettered_126 rfl ?_
              refine e_iconst dX4_readLettered_127 ⟨by decide, by decide⟩ ?_
              refine e_puti dX4_readLettered_128 fO_4_31 (by decide) (gs_51 hg) rfl rfl ?_
              refine e_mem (fun I35 eI35 => ?_)
              have WI35 := Ac34 I35 eI35
              refine e_iconst dX4_readLettered_131 ⟨by decide, by decide⟩ ?_
              exact e_zret dX4_readLettered_132 rfl (by decide) (by rw [WI35.1, WI35.2])
            · have Bc34 := WI32.2 c34
              refine e_aload_n dX4_readLettered_116 rfl ?_
              refine e_dup dX4_readLettered_117 ?_
              refine e_geti dX4_readLettered_118 fO_4_48 (by decide) (gs_51 hg) rfl ?_
              refine e_iconst dX4_readLettered_121 ⟨by decide, by decide⟩ ?_
              obtain ⟨h36, Vh36⟩ := Bc34
              refine e_iadd dX4_readLettered_122 h36 ?_
              refine e_puti dX4_readLettered_123 fO_4_48 (by decide) (gs_51 hg) rfl rfl ?_
              refine e_mem (fun I37 eI37 => ?_)
              have WI37 := Vh36 I37 eI37
              refine e_aload_n dX4_readLettered_126 rfl ?_
              refine e_iconst dX4_readLettered_127 ⟨by decide, by decide⟩ ?_
              refine e_puti dX4_readLettered_128 fO_4_31 (by decide) (gs_51 hg) rfl rfl ?_
              refine e_mem (fun I38 eI38 => ?_)
              have WI38 := WI37 I38 eI38
              refine e_iconst dX4_readLettered_131 ⟨by decide, by decide⟩ ?_
              exact e_zret dX4_readLettered_132 rfl (by decide) (by rw [WI38.1, WI38.2])
        · have Bc21 := Vh19.2 c21
          refine e_iconst dX4_readLettered_77 ⟨by decide, by decide⟩ ?_
          exact e_zret dX4_readLettered_78 rfl (by decide) (by rw [Bc21.1, Bc21.2])
      · have Bc16 := Vh14.2 c16
        refine e_iload dX4_readLettered_59 rfl ?_
        refine e_iload_n dX4_readLettered_61 rfl ?_
        refine e_ic_ne (tgt := 77) dX4_readLettered_62 (by decide) (fun c39 => ?_) (fun c39 => ?_)
        · have Ac39 := Bc16.1 c39
          refine e_iconst dX4_readLettered_77 ⟨by decide, by decide⟩ ?_
          exact e_zret dX4_readLettered_78 rfl (by decide) (by rw [Ac39.1, Ac39.2])
        · have Bc39 := Bc16.2 c39
          refine e_aload_n dX4_readLettered_65 rfl ?_
          refine e_aload_n dX4_readLettered_66 rfl ?_
          refine e_iload_n dX4_readLettered_67 rfl ?_
          refine e_iload_n dX4_readLettered_68 rfl ?_
          refine e_iconst dX4_readLettered_69 ⟨by decide, by decide⟩ ?_
          obtain ⟨h40, Vh40⟩ := Bc39
          refine e_iadd dX4_readLettered_70 h40 ?_
          obtain ⟨r43, J41, h42, Vh42⟩ := Vh40
          refine e_callv (av := [.inr (some u), .inl x2, .inl (y2 + 1)]) (st := []) dX4_readLettered_71 cO_4_102 oX4_addPiece rfl (by decide) (gs_51 hg) rfl (Nat.le_of_ble_eq_true rfl) (by decide) h42 (Nat.le_refl _) (Nat.le_refl _) rfl rfl ?_
          refine e_if_ne (tgt := 79) dX4_readLettered_74 (by decide) (fun c44 => ?_) (fun c44 => ?_)
          · have Ac44 := Vh42.1 c44
            refine e_aload_n dX4_readLettered_79 rfl ?_
            refine e_geti dX4_readLettered_80 fO_4_58 (tr_pos hu) (tr_s0 hg hu) rfl ?_
            refine e_iconst dX4_readLettered_83 ⟨by decide, by decide⟩ ?_
            obtain ⟨h45, Vh45⟩ := Ac44
            refine e_isub dX4_readLettered_84 h45 ?_
            refine e_top (fun y46 ey46 => ?_)
            have Wy46 := Vh45 y46 ey46
            refine e_istore dX4_readLettered_85 (by decide) (ls' := [some (.inr (some 51)), some (.inr (some u)), some (.inl x2), some (.inl y2), some (.inl y12), some (.inl r15), some (.inl y46)]) rfl ?_
            refine e_aload_n dX4_readLettered_87 rfl ?_
            refine e_getr dX4_readLettered_88 fO_4_113 (tr_pos hu) (tr_s0 hg hu) rfl (tr_p9 hg hu) ?_
            refine e_iload dX4_readLettered_91 rfl ?_
            refine e_iload dX4_readLettered_93 rfl ?_
            obtain ⟨h48, Vh48⟩ := Wy46
            refine e_iast dX4_readLettered_95 (Nat.succ_pos _) (tr_s9 hg hu) h48.1 h48.2 ?_
            refine e_mem (fun I47 eI47 => ?_)
            have WI47 := Vh48 I47 eI47
            refine e_iload dX4_readLettered_96 rfl ?_
            refine e_iconst dX4_readLettered_98 ⟨by decide, by decide⟩ ?_
            refine e_ic_ne (tgt := 111) dX4_readLettered_99 (by decide) (fun c49 => ?_) (fun c49 => ?_)
            · have Ac49 := WI47.1 c49
              refine e_iload_n dX4_readLettered_111 rfl ?_
              refine e_iconst dX4_readLettered_112 ⟨by decide, by decide⟩ ?_
              refine e_ic_ne (tgt := 126) dX4_readLettered_113 (by decide) (fun c50 => ?_) (fun c50 => ?_)
              · have Ac50 := Ac49.1 c50
                refine e_aload_n dX4_readLettered_126 rfl ?_
                refine e_iconst dX4_readLettered_127 ⟨by decide, by decide⟩ ?_
                refine e_puti dX4_readLettered_128 fO_4_31 (by decide) (gs_51 hg) rfl rfl ?_
                refine e_mem (fun I51 eI51 => ?_)
                have WI51 := Ac50 I51 eI51
                refine e_iconst dX4_readLettered_131 ⟨by decide, by decide⟩ ?_
                exact e_zret dX4_readLettered_132 rfl (by decide) (by rw [WI51.1, WI51.2])
              · have Bc50 := Ac49.2 c50
                refine e_aload_n dX4_readLettered_116 rfl ?_
                refine e_dup dX4_readLettered_117 ?_
                refine e_geti dX4_readLettered_118 fO_4_48 (by decide) (gs_51 hg) rfl ?_
                refine e_iconst dX4_readLettered_121 ⟨by decide, by decide⟩ ?_
                obtain ⟨h52, Vh52⟩ := Bc50
                refine e_iadd dX4_readLettered_122 h52 ?_
                refine e_puti dX4_readLettered_123 fO_4_48 (by decide) (gs_51 hg) rfl rfl ?_
                refine e_mem (fun I53 eI53 => ?_)
                have WI53 := Vh52 I53 eI53
                refine e_aload_n dX4_readLettered_126 rfl ?_
                refine e_iconst dX4_readLettered_127 ⟨by decide, by decide⟩ ?_
                refine e_puti dX4_readLettered_128 fO_4_31 (by decide) (gs_51 hg) rfl rfl ?_
                refine e_mem (fun I54 eI54 => ?_)
                have WI54 := WI53 I54 eI54
                refine e_iconst dX4_readLettered_131 ⟨by decide, by decide⟩ ?_
                exact e_zret dX4_readLettered_132 rfl (by decide) (by rw [WI54.1, WI54.2])
            · have Bc49 := WI47.2 c49
              refine e_aload_n dX4_readLettered_102 rfl ?_
              refine e_getr dX4_readLettered_103 fO_4_61 (tr_pos hu) (tr_s0 hg hu) rfl (tr_p10 hg hu) ?_
              refine e_iload dX4_readLettered_106 rfl ?_
              refine e_iload dX4_readLettered_108 rfl ?_
              obtain ⟨h56, Vh56⟩ := Bc49
              refine e_iast dX4_readLettered_110 (Nat.succ_pos _) (tr_s10 hg hu) h56.1 h56.2 ?_
              refine e_mem (fun I55 eI55 => ?_)
              have WI55 := Vh56 I55 eI55
              refine e_iload_n dX4_readLettered_111 rfl ?_
              refine e_iconst dX4_readLettered_112 ⟨by decide, by decide⟩ ?_
              refine e_ic_ne (tgt := 126) dX4_readLettered_113 (by decide) (fun c57 => ?_) (fun c57 => ?_)
              · have Ac57 := WI55.1 c57
                refine e_aload_n dX4_readLettered_126 rfl ?_
                refine e_iconst dX4_readLettered_127 ⟨by decide, by decide⟩ ?_
                refine e_puti dX4_readLettered_128 fO_4_31 (by decide) (gs_51 hg) rfl rfl ?_
                refine e_mem (fun I58 eI58 => ?_)
                have WI58 := Ac57 I58 eI58
                refine e_iconst dX4_readLettered_131 ⟨by decide, by decide⟩ ?_
                exact e_zret dX4_readLettered_132 rfl (by decide) (by rw [WI58.1, WI58.2])
              · have Bc57 := WI55.2 c57
                refine e_aload_n dX4_readLettered_116 rfl ?_
                refine e_dup dX4_readLettered_117 ?_
                refine e_geti dX4_readLettered_118 fO_4_48 (by decide) (gs_51 hg) rfl ?_
                refine e_iconst dX4_readLettered_121 ⟨by decide, by decide⟩ ?_
                obtain ⟨h59, Vh59⟩ := Bc57
                refine e_iadd dX4_readLettered_122 h59 ?_
                refine e_puti dX4_readLettered_123 fO_4_48 (by decide) (gs_51 hg) rfl rfl ?_
                refine e_mem (fun I60 eI60 => ?_)
                have WI60 := Vh59 I60 eI60
                refine e_aload_n dX4_readLettered_126 rfl ?_
                refine e_iconst dX4_readLettered_127 ⟨by decide, by decide⟩ ?_
                refine e_puti dX4_readLettered_128 fO_4_31 (by decide) (gs_51 hg) rfl rfl ?_
                refine e_mem (fun I61 eI61 => ?_)
                have WI61 := WI60 I61 eI61
                refine e_iconst dX4_readLettered_131 ⟨by decide, by decide⟩ ?_
                exact e_zret dX4_readLettered_132 rfl (by decide) (by rw [WI61.1, WI61.2])
          · have Bc44 := Vh42.2 c44
            refine e_iconst dX4_readLettered_77 ⟨by decide, by decide⟩ ?_
            exact e_zret dX4_readLettered_78 rfl (by decide) (by rw [Bc44.1, Bc44.2])
    · have Bc9 := Vh7.2 c9
      refine e_aload_n dX4_readLettered_27 rfl ?_
      refine e_iload_n dX4_readLettered_28 rfl ?_
      refine e_puti dX4_readLettered_29 fO_4_25 (by decide) (gs_51 hg) rfl rfl ?_
      refine e_mem (fun I62 eI62 => ?_)
      have WI62 := Bc9 I62 eI62
      refine e_iconst dX4_readLettered_32 ⟨by decide, by decide⟩ ?_
      exact e_zret dX4_readLettered_33 rfl (by decide) (by rw [WI62.1, WI62.2])
set_option maxRecDepth 100000 in
set_option maxHeartbeats 4000000 in
theorem v_X4_readDeep_0 {Γ : GX} {g : AG} {I J : Nat → Nat → Int} {r : Option AV} (hg : GOc g) (u : Nat) (hu : Tr u)
    (V : ∀ I1 : Nat → Nat → Int, I1 = mset I 51 6 (I u 2) → (∀ I2 : Nat → Nat → Int, I2 = mset I1 51 7 1 → (∀ I3 : Nat → Nat → Int, I3 = mset I2 51 2 2 → (inR ((I3 51 1) + 1) ∧ (∃ (r7 : Int) (J5 : Nat → Nat → Int), CT Γ 0 mX4_addPiece [.inr (some 51), .inr (some u), .inl 3, .inl ((I3 51 1) + 1)] (g, I3) (some (.inl r7), (g, J5)) ∧ ((r7 = 0 ∨ r7 = 1) ∧ r = some (.inl r7) ∧ J = J5)))))) : Ev Γ 1 mX4_readDeep 0 [some (.inr (some 51)), some (.inr (some u))] [] (g, I) (r, (g, J)) := by
  refine e_aload_n dX4_readDeep_0 rfl ?_
  refine e_aload_n dX4_readDeep_1 rfl ?_
  refine e_geti dX4_readDeep_2 fO_4_58 (tr_pos hu) (tr_s0 hg hu) rfl ?_
  refine e_puti dX4_readDeep_5 fO_4_51 (by decide) (gs_51 hg) rfl rfl ?_
  refine e_mem (fun I1 eI1 => ?_)
  have WI1 := V I1 eI1
  refine e_aload_n dX4_readDeep_8 rfl ?_
  refine e_iconst dX4_readDeep_9 ⟨by decide, by decide⟩ ?_
  refine e_putz dX4_readDeep_10 fO_4_54 (by decide) (gs_51 hg) rfl rfl (by decide) ?_
  refine e_mem (fun I2 eI2 => ?_)
  have WI2 := WI1 I2 eI2
  refine e_aload_n dX4_readDeep_13 rfl ?_
  refine e_iconst dX4_readDeep_14 ⟨by decide, by decide⟩ ?_
  refine e_puti dX4_readDeep_15 fO_4_31 (by decide) (gs_51 hg) rfl rfl ?_
  refine e_mem (fun I3 eI3 => ?_)
  have WI3 := WI2 I3 eI3
  refine e_aload_n dX4_readDeep_18 rfl ?_
  refine e_aload_n dX4_readDeep_19 rfl ?_
  refine e_iconst dX4_readDeep_20 ⟨by decide, by decide⟩ ?_
  refine e_aload_n dX4_readDeep_21 rfl ?_
  refine e_geti dX4_readDeep_22 fO_4_25 (by decide) (gs_51 hg) rfl ?_
  refine e_iconst dX4_readDeep_25 ⟨by decide, by decide⟩ ?_
  obtain ⟨h4, Vh4⟩ := WI3
  refine e_iadd dX4_readDeep_26 h4 ?_
  obtain ⟨r7, J5, h6, Vh6⟩ := Vh4
  refine e_callv (av := [.inr (some u), .inl 3, .inl ((I3 51 1) + 1)]) (st := []) dX4_readDeep_27 cO_4_102 oX4_addPiece rfl (by decide) (gs_51 hg) rfl (Nat.le_of_ble_eq_true rfl) (by decide) h6 (Nat.le_refl _) (Nat.le_refl _) rfl rfl ?_
  exact e_zret dX4_readDeep_30 rfl Vh6.1 (by rw [Vh6.2.1, Vh6.2.2])
set_option maxRecDepth 100000 in
set_option maxHeartbeats 4000000 in
theorem v_X4_addPiece_0 {Γ : GX} {g : AG} {I J : Nat → Nat → Int} {r : Option AV} (hg : GOc g) (u : Nat) (hu : Tr u) (x2 : Int) (x3 : Int)
    (V : ∀ y1 : Int, y1 = (I u 2) → ((((y1 < 120)) → (((0 : Int) ≤ y1 ∧ (y1 : Int) < 120) ∧ (∀ I3 : Nat → Nat → Int, I3 = mset I (u + 2) y1.toNat x2 → (((0 : Int) ≤ y1 ∧ (y1 : Int) < 120) ∧ (∀ I5 : Nat → Nat → Int, I5 = mset I3 (u + 3) y1.toNat (I3 51 1) → (((0 : Int) ≤ y1 ∧ (y1 : Int) < 120) ∧ (∀ I7 : Nat → Nat → Int, I7 = mset I5 (u + 4) y1.toNat x3 → (((0 : Int) ≤ y1 ∧ (y1 : Int) < 120) ∧ (∀ I9 : Nat → Nat → Int, I9 = mset I7 (u + 5) y1.toNat x3 → (((0 : Int) ≤ y1 ∧ (y1 : Int) < 120) ∧ (∀ I11 : Nat → Nat → Int, I11 = mset I9 (u + 6) y1.toNat (I9 51 3) → (((0 : Int) ≤ y1 ∧ (y1 : Int) < 120) ∧ (∀ I13 : Nat → Nat → Int, I13 = mset I11 (u + 7) y1.toNat (-1) → (((0 : Int) ≤ y1 ∧ (y1 : Int) < 120) ∧ (∀ I15 : Nat → Nat → Int, I15 = mset I13 (u + 8) y1.toNat 1 → (((0 : Int) ≤ y1 ∧ (y1 : Int) < 120) ∧ (∀ I17 : Nat → Nat → Int, I17 = mset I15 (u + 9) y1.toNat (-1) → (((((I17 51 3) = (-1))) → (inR (y1 + 1) ∧ (∀ I21 : Nat → Nat → Int, I21 = mset I17 u 2 (y1 + 1) → (∀ I22 : Nat → Nat → Int, I22 = mset I21 51 1 x3 → (r = some (.inl 1) ∧ J = I22))))) ∧ ((¬ ((I17 51 3) = (-1))) → (((0 : Int) ≤ (I17 51 3) ∧ ((I17 51 3) : Int) < 120) ∧ (((¬ ((I17 (u + 2) (I17 51 3).toNat) = 0)) → (inR (y1 + 1) ∧ (∀ I26 : Nat → Nat → Int, I26 = mset I17 u 2 (y1 + 1) → (∀ I27 : Nat → Nat → Int, I27 = mset I26 51 1 x3 → (r = some (.inl 1) ∧ J = I27))))) ∧ ((((I17 (u + 2) (I17 51 3).toNat) = 0)) → (((0 : Int) ≤ (I17 51 3) ∧ ((I17 51 3) : Int) < 120) ∧ (inR ((I17 (u + 7) (I17 51 3).toNat) + 1) ∧ (((0 : Int) ≤ (I17 51 3) ∧ ((I17 51 3) : Int) < 120) ∧ (∀ I30 : Nat → Nat → Int, I30 = mset I17 (u + 7) (I17 51 3).toNat ((I17 (u + 7) (I17 51 3).toNat) + 1) → (inR (y1 + 1) ∧ (∀ I33 : Nat → Nat → Int, I33 = mset I30 u 2 (y1 + 1) → (∀ I34 : Nat → Nat → Int, I34 = mset I33 51 1 x3 → (r = some (.inl 1) ∧ J = I34)))))))))))))))))))))))))))))) ∧ ((¬ (y1 < 120)) → (r = some (.inl 0) ∧ J = I)))) : Ev Γ 0 mX4_addPiece 0 [some (.inr (some 51)), some (.inr (some u)), some (.inl x2), some (.inl x3), none] [] (g, I) (r, (g, J)) := by
  refine e_aload_n dX4_addPiece_0 rfl ?_
  refine e_geti dX4_addPiece_1 fO_4_58 (tr_pos hu) (tr_s0 hg hu) rfl ?_
  refine e_top (fun y1 ey1 => ?_)
  have Wy1 := V y1 ey1
  refine e_istore dX4_addPiece_4 (by decide) (ls' := [some (.inr (some 51)), some (.inr (some u)), some (.inl x2), some (.inl x3), some (.inl y1)]) rfl ?_
  refine e_iload dX4_addPiece_6 rfl ?_
  refine e_bipush dX4_addPiece_8 (by decide) ⟨by decide, by decide⟩ ?_
  refine e_ic_lt (tgt := 15) dX4_addPiece_10 (by decide) (fun c2 => ?_) (fun c2 => ?_)
  · have Ac2 := Wy1.1 c2
    refine e_aload_n dX4_addPiece_15 rfl ?_
    refine e_getr dX4_addPiece_16 fO_4_99 (tr_pos hu) (tr_s0 hg hu) rfl (tr_p2 hg hu) ?_
    refine e_iload dX4_addPiece_19 rfl ?_
    refine e_iload_n dX4_addPiece_21 rfl ?_
    obtain ⟨h4, Vh4⟩ := Ac2
    refine e_iast dX4_addPiece_22 (Nat.succ_pos _) (tr_s2 hg hu) h4.1 h4.2 ?_
    refine e_mem (fun I3 eI3 => ?_)
    have WI3 := Vh4 I3 eI3
    refine e_aload_n dX4_addPiece_23 rfl ?_
    refine e_getr dX4_addPiece_24 fO_4_116 (tr_pos hu) (tr_s0 hg hu) rfl (tr_p3 hg hu) ?_
    refine e_iload dX4_addPiece_27 rfl ?_
    refine e_aload_n dX4_addPiece_29 rfl ?_
    refine e_geti dX4_addPiece_30 fO_4_25 (by decide) (gs_51 hg) rfl ?_
    obtain ⟨h6, Vh6⟩ := WI3
    refine e_iast dX4_addPiece_33 (Nat.succ_pos _) (tr_s3 hg hu) h6.1 h6.2 ?_
    refine e_mem (fun I5 eI5 => ?_)
    have WI5 := Vh6 I5 eI5
    refine e_aload_n dX4_addPiece_34 rfl ?_
    refine e_getr dX4_addPiece_35 fO_4_119 (tr_pos hu) (tr_s0 hg hu) rfl (tr_p4 hg hu) ?_
    refine e_iload dX4_addPiece_38 rfl ?_
    refine e_iload_n dX4_addPiece_40 rfl ?_
    obtain ⟨h8, Vh8⟩ := WI5
    refine e_iast dX4_addPiece_41 (Nat.succ_pos _) (tr_s4 hg hu) h8.1 h8.2 ?_
    refine e_mem (fun I7 eI7 => ?_)
    have WI7 := Vh8 I7 eI7
    refine e_aload_n dX4_addPiece_42 rfl ?_
    refine e_getr dX4_addPiece_43 fO_4_122 (tr_pos hu) (tr_s0 hg hu) rfl (tr_p5 hg hu) ?_
    refine e_iload dX4_addPiece_46 rfl ?_
    refine e_iload_n dX4_addPiece_48 rfl ?_
    obtain ⟨h10, Vh10⟩ := WI7
    refine e_iast dX4_addPiece_49 (Nat.succ_pos _) (tr_s5 hg hu) h10.1 h10.2 ?_
    refine e_mem (fun I9 eI9 => ?_)
    have WI9 := Vh10 I9 eI9
    refine e_aload_n dX4_addPiece_50 rfl ?_
    refine e_getr dX4_addPiece_51 fO_4_125 (tr_pos hu) (tr_s0 hg hu) rfl (tr_p6 hg hu) ?_
    refine e_iload dX4_addPiece_54 rfl ?_
    refine e_aload_n dX4_addPiece_56 rfl ?_
    refine e_geti dX4_addPiece_57 fO_4_28 (by decide) (gs_51 hg) rfl ?_
    obtain ⟨h12, Vh12⟩ := WI9
    refine e_iast dX4_addPiece_60 (Nat.succ_pos _) (tr_s6 hg hu) h12.1 h12.2 ?_
    refine e_mem (fun I11 eI11 => ?_)
    have WI11 := Vh12 I11 eI11
    refine e_aload_n dX4_addPiece_61 rfl ?_
    refine e_getr dX4_addPiece_62 fO_4_128 (tr_pos hu) (tr_s0 hg hu) rfl (tr_p7 hg hu) ?_
    refine e_iload dX4_addPiece_65 rfl ?_
    refine e_iconst dX4_addPiece_67 ⟨by decide, by decide⟩ ?_
    obtain ⟨h14, Vh14⟩ := WI11
    refine e_iast dX4_addPiece_68 (Nat.succ_pos _) (tr_s7 hg hu) h14.1 h14.2 ?_
    refine e_mem (fun I13 eI13 => ?_)
    have WI13 := Vh14 I13 eI13
    refine e_aload_n dX4_addPiece_69 rfl ?_
    refine e_getr dX4_addPiece_70 fO_4_131 (tr_pos hu) (tr_s0 hg hu) rfl (tr_p8 hg hu) ?_
    refine e_iload dX4_addPiece_73 rfl ?_
    refine e_iconst dX4_addPiece_75 ⟨by decide, by decide⟩ ?_
    obtain ⟨h16, Vh16⟩ := WI13
    refine e_iast dX4_addPiece_76 (Nat.succ_pos _) (tr_s8 hg hu) h16.1 h16.2 ?_
    refine e_mem (fun I15 eI15 => ?_)
    have WI15 := Vh16 I15 eI15
    refine e_aload_n dX4_addPiece_77 rfl ?_
    refine e_getr dX4_addPiece_78 fO_4_113 (tr_pos hu) (tr_s0 hg hu) rfl (tr_p9 hg hu) ?_
    refine e_iload dX4_addPiece_81 rfl ?_
    refine e_iconst dX4_addPiece_83 ⟨by decide, by decide⟩ ?_
    obtain ⟨h18, Vh18⟩ := WI15
    refine e_iast dX4_addPiece_84 (Nat.succ_pos _) (tr_s9 hg hu) h18.1 h18.2 ?_
    refine e_mem (fun I17 eI17 => ?_)
    have WI17 := Vh18 I17 eI17
    refine e_aload_n dX4_addPiece_85 rfl ?_
    refine e_geti dX4_addPiece_86 fO_4_28 (by decide) (gs_51 hg) rfl ?_
    refine e_iconst dX4_addPiece_89 ⟨by decide, by decide⟩ ?_
    refine e_ic_eq (tgt := 118) dX4_addPiece_90 (by decide) (fun c19 => ?_) (fun c19 => ?_)
    · have Ac19 := WI17.1 c19
      refine e_aload_n dX4_addPiece_118 rfl ?_
      refine e_iload dX4_addPiece_119 rfl ?_
      refine e_iconst dX4_addPiece_121 ⟨by decide, by decide⟩ ?_
      obtain ⟨h20, Vh20⟩ := Ac19
      refine e_iadd dX4_addPiece_122 h20 ?_
      refine e_puti dX4_addPiece_123 fO_4_58 (tr_pos hu) (tr_s0 hg hu) rfl rfl ?_
      refine e_mem (fun I21 eI21 => ?_)
      have WI21 := Vh20 I21 eI21
      refine e_aload_n dX4_addPiece_126 rfl ?_
      refine e_iload_n dX4_addPiece_127 rfl ?_
      refine e_puti dX4_addPiece_128 fO_4_25 (by decide) (gs_51 hg) rfl rfl ?_
      refine e_mem (fun I22 eI22 => ?_)
      have WI22 := WI21 I22 eI22
      refine e_iconst dX4_addPiece_131 ⟨by decide, by decide⟩ ?_
      exact e_zret dX4_addPiece_132 rfl (by decide) (by rw [WI22.1, WI22.2])
    · have Bc19 := WI17.2 c19
      refine e_aload_n dX4_addPiece_93 rfl ?_
      refine e_getr dX4_addPiece_94 fO_4_99 (tr_pos hu) (tr_s0 hg hu) rfl (tr_p2 hg hu) ?_
      refine e_aload_n dX4_addPiece_97 rfl ?_
      refine e_geti dX4_addPiece_98 fO_4_28 (by decide) (gs_51 hg) rfl ?_
      obtain ⟨h23, Vh23⟩ := Bc19
      refine e_iald dX4_addPiece_101 (Nat.succ_pos _) (tr_s2 hg hu) h23.1 h23.2 ?_
      refine e_if_ne (tgt := 118) dX4_addPiece_102 (by decide) (fun c24 => ?_) (fun c24 => ?_)
      · have Ac24 := Vh23.1 c24
        refine e_aload_n dX4_addPiece_118 rfl ?_
        refine e_iload dX4_addPiece_119 rfl ?_
        refine e_iconst dX4_addPiece_121 ⟨by decide, by decide⟩ ?_
        obtain ⟨h25, Vh25⟩ := Ac24
        refine e_iadd dX4_addPiece_122 h25 ?_
        refine e_puti dX4_addPiece_123 fO_4_58 (tr_pos hu) (tr_s0 hg hu) rfl rfl ?_
        refine e_mem (fun I26 eI26 => ?_)
        have WI26 := Vh25 I26 eI26
        refine e_aload_n dX4_addPiece_126 rfl ?_
        refine e_iload_n dX4_addPiece_127 rfl ?_
        refine e_puti dX4_addPiece_128 fO_4_25 (by decide) (gs_51 hg) rfl rfl ?_
        refine e_mem (fun I27 eI27 => ?_)
        have WI27 := WI26 I27 eI27
        refine e_iconst dX4_addPiece_131 ⟨by decide, by decide⟩ ?_
        exact e_zret dX4_addPiece_132 rfl (by decide) (by rw [WI27.1, WI27.2])
      · have Bc24 := Vh23.2 c24
        refine e_aload_n dX4_addPiece_105 rfl ?_
        refine e_getr dX4_addPiece_106 fO_4_128 (tr_pos hu) (tr_s0 hg hu) rfl (tr_p7 hg hu) ?_
        refine e_aload_n dX4_addPiece_109 rfl ?_
        refine e_geti dX4_addPiece_110 fO_4_28 (by decide) (gs_51 hg) rfl ?_
        refine e_dup2 dX4_addPiece_113 ?_
        obtain ⟨h28, Vh28⟩ := Bc24
        refine e_iald dX4_addPiece_114 (Nat.succ_pos _) (tr_s7 hg hu) h28.1 h28.2 ?_
        refine e_iconst dX4_addPiece_115 ⟨by decide, by decide⟩ ?_
        obtain ⟨h29, Vh29⟩ := Vh28
        refine e_iadd dX4_addPiece_116 h29 ?_
        obtain ⟨h31, Vh31⟩ := Vh29
        refine e_iast dX4_addPiece_117 (Nat.succ_pos _) (tr_s7 hg hu) h31.1 h31.2 ?_
        refine e_mem (fun I30 eI30 => ?_)
        have WI30 := Vh31 I30 eI30
        refine e_aload_n dX4_addPiece_118 rfl ?_
        refine e_iload dX4_addPiece_119 rfl ?_
        refine e_iconst dX4_addPiece_121 ⟨by decide, by decide⟩ ?_
        obtain ⟨h32, Vh32⟩ := WI30
        refine e_iadd dX4_addPiece_122 h32 ?_
        refine e_puti dX4_addPiece_123 fO_4_58 (tr_pos hu) (tr_s0 hg hu) rfl rfl ?_
        refine e_mem (fun I33 eI33 => ?_)
        have WI33 := Vh32 I33 eI33
        refine e_aload_n dX4_addPiece_126 rfl ?_
        refine e_iload_n dX4_addPiece_127 rfl ?_
        refine e_puti dX4_addPiece_128 fO_4_25 (by decide) (gs_51 hg) rfl rfl ?_
        refine e_mem (fun I34 eI34 => ?_)
        have WI34 := WI33 I34 eI34
        refine e_iconst dX4_addPiece_131 ⟨by decide, by decide⟩ ?_
        exact e_zret dX4_addPiece_132 rfl (by decide) (by rw [WI34.1, WI34.2])
  · have Bc2 := Wy1.2 c2
    refine e_iconst dX4_addPiece_13 ⟨by decide, by decide⟩ ?_
    exact e_zret dX4_addPiece_14 rfl (by decide) (by rw [Bc2.1, Bc2.2])
set_option maxRecDepth 100000 in
set_option maxHeartbeats 4000000 in
theorem v_X4_readOpening_0 {Γ : GX} {g : AG} {I J : Nat → Nat → Int} {r : Option AV} (hg : GOc g) (u : Nat) (hu : Tr u)
    (V : (((12 ≤ (I 51 4))) → (r = some (.inl 0) ∧ J = I)) ∧ ((¬ (12 ≤ (I 51 4))) → (((¬ ((I u 2) = 0)) → (inR ((I u 2) - 1) ∧ (∀ I4 : Nat → Nat → Int, I4 = mset I 51 3 ((I u 2) - 1) → (inR ((I4 51 4) + 1) ∧ (∀ I6 : Nat → Nat → Int, I6 = mset I4 51 4 ((I4 51 4) + 1) → (inR ((I6 51 1) + 1) ∧ (∀ I8 : Nat → Nat → Int, I8 = mset I6 51 1 ((I6 51 1) + 1) → (((0 : Int) ≤ (I8 51 3) ∧ ((I8 51 3) : Int) < 120) ∧ (((¬ ((I8 (u + 2) (I8 51 3).toNat) = 0)) → (∀ I11 : Nat → Nat → Int, I11 = mset I8 51 2 0 → (r = some (.inl 1) ∧ J = I11))) ∧ ((((I8 (u + 2) (I8 51 3).toNat) = 0)) → (((0 : Int) ≤ (I8 51 3) ∧ ((I8 51 3) : Int) < 120) ∧ (∀ I12 : Nat → Nat → Int, I12 = mset I8 (u + 7) (I8 51 3).toNat 0 → (∀ I14 : Nat → Nat → Int, I14 = mset I12 51 2 1 → (r = some (.inl 1) ∧ J = I14)))))))))))))) ∧ ((((I u 2) = 0)) → (r = some (.inl 0) ∧ J = I))))) : Ev Γ 0 mX4_readOpening 0 [some (.inr (some 51)), some (.inr (some u))] [] (g, I) (r, (g, J)) := by
  refine e_aload_n dX4_readOpening_0 rfl ?_
  refine e_geti dX4_readOpening_1 fO_4_45 (by decide) (gs_51 hg) rfl ?_
  refine e_bipush dX4_readOpening_4 (by decide) ⟨by decide, by decide⟩ ?_
  refine e_ic_ge (tgt := 16) dX4_readOpening_6 (by decide) (fun c1 => ?_) (fun c1 => ?_)
  · have Ac1 := V.1 c1
    refine e_iconst dX4_readOpening_16 ⟨by decide, by decide⟩ ?_
    exact e_zret dX4_readOpening_17 rfl (by decide) (by rw [Ac1.1, Ac1.2])
  · have Bc1 := V.2 c1
    refine e_aload_n dX4_readOpening_9 rfl ?_
    refine e_geti dX4_readOpening_10 fO_4_58 (tr_pos hu) (tr_s0 hg hu) rfl ?_
    refine e_if_ne (tgt := 18) dX4_readOpening_13 (by decide) (fun c2 => ?_) (fun c2 => ?_)
    · have Ac2 := Bc1.1 c2
      refine e_aload_n dX4_readOpening_18 rfl ?_
      refine e_aload_n dX4_readOpening_19 rfl ?_
      refine e_geti dX4_readOpening_20 fO_4_58 (tr_pos hu) (tr_s0 hg hu) rfl ?_
      refine e_iconst dX4_readOpening_23 ⟨by decide, by decide⟩ ?_
      obtain ⟨h3, Vh3⟩ := Ac2
      refine e_isub dX4_readOpening_24 h3 ?_
      refine e_puti dX4_readOpening_25 fO_4_28 (by decide) (gs_51 hg) rfl rfl ?_
      refine e_mem (fun I4 eI4 => ?_)
      have WI4 := Vh3 I4 eI4
      refine e_aload_n dX4_readOpening_28 rfl ?_
      refine e_dup dX4_readOpening_29 ?_
      refine e_geti dX4_readOpening_30 fO_4_45 (by decide) (gs_51 hg) rfl ?_
      refine e_iconst dX4_readOpening_33 ⟨by decide, by decide⟩ ?_
      obtain ⟨h5, Vh5⟩ := WI4
      refine e_iadd dX4_readOpening_34 h5 ?_
      refine e_puti dX4_readOpening_35 fO_4_45 (by decide) (gs_51 hg) rfl rfl ?_
      refine e_mem (fun I6 eI6 => ?_)
      have WI6 := Vh5 I6 eI6
      refine e_aload_n dX4_readOpening_38 rfl ?_
      refine e_dup dX4_readOpening_39 ?_
      refine e_geti dX4_readOpening_40 fO_4_25 (by decide) (gs_51 hg) rfl ?_
      refine e_iconst dX4_readOpening_43 ⟨by decide, by decide⟩ ?_
      obtain ⟨h7, Vh7⟩ := WI6
      refine e_iadd dX4_readOpening_44 h7 ?_
      refine e_puti dX4_readOpening_45 fO_4_25 (by decide) (gs_51 hg) rfl rfl ?_
      refine e_mem (fun I8 eI8 => ?_)
      have WI8 := Vh7 I8 eI8
      refine e_aload_n dX4_readOpening_48 rfl ?_
      refine e_getr dX4_readOpening_49 fO_4_99 (tr_pos hu) (tr_s0 hg hu) rfl (tr_p2 hg hu) ?_
      refine e_aload_n dX4_readOpening_52 rfl ?_
      refine e_geti dX4_readOpening_53 fO_4_28 (by decide) (gs_51 hg) rfl ?_
      obtain ⟨h9, Vh9⟩ := WI8
      refine e_iald dX4_readOpening_56 (Nat.succ_pos _) (tr_s2 hg hu) h9.1 h9.2 ?_
      refine e_if_ne (tgt := 78) dX4_readOpening_57 (by decide) (fun c10 => ?_) (fun c10 => ?_)
      · have Ac10 := Vh9.1 c10
        refine e_aload_n dX4_readOpening_78 rfl ?_
        refine e_iconst dX4_readOpening_79 ⟨by decide, by decide⟩ ?_
        refine e_puti dX4_readOpening_80 fO_4_31 (by decide) (gs_51 hg) rfl rfl ?_
        refine e_mem (fun I11 eI11 => ?_)
        have WI11 := Ac10 I11 eI11
        refine e_iconst dX4_readOpening_83 ⟨by decide, by decide⟩ ?_
        exact e_zret dX4_readOpening_84 rfl (by decide) (by rw [WI11.1, WI11.2])
      · have Bc10 := Vh9.2 c10
        refine e_aload_n dX4_readOpening_60 rfl ?_
        refine e_getr dX4_readOpening_61 fO_4_128 (tr_pos hu) (tr_s0 hg hu) rfl (tr_p7 hg hu) ?_
        refine e_aload_n dX4_readOpening_64 rfl ?_
        refine e_geti dX4_readOpening_65 fO_4_28 (by decide) (gs_51 hg) rfl ?_
        refine e_iconst dX4_readOpening_68 ⟨by decide, by decide⟩ ?_
        obtain ⟨h13, Vh13⟩ := Bc10
        refine e_iast dX4_readOpening_69 (Nat.succ_pos _) (tr_s7 hg hu) h13.1 h13.2 ?_
        refine e_mem (fun I12 eI12 => ?_)
        have WI12 := Vh13 I12 eI12
        refine e_aload_n dX4_readOpening_70 rfl ?_
        refine e_iconst dX4_readOpening_71 ⟨by decide, by decide⟩ ?_
        refine e_puti dX4_readOpening_72 fO_4_31 (by decide) (gs_51 hg) rfl rfl ?_
        refine e_mem (fun I14 eI14 => ?_)
        have WI14 := WI12 I14 eI14
        refine e_goto (tgt := 83) dX4_readOpening_75 (by decide) ?_
        refine e_iconst dX4_readOpening_83 ⟨by decide, by decide⟩ ?_
        exact e_zret dX4_readOpening_84 rfl (by decide) (by rw [WI14.1, WI14.2])
    · have Bc2 := Bc1.2 c2
      refine e_iconst dX4_readOpening_16 ⟨by decide, by decide⟩ ?_
      exact e_zret dX4_readOpening_17 rfl (by decide) (by rw [Bc2.1, Bc2.2])
set_option maxRecDepth 100000 in
set_option maxHeartbeats 4000000 in
theorem v_X4_readBehindPiece_0 {Γ : GX} {g : AG} {I J : Nat → Nat → Int} {r : Option AV} (hg : GOc g) (u : Nat) (hu : Tr u) (x2 : Int)
    (V : ((¬ (x2 = 41)) → (((¬ (x2 = 44)) → (r = some (.inl 0) ∧ J = I)) ∧ (((x2 = 44)) → (∃ (r5 : Int) (J3 : Nat → Nat → Int), CT Γ 0 mX4_isWithinTerm [.inr (some 51), .inr (some u)] (g, I) (some (.inl r5), (g, J3)) ∧ (((¬ (r5 = 0)) → (inR ((J3 51 1) + 1) ∧ (∀ I8 : Nat → Nat → Int, I8 = mset J3 51 1 ((J3 51 1) + 1) → (∀ I9 : Nat → Nat → Int, I9 = mset I8 51 2 0 → (r = some (.inl 1) ∧ J = I9))))) ∧ (((r5 = 0)) → (r = some (.inl 0) ∧ J = J3))))))) ∧ (((x2 = 41)) → (∃ (r12 : Int) (J10 : Nat → Nat → Int), CT Γ 0 mX4_readClosing [.inr (some 51), .inr (some u)] (g, I) (some (.inl r12), (g, J10)) ∧ ((r12 = 0 ∨ r12 = 1) ∧ r = some (.inl r12) ∧ J = J10)))) : Ev Γ 1 mX4_readBehindPiece 0 [some (.inr (some 51)), some (.inr (some u)), some (.inl x2)] [] (g, I) (r, (g, J)) := by
  refine e_iload_n dX4_readBehindPiece_0 rfl ?_
  refine e_bipush dX4_readBehindPiece_1 (by decide) ⟨by decide, by decide⟩ ?_
  refine e_ic_ne (tgt := 12) dX4_readBehindPiece_3 (by decide) (fun c1 => ?_) (fun c1 => ?_)
  · have Ac1 := V.1 c1
    refine e_iload_n dX4_readBehindPiece_12 rfl ?_
    refine e_bipush dX4_readBehindPiece_13 (by decide) ⟨by decide, by decide⟩ ?_
    refine e_ic_ne (tgt := 26) dX4_readBehindPiece_15 (by decide) (fun c2 => ?_) (fun c2 => ?_)
    · have Ac2 := Ac1.1 c2
      refine e_iconst dX4_readBehindPiece_26 ⟨by decide, by decide⟩ ?_
      exact e_zret dX4_readBehindPiece_27 rfl (by decide) (by rw [Ac2.1, Ac2.2])
    · have Bc2 := Ac1.2 c2
      refine e_aload_n dX4_readBehindPiece_18 rfl ?_
      refine e_aload_n dX4_readBehindPiece_19 rfl ?_
      obtain ⟨r5, J3, h4, Vh4⟩ := Bc2
      refine e_callv (av := [.inr (some u)]) (st := []) dX4_readBehindPiece_20 cO_4_96 oX4_isWithinTerm rfl (by decide) (gs_51 hg) rfl (Nat.le_of_ble_eq_true rfl) (by decide) h4 (Nat.le_refl _) (Nat.le_refl _) rfl rfl ?_
      refine e_if_ne (tgt := 28) dX4_readBehindPiece_23 (by decide) (fun c6 => ?_) (fun c6 => ?_)
      · have Ac6 := Vh4.1 c6
        refine e_aload_n dX4_readBehindPiece_28 rfl ?_
        refine e_dup dX4_readBehindPiece_29 ?_
        refine e_geti dX4_readBehindPiece_30 fO_4_25 (by decide) (gs_51 hg) rfl ?_
        refine e_iconst dX4_readBehindPiece_33 ⟨by decide, by decide⟩ ?_
        obtain ⟨h7, Vh7⟩ := Ac6
        refine e_iadd dX4_readBehindPiece_34 h7 ?_
        refine e_puti dX4_readBehindPiece_35 fO_4_25 (by decide) (gs_51 hg) rfl rfl ?_
        refine e_mem (fun I8 eI8 => ?_)
        have WI8 := Vh7 I8 eI8
        refine e_aload_n dX4_readBehindPiece_38 rfl ?_
        refine e_iconst dX4_readBehindPiece_39 ⟨by decide, by decide⟩ ?_
        refine e_puti dX4_readBehindPiece_40 fO_4_31 (by decide) (gs_51 hg) rfl rfl ?_
        refine e_mem (fun I9 eI9 => ?_)
        have WI9 := WI8 I9 eI9
        refine e_iconst dX4_readBehindPiece_43 ⟨by decide, by decide⟩ ?_
        exact e_zret dX4_readBehindPiece_44 rfl (by decide) (by rw [WI9.1, WI9.2])
      · have Bc6 := Vh4.2 c6
        refine e_iconst dX4_readBehindPiece_26 ⟨by decide, by decide⟩ ?_
        exact e_zret dX4_readBehindPiece_27 rfl (by decide) (by rw [Bc6.1, Bc6.2])
  · have Bc1 := V.2 c1
    refine e_aload_n dX4_readBehindPiece_6 rfl ?_
    refine e_aload_n dX4_readBehindPiece_7 rfl ?_
    obtain ⟨r12, J10, h11, Vh11⟩ := Bc1
    refine e_callv (av := [.inr (some u)]) (st := []) dX4_readBehindPiece_8 cO_4_71 oX4_readClosing rfl (by decide) (gs_51 hg) rfl (Nat.le_of_ble_eq_true rfl) (by decide) h11 (Nat.le_refl _) (Nat.le_refl _) rfl rfl ?_
    exact e_zret dX4_readBehindPiece_11 rfl Vh11.1 (by rw [Vh11.2.1, Vh11.2.2])
set_option maxRecDepth 100000 in
set_option maxHeartbeats 4000000 in
theorem v_X4_readClosing_0 {Γ : GX} {g : AG} {I J : Nat → Nat → Int} {r : Option AV} (hg : GOc g) (u : Nat) (hu : Tr u)
    (V : ((¬ ((I 51 3) = (-1))) → (inR ((I 51 1) + 1) ∧ (∀ I3 : Nat → Nat → Int, I3 = mset I 51 1 ((I 51 1) + 1) → (inR ((I3 51 4) - 1) ∧ (∀ I5 : Nat → Nat → Int, I5 = mset I3 51 4 ((I3 51 4) - 1) → (((0 : Int) ≤ (I5 51 3) ∧ ((I5 51 3) : Int) < 120) ∧ (∀ I6 : Nat → Nat → Int, I6 = mset I5 (u + 5) (I5 51 3).toNat (I5 51 1) → (inR ((I6 u 2) - (I6 51 3)) ∧ (((0 : Int) ≤ (I6 51 3) ∧ ((I6 51 3) : Int) < 120) ∧ (∀ I9 : Nat → Nat → Int, I9 = mset I6 (u + 8) (I6 51 3).toNat ((I6 u 2) - (I6 51 3)) → (((¬ ((I9 51 3) = (I9 51 6))) → (((0 : Int) ≤ (I9 51 3) ∧ ((I9 51 3) : Int) < 120) ∧ (∀ I13 : Nat → Nat → Int, I13 = mset I9 51 3 (I9 (u + 6) (I9 51 3).toNat) → (∀ I14 : Nat → Nat → Int, I14 = mset I13 51 2 4 → (r = some (.inl 1) ∧ J = I14))))) ∧ ((((I9 51 3) = (I9 51 6))) → (∀ I15 : Nat → Nat → Int, I15 = mset I9 51 7 0 → (((0 : Int) ≤ (I15 51 3) ∧ ((I15 51 3) : Int) < 120) ∧ (∀ I17 : Nat → Nat → Int, I17 = mset I15 51 3 (I15 (u + 6) (I15 51 3).toNat) → (∀ I18 : Nat → Nat → Int, I18 = mset I17 51 2 4 → (r = some (.inl 1) ∧ J = I18))))))))))))))))) ∧ ((((I 51 3) = (-1))) → (r = some (.inl 0) ∧ J = I))) : Ev Γ 0 mX4_readClosing 0 [some (.inr (some 51)), some (.inr (some u))] [] (g, I) (r, (g, J)) := by
  refine e_aload_n dX4_readClosing_0 rfl ?_
  refine e_geti dX4_readClosing_1 fO_4_28 (by decide) (gs_51 hg) rfl ?_
  refine e_iconst dX4_readClosing_4 ⟨by decide, by decide⟩ ?_
  refine e_ic_ne (tgt := 10) dX4_readClosing_5 (by decide) (fun c1 => ?_) (fun c1 => ?_)
  · have Ac1 := V.1 c1
    refine e_aload_n dX4_readClosing_10 rfl ?_
    refine e_dup dX4_readClosing_11 ?_
    refine e_geti dX4_readClosing_12 fO_4_25 (by decide) (gs_51 hg) rfl ?_
    refine e_iconst dX4_readClosing_15 ⟨by decide, by decide⟩ ?_
    obtain ⟨h2, Vh2⟩ := Ac1
    refine e_iadd dX4_readClosing_16 h2 ?_
    refine e_puti dX4_readClosing_17 fO_4_25 (by decide) (gs_51 hg) rfl rfl ?_
    refine e_mem (fun I3 eI3 => ?_)
    have WI3 := Vh2 I3 eI3
    refine e_aload_n dX4_readClosing_20 rfl ?_
    refine e_dup dX4_readClosing_21 ?_
    refine e_geti dX4_readClosing_22 fO_4_45 (by decide) (gs_51 hg) rfl ?_
    refine e_iconst dX4_readClosing_25 ⟨by decide, by decide⟩ ?_
    obtain ⟨h4, Vh4⟩ := WI3
    refine e_isub dX4_readClosing_26 h4 ?_
    refine e_puti dX4_readClosing_27 fO_4_45 (by decide) (gs_51 hg) rfl rfl ?_
    refine e_mem (fun I5 eI5 => ?_)
    have WI5 := Vh4 I5 eI5
    refine e_aload_n dX4_readClosing_30 rfl ?_
    refine e_getr dX4_readClosing_31 fO_4_122 (tr_pos hu) (tr_s0 hg hu) rfl (tr_p5 hg hu) ?_
    refine e_aload_n dX4_readClosing_34 rfl ?_
    refine e_geti dX4_readClosing_35 fO_4_28 (by decide) (gs_51 hg) rfl ?_
    refine e_aload_n dX4_readClosing_38 rfl ?_
    refine e_geti dX4_readClosing_39 fO_4_25 (by decide) (gs_51 hg) rfl ?_
    obtain ⟨h7, Vh7⟩ := WI5
    refine e_iast dX4_readClosing_42 (Nat.succ_pos _) (tr_s5 hg hu) h7.1 h7.2 ?_
    refine e_mem (fun I6 eI6 => ?_)
    have WI6 := Vh7 I6 eI6
    refine e_aload_n dX4_readClosing_43 rfl ?_
    refine e_getr dX4_readClosing_44 fO_4_131 (tr_pos hu) (tr_s0 hg hu) rfl (tr_p8 hg hu) ?_
    refine e_aload_n dX4_readClosing_47 rfl ?_
    refine e_geti dX4_readClosing_48 fO_4_28 (by decide) (gs_51 hg) rfl ?_
    refine e_aload_n dX4_readClosing_51 rfl ?_
    refine e_geti dX4_readClosing_52 fO_4_58 (tr_pos hu) (tr_s0 hg hu) rfl ?_
    refine e_aload_n dX4_readClosing_55 rfl ?_
    refine e_geti dX4_readClosing_56 fO_4_28 (by decide) (gs_51 hg) rfl ?_
    obtain ⟨h8, Vh8⟩ := WI6
    refine e_isub dX4_readClosing_59 h8 ?_
    obtain ⟨h10, Vh10⟩ := Vh8
    refine e_iast dX4_readClosing_60 (Nat.succ_pos _) (tr_s8 hg hu) h10.1 h10.2 ?_
    refine e_mem (fun I9 eI9 => ?_)
    have WI9 := Vh10 I9 eI9
    refine e_aload_n dX4_readClosing_61 rfl ?_
    refine e_geti dX4_readClosing_62 fO_4_28 (by decide) (gs_51 hg) rfl ?_
    refine e_aload_n dX4_readClosing_65 rfl ?_
    refine e_geti dX4_readClosing_66 fO_4_51 (by decide) (gs_51 hg) rfl ?_
    refine e_ic_ne (tgt := 77) dX4_readClosing_69 (by decide) (fun c11 => ?_) (fun c11 => ?_)
    · have Ac11 := WI9.1 c11
      refine e_aload_n dX4_readClosing_77 rfl ?_
      refine e_aload_n dX4_readClosing_78 rfl ?_
      refine e_getr dX4_readClosing_79 fO_4_125 (tr_pos hu) (tr_s0 hg hu) rfl (tr_p6 hg hu) ?_
      refine e_aload_n dX4_readClosing_82 rfl ?_
      refine e_geti dX4_readClosing_83 fO_4_28 (by decide) (gs_51 hg) rfl ?_
      obtain ⟨h12, Vh12⟩ := Ac11
      refine e_iald dX4_readClosing_86 (Nat.succ_pos _) (tr_s6 hg hu) h12.1 h12.2 ?_
      refine e_puti dX4_readClosing_87 fO_4_28 (by decide) (gs_51 hg) rfl rfl ?_
      refine e_mem (fun I13 eI13 => ?_)
      have WI13 := Vh12 I13 eI13
      refine e_aload_n dX4_readClosing_90 rfl ?_
      refine e_iconst dX4_readClosing_91 ⟨by decide, by decide⟩ ?_
      refine e_puti dX4_readClosing_92 fO_4_31 (by decide) (gs_51 hg) rfl rfl ?_
      refine e_mem (fun I14 eI14 => ?_)
      have WI14 := WI13 I14 eI14
      refine e_iconst dX4_readClosing_95 ⟨by decide, by decide⟩ ?_
      exact e_zret dX4_readClosing_96 rfl (by decide) (by rw [WI14.1, WI14.2])
    · have Bc11 := WI9.2 c11
      refine e_aload_n dX4_readClosing_72 rfl ?_
      refine e_iconst dX4_readClosing_73 ⟨by decide, by decide⟩ ?_
      refine e_putz dX4_readClosing_74 fO_4_54 (by decide) (gs_51 hg) rfl rfl (by decide) ?_
      refine e_mem (fun I15 eI15 => ?_)
      have WI15 := Bc11 I15 eI15
      refine e_aload_n dX4_readClosing_77 rfl ?_
      refine e_aload_n dX4_readClosing_78 rfl ?_
      refine e_getr dX4_readClosing_79 fO_4_125 (tr_pos hu) (tr_s0 hg hu) rfl (tr_p6 hg hu) ?_
      refine e_aload_n dX4_readClosing_82 rfl ?_
      refine e_geti dX4_readClosing_83 fO_4_28 (by decide) (gs_51 hg) rfl ?_
      obtain ⟨h16, Vh16⟩ := WI15
      refine e_iald dX4_readClosing_86 (Nat.succ_pos _) (tr_s6 hg hu) h16.1 h16.2 ?_
      refine e_puti dX4_readClosing_87 fO_4_28 (by decide) (gs_51 hg) rfl rfl ?_
      refine e_mem (fun I17 eI17 => ?_)
      have WI17 := Vh16 I17 eI17
      refine e_aload_n dX4_readClosing_90 rfl ?_
      refine e_iconst dX4_readClosing_91 ⟨by decide, by decide⟩ ?_
      refine e_puti dX4_readClosing_92 fO_4_31 (by decide) (gs_51 hg) rfl rfl ?_
      refine e_mem (fun I18 eI18 => ?_)
      have WI18 := WI17 I18 eI18
      refine e_iconst dX4_readClosing_95 ⟨by decide, by decide⟩ ?_
      exact e_zret dX4_readClosing_96 rfl (by decide) (by rw [WI18.1, WI18.2])
  · have Bc1 := V.2 c1
    refine e_iconst dX4_readClosing_8 ⟨by decide, by decide⟩ ?_
    exact e_zret dX4_readClosing_9 rfl (by decide) (by rw [Bc1.1, Bc1.2])
