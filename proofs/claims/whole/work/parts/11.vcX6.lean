set_option maxRecDepth 100000 in
set_option maxHeartbeats 4000000 in
theorem v_X6_feed_0 {Γ : GX} {g : AG} {I J : Nat → Nat → Int} {r : Option AV} (hg : GOc g) (x1 : Int) (x2 : Int) (x3 : Int) (x4 : Int) (x5 : Int)
    (V : ∃ (r3 : Int) (J1 : Nat → Nat → Int), CT Γ 0 mX6_writeFed [.inr (some 1), .inl x1, .inl (I 1 1)] (g, I) (some (.inl r3), (g, J1)) ∧ (∃ (r6 : Int) (J4 : Nat → Nat → Int), CT Γ 0 mX6_writeFed [.inr (some 1), .inl x2, .inl r3] (g, J1) (some (.inl r6), (g, J4)) ∧ (∃ (r9 : Int) (J7 : Nat → Nat → Int), CT Γ 0 mX6_writeFed [.inr (some 1), .inl x3, .inl r6] (g, J4) (some (.inl r9), (g, J7)) ∧ (∃ (r12 : Int) (J10 : Nat → Nat → Int), CT Γ 0 mX6_writeFed [.inr (some 1), .inl x4, .inl r9] (g, J7) (some (.inl r12), (g, J10)) ∧ (∃ (r15 : Int) (J13 : Nat → Nat → Int), CT Γ 0 mX6_writeFed [.inr (some 1), .inl x5, .inl r12] (g, J10) (some (.inl r15), (g, J13)) ∧ ((((r15 ≤ 240)) → (∀ I17 : Nat → Nat → Int, I17 = mset J13 1 1 r15 → (r = some (.inl r15) ∧ J = I17))) ∧ ((¬ (r15 ≤ 240)) → (r = some (.inl (-1)) ∧ J = J13)))))))) : Ev Γ 1 mX6_feed 0 [some (.inr (some 1)), some (.inl x1), some (.inl x2), some (.inl x3), some (.inl x4), some (.inl x5), none] [] (g, I) (r, (g, J)) := by
  refine e_aload_n dX6_feed_0 rfl ?_
  refine e_iload_n dX6_feed_1 rfl ?_
  refine e_aload_n dX6_feed_2 rfl ?_
  refine e_geti dX6_feed_3 fO_6_82 (by decide) (gs_1 hg) rfl ?_
  obtain ⟨r3, J1, h2, Vh2⟩ := V
  refine e_callv (av := [.inl x1, .inl (I 1 1)]) (st := []) dX6_feed_6 cO_6_86 oX6_writeFed rfl (by decide) (gs_1 hg) rfl (Nat.le_of_ble_eq_true rfl) (by decide) h2 (Nat.le_refl _) (Nat.le_refl _) rfl rfl ?_
  refine e_istore dX6_feed_9 (by decide) (ls' := [some (.inr (some 1)), some (.inl x1), some (.inl x2), some (.inl x3), some (.inl x4), some (.inl x5), some (.inl r3)]) rfl ?_
  refine e_aload_n dX6_feed_11 rfl ?_
  refine e_iload_n dX6_feed_12 rfl ?_
  refine e_iload dX6_feed_13 rfl ?_
  obtain ⟨r6, J4, h5, Vh5⟩ := Vh2
  refine e_callv (av := [.inl x2, .inl r3]) (st := []) dX6_feed_15 cO_6_86 oX6_writeFed rfl (by decide) (gs_1 hg) rfl (Nat.le_of_ble_eq_true rfl) (by decide) h5 (Nat.le_refl _) (Nat.le_refl _) rfl rfl ?_
  refine e_istore dX6_feed_18 (by decide) (ls' := [some (.inr (some 1)), some (.inl x1), some (.inl x2), some (.inl x3), some (.inl x4), some (.inl x5), some (.inl r6)]) rfl ?_
  refine e_aload_n dX6_feed_20 rfl ?_
  refine e_iload_n dX6_feed_21 rfl ?_
  refine e_iload dX6_feed_22 rfl ?_
  obtain ⟨r9, J7, h8, Vh8⟩ := Vh5
  refine e_callv (av := [.inl x3, .inl r6]) (st := []) dX6_feed_24 cO_6_86 oX6_writeFed rfl (by decide) (gs_1 hg) rfl (Nat.le_of_ble_eq_true rfl) (by decide) h8 (Nat.le_refl _) (Nat.le_refl _) rfl rfl ?_
  refine e_istore dX6_feed_27 (by decide) (ls' := [some (.inr (some 1)), some (.inl x1), some (.inl x2), some (.inl x3), some (.inl x4), some (.inl x5), some (.inl r9)]) rfl ?_
  refine e_aload_n dX6_feed_29 rfl ?_
  refine e_iload dX6_feed_30 rfl ?_
  refine e_iload dX6_feed_32 rfl ?_
  obtain ⟨r12, J10, h11, Vh11⟩ := Vh8
  refine e_callv (av := [.inl x4, .inl r9]) (st := []) dX6_feed_34 cO_6_86 oX6_writeFed rfl (by decide) (gs_1 hg) rfl (Nat.le_of_ble_eq_true rfl) (by decide) h11 (Nat.le_refl _) (Nat.le_refl _) rfl rfl ?_
  refine e_istore dX6_feed_37 (by decide) (ls' := [some (.inr (some 1)), some (.inl x1), some (.inl x2), some (.inl x3), some (.inl x4), some (.inl x5), some (.inl r12)]) rfl ?_
  refine e_aload_n dX6_feed_39 rfl ?_
  refine e_iload dX6_feed_40 rfl ?_
  refine e_iload dX6_feed_42 rfl ?_
  obtain ⟨r15, J13, h14, Vh14⟩ := Vh11
  refine e_callv (av := [.inl x5, .inl r12]) (st := []) dX6_feed_44 cO_6_86 oX6_writeFed rfl (by decide) (gs_1 hg) rfl (Nat.le_of_ble_eq_true rfl) (by decide) h14 (Nat.le_refl _) (Nat.le_refl _) rfl rfl ?_
  refine e_istore dX6_feed_47 (by decide) (ls' := [some (.inr (some 1)), some (.inl x1), some (.inl x2), some (.inl x3), some (.inl x4), some (.inl x5), some (.inl r15)]) rfl ?_
  refine e_iload dX6_feed_49 rfl ?_
  refine e_sipush dX6_feed_51 (by decide) ⟨by decide, by decide⟩ ?_
  refine e_ic_le (tgt := 59) dX6_feed_54 (by decide) (fun c16 => ?_) (fun c16 => ?_)
  · have Ac16 := Vh14.1 c16
    refine e_aload_n dX6_feed_59 rfl ?_
    refine e_iload dX6_feed_60 rfl ?_
    refine e_puti dX6_feed_62 fO_6_82 (by decide) (gs_1 hg) rfl rfl ?_
    refine e_mem (fun I17 eI17 => ?_)
    have WI17 := Ac16 I17 eI17
    refine e_iload dX6_feed_65 rfl ?_
    exact e_iret dX6_feed_67 rfl (by rw [WI17.1, WI17.2])
  · have Bc16 := Vh14.2 c16
    refine e_iconst dX6_feed_57 ⟨by decide, by decide⟩ ?_
    exact e_iret dX6_feed_58 rfl (by rw [Bc16.1, Bc16.2])
set_option maxRecDepth 100000 in
set_option maxHeartbeats 4000000 in
theorem v_X6_end_0 {Γ : GX} {g : AG} {I J : Nat → Nat → Int} {r : Option AV} (hg : GOc g) (x1 : Int)
    (V : (((x1 < 0)) → (r = some (.inl 0) ∧ J = I)) ∧ ((¬ (x1 < 0)) → ((((x1 ≤ (I 1 1))) → (∀ I3 : Nat → Nat → Int, I3 = mset I 1 1 x1 → (r = some (.inl 1) ∧ J = I3))) ∧ ((¬ (x1 ≤ (I 1 1))) → (r = some (.inl 0) ∧ J = I))))) : Ev Γ 0 mX6_end 0 [some (.inr (some 1)), some (.inl x1)] [] (g, I) (r, (g, J)) := by
  refine e_iload_n dX6_end_0 rfl ?_
  refine e_if_lt (tgt := 12) dX6_end_1 (by decide) (fun c1 => ?_) (fun c1 => ?_)
  · have Ac1 := V.1 c1
    refine e_iconst dX6_end_12 ⟨by decide, by decide⟩ ?_
    exact e_zret dX6_end_13 rfl (by decide) (by rw [Ac1.1, Ac1.2])
  · have Bc1 := V.2 c1
    refine e_iload_n dX6_end_4 rfl ?_
    refine e_aload_n dX6_end_5 rfl ?_
    refine e_geti dX6_end_6 fO_6_82 (by decide) (gs_1 hg) rfl ?_
    refine e_ic_le (tgt := 14) dX6_end_9 (by decide) (fun c2 => ?_) (fun c2 => ?_)
    · have Ac2 := Bc1.1 c2
      refine e_aload_n dX6_end_14 rfl ?_
      refine e_iload_n dX6_end_15 rfl ?_
      refine e_puti dX6_end_16 fO_6_82 (by decide) (gs_1 hg) rfl rfl ?_
      refine e_mem (fun I3 eI3 => ?_)
      have WI3 := Ac2 I3 eI3
      refine e_iconst dX6_end_19 ⟨by decide, by decide⟩ ?_
      exact e_zret dX6_end_20 rfl (by decide) (by rw [WI3.1, WI3.2])
    · have Bc2 := Bc1.2 c2
      refine e_iconst dX6_end_12 ⟨by decide, by decide⟩ ?_
      exact e_zret dX6_end_13 rfl (by decide) (by rw [Bc2.1, Bc2.2])
set_option maxRecDepth 100000 in
set_option maxHeartbeats 4000000 in
theorem v_X6_fault_0 {Γ : GX} {g : AG} {I J : Nat → Nat → Int} {r : Option AV} (hg : GOc g) (x1 : Int)
    (V : ∃ (r3 : Int) (J1 : Nat → Nat → Int), CT Γ 5 mX6_readTape [.inr (some 1), .inl x1] (g, I) (some (.inl r3), (g, J1)) ∧ (r = some (.inl r3) ∧ J = J1)) : Ev Γ 6 mX6_fault 0 [some (.inr (some 1)), some (.inl x1)] [] (g, I) (r, (g, J)) := by
  refine e_aload_n dX6_fault_0 rfl ?_
  refine e_iload_n dX6_fault_1 rfl ?_
  obtain ⟨r3, J1, h2, Vh2⟩ := V
  refine e_callv (av := [.inl x1]) (st := []) dX6_fault_2 cO_6_90 oX6_readTape rfl (by decide) (gs_1 hg) rfl (Nat.le_of_ble_eq_true rfl) (by decide) h2 (Nat.le_refl _) (Nat.le_refl _) rfl rfl ?_
  exact e_iret dX6_fault_5 rfl (by rw [Vh2.1, Vh2.2])
set_option maxRecDepth 100000 in
set_option maxHeartbeats 4000000 in
theorem v_X6_take_0 {Γ : GX} {g : AG} {I J : Nat → Nat → Int} {r : Option AV} (hg : GOc g) (x1 : Int)
    (V : ∃ (r3 : Int) (J1 : Nat → Nat → Int), CT Γ 5 mX6_readTape [.inr (some 1), .inl x1] (g, I) (some (.inl r3), (g, J1)) ∧ ((((r3 = (-1))) → (∃ (J5 : Nat → Nat → Int), CT Γ 3 mX6_adoptSpare [.inr (some 1), .inl x1] (g, J1) (none, (g, J5)) ∧ (∀ I8 : Nat → Nat → Int, I8 = mset J5 1 1 0 → (((¬ (x1 = 0)) → (((¬ (x1 = 1)) → (r = some (.inl 1) ∧ J = I8)) ∧ (((x1 = 1)) → (∃ (J11 : Nat → Nat → Int), CT Γ 0 mX1_forgetDifferences [.inr (some 52)] (g, I8) (none, (g, J11)) ∧ (r = some (.inl 1) ∧ J = J11))))) ∧ (((x1 = 0)) → (∃ (J14 : Nat → Nat → Int), CT Γ 0 mX2_forget [.inr (some 66)] (g, I8) (none, (g, J14)) ∧ (r = some (.inl 1) ∧ J = J14))))))) ∧ ((¬ (r3 = (-1))) → (r = some (.inl 0) ∧ J = J1)))) : Ev Γ 6 mX6_take 0 [some (.inr (some 1)), some (.inl x1)] [] (g, I) (r, (g, J)) := by
  refine e_aload_n dX6_take_0 rfl ?_
  refine e_iload_n dX6_take_1 rfl ?_
  obtain ⟨r3, J1, h2, Vh2⟩ := V
  refine e_callv (av := [.inl x1]) (st := []) dX6_take_2 cO_6_90 oX6_readTape rfl (by decide) (gs_1 hg) rfl (Nat.le_of_ble_eq_true rfl) (by decide) h2 (Nat.le_refl _) (Nat.le_refl _) rfl rfl ?_
  refine e_iconst dX6_take_5 ⟨by decide, by decide⟩ ?_
  refine e_ic_eq (tgt := 11) dX6_take_6 (by decide) (fun c4 => ?_) (fun c4 => ?_)
  · have Ac4 := Vh2.1 c4
    refine e_aload_n dX6_take_11 rfl ?_
    refine e_iload_n dX6_take_12 rfl ?_
    obtain ⟨J5, h6, Vh6⟩ := Ac4
    refine e_callv (av := [.inl x1]) (st := []) dX6_take_13 cO_6_78 oX6_adoptSpare rfl (by decide) (gs_1 hg) rfl (Nat.le_of_ble_eq_true rfl) (by decide) h6 (Nat.le_refl _) (Nat.le_refl _) rfl rfl ?_
    refine e_aload_n dX6_take_16 rfl ?_
    refine e_iconst dX6_take_17 ⟨by decide, by decide⟩ ?_
    refine e_puti dX6_take_18 fO_6_82 (by decide) (gs_1 hg) rfl rfl ?_
    refine e_mem (fun I8 eI8 => ?_)
    have WI8 := Vh6 I8 eI8
    refine e_iload_n dX6_take_21 rfl ?_
    refine e_if_ne (tgt := 35) dX6_take_22 (by decide) (fun c9 => ?_) (fun c9 => ?_)
    · have Ac9 := WI8.1 c9
      refine e_iload_n dX6_take_35 rfl ?_
      refine e_iconst dX6_take_36 ⟨by decide, by decide⟩ ?_
      refine e_ic_ne (tgt := 47) dX6_take_37 (by decide) (fun c10 => ?_) (fun c10 => ?_)
      · have Ac10 := Ac9.1 c10
        refine e_iconst dX6_take_47 ⟨by decide, by decide⟩ ?_
        exact e_zret dX6_take_48 rfl (by decide) (by rw [Ac10.1, Ac10.2])
      · have Bc10 := Ac9.2 c10
        refine e_aload_n dX6_take_40 rfl ?_
        refine e_getr dX6_take_41 fO_6_41 (by decide) (gs_1 hg) rfl (gp_1_7 hg) ?_
        obtain ⟨J11, h12, Vh12⟩ := Bc10
        refine e_callv (av := []) (st := []) dX6_take_44 cO_6_97 oX1_forgetDifferences rfl (by decide) (gs_52 hg) rfl (Nat.le_of_ble_eq_true rfl) (by decide) h12 (Nat.le_refl _) (Nat.le_refl _) rfl rfl ?_
        refine e_iconst dX6_take_47 ⟨by decide, by decide⟩ ?_
        exact e_zret dX6_take_48 rfl (by decide) (by rw [Vh12.1, Vh12.2])
    · have Bc9 := WI8.2 c9
      refine e_aload_n dX6_take_25 rfl ?_
      refine e_getr dX6_take_26 fO_6_66 (by decide) (gs_1 hg) rfl (gp_1_10 hg) ?_
      obtain ⟨J14, h15, Vh15⟩ := Bc9
      refine e_callv (av := []) (st := []) dX6_take_29 cO_6_94 oX2_forget rfl (by decide) (gs_66 hg) rfl (Nat.le_of_ble_eq_true rfl) (by decide) h15 (Nat.le_refl _) (Nat.le_refl _) rfl rfl ?_
      refine e_goto (tgt := 47) dX6_take_32 (by decide) ?_
      refine e_iconst dX6_take_47 ⟨by decide, by decide⟩ ?_
      exact e_zret dX6_take_48 rfl (by decide) (by rw [Vh15.1, Vh15.2])
  · have Bc4 := Vh2.2 c4
    refine e_iconst dX6_take_9 ⟨by decide, by decide⟩ ?_
    exact e_zret dX6_take_10 rfl (by decide) (by rw [Bc4.1, Bc4.2])
set_option maxRecDepth 100000 in
set_option maxHeartbeats 4000000 in
theorem v_X6_differ_0 {Γ : GX} {g : AG} {I J : Nat → Nat → Int} {r : Option AV} (hg : GOc g) (x1 : Int) (x2 : Int) (x3 : Int)
    (V : ∃ (r3 : Int) (J1 : Nat → Nat → Int), CT Γ 0 mX6_isLetter [.inl x1] (g, I) (some (.inl r3), (g, J1)) ∧ ((((r3 = 0)) → (r = some (.inl 0) ∧ J = J1)) ∧ ((¬ (r3 = 0)) → (∃ (r7 : Int) (J5 : Nat → Nat → Int), CT Γ 0 mX6_isLetter [.inl x2] (g, J1) (some (.inl r7), (g, J5)) ∧ ((((r7 = 0)) → (r = some (.inl 0) ∧ J = J5)) ∧ ((¬ (r7 = 0)) → ((((x1 = x2)) → (r = some (.inl 0) ∧ J = J5)) ∧ ((¬ (x1 = x2)) → (∃ (r12 : Int) (J10 : Nat → Nat → Int), CT Γ 0 mX1_mustDiffer [.inr (some 52), .inl x1, .inl x2] (g, J5) (some (.inl r12), (g, J10)) ∧ (((¬ (r12 = x3)) → (∃ (J14 : Nat → Nat → Int), CT Γ 0 mX1_setDiffer [.inr (some 52), .inl x1, .inl x2, .inl x3] (g, J10) (none, (g, J14)) ∧ (r = some (.inl 1) ∧ J = J14))) ∧ (((r12 = x3)) → (r = some (.inl 0) ∧ J = J10)))))))))))) : Ev Γ 1 mX6_differ 0 [some (.inr (some 1)), some (.inl x1), some (.inl x2), some (.inl x3)] [] (g, I) (r, (g, J)) := by
  refine e_iload_n dX6_differ_0 rfl ?_
  obtain ⟨r3, J1, h2, Vh2⟩ := V
  refine e_calls (av := [.inl x1]) (st := []) dX6_differ_1 cO_6_100 oX6_isLetter rfl rfl (Nat.le_of_ble_eq_true rfl) (by decide) h2 (Nat.le_refl _) (Nat.le_refl _) rfl rfl ?_
  refine e_if_eq (tgt := 32) dX6_differ_4 (by decide) (fun c4 => ?_) (fun c4 => ?_)
  · have Ac4 := Vh2.1 c4
    refine e_iconst dX6_differ_32 ⟨by decide, by decide⟩ ?_
    exact e_zret dX6_differ_33 rfl (by decide) (by rw [Ac4.1, Ac4.2])
  · have Bc4 := Vh2.2 c4
    refine e_iload_n dX6_differ_7 rfl ?_
    obtain ⟨r7, J5, h6, Vh6⟩ := Bc4
    refine e_calls (av := [.inl x2]) (st := []) dX6_differ_8 cO_6_100 oX6_isLetter rfl rfl (Nat.le_of_ble_eq_true rfl) (by decide) h6 (Nat.le_refl _) (Nat.le_refl _) rfl rfl ?_
    refine e_if_eq (tgt := 32) dX6_differ_11 (by decide) (fun c8 => ?_) (fun c8 => ?_)
    · have Ac8 := Vh6.1 c8
      refine e_iconst dX6_differ_32 ⟨by decide, by decide⟩ ?_
      exact e_zret dX6_differ_33 rfl (by decide) (by rw [Ac8.1, Ac8.2])
    · have Bc8 := Vh6.2 c8
      refine e_iload_n dX6_differ_14 rfl ?_
      refine e_iload_n dX6_differ_15 rfl ?_
      refine e_ic_eq (tgt := 32) dX6_differ_16 (by decide) (fun c9 => ?_) (fun c9 => ?_)
      · have Ac9 := Bc8.1 c9
        refine e_iconst dX6_differ_32 ⟨by decide, by decide⟩ ?_
        exact e_zret dX6_differ_33 rfl (by decide) (by rw [Ac9.1, Ac9.2])
      · have Bc9 := Bc8.2 c9
        refine e_aload_n dX6_differ_19 rfl ?_
        refine e_getr dX6_differ_20 fO_6_41 (by decide) (gs_1 hg) rfl (gp_1_7 hg) ?_
        refine e_iload_n dX6_differ_23 rfl ?_
        refine e_iload_n dX6_differ_24 rfl ?_
        obtain ⟨r12, J10, h11, Vh11⟩ := Bc9
        refine e_callv (av := [.inl x1, .inl x2]) (st := []) dX6_differ_25 cO_6_104 oX1_mustDiffer rfl (by decide) (gs_52 hg) rfl (Nat.le_of_ble_eq_true rfl) (by decide) h11 (Nat.le_refl _) (Nat.le_refl _) rfl rfl ?_
        refine e_iload_n dX6_differ_28 rfl ?_
        refine e_ic_ne (tgt := 34) dX6_differ_29 (by decide) (fun c13 => ?_) (fun c13 => ?_)
        · have Ac13 := Vh11.1 c13
          refine e_aload_n dX6_differ_34 rfl ?_
          refine e_getr dX6_differ_35 fO_6_41 (by decide) (gs_1 hg) rfl (gp_1_7 hg) ?_
          refine e_iload_n dX6_differ_38 rfl ?_
          refine e_iload_n dX6_differ_39 rfl ?_
          refine e_iload_n dX6_differ_40 rfl ?_
          obtain ⟨J14, h15, Vh15⟩ := Ac13
          refine e_callv (av := [.inl x1, .inl x2, .inl x3]) (st := []) dX6_differ_41 cO_6_108 oX1_setDiffer rfl (by decide) (gs_52 hg) rfl (Nat.le_of_ble_eq_true rfl) (by decide) h15 (Nat.le_refl _) (Nat.le_refl _) rfl rfl ?_
          refine e_iconst dX6_differ_44 ⟨by decide, by decide⟩ ?_
          exact e_zret dX6_differ_45 rfl (by decide) (by rw [Vh15.1, Vh15.2])
        · have Bc13 := Vh11.2 c13
          refine e_iconst dX6_differ_32 ⟨by decide, by decide⟩ ?_
          exact e_zret dX6_differ_33 rfl (by decide) (by rw [Bc13.1, Bc13.2])
set_option maxRecDepth 100000 in
set_option maxHeartbeats 4000000 in
theorem v_X6_nodes_0 {Γ : GX} {g : AG} {I J : Nat → Nat → Int} {r : Option AV} (hg : GOc g) 
    (V : r = some (.inl (I 3 2)) ∧ J = I) : Ev Γ 0 mX6_nodes 0 [some (.inr (some 1))] [] (g, I) (r, (g, J)) := by
  refine e_aload_n dX6_nodes_0 rfl ?_
  refine e_getr dX6_nodes_1 fO_6_16 (by decide) (gs_1 hg) rfl (gp_1_2 hg) ?_
  refine e_geti dX6_nodes_4 fO_6_112 (by decide) (gs_3 hg) rfl ?_
  exact e_iret dX6_nodes_7 rfl (by rw [V.1, V.2])
set_option maxRecDepth 100000 in
set_option maxHeartbeats 4000000 in
theorem v_X6_node_0 {Γ : GX} {g : AG} {I J : Nat → Nat → Int} {r : Option AV} (hg : GOc g) (x1 : Int) (x2 : Int)
    (V : ∃ (r3 : Int) (J1 : Nat → Nat → Int), CT Γ 0 mX6_isNode [.inr (some 1), .inl x1] (g, I) (some (.inl r3), (g, J1)) ∧ (((¬ (r3 = 0)) → ((x2 = 0 → (((0 : Int) ≤ x1 ∧ (x1 : Int) < 120) ∧ (r = some (.inl (J1 6 x1.toNat)) ∧ J = J1))) ∧ (x2 = 1 → (((0 : Int) ≤ x1 ∧ (x1 : Int) < 120) ∧ (r = some (.inl (J1 8 x1.toNat)) ∧ J = J1))) ∧ (x2 = 2 → (((0 : Int) ≤ x1 ∧ (x1 : Int) < 120) ∧ (r = some (.inl (max 0 (J1 10 x1.toNat))) ∧ J = J1))) ∧ (x2 = 3 → (((0 : Int) ≤ x1 ∧ (x1 : Int) < 120) ∧ (r = some (.inl (J1 9 x1.toNat)) ∧ J = J1))) ∧ ((x2 < 0 ∨ 3 < x2) → (r = some (.inl (-1)) ∧ J = J1)))) ∧ (((r3 = 0)) → (r = some (.inl (-1)) ∧ J = J1)))) : Ev Γ 1 mX6_node 0 [some (.inr (some 1)), some (.inl x1), some (.inl x2)] [] (g, I) (r, (g, J)) := by
  refine e_aload_n dX6_node_0 rfl ?_
  refine e_iload_n dX6_node_1 rfl ?_
  obtain ⟨r3, J1, h2, Vh2⟩ := V
  refine e_callv (av := [.inl x1]) (st := []) dX6_node_2 cO_6_115 oX6_isNode rfl (by decide) (gs_1 hg) rfl (Nat.le_of_ble_eq_true rfl) (by decide) h2 (Nat.le_refl _) (Nat.le_refl _) rfl rfl ?_
  refine e_if_ne (tgt := 10) dX6_node_5 (by decide) (fun c4 => ?_) (fun c4 => ?_)
  · have Ac4 := Vh2.1 c4
    refine e_iload_n dX6_node_10 rfl ?_
    by_cases c5 : x2 = 0
    · have Ac5 := Ac4.1 c5
      refine e_tabIn (x := x2) (off := 29) (tgt := 40) dX6_node_11 (by omega) (by omega) (by rw [c5]; rfl) (by decide) ?_
      refine e_aload_n dX6_node_40 rfl ?_
      refine e_getr dX6_node_41 fO_6_16 (by decide) (gs_1 hg) rfl (gp_1_2 hg) ?_
      refine e_getr dX6_node_44 fO_6_118 (by decide) (gs_3 hg) rfl (gp_3_4 hg) ?_
      refine e_iload_n dX6_node_47 rfl ?_
      obtain ⟨h6, Vh6⟩ := Ac5
      refine e_iald dX6_node_48 (by decide) (gs_6 hg) h6.1 h6.2 ?_
      exact e_iret dX6_node_49 rfl (by rw [Vh6.1, Vh6.2])
    by_cases c7 : x2 = 1
    · have Ac7 := Ac4.2.1 c7
      refine e_tabIn (x := x2) (off := 39) (tgt := 50) dX6_node_11 (by omega) (by omega) (by rw [c7]; rfl) (by decide) ?_
      refine e_aload_n dX6_node_50 rfl ?_
      refine e_getr dX6_node_51 fO_6_16 (by decide) (gs_1 hg) rfl (gp_1_2 hg) ?_
      refine e_getr dX6_node_54 fO_6_121 (by decide) (gs_3 hg) rfl (gp_3_6 hg) ?_
      refine e_iload_n dX6_node_57 rfl ?_
      obtain ⟨h8, Vh8⟩ := Ac7
      refine e_iald dX6_node_58 (by decide) (gs_8 hg) h8.1 h8.2 ?_
      exact e_iret dX6_node_59 rfl (by rw [Vh8.1, Vh8.2])
    by_cases c9 : x2 = 2
    · have Ac9 := Ac4.2.2.1 c9
      refine e_tabIn (x := x2) (off := 49) (tgt := 60) dX6_node_11 (by omega) (by omega) (by rw [c9]; rfl) (by decide) ?_
      refine e_iconst dX6_node_60 ⟨by decide, by decide⟩ ?_
      refine e_aload_n dX6_node_61 rfl ?_
      refine e_getr dX6_node_62 fO_6_16 (by decide) (gs_1 hg) rfl (gp_1_2 hg) ?_
      refine e_getr dX6_node_65 fO_6_124 (by decide) (gs_3 hg) rfl (gp_3_8 hg) ?_
      refine e_iload_n dX6_node_68 rfl ?_
      obtain ⟨h10, Vh10⟩ := Ac9
      refine e_iald dX6_node_69 (by decide) (gs_10 hg) h10.1 h10.2 ?_
      refine e_max dX6_node_70 cMax_6_127 (Nat.le_of_ble_eq_true rfl) (by decide) (Nat.le_refl _) (Nat.le_refl _) ?_
      exact e_iret dX6_node_73 rfl (by rw [Vh10.1, Vh10.2])
    by_cases c11 : x2 = 3
    · have Ac11 := Ac4.2.2.2.1 c11
      refine e_tabIn (x := x2) (off := 63) (tgt := 74) dX6_node_11 (by omega) (by omega) (by rw [c11]; rfl) (by decide) ?_
      refine e_aload_n dX6_node_74 rfl ?_
      refine e_getr dX6_node_75 fO_6_16 (by decide) (gs_1 hg) rfl (gp_1_2 hg) ?_
      refine e_getr dX6_node_78 fO_6_132 (by decide) (gs_3 hg) rfl (gp_3_7 hg) ?_
      refine e_iload_n dX6_node_81 rfl ?_
      obtain ⟨h12, Vh12⟩ := Ac11
      refine e_iald dX6_node_82 (by decide) (gs_9 hg) h12.1 h12.2 ?_
      exact e_iret dX6_node_83 rfl (by rw [Vh12.1, Vh12.2])
    have c13 : x2 < 0 ∨ 3 < x2 := by omega
    have Ac13 := Ac4.2.2.2.2 c13
    refine e_tabOut (x := x2) (tgt := 84) dX6_node_11 c13 (by decide) ?_
    refine e_iconst dX6_node_84 ⟨by decide, by decide⟩ ?_
    exact e_iret dX6_node_85 rfl (by rw [Ac13.1, Ac13.2])
  · have Bc4 := Vh2.2 c4
    refine e_iconst dX6_node_8 ⟨by decide, by decide⟩ ?_
    exact e_iret dX6_node_9 rfl (by rw [Bc4.1, Bc4.2])
set_option maxRecDepth 100000 in
set_option maxHeartbeats 4000000 in
theorem v_X6_alike_0 {Γ : GX} {g : AG} {I J : Nat → Nat → Int} {r : Option AV} (hg : GOc g) (x1 : Int) (x2 : Int)
    (V : ∃ (r3 : Int) (J1 : Nat → Nat → Int), CT Γ 0 mX6_isNode [.inr (some 1), .inl x1] (g, I) (some (.inl r3), (g, J1)) ∧ ((((r3 = 0)) → (r = some (.inl 0) ∧ J = J1)) ∧ ((¬ (r3 = 0)) → (∃ (r7 : Int) (J5 : Nat → Nat → Int), CT Γ 0 mX6_isNode [.inr (some 1), .inl x2] (g, J1) (some (.inl r7), (g, J5)) ∧ ((((r7 = 0)) → (r = some (.inl 0) ∧ J = J5)) ∧ ((¬ (r7 = 0)) → (((0 : Int) ≤ x1 ∧ (x1 : Int) < 120) ∧ (((0 : Int) ≤ x2 ∧ (x2 : Int) < 120) ∧ (((¬ ((J5 14 x1.toNat) = (J5 14 x2.toNat))) → (r = some (.inl 0) ∧ J = J5)) ∧ ((((J5 14 x1.toNat) = (J5 14 x2.toNat))) → (r = some (.inl 1) ∧ J = J5))))))))))) : Ev Γ 1 mX6_alike 0 [some (.inr (some 1)), some (.inl x1), some (.inl x2)] [] (g, I) (r, (g, J)) := by
  refine e_aload_n dX6_alike_0 rfl ?_
  refine e_iload_n dX6_alike_1 rfl ?_
  obtain ⟨r3, J1, h2, Vh2⟩ := V
  refine e_callv (av := [.inl x1]) (st := []) dX6_alike_2 cO_6_115 oX6_isNode rfl (by decide) (gs_1 hg) rfl (Nat.le_of_ble_eq_true rfl) (by decide) h2 (Nat.le_refl _) (Nat.le_refl _) rfl rfl ?_
  refine e_if_eq (tgt := 41) dX6_alike_5 (by decide) (fun c4 => ?_) (fun c4 => ?_)
  · have Ac4 := Vh2.1 c4
    refine e_iconst dX6_alike_41 ⟨by decide, by decide⟩ ?_
    exact e_zret dX6_alike_42 rfl (by decide) (by rw [Ac4.1, Ac4.2])
  · have Bc4 := Vh2.2 c4
    refine e_aload_n dX6_alike_8 rfl ?_
    refine e_iload_n dX6_alike_9 rfl ?_
    obtain ⟨r7, J5, h6, Vh6⟩ := Bc4
    refine e_callv (av := [.inl x2]) (st := []) dX6_alike_10 cO_6_115 oX6_isNode rfl (by decide) (gs_1 hg) rfl (Nat.le_of_ble_eq_true rfl) (by decide) h6 (Nat.le_refl _) (Nat.le_refl _) rfl rfl ?_
    refine e_if_eq (tgt := 41) dX6_alike_13 (by decide) (fun c8 => ?_) (fun c8 => ?_)
    · have Ac8 := Vh6.1 c8
      refine e_iconst dX6_alike_41 ⟨by decide, by decide⟩ ?_
      exact e_zret dX6_alike_42 rfl (by decide) (by rw [Ac8.1, Ac8.2])
    · have Bc8 := Vh6.2 c8
      refine e_aload_n dX6_alike_16 rfl ?_
      refine e_getr dX6_alike_17 fO_6_16 (by decide) (gs_1 hg) rfl (gp_1_2 hg) ?_
      refine e_getr dX6_alike_20 fO_6_135 (by decide) (gs_3 hg) rfl (gp_3_12 hg) ?_
      refine e_iload_n dX6_alike_23 rfl ?_
      obtain ⟨h9, Vh9⟩ := Bc8
      refine e_iald dX6_alike_24 (by decide) (gs_14 hg) h9.1 h9.2 ?_
      refine e_aload_n dX6_alike_25 rfl ?_
      refine e_getr dX6_alike_26 fO_6_16 (by decide) (gs_1 hg) rfl (gp_1_2 hg) ?_
      refine e_getr dX6_alike_29 fO_6_135 (by decide) (gs_3 hg) rfl (gp_3_12 hg) ?_
      refine e_iload_n dX6_alike_32 rfl ?_
      obtain ⟨h10, Vh10⟩ := Vh9
      refine e_iald dX6_alike_33 (by decide) (gs_14 hg) h10.1 h10.2 ?_
      refine e_ic_ne (tgt := 41) dX6_alike_34 (by decide) (fun c11 => ?_) (fun c11 => ?_)
      · have Ac11 := Vh10.1 c11
        refine e_iconst dX6_alike_41 ⟨by decide, by decide⟩ ?_
        exact e_zret dX6_alike_42 rfl (by decide) (by rw [Ac11.1, Ac11.2])
      · have Bc11 := Vh10.2 c11
        refine e_iconst dX6_alike_37 ⟨by decide, by decide⟩ ?_
        refine e_goto (tgt := 42) dX6_alike_38 (by decide) ?_
        exact e_zret dX6_alike_42 rfl (by decide) (by rw [Bc11.1, Bc11.2])
set_option maxRecDepth 100000 in
set_option maxHeartbeats 4000000 in
theorem v_X6_matches_0 {Γ : GX} {g : AG} {I J : Nat → Nat → Int} {r : Option AV} (hg : GOc g) 
    (V : ∃ (r3 : Int) (J1 : Nat → Nat → Int), CT Γ 5 mX1_countMatched [.inr (some 52)] (g, I) (some (.inl r3), (g, J1)) ∧ (r = some (.inl r3) ∧ J = J1)) : Ev Γ 6 mX6_matches 0 [some (.inr (some 1))] [] (g, I) (r, (g, J)) := by
  refine e_aload_n dX6_matches_0 rfl ?_
  refine e_getr dX6_matches_1 fO_6_41 (by decide) (gs_1 hg) rfl (gp_1_7 hg) ?_
  obtain ⟨r3, J1, h2, Vh2⟩ := V
  refine e_callv (av := []) (st := []) dX6_matches_4 cO_6_138 oX1_countMatched rfl (by decide) (gs_52 hg) rfl (Nat.le_of_ble_eq_true rfl) (by decide) h2 (Nat.le_refl _) (Nat.le_refl _) rfl rfl ?_
  exact e_iret dX6_matches_7 rfl (by rw [Vh2.1, Vh2.2])
set_option maxRecDepth 100000 in
set_option maxHeartbeats 4000000 in
theorem v_X6_match_0 {Γ : GX} {g : AG} {I J : Nat → Nat → Int} {r : Option AV} (hg : GOc g) (x1 : Int)
    (V : ∃ (r3 : Int) (J1 : Nat → Nat → Int), CT Γ 5 mX1_matchedAt [.inr (some 52), .inl x1] (g, I) (some (.inl r3), (g, J1)) ∧ (r = some (.inl r3) ∧ J = J1)) : Ev Γ 6 mX6_match 0 [some (.inr (some 1)), some (.inl x1)] [] (g, I) (r, (g, J)) := by
  refine e_aload_n dX6_match_0 rfl ?_
  refine e_getr dX6_match_1 fO_6_41 (by decide) (gs_1 hg) rfl (gp_1_7 hg) ?_
  refine e_iload_n dX6_match_4 rfl ?_
  obtain ⟨r3, J1, h2, Vh2⟩ := V
  refine e_callv (av := [.inl x1]) (st := []) dX6_match_5 cO_6_142 oX1_matchedAt rfl (by decide) (gs_52 hg) rfl (Nat.le_of_ble_eq_true rfl) (by decide) h2 (Nat.le_refl _) (Nat.le_refl _) rfl rfl ?_
  exact e_iret dX6_match_8 rfl (by rw [Vh2.1, Vh2.2])
set_option maxRecDepth 100000 in
set_option maxHeartbeats 4000000 in
theorem v_X6_hole_0 {Γ : GX} {g : AG} {I J : Nat → Nat → Int} {r : Option AV} (hg : GOc g) (x1 : Int) (x2 : Int)
    (V : ∃ (r3 : Int) (J1 : Nat → Nat → Int), CT Γ 4 mX6_isBound [.inr (some 1), .inl x1, .inl x2] (g, I) (some (.inl r3), (g, J1)) ∧ ((((r3 = 0)) → (r = some (.inl (-1)) ∧ J = J1)) ∧ ((¬ (r3 = 0)) → (∃ (r7 : Int) (J5 : Nat → Nat → Int), CT Γ 0 mX1_firstNode [.inr (some 52), .inl x2] (g, J1) (some (.inl r7), (g, J5)) ∧ (r = some (.inl r7) ∧ J = J5))))) : Ev Γ 5 mX6_hole 0 [some (.inr (some 1)), some (.inl x1), some (.inl x2)] [] (g, I) (r, (g, J)) := by
  refine e_aload_n dX6_hole_0 rfl ?_
  refine e_iload_n dX6_hole_1 rfl ?_
  refine e_iload_n dX6_hole_2 rfl ?_
  obtain ⟨r3, J1, h2, Vh2⟩ := V
  refine e_callv (av := [.inl x1, .inl x2]) (st := []) dX6_hole_3 cO_6_145 oX6_isBound rfl (by decide) (gs_1 hg) rfl (Nat.le_of_ble_eq_true rfl) (by decide) h2 (Nat.le_refl _) (Nat.le_refl _) rfl rfl ?_
  refine e_if_eq (tgt := 20) dX6_hole_6 (by decide) (fun c4 => ?_) (fun c4 => ?_)
  · have Ac4 := Vh2.1 c4
    refine e_iconst dX6_hole_20 ⟨by decide, by decide⟩ ?_
    exact e_iret dX6_hole_21 rfl (by rw [Ac4.1, Ac4.2])
  · have Bc4 := Vh2.2 c4
    refine e_aload_n dX6_hole_9 rfl ?_
    refine e_getr dX6_hole_10 fO_6_41 (by decide) (gs_1 hg) rfl (gp_1_7 hg) ?_
    refine e_iload_n dX6_hole_13 rfl ?_
    obtain ⟨r7, J5, h6, Vh6⟩ := Bc4
    refine e_callv (av := [.inl x2]) (st := []) dX6_hole_14 cO_6_148 oX1_firstNode rfl (by decide) (gs_52 hg) rfl (Nat.le_of_ble_eq_true rfl) (by decide) h6 (Nat.le_refl _) (Nat.le_refl _) rfl rfl ?_
    refine e_goto (tgt := 21) dX6_hole_17 (by decide) ?_
    exact e_iret dX6_hole_21 rfl (by rw [Vh6.1, Vh6.2])
set_option maxRecDepth 100000 in
set_option maxHeartbeats 4000000 in
theorem v_X6_row_0 {Γ : GX} {g : AG} {I J : Nat → Nat → Int} {r : Option AV} (hg : GOc g) (x1 : Int) (x2 : Int)
    (V : ∃ (r3 : Int) (J1 : Nat → Nat → Int), CT Γ 4 mX6_isBound [.inr (some 1), .inl x1, .inl x2] (g, I) (some (.inl r3), (g, J1)) ∧ ((((r3 = 0)) → (r = some (.inl (-1)) ∧ J = J1)) ∧ ((¬ (r3 = 0)) → (∃ (r7 : Int) (J5 : Nat → Nat → Int), CT Γ 0 mX1_howMany [.inr (some 52), .inl x2] (g, J1) (some (.inl r7), (g, J5)) ∧ (r = some (.inl r7) ∧ J = J5))))) : Ev Γ 5 mX6_row 0 [some (.inr (some 1)), some (.inl x1), some (.inl x2)] [] (g, I) (r, (g, J)) := by
  refine e_aload_n dX6_row_0 rfl ?_
  refine e_iload_n dX6_row_1 rfl ?_
  refine e_iload_n dX6_row_2 rfl ?_
  obtain ⟨r3, J1, h2, Vh2⟩ := V
  refine e_callv (av := [.inl x1, .inl x2]) (st := []) dX6_row_3 cO_6_145 oX6_isBound rfl (by decide) (gs_1 hg) rfl (Nat.le_of_ble_eq_true rfl) (by decide) h2 (Nat.le_refl _) (Nat.le_refl _) rfl rfl ?_
  refine e_if_eq (tgt := 20) dX6_row_6 (by decide) (fun c4 => ?_) (fun c4 => ?_)
  · have Ac4 := Vh2.1 c4
    refine e_iconst dX6_row_20 ⟨by decide, by decide⟩ ?_
    exact e_iret dX6_row_21 rfl (by rw [Ac4.1, Ac4.2])
  · have Bc4 := Vh2.2 c4
    refine e_aload_n dX6_row_9 rfl ?_
    refine e_getr dX6_row_10 fO_6_41 (by decide) (gs_1 hg) rfl (gp_1_7 hg) ?_
    refine e_iload_n dX6_row_13 rfl ?_
    obtain ⟨r7, J5, h6, Vh6⟩ := Bc4
    refine e_callv (av := [.inl x2]) (st := []) dX6_row_14 cO_6_151 oX1_howMany rfl (by decide) (gs_52 hg) rfl (Nat.le_of_ble_eq_true rfl) (by decide) h6 (Nat.le_refl _) (Nat.le_refl _) rfl rfl ?_
    refine e_goto (tgt := 21) dX6_row_17 (by decide) ?_
    exact e_iret dX6_row_21 rfl (by rw [Vh6.1, Vh6.2])
set_option maxRecDepth 100000 in
set_option maxHeartbeats 4000000 in
theorem v_X6_taken_0 {Γ : GX} {g : AG} {I J : Nat → Nat → Int} {r : Option AV} (hg : GOc g) (x1 : Int)
    (V : ∃ (r3 : Int) (J1 : Nat → Nat → Int), CT Γ 0 mX6_isRule [.inl x1] (g, I) (some (.inl r3), (g, J1)) ∧ (((¬ (r3 = 0)) → (∃ (J5 : Nat → Nat → Int), CT Γ 4 mX1_findAll [.inr (some 52)] (g, J1) (none, (g, J5)) ∧ (∃ (J8 : Nat → Nat → Int), CT Γ 1 mX0_choose [.inr (some 61), .inl x1] (g, J5) (none, (g, J8)) ∧ (r = some (.inl (J8 61 3)) ∧ J = J8)))) ∧ (((r3 = 0)) → (r = some (.inl (-1)) ∧ J = J1)))) : Ev Γ 5 mX6_taken 0 [some (.inr (some 1)), some (.inl x1)] [] (g, I) (r, (g, J)) := by
  refine e_iload_n dX6_taken_0 rfl ?_
  obtain ⟨r3, J1, h2, Vh2⟩ := V
  refine e_calls (av := [.inl x1]) (st := []) dX6_taken_1 cO_6_154 oX6_isRule rfl rfl (Nat.le_of_ble_eq_true rfl) (by decide) h2 (Nat.le_refl _) (Nat.le_refl _) rfl rfl ?_
  refine e_if_ne (tgt := 9) dX6_taken_4 (by decide) (fun c4 => ?_) (fun c4 => ?_)
  · have Ac4 := Vh2.1 c4
    refine e_aload_n dX6_taken_9 rfl ?_
    refine e_getr dX6_taken_10 fO_6_41 (by decide) (gs_1 hg) rfl (gp_1_7 hg) ?_
    obtain ⟨J5, h6, Vh6⟩ := Ac4
    refine e_callv (av := []) (st := []) dX6_taken_13 cO_6_157 oX1_findAll rfl (by decide) (gs_52 hg) rfl (Nat.le_of_ble_eq_true rfl) (by decide) h6 (Nat.le_refl _) (Nat.le_refl _) rfl rfl ?_
    refine e_aload_n dX6_taken_16 rfl ?_
    refine e_getr dX6_taken_17 fO_6_50 (by decide) (gs_1 hg) rfl (gp_1_8 hg) ?_
    refine e_iload_n dX6_taken_20 rfl ?_
    obtain ⟨J8, h9, Vh9⟩ := Vh6
    refine e_callv (av := [.inl x1]) (st := []) dX6_taken_21 cO_6_160 oX0_choose rfl (by decide) (gs_61 hg) rfl (Nat.le_of_ble_eq_true rfl) (by decide) h9 (Nat.le_refl _) (Nat.le_refl _) rfl rfl ?_
    refine e_aload_n dX6_taken_24 rfl ?_
    refine e_getr dX6_taken_25 fO_6_50 (by decide) (gs_1 hg) rfl (gp_1_8 hg) ?_
    refine e_geti dX6_taken_28 fO_6_163 (by decide) (gs_61 hg) rfl ?_
    exact e_iret dX6_taken_31 rfl (by rw [Vh9.1, Vh9.2])
  · have Bc4 := Vh2.2 c4
    refine e_iconst dX6_taken_7 ⟨by decide, by decide⟩ ?_
    exact e_iret dX6_taken_8 rfl (by rw [Bc4.1, Bc4.2])
set_option maxRecDepth 100000 in
set_option maxHeartbeats 4000000 in
theorem v_X6_takes_0 {Γ : GX} {g : AG} {I J : Nat → Nat → Int} {r : Option AV} (hg : GOc g) (x1 : Int) (x2 : Int)
    (V : ∃ (r3 : Int) (J1 : Nat → Nat → Int), CT Γ 0 mX6_isRule [.inl x1] (g, I) (some (.inl r3), (g, J1)) ∧ (((¬ (r3 = 0)) → (∃ (J5 : Nat → Nat → Int), CT Γ 4 mX1_findAll [.inr (some 52)] (g, J1) (none, (g, J5)) ∧ (∃ (J8 : Nat → Nat → Int), CT Γ 1 mX0_choose [.inr (some 61), .inl x1] (g, J5) (none, (g, J8)) ∧ ((((x2 < 0)) → (r = some (.inl (-1)) ∧ J = J8)) ∧ ((¬ (x2 < 0)) → (((((J8 61 3) ≤ x2)) → (r = some (.inl (-1)) ∧ J = J8)) ∧ ((¬ ((J8 61 3) ≤ x2)) → (((0 : Int) ≤ x2 ∧ (x2 : Int) < 120) ∧ (r = some (.inl (J8 62 x2.toNat)) ∧ J = J8))))))))) ∧ (((r3 = 0)) → (r = some (.inl (-1)) ∧ J = J1)))) : Ev Γ 5 mX6_takes 0 [some (.inr (some 1)), some (.inl x1), some (.inl x2)] [] (g, I) (r, (g, J)) := by
  refine e_iload_n dX6_takes_0 rfl ?_
  obtain ⟨r3, J1, h2, Vh2⟩ := V
  refine e_calls (av := [.inl x1]) (st := []) dX6_takes_1 cO_6_154 oX6_isRule rfl rfl (Nat.le_of_ble_eq_true rfl) (by decide) h2 (Nat.le_refl _) (Nat.le_refl _) rfl rfl ?_
  refine e_if_ne (tgt := 9) dX6_takes_4 (by decide) (fun c4 => ?_) (fun c4 => ?_)
  · have Ac4 := Vh2.1 c4
    refine e_aload_n dX6_takes_9 rfl ?_
    refine e_getr dX6_takes_10 fO_6_41 (by decide) (gs_1 hg) rfl (gp_1_7 hg) ?_
    obtain ⟨J5, h6, Vh6⟩ := Ac4
    refine e_callv (av := []) (st := []) dX6_takes_13 cO_6_157 oX1_findAll rfl (by decide) (gs_52 hg) rfl (Nat.le_of_ble_eq_true rfl) (by decide) h6 (Nat.le_refl _) (Nat.le_refl _) rfl rfl ?_
    refine e_aload_n dX6_takes_16 rfl ?_
    refine e_getr dX6_takes_17 fO_6_50 (by decide) (gs_1 hg) rfl (gp_1_8 hg) ?_
    refine e_iload_n dX6_takes_20 rfl ?_
    obtain ⟨J8, h9, Vh9⟩ := Vh6
    refine e_callv (av := [.inl x1]) (st := []) dX6_takes_21 cO_6_160 oX0_choose rfl (by decide) (gs_61 hg) rfl (Nat.le_of_ble_eq_true rfl) (by decide) h9 (Nat.le_refl _) (Nat.le_refl _) rfl rfl ?_
    refine e_iload_n dX6_takes_24 rfl ?_
    refine e_if_lt (tgt := 51) dX6_takes_25 (by decide) (fun c11 => ?_) (fun c11 => ?_)
    · have Ac11 := Vh9.1 c11
      refine e_iconst dX6_takes_51 ⟨by decide, by decide⟩ ?_
      exact e_iret dX6_takes_52 rfl (by rw [Ac11.1, Ac11.2])
    · have Bc11 := Vh9.2 c11
      refine e_iload_n dX6_takes_28 rfl ?_
      refine e_aload_n dX6_takes_29 rfl ?_
      refine e_getr dX6_takes_30 fO_6_50 (by decide) (gs_1 hg) rfl (gp_1_8 hg) ?_
      refine e_geti dX6_takes_33 fO_6_163 (by decide) (gs_61 hg) rfl ?_
      refine e_ic_ge (tgt := 51) dX6_takes_36 (by decide) (fun c12 => ?_) (fun c12 => ?_)
      · have Ac12 := Bc11.1 c12
        refine e_iconst dX6_takes_51 ⟨by decide, by decide⟩ ?_
        exact e_iret dX6_takes_52 rfl (by rw [Ac12.1, Ac12.2])
      · have Bc12 := Bc11.2 c12
        refine e_aload_n dX6_takes_39 rfl ?_
        refine e_getr dX6_takes_40 fO_6_50 (by decide) (gs_1 hg) rfl (gp_1_8 hg) ?_
        refine e_getr dX6_takes_43 fO_6_166 (by decide) (gs_61 hg) rfl (gp_61_2 hg) ?_
        refine e_iload_n dX6_takes_46 rfl ?_
        obtain ⟨h13, Vh13⟩ := Bc12
        refine e_iald dX6_takes_47 (by decide) (gs_62 hg) h13.1 h13.2 ?_
        refine e_goto (tgt := 52) dX6_takes_48 (by decide) ?_
        exact e_iret dX6_takes_52 rfl (by rw [Vh13.1, Vh13.2])
  · have Bc4 := Vh2.2 c4
    refine e_iconst dX6_takes_7 ⟨by decide, by decide⟩ ?_
    exact e_iret dX6_takes_8 rfl (by rw [Bc4.1, Bc4.2])
set_option maxRecDepth 100000 in
set_option maxHeartbeats 4000000 in
theorem v_X6_put_0 {Γ : GX} {g : AG} {I J : Nat → Nat → Int} {r : Option AV} (hg : GOc g) (x1 : Int)
    (V : ∃ (r3 : Int) (J1 : Nat → Nat → Int), CT Γ 1 mX6_mayPut [.inr (some 1), .inl x1] (g, I) (some (.inl r3), (g, J1)) ∧ (((¬ (r3 = 0)) → (∃ (J5 : Nat → Nat → Int), CT Γ 1 mX2_write [.inr (some 66), .inr (some 3)] (g, J1) (none, (g, J5)) ∧ (∃ (r10 : Int) (J8 : Nat → Nat → Int), CT Γ 5 mX6_putOnce [.inr (some 1), .inl x1] (g, J5) (some (.inl r10), (g, J8)) ∧ ((((r10 = (-2))) → (r = some (.inl r10) ∧ J = J8)) ∧ ((¬ (r10 = (-2))) → (∃ (J12 : Nat → Nat → Int), CT Γ 1 mX2_keepWritten [.inr (some 66)] (g, J8) (none, (g, J12)) ∧ (r = some (.inl r10) ∧ J = J12))))))) ∧ (((r3 = 0)) → (r = some (.inl (-2)) ∧ J = J1)))) : Ev Γ 6 mX6_put 0 [some (.inr (some 1)), some (.inl x1), none] [] (g, I) (r, (g, J)) := by
  refine e_aload_n dX6_put_0 rfl ?_
  refine e_iload_n dX6_put_1 rfl ?_
  obtain ⟨r3, J1, h2, Vh2⟩ := V
  refine e_callv (av := [.inl x1]) (st := []) dX6_put_2 cO_6_169 oX6_mayPut rfl (by decide) (gs_1 hg) rfl (Nat.le_of_ble_eq_true rfl) (by decide) h2 (Nat.le_refl _) (Nat.le_refl _) rfl rfl ?_
  refine e_if_ne (tgt := 11) dX6_put_5 (by decide) (fun c4 => ?_) (fun c4 => ?_)
  · have Ac4 := Vh2.1 c4
    refine e_aload_n dX6_put_11 rfl ?_
    refine e_getr dX6_put_12 fO_6_66 (by decide) (gs_1 hg) rfl (gp_1_10 hg) ?_
    refine e_aload_n dX6_put_15 rfl ?_
    refine e_getr dX6_put_16 fO_6_16 (by decide) (gs_1 hg) rfl (gp_1_2 hg) ?_
    obtain ⟨J5, h6, Vh6⟩ := Ac4
    refine e_callv (av := [.inr (some 3)]) (st := []) dX6_put_19 cO_6_172 oX2_write rfl (by decide) (gs_66 hg) rfl (Nat.le_of_ble_eq_true rfl) (by decide) h6 (Nat.le_refl _) (Nat.le_refl _) rfl rfl ?_
    refine e_aload_n dX6_put_22 rfl ?_
    refine e_iload_n dX6_put_23 rfl ?_
    obtain ⟨r10, J8, h9, Vh9⟩ := Vh6
    refine e_callv (av := [.inl x1]) (st := []) dX6_put_24 cO_6_176 oX6_putOnce rfl (by decide) (gs_1 hg) rfl (Nat.le_of_ble_eq_true rfl) (by decide) h9 (Nat.le_refl _) (Nat.le_refl _) rfl rfl ?_
    refine e_istore_n dX6_put_27 (by decide) (ls' := [some (.inr (some 1)), some (.inl x1), some (.inl r10)]) rfl ?_
    refine e_iload_n dX6_put_28 rfl ?_
    refine e_bipush dX6_put_29 (by decide) ⟨by decide, by decide⟩ ?_
    refine e_ic_eq (tgt := 41) dX6_put_31 (by decide) (fun c11 => ?_) (fun c11 => ?_)
    · have Ac11 := Vh9.1 c11
      refine e_iload_n dX6_put_41 rfl ?_
      exact e_iret dX6_put_42 rfl (by rw [Ac11.1, Ac11.2])
    · have Bc11 := Vh9.2 c11
      refine e_aload_n dX6_put_34 rfl ?_
      refine e_getr dX6_put_35 fO_6_66 (by decide) (gs_1 hg) rfl (gp_1_10 hg) ?_
      obtain ⟨J12, h13, Vh13⟩ := Bc11
      refine e_callv (av := []) (st := []) dX6_put_38 cO_6_179 oX2_keepWritten rfl (by decide) (gs_66 hg) rfl (Nat.le_of_ble_eq_true rfl) (by decide) h13 (Nat.le_refl _) (Nat.le_refl _) rfl rfl ?_
      refine e_iload_n dX6_put_41 rfl ?_
      exact e_iret dX6_put_42 rfl (by rw [Vh13.1, Vh13.2])
  · have Bc4 := Vh2.2 c4
    refine e_bipush dX6_put_8 (by decide) ⟨by decide, by decide⟩ ?_
    exact e_iret dX6_put_10 rfl (by rw [Bc4.1, Bc4.2])
set_option maxRecDepth 100000 in
set_option maxHeartbeats 4000000 in
theorem v_X6_putAll_0 {Γ : GX} {g : AG} {I J : Nat → Nat → Int} {r : Option AV} (hg : GOc g) (x1 : Int)
    (V : ∃ (r3 : Int) (J1 : Nat → Nat → Int), CT Γ 1 mX6_mayPut [.inr (some 1), .inl x1] (g, I) (some (.inl r3), (g, J1)) ∧ (((¬ (r3 = 0)) → (∃ (J5 : Nat → Nat → Int), CT Γ 1 mX2_write [.inr (some 66), .inr (some 3)] (g, J1) (none, (g, J5)) ∧ (Ev Γ 6 mX6_putAll 24 [some (.inr (some 1)), some (.inl x1), some (.inl 0), none] [] (g, J5) (r, (g, J))))) ∧ (((r3 = 0)) → (r = some (.inl (-2)) ∧ J = J1)))) : Ev Γ 6 mX6_putAll 0 [some (.inr (some 1)), some (.inl x1), none, none] [] (g, I) (r, (g, J)) := by
  refine e_aload_n dX6_putAll_0 rfl ?_
  refine e_iload_n dX6_putAll_1 rfl ?_
  obtain ⟨r3, J1, h2, Vh2⟩ := V
  refine e_callv (av := [.inl x1]) (st := []) dX6_putAll_2 cO_6_169 oX6_mayPut rfl (by decide) (gs_1 hg) rfl (Nat.le_of_ble_eq_true rfl) (by decide) h2 (Nat.le_refl _) (Nat.le_refl _) rfl rfl ?_
  refine e_if_ne (tgt := 11) dX6_putAll_5 (by decide) (fun c4 => ?_) (fun c4 => ?_)
  · have Ac4 := Vh2.1 c4
    refine e_aload_n dX6_putAll_11 rfl ?_
    refine e_getr dX6_putAll_12 fO_6_66 (by decide) (gs_1 hg) rfl (gp_1_10 hg) ?_
    refine e_aload_n dX6_putAll_15 rfl ?_
    refine e_getr dX6_putAll_16 fO_6_16 (by decide) (gs_1 hg) rfl (gp_1_2 hg) ?_
    obtain ⟨J5, h6, Vh6⟩ := Ac4
    refine e_callv (av := [.inr (some 3)]) (st := []) dX6_putAll_19 cO_6_172 oX2_write rfl (by decide) (gs_66 hg) rfl (Nat.le_of_ble_eq_true rfl) (by decide) h6 (Nat.le_refl _) (Nat.le_refl _) rfl rfl ?_
    refine e_iconst dX6_putAll_22 ⟨by decide, by decide⟩ ?_
    refine e_istore_n dX6_putAll_23 (by decide) (ls' := [some (.inr (some 1)), some (.inl x1), some (.inl 0), none]) rfl ?_
    exact Vh6
  · have Bc4 := Vh2.2 c4
    refine e_bipush dX6_putAll_8 (by decide) ⟨by decide, by decide⟩ ?_
    exact e_iret dX6_putAll_10 rfl (by rw [Bc4.1, Bc4.2])
set_option maxRecDepth 100000 in
set_option maxHeartbeats 4000000 in
theorem v_X6_putAll_24 {Γ : GX} {g : AG} {I J : Nat → Nat → Int} {r : Option AV} (hg : GOc g) (x1 : Int) (x2 : Int)
    (V : (((20 < x2)) → (∃ (J2 : Nat → Nat → Int), CT Γ 5 mX6_restoreWritten [.inr (some 1)] (g, I) (none, (g, J2)) ∧ (r = some (.inl (-1)) ∧ J = J2))) ∧ ((¬ (20 < x2)) → (∃ (r7 : Int) (J5 : Nat → Nat → Int), CT Γ 5 mX6_putOnce [.inr (some 1), .inl x1] (g, I) (some (.inl r7), (g, J5)) ∧ (((¬ (r7 = 0)) → (((¬ (r7 = (-2))) → (((¬ (r7 = (-2))) → (inR (x2 + 1) ∧ (Ev Γ 6 mX6_putAll 24 [some (.inr (some 1)), some (.inl x1), some (.inl (x2 + 1)), none] [] (g, J5) (r, (g, J))))) ∧ (((r7 = (-2))) → (∃ (J12 : Nat → Nat → Int), CT Γ 5 mX6_restoreWritten [.inr (some 1)] (g, J5) (none, (g, J12)) ∧ (r = some (.inl (-1)) ∧ J = J12))))) ∧ (((r7 = (-2))) → (((¬ (x2 = 0)) → (((¬ (r7 = (-2))) → (inR (x2 + 1) ∧ (Ev Γ 6 mX6_putAll 24 [some (.inr (some 1)), some (.inl x1), some (.inl (x2 + 1)), none] [] (g, J5) (r, (g, J))))) ∧ (((r7 = (-2))) → (∃ (J18 : Nat → Nat → Int), CT Γ 5 mX6_restoreWritten [.inr (some 1)] (g, J5) (none, (g, J18)) ∧ (r = some (.inl (-1)) ∧ J = J18))))) ∧ (((x2 = 0)) → (r = some (.inl (-2)) ∧ J = J5)))))) ∧ (((r7 = 0)) → (∃ (J21 : Nat → Nat → Int), CT Γ 1 mX2_keepWritten [.inr (some 66)] (g, J5) (none, (g, J21)) ∧ (r = some (.inl x2) ∧ J = J21))))))) : Ev Γ 6 mX6_putAll 24 [some (.inr (some 1)), some (.inl x1), some (.inl x2), none] [] (g, I) (r, (g, J)) := by
  refine e_iload_n dX6_putAll_24 rfl ?_
  refine e_bipush dX6_putAll_25 (by decide) ⟨by decide, by decide⟩ ?_
  refine e_ic_gt (tgt := 77) dX6_putAll_27 (by decide) (fun c1 => ?_) (fun c1 => ?_)
  · have Ac1 := V.1 c1
    refine e_aload_n dX6_putAll_77 rfl ?_
    obtain ⟨J2, h3, Vh3⟩ := Ac1
    refine e_callv (av := []) (st := []) dX6_putAll_78 cO_6_182 oX6_restoreWritten rfl (by decide) (gs_1 hg) rfl (Nat.le_of_ble_eq_true rfl) (by decide) h3 (Nat.le_refl _) (Nat.le_refl _) rfl rfl ?_
    refine e_iconst dX6_putAll_81 ⟨by decide, by decide⟩ ?_
    exact e_iret dX6_putAll_82 rfl (by rw [Vh3.1, Vh3.2])
  · have Bc1 := V.2 c1
    refine e_aload_n dX6_putAll_30 rfl ?_
    refine e_iload_n dX6_putAll_31 rfl ?_
    obtain ⟨r7, J5, h6, Vh6⟩ := Bc1
    refine e_callv (av := [.inl x1]) (st := []) dX6_putAll_32 cO_6_176 oX6_putOnce rfl (by decide) (gs_1 hg) rfl (Nat.le_of_ble_eq_true rfl) (by decide) h6 (Nat.le_refl _) (Nat.le_refl _) rfl rfl ?_
    refine e_istore_n dX6_putAll_35 (by decide) (ls' := [some (.inr (some 1)), some (.inl x1), some (.inl x2), some (.inl r7)]) rfl ?_
    refine e_iload_n dX6_putAll_36 rfl ?_
    refine e_if_ne (tgt := 49) dX6_putAll_37 (by decide) (fun c8 => ?_) (fun c8 => ?_)
    · have Ac8 := Vh6.1 c8
      refine e_iload_n dX6_putAll_49 rfl ?_
      refine e_bipush dX6_putAll_50 (by decide) ⟨by decide, by decide⟩ ?_
      refine e_ic_ne (tgt := 62) dX6_putAll_52 (by decide) (fun c9 => ?_) (fun c9 => ?_)
      · have Ac9 := Ac8.1 c9
        refine e_iload_n dX6_putAll_62 rfl ?_
        refine e_bipush dX6_putAll_63 (by decide) ⟨by decide, by decide⟩ ?_
        refine e_ic_ne (tgt := 71) dX6_putAll_65 (by decide) (fun c10 => ?_) (fun c10 => ?_)
        · have Ac10 := Ac9.1 c10
          obtain ⟨h11, Vh11⟩ := Ac10
          refine e_iinc dX6_putAll_71 (by decide) rfl h11 (ls' := [some (.inr (some 1)), some (.inl x1), some (.inl (x2 + 1)), some (.inl r7)]) rfl ?_
          refine e_goto (tgt := 24) dX6_putAll_74 (by decide) ?_
          refine ev_drop (ls' := [some (.inr (some 1)), some (.inl x1), some (.inl (x2 + 1)), none]) 3 rfl ?_
          exact Vh11
        · have Bc10 := Ac9.2 c10
          refine e_goto (tgt := 77) dX6_putAll_68 (by decide) ?_
          refine e_aload_n dX6_putAll_77 rfl ?_
          obtain ⟨J12, h13, Vh13⟩ := Bc10
          refine e_callv (av := []) (st := []) dX6_putAll_78 cO_6_182 oX6_restoreWritten rfl (by decide) (gs_1 hg) rfl (Nat.le_of_ble_eq_true rfl) (by decide) h13 (Nat.le_refl _) (Nat.le_refl _) rfl rfl ?_
          refine e_iconst dX6_putAll_81 ⟨by decide, by decide⟩ ?_
          exact e_iret dX6_putAll_82 rfl (by rw [Vh13.1, Vh13.2])
      · have Bc9 := Ac8.2 c9
        refine e_iload_n dX6_putAll_55 rfl ?_
        refine e_if_ne (tgt := 62) dX6_putAll_56 (by decide) (fun c15 => ?_) (fun c15 => ?_)
        · have Ac15 := Bc9.1 c15
          refine e_iload_n dX6_putAll_62 rfl ?_
          refine e_bipush dX6_putAll_63 (by decide) ⟨by decide, by decide⟩ ?_
          refine e_ic_ne (tgt := 71) dX6_putAll_65 (by decide) (fun c16 => ?_) (fun c16 => ?_)
          · have Ac16 := Ac15.1 c16
            obtain ⟨h17, Vh17⟩ := Ac16
            refine e_iinc dX6_putAll_71 (by decide) rfl h17 (ls' := [some (.inr (some 1)), some (.inl x1), some (.inl (x2 + 1)), some (.inl r7)]) rfl ?_
            refine e_goto (tgt := 24) dX6_putAll_74 (by decide) ?_
            refine ev_drop (ls' := [some (.inr (some 1)), some (.inl x1), some (.inl (x2 + 1)), none]) 3 rfl ?_
            exact Vh17
          · have Bc16 := Ac15.2 c16
            refine e_goto (tgt := 77) dX6_putAll_68 (by decide) ?_
            refine e_aload_n dX6_putAll_77 rfl ?_
            obtain ⟨J18, h19, Vh19⟩ := Bc16
            refine e_callv (av := []) (st := []) dX6_putAll_78 cO_6_182 oX6_restoreWritten rfl (by decide) (gs_1 hg) rfl (Nat.le_of_ble_eq_true rfl) (by decide) h19 (Nat.le_refl _) (Nat.le_refl _) rfl rfl ?_
            refine e_iconst dX6_putAll_81 ⟨by decide, by decide⟩ ?_
            exact e_iret dX6_putAll_82 rfl (by rw [Vh19.1, Vh19.2])
        · have Bc15 := Bc9.2 c15
          refine e_bipush dX6_putAll_59 (by decide) ⟨by decide, by decide⟩ ?_
          exact e_iret dX6_putAll_61 rfl (by rw [Bc15.1, Bc15.2])
    · have Bc8 := Vh6.2 c8
      refine e_aload_n dX6_putAll_40 rfl ?_
      refine e_getr dX6_putAll_41 fO_6_66 (by decide) (gs_1 hg) rfl (gp_1_10 hg) ?_
      obtain ⟨J21, h22, Vh22⟩ := Bc8
      refine e_callv (av := []) (st := []) dX6_putAll_44 cO_6_179 oX2_keepWritten rfl (by decide) (gs_66 hg) rfl (Nat.le_of_ble_eq_true rfl) (by decide) h22 (Nat.le_refl _) (Nat.le_refl _) rfl rfl ?_
      refine e_iload_n dX6_putAll_47 rfl ?_
      exact e_iret dX6_putAll_48 rfl (by rw [Vh22.1, Vh22.2])
set_option maxRecDepth 100000 in
set_option maxHeartbeats 4000000 in
theorem v_X6_back_0 {Γ : GX} {g : AG} {I J : Nat → Nat → Int} {r : Option AV} (hg : GOc g) 
    (V : ∃ (r3 : Int) (J1 : Nat → Nat → Int), CT Γ 0 mX2_stepBack [.inr (some 66)] (g, I) (some (.inl r3), (g, J1)) ∧ (((¬ (r3 = 0)) → (∃ (J5 : Nat → Nat → Int), CT Γ 5 mX6_restoreWritten [.inr (some 1)] (g, J1) (none, (g, J5)) ∧ (r = some (.inl 1) ∧ J = J5))) ∧ (((r3 = 0)) → (r = some (.inl 0) ∧ J = J1)))) : Ev Γ 6 mX6_back 0 [some (.inr (some 1))] [] (g, I) (r, (g, J)) := by
  refine e_aload_n dX6_back_0 rfl ?_
  refine e_getr dX6_back_1 fO_6_66 (by decide) (gs_1 hg) rfl (gp_1_10 hg) ?_
  obtain ⟨r3, J1, h2, Vh2⟩ := V
  refine e_callv (av := []) (st := []) dX6_back_4 cO_6_185 oX2_stepBack rfl (by decide) (gs_66 hg) rfl (Nat.le_of_ble_eq_true rfl) (by decide) h2 (Nat.le_refl _) (Nat.le_refl _) rfl rfl ?_
  refine e_if_ne (tgt := 12) dX6_back_7 (by decide) (fun c4 => ?_) (fun c4 => ?_)
  · have Ac4 := Vh2.1 c4
    refine e_aload_n dX6_back_12 rfl ?_
    obtain ⟨J5, h6, Vh6⟩ := Ac4
    refine e_callv (av := []) (st := []) dX6_back_13 cO_6_182 oX6_restoreWritten rfl (by decide) (gs_1 hg) rfl (Nat.le_of_ble_eq_true rfl) (by decide) h6 (Nat.le_refl _) (Nat.le_refl _) rfl rfl ?_
    refine e_iconst dX6_back_16 ⟨by decide, by decide⟩ ?_
    exact e_zret dX6_back_17 rfl (by decide) (by rw [Vh6.1, Vh6.2])
  · have Bc4 := Vh2.2 c4
    refine e_iconst dX6_back_10 ⟨by decide, by decide⟩ ?_
    exact e_zret dX6_back_11 rfl (by decide) (by rw [Bc4.1, Bc4.2])
set_option maxRecDepth 100000 in
set_option maxHeartbeats 4000000 in
theorem v_X6_count_0 {Γ : GX} {g : AG} {I J : Nat → Nat → Int} {r : Option AV} (hg : GOc g) (x1 : Int)
    (V : (x1 = 0 → (r = some (.inl (I 3 1)) ∧ J = I)) ∧ (x1 = 1 → (r = some (.inl (I 15 1)) ∧ J = I)) ∧ (x1 = 2 → (r = some (.inl (I 27 1)) ∧ J = I)) ∧ (x1 = 3 → (r = some (.inl (I 1 1)) ∧ J = I)) ∧ (x1 = 4 → (r = some (.inl (I 66 3)) ∧ J = I)) ∧ ((x1 < 0 ∨ 4 < x1) → (r = some (.inl (-1)) ∧ J = I))) : Ev Γ 0 mX6_count 0 [some (.inr (some 1)), some (.inl x1)] [] (g, I) (r, (g, J)) := by
  refine e_iload_n dX6_count_0 rfl ?_
  by_cases c1 : x1 = 0
  · have Ac1 := V.1 c1
    refine e_tabIn (x := x1) (off := 35) (tgt := 36) dX6_count_1 (by omega) (by omega) (by rw [c1]; rfl) (by decide) ?_
    refine e_aload_n dX6_count_36 rfl ?_
    refine e_getr dX6_count_37 fO_6_16 (by decide) (gs_1 hg) rfl (gp_1_2 hg) ?_
    refine e_geti dX6_count_40 fO_6_189 (by decide) (gs_3 hg) rfl ?_
    exact e_iret dX6_count_43 rfl (by rw [Ac1.1, Ac1.2])
  by_cases c2 : x1 = 1
  · have Ac2 := V.2.1 c2
    refine e_tabIn (x := x1) (off := 43) (tgt := 44) dX6_count_1 (by omega) (by omega) (by rw [c2]; rfl) (by decide) ?_
    refine e_aload_n dX6_count_44 rfl ?_
    refine e_getr dX6_count_45 fO_6_20 (by decide) (gs_1 hg) rfl (gp_1_3 hg) ?_
    refine e_geti dX6_count_48 fO_6_189 (by decide) (gs_15 hg) rfl ?_
    exact e_iret dX6_count_51 rfl (by rw [Ac2.1, Ac2.2])
  by_cases c3 : x1 = 2
  · have Ac3 := V.2.2.1 c3
    refine e_tabIn (x := x1) (off := 51) (tgt := 52) dX6_count_1 (by omega) (by omega) (by rw [c3]; rfl) (by decide) ?_
    refine e_aload_n dX6_count_52 rfl ?_
    refine e_getr dX6_count_53 fO_6_23 (by decide) (gs_1 hg) rfl (gp_1_4 hg) ?_
    refine e_geti dX6_count_56 fO_6_189 (by decide) (gs_27 hg) rfl ?_
    exact e_iret dX6_count_59 rfl (by rw [Ac3.1, Ac3.2])
  by_cases c4 : x1 = 3
  · have Ac4 := V.2.2.2.1 c4
    refine e_tabIn (x := x1) (off := 59) (tgt := 60) dX6_count_1 (by omega) (by omega) (by rw [c4]; rfl) (by decide) ?_
    refine e_aload_n dX6_count_60 rfl ?_
    refine e_geti dX6_count_61 fO_6_82 (by decide) (gs_1 hg) rfl ?_
    exact e_iret dX6_count_64 rfl (by rw [Ac4.1, Ac4.2])
  by_cases c5 : x1 = 4
  · have Ac5 := V.2.2.2.2.1 c5
    refine e_tabIn (x := x1) (off := 64) (tgt := 65) dX6_count_1 (by omega) (by omega) (by rw [c5]; rfl) (by decide) ?_
    refine e_aload_n dX6_count_65 rfl ?_
    refine e_getr dX6_count_66 fO_6_66 (by decide) (gs_1 hg) rfl (gp_1_10 hg) ?_
    refine e_geti dX6_count_69 fO_6_202 (by decide) (gs_66 hg) rfl ?_
    exact e_iret dX6_count_72 rfl (by rw [Ac5.1, Ac5.2])
  have c6 : x1 < 0 ∨ 4 < x1 := by omega
  have Ac6 := V.2.2.2.2.2 c6
  refine e_tabOut (x := x1) (tgt := 73) dX6_count_1 c6 (by decide) ?_
  refine e_iconst dX6_count_73 ⟨by decide, by decide⟩ ?_
  exact e_iret dX6_count_74 rfl (by rw [Ac6.1, Ac6.2])
set_option maxRecDepth 100000 in
set_option maxHeartbeats 4000000 in
theorem v_X6_writeFed_0 {Γ : GX} {g : AG} {I J : Nat → Nat → Int} {r : Option AV} (hg : GOc g) (x1 : Int) (x2 : Int)
    (V : Ev Γ 0 mX6_writeFed 6 [some (.inr (some 1)), some (.inl x1), none, some (.inl x2), some (.inl 24), none] [] (g, I) (r, (g, J))) : Ev Γ 0 mX6_writeFed 0 [some (.inr (some 1)), some (.inl x1), some (.inl x2), none, none, none] [] (g, I) (r, (g, J)) := by
  refine e_iload_n dX6_writeFed_0 rfl ?_
  refine e_istore_n dX6_writeFed_1 (by decide) (ls' := [some (.inr (some 1)), some (.inl x1), some (.inl x2), some (.inl x2), none, none]) rfl ?_
  refine e_bipush dX6_writeFed_2 (by decide) ⟨by decide, by decide⟩ ?_
  refine e_istore dX6_writeFed_4 (by decide) (ls' := [some (.inr (some 1)), some (.inl x1), some (.inl x2), some (.inl x2), some (.inl 24), none]) rfl ?_
  refine ev_drop (ls' := [some (.inr (some 1)), some (.inl x1), none, some (.inl x2), some (.inl 24), none]) 2 rfl ?_
  exact V
set_option maxRecDepth 100000 in
set_option maxHeartbeats 4000000 in
theorem v_X6_writeFed_6 {Γ : GX} {g : AG} {I J : Nat → Nat → Int} {r : Option AV} (hg : GOc g) (x1 : Int) (x3 : Int) (x4 : Int)
    (V : (((x4 < 0)) → (r = some (.inl x3) ∧ J = I)) ∧ ((¬ (x4 < 0)) → (∀ y2 : Int, y2 = (bAnd (bUsh x1 x4) 255) → ((((y2 = 0)) → (inR (x4 + (-8)) ∧ (Ev Γ 0 mX6_writeFed 6 [some (.inr (some 1)), some (.inl x1), none, some (.inl x3), some (.inl (x4 + (-8))), none] [] (g, I) (r, (g, J))))) ∧ ((¬ (y2 = 0)) → ((((260 ≤ x3)) → (inR (x4 + (-8)) ∧ (Ev Γ 0 mX6_writeFed 6 [some (.inr (some 1)), some (.inl x1), none, some (.inl x3), some (.inl (x4 + (-8))), none] [] (g, I) (r, (g, J))))) ∧ ((¬ (260 ≤ x3)) → (((0 : Int) ≤ x3 ∧ (x3 : Int) < 260) ∧ (∀ I7 : Nat → Nat → Int, I7 = mset I 2 x3.toNat y2 → (inR (x3 + 1) ∧ (inR (x4 + (-8)) ∧ (Ev Γ 0 mX6_writeFed 6 [some (.inr (some 1)), some (.inl x1), none, some (.inl (x3 + 1)), some (.inl (x4 + (-8))), none] [] (g, I7) (r, (g, J)))))))))))))) : Ev Γ 0 mX6_writeFed 6 [some (.inr (some 1)), some (.inl x1), none, some (.inl x3), some (.inl x4), none] [] (g, I) (r, (g, J)) := by
  refine e_iload dX6_writeFed_6 rfl ?_
  refine e_if_lt (tgt := 52) dX6_writeFed_8 (by decide) (fun c1 => ?_) (fun c1 => ?_)
  · have Ac1 := V.1 c1
    refine e_iload_n dX6_writeFed_52 rfl ?_
    exact e_iret dX6_writeFed_53 rfl (by rw [Ac1.1, Ac1.2])
  · have Bc1 := V.2 c1
    refine e_iload_n dX6_writeFed_11 rfl ?_
    refine e_iload dX6_writeFed_12 rfl ?_
    refine e_iushr dX6_writeFed_14 ?_
    refine e_sipush dX6_writeFed_15 (by decide) ⟨by decide, by decide⟩ ?_
    refine e_iand dX6_writeFed_18 ?_
    refine e_top (fun y2 ey2 => ?_)
    have Wy2 := Bc1 y2 ey2
    refine e_istore dX6_writeFed_19 (by decide) (ls' := [some (.inr (some 1)), some (.inl x1), none, some (.inl x3), some (.inl x4), some (.inl y2)]) rfl ?_
    refine e_iload dX6_writeFed_21 rfl ?_
    refine e_if_eq (tgt := 46) dX6_writeFed_23 (by decide) (fun c3 => ?_) (fun c3 => ?_)
    · have Ac3 := Wy2.1 c3
      obtain ⟨h4, Vh4⟩ := Ac3
      refine e_iinc dX6_writeFed_46 (by decide) rfl h4 (ls' := [some (.inr (some 1)), some (.inl x1), none, some (.inl x3), some (.inl (x4 + (-8))), some (.inl y2)]) rfl ?_
      refine e_goto (tgt := 6) dX6_writeFed_49 (by decide) ?_
      refine ev_drop (ls' := [some (.inr (some 1)), some (.inl x1), none, some (.inl x3), some (.inl (x4 + (-8))), none]) 5 rfl ?_
      exact Vh4
    · have Bc3 := Wy2.2 c3
      refine e_iload_n dX6_writeFed_26 rfl ?_
      refine e_aload_n dX6_writeFed_27 rfl ?_
      refine e_getr dX6_writeFed_28 fO_6_9 (by decide) (gs_1 hg) rfl (gp_1_0 hg) ?_
      refine e_alen (ty := .int) dX6_writeFed_31 (by decide) (by decide) (gs_2 hg) (by decide) ?_
      refine e_ic_ge (tgt := 46) dX6_writeFed_32 (by decide) (fun c5 => ?_) (fun c5 => ?_)
      · have Ac5 := Bc3.1 c5
        obtain ⟨h6, Vh6⟩ := Ac5
        refine e_iinc dX6_writeFed_46 (by decide) rfl h6 (ls' := [some (.inr (some 1)), some (.inl x1), none, some (.inl x3), some (.inl (x4 + (-8))), some (.inl y2)]) rfl ?_
        refine e_goto (tgt := 6) dX6_writeFed_49 (by decide) ?_
        refine ev_drop (ls' := [some (.inr (some 1)), some (.inl x1), none, some (.inl x3), some (.inl (x4 + (-8))), none]) 5 rfl ?_
        exact Vh6
      · have Bc5 := Bc3.2 c5
        refine e_aload_n dX6_writeFed_35 rfl ?_
        refine e_getr dX6_writeFed_36 fO_6_9 (by decide) (gs_1 hg) rfl (gp_1_0 hg) ?_
        refine e_iload_n dX6_writeFed_39 rfl ?_
        refine e_iload dX6_writeFed_40 rfl ?_
        obtain ⟨h8, Vh8⟩ := Bc5
        refine e_iast dX6_writeFed_42 (by decide) (gs_2 hg) h8.1 h8.2 ?_
        refine e_mem (fun I7 eI7 => ?_)
        have WI7 := Vh8 I7 eI7
        obtain ⟨h9, Vh9⟩ := WI7
        refine e_iinc dX6_writeFed_43 (by decide) rfl h9 (ls' := [some (.inr (some 1)), some (.inl x1), none, some (.inl (x3 + 1)), some (.inl x4), some (.inl y2)]) rfl ?_
        obtain ⟨h10, Vh10⟩ := Vh9
        refine e_iinc dX6_writeFed_46 (by decide) rfl h10 (ls' := [some (.inr (some 1)), some (.inl x1), none, some (.inl (x3 + 1)), some (.inl (x4 + (-8))), some (.inl y2)]) rfl ?_
        refine e_goto (tgt := 6) dX6_writeFed_49 (by decide) ?_
        refine ev_drop (ls' := [some (.inr (some 1)), some (.inl x1), none, some (.inl (x3 + 1)), some (.inl (x4 + (-8))), none]) 5 rfl ?_
        exact Vh10
set_option maxRecDepth 100000 in
set_option maxHeartbeats 4000000 in
theorem v_X6_readTape_0 {Γ : GX} {g : AG} {I J : Nat → Nat → Int} {r : Option AV} (hg : GOc g) (x1 : Int)
    (V : (((x1 < 0)) → (r = some (.inl (-2)) ∧ J = I)) ∧ ((¬ (x1 < 0)) → ((((2 < x1)) → (r = some (.inl (-2)) ∧ J = I)) ∧ ((¬ (2 < x1)) → ((((x1 = 0)) → (∃ (J4 : Nat → Nat → Int), CT Γ 2 mX5_load [.inr (some 39), .inr (some 2), .inl (I 1 1)] (g, I) (none, (g, J4)) ∧ (∃ (r9 : Int) (J7 : Nat → Nat → Int), CT Γ 4 mX4_readTree [.inr (some 51), .inr (some 39), .inl x1] (g, J4) (some (.inl r9), (g, J7)) ∧ (r = some (.inl r9) ∧ J = J7)))) ∧ ((¬ (x1 = 0)) → (((((I 1 1) ≤ 80)) → (∃ (J11 : Nat → Nat → Int), CT Γ 2 mX5_load [.inr (some 39), .inr (some 2), .inl (I 1 1)] (g, I) (none, (g, J11)) ∧ (∃ (r16 : Int) (J14 : Nat → Nat → Int), CT Γ 4 mX4_readTree [.inr (some 51), .inr (some 39), .inl x1] (g, J11) (some (.inl r16), (g, J14)) ∧ (r = some (.inl r16) ∧ J = J14)))) ∧ ((¬ ((I 1 1) ≤ 80)) → (r = some (.inl (-2)) ∧ J = I))))))))) : Ev Γ 5 mX6_readTape 0 [some (.inr (some 1)), some (.inl x1)] [] (g, I) (r, (g, J)) := by
  refine e_iload_n dX6_readTape_0 rfl ?_
  refine e_if_lt (tgt := 22) dX6_readTape_1 (by decide) (fun c1 => ?_) (fun c1 => ?_)
  · have Ac1 := V.1 c1
    refine e_bipush dX6_readTape_22 (by decide) ⟨by decide, by decide⟩ ?_
    exact e_iret dX6_readTape_24 rfl (by rw [Ac1.1, Ac1.2])
  · have Bc1 := V.2 c1
    refine e_iload_n dX6_readTape_4 rfl ?_
    refine e_iconst dX6_readTape_5 ⟨by decide, by decide⟩ ?_
    refine e_ic_gt (tgt := 22) dX6_readTape_6 (by decide) (fun c2 => ?_) (fun c2 => ?_)
    · have Ac2 := Bc1.1 c2
      refine e_bipush dX6_readTape_22 (by decide) ⟨by decide, by decide⟩ ?_
      exact e_iret dX6_readTape_24 rfl (by rw [Ac2.1, Ac2.2])
    · have Bc2 := Bc1.2 c2
      refine e_iload_n dX6_readTape_9 rfl ?_
      refine e_if_eq (tgt := 25) dX6_readTape_10 (by decide) (fun c3 => ?_) (fun c3 => ?_)
      · have Ac3 := Bc2.1 c3
        refine e_aload_n dX6_readTape_25 rfl ?_
        refine e_getr dX6_readTape_26 fO_6_26 (by decide) (gs_1 hg) rfl (gp_1_5 hg) ?_
        refine e_aload_n dX6_readTape_29 rfl ?_
        refine e_getr dX6_readTape_30 fO_6_9 (by decide) (gs_1 hg) rfl (gp_1_0 hg) ?_
        refine e_aload_n dX6_readTape_33 rfl ?_
        refine e_geti dX6_readTape_34 fO_6_82 (by decide) (gs_1 hg) rfl ?_
        obtain ⟨J4, h5, Vh5⟩ := Ac3
        refine e_callv (av := [.inr (some 2), .inl (I 1 1)]) (st := []) dX6_readTape_37 cO_6_70 oX5_load rfl (by decide) (gs_39 hg) rfl (Nat.le_of_ble_eq_true rfl) (by decide) h5 (Nat.le_refl _) (Nat.le_refl _) rfl rfl ?_
        refine e_aload_n dX6_readTape_40 rfl ?_
        refine e_getr dX6_readTape_41 fO_6_32 (by decide) (gs_1 hg) rfl (gp_1_6 hg) ?_
        refine e_aload_n dX6_readTape_44 rfl ?_
        refine e_getr dX6_readTape_45 fO_6_26 (by decide) (gs_1 hg) rfl (gp_1_5 hg) ?_
        refine e_iload_n dX6_readTape_48 rfl ?_
        obtain ⟨r9, J7, h8, Vh8⟩ := Vh5
        refine e_callv (av := [.inr (some 39), .inl x1]) (st := []) dX6_readTape_49 cO_6_74 oX4_readTree rfl (by decide) (gs_51 hg) rfl (Nat.le_of_ble_eq_true rfl) (by decide) h8 (Nat.le_refl _) (Nat.le_refl _) rfl rfl ?_
        exact e_iret dX6_readTape_52 rfl (by rw [Vh8.1, Vh8.2])
      · have Bc3 := Bc2.2 c3
        refine e_aload_n dX6_readTape_13 rfl ?_
        refine e_geti dX6_readTape_14 fO_6_82 (by decide) (gs_1 hg) rfl ?_
        refine e_bipush dX6_readTape_17 (by decide) ⟨by decide, by decide⟩ ?_
        refine e_ic_le (tgt := 25) dX6_readTape_19 (by decide) (fun c10 => ?_) (fun c10 => ?_)
        · have Ac10 := Bc3.1 c10
          refine e_aload_n dX6_readTape_25 rfl ?_
          refine e_getr dX6_readTape_26 fO_6_26 (by decide) (gs_1 hg) rfl (gp_1_5 hg) ?_
          refine e_aload_n dX6_readTape_29 rfl ?_
          refine e_getr dX6_readTape_30 fO_6_9 (by decide) (gs_1 hg) rfl (gp_1_0 hg) ?_
          refine e_aload_n dX6_readTape_33 rfl ?_
          refine e_geti dX6_readTape_34 fO_6_82 (by decide) (gs_1 hg) rfl ?_
          obtain ⟨J11, h12, Vh12⟩ := Ac10
          refine e_callv (av := [.inr (some 2), .inl (I 1 1)]) (st := []) dX6_readTape_37 cO_6_70 oX5_load rfl (by decide) (gs_39 hg) rfl (Nat.le_of_ble_eq_true rfl) (by decide) h12 (Nat.le_refl _) (Nat.le_refl _) rfl rfl ?_
          refine e_aload_n dX6_readTape_40 rfl ?_
          refine e_getr dX6_readTape_41 fO_6_32 (by decide) (gs_1 hg) rfl (gp_1_6 hg) ?_
          refine e_aload_n dX6_readTape_44 rfl ?_
          refine e_getr dX6_readTape_45 fO_6_26 (by decide) (gs_1 hg) rfl (gp_1_5 hg) ?_
          refine e_iload_n dX6_readTape_48 rfl ?_
          obtain ⟨r16, J14, h15, Vh15⟩ := Vh12
          refine e_callv (av := [.inr (some 39), .inl x1]) (st := []) dX6_readTape_49 cO_6_74 oX4_readTree rfl (by decide) (gs_51 hg) rfl (Nat.le_of_ble_eq_true rfl) (by decide) h15 (Nat.le_refl _) (Nat.le_refl _) rfl rfl ?_
          exact e_iret dX6_readTape_52 rfl (by rw [Vh15.1, Vh15.2])
        · have Bc10 := Bc3.2 c10
          refine e_bipush dX6_readTape_22 (by decide) ⟨by decide, by decide⟩ ?_
          exact e_iret dX6_readTape_24 rfl (by rw [Bc10.1, Bc10.2])
set_option maxRecDepth 100000 in
set_option maxHeartbeats 4000000 in
theorem v_X6_adoptSpare_0 {Γ : GX} {g : AG} {I J : Nat → Nat → Int} {r : Option AV} (hg : GOc g) (x1 : Int)
    (V : ((¬ (x1 = 0)) → (((¬ (x1 = 1)) → (∃ (J3 : Nat → Nat → Int), CT Γ 1 mX5_copyOf [.inr (some 27), .inr (some 39)] (g, I) (none, (g, J3)) ∧ (((¬ (x1 = 0)) → (((¬ (x1 = 1)) → (Ev Γ 3 mX6_adoptSpare 62 [some (.inr (some 1)), some (.inl x1), none] [] (g, J3) (r, (g, J)))) ∧ (((x1 = 1)) → (∃ (J8 : Nat → Nat → Int), CT Γ 1 mX1_preparePattern [.inr (some 52)] (g, J3) (none, (g, J8)) ∧ (Ev Γ 3 mX6_adoptSpare 62 [some (.inr (some 1)), some (.inl x1), none] [] (g, J8) (r, (g, J))))))) ∧ (((x1 = 0)) → (∃ (J11 : Nat → Nat → Int), CT Γ 2 mX5_markAlike [.inr (some 3)] (g, J3) (none, (g, J11)) ∧ (Ev Γ 3 mX6_adoptSpare 62 [some (.inr (some 1)), some (.inl x1), none] [] (g, J11) (r, (g, J)))))))) ∧ (((x1 = 1)) → (∃ (J14 : Nat → Nat → Int), CT Γ 1 mX5_copyOf [.inr (some 15), .inr (some 39)] (g, I) (none, (g, J14)) ∧ (((¬ (x1 = 0)) → (((¬ (x1 = 1)) → (Ev Γ 3 mX6_adoptSpare 62 [some (.inr (some 1)), some (.inl x1), none] [] (g, J14) (r, (g, J)))) ∧ (((x1 = 1)) → (∃ (J19 : Nat → Nat → Int), CT Γ 1 mX1_preparePattern [.inr (some 52)] (g, J14) (none, (g, J19)) ∧ (Ev Γ 3 mX6_adoptSpare 62 [some (.inr (some 1)), some (.inl x1), none] [] (g, J19) (r, (g, J))))))) ∧ (((x1 = 0)) → (∃ (J22 : Nat → Nat → Int), CT Γ 2 mX5_markAlike [.inr (some 3)] (g, J14) (none, (g, J22)) ∧ (Ev Γ 3 mX6_adoptSpare 62 [some (.inr (some 1)), some (.inl x1), none] [] (g, J22) (r, (g, J)))))))))) ∧ (((x1 = 0)) → (∃ (J25 : Nat → Nat → Int), CT Γ 1 mX5_copyOf [.inr (some 3), .inr (some 39)] (g, I) (none, (g, J25)) ∧ (((¬ (x1 = 0)) → (((¬ (x1 = 1)) → (Ev Γ 3 mX6_adoptSpare 62 [some (.inr (some 1)), some (.inl x1), none] [] (g, J25) (r, (g, J)))) ∧ (((x1 = 1)) → (∃ (J30 : Nat → Nat → Int), CT Γ 1 mX1_preparePattern [.inr (some 52)] (g, J25) (none, (g, J30)) ∧ (Ev Γ 3 mX6_adoptSpare 62 [some (.inr (some 1)), some (.inl x1), none] [] (g, J30) (r, (g, J))))))) ∧ (((x1 = 0)) → (∃ (J33 : Nat → Nat → Int), CT Γ 2 mX5_markAlike [.inr (some 3)] (g, J25) (none, (g, J33)) ∧ (Ev Γ 3 mX6_adoptSpare 62 [some (.inr (some 1)), some (.inl x1), none] [] (g, J33) (r, (g, J))))))))) : Ev Γ 3 mX6_adoptSpare 0 [some (.inr (some 1)), some (.inl x1), none] [] (g, I) (r, (g, J)) := by
  refine e_iload_n dX6_adoptSpare_0 rfl ?_
  refine e_if_ne (tgt := 11) dX6_adoptSpare_1 (by decide) (fun c1 => ?_) (fun c1 => ?_)
  · have Ac1 := V.1 c1
    refine e_iload_n dX6_adoptSpare_11 rfl ?_
    refine e_iconst dX6_adoptSpare_12 ⟨by decide, by decide⟩ ?_
    refine e_ic_ne (tgt := 23) dX6_adoptSpare_13 (by decide) (fun c2 => ?_) (fun c2 => ?_)
    · have Ac2 := Ac1.1 c2
      refine e_aload_n dX6_adoptSpare_23 rfl ?_
      refine e_getr dX6_adoptSpare_24 fO_6_23 (by decide) (gs_1 hg) rfl (gp_1_4 hg) ?_
      refine e_astore_n dX6_adoptSpare_27 (by decide) (ls' := [some (.inr (some 1)), some (.inl x1), some (.inr (some 27))]) rfl ?_
      refine e_aload_n dX6_adoptSpare_28 rfl ?_
      refine e_aload_n dX6_adoptSpare_29 rfl ?_
      refine e_getr dX6_adoptSpare_30 fO_6_26 (by decide) (gs_1 hg) rfl (gp_1_5 hg) ?_
      obtain ⟨J3, h4, Vh4⟩ := Ac2
      refine e_callv (av := [.inr (some 39)]) (st := []) dX6_adoptSpare_33 cO_6_205 oX5_copyOf rfl (by decide) (gs_27 hg) rfl (Nat.le_of_ble_eq_true rfl) (by decide) h4 (Nat.le_refl _) (Nat.le_refl _) rfl rfl ?_
      refine e_iload_n dX6_adoptSpare_36 rfl ?_
      refine e_if_ne (tgt := 50) dX6_adoptSpare_37 (by decide) (fun c6 => ?_) (fun c6 => ?_)
      · have Ac6 := Vh4.1 c6
        refine e_iload_n dX6_adoptSpare_50 rfl ?_
        refine e_iconst dX6_adoptSpare_51 ⟨by decide, by decide⟩ ?_
        refine e_ic_ne (tgt := 62) dX6_adoptSpare_52 (by decide) (fun c7 => ?_) (fun c7 => ?_)
        · have Ac7 := Ac6.1 c7
          refine ev_drop (ls' := [some (.inr (some 1)), some (.inl x1), none]) 2 rfl ?_
          exact Ac7
        · have Bc7 := Ac6.2 c7
          refine e_aload_n dX6_adoptSpare_55 rfl ?_
          refine e_getr dX6_adoptSpare_56 fO_6_41 (by decide) (gs_1 hg) rfl (gp_1_7 hg) ?_
          obtain ⟨J8, h9, Vh9⟩ := Bc7
          refine e_callv (av := []) (st := []) dX6_adoptSpare_59 cO_6_211 oX1_preparePattern rfl (by decide) (gs_52 hg) rfl (Nat.le_of_ble_eq_true rfl) (by decide) h9 (Nat.le_refl _) (Nat.le_refl _) rfl rfl ?_
          refine ev_drop (ls' := [some (.inr (some 1)), some (.inl x1), none]) 2 rfl ?_
          exact Vh9
      · have Bc6 := Vh4.2 c6
        refine e_aload_n dX6_adoptSpare_40 rfl ?_
        refine e_getr dX6_adoptSpare_41 fO_6_16 (by decide) (gs_1 hg) rfl (gp_1_2 hg) ?_
        obtain ⟨J11, h12, Vh12⟩ := Bc6
        refine e_callv (av := []) (st := []) dX6_adoptSpare_44 cO_6_208 oX5_markAlike rfl (by decide) (gs_3 hg) rfl (Nat.le_of_ble_eq_true rfl) (by decide) h12 (Nat.le_refl _) (Nat.le_refl _) rfl rfl ?_
        refine e_goto (tgt := 62) dX6_adoptSpare_47 (by decide) ?_
        refine ev_drop (ls' := [some (.inr (some 1)), some (.inl x1), none]) 2 rfl ?_
        exact Vh12
    · have Bc2 := Ac1.2 c2
      refine e_aload_n dX6_adoptSpare_16 rfl ?_
      refine e_getr dX6_adoptSpare_17 fO_6_20 (by decide) (gs_1 hg) rfl (gp_1_3 hg) ?_
      refine e_goto (tgt := 27) dX6_adoptSpare_20 (by decide) ?_
      refine e_astore_n dX6_adoptSpare_27 (by decide) (ls' := [some (.inr (some 1)), some (.inl x1), some (.inr (some 15))]) rfl ?_
      refine e_aload_n dX6_adoptSpare_28 rfl ?_
      refine e_aload_n dX6_adoptSpare_29 rfl ?_
      refine e_getr dX6_adoptSpare_30 fO_6_26 (by decide) (gs_1 hg) rfl (gp_1_5 hg) ?_
      obtain ⟨J14, h15, Vh15⟩ := Bc2
      refine e_callv (av := [.inr (some 39)]) (st := []) dX6_adoptSpare_33 cO_6_205 oX5_copyOf rfl (by decide) (gs_15 hg) rfl (Nat.le_of_ble_eq_true rfl) (by decide) h15 (Nat.le_refl _) (Nat.le_refl _) rfl rfl ?_
      refine e_iload_n dX6_adoptSpare_36 rfl ?_
      refine e_if_ne (tgt := 50) dX6_adoptSpare_37 (by decide) (fun c17 => ?_) (fun c17 => ?_)
      · have Ac17 := Vh15.1 c17
        refine e_iload_n dX6_adoptSpare_50 rfl ?_
        refine e_iconst dX6_adoptSpare_51 ⟨by decide, by decide⟩ ?_
        refine e_ic_ne (tgt := 62) dX6_adoptSpare_52 (by decide) (fun c18 => ?_) (fun c18 => ?_)
        · have Ac18 := Ac17.1 c18
          refine ev_drop (ls' := [some (.inr (some 1)), some (.inl x1), none]) 2 rfl ?_
          exact Ac18
        · have Bc18 := Ac17.2 c18
          refine e_aload_n dX6_adoptSpare_55 rfl ?_
          refine e_getr dX6_adoptSpare_56 fO_6_41 (by decide) (gs_1 hg) rfl (gp_1_7 hg) ?_
          obtain ⟨J19, h20, Vh20⟩ := Bc18
          refine e_callv (av := []) (st := []) dX6_adoptSpare_59 cO_6_211 oX1_preparePattern rfl (by decide) (gs_52 hg) rfl (Nat.le_of_ble_eq_true rfl) (by decide) h20 (Nat.le_refl _) (Nat.le_refl _) rfl rfl ?_
          refine ev_drop (ls' := [some (.inr (some 1)), some (.inl x1), none]) 2 rfl ?_
          exact Vh20
      · have Bc17 := Vh15.2 c17
        refine e_aload_n dX6_adoptSpare_40 rfl ?_
        refine e_getr dX6_adoptSpare_41 fO_6_16 (by decide) (gs_1 hg) rfl (gp_1_2 hg) ?_
        obtain ⟨J22, h23, Vh23⟩ := Bc17
        refine e_callv (av := []) (st := []) dX6_adoptSpare_44 cO_6_208 oX5_markAlike rfl (by decide) (gs_3 hg) rfl (Nat.le_of_ble_eq_true rfl) (by decide) h23 (Nat.le_refl _) (Nat.le_refl _) rfl rfl ?_
        refine e_goto (tgt := 62) dX6_adoptSpare_47 (by decide) ?_
        refine ev_drop (ls' := [some (.inr (some 1)), some (.inl x1), none]) 2 rfl ?_
        exact Vh23
  · have Bc1 := V.2 c1
    refine e_aload_n dX6_adoptSpare_4 rfl ?_
    refine e_getr dX6_adoptSpare_5 fO_6_16 (by decide) (gs_1 hg) rfl (gp_1_2 hg) ?_
    refine e_goto (tgt := 27) dX6_adoptSpare_8 (by decide) ?_
    refine e_astore_n dX6_adoptSpare_27 (by decide) (ls' := [some (.inr (some 1)), some (.inl x1), some (.inr (some 3))]) rfl ?_
    refine e_aload_n dX6_adoptSpare_28 rfl ?_
    refine e_aload_n dX6_adoptSpare_29 rfl ?_
    refine e_getr dX6_adoptSpare_30 fO_6_26 (by decide) (gs_1 hg) rfl (gp_1_5 hg) ?_
    obtain ⟨J25, h26, Vh26⟩ := Bc1
    refine e_callv (av := [.inr (some 39)]) (st := []) dX6_adoptSpare_33 cO_6_205 oX5_copyOf rfl (by decide) (gs_3 hg) rfl (Nat.le_of_ble_eq_true rfl) (by decide) h26 (Nat.le_refl _) (Nat.le_refl _) rfl rfl ?_
    refine e_iload_n dX6_adoptSpare_36 rfl ?_
    refine e_if_ne (tgt := 50) dX6_adoptSpare_37 (by decide) (fun c28 => ?_) (fun c28 => ?_)
    · have Ac28 := Vh26.1 c28
      refine e_iload_n dX6_adoptSpare_50 rfl ?_
      refine e_iconst dX6_adoptSpare_51 ⟨by decide, by decide⟩ ?_
      refine e_ic_ne (tgt := 62) dX6_adoptSpare_52 (by decide) (fun c29 => ?_) (fun c29 => ?_)
      · have Ac29 := Ac28.1 c29
        refine ev_drop (ls' := [some (.inr (some 1)), some (.inl x1), none]) 2 rfl ?_
        exact Ac29
      · have Bc29 := Ac28.2 c29
        refine e_aload_n dX6_adoptSpare_55 rfl ?_
        refine e_getr dX6_adoptSpare_56 fO_6_41 (by decide) (gs_1 hg) rfl (gp_1_7 hg) ?_
        obtain ⟨J30, h31, Vh31⟩ := Bc29
        refine e_callv (av := []) (st := []) dX6_adoptSpare_59 cO_6_211 oX1_preparePattern rfl (by decide) (gs_52 hg) rfl (Nat.le_of_ble_eq_true rfl) (by decide) h31 (Nat.le_refl _) (Nat.le_refl _) rfl rfl ?_
        refine ev_drop (ls' := [some (.inr (some 1)), some (.inl x1), none]) 2 rfl ?_
        exact Vh31
    · have Bc28 := Vh26.2 c28
      refine e_aload_n dX6_adoptSpare_40 rfl ?_
      refine e_getr dX6_adoptSpare_41 fO_6_16 (by decide) (gs_1 hg) rfl (gp_1_2 hg) ?_
      obtain ⟨J33, h34, Vh34⟩ := Bc28
      refine e_callv (av := []) (st := []) dX6_adoptSpare_44 cO_6_208 oX5_markAlike rfl (by decide) (gs_3 hg) rfl (Nat.le_of_ble_eq_true rfl) (by decide) h34 (Nat.le_refl _) (Nat.le_refl _) rfl rfl ?_
      refine e_goto (tgt := 62) dX6_adoptSpare_47 (by decide) ?_
      refine ev_drop (ls' := [some (.inr (some 1)), some (.inl x1), none]) 2 rfl ?_
      exact Vh34
set_option maxRecDepth 100000 in
set_option maxHeartbeats 4000000 in
theorem v_X6_adoptSpare_62 {Γ : GX} {g : AG} {I J : Nat → Nat → Int} {r : Option AV} (hg : GOc g) (x1 : Int)
    (V : (((x1 = 2)) → (Ev Γ 3 mX6_adoptSpare 74 [none, none, none] [] (g, I) (r, (g, J)))) ∧ ((¬ (x1 = 2)) → (∃ (J2 : Nat → Nat → Int), CT Γ 0 mX1_forgetMatched [.inr (some 52)] (g, I) (none, (g, J2)) ∧ (Ev Γ 3 mX6_adoptSpare 74 [none, none, none] [] (g, J2) (r, (g, J)))))) : Ev Γ 3 mX6_adoptSpare 62 [some (.inr (some 1)), some (.inl x1), none] [] (g, I) (r, (g, J)) := by
  refine e_iload_n dX6_adoptSpare_62 rfl ?_
  refine e_iconst dX6_adoptSpare_63 ⟨by decide, by decide⟩ ?_
  refine e_ic_eq (tgt := 74) dX6_adoptSpare_64 (by decide) (fun c1 => ?_) (fun c1 => ?_)
  · have Ac1 := V.1 c1
    refine ev_drop (ls' := [none, some (.inl x1), none]) 0 rfl ?_
    refine ev_drop (ls' := [none, none, none]) 1 rfl ?_
    exact Ac1
  · have Bc1 := V.2 c1
    refine e_aload_n dX6_adoptSpare_67 rfl ?_
    refine e_getr dX6_adoptSpare_68 fO_6_41 (by decide) (gs_1 hg) rfl (gp_1_7 hg) ?_
    obtain ⟨J2, h3, Vh3⟩ := Bc1
    refine e_callv (av := []) (st := []) dX6_adoptSpare_71 cO_6_214 oX1_forgetMatched rfl (by decide) (gs_52 hg) rfl (Nat.le_of_ble_eq_true rfl) (by decide) h3 (Nat.le_refl _) (Nat.le_refl _) rfl rfl ?_
    refine ev_drop (ls' := [none, some (.inl x1), none]) 0 rfl ?_
    refine ev_drop (ls' := [none, none, none]) 1 rfl ?_
    exact Vh3
set_option maxRecDepth 100000 in
set_option maxHeartbeats 4000000 in
theorem v_X6_adoptSpare_74 {Γ : GX} {g : AG} {I J : Nat → Nat → Int} {r : Option AV} (hg : GOc g) 
    (V : r = none ∧ J = I) : Ev Γ 3 mX6_adoptSpare 74 [none, none, none] [] (g, I) (r, (g, J)) := by
  exact e_vret dX6_adoptSpare_74 rfl (by rw [V.1, V.2])
set_option maxRecDepth 100000 in
set_option maxHeartbeats 4000000 in
theorem v_X6_restoreWritten_0 {Γ : GX} {g : AG} {I J : Nat → Nat → Int} {r : Option AV} (hg : GOc g) 
    (V : ∃ (J1 : Nat → Nat → Int), CT Γ 3 mX2_readWritten [.inr (some 66), .inr (some 39)] (g, I) (none, (g, J1)) ∧ (∃ (r6 : Int) (J4 : Nat → Nat → Int), CT Γ 4 mX4_readTree [.inr (some 51), .inr (some 39), .inl 0] (g, J1) (some (.inl r6), (g, J4)) ∧ (∃ (J7 : Nat → Nat → Int), CT Γ 3 mX6_adoptSpare [.inr (some 1), .inl 0] (g, J4) (none, (g, J7)) ∧ (r = none ∧ J = J7)))) : Ev Γ 5 mX6_restoreWritten 0 [some (.inr (some 1))] [] (g, I) (r, (g, J)) := by
  refine e_aload_n dX6_restoreWritten_0 rfl ?_
  refine e_getr dX6_restoreWritten_1 fO_6_66 (by decide) (gs_1 hg) rfl (gp_1_10 hg) ?_
  refine e_aload_n dX6_restoreWritten_4 rfl ?_
  refine e_getr dX6_restoreWritten_5 fO_6_26 (by decide) (gs_1 hg) rfl (gp_1_5 hg) ?_
  obtain ⟨J1, h2, Vh2⟩ := V
  refine e_callv (av := [.inr (some 39)]) (st := []) dX6_restoreWritten_8 cO_6_217 oX2_readWritten rfl (by decide) (gs_66 hg) rfl (Nat.le_of_ble_eq_true rfl) (by decide) h2 (Nat.le_refl _) (Nat.le_refl _) rfl rfl ?_
  refine e_aload_n dX6_restoreWritten_11 rfl ?_
  refine e_getr dX6_restoreWritten_12 fO_6_32 (by decide) (gs_1 hg) rfl (gp_1_6 hg) ?_
  refine e_aload_n dX6_restoreWritten_15 rfl ?_
  refine e_getr dX6_restoreWritten_16 fO_6_26 (by decide) (gs_1 hg) rfl (gp_1_5 hg) ?_
  refine e_iconst dX6_restoreWritten_19 ⟨by decide, by decide⟩ ?_
  obtain ⟨r6, J4, h5, Vh5⟩ := Vh2
  refine e_callv (av := [.inr (some 39), .inl 0]) (st := []) dX6_restoreWritten_20 cO_6_74 oX4_readTree rfl (by decide) (gs_51 hg) rfl (Nat.le_of_ble_eq_true rfl) (by decide) h5 (Nat.le_refl _) (Nat.le_refl _) rfl rfl ?_
  refine e_pop dX6_restoreWritten_23 ?_
  refine e_aload_n dX6_restoreWritten_24 rfl ?_
  refine e_iconst dX6_restoreWritten_25 ⟨by decide, by decide⟩ ?_
  obtain ⟨J7, h8, Vh8⟩ := Vh5
  refine e_callv (av := [.inl 0]) (st := []) dX6_restoreWritten_26 cO_6_78 oX6_adoptSpare rfl (by decide) (gs_1 hg) rfl (Nat.le_of_ble_eq_true rfl) (by decide) h8 (Nat.le_refl _) (Nat.le_refl _) rfl rfl ?_
  exact e_vret dX6_restoreWritten_29 rfl (by rw [Vh8.1, Vh8.2])
set_option maxRecDepth 100000 in
set_option maxHeartbeats 4000000 in
theorem v_X6_putOnce_0 {Γ : GX} {g : AG} {I J : Nat → Nat → Int} {r : Option AV} (hg : GOc g) (x1 : Int)
    (V : ∃ (J1 : Nat → Nat → Int), CT Γ 4 mX1_findAll [.inr (some 52)] (g, I) (none, (g, J1)) ∧ (∃ (J4 : Nat → Nat → Int), CT Γ 1 mX0_choose [.inr (some 61), .inl x1] (g, J1) (none, (g, J4)) ∧ (((¬ ((J4 61 3) = 0)) → (∃ (r10 : Int) (J8 : Nat → Nat → Int), CT Γ 4 mX3_build [.inr (some 64), .inr (some 39), .inr (some 61)] (g, J4) (some (.inl r10), (g, J8)) ∧ ((((r10 = 0)) → (r = some (.inl (-2)) ∧ J = J8)) ∧ ((¬ (r10 = 0)) → (∃ (r14 : Int) (J12 : Nat → Nat → Int), CT Γ 4 mX4_readTree [.inr (some 51), .inr (some 39), .inl 0] (g, J8) (some (.inl r14), (g, J12)) ∧ ((((r14 = (-1))) → (∃ (J16 : Nat → Nat → Int), CT Γ 3 mX6_adoptSpare [.inr (some 1), .inl 0] (g, J12) (none, (g, J16)) ∧ (r = some (.inl (J16 61 3)) ∧ J = J16))) ∧ ((¬ (r14 = (-1))) → (r = some (.inl (-2)) ∧ J = J12)))))))) ∧ ((((J4 61 3) = 0)) → (r = some (.inl 0) ∧ J = J4))))) : Ev Γ 5 mX6_putOnce 0 [some (.inr (some 1)), some (.inl x1)] [] (g, I) (r, (g, J)) := by
  refine e_aload_n dX6_putOnce_0 rfl ?_
  refine e_getr dX6_putOnce_1 fO_6_41 (by decide) (gs_1 hg) rfl (gp_1_7 hg) ?_
  obtain ⟨J1, h2, Vh2⟩ := V
  refine e_callv (av := []) (st := []) dX6_putOnce_4 cO_6_157 oX1_findAll rfl (by decide) (gs_52 hg) rfl (Nat.le_of_ble_eq_true rfl) (by decide) h2 (Nat.le_refl _) (Nat.le_refl _) rfl rfl ?_
  refine e_aload_n dX6_putOnce_7 rfl ?_
  refine e_getr dX6_putOnce_8 fO_6_50 (by decide) (gs_1 hg) rfl (gp_1_8 hg) ?_
  refine e_iload_n dX6_putOnce_11 rfl ?_
  obtain ⟨J4, h5, Vh5⟩ := Vh2
  refine e_callv (av := [.inl x1]) (st := []) dX6_putOnce_12 cO_6_160 oX0_choose rfl (by decide) (gs_61 hg) rfl (Nat.le_of_ble_eq_true rfl) (by decide) h5 (Nat.le_refl _) (Nat.le_refl _) rfl rfl ?_
  refine e_aload_n dX6_putOnce_15 rfl ?_
  refine e_getr dX6_putOnce_16 fO_6_50 (by decide) (gs_1 hg) rfl (gp_1_8 hg) ?_
  refine e_geti dX6_putOnce_19 fO_6_163 (by decide) (gs_61 hg) rfl ?_
  refine e_if_ne (tgt := 27) dX6_putOnce_22 (by decide) (fun c7 => ?_) (fun c7 => ?_)
  · have Ac7 := Vh5.1 c7
    refine e_aload_n dX6_putOnce_27 rfl ?_
    refine e_getr dX6_putOnce_28 fO_6_59 (by decide) (gs_1 hg) rfl (gp_1_9 hg) ?_
    refine e_aload_n dX6_putOnce_31 rfl ?_
    refine e_getr dX6_putOnce_32 fO_6_26 (by decide) (gs_1 hg) rfl (gp_1_5 hg) ?_
    refine e_aload_n dX6_putOnce_35 rfl ?_
    refine e_getr dX6_putOnce_36 fO_6_50 (by decide) (gs_1 hg) rfl (gp_1_8 hg) ?_
    obtain ⟨r10, J8, h9, Vh9⟩ := Ac7
    refine e_callv (av := [.inr (some 39), .inr (some 61)]) (st := []) dX6_putOnce_39 cO_6_220 oX3_build rfl (by decide) (gs_64 hg) rfl (Nat.le_of_ble_eq_true rfl) (by decide) h9 (Nat.le_refl _) (Nat.le_refl _) rfl rfl ?_
    refine e_if_eq (tgt := 61) dX6_putOnce_42 (by decide) (fun c11 => ?_) (fun c11 => ?_)
    · have Ac11 := Vh9.1 c11
      refine e_bipush dX6_putOnce_61 (by decide) ⟨by decide, by decide⟩ ?_
      exact e_iret dX6_putOnce_63 rfl (by rw [Ac11.1, Ac11.2])
    · have Bc11 := Vh9.2 c11
      refine e_aload_n dX6_putOnce_45 rfl ?_
      refine e_getr dX6_putOnce_46 fO_6_32 (by decide) (gs_1 hg) rfl (gp_1_6 hg) ?_
      refine e_aload_n dX6_putOnce_49 rfl ?_
      refine e_getr dX6_putOnce_50 fO_6_26 (by decide) (gs_1 hg) rfl (gp_1_5 hg) ?_
      refine e_iconst dX6_putOnce_53 ⟨by decide, by decide⟩ ?_
      obtain ⟨r14, J12, h13, Vh13⟩ := Bc11
      refine e_callv (av := [.inr (some 39), .inl 0]) (st := []) dX6_putOnce_54 cO_6_74 oX4_readTree rfl (by decide) (gs_51 hg) rfl (Nat.le_of_ble_eq_true rfl) (by decide) h13 (Nat.le_refl _) (Nat.le_refl _) rfl rfl ?_
      refine e_iconst dX6_putOnce_57 ⟨by decide, by decide⟩ ?_
      refine e_ic_eq (tgt := 64) dX6_putOnce_58 (by decide) (fun c15 => ?_) (fun c15 => ?_)
      · have Ac15 := Vh13.1 c15
        refine e_aload_n dX6_putOnce_64 rfl ?_
        refine e_iconst dX6_putOnce_65 ⟨by decide, by decide⟩ ?_
        obtain ⟨J16, h17, Vh17⟩ := Ac15
        refine e_callv (av := [.inl 0]) (st := []) dX6_putOnce_66 cO_6_78 oX6_adoptSpare rfl (by decide) (gs_1 hg) rfl (Nat.le_of_ble_eq_true rfl) (by decide) h17 (Nat.le_refl _) (Nat.le_refl _) rfl rfl ?_
        refine e_aload_n dX6_putOnce_69 rfl ?_
        refine e_getr dX6_putOnce_70 fO_6_50 (by decide) (gs_1 hg) rfl (gp_1_8 hg) ?_
        refine e_geti dX6_putOnce_73 fO_6_163 (by decide) (gs_61 hg) rfl ?_
        exact e_iret dX6_putOnce_76 rfl (by rw [Vh17.1, Vh17.2])
      · have Bc15 := Vh13.2 c15
        refine e_bipush dX6_putOnce_61 (by decide) ⟨by decide, by decide⟩ ?_
        exact e_iret dX6_putOnce_63 rfl (by rw [Bc15.1, Bc15.2])
  · have Bc7 := Vh5.2 c7
    refine e_iconst dX6_putOnce_25 ⟨by decide, by decide⟩ ?_
    exact e_iret dX6_putOnce_26 rfl (by rw [Bc7.1, Bc7.2])
set_option maxRecDepth 100000 in
set_option maxHeartbeats 4000000 in
theorem v_X6_mayPut_0 {Γ : GX} {g : AG} {I J : Nat → Nat → Int} {r : Option AV} (hg : GOc g) (x1 : Int)
    (V : ∃ (r3 : Int) (J1 : Nat → Nat → Int), CT Γ 0 mX6_isRule [.inl x1] (g, I) (some (.inl r3), (g, J1)) ∧ (((¬ (r3 = 0)) → (Ev Γ 1 mX6_mayPut 11 [some (.inr (some 1)), none, some (.inl 0), none] [] (g, J1) (r, (g, J)))) ∧ (((r3 = 0)) → (r = some (.inl 0) ∧ J = J1)))) : Ev Γ 1 mX6_mayPut 0 [some (.inr (some 1)), some (.inl x1), none, none] [] (g, I) (r, (g, J)) := by
  refine e_iload_n dX6_mayPut_0 rfl ?_
  obtain ⟨r3, J1, h2, Vh2⟩ := V
  refine e_calls (av := [.inl x1]) (st := []) dX6_mayPut_1 cO_6_154 oX6_isRule rfl rfl (Nat.le_of_ble_eq_true rfl) (by decide) h2 (Nat.le_refl _) (Nat.le_refl _) rfl rfl ?_
  refine e_if_ne (tgt := 9) dX6_mayPut_4 (by decide) (fun c4 => ?_) (fun c4 => ?_)
  · have Ac4 := Vh2.1 c4
    refine e_iconst dX6_mayPut_9 ⟨by decide, by decide⟩ ?_
    refine e_istore_n dX6_mayPut_10 (by decide) (ls' := [some (.inr (some 1)), some (.inl x1), some (.inl 0), none]) rfl ?_
    refine ev_drop (ls' := [some (.inr (some 1)), none, some (.inl 0), none]) 1 rfl ?_
    exact Ac4
  · have Bc4 := Vh2.2 c4
    refine e_iconst dX6_mayPut_7 ⟨by decide, by decide⟩ ?_
    exact e_zret dX6_mayPut_8 rfl (by decide) (by rw [Bc4.1, Bc4.2])
set_option maxRecDepth 100000 in
set_option maxHeartbeats 4000000 in
theorem v_X6_mayPut_11 {Γ : GX} {g : AG} {I J : Nat → Nat → Int} {r : Option AV} (hg : GOc g) (x2 : Int)
    (V : (((26 ≤ x2)) → (r = some (.inl 1) ∧ J = I)) ∧ ((¬ (26 ≤ x2)) → (∃ (r4 : Int) (J2 : Nat → Nat → Int), CT Γ 0 mX5_kindOf [.inr (some 27), .inl x2] (g, I) (some (.inl r4), (g, J2)) ∧ ((((r4 = (-1))) → (inR (x2 + 1) ∧ (Ev Γ 1 mX6_mayPut 11 [some (.inr (some 1)), none, some (.inl (x2 + 1)), none] [] (g, J2) (r, (g, J))))) ∧ ((¬ (r4 = (-1))) → (∃ (r9 : Int) (J7 : Nat → Nat → Int), CT Γ 0 mX5_kindOf [.inr (some 15), .inl x2] (g, J2) (some (.inl r9), (g, J7)) ∧ ((((r4 = r9)) → (inR (x2 + 1) ∧ (Ev Γ 1 mX6_mayPut 11 [some (.inr (some 1)), none, some (.inl (x2 + 1)), none] [] (g, J7) (r, (g, J))))) ∧ ((¬ (r4 = r9)) → (r = some (.inl 0) ∧ J = J7))))))))) : Ev Γ 1 mX6_mayPut 11 [some (.inr (some 1)), none, some (.inl x2), none] [] (g, I) (r, (g, J)) := by
  refine e_iload_n dX6_mayPut_11 rfl ?_
  refine e_bipush dX6_mayPut_12 (by decide) ⟨by decide, by decide⟩ ?_
  refine e_ic_ge (tgt := 51) dX6_mayPut_14 (by decide) (fun c1 => ?_) (fun c1 => ?_)
  · have Ac1 := V.1 c1
    refine e_iconst dX6_mayPut_51 ⟨by decide, by decide⟩ ?_
    exact e_zret dX6_mayPut_52 rfl (by decide) (by rw [Ac1.1, Ac1.2])
  · have Bc1 := V.2 c1
    refine e_aload_n dX6_mayPut_17 rfl ?_
    refine e_getr dX6_mayPut_18 fO_6_23 (by decide) (gs_1 hg) rfl (gp_1_4 hg) ?_
    refine e_iload_n dX6_mayPut_21 rfl ?_
    obtain ⟨r4, J2, h3, Vh3⟩ := Bc1
    refine e_callv (av := [.inl x2]) (st := []) dX6_mayPut_22 cO_6_224 oX5_kindOf rfl (by decide) (gs_27 hg) rfl (Nat.le_of_ble_eq_true rfl) (by decide) h3 (Nat.le_refl _) (Nat.le_refl _) rfl rfl ?_
    refine e_istore_n dX6_mayPut_25 (by decide) (ls' := [some (.inr (some 1)), none, some (.inl x2), some (.inl r4)]) rfl ?_
    refine e_iload_n dX6_mayPut_26 rfl ?_
    refine e_iconst dX6_mayPut_27 ⟨by decide, by decide⟩ ?_
    refine e_ic_eq (tgt := 45) dX6_mayPut_28 (by decide) (fun c5 => ?_) (fun c5 => ?_)
    · have Ac5 := Vh3.1 c5
      obtain ⟨h6, Vh6⟩ := Ac5
      refine e_iinc dX6_mayPut_45 (by decide) rfl h6 (ls' := [some (.inr (some 1)), none, some (.inl (x2 + 1)), some (.inl r4)]) rfl ?_
      refine e_goto (tgt := 11) dX6_mayPut_48 (by decide) ?_
      refine ev_drop (ls' := [some (.inr (some 1)), none, some (.inl (x2 + 1)), none]) 3 rfl ?_
      exact Vh6
    · have Bc5 := Vh3.2 c5
      refine e_iload_n dX6_mayPut_31 rfl ?_
      refine e_aload_n dX6_mayPut_32 rfl ?_
      refine e_getr dX6_mayPut_33 fO_6_20 (by decide) (gs_1 hg) rfl (gp_1_3 hg) ?_
      refine e_iload_n dX6_mayPut_36 rfl ?_
      obtain ⟨r9, J7, h8, Vh8⟩ := Bc5
      refine e_callv (av := [.inl x2]) (st := [.inl r4]) dX6_mayPut_37 cO_6_224 oX5_kindOf rfl (by decide) (gs_15 hg) rfl (Nat.le_of_ble_eq_true rfl) (by decide) h8 (Nat.le_refl _) (Nat.le_refl _) rfl rfl ?_
      refine e_ic_eq (tgt := 45) dX6_mayPut_40 (by decide) (fun c10 => ?_) (fun c10 => ?_)
      · have Ac10 := Vh8.1 c10
        obtain ⟨h11, Vh11⟩ := Ac10
        refine e_iinc dX6_mayPut_45 (by decide) rfl h11 (ls' := [some (.inr (some 1)), none, some (.inl (x2 + 1)), some (.inl r4)]) rfl ?_
        refine e_goto (tgt := 11) dX6_mayPut_48 (by decide) ?_
        refine ev_drop (ls' := [some (.inr (some 1)), none, some (.inl (x2 + 1)), none]) 3 rfl ?_
        exact Vh11
      · have Bc10 := Vh8.2 c10
        refine e_iconst dX6_mayPut_43 ⟨by decide, by decide⟩ ?_
        exact e_zret dX6_mayPut_44 rfl (by decide) (by rw [Bc10.1, Bc10.2])
set_option maxRecDepth 100000 in
set_option maxHeartbeats 4000000 in
theorem v_X6_isBound_0 {Γ : GX} {g : AG} {I J : Nat → Nat → Int} {r : Option AV} (hg : GOc g) (x1 : Int) (x2 : Int)
    (V : ∃ (r3 : Int) (J1 : Nat → Nat → Int), CT Γ 0 mX6_isNode [.inr (some 1), .inl x1] (g, I) (some (.inl r3), (g, J1)) ∧ ((((r3 = 0)) → (r = some (.inl 0) ∧ J = J1)) ∧ ((¬ (r3 = 0)) → (∃ (r7 : Int) (J5 : Nat → Nat → Int), CT Γ 0 mX6_isLetter [.inl x2] (g, J1) (some (.inl r7), (g, J5)) ∧ ((((r7 = 0)) → (r = some (.inl 0) ∧ J = J5)) ∧ ((¬ (r7 = 0)) → (∃ (r11 : Int) (J9 : Nat → Nat → Int), CT Γ 0 mX5_kindOf [.inr (some 15), .inl x2] (g, J5) (some (.inl r11), (g, J9)) ∧ ((((r11 = (-1))) → (r = some (.inl 0) ∧ J = J9)) ∧ ((¬ (r11 = (-1))) → (∃ (r15 : Int) (J13 : Nat → Nat → Int), CT Γ 3 mX1_findWay [.inr (some 52), .inl x1] (g, J9) (some (.inl r15), (g, J13)) ∧ ((((r15 = 0)) → (r = some (.inl 0) ∧ J = J13)) ∧ ((¬ (r15 = 0)) → (r = some (.inl 1) ∧ J = J13))))))))))))) : Ev Γ 4 mX6_isBound 0 [some (.inr (some 1)), some (.inl x1), some (.inl x2)] [] (g, I) (r, (g, J)) := by
  refine e_aload_n dX6_isBound_0 rfl ?_
  refine e_iload_n dX6_isBound_1 rfl ?_
  obtain ⟨r3, J1, h2, Vh2⟩ := V
  refine e_callv (av := [.inl x1]) (st := []) dX6_isBound_2 cO_6_115 oX6_isNode rfl (by decide) (gs_1 hg) rfl (Nat.le_of_ble_eq_true rfl) (by decide) h2 (Nat.le_refl _) (Nat.le_refl _) rfl rfl ?_
  refine e_if_eq (tgt := 42) dX6_isBound_5 (by decide) (fun c4 => ?_) (fun c4 => ?_)
  · have Ac4 := Vh2.1 c4
    refine e_iconst dX6_isBound_42 ⟨by decide, by decide⟩ ?_
    exact e_zret dX6_isBound_43 rfl (by decide) (by rw [Ac4.1, Ac4.2])
  · have Bc4 := Vh2.2 c4
    refine e_iload_n dX6_isBound_8 rfl ?_
    obtain ⟨r7, J5, h6, Vh6⟩ := Bc4
    refine e_calls (av := [.inl x2]) (st := []) dX6_isBound_9 cO_6_100 oX6_isLetter rfl rfl (Nat.le_of_ble_eq_true rfl) (by decide) h6 (Nat.le_refl _) (Nat.le_refl _) rfl rfl ?_
    refine e_if_eq (tgt := 42) dX6_isBound_12 (by decide) (fun c8 => ?_) (fun c8 => ?_)
    · have Ac8 := Vh6.1 c8
      refine e_iconst dX6_isBound_42 ⟨by decide, by decide⟩ ?_
      exact e_zret dX6_isBound_43 rfl (by decide) (by rw [Ac8.1, Ac8.2])
    · have Bc8 := Vh6.2 c8
      refine e_aload_n dX6_isBound_15 rfl ?_
      refine e_getr dX6_isBound_16 fO_6_20 (by decide) (gs_1 hg) rfl (gp_1_3 hg) ?_
      refine e_iload_n dX6_isBound_19 rfl ?_
      obtain ⟨r11, J9, h10, Vh10⟩ := Bc8
      refine e_callv (av := [.inl x2]) (st := []) dX6_isBound_20 cO_6_224 oX5_kindOf rfl (by decide) (gs_15 hg) rfl (Nat.le_of_ble_eq_true rfl) (by decide) h10 (Nat.le_refl _) (Nat.le_refl _) rfl rfl ?_
      refine e_iconst dX6_isBound_23 ⟨by decide, by decide⟩ ?_
      refine e_ic_eq (tgt := 42) dX6_isBound_24 (by decide) (fun c12 => ?_) (fun c12 => ?_)
      · have Ac12 := Vh10.1 c12
        refine e_iconst dX6_isBound_42 ⟨by decide, by decide⟩ ?_
        exact e_zret dX6_isBound_43 rfl (by decide) (by rw [Ac12.1, Ac12.2])
      · have Bc12 := Vh10.2 c12
        refine e_aload_n dX6_isBound_27 rfl ?_
        refine e_getr dX6_isBound_28 fO_6_41 (by decide) (gs_1 hg) rfl (gp_1_7 hg) ?_
        refine e_iload_n dX6_isBound_31 rfl ?_
        obtain ⟨r15, J13, h14, Vh14⟩ := Bc12
        refine e_callv (av := [.inl x1]) (st := []) dX6_isBound_32 cO_6_227 oX1_findWay rfl (by decide) (gs_52 hg) rfl (Nat.le_of_ble_eq_true rfl) (by decide) h14 (Nat.le_refl _) (Nat.le_refl _) rfl rfl ?_
        refine e_if_eq (tgt := 42) dX6_isBound_35 (by decide) (fun c16 => ?_) (fun c16 => ?_)
        · have Ac16 := Vh14.1 c16
          refine e_iconst dX6_isBound_42 ⟨by decide, by decide⟩ ?_
          exact e_zret dX6_isBound_43 rfl (by decide) (by rw [Ac16.1, Ac16.2])
        · have Bc16 := Vh14.2 c16
          refine e_iconst dX6_isBound_38 ⟨by decide, by decide⟩ ?_
          refine e_goto (tgt := 43) dX6_isBound_39 (by decide) ?_
          exact e_zret dX6_isBound_43 rfl (by decide) (by rw [Bc16.1, Bc16.2])
set_option maxRecDepth 100000 in
set_option maxHeartbeats 4000000 in
theorem v_X6_isNode_0 {Γ : GX} {g : AG} {I J : Nat → Nat → Int} {r : Option AV} (hg : GOc g) (x1 : Int)
    (V : (((x1 < 0)) → (r = some (.inl 0) ∧ J = I)) ∧ ((¬ (x1 < 0)) → (((((I 3 2) ≤ x1)) → (r = some (.inl 0) ∧ J = I)) ∧ ((¬ ((I 3 2) ≤ x1)) → (r = some (.inl 1) ∧ J = I))))) : Ev Γ 0 mX6_isNode 0 [some (.inr (some 1)), some (.inl x1)] [] (g, I) (r, (g, J)) := by
  refine e_iload_n dX6_isNode_0 rfl ?_
  refine e_if_lt (tgt := 19) dX6_isNode_1 (by decide) (fun c1 => ?_) (fun c1 => ?_)
  · have Ac1 := V.1 c1
    refine e_iconst dX6_isNode_19 ⟨by decide, by decide⟩ ?_
    exact e_zret dX6_isNode_20 rfl (by decide) (by rw [Ac1.1, Ac1.2])
  · have Bc1 := V.2 c1
    refine e_iload_n dX6_isNode_4 rfl ?_
    refine e_aload_n dX6_isNode_5 rfl ?_
    refine e_getr dX6_isNode_6 fO_6_16 (by decide) (gs_1 hg) rfl (gp_1_2 hg) ?_
    refine e_geti dX6_isNode_9 fO_6_112 (by decide) (gs_3 hg) rfl ?_
    refine e_ic_ge (tgt := 19) dX6_isNode_12 (by decide) (fun c2 => ?_) (fun c2 => ?_)
    · have Ac2 := Bc1.1 c2
      refine e_iconst dX6_isNode_19 ⟨by decide, by decide⟩ ?_
      exact e_zret dX6_isNode_20 rfl (by decide) (by rw [Ac2.1, Ac2.2])
    · have Bc2 := Bc1.2 c2
      refine e_iconst dX6_isNode_15 ⟨by decide, by decide⟩ ?_
      refine e_goto (tgt := 20) dX6_isNode_16 (by decide) ?_
      exact e_zret dX6_isNode_20 rfl (by decide) (by rw [Bc2.1, Bc2.2])
set_option maxRecDepth 100000 in
set_option maxHeartbeats 4000000 in
theorem v_X6_isLetter_0 {Γ : GX} {g : AG} {I J : Nat → Nat → Int} {r : Option AV} (hg : GOc g) (x0 : Int)
    (V : (((x0 < 0)) → (r = some (.inl 0) ∧ J = I)) ∧ ((¬ (x0 < 0)) → ((((26 ≤ x0)) → (r = some (.inl 0) ∧ J = I)) ∧ ((¬ (26 ≤ x0)) → (r = some (.inl 1) ∧ J = I))))) : Ev Γ 0 mX6_isLetter 0 [some (.inl x0)] [] (g, I) (r, (g, J)) := by
  refine e_iload_n dX6_isLetter_0 rfl ?_
  refine e_if_lt (tgt := 14) dX6_isLetter_1 (by decide) (fun c1 => ?_) (fun c1 => ?_)
  · have Ac1 := V.1 c1
    refine e_iconst dX6_isLetter_14 ⟨by decide, by decide⟩ ?_
    exact e_zret dX6_isLetter_15 rfl (by decide) (by rw [Ac1.1, Ac1.2])
  · have Bc1 := V.2 c1
    refine e_iload_n dX6_isLetter_4 rfl ?_
    refine e_bipush dX6_isLetter_5 (by decide) ⟨by decide, by decide⟩ ?_
    refine e_ic_ge (tgt := 14) dX6_isLetter_7 (by decide) (fun c2 => ?_) (fun c2 => ?_)
    · have Ac2 := Bc1.1 c2
      refine e_iconst dX6_isLetter_14 ⟨by decide, by decide⟩ ?_
      exact e_zret dX6_isLetter_15 rfl (by decide) (by rw [Ac2.1, Ac2.2])
    · have Bc2 := Bc1.2 c2
      refine e_iconst dX6_isLetter_10 ⟨by decide, by decide⟩ ?_
      refine e_goto (tgt := 15) dX6_isLetter_11 (by decide) ?_
      exact e_zret dX6_isLetter_15 rfl (by decide) (by rw [Bc2.1, Bc2.2])
set_option maxRecDepth 100000 in
set_option maxHeartbeats 4000000 in
theorem v_X6_isRule_0 {Γ : GX} {g : AG} {I J : Nat → Nat → Int} {r : Option AV} (hg : GOc g) (x0 : Int)
    (V : (((x0 < 0)) → (r = some (.inl 0) ∧ J = I)) ∧ ((¬ (x0 < 0)) → ((((2 < x0)) → (r = some (.inl 0) ∧ J = I)) ∧ ((¬ (2 < x0)) → (r = some (.inl 1) ∧ J = I))))) : Ev Γ 0 mX6_isRule 0 [some (.inl x0)] [] (g, I) (r, (g, J)) := by
  refine e_iload_n dX6_isRule_0 rfl ?_
  refine e_if_lt (tgt := 13) dX6_isRule_1 (by decide) (fun c1 => ?_) (fun c1 => ?_)
  · have Ac1 := V.1 c1
    refine e_iconst dX6_isRule_13 ⟨by decide, by decide⟩ ?_
    exact e_zret dX6_isRule_14 rfl (by decide) (by rw [Ac1.1, Ac1.2])
  · have Bc1 := V.2 c1
    refine e_iload_n dX6_isRule_4 rfl ?_
    refine e_iconst dX6_isRule_5 ⟨by decide, by decide⟩ ?_
    refine e_ic_gt (tgt := 13) dX6_isRule_6 (by decide) (fun c2 => ?_) (fun c2 => ?_)
    · have Ac2 := Bc1.1 c2
      refine e_iconst dX6_isRule_13 ⟨by decide, by decide⟩ ?_
      exact e_zret dX6_isRule_14 rfl (by decide) (by rw [Ac2.1, Ac2.2])
    · have Bc2 := Bc1.2 c2
      refine e_iconst dX6_isRule_9 ⟨by decide, by decide⟩ ?_
      refine e_goto (tgt := 14) dX6_isRule_10 (by decide) ?_
      exact e_zret dX6_isRule_14 rfl (by decide) (by rw [Bc2.1, Bc2.2])
set_option maxRecDepth 100000 in
set_option maxHeartbeats 4000000 in
theorem v_X6_isSmall_0 {Γ : GX} {g : AG} {I J : Nat → Nat → Int} {r : Option AV} (hg : GOc g) (x0 : Int)
    (V : (((x0 < 97)) → (r = some (.inl 0) ∧ J = I)) ∧ ((¬ (x0 < 97)) → ((((122 < x0)) → (r = some (.inl 0) ∧ J = I)) ∧ ((¬ (122 < x0)) → (r = some (.inl 1) ∧ J = I))))) : Ev Γ 0 mX6_isSmall 0 [some (.inl x0)] [] (g, I) (r, (g, J)) := by
  refine e_iload_n dX6_isSmall_0 rfl ?_
  refine e_bipush dX6_isSmall_1 (by decide) ⟨by decide, by decide⟩ ?_
  refine e_ic_lt (tgt := 16) dX6_isSmall_3 (by decide) (fun c1 => ?_) (fun c1 => ?_)
  · have Ac1 := V.1 c1
    refine e_iconst dX6_isSmall_16 ⟨by decide, by decide⟩ ?_
    exact e_zret dX6_isSmall_17 rfl (by decide) (by rw [Ac1.1, Ac1.2])
  · have Bc1 := V.2 c1
    refine e_iload_n dX6_isSmall_6 rfl ?_
    refine e_bipush dX6_isSmall_7 (by decide) ⟨by decide, by decide⟩ ?_
    refine e_ic_gt (tgt := 16) dX6_isSmall_9 (by decide) (fun c2 => ?_) (fun c2 => ?_)
    · have Ac2 := Bc1.1 c2
      refine e_iconst dX6_isSmall_16 ⟨by decide, by decide⟩ ?_
      exact e_zret dX6_isSmall_17 rfl (by decide) (by rw [Ac2.1, Ac2.2])
    · have Bc2 := Bc1.2 c2
      refine e_iconst dX6_isSmall_12 ⟨by decide, by decide⟩ ?_
      refine e_goto (tgt := 17) dX6_isSmall_13 (by decide) ?_
      exact e_zret dX6_isSmall_17 rfl (by decide) (by rw [Bc2.1, Bc2.2])
set_option maxRecDepth 100000 in
set_option maxHeartbeats 4000000 in
theorem v_X6_isAtomByte_0 {Γ : GX} {g : AG} {I J : Nat → Nat → Int} {r : Option AV} (hg : GOc g) (x0 : Int)
    (V : (((x0 < 97)) → ((((x0 < 48)) → (r = some (.inl 0) ∧ J = I)) ∧ ((¬ (x0 < 48)) → ((((57 < x0)) → (r = some (.inl 0) ∧ J = I)) ∧ ((¬ (57 < x0)) → (r = some (.inl 1) ∧ J = I)))))) ∧ ((¬ (x0 < 97)) → ((((x0 ≤ 122)) → (r = some (.inl 1) ∧ J = I)) ∧ ((¬ (x0 ≤ 122)) → ((((x0 < 48)) → (r = some (.inl 0) ∧ J = I)) ∧ ((¬ (x0 < 48)) → ((((57 < x0)) → (r = some (.inl 0) ∧ J = I)) ∧ ((¬ (57 < x0)) → (r = some (.inl 1) ∧ J = I))))))))) : Ev Γ 0 mX6_isAtomByte 0 [some (.inl x0)] [] (g, I) (r, (g, J)) := by
  refine e_iload_n dX6_isAtomByte_0 rfl ?_
  refine e_bipush dX6_isAtomByte_1 (by decide) ⟨by decide, by decide⟩ ?_
  refine e_ic_lt (tgt := 12) dX6_isAtomByte_3 (by decide) (fun c1 => ?_) (fun c1 => ?_)
  · have Ac1 := V.1 c1
    refine e_iload_n dX6_isAtomByte_12 rfl ?_
    refine e_bipush dX6_isAtomByte_13 (by decide) ⟨by decide, by decide⟩ ?_
    refine e_ic_lt (tgt := 28) dX6_isAtomByte_15 (by decide) (fun c2 => ?_) (fun c2 => ?_)
    · have Ac2 := Ac1.1 c2
      refine e_iconst dX6_isAtomByte_28 ⟨by decide, by decide⟩ ?_
      exact e_zret dX6_isAtomByte_29 rfl (by decide) (by rw [Ac2.1, Ac2.2])
    · have Bc2 := Ac1.2 c2
      refine e_iload_n dX6_isAtomByte_18 rfl ?_
      refine e_bipush dX6_isAtomByte_19 (by decide) ⟨by decide, by decide⟩ ?_
      refine e_ic_gt (tgt := 28) dX6_isAtomByte_21 (by decide) (fun c3 => ?_) (fun c3 => ?_)
      · have Ac3 := Bc2.1 c3
        refine e_iconst dX6_isAtomByte_28 ⟨by decide, by decide⟩ ?_
        exact e_zret dX6_isAtomByte_29 rfl (by decide) (by rw [Ac3.1, Ac3.2])
      · have Bc3 := Bc2.2 c3
        refine e_iconst dX6_isAtomByte_24 ⟨by decide, by decide⟩ ?_
        refine e_goto (tgt := 29) dX6_isAtomByte_25 (by decide) ?_
        exact e_zret dX6_isAtomByte_29 rfl (by decide) (by rw [Bc3.1, Bc3.2])
  · have Bc1 := V.2 c1
    refine e_iload_n dX6_isAtomByte_6 rfl ?_
    refine e_bipush dX6_isAtomByte_7 (by decide) ⟨by decide, by decide⟩ ?_
    refine e_ic_le (tgt := 24) dX6_isAtomByte_9 (by decide) (fun c4 => ?_) (fun c4 => ?_)
    · have Ac4 := Bc1.1 c4
      refine e_iconst dX6_isAtomByte_24 ⟨by decide, by decide⟩ ?_
      refine e_goto (tgt := 29) dX6_isAtomByte_25 (by decide) ?_
      exact e_zret dX6_isAtomByte_29 rfl (by decide) (by rw [Ac4.1, Ac4.2])
    · have Bc4 := Bc1.2 c4
      refine e_iload_n dX6_isAtomByte_12 rfl ?_
      refine e_bipush dX6_isAtomByte_13 (by decide) ⟨by decide, by decide⟩ ?_
      refine e_ic_lt (tgt := 28) dX6_isAtomByte_15 (by decide) (fun c5 => ?_) (fun c5 => ?_)
      · have Ac5 := Bc4.1 c5
        refine e_iconst dX6_isAtomByte_28 ⟨by decide, by decide⟩ ?_
        exact e_zret dX6_isAtomByte_29 rfl (by decide) (by rw [Ac5.1, Ac5.2])
      · have Bc5 := Bc4.2 c5
        refine e_iload_n dX6_isAtomByte_18 rfl ?_
        refine e_bipush dX6_isAtomByte_19 (by decide) ⟨by decide, by decide⟩ ?_
        refine e_ic_gt (tgt := 28) dX6_isAtomByte_21 (by decide) (fun c6 => ?_) (fun c6 => ?_)
        · have Ac6 := Bc5.1 c6
          refine e_iconst dX6_isAtomByte_28 ⟨by decide, by decide⟩ ?_
          exact e_zret dX6_isAtomByte_29 rfl (by decide) (by rw [Ac6.1, Ac6.2])
        · have Bc6 := Bc5.2 c6
          refine e_iconst dX6_isAtomByte_24 ⟨by decide, by decide⟩ ?_
          refine e_goto (tgt := 29) dX6_isAtomByte_25 (by decide) ?_
          exact e_zret dX6_isAtomByte_29 rfl (by decide) (by rw [Bc6.1, Bc6.2])
set_option maxRecDepth 100000 in
set_option maxHeartbeats 4000000 in
theorem v_X6_isBlank_0 {Γ : GX} {g : AG} {I J : Nat → Nat → Int} {r : Option AV} (hg : GOc g) (x0 : Int)
    (V : (((x0 = 32)) → (r = some (.inl 1) ∧ J = I)) ∧ ((¬ (x0 = 32)) → (((¬ (x0 = 10)) → (r = some (.inl 0) ∧ J = I)) ∧ (((x0 = 10)) → (r = some (.inl 1) ∧ J = I))))) : Ev Γ 0 mX6_isBlank 0 [some (.inl x0)] [] (g, I) (r, (g, J)) := by
  refine e_iload_n dX6_isBlank_0 rfl ?_
  refine e_bipush dX6_isBlank_1 (by decide) ⟨by decide, by decide⟩ ?_
  refine e_ic_eq (tgt := 12) dX6_isBlank_3 (by decide) (fun c1 => ?_) (fun c1 => ?_)
  · have Ac1 := V.1 c1
    refine e_iconst dX6_isBlank_12 ⟨by decide, by decide⟩ ?_
    refine e_goto (tgt := 17) dX6_isBlank_13 (by decide) ?_
    exact e_zret dX6_isBlank_17 rfl (by decide) (by rw [Ac1.1, Ac1.2])
  · have Bc1 := V.2 c1
    refine e_iload_n dX6_isBlank_6 rfl ?_
    refine e_bipush dX6_isBlank_7 (by decide) ⟨by decide, by decide⟩ ?_
    refine e_ic_ne (tgt := 16) dX6_isBlank_9 (by decide) (fun c2 => ?_) (fun c2 => ?_)
    · have Ac2 := Bc1.1 c2
      refine e_iconst dX6_isBlank_16 ⟨by decide, by decide⟩ ?_
      exact e_zret dX6_isBlank_17 rfl (by decide) (by rw [Ac2.1, Ac2.2])
    · have Bc2 := Bc1.2 c2
      refine e_iconst dX6_isBlank_12 ⟨by decide, by decide⟩ ?_
      refine e_goto (tgt := 17) dX6_isBlank_13 (by decide) ?_
      exact e_zret dX6_isBlank_17 rfl (by decide) (by rw [Bc2.1, Bc2.2])
