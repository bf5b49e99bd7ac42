set_option maxRecDepth 100000 in
set_option maxHeartbeats 4000000 in
theorem v_X8_feed_0 {Γ : GX} {g : AG} {I J : Nat → Nat → Int} {r : Option AV} (hg : GOk g) (x1 : Int) (x2 : Int) (x3 : Int) (x4 : Int) (x5 : Int)
    (V : ∀ I1 : Nat → Nat → Int, I1 = mset I 80 0 0 → (∃ (r4 : Int) (J2 : Nat → Nat → Int), CT Γ 0 mX8_bytesIn [.inl x1] (g, I1) (some (.inl r4), (g, J2)) ∧ (inR ((I1 80 2) + r4) ∧ (∃ (r8 : Int) (J6 : Nat → Nat → Int), CT Γ 0 mX8_bytesIn [.inl x2] (g, J2) (some (.inl r8), (g, J6)) ∧ (inR (((I1 80 2) + r4) + r8) ∧ (∃ (r12 : Int) (J10 : Nat → Nat → Int), CT Γ 0 mX8_bytesIn [.inl x3] (g, J6) (some (.inl r12), (g, J10)) ∧ (inR ((((I1 80 2) + r4) + r8) + r12) ∧ (∃ (r16 : Int) (J14 : Nat → Nat → Int), CT Γ 0 mX8_bytesIn [.inl x4] (g, J10) (some (.inl r16), (g, J14)) ∧ (inR (((((I1 80 2) + r4) + r8) + r12) + r16) ∧ (∃ (r20 : Int) (J18 : Nat → Nat → Int), CT Γ 0 mX8_bytesIn [.inl x5] (g, J14) (some (.inl r20), (g, J18)) ∧ (inR ((((((I1 80 2) + r4) + r8) + r12) + r16) + r20) ∧ ((((((((((I1 80 2) + r4) + r8) + r12) + r16) + r20) ≤ 240)) → (∃ (J23 : Nat → Nat → Int), CT Γ 0 mX8_put4 [.inr (some 80), .inl x1] (g, J18) (none, (g, J23)) ∧ (∃ (J26 : Nat → Nat → Int), CT Γ 0 mX8_put4 [.inr (some 80), .inl x2] (g, J23) (none, (g, J26)) ∧ (∃ (J29 : Nat → Nat → Int), CT Γ 0 mX8_put4 [.inr (some 80), .inl x3] (g, J26) (none, (g, J29)) ∧ (∃ (J32 : Nat → Nat → Int), CT Γ 0 mX8_put4 [.inr (some 80), .inl x4] (g, J29) (none, (g, J32)) ∧ (∃ (J35 : Nat → Nat → Int), CT Γ 0 mX8_put4 [.inr (some 80), .inl x5] (g, J32) (none, (g, J35)) ∧ (r = some (.inl (J35 80 2)) ∧ J = J35))))))) ∧ ((¬ (((((((I1 80 2) + r4) + r8) + r12) + r16) + r20) ≤ 240)) → (r = some (.inl (-1)) ∧ J = J18)))))))))))))) : Ev Γ 1 mX8_feed 0 [some (.inr (some 80)), some (.inl x1), some (.inl x2), some (.inl x3), some (.inl x4), some (.inl x5)] [] (g, I) (r, (g, J)) := by
  refine e_aload_n dX8_feed_0 rfl ?_
  refine e_iconst dX8_feed_1 ⟨by decide, by decide⟩ ?_
  refine e_puti dX8_feed_2 fO_8_103 (by decide) (gs_80 hg) rfl rfl ?_
  refine e_mem (fun I1 eI1 => ?_)
  have WI1 := V I1 eI1
  refine e_aload_n dX8_feed_5 rfl ?_
  refine e_geti dX8_feed_6 fO_8_95 (by decide) (gs_80 hg) rfl ?_
  refine e_iload_n dX8_feed_9 rfl ?_
  obtain ⟨r4, J2, h3, Vh3⟩ := WI1
  refine e_calls (av := [.inl x1]) (st := [.inl (I1 80 2)]) dX8_feed_10 cO_8_194 oX8_bytesIn rfl rfl (Nat.le_of_ble_eq_true rfl) (by decide) h3 (Nat.le_refl _) (Nat.le_refl _) rfl rfl ?_
  obtain ⟨h5, Vh5⟩ := Vh3
  refine e_iadd dX8_feed_13 h5 ?_
  refine e_iload_n dX8_feed_14 rfl ?_
  obtain ⟨r8, J6, h7, Vh7⟩ := Vh5
  refine e_calls (av := [.inl x2]) (st := [.inl ((I1 80 2) + r4)]) dX8_feed_15 cO_8_194 oX8_bytesIn rfl rfl (Nat.le_of_ble_eq_true rfl) (by decide) h7 (Nat.le_refl _) (Nat.le_refl _) rfl rfl ?_
  obtain ⟨h9, Vh9⟩ := Vh7
  refine e_iadd dX8_feed_18 h9 ?_
  refine e_iload_n dX8_feed_19 rfl ?_
  obtain ⟨r12, J10, h11, Vh11⟩ := Vh9
  refine e_calls (av := [.inl x3]) (st := [.inl (((I1 80 2) + r4) + r8)]) dX8_feed_20 cO_8_194 oX8_bytesIn rfl rfl (Nat.le_of_ble_eq_true rfl) (by decide) h11 (Nat.le_refl _) (Nat.le_refl _) rfl rfl ?_
  obtain ⟨h13, Vh13⟩ := Vh11
  refine e_iadd dX8_feed_23 h13 ?_
  refine e_iload dX8_feed_24 rfl ?_
  obtain ⟨r16, J14, h15, Vh15⟩ := Vh13
  refine e_calls (av := [.inl x4]) (st := [.inl ((((I1 80 2) + r4) + r8) + r12)]) dX8_feed_26 cO_8_194 oX8_bytesIn rfl rfl (Nat.le_of_ble_eq_true rfl) (by decide) h15 (Nat.le_refl _) (Nat.le_refl _) rfl rfl ?_
  obtain ⟨h17, Vh17⟩ := Vh15
  refine e_iadd dX8_feed_29 h17 ?_
  refine e_iload dX8_feed_30 rfl ?_
  obtain ⟨r20, J18, h19, Vh19⟩ := Vh17
  refine e_calls (av := [.inl x5]) (st := [.inl (((((I1 80 2) + r4) + r8) + r12) + r16)]) dX8_feed_32 cO_8_194 oX8_bytesIn rfl rfl (Nat.le_of_ble_eq_true rfl) (by decide) h19 (Nat.le_refl _) (Nat.le_refl _) rfl rfl ?_
  obtain ⟨h21, Vh21⟩ := Vh19
  refine e_iadd dX8_feed_35 h21 ?_
  refine e_sipush dX8_feed_36 (by decide) ⟨by decide, by decide⟩ ?_
  refine e_ic_le (tgt := 44) dX8_feed_39 (by decide) (fun c22 => ?_) (fun c22 => ?_)
  · have Ac22 := Vh21.1 c22
    refine e_aload_n dX8_feed_44 rfl ?_
    refine e_iload_n dX8_feed_45 rfl ?_
    obtain ⟨J23, h24, Vh24⟩ := Ac22
    refine e_callv (av := [.inl x1]) (st := []) dX8_feed_46 cO_8_198 oX8_put4 rfl (by decide) (gs_80 hg) rfl (Nat.le_of_ble_eq_true rfl) (by decide) h24 (Nat.le_refl _) (Nat.le_refl _) rfl rfl ?_
    refine e_aload_n dX8_feed_49 rfl ?_
    refine e_iload_n dX8_feed_50 rfl ?_
    obtain ⟨J26, h27, Vh27⟩ := Vh24
    refine e_callv (av := [.inl x2]) (st := []) dX8_feed_51 cO_8_198 oX8_put4 rfl (by decide) (gs_80 hg) rfl (Nat.le_of_ble_eq_true rfl) (by decide) h27 (Nat.le_refl _) (Nat.le_refl _) rfl rfl ?_
    refine e_aload_n dX8_feed_54 rfl ?_
    refine e_iload_n dX8_feed_55 rfl ?_
    obtain ⟨J29, h30, Vh30⟩ := Vh27
    refine e_callv (av := [.inl x3]) (st := []) dX8_feed_56 cO_8_198 oX8_put4 rfl (by decide) (gs_80 hg) rfl (Nat.le_of_ble_eq_true rfl) (by decide) h30 (Nat.le_refl _) (Nat.le_refl _) rfl rfl ?_
    refine e_aload_n dX8_feed_59 rfl ?_
    refine e_iload dX8_feed_60 rfl ?_
    obtain ⟨J32, h33, Vh33⟩ := Vh30
    refine e_callv (av := [.inl x4]) (st := []) dX8_feed_62 cO_8_198 oX8_put4 rfl (by decide) (gs_80 hg) rfl (Nat.le_of_ble_eq_true rfl) (by decide) h33 (Nat.le_refl _) (Nat.le_refl _) rfl rfl ?_
    refine e_aload_n dX8_feed_65 rfl ?_
    refine e_iload dX8_feed_66 rfl ?_
    obtain ⟨J35, h36, Vh36⟩ := Vh33
    refine e_callv (av := [.inl x5]) (st := []) dX8_feed_68 cO_8_198 oX8_put4 rfl (by decide) (gs_80 hg) rfl (Nat.le_of_ble_eq_true rfl) (by decide) h36 (Nat.le_refl _) (Nat.le_refl _) rfl rfl ?_
    refine e_aload_n dX8_feed_71 rfl ?_
    refine e_geti dX8_feed_72 fO_8_95 (by decide) (gs_80 hg) rfl ?_
    exact e_iret dX8_feed_75 rfl (by rw [Vh36.1, Vh36.2])
  · have Bc22 := Vh21.2 c22
    refine e_iconst dX8_feed_42 ⟨by decide, by decide⟩ ?_
    exact e_iret dX8_feed_43 rfl (by rw [Bc22.1, Bc22.2])
set_option maxRecDepth 100000 in
set_option maxHeartbeats 4000000 in
theorem v_X8_end_0 {Γ : GX} {g : AG} {I J : Nat → Nat → Int} {r : Option AV} (hg : GOk g) (x1 : Int)
    (V : ∀ I1 : Nat → Nat → Int, I1 = mset I 80 0 0 → ((((x1 < 0)) → (r = some (.inl 0) ∧ J = I1)) ∧ ((¬ (x1 < 0)) → ((((x1 ≤ (I1 80 2))) → (∀ I4 : Nat → Nat → Int, I4 = mset I1 80 2 x1 → (r = some (.inl 1) ∧ J = I4))) ∧ ((¬ (x1 ≤ (I1 80 2))) → (r = some (.inl 0) ∧ J = I1)))))) : Ev Γ 0 mX8_end 0 [some (.inr (some 80)), some (.inl x1)] [] (g, I) (r, (g, J)) := by
  refine e_aload_n dX8_end_0 rfl ?_
  refine e_iconst dX8_end_1 ⟨by decide, by decide⟩ ?_
  refine e_puti dX8_end_2 fO_8_103 (by decide) (gs_80 hg) rfl rfl ?_
  refine e_mem (fun I1 eI1 => ?_)
  have WI1 := V I1 eI1
  refine e_iload_n dX8_end_5 rfl ?_
  refine e_if_lt (tgt := 17) dX8_end_6 (by decide) (fun c2 => ?_) (fun c2 => ?_)
  · have Ac2 := WI1.1 c2
    refine e_iconst dX8_end_17 ⟨by decide, by decide⟩ ?_
    exact e_zret dX8_end_18 rfl (by decide) (by rw [Ac2.1, Ac2.2])
  · have Bc2 := WI1.2 c2
    refine e_iload_n dX8_end_9 rfl ?_
    refine e_aload_n dX8_end_10 rfl ?_
    refine e_geti dX8_end_11 fO_8_95 (by decide) (gs_80 hg) rfl ?_
    refine e_ic_le (tgt := 19) dX8_end_14 (by decide) (fun c3 => ?_) (fun c3 => ?_)
    · have Ac3 := Bc2.1 c3
      refine e_aload_n dX8_end_19 rfl ?_
      refine e_iload_n dX8_end_20 rfl ?_
      refine e_puti dX8_end_21 fO_8_95 (by decide) (gs_80 hg) rfl rfl ?_
      refine e_mem (fun I4 eI4 => ?_)
      have WI4 := Ac3 I4 eI4
      refine e_iconst dX8_end_24 ⟨by decide, by decide⟩ ?_
      exact e_zret dX8_end_25 rfl (by decide) (by rw [WI4.1, WI4.2])
    · have Bc3 := Bc2.2 c3
      refine e_iconst dX8_end_17 ⟨by decide, by decide⟩ ?_
      exact e_zret dX8_end_18 rfl (by decide) (by rw [Bc3.1, Bc3.2])
set_option maxRecDepth 100000 in
set_option maxHeartbeats 4000000 in
theorem v_X8_fault_0 {Γ : GX} {g gf : AG} {I J : Nat → Nat → Int} {r : Option AV} (hg : GOk g) (hf : g.2.2.2 = gf.2.2.2) (x1 : Int)
    (V : ∀ I1 : Nat → Nat → Int, I1 = mset I 80 0 0 → (∃ (r4 : Int) (J2 : Nat → Nat → Int), CT Γ 0 mX8_isIn [.inl x1, .inl 0, .inl 2] (g, I1) (some (.inl r4), (g, J2)) ∧ ((((r4 = 0)) → (r = some (.inl (-2)) ∧ J = J2 ∧ gf = g)) ∧ ((¬ (r4 = 0)) → ((((x1 = 0)) → (∃ (r9 : Int) (J7 : Nat → Nat → Int) (g10 : AG), CT Γ 61 mX8_read [.inr (some 80), .inr (some 112), .inr (some 81), .inl 0, .inl (J2 80 2), .inl x1] (g, J2) (some (.inl r9), (g10, J7)) ∧ GOk g10 ∧ g10.2.2.2 = g.2.2.2 ∧ (r = some (.inl r9) ∧ J = J7 ∧ gf = g10))) ∧ ((¬ (x1 = 0)) → (((((J2 80 2) ≤ 80)) → (∃ (r14 : Int) (J12 : Nat → Nat → Int) (g15 : AG), CT Γ 61 mX8_read [.inr (some 80), .inr (some 112), .inr (some 81), .inl 0, .inl (J2 80 2), .inl x1] (g, J2) (some (.inl r14), (g15, J12)) ∧ GOk g15 ∧ g15.2.2.2 = g.2.2.2 ∧ (r = some (.inl r14) ∧ J = J12 ∧ gf = g15))) ∧ ((¬ ((J2 80 2) ≤ 80)) → (r = some (.inl (-2)) ∧ J = J2 ∧ gf = g))))))))) : Ev Γ 62 mX8_fault 0 [some (.inr (some 80)), some (.inl x1)] [] (g, I) (r, (gf, J)) := by
  refine e_aload_n dX8_fault_0 rfl ?_
  refine e_iconst dX8_fault_1 ⟨by decide, by decide⟩ ?_
  refine e_puti dX8_fault_2 fO_8_103 (by decide) (gs_80 hg) rfl rfl ?_
  refine e_mem (fun I1 eI1 => ?_)
  have WI1 := V I1 eI1
  refine e_iload_n dX8_fault_5 rfl ?_
  refine e_iconst dX8_fault_6 ⟨by decide, by decide⟩ ?_
  refine e_iconst dX8_fault_7 ⟨by decide, by decide⟩ ?_
  obtain ⟨r4, J2, h3, Vh3⟩ := WI1
  refine e_calls (av := [.inl x1, .inl 0, .inl 2]) (st := []) dX8_fault_8 cO_8_202 oX8_isIn rfl rfl (Nat.le_of_ble_eq_true rfl) (by decide) h3 (Nat.le_of_eq (congrArg Prod.fst hf)) (Nat.le_of_eq (congrArg Prod.snd hf)) rfl rfl ?_
  refine e_if_eq (tgt := 27) dX8_fault_11 (by decide) (fun c5 => ?_) (fun c5 => ?_)
  · have Ac5 := Vh3.1 c5
    refine e_bipush dX8_fault_27 (by decide) ⟨by decide, by decide⟩ ?_
    exact e_iret dX8_fault_29 rfl (by rw [Ac5.1, Ac5.2.1, Ac5.2.2])
  · have Bc5 := Vh3.2 c5
    refine e_iload_n dX8_fault_14 rfl ?_
    refine e_if_eq (tgt := 30) dX8_fault_15 (by decide) (fun c6 => ?_) (fun c6 => ?_)
    · have Ac6 := Bc5.1 c6
      refine e_aload_n dX8_fault_30 rfl ?_
      refine e_aload_n dX8_fault_31 rfl ?_
      refine e_getr dX8_fault_32 fO_8_26 (by decide) (gs_80 hg) rfl (gp_80_6 hg) ?_
      refine e_aload_n dX8_fault_35 rfl ?_
      refine e_getr dX8_fault_36 fO_8_9 (by decide) (gs_80 hg) rfl (gp_80_1 hg) ?_
      refine e_iconst dX8_fault_39 ⟨by decide, by decide⟩ ?_
      refine e_aload_n dX8_fault_40 rfl ?_
      refine e_geti dX8_fault_41 fO_8_95 (by decide) (gs_80 hg) rfl ?_
      refine e_iload_n dX8_fault_44 rfl ?_
      obtain ⟨r9, J7, g10, h8, kg10, cg10, Vh8⟩ := Ac6
      refine e_callv (av := [.inr (some 112), .inr (some 81), .inl 0, .inl (J2 80 2), .inl x1]) (st := []) dX8_fault_45 cO_8_206 oX8_read rfl (by decide) (gs_80 hg) rfl (Nat.le_of_ble_eq_true rfl) (by decide) h8 (Nat.le_of_eq (congrArg Prod.fst (cg10.trans hf))) (Nat.le_of_eq (congrArg Prod.snd (cg10.trans hf))) rfl rfl ?_
      exact e_iret dX8_fault_48 rfl (by rw [Vh8.1, Vh8.2.1, Vh8.2.2])
    · have Bc6 := Bc5.2 c6
      refine e_aload_n dX8_fault_18 rfl ?_
      refine e_geti dX8_fault_19 fO_8_95 (by decide) (gs_80 hg) rfl ?_
      refine e_bipush dX8_fault_22 (by decide) ⟨by decide, by decide⟩ ?_
      refine e_ic_le (tgt := 30) dX8_fault_24 (by decide) (fun c11 => ?_) (fun c11 => ?_)
      · have Ac11 := Bc6.1 c11
        refine e_aload_n dX8_fault_30 rfl ?_
        refine e_aload_n dX8_fault_31 rfl ?_
        refine e_getr dX8_fault_32 fO_8_26 (by decide) (gs_80 hg) rfl (gp_80_6 hg) ?_
        refine e_aload_n dX8_fault_35 rfl ?_
        refine e_getr dX8_fault_36 fO_8_9 (by decide) (gs_80 hg) rfl (gp_80_1 hg) ?_
        refine e_iconst dX8_fault_39 ⟨by decide, by decide⟩ ?_
        refine e_aload_n dX8_fault_40 rfl ?_
        refine e_geti dX8_fault_41 fO_8_95 (by decide) (gs_80 hg) rfl ?_
        refine e_iload_n dX8_fault_44 rfl ?_
        obtain ⟨r14, J12, g15, h13, kg15, cg15, Vh13⟩ := Ac11
        refine e_callv (av := [.inr (some 112), .inr (some 81), .inl 0, .inl (J2 80 2), .inl x1]) (st := []) dX8_fault_45 cO_8_206 oX8_read rfl (by decide) (gs_80 hg) rfl (Nat.le_of_ble_eq_true rfl) (by decide) h13 (Nat.le_of_eq (congrArg Prod.fst (cg15.trans hf))) (Nat.le_of_eq (congrArg Prod.snd (cg15.trans hf))) rfl rfl ?_
        exact e_iret dX8_fault_48 rfl (by rw [Vh13.1, Vh13.2.1, Vh13.2.2])
      · have Bc11 := Bc6.2 c11
        refine e_bipush dX8_fault_27 (by decide) ⟨by decide, by decide⟩ ?_
        exact e_iret dX8_fault_29 rfl (by rw [Bc11.1, Bc11.2.1, Bc11.2.2])
set_option maxRecDepth 100000 in
set_option maxHeartbeats 4000000 in
theorem v_X8_take_0 {Γ : GX} {g gf : AG} {I J : Nat → Nat → Int} {r : Option AV} (hg : GOk g) (hf : g.2.2.2 = gf.2.2.2) (x1 : Int)
    (V : ∃ (r3 : Int) (J1 : Nat → Nat → Int) (g4 : AG), CT Γ 62 mX8_fault [.inr (some 80), .inl x1] (g, I) (some (.inl r3), (g4, J1)) ∧ GOk g4 ∧ g4.2.2.2 = g.2.2.2 ∧ ((((r3 = (-1))) → (((¬ (x1 = 0)) → (((¬ (x1 = 1)) → (∃ (r10 : Int) (J8 : Nat → Nat → Int) (g11 : AG), CT Γ 61 mX8_read [.inr (some 80), .inr (some 102), .inr (some 81), .inl 0, .inl (J1 80 2), .inl x1] (g4, J1) (some (.inl r10), (g11, J8)) ∧ GOk g11 ∧ g11.2.2.2 = g4.2.2.2 ∧ (∀ I12 : Nat → Nat → Int, I12 = mset J8 80 2 0 → (((¬ (x1 = 0)) → (Ev Γ 63 mX8_take 67 [some (.inr (some 80)), some (.inl x1), none, none] [] (g11, I12) (r, (gf, J)))) ∧ (((x1 = 0)) → (∀ I14 : Nat → Nat → Int, I14 = mset I12 80 10 0 → (Ev Γ 63 mX8_take 67 [some (.inr (some 80)), some (.inl x1), none, none] [] (g11, I14) (r, (gf, J))))))))) ∧ (((x1 = 1)) → (∃ (r17 : Int) (J15 : Nat → Nat → Int) (g18 : AG), CT Γ 61 mX8_read [.inr (some 80), .inr (some 92), .inr (some 81), .inl 0, .inl (J1 80 2), .inl x1] (g4, J1) (some (.inl r17), (g18, J15)) ∧ GOk g18 ∧ g18.2.2.2 = g4.2.2.2 ∧ (∀ I19 : Nat → Nat → Int, I19 = mset J15 80 2 0 → (((¬ (x1 = 0)) → (Ev Γ 63 mX8_take 67 [some (.inr (some 80)), some (.inl x1), none, none] [] (g18, I19) (r, (gf, J)))) ∧ (((x1 = 0)) → (∀ I21 : Nat → Nat → Int, I21 = mset I19 80 10 0 → (Ev Γ 63 mX8_take 67 [some (.inr (some 80)), some (.inl x1), none, none] [] (g18, I21) (r, (gf, J))))))))))) ∧ (((x1 = 0)) → (∃ (r24 : Int) (J22 : Nat → Nat → Int) (g25 : AG), CT Γ 61 mX8_read [.inr (some 80), .inr (some 82), .inr (some 81), .inl 0, .inl (J1 80 2), .inl x1] (g4, J1) (some (.inl r24), (g25, J22)) ∧ GOk g25 ∧ g25.2.2.2 = g4.2.2.2 ∧ (∀ I26 : Nat → Nat → Int, I26 = mset J22 80 2 0 → (((¬ (x1 = 0)) → (Ev Γ 63 mX8_take 67 [some (.inr (some 80)), some (.inl x1), none, none] [] (g25, I26) (r, (gf, J)))) ∧ (((x1 = 0)) → (∀ I28 : Nat → Nat → Int, I28 = mset I26 80 10 0 → (Ev Γ 63 mX8_take 67 [some (.inr (some 80)), some (.inl x1), none, none] [] (g25, I28) (r, (gf, J))))))))))) ∧ ((¬ (r3 = (-1))) → (r = some (.inl 0) ∧ J = J1 ∧ gf = g4)))) : Ev Γ 63 mX8_take 0 [some (.inr (some 80)), some (.inl x1), none, none] [] (g, I) (r, (gf, J)) := by
  refine e_aload_n dX8_take_0 rfl ?_
  refine e_iload_n dX8_take_1 rfl ?_
  obtain ⟨r3, J1, g4, h2, kg4, cg4, Vh2⟩ := V
  refine e_callv (av := [.inl x1]) (st := []) dX8_take_2 cO_8_210 oX8_fault rfl (by decide) (gs_80 hg) rfl (Nat.le_of_ble_eq_true rfl) (by decide) h2 (Nat.le_of_eq (congrArg Prod.fst (cg4.trans hf))) (Nat.le_of_eq (congrArg Prod.snd (cg4.trans hf))) rfl rfl ?_
  refine e_iconst dX8_take_5 ⟨by decide, by decide⟩ ?_
  refine e_ic_eq (tgt := 11) dX8_take_6 (by decide) (fun c5 => ?_) (fun c5 => ?_)
  · have Ac5 := Vh2.1 c5
    refine e_aload_n dX8_take_11 rfl ?_
    refine e_iload_n dX8_take_12 rfl ?_
    refine e_if_ne (tgt := 23) dX8_take_13 (by decide) (fun c6 => ?_) (fun c6 => ?_)
    · have Ac6 := Ac5.1 c6
      refine e_iload_n dX8_take_23 rfl ?_
      refine e_iconst dX8_take_24 ⟨by decide, by decide⟩ ?_
      refine e_ic_ne (tgt := 35) dX8_take_25 (by decide) (fun c7 => ?_) (fun c7 => ?_)
      · have Ac7 := Ac6.1 c7
        refine e_aload_n dX8_take_35 rfl ?_
        refine e_getr dX8_take_36 fO_8_23 (by decide) (gs_80 kg4) rfl (gp_80_5 kg4) ?_
        refine e_aload_n dX8_take_39 rfl ?_
        refine e_getr dX8_take_40 fO_8_9 (by decide) (gs_80 kg4) rfl (gp_80_1 kg4) ?_
        refine e_iconst dX8_take_43 ⟨by decide, by decide⟩ ?_
        refine e_aload_n dX8_take_44 rfl ?_
        refine e_geti dX8_take_45 fO_8_95 (by decide) (gs_80 kg4) rfl ?_
        refine e_iload_n dX8_take_48 rfl ?_
        obtain ⟨r10, J8, g11, h9, kg11, cg11, Vh9⟩ := Ac7
        refine e_callv (av := [.inr (some 102), .inr (some 81), .inl 0, .inl (J1 80 2), .inl x1]) (st := []) dX8_take_49 cO_8_206 oX8_read rfl (by decide) (gs_80 kg4) rfl (Nat.le_of_ble_eq_true rfl) (by decide) h9 (Nat.le_of_eq (congrArg Prod.fst (cg11.trans (cg4.trans hf)))) (Nat.le_of_eq (congrArg Prod.snd (cg11.trans (cg4.trans hf)))) rfl rfl ?_
        refine e_istore_n dX8_take_52 (by decide) (ls' := [some (.inr (some 80)), some (.inl x1), some (.inl r10), none]) rfl ?_
        refine e_aload_n dX8_take_53 rfl ?_
        refine e_iconst dX8_take_54 ⟨by decide, by decide⟩ ?_
        refine e_puti dX8_take_55 fO_8_95 (by decide) (gs_80 kg11) rfl rfl ?_
        refine e_mem (fun I12 eI12 => ?_)
        have WI12 := Vh9 I12 eI12
        refine e_iload_n dX8_take_58 rfl ?_
        refine e_if_ne (tgt := 67) dX8_take_59 (by decide) (fun c13 => ?_) (fun c13 => ?_)
        · have Ac13 := WI12.1 c13
          refine ev_drop (ls' := [some (.inr (some 80)), some (.inl x1), none, none]) 2 rfl ?_
          exact Ac13
        · have Bc13 := WI12.2 c13
          refine e_aload_n dX8_take_62 rfl ?_
          refine e_iconst dX8_take_63 ⟨by decide, by decide⟩ ?_
          refine e_puti dX8_take_64 fO_8_212 (by decide) (gs_80 kg11) rfl rfl ?_
          refine e_mem (fun I14 eI14 => ?_)
          have WI14 := Bc13 I14 eI14
          refine ev_drop (ls' := [some (.inr (some 80)), some (.inl x1), none, none]) 2 rfl ?_
          exact WI14
      · have Bc7 := Ac6.2 c7
        refine e_aload_n dX8_take_28 rfl ?_
        refine e_getr dX8_take_29 fO_8_20 (by decide) (gs_80 kg4) rfl (gp_80_4 kg4) ?_
        refine e_goto (tgt := 39) dX8_take_32 (by decide) ?_
        refine e_aload_n dX8_take_39 rfl ?_
        refine e_getr dX8_take_40 fO_8_9 (by decide) (gs_80 kg4) rfl (gp_80_1 kg4) ?_
        refine e_iconst dX8_take_43 ⟨by decide, by decide⟩ ?_
        refine e_aload_n dX8_take_44 rfl ?_
        refine e_geti dX8_take_45 fO_8_95 (by decide) (gs_80 kg4) rfl ?_
        refine e_iload_n dX8_take_48 rfl ?_
        obtain ⟨r17, J15, g18, h16, kg18, cg18, Vh16⟩ := Bc7
        refine e_callv (av := [.inr (some 92), .inr (some 81), .inl 0, .inl (J1 80 2), .inl x1]) (st := []) dX8_take_49 cO_8_206 oX8_read rfl (by decide) (gs_80 kg4) rfl (Nat.le_of_ble_eq_true rfl) (by decide) h16 (Nat.le_of_eq (congrArg Prod.fst (cg18.trans (cg4.trans hf)))) (Nat.le_of_eq (congrArg Prod.snd (cg18.trans (cg4.trans hf)))) rfl rfl ?_
        refine e_istore_n dX8_take_52 (by decide) (ls' := [some (.inr (some 80)), some (.inl x1), some (.inl r17), none]) rfl ?_
        refine e_aload_n dX8_take_53 rfl ?_
        refine e_iconst dX8_take_54 ⟨by decide, by decide⟩ ?_
        refine e_puti dX8_take_55 fO_8_95 (by decide) (gs_80 kg18) rfl rfl ?_
        refine e_mem (fun I19 eI19 => ?_)
        have WI19 := Vh16 I19 eI19
        refine e_iload_n dX8_take_58 rfl ?_
        refine e_if_ne (tgt := 67) dX8_take_59 (by decide) (fun c20 => ?_) (fun c20 => ?_)
        · have Ac20 := WI19.1 c20
          refine ev_drop (ls' := [some (.inr (some 80)), some (.inl x1), none, none]) 2 rfl ?_
          exact Ac20
        · have Bc20 := WI19.2 c20
          refine e_aload_n dX8_take_62 rfl ?_
          refine e_iconst dX8_take_63 ⟨by decide, by decide⟩ ?_
          refine e_puti dX8_take_64 fO_8_212 (by decide) (gs_80 kg18) rfl rfl ?_
          refine e_mem (fun I21 eI21 => ?_)
          have WI21 := Bc20 I21 eI21
          refine ev_drop (ls' := [some (.inr (some 80)), some (.inl x1), none, none]) 2 rfl ?_
          exact WI21
    · have Bc6 := Ac5.2 c6
      refine e_aload_n dX8_take_16 rfl ?_
      refine e_getr dX8_take_17 fO_8_16 (by decide) (gs_80 kg4) rfl (gp_80_3 kg4) ?_
      refine e_goto (tgt := 39) dX8_take_20 (by decide) ?_
      refine e_aload_n dX8_take_39 rfl ?_
      refine e_getr dX8_take_40 fO_8_9 (by decide) (gs_80 kg4) rfl (gp_80_1 kg4) ?_
      refine e_iconst dX8_take_43 ⟨by decide, by decide⟩ ?_
      refine e_aload_n dX8_take_44 rfl ?_
      refine e_geti dX8_take_45 fO_8_95 (by decide) (gs_80 kg4) rfl ?_
      refine e_iload_n dX8_take_48 rfl ?_
      obtain ⟨r24, J22, g25, h23, kg25, cg25, Vh23⟩ := Bc6
      refine e_callv (av := [.inr (some 82), .inr (some 81), .inl 0, .inl (J1 80 2), .inl x1]) (st := []) dX8_take_49 cO_8_206 oX8_read rfl (by decide) (gs_80 kg4) rfl (Nat.le_of_ble_eq_true rfl) (by decide) h23 (Nat.le_of_eq (congrArg Prod.fst (cg25.trans (cg4.trans hf)))) (Nat.le_of_eq (congrArg Prod.snd (cg25.trans (cg4.trans hf)))) rfl rfl ?_
      refine e_istore_n dX8_take_52 (by decide) (ls' := [some (.inr (some 80)), some (.inl x1), some (.inl r24), none]) rfl ?_
      refine e_aload_n dX8_take_53 rfl ?_
      refine e_iconst dX8_take_54 ⟨by decide, by decide⟩ ?_
      refine e_puti dX8_take_55 fO_8_95 (by decide) (gs_80 kg25) rfl rfl ?_
      refine e_mem (fun I26 eI26 => ?_)
      have WI26 := Vh23 I26 eI26
      refine e_iload_n dX8_take_58 rfl ?_
      refine e_if_ne (tgt := 67) dX8_take_59 (by decide) (fun c27 => ?_) (fun c27 => ?_)
      · have Ac27 := WI26.1 c27
        refine ev_drop (ls' := [some (.inr (some 80)), some (.inl x1), none, none]) 2 rfl ?_
        exact Ac27
      · have Bc27 := WI26.2 c27
        refine e_aload_n dX8_take_62 rfl ?_
        refine e_iconst dX8_take_63 ⟨by decide, by decide⟩ ?_
        refine e_puti dX8_take_64 fO_8_212 (by decide) (gs_80 kg25) rfl rfl ?_
        refine e_mem (fun I28 eI28 => ?_)
        have WI28 := Bc27 I28 eI28
        refine ev_drop (ls' := [some (.inr (some 80)), some (.inl x1), none, none]) 2 rfl ?_
        exact WI28
  · have Bc5 := Vh2.2 c5
    refine e_iconst dX8_take_9 ⟨by decide, by decide⟩ ?_
    exact e_zret dX8_take_10 rfl (by decide) (by rw [Bc5.1, Bc5.2.1, Bc5.2.2])
set_option maxRecDepth 100000 in
set_option maxHeartbeats 4000000 in
theorem v_X8_take_67 {Γ : GX} {g gf : AG} {I J : Nat → Nat → Int} {r : Option AV} (hg : GOk g) (hf : g.2.2.2 = gf.2.2.2) (x1 : Int)
    (V : ((¬ (x1 = 1)) → (Ev Γ 63 mX8_take 96 [none, none, none, none] [] (g, I) (r, (gf, J)))) ∧ (((x1 = 1)) → (Ev Γ 63 mX8_take 74 [some (.inr (some 80)), none, none, some (.inl 0)] [] (g, I) (r, (gf, J))))) : Ev Γ 63 mX8_take 67 [some (.inr (some 80)), some (.inl x1), none, none] [] (g, I) (r, (gf, J)) := by
  refine e_iload_n dX8_take_67 rfl ?_
  refine e_iconst dX8_take_68 ⟨by decide, by decide⟩ ?_
  refine e_ic_ne (tgt := 96) dX8_take_69 (by decide) (fun c1 => ?_) (fun c1 => ?_)
  · have Ac1 := V.1 c1
    refine ev_drop (ls' := [none, some (.inl x1), none, none]) 0 rfl ?_
    refine ev_drop (ls' := [none, none, none, none]) 1 rfl ?_
    exact Ac1
  · have Bc1 := V.2 c1
    refine e_iconst dX8_take_72 ⟨by decide, by decide⟩ ?_
    refine e_istore_n dX8_take_73 (by decide) (ls' := [some (.inr (some 80)), some (.inl x1), none, some (.inl 0)]) rfl ?_
    refine ev_drop (ls' := [some (.inr (some 80)), none, none, some (.inl 0)]) 1 rfl ?_
    exact Bc1
set_option maxRecDepth 100000 in
set_option maxHeartbeats 4000000 in
theorem v_X8_take_96 {Γ : GX} {g gf : AG} {I J : Nat → Nat → Int} {r : Option AV} (hg : GOk g) (hf : g.2.2.2 = gf.2.2.2) 
    (V : r = some (.inl 1) ∧ J = I ∧ gf = g) : Ev Γ 63 mX8_take 96 [none, none, none, none] [] (g, I) (r, (gf, J)) := by
  refine e_iconst dX8_take_96 ⟨by decide, by decide⟩ ?_
  exact e_zret dX8_take_97 rfl (by decide) (by rw [V.1, V.2.1, V.2.2])
set_option maxRecDepth 100000 in
set_option maxHeartbeats 4000000 in
theorem v_X8_take_74 {Γ : GX} {g gf : AG} {I J : Nat → Nat → Int} {r : Option AV} (hg : GOk g) (hf : g.2.2.2 = gf.2.2.2) (x3 : Int)
    (V : (((676 ≤ x3)) → (Ev Γ 63 mX8_take 96 [none, none, none, none] [] (g, I) (r, (gf, J)))) ∧ ((¬ (676 ≤ x3)) → (((0 : Int) ≤ x3 ∧ (x3 : Int) < 676) ∧ (∀ I2 : Nat → Nat → Int, I2 = mset I 134 x3.toNat 0 → (inR (x3 + 1) ∧ (Ev Γ 63 mX8_take 74 [some (.inr (some 80)), none, none, some (.inl (x3 + 1))] [] (g, I2) (r, (gf, J)))))))) : Ev Γ 63 mX8_take 74 [some (.inr (some 80)), none, none, some (.inl x3)] [] (g, I) (r, (gf, J)) := by
  refine e_iload_n dX8_take_74 rfl ?_
  refine e_aload_n dX8_take_75 rfl ?_
  refine e_getr dX8_take_76 fO_8_39 (by decide) (gs_80 hg) rfl (gp_80_11 hg) ?_
  refine e_alen (ty := .boolean) dX8_take_79 (by decide) (by decide) (gs_134 hg) (by decide) ?_
  refine e_ic_ge (tgt := 96) dX8_take_80 (by decide) (fun c1 => ?_) (fun c1 => ?_)
  · have Ac1 := V.1 c1
    refine ev_drop (ls' := [none, none, none, some (.inl x3)]) 0 rfl ?_
    refine ev_drop (ls' := [none, none, none, none]) 3 rfl ?_
    exact Ac1
  · have Bc1 := V.2 c1
    refine e_aload_n dX8_take_83 rfl ?_
    refine e_getr dX8_take_84 fO_8_39 (by decide) (gs_80 hg) rfl (gp_80_11 hg) ?_
    refine e_iload_n dX8_take_87 rfl ?_
    refine e_iconst dX8_take_88 ⟨by decide, by decide⟩ ?_
    obtain ⟨h3, Vh3⟩ := Bc1
    refine e_zast dX8_take_89 (by decide) (gs_134 hg) h3.1 h3.2 (by decide) ?_
    refine e_mem (fun I2 eI2 => ?_)
    have WI2 := Vh3 I2 eI2
    obtain ⟨h4, Vh4⟩ := WI2
    refine e_iinc dX8_take_90 (by decide) rfl h4 (ls' := [some (.inr (some 80)), none, none, some (.inl (x3 + 1))]) rfl ?_
    refine e_goto (tgt := 74) dX8_take_93 (by decide) ?_
    exact Vh4
set_option maxRecDepth 100000 in
set_option maxHeartbeats 4000000 in
theorem v_X8_differ_0 {Γ : GX} {g : AG} {I J : Nat → Nat → Int} {r : Option AV} (hg : GOk g) (x1 : Int) (x2 : Int) (x3 : Int)
    (V : ∀ I1 : Nat → Nat → Int, I1 = mset I 80 0 0 → (∃ (r4 : Int) (J2 : Nat → Nat → Int), CT Γ 0 mX8_isIn [.inl x1, .inl 0, .inl 25] (g, I1) (some (.inl r4), (g, J2)) ∧ ((((r4 = 0)) → (r = some (.inl 0) ∧ J = J2)) ∧ ((¬ (r4 = 0)) → (∃ (r8 : Int) (J6 : Nat → Nat → Int), CT Γ 0 mX8_isIn [.inl x2, .inl 0, .inl 25] (g, J2) (some (.inl r8), (g, J6)) ∧ ((((r8 = 0)) → (r = some (.inl 0) ∧ J = J6)) ∧ ((¬ (r8 = 0)) → ((((x1 = x2)) → (r = some (.inl 0) ∧ J = J6)) ∧ ((¬ (x1 = x2)) → (inR (26 * x1) ∧ (inR ((26 * x1) + x2) ∧ (((0 : Int) ≤ ((26 * x1) + x2) ∧ (((26 * x1) + x2) : Int) < 676) ∧ (((¬ ((J6 134 ((26 * x1) + x2).toNat) = x3)) → (inR (26 * x1) ∧ (inR ((26 * x1) + x2) ∧ (((0 : Int) ≤ ((26 * x1) + x2) ∧ (((26 * x1) + x2) : Int) < 676) ∧ ((x3 = 0 ∨ x3 = 1) ∧ (∀ I17 : Nat → Nat → Int, I17 = mset J6 134 ((26 * x1) + x2).toNat x3 → (inR (26 * x2) ∧ (inR ((26 * x2) + x1) ∧ (((0 : Int) ≤ ((26 * x2) + x1) ∧ (((26 * x2) + x1) : Int) < 676) ∧ ((x3 = 0 ∨ x3 = 1) ∧ (∀ I22 : Nat → Nat → Int, I22 = mset I17 134 ((26 * x2) + x1).toNat x3 → (r = some (.inl 1) ∧ J = I22)))))))))))) ∧ ((((J6 134 ((26 * x1) + x2).toNat) = x3)) → (r = some (.inl 0) ∧ J = J6))))))))))))))) : Ev Γ 1 mX8_differ 0 [some (.inr (some 80)), some (.inl x1), some (.inl x2), some (.inl x3)] [] (g, I) (r, (g, J)) := by
  refine e_aload_n dX8_differ_0 rfl ?_
  refine e_iconst dX8_differ_1 ⟨by decide, by decide⟩ ?_
  refine e_puti dX8_differ_2 fO_8_103 (by decide) (gs_80 hg) rfl rfl ?_
  refine e_mem (fun I1 eI1 => ?_)
  have WI1 := V I1 eI1
  refine e_iload_n dX8_differ_5 rfl ?_
  refine e_iconst dX8_differ_6 ⟨by decide, by decide⟩ ?_
  refine e_bipush dX8_differ_7 (by decide) ⟨by decide, by decide⟩ ?_
  obtain ⟨r4, J2, h3, Vh3⟩ := WI1
  refine e_calls (av := [.inl x1, .inl 0, .inl 25]) (st := []) dX8_differ_9 cO_8_202 oX8_isIn rfl rfl (Nat.le_of_ble_eq_true rfl) (by decide) h3 (Nat.le_refl _) (Nat.le_refl _) rfl rfl ?_
  refine e_if_eq (tgt := 45) dX8_differ_12 (by decide) (fun c5 => ?_) (fun c5 => ?_)
  · have Ac5 := Vh3.1 c5
    refine e_iconst dX8_differ_45 ⟨by decide, by decide⟩ ?_
    exact e_zret dX8_differ_46 rfl (by decide) (by rw [Ac5.1, Ac5.2])
  · have Bc5 := Vh3.2 c5
    refine e_iload_n dX8_differ_15 rfl ?_
    refine e_iconst dX8_differ_16 ⟨by decide, by decide⟩ ?_
    refine e_bipush dX8_differ_17 (by decide) ⟨by decide, by decide⟩ ?_
    obtain ⟨r8, J6, h7, Vh7⟩ := Bc5
    refine e_calls (av := [.inl x2, .inl 0, .inl 25]) (st := []) dX8_differ_19 cO_8_202 oX8_isIn rfl rfl (Nat.le_of_ble_eq_true rfl) (by decide) h7 (Nat.le_refl _) (Nat.le_refl _) rfl rfl ?_
    refine e_if_eq (tgt := 45) dX8_differ_22 (by decide) (fun c9 => ?_) (fun c9 => ?_)
    · have Ac9 := Vh7.1 c9
      refine e_iconst dX8_differ_45 ⟨by decide, by decide⟩ ?_
      exact e_zret dX8_differ_46 rfl (by decide) (by rw [Ac9.1, Ac9.2])
    · have Bc9 := Vh7.2 c9
      refine e_iload_n dX8_differ_25 rfl ?_
      refine e_iload_n dX8_differ_26 rfl ?_
      refine e_ic_eq (tgt := 45) dX8_differ_27 (by decide) (fun c10 => ?_) (fun c10 => ?_)
      · have Ac10 := Bc9.1 c10
        refine e_iconst dX8_differ_45 ⟨by decide, by decide⟩ ?_
        exact e_zret dX8_differ_46 rfl (by decide) (by rw [Ac10.1, Ac10.2])
      · have Bc10 := Bc9.2 c10
        refine e_aload_n dX8_differ_30 rfl ?_
        refine e_getr dX8_differ_31 fO_8_39 (by decide) (gs_80 hg) rfl (gp_80_11 hg) ?_
        refine e_bipush dX8_differ_34 (by decide) ⟨by decide, by decide⟩ ?_
        refine e_iload_n dX8_differ_36 rfl ?_
        obtain ⟨h11, Vh11⟩ := Bc10
        refine e_imul dX8_differ_37 h11 ?_
        refine e_iload_n dX8_differ_38 rfl ?_
        obtain ⟨h12, Vh12⟩ := Vh11
        refine e_iadd dX8_differ_39 h12 ?_
        obtain ⟨h13, Vh13⟩ := Vh12
        refine e_zald dX8_differ_40 (by decide) (gs_134 hg) h13.1 h13.2 ?_
        refine e_iload_n dX8_differ_41 rfl ?_
        refine e_ic_ne (tgt := 47) dX8_differ_42 (by decide) (fun c14 => ?_) (fun c14 => ?_)
        · have Ac14 := Vh13.1 c14
          refine e_aload_n dX8_differ_47 rfl ?_
          refine e_getr dX8_differ_48 fO_8_39 (by decide) (gs_80 hg) rfl (gp_80_11 hg) ?_
          refine e_bipush dX8_differ_51 (by decide) ⟨by decide, by decide⟩ ?_
          refine e_iload_n dX8_differ_53 rfl ?_
          obtain ⟨h15, Vh15⟩ := Ac14
          refine e_imul dX8_differ_54 h15 ?_
          refine e_iload_n dX8_differ_55 rfl ?_
          obtain ⟨h16, Vh16⟩ := Vh15
          refine e_iadd dX8_differ_56 h16 ?_
          refine e_iload_n dX8_differ_57 rfl ?_
          obtain ⟨h18, Vh18⟩ := Vh16
          obtain ⟨h19, Vh19⟩ := Vh18
          refine e_zast dX8_differ_58 (by decide) (gs_134 hg) h18.1 h18.2 h19 ?_
          refine e_mem (fun I17 eI17 => ?_)
          have WI17 := Vh19 I17 eI17
          refine e_aload_n dX8_differ_59 rfl ?_
          refine e_getr dX8_differ_60 fO_8_39 (by decide) (gs_80 hg) rfl (gp_80_11 hg) ?_
          refine e_bipush dX8_differ_63 (by decide) ⟨by decide, by decide⟩ ?_
          refine e_iload_n dX8_differ_65 rfl ?_
          obtain ⟨h20, Vh20⟩ := WI17
          refine e_imul dX8_differ_66 h20 ?_
          refine e_iload_n dX8_differ_67 rfl ?_
          obtain ⟨h21, Vh21⟩ := Vh20
          refine e_iadd dX8_differ_68 h21 ?_
          refine e_iload_n dX8_differ_69 rfl ?_
          obtain ⟨h23, Vh23⟩ := Vh21
          obtain ⟨h24, Vh24⟩ := Vh23
          refine e_zast dX8_differ_70 (by decide) (gs_134 hg) h23.1 h23.2 h24 ?_
          refine e_mem (fun I22 eI22 => ?_)
          have WI22 := Vh24 I22 eI22
          refine e_iconst dX8_differ_71 ⟨by decide, by decide⟩ ?_
          exact e_zret dX8_differ_72 rfl (by decide) (by rw [WI22.1, WI22.2])
        · have Bc14 := Vh13.2 c14
          refine e_iconst dX8_differ_45 ⟨by decide, by decide⟩ ?_
          exact e_zret dX8_differ_46 rfl (by decide) (by rw [Bc14.1, Bc14.2])
set_option maxRecDepth 100000 in
set_option maxHeartbeats 4000000 in
theorem v_X8_isNode_0 {Γ : GX} {g : AG} {I J : Nat → Nat → Int} {r : Option AV} (hg : GOk g) (x1 : Int)
    (V : (((x1 < 0)) → (r = some (.inl 0) ∧ J = I)) ∧ ((¬ (x1 < 0)) → (((((I 82 2) ≤ x1)) → (r = some (.inl 0) ∧ J = I)) ∧ ((¬ ((I 82 2) ≤ x1)) → (r = some (.inl 1) ∧ J = I))))) : Ev Γ 0 mX8_isNode 0 [some (.inr (some 80)), some (.inl x1)] [] (g, I) (r, (g, J)) := by
  refine e_iload_n dX8_isNode_0 rfl ?_
  refine e_if_lt (tgt := 19) dX8_isNode_1 (by decide) (fun c1 => ?_) (fun c1 => ?_)
  · have Ac1 := V.1 c1
    refine e_iconst dX8_isNode_19 ⟨by decide, by decide⟩ ?_
    exact e_zret dX8_isNode_20 rfl (by decide) (by rw [Ac1.1, Ac1.2])
  · have Bc1 := V.2 c1
    refine e_iload_n dX8_isNode_4 rfl ?_
    refine e_aload_n dX8_isNode_5 rfl ?_
    refine e_getr dX8_isNode_6 fO_8_16 (by decide) (gs_80 hg) rfl (gp_80_3 hg) ?_
    refine e_geti dX8_isNode_9 fO_8_122 (by decide) (gs_82 hg) rfl ?_
    refine e_ic_ge (tgt := 19) dX8_isNode_12 (by decide) (fun c2 => ?_) (fun c2 => ?_)
    · have Ac2 := Bc1.1 c2
      refine e_iconst dX8_isNode_19 ⟨by decide, by decide⟩ ?_
      exact e_zret dX8_isNode_20 rfl (by decide) (by rw [Ac2.1, Ac2.2])
    · have Bc2 := Bc1.2 c2
      refine e_iconst dX8_isNode_15 ⟨by decide, by decide⟩ ?_
      refine e_goto (tgt := 20) dX8_isNode_16 (by decide) ?_
      exact e_zret dX8_isNode_20 rfl (by decide) (by rw [Bc2.1, Bc2.2])
set_option maxRecDepth 100000 in
set_option maxHeartbeats 4000000 in
theorem v_X8_nodes_0 {Γ : GX} {g : AG} {I J : Nat → Nat → Int} {r : Option AV} (hg : GOk g) 
    (V : ∀ I1 : Nat → Nat → Int, I1 = mset I 80 0 0 → (r = some (.inl (I1 82 2)) ∧ J = I1)) : Ev Γ 0 mX8_nodes 0 [some (.inr (some 80))] [] (g, I) (r, (g, J)) := by
  refine e_aload_n dX8_nodes_0 rfl ?_
  refine e_iconst dX8_nodes_1 ⟨by decide, by decide⟩ ?_
  refine e_puti dX8_nodes_2 fO_8_103 (by decide) (gs_80 hg) rfl rfl ?_
  refine e_mem (fun I1 eI1 => ?_)
  have WI1 := V I1 eI1
  refine e_aload_n dX8_nodes_5 rfl ?_
  refine e_getr dX8_nodes_6 fO_8_16 (by decide) (gs_80 hg) rfl (gp_80_3 hg) ?_
  refine e_geti dX8_nodes_9 fO_8_122 (by decide) (gs_82 hg) rfl ?_
  exact e_iret dX8_nodes_12 rfl (by rw [WI1.1, WI1.2])
set_option maxRecDepth 100000 in
set_option maxHeartbeats 4000000 in
theorem v_X8_isAtomAlike_0 {Γ : GX} {g : AG} {I J : Nat → Nat → Int} {r : Option AV} (hg : GOk g) (u : Nat) (hu : Mt u) (x2 : Int) (w : Nat) (hw : Mt w) (x4 : Int)
    (V : ((0 : Int) ≤ x2 ∧ (x2 : Int) < 240) ∧ (((0 : Int) ≤ x2 ∧ (x2 : Int) < 240) ∧ (inR ((I (u + 5) x2.toNat) - (I (u + 3) x2.toNat)) ∧ (∀ y4 : Int, y4 = ((I (u + 5) x2.toNat) - (I (u + 3) x2.toNat)) → (((0 : Int) ≤ x4 ∧ (x4 : Int) < 240) ∧ (((0 : Int) ≤ x4 ∧ (x4 : Int) < 240) ∧ (inR ((I (w + 5) x4.toNat) - (I (w + 3) x4.toNat)) ∧ (((¬ (y4 = ((I (w + 5) x4.toNat) - (I (w + 3) x4.toNat)))) → (r = some (.inl 0) ∧ J = I)) ∧ (((y4 = ((I (w + 5) x4.toNat) - (I (w + 3) x4.toNat)))) → (((0 : Int) ≤ x2 ∧ (x2 : Int) < 240) ∧ (((0 : Int) ≤ x4 ∧ (x4 : Int) < 240) ∧ (((((I (u + 9) x2.toNat) = (I (w + 9) x4.toNat))) → (Ev Γ 0 mX8_isAtomAlike 59 [none, some (.inr (some u)), some (.inl x2), some (.inr (some w)), some (.inl x4), some (.inl y4), some (.inl 1), some (.inl 0)] [] (g, I) (r, (g, J)))) ∧ ((¬ ((I (u + 9) x2.toNat) = (I (w + 9) x4.toNat))) → (r = some (.inl 0) ∧ J = I)))))))))))))) : Ev Γ 0 mX8_isAtomAlike 0 [some (.inr (some 80)), some (.inr (some u)), some (.inl x2), some (.inr (some w)), some (.inl x4), none, none, none] [] (g, I) (r, (g, J)) := by
  refine e_aload_n dX8_isAtomAlike_0 rfl ?_
  refine e_getr dX8_isAtomAlike_1 fO_8_191 (mt_pos hu) (mt_s0 hg hu) rfl (mt_p5 hg hu) ?_
  refine e_iload_n dX8_isAtomAlike_4 rfl ?_
  obtain ⟨h1, Vh1⟩ := V
  refine e_iald dX8_isAtomAlike_5 (Nat.succ_pos _) (mt_s5 hg hu) h1.1 h1.2 ?_
  refine e_aload_n dX8_isAtomAlike_6 rfl ?_
  refine e_getr dX8_isAtomAlike_7 fO_8_128 (mt_pos hu) (mt_s0 hg hu) rfl (mt_p3 hg hu) ?_
  refine e_iload_n dX8_isAtomAlike_10 rfl ?_
  obtain ⟨h2, Vh2⟩ := Vh1
  refine e_iald dX8_isAtomAlike_11 (Nat.succ_pos _) (mt_s3 hg hu) h2.1 h2.2 ?_
  obtain ⟨h3, Vh3⟩ := Vh2
  refine e_isub dX8_isAtomAlike_12 h3 ?_
  refine e_top (fun y4 ey4 => ?_)
  have Wy4 := Vh3 y4 ey4
  refine e_istore dX8_isAtomAlike_13 (by decide) (ls' := [some (.inr (some 80)), some (.inr (some u)), some (.inl x2), some (.inr (some w)), some (.inl x4), some (.inl y4), none, none]) rfl ?_
  refine e_iload dX8_isAtomAlike_15 rfl ?_
  refine e_aload_n dX8_isAtomAlike_17 rfl ?_
  refine e_getr dX8_isAtomAlike_18 fO_8_191 (mt_pos hw) (mt_s0 hg hw) rfl (mt_p5 hg hw) ?_
  refine e_iload dX8_isAtomAlike_21 rfl ?_
  obtain ⟨h5, Vh5⟩ := Wy4
  refine e_iald dX8_isAtomAlike_23 (Nat.succ_pos _) (mt_s5 hg hw) h5.1 h5.2 ?_
  refine e_aload_n dX8_isAtomAlike_24 rfl ?_
  refine e_getr dX8_isAtomAlike_25 fO_8_128 (mt_pos hw) (mt_s0 hg hw) rfl (mt_p3 hg hw) ?_
  refine e_iload dX8_isAtomAlike_28 rfl ?_
  obtain ⟨h6, Vh6⟩ := Vh5
  refine e_iald dX8_isAtomAlike_30 (Nat.succ_pos _) (mt_s3 hg hw) h6.1 h6.2 ?_
  obtain ⟨h7, Vh7⟩ := Vh6
  refine e_isub dX8_isAtomAlike_31 h7 ?_
  refine e_ic_ne (tgt := 51) dX8_isAtomAlike_32 (by decide) (fun c8 => ?_) (fun c8 => ?_)
  · have Ac8 := Vh7.1 c8
    refine e_iconst dX8_isAtomAlike_51 ⟨by decide, by decide⟩ ?_
    exact e_zret dX8_isAtomAlike_52 rfl (by decide) (by rw [Ac8.1, Ac8.2])
  · have Bc8 := Vh7.2 c8
    refine e_aload_n dX8_isAtomAlike_35 rfl ?_
    refine e_getr dX8_isAtomAlike_36 fO_8_137 (mt_pos hu) (mt_s0 hg hu) rfl (mt_p9 hg hu) ?_
    refine e_iload_n dX8_isAtomAlike_39 rfl ?_
    obtain ⟨h9, Vh9⟩ := Bc8
    refine e_zald dX8_isAtomAlike_40 (Nat.succ_pos _) (mt_s9 hg hu) h9.1 h9.2 ?_
    refine e_aload_n dX8_isAtomAlike_41 rfl ?_
    refine e_getr dX8_isAtomAlike_42 fO_8_137 (mt_pos hw) (mt_s0 hg hw) rfl (mt_p9 hg hw) ?_
    refine e_iload dX8_isAtomAlike_45 rfl ?_
    obtain ⟨h10, Vh10⟩ := Vh9
    refine e_zald dX8_isAtomAlike_47 (Nat.succ_pos _) (mt_s9 hg hw) h10.1 h10.2 ?_
    refine e_ic_eq (tgt := 53) dX8_isAtomAlike_48 (by decide) (fun c11 => ?_) (fun c11 => ?_)
    · have Ac11 := Vh10.1 c11
      refine e_iconst dX8_isAtomAlike_53 ⟨by decide, by decide⟩ ?_
      refine e_istore dX8_isAtomAlike_54 (by decide) (ls' := [some (.inr (some 80)), some (.inr (some u)), some (.inl x2), some (.inr (some w)), some (.inl x4), some (.inl y4), some (.inl 1), none]) rfl ?_
      refine e_iconst dX8_isAtomAlike_56 ⟨by decide, by decide⟩ ?_
      refine e_istore dX8_isAtomAlike_57 (by decide) (ls' := [some (.inr (some 80)), some (.inr (some u)), some (.inl x2), some (.inr (some w)), some (.inl x4), some (.inl y4), some (.inl 1), some (.inl 0)]) rfl ?_
      refine ev_drop (ls' := [none, some (.inr (some u)), some (.inl x2), some (.inr (some w)), some (.inl x4), some (.inl y4), some (.inl 1), some (.inl 0)]) 0 rfl ?_
      exact Ac11
    · have Bc11 := Vh10.2 c11
      refine e_iconst dX8_isAtomAlike_51 ⟨by decide, by decide⟩ ?_
      exact e_zret dX8_isAtomAlike_52 rfl (by decide) (by rw [Bc11.1, Bc11.2])
set_option maxRecDepth 100000 in
set_option maxHeartbeats 4000000 in
theorem v_X8_isAtomAlike_59 {Γ : GX} {g : AG} {I J : Nat → Nat → Int} {r : Option AV} (hg : GOk g) (u : Nat) (hu : Mt u) (x2 : Int) (w : Nat) (hw : Mt w) (x4 : Int) (x5 : Int) (x6 : Int) (x7 : Int)
    (V : (((x5 ≤ x7)) → ((x6 = 0 ∨ x6 = 1) ∧ r = some (.inl x6) ∧ J = I)) ∧ ((¬ (x5 ≤ x7)) → ((((x6 = 0)) → (inR (x7 + 1) ∧ (Ev Γ 0 mX8_isAtomAlike 59 [none, some (.inr (some u)), some (.inl x2), some (.inr (some w)), some (.inl x4), some (.inl x5), some (.inl 0), some (.inl (x7 + 1))] [] (g, I) (r, (g, J))))) ∧ ((¬ (x6 = 0)) → (((0 : Int) ≤ x2 ∧ (x2 : Int) < 240) ∧ (inR ((I (u + 3) x2.toNat) + x7) ∧ (((0 : Int) ≤ ((I (u + 3) x2.toNat) + x7) ∧ (((I (u + 3) x2.toNat) + x7) : Int) < 240) ∧ (((0 : Int) ≤ x4 ∧ (x4 : Int) < 240) ∧ (inR ((I (w + 3) x4.toNat) + x7) ∧ (((0 : Int) ≤ ((I (w + 3) x4.toNat) + x7) ∧ (((I (w + 3) x4.toNat) + x7) : Int) < 240) ∧ (((¬ ((I (u + 1) ((I (u + 3) x2.toNat) + x7).toNat) = (I (w + 1) ((I (w + 3) x4.toNat) + x7).toNat))) → (inR (x7 + 1) ∧ (Ev Γ 0 mX8_isAtomAlike 59 [none, some (.inr (some u)), some (.inl x2), some (.inr (some w)), some (.inl x4), some (.inl x5), some (.inl 0), some (.inl (x7 + 1))] [] (g, I) (r, (g, J))))) ∧ ((((I (u + 1) ((I (u + 3) x2.toNat) + x7).toNat) = (I (w + 1) ((I (w + 3) x4.toNat) + x7).toNat))) → (inR (x7 + 1) ∧ (Ev Γ 0 mX8_isAtomAlike 59 [none, some (.inr (some u)), some (.inl x2), some (.inr (some w)), some (.inl x4), some (.inl x5), some (.inl 1), some (.inl (x7 + 1))] [] (g, I) (r, (g, J)))))))))))))))) : Ev Γ 0 mX8_isAtomAlike 59 [none, some (.inr (some u)), some (.inl x2), some (.inr (some w)), some (.inl x4), some (.inl x5), some (.inl x6), some (.inl x7)] [] (g, I) (r, (g, J)) := by
  refine e_iload dX8_isAtomAlike_59 rfl ?_
  refine e_iload dX8_isAtomAlike_61 rfl ?_
  refine e_ic_ge (tgt := 116) dX8_isAtomAlike_63 (by decide) (fun c1 => ?_) (fun c1 => ?_)
  · have Ac1 := V.1 c1
    refine e_iload dX8_isAtomAlike_116 rfl ?_
    exact e_zret dX8_isAtomAlike_118 rfl Ac1.1 (by rw [Ac1.2.1, Ac1.2.2])
  · have Bc1 := V.2 c1
    refine e_iload dX8_isAtomAlike_66 rfl ?_
    refine e_if_eq (tgt := 107) dX8_isAtomAlike_68 (by decide) (fun c2 => ?_) (fun c2 => ?_)
    · have Ac2 := Bc1.1 c2
      refine e_iconst dX8_isAtomAlike_107 ⟨by decide, by decide⟩ ?_
      refine e_istore dX8_isAtomAlike_108 (by decide) (ls' := [none, some (.inr (some u)), some (.inl x2), some (.inr (some w)), some (.inl x4), some (.inl x5), some (.inl 0), some (.inl x7)]) rfl ?_
      obtain ⟨h3, Vh3⟩ := Ac2
      refine e_iinc dX8_isAtomAlike_110 (by decide) rfl h3 (ls' := [none, some (.inr (some u)), some (.inl x2), some (.inr (some w)), some (.inl x4), some (.inl x5), some (.inl 0), some (.inl (x7 + 1))]) rfl ?_
      refine e_goto (tgt := 59) dX8_isAtomAlike_113 (by decide) ?_
      exact Vh3
    · have Bc2 := Bc1.2 c2
      refine e_aload_n dX8_isAtomAlike_71 rfl ?_
      refine e_getr dX8_isAtomAlike_72 fO_8_113 (mt_pos hu) (mt_s0 hg hu) rfl (mt_p1 hg hu) ?_
      refine e_aload_n dX8_isAtomAlike_75 rfl ?_
      refine e_getr dX8_isAtomAlike_76 fO_8_128 (mt_pos hu) (mt_s0 hg hu) rfl (mt_p3 hg hu) ?_
      refine e_iload_n dX8_isAtomAlike_79 rfl ?_
      obtain ⟨h4, Vh4⟩ := Bc2
      refine e_iald dX8_isAtomAlike_80 (Nat.succ_pos _) (mt_s3 hg hu) h4.1 h4.2 ?_
      refine e_iload dX8_isAtomAlike_81 rfl ?_
      obtain ⟨h5, Vh5⟩ := Vh4
      refine e_iadd dX8_isAtomAlike_83 h5 ?_
      obtain ⟨h6, Vh6⟩ := Vh5
      refine e_bald dX8_isAtomAlike_84 (Nat.succ_pos _) (mt_s1 hg hu) h6.1 h6.2 ?_
      refine e_aload_n dX8_isAtomAlike_85 rfl ?_
      refine e_getr dX8_isAtomAlike_86 fO_8_113 (mt_pos hw) (mt_s0 hg hw) rfl (mt_p1 hg hw) ?_
      refine e_aload_n dX8_isAtomAlike_89 rfl ?_
      refine e_getr dX8_isAtomAlike_90 fO_8_128 (mt_pos hw) (mt_s0 hg hw) rfl (mt_p3 hg hw) ?_
      refine e_iload dX8_isAtomAlike_93 rfl ?_
      obtain ⟨h7, Vh7⟩ := Vh6
      refine e_iald dX8_isAtomAlike_95 (Nat.succ_pos _) (mt_s3 hg hw) h7.1 h7.2 ?_
      refine e_iload dX8_isAtomAlike_96 rfl ?_
      obtain ⟨h8, Vh8⟩ := Vh7
      refine e_iadd dX8_isAtomAlike_98 h8 ?_
      obtain ⟨h9, Vh9⟩ := Vh8
      refine e_bald dX8_isAtomAlike_99 (Nat.succ_pos _) (mt_s1 hg hw) h9.1 h9.2 ?_
      refine e_ic_ne (tgt := 107) dX8_isAtomAlike_100 (by decide) (fun c10 => ?_) (fun c10 => ?_)
      · have Ac10 := Vh9.1 c10
        refine e_iconst dX8_isAtomAlike_107 ⟨by decide, by decide⟩ ?_
        refine e_istore dX8_isAtomAlike_108 (by decide) (ls' := [none, some (.inr (some u)), some (.inl x2), some (.inr (some w)), some (.inl x4), some (.inl x5), some (.inl 0), some (.inl x7)]) rfl ?_
        obtain ⟨h11, Vh11⟩ := Ac10
        refine e_iinc dX8_isAtomAlike_110 (by decide) rfl h11 (ls' := [none, some (.inr (some u)), some (.inl x2), some (.inr (some w)), some (.inl x4), some (.inl x5), some (.inl 0), some (.inl (x7 + 1))]) rfl ?_
        refine e_goto (tgt := 59) dX8_isAtomAlike_113 (by decide) ?_
        exact Vh11
      · have Bc10 := Vh9.2 c10
        refine e_iconst dX8_isAtomAlike_103 ⟨by decide, by decide⟩ ?_
        refine e_goto (tgt := 108) dX8_isAtomAlike_104 (by decide) ?_
        refine e_istore dX8_isAtomAlike_108 (by decide) (ls' := [none, some (.inr (some u)), some (.inl x2), some (.inr (some w)), some (.inl x4), some (.inl x5), some (.inl 1), some (.inl x7)]) rfl ?_
        obtain ⟨h12, Vh12⟩ := Bc10
        refine e_iinc dX8_isAtomAlike_110 (by decide) rfl h12 (ls' := [none, some (.inr (some u)), some (.inl x2), some (.inr (some w)), some (.inl x4), some (.inl x5), some (.inl 1), some (.inl (x7 + 1))]) rfl ?_
        refine e_goto (tgt := 59) dX8_isAtomAlike_113 (by decide) ?_
        exact Vh12
set_option maxRecDepth 100000 in
set_option maxHeartbeats 4000000 in
theorem v_X8_areAlike_0 {Γ : GX} {g : AG} {I J : Nat → Nat → Int} {r : Option AV} {d : Nat} (hd : 1 ≤ d) (hg : GOk g) (x1 : Int) (x2 : Int)
    (V : ∃ (r3 : Int) (J1 : Nat → Nat → Int), CT Γ 0 mX8_isAtomAlike [.inr (some 80), .inr (some 82), .inl x1, .inr (some 82), .inl x2] (g, I) (some (.inl r3), (g, J1)) ∧ ((((r3 = 0)) → (r = some (.inl 0) ∧ J = J1)) ∧ ((¬ (r3 = 0)) → (((0 : Int) ≤ x1 ∧ (x1 : Int) < 240) ∧ (((0 : Int) ≤ x2 ∧ (x2 : Int) < 240) ∧ (((((J1 88 x1.toNat) = (J1 88 x2.toNat))) → (Ev Γ (d + 1) mX8_areAlike 45 [some (.inr (some 80)), some (.inl x1), some (.inl x2), some (.inl 1), some (.inl 0)] [] (g, J1) (r, (g, J)))) ∧ ((¬ ((J1 88 x1.toNat) = (J1 88 x2.toNat))) → (r = some (.inl 0) ∧ J = J1)))))))) : Ev Γ (d + 1) mX8_areAlike 0 [some (.inr (some 80)), some (.inl x1), some (.inl x2), none, none] [] (g, I) (r, (g, J)) := by
  refine e_aload_n dX8_areAlike_0 rfl ?_
  refine e_aload_n dX8_areAlike_1 rfl ?_
  refine e_getr dX8_areAlike_2 fO_8_16 (by decide) (gs_80 hg) rfl (gp_80_3 hg) ?_
  refine e_iload_n dX8_areAlike_5 rfl ?_
  refine e_aload_n dX8_areAlike_6 rfl ?_
  refine e_getr dX8_areAlike_7 fO_8_16 (by decide) (gs_80 hg) rfl (gp_80_3 hg) ?_
  refine e_iload_n dX8_areAlike_10 rfl ?_
  obtain ⟨r3, J1, h2, Vh2⟩ := V
  refine e_callv (av := [.inr (some 82), .inl x1, .inr (some 82), .inl x2]) (st := []) dX8_areAlike_11 cO_8_215 oX8_isAtomAlike rfl (by decide) (gs_80 hg) rfl (Nat.le_of_ble_eq_true rfl) (by omega) h2 (Nat.le_refl _) (Nat.le_refl _) rfl rfl ?_
  refine e_if_eq (tgt := 38) dX8_areAlike_14 (by decide) (fun c4 => ?_) (fun c4 => ?_)
  · have Ac4 := Vh2.1 c4
    refine e_iconst dX8_areAlike_38 ⟨by decide, by decide⟩ ?_
    exact e_zret dX8_areAlike_39 rfl (by decide) (by rw [Ac4.1, Ac4.2])
  · have Bc4 := Vh2.2 c4
    refine e_aload_n dX8_areAlike_17 rfl ?_
    refine e_getr dX8_areAlike_18 fO_8_16 (by decide) (gs_80 hg) rfl (gp_80_3 hg) ?_
    refine e_getr dX8_areAlike_21 fO_8_134 (by decide) (gs_82 hg) rfl (gp_82_7 hg) ?_
    refine e_iload_n dX8_areAlike_24 rfl ?_
    obtain ⟨h5, Vh5⟩ := Bc4
    refine e_iald dX8_areAlike_25 (by decide) (gs_88 hg) h5.1 h5.2 ?_
    refine e_aload_n dX8_areAlike_26 rfl ?_
    refine e_getr dX8_areAlike_27 fO_8_16 (by decide) (gs_80 hg) rfl (gp_80_3 hg) ?_
    refine e_getr dX8_areAlike_30 fO_8_134 (by decide) (gs_82 hg) rfl (gp_82_7 hg) ?_
    refine e_iload_n dX8_areAlike_33 rfl ?_
    obtain ⟨h6, Vh6⟩ := Vh5
    refine e_iald dX8_areAlike_34 (by decide) (gs_88 hg) h6.1 h6.2 ?_
    refine e_ic_eq (tgt := 40) dX8_areAlike_35 (by decide) (fun c7 => ?_) (fun c7 => ?_)
    · have Ac7 := Vh6.1 c7
      refine e_iconst dX8_areAlike_40 ⟨by decide, by decide⟩ ?_
      refine e_istore_n dX8_areAlike_41 (by decide) (ls' := [some (.inr (some 80)), some (.inl x1), some (.inl x2), some (.inl 1), none]) rfl ?_
      refine e_iconst dX8_areAlike_42 ⟨by decide, by decide⟩ ?_
      refine e_istore dX8_areAlike_43 (by decide) (ls' := [some (.inr (some 80)), some (.inl x1), some (.inl x2), some (.inl 1), some (.inl 0)]) rfl ?_
      exact Ac7
    · have Bc7 := Vh6.2 c7
      refine e_iconst dX8_areAlike_38 ⟨by decide, by decide⟩ ?_
      exact e_zret dX8_areAlike_39 rfl (by decide) (by rw [Bc7.1, Bc7.2])
set_option maxRecDepth 100000 in
set_option maxHeartbeats 4000000 in
theorem v_X8_areAlike_45 {Γ : GX} {g : AG} {I J : Nat → Nat → Int} {r : Option AV} {d : Nat} (hd : 1 ≤ d) (hg : GOk g) (x1 : Int) (x2 : Int) (x3 : Int) (x4 : Int)
    (V : ((0 : Int) ≤ x1 ∧ (x1 : Int) < 240) ∧ (((((I 88 x1.toNat) ≤ x4)) → ((x3 = 0 ∨ x3 = 1) ∧ r = some (.inl x3) ∧ J = I)) ∧ ((¬ ((I 88 x1.toNat) ≤ x4)) → ((((x3 = 0)) → ((x3 = 0 ∨ x3 = 1) ∧ r = some (.inl x3) ∧ J = I)) ∧ ((¬ (x3 = 0)) → (∃ (r6 : Int) (J4 : Nat → Nat → Int), CT Γ 0 mX7_term [.inr (some 82), .inl x1, .inl x4] (g, I) (some (.inl r6), (g, J4)) ∧ (∃ (r9 : Int) (J7 : Nat → Nat → Int), CT Γ 0 mX7_term [.inr (some 82), .inl x2, .inl x4] (g, J4) (some (.inl r9), (g, J7)) ∧ (∃ (r12 : Int) (J10 : Nat → Nat → Int), CT Γ d mX8_areAlike [.inr (some 80), .inl r6, .inl r9] (g, J7) (some (.inl r12), (g, J10)) ∧ (inR (x4 + 1) ∧ (Ev Γ (d + 1) mX8_areAlike 45 [some (.inr (some 80)), some (.inl x1), some (.inl x2), some (.inl r12), some (.inl (x4 + 1))] [] (g, J10) (r, (g, J)))))))))))) : Ev Γ (d + 1) mX8_areAlike 45 [some (.inr (some 80)), some (.inl x1), some (.inl x2), some (.inl x3), some (.inl x4)] [] (g, I) (r, (g, J)) := by
  refine e_iload dX8_areAlike_45 rfl ?_
  refine e_aload_n dX8_areAlike_47 rfl ?_
  refine e_getr dX8_areAlike_48 fO_8_16 (by decide) (gs_80 hg) rfl (gp_80_3 hg) ?_
  refine e_getr dX8_areAlike_51 fO_8_134 (by decide) (gs_82 hg) rfl (gp_82_7 hg) ?_
  refine e_iload_n dX8_areAlike_54 rfl ?_
  obtain ⟨h1, Vh1⟩ := V
  refine e_iald dX8_areAlike_55 (by decide) (gs_88 hg) h1.1 h1.2 ?_
  refine e_ic_ge (tgt := 94) dX8_areAlike_56 (by decide) (fun c2 => ?_) (fun c2 => ?_)
  · have Ac2 := Vh1.1 c2
    refine e_iload_n dX8_areAlike_94 rfl ?_
    exact e_zret dX8_areAlike_95 rfl Ac2.1 (by rw [Ac2.2.1, Ac2.2.2])
  · have Bc2 := Vh1.2 c2
    refine e_iload_n dX8_areAlike_59 rfl ?_
    refine e_if_eq (tgt := 94) dX8_areAlike_60 (by decide) (fun c3 => ?_) (fun c3 => ?_)
    · have Ac3 := Bc2.1 c3
      refine e_iload_n dX8_areAlike_94 rfl ?_
      exact e_zret dX8_areAlike_95 rfl Ac3.1 (by rw [Ac3.2.1, Ac3.2.2])
    · have Bc3 := Bc2.2 c3
      refine e_aload_n dX8_areAlike_63 rfl ?_
      refine e_aload_n dX8_areAlike_64 rfl ?_
      refine e_getr dX8_areAlike_65 fO_8_16 (by decide) (gs_80 hg) rfl (gp_80_3 hg) ?_
      refine e_iload_n dX8_areAlike_68 rfl ?_
      refine e_iload dX8_areAlike_69 rfl ?_
      obtain ⟨r6, J4, h5, Vh5⟩ := Bc3
      refine e_callv (av := [.inl x1, .inl x4]) (st := [.inr (some 80)]) dX8_areAlike_71 cO_8_219 oX7_term rfl (by decide) (gs_82 hg) rfl (Nat.le_of_ble_eq_true rfl) (by omega) h5 (Nat.le_refl _) (Nat.le_refl _) rfl rfl ?_
      refine e_aload_n dX8_areAlike_74 rfl ?_
      refine e_getr dX8_areAlike_75 fO_8_16 (by decide) (gs_80 hg) rfl (gp_80_3 hg) ?_
      refine e_iload_n dX8_areAlike_78 rfl ?_
      refine e_iload dX8_areAlike_79 rfl ?_
      obtain ⟨r9, J7, h8, Vh8⟩ := Vh5
      refine e_callv (av := [.inl x2, .inl x4]) (st := [.inl r6, .inr (some 80)]) dX8_areAlike_81 cO_8_219 oX7_term rfl (by decide) (gs_82 hg) rfl (Nat.le_of_ble_eq_true rfl) (by omega) h8 (Nat.le_refl _) (Nat.le_refl _) rfl rfl ?_
      obtain ⟨r12, J10, h11, Vh11⟩ := Vh8
      refine e_callv (av := [.inl r6, .inl r9]) (st := []) dX8_areAlike_84 cO_8_221 oX8_areAlike rfl (by decide) (gs_80 hg) rfl (Nat.le_of_ble_eq_true rfl) (by omega) h11 (Nat.le_refl _) (Nat.le_refl _) rfl rfl ?_
      refine e_istore_n dX8_areAlike_87 (by decide) (ls' := [some (.inr (some 80)), some (.inl x1), some (.inl x2), some (.inl r12), some (.inl x4)]) rfl ?_
      obtain ⟨h13, Vh13⟩ := Vh11
      refine e_iinc dX8_areAlike_88 (by decide) rfl h13 (ls' := [some (.inr (some 80)), some (.inl x1), some (.inl x2), some (.inl r12), some (.inl (x4 + 1))]) rfl ?_
      refine e_goto (tgt := 45) dX8_areAlike_91 (by decide) ?_
      exact Vh13
set_option maxRecDepth 100000 in
set_option maxHeartbeats 4000000 in
theorem v_X8_alike_0 {Γ : GX} {g : AG} {I J : Nat → Nat → Int} {r : Option AV} (hg : GOk g) (x1 : Int) (x2 : Int)
    (V : ∀ I1 : Nat → Nat → Int, I1 = mset I 80 0 0 → (∃ (r4 : Int) (J2 : Nat → Nat → Int), CT Γ 0 mX8_isNode [.inr (some 80), .inl x1] (g, I1) (some (.inl r4), (g, J2)) ∧ ((((r4 = 0)) → (r = some (.inl 0) ∧ J = J2)) ∧ ((¬ (r4 = 0)) → (∃ (r8 : Int) (J6 : Nat → Nat → Int), CT Γ 0 mX8_isNode [.inr (some 80), .inl x2] (g, J2) (some (.inl r8), (g, J6)) ∧ ((((r8 = 0)) → (r = some (.inl 0) ∧ J = J6)) ∧ ((¬ (r8 = 0)) → (∃ (r12 : Int) (J10 : Nat → Nat → Int), CT Γ 40 mX8_areAlike [.inr (some 80), .inl x1, .inl x2] (g, J6) (some (.inl r12), (g, J10)) ∧ ((((r12 = 0)) → (r = some (.inl 0) ∧ J = J10)) ∧ ((¬ (r12 = 0)) → (r = some (.inl 1) ∧ J = J10))))))))))) : Ev Γ 41 mX8_alike 0 [some (.inr (some 80)), some (.inl x1), some (.inl x2)] [] (g, I) (r, (g, J)) := by
  refine e_aload_n dX8_alike_0 rfl ?_
  refine e_iconst dX8_alike_1 ⟨by decide, by decide⟩ ?_
  refine e_puti dX8_alike_2 fO_8_103 (by decide) (gs_80 hg) rfl rfl ?_
  refine e_mem (fun I1 eI1 => ?_)
  have WI1 := V I1 eI1
  refine e_aload_n dX8_alike_5 rfl ?_
  refine e_iload_n dX8_alike_6 rfl ?_
  obtain ⟨r4, J2, h3, Vh3⟩ := WI1
  refine e_callv (av := [.inl x1]) (st := []) dX8_alike_7 cO_8_224 oX8_isNode rfl (by decide) (gs_80 hg) rfl (Nat.le_of_ble_eq_true rfl) (by decide) h3 (Nat.le_refl _) (Nat.le_refl _) rfl rfl ?_
  refine e_if_eq (tgt := 34) dX8_alike_10 (by decide) (fun c5 => ?_) (fun c5 => ?_)
  · have Ac5 := Vh3.1 c5
    refine e_iconst dX8_alike_34 ⟨by decide, by decide⟩ ?_
    exact e_zret dX8_alike_35 rfl (by decide) (by rw [Ac5.1, Ac5.2])
  · have Bc5 := Vh3.2 c5
    refine e_aload_n dX8_alike_13 rfl ?_
    refine e_iload_n dX8_alike_14 rfl ?_
    obtain ⟨r8, J6, h7, Vh7⟩ := Bc5
    refine e_callv (av := [.inl x2]) (st := []) dX8_alike_15 cO_8_224 oX8_isNode rfl (by decide) (gs_80 hg) rfl (Nat.le_of_ble_eq_true rfl) (by decide) h7 (Nat.le_refl _) (Nat.le_refl _) rfl rfl ?_
    refine e_if_eq (tgt := 34) dX8_alike_18 (by decide) (fun c9 => ?_) (fun c9 => ?_)
    · have Ac9 := Vh7.1 c9
      refine e_iconst dX8_alike_34 ⟨by decide, by decide⟩ ?_
      exact e_zret dX8_alike_35 rfl (by decide) (by rw [Ac9.1, Ac9.2])
    · have Bc9 := Vh7.2 c9
      refine e_aload_n dX8_alike_21 rfl ?_
      refine e_iload_n dX8_alike_22 rfl ?_
      refine e_iload_n dX8_alike_23 rfl ?_
      obtain ⟨r12, J10, h11, Vh11⟩ := Bc9
      refine e_callv (av := [.inl x1, .inl x2]) (st := []) dX8_alike_24 cO_8_221 oX8_areAlike rfl (by decide) (gs_80 hg) rfl (Nat.le_of_ble_eq_true rfl) (by decide) h11 (Nat.le_refl _) (Nat.le_refl _) rfl rfl ?_
      refine e_if_eq (tgt := 34) dX8_alike_27 (by decide) (fun c13 => ?_) (fun c13 => ?_)
      · have Ac13 := Vh11.1 c13
        refine e_iconst dX8_alike_34 ⟨by decide, by decide⟩ ?_
        exact e_zret dX8_alike_35 rfl (by decide) (by rw [Ac13.1, Ac13.2])
      · have Bc13 := Vh11.2 c13
        refine e_iconst dX8_alike_30 ⟨by decide, by decide⟩ ?_
        refine e_goto (tgt := 35) dX8_alike_31 (by decide) ?_
        exact e_zret dX8_alike_35 rfl (by decide) (by rw [Bc13.1, Bc13.2])
set_option maxRecDepth 100000 in
set_option maxHeartbeats 4000000 in
theorem v_X8_isWithin_0 {Γ : GX} {g : AG} {I J : Nat → Nat → Int} {r : Option AV} (hg : GOk g) (x1 : Int) (x2 : Int)
    (V : Ev Γ 0 mX8_isWithin 2 [some (.inr (some 80)), none, some (.inl x2), some (.inl x1)] [] (g, I) (r, (g, J))) : Ev Γ 0 mX8_isWithin 0 [some (.inr (some 80)), some (.inl x1), some (.inl x2), none] [] (g, I) (r, (g, J)) := by
  refine e_iload_n dX8_isWithin_0 rfl ?_
  refine e_istore_n dX8_isWithin_1 (by decide) (ls' := [some (.inr (some 80)), some (.inl x1), some (.inl x2), some (.inl x1)]) rfl ?_
  refine ev_drop (ls' := [some (.inr (some 80)), none, some (.inl x2), some (.inl x1)]) 1 rfl ?_
  exact V
set_option maxRecDepth 100000 in
set_option maxHeartbeats 4000000 in
theorem v_X8_isWithin_2 {Γ : GX} {g : AG} {I J : Nat → Nat → Int} {r : Option AV} (hg : GOk g) (x2 : Int) (x3 : Int)
    (V : (((x3 = (-1))) → (((¬ (x3 = x2)) → (r = some (.inl 0) ∧ J = I)) ∧ (((x3 = x2)) → (r = some (.inl 1) ∧ J = I)))) ∧ ((¬ (x3 = (-1))) → ((((x3 = x2)) → (((¬ (x3 = x2)) → (r = some (.inl 0) ∧ J = I)) ∧ (((x3 = x2)) → (r = some (.inl 1) ∧ J = I)))) ∧ ((¬ (x3 = x2)) → (((0 : Int) ≤ x3 ∧ (x3 : Int) < 240) ∧ (∀ y6 : Int, y6 = (I 89 x3.toNat) → (Ev Γ 0 mX8_isWithin 2 [some (.inr (some 80)), none, some (.inl x2), some (.inl y6)] [] (g, I) (r, (g, J))))))))) : Ev Γ 0 mX8_isWithin 2 [some (.inr (some 80)), none, some (.inl x2), some (.inl x3)] [] (g, I) (r, (g, J)) := by
  refine e_iload_n dX8_isWithin_2 rfl ?_
  refine e_iconst dX8_isWithin_3 ⟨by decide, by decide⟩ ?_
  refine e_ic_eq (tgt := 25) dX8_isWithin_4 (by decide) (fun c1 => ?_) (fun c1 => ?_)
  · have Ac1 := V.1 c1
    refine e_iload_n dX8_isWithin_25 rfl ?_
    refine e_iload_n dX8_isWithin_26 rfl ?_
    refine e_ic_ne (tgt := 34) dX8_isWithin_27 (by decide) (fun c2 => ?_) (fun c2 => ?_)
    · have Ac2 := Ac1.1 c2
      refine e_iconst dX8_isWithin_34 ⟨by decide, by decide⟩ ?_
      exact e_zret dX8_isWithin_35 rfl (by decide) (by rw [Ac2.1, Ac2.2])
    · have Bc2 := Ac1.2 c2
      refine e_iconst dX8_isWithin_30 ⟨by decide, by decide⟩ ?_
      refine e_goto (tgt := 35) dX8_isWithin_31 (by decide) ?_
      exact e_zret dX8_isWithin_35 rfl (by decide) (by rw [Bc2.1, Bc2.2])
  · have Bc1 := V.2 c1
    refine e_iload_n dX8_isWithin_7 rfl ?_
    refine e_iload_n dX8_isWithin_8 rfl ?_
    refine e_ic_eq (tgt := 25) dX8_isWithin_9 (by decide) (fun c3 => ?_) (fun c3 => ?_)
    · have Ac3 := Bc1.1 c3
      refine e_iload_n dX8_isWithin_25 rfl ?_
      refine e_iload_n dX8_isWithin_26 rfl ?_
      refine e_ic_ne (tgt := 34) dX8_isWithin_27 (by decide) (fun c4 => ?_) (fun c4 => ?_)
      · have Ac4 := Ac3.1 c4
        refine e_iconst dX8_isWithin_34 ⟨by decide, by decide⟩ ?_
        exact e_zret dX8_isWithin_35 rfl (by decide) (by rw [Ac4.1, Ac4.2])
      · have Bc4 := Ac3.2 c4
        refine e_iconst dX8_isWithin_30 ⟨by decide, by decide⟩ ?_
        refine e_goto (tgt := 35) dX8_isWithin_31 (by decide) ?_
        exact e_zret dX8_isWithin_35 rfl (by decide) (by rw [Bc4.1, Bc4.2])
    · have Bc3 := Bc1.2 c3
      refine e_aload_n dX8_isWithin_12 rfl ?_
      refine e_getr dX8_isWithin_13 fO_8_16 (by decide) (gs_80 hg) rfl (gp_80_3 hg) ?_
      refine e_getr dX8_isWithin_16 fO_8_131 (by decide) (gs_82 hg) rfl (gp_82_8 hg) ?_
      refine e_iload_n dX8_isWithin_19 rfl ?_
      obtain ⟨h5, Vh5⟩ := Bc3
      refine e_iald dX8_isWithin_20 (by decide) (gs_89 hg) h5.1 h5.2 ?_
      refine e_top (fun y6 ey6 => ?_)
      have Wy6 := Vh5 y6 ey6
      refine e_istore_n dX8_isWithin_21 (by decide) (ls' := [some (.inr (some 80)), none, some (.inl x2), some (.inl y6)]) rfl ?_
      refine e_goto (tgt := 2) dX8_isWithin_22 (by decide) ?_
      exact Wy6
set_option maxRecDepth 100000 in
set_option maxHeartbeats 4000000 in
theorem v_X8_task_0 {Γ : GX} {g : AG} {I J : Nat → Nat → Int} {r : Option AV} (hg : GOk g) (x1 : Int) (x2 : Int) (x3 : Int) (x4 : Int) (x5 : Int)
    (V : ∀ y1 : Int, y1 = (I 80 26) → (inR ((I 80 26) + 1) ∧ (∀ I3 : Nat → Nat → Int, I3 = mset I 80 26 ((I 80 26) + 1) → (((0 : Int) ≤ y1 ∧ (y1 : Int) < 4000) ∧ (∀ I4 : Nat → Nat → Int, I4 = mset I3 136 y1.toNat x1 → (((0 : Int) ≤ y1 ∧ (y1 : Int) < 4000) ∧ (∀ I6 : Nat → Nat → Int, I6 = mset I4 137 y1.toNat x2 → (((0 : Int) ≤ y1 ∧ (y1 : Int) < 4000) ∧ (∀ I8 : Nat → Nat → Int, I8 = mset I6 138 y1.toNat x3 → (((0 : Int) ≤ y1 ∧ (y1 : Int) < 4000) ∧ (∀ I10 : Nat → Nat → Int, I10 = mset I8 139 y1.toNat x4 → (((0 : Int) ≤ y1 ∧ (y1 : Int) < 4000) ∧ (∀ I12 : Nat → Nat → Int, I12 = mset I10 140 y1.toNat x5 → (r = some (.inl y1) ∧ J = I12)))))))))))))) : Ev Γ 0 mX8_task 0 [some (.inr (some 80)), some (.inl x1), some (.inl x2), some (.inl x3), some (.inl x4), some (.inl x5), none] [] (g, I) (r, (g, J)) := by
  refine e_aload_n dX8_task_0 rfl ?_
  refine e_geti dX8_task_1 fO_8_227 (by decide) (gs_80 hg) rfl ?_
  refine e_top (fun y1 ey1 => ?_)
  have Wy1 := V y1 ey1
  refine e_istore dX8_task_4 (by decide) (ls' := [some (.inr (some 80)), some (.inl x1), some (.inl x2), some (.inl x3), some (.inl x4), some (.inl x5), some (.inl y1)]) rfl ?_
  refine e_aload_n dX8_task_6 rfl ?_
  refine e_dup dX8_task_7 ?_
  refine e_geti dX8_task_8 fO_8_227 (by decide) (gs_80 hg) rfl ?_
  refine e_iconst dX8_task_11 ⟨by decide, by decide⟩ ?_
  obtain ⟨h2, Vh2⟩ := Wy1
  refine e_iadd dX8_task_12 h2 ?_
  refine e_puti dX8_task_13 fO_8_227 (by decide) (gs_80 hg) rfl rfl ?_
  refine e_mem (fun I3 eI3 => ?_)
  have WI3 := Vh2 I3 eI3
  refine e_aload_n dX8_task_16 rfl ?_
  refine e_getr dX8_task_17 fO_8_46 (by decide) (gs_80 hg) rfl (gp_80_21 hg) ?_
  refine e_iload dX8_task_20 rfl ?_
  refine e_iload_n dX8_task_22 rfl ?_
  obtain ⟨h5, Vh5⟩ := WI3
  refine e_iast dX8_task_23 (by decide) (gs_136 hg) h5.1 h5.2 ?_
  refine e_mem (fun I4 eI4 => ?_)
  have WI4 := Vh5 I4 eI4
  refine e_aload_n dX8_task_24 rfl ?_
  refine e_getr dX8_task_25 fO_8_49 (by decide) (gs_80 hg) rfl (gp_80_22 hg) ?_
  refine e_iload dX8_task_28 rfl ?_
  refine e_iload_n dX8_task_30 rfl ?_
  obtain ⟨h7, Vh7⟩ := WI4
  refine e_iast dX8_task_31 (by decide) (gs_137 hg) h7.1 h7.2 ?_
  refine e_mem (fun I6 eI6 => ?_)
  have WI6 := Vh7 I6 eI6
  refine e_aload_n dX8_task_32 rfl ?_
  refine e_getr dX8_task_33 fO_8_52 (by decide) (gs_80 hg) rfl (gp_80_23 hg) ?_
  refine e_iload dX8_task_36 rfl ?_
  refine e_iload_n dX8_task_38 rfl ?_
  obtain ⟨h9, Vh9⟩ := WI6
  refine e_iast dX8_task_39 (by decide) (gs_138 hg) h9.1 h9.2 ?_
  refine e_mem (fun I8 eI8 => ?_)
  have WI8 := Vh9 I8 eI8
  refine e_aload_n dX8_task_40 rfl ?_
  refine e_getr dX8_task_41 fO_8_55 (by decide) (gs_80 hg) rfl (gp_80_24 hg) ?_
  refine e_iload dX8_task_44 rfl ?_
  refine e_iload dX8_task_46 rfl ?_
  obtain ⟨h11, Vh11⟩ := WI8
  refine e_iast dX8_task_48 (by decide) (gs_139 hg) h11.1 h11.2 ?_
  refine e_mem (fun I10 eI10 => ?_)
  have WI10 := Vh11 I10 eI10
  refine e_aload_n dX8_task_49 rfl ?_
  refine e_getr dX8_task_50 fO_8_58 (by decide) (gs_80 hg) rfl (gp_80_25 hg) ?_
  refine e_iload dX8_task_53 rfl ?_
  refine e_iload dX8_task_55 rfl ?_
  obtain ⟨h13, Vh13⟩ := WI10
  refine e_iast dX8_task_57 (by decide) (gs_140 hg) h13.1 h13.2 ?_
  refine e_mem (fun I12 eI12 => ?_)
  have WI12 := Vh13 I12 eI12
  refine e_iload dX8_task_58 rfl ?_
  exact e_iret dX8_task_60 rfl (by rw [WI12.1, WI12.2])
set_option maxRecDepth 100000 in
set_option maxHeartbeats 4000000 in
theorem v_X8_differAll_0 {Γ : GX} {g : AG} {I J : Nat → Nat → Int} {r : Option AV} (hg : GOk g) 
    (V : Ev Γ 41 mX8_differAll 2 [some (.inr (some 80)), some (.inl 0), none] [] (g, I) (r, (g, J))) : Ev Γ 41 mX8_differAll 0 [some (.inr (some 80)), none, none] [] (g, I) (r, (g, J)) := by
  refine e_iconst dX8_differAll_0 ⟨by decide, by decide⟩ ?_
  refine e_istore_n dX8_differAll_1 (by decide) (ls' := [some (.inr (some 80)), some (.inl 0), none]) rfl ?_
  exact V
set_option maxRecDepth 100000 in
set_option maxHeartbeats 4000000 in
theorem v_X8_differAll_2 {Γ : GX} {g : AG} {I J : Nat → Nat → Int} {r : Option AV} (hg : GOk g) (x1 : Int)
    (V : (((26 ≤ x1)) → (r = some (.inl 1) ∧ J = I)) ∧ ((¬ (26 ≤ x1)) → (Ev Γ 41 mX8_differAll 10 [some (.inr (some 80)), some (.inl x1), some (.inl 0)] [] (g, I) (r, (g, J))))) : Ev Γ 41 mX8_differAll 2 [some (.inr (some 80)), some (.inl x1), none] [] (g, I) (r, (g, J)) := by
  refine e_iload_n dX8_differAll_2 rfl ?_
  refine e_bipush dX8_differAll_3 (by decide) ⟨by decide, by decide⟩ ?_
  refine e_ic_ge (tgt := 82) dX8_differAll_5 (by decide) (fun c1 => ?_) (fun c1 => ?_)
  · have Ac1 := V.1 c1
    refine e_iconst dX8_differAll_82 ⟨by decide, by decide⟩ ?_
    exact e_zret dX8_differAll_83 rfl (by decide) (by rw [Ac1.1, Ac1.2])
  · have Bc1 := V.2 c1
    refine e_iconst dX8_differAll_8 ⟨by decide, by decide⟩ ?_
    refine e_istore_n dX8_differAll_9 (by decide) (ls' := [some (.inr (some 80)), some (.inl x1), some (.inl 0)]) rfl ?_
    exact Bc1
set_option maxRecDepth 100000 in
set_option maxHeartbeats 4000000 in
theorem v_X8_differAll_10 {Γ : GX} {g : AG} {I J : Nat → Nat → Int} {r : Option AV} (hg : GOk g) (x1 : Int) (x2 : Int)
    (V : (((x1 ≤ x2)) → (inR (x1 + 1) ∧ (Ev Γ 41 mX8_differAll 2 [some (.inr (some 80)), some (.inl (x1 + 1)), none] [] (g, I) (r, (g, J))))) ∧ ((¬ (x1 ≤ x2)) → (inR (26 * x1) ∧ (inR ((26 * x1) + x2) ∧ (((0 : Int) ≤ ((26 * x1) + x2) ∧ (((26 * x1) + x2) : Int) < 676) ∧ (((((I 134 ((26 * x1) + x2).toNat) = 0)) → (inR (x2 + 1) ∧ (Ev Γ 41 mX8_differAll 10 [some (.inr (some 80)), some (.inl x1), some (.inl (x2 + 1))] [] (g, I) (r, (g, J))))) ∧ ((¬ ((I 134 ((26 * x1) + x2).toNat) = 0)) → (((0 : Int) ≤ x1 ∧ (x1 : Int) < 26) ∧ (((((I 141 x1.toNat) = (-1))) → (inR (x2 + 1) ∧ (Ev Γ 41 mX8_differAll 10 [some (.inr (some 80)), some (.inl x1), some (.inl (x2 + 1))] [] (g, I) (r, (g, J))))) ∧ ((¬ ((I 141 x1.toNat) = (-1))) → (((0 : Int) ≤ x2 ∧ (x2 : Int) < 26) ∧ (((((I 141 x2.toNat) = (-1))) → (inR (x2 + 1) ∧ (Ev Γ 41 mX8_differAll 10 [some (.inr (some 80)), some (.inl x1), some (.inl (x2 + 1))] [] (g, I) (r, (g, J))))) ∧ ((¬ ((I 141 x2.toNat) = (-1))) → (((0 : Int) ≤ x1 ∧ (x1 : Int) < 26) ∧ (((0 : Int) ≤ x2 ∧ (x2 : Int) < 26) ∧ (∃ (r18 : Int) (J16 : Nat → Nat → Int), CT Γ 40 mX8_areAlike [.inr (some 80), .inl (I 141 x1.toNat), .inl (I 141 x2.toNat)] (g, I) (some (.inl r18), (g, J16)) ∧ ((((r18 = 0)) → (inR (x2 + 1) ∧ (Ev Γ 41 mX8_differAll 10 [some (.inr (some 80)), some (.inl x1), some (.inl (x2 + 1))] [] (g, J16) (r, (g, J))))) ∧ ((¬ (r18 = 0)) → (r = some (.inl 0) ∧ J = J16))))))))))))))))))) : Ev Γ 41 mX8_differAll 10 [some (.inr (some 80)), some (.inl x1), some (.inl x2)] [] (g, I) (r, (g, J)) := by
  refine e_iload_n dX8_differAll_10 rfl ?_
  refine e_iload_n dX8_differAll_11 rfl ?_
  refine e_ic_ge (tgt := 76) dX8_differAll_12 (by decide) (fun c1 => ?_) (fun c1 => ?_)
  · have Ac1 := V.1 c1
    obtain ⟨h2, Vh2⟩ := Ac1
    refine e_iinc dX8_differAll_76 (by decide) rfl h2 (ls' := [some (.inr (some 80)), some (.inl (x1 + 1)), some (.inl x2)]) rfl ?_
    refine e_goto (tgt := 2) dX8_differAll_79 (by decide) ?_
    refine ev_drop (ls' := [some (.inr (some 80)), some (.inl (x1 + 1)), none]) 2 rfl ?_
    exact Vh2
  · have Bc1 := V.2 c1
    refine e_aload_n dX8_differAll_15 rfl ?_
    refine e_getr dX8_differAll_16 fO_8_39 (by decide) (gs_80 hg) rfl (gp_80_11 hg) ?_
    refine e_bipush dX8_differAll_19 (by decide) ⟨by decide, by decide⟩ ?_
    refine e_iload_n dX8_differAll_21 rfl ?_
    obtain ⟨h3, Vh3⟩ := Bc1
    refine e_imul dX8_differAll_22 h3 ?_
    refine e_iload_n dX8_differAll_23 rfl ?_
    obtain ⟨h4, Vh4⟩ := Vh3
    refine e_iadd dX8_differAll_24 h4 ?_
    obtain ⟨h5, Vh5⟩ := Vh4
    refine e_zald dX8_differAll_25 (by decide) (gs_134 hg) h5.1 h5.2 ?_
    refine e_if_eq (tgt := 70) dX8_differAll_26 (by decide) (fun c6 => ?_) (fun c6 => ?_)
    · have Ac6 := Vh5.1 c6
      obtain ⟨h7, Vh7⟩ := Ac6
      refine e_iinc dX8_differAll_70 (by decide) rfl h7 (ls' := [some (.inr (some 80)), some (.inl x1), some (.inl (x2 + 1))]) rfl ?_
      refine e_goto (tgt := 10) dX8_differAll_73 (by decide) ?_
      exact Vh7
    · have Bc6 := Vh5.2 c6
      refine e_aload_n dX8_differAll_29 rfl ?_
      refine e_getr dX8_differAll_30 fO_8_61 (by decide) (gs_80 hg) rfl (gp_80_27 hg) ?_
      refine e_iload_n dX8_differAll_33 rfl ?_
      obtain ⟨h8, Vh8⟩ := Bc6
      refine e_iald dX8_differAll_34 (by decide) (gs_141 hg) h8.1 h8.2 ?_
      refine e_iconst dX8_differAll_35 ⟨by decide, by decide⟩ ?_
      refine e_ic_eq (tgt := 70) dX8_differAll_36 (by decide) (fun c9 => ?_) (fun c9 => ?_)
      · have Ac9 := Vh8.1 c9
        obtain ⟨h10, Vh10⟩ := Ac9
        refine e_iinc dX8_differAll_70 (by decide) rfl h10 (ls' := [some (.inr (some 80)), some (.inl x1), some (.inl (x2 + 1))]) rfl ?_
        refine e_goto (tgt := 10) dX8_differAll_73 (by decide) ?_
        exact Vh10
      · have Bc9 := Vh8.2 c9
        refine e_aload_n dX8_differAll_39 rfl ?_
        refine e_getr dX8_differAll_40 fO_8_61 (by decide) (gs_80 hg) rfl (gp_80_27 hg) ?_
        refine e_iload_n dX8_differAll_43 rfl ?_
        obtain ⟨h11, Vh11⟩ := Bc9
        refine e_iald dX8_differAll_44 (by decide) (gs_141 hg) h11.1 h11.2 ?_
        refine e_iconst dX8_differAll_45 ⟨by decide, by decide⟩ ?_
        refine e_ic_eq (tgt := 70) dX8_differAll_46 (by decide) (fun c12 => ?_) (fun c12 => ?_)
        · have Ac12 := Vh11.1 c12
          obtain ⟨h13, Vh13⟩ := Ac12
          refine e_iinc dX8_differAll_70 (by decide) rfl h13 (ls' := [some (.inr (some 80)), some (.inl x1), some (.inl (x2 + 1))]) rfl ?_
          refine e_goto (tgt := 10) dX8_differAll_73 (by decide) ?_
          exact Vh13
        · have Bc12 := Vh11.2 c12
          refine e_aload_n dX8_differAll_49 rfl ?_
          refine e_aload_n dX8_differAll_50 rfl ?_
          refine e_getr dX8_differAll_51 fO_8_61 (by decide) (gs_80 hg) rfl (gp_80_27 hg) ?_
          refine e_iload_n dX8_differAll_54 rfl ?_
          obtain ⟨h14, Vh14⟩ := Bc12
          refine e_iald dX8_differAll_55 (by decide) (gs_141 hg) h14.1 h14.2 ?_
          refine e_aload_n dX8_differAll_56 rfl ?_
          refine e_getr dX8_differAll_57 fO_8_61 (by decide) (gs_80 hg) rfl (gp_80_27 hg) ?_
          refine e_iload_n dX8_differAll_60 rfl ?_
          obtain ⟨h15, Vh15⟩ := Vh14
          refine e_iald dX8_differAll_61 (by decide) (gs_141 hg) h15.1 h15.2 ?_
          obtain ⟨r18, J16, h17, Vh17⟩ := Vh15
          refine e_callv (av := [.inl (I 141 x1.toNat), .inl (I 141 x2.toNat)]) (st := []) dX8_differAll_62 cO_8_221 oX8_areAlike rfl (by decide) (gs_80 hg) rfl (Nat.le_of_ble_eq_true rfl) (by decide) h17 (Nat.le_refl _) (Nat.le_refl _) rfl rfl ?_
          refine e_if_eq (tgt := 70) dX8_differAll_65 (by decide) (fun c19 => ?_) (fun c19 => ?_)
          · have Ac19 := Vh17.1 c19
            obtain ⟨h20, Vh20⟩ := Ac19
            refine e_iinc dX8_differAll_70 (by decide) rfl h20 (ls' := [some (.inr (some 80)), some (.inl x1), some (.inl (x2 + 1))]) rfl ?_
            refine e_goto (tgt := 10) dX8_differAll_73 (by decide) ?_
            exact Vh20
          · have Bc19 := Vh17.2 c19
            refine e_iconst dX8_differAll_68 ⟨by decide, by decide⟩ ?_
            exact e_zret dX8_differAll_69 rfl (by decide) (by rw [Bc19.1, Bc19.2])
set_option maxRecDepth 100000 in
set_option maxHeartbeats 4000000 in
theorem v_X8_does_0 {Γ : GX} {g : AG} {I J : Nat → Nat → Int} {r : Option AV} {d : Nat} (hd : 41 ≤ d) (hg : GOk g) (x1 : Int)
    (V : ((¬ (x1 = (-1))) → (∀ y2 : Int, y2 = (I 80 26) → (((0 : Int) ≤ x1 ∧ (x1 : Int) < 4000) ∧ (((¬ ((I 137 x1.toNat) = (-1))) → (∃ (r7 : Int) (J5 : Nat → Nat → Int), CT Γ d mX8_some [.inr (some 80), .inl x1] (g, I) (some (.inl r7), (g, J5)) ∧ (∀ I8 : Nat → Nat → Int, I8 = mset J5 80 26 y2 → ((r7 = 0 ∨ r7 = 1) ∧ r = some (.inl r7) ∧ J = I8)))) ∧ ((((I 137 x1.toNat) = (-1))) → (((0 : Int) ≤ x1 ∧ (x1 : Int) < 4000) ∧ (((0 : Int) ≤ x1 ∧ (x1 : Int) < 4000) ∧ (((0 : Int) ≤ x1 ∧ (x1 : Int) < 4000) ∧ (∃ (r14 : Int) (J12 : Nat → Nat → Int), CT Γ d mX8_whole [.inr (some 80), .inl (I 136 x1.toNat), .inl (I 138 x1.toNat), .inl (I 140 x1.toNat)] (g, I) (some (.inl r14), (g, J12)) ∧ (∀ I15 : Nat → Nat → Int, I15 = mset J12 80 26 y2 → ((r14 = 0 ∨ r14 = 1) ∧ r = some (.inl r14) ∧ J = I15))))))))))) ∧ (((x1 = (-1))) → (∃ (r18 : Int) (J16 : Nat → Nat → Int), CT Γ 41 mX8_differAll [.inr (some 80)] (g, I) (some (.inl r18), (g, J16)) ∧ ((r18 = 0 ∨ r18 = 1) ∧ r = some (.inl r18) ∧ J = J16)))) : Ev Γ (d + 1) mX8_does 0 [some (.inr (some 80)), some (.inl x1), none, none] [] (g, I) (r, (g, J)) := by
  refine e_iload_n dX8_does_0 rfl ?_
  refine e_iconst dX8_does_1 ⟨by decide, by decide⟩ ?_
  refine e_ic_ne (tgt := 10) dX8_does_2 (by decide) (fun c1 => ?_) (fun c1 => ?_)
  · have Ac1 := V.1 c1
    refine e_aload_n dX8_does_10 rfl ?_
    refine e_geti dX8_does_11 fO_8_227 (by decide) (gs_80 hg) rfl ?_
    refine e_top (fun y2 ey2 => ?_)
    have Wy2 := Ac1 y2 ey2
    refine e_istore_n dX8_does_14 (by decide) (ls' := [some (.inr (some 80)), some (.inl x1), some (.inl y2), none]) rfl ?_
    refine e_aload_n dX8_does_15 rfl ?_
    refine e_getr dX8_does_16 fO_8_49 (by decide) (gs_80 hg) rfl (gp_80_22 hg) ?_
    refine e_iload_n dX8_does_19 rfl ?_
    obtain ⟨h3, Vh3⟩ := Wy2
    refine e_iald dX8_does_20 (by decide) (gs_137 hg) h3.1 h3.2 ?_
    refine e_iconst dX8_does_21 ⟨by decide, by decide⟩ ?_
    refine e_ic_ne (tgt := 50) dX8_does_22 (by decide) (fun c4 => ?_) (fun c4 => ?_)
    · have Ac4 := Vh3.1 c4
      refine e_aload_n dX8_does_50 rfl ?_
      refine e_iload_n dX8_does_51 rfl ?_
      obtain ⟨r7, J5, h6, Vh6⟩ := Ac4
      refine e_callv (av := [.inl x1]) (st := []) dX8_does_52 cO_8_236 oX8_some rfl (by decide) (gs_80 hg) rfl (Nat.le_of_ble_eq_true rfl) (by omega) h6 (Nat.le_refl _) (Nat.le_refl _) rfl rfl ?_
      refine e_istore_n dX8_does_55 (by decide) (ls' := [some (.inr (some 80)), some (.inl x1), some (.inl y2), some (.inl r7)]) rfl ?_
      refine e_aload_n dX8_does_56 rfl ?_
      refine e_iload_n dX8_does_57 rfl ?_
      refine e_puti dX8_does_58 fO_8_227 (by decide) (gs_80 hg) rfl rfl ?_
      refine e_mem (fun I8 eI8 => ?_)
      have WI8 := Vh6 I8 eI8
      refine e_iload_n dX8_does_61 rfl ?_
      exact e_zret dX8_does_62 rfl WI8.1 (by rw [WI8.2.1, WI8.2.2])
    · have Bc4 := Vh3.2 c4
      refine e_aload_n dX8_does_25 rfl ?_
      refine e_aload_n dX8_does_26 rfl ?_
      refine e_getr dX8_does_27 fO_8_46 (by decide) (gs_80 hg) rfl (gp_80_21 hg) ?_
      refine e_iload_n dX8_does_30 rfl ?_
      obtain ⟨h9, Vh9⟩ := Bc4
      refine e_iald dX8_does_31 (by decide) (gs_136 hg) h9.1 h9.2 ?_
      refine e_aload_n dX8_does_32 rfl ?_
      refine e_getr dX8_does_33 fO_8_52 (by decide) (gs_80 hg) rfl (gp_80_23 hg) ?_
      refine e_iload_n dX8_does_36 rfl ?_
      obtain ⟨h10, Vh10⟩ := Vh9
      refine e_iald dX8_does_37 (by decide) (gs_138 hg) h10.1 h10.2 ?_
      refine e_aload_n dX8_does_38 rfl ?_
      refine e_getr dX8_does_39 fO_8_58 (by decide) (gs_80 hg) rfl (gp_80_25 hg) ?_
      refine e_iload_n dX8_does_42 rfl ?_
      obtain ⟨h11, Vh11⟩ := Vh10
      refine e_iald dX8_does_43 (by decide) (gs_140 hg) h11.1 h11.2 ?_
      obtain ⟨r14, J12, h13, Vh13⟩ := Vh11
      refine e_callv (av := [.inl (I 136 x1.toNat), .inl (I 138 x1.toNat), .inl (I 140 x1.toNat)]) (st := []) dX8_does_44 cO_8_233 oX8_whole rfl (by decide) (gs_80 hg) rfl (Nat.le_of_ble_eq_true rfl) (by omega) h13 (Nat.le_refl _) (Nat.le_refl _) rfl rfl ?_
      refine e_goto (tgt := 55) dX8_does_47 (by decide) ?_
      refine e_istore_n dX8_does_55 (by decide) (ls' := [some (.inr (some 80)), some (.inl x1), some (.inl y2), some (.inl r14)]) rfl ?_
      refine e_aload_n dX8_does_56 rfl ?_
      refine e_iload_n dX8_does_57 rfl ?_
      refine e_puti dX8_does_58 fO_8_227 (by decide) (gs_80 hg) rfl rfl ?_
      refine e_mem (fun I15 eI15 => ?_)
      have WI15 := Vh13 I15 eI15
      refine e_iload_n dX8_does_61 rfl ?_
      exact e_zret dX8_does_62 rfl WI15.1 (by rw [WI15.2.1, WI15.2.2])
  · have Bc1 := V.2 c1
    refine e_aload_n dX8_does_5 rfl ?_
    obtain ⟨r18, J16, h17, Vh17⟩ := Bc1
    refine e_callv (av := []) (st := []) dX8_does_6 cO_8_230 oX8_differAll rfl (by decide) (gs_80 hg) rfl (Nat.le_of_ble_eq_true rfl) (by omega) h17 (Nat.le_refl _) (Nat.le_refl _) rfl rfl ?_
    exact e_zret dX8_does_9 rfl Vh17.1 (by rw [Vh17.2.1, Vh17.2.2])
set_option maxRecDepth 100000 in
set_option maxHeartbeats 4000000 in
theorem v_X8_whole_0 {Γ : GX} {g : AG} {I J : Nat → Nat → Int} {r : Option AV} {d : Nat} (hd : 40 ≤ d) (hg : GOk g) (x1 : Int) (x2 : Int) (x3 : Int)
    (V : ((0 : Int) ≤ x1 ∧ (x1 : Int) < 240) ∧ (((¬ ((I 94 x1.toNat) = 0)) → (((0 : Int) ≤ x1 ∧ (x1 : Int) < 240) ∧ (((¬ ((I 94 x1.toNat) = 1)) → (Ev Γ (d + 1) mX8_whole 140 [some (.inr (some 80)), some (.inl x1), some (.inl x2), some (.inl x3), some (.inl x2)] [] (g, I) (r, (g, J)))) ∧ ((((I 94 x1.toNat) = 1)) → (((0 : Int) ≤ x1 ∧ (x1 : Int) < 240) ∧ (∀ y6 : Int, y6 = (I 100 x1.toNat) → (((0 : Int) ≤ y6 ∧ (y6 : Int) < 26) ∧ (((((I 141 y6.toNat) = (-1))) → (((0 : Int) ≤ y6 ∧ (y6 : Int) < 26) ∧ (∀ I9 : Nat → Nat → Int, I9 = mset I 141 y6.toNat x2 → (∃ (r13 : Int) (J11 : Nat → Nat → Int), CT Γ d mX8_does [.inr (some 80), .inl x3] (g, I9) (some (.inl r13), (g, J11)) ∧ ((((r13 = 0)) → (((0 : Int) ≤ y6 ∧ (y6 : Int) < 26) ∧ (∀ I15 : Nat → Nat → Int, I15 = mset J11 141 y6.toNat (-1) → (r = some (.inl 0) ∧ J = I15)))) ∧ ((¬ (r13 = 0)) → (r = some (.inl 1) ∧ J = J11))))))) ∧ ((¬ ((I 141 y6.toNat) = (-1))) → (((0 : Int) ≤ y6 ∧ (y6 : Int) < 26) ∧ (∃ (r20 : Int) (J18 : Nat → Nat → Int), CT Γ 40 mX8_areAlike [.inr (some 80), .inl (I 141 y6.toNat), .inl x2] (g, I) (some (.inl r20), (g, J18)) ∧ ((((r20 = 0)) → (Ev Γ (d + 1) mX8_whole 107 [none, none, none, none, none] [] (g, J18) (r, (g, J)))) ∧ ((¬ (r20 = 0)) → (∃ (r24 : Int) (J22 : Nat → Nat → Int), CT Γ d mX8_does [.inr (some 80), .inl x3] (g, J18) (some (.inl r24), (g, J22)) ∧ ((((r24 = 0)) → (Ev Γ (d + 1) mX8_whole 107 [none, none, none, none, none] [] (g, J22) (r, (g, J)))) ∧ ((¬ (r24 = 0)) → (r = some (.inl 1) ∧ J = J22))))))))))))))))) ∧ ((((I 94 x1.toNat) = 0)) → (∃ (r28 : Int) (J26 : Nat → Nat → Int), CT Γ 0 mX8_isAtomAlike [.inr (some 80), .inr (some 92), .inl x1, .inr (some 82), .inl x2] (g, I) (some (.inl r28), (g, J26)) ∧ (((¬ (r28 = 0)) → (∃ (r32 : Int) (J30 : Nat → Nat → Int), CT Γ 0 mX8_task [.inr (some 80), .inl x1, .inl 0, .inl x2, .inl 0, .inl x3] (g, J26) (some (.inl r32), (g, J30)) ∧ (∃ (r35 : Int) (J33 : Nat → Nat → Int), CT Γ d mX8_does [.inr (some 80), .inl r32] (g, J30) (some (.inl r35), (g, J33)) ∧ ((r35 = 0 ∨ r35 = 1) ∧ r = some (.inl r35) ∧ J = J33)))) ∧ (((r28 = 0)) → (r = some (.inl 0) ∧ J = J26))))))) : Ev Γ (d + 1) mX8_whole 0 [some (.inr (some 80)), some (.inl x1), some (.inl x2), some (.inl x3), none] [] (g, I) (r, (g, J)) := by
  refine e_aload_n dX8_whole_0 rfl ?_
  refine e_getr dX8_whole_1 fO_8_20 (by decide) (gs_80 hg) rfl (gp_80_4 hg) ?_
  refine e_getr dX8_whole_4 fO_8_125 (by decide) (gs_92 hg) rfl (gp_92_3 hg) ?_
  refine e_iload_n dX8_whole_7 rfl ?_
  obtain ⟨h1, Vh1⟩ := V
  refine e_iald dX8_whole_8 (by decide) (gs_94 hg) h1.1 h1.2 ?_
  refine e_if_ne (tgt := 45) dX8_whole_9 (by decide) (fun c2 => ?_) (fun c2 => ?_)
  · have Ac2 := Vh1.1 c2
    refine e_aload_n dX8_whole_45 rfl ?_
    refine e_getr dX8_whole_46 fO_8_20 (by decide) (gs_80 hg) rfl (gp_80_4 hg) ?_
    refine e_getr dX8_whole_49 fO_8_125 (by decide) (gs_92 hg) rfl (gp_92_3 hg) ?_
    refine e_iload_n dX8_whole_52 rfl ?_
    obtain ⟨h3, Vh3⟩ := Ac2
    refine e_iald dX8_whole_53 (by decide) (gs_94 hg) h3.1 h3.2 ?_
    refine e_iconst dX8_whole_54 ⟨by decide, by decide⟩ ?_
    refine e_ic_ne (tgt := 137) dX8_whole_55 (by decide) (fun c4 => ?_) (fun c4 => ?_)
    · have Ac4 := Vh3.1 c4
      refine e_iload_n dX8_whole_137 rfl ?_
      refine e_istore dX8_whole_138 (by decide) (ls' := [some (.inr (some 80)), some (.inl x1), some (.inl x2), some (.inl x3), some (.inl x2)]) rfl ?_
      exact Ac4
    · have Bc4 := Vh3.2 c4
      refine e_aload_n dX8_whole_58 rfl ?_
      refine e_getr dX8_whole_59 fO_8_20 (by decide) (gs_80 hg) rfl (gp_80_4 hg) ?_
      refine e_getr dX8_whole_62 fO_8_140 (by decide) (gs_92 hg) rfl (gp_92_9 hg) ?_
      refine e_iload_n dX8_whole_65 rfl ?_
      obtain ⟨h5, Vh5⟩ := Bc4
      refine e_iald dX8_whole_66 (by decide) (gs_100 hg) h5.1 h5.2 ?_
      refine e_top (fun y6 ey6 => ?_)
      have Wy6 := Vh5 y6 ey6
      refine e_istore dX8_whole_67 (by decide) (ls' := [some (.inr (some 80)), some (.inl x1), some (.inl x2), some (.inl x3), some (.inl y6)]) rfl ?_
      refine e_aload_n dX8_whole_69 rfl ?_
      refine e_getr dX8_whole_70 fO_8_61 (by decide) (gs_80 hg) rfl (gp_80_27 hg) ?_
      refine e_iload dX8_whole_73 rfl ?_
      obtain ⟨h7, Vh7⟩ := Wy6
      refine e_iald dX8_whole_75 (by decide) (gs_141 hg) h7.1 h7.2 ?_
      refine e_iconst dX8_whole_76 ⟨by decide, by decide⟩ ?_
      refine e_ic_eq (tgt := 109) dX8_whole_77 (by decide) (fun c8 => ?_) (fun c8 => ?_)
      · have Ac8 := Vh7.1 c8
        refine e_aload_n dX8_whole_109 rfl ?_
        refine e_getr dX8_whole_110 fO_8_61 (by decide) (gs_80 hg) rfl (gp_80_27 hg) ?_
        refine e_iload dX8_whole_113 rfl ?_
        refine e_iload_n dX8_whole_115 rfl ?_
        obtain ⟨h10, Vh10⟩ := Ac8
        refine e_iast dX8_whole_116 (by decide) (gs_141 hg) h10.1 h10.2 ?_
        refine e_mem (fun I9 eI9 => ?_)
        have WI9 := Vh10 I9 eI9
        refine e_aload_n dX8_whole_117 rfl ?_
        refine e_iload_n dX8_whole_118 rfl ?_
        obtain ⟨r13, J11, h12, Vh12⟩ := WI9
        refine e_callv (av := [.inl x3]) (st := []) dX8_whole_119 cO_8_243 oX8_does rfl (by decide) (gs_80 hg) rfl (Nat.le_of_ble_eq_true rfl) (by omega) h12 (Nat.le_refl _) (Nat.le_refl _) rfl rfl ?_
        refine e_if_eq (tgt := 127) dX8_whole_122 (by decide) (fun c14 => ?_) (fun c14 => ?_)
        · have Ac14 := Vh12.1 c14
          refine e_aload_n dX8_whole_127 rfl ?_
          refine e_getr dX8_whole_128 fO_8_61 (by decide) (gs_80 hg) rfl (gp_80_27 hg) ?_
          refine e_iload dX8_whole_131 rfl ?_
          refine e_iconst dX8_whole_133 ⟨by decide, by decide⟩ ?_
          obtain ⟨h16, Vh16⟩ := Ac14
          refine e_iast dX8_whole_134 (by decide) (gs_141 hg) h16.1 h16.2 ?_
          refine e_mem (fun I15 eI15 => ?_)
          have WI15 := Vh16 I15 eI15
          refine e_iconst dX8_whole_135 ⟨by decide, by decide⟩ ?_
          exact e_zret dX8_whole_136 rfl (by decide) (by rw [WI15.1, WI15.2])
        · have Bc14 := Vh12.2 c14
          refine e_iconst dX8_whole_125 ⟨by decide, by decide⟩ ?_
          exact e_zret dX8_whole_126 rfl (by decide) (by rw [Bc14.1, Bc14.2])
      · have Bc8 := Vh7.2 c8
        refine e_aload_n dX8_whole_80 rfl ?_
        refine e_aload_n dX8_whole_81 rfl ?_
        refine e_getr dX8_whole_82 fO_8_61 (by decide) (gs_80 hg) rfl (gp_80_27 hg) ?_
        refine e_iload dX8_whole_85 rfl ?_
        obtain ⟨h17, Vh17⟩ := Bc8
        refine e_iald dX8_whole_87 (by decide) (gs_141 hg) h17.1 h17.2 ?_
        refine e_iload_n dX8_whole_88 rfl ?_
        obtain ⟨r20, J18, h19, Vh19⟩ := Vh17
        refine e_callv (av := [.inl (I 141 y6.toNat), .inl x2]) (st := []) dX8_whole_89 cO_8_221 oX8_areAlike rfl (by decide) (gs_80 hg) rfl (Nat.le_of_ble_eq_true rfl) (by omega) h19 (Nat.le_refl _) (Nat.le_refl _) rfl rfl ?_
        refine e_if_eq (tgt := 107) dX8_whole_92 (by decide) (fun c21 => ?_) (fun c21 => ?_)
        · have Ac21 := Vh19.1 c21
          refine ev_drop (ls' := [none, some (.inl x1), some (.inl x2), some (.inl x3), some (.inl y6)]) 0 rfl ?_
          refine ev_drop (ls' := [none, none, some (.inl x2), some (.inl x3), some (.inl y6)]) 1 rfl ?_
          refine ev_drop (ls' := [none, none, none, some (.inl x3), some (.inl y6)]) 2 rfl ?_
          refine ev_drop (ls' := [none, none, none, none, some (.inl y6)]) 3 rfl ?_
          refine ev_drop (ls' := [none, none, none, none, none]) 4 rfl ?_
          exact Ac21
        · have Bc21 := Vh19.2 c21
          refine e_aload_n dX8_whole_95 rfl ?_
          refine e_iload_n dX8_whole_96 rfl ?_
          obtain ⟨r24, J22, h23, Vh23⟩ := Bc21
          refine e_callv (av := [.inl x3]) (st := []) dX8_whole_97 cO_8_243 oX8_does rfl (by decide) (gs_80 hg) rfl (Nat.le_of_ble_eq_true rfl) (by omega) h23 (Nat.le_refl _) (Nat.le_refl _) rfl rfl ?_
          refine e_if_eq (tgt := 107) dX8_whole_100 (by decide) (fun c25 => ?_) (fun c25 => ?_)
          · have Ac25 := Vh23.1 c25
            refine ev_drop (ls' := [none, some (.inl x1), some (.inl x2), some (.inl x3), some (.inl y6)]) 0 rfl ?_
            refine ev_drop (ls' := [none, none, some (.inl x2), some (.inl x3), some (.inl y6)]) 1 rfl ?_
            refine ev_drop (ls' := [none, none, none, some (.inl x3), some (.inl y6)]) 2 rfl ?_
            refine ev_drop (ls' := [none, none, none, none, some (.inl y6)]) 3 rfl ?_
            refine ev_drop (ls' := [none, none, none, none, none]) 4 rfl ?_
            exact Ac25
          · have Bc25 := Vh23.2 c25
            refine e_iconst dX8_whole_103 ⟨by decide, by decide⟩ ?_
            refine e_goto (tgt := 108) dX8_whole_104 (by decide) ?_
            exact e_zret dX8_whole_108 rfl (by decide) (by rw [Bc25.1, Bc25.2])
  · have Bc2 := Vh1.2 c2
    refine e_aload_n dX8_whole_12 rfl ?_
    refine e_aload_n dX8_whole_13 rfl ?_
    refine e_getr dX8_whole_14 fO_8_20 (by decide) (gs_80 hg) rfl (gp_80_4 hg) ?_
    refine e_iload_n dX8_whole_17 rfl ?_
    refine e_aload_n dX8_whole_18 rfl ?_
    refine e_getr dX8_whole_19 fO_8_16 (by decide) (gs_80 hg) rfl (gp_80_3 hg) ?_
    refine e_iload_n dX8_whole_22 rfl ?_
    obtain ⟨r28, J26, h27, Vh27⟩ := Bc2
    refine e_callv (av := [.inr (some 92), .inl x1, .inr (some 82), .inl x2]) (st := []) dX8_whole_23 cO_8_215 oX8_isAtomAlike rfl (by decide) (gs_80 hg) rfl (Nat.le_of_ble_eq_true rfl) (by omega) h27 (Nat.le_refl _) (Nat.le_refl _) rfl rfl ?_
    refine e_if_ne (tgt := 31) dX8_whole_26 (by decide) (fun c29 => ?_) (fun c29 => ?_)
    · have Ac29 := Vh27.1 c29
      refine e_aload_n dX8_whole_31 rfl ?_
      refine e_aload_n dX8_whole_32 rfl ?_
      refine e_iload_n dX8_whole_33 rfl ?_
      refine e_iconst dX8_whole_34 ⟨by decide, by decide⟩ ?_
      refine e_iload_n dX8_whole_35 rfl ?_
      refine e_iconst dX8_whole_36 ⟨by decide, by decide⟩ ?_
      refine e_iload_n dX8_whole_37 rfl ?_
      obtain ⟨r32, J30, h31, Vh31⟩ := Ac29
      refine e_callv (av := [.inl x1, .inl 0, .inl x2, .inl 0, .inl x3]) (st := [.inr (some 80)]) dX8_whole_38 cO_8_239 oX8_task rfl (by decide) (gs_80 hg) rfl (Nat.le_of_ble_eq_true rfl) (by omega) h31 (Nat.le_refl _) (Nat.le_refl _) rfl rfl ?_
      obtain ⟨r35, J33, h34, Vh34⟩ := Vh31
      refine e_callv (av := [.inl r32]) (st := []) dX8_whole_41 cO_8_243 oX8_does rfl (by decide) (gs_80 hg) rfl (Nat.le_of_ble_eq_true rfl) (by omega) h34 (Nat.le_refl _) (Nat.le_refl _) rfl rfl ?_
      exact e_zret dX8_whole_44 rfl Vh34.1 (by rw [Vh34.2.1, Vh34.2.2])
    · have Bc29 := Vh27.2 c29
      refine e_iconst dX8_whole_29 ⟨by decide, by decide⟩ ?_
      exact e_zret dX8_whole_30 rfl (by decide) (by rw [Bc29.1, Bc29.2])
set_option maxRecDepth 100000 in
set_option maxHeartbeats 4000000 in
theorem v_X8_whole_140 {Γ : GX} {g : AG} {I J : Nat → Nat → Int} {r : Option AV} {d : Nat} (hd : 40 ≤ d) (hg : GOk g) (x1 : Int) (x2 : Int) (x3 : Int) (x4 : Int)
    (V : ((((I 82 2) ≤ x4)) → (Ev Γ (d + 1) mX8_whole 195 [none, none, none, none, none] [] (g, I) (r, (g, J)))) ∧ ((¬ ((I 82 2) ≤ x4)) → (∃ (r4 : Int) (J2 : Nat → Nat → Int), CT Γ 0 mX8_isWithin [.inr (some 80), .inl x4, .inl x2] (g, I) (some (.inl r4), (g, J2)) ∧ ((((r4 = 0)) → (Ev Γ (d + 1) mX8_whole 195 [none, none, none, none, none] [] (g, J2) (r, (g, J)))) ∧ ((¬ (r4 = 0)) → (∃ (r8 : Int) (J6 : Nat → Nat → Int), CT Γ 0 mX7_term [.inr (some 92), .inl x1, .inl 0] (g, J2) (some (.inl r8), (g, J6)) ∧ (∃ (r11 : Int) (J9 : Nat → Nat → Int), CT Γ 0 mX8_task [.inr (some 80), .inl r8, .inl (-1), .inl x4, .inl 0, .inl x3] (g, J6) (some (.inl r11), (g, J9)) ∧ (∃ (r14 : Int) (J12 : Nat → Nat → Int), CT Γ d mX8_does [.inr (some 80), .inl r11] (g, J9) (some (.inl r14), (g, J12)) ∧ ((((r14 = 0)) → (inR (x4 + 1) ∧ (Ev Γ (d + 1) mX8_whole 140 [some (.inr (some 80)), some (.inl x1), some (.inl x2), some (.inl x3), some (.inl (x4 + 1))] [] (g, J12) (r, (g, J))))) ∧ ((¬ (r14 = 0)) → (r = some (.inl 1) ∧ J = J12))))))))))) : Ev Γ (d + 1) mX8_whole 140 [some (.inr (some 80)), some (.inl x1), some (.inl x2), some (.inl x3), some (.inl x4)] [] (g, I) (r, (g, J)) := by
  refine e_iload dX8_whole_140 rfl ?_
  refine e_aload_n dX8_whole_142 rfl ?_
  refine e_getr dX8_whole_143 fO_8_16 (by decide) (gs_80 hg) rfl (gp_80_3 hg) ?_
  refine e_geti dX8_whole_146 fO_8_122 (by decide) (gs_82 hg) rfl ?_
  refine e_ic_ge (tgt := 195) dX8_whole_149 (by decide) (fun c1 => ?_) (fun c1 => ?_)
  · have Ac1 := V.1 c1
    refine ev_drop (ls' := [none, some (.inl x1), some (.inl x2), some (.inl x3), some (.inl x4)]) 0 rfl ?_
    refine ev_drop (ls' := [none, none, some (.inl x2), some (.inl x3), some (.inl x4)]) 1 rfl ?_
    refine ev_drop (ls' := [none, none, none, some (.inl x3), some (.inl x4)]) 2 rfl ?_
    refine ev_drop (ls' := [none, none, none, none, some (.inl x4)]) 3 rfl ?_
    refine ev_drop (ls' := [none, none, none, none, none]) 4 rfl ?_
    exact Ac1
  · have Bc1 := V.2 c1
    refine e_aload_n dX8_whole_152 rfl ?_
    refine e_iload dX8_whole_153 rfl ?_
    refine e_iload_n dX8_whole_155 rfl ?_
    obtain ⟨r4, J2, h3, Vh3⟩ := Bc1
    refine e_callv (av := [.inl x4, .inl x2]) (st := []) dX8_whole_156 cO_8_246 oX8_isWithin rfl (by decide) (gs_80 hg) rfl (Nat.le_of_ble_eq_true rfl) (by omega) h3 (Nat.le_refl _) (Nat.le_refl _) rfl rfl ?_
    refine e_if_eq (tgt := 195) dX8_whole_159 (by decide) (fun c5 => ?_) (fun c5 => ?_)
    · have Ac5 := Vh3.1 c5
      refine ev_drop (ls' := [none, some (.inl x1), some (.inl x2), some (.inl x3), some (.inl x4)]) 0 rfl ?_
      refine ev_drop (ls' := [none, none, some (.inl x2), some (.inl x3), some (.inl x4)]) 1 rfl ?_
      refine ev_drop (ls' := [none, none, none, some (.inl x3), some (.inl x4)]) 2 rfl ?_
      refine ev_drop (ls' := [none, none, none, none, some (.inl x4)]) 3 rfl ?_
      refine ev_drop (ls' := [none, none, none, none, none]) 4 rfl ?_
      exact Ac5
    · have Bc5 := Vh3.2 c5
      refine e_aload_n dX8_whole_162 rfl ?_
      refine e_aload_n dX8_whole_163 rfl ?_
      refine e_aload_n dX8_whole_164 rfl ?_
      refine e_getr dX8_whole_165 fO_8_20 (by decide) (gs_80 hg) rfl (gp_80_4 hg) ?_
      refine e_iload_n dX8_whole_168 rfl ?_
      refine e_iconst dX8_whole_169 ⟨by decide, by decide⟩ ?_
      obtain ⟨r8, J6, h7, Vh7⟩ := Bc5
      refine e_callv (av := [.inl x1, .inl 0]) (st := [.inr (some 80), .inr (some 80)]) dX8_whole_170 cO_8_219 oX7_term rfl (by decide) (gs_92 hg) rfl (Nat.le_of_ble_eq_true rfl) (by omega) h7 (Nat.le_refl _) (Nat.le_refl _) rfl rfl ?_
      refine e_iconst dX8_whole_173 ⟨by decide, by decide⟩ ?_
      refine e_iload dX8_whole_174 rfl ?_
      refine e_iconst dX8_whole_176 ⟨by decide, by decide⟩ ?_
      refine e_iload_n dX8_whole_177 rfl ?_
      obtain ⟨r11, J9, h10, Vh10⟩ := Vh7
      refine e_callv (av := [.inl r8, .inl (-1), .inl x4, .inl 0, .inl x3]) (st := [.inr (some 80)]) dX8_whole_178 cO_8_239 oX8_task rfl (by decide) (gs_80 hg) rfl (Nat.le_of_ble_eq_true rfl) (by omega) h10 (Nat.le_refl _) (Nat.le_refl _) rfl rfl ?_
      obtain ⟨r14, J12, h13, Vh13⟩ := Vh10
      refine e_callv (av := [.inl r11]) (st := []) dX8_whole_181 cO_8_243 oX8_does rfl (by decide) (gs_80 hg) rfl (Nat.le_of_ble_eq_true rfl) (by omega) h13 (Nat.le_refl _) (Nat.le_refl _) rfl rfl ?_
      refine e_if_eq (tgt := 189) dX8_whole_184 (by decide) (fun c15 => ?_) (fun c15 => ?_)
      · have Ac15 := Vh13.1 c15
        obtain ⟨h16, Vh16⟩ := Ac15
        refine e_iinc dX8_whole_189 (by decide) rfl h16 (ls' := [some (.inr (some 80)), some (.inl x1), some (.inl x2), some (.inl x3), some (.inl (x4 + 1))]) rfl ?_
        refine e_goto (tgt := 140) dX8_whole_192 (by decide) ?_
        exact Vh16
      · have Bc15 := Vh13.2 c15
        refine e_iconst dX8_whole_187 ⟨by decide, by decide⟩ ?_
        exact e_zret dX8_whole_188 rfl (by decide) (by rw [Bc15.1, Bc15.2])
set_option maxRecDepth 100000 in
set_option maxHeartbeats 4000000 in
theorem v_X8_whole_107 {Γ : GX} {g : AG} {I J : Nat → Nat → Int} {r : Option AV} {d : Nat} (hd : 40 ≤ d) (hg : GOk g) 
    (V : r = some (.inl 0) ∧ J = I) : Ev Γ (d + 1) mX8_whole 107 [none, none, none, none, none] [] (g, I) (r, (g, J)) := by
  refine e_iconst dX8_whole_107 ⟨by decide, by decide⟩ ?_
  exact e_zret dX8_whole_108 rfl (by decide) (by rw [V.1, V.2])
set_option maxRecDepth 100000 in
set_option maxHeartbeats 4000000 in
theorem v_X8_whole_195 {Γ : GX} {g : AG} {I J : Nat → Nat → Int} {r : Option AV} {d : Nat} (hd : 40 ≤ d) (hg : GOk g) 
    (V : r = some (.inl 0) ∧ J = I) : Ev Γ (d + 1) mX8_whole 195 [none, none, none, none, none] [] (g, I) (r, (g, J)) := by
  refine e_iconst dX8_whole_195 ⟨by decide, by decide⟩ ?_
  exact e_zret dX8_whole_196 rfl (by decide) (by rw [V.1, V.2])
set_option maxRecDepth 100000 in
set_option maxHeartbeats 4000000 in
theorem v_X8_isRowAlike_0 {Γ : GX} {g : AG} {I J : Nat → Nat → Int} {r : Option AV} (hg : GOk g) (x1 : Int) (x2 : Int) (x3 : Int) (x4 : Int)
    (V : ((0 : Int) ≤ x1 ∧ (x1 : Int) < 26) ∧ (((((I 143 x1.toNat) = x4)) → (Ev Γ 41 mX8_isRowAlike 19 [some (.inr (some 80)), some (.inl x1), some (.inl x2), some (.inl x3), some (.inl x4), some (.inl 1), some (.inl 0)] [] (g, I) (r, (g, J)))) ∧ ((¬ ((I 143 x1.toNat) = x4)) → (r = some (.inl 0) ∧ J = I)))) : Ev Γ 41 mX8_isRowAlike 0 [some (.inr (some 80)), some (.inl x1), some (.inl x2), some (.inl x3), some (.inl x4), none, none] [] (g, I) (r, (g, J)) := by
  refine e_aload_n dX8_isRowAlike_0 rfl ?_
  refine e_getr dX8_isRowAlike_1 fO_8_67 (by decide) (gs_80 hg) rfl (gp_80_29 hg) ?_
  refine e_iload_n dX8_isRowAlike_4 rfl ?_
  obtain ⟨h1, Vh1⟩ := V
  refine e_iald dX8_isRowAlike_5 (by decide) (gs_143 hg) h1.1 h1.2 ?_
  refine e_iload dX8_isRowAlike_6 rfl ?_
  refine e_ic_eq (tgt := 13) dX8_isRowAlike_8 (by decide) (fun c2 => ?_) (fun c2 => ?_)
  · have Ac2 := Vh1.1 c2
    refine e_iconst dX8_isRowAlike_13 ⟨by decide, by decide⟩ ?_
    refine e_istore dX8_isRowAlike_14 (by decide) (ls' := [some (.inr (some 80)), some (.inl x1), some (.inl x2), some (.inl x3), some (.inl x4), some (.inl 1), none]) rfl ?_
    refine e_iconst dX8_isRowAlike_16 ⟨by decide, by decide⟩ ?_
    refine e_istore dX8_isRowAlike_17 (by decide) (ls' := [some (.inr (some 80)), some (.inl x1), some (.inl x2), some (.inl x3), some (.inl x4), some (.inl 1), some (.inl 0)]) rfl ?_
    exact Ac2
  · have Bc2 := Vh1.2 c2
    refine e_iconst dX8_isRowAlike_11 ⟨by decide, by decide⟩ ?_
    exact e_zret dX8_isRowAlike_12 rfl (by decide) (by rw [Bc2.1, Bc2.2])
set_option maxRecDepth 100000 in
set_option maxHeartbeats 4000000 in
theorem v_X8_isRowAlike_19 {Γ : GX} {g : AG} {I J : Nat → Nat → Int} {r : Option AV} (hg : GOk g) (x1 : Int) (x2 : Int) (x3 : Int) (x4 : Int) (x5 : Int) (x6 : Int)
    (V : (((x4 ≤ x6)) → ((x5 = 0 ∨ x5 = 1) ∧ r = some (.inl x5) ∧ J = I)) ∧ ((¬ (x4 ≤ x6)) → ((((x5 = 0)) → ((x5 = 0 ∨ x5 = 1) ∧ r = some (.inl x5) ∧ J = I)) ∧ ((¬ (x5 = 0)) → (((0 : Int) ≤ x1 ∧ (x1 : Int) < 26) ∧ (((0 : Int) ≤ x1 ∧ (x1 : Int) < 26) ∧ (inR ((I 145 x1.toNat) + x6) ∧ (∃ (r8 : Int) (J6 : Nat → Nat → Int), CT Γ 0 mX7_term [.inr (some 82), .inl (I 144 x1.toNat), .inl ((I 145 x1.toNat) + x6)] (g, I) (some (.inl r8), (g, J6)) ∧ (inR (x3 + x6) ∧ (∃ (r12 : Int) (J10 : Nat → Nat → Int), CT Γ 0 mX7_term [.inr (some 82), .inl x2, .inl (x3 + x6)] (g, J6) (some (.inl r12), (g, J10)) ∧ (∃ (r15 : Int) (J13 : Nat → Nat → Int), CT Γ 40 mX8_areAlike [.inr (some 80), .inl r8, .inl r12] (g, J10) (some (.inl r15), (g, J13)) ∧ (inR (x6 + 1) ∧ (Ev Γ 41 mX8_isRowAlike 19 [some (.inr (some 80)), some (.inl x1), some (.inl x2), some (.inl x3), some (.inl x4), some (.inl r15), some (.inl (x6 + 1))] [] (g, J13) (r, (g, J))))))))))))))) : Ev Γ 41 mX8_isRowAlike 19 [some (.inr (some 80)), some (.inl x1), some (.inl x2), some (.inl x3), some (.inl x4), some (.inl x5), some (.inl x6)] [] (g, I) (r, (g, J)) := by
  refine e_iload dX8_isRowAlike_19 rfl ?_
  refine e_iload dX8_isRowAlike_21 rfl ?_
  refine e_ic_ge (tgt := 77) dX8_isRowAlike_23 (by decide) (fun c1 => ?_) (fun c1 => ?_)
  · have Ac1 := V.1 c1
    refine e_iload dX8_isRowAlike_77 rfl ?_
    exact e_zret dX8_isRowAlike_79 rfl Ac1.1 (by rw [Ac1.2.1, Ac1.2.2])
  · have Bc1 := V.2 c1
    refine e_iload dX8_isRowAlike_26 rfl ?_
    refine e_if_eq (tgt := 77) dX8_isRowAlike_28 (by decide) (fun c2 => ?_) (fun c2 => ?_)
    · have Ac2 := Bc1.1 c2
      refine e_iload dX8_isRowAlike_77 rfl ?_
      exact e_zret dX8_isRowAlike_79 rfl Ac2.1 (by rw [Ac2.2.1, Ac2.2.2])
    · have Bc2 := Bc1.2 c2
      refine e_aload_n dX8_isRowAlike_31 rfl ?_
      refine e_aload_n dX8_isRowAlike_32 rfl ?_
      refine e_getr dX8_isRowAlike_33 fO_8_16 (by decide) (gs_80 hg) rfl (gp_80_3 hg) ?_
      refine e_aload_n dX8_isRowAlike_36 rfl ?_
      refine e_getr dX8_isRowAlike_37 fO_8_70 (by decide) (gs_80 hg) rfl (gp_80_30 hg) ?_
      refine e_iload_n dX8_isRowAlike_40 rfl ?_
      obtain ⟨h3, Vh3⟩ := Bc2
      refine e_iald dX8_isRowAlike_41 (by decide) (gs_144 hg) h3.1 h3.2 ?_
      refine e_aload_n dX8_isRowAlike_42 rfl ?_
      refine e_getr dX8_isRowAlike_43 fO_8_73 (by decide) (gs_80 hg) rfl (gp_80_31 hg) ?_
      refine e_iload_n dX8_isRowAlike_46 rfl ?_
      obtain ⟨h4, Vh4⟩ := Vh3
      refine e_iald dX8_isRowAlike_47 (by decide) (gs_145 hg) h4.1 h4.2 ?_
      refine e_iload dX8_isRowAlike_48 rfl ?_
      obtain ⟨h5, Vh5⟩ := Vh4
      refine e_iadd dX8_isRowAlike_50 h5 ?_
      obtain ⟨r8, J6, h7, Vh7⟩ := Vh5
      refine e_callv (av := [.inl (I 144 x1.toNat), .inl ((I 145 x1.toNat) + x6)]) (st := [.inr (some 80)]) dX8_isRowAlike_51 cO_8_219 oX7_term rfl (by decide) (gs_82 hg) rfl (Nat.le_of_ble_eq_true rfl) (by decide) h7 (Nat.le_refl _) (Nat.le_refl _) rfl rfl ?_
      refine e_aload_n dX8_isRowAlike_54 rfl ?_
      refine e_getr dX8_isRowAlike_55 fO_8_16 (by decide) (gs_80 hg) rfl (gp_80_3 hg) ?_
      refine e_iload_n dX8_isRowAlike_58 rfl ?_
      refine e_iload_n dX8_isRowAlike_59 rfl ?_
      refine e_iload dX8_isRowAlike_60 rfl ?_
      obtain ⟨h9, Vh9⟩ := Vh7
      refine e_iadd dX8_isRowAlike_62 h9 ?_
      obtain ⟨r12, J10, h11, Vh11⟩ := Vh9
      refine e_callv (av := [.inl x2, .inl (x3 + x6)]) (st := [.inl r8, .inr (some 80)]) dX8_isRowAlike_63 cO_8_219 oX7_term rfl (by decide) (gs_82 hg) rfl (Nat.le_of_ble_eq_true rfl) (by decide) h11 (Nat.le_refl _) (Nat.le_refl _) rfl rfl ?_
      obtain ⟨r15, J13, h14, Vh14⟩ := Vh11
      refine e_callv (av := [.inl r8, .inl r12]) (st := []) dX8_isRowAlike_66 cO_8_221 oX8_areAlike rfl (by decide) (gs_80 hg) rfl (Nat.le_of_ble_eq_true rfl) (by decide) h14 (Nat.le_refl _) (Nat.le_refl _) rfl rfl ?_
      refine e_istore dX8_isRowAlike_69 (by decide) (ls' := [some (.inr (some 80)), some (.inl x1), some (.inl x2), some (.inl x3), some (.inl x4), some (.inl r15), some (.inl x6)]) rfl ?_
      obtain ⟨h16, Vh16⟩ := Vh14
      refine e_iinc dX8_isRowAlike_71 (by decide) rfl h16 (ls' := [some (.inr (some 80)), some (.inl x1), some (.inl x2), some (.inl x3), some (.inl x4), some (.inl r15), some (.inl (x6 + 1))]) rfl ?_
      refine e_goto (tgt := 19) dX8_isRowAlike_74 (by decide) ?_
      exact Vh16
set_option maxRecDepth 100000 in
set_option maxHeartbeats 4000000 in
theorem v_X8_some_0 {Γ : GX} {g : AG} {I J : Nat → Nat → Int} {r : Option AV} {d : Nat} (hd : 41 ≤ d) (hg : GOk g) (x1 : Int)
    (V : ((0 : Int) ≤ x1 ∧ (x1 : Int) < 4000) ∧ (∀ y2 : Int, y2 = (I 136 x1.toNat) → (((0 : Int) ≤ x1 ∧ (x1 : Int) < 4000) ∧ (∀ y4 : Int, y4 = (I 137 x1.toNat) → (((0 : Int) ≤ x1 ∧ (x1 : Int) < 4000) ∧ (∀ y6 : Int, y6 = (I 138 x1.toNat) → (((0 : Int) ≤ x1 ∧ (x1 : Int) < 4000) ∧ (∀ y8 : Int, y8 = (I 139 x1.toNat) → (((0 : Int) ≤ x1 ∧ (x1 : Int) < 4000) ∧ (∀ y10 : Int, y10 = (I 140 x1.toNat) → (((0 : Int) ≤ y2 ∧ (y2 : Int) < 240) ∧ (((¬ (y4 = (I 98 y2.toNat))) → (∃ (r15 : Int) (J13 : Nat → Nat → Int), CT Γ 0 mX7_term [.inr (some 92), .inl y2, .inl y4] (g, I) (some (.inl r15), (g, J13)) ∧ (((0 : Int) ≤ r15 ∧ (r15 : Int) < 240) ∧ (((((J13 94 r15.toNat) = 2)) → (((0 : Int) ≤ r15 ∧ (r15 : Int) < 240) ∧ (∀ y19 : Int, y19 = (J13 100 r15.toNat) → (((0 : Int) ≤ y19 ∧ (y19 : Int) < 26) ∧ (((((J13 143 y19.toNat) = (-1))) → (Ev Γ (d + 1) mX8_some 196 [some (.inr (some 80)), none, some (.inl y2), some (.inl y4), some (.inl y6), some (.inl y8), some (.inl y10), none, some (.inl y19), some (.inl 0), some (.inl 0)] [] (g, J13) (r, (g, J)))) ∧ ((¬ ((J13 143 y19.toNat) = (-1))) → (Ev Γ (d + 1) mX8_some 196 [some (.inr (some 80)), none, some (.inl y2), some (.inl y4), some (.inl y6), some (.inl y8), some (.inl y10), none, some (.inl y19), some (.inl 1), some (.inl 0)] [] (g, J13) (r, (g, J))))))))) ∧ ((¬ ((J13 94 r15.toNat) = 2)) → (((0 : Int) ≤ y6 ∧ (y6 : Int) < 240) ∧ (((¬ (y8 = (J13 88 y6.toNat))) → (∃ (r26 : Int) (J24 : Nat → Nat → Int), CT Γ 0 mX7_term [.inr (some 82), .inl y6, .inl y8] (g, J13) (some (.inl r26), (g, J24)) ∧ (inR (y4 + 1) ∧ (inR (y8 + 1) ∧ (∃ (r31 : Int) (J29 : Nat → Nat → Int), CT Γ 0 mX8_task [.inr (some 80), .inl y2, .inl (y4 + 1), .inl y6, .inl (y8 + 1), .inl y10] (g, J24) (some (.inl r31), (g, J29)) ∧ (∃ (r34 : Int) (J32 : Nat → Nat → Int), CT Γ 0 mX8_task [.inr (some 80), .inl r15, .inl (-1), .inl r26, .inl 0, .inl r31] (g, J29) (some (.inl r34), (g, J32)) ∧ (∃ (r37 : Int) (J35 : Nat → Nat → Int), CT Γ d mX8_does [.inr (some 80), .inl r34] (g, J32) (some (.inl r37), (g, J35)) ∧ ((r37 = 0 ∨ r37 = 1) ∧ r = some (.inl r37) ∧ J = J35)))))))) ∧ (((y8 = (J13 88 y6.toNat))) → (r = some (.inl 0) ∧ J = J13))))))))) ∧ (((y4 = (I 98 y2.toNat))) → (((0 : Int) ≤ y6 ∧ (y6 : Int) < 240) ∧ (((¬ (y8 = (I 88 y6.toNat))) → (Ev Γ (d + 1) mX8_some 79 [none, none, none, none, none, none, none, none, none, none, none] [] (g, I) (r, (g, J)))) ∧ (((y8 = (I 88 y6.toNat))) → (∃ (r42 : Int) (J40 : Nat → Nat → Int), CT Γ d mX8_does [.inr (some 80), .inl y10] (g, I) (some (.inl r42), (g, J40)) ∧ ((((r42 = 0)) → (Ev Γ (d + 1) mX8_some 79 [none, none, none, none, none, none, none, none, none, none, none] [] (g, J40) (r, (g, J)))) ∧ ((¬ (r42 = 0)) → (r = some (.inl 1) ∧ J = J40)))))))))))))))))))) : Ev Γ (d + 1) mX8_some 0 [some (.inr (some 80)), some (.inl x1), none, none, none, none, none, none, none, none, none] [] (g, I) (r, (g, J)) := by
  refine e_aload_n dX8_some_0 rfl ?_
  refine e_getr dX8_some_1 fO_8_46 (by decide) (gs_80 hg) rfl (gp_80_21 hg) ?_
  refine e_iload_n dX8_some_4 rfl ?_
  obtain ⟨h1, Vh1⟩ := V
  refine e_iald dX8_some_5 (by decide) (gs_136 hg) h1.1 h1.2 ?_
  refine e_top (fun y2 ey2 => ?_)
  have Wy2 := Vh1 y2 ey2
  refine e_istore_n dX8_some_6 (by decide) (ls' := [some (.inr (some 80)), some (.inl x1), some (.inl y2), none, none, none, none, none, none, none, none]) rfl ?_
  refine e_aload_n dX8_some_7 rfl ?_
  refine e_getr dX8_some_8 fO_8_49 (by decide) (gs_80 hg) rfl (gp_80_22 hg) ?_
  refine e_iload_n dX8_some_11 rfl ?_
  obtain ⟨h3, Vh3⟩ := Wy2
  refine e_iald dX8_some_12 (by decide) (gs_137 hg) h3.1 h3.2 ?_
  refine e_top (fun y4 ey4 => ?_)
  have Wy4 := Vh3 y4 ey4
  refine e_istore_n dX8_some_13 (by decide) (ls' := [some (.inr (some 80)), some (.inl x1), some (.inl y2), some (.inl y4), none, none, none, none, none, none, none]) rfl ?_
  refine e_aload_n dX8_some_14 rfl ?_
  refine e_getr dX8_some_15 fO_8_52 (by decide) (gs_80 hg) rfl (gp_80_23 hg) ?_
  refine e_iload_n dX8_some_18 rfl ?_
  obtain ⟨h5, Vh5⟩ := Wy4
  refine e_iald dX8_some_19 (by decide) (gs_138 hg) h5.1 h5.2 ?_
  refine e_top (fun y6 ey6 => ?_)
  have Wy6 := Vh5 y6 ey6
  refine e_istore dX8_some_20 (by decide) (ls' := [some (.inr (some 80)), some (.inl x1), some (.inl y2), some (.inl y4), some (.inl y6), none, none, none, none, none, none]) rfl ?_
  refine e_aload_n dX8_some_22 rfl ?_
  refine e_getr dX8_some_23 fO_8_55 (by decide) (gs_80 hg) rfl (gp_80_24 hg) ?_
  refine e_iload_n dX8_some_26 rfl ?_
  obtain ⟨h7, Vh7⟩ := Wy6
  refine e_iald dX8_some_27 (by decide) (gs_139 hg) h7.1 h7.2 ?_
  refine e_top (fun y8 ey8 => ?_)
  have Wy8 := Vh7 y8 ey8
  refine e_istore dX8_some_28 (by decide) (ls' := [some (.inr (some 80)), some (.inl x1), some (.inl y2), some (.inl y4), some (.inl y6), some (.inl y8), none, none, none, none, none]) rfl ?_
  refine e_aload_n dX8_some_30 rfl ?_
  refine e_getr dX8_some_31 fO_8_58 (by decide) (gs_80 hg) rfl (gp_80_25 hg) ?_
  refine e_iload_n dX8_some_34 rfl ?_
  obtain ⟨h9, Vh9⟩ := Wy8
  refine e_iald dX8_some_35 (by decide) (gs_140 hg) h9.1 h9.2 ?_
  refine e_top (fun y10 ey10 => ?_)
  have Wy10 := Vh9 y10 ey10
  refine e_istore dX8_some_36 (by decide) (ls' := [some (.inr (some 80)), some (.inl x1), some (.inl y2), some (.inl y4), some (.inl y6), some (.inl y8), some (.inl y10), none, none, none, none]) rfl ?_
  refine e_iload_n dX8_some_38 rfl ?_
  refine e_aload_n dX8_some_39 rfl ?_
  refine e_getr dX8_some_40 fO_8_20 (by decide) (gs_80 hg) rfl (gp_80_4 hg) ?_
  refine e_getr dX8_some_43 fO_8_134 (by decide) (gs_92 hg) rfl (gp_92_7 hg) ?_
  refine e_iload_n dX8_some_46 rfl ?_
  obtain ⟨h11, Vh11⟩ := Wy10
  refine e_iald dX8_some_47 (by decide) (gs_98 hg) h11.1 h11.2 ?_
  refine e_ic_ne (tgt := 81) dX8_some_48 (by decide) (fun c12 => ?_) (fun c12 => ?_)
  · have Ac12 := Vh11.1 c12
    refine e_aload_n dX8_some_81 rfl ?_
    refine e_getr dX8_some_82 fO_8_20 (by decide) (gs_80 hg) rfl (gp_80_4 hg) ?_
    refine e_iload_n dX8_some_85 rfl ?_
    refine e_iload_n dX8_some_86 rfl ?_
    obtain ⟨r15, J13, h14, Vh14⟩ := Ac12
    refine e_callv (av := [.inl y2, .inl y4]) (st := []) dX8_some_87 cO_8_219 oX7_term rfl (by decide) (gs_92 hg) rfl (Nat.le_of_ble_eq_true rfl) (by omega) h14 (Nat.le_refl _) (Nat.le_refl _) rfl rfl ?_
    refine e_istore dX8_some_90 (by decide) (ls' := [some (.inr (some 80)), some (.inl x1), some (.inl y2), some (.inl y4), some (.inl y6), some (.inl y8), some (.inl y10), some (.inl r15), none, none, none]) rfl ?_
    refine e_aload_n dX8_some_92 rfl ?_
    refine e_getr dX8_some_93 fO_8_20 (by decide) (gs_80 hg) rfl (gp_80_4 hg) ?_
    refine e_getr dX8_some_96 fO_8_125 (by decide) (gs_92 hg) rfl (gp_92_3 hg) ?_
    refine e_iload dX8_some_99 rfl ?_
    obtain ⟨h16, Vh16⟩ := Vh14
    refine e_iald dX8_some_101 (by decide) (gs_94 hg) h16.1 h16.2 ?_
    refine e_iconst dX8_some_102 ⟨by decide, by decide⟩ ?_
    refine e_ic_eq (tgt := 163) dX8_some_103 (by decide) (fun c17 => ?_) (fun c17 => ?_)
    · have Ac17 := Vh16.1 c17
      refine e_aload_n dX8_some_163 rfl ?_
      refine e_getr dX8_some_164 fO_8_20 (by decide) (gs_80 hg) rfl (gp_80_4 hg) ?_
      refine e_getr dX8_some_167 fO_8_140 (by decide) (gs_92 hg) rfl (gp_92_9 hg) ?_
      refine e_iload dX8_some_170 rfl ?_
      obtain ⟨h18, Vh18⟩ := Ac17
      refine e_iald dX8_some_172 (by decide) (gs_100 hg) h18.1 h18.2 ?_
      refine e_top (fun y19 ey19 => ?_)
      have Wy19 := Vh18 y19 ey19
      refine e_istore dX8_some_173 (by decide) (ls' := [some (.inr (some 80)), some (.inl x1), some (.inl y2), some (.inl y4), some (.inl y6), some (.inl y8), some (.inl y10), some (.inl r15), some (.inl y19), none, none]) rfl ?_
      refine e_aload_n dX8_some_175 rfl ?_
      refine e_getr dX8_some_176 fO_8_67 (by decide) (gs_80 hg) rfl (gp_80_29 hg) ?_
      refine e_iload dX8_some_179 rfl ?_
      obtain ⟨h20, Vh20⟩ := Wy19
      refine e_iald dX8_some_181 (by decide) (gs_143 hg) h20.1 h20.2 ?_
      refine e_iconst dX8_some_182 ⟨by decide, by decide⟩ ?_
      refine e_ic_eq (tgt := 190) dX8_some_183 (by decide) (fun c21 => ?_) (fun c21 => ?_)
      · have Ac21 := Vh20.1 c21
        refine e_iconst dX8_some_190 ⟨by decide, by decide⟩ ?_
        refine e_istore dX8_some_191 (by decide) (ls' := [some (.inr (some 80)), some (.inl x1), some (.inl y2), some (.inl y4), some (.inl y6), some (.inl y8), some (.inl y10), some (.inl r15), some (.inl y19), some (.inl 0), none]) rfl ?_
        refine e_iconst dX8_some_193 ⟨by decide, by decide⟩ ?_
        refine e_istore dX8_some_194 (by decide) (ls' := [some (.inr (some 80)), some (.inl x1), some (.inl y2), some (.inl y4), some (.inl y6), some (.inl y8), some (.inl y10), some (.inl r15), some (.inl y19), some (.inl 0), some (.inl 0)]) rfl ?_
        refine ev_drop (ls' := [some (.inr (some 80)), none, some (.inl y2), some (.inl y4), some (.inl y6), some (.inl y8), some (.inl y10), some (.inl r15), some (.inl y19), some (.inl 0), some (.inl 0)]) 1 rfl ?_
        refine ev_drop (ls' := [some (.inr (some 80)), none, some (.inl y2), some (.inl y4), some (.inl y6), some (.inl y8), some (.inl y10), none, some (.inl y19), some (.inl 0), some (.inl 0)]) 7 rfl ?_
        exact Ac21
      · have Bc21 := Vh20.2 c21
        refine e_iconst dX8_some_186 ⟨by decide, by decide⟩ ?_
        refine e_goto (tgt := 191) dX8_some_187 (by decide) ?_
        refine e_istore dX8_some_191 (by decide) (ls' := [some (.inr (some 80)), some (.inl x1), some (.inl y2), some (.inl y4), some (.inl y6), some (.inl y8), some (.inl y10), some (.inl r15), some (.inl y19), some (.inl 1), none]) rfl ?_
        refine e_iconst dX8_some_193 ⟨by decide, by decide⟩ ?_
        refine e_istore dX8_some_194 (by decide) (ls' := [some (.inr (some 80)), some (.inl x1), some (.inl y2), some (.inl y4), some (.inl y6), some (.inl y8), some (.inl y10), some (.inl r15), some (.inl y19), some (.inl 1), some (.inl 0)]) rfl ?_
        refine ev_drop (ls' := [some (.inr (some 80)), none, some (.inl y2), some (.inl y4), some (.inl y6), some (.inl y8), some (.inl y10), some (.inl r15), some (.inl y19), some (.inl 1), some (.inl 0)]) 1 rfl ?_
        refine ev_drop (ls' := [some (.inr (some 80)), none, some (.inl y2), some (.inl y4), some (.inl y6), some (.inl y8), some (.inl y10), none, some (.inl y19), some (.inl 1), some (.inl 0)]) 7 rfl ?_
        exact Bc21
    · have Bc17 := Vh16.2 c17
      refine e_iload dX8_some_106 rfl ?_
      refine e_aload_n dX8_some_108 rfl ?_
      refine e_getr dX8_some_109 fO_8_16 (by decide) (gs_80 hg) rfl (gp_80_3 hg) ?_
      refine e_getr dX8_some_112 fO_8_134 (by decide) (gs_82 hg) rfl (gp_82_7 hg) ?_
      refine e_iload dX8_some_115 rfl ?_
      obtain ⟨h22, Vh22⟩ := Bc17
      refine e_iald dX8_some_117 (by decide) (gs_88 hg) h22.1 h22.2 ?_
      refine e_ic_ne (tgt := 123) dX8_some_118 (by decide) (fun c23 => ?_) (fun c23 => ?_)
      · have Ac23 := Vh22.1 c23
        refine e_aload_n dX8_some_123 rfl ?_
        refine e_aload_n dX8_some_124 rfl ?_
        refine e_iload dX8_some_125 rfl ?_
        refine e_iconst dX8_some_127 ⟨by decide, by decide⟩ ?_
        refine e_aload_n dX8_some_128 rfl ?_
        refine e_getr dX8_some_129 fO_8_16 (by decide) (gs_80 hg) rfl (gp_80_3 hg) ?_
        refine e_iload dX8_some_132 rfl ?_
        refine e_iload dX8_some_134 rfl ?_
        obtain ⟨r26, J24, h25, Vh25⟩ := Ac23
        refine e_callv (av := [.inl y6, .inl y8]) (st := [.inl (-1), .inl r15, .inr (some 80), .inr (some 80)]) dX8_some_136 cO_8_219 oX7_term rfl (by decide) (gs_82 hg) rfl (Nat.le_of_ble_eq_true rfl) (by omega) h25 (Nat.le_refl _) (Nat.le_refl _) rfl rfl ?_
        refine e_iconst dX8_some_139 ⟨by decide, by decide⟩ ?_
        refine e_aload_n dX8_some_140 rfl ?_
        refine e_iload_n dX8_some_141 rfl ?_
        refine e_iload_n dX8_some_142 rfl ?_
        refine e_iconst dX8_some_143 ⟨by decide, by decide⟩ ?_
        obtain ⟨h27, Vh27⟩ := Vh25
        refine e_iadd dX8_some_144 h27 ?_
        refine e_iload dX8_some_145 rfl ?_
        refine e_iload dX8_some_147 rfl ?_
        refine e_iconst dX8_some_149 ⟨by decide, by decide⟩ ?_
        obtain ⟨h28, Vh28⟩ := Vh27
        refine e_iadd dX8_some_150 h28 ?_
        refine e_iload dX8_some_151 rfl ?_
        obtain ⟨r31, J29, h30, Vh30⟩ := Vh28
        refine e_callv (av := [.inl y2, .inl (y4 + 1), .inl y6, .inl (y8 + 1), .inl y10]) (st := [.inl 0, .inl r26, .inl (-1), .inl r15, .inr (some 80), .inr (some 80)]) dX8_some_153 cO_8_239 oX8_task rfl (by decide) (gs_80 hg) rfl (Nat.le_of_ble_eq_true rfl) (by omega) h30 (Nat.le_refl _) (Nat.le_refl _) rfl rfl ?_
        obtain ⟨r34, J32, h33, Vh33⟩ := Vh30
        refine e_callv (av := [.inl r15, .inl (-1), .inl r26, .inl 0, .inl r31]) (st := [.inr (some 80)]) dX8_some_156 cO_8_239 oX8_task rfl (by decide) (gs_80 hg) rfl (Nat.le_of_ble_eq_true rfl) (by omega) h33 (Nat.le_refl _) (Nat.le_refl _) rfl rfl ?_
        obtain ⟨r37, J35, h36, Vh36⟩ := Vh33
        refine e_callv (av := [.inl r34]) (st := []) dX8_some_159 cO_8_243 oX8_does rfl (by decide) (gs_80 hg) rfl (Nat.le_of_ble_eq_true rfl) (by omega) h36 (Nat.le_refl _) (Nat.le_refl _) rfl rfl ?_
        exact e_zret dX8_some_162 rfl Vh36.1 (by rw [Vh36.2.1, Vh36.2.2])
      · have Bc23 := Vh22.2 c23
        refine e_iconst dX8_some_121 ⟨by decide, by decide⟩ ?_
        exact e_zret dX8_some_122 rfl (by decide) (by rw [Bc23.1, Bc23.2])
  · have Bc12 := Vh11.2 c12
    refine e_iload dX8_some_51 rfl ?_
    refine e_aload_n dX8_some_53 rfl ?_
    refine e_getr dX8_some_54 fO_8_16 (by decide) (gs_80 hg) rfl (gp_80_3 hg) ?_
    refine e_getr dX8_some_57 fO_8_134 (by decide) (gs_82 hg) rfl (gp_82_7 hg) ?_
    refine e_iload dX8_some_60 rfl ?_
    obtain ⟨h38, Vh38⟩ := Bc12
    refine e_iald dX8_some_62 (by decide) (gs_88 hg) h38.1 h38.2 ?_
    refine e_ic_ne (tgt := 79) dX8_some_63 (by decide) (fun c39 => ?_) (fun c39 => ?_)
    · have Ac39 := Vh38.1 c39
      refine ev_drop (ls' := [none, some (.inl x1), some (.inl y2), some (.inl y4), some (.inl y6), some (.inl y8), some (.inl y10), none, none, none, none]) 0 rfl ?_
      refine ev_drop (ls' := [none, none, some (.inl y2), some (.inl y4), some (.inl y6), some (.inl y8), some (.inl y10), none, none, none, none]) 1 rfl ?_
      refine ev_drop (ls' := [none, none, none, some (.inl y4), some (.inl y6), some (.inl y8), some (.inl y10), none, none, none, none]) 2 rfl ?_
      refine ev_drop (ls' := [none, none, none, none, some (.inl y6), some (.inl y8), some (.inl y10), none, none, none, none]) 3 rfl ?_
      refine ev_drop (ls' := [none, none, none, none, none, some (.inl y8), some (.inl y10), none, none, none, none]) 4 rfl ?_
      refine ev_drop (ls' := [none, none, none, none, none, none, some (.inl y10), none, none, none, none]) 5 rfl ?_
      refine ev_drop (ls' := [none, none, none, none, none, none, none, none, none, none, none]) 6 rfl ?_
      exact Ac39
    · have Bc39 := Vh38.2 c39
      refine e_aload_n dX8_some_66 rfl ?_
      refine e_iload dX8_some_67 rfl ?_
      obtain ⟨r42, J40, h41, Vh41⟩ := Bc39
      refine e_callv (av := [.inl y10]) (st := []) dX8_some_69 cO_8_243 oX8_does rfl (by decide) (gs_80 hg) rfl (Nat.le_of_ble_eq_true rfl) (by omega) h41 (Nat.le_refl _) (Nat.le_refl _) rfl rfl ?_
      refine e_if_eq (tgt := 79) dX8_some_72 (by decide) (fun c43 => ?_) (fun c43 => ?_)
      · have Ac43 := Vh41.1 c43
        refine ev_drop (ls' := [none, some (.inl x1), some (.inl y2), some (.inl y4), some (.inl y6), some (.inl y8), some (.inl y10), none, none, none, none]) 0 rfl ?_
        refine ev_drop (ls' := [none, none, some (.inl y2), some (.inl y4), some (.inl y6), some (.inl y8), some (.inl y10), none, none, none, none]) 1 rfl ?_
        refine ev_drop (ls' := [none, none, none, some (.inl y4), some (.inl y6), some (.inl y8), some (.inl y10), none, none, none, none]) 2 rfl ?_
        refine ev_drop (ls' := [none, none, none, none, some (.inl y6), some (.inl y8), some (.inl y10), none, none, none, none]) 3 rfl ?_
        refine ev_drop (ls' := [none, none, none, none, none, some (.inl y8), some (.inl y10), none, none, none, none]) 4 rfl ?_
        refine ev_drop (ls' := [none, none, none, none, none, none, some (.inl y10), none, none, none, none]) 5 rfl ?_
        refine ev_drop (ls' := [none, none, none, none, none, none, none, none, none, none, none]) 6 rfl ?_
        exact Ac43
      · have Bc43 := Vh41.2 c43
        refine e_iconst dX8_some_75 ⟨by decide, by decide⟩ ?_
        refine e_goto (tgt := 80) dX8_some_76 (by decide) ?_
        exact e_zret dX8_some_80 rfl (by decide) (by rw [Bc43.1, Bc43.2])
set_option maxRecDepth 100000 in
set_option maxHeartbeats 4000000 in
theorem v_X8_some_196 {Γ : GX} {g : AG} {I J : Nat → Nat → Int} {r : Option AV} {d : Nat} (hd : 41 ≤ d) (hg : GOk g) (x2 : Int) (x3 : Int) (x4 : Int) (x5 : Int) (x6 : Int) (x8 : Int) (x9 : Int) (x10 : Int)
    (V : inR (x5 + x10) ∧ (((0 : Int) ≤ x4 ∧ (x4 : Int) < 240) ∧ (((((I 88 x4.toNat) < (x5 + x10))) → (r = some (.inl 0) ∧ J = I)) ∧ ((¬ ((I 88 x4.toNat) < (x5 + x10))) → ((((x9 = 0)) → (((0 : Int) ≤ x8 ∧ (x8 : Int) < 26) ∧ (∀ I5 : Nat → Nat → Int, I5 = mset I 143 x8.toNat x10 → (((0 : Int) ≤ x8 ∧ (x8 : Int) < 26) ∧ (∀ I7 : Nat → Nat → Int, I7 = mset I5 144 x8.toNat x4 → (((0 : Int) ≤ x8 ∧ (x8 : Int) < 26) ∧ (∀ I9 : Nat → Nat → Int, I9 = mset I7 145 x8.toNat x5 → (((¬ (x10 = 0)) → (∃ (r14 : Int) (J12 : Nat → Nat → Int), CT Γ 0 mX7_term [.inr (some 82), .inl x4, .inl x5] (g, I9) (some (.inl r14), (g, J12)) ∧ (((0 : Int) ≤ x8 ∧ (x8 : Int) < 26) ∧ (∀ I15 : Nat → Nat → Int, I15 = mset J12 142 x8.toNat r14 → (inR (x3 + 1) ∧ (inR (x5 + x10) ∧ (∃ (r21 : Int) (J19 : Nat → Nat → Int), CT Γ 0 mX8_task [.inr (some 80), .inl x2, .inl (x3 + 1), .inl x4, .inl (x5 + x10), .inl x6] (g, I15) (some (.inl r21), (g, J19)) ∧ (∃ (r24 : Int) (J22 : Nat → Nat → Int), CT Γ d mX8_does [.inr (some 80), .inl r21] (g, J19) (some (.inl r24), (g, J22)) ∧ ((((r24 = 0)) → (((0 : Int) ≤ x8 ∧ (x8 : Int) < 26) ∧ (∀ I26 : Nat → Nat → Int, I26 = mset J22 143 x8.toNat (-1) → (Ev Γ (d + 1) mX8_some 348 [some (.inr (some 80)), none, some (.inl x2), some (.inl x3), some (.inl x4), some (.inl x5), some (.inl x6), none, some (.inl x8), some (.inl x9), some (.inl x10)] [] (g, I26) (r, (g, J)))))) ∧ ((¬ (r24 = 0)) → (r = some (.inl 1) ∧ J = J22))))))))))) ∧ (((x10 = 0)) → (((0 : Int) ≤ x8 ∧ (x8 : Int) < 26) ∧ (∀ I28 : Nat → Nat → Int, I28 = mset I9 142 x8.toNat (-1) → (inR (x3 + 1) ∧ (inR (x5 + x10) ∧ (∃ (r34 : Int) (J32 : Nat → Nat → Int), CT Γ 0 mX8_task [.inr (some 80), .inl x2, .inl (x3 + 1), .inl x4, .inl (x5 + x10), .inl x6] (g, I28) (some (.inl r34), (g, J32)) ∧ (∃ (r37 : Int) (J35 : Nat → Nat → Int), CT Γ d mX8_does [.inr (some 80), .inl r34] (g, J32) (some (.inl r37), (g, J35)) ∧ ((((r37 = 0)) → (((0 : Int) ≤ x8 ∧ (x8 : Int) < 26) ∧ (∀ I39 : Nat → Nat → Int, I39 = mset J35 143 x8.toNat (-1) → (Ev Γ (d + 1) mX8_some 348 [some (.inr (some 80)), none, some (.inl x2), some (.inl x3), some (.inl x4), some (.inl x5), some (.inl x6), none, some (.inl x8), some (.inl x9), some (.inl x10)] [] (g, I39) (r, (g, J)))))) ∧ ((¬ (r37 = 0)) → (r = some (.inl 1) ∧ J = J35)))))))))))))))))) ∧ ((¬ (x9 = 0)) → (∃ (r43 : Int) (J41 : Nat → Nat → Int), CT Γ 41 mX8_isRowAlike [.inr (some 80), .inl x8, .inl x4, .inl x5, .inl x10] (g, I) (some (.inl r43), (g, J41)) ∧ ((((r43 = 0)) → (Ev Γ (d + 1) mX8_some 348 [some (.inr (some 80)), none, some (.inl x2), some (.inl x3), some (.inl x4), some (.inl x5), some (.inl x6), none, some (.inl x8), some (.inl x9), some (.inl x10)] [] (g, J41) (r, (g, J)))) ∧ ((¬ (r43 = 0)) → (inR (x3 + 1) ∧ (inR (x5 + x10) ∧ (∃ (r49 : Int) (J47 : Nat → Nat → Int), CT Γ 0 mX8_task [.inr (some 80), .inl x2, .inl (x3 + 1), .inl x4, .inl (x5 + x10), .inl x6] (g, J41) (some (.inl r49), (g, J47)) ∧ (∃ (r52 : Int) (J50 : Nat → Nat → Int), CT Γ d mX8_does [.inr (some 80), .inl r49] (g, J47) (some (.inl r52), (g, J50)) ∧ ((((r52 = 0)) → (Ev Γ (d + 1) mX8_some 348 [some (.inr (some 80)), none, some (.inl x2), some (.inl x3), some (.inl x4), some (.inl x5), some (.inl x6), none, some (.inl x8), some (.inl x9), some (.inl x10)] [] (g, J50) (r, (g, J)))) ∧ ((¬ (r52 = 0)) → (r = some (.inl 1) ∧ J = J50)))))))))))))))) : Ev Γ (d + 1) mX8_some 196 [some (.inr (some 80)), none, some (.inl x2), some (.inl x3), some (.inl x4), some (.inl x5), some (.inl x6), none, some (.inl x8), some (.inl x9), some (.inl x10)] [] (g, I) (r, (g, J)) := by
  refine e_iload dX8_some_196 rfl ?_
  refine e_iload dX8_some_198 rfl ?_
  obtain ⟨h1, Vh1⟩ := V
  refine e_iadd dX8_some_200 h1 ?_
  refine e_aload_n dX8_some_201 rfl ?_
  refine e_getr dX8_some_202 fO_8_16 (by decide) (gs_80 hg) rfl (gp_80_3 hg) ?_
  refine e_getr dX8_some_205 fO_8_134 (by decide) (gs_82 hg) rfl (gp_82_7 hg) ?_
  refine e_iload dX8_some_208 rfl ?_
  obtain ⟨h2, Vh2⟩ := Vh1
  refine e_iald dX8_some_210 (by decide) (gs_88 hg) h2.1 h2.2 ?_
  refine e_ic_gt (tgt := 354) dX8_some_211 (by decide) (fun c3 => ?_) (fun c3 => ?_)
  · have Ac3 := Vh2.1 c3
    refine e_iconst dX8_some_354 ⟨by decide, by decide⟩ ?_
    exact e_zret dX8_some_355 rfl (by decide) (by rw [Ac3.1, Ac3.2])
  · have Bc3 := Vh2.2 c3
    refine e_iload dX8_some_214 rfl ?_
    refine e_if_eq (tgt := 260) dX8_some_216 (by decide) (fun c4 => ?_) (fun c4 => ?_)
    · have Ac4 := Bc3.1 c4
      refine e_aload_n dX8_some_260 rfl ?_
      refine e_getr dX8_some_261 fO_8_67 (by decide) (gs_80 hg) rfl (gp_80_29 hg) ?_
      refine e_iload dX8_some_264 rfl ?_
      refine e_iload dX8_some_266 rfl ?_
      obtain ⟨h6, Vh6⟩ := Ac4
      refine e_iast dX8_some_268 (by decide) (gs_143 hg) h6.1 h6.2 ?_
      refine e_mem (fun I5 eI5 => ?_)
      have WI5 := Vh6 I5 eI5
      refine e_aload_n dX8_some_269 rfl ?_
      refine e_getr dX8_some_270 fO_8_70 (by decide) (gs_80 hg) rfl (gp_80_30 hg) ?_
      refine e_iload dX8_some_273 rfl ?_
      refine e_iload dX8_some_275 rfl ?_
      obtain ⟨h8, Vh8⟩ := WI5
      refine e_iast dX8_some_277 (by decide) (gs_144 hg) h8.1 h8.2 ?_
      refine e_mem (fun I7 eI7 => ?_)
      have WI7 := Vh8 I7 eI7
      refine e_aload_n dX8_some_278 rfl ?_
      refine e_getr dX8_some_279 fO_8_73 (by decide) (gs_80 hg) rfl (gp_80_31 hg) ?_
      refine e_iload dX8_some_282 rfl ?_
      refine e_iload dX8_some_284 rfl ?_
      obtain ⟨h10, Vh10⟩ := WI7
      refine e_iast dX8_some_286 (by decide) (gs_145 hg) h10.1 h10.2 ?_
      refine e_mem (fun I9 eI9 => ?_)
      have WI9 := Vh10 I9 eI9
      refine e_aload_n dX8_some_287 rfl ?_
      refine e_getr dX8_some_288 fO_8_64 (by decide) (gs_80 hg) rfl (gp_80_28 hg) ?_
      refine e_iload dX8_some_291 rfl ?_
      refine e_iload dX8_some_293 rfl ?_
      refine e_if_ne (tgt := 302) dX8_some_295 (by decide) (fun c11 => ?_) (fun c11 => ?_)
      · have Ac11 := WI9.1 c11
        refine e_aload_n dX8_some_302 rfl ?_
        refine e_getr dX8_some_303 fO_8_16 (by decide) (gs_80 hg) rfl (gp_80_3 hg) ?_
        refine e_iload dX8_some_306 rfl ?_
        refine e_iload dX8_some_308 rfl ?_
        obtain ⟨r14, J12, h13, Vh13⟩ := Ac11
        refine e_callv (av := [.inl x4, .inl x5]) (st := [.inl x8, .inr (some 142)]) dX8_some_310 cO_8_219 oX7_term rfl (by decide) (gs_82 hg) rfl (Nat.le_of_ble_eq_true rfl) (by omega) h13 (Nat.le_refl _) (Nat.le_refl _) rfl rfl ?_
        obtain ⟨h16, Vh16⟩ := Vh13
        refine e_iast dX8_some_313 (by decide) (gs_142 hg) h16.1 h16.2 ?_
        refine e_mem (fun I15 eI15 => ?_)
        have WI15 := Vh16 I15 eI15
        refine e_aload_n dX8_some_314 rfl ?_
        refine e_aload_n dX8_some_315 rfl ?_
        refine e_iload_n dX8_some_316 rfl ?_
        refine e_iload_n dX8_some_317 rfl ?_
        refine e_iconst dX8_some_318 ⟨by decide, by decide⟩ ?_
        obtain ⟨h17, Vh17⟩ := WI15
        refine e_iadd dX8_some_319 h17 ?_
        refine e_iload dX8_some_320 rfl ?_
        refine e_iload dX8_some_322 rfl ?_
        refine e_iload dX8_some_324 rfl ?_
        obtain ⟨h18, Vh18⟩ := Vh17
        refine e_iadd dX8_some_326 h18 ?_
        refine e_iload dX8_some_327 rfl ?_
        obtain ⟨r21, J19, h20, Vh20⟩ := Vh18
        refine e_callv (av := [.inl x2, .inl (x3 + 1), .inl x4, .inl (x5 + x10), .inl x6]) (st := [.inr (some 80)]) dX8_some_329 cO_8_239 oX8_task rfl (by decide) (gs_80 hg) rfl (Nat.le_of_ble_eq_true rfl) (by omega) h20 (Nat.le_refl _) (Nat.le_refl _) rfl rfl ?_
        obtain ⟨r24, J22, h23, Vh23⟩ := Vh20
        refine e_callv (av := [.inl r21]) (st := []) dX8_some_332 cO_8_243 oX8_does rfl (by decide) (gs_80 hg) rfl (Nat.le_of_ble_eq_true rfl) (by omega) h23 (Nat.le_refl _) (Nat.le_refl _) rfl rfl ?_
        refine e_if_eq (tgt := 340) dX8_some_335 (by decide) (fun c25 => ?_) (fun c25 => ?_)
        · have Ac25 := Vh23.1 c25
          refine e_aload_n dX8_some_340 rfl ?_
          refine e_getr dX8_some_341 fO_8_67 (by decide) (gs_80 hg) rfl (gp_80_29 hg) ?_
          refine e_iload dX8_some_344 rfl ?_
          refine e_iconst dX8_some_346 ⟨by decide, by decide⟩ ?_
          obtain ⟨h27, Vh27⟩ := Ac25
          refine e_iast dX8_some_347 (by decide) (gs_143 hg) h27.1 h27.2 ?_
          refine e_mem (fun I26 eI26 => ?_)
          have WI26 := Vh27 I26 eI26
          exact WI26
        · have Bc25 := Vh23.2 c25
          refine e_iconst dX8_some_338 ⟨by decide, by decide⟩ ?_
          exact e_zret dX8_some_339 rfl (by decide) (by rw [Bc25.1, Bc25.2])
      · have Bc11 := WI9.2 c11
        refine e_iconst dX8_some_298 ⟨by decide, by decide⟩ ?_
        refine e_goto (tgt := 313) dX8_some_299 (by decide) ?_
        obtain ⟨h29, Vh29⟩ := Bc11
        refine e_iast dX8_some_313 (by decide) (gs_142 hg) h29.1 h29.2 ?_
        refine e_mem (fun I28 eI28 => ?_)
        have WI28 := Vh29 I28 eI28
        refine e_aload_n dX8_some_314 rfl ?_
        refine e_aload_n dX8_some_315 rfl ?_
        refine e_iload_n dX8_some_316 rfl ?_
        refine e_iload_n dX8_some_317 rfl ?_
        refine e_iconst dX8_some_318 ⟨by decide, by decide⟩ ?_
        obtain ⟨h30, Vh30⟩ := WI28
        refine e_iadd dX8_some_319 h30 ?_
        refine e_iload dX8_some_320 rfl ?_
        refine e_iload dX8_some_322 rfl ?_
        refine e_iload dX8_some_324 rfl ?_
        obtain ⟨h31, Vh31⟩ := Vh30
        refine e_iadd dX8_some_326 h31 ?_
        refine e_iload dX8_some_327 rfl ?_
        obtain ⟨r34, J32, h33, Vh33⟩ := Vh31
        refine e_callv (av := [.inl x2, .inl (x3 + 1), .inl x4, .inl (x5 + x10), .inl x6]) (st := [.inr (some 80)]) dX8_some_329 cO_8_239 oX8_task rfl (by decide) (gs_80 hg) rfl (Nat.le_of_ble_eq_true rfl) (by omega) h33 (Nat.le_refl _) (Nat.le_refl _) rfl rfl ?_
        obtain ⟨r37, J35, h36, Vh36⟩ := Vh33
        refine e_callv (av := [.inl r34]) (st := []) dX8_some_332 cO_8_243 oX8_does rfl (by decide) (gs_80 hg) rfl (Nat.le_of_ble_eq_true rfl) (by omega) h36 (Nat.le_refl _) (Nat.le_refl _) rfl rfl ?_
        refine e_if_eq (tgt := 340) dX8_some_335 (by decide) (fun c38 => ?_) (fun c38 => ?_)
        · have Ac38 := Vh36.1 c38
          refine e_aload_n dX8_some_340 rfl ?_
          refine e_getr dX8_some_341 fO_8_67 (by decide) (gs_80 hg) rfl (gp_80_29 hg) ?_
          refine e_iload dX8_some_344 rfl ?_
          refine e_iconst dX8_some_346 ⟨by decide, by decide⟩ ?_
          obtain ⟨h40, Vh40⟩ := Ac38
          refine e_iast dX8_some_347 (by decide) (gs_143 hg) h40.1 h40.2 ?_
          refine e_mem (fun I39 eI39 => ?_)
          have WI39 := Vh40 I39 eI39
          exact WI39
        · have Bc38 := Vh36.2 c38
          refine e_iconst dX8_some_338 ⟨by decide, by decide⟩ ?_
          exact e_zret dX8_some_339 rfl (by decide) (by rw [Bc38.1, Bc38.2])
    · have Bc4 := Bc3.2 c4
      refine e_aload_n dX8_some_219 rfl ?_
      refine e_iload dX8_some_220 rfl ?_
      refine e_iload dX8_some_222 rfl ?_
      refine e_iload dX8_some_224 rfl ?_
      refine e_iload dX8_some_226 rfl ?_
      obtain ⟨r43, J41, h42, Vh42⟩ := Bc4
      refine e_callv (av := [.inl x8, .inl x4, .inl x5, .inl x10]) (st := []) dX8_some_228 cO_8_249 oX8_isRowAlike rfl (by decide) (gs_80 hg) rfl (Nat.le_of_ble_eq_true rfl) (by omega) h42 (Nat.le_refl _) (Nat.le_refl _) rfl rfl ?_
      refine e_if_eq (tgt := 348) dX8_some_231 (by decide) (fun c44 => ?_) (fun c44 => ?_)
      · have Ac44 := Vh42.1 c44
        exact Ac44
      · have Bc44 := Vh42.2 c44
        refine e_aload_n dX8_some_234 rfl ?_
        refine e_aload_n dX8_some_235 rfl ?_
        refine e_iload_n dX8_some_236 rfl ?_
        refine e_iload_n dX8_some_237 rfl ?_
        refine e_iconst dX8_some_238 ⟨by decide, by decide⟩ ?_
        obtain ⟨h45, Vh45⟩ := Bc44
        refine e_iadd dX8_some_239 h45 ?_
        refine e_iload dX8_some_240 rfl ?_
        refine e_iload dX8_some_242 rfl ?_
        refine e_iload dX8_some_244 rfl ?_
        obtain ⟨h46, Vh46⟩ := Vh45
        refine e_iadd dX8_some_246 h46 ?_
        refine e_iload dX8_some_247 rfl ?_
        obtain ⟨r49, J47, h48, Vh48⟩ := Vh46
        refine e_callv (av := [.inl x2, .inl (x3 + 1), .inl x4, .inl (x5 + x10), .inl x6]) (st := [.inr (some 80)]) dX8_some_249 cO_8_239 oX8_task rfl (by decide) (gs_80 hg) rfl (Nat.le_of_ble_eq_true rfl) (by omega) h48 (Nat.le_refl _) (Nat.le_refl _) rfl rfl ?_
        obtain ⟨r52, J50, h51, Vh51⟩ := Vh48
        refine e_callv (av := [.inl r49]) (st := []) dX8_some_252 cO_8_243 oX8_does rfl (by decide) (gs_80 hg) rfl (Nat.le_of_ble_eq_true rfl) (by omega) h51 (Nat.le_refl _) (Nat.le_refl _) rfl rfl ?_
        refine e_if_eq (tgt := 348) dX8_some_255 (by decide) (fun c53 => ?_) (fun c53 => ?_)
        · have Ac53 := Vh51.1 c53
          exact Ac53
        · have Bc53 := Vh51.2 c53
          refine e_iconst dX8_some_258 ⟨by decide, by decide⟩ ?_
          exact e_zret dX8_some_259 rfl (by decide) (by rw [Bc53.1, Bc53.2])
set_option maxRecDepth 100000 in
set_option maxHeartbeats 4000000 in
theorem v_X8_some_79 {Γ : GX} {g : AG} {I J : Nat → Nat → Int} {r : Option AV} {d : Nat} (hd : 41 ≤ d) (hg : GOk g) 
    (V : r = some (.inl 0) ∧ J = I) : Ev Γ (d + 1) mX8_some 79 [none, none, none, none, none, none, none, none, none, none, none] [] (g, I) (r, (g, J)) := by
  refine e_iconst dX8_some_79 ⟨by decide, by decide⟩ ?_
  exact e_zret dX8_some_80 rfl (by decide) (by rw [V.1, V.2])
