set_option maxRecDepth 100000 in
set_option maxHeartbeats 4000000 in
theorem v_X0_choose_0 {Γ : GX} {g : AG} {I J : Nat → Nat → Int} {r : Option AV} (hg : GOc g) (x1 : Int)
    (V : ∃ (J1 : Nat → Nat → Int), CT Γ 0 mX0_countWithin [.inr (some 61)] (g, I) (none, (g, J1)) ∧ (((¬ (x1 = 0)) → (((¬ (x1 = 1)) → (∀ I6 : Nat → Nat → Int, I6 = mset J1 61 3 0 → (Ev Γ 1 mX0_choose 34 [some (.inr (some 61)), none, some (.inl 1), some (.inl 0), some (.inl 0)] [] (g, I6) (r, (g, J))))) ∧ (((x1 = 1)) → (∀ I7 : Nat → Nat → Int, I7 = mset J1 61 3 0 → (Ev Γ 1 mX0_choose 34 [some (.inr (some 61)), none, some (.inl 0), some (.inl 0), some (.inl 0)] [] (g, I7) (r, (g, J))))))) ∧ (((x1 = 0)) → (∀ I8 : Nat → Nat → Int, I8 = mset J1 61 3 0 → (Ev Γ 1 mX0_choose 34 [some (.inr (some 61)), none, some (.inl 120), some (.inl 0), some (.inl 0)] [] (g, I8) (r, (g, J))))))) : Ev Γ 1 mX0_choose 0 [some (.inr (some 61)), some (.inl x1), none, none, none] [] (g, I) (r, (g, J)) := by
  refine e_aload_n dX0_choose_0 rfl ?_
  obtain ⟨J1, h2, Vh2⟩ := V
  refine e_callv (av := []) (st := []) dX0_choose_1 cO_0_26 oX0_countWithin rfl (by decide) (gs_61 hg) rfl (Nat.le_of_ble_eq_true rfl) (by decide) h2 (Nat.le_refl _) (Nat.le_refl _) rfl rfl ?_
  refine e_iload_n dX0_choose_4 rfl ?_
  refine e_if_ne (tgt := 13) dX0_choose_5 (by decide) (fun c4 => ?_) (fun c4 => ?_)
  · have Ac4 := Vh2.1 c4
    refine e_iload_n dX0_choose_13 rfl ?_
    refine e_iconst dX0_choose_14 ⟨by decide, by decide⟩ ?_
    refine e_ic_ne (tgt := 22) dX0_choose_15 (by decide) (fun c5 => ?_) (fun c5 => ?_)
    · have Ac5 := Ac4.1 c5
      refine e_iconst dX0_choose_22 ⟨by decide, by decide⟩ ?_
      refine e_istore_n dX0_choose_23 (by decide) (ls' := [some (.inr (some 61)), some (.inl x1), some (.inl 1), none, none]) rfl ?_
      refine e_iconst dX0_choose_24 ⟨by decide, by decide⟩ ?_
      refine e_istore_n dX0_choose_25 (by decide) (ls' := [some (.inr (some 61)), some (.inl x1), some (.inl 1), some (.inl 0), none]) rfl ?_
      refine e_aload_n dX0_choose_26 rfl ?_
      refine e_iconst dX0_choose_27 ⟨by decide, by decide⟩ ?_
      refine e_puti dX0_choose_28 fO_0_29 (by decide) (gs_61 hg) rfl rfl ?_
      refine e_mem (fun I6 eI6 => ?_)
      have WI6 := Ac5 I6 eI6
      refine e_iconst dX0_choose_31 ⟨by decide, by decide⟩ ?_
      refine e_istore dX0_choose_32 (by decide) (ls' := [some (.inr (some 61)), some (.inl x1), some (.inl 1), some (.inl 0), some (.inl 0)]) rfl ?_
      refine ev_drop (ls' := [some (.inr (some 61)), none, some (.inl 1), some (.inl 0), some (.inl 0)]) 1 rfl ?_
      exact WI6
    · have Bc5 := Ac4.2 c5
      refine e_iconst dX0_choose_18 ⟨by decide, by decide⟩ ?_
      refine e_goto (tgt := 23) dX0_choose_19 (by decide) ?_
      refine e_istore_n dX0_choose_23 (by decide) (ls' := [some (.inr (some 61)), some (.inl x1), some (.inl 0), none, none]) rfl ?_
      refine e_iconst dX0_choose_24 ⟨by decide, by decide⟩ ?_
      refine e_istore_n dX0_choose_25 (by decide) (ls' := [some (.inr (some 61)), some (.inl x1), some (.inl 0), some (.inl 0), none]) rfl ?_
      refine e_aload_n dX0_choose_26 rfl ?_
      refine e_iconst dX0_choose_27 ⟨by decide, by decide⟩ ?_
      refine e_puti dX0_choose_28 fO_0_29 (by decide) (gs_61 hg) rfl rfl ?_
      refine e_mem (fun I7 eI7 => ?_)
      have WI7 := Bc5 I7 eI7
      refine e_iconst dX0_choose_31 ⟨by decide, by decide⟩ ?_
      refine e_istore dX0_choose_32 (by decide) (ls' := [some (.inr (some 61)), some (.inl x1), some (.inl 0), some (.inl 0), some (.inl 0)]) rfl ?_
      refine ev_drop (ls' := [some (.inr (some 61)), none, some (.inl 0), some (.inl 0), some (.inl 0)]) 1 rfl ?_
      exact WI7
  · have Bc4 := Vh2.2 c4
    refine e_bipush dX0_choose_8 (by decide) ⟨by decide, by decide⟩ ?_
    refine e_goto (tgt := 23) dX0_choose_10 (by decide) ?_
    refine e_istore_n dX0_choose_23 (by decide) (ls' := [some (.inr (some 61)), some (.inl x1), some (.inl 120), none, none]) rfl ?_
    refine e_iconst dX0_choose_24 ⟨by decide, by decide⟩ ?_
    refine e_istore_n dX0_choose_25 (by decide) (ls' := [some (.inr (some 61)), some (.inl x1), some (.inl 120), some (.inl 0), none]) rfl ?_
    refine e_aload_n dX0_choose_26 rfl ?_
    refine e_iconst dX0_choose_27 ⟨by decide, by decide⟩ ?_
    refine e_puti dX0_choose_28 fO_0_29 (by decide) (gs_61 hg) rfl rfl ?_
    refine e_mem (fun I8 eI8 => ?_)
    have WI8 := Bc4 I8 eI8
    refine e_iconst dX0_choose_31 ⟨by decide, by decide⟩ ?_
    refine e_istore dX0_choose_32 (by decide) (ls' := [some (.inr (some 61)), some (.inl x1), some (.inl 120), some (.inl 0), some (.inl 0)]) rfl ?_
    refine ev_drop (ls' := [some (.inr (some 61)), none, some (.inl 120), some (.inl 0), some (.inl 0)]) 1 rfl ?_
    exact WI8
set_option maxRecDepth 100000 in
set_option maxHeartbeats 4000000 in
theorem v_X0_choose_34 {Γ : GX} {g : AG} {I J : Nat → Nat → Int} {r : Option AV} (hg : GOc g) (x2 : Int) (x3 : Int) (x4 : Int)
    (V : ((((I 3 2) ≤ x4)) → (r = none ∧ J = I)) ∧ ((¬ ((I 3 2) ≤ x4)) → ((((x4 < x3)) → (inR (x4 + 1) ∧ (Ev Γ 1 mX0_choose 34 [some (.inr (some 61)), none, some (.inl x2), some (.inl x3), some (.inl (x4 + 1))] [] (g, I) (r, (g, J))))) ∧ ((¬ (x4 < x3)) → (((0 : Int) ≤ x4 ∧ (x4 : Int) < 120) ∧ (((((I 60 x4.toNat) = 0)) → (inR (x4 + 1) ∧ (Ev Γ 1 mX0_choose 34 [some (.inr (some 61)), none, some (.inl x2), some (.inl x3), some (.inl (x4 + 1))] [] (g, I) (r, (g, J))))) ∧ ((¬ ((I 60 x4.toNat) = 0)) → (((0 : Int) ≤ x4 ∧ (x4 : Int) < 120) ∧ ((((x2 < (I 63 x4.toNat))) → (inR (x4 + 1) ∧ (Ev Γ 1 mX0_choose 34 [some (.inr (some 61)), none, some (.inl x2), some (.inl x3), some (.inl (x4 + 1))] [] (g, I) (r, (g, J))))) ∧ ((¬ (x2 < (I 63 x4.toNat))) → (((0 : Int) ≤ (I 61 3) ∧ ((I 61 3) : Int) < 120) ∧ (∀ I10 : Nat → Nat → Int, I10 = mset I 62 (I 61 3).toNat x4 → (inR ((I10 61 3) + 1) ∧ (∀ I13 : Nat → Nat → Int, I13 = mset I10 61 3 ((I10 61 3) + 1) → (∃ (r16 : Int) (J14 : Nat → Nat → Int), CT Γ 0 mX5_next [.inr (some 3), .inl x4] (g, I13) (some (.inl r16), (g, J14)) ∧ (inR (x4 + 1) ∧ (Ev Γ 1 mX0_choose 34 [some (.inr (some 61)), none, some (.inl x2), some (.inl r16), some (.inl (x4 + 1))] [] (g, J14) (r, (g, J))))))))))))))))))) : Ev Γ 1 mX0_choose 34 [some (.inr (some 61)), none, some (.inl x2), some (.inl x3), some (.inl x4)] [] (g, I) (r, (g, J)) := by
  refine e_iload dX0_choose_34 rfl ?_
  refine e_aload_n dX0_choose_36 rfl ?_
  refine e_getr dX0_choose_37 fO_0_18 (by decide) (gs_61 hg) rfl (gp_61_0 hg) ?_
  refine e_geti dX0_choose_40 fO_0_33 (by decide) (gs_3 hg) rfl ?_
  refine e_ic_ge (tgt := 113) dX0_choose_43 (by decide) (fun c1 => ?_) (fun c1 => ?_)
  · have Ac1 := V.1 c1
    exact e_vret dX0_choose_113 rfl (by rw [Ac1.1, Ac1.2])
  · have Bc1 := V.2 c1
    refine e_iload dX0_choose_46 rfl ?_
    refine e_iload_n dX0_choose_48 rfl ?_
    refine e_ic_lt (tgt := 107) dX0_choose_49 (by decide) (fun c2 => ?_) (fun c2 => ?_)
    · have Ac2 := Bc1.1 c2
      obtain ⟨h3, Vh3⟩ := Ac2
      refine e_iinc dX0_choose_107 (by decide) rfl h3 (ls' := [some (.inr (some 61)), none, some (.inl x2), some (.inl x3), some (.inl (x4 + 1))]) rfl ?_
      refine e_goto (tgt := 34) dX0_choose_110 (by decide) ?_
      exact Vh3
    · have Bc2 := Bc1.2 c2
      refine e_aload_n dX0_choose_52 rfl ?_
      refine e_getr dX0_choose_53 fO_0_22 (by decide) (gs_61 hg) rfl (gp_61_1 hg) ?_
      refine e_getr dX0_choose_56 fO_0_38 (by decide) (gs_52 hg) rfl (gp_52_14 hg) ?_
      refine e_iload dX0_choose_59 rfl ?_
      obtain ⟨h4, Vh4⟩ := Bc2
      refine e_zald dX0_choose_61 (by decide) (gs_60 hg) h4.1 h4.2 ?_
      refine e_if_eq (tgt := 107) dX0_choose_62 (by decide) (fun c5 => ?_) (fun c5 => ?_)
      · have Ac5 := Vh4.1 c5
        obtain ⟨h6, Vh6⟩ := Ac5
        refine e_iinc dX0_choose_107 (by decide) rfl h6 (ls' := [some (.inr (some 61)), none, some (.inl x2), some (.inl x3), some (.inl (x4 + 1))]) rfl ?_
        refine e_goto (tgt := 34) dX0_choose_110 (by decide) ?_
        exact Vh6
      · have Bc5 := Vh4.2 c5
        refine e_aload_n dX0_choose_65 rfl ?_
        refine e_getr dX0_choose_66 fO_0_15 (by decide) (gs_61 hg) rfl (gp_61_4 hg) ?_
        refine e_iload dX0_choose_69 rfl ?_
        obtain ⟨h7, Vh7⟩ := Bc5
        refine e_iald dX0_choose_71 (by decide) (gs_63 hg) h7.1 h7.2 ?_
        refine e_iload_n dX0_choose_72 rfl ?_
        refine e_ic_gt (tgt := 107) dX0_choose_73 (by decide) (fun c8 => ?_) (fun c8 => ?_)
        · have Ac8 := Vh7.1 c8
          obtain ⟨h9, Vh9⟩ := Ac8
          refine e_iinc dX0_choose_107 (by decide) rfl h9 (ls' := [some (.inr (some 61)), none, some (.inl x2), some (.inl x3), some (.inl (x4 + 1))]) rfl ?_
          refine e_goto (tgt := 34) dX0_choose_110 (by decide) ?_
          exact Vh9
        · have Bc8 := Vh7.2 c8
          refine e_aload_n dX0_choose_76 rfl ?_
          refine e_getr dX0_choose_77 fO_0_9 (by decide) (gs_61 hg) rfl (gp_61_2 hg) ?_
          refine e_aload_n dX0_choose_80 rfl ?_
          refine e_geti dX0_choose_81 fO_0_29 (by decide) (gs_61 hg) rfl ?_
          refine e_iload dX0_choose_84 rfl ?_
          obtain ⟨h11, Vh11⟩ := Bc8
          refine e_iast dX0_choose_86 (by decide) (gs_62 hg) h11.1 h11.2 ?_
          refine e_mem (fun I10 eI10 => ?_)
          have WI10 := Vh11 I10 eI10
          refine e_aload_n dX0_choose_87 rfl ?_
          refine e_dup dX0_choose_88 ?_
          refine e_geti dX0_choose_89 fO_0_29 (by decide) (gs_61 hg) rfl ?_
          refine e_iconst dX0_choose_92 ⟨by decide, by decide⟩ ?_
          obtain ⟨h12, Vh12⟩ := WI10
          refine e_iadd dX0_choose_93 h12 ?_
          refine e_puti dX0_choose_94 fO_0_29 (by decide) (gs_61 hg) rfl rfl ?_
          refine e_mem (fun I13 eI13 => ?_)
          have WI13 := Vh12 I13 eI13
          refine e_aload_n dX0_choose_97 rfl ?_
          refine e_getr dX0_choose_98 fO_0_18 (by decide) (gs_61 hg) rfl (gp_61_0 hg) ?_
          refine e_iload dX0_choose_101 rfl ?_
          obtain ⟨r16, J14, h15, Vh15⟩ := WI13
          refine e_callv (av := [.inl x4]) (st := []) dX0_choose_103 cO_0_44 oX5_next rfl (by decide) (gs_3 hg) rfl (Nat.le_of_ble_eq_true rfl) (by decide) h15 (Nat.le_refl _) (Nat.le_refl _) rfl rfl ?_
          refine e_istore_n dX0_choose_106 (by decide) (ls' := [some (.inr (some 61)), none, some (.inl x2), some (.inl r16), some (.inl x4)]) rfl ?_
          obtain ⟨h17, Vh17⟩ := Vh15
          refine e_iinc dX0_choose_107 (by decide) rfl h17 (ls' := [some (.inr (some 61)), none, some (.inl x2), some (.inl r16), some (.inl (x4 + 1))]) rfl ?_
          refine e_goto (tgt := 34) dX0_choose_110 (by decide) ?_
          exact Vh17
set_option maxRecDepth 100000 in
set_option maxHeartbeats 4000000 in
theorem v_X0_countWithin_0 {Γ : GX} {g : AG} {I J : Nat → Nat → Int} {r : Option AV} (hg : GOc g) 
    (V : Ev Γ 0 mX0_countWithin 2 [some (.inr (some 61)), some (.inl 0), none] [] (g, I) (r, (g, J))) : Ev Γ 0 mX0_countWithin 0 [some (.inr (some 61)), none, none] [] (g, I) (r, (g, J)) := by
  refine e_iconst dX0_countWithin_0 ⟨by decide, by decide⟩ ?_
  refine e_istore_n dX0_countWithin_1 (by decide) (ls' := [some (.inr (some 61)), some (.inl 0), none]) rfl ?_
  exact V
set_option maxRecDepth 100000 in
set_option maxHeartbeats 4000000 in
theorem v_X0_countWithin_2 {Γ : GX} {g : AG} {I J : Nat → Nat → Int} {r : Option AV} (hg : GOc g) (x1 : Int)
    (V : ((((I 3 2) ≤ x1)) → (inR ((I 3 2) - 1) ∧ (∀ y3 : Int, y3 = ((I 3 2) - 1) → (Ev Γ 0 mX0_countWithin 36 [some (.inr (some 61)), some (.inl y3), none] [] (g, I) (r, (g, J)))))) ∧ ((¬ ((I 3 2) ≤ x1)) → (((0 : Int) ≤ x1 ∧ (x1 : Int) < 120) ∧ (∀ I4 : Nat → Nat → Int, I4 = mset I 63 x1.toNat 0 → (inR (x1 + 1) ∧ (Ev Γ 0 mX0_countWithin 2 [some (.inr (some 61)), some (.inl (x1 + 1)), none] [] (g, I4) (r, (g, J)))))))) : Ev Γ 0 mX0_countWithin 2 [some (.inr (some 61)), some (.inl x1), none] [] (g, I) (r, (g, J)) := by
  refine e_iload_n dX0_countWithin_2 rfl ?_
  refine e_aload_n dX0_countWithin_3 rfl ?_
  refine e_getr dX0_countWithin_4 fO_0_18 (by decide) (gs_61 hg) rfl (gp_61_0 hg) ?_
  refine e_geti dX0_countWithin_7 fO_0_33 (by decide) (gs_3 hg) rfl ?_
  refine e_ic_ge (tgt := 26) dX0_countWithin_10 (by decide) (fun c1 => ?_) (fun c1 => ?_)
  · have Ac1 := V.1 c1
    refine e_aload_n dX0_countWithin_26 rfl ?_
    refine e_getr dX0_countWithin_27 fO_0_18 (by decide) (gs_61 hg) rfl (gp_61_0 hg) ?_
    refine e_geti dX0_countWithin_30 fO_0_33 (by decide) (gs_3 hg) rfl ?_
    refine e_iconst dX0_countWithin_33 ⟨by decide, by decide⟩ ?_
    obtain ⟨h2, Vh2⟩ := Ac1
    refine e_isub dX0_countWithin_34 h2 ?_
    refine e_top (fun y3 ey3 => ?_)
    have Wy3 := Vh2 y3 ey3
    refine e_istore_n dX0_countWithin_35 (by decide) (ls' := [some (.inr (some 61)), some (.inl y3), none]) rfl ?_
    exact Wy3
  · have Bc1 := V.2 c1
    refine e_aload_n dX0_countWithin_13 rfl ?_
    refine e_getr dX0_countWithin_14 fO_0_15 (by decide) (gs_61 hg) rfl (gp_61_4 hg) ?_
    refine e_iload_n dX0_countWithin_17 rfl ?_
    refine e_iconst dX0_countWithin_18 ⟨by decide, by decide⟩ ?_
    obtain ⟨h5, Vh5⟩ := Bc1
    refine e_iast dX0_countWithin_19 (by decide) (gs_63 hg) h5.1 h5.2 ?_
    refine e_mem (fun I4 eI4 => ?_)
    have WI4 := Vh5 I4 eI4
    obtain ⟨h6, Vh6⟩ := WI4
    refine e_iinc dX0_countWithin_20 (by decide) rfl h6 (ls' := [some (.inr (some 61)), some (.inl (x1 + 1)), none]) rfl ?_
    refine e_goto (tgt := 2) dX0_countWithin_23 (by decide) ?_
    exact Vh6
set_option maxRecDepth 100000 in
set_option maxHeartbeats 4000000 in
theorem v_X0_countWithin_36 {Γ : GX} {g : AG} {I J : Nat → Nat → Int} {r : Option AV} (hg : GOc g) (x1 : Int)
    (V : (((x1 ≤ 0)) → (r = none ∧ J = I)) ∧ ((¬ (x1 ≤ 0)) → (((0 : Int) ≤ x1 ∧ (x1 : Int) < 120) ∧ (∀ y3 : Int, y3 = (I 9 x1.toNat) → ((((y3 < 0)) → (inR (x1 + (-1)) ∧ (Ev Γ 0 mX0_countWithin 36 [some (.inr (some 61)), some (.inl (x1 + (-1))), none] [] (g, I) (r, (g, J))))) ∧ ((¬ (y3 < 0)) → (((0 : Int) ≤ y3 ∧ (y3 : Int) < 120) ∧ (((0 : Int) ≤ x1 ∧ (x1 : Int) < 120) ∧ (((((I 60 x1.toNat) = 0)) → (((0 : Int) ≤ x1 ∧ (x1 : Int) < 120) ∧ (inR ((I 63 y3.toNat) + (I 63 x1.toNat)) ∧ (((0 : Int) ≤ y3 ∧ (y3 : Int) < 120) ∧ (∀ I11 : Nat → Nat → Int, I11 = mset I 63 y3.toNat ((I 63 y3.toNat) + (I 63 x1.toNat)) → (inR (x1 + (-1)) ∧ (Ev Γ 0 mX0_countWithin 36 [some (.inr (some 61)), some (.inl (x1 + (-1))), none] [] (g, I11) (r, (g, J))))))))) ∧ ((¬ ((I 60 x1.toNat) = 0)) → (((0 : Int) ≤ x1 ∧ (x1 : Int) < 120) ∧ (((¬ ((I 63 x1.toNat) = 0)) → (((0 : Int) ≤ x1 ∧ (x1 : Int) < 120) ∧ (inR ((I 63 y3.toNat) + (I 63 x1.toNat)) ∧ (((0 : Int) ≤ y3 ∧ (y3 : Int) < 120) ∧ (∀ I18 : Nat → Nat → Int, I18 = mset I 63 y3.toNat ((I 63 y3.toNat) + (I 63 x1.toNat)) → (inR (x1 + (-1)) ∧ (Ev Γ 0 mX0_countWithin 36 [some (.inr (some 61)), some (.inl (x1 + (-1))), none] [] (g, I18) (r, (g, J))))))))) ∧ ((((I 63 x1.toNat) = 0)) → (inR ((I 63 y3.toNat) + 1) ∧ (((0 : Int) ≤ y3 ∧ (y3 : Int) < 120) ∧ (∀ I22 : Nat → Nat → Int, I22 = mset I 63 y3.toNat ((I 63 y3.toNat) + 1) → (inR (x1 + (-1)) ∧ (Ev Γ 0 mX0_countWithin 36 [some (.inr (some 61)), some (.inl (x1 + (-1))), none] [] (g, I22) (r, (g, J)))))))))))))))))))) : Ev Γ 0 mX0_countWithin 36 [some (.inr (some 61)), some (.inl x1), none] [] (g, I) (r, (g, J)) := by
  refine e_iload_n dX0_countWithin_36 rfl ?_
  refine e_if_le (tgt := 100) dX0_countWithin_37 (by decide) (fun c1 => ?_) (fun c1 => ?_)
  · have Ac1 := V.1 c1
    exact e_vret dX0_countWithin_100 rfl (by rw [Ac1.1, Ac1.2])
  · have Bc1 := V.2 c1
    refine e_aload_n dX0_countWithin_40 rfl ?_
    refine e_getr dX0_countWithin_41 fO_0_18 (by decide) (gs_61 hg) rfl (gp_61_0 hg) ?_
    refine e_getr dX0_countWithin_44 fO_0_48 (by decide) (gs_3 hg) rfl (gp_3_7 hg) ?_
    refine e_iload_n dX0_countWithin_47 rfl ?_
    obtain ⟨h2, Vh2⟩ := Bc1
    refine e_iald dX0_countWithin_48 (by decide) (gs_9 hg) h2.1 h2.2 ?_
    refine e_top (fun y3 ey3 => ?_)
    have Wy3 := Vh2 y3 ey3
    refine e_istore_n dX0_countWithin_49 (by decide) (ls' := [some (.inr (some 61)), some (.inl x1), some (.inl y3)]) rfl ?_
    refine e_iload_n dX0_countWithin_50 rfl ?_
    refine e_if_lt (tgt := 94) dX0_countWithin_51 (by decide) (fun c4 => ?_) (fun c4 => ?_)
    · have Ac4 := Wy3.1 c4
      obtain ⟨h5, Vh5⟩ := Ac4
      refine e_iinc dX0_countWithin_94 (by decide) rfl h5 (ls' := [some (.inr (some 61)), some (.inl (x1 + (-1))), some (.inl y3)]) rfl ?_
      refine e_goto (tgt := 36) dX0_countWithin_97 (by decide) ?_
      refine ev_drop (ls' := [some (.inr (some 61)), some (.inl (x1 + (-1))), none]) 2 rfl ?_
      exact Vh5
    · have Bc4 := Wy3.2 c4
      refine e_aload_n dX0_countWithin_54 rfl ?_
      refine e_getr dX0_countWithin_55 fO_0_15 (by decide) (gs_61 hg) rfl (gp_61_4 hg) ?_
      refine e_iload_n dX0_countWithin_58 rfl ?_
      refine e_dup2 dX0_countWithin_59 ?_
      obtain ⟨h6, Vh6⟩ := Bc4
      refine e_iald dX0_countWithin_60 (by decide) (gs_63 hg) h6.1 h6.2 ?_
      refine e_aload_n dX0_countWithin_61 rfl ?_
      refine e_getr dX0_countWithin_62 fO_0_22 (by decide) (gs_61 hg) rfl (gp_61_1 hg) ?_
      refine e_getr dX0_countWithin_65 fO_0_38 (by decide) (gs_52 hg) rfl (gp_52_14 hg) ?_
      refine e_iload_n dX0_countWithin_68 rfl ?_
      obtain ⟨h7, Vh7⟩ := Vh6
      refine e_zald dX0_countWithin_69 (by decide) (gs_60 hg) h7.1 h7.2 ?_
      refine e_if_eq (tgt := 86) dX0_countWithin_70 (by decide) (fun c8 => ?_) (fun c8 => ?_)
      · have Ac8 := Vh7.1 c8
        refine e_aload_n dX0_countWithin_86 rfl ?_
        refine e_getr dX0_countWithin_87 fO_0_15 (by decide) (gs_61 hg) rfl (gp_61_4 hg) ?_
        refine e_iload_n dX0_countWithin_90 rfl ?_
        obtain ⟨h9, Vh9⟩ := Ac8
        refine e_iald dX0_countWithin_91 (by decide) (gs_63 hg) h9.1 h9.2 ?_
        obtain ⟨h10, Vh10⟩ := Vh9
        refine e_iadd dX0_countWithin_92 h10 ?_
        obtain ⟨h12, Vh12⟩ := Vh10
        refine e_iast dX0_countWithin_93 (by decide) (gs_63 hg) h12.1 h12.2 ?_
        refine e_mem (fun I11 eI11 => ?_)
        have WI11 := Vh12 I11 eI11
        obtain ⟨h13, Vh13⟩ := WI11
        refine e_iinc dX0_countWithin_94 (by decide) rfl h13 (ls' := [some (.inr (some 61)), some (.inl (x1 + (-1))), some (.inl y3)]) rfl ?_
        refine e_goto (tgt := 36) dX0_countWithin_97 (by decide) ?_
        refine ev_drop (ls' := [some (.inr (some 61)), some (.inl (x1 + (-1))), none]) 2 rfl ?_
        exact Vh13
      · have Bc8 := Vh7.2 c8
        refine e_aload_n dX0_countWithin_73 rfl ?_
        refine e_getr dX0_countWithin_74 fO_0_15 (by decide) (gs_61 hg) rfl (gp_61_4 hg) ?_
        refine e_iload_n dX0_countWithin_77 rfl ?_
        obtain ⟨h14, Vh14⟩ := Bc8
        refine e_iald dX0_countWithin_78 (by decide) (gs_63 hg) h14.1 h14.2 ?_
        refine e_if_ne (tgt := 86) dX0_countWithin_79 (by decide) (fun c15 => ?_) (fun c15 => ?_)
        · have Ac15 := Vh14.1 c15
          refine e_aload_n dX0_countWithin_86 rfl ?_
          refine e_getr dX0_countWithin_87 fO_0_15 (by decide) (gs_61 hg) rfl (gp_61_4 hg) ?_
          refine e_iload_n dX0_countWithin_90 rfl ?_
          obtain ⟨h16, Vh16⟩ := Ac15
          refine e_iald dX0_countWithin_91 (by decide) (gs_63 hg) h16.1 h16.2 ?_
          obtain ⟨h17, Vh17⟩ := Vh16
          refine e_iadd dX0_countWithin_92 h17 ?_
          obtain ⟨h19, Vh19⟩ := Vh17
          refine e_iast dX0_countWithin_93 (by decide) (gs_63 hg) h19.1 h19.2 ?_
          refine e_mem (fun I18 eI18 => ?_)
          have WI18 := Vh19 I18 eI18
          obtain ⟨h20, Vh20⟩ := WI18
          refine e_iinc dX0_countWithin_94 (by decide) rfl h20 (ls' := [some (.inr (some 61)), some (.inl (x1 + (-1))), some (.inl y3)]) rfl ?_
          refine e_goto (tgt := 36) dX0_countWithin_97 (by decide) ?_
          refine ev_drop (ls' := [some (.inr (some 61)), some (.inl (x1 + (-1))), none]) 2 rfl ?_
          exact Vh20
        · have Bc15 := Vh14.2 c15
          refine e_iconst dX0_countWithin_82 ⟨by decide, by decide⟩ ?_
          refine e_goto (tgt := 92) dX0_countWithin_83 (by decide) ?_
          obtain ⟨h21, Vh21⟩ := Bc15
          refine e_iadd dX0_countWithin_92 h21 ?_
          obtain ⟨h23, Vh23⟩ := Vh21
          refine e_iast dX0_countWithin_93 (by decide) (gs_63 hg) h23.1 h23.2 ?_
          refine e_mem (fun I22 eI22 => ?_)
          have WI22 := Vh23 I22 eI22
          obtain ⟨h24, Vh24⟩ := WI22
          refine e_iinc dX0_countWithin_94 (by decide) rfl h24 (ls' := [some (.inr (some 61)), some (.inl (x1 + (-1))), some (.inl y3)]) rfl ?_
          refine e_goto (tgt := 36) dX0_countWithin_97 (by decide) ?_
          refine ev_drop (ls' := [some (.inr (some 61)), some (.inl (x1 + (-1))), none]) 2 rfl ?_
          exact Vh24
