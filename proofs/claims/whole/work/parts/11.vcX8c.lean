set_option maxRecDepth 100000 in
set_option maxHeartbeats 4000000 in
theorem v_X8_some_348 {Γ : GX} {g : AG} {I J : Nat → Nat → Int} {r : Option AV} {d : Nat} (hd : 41 ≤ d) (hg : GOk g) (x2 : Int) (x3 : Int) (x4 : Int) (x5 : Int) (x6 : Int) (x8 : Int) (x9 : Int) (x10 : Int)
    (V : inR (x10 + 1) ∧ (Ev Γ (d + 1) mX8_some 196 [some (.inr (some 80)), none, some (.inl x2), some (.inl x3), some (.inl x4), some (.inl x5), some (.inl x6), none, some (.inl x8), some (.inl x9), some (.inl (x10 + 1))] [] (g, I) (r, (g, J)))) : Ev Γ (d + 1) mX8_some 348 [some (.inr (some 80)), none, some (.inl x2), some (.inl x3), some (.inl x4), some (.inl x5), some (.inl x6), none, some (.inl x8), some (.inl x9), some (.inl x10)] [] (g, I) (r, (g, J)) := by
  obtain ⟨h1, Vh1⟩ := V
  refine e_iinc dX8_some_348 (by decide) rfl h1 (ls' := [some (.inr (some 80)), none, some (.inl x2), some (.inl x3), some (.inl x4), some (.inl x5), some (.inl x6), none, some (.inl x8), some (.inl x9), some (.inl (x10 + 1))]) rfl ?_
  refine e_goto (tgt := 196) dX8_some_351 (by decide) ?_
  exact Vh1
set_option maxRecDepth 100000 in
set_option maxHeartbeats 4000000 in
theorem v_X8_isMatched_0 {Γ : GX} {g : AG} {I J : Nat → Nat → Int} {r : Option AV} (hg : GOk g) (x1 : Int)
    (V : ∀ I1 : Nat → Nat → Int, I1 = mset I 80 26 0 → (Ev Γ 901 mX8_isMatched 7 [some (.inr (some 80)), some (.inl x1), some (.inl 0)] [] (g, I1) (r, (g, J)))) : Ev Γ 901 mX8_isMatched 0 [some (.inr (some 80)), some (.inl x1), none] [] (g, I) (r, (g, J)) := by
  refine e_aload_n dX8_isMatched_0 rfl ?_
  refine e_iconst dX8_isMatched_1 ⟨by decide, by decide⟩ ?_
  refine e_puti dX8_isMatched_2 fO_8_227 (by decide) (gs_80 hg) rfl rfl ?_
  refine e_mem (fun I1 eI1 => ?_)
  have WI1 := V I1 eI1
  refine e_iconst dX8_isMatched_5 ⟨by decide, by decide⟩ ?_
  refine e_istore_n dX8_isMatched_6 (by decide) (ls' := [some (.inr (some 80)), some (.inl x1), some (.inl 0)]) rfl ?_
  exact WI1
set_option maxRecDepth 100000 in
set_option maxHeartbeats 4000000 in
theorem v_X8_isMatched_7 {Γ : GX} {g : AG} {I J : Nat → Nat → Int} {r : Option AV} (hg : GOk g) (x1 : Int) (x2 : Int)
    (V : (((26 ≤ x2)) → (∃ (r4 : Int) (J2 : Nat → Nat → Int), CT Γ 0 mX8_task [.inr (some 80), .inl 0, .inl (-1), .inl x1, .inl 0, .inl (-1)] (g, I) (some (.inl r4), (g, J2)) ∧ (∃ (r7 : Int) (J5 : Nat → Nat → Int), CT Γ 900 mX8_does [.inr (some 80), .inl r4] (g, J2) (some (.inl r7), (g, J5)) ∧ ((r7 = 0 ∨ r7 = 1) ∧ r = some (.inl r7) ∧ J = J5)))) ∧ ((¬ (26 ≤ x2)) → (((0 : Int) ≤ x2 ∧ (x2 : Int) < 26) ∧ (∀ I8 : Nat → Nat → Int, I8 = mset I 141 x2.toNat (-1) → (((0 : Int) ≤ x2 ∧ (x2 : Int) < 26) ∧ (∀ I10 : Nat → Nat → Int, I10 = mset I8 143 x2.toNat (-1) → (inR (x2 + 1) ∧ (Ev Γ 901 mX8_isMatched 7 [some (.inr (some 80)), some (.inl x1), some (.inl (x2 + 1))] [] (g, I10) (r, (g, J)))))))))) : Ev Γ 901 mX8_isMatched 7 [some (.inr (some 80)), some (.inl x1), some (.inl x2)] [] (g, I) (r, (g, J)) := by
  refine e_iload_n dX8_isMatched_7 rfl ?_
  refine e_bipush dX8_isMatched_8 (by decide) ⟨by decide, by decide⟩ ?_
  refine e_ic_ge (tgt := 33) dX8_isMatched_10 (by decide) (fun c1 => ?_) (fun c1 => ?_)
  · have Ac1 := V.1 c1
    refine e_aload_n dX8_isMatched_33 rfl ?_
    refine e_aload_n dX8_isMatched_34 rfl ?_
    refine e_iconst dX8_isMatched_35 ⟨by decide, by decide⟩ ?_
    refine e_iconst dX8_isMatched_36 ⟨by decide, by decide⟩ ?_
    refine e_iload_n dX8_isMatched_37 rfl ?_
    refine e_iconst dX8_isMatched_38 ⟨by decide, by decide⟩ ?_
    refine e_iconst dX8_isMatched_39 ⟨by decide, by decide⟩ ?_
    obtain ⟨r4, J2, h3, Vh3⟩ := Ac1
    refine e_callv (av := [.inl 0, .inl (-1), .inl x1, .inl 0, .inl (-1)]) (st := [.inr (some 80)]) dX8_isMatched_40 cO_8_239 oX8_task rfl (by decide) (gs_80 hg) rfl (Nat.le_of_ble_eq_true rfl) (by decide) h3 (Nat.le_refl _) (Nat.le_refl _) rfl rfl ?_
    obtain ⟨r7, J5, h6, Vh6⟩ := Vh3
    refine e_callv (av := [.inl r4]) (st := []) dX8_isMatched_43 cO_8_243 oX8_does rfl (by decide) (gs_80 hg) rfl (Nat.le_of_ble_eq_true rfl) (by decide) h6 (Nat.le_refl _) (Nat.le_refl _) rfl rfl ?_
    exact e_zret dX8_isMatched_46 rfl Vh6.1 (by rw [Vh6.2.1, Vh6.2.2])
  · have Bc1 := V.2 c1
    refine e_aload_n dX8_isMatched_13 rfl ?_
    refine e_getr dX8_isMatched_14 fO_8_61 (by decide) (gs_80 hg) rfl (gp_80_27 hg) ?_
    refine e_iload_n dX8_isMatched_17 rfl ?_
    refine e_iconst dX8_isMatched_18 ⟨by decide, by decide⟩ ?_
    obtain ⟨h9, Vh9⟩ := Bc1
    refine e_iast dX8_isMatched_19 (by decide) (gs_141 hg) h9.1 h9.2 ?_
    refine e_mem (fun I8 eI8 => ?_)
    have WI8 := Vh9 I8 eI8
    refine e_aload_n dX8_isMatched_20 rfl ?_
    refine e_getr dX8_isMatched_21 fO_8_67 (by decide) (gs_80 hg) rfl (gp_80_29 hg) ?_
    refine e_iload_n dX8_isMatched_24 rfl ?_
    refine e_iconst dX8_isMatched_25 ⟨by decide, by decide⟩ ?_
    obtain ⟨h11, Vh11⟩ := WI8
    refine e_iast dX8_isMatched_26 (by decide) (gs_143 hg) h11.1 h11.2 ?_
    refine e_mem (fun I10 eI10 => ?_)
    have WI10 := Vh11 I10 eI10
    obtain ⟨h12, Vh12⟩ := WI10
    refine e_iinc dX8_isMatched_27 (by decide) rfl h12 (ls' := [some (.inr (some 80)), some (.inl x1), some (.inl (x2 + 1))]) rfl ?_
    refine e_goto (tgt := 7) dX8_isMatched_30 (by decide) ?_
    exact Vh12
set_option maxRecDepth 100000 in
set_option maxHeartbeats 4000000 in
theorem v_X8_all_0 {Γ : GX} {g : AG} {I J : Nat → Nat → Int} {r : Option AV} (hg : GOk g) 
    (V : Ev Γ 902 mX8_all 4 [some (.inr (some 80)), some (.inl 0), some (.inl 0)] [] (g, I) (r, (g, J))) : Ev Γ 902 mX8_all 0 [some (.inr (some 80)), none, none] [] (g, I) (r, (g, J)) := by
  refine e_iconst dX8_all_0 ⟨by decide, by decide⟩ ?_
  refine e_istore_n dX8_all_1 (by decide) (ls' := [some (.inr (some 80)), some (.inl 0), none]) rfl ?_
  refine e_iconst dX8_all_2 ⟨by decide, by decide⟩ ?_
  refine e_istore_n dX8_all_3 (by decide) (ls' := [some (.inr (some 80)), some (.inl 0), some (.inl 0)]) rfl ?_
  exact V
set_option maxRecDepth 100000 in
set_option maxHeartbeats 4000000 in
theorem v_X8_all_4 {Γ : GX} {g : AG} {I J : Nat → Nat → Int} {r : Option AV} (hg : GOk g) (x1 : Int) (x2 : Int)
    (V : ((((I 82 2) ≤ x2)) → (r = some (.inl x1) ∧ J = I)) ∧ ((¬ ((I 82 2) ≤ x2)) → (∃ (r4 : Int) (J2 : Nat → Nat → Int), CT Γ 901 mX8_isMatched [.inr (some 80), .inl x2] (g, I) (some (.inl r4), (g, J2)) ∧ (((0 : Int) ≤ x2 ∧ (x2 : Int) < 240) ∧ ((r4 = 0 ∨ r4 = 1) ∧ (∀ I5 : Nat → Nat → Int, I5 = mset J2 146 x2.toNat r4 → (((0 : Int) ≤ x2 ∧ (x2 : Int) < 240) ∧ (((((I5 146 x2.toNat) = 0)) → (inR (x1 + 0) ∧ (∀ y11 : Int, y11 = (x1 + 0) → (inR (x2 + 1) ∧ (Ev Γ 902 mX8_all 4 [some (.inr (some 80)), some (.inl y11), some (.inl (x2 + 1))] [] (g, I5) (r, (g, J))))))) ∧ ((¬ ((I5 146 x2.toNat) = 0)) → (inR (x1 + 1) ∧ (∀ y14 : Int, y14 = (x1 + 1) → (inR (x2 + 1) ∧ (Ev Γ 902 mX8_all 4 [some (.inr (some 80)), some (.inl y14), some (.inl (x2 + 1))] [] (g, I5) (r, (g, J))))))))))))))) : Ev Γ 902 mX8_all 4 [some (.inr (some 80)), some (.inl x1), some (.inl x2)] [] (g, I) (r, (g, J)) := by
  refine e_iload_n dX8_all_4 rfl ?_
  refine e_aload_n dX8_all_5 rfl ?_
  refine e_getr dX8_all_6 fO_8_16 (by decide) (gs_80 hg) rfl (gp_80_3 hg) ?_
  refine e_geti dX8_all_9 fO_8_122 (by decide) (gs_82 hg) rfl ?_
  refine e_ic_ge (tgt := 49) dX8_all_12 (by decide) (fun c1 => ?_) (fun c1 => ?_)
  · have Ac1 := V.1 c1
    refine e_iload_n dX8_all_49 rfl ?_
    exact e_iret dX8_all_50 rfl (by rw [Ac1.1, Ac1.2])
  · have Bc1 := V.2 c1
    refine e_aload_n dX8_all_15 rfl ?_
    refine e_getr dX8_all_16 fO_8_76 (by decide) (gs_80 hg) rfl (gp_80_32 hg) ?_
    refine e_iload_n dX8_all_19 rfl ?_
    refine e_aload_n dX8_all_20 rfl ?_
    refine e_iload_n dX8_all_21 rfl ?_
    obtain ⟨r4, J2, h3, Vh3⟩ := Bc1
    refine e_callv (av := [.inl x2]) (st := [.inl x2, .inr (some 146)]) dX8_all_22 cO_8_253 oX8_isMatched rfl (by decide) (gs_80 hg) rfl (Nat.le_of_ble_eq_true rfl) (by decide) h3 (Nat.le_refl _) (Nat.le_refl _) rfl rfl ?_
    obtain ⟨h6, Vh6⟩ := Vh3
    obtain ⟨h7, Vh7⟩ := Vh6
    refine e_zast dX8_all_25 (by decide) (gs_146 hg) h6.1 h6.2 h7 ?_
    refine e_mem (fun I5 eI5 => ?_)
    have WI5 := Vh7 I5 eI5
    refine e_iload_n dX8_all_26 rfl ?_
    refine e_aload_n dX8_all_27 rfl ?_
    refine e_getr dX8_all_28 fO_8_76 (by decide) (gs_80 hg) rfl (gp_80_32 hg) ?_
    refine e_iload_n dX8_all_31 rfl ?_
    obtain ⟨h8, Vh8⟩ := WI5
    refine e_zald dX8_all_32 (by decide) (gs_146 hg) h8.1 h8.2 ?_
    refine e_if_eq (tgt := 40) dX8_all_33 (by decide) (fun c9 => ?_) (fun c9 => ?_)
    · have Ac9 := Vh8.1 c9
      refine e_iconst dX8_all_40 ⟨by decide, by decide⟩ ?_
      obtain ⟨h10, Vh10⟩ := Ac9
      refine e_iadd dX8_all_41 h10 ?_
      refine e_top (fun y11 ey11 => ?_)
      have Wy11 := Vh10 y11 ey11
      refine e_istore_n dX8_all_42 (by decide) (ls' := [some (.inr (some 80)), some (.inl y11), some (.inl x2)]) rfl ?_
      obtain ⟨h12, Vh12⟩ := Wy11
      refine e_iinc dX8_all_43 (by decide) rfl h12 (ls' := [some (.inr (some 80)), some (.inl y11), some (.inl (x2 + 1))]) rfl ?_
      refine e_goto (tgt := 4) dX8_all_46 (by decide) ?_
      exact Vh12
    · have Bc9 := Vh8.2 c9
      refine e_iconst dX8_all_36 ⟨by decide, by decide⟩ ?_
      refine e_goto (tgt := 41) dX8_all_37 (by decide) ?_
      obtain ⟨h13, Vh13⟩ := Bc9
      refine e_iadd dX8_all_41 h13 ?_
      refine e_top (fun y14 ey14 => ?_)
      have Wy14 := Vh13 y14 ey14
      refine e_istore_n dX8_all_42 (by decide) (ls' := [some (.inr (some 80)), some (.inl y14), some (.inl x2)]) rfl ?_
      obtain ⟨h15, Vh15⟩ := Wy14
      refine e_iinc dX8_all_43 (by decide) rfl h15 (ls' := [some (.inr (some 80)), some (.inl y14), some (.inl (x2 + 1))]) rfl ?_
      refine e_goto (tgt := 4) dX8_all_46 (by decide) ?_
      exact Vh15
set_option maxRecDepth 100000 in
set_option maxHeartbeats 4000000 in
theorem v_X8_matches_0 {Γ : GX} {g : AG} {I J : Nat → Nat → Int} {r : Option AV} (hg : GOk g) 
    (V : ∀ I1 : Nat → Nat → Int, I1 = mset I 80 0 0 → (∃ (r4 : Int) (J2 : Nat → Nat → Int), CT Γ 902 mX8_all [.inr (some 80)] (g, I1) (some (.inl r4), (g, J2)) ∧ (r = some (.inl r4) ∧ J = J2))) : Ev Γ 903 mX8_matches 0 [some (.inr (some 80))] [] (g, I) (r, (g, J)) := by
  refine e_aload_n dX8_matches_0 rfl ?_
  refine e_iconst dX8_matches_1 ⟨by decide, by decide⟩ ?_
  refine e_puti dX8_matches_2 fO_8_103 (by decide) (gs_80 hg) rfl rfl ?_
  refine e_mem (fun I1 eI1 => ?_)
  have WI1 := V I1 eI1
  refine e_aload_n dX8_matches_5 rfl ?_
  obtain ⟨r4, J2, h3, Vh3⟩ := WI1
  refine e_callv (av := []) (st := []) dX8_matches_6 cO_8_256 oX8_all rfl (by decide) (gs_80 hg) rfl (Nat.le_of_ble_eq_true rfl) (by decide) h3 (Nat.le_refl _) (Nat.le_refl _) rfl rfl ?_
  exact e_iret dX8_matches_9 rfl (by rw [Vh3.1, Vh3.2])
set_option maxRecDepth 100000 in
set_option maxHeartbeats 4000000 in
theorem v_X8_match_0 {Γ : GX} {g : AG} {I J : Nat → Nat → Int} {r : Option AV} (hg : GOk g) (x1 : Int)
    (V : ∀ I1 : Nat → Nat → Int, I1 = mset I 80 0 0 → (∃ (r4 : Int) (J2 : Nat → Nat → Int), CT Γ 902 mX8_all [.inr (some 80)] (g, I1) (some (.inl r4), (g, J2)) ∧ (Ev Γ 903 mX8_match 15 [some (.inr (some 80)), some (.inl x1), none, some (.inl 0), some (.inl 0)] [] (g, J2) (r, (g, J))))) : Ev Γ 903 mX8_match 0 [some (.inr (some 80)), some (.inl x1), none, none, none] [] (g, I) (r, (g, J)) := by
  refine e_aload_n dX8_match_0 rfl ?_
  refine e_iconst dX8_match_1 ⟨by decide, by decide⟩ ?_
  refine e_puti dX8_match_2 fO_8_103 (by decide) (gs_80 hg) rfl rfl ?_
  refine e_mem (fun I1 eI1 => ?_)
  have WI1 := V I1 eI1
  refine e_aload_n dX8_match_5 rfl ?_
  obtain ⟨r4, J2, h3, Vh3⟩ := WI1
  refine e_callv (av := []) (st := []) dX8_match_6 cO_8_256 oX8_all rfl (by decide) (gs_80 hg) rfl (Nat.le_of_ble_eq_true rfl) (by decide) h3 (Nat.le_refl _) (Nat.le_refl _) rfl rfl ?_
  refine e_istore_n dX8_match_9 (by decide) (ls' := [some (.inr (some 80)), some (.inl x1), some (.inl r4), none, none]) rfl ?_
  refine e_iconst dX8_match_10 ⟨by decide, by decide⟩ ?_
  refine e_istore_n dX8_match_11 (by decide) (ls' := [some (.inr (some 80)), some (.inl x1), some (.inl r4), some (.inl 0), none]) rfl ?_
  refine e_iconst dX8_match_12 ⟨by decide, by decide⟩ ?_
  refine e_istore dX8_match_13 (by decide) (ls' := [some (.inr (some 80)), some (.inl x1), some (.inl r4), some (.inl 0), some (.inl 0)]) rfl ?_
  refine ev_drop (ls' := [some (.inr (some 80)), some (.inl x1), none, some (.inl 0), some (.inl 0)]) 2 rfl ?_
  exact Vh3
set_option maxRecDepth 100000 in
set_option maxHeartbeats 4000000 in
theorem v_X8_match_15 {Γ : GX} {g : AG} {I J : Nat → Nat → Int} {r : Option AV} (hg : GOk g) (x1 : Int) (x3 : Int) (x4 : Int)
    (V : ((((I 82 2) ≤ x4)) → (r = some (.inl (-1)) ∧ J = I)) ∧ ((¬ ((I 82 2) ≤ x4)) → (((0 : Int) ≤ x4 ∧ (x4 : Int) < 240) ∧ (((¬ ((I 146 x4.toNat) = 0)) → (((¬ (x3 = x1)) → (inR (x3 + 1) ∧ (inR (x4 + 1) ∧ (Ev Γ 903 mX8_match 15 [some (.inr (some 80)), some (.inl x1), none, some (.inl (x3 + 1)), some (.inl (x4 + 1))] [] (g, I) (r, (g, J)))))) ∧ (((x3 = x1)) → (r = some (.inl x4) ∧ J = I)))) ∧ ((((I 146 x4.toNat) = 0)) → (inR (x4 + 1) ∧ (Ev Γ 903 mX8_match 15 [some (.inr (some 80)), some (.inl x1), none, some (.inl x3), some (.inl (x4 + 1))] [] (g, I) (r, (g, J))))))))) : Ev Γ 903 mX8_match 15 [some (.inr (some 80)), some (.inl x1), none, some (.inl x3), some (.inl x4)] [] (g, I) (r, (g, J)) := by
  refine e_iload dX8_match_15 rfl ?_
  refine e_aload_n dX8_match_17 rfl ?_
  refine e_getr dX8_match_18 fO_8_16 (by decide) (gs_80 hg) rfl (gp_80_3 hg) ?_
  refine e_geti dX8_match_21 fO_8_122 (by decide) (gs_82 hg) rfl ?_
  refine e_ic_ge (tgt := 57) dX8_match_24 (by decide) (fun c1 => ?_) (fun c1 => ?_)
  · have Ac1 := V.1 c1
    refine e_iconst dX8_match_57 ⟨by decide, by decide⟩ ?_
    exact e_iret dX8_match_58 rfl (by rw [Ac1.1, Ac1.2])
  · have Bc1 := V.2 c1
    refine e_aload_n dX8_match_27 rfl ?_
    refine e_getr dX8_match_28 fO_8_76 (by decide) (gs_80 hg) rfl (gp_80_32 hg) ?_
    refine e_iload dX8_match_31 rfl ?_
    obtain ⟨h2, Vh2⟩ := Bc1
    refine e_zald dX8_match_33 (by decide) (gs_146 hg) h2.1 h2.2 ?_
    refine e_if_ne (tgt := 40) dX8_match_34 (by decide) (fun c3 => ?_) (fun c3 => ?_)
    · have Ac3 := Vh2.1 c3
      refine e_iload_n dX8_match_40 rfl ?_
      refine e_iload_n dX8_match_41 rfl ?_
      refine e_ic_ne (tgt := 48) dX8_match_42 (by decide) (fun c4 => ?_) (fun c4 => ?_)
      · have Ac4 := Ac3.1 c4
        obtain ⟨h5, Vh5⟩ := Ac4
        refine e_iinc dX8_match_48 (by decide) rfl h5 (ls' := [some (.inr (some 80)), some (.inl x1), none, some (.inl (x3 + 1)), some (.inl x4)]) rfl ?_
        obtain ⟨h6, Vh6⟩ := Vh5
        refine e_iinc dX8_match_51 (by decide) rfl h6 (ls' := [some (.inr (some 80)), some (.inl x1), none, some (.inl (x3 + 1)), some (.inl (x4 + 1))]) rfl ?_
        refine e_goto (tgt := 15) dX8_match_54 (by decide) ?_
        exact Vh6
      · have Bc4 := Ac3.2 c4
        refine e_iload dX8_match_45 rfl ?_
        exact e_iret dX8_match_47 rfl (by rw [Bc4.1, Bc4.2])
    · have Bc3 := Vh2.2 c3
      refine e_goto (tgt := 51) dX8_match_37 (by decide) ?_
      obtain ⟨h7, Vh7⟩ := Bc3
      refine e_iinc dX8_match_51 (by decide) rfl h7 (ls' := [some (.inr (some 80)), some (.inl x1), none, some (.inl x3), some (.inl (x4 + 1))]) rfl ?_
      refine e_goto (tgt := 15) dX8_match_54 (by decide) ?_
      exact Vh7
set_option maxRecDepth 100000 in
set_option maxHeartbeats 4000000 in
theorem v_X8_kindOf_0 {Γ : GX} {g : AG} {I J : Nat → Nat → Int} {r : Option AV} (hg : GOk g) (u : Nat) (hu : Mt u) (x2 : Int)
    (V : Ev Γ 0 mX8_kindOf 2 [none, some (.inr (some u)), some (.inl x2), some (.inl 0)] [] (g, I) (r, (g, J))) : Ev Γ 0 mX8_kindOf 0 [some (.inr (some 80)), some (.inr (some u)), some (.inl x2), none] [] (g, I) (r, (g, J)) := by
  refine e_iconst dX8_kindOf_0 ⟨by decide, by decide⟩ ?_
  refine e_istore_n dX8_kindOf_1 (by decide) (ls' := [some (.inr (some 80)), some (.inr (some u)), some (.inl x2), some (.inl 0)]) rfl ?_
  refine ev_drop (ls' := [none, some (.inr (some u)), some (.inl x2), some (.inl 0)]) 0 rfl ?_
  exact V
set_option maxRecDepth 100000 in
set_option maxHeartbeats 4000000 in
theorem v_X8_kindOf_2 {Γ : GX} {g : AG} {I J : Nat → Nat → Int} {r : Option AV} (hg : GOk g) (u : Nat) (hu : Mt u) (x2 : Int) (x3 : Int)
    (V : ((((I u 2) ≤ x3)) → (r = some (.inl (-1)) ∧ J = I)) ∧ ((¬ ((I u 2) ≤ x3)) → (((0 : Int) ≤ x3 ∧ (x3 : Int) < 240) ∧ (((¬ ((I (u + 8) x3.toNat) = x2)) → (inR (x3 + 1) ∧ (Ev Γ 0 mX8_kindOf 2 [none, some (.inr (some u)), some (.inl x2), some (.inl (x3 + 1))] [] (g, I) (r, (g, J))))) ∧ ((((I (u + 8) x3.toNat) = x2)) → (((0 : Int) ≤ x3 ∧ (x3 : Int) < 240) ∧ (r = some (.inl (I (u + 2) x3.toNat)) ∧ J = I))))))) : Ev Γ 0 mX8_kindOf 2 [none, some (.inr (some u)), some (.inl x2), some (.inl x3)] [] (g, I) (r, (g, J)) := by
  refine e_iload_n dX8_kindOf_2 rfl ?_
  refine e_aload_n dX8_kindOf_3 rfl ?_
  refine e_geti dX8_kindOf_4 fO_8_122 (mt_pos hu) (mt_s0 hg hu) rfl ?_
  refine e_ic_ge (tgt := 33) dX8_kindOf_7 (by decide) (fun c1 => ?_) (fun c1 => ?_)
  · have Ac1 := V.1 c1
    refine e_iconst dX8_kindOf_33 ⟨by decide, by decide⟩ ?_
    exact e_iret dX8_kindOf_34 rfl (by rw [Ac1.1, Ac1.2])
  · have Bc1 := V.2 c1
    refine e_aload_n dX8_kindOf_10 rfl ?_
    refine e_getr dX8_kindOf_11 fO_8_140 (mt_pos hu) (mt_s0 hg hu) rfl (mt_p8 hg hu) ?_
    refine e_iload_n dX8_kindOf_14 rfl ?_
    obtain ⟨h2, Vh2⟩ := Bc1
    refine e_iald dX8_kindOf_15 (Nat.succ_pos _) (mt_s8 hg hu) h2.1 h2.2 ?_
    refine e_iload_n dX8_kindOf_16 rfl ?_
    refine e_ic_ne (tgt := 27) dX8_kindOf_17 (by decide) (fun c3 => ?_) (fun c3 => ?_)
    · have Ac3 := Vh2.1 c3
      obtain ⟨h4, Vh4⟩ := Ac3
      refine e_iinc dX8_kindOf_27 (by decide) rfl h4 (ls' := [none, some (.inr (some u)), some (.inl x2), some (.inl (x3 + 1))]) rfl ?_
      refine e_goto (tgt := 2) dX8_kindOf_30 (by decide) ?_
      exact Vh4
    · have Bc3 := Vh2.2 c3
      refine e_aload_n dX8_kindOf_20 rfl ?_
      refine e_getr dX8_kindOf_21 fO_8_125 (mt_pos hu) (mt_s0 hg hu) rfl (mt_p2 hg hu) ?_
      refine e_iload_n dX8_kindOf_24 rfl ?_
      obtain ⟨h5, Vh5⟩ := Bc3
      refine e_iald dX8_kindOf_25 (Nat.succ_pos _) (mt_s2 hg hu) h5.1 h5.2 ?_
      exact e_iret dX8_kindOf_26 rfl (by rw [Vh5.1, Vh5.2])
set_option maxRecDepth 100000 in
set_option maxHeartbeats 4000000 in
theorem v_X8_hole_0 {Γ : GX} {g : AG} {I J : Nat → Nat → Int} {r : Option AV} (hg : GOk g) (x1 : Int) (x2 : Int)
    (V : ∀ I1 : Nat → Nat → Int, I1 = mset I 80 0 0 → (∃ (r4 : Int) (J2 : Nat → Nat → Int), CT Γ 0 mX8_isNode [.inr (some 80), .inl x1] (g, I1) (some (.inl r4), (g, J2)) ∧ ((((r4 = 0)) → (r = some (.inl (-1)) ∧ J = J2)) ∧ ((¬ (r4 = 0)) → (∃ (r8 : Int) (J6 : Nat → Nat → Int), CT Γ 0 mX8_isIn [.inl x2, .inl 0, .inl 25] (g, J2) (some (.inl r8), (g, J6)) ∧ ((((r8 = 0)) → (r = some (.inl (-1)) ∧ J = J6)) ∧ ((¬ (r8 = 0)) → (∃ (r12 : Int) (J10 : Nat → Nat → Int), CT Γ 0 mX8_kindOf [.inr (some 80), .inr (some 92), .inl x2] (g, J6) (some (.inl r12), (g, J10)) ∧ ((((r12 = (-1))) → (r = some (.inl (-1)) ∧ J = J10)) ∧ ((¬ (r12 = (-1))) → (∃ (r16 : Int) (J14 : Nat → Nat → Int), CT Γ 901 mX8_isMatched [.inr (some 80), .inl x1] (g, J10) (some (.inl r16), (g, J14)) ∧ (((¬ (r16 = 0)) → (∃ (r20 : Int) (J18 : Nat → Nat → Int), CT Γ 0 mX8_kindOf [.inr (some 80), .inr (some 92), .inl x2] (g, J14) (some (.inl r20), (g, J18)) ∧ (((¬ (r20 = 1)) → (((0 : Int) ≤ x2 ∧ (x2 : Int) < 26) ∧ (((¬ ((J18 143 x2.toNat) = 0)) → (((0 : Int) ≤ x2 ∧ (x2 : Int) < 26) ∧ (r = some (.inl (J18 142 x2.toNat)) ∧ J = J18))) ∧ ((((J18 143 x2.toNat) = 0)) → (r = some (.inl (-1)) ∧ J = J18))))) ∧ (((r20 = 1)) → (((0 : Int) ≤ x2 ∧ (x2 : Int) < 26) ∧ (r = some (.inl (J18 141 x2.toNat)) ∧ J = J18)))))) ∧ (((r16 = 0)) → (r = some (.inl (-1)) ∧ J = J14)))))))))))))) : Ev Γ 902 mX8_hole 0 [some (.inr (some 80)), some (.inl x1), some (.inl x2)] [] (g, I) (r, (g, J)) := by
  refine e_aload_n dX8_hole_0 rfl ?_
  refine e_iconst dX8_hole_1 ⟨by decide, by decide⟩ ?_
  refine e_puti dX8_hole_2 fO_8_103 (by decide) (gs_80 hg) rfl rfl ?_
  refine e_mem (fun I1 eI1 => ?_)
  have WI1 := V I1 eI1
  refine e_aload_n dX8_hole_5 rfl ?_
  refine e_iload_n dX8_hole_6 rfl ?_
  obtain ⟨r4, J2, h3, Vh3⟩ := WI1
  refine e_callv (av := [.inl x1]) (st := []) dX8_hole_7 cO_8_224 oX8_isNode rfl (by decide) (gs_80 hg) rfl (Nat.le_of_ble_eq_true rfl) (by decide) h3 (Nat.le_refl _) (Nat.le_refl _) rfl rfl ?_
  refine e_if_eq (tgt := 44) dX8_hole_10 (by decide) (fun c5 => ?_) (fun c5 => ?_)
  · have Ac5 := Vh3.1 c5
    refine e_iconst dX8_hole_44 ⟨by decide, by decide⟩ ?_
    exact e_iret dX8_hole_45 rfl (by rw [Ac5.1, Ac5.2])
  · have Bc5 := Vh3.2 c5
    refine e_iload_n dX8_hole_13 rfl ?_
    refine e_iconst dX8_hole_14 ⟨by decide, by decide⟩ ?_
    refine e_bipush dX8_hole_15 (by decide) ⟨by decide, by decide⟩ ?_
    obtain ⟨r8, J6, h7, Vh7⟩ := Bc5
    refine e_calls (av := [.inl x2, .inl 0, .inl 25]) (st := []) dX8_hole_17 cO_8_202 oX8_isIn rfl rfl (Nat.le_of_ble_eq_true rfl) (by decide) h7 (Nat.le_refl _) (Nat.le_refl _) rfl rfl ?_
    refine e_if_eq (tgt := 44) dX8_hole_20 (by decide) (fun c9 => ?_) (fun c9 => ?_)
    · have Ac9 := Vh7.1 c9
      refine e_iconst dX8_hole_44 ⟨by decide, by decide⟩ ?_
      exact e_iret dX8_hole_45 rfl (by rw [Ac9.1, Ac9.2])
    · have Bc9 := Vh7.2 c9
      refine e_aload_n dX8_hole_23 rfl ?_
      refine e_aload_n dX8_hole_24 rfl ?_
      refine e_getr dX8_hole_25 fO_8_20 (by decide) (gs_80 hg) rfl (gp_80_4 hg) ?_
      refine e_iload_n dX8_hole_28 rfl ?_
      obtain ⟨r12, J10, h11, Vh11⟩ := Bc9
      refine e_callv (av := [.inr (some 92), .inl x2]) (st := []) dX8_hole_29 cO_8_259 oX8_kindOf rfl (by decide) (gs_80 hg) rfl (Nat.le_of_ble_eq_true rfl) (by decide) h11 (Nat.le_refl _) (Nat.le_refl _) rfl rfl ?_
      refine e_iconst dX8_hole_32 ⟨by decide, by decide⟩ ?_
      refine e_ic_eq (tgt := 44) dX8_hole_33 (by decide) (fun c13 => ?_) (fun c13 => ?_)
      · have Ac13 := Vh11.1 c13
        refine e_iconst dX8_hole_44 ⟨by decide, by decide⟩ ?_
        exact e_iret dX8_hole_45 rfl (by rw [Ac13.1, Ac13.2])
      · have Bc13 := Vh11.2 c13
        refine e_aload_n dX8_hole_36 rfl ?_
        refine e_iload_n dX8_hole_37 rfl ?_
        obtain ⟨r16, J14, h15, Vh15⟩ := Bc13
        refine e_callv (av := [.inl x1]) (st := []) dX8_hole_38 cO_8_253 oX8_isMatched rfl (by decide) (gs_80 hg) rfl (Nat.le_of_ble_eq_true rfl) (by decide) h15 (Nat.le_refl _) (Nat.le_refl _) rfl rfl ?_
        refine e_if_ne (tgt := 46) dX8_hole_41 (by decide) (fun c17 => ?_) (fun c17 => ?_)
        · have Ac17 := Vh15.1 c17
          refine e_aload_n dX8_hole_46 rfl ?_
          refine e_aload_n dX8_hole_47 rfl ?_
          refine e_getr dX8_hole_48 fO_8_20 (by decide) (gs_80 hg) rfl (gp_80_4 hg) ?_
          refine e_iload_n dX8_hole_51 rfl ?_
          obtain ⟨r20, J18, h19, Vh19⟩ := Ac17
          refine e_callv (av := [.inr (some 92), .inl x2]) (st := []) dX8_hole_52 cO_8_259 oX8_kindOf rfl (by decide) (gs_80 hg) rfl (Nat.le_of_ble_eq_true rfl) (by decide) h19 (Nat.le_refl _) (Nat.le_refl _) rfl rfl ?_
          refine e_iconst dX8_hole_55 ⟨by decide, by decide⟩ ?_
          refine e_ic_ne (tgt := 68) dX8_hole_56 (by decide) (fun c21 => ?_) (fun c21 => ?_)
          · have Ac21 := Vh19.1 c21
            refine e_aload_n dX8_hole_68 rfl ?_
            refine e_getr dX8_hole_69 fO_8_67 (by decide) (gs_80 hg) rfl (gp_80_29 hg) ?_
            refine e_iload_n dX8_hole_72 rfl ?_
            obtain ⟨h22, Vh22⟩ := Ac21
            refine e_iald dX8_hole_73 (by decide) (gs_143 hg) h22.1 h22.2 ?_
            refine e_if_ne (tgt := 81) dX8_hole_74 (by decide) (fun c23 => ?_) (fun c23 => ?_)
            · have Ac23 := Vh22.1 c23
              refine e_aload_n dX8_hole_81 rfl ?_
              refine e_getr dX8_hole_82 fO_8_64 (by decide) (gs_80 hg) rfl (gp_80_28 hg) ?_
              refine e_iload_n dX8_hole_85 rfl ?_
              obtain ⟨h24, Vh24⟩ := Ac23
              refine e_iald dX8_hole_86 (by decide) (gs_142 hg) h24.1 h24.2 ?_
              exact e_iret dX8_hole_87 rfl (by rw [Vh24.1, Vh24.2])
            · have Bc23 := Vh22.2 c23
              refine e_iconst dX8_hole_77 ⟨by decide, by decide⟩ ?_
              refine e_goto (tgt := 87) dX8_hole_78 (by decide) ?_
              exact e_iret dX8_hole_87 rfl (by rw [Bc23.1, Bc23.2])
          · have Bc21 := Vh19.2 c21
            refine e_aload_n dX8_hole_59 rfl ?_
            refine e_getr dX8_hole_60 fO_8_61 (by decide) (gs_80 hg) rfl (gp_80_27 hg) ?_
            refine e_iload_n dX8_hole_63 rfl ?_
            obtain ⟨h25, Vh25⟩ := Bc21
            refine e_iald dX8_hole_64 (by decide) (gs_141 hg) h25.1 h25.2 ?_
            refine e_goto (tgt := 87) dX8_hole_65 (by decide) ?_
            exact e_iret dX8_hole_87 rfl (by rw [Vh25.1, Vh25.2])
        · have Bc17 := Vh15.2 c17
          refine e_iconst dX8_hole_44 ⟨by decide, by decide⟩ ?_
          exact e_iret dX8_hole_45 rfl (by rw [Bc17.1, Bc17.2])
set_option maxRecDepth 100000 in
set_option maxHeartbeats 4000000 in
theorem v_X8_row_0 {Γ : GX} {g : AG} {I J : Nat → Nat → Int} {r : Option AV} (hg : GOk g) (x1 : Int) (x2 : Int)
    (V : ∀ I1 : Nat → Nat → Int, I1 = mset I 80 0 0 → (∃ (r4 : Int) (J2 : Nat → Nat → Int), CT Γ 0 mX8_isNode [.inr (some 80), .inl x1] (g, I1) (some (.inl r4), (g, J2)) ∧ ((((r4 = 0)) → (r = some (.inl (-1)) ∧ J = J2)) ∧ ((¬ (r4 = 0)) → (∃ (r8 : Int) (J6 : Nat → Nat → Int), CT Γ 0 mX8_isIn [.inl x2, .inl 0, .inl 25] (g, J2) (some (.inl r8), (g, J6)) ∧ ((((r8 = 0)) → (r = some (.inl (-1)) ∧ J = J6)) ∧ ((¬ (r8 = 0)) → (∃ (r12 : Int) (J10 : Nat → Nat → Int), CT Γ 0 mX8_kindOf [.inr (some 80), .inr (some 92), .inl x2] (g, J6) (some (.inl r12), (g, J10)) ∧ ((((r12 = (-1))) → (r = some (.inl (-1)) ∧ J = J10)) ∧ ((¬ (r12 = (-1))) → (∃ (r16 : Int) (J14 : Nat → Nat → Int), CT Γ 901 mX8_isMatched [.inr (some 80), .inl x1] (g, J10) (some (.inl r16), (g, J14)) ∧ (((¬ (r16 = 0)) → (∃ (r20 : Int) (J18 : Nat → Nat → Int), CT Γ 0 mX8_kindOf [.inr (some 80), .inr (some 92), .inl x2] (g, J14) (some (.inl r20), (g, J18)) ∧ (((¬ (r20 = 1)) → (((0 : Int) ≤ x2 ∧ (x2 : Int) < 26) ∧ (r = some (.inl (J18 143 x2.toNat)) ∧ J = J18))) ∧ (((r20 = 1)) → (r = some (.inl 1) ∧ J = J18))))) ∧ (((r16 = 0)) → (r = some (.inl (-1)) ∧ J = J14)))))))))))))) : Ev Γ 902 mX8_row 0 [some (.inr (some 80)), some (.inl x1), some (.inl x2)] [] (g, I) (r, (g, J)) := by
  refine e_aload_n dX8_row_0 rfl ?_
  refine e_iconst dX8_row_1 ⟨by decide, by decide⟩ ?_
  refine e_puti dX8_row_2 fO_8_103 (by decide) (gs_80 hg) rfl rfl ?_
  refine e_mem (fun I1 eI1 => ?_)
  have WI1 := V I1 eI1
  refine e_aload_n dX8_row_5 rfl ?_
  refine e_iload_n dX8_row_6 rfl ?_
  obtain ⟨r4, J2, h3, Vh3⟩ := WI1
  refine e_callv (av := [.inl x1]) (st := []) dX8_row_7 cO_8_224 oX8_isNode rfl (by decide) (gs_80 hg) rfl (Nat.le_of_ble_eq_true rfl) (by decide) h3 (Nat.le_refl _) (Nat.le_refl _) rfl rfl ?_
  refine e_if_eq (tgt := 44) dX8_row_10 (by decide) (fun c5 => ?_) (fun c5 => ?_)
  · have Ac5 := Vh3.1 c5
    refine e_iconst dX8_row_44 ⟨by decide, by decide⟩ ?_
    exact e_iret dX8_row_45 rfl (by rw [Ac5.1, Ac5.2])
  · have Bc5 := Vh3.2 c5
    refine e_iload_n dX8_row_13 rfl ?_
    refine e_iconst dX8_row_14 ⟨by decide, by decide⟩ ?_
    refine e_bipush dX8_row_15 (by decide) ⟨by decide, by decide⟩ ?_
    obtain ⟨r8, J6, h7, Vh7⟩ := Bc5
    refine e_calls (av := [.inl x2, .inl 0, .inl 25]) (st := []) dX8_row_17 cO_8_202 oX8_isIn rfl rfl (Nat.le_of_ble_eq_true rfl) (by decide) h7 (Nat.le_refl _) (Nat.le_refl _) rfl rfl ?_
    refine e_if_eq (tgt := 44) dX8_row_20 (by decide) (fun c9 => ?_) (fun c9 => ?_)
    · have Ac9 := Vh7.1 c9
      refine e_iconst dX8_row_44 ⟨by decide, by decide⟩ ?_
      exact e_iret dX8_row_45 rfl (by rw [Ac9.1, Ac9.2])
    · have Bc9 := Vh7.2 c9
      refine e_aload_n dX8_row_23 rfl ?_
      refine e_aload_n dX8_row_24 rfl ?_
      refine e_getr dX8_row_25 fO_8_20 (by decide) (gs_80 hg) rfl (gp_80_4 hg) ?_
      refine e_iload_n dX8_row_28 rfl ?_
      obtain ⟨r12, J10, h11, Vh11⟩ := Bc9
      refine e_callv (av := [.inr (some 92), .inl x2]) (st := []) dX8_row_29 cO_8_259 oX8_kindOf rfl (by decide) (gs_80 hg) rfl (Nat.le_of_ble_eq_true rfl) (by decide) h11 (Nat.le_refl _) (Nat.le_refl _) rfl rfl ?_
      refine e_iconst dX8_row_32 ⟨by decide, by decide⟩ ?_
      refine e_ic_eq (tgt := 44) dX8_row_33 (by decide) (fun c13 => ?_) (fun c13 => ?_)
      · have Ac13 := Vh11.1 c13
        refine e_iconst dX8_row_44 ⟨by decide, by decide⟩ ?_
        exact e_iret dX8_row_45 rfl (by rw [Ac13.1, Ac13.2])
      · have Bc13 := Vh11.2 c13
        refine e_aload_n dX8_row_36 rfl ?_
        refine e_iload_n dX8_row_37 rfl ?_
        obtain ⟨r16, J14, h15, Vh15⟩ := Bc13
        refine e_callv (av := [.inl x1]) (st := []) dX8_row_38 cO_8_253 oX8_isMatched rfl (by decide) (gs_80 hg) rfl (Nat.le_of_ble_eq_true rfl) (by decide) h15 (Nat.le_refl _) (Nat.le_refl _) rfl rfl ?_
        refine e_if_ne (tgt := 46) dX8_row_41 (by decide) (fun c17 => ?_) (fun c17 => ?_)
        · have Ac17 := Vh15.1 c17
          refine e_aload_n dX8_row_46 rfl ?_
          refine e_aload_n dX8_row_47 rfl ?_
          refine e_getr dX8_row_48 fO_8_20 (by decide) (gs_80 hg) rfl (gp_80_4 hg) ?_
          refine e_iload_n dX8_row_51 rfl ?_
          obtain ⟨r20, J18, h19, Vh19⟩ := Ac17
          refine e_callv (av := [.inr (some 92), .inl x2]) (st := []) dX8_row_52 cO_8_259 oX8_kindOf rfl (by decide) (gs_80 hg) rfl (Nat.le_of_ble_eq_true rfl) (by decide) h19 (Nat.le_refl _) (Nat.le_refl _) rfl rfl ?_
          refine e_iconst dX8_row_55 ⟨by decide, by decide⟩ ?_
          refine e_ic_ne (tgt := 63) dX8_row_56 (by decide) (fun c21 => ?_) (fun c21 => ?_)
          · have Ac21 := Vh19.1 c21
            refine e_aload_n dX8_row_63 rfl ?_
            refine e_getr dX8_row_64 fO_8_67 (by decide) (gs_80 hg) rfl (gp_80_29 hg) ?_
            refine e_iload_n dX8_row_67 rfl ?_
            obtain ⟨h22, Vh22⟩ := Ac21
            refine e_iald dX8_row_68 (by decide) (gs_143 hg) h22.1 h22.2 ?_
            exact e_iret dX8_row_69 rfl (by rw [Vh22.1, Vh22.2])
          · have Bc21 := Vh19.2 c21
            refine e_iconst dX8_row_59 ⟨by decide, by decide⟩ ?_
            refine e_goto (tgt := 69) dX8_row_60 (by decide) ?_
            exact e_iret dX8_row_69 rfl (by rw [Bc21.1, Bc21.2])
        · have Bc17 := Vh15.2 c17
          refine e_iconst dX8_row_44 ⟨by decide, by decide⟩ ?_
          exact e_iret dX8_row_45 rfl (by rw [Bc17.1, Bc17.2])
set_option maxRecDepth 100000 in
set_option maxHeartbeats 4000000 in
theorem v_X8_takeBy_0 {Γ : GX} {g : AG} {I J : Nat → Nat → Int} {r : Option AV} (hg : GOk g) (x1 : Int)
    (V : ∃ (r3 : Int) (J1 : Nat → Nat → Int), CT Γ 902 mX8_all [.inr (some 80)] (g, I) (some (.inl r3), (g, J1)) ∧ (Ev Γ 903 mX8_takeBy 7 [some (.inr (some 80)), some (.inl x1), none, some (.inl 0), none, none] [] (g, J1) (r, (g, J)))) : Ev Γ 903 mX8_takeBy 0 [some (.inr (some 80)), some (.inl x1), none, none, none, none] [] (g, I) (r, (g, J)) := by
  refine e_aload_n dX8_takeBy_0 rfl ?_
  obtain ⟨r3, J1, h2, Vh2⟩ := V
  refine e_callv (av := []) (st := []) dX8_takeBy_1 cO_8_256 oX8_all rfl (by decide) (gs_80 hg) rfl (Nat.le_of_ble_eq_true rfl) (by decide) h2 (Nat.le_refl _) (Nat.le_refl _) rfl rfl ?_
  refine e_istore_n dX8_takeBy_4 (by decide) (ls' := [some (.inr (some 80)), some (.inl x1), some (.inl r3), none, none, none]) rfl ?_
  refine e_iconst dX8_takeBy_5 ⟨by decide, by decide⟩ ?_
  refine e_istore_n dX8_takeBy_6 (by decide) (ls' := [some (.inr (some 80)), some (.inl x1), some (.inl r3), some (.inl 0), none, none]) rfl ?_
  refine ev_drop (ls' := [some (.inr (some 80)), some (.inl x1), none, some (.inl 0), none, none]) 2 rfl ?_
  exact Vh2
set_option maxRecDepth 100000 in
set_option maxHeartbeats 4000000 in
theorem v_X8_takeBy_7 {Γ : GX} {g : AG} {I J : Nat → Nat → Int} {r : Option AV} (hg : GOk g) (x1 : Int) (x3 : Int)
    (V : ((((I 82 2) ≤ x3)) → ((((2 ≤ x1)) → (inR ((I 82 2) - 1) ∧ (∀ y4 : Int, y4 = ((I 82 2) - 1) → (Ev Γ 903 mX8_takeBy 175 [some (.inr (some 80)), none, none, some (.inl y4), none, none] [] (g, I) (r, (g, J)))))) ∧ ((¬ (2 ≤ x1)) → (Ev Γ 903 mX8_takeBy 38 [some (.inr (some 80)), some (.inl x1), none, some (.inl 0), none, none] [] (g, I) (r, (g, J)))))) ∧ ((¬ ((I 82 2) ≤ x3)) → (((0 : Int) ≤ x3 ∧ (x3 : Int) < 240) ∧ (∀ I5 : Nat → Nat → Int, I5 = mset I 147 x3.toNat 0 → (inR (x3 + 1) ∧ (Ev Γ 903 mX8_takeBy 7 [some (.inr (some 80)), some (.inl x1), none, some (.inl (x3 + 1)), none, none] [] (g, I5) (r, (g, J)))))))) : Ev Γ 903 mX8_takeBy 7 [some (.inr (some 80)), some (.inl x1), none, some (.inl x3), none, none] [] (g, I) (r, (g, J)) := by
  refine e_iload_n dX8_takeBy_7 rfl ?_
  refine e_aload_n dX8_takeBy_8 rfl ?_
  refine e_getr dX8_takeBy_9 fO_8_16 (by decide) (gs_80 hg) rfl (gp_80_3 hg) ?_
  refine e_geti dX8_takeBy_12 fO_8_122 (by decide) (gs_82 hg) rfl ?_
  refine e_ic_ge (tgt := 31) dX8_takeBy_15 (by decide) (fun c1 => ?_) (fun c1 => ?_)
  · have Ac1 := V.1 c1
    refine e_iload_n dX8_takeBy_31 rfl ?_
    refine e_iconst dX8_takeBy_32 ⟨by decide, by decide⟩ ?_
    refine e_ic_ge (tgt := 165) dX8_takeBy_33 (by decide) (fun c2 => ?_) (fun c2 => ?_)
    · have Ac2 := Ac1.1 c2
      refine e_aload_n dX8_takeBy_165 rfl ?_
      refine e_getr dX8_takeBy_166 fO_8_16 (by decide) (gs_80 hg) rfl (gp_80_3 hg) ?_
      refine e_geti dX8_takeBy_169 fO_8_122 (by decide) (gs_82 hg) rfl ?_
      refine e_iconst dX8_takeBy_172 ⟨by decide, by decide⟩ ?_
      obtain ⟨h3, Vh3⟩ := Ac2
      refine e_isub dX8_takeBy_173 h3 ?_
      refine e_top (fun y4 ey4 => ?_)
      have Wy4 := Vh3 y4 ey4
      refine e_istore_n dX8_takeBy_174 (by decide) (ls' := [some (.inr (some 80)), some (.inl x1), none, some (.inl y4), none, none]) rfl ?_
      refine ev_drop (ls' := [some (.inr (some 80)), none, none, some (.inl y4), none, none]) 1 rfl ?_
      exact Wy4
    · have Bc2 := Ac1.2 c2
      refine e_iconst dX8_takeBy_36 ⟨by decide, by decide⟩ ?_
      refine e_istore_n dX8_takeBy_37 (by decide) (ls' := [some (.inr (some 80)), some (.inl x1), none, some (.inl 0), none, none]) rfl ?_
      exact Bc2
  · have Bc1 := V.2 c1
    refine e_aload_n dX8_takeBy_18 rfl ?_
    refine e_getr dX8_takeBy_19 fO_8_79 (by decide) (gs_80 hg) rfl (gp_80_33 hg) ?_
    refine e_iload_n dX8_takeBy_22 rfl ?_
    refine e_iconst dX8_takeBy_23 ⟨by decide, by decide⟩ ?_
    obtain ⟨h6, Vh6⟩ := Bc1
    refine e_zast dX8_takeBy_24 (by decide) (gs_147 hg) h6.1 h6.2 (by decide) ?_
    refine e_mem (fun I5 eI5 => ?_)
    have WI5 := Vh6 I5 eI5
    obtain ⟨h7, Vh7⟩ := WI5
    refine e_iinc dX8_takeBy_25 (by decide) rfl h7 (ls' := [some (.inr (some 80)), some (.inl x1), none, some (.inl (x3 + 1)), none, none]) rfl ?_
    refine e_goto (tgt := 7) dX8_takeBy_28 (by decide) ?_
    exact Vh7
set_option maxRecDepth 100000 in
set_option maxHeartbeats 4000000 in
theorem v_X8_takeBy_175 {Γ : GX} {g : AG} {I J : Nat → Nat → Int} {r : Option AV} (hg : GOk g) (x3 : Int)
    (V : (((x3 < 0)) → (Ev Γ 903 mX8_takeBy 313 [some (.inr (some 80)), none, none, none, none, none] [] (g, I) (r, (g, J)))) ∧ ((¬ (x3 < 0)) → (((0 : Int) ≤ x3 ∧ (x3 : Int) < 240) ∧ (∀ I2 : Nat → Nat → Int, I2 = mset I 148 x3.toNat 0 → (Ev Γ 903 mX8_takeBy 189 [some (.inr (some 80)), none, none, some (.inl x3), some (.inl 0), none] [] (g, I2) (r, (g, J))))))) : Ev Γ 903 mX8_takeBy 175 [some (.inr (some 80)), none, none, some (.inl x3), none, none] [] (g, I) (r, (g, J)) := by
  refine e_iload_n dX8_takeBy_175 rfl ?_
  refine e_if_lt (tgt := 313) dX8_takeBy_176 (by decide) (fun c1 => ?_) (fun c1 => ?_)
  · have Ac1 := V.1 c1
    refine ev_drop (ls' := [some (.inr (some 80)), none, none, none, none, none]) 3 rfl ?_
    exact Ac1
  · have Bc1 := V.2 c1
    refine e_aload_n dX8_takeBy_179 rfl ?_
    refine e_getr dX8_takeBy_180 fO_8_82 (by decide) (gs_80 hg) rfl (gp_80_34 hg) ?_
    refine e_iload_n dX8_takeBy_183 rfl ?_
    refine e_iconst dX8_takeBy_184 ⟨by decide, by decide⟩ ?_
    obtain ⟨h3, Vh3⟩ := Bc1
    refine e_iast dX8_takeBy_185 (by decide) (gs_148 hg) h3.1 h3.2 ?_
    refine e_mem (fun I2 eI2 => ?_)
    have WI2 := Vh3 I2 eI2
    refine e_iconst dX8_takeBy_186 ⟨by decide, by decide⟩ ?_
    refine e_istore dX8_takeBy_187 (by decide) (ls' := [some (.inr (some 80)), none, none, some (.inl x3), some (.inl 0), none]) rfl ?_
    exact WI2
set_option maxRecDepth 100000 in
set_option maxHeartbeats 4000000 in
theorem v_X8_takeBy_38 {Γ : GX} {g : AG} {I J : Nat → Nat → Int} {r : Option AV} (hg : GOk g) (x1 : Int) (x3 : Int)
    (V : ((((I 82 2) ≤ x3)) → (Ev Γ 903 mX8_takeBy 313 [some (.inr (some 80)), none, none, none, none, none] [] (g, I) (r, (g, J)))) ∧ ((¬ ((I 82 2) ≤ x3)) → (((0 : Int) ≤ x3 ∧ (x3 : Int) < 240) ∧ (((¬ ((I 146 x3.toNat) = 0)) → (Ev Γ 903 mX8_takeBy 67 [some (.inr (some 80)), some (.inl x1), none, some (.inl x3), some (.inl 0), some (.inl 0)] [] (g, I) (r, (g, J)))) ∧ ((((I 146 x3.toNat) = 0)) → (Ev Γ 903 mX8_takeBy 156 [some (.inr (some 80)), some (.inl x1), none, some (.inl x3), none, none] [] (g, I) (r, (g, J)))))))) : Ev Γ 903 mX8_takeBy 38 [some (.inr (some 80)), some (.inl x1), none, some (.inl x3), none, none] [] (g, I) (r, (g, J)) := by
  refine e_iload_n dX8_takeBy_38 rfl ?_
  refine e_aload_n dX8_takeBy_39 rfl ?_
  refine e_getr dX8_takeBy_40 fO_8_16 (by decide) (gs_80 hg) rfl (gp_80_3 hg) ?_
  refine e_geti dX8_takeBy_43 fO_8_122 (by decide) (gs_82 hg) rfl ?_
  refine e_ic_ge (tgt := 162) dX8_takeBy_46 (by decide) (fun c1 => ?_) (fun c1 => ?_)
  · have Ac1 := V.1 c1
    refine e_goto (tgt := 313) dX8_takeBy_162 (by decide) ?_
    refine ev_drop (ls' := [some (.inr (some 80)), none, none, some (.inl x3), none, none]) 1 rfl ?_
    refine ev_drop (ls' := [some (.inr (some 80)), none, none, none, none, none]) 3 rfl ?_
    exact Ac1
  · have Bc1 := V.2 c1
    refine e_aload_n dX8_takeBy_49 rfl ?_
    refine e_getr dX8_takeBy_50 fO_8_76 (by decide) (gs_80 hg) rfl (gp_80_32 hg) ?_
    refine e_iload_n dX8_takeBy_53 rfl ?_
    obtain ⟨h2, Vh2⟩ := Bc1
    refine e_zald dX8_takeBy_54 (by decide) (gs_146 hg) h2.1 h2.2 ?_
    refine e_if_ne (tgt := 61) dX8_takeBy_55 (by decide) (fun c3 => ?_) (fun c3 => ?_)
    · have Ac3 := Vh2.1 c3
      refine e_iconst dX8_takeBy_61 ⟨by decide, by decide⟩ ?_
      refine e_istore dX8_takeBy_62 (by decide) (ls' := [some (.inr (some 80)), some (.inl x1), none, some (.inl x3), some (.inl 0), none]) rfl ?_
      refine e_iconst dX8_takeBy_64 ⟨by decide, by decide⟩ ?_
      refine e_istore dX8_takeBy_65 (by decide) (ls' := [some (.inr (some 80)), some (.inl x1), none, some (.inl x3), some (.inl 0), some (.inl 0)]) rfl ?_
      exact Ac3
    · have Bc3 := Vh2.2 c3
      refine e_goto (tgt := 156) dX8_takeBy_58 (by decide) ?_
      exact Bc3
set_option maxRecDepth 100000 in
set_option maxHeartbeats 4000000 in
theorem v_X8_takeBy_313 {Γ : GX} {g : AG} {I J : Nat → Nat → Int} {r : Option AV} (hg : GOk g) 
    (V : Ev Γ 903 mX8_takeBy 318 [some (.inr (some 80)), none, none, some (.inl 0), some (.inl 0), none] [] (g, I) (r, (g, J))) : Ev Γ 903 mX8_takeBy 313 [some (.inr (some 80)), none, none, none, none, none] [] (g, I) (r, (g, J)) := by
  refine e_iconst dX8_takeBy_313 ⟨by decide, by decide⟩ ?_
  refine e_istore_n dX8_takeBy_314 (by decide) (ls' := [some (.inr (some 80)), none, none, some (.inl 0), none, none]) rfl ?_
  refine e_iconst dX8_takeBy_315 ⟨by decide, by decide⟩ ?_
  refine e_istore dX8_takeBy_316 (by decide) (ls' := [some (.inr (some 80)), none, none, some (.inl 0), some (.inl 0), none]) rfl ?_
  exact V
set_option maxRecDepth 100000 in
set_option maxHeartbeats 4000000 in
theorem v_X8_takeBy_189 {Γ : GX} {g : AG} {I J : Nat → Nat → Int} {r : Option AV} (hg : GOk g) (x3 : Int) (x4 : Int)
    (V : ((0 : Int) ≤ x3 ∧ (x3 : Int) < 240) ∧ (((((I 88 x3.toNat) ≤ x4)) → (((0 : Int) ≤ x3 ∧ (x3 : Int) < 240) ∧ (((((I 146 x3.toNat) = 0)) → (Ev Γ 903 mX8_takeBy 307 [some (.inr (some 80)), none, none, some (.inl x3), none, none] [] (g, I) (r, (g, J)))) ∧ ((¬ ((I 146 x3.toNat) = 0)) → (((0 : Int) ≤ x3 ∧ (x3 : Int) < 240) ∧ ((((1 < (I 148 x3.toNat))) → (Ev Γ 903 mX8_takeBy 307 [some (.inr (some 80)), none, none, some (.inl x3), none, none] [] (g, I) (r, (g, J)))) ∧ ((¬ (1 < (I 148 x3.toNat))) → (((0 : Int) ≤ x3 ∧ (x3 : Int) < 240) ∧ (∀ I7 : Nat → Nat → Int, I7 = mset I 148 x3.toNat 1 → (inR (x3 + 1) ∧ (∀ y10 : Int, y10 = (x3 + 1) → (Ev Γ 903 mX8_takeBy 264 [some (.inr (some 80)), none, none, some (.inl x3), some (.inl y10), none] [] (g, I7) (r, (g, J)))))))))))))) ∧ ((¬ ((I 88 x3.toNat) ≤ x4)) → (((0 : Int) ≤ x3 ∧ (x3 : Int) < 240) ∧ (∃ (r14 : Int) (J12 : Nat → Nat → Int), CT Γ 0 mX7_term [.inr (some 82), .inl x3, .inl x4] (g, I) (some (.inl r14), (g, J12)) ∧ (((0 : Int) ≤ r14 ∧ (r14 : Int) < 240) ∧ (inR ((I 148 x3.toNat) + (J12 148 r14.toNat)) ∧ (((0 : Int) ≤ x3 ∧ (x3 : Int) < 240) ∧ (∀ I17 : Nat → Nat → Int, I17 = mset J12 148 x3.toNat ((I 148 x3.toNat) + (J12 148 r14.toNat)) → (inR (x4 + 1) ∧ (Ev Γ 903 mX8_takeBy 189 [some (.inr (some 80)), none, none, some (.inl x3), some (.inl (x4 + 1)), none] [] (g, I17) (r, (g, J))))))))))))) : Ev Γ 903 mX8_takeBy 189 [some (.inr (some 80)), none, none, some (.inl x3), some (.inl x4), none] [] (g, I) (r, (g, J)) := by
  refine e_iload dX8_takeBy_189 rfl ?_
  refine e_aload_n dX8_takeBy_191 rfl ?_
  refine e_getr dX8_takeBy_192 fO_8_16 (by decide) (gs_80 hg) rfl (gp_80_3 hg) ?_
  refine e_getr dX8_takeBy_195 fO_8_134 (by decide) (gs_82 hg) rfl (gp_82_7 hg) ?_
  refine e_iload_n dX8_takeBy_198 rfl ?_
  obtain ⟨h1, Vh1⟩ := V
  refine e_iald dX8_takeBy_199 (by decide) (gs_88 hg) h1.1 h1.2 ?_
  refine e_ic_ge (tgt := 233) dX8_takeBy_200 (by decide) (fun c2 => ?_) (fun c2 => ?_)
  · have Ac2 := Vh1.1 c2
    refine e_aload_n dX8_takeBy_233 rfl ?_
    refine e_getr dX8_takeBy_234 fO_8_76 (by decide) (gs_80 hg) rfl (gp_80_32 hg) ?_
    refine e_iload_n dX8_takeBy_237 rfl ?_
    obtain ⟨h3, Vh3⟩ := Ac2
    refine e_zald dX8_takeBy_238 (by decide) (gs_146 hg) h3.1 h3.2 ?_
    refine e_if_eq (tgt := 307) dX8_takeBy_239 (by decide) (fun c4 => ?_) (fun c4 => ?_)
    · have Ac4 := Vh3.1 c4
      refine ev_drop (ls' := [some (.inr (some 80)), none, none, some (.inl x3), none, none]) 4 rfl ?_
      exact Ac4
    · have Bc4 := Vh3.2 c4
      refine e_aload_n dX8_takeBy_242 rfl ?_
      refine e_getr dX8_takeBy_243 fO_8_82 (by decide) (gs_80 hg) rfl (gp_80_34 hg) ?_
      refine e_iload_n dX8_takeBy_246 rfl ?_
      obtain ⟨h5, Vh5⟩ := Bc4
      refine e_iald dX8_takeBy_247 (by decide) (gs_148 hg) h5.1 h5.2 ?_
      refine e_iconst dX8_takeBy_248 ⟨by decide, by decide⟩ ?_
      refine e_ic_gt (tgt := 307) dX8_takeBy_249 (by decide) (fun c6 => ?_) (fun c6 => ?_)
      · have Ac6 := Vh5.1 c6
        refine ev_drop (ls' := [some (.inr (some 80)), none, none, some (.inl x3), none, none]) 4 rfl ?_
        exact Ac6
      · have Bc6 := Vh5.2 c6
        refine e_aload_n dX8_takeBy_252 rfl ?_
        refine e_getr dX8_takeBy_253 fO_8_82 (by decide) (gs_80 hg) rfl (gp_80_34 hg) ?_
        refine e_iload_n dX8_takeBy_256 rfl ?_
        refine e_iconst dX8_takeBy_257 ⟨by decide, by decide⟩ ?_
        obtain ⟨h8, Vh8⟩ := Bc6
        refine e_iast dX8_takeBy_258 (by decide) (gs_148 hg) h8.1 h8.2 ?_
        refine e_mem (fun I7 eI7 => ?_)
        have WI7 := Vh8 I7 eI7
        refine e_iload_n dX8_takeBy_259 rfl ?_
        refine e_iconst dX8_takeBy_260 ⟨by decide, by decide⟩ ?_
        obtain ⟨h9, Vh9⟩ := WI7
        refine e_iadd dX8_takeBy_261 h9 ?_
        refine e_top (fun y10 ey10 => ?_)
        have Wy10 := Vh9 y10 ey10
        refine e_istore dX8_takeBy_262 (by decide) (ls' := [some (.inr (some 80)), none, none, some (.inl x3), some (.inl y10), none]) rfl ?_
        exact Wy10
  · have Bc2 := Vh1.2 c2
    refine e_aload_n dX8_takeBy_203 rfl ?_
    refine e_getr dX8_takeBy_204 fO_8_82 (by decide) (gs_80 hg) rfl (gp_80_34 hg) ?_
    refine e_iload_n dX8_takeBy_207 rfl ?_
    refine e_dup2 dX8_takeBy_208 ?_
    obtain ⟨h11, Vh11⟩ := Bc2
    refine e_iald dX8_takeBy_209 (by decide) (gs_148 hg) h11.1 h11.2 ?_
    refine e_aload_n dX8_takeBy_210 rfl ?_
    refine e_getr dX8_takeBy_211 fO_8_82 (by decide) (gs_80 hg) rfl (gp_80_34 hg) ?_
    refine e_aload_n dX8_takeBy_214 rfl ?_
    refine e_getr dX8_takeBy_215 fO_8_16 (by decide) (gs_80 hg) rfl (gp_80_3 hg) ?_
    refine e_iload_n dX8_takeBy_218 rfl ?_
    refine e_iload dX8_takeBy_219 rfl ?_
    obtain ⟨r14, J12, h13, Vh13⟩ := Vh11
    refine e_callv (av := [.inl x3, .inl x4]) (st := [.inr (some 148), .inl (I 148 x3.toNat), .inl x3, .inr (some 148)]) dX8_takeBy_221 cO_8_219 oX7_term rfl (by decide) (gs_82 hg) rfl (Nat.le_of_ble_eq_true rfl) (by decide) h13 (Nat.le_refl _) (Nat.le_refl _) rfl rfl ?_
    obtain ⟨h15, Vh15⟩ := Vh13
    refine e_iald dX8_takeBy_224 (by decide) (gs_148 hg) h15.1 h15.2 ?_
    obtain ⟨h16, Vh16⟩ := Vh15
    refine e_iadd dX8_takeBy_225 h16 ?_
    obtain ⟨h18, Vh18⟩ := Vh16
    refine e_iast dX8_takeBy_226 (by decide) (gs_148 hg) h18.1 h18.2 ?_
    refine e_mem (fun I17 eI17 => ?_)
    have WI17 := Vh18 I17 eI17
    obtain ⟨h19, Vh19⟩ := WI17
    refine e_iinc dX8_takeBy_227 (by decide) rfl h19 (ls' := [some (.inr (some 80)), none, none, some (.inl x3), some (.inl (x4 + 1)), none]) rfl ?_
    refine e_goto (tgt := 189) dX8_takeBy_230 (by decide) ?_
    exact Vh19
set_option maxRecDepth 100000 in
set_option maxHeartbeats 4000000 in
theorem v_X8_takeBy_67 {Γ : GX} {g : AG} {I J : Nat → Nat → Int} {r : Option AV} (hg : GOk g) (x1 : Int) (x3 : Int) (x4 : Int) (x5 : Int)
    (V : ((((I 82 2) ≤ x5)) → (((¬ (x4 = 0)) → (((0 : Int) ≤ x3 ∧ (x3 : Int) < 240) ∧ (∀ I3 : Nat → Nat → Int, I3 = mset I 147 x3.toNat 0 → (Ev Γ 903 mX8_takeBy 156 [some (.inr (some 80)), some (.inl x1), none, some (.inl x3), none, none] [] (g, I3) (r, (g, J)))))) ∧ (((x4 = 0)) → (((0 : Int) ≤ x3 ∧ (x3 : Int) < 240) ∧ (∀ I5 : Nat → Nat → Int, I5 = mset I 147 x3.toNat 1 → (Ev Γ 903 mX8_takeBy 156 [some (.inr (some 80)), some (.inl x1), none, some (.inl x3), none, none] [] (g, I5) (r, (g, J)))))))) ∧ ((¬ ((I 82 2) ≤ x5)) → (((¬ (x4 = 0)) → (Ev Γ 903 mX8_takeBy 127 [some (.inr (some 80)), some (.inl x1), none, some (.inl x3), none, some (.inl x5)] [] (g, I) (r, (g, J)))) ∧ (((x4 = 0)) → ((((x5 = x3)) → (Ev Γ 903 mX8_takeBy 131 [some (.inr (some 80)), some (.inl x1), none, some (.inl x3), none, some (.inl x5)] [] (g, I) (r, (g, J)))) ∧ ((¬ (x5 = x3)) → (((0 : Int) ≤ x5 ∧ (x5 : Int) < 240) ∧ (((((I 146 x5.toNat) = 0)) → (Ev Γ 903 mX8_takeBy 131 [some (.inr (some 80)), some (.inl x1), none, some (.inl x3), none, some (.inl x5)] [] (g, I) (r, (g, J)))) ∧ ((¬ ((I 146 x5.toNat) = 0)) → (((¬ (x1 = 0)) → (∃ (r14 : Int) (J12 : Nat → Nat → Int), CT Γ 0 mX8_isWithin [.inr (some 80), .inl x5, .inl x3] (g, I) (some (.inl r14), (g, J12)) ∧ ((((r14 = 0)) → (Ev Γ 903 mX8_takeBy 131 [some (.inr (some 80)), some (.inl x1), none, some (.inl x3), none, some (.inl x5)] [] (g, J12) (r, (g, J)))) ∧ ((¬ (r14 = 0)) → (Ev Γ 903 mX8_takeBy 127 [some (.inr (some 80)), some (.inl x1), none, some (.inl x3), none, some (.inl x5)] [] (g, J12) (r, (g, J))))))) ∧ (((x1 = 0)) → (∃ (r18 : Int) (J16 : Nat → Nat → Int), CT Γ 0 mX8_isWithin [.inr (some 80), .inl x3, .inl x5] (g, I) (some (.inl r18), (g, J16)) ∧ ((((r18 = 0)) → (Ev Γ 903 mX8_takeBy 131 [some (.inr (some 80)), some (.inl x1), none, some (.inl x3), none, some (.inl x5)] [] (g, J16) (r, (g, J)))) ∧ ((¬ (r18 = 0)) → (Ev Γ 903 mX8_takeBy 127 [some (.inr (some 80)), some (.inl x1), none, some (.inl x3), none, some (.inl x5)] [] (g, J16) (r, (g, J))))))))))))))))) : Ev Γ 903 mX8_takeBy 67 [some (.inr (some 80)), some (.inl x1), none, some (.inl x3), some (.inl x4), some (.inl x5)] [] (g, I) (r, (g, J)) := by
  refine e_iload dX8_takeBy_67 rfl ?_
  refine e_aload_n dX8_takeBy_69 rfl ?_
  refine e_getr dX8_takeBy_70 fO_8_16 (by decide) (gs_80 hg) rfl (gp_80_3 hg) ?_
  refine e_geti dX8_takeBy_73 fO_8_122 (by decide) (gs_82 hg) rfl ?_
  refine e_ic_ge (tgt := 140) dX8_takeBy_76 (by decide) (fun c1 => ?_) (fun c1 => ?_)
  · have Ac1 := V.1 c1
    refine e_aload_n dX8_takeBy_140 rfl ?_
    refine e_getr dX8_takeBy_141 fO_8_79 (by decide) (gs_80 hg) rfl (gp_80_33 hg) ?_
    refine e_iload_n dX8_takeBy_144 rfl ?_
    refine e_iload dX8_takeBy_145 rfl ?_
    refine e_if_ne (tgt := 154) dX8_takeBy_147 (by decide) (fun c2 => ?_) (fun c2 => ?_)
    · have Ac2 := Ac1.1 c2
      refine e_iconst dX8_takeBy_154 ⟨by decide, by decide⟩ ?_
      obtain ⟨h4, Vh4⟩ := Ac2
      refine e_zast dX8_takeBy_155 (by decide) (gs_147 hg) h4.1 h4.2 (by decide) ?_
      refine e_mem (fun I3 eI3 => ?_)
      have WI3 := Vh4 I3 eI3
      refine ev_drop (ls' := [some (.inr (some 80)), some (.inl x1), none, some (.inl x3), none, some (.inl x5)]) 4 rfl ?_
      refine ev_drop (ls' := [some (.inr (some 80)), some (.inl x1), none, some (.inl x3), none, none]) 5 rfl ?_
      exact WI3
    · have Bc2 := Ac1.2 c2
      refine e_iconst dX8_takeBy_150 ⟨by decide, by decide⟩ ?_
      refine e_goto (tgt := 155) dX8_takeBy_151 (by decide) ?_
      obtain ⟨h6, Vh6⟩ := Bc2
      refine e_zast dX8_takeBy_155 (by decide) (gs_147 hg) h6.1 h6.2 (by decide) ?_
      refine e_mem (fun I5 eI5 => ?_)
      have WI5 := Vh6 I5 eI5
      refine ev_drop (ls' := [some (.inr (some 80)), some (.inl x1), none, some (.inl x3), none, some (.inl x5)]) 4 rfl ?_
      refine ev_drop (ls' := [some (.inr (some 80)), some (.inl x1), none, some (.inl x3), none, none]) 5 rfl ?_
      exact WI5
  · have Bc1 := V.2 c1
    refine e_iload dX8_takeBy_79 rfl ?_
    refine e_if_ne (tgt := 127) dX8_takeBy_81 (by decide) (fun c7 => ?_) (fun c7 => ?_)
    · have Ac7 := Bc1.1 c7
      refine ev_drop (ls' := [some (.inr (some 80)), some (.inl x1), none, some (.inl x3), none, some (.inl x5)]) 4 rfl ?_
      exact Ac7
    · have Bc7 := Bc1.2 c7
      refine e_iload dX8_takeBy_84 rfl ?_
      refine e_iload_n dX8_takeBy_86 rfl ?_
      refine e_ic_eq (tgt := 131) dX8_takeBy_87 (by decide) (fun c8 => ?_) (fun c8 => ?_)
      · have Ac8 := Bc7.1 c8
        refine ev_drop (ls' := [some (.inr (some 80)), some (.inl x1), none, some (.inl x3), none, some (.inl x5)]) 4 rfl ?_
        exact Ac8
      · have Bc8 := Bc7.2 c8
        refine e_aload_n dX8_takeBy_90 rfl ?_
        refine e_getr dX8_takeBy_91 fO_8_76 (by decide) (gs_80 hg) rfl (gp_80_32 hg) ?_
        refine e_iload dX8_takeBy_94 rfl ?_
        obtain ⟨h9, Vh9⟩ := Bc8
        refine e_zald dX8_takeBy_96 (by decide) (gs_146 hg) h9.1 h9.2 ?_
        refine e_if_eq (tgt := 131) dX8_takeBy_97 (by decide) (fun c10 => ?_) (fun c10 => ?_)
        · have Ac10 := Vh9.1 c10
          refine ev_drop (ls' := [some (.inr (some 80)), some (.inl x1), none, some (.inl x3), none, some (.inl x5)]) 4 rfl ?_
          exact Ac10
        · have Bc10 := Vh9.2 c10
          refine e_iload_n dX8_takeBy_100 rfl ?_
          refine e_if_ne (tgt := 117) dX8_takeBy_101 (by decide) (fun c11 => ?_) (fun c11 => ?_)
          · have Ac11 := Bc10.1 c11
            refine e_aload_n dX8_takeBy_117 rfl ?_
            refine e_iload dX8_takeBy_118 rfl ?_
            refine e_iload_n dX8_takeBy_120 rfl ?_
            obtain ⟨r14, J12, h13, Vh13⟩ := Ac11
            refine e_callv (av := [.inl x5, .inl x3]) (st := []) dX8_takeBy_121 cO_8_246 oX8_isWithin rfl (by decide) (gs_80 hg) rfl (Nat.le_of_ble_eq_true rfl) (by decide) h13 (Nat.le_refl _) (Nat.le_refl _) rfl rfl ?_
            refine e_if_eq (tgt := 131) dX8_takeBy_124 (by decide) (fun c15 => ?_) (fun c15 => ?_)
            · have Ac15 := Vh13.1 c15
              refine ev_drop (ls' := [some (.inr (some 80)), some (.inl x1), none, some (.inl x3), none, some (.inl x5)]) 4 rfl ?_
              exact Ac15
            · have Bc15 := Vh13.2 c15
              refine ev_drop (ls' := [some (.inr (some 80)), some (.inl x1), none, some (.inl x3), none, some (.inl x5)]) 4 rfl ?_
              exact Bc15
          · have Bc11 := Bc10.2 c11
            refine e_aload_n dX8_takeBy_104 rfl ?_
            refine e_iload_n dX8_takeBy_105 rfl ?_
            refine e_iload dX8_takeBy_106 rfl ?_
            obtain ⟨r18, J16, h17, Vh17⟩ := Bc11
            refine e_callv (av := [.inl x3, .inl x5]) (st := []) dX8_takeBy_108 cO_8_246 oX8_isWithin rfl (by decide) (gs_80 hg) rfl (Nat.le_of_ble_eq_true rfl) (by decide) h17 (Nat.le_refl _) (Nat.le_refl _) rfl rfl ?_
            refine e_if_eq (tgt := 131) dX8_takeBy_111 (by decide) (fun c19 => ?_) (fun c19 => ?_)
            · have Ac19 := Vh17.1 c19
              refine ev_drop (ls' := [some (.inr (some 80)), some (.inl x1), none, some (.inl x3), none, some (.inl x5)]) 4 rfl ?_
              exact Ac19
            · have Bc19 := Vh17.2 c19
              refine e_goto (tgt := 127) dX8_takeBy_114 (by decide) ?_
              refine ev_drop (ls' := [some (.inr (some 80)), some (.inl x1), none, some (.inl x3), none, some (.inl x5)]) 4 rfl ?_
              exact Bc19
set_option maxRecDepth 100000 in
set_option maxHeartbeats 4000000 in
theorem v_X8_takeBy_156 {Γ : GX} {g : AG} {I J : Nat → Nat → Int} {r : Option AV} (hg : GOk g) (x1 : Int) (x3 : Int)
    (V : inR (x3 + 1) ∧ (Ev Γ 903 mX8_takeBy 38 [some (.inr (some 80)), some (.inl x1), none, some (.inl (x3 + 1)), none, none] [] (g, I) (r, (g, J)))) : Ev Γ 903 mX8_takeBy 156 [some (.inr (some 80)), some (.inl x1), none, some (.inl x3), none, none] [] (g, I) (r, (g, J)) := by
  obtain ⟨h1, Vh1⟩ := V
  refine e_iinc dX8_takeBy_156 (by decide) rfl h1 (ls' := [some (.inr (some 80)), some (.inl x1), none, some (.inl (x3 + 1)), none, none]) rfl ?_
  refine e_goto (tgt := 38) dX8_takeBy_159 (by decide) ?_
  exact Vh1
set_option maxRecDepth 100000 in
set_option maxHeartbeats 4000000 in
theorem v_X8_takeBy_318 {Γ : GX} {g : AG} {I J : Nat → Nat → Int} {r : Option AV} (hg : GOk g) (x3 : Int) (x4 : Int)
    (V : ((((I 82 2) ≤ x4)) → (r = some (.inl x3) ∧ J = I)) ∧ ((¬ ((I 82 2) ≤ x4)) → (((0 : Int) ≤ x4 ∧ (x4 : Int) < 240) ∧ (((((I 147 x4.toNat) = 0)) → (inR (x3 + 0) ∧ (∀ y5 : Int, y5 = (x3 + 0) → (inR (x4 + 1) ∧ (Ev Γ 903 mX8_takeBy 318 [some (.inr (some 80)), none, none, some (.inl y5), some (.inl (x4 + 1)), none] [] (g, I) (r, (g, J))))))) ∧ ((¬ ((I 147 x4.toNat) = 0)) → (inR (x3 + 1) ∧ (∀ y8 : Int, y8 = (x3 + 1) → (inR (x4 + 1) ∧ (Ev Γ 903 mX8_takeBy 318 [some (.inr (some 80)), none, none, some (.inl y8), some (.inl (x4 + 1)), none] [] (g, I) (r, (g, J))))))))))) : Ev Γ 903 mX8_takeBy 318 [some (.inr (some 80)), none, none, some (.inl x3), some (.inl x4), none] [] (g, I) (r, (g, J)) := by
  refine e_iload dX8_takeBy_318 rfl ?_
  refine e_aload_n dX8_takeBy_320 rfl ?_
  refine e_getr dX8_takeBy_321 fO_8_16 (by decide) (gs_80 hg) rfl (gp_80_3 hg) ?_
  refine e_geti dX8_takeBy_324 fO_8_122 (by decide) (gs_82 hg) rfl ?_
  refine e_ic_ge (tgt := 354) dX8_takeBy_327 (by decide) (fun c1 => ?_) (fun c1 => ?_)
  · have Ac1 := V.1 c1
    refine e_iload_n dX8_takeBy_354 rfl ?_
    exact e_iret dX8_takeBy_355 rfl (by rw [Ac1.1, Ac1.2])
  · have Bc1 := V.2 c1
    refine e_iload_n dX8_takeBy_330 rfl ?_
    refine e_aload_n dX8_takeBy_331 rfl ?_
    refine e_getr dX8_takeBy_332 fO_8_79 (by decide) (gs_80 hg) rfl (gp_80_33 hg) ?_
    refine e_iload dX8_takeBy_335 rfl ?_
    obtain ⟨h2, Vh2⟩ := Bc1
    refine e_zald dX8_takeBy_337 (by decide) (gs_147 hg) h2.1 h2.2 ?_
    refine e_if_eq (tgt := 345) dX8_takeBy_338 (by decide) (fun c3 => ?_) (fun c3 => ?_)
    · have Ac3 := Vh2.1 c3
      refine e_iconst dX8_takeBy_345 ⟨by decide, by decide⟩ ?_
      obtain ⟨h4, Vh4⟩ := Ac3
      refine e_iadd dX8_takeBy_346 h4 ?_
      refine e_top (fun y5 ey5 => ?_)
      have Wy5 := Vh4 y5 ey5
      refine e_istore_n dX8_takeBy_347 (by decide) (ls' := [some (.inr (some 80)), none, none, some (.inl y5), some (.inl x4), none]) rfl ?_
      obtain ⟨h6, Vh6⟩ := Wy5
      refine e_iinc dX8_takeBy_348 (by decide) rfl h6 (ls' := [some (.inr (some 80)), none, none, some (.inl y5), some (.inl (x4 + 1)), none]) rfl ?_
      refine e_goto (tgt := 318) dX8_takeBy_351 (by decide) ?_
      exact Vh6
    · have Bc3 := Vh2.2 c3
      refine e_iconst dX8_takeBy_341 ⟨by decide, by decide⟩ ?_
      refine e_goto (tgt := 346) dX8_takeBy_342 (by decide) ?_
      obtain ⟨h7, Vh7⟩ := Bc3
      refine e_iadd dX8_takeBy_346 h7 ?_
      refine e_top (fun y8 ey8 => ?_)
      have Wy8 := Vh7 y8 ey8
      refine e_istore_n dX8_takeBy_347 (by decide) (ls' := [some (.inr (some 80)), none, none, some (.inl y8), some (.inl x4), none]) rfl ?_
      obtain ⟨h9, Vh9⟩ := Wy8
      refine e_iinc dX8_takeBy_348 (by decide) rfl h9 (ls' := [some (.inr (some 80)), none, none, some (.inl y8), some (.inl (x4 + 1)), none]) rfl ?_
      refine e_goto (tgt := 318) dX8_takeBy_351 (by decide) ?_
      exact Vh9
set_option maxRecDepth 100000 in
set_option maxHeartbeats 4000000 in
theorem v_X8_takeBy_307 {Γ : GX} {g : AG} {I J : Nat → Nat → Int} {r : Option AV} (hg : GOk g) (x3 : Int)
    (V : inR (x3 + (-1)) ∧ (Ev Γ 903 mX8_takeBy 175 [some (.inr (some 80)), none, none, some (.inl (x3 + (-1))), none, none] [] (g, I) (r, (g, J)))) : Ev Γ 903 mX8_takeBy 307 [some (.inr (some 80)), none, none, some (.inl x3), none, none] [] (g, I) (r, (g, J)) := by
  obtain ⟨h1, Vh1⟩ := V
  refine e_iinc dX8_takeBy_307 (by decide) rfl h1 (ls' := [some (.inr (some 80)), none, none, some (.inl (x3 + (-1))), none, none]) rfl ?_
  refine e_goto (tgt := 175) dX8_takeBy_310 (by decide) ?_
  exact Vh1
set_option maxRecDepth 100000 in
set_option maxHeartbeats 4000000 in
theorem v_X8_takeBy_264 {Γ : GX} {g : AG} {I J : Nat → Nat → Int} {r : Option AV} (hg : GOk g) (x3 : Int) (x4 : Int)
    (V : ((((I 82 2) ≤ x4)) → (Ev Γ 903 mX8_takeBy 300 [some (.inr (some 80)), none, none, some (.inl x3), none, none] [] (g, I) (r, (g, J)))) ∧ ((¬ ((I 82 2) ≤ x4)) → (∃ (r4 : Int) (J2 : Nat → Nat → Int), CT Γ 0 mX8_isWithin [.inr (some 80), .inl x4, .inl x3] (g, I) (some (.inl r4), (g, J2)) ∧ ((((r4 = 0)) → (Ev Γ 903 mX8_takeBy 300 [some (.inr (some 80)), none, none, some (.inl x3), none, none] [] (g, J2) (r, (g, J)))) ∧ ((¬ (r4 = 0)) → (((0 : Int) ≤ x4 ∧ (x4 : Int) < 240) ∧ (∀ I6 : Nat → Nat → Int, I6 = mset J2 147 x4.toNat 0 → (inR (x4 + 1) ∧ (Ev Γ 903 mX8_takeBy 264 [some (.inr (some 80)), none, none, some (.inl x3), some (.inl (x4 + 1)), none] [] (g, I6) (r, (g, J))))))))))) : Ev Γ 903 mX8_takeBy 264 [some (.inr (some 80)), none, none, some (.inl x3), some (.inl x4), none] [] (g, I) (r, (g, J)) := by
  refine e_iload dX8_takeBy_264 rfl ?_
  refine e_aload_n dX8_takeBy_266 rfl ?_
  refine e_getr dX8_takeBy_267 fO_8_16 (by decide) (gs_80 hg) rfl (gp_80_3 hg) ?_
  refine e_geti dX8_takeBy_270 fO_8_122 (by decide) (gs_82 hg) rfl ?_
  refine e_ic_ge (tgt := 300) dX8_takeBy_273 (by decide) (fun c1 => ?_) (fun c1 => ?_)
  · have Ac1 := V.1 c1
    refine ev_drop (ls' := [some (.inr (some 80)), none, none, some (.inl x3), none, none]) 4 rfl ?_
    exact Ac1
  · have Bc1 := V.2 c1
    refine e_aload_n dX8_takeBy_276 rfl ?_
    refine e_iload dX8_takeBy_277 rfl ?_
    refine e_iload_n dX8_takeBy_279 rfl ?_
    obtain ⟨r4, J2, h3, Vh3⟩ := Bc1
    refine e_callv (av := [.inl x4, .inl x3]) (st := []) dX8_takeBy_280 cO_8_246 oX8_isWithin rfl (by decide) (gs_80 hg) rfl (Nat.le_of_ble_eq_true rfl) (by decide) h3 (Nat.le_refl _) (Nat.le_refl _) rfl rfl ?_
    refine e_if_eq (tgt := 300) dX8_takeBy_283 (by decide) (fun c5 => ?_) (fun c5 => ?_)
    · have Ac5 := Vh3.1 c5
      refine ev_drop (ls' := [some (.inr (some 80)), none, none, some (.inl x3), none, none]) 4 rfl ?_
      exact Ac5
    · have Bc5 := Vh3.2 c5
      refine e_aload_n dX8_takeBy_286 rfl ?_
      refine e_getr dX8_takeBy_287 fO_8_79 (by decide) (gs_80 hg) rfl (gp_80_33 hg) ?_
      refine e_iload dX8_takeBy_290 rfl ?_
      refine e_iconst dX8_takeBy_292 ⟨by decide, by decide⟩ ?_
      obtain ⟨h7, Vh7⟩ := Bc5
      refine e_zast dX8_takeBy_293 (by decide) (gs_147 hg) h7.1 h7.2 (by decide) ?_
      refine e_mem (fun I6 eI6 => ?_)
      have WI6 := Vh7 I6 eI6
      obtain ⟨h8, Vh8⟩ := WI6
      refine e_iinc dX8_takeBy_294 (by decide) rfl h8 (ls' := [some (.inr (some 80)), none, none, some (.inl x3), some (.inl (x4 + 1)), none]) rfl ?_
      refine e_goto (tgt := 264) dX8_takeBy_297 (by decide) ?_
      exact Vh8
set_option maxRecDepth 100000 in
set_option maxHeartbeats 4000000 in
theorem v_X8_takeBy_127 {Γ : GX} {g : AG} {I J : Nat → Nat → Int} {r : Option AV} (hg : GOk g) (x1 : Int) (x3 : Int) (x5 : Int)
    (V : inR (x5 + 1) ∧ (Ev Γ 903 mX8_takeBy 67 [some (.inr (some 80)), some (.inl x1), none, some (.inl x3), some (.inl 1), some (.inl (x5 + 1))] [] (g, I) (r, (g, J)))) : Ev Γ 903 mX8_takeBy 127 [some (.inr (some 80)), some (.inl x1), none, some (.inl x3), none, some (.inl x5)] [] (g, I) (r, (g, J)) := by
  refine e_iconst dX8_takeBy_127 ⟨by decide, by decide⟩ ?_
  refine e_goto (tgt := 132) dX8_takeBy_128 (by decide) ?_
  refine e_istore dX8_takeBy_132 (by decide) (ls' := [some (.inr (some 80)), some (.inl x1), none, some (.inl x3), some (.inl 1), some (.inl x5)]) rfl ?_
  obtain ⟨h1, Vh1⟩ := V
  refine e_iinc dX8_takeBy_134 (by decide) rfl h1 (ls' := [some (.inr (some 80)), some (.inl x1), none, some (.inl x3), some (.inl 1), some (.inl (x5 + 1))]) rfl ?_
  refine e_goto (tgt := 67) dX8_takeBy_137 (by decide) ?_
  exact Vh1
set_option maxRecDepth 100000 in
set_option maxHeartbeats 4000000 in
theorem v_X8_takeBy_131 {Γ : GX} {g : AG} {I J : Nat → Nat → Int} {r : Option AV} (hg : GOk g) (x1 : Int) (x3 : Int) (x5 : Int)
    (V : inR (x5 + 1) ∧ (Ev Γ 903 mX8_takeBy 67 [some (.inr (some 80)), some (.inl x1), none, some (.inl x3), some (.inl 0), some (.inl (x5 + 1))] [] (g, I) (r, (g, J)))) : Ev Γ 903 mX8_takeBy 131 [some (.inr (some 80)), some (.inl x1), none, some (.inl x3), none, some (.inl x5)] [] (g, I) (r, (g, J)) := by
  refine e_iconst dX8_takeBy_131 ⟨by decide, by decide⟩ ?_
  refine e_istore dX8_takeBy_132 (by decide) (ls' := [some (.inr (some 80)), some (.inl x1), none, some (.inl x3), some (.inl 0), some (.inl x5)]) rfl ?_
  obtain ⟨h1, Vh1⟩ := V
  refine e_iinc dX8_takeBy_134 (by decide) rfl h1 (ls' := [some (.inr (some 80)), some (.inl x1), none, some (.inl x3), some (.inl 0), some (.inl (x5 + 1))]) rfl ?_
  refine e_goto (tgt := 67) dX8_takeBy_137 (by decide) ?_
  exact Vh1
set_option maxRecDepth 100000 in
set_option maxHeartbeats 4000000 in
theorem v_X8_takeBy_300 {Γ : GX} {g : AG} {I J : Nat → Nat → Int} {r : Option AV} (hg : GOk g) (x3 : Int)
    (V : ((0 : Int) ≤ x3 ∧ (x3 : Int) < 240) ∧ (∀ I1 : Nat → Nat → Int, I1 = mset I 147 x3.toNat 1 → (Ev Γ 903 mX8_takeBy 307 [some (.inr (some 80)), none, none, some (.inl x3), none, none] [] (g, I1) (r, (g, J))))) : Ev Γ 903 mX8_takeBy 300 [some (.inr (some 80)), none, none, some (.inl x3), none, none] [] (g, I) (r, (g, J)) := by
  refine e_aload_n dX8_takeBy_300 rfl ?_
  refine e_getr dX8_takeBy_301 fO_8_79 (by decide) (gs_80 hg) rfl (gp_80_33 hg) ?_
  refine e_iload_n dX8_takeBy_304 rfl ?_
  refine e_iconst dX8_takeBy_305 ⟨by decide, by decide⟩ ?_
  obtain ⟨h2, Vh2⟩ := V
  refine e_zast dX8_takeBy_306 (by decide) (gs_147 hg) h2.1 h2.2 (by decide) ?_
  refine e_mem (fun I1 eI1 => ?_)
  have WI1 := Vh2 I1 eI1
  exact WI1
set_option maxRecDepth 100000 in
set_option maxHeartbeats 4000000 in
theorem v_X8_taken_0 {Γ : GX} {g : AG} {I J : Nat → Nat → Int} {r : Option AV} (hg : GOk g) (x1 : Int)
    (V : ∀ I1 : Nat → Nat → Int, I1 = mset I 80 0 0 → (∃ (r4 : Int) (J2 : Nat → Nat → Int), CT Γ 0 mX8_isIn [.inl x1, .inl 0, .inl 2] (g, I1) (some (.inl r4), (g, J2)) ∧ ((((r4 = 0)) → (r = some (.inl (-1)) ∧ J = J2)) ∧ ((¬ (r4 = 0)) → (∃ (r8 : Int) (J6 : Nat → Nat → Int), CT Γ 903 mX8_takeBy [.inr (some 80), .inl x1] (g, J2) (some (.inl r8), (g, J6)) ∧ (r = some (.inl r8) ∧ J = J6)))))) : Ev Γ 904 mX8_taken 0 [some (.inr (some 80)), some (.inl x1)] [] (g, I) (r, (g, J)) := by
  refine e_aload_n dX8_taken_0 rfl ?_
  refine e_iconst dX8_taken_1 ⟨by decide, by decide⟩ ?_
  refine e_puti dX8_taken_2 fO_8_103 (by decide) (gs_80 hg) rfl rfl ?_
  refine e_mem (fun I1 eI1 => ?_)
  have WI1 := V I1 eI1
  refine e_iload_n dX8_taken_5 rfl ?_
  refine e_iconst dX8_taken_6 ⟨by decide, by decide⟩ ?_
  refine e_iconst dX8_taken_7 ⟨by decide, by decide⟩ ?_
  obtain ⟨r4, J2, h3, Vh3⟩ := WI1
  refine e_calls (av := [.inl x1, .inl 0, .inl 2]) (st := []) dX8_taken_8 cO_8_202 oX8_isIn rfl rfl (Nat.le_of_ble_eq_true rfl) (by decide) h3 (Nat.le_refl _) (Nat.le_refl _) rfl rfl ?_
  refine e_if_eq (tgt := 22) dX8_taken_11 (by decide) (fun c5 => ?_) (fun c5 => ?_)
  · have Ac5 := Vh3.1 c5
    refine e_iconst dX8_taken_22 ⟨by decide, by decide⟩ ?_
    exact e_iret dX8_taken_23 rfl (by rw [Ac5.1, Ac5.2])
  · have Bc5 := Vh3.2 c5
    refine e_aload_n dX8_taken_14 rfl ?_
    refine e_iload_n dX8_taken_15 rfl ?_
    obtain ⟨r8, J6, h7, Vh7⟩ := Bc5
    refine e_callv (av := [.inl x1]) (st := []) dX8_taken_16 cO_8_263 oX8_takeBy rfl (by decide) (gs_80 hg) rfl (Nat.le_of_ble_eq_true rfl) (by decide) h7 (Nat.le_refl _) (Nat.le_refl _) rfl rfl ?_
    refine e_goto (tgt := 23) dX8_taken_19 (by decide) ?_
    exact e_iret dX8_taken_23 rfl (by rw [Vh7.1, Vh7.2])
set_option maxRecDepth 100000 in
set_option maxHeartbeats 4000000 in
theorem v_X8_takes_0 {Γ : GX} {g : AG} {I J : Nat → Nat → Int} {r : Option AV} (hg : GOk g) (x1 : Int) (x2 : Int)
    (V : ∀ I1 : Nat → Nat → Int, I1 = mset I 80 0 0 → (∃ (r4 : Int) (J2 : Nat → Nat → Int), CT Γ 0 mX8_isIn [.inl x1, .inl 0, .inl 2] (g, I1) (some (.inl r4), (g, J2)) ∧ (((¬ (r4 = 0)) → (∃ (r8 : Int) (J6 : Nat → Nat → Int), CT Γ 903 mX8_takeBy [.inr (some 80), .inl x1] (g, J2) (some (.inl r8), (g, J6)) ∧ (Ev Γ 904 mX8_takes 28 [some (.inr (some 80)), none, some (.inl x2), none, some (.inl 0), some (.inl 0)] [] (g, J6) (r, (g, J))))) ∧ (((r4 = 0)) → (r = some (.inl (-1)) ∧ J = J2))))) : Ev Γ 904 mX8_takes 0 [some (.inr (some 80)), some (.inl x1), some (.inl x2), none, none, none] [] (g, I) (r, (g, J)) := by
  refine e_aload_n dX8_takes_0 rfl ?_
  refine e_iconst dX8_takes_1 ⟨by decide, by decide⟩ ?_
  refine e_puti dX8_takes_2 fO_8_103 (by decide) (gs_80 hg) rfl rfl ?_
  refine e_mem (fun I1 eI1 => ?_)
  have WI1 := V I1 eI1
  refine e_iload_n dX8_takes_5 rfl ?_
  refine e_iconst dX8_takes_6 ⟨by decide, by decide⟩ ?_
  refine e_iconst dX8_takes_7 ⟨by decide, by decide⟩ ?_
  obtain ⟨r4, J2, h3, Vh3⟩ := WI1
  refine e_calls (av := [.inl x1, .inl 0, .inl 2]) (st := []) dX8_takes_8 cO_8_202 oX8_isIn rfl rfl (Nat.le_of_ble_eq_true rfl) (by decide) h3 (Nat.le_refl _) (Nat.le_refl _) rfl rfl ?_
  refine e_if_ne (tgt := 16) dX8_takes_11 (by decide) (fun c5 => ?_) (fun c5 => ?_)
  · have Ac5 := Vh3.1 c5
    refine e_aload_n dX8_takes_16 rfl ?_
    refine e_iload_n dX8_takes_17 rfl ?_
    obtain ⟨r8, J6, h7, Vh7⟩ := Ac5
    refine e_callv (av := [.inl x1]) (st := []) dX8_takes_18 cO_8_263 oX8_takeBy rfl (by decide) (gs_80 hg) rfl (Nat.le_of_ble_eq_true rfl) (by decide) h7 (Nat.le_refl _) (Nat.le_refl _) rfl rfl ?_
    refine e_istore_n dX8_takes_21 (by decide) (ls' := [some (.inr (some 80)), some (.inl x1), some (.inl x2), some (.inl r8), none, none]) rfl ?_
    refine e_iconst dX8_takes_22 ⟨by decide, by decide⟩ ?_
    refine e_istore dX8_takes_23 (by decide) (ls' := [some (.inr (some 80)), some (.inl x1), some (.inl x2), some (.inl r8), some (.inl 0), none]) rfl ?_
    refine e_iconst dX8_takes_25 ⟨by decide, by decide⟩ ?_
    refine e_istore dX8_takes_26 (by decide) (ls' := [some (.inr (some 80)), some (.inl x1), some (.inl x2), some (.inl r8), some (.inl 0), some (.inl 0)]) rfl ?_
    refine ev_drop (ls' := [some (.inr (some 80)), none, some (.inl x2), some (.inl r8), some (.inl 0), some (.inl 0)]) 1 rfl ?_
    refine ev_drop (ls' := [some (.inr (some 80)), none, some (.inl x2), none, some (.inl 0), some (.inl 0)]) 3 rfl ?_
    exact Vh7
  · have Bc5 := Vh3.2 c5
    refine e_iconst dX8_takes_14 ⟨by decide, by decide⟩ ?_
    exact e_iret dX8_takes_15 rfl (by rw [Bc5.1, Bc5.2])
set_option maxRecDepth 100000 in
set_option maxHeartbeats 4000000 in
theorem v_X8_takes_28 {Γ : GX} {g : AG} {I J : Nat → Nat → Int} {r : Option AV} (hg : GOk g) (x2 : Int) (x4 : Int) (x5 : Int)
    (V : ((((I 82 2) ≤ x5)) → (r = some (.inl (-1)) ∧ J = I)) ∧ ((¬ ((I 82 2) ≤ x5)) → (((0 : Int) ≤ x5 ∧ (x5 : Int) < 240) ∧ (((¬ ((I 147 x5.toNat) = 0)) → (((¬ (x4 = x2)) → (inR (x4 + 1) ∧ (inR (x5 + 1) ∧ (Ev Γ 904 mX8_takes 28 [some (.inr (some 80)), none, some (.inl x2), none, some (.inl (x4 + 1)), some (.inl (x5 + 1))] [] (g, I) (r, (g, J)))))) ∧ (((x4 = x2)) → (r = some (.inl x5) ∧ J = I)))) ∧ ((((I 147 x5.toNat) = 0)) → (inR (x5 + 1) ∧ (Ev Γ 904 mX8_takes 28 [some (.inr (some 80)), none, some (.inl x2), none, some (.inl x4), some (.inl (x5 + 1))] [] (g, I) (r, (g, J))))))))) : Ev Γ 904 mX8_takes 28 [some (.inr (some 80)), none, some (.inl x2), none, some (.inl x4), some (.inl x5)] [] (g, I) (r, (g, J)) := by
  refine e_iload dX8_takes_28 rfl ?_
  refine e_aload_n dX8_takes_30 rfl ?_
  refine e_getr dX8_takes_31 fO_8_16 (by decide) (gs_80 hg) rfl (gp_80_3 hg) ?_
  refine e_geti dX8_takes_34 fO_8_122 (by decide) (gs_82 hg) rfl ?_
  refine e_ic_ge (tgt := 71) dX8_takes_37 (by decide) (fun c1 => ?_) (fun c1 => ?_)
  · have Ac1 := V.1 c1
    refine e_iconst dX8_takes_71 ⟨by decide, by decide⟩ ?_
    exact e_iret dX8_takes_72 rfl (by rw [Ac1.1, Ac1.2])
  · have Bc1 := V.2 c1
    refine e_aload_n dX8_takes_40 rfl ?_
    refine e_getr dX8_takes_41 fO_8_79 (by decide) (gs_80 hg) rfl (gp_80_33 hg) ?_
    refine e_iload dX8_takes_44 rfl ?_
    obtain ⟨h2, Vh2⟩ := Bc1
    refine e_zald dX8_takes_46 (by decide) (gs_147 hg) h2.1 h2.2 ?_
    refine e_if_ne (tgt := 53) dX8_takes_47 (by decide) (fun c3 => ?_) (fun c3 => ?_)
    · have Ac3 := Vh2.1 c3
      refine e_iload dX8_takes_53 rfl ?_
      refine e_iload_n dX8_takes_55 rfl ?_
      refine e_ic_ne (tgt := 62) dX8_takes_56 (by decide) (fun c4 => ?_) (fun c4 => ?_)
      · have Ac4 := Ac3.1 c4
        obtain ⟨h5, Vh5⟩ := Ac4
        refine e_iinc dX8_takes_62 (by decide) rfl h5 (ls' := [some (.inr (some 80)), none, some (.inl x2), none, some (.inl (x4 + 1)), some (.inl x5)]) rfl ?_
        obtain ⟨h6, Vh6⟩ := Vh5
        refine e_iinc dX8_takes_65 (by decide) rfl h6 (ls' := [some (.inr (some 80)), none, some (.inl x2), none, some (.inl (x4 + 1)), some (.inl (x5 + 1))]) rfl ?_
        refine e_goto (tgt := 28) dX8_takes_68 (by decide) ?_
        exact Vh6
      · have Bc4 := Ac3.2 c4
        refine e_iload dX8_takes_59 rfl ?_
        exact e_iret dX8_takes_61 rfl (by rw [Bc4.1, Bc4.2])
    · have Bc3 := Vh2.2 c3
      refine e_goto (tgt := 65) dX8_takes_50 (by decide) ?_
      obtain ⟨h7, Vh7⟩ := Bc3
      refine e_iinc dX8_takes_65 (by decide) rfl h7 (ls' := [some (.inr (some 80)), none, some (.inl x2), none, some (.inl x4), some (.inl (x5 + 1))]) rfl ?_
      refine e_goto (tgt := 28) dX8_takes_68 (by decide) ?_
      exact Vh7
set_option maxRecDepth 100000 in
set_option maxHeartbeats 4000000 in
theorem v_X8_copy_0 {Γ : GX} {g : AG} {I J : Nat → Nat → Int} {r : Option AV} (hg : GOk g) (u : Nat) (hu : Mt u) (x2 : Int) (x3 : Int)
    (V : Ev Γ 0 mX8_copy 3 [some (.inr (some 80)), some (.inr (some u)), none, some (.inl x3), some (.inl x2)] [] (g, I) (r, (g, J))) : Ev Γ 0 mX8_copy 0 [some (.inr (some 80)), some (.inr (some u)), some (.inl x2), some (.inl x3), none] [] (g, I) (r, (g, J)) := by
  refine e_iload_n dX8_copy_0 rfl ?_
  refine e_istore dX8_copy_1 (by decide) (ls' := [some (.inr (some 80)), some (.inr (some u)), some (.inl x2), some (.inl x3), some (.inl x2)]) rfl ?_
  refine ev_drop (ls' := [some (.inr (some 80)), some (.inr (some u)), none, some (.inl x3), some (.inl x2)]) 2 rfl ?_
  exact V
set_option maxRecDepth 100000 in
set_option maxHeartbeats 4000000 in
theorem v_X8_copy_3 {Γ : GX} {g : AG} {I J : Nat → Nat → Int} {r : Option AV} (hg : GOk g) (u : Nat) (hu : Mt u) (x3 : Int) (x4 : Int)
    (V : (((x3 ≤ x4)) → (r = none ∧ J = I)) ∧ ((¬ (x3 ≤ x4)) → ((((40000 ≤ (I 80 36))) → (r = none ∧ J = I)) ∧ ((¬ (40000 ≤ (I 80 36))) → (((0 : Int) ≤ x4 ∧ (x4 : Int) < 240) ∧ (((0 : Int) ≤ (I 80 36) ∧ ((I 80 36) : Int) < 40000) ∧ (∀ I4 : Nat → Nat → Int, I4 = mset I 149 (I 80 36).toNat (bByte (I (u + 1) x4.toNat)) → (inR ((I4 80 36) + 1) ∧ (∀ I7 : Nat → Nat → Int, I7 = mset I4 80 36 ((I4 80 36) + 1) → (inR (x4 + 1) ∧ (Ev Γ 0 mX8_copy 3 [some (.inr (some 80)), some (.inr (some u)), none, some (.inl x3), some (.inl (x4 + 1))] [] (g, I7) (r, (g, J))))))))))))) : Ev Γ 0 mX8_copy 3 [some (.inr (some 80)), some (.inr (some u)), none, some (.inl x3), some (.inl x4)] [] (g, I) (r, (g, J)) := by
  refine e_iload dX8_copy_3 rfl ?_
  refine e_iload_n dX8_copy_5 rfl ?_
  refine e_ic_ge (tgt := 53) dX8_copy_6 (by decide) (fun c1 => ?_) (fun c1 => ?_)
  · have Ac1 := V.1 c1
    exact e_vret dX8_copy_53 rfl (by rw [Ac1.1, Ac1.2])
  · have Bc1 := V.2 c1
    refine e_aload_n dX8_copy_9 rfl ?_
    refine e_geti dX8_copy_10 fO_8_266 (by decide) (gs_80 hg) rfl ?_
    refine e_aload_n dX8_copy_13 rfl ?_
    refine e_getr dX8_copy_14 fO_8_86 (by decide) (gs_80 hg) rfl (gp_80_35 hg) ?_
    refine e_alen (ty := .byte) dX8_copy_17 (by decide) (by decide) (gs_149 hg) (by decide) ?_
    refine e_ic_ge (tgt := 53) dX8_copy_18 (by decide) (fun c2 => ?_) (fun c2 => ?_)
    · have Ac2 := Bc1.1 c2
      exact e_vret dX8_copy_53 rfl (by rw [Ac2.1, Ac2.2])
    · have Bc2 := Bc1.2 c2
      refine e_aload_n dX8_copy_21 rfl ?_
      refine e_getr dX8_copy_22 fO_8_86 (by decide) (gs_80 hg) rfl (gp_80_35 hg) ?_
      refine e_aload_n dX8_copy_25 rfl ?_
      refine e_geti dX8_copy_26 fO_8_266 (by decide) (gs_80 hg) rfl ?_
      refine e_aload_n dX8_copy_29 rfl ?_
      refine e_getr dX8_copy_30 fO_8_113 (mt_pos hu) (mt_s0 hg hu) rfl (mt_p1 hg hu) ?_
      refine e_iload dX8_copy_33 rfl ?_
      obtain ⟨h3, Vh3⟩ := Bc2
      refine e_bald dX8_copy_35 (Nat.succ_pos _) (mt_s1 hg hu) h3.1 h3.2 ?_
      obtain ⟨h5, Vh5⟩ := Vh3
      refine e_bast dX8_copy_36 (by decide) (gs_149 hg) h5.1 h5.2 ?_
      refine e_mem (fun I4 eI4 => ?_)
      have WI4 := Vh5 I4 eI4
      refine e_aload_n dX8_copy_37 rfl ?_
      refine e_dup dX8_copy_38 ?_
      refine e_geti dX8_copy_39 fO_8_266 (by decide) (gs_80 hg) rfl ?_
      refine e_iconst dX8_copy_42 ⟨by decide, by decide⟩ ?_
      obtain ⟨h6, Vh6⟩ := WI4
      refine e_iadd dX8_copy_43 h6 ?_
      refine e_puti dX8_copy_44 fO_8_266 (by decide) (gs_80 hg) rfl rfl ?_
      refine e_mem (fun I7 eI7 => ?_)
      have WI7 := Vh6 I7 eI7
      obtain ⟨h8, Vh8⟩ := WI7
      refine e_iinc dX8_copy_47 (by decide) rfl h8 (ls' := [some (.inr (some 80)), some (.inr (some u)), none, some (.inl x3), some (.inl (x4 + 1))]) rfl ?_
      refine e_goto (tgt := 3) dX8_copy_50 (by decide) ?_
      exact Vh8
