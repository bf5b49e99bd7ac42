set_option maxRecDepth 100000 in
set_option maxHeartbeats 4000000 in
theorem v_X8_strike_0 {Γ : GX} {g : AG} {I J : Nat → Nat → Int} {r : Option AV} (hg : GOk g) 
    (V : Ev Γ 0 mX8_strike 2 [some (.inr (some 80)), some (.inl 0), none, none, none, none, none] [] (g, I) (r, (g, J))) : Ev Γ 0 mX8_strike 0 [some (.inr (some 80)), none, none, none, none, none, none] [] (g, I) (r, (g, J)) := by
  refine e_iconst dX8_strike_0 ⟨by decide, by decide⟩ ?_
  refine e_istore_n dX8_strike_1 (by decide) (ls' := [some (.inr (some 80)), some (.inl 0), none, none, none, none, none]) rfl ?_
  exact V
set_option maxRecDepth 100000 in
set_option maxHeartbeats 4000000 in
theorem v_X8_strike_2 {Γ : GX} {g : AG} {I J : Nat → Nat → Int} {r : Option AV} (hg : GOk g) (x1 : Int)
    (V : ((((I 102 1) ≤ x1)) → (Ev Γ 0 mX8_strike 28 [some (.inr (some 80)), some (.inl 0), none, none, none, none, none] [] (g, I) (r, (g, J)))) ∧ ((¬ ((I 102 1) ≤ x1)) → (((0 : Int) ≤ x1 ∧ (x1 : Int) < 240) ∧ (∀ I2 : Nat → Nat → Int, I2 = mset I 150 x1.toNat 0 → (inR (x1 + 1) ∧ (Ev Γ 0 mX8_strike 2 [some (.inr (some 80)), some (.inl (x1 + 1)), none, none, none, none, none] [] (g, I2) (r, (g, J)))))))) : Ev Γ 0 mX8_strike 2 [some (.inr (some 80)), some (.inl x1), none, none, none, none, none] [] (g, I) (r, (g, J)) := by
  refine e_iload_n dX8_strike_2 rfl ?_
  refine e_aload_n dX8_strike_3 rfl ?_
  refine e_getr dX8_strike_4 fO_8_23 (by decide) (gs_80 hg) rfl (gp_80_5 hg) ?_
  refine e_geti dX8_strike_7 fO_8_112 (by decide) (gs_102 hg) rfl ?_
  refine e_ic_ge (tgt := 26) dX8_strike_10 (by decide) (fun c1 => ?_) (fun c1 => ?_)
  · have Ac1 := V.1 c1
    refine e_iconst dX8_strike_26 ⟨by decide, by decide⟩ ?_
    refine e_istore_n dX8_strike_27 (by decide) (ls' := [some (.inr (some 80)), some (.inl 0), none, none, none, none, none]) rfl ?_
    exact Ac1
  · have Bc1 := V.2 c1
    refine e_aload_n dX8_strike_13 rfl ?_
    refine e_getr dX8_strike_14 fO_8_89 (by decide) (gs_80 hg) rfl (gp_80_37 hg) ?_
    refine e_iload_n dX8_strike_17 rfl ?_
    refine e_iconst dX8_strike_18 ⟨by decide, by decide⟩ ?_
    obtain ⟨h3, Vh3⟩ := Bc1
    refine e_zast dX8_strike_19 (by decide) (gs_150 hg) h3.1 h3.2 (by decide) ?_
    refine e_mem (fun I2 eI2 => ?_)
    have WI2 := Vh3 I2 eI2
    obtain ⟨h4, Vh4⟩ := WI2
    refine e_iinc dX8_strike_20 (by decide) rfl h4 (ls' := [some (.inr (some 80)), some (.inl (x1 + 1)), none, none, none, none, none]) rfl ?_
    refine e_goto (tgt := 2) dX8_strike_23 (by decide) ?_
    exact Vh4
set_option maxRecDepth 100000 in
set_option maxHeartbeats 4000000 in
theorem v_X8_strike_28 {Γ : GX} {g : AG} {I J : Nat → Nat → Int} {r : Option AV} (hg : GOk g) (x1 : Int)
    (V : ((((I 102 2) ≤ x1)) → (Ev Γ 0 mX8_strike 54 [some (.inr (some 80)), some (.inl 0), none, none, none, none, none] [] (g, I) (r, (g, J)))) ∧ ((¬ ((I 102 2) ≤ x1)) → (((0 : Int) ≤ x1 ∧ (x1 : Int) < 240) ∧ (∀ I2 : Nat → Nat → Int, I2 = mset I 151 x1.toNat 0 → (inR (x1 + 1) ∧ (Ev Γ 0 mX8_strike 28 [some (.inr (some 80)), some (.inl (x1 + 1)), none, none, none, none, none] [] (g, I2) (r, (g, J)))))))) : Ev Γ 0 mX8_strike 28 [some (.inr (some 80)), some (.inl x1), none, none, none, none, none] [] (g, I) (r, (g, J)) := by
  refine e_iload_n dX8_strike_28 rfl ?_
  refine e_aload_n dX8_strike_29 rfl ?_
  refine e_getr dX8_strike_30 fO_8_23 (by decide) (gs_80 hg) rfl (gp_80_5 hg) ?_
  refine e_geti dX8_strike_33 fO_8_122 (by decide) (gs_102 hg) rfl ?_
  refine e_ic_ge (tgt := 52) dX8_strike_36 (by decide) (fun c1 => ?_) (fun c1 => ?_)
  · have Ac1 := V.1 c1
    refine e_iconst dX8_strike_52 ⟨by decide, by decide⟩ ?_
    refine e_istore_n dX8_strike_53 (by decide) (ls' := [some (.inr (some 80)), some (.inl 0), none, none, none, none, none]) rfl ?_
    exact Ac1
  · have Bc1 := V.2 c1
    refine e_aload_n dX8_strike_39 rfl ?_
    refine e_getr dX8_strike_40 fO_8_92 (by decide) (gs_80 hg) rfl (gp_80_38 hg) ?_
    refine e_iload_n dX8_strike_43 rfl ?_
    refine e_iconst dX8_strike_44 ⟨by decide, by decide⟩ ?_
    obtain ⟨h3, Vh3⟩ := Bc1
    refine e_zast dX8_strike_45 (by decide) (gs_151 hg) h3.1 h3.2 (by decide) ?_
    refine e_mem (fun I2 eI2 => ?_)
    have WI2 := Vh3 I2 eI2
    obtain ⟨h4, Vh4⟩ := WI2
    refine e_iinc dX8_strike_46 (by decide) rfl h4 (ls' := [some (.inr (some 80)), some (.inl (x1 + 1)), none, none, none, none, none]) rfl ?_
    refine e_goto (tgt := 28) dX8_strike_49 (by decide) ?_
    exact Vh4
set_option maxRecDepth 100000 in
set_option maxHeartbeats 4000000 in
theorem v_X8_strike_54 {Γ : GX} {g : AG} {I J : Nat → Nat → Int} {r : Option AV} (hg : GOk g) (x1 : Int)
    (V : ((((I 102 2) ≤ x1)) → (r = none ∧ J = I)) ∧ ((¬ ((I 102 2) ≤ x1)) → (((0 : Int) ≤ x1 ∧ (x1 : Int) < 240) ∧ (((¬ ((I 104 x1.toNat) = 2)) → (Ev Γ 0 mX8_strike 277 [some (.inr (some 80)), some (.inl x1), none, none, none, none, none] [] (g, I) (r, (g, J)))) ∧ ((((I 104 x1.toNat) = 2)) → (((0 : Int) ≤ x1 ∧ (x1 : Int) < 240) ∧ (((0 : Int) ≤ (I 110 x1.toNat) ∧ ((I 110 x1.toNat) : Int) < 26) ∧ (((((I 143 (I 110 x1.toNat).toNat) ≤ 0)) → (Ev Γ 0 mX8_strike 105 [some (.inr (some 80)), some (.inl x1), some (.inl (-1)), some (.inl (-1)), some (.inl 0), none, none] [] (g, I) (r, (g, J)))) ∧ ((¬ ((I 143 (I 110 x1.toNat).toNat) ≤ 0)) → (Ev Γ 0 mX8_strike 277 [some (.inr (some 80)), some (.inl x1), none, none, none, none, none] [] (g, I) (r, (g, J)))))))))))) : Ev Γ 0 mX8_strike 54 [some (.inr (some 80)), some (.inl x1), none, none, none, none, none] [] (g, I) (r, (g, J)) := by
  refine e_iload_n dX8_strike_54 rfl ?_
  refine e_aload_n dX8_strike_55 rfl ?_
  refine e_getr dX8_strike_56 fO_8_23 (by decide) (gs_80 hg) rfl (gp_80_5 hg) ?_
  refine e_geti dX8_strike_59 fO_8_122 (by decide) (gs_102 hg) rfl ?_
  refine e_ic_ge (tgt := 283) dX8_strike_62 (by decide) (fun c1 => ?_) (fun c1 => ?_)
  · have Ac1 := V.1 c1
    exact e_vret dX8_strike_283 rfl (by rw [Ac1.1, Ac1.2])
  · have Bc1 := V.2 c1
    refine e_aload_n dX8_strike_65 rfl ?_
    refine e_getr dX8_strike_66 fO_8_23 (by decide) (gs_80 hg) rfl (gp_80_5 hg) ?_
    refine e_getr dX8_strike_69 fO_8_125 (by decide) (gs_102 hg) rfl (gp_102_3 hg) ?_
    refine e_iload_n dX8_strike_72 rfl ?_
    obtain ⟨h2, Vh2⟩ := Bc1
    refine e_iald dX8_strike_73 (by decide) (gs_104 hg) h2.1 h2.2 ?_
    refine e_iconst dX8_strike_74 ⟨by decide, by decide⟩ ?_
    refine e_ic_ne (tgt := 277) dX8_strike_75 (by decide) (fun c3 => ?_) (fun c3 => ?_)
    · have Ac3 := Vh2.1 c3
      exact Ac3
    · have Bc3 := Vh2.2 c3
      refine e_aload_n dX8_strike_78 rfl ?_
      refine e_getr dX8_strike_79 fO_8_67 (by decide) (gs_80 hg) rfl (gp_80_29 hg) ?_
      refine e_aload_n dX8_strike_82 rfl ?_
      refine e_getr dX8_strike_83 fO_8_23 (by decide) (gs_80 hg) rfl (gp_80_5 hg) ?_
      refine e_getr dX8_strike_86 fO_8_140 (by decide) (gs_102 hg) rfl (gp_102_9 hg) ?_
      refine e_iload_n dX8_strike_89 rfl ?_
      obtain ⟨h4, Vh4⟩ := Bc3
      refine e_iald dX8_strike_90 (by decide) (gs_110 hg) h4.1 h4.2 ?_
      obtain ⟨h5, Vh5⟩ := Vh4
      refine e_iald dX8_strike_91 (by decide) (gs_143 hg) h5.1 h5.2 ?_
      refine e_if_le (tgt := 98) dX8_strike_92 (by decide) (fun c6 => ?_) (fun c6 => ?_)
      · have Ac6 := Vh5.1 c6
        refine e_iconst dX8_strike_98 ⟨by decide, by decide⟩ ?_
        refine e_istore_n dX8_strike_99 (by decide) (ls' := [some (.inr (some 80)), some (.inl x1), some (.inl (-1)), none, none, none, none]) rfl ?_
        refine e_iconst dX8_strike_100 ⟨by decide, by decide⟩ ?_
        refine e_istore_n dX8_strike_101 (by decide) (ls' := [some (.inr (some 80)), some (.inl x1), some (.inl (-1)), some (.inl (-1)), none, none, none]) rfl ?_
        refine e_iconst dX8_strike_102 ⟨by decide, by decide⟩ ?_
        refine e_istore dX8_strike_103 (by decide) (ls' := [some (.inr (some 80)), some (.inl x1), some (.inl (-1)), some (.inl (-1)), some (.inl 0), none, none]) rfl ?_
        exact Ac6
      · have Bc6 := Vh5.2 c6
        refine e_goto (tgt := 277) dX8_strike_95 (by decide) ?_
        exact Bc6
set_option maxRecDepth 100000 in
set_option maxHeartbeats 4000000 in
theorem v_X8_strike_277 {Γ : GX} {g : AG} {I J : Nat → Nat → Int} {r : Option AV} (hg : GOk g) (x1 : Int)
    (V : inR (x1 + 1) ∧ (Ev Γ 0 mX8_strike 54 [some (.inr (some 80)), some (.inl (x1 + 1)), none, none, none, none, none] [] (g, I) (r, (g, J)))) : Ev Γ 0 mX8_strike 277 [some (.inr (some 80)), some (.inl x1), none, none, none, none, none] [] (g, I) (r, (g, J)) := by
  obtain ⟨h1, Vh1⟩ := V
  refine e_iinc dX8_strike_277 (by decide) rfl h1 (ls' := [some (.inr (some 80)), some (.inl (x1 + 1)), none, none, none, none, none]) rfl ?_
  refine e_goto (tgt := 54) dX8_strike_280 (by decide) ?_
  exact Vh1
set_option maxRecDepth 100000 in
set_option maxHeartbeats 4000000 in
theorem v_X8_strike_105 {Γ : GX} {g : AG} {I J : Nat → Nat → Int} {r : Option AV} (hg : GOk g) (x1 : Int) (x2 : Int) (x3 : Int) (x4 : Int)
    (V : ((((I 102 2) ≤ x4)) → (((¬ (x3 = (-1))) → (Ev Γ 0 mX8_strike 194 [some (.inr (some 80)), some (.inl x1), none, some (.inl x3), none, none, none] [] (g, I) (r, (g, J)))) ∧ (((x3 = (-1))) → (((¬ (x2 = (-1))) → (((0 : Int) ≤ x2 ∧ (x2 : Int) < 240) ∧ (∀ y5 : Int, y5 = (I 106 x2.toNat) → ((((x3 = (-1))) → (((0 : Int) ≤ x1 ∧ (x1 : Int) < 240) ∧ (∀ y8 : Int, y8 = (I 106 x1.toNat) → (Ev Γ 0 mX8_strike 249 [some (.inr (some 80)), some (.inl x1), none, none, none, some (.inl y8), some (.inl y5)] [] (g, I) (r, (g, J)))))) ∧ ((¬ (x3 = (-1))) → (((0 : Int) ≤ x3 ∧ (x3 : Int) < 240) ∧ (∀ y10 : Int, y10 = (I 105 x3.toNat) → (Ev Γ 0 mX8_strike 249 [some (.inr (some 80)), some (.inl x1), none, none, none, some (.inl y10), some (.inl y5)] [] (g, I) (r, (g, J)))))))))) ∧ (((x2 = (-1))) → (Ev Γ 0 mX8_strike 194 [some (.inr (some 80)), some (.inl x1), none, some (.inl x3), none, none, none] [] (g, I) (r, (g, J)))))))) ∧ ((¬ ((I 102 2) ≤ x4)) → (((0 : Int) ≤ x4 ∧ (x4 : Int) < 240) ∧ (((0 : Int) ≤ x1 ∧ (x1 : Int) < 240) ∧ (((¬ ((I 109 x4.toNat) = (I 109 x1.toNat))) → (Ev Γ 0 mX8_strike 178 [some (.inr (some 80)), some (.inl x1), some (.inl x2), some (.inl x3), some (.inl x4), none, none] [] (g, I) (r, (g, J)))) ∧ ((((I 109 x4.toNat) = (I 109 x1.toNat))) → ((((x4 = x1)) → (Ev Γ 0 mX8_strike 178 [some (.inr (some 80)), some (.inl x1), some (.inl x2), some (.inl x3), some (.inl x4), none, none] [] (g, I) (r, (g, J)))) ∧ ((¬ (x4 = x1)) → (((0 : Int) ≤ x4 ∧ (x4 : Int) < 240) ∧ (((((I 151 x4.toNat) = 0)) → ((((x1 ≤ x4)) → (((¬ (x3 = (-1))) → (Ev Γ 0 mX8_strike 178 [some (.inr (some 80)), some (.inl x1), some (.inl x2), some (.inl x3), some (.inl x4), none, none] [] (g, I) (r, (g, J)))) ∧ (((x3 = (-1))) → (Ev Γ 0 mX8_strike 178 [some (.inr (some 80)), some (.inl x1), some (.inl x2), some (.inl x4), some (.inl x4), none, none] [] (g, I) (r, (g, J)))))) ∧ ((¬ (x1 ≤ x4)) → (Ev Γ 0 mX8_strike 178 [some (.inr (some 80)), some (.inl x1), some (.inl x4), some (.inl x3), some (.inl x4), none, none] [] (g, I) (r, (g, J)))))) ∧ ((¬ ((I 151 x4.toNat) = 0)) → (Ev Γ 0 mX8_strike 178 [some (.inr (some 80)), some (.inl x1), some (.inl x2), some (.inl x3), some (.inl x4), none, none] [] (g, I) (r, (g, J)))))))))))))) : Ev Γ 0 mX8_strike 105 [some (.inr (some 80)), some (.inl x1), some (.inl x2), some (.inl x3), some (.inl x4), none, none] [] (g, I) (r, (g, J)) := by
  refine e_iload dX8_strike_105 rfl ?_
  refine e_aload_n dX8_strike_107 rfl ?_
  refine e_getr dX8_strike_108 fO_8_23 (by decide) (gs_80 hg) rfl (gp_80_5 hg) ?_
  refine e_geti dX8_strike_111 fO_8_122 (by decide) (gs_102 hg) rfl ?_
  refine e_ic_ge (tgt := 184) dX8_strike_114 (by decide) (fun c1 => ?_) (fun c1 => ?_)
  · have Ac1 := V.1 c1
    refine e_iload_n dX8_strike_184 rfl ?_
    refine e_iconst dX8_strike_185 ⟨by decide, by decide⟩ ?_
    refine e_ic_ne (tgt := 194) dX8_strike_186 (by decide) (fun c2 => ?_) (fun c2 => ?_)
    · have Ac2 := Ac1.1 c2
      refine ev_drop (ls' := [some (.inr (some 80)), some (.inl x1), none, some (.inl x3), some (.inl x4), none, none]) 2 rfl ?_
      refine ev_drop (ls' := [some (.inr (some 80)), some (.inl x1), none, some (.inl x3), none, none, none]) 4 rfl ?_
      exact Ac2
    · have Bc2 := Ac1.2 c2
      refine e_iload_n dX8_strike_189 rfl ?_
      refine e_iconst dX8_strike_190 ⟨by decide, by decide⟩ ?_
      refine e_ic_ne (tgt := 206) dX8_strike_191 (by decide) (fun c3 => ?_) (fun c3 => ?_)
      · have Ac3 := Bc2.1 c3
        refine e_aload_n dX8_strike_206 rfl ?_
        refine e_getr dX8_strike_207 fO_8_23 (by decide) (gs_80 hg) rfl (gp_80_5 hg) ?_
        refine e_getr dX8_strike_210 fO_8_154 (by decide) (gs_102 hg) rfl (gp_102_5 hg) ?_
        refine e_iload_n dX8_strike_213 rfl ?_
        obtain ⟨h4, Vh4⟩ := Ac3
        refine e_iald dX8_strike_214 (by decide) (gs_106 hg) h4.1 h4.2 ?_
        refine e_top (fun y5 ey5 => ?_)
        have Wy5 := Vh4 y5 ey5
        refine e_istore dX8_strike_215 (by decide) (ls' := [some (.inr (some 80)), some (.inl x1), some (.inl x2), some (.inl x3), some (.inl y5), none, none]) rfl ?_
        refine e_iload_n dX8_strike_217 rfl ?_
        refine e_iconst dX8_strike_218 ⟨by decide, by decide⟩ ?_
        refine e_ic_eq (tgt := 234) dX8_strike_219 (by decide) (fun c6 => ?_) (fun c6 => ?_)
        · have Ac6 := Wy5.1 c6
          refine e_aload_n dX8_strike_234 rfl ?_
          refine e_getr dX8_strike_235 fO_8_23 (by decide) (gs_80 hg) rfl (gp_80_5 hg) ?_
          refine e_getr dX8_strike_238 fO_8_154 (by decide) (gs_102 hg) rfl (gp_102_5 hg) ?_
          refine e_iload_n dX8_strike_241 rfl ?_
          obtain ⟨h7, Vh7⟩ := Ac6
          refine e_iald dX8_strike_242 (by decide) (gs_106 hg) h7.1 h7.2 ?_
          refine e_top (fun y8 ey8 => ?_)
          have Wy8 := Vh7 y8 ey8
          refine e_istore dX8_strike_243 (by decide) (ls' := [some (.inr (some 80)), some (.inl x1), some (.inl x2), some (.inl x3), some (.inl y5), some (.inl y8), none]) rfl ?_
          refine e_iload dX8_strike_245 rfl ?_
          refine e_istore dX8_strike_247 (by decide) (ls' := [some (.inr (some 80)), some (.inl x1), some (.inl x2), some (.inl x3), some (.inl y5), some (.inl y8), some (.inl y5)]) rfl ?_
          refine ev_drop (ls' := [some (.inr (some 80)), some (.inl x1), none, some (.inl x3), some (.inl y5), some (.inl y8), some (.inl y5)]) 2 rfl ?_
          refine ev_drop (ls' := [some (.inr (some 80)), some (.inl x1), none, none, some (.inl y5), some (.inl y8), some (.inl y5)]) 3 rfl ?_
          refine ev_drop (ls' := [some (.inr (some 80)), some (.inl x1), none, none, none, some (.inl y8), some (.inl y5)]) 4 rfl ?_
          exact Wy8
        · have Bc6 := Wy5.2 c6
          refine e_aload_n dX8_strike_222 rfl ?_
          refine e_getr dX8_strike_223 fO_8_23 (by decide) (gs_80 hg) rfl (gp_80_5 hg) ?_
          refine e_getr dX8_strike_226 fO_8_128 (by decide) (gs_102 hg) rfl (gp_102_4 hg) ?_
          refine e_iload_n dX8_strike_229 rfl ?_
          obtain ⟨h9, Vh9⟩ := Bc6
          refine e_iald dX8_strike_230 (by decide) (gs_105 hg) h9.1 h9.2 ?_
          refine e_goto (tgt := 243) dX8_strike_231 (by decide) ?_
          refine e_top (fun y10 ey10 => ?_)
          have Wy10 := Vh9 y10 ey10
          refine e_istore dX8_strike_243 (by decide) (ls' := [some (.inr (some 80)), some (.inl x1), some (.inl x2), some (.inl x3), some (.inl y5), some (.inl y10), none]) rfl ?_
          refine e_iload dX8_strike_245 rfl ?_
          refine e_istore dX8_strike_247 (by decide) (ls' := [some (.inr (some 80)), some (.inl x1), some (.inl x2), some (.inl x3), some (.inl y5), some (.inl y10), some (.inl y5)]) rfl ?_
          refine ev_drop (ls' := [some (.inr (some 80)), some (.inl x1), none, some (.inl x3), some (.inl y5), some (.inl y10), some (.inl y5)]) 2 rfl ?_
          refine ev_drop (ls' := [some (.inr (some 80)), some (.inl x1), none, none, some (.inl y5), some (.inl y10), some (.inl y5)]) 3 rfl ?_
          refine ev_drop (ls' := [some (.inr (some 80)), some (.inl x1), none, none, none, some (.inl y10), some (.inl y5)]) 4 rfl ?_
          exact Wy10
      · have Bc3 := Bc2.2 c3
        refine ev_drop (ls' := [some (.inr (some 80)), some (.inl x1), none, some (.inl x3), some (.inl x4), none, none]) 2 rfl ?_
        refine ev_drop (ls' := [some (.inr (some 80)), some (.inl x1), none, some (.inl x3), none, none, none]) 4 rfl ?_
        exact Bc3
  · have Bc1 := V.2 c1
    refine e_aload_n dX8_strike_117 rfl ?_
    refine e_getr dX8_strike_118 fO_8_23 (by decide) (gs_80 hg) rfl (gp_80_5 hg) ?_
    refine e_getr dX8_strike_121 fO_8_131 (by decide) (gs_102 hg) rfl (gp_102_8 hg) ?_
    refine e_iload dX8_strike_124 rfl ?_
    obtain ⟨h11, Vh11⟩ := Bc1
    refine e_iald dX8_strike_126 (by decide) (gs_109 hg) h11.1 h11.2 ?_
    refine e_aload_n dX8_strike_127 rfl ?_
    refine e_getr dX8_strike_128 fO_8_23 (by decide) (gs_80 hg) rfl (gp_80_5 hg) ?_
    refine e_getr dX8_strike_131 fO_8_131 (by decide) (gs_102 hg) rfl (gp_102_8 hg) ?_
    refine e_iload_n dX8_strike_134 rfl ?_
    obtain ⟨h12, Vh12⟩ := Vh11
    refine e_iald dX8_strike_135 (by decide) (gs_109 hg) h12.1 h12.2 ?_
    refine e_ic_ne (tgt := 178) dX8_strike_136 (by decide) (fun c13 => ?_) (fun c13 => ?_)
    · have Ac13 := Vh12.1 c13
      exact Ac13
    · have Bc13 := Vh12.2 c13
      refine e_iload dX8_strike_139 rfl ?_
      refine e_iload_n dX8_strike_141 rfl ?_
      refine e_ic_eq (tgt := 178) dX8_strike_142 (by decide) (fun c14 => ?_) (fun c14 => ?_)
      · have Ac14 := Bc13.1 c14
        exact Ac14
      · have Bc14 := Bc13.2 c14
        refine e_aload_n dX8_strike_145 rfl ?_
        refine e_getr dX8_strike_146 fO_8_92 (by decide) (gs_80 hg) rfl (gp_80_38 hg) ?_
        refine e_iload dX8_strike_149 rfl ?_
        obtain ⟨h15, Vh15⟩ := Bc14
        refine e_zald dX8_strike_151 (by decide) (gs_151 hg) h15.1 h15.2 ?_
        refine e_if_eq (tgt := 158) dX8_strike_152 (by decide) (fun c16 => ?_) (fun c16 => ?_)
        · have Ac16 := Vh15.1 c16
          refine e_iload dX8_strike_158 rfl ?_
          refine e_iload_n dX8_strike_160 rfl ?_
          refine e_ic_ge (tgt := 170) dX8_strike_161 (by decide) (fun c17 => ?_) (fun c17 => ?_)
          · have Ac17 := Ac16.1 c17
            refine e_iload_n dX8_strike_170 rfl ?_
            refine e_iconst dX8_strike_171 ⟨by decide, by decide⟩ ?_
            refine e_ic_ne (tgt := 178) dX8_strike_172 (by decide) (fun c18 => ?_) (fun c18 => ?_)
            · have Ac18 := Ac17.1 c18
              exact Ac18
            · have Bc18 := Ac17.2 c18
              refine e_iload dX8_strike_175 rfl ?_
              refine e_istore_n dX8_strike_177 (by decide) (ls' := [some (.inr (some 80)), some (.inl x1), some (.inl x2), some (.inl x4), some (.inl x4), none, none]) rfl ?_
              exact Bc18
          · have Bc17 := Ac16.2 c17
            refine e_iload dX8_strike_164 rfl ?_
            refine e_istore_n dX8_strike_166 (by decide) (ls' := [some (.inr (some 80)), some (.inl x1), some (.inl x4), some (.inl x3), some (.inl x4), none, none]) rfl ?_
            refine e_goto (tgt := 178) dX8_strike_167 (by decide) ?_
            exact Bc17
        · have Bc16 := Vh15.2 c16
          refine e_goto (tgt := 178) dX8_strike_155 (by decide) ?_
          exact Bc16
set_option maxRecDepth 100000 in
set_option maxHeartbeats 4000000 in
theorem v_X8_strike_194 {Γ : GX} {g : AG} {I J : Nat → Nat → Int} {r : Option AV} (hg : GOk g) (x1 : Int) (x3 : Int)
    (V : ((0 : Int) ≤ x1 ∧ (x1 : Int) < 240) ∧ (∀ y2 : Int, y2 = (I 105 x1.toNat) → ((((x3 = (-1))) → (((0 : Int) ≤ x1 ∧ (x1 : Int) < 240) ∧ (∀ y5 : Int, y5 = (I 106 x1.toNat) → (Ev Γ 0 mX8_strike 249 [some (.inr (some 80)), some (.inl x1), none, none, none, some (.inl y5), some (.inl y2)] [] (g, I) (r, (g, J)))))) ∧ ((¬ (x3 = (-1))) → (((0 : Int) ≤ x3 ∧ (x3 : Int) < 240) ∧ (∀ y7 : Int, y7 = (I 105 x3.toNat) → (Ev Γ 0 mX8_strike 249 [some (.inr (some 80)), some (.inl x1), none, none, none, some (.inl y7), some (.inl y2)] [] (g, I) (r, (g, J))))))))) : Ev Γ 0 mX8_strike 194 [some (.inr (some 80)), some (.inl x1), none, some (.inl x3), none, none, none] [] (g, I) (r, (g, J)) := by
  refine e_aload_n dX8_strike_194 rfl ?_
  refine e_getr dX8_strike_195 fO_8_23 (by decide) (gs_80 hg) rfl (gp_80_5 hg) ?_
  refine e_getr dX8_strike_198 fO_8_128 (by decide) (gs_102 hg) rfl (gp_102_4 hg) ?_
  refine e_iload_n dX8_strike_201 rfl ?_
  obtain ⟨h1, Vh1⟩ := V
  refine e_iald dX8_strike_202 (by decide) (gs_105 hg) h1.1 h1.2 ?_
  refine e_goto (tgt := 215) dX8_strike_203 (by decide) ?_
  refine e_top (fun y2 ey2 => ?_)
  have Wy2 := Vh1 y2 ey2
  refine e_istore dX8_strike_215 (by decide) (ls' := [some (.inr (some 80)), some (.inl x1), none, some (.inl x3), some (.inl y2), none, none]) rfl ?_
  refine e_iload_n dX8_strike_217 rfl ?_
  refine e_iconst dX8_strike_218 ⟨by decide, by decide⟩ ?_
  refine e_ic_eq (tgt := 234) dX8_strike_219 (by decide) (fun c3 => ?_) (fun c3 => ?_)
  · have Ac3 := Wy2.1 c3
    refine e_aload_n dX8_strike_234 rfl ?_
    refine e_getr dX8_strike_235 fO_8_23 (by decide) (gs_80 hg) rfl (gp_80_5 hg) ?_
    refine e_getr dX8_strike_238 fO_8_154 (by decide) (gs_102 hg) rfl (gp_102_5 hg) ?_
    refine e_iload_n dX8_strike_241 rfl ?_
    obtain ⟨h4, Vh4⟩ := Ac3
    refine e_iald dX8_strike_242 (by decide) (gs_106 hg) h4.1 h4.2 ?_
    refine e_top (fun y5 ey5 => ?_)
    have Wy5 := Vh4 y5 ey5
    refine e_istore dX8_strike_243 (by decide) (ls' := [some (.inr (some 80)), some (.inl x1), none, some (.inl x3), some (.inl y2), some (.inl y5), none]) rfl ?_
    refine e_iload dX8_strike_245 rfl ?_
    refine e_istore dX8_strike_247 (by decide) (ls' := [some (.inr (some 80)), some (.inl x1), none, some (.inl x3), some (.inl y2), some (.inl y5), some (.inl y2)]) rfl ?_
    refine ev_drop (ls' := [some (.inr (some 80)), some (.inl x1), none, none, some (.inl y2), some (.inl y5), some (.inl y2)]) 3 rfl ?_
    refine ev_drop (ls' := [some (.inr (some 80)), some (.inl x1), none, none, none, some (.inl y5), some (.inl y2)]) 4 rfl ?_
    exact Wy5
  · have Bc3 := Wy2.2 c3
    refine e_aload_n dX8_strike_222 rfl ?_
    refine e_getr dX8_strike_223 fO_8_23 (by decide) (gs_80 hg) rfl (gp_80_5 hg) ?_
    refine e_getr dX8_strike_226 fO_8_128 (by decide) (gs_102 hg) rfl (gp_102_4 hg) ?_
    refine e_iload_n dX8_strike_229 rfl ?_
    obtain ⟨h6, Vh6⟩ := Bc3
    refine e_iald dX8_strike_230 (by decide) (gs_105 hg) h6.1 h6.2 ?_
    refine e_goto (tgt := 243) dX8_strike_231 (by decide) ?_
    refine e_top (fun y7 ey7 => ?_)
    have Wy7 := Vh6 y7 ey7
    refine e_istore dX8_strike_243 (by decide) (ls' := [some (.inr (some 80)), some (.inl x1), none, some (.inl x3), some (.inl y2), some (.inl y7), none]) rfl ?_
    refine e_iload dX8_strike_245 rfl ?_
    refine e_istore dX8_strike_247 (by decide) (ls' := [some (.inr (some 80)), some (.inl x1), none, some (.inl x3), some (.inl y2), some (.inl y7), some (.inl y2)]) rfl ?_
    refine ev_drop (ls' := [some (.inr (some 80)), some (.inl x1), none, none, some (.inl y2), some (.inl y7), some (.inl y2)]) 3 rfl ?_
    refine ev_drop (ls' := [some (.inr (some 80)), some (.inl x1), none, none, none, some (.inl y7), some (.inl y2)]) 4 rfl ?_
    exact Wy7
set_option maxRecDepth 100000 in
set_option maxHeartbeats 4000000 in
theorem v_X8_strike_249 {Γ : GX} {g : AG} {I J : Nat → Nat → Int} {r : Option AV} (hg : GOk g) (x1 : Int) (x5 : Int) (x6 : Int)
    (V : (((x5 ≤ x6)) → (((0 : Int) ≤ x1 ∧ (x1 : Int) < 240) ∧ (∀ I2 : Nat → Nat → Int, I2 = mset I 151 x1.toNat 1 → (Ev Γ 0 mX8_strike 277 [some (.inr (some 80)), some (.inl x1), none, none, none, none, none] [] (g, I2) (r, (g, J)))))) ∧ ((¬ (x5 ≤ x6)) → (((0 : Int) ≤ x6 ∧ (x6 : Int) < 240) ∧ (∀ I4 : Nat → Nat → Int, I4 = mset I 150 x6.toNat 1 → (inR (x6 + 1) ∧ (Ev Γ 0 mX8_strike 249 [some (.inr (some 80)), some (.inl x1), none, none, none, some (.inl x5), some (.inl (x6 + 1))] [] (g, I4) (r, (g, J)))))))) : Ev Γ 0 mX8_strike 249 [some (.inr (some 80)), some (.inl x1), none, none, none, some (.inl x5), some (.inl x6)] [] (g, I) (r, (g, J)) := by
  refine e_iload dX8_strike_249 rfl ?_
  refine e_iload dX8_strike_251 rfl ?_
  refine e_ic_ge (tgt := 270) dX8_strike_253 (by decide) (fun c1 => ?_) (fun c1 => ?_)
  · have Ac1 := V.1 c1
    refine e_aload_n dX8_strike_270 rfl ?_
    refine e_getr dX8_strike_271 fO_8_92 (by decide) (gs_80 hg) rfl (gp_80_38 hg) ?_
    refine e_iload_n dX8_strike_274 rfl ?_
    refine e_iconst dX8_strike_275 ⟨by decide, by decide⟩ ?_
    obtain ⟨h3, Vh3⟩ := Ac1
    refine e_zast dX8_strike_276 (by decide) (gs_151 hg) h3.1 h3.2 (by decide) ?_
    refine e_mem (fun I2 eI2 => ?_)
    have WI2 := Vh3 I2 eI2
    refine ev_drop (ls' := [some (.inr (some 80)), some (.inl x1), none, none, none, none, some (.inl x6)]) 5 rfl ?_
    refine ev_drop (ls' := [some (.inr (some 80)), some (.inl x1), none, none, none, none, none]) 6 rfl ?_
    exact WI2
  · have Bc1 := V.2 c1
    refine e_aload_n dX8_strike_256 rfl ?_
    refine e_getr dX8_strike_257 fO_8_89 (by decide) (gs_80 hg) rfl (gp_80_37 hg) ?_
    refine e_iload dX8_strike_260 rfl ?_
    refine e_iconst dX8_strike_262 ⟨by decide, by decide⟩ ?_
    obtain ⟨h5, Vh5⟩ := Bc1
    refine e_zast dX8_strike_263 (by decide) (gs_150 hg) h5.1 h5.2 (by decide) ?_
    refine e_mem (fun I4 eI4 => ?_)
    have WI4 := Vh5 I4 eI4
    obtain ⟨h6, Vh6⟩ := WI4
    refine e_iinc dX8_strike_264 (by decide) rfl h6 (ls' := [some (.inr (some 80)), some (.inl x1), none, none, none, some (.inl x5), some (.inl (x6 + 1))]) rfl ?_
    refine e_goto (tgt := 249) dX8_strike_267 (by decide) ?_
    exact Vh6
set_option maxRecDepth 100000 in
set_option maxHeartbeats 4000000 in
theorem v_X8_strike_178 {Γ : GX} {g : AG} {I J : Nat → Nat → Int} {r : Option AV} (hg : GOk g) (x1 : Int) (x2 : Int) (x3 : Int) (x4 : Int)
    (V : inR (x4 + 1) ∧ (Ev Γ 0 mX8_strike 105 [some (.inr (some 80)), some (.inl x1), some (.inl x2), some (.inl x3), some (.inl (x4 + 1)), none, none] [] (g, I) (r, (g, J)))) : Ev Γ 0 mX8_strike 178 [some (.inr (some 80)), some (.inl x1), some (.inl x2), some (.inl x3), some (.inl x4), none, none] [] (g, I) (r, (g, J)) := by
  obtain ⟨h1, Vh1⟩ := V
  refine e_iinc dX8_strike_178 (by decide) rfl h1 (ls' := [some (.inr (some 80)), some (.inl x1), some (.inl x2), some (.inl x3), some (.inl (x4 + 1)), none, none]) rfl ?_
  refine e_goto (tgt := 105) dX8_strike_181 (by decide) ?_
  exact Vh1
set_option maxRecDepth 100000 in
set_option maxHeartbeats 4000000 in
theorem v_X8_write_0 {Γ : GX} {g : AG} {I J : Nat → Nat → Int} {r : Option AV} (hg : GOk g) 
    (V : ∃ (J1 : Nat → Nat → Int), CT Γ 0 mX8_strike [.inr (some 80)] (g, I) (none, (g, J1)) ∧ (∀ y5 : Int, y5 = (J1 105 0) → (Ev Γ 1 mX8_write 14 [some (.inr (some 80)), some (.inl y5), none, none] [] (g, J1) (r, (g, J))))) : Ev Γ 1 mX8_write 0 [some (.inr (some 80)), none, none, none] [] (g, I) (r, (g, J)) := by
  refine e_aload_n dX8_write_0 rfl ?_
  obtain ⟨J1, h2, Vh2⟩ := V
  refine e_callv (av := []) (st := []) dX8_write_1 cO_8_269 oX8_strike rfl (by decide) (gs_80 hg) rfl (Nat.le_of_ble_eq_true rfl) (by decide) h2 (Nat.le_refl _) (Nat.le_refl _) rfl rfl ?_
  refine e_aload_n dX8_write_4 rfl ?_
  refine e_getr dX8_write_5 fO_8_23 (by decide) (gs_80 hg) rfl (gp_80_5 hg) ?_
  refine e_getr dX8_write_8 fO_8_128 (by decide) (gs_102 hg) rfl (gp_102_4 hg) ?_
  refine e_iconst dX8_write_11 ⟨by decide, by decide⟩ ?_
  have Vh4 := Vh2
  refine e_iald dX8_write_12 (by decide) (gs_105 hg) (by decide) (by decide) ?_
  refine e_top (fun y5 ey5 => ?_)
  have Wy5 := Vh4 y5 ey5
  refine e_istore_n dX8_write_13 (by decide) (ls' := [some (.inr (some 80)), some (.inl y5), none, none]) rfl ?_
  exact Wy5
set_option maxRecDepth 100000 in
set_option maxHeartbeats 4000000 in
theorem v_X8_write_14 {Γ : GX} {g : AG} {I J : Nat → Nat → Int} {r : Option AV} (hg : GOk g) (x1 : Int)
    (V : ((((I 106 0) ≤ x1)) → (r = none ∧ J = I)) ∧ ((¬ ((I 106 0) ≤ x1)) → (Ev Γ 1 mX8_write 31 [some (.inr (some 80)), some (.inl x1), some (.inl (-1)), some (.inl 0)] [] (g, I) (r, (g, J))))) : Ev Γ 1 mX8_write 14 [some (.inr (some 80)), some (.inl x1), none, none] [] (g, I) (r, (g, J)) := by
  refine e_iload_n dX8_write_14 rfl ?_
  refine e_aload_n dX8_write_15 rfl ?_
  refine e_getr dX8_write_16 fO_8_23 (by decide) (gs_80 hg) rfl (gp_80_5 hg) ?_
  refine e_getr dX8_write_19 fO_8_154 (by decide) (gs_102 hg) rfl (gp_102_5 hg) ?_
  refine e_iconst dX8_write_22 ⟨by decide, by decide⟩ ?_
  have Vh1 := V
  refine e_iald dX8_write_23 (by decide) (gs_106 hg) (by decide) (by decide) ?_
  refine e_ic_ge (tgt := 240) dX8_write_24 (by decide) (fun c2 => ?_) (fun c2 => ?_)
  · have Ac2 := Vh1.1 c2
    exact e_vret dX8_write_240 rfl (by rw [Ac2.1, Ac2.2])
  · have Bc2 := Vh1.2 c2
    refine e_iconst dX8_write_27 ⟨by decide, by decide⟩ ?_
    refine e_istore_n dX8_write_28 (by decide) (ls' := [some (.inr (some 80)), some (.inl x1), some (.inl (-1)), none]) rfl ?_
    refine e_iconst dX8_write_29 ⟨by decide, by decide⟩ ?_
    refine e_istore_n dX8_write_30 (by decide) (ls' := [some (.inr (some 80)), some (.inl x1), some (.inl (-1)), some (.inl 0)]) rfl ?_
    exact Bc2
set_option maxRecDepth 100000 in
set_option maxHeartbeats 4000000 in
theorem v_X8_write_31 {Γ : GX} {g : AG} {I J : Nat → Nat → Int} {r : Option AV} (hg : GOk g) (x1 : Int) (x2 : Int) (x3 : Int)
    (V : ((((I 102 2) ≤ x3)) → (((0 : Int) ≤ x1 ∧ (x1 : Int) < 240) ∧ (((((I 150 x1.toNat) = 0)) → (((¬ (x2 = (-1))) → (((0 : Int) ≤ x2 ∧ (x2 : Int) < 240) ∧ (∀ y6 : Int, y6 = (I 110 x2.toNat) → (((0 : Int) ≤ x2 ∧ (x2 : Int) < 240) ∧ (((¬ ((I 104 x2.toNat) = 1)) → (((0 : Int) ≤ y6 ∧ (y6 : Int) < 26) ∧ (((0 : Int) ≤ (I 142 y6.toNat) ∧ ((I 142 y6.toNat) : Int) < 240) ∧ (((0 : Int) ≤ y6 ∧ (y6 : Int) < 26) ∧ (((0 : Int) ≤ y6 ∧ (y6 : Int) < 26) ∧ (((0 : Int) ≤ y6 ∧ (y6 : Int) < 26) ∧ (inR ((I 145 y6.toNat) + (I 143 y6.toNat)) ∧ (inR (((I 145 y6.toNat) + (I 143 y6.toNat)) - 1) ∧ (∃ (r18 : Int) (J16 : Nat → Nat → Int), CT Γ 0 mX7_term [.inr (some 82), .inl (I 144 y6.toNat), .inl (((I 145 y6.toNat) + (I 143 y6.toNat)) - 1)] (g, I) (some (.inl r18), (g, J16)) ∧ (((0 : Int) ≤ r18 ∧ (r18 : Int) < 240) ∧ (∃ (J20 : Nat → Nat → Int), CT Γ 0 mX8_copy [.inr (some 80), .inr (some 82), .inl (I 85 (I 142 y6.toNat).toNat), .inl (J16 86 r18.toNat)] (g, J16) (none, (g, J20)) ∧ (Ev Γ 1 mX8_write 234 [some (.inr (some 80)), some (.inl x1), none, none] [] (g, J20) (r, (g, J)))))))))))))) ∧ ((((I 104 x2.toNat) = 1)) → (((0 : Int) ≤ y6 ∧ (y6 : Int) < 26) ∧ (((0 : Int) ≤ (I 141 y6.toNat) ∧ ((I 141 y6.toNat) : Int) < 240) ∧ (((0 : Int) ≤ y6 ∧ (y6 : Int) < 26) ∧ (((0 : Int) ≤ (I 141 y6.toNat) ∧ ((I 141 y6.toNat) : Int) < 240) ∧ (∃ (J27 : Nat → Nat → Int), CT Γ 0 mX8_copy [.inr (some 80), .inr (some 82), .inl (I 85 (I 141 y6.toNat).toNat), .inl (I 86 (I 141 y6.toNat).toNat)] (g, I) (none, (g, J27)) ∧ (Ev Γ 1 mX8_write 234 [some (.inr (some 80)), some (.inl x1), none, none] [] (g, J27) (r, (g, J)))))))))))))) ∧ (((x2 = (-1))) → (inR (x1 + 1) ∧ (∃ (J31 : Nat → Nat → Int), CT Γ 0 mX8_copy [.inr (some 80), .inr (some 102), .inl x1, .inl (x1 + 1)] (g, I) (none, (g, J31)) ∧ (inR (x1 + 1) ∧ (Ev Γ 1 mX8_write 14 [some (.inr (some 80)), some (.inl (x1 + 1)), none, none] [] (g, J31) (r, (g, J))))))))) ∧ ((¬ ((I 150 x1.toNat) = 0)) → (inR (x1 + 1) ∧ (Ev Γ 1 mX8_write 14 [some (.inr (some 80)), some (.inl (x1 + 1)), none, none] [] (g, I) (r, (g, J)))))))) ∧ ((¬ ((I 102 2) ≤ x3)) → (((0 : Int) ≤ x3 ∧ (x3 : Int) < 240) ∧ (((¬ ((I 105 x3.toNat) = x1)) → (Ev Γ 1 mX8_write 70 [some (.inr (some 80)), some (.inl x1), some (.inl x2), some (.inl x3)] [] (g, I) (r, (g, J)))) ∧ ((((I 105 x3.toNat) = x1)) → (((0 : Int) ≤ x3 ∧ (x3 : Int) < 240) ∧ (((((I 110 x3.toNat) = (-1))) → (Ev Γ 1 mX8_write 70 [some (.inr (some 80)), some (.inl x1), some (.inl x2), some (.inl x3)] [] (g, I) (r, (g, J)))) ∧ ((¬ ((I 110 x3.toNat) = (-1))) → (Ev Γ 1 mX8_write 70 [some (.inr (some 80)), some (.inl x1), some (.inl x3), some (.inl x3)] [] (g, I) (r, (g, J))))))))))) : Ev Γ 1 mX8_write 31 [some (.inr (some 80)), some (.inl x1), some (.inl x2), some (.inl x3)] [] (g, I) (r, (g, J)) := by
  refine e_iload_n dX8_write_31 rfl ?_
  refine e_aload_n dX8_write_32 rfl ?_
  refine e_getr dX8_write_33 fO_8_23 (by decide) (gs_80 hg) rfl (gp_80_5 hg) ?_
  refine e_geti dX8_write_36 fO_8_122 (by decide) (gs_102 hg) rfl ?_
  refine e_ic_ge (tgt := 76) dX8_write_39 (by decide) (fun c1 => ?_) (fun c1 => ?_)
  · have Ac1 := V.1 c1
    refine e_aload_n dX8_write_76 rfl ?_
    refine e_getr dX8_write_77 fO_8_89 (by decide) (gs_80 hg) rfl (gp_80_37 hg) ?_
    refine e_iload_n dX8_write_80 rfl ?_
    obtain ⟨h2, Vh2⟩ := Ac1
    refine e_zald dX8_write_81 (by decide) (gs_150 hg) h2.1 h2.2 ?_
    refine e_if_eq (tgt := 91) dX8_write_82 (by decide) (fun c3 => ?_) (fun c3 => ?_)
    · have Ac3 := Vh2.1 c3
      refine e_iload_n dX8_write_91 rfl ?_
      refine e_iconst dX8_write_92 ⟨by decide, by decide⟩ ?_
      refine e_ic_ne (tgt := 114) dX8_write_93 (by decide) (fun c4 => ?_) (fun c4 => ?_)
      · have Ac4 := Ac3.1 c4
        refine e_aload_n dX8_write_114 rfl ?_
        refine e_getr dX8_write_115 fO_8_23 (by decide) (gs_80 hg) rfl (gp_80_5 hg) ?_
        refine e_getr dX8_write_118 fO_8_140 (by decide) (gs_102 hg) rfl (gp_102_9 hg) ?_
        refine e_iload_n dX8_write_121 rfl ?_
        obtain ⟨h5, Vh5⟩ := Ac4
        refine e_iald dX8_write_122 (by decide) (gs_110 hg) h5.1 h5.2 ?_
        refine e_top (fun y6 ey6 => ?_)
        have Wy6 := Vh5 y6 ey6
        refine e_istore_n dX8_write_123 (by decide) (ls' := [some (.inr (some 80)), some (.inl x1), some (.inl x2), some (.inl y6)]) rfl ?_
        refine e_aload_n dX8_write_124 rfl ?_
        refine e_getr dX8_write_125 fO_8_23 (by decide) (gs_80 hg) rfl (gp_80_5 hg) ?_
        refine e_getr dX8_write_128 fO_8_125 (by decide) (gs_102 hg) rfl (gp_102_3 hg) ?_
        refine e_iload_n dX8_write_131 rfl ?_
        obtain ⟨h7, Vh7⟩ := Wy6
        refine e_iald dX8_write_132 (by decide) (gs_104 hg) h7.1 h7.2 ?_
        refine e_iconst dX8_write_133 ⟨by decide, by decide⟩ ?_
        refine e_ic_ne (tgt := 176) dX8_write_134 (by decide) (fun c8 => ?_) (fun c8 => ?_)
        · have Ac8 := Vh7.1 c8
          refine e_aload_n dX8_write_176 rfl ?_
          refine e_aload_n dX8_write_177 rfl ?_
          refine e_getr dX8_write_178 fO_8_16 (by decide) (gs_80 hg) rfl (gp_80_3 hg) ?_
          refine e_aload_n dX8_write_181 rfl ?_
          refine e_getr dX8_write_182 fO_8_16 (by decide) (gs_80 hg) rfl (gp_80_3 hg) ?_
          refine e_getr dX8_write_185 fO_8_128 (by decide) (gs_82 hg) rfl (gp_82_4 hg) ?_
          refine e_aload_n dX8_write_188 rfl ?_
          refine e_getr dX8_write_189 fO_8_64 (by decide) (gs_80 hg) rfl (gp_80_28 hg) ?_
          refine e_iload_n dX8_write_192 rfl ?_
          obtain ⟨h9, Vh9⟩ := Ac8
          refine e_iald dX8_write_193 (by decide) (gs_142 hg) h9.1 h9.2 ?_
          obtain ⟨h10, Vh10⟩ := Vh9
          refine e_iald dX8_write_194 (by decide) (gs_85 hg) h10.1 h10.2 ?_
          refine e_aload_n dX8_write_195 rfl ?_
          refine e_getr dX8_write_196 fO_8_16 (by decide) (gs_80 hg) rfl (gp_80_3 hg) ?_
          refine e_getr dX8_write_199 fO_8_154 (by decide) (gs_82 hg) rfl (gp_82_5 hg) ?_
          refine e_aload_n dX8_write_202 rfl ?_
          refine e_getr dX8_write_203 fO_8_16 (by decide) (gs_80 hg) rfl (gp_80_3 hg) ?_
          refine e_aload_n dX8_write_206 rfl ?_
          refine e_getr dX8_write_207 fO_8_70 (by decide) (gs_80 hg) rfl (gp_80_30 hg) ?_
          refine e_iload_n dX8_write_210 rfl ?_
          obtain ⟨h11, Vh11⟩ := Vh10
          refine e_iald dX8_write_211 (by decide) (gs_144 hg) h11.1 h11.2 ?_
          refine e_aload_n dX8_write_212 rfl ?_
          refine e_getr dX8_write_213 fO_8_73 (by decide) (gs_80 hg) rfl (gp_80_31 hg) ?_
          refine e_iload_n dX8_write_216 rfl ?_
          obtain ⟨h12, Vh12⟩ := Vh11
          refine e_iald dX8_write_217 (by decide) (gs_145 hg) h12.1 h12.2 ?_
          refine e_aload_n dX8_write_218 rfl ?_
          refine e_getr dX8_write_219 fO_8_67 (by decide) (gs_80 hg) rfl (gp_80_29 hg) ?_
          refine e_iload_n dX8_write_222 rfl ?_
          obtain ⟨h13, Vh13⟩ := Vh12
          refine e_iald dX8_write_223 (by decide) (gs_143 hg) h13.1 h13.2 ?_
          obtain ⟨h14, Vh14⟩ := Vh13
          refine e_iadd dX8_write_224 h14 ?_
          refine e_iconst dX8_write_225 ⟨by decide, by decide⟩ ?_
          obtain ⟨h15, Vh15⟩ := Vh14
          refine e_isub dX8_write_226 h15 ?_
          obtain ⟨r18, J16, h17, Vh17⟩ := Vh15
          refine e_callv (av := [.inl (I 144 y6.toNat), .inl (((I 145 y6.toNat) + (I 143 y6.toNat)) - 1)]) (st := [.inr (some 86), .inl (I 85 (I 142 y6.toNat).toNat), .inr (some 82), .inr (some 80)]) dX8_write_227 cO_8_219 oX7_term rfl (by decide) (gs_82 hg) rfl (Nat.le_of_ble_eq_true rfl) (by decide) h17 (Nat.le_refl _) (Nat.le_refl _) rfl rfl ?_
          obtain ⟨h19, Vh19⟩ := Vh17
          refine e_iald dX8_write_230 (by decide) (gs_86 hg) h19.1 h19.2 ?_
          obtain ⟨J20, h21, Vh21⟩ := Vh19
          refine e_callv (av := [.inr (some 82), .inl (I 85 (I 142 y6.toNat).toNat), .inl (J16 86 r18.toNat)]) (st := []) dX8_write_231 cO_8_272 oX8_copy rfl (by decide) (gs_80 hg) rfl (Nat.le_of_ble_eq_true rfl) (by decide) h21 (Nat.le_refl _) (Nat.le_refl _) rfl rfl ?_
          refine ev_drop (ls' := [some (.inr (some 80)), some (.inl x1), none, some (.inl y6)]) 2 rfl ?_
          refine ev_drop (ls' := [some (.inr (some 80)), some (.inl x1), none, none]) 3 rfl ?_
          exact Vh21
        · have Bc8 := Vh7.2 c8
          refine e_aload_n dX8_write_137 rfl ?_
          refine e_aload_n dX8_write_138 rfl ?_
          refine e_getr dX8_write_139 fO_8_16 (by decide) (gs_80 hg) rfl (gp_80_3 hg) ?_
          refine e_aload_n dX8_write_142 rfl ?_
          refine e_getr dX8_write_143 fO_8_16 (by decide) (gs_80 hg) rfl (gp_80_3 hg) ?_
          refine e_getr dX8_write_146 fO_8_128 (by decide) (gs_82 hg) rfl (gp_82_4 hg) ?_
          refine e_aload_n dX8_write_149 rfl ?_
          refine e_getr dX8_write_150 fO_8_61 (by decide) (gs_80 hg) rfl (gp_80_27 hg) ?_
          refine e_iload_n dX8_write_153 rfl ?_
          obtain ⟨h23, Vh23⟩ := Bc8
          refine e_iald dX8_write_154 (by decide) (gs_141 hg) h23.1 h23.2 ?_
          obtain ⟨h24, Vh24⟩ := Vh23
          refine e_iald dX8_write_155 (by decide) (gs_85 hg) h24.1 h24.2 ?_
          refine e_aload_n dX8_write_156 rfl ?_
          refine e_getr dX8_write_157 fO_8_16 (by decide) (gs_80 hg) rfl (gp_80_3 hg) ?_
          refine e_getr dX8_write_160 fO_8_154 (by decide) (gs_82 hg) rfl (gp_82_5 hg) ?_
          refine e_aload_n dX8_write_163 rfl ?_
          refine e_getr dX8_write_164 fO_8_61 (by decide) (gs_80 hg) rfl (gp_80_27 hg) ?_
          refine e_iload_n dX8_write_167 rfl ?_
          obtain ⟨h25, Vh25⟩ := Vh24
          refine e_iald dX8_write_168 (by decide) (gs_141 hg) h25.1 h25.2 ?_
          obtain ⟨h26, Vh26⟩ := Vh25
          refine e_iald dX8_write_169 (by decide) (gs_86 hg) h26.1 h26.2 ?_
          obtain ⟨J27, h28, Vh28⟩ := Vh26
          refine e_callv (av := [.inr (some 82), .inl (I 85 (I 141 y6.toNat).toNat), .inl (I 86 (I 141 y6.toNat).toNat)]) (st := []) dX8_write_170 cO_8_272 oX8_copy rfl (by decide) (gs_80 hg) rfl (Nat.le_of_ble_eq_true rfl) (by decide) h28 (Nat.le_refl _) (Nat.le_refl _) rfl rfl ?_
          refine e_goto (tgt := 234) dX8_write_173 (by decide) ?_
          refine ev_drop (ls' := [some (.inr (some 80)), some (.inl x1), none, some (.inl y6)]) 2 rfl ?_
          refine ev_drop (ls' := [some (.inr (some 80)), some (.inl x1), none, none]) 3 rfl ?_
          exact Vh28
      · have Bc4 := Ac3.2 c4
        refine e_aload_n dX8_write_96 rfl ?_
        refine e_aload_n dX8_write_97 rfl ?_
        refine e_getr dX8_write_98 fO_8_23 (by decide) (gs_80 hg) rfl (gp_80_5 hg) ?_
        refine e_iload_n dX8_write_101 rfl ?_
        refine e_iload_n dX8_write_102 rfl ?_
        refine e_iconst dX8_write_103 ⟨by decide, by decide⟩ ?_
        obtain ⟨h30, Vh30⟩ := Bc4
        refine e_iadd dX8_write_104 h30 ?_
        obtain ⟨J31, h32, Vh32⟩ := Vh30
        refine e_callv (av := [.inr (some 102), .inl x1, .inl (x1 + 1)]) (st := []) dX8_write_105 cO_8_272 oX8_copy rfl (by decide) (gs_80 hg) rfl (Nat.le_of_ble_eq_true rfl) (by decide) h32 (Nat.le_refl _) (Nat.le_refl _) rfl rfl ?_
        obtain ⟨h34, Vh34⟩ := Vh32
        refine e_iinc dX8_write_108 (by decide) rfl h34 (ls' := [some (.inr (some 80)), some (.inl (x1 + 1)), some (.inl x2), some (.inl x3)]) rfl ?_
        refine e_goto (tgt := 14) dX8_write_111 (by decide) ?_
        refine ev_drop (ls' := [some (.inr (some 80)), some (.inl (x1 + 1)), none, some (.inl x3)]) 2 rfl ?_
        refine ev_drop (ls' := [some (.inr (some 80)), some (.inl (x1 + 1)), none, none]) 3 rfl ?_
        exact Vh34
    · have Bc3 := Vh2.2 c3
      obtain ⟨h35, Vh35⟩ := Bc3
      refine e_iinc dX8_write_85 (by decide) rfl h35 (ls' := [some (.inr (some 80)), some (.inl (x1 + 1)), some (.inl x2), some (.inl x3)]) rfl ?_
      refine e_goto (tgt := 14) dX8_write_88 (by decide) ?_
      refine ev_drop (ls' := [some (.inr (some 80)), some (.inl (x1 + 1)), none, some (.inl x3)]) 2 rfl ?_
      refine ev_drop (ls' := [some (.inr (some 80)), some (.inl (x1 + 1)), none, none]) 3 rfl ?_
      exact Vh35
  · have Bc1 := V.2 c1
    refine e_aload_n dX8_write_42 rfl ?_
    refine e_getr dX8_write_43 fO_8_23 (by decide) (gs_80 hg) rfl (gp_80_5 hg) ?_
    refine e_getr dX8_write_46 fO_8_128 (by decide) (gs_102 hg) rfl (gp_102_4 hg) ?_
    refine e_iload_n dX8_write_49 rfl ?_
    obtain ⟨h36, Vh36⟩ := Bc1
    refine e_iald dX8_write_50 (by decide) (gs_105 hg) h36.1 h36.2 ?_
    refine e_iload_n dX8_write_51 rfl ?_
    refine e_ic_ne (tgt := 70) dX8_write_52 (by decide) (fun c37 => ?_) (fun c37 => ?_)
    · have Ac37 := Vh36.1 c37
      exact Ac37
    · have Bc37 := Vh36.2 c37
      refine e_aload_n dX8_write_55 rfl ?_
      refine e_getr dX8_write_56 fO_8_23 (by decide) (gs_80 hg) rfl (gp_80_5 hg) ?_
      refine e_getr dX8_write_59 fO_8_140 (by decide) (gs_102 hg) rfl (gp_102_9 hg) ?_
      refine e_iload_n dX8_write_62 rfl ?_
      obtain ⟨h38, Vh38⟩ := Bc37
      refine e_iald dX8_write_63 (by decide) (gs_110 hg) h38.1 h38.2 ?_
      refine e_iconst dX8_write_64 ⟨by decide, by decide⟩ ?_
      refine e_ic_eq (tgt := 70) dX8_write_65 (by decide) (fun c39 => ?_) (fun c39 => ?_)
      · have Ac39 := Vh38.1 c39
        exact Ac39
      · have Bc39 := Vh38.2 c39
        refine e_iload_n dX8_write_68 rfl ?_
        refine e_istore_n dX8_write_69 (by decide) (ls' := [some (.inr (some 80)), some (.inl x1), some (.inl x3), some (.inl x3)]) rfl ?_
        exact Bc39
set_option maxRecDepth 100000 in
set_option maxHeartbeats 4000000 in
theorem v_X8_write_234 {Γ : GX} {g : AG} {I J : Nat → Nat → Int} {r : Option AV} (hg : GOk g) (x1 : Int)
    (V : inR (x1 + 2) ∧ (Ev Γ 1 mX8_write 14 [some (.inr (some 80)), some (.inl (x1 + 2)), none, none] [] (g, I) (r, (g, J)))) : Ev Γ 1 mX8_write 234 [some (.inr (some 80)), some (.inl x1), none, none] [] (g, I) (r, (g, J)) := by
  obtain ⟨h1, Vh1⟩ := V
  refine e_iinc dX8_write_234 (by decide) rfl h1 (ls' := [some (.inr (some 80)), some (.inl (x1 + 2)), none, none]) rfl ?_
  refine e_goto (tgt := 14) dX8_write_237 (by decide) ?_
  exact Vh1
set_option maxRecDepth 100000 in
set_option maxHeartbeats 4000000 in
theorem v_X8_write_70 {Γ : GX} {g : AG} {I J : Nat → Nat → Int} {r : Option AV} (hg : GOk g) (x1 : Int) (x2 : Int) (x3 : Int)
    (V : inR (x3 + 1) ∧ (Ev Γ 1 mX8_write 31 [some (.inr (some 80)), some (.inl x1), some (.inl x2), some (.inl (x3 + 1))] [] (g, I) (r, (g, J)))) : Ev Γ 1 mX8_write 70 [some (.inr (some 80)), some (.inl x1), some (.inl x2), some (.inl x3)] [] (g, I) (r, (g, J)) := by
  obtain ⟨h1, Vh1⟩ := V
  refine e_iinc dX8_write_70 (by decide) rfl h1 (ls' := [some (.inr (some 80)), some (.inl x1), some (.inl x2), some (.inl (x3 + 1))]) rfl ?_
  refine e_goto (tgt := 31) dX8_write_73 (by decide) ?_
  exact Vh1
set_option maxRecDepth 100000 in
set_option maxHeartbeats 4000000 in
theorem v_X8_puts_0 {Γ : GX} {g gf : AG} {I J : Nat → Nat → Int} {r : Option AV} (hg : GOk g) (hf : g.2.2.2 = gf.2.2.2) (x1 : Int)
    (V : ∃ (r3 : Int) (J1 : Nat → Nat → Int), CT Γ 0 mX8_isIn [.inl x1, .inl 0, .inl 2] (g, I) (some (.inl r3), (g, J1)) ∧ (((¬ (r3 = 0)) → (Ev Γ 904 mX8_puts 14 [some (.inr (some 80)), some (.inl x1), some (.inl 0), none, none, none] [] (g, J1) (r, (gf, J)))) ∧ (((r3 = 0)) → (r = some (.inl (-2)) ∧ J = J1 ∧ gf = g)))) : Ev Γ 904 mX8_puts 0 [some (.inr (some 80)), some (.inl x1), none, none, none, none] [] (g, I) (r, (gf, J)) := by
  refine e_iload_n dX8_puts_0 rfl ?_
  refine e_iconst dX8_puts_1 ⟨by decide, by decide⟩ ?_
  refine e_iconst dX8_puts_2 ⟨by decide, by decide⟩ ?_
  obtain ⟨r3, J1, h2, Vh2⟩ := V
  refine e_calls (av := [.inl x1, .inl 0, .inl 2]) (st := []) dX8_puts_3 cO_8_202 oX8_isIn rfl rfl (Nat.le_of_ble_eq_true rfl) (by decide) h2 (Nat.le_of_eq (congrArg Prod.fst hf)) (Nat.le_of_eq (congrArg Prod.snd hf)) rfl rfl ?_
  refine e_if_ne (tgt := 12) dX8_puts_6 (by decide) (fun c4 => ?_) (fun c4 => ?_)
  · have Ac4 := Vh2.1 c4
    refine e_iconst dX8_puts_12 ⟨by decide, by decide⟩ ?_
    refine e_istore_n dX8_puts_13 (by decide) (ls' := [some (.inr (some 80)), some (.inl x1), some (.inl 0), none, none, none]) rfl ?_
    exact Ac4
  · have Bc4 := Vh2.2 c4
    refine e_bipush dX8_puts_9 (by decide) ⟨by decide, by decide⟩ ?_
    exact e_iret dX8_puts_11 rfl (by rw [Bc4.1, Bc4.2.1, Bc4.2.2])
set_option maxRecDepth 100000 in
set_option maxHeartbeats 4000000 in
theorem v_X8_puts_14 {Γ : GX} {g gf : AG} {I J : Nat → Nat → Int} {r : Option AV} (hg : GOk g) (hf : g.2.2.2 = gf.2.2.2) (x1 : Int) (x2 : Int)
    (V : ((((I 102 2) ≤ x2)) → (∃ (r4 : Int) (J2 : Nat → Nat → Int), CT Γ 903 mX8_takeBy [.inr (some 80), .inl x1] (g, I) (some (.inl r4), (g, J2)) ∧ (∀ I5 : Nat → Nat → Int, I5 = mset J2 80 36 0 → (Ev Γ 904 mX8_puts 92 [some (.inr (some 80)), none, some (.inl r4), some (.inl 0), some (.inl 0), none] [] (g, I5) (r, (gf, J)))))) ∧ ((¬ ((I 102 2) ≤ x2)) → (((0 : Int) ≤ x2 ∧ (x2 : Int) < 240) ∧ (((((I 110 x2.toNat) = (-1))) → (inR (x2 + 1) ∧ (Ev Γ 904 mX8_puts 14 [some (.inr (some 80)), some (.inl x1), some (.inl (x2 + 1)), none, none, none] [] (g, I) (r, (gf, J))))) ∧ ((¬ ((I 110 x2.toNat) = (-1))) → (((0 : Int) ≤ x2 ∧ (x2 : Int) < 240) ∧ (∃ (r12 : Int) (J10 : Nat → Nat → Int), CT Γ 0 mX8_kindOf [.inr (some 80), .inr (some 92), .inl (I 110 x2.toNat)] (g, I) (some (.inl r12), (g, J10)) ∧ (((0 : Int) ≤ x2 ∧ (x2 : Int) < 240) ∧ ((((r12 = (J10 104 x2.toNat))) → (inR (x2 + 1) ∧ (Ev Γ 904 mX8_puts 14 [some (.inr (some 80)), some (.inl x1), some (.inl (x2 + 1)), none, none, none] [] (g, J10) (r, (gf, J))))) ∧ ((¬ (r12 = (J10 104 x2.toNat))) → (r = some (.inl (-2)) ∧ J = J10 ∧ gf = g))))))))))) : Ev Γ 904 mX8_puts 14 [some (.inr (some 80)), some (.inl x1), some (.inl x2), none, none, none] [] (g, I) (r, (gf, J)) := by
  refine e_iload_n dX8_puts_14 rfl ?_
  refine e_aload_n dX8_puts_15 rfl ?_
  refine e_getr dX8_puts_16 fO_8_23 (by decide) (gs_80 hg) rfl (gp_80_5 hg) ?_
  refine e_geti dX8_puts_19 fO_8_122 (by decide) (gs_102 hg) rfl ?_
  refine e_ic_ge (tgt := 76) dX8_puts_22 (by decide) (fun c1 => ?_) (fun c1 => ?_)
  · have Ac1 := V.1 c1
    refine e_aload_n dX8_puts_76 rfl ?_
    refine e_iload_n dX8_puts_77 rfl ?_
    obtain ⟨r4, J2, h3, Vh3⟩ := Ac1
    refine e_callv (av := [.inl x1]) (st := []) dX8_puts_78 cO_8_263 oX8_takeBy rfl (by decide) (gs_80 hg) rfl (Nat.le_of_ble_eq_true rfl) (by decide) h3 (Nat.le_of_eq (congrArg Prod.fst hf)) (Nat.le_of_eq (congrArg Prod.snd hf)) rfl rfl ?_
    refine e_istore_n dX8_puts_81 (by decide) (ls' := [some (.inr (some 80)), some (.inl x1), some (.inl r4), none, none, none]) rfl ?_
    refine e_aload_n dX8_puts_82 rfl ?_
    refine e_iconst dX8_puts_83 ⟨by decide, by decide⟩ ?_
    refine e_puti dX8_puts_84 fO_8_266 (by decide) (gs_80 hg) rfl rfl ?_
    refine e_mem (fun I5 eI5 => ?_)
    have WI5 := Vh3 I5 eI5
    refine e_iconst dX8_puts_87 ⟨by decide, by decide⟩ ?_
    refine e_istore_n dX8_puts_88 (by decide) (ls' := [some (.inr (some 80)), some (.inl x1), some (.inl r4), some (.inl 0), none, none]) rfl ?_
    refine e_iconst dX8_puts_89 ⟨by decide, by decide⟩ ?_
    refine e_istore dX8_puts_90 (by decide) (ls' := [some (.inr (some 80)), some (.inl x1), some (.inl r4), some (.inl 0), some (.inl 0), none]) rfl ?_
    refine ev_drop (ls' := [some (.inr (some 80)), none, some (.inl r4), some (.inl 0), some (.inl 0), none]) 1 rfl ?_
    exact WI5
  · have Bc1 := V.2 c1
    refine e_aload_n dX8_puts_25 rfl ?_
    refine e_getr dX8_puts_26 fO_8_23 (by decide) (gs_80 hg) rfl (gp_80_5 hg) ?_
    refine e_getr dX8_puts_29 fO_8_140 (by decide) (gs_102 hg) rfl (gp_102_9 hg) ?_
    refine e_iload_n dX8_puts_32 rfl ?_
    obtain ⟨h6, Vh6⟩ := Bc1
    refine e_iald dX8_puts_33 (by decide) (gs_110 hg) h6.1 h6.2 ?_
    refine e_iconst dX8_puts_34 ⟨by decide, by decide⟩ ?_
    refine e_ic_eq (tgt := 70) dX8_puts_35 (by decide) (fun c7 => ?_) (fun c7 => ?_)
    · have Ac7 := Vh6.1 c7
      obtain ⟨h8, Vh8⟩ := Ac7
      refine e_iinc dX8_puts_70 (by decide) rfl h8 (ls' := [some (.inr (some 80)), some (.inl x1), some (.inl (x2 + 1)), none, none, none]) rfl ?_
      refine e_goto (tgt := 14) dX8_puts_73 (by decide) ?_
      exact Vh8
    · have Bc7 := Vh6.2 c7
      refine e_aload_n dX8_puts_38 rfl ?_
      refine e_aload_n dX8_puts_39 rfl ?_
      refine e_getr dX8_puts_40 fO_8_20 (by decide) (gs_80 hg) rfl (gp_80_4 hg) ?_
      refine e_aload_n dX8_puts_43 rfl ?_
      refine e_getr dX8_puts_44 fO_8_23 (by decide) (gs_80 hg) rfl (gp_80_5 hg) ?_
      refine e_getr dX8_puts_47 fO_8_140 (by decide) (gs_102 hg) rfl (gp_102_9 hg) ?_
      refine e_iload_n dX8_puts_50 rfl ?_
      obtain ⟨h9, Vh9⟩ := Bc7
      refine e_iald dX8_puts_51 (by decide) (gs_110 hg) h9.1 h9.2 ?_
      obtain ⟨r12, J10, h11, Vh11⟩ := Vh9
      refine e_callv (av := [.inr (some 92), .inl (I 110 x2.toNat)]) (st := []) dX8_puts_52 cO_8_259 oX8_kindOf rfl (by decide) (gs_80 hg) rfl (Nat.le_of_ble_eq_true rfl) (by decide) h11 (Nat.le_of_eq (congrArg Prod.fst hf)) (Nat.le_of_eq (congrArg Prod.snd hf)) rfl rfl ?_
      refine e_aload_n dX8_puts_55 rfl ?_
      refine e_getr dX8_puts_56 fO_8_23 (by decide) (gs_80 hg) rfl (gp_80_5 hg) ?_
      refine e_getr dX8_puts_59 fO_8_125 (by decide) (gs_102 hg) rfl (gp_102_3 hg) ?_
      refine e_iload_n dX8_puts_62 rfl ?_
      obtain ⟨h13, Vh13⟩ := Vh11
      refine e_iald dX8_puts_63 (by decide) (gs_104 hg) h13.1 h13.2 ?_
      refine e_ic_eq (tgt := 70) dX8_puts_64 (by decide) (fun c14 => ?_) (fun c14 => ?_)
      · have Ac14 := Vh13.1 c14
        obtain ⟨h15, Vh15⟩ := Ac14
        refine e_iinc dX8_puts_70 (by decide) rfl h15 (ls' := [some (.inr (some 80)), some (.inl x1), some (.inl (x2 + 1)), none, none, none]) rfl ?_
        refine e_goto (tgt := 14) dX8_puts_73 (by decide) ?_
        exact Vh15
      · have Bc14 := Vh13.2 c14
        refine e_bipush dX8_puts_67 (by decide) ⟨by decide, by decide⟩ ?_
        exact e_iret dX8_puts_69 rfl (by rw [Bc14.1, Bc14.2.1, Bc14.2.2])
set_option maxRecDepth 100000 in
set_option maxHeartbeats 4000000 in
theorem v_X8_puts_92 {Γ : GX} {g gf : AG} {I J : Nat → Nat → Int} {r : Option AV} (hg : GOk g) (hf : g.2.2.2 = gf.2.2.2) (x2 : Int) (x3 : Int) (x4 : Int)
    (V : ((((I 82 2) ≤ x4)) → (∃ (J2 : Nat → Nat → Int), CT Γ 0 mX8_copy [.inr (some 80), .inr (some 82), .inl x3, .inl (I 82 1)] (g, I) (none, (g, J2)) ∧ ((((240 < (J2 80 36))) → (r = some (.inl (-2)) ∧ J = J2 ∧ gf = g)) ∧ ((¬ (240 < (J2 80 36))) → (∃ (r8 : Int) (J6 : Nat → Nat → Int) (g9 : AG), CT Γ 61 mX8_read [.inr (some 80), .inr (some 112), .inr (some 149), .inl 0, .inl (J2 80 36), .inl 0] (g, J2) (some (.inl r8), (g9, J6)) ∧ GOk g9 ∧ g9.2.2.2 = g.2.2.2 ∧ ((((r8 = (-1))) → (∃ (r13 : Int) (J11 : Nat → Nat → Int) (g14 : AG), CT Γ 61 mX8_read [.inr (some 80), .inr (some 82), .inr (some 149), .inl 0, .inl (J6 80 36), .inl 0] (g9, J6) (some (.inl r13), (g14, J11)) ∧ GOk g14 ∧ g14.2.2.2 = g9.2.2.2 ∧ (r = some (.inl x2) ∧ J = J11 ∧ gf = g14))) ∧ ((¬ (r8 = (-1))) → (r = some (.inl (-2)) ∧ J = J6 ∧ gf = g9)))))))) ∧ ((¬ ((I 82 2) ≤ x4)) → (((0 : Int) ≤ x4 ∧ (x4 : Int) < 240) ∧ (((¬ ((I 147 x4.toNat) = 0)) → (((0 : Int) ≤ x4 ∧ (x4 : Int) < 240) ∧ (∃ (J18 : Nat → Nat → Int), CT Γ 0 mX8_copy [.inr (some 80), .inr (some 82), .inl x3, .inl (I 85 x4.toNat)] (g, I) (none, (g, J18)) ∧ (∃ (r23 : Int) (J21 : Nat → Nat → Int), CT Γ 901 mX8_isMatched [.inr (some 80), .inl x4] (g, J18) (some (.inl r23), (g, J21)) ∧ (∃ (J24 : Nat → Nat → Int), CT Γ 1 mX8_write [.inr (some 80)] (g, J21) (none, (g, J24)) ∧ (((0 : Int) ≤ x4 ∧ (x4 : Int) < 240) ∧ (∀ y28 : Int, y28 = (J24 86 x4.toNat) → (inR (x4 + 1) ∧ (Ev Γ 904 mX8_puts 92 [some (.inr (some 80)), none, some (.inl x2), some (.inl y28), some (.inl (x4 + 1)), none] [] (g, J24) (r, (gf, J))))))))))) ∧ ((((I 147 x4.toNat) = 0)) → (inR (x4 + 1) ∧ (Ev Γ 904 mX8_puts 92 [some (.inr (some 80)), none, some (.inl x2), some (.inl x3), some (.inl (x4 + 1)), none] [] (g, I) (r, (gf, J))))))))) : Ev Γ 904 mX8_puts 92 [some (.inr (some 80)), none, some (.inl x2), some (.inl x3), some (.inl x4), none] [] (g, I) (r, (gf, J)) := by
  refine e_iload dX8_puts_92 rfl ?_
  refine e_aload_n dX8_puts_94 rfl ?_
  refine e_getr dX8_puts_95 fO_8_16 (by decide) (gs_80 hg) rfl (gp_80_3 hg) ?_
  refine e_geti dX8_puts_98 fO_8_122 (by decide) (gs_82 hg) rfl ?_
  refine e_ic_ge (tgt := 165) dX8_puts_101 (by decide) (fun c1 => ?_) (fun c1 => ?_)
  · have Ac1 := V.1 c1
    refine e_aload_n dX8_puts_165 rfl ?_
    refine e_aload_n dX8_puts_166 rfl ?_
    refine e_getr dX8_puts_167 fO_8_16 (by decide) (gs_80 hg) rfl (gp_80_3 hg) ?_
    refine e_iload_n dX8_puts_170 rfl ?_
    refine e_aload_n dX8_puts_171 rfl ?_
    refine e_getr dX8_puts_172 fO_8_16 (by decide) (gs_80 hg) rfl (gp_80_3 hg) ?_
    refine e_geti dX8_puts_175 fO_8_112 (by decide) (gs_82 hg) rfl ?_
    obtain ⟨J2, h3, Vh3⟩ := Ac1
    refine e_callv (av := [.inr (some 82), .inl x3, .inl (I 82 1)]) (st := []) dX8_puts_178 cO_8_272 oX8_copy rfl (by decide) (gs_80 hg) rfl (Nat.le_of_ble_eq_true rfl) (by decide) h3 (Nat.le_of_eq (congrArg Prod.fst hf)) (Nat.le_of_eq (congrArg Prod.snd hf)) rfl rfl ?_
    refine e_aload_n dX8_puts_181 rfl ?_
    refine e_geti dX8_puts_182 fO_8_266 (by decide) (gs_80 hg) rfl ?_
    refine e_sipush dX8_puts_185 (by decide) ⟨by decide, by decide⟩ ?_
    refine e_ic_gt (tgt := 213) dX8_puts_188 (by decide) (fun c5 => ?_) (fun c5 => ?_)
    · have Ac5 := Vh3.1 c5
      refine e_bipush dX8_puts_213 (by decide) ⟨by decide, by decide⟩ ?_
      exact e_iret dX8_puts_215 rfl (by rw [Ac5.1, Ac5.2.1, Ac5.2.2])
    · have Bc5 := Vh3.2 c5
      refine e_aload_n dX8_puts_191 rfl ?_
      refine e_aload_n dX8_puts_192 rfl ?_
      refine e_getr dX8_puts_193 fO_8_26 (by decide) (gs_80 hg) rfl (gp_80_6 hg) ?_
      refine e_aload_n dX8_puts_196 rfl ?_
      refine e_getr dX8_puts_197 fO_8_86 (by decide) (gs_80 hg) rfl (gp_80_35 hg) ?_
      refine e_iconst dX8_puts_200 ⟨by decide, by decide⟩ ?_
      refine e_aload_n dX8_puts_201 rfl ?_
      refine e_geti dX8_puts_202 fO_8_266 (by decide) (gs_80 hg) rfl ?_
      refine e_iconst dX8_puts_205 ⟨by decide, by decide⟩ ?_
      obtain ⟨r8, J6, g9, h7, kg9, cg9, Vh7⟩ := Bc5
      refine e_callv (av := [.inr (some 112), .inr (some 149), .inl 0, .inl (J2 80 36), .inl 0]) (st := []) dX8_puts_206 cO_8_206 oX8_read rfl (by decide) (gs_80 hg) rfl (Nat.le_of_ble_eq_true rfl) (by decide) h7 (Nat.le_of_eq (congrArg Prod.fst (cg9.trans hf))) (Nat.le_of_eq (congrArg Prod.snd (cg9.trans hf))) rfl rfl ?_
      refine e_iconst dX8_puts_209 ⟨by decide, by decide⟩ ?_
      refine e_ic_eq (tgt := 216) dX8_puts_210 (by decide) (fun c10 => ?_) (fun c10 => ?_)
      · have Ac10 := Vh7.1 c10
        refine e_aload_n dX8_puts_216 rfl ?_
        refine e_aload_n dX8_puts_217 rfl ?_
        refine e_getr dX8_puts_218 fO_8_16 (by decide) (gs_80 kg9) rfl (gp_80_3 kg9) ?_
        refine e_aload_n dX8_puts_221 rfl ?_
        refine e_getr dX8_puts_222 fO_8_86 (by decide) (gs_80 kg9) rfl (gp_80_35 kg9) ?_
        refine e_iconst dX8_puts_225 ⟨by decide, by decide⟩ ?_
        refine e_aload_n dX8_puts_226 rfl ?_
        refine e_geti dX8_puts_227 fO_8_266 (by decide) (gs_80 kg9) rfl ?_
        refine e_iconst dX8_puts_230 ⟨by decide, by decide⟩ ?_
        obtain ⟨r13, J11, g14, h12, kg14, cg14, Vh12⟩ := Ac10
        refine e_callv (av := [.inr (some 82), .inr (some 149), .inl 0, .inl (J6 80 36), .inl 0]) (st := []) dX8_puts_231 cO_8_206 oX8_read rfl (by decide) (gs_80 kg9) rfl (Nat.le_of_ble_eq_true rfl) (by decide) h12 (Nat.le_of_eq (congrArg Prod.fst (cg14.trans (cg9.trans hf)))) (Nat.le_of_eq (congrArg Prod.snd (cg14.trans (cg9.trans hf)))) rfl rfl ?_
        refine e_istore dX8_puts_234 (by decide) (ls' := [some (.inr (some 80)), none, some (.inl x2), some (.inl x3), some (.inl r13), none]) rfl ?_
        refine e_iload_n dX8_puts_236 rfl ?_
        exact e_iret dX8_puts_237 rfl (by rw [Vh12.1, Vh12.2.1, Vh12.2.2])
      · have Bc10 := Vh7.2 c10
        refine e_bipush dX8_puts_213 (by decide) ⟨by decide, by decide⟩ ?_
        exact e_iret dX8_puts_215 rfl (by rw [Bc10.1, Bc10.2.1, Bc10.2.2])
  · have Bc1 := V.2 c1
    refine e_aload_n dX8_puts_104 rfl ?_
    refine e_getr dX8_puts_105 fO_8_79 (by decide) (gs_80 hg) rfl (gp_80_33 hg) ?_
    refine e_iload dX8_puts_108 rfl ?_
    obtain ⟨h15, Vh15⟩ := Bc1
    refine e_zald dX8_puts_110 (by decide) (gs_147 hg) h15.1 h15.2 ?_
    refine e_if_ne (tgt := 117) dX8_puts_111 (by decide) (fun c16 => ?_) (fun c16 => ?_)
    · have Ac16 := Vh15.1 c16
      refine e_aload_n dX8_puts_117 rfl ?_
      refine e_aload_n dX8_puts_118 rfl ?_
      refine e_getr dX8_puts_119 fO_8_16 (by decide) (gs_80 hg) rfl (gp_80_3 hg) ?_
      refine e_iload_n dX8_puts_122 rfl ?_
      refine e_aload_n dX8_puts_123 rfl ?_
      refine e_getr dX8_puts_124 fO_8_16 (by decide) (gs_80 hg) rfl (gp_80_3 hg) ?_
      refine e_getr dX8_puts_127 fO_8_128 (by decide) (gs_82 hg) rfl (gp_82_4 hg) ?_
      refine e_iload dX8_puts_130 rfl ?_
      obtain ⟨h17, Vh17⟩ := Ac16
      refine e_iald dX8_puts_132 (by decide) (gs_85 hg) h17.1 h17.2 ?_
      obtain ⟨J18, h19, Vh19⟩ := Vh17
      refine e_callv (av := [.inr (some 82), .inl x3, .inl (I 85 x4.toNat)]) (st := []) dX8_puts_133 cO_8_272 oX8_copy rfl (by decide) (gs_80 hg) rfl (Nat.le_of_ble_eq_true rfl) (by decide) h19 (Nat.le_of_eq (congrArg Prod.fst hf)) (Nat.le_of_eq (congrArg Prod.snd hf)) rfl rfl ?_
      refine e_aload_n dX8_puts_136 rfl ?_
      refine e_iload dX8_puts_137 rfl ?_
      obtain ⟨r23, J21, h22, Vh22⟩ := Vh19
      refine e_callv (av := [.inl x4]) (st := []) dX8_puts_139 cO_8_253 oX8_isMatched rfl (by decide) (gs_80 hg) rfl (Nat.le_of_ble_eq_true rfl) (by decide) h22 (Nat.le_of_eq (congrArg Prod.fst hf)) (Nat.le_of_eq (congrArg Prod.snd hf)) rfl rfl ?_
      refine e_istore dX8_puts_142 (by decide) (ls' := [some (.inr (some 80)), none, some (.inl x2), some (.inl x3), some (.inl x4), some (.inl r23)]) rfl ?_
      refine e_aload_n dX8_puts_144 rfl ?_
      obtain ⟨J24, h25, Vh25⟩ := Vh22
      refine e_callv (av := []) (st := []) dX8_puts_145 cO_8_276 oX8_write rfl (by decide) (gs_80 hg) rfl (Nat.le_of_ble_eq_true rfl) (by decide) h25 (Nat.le_of_eq (congrArg Prod.fst hf)) (Nat.le_of_eq (congrArg Prod.snd hf)) rfl rfl ?_
      refine e_aload_n dX8_puts_148 rfl ?_
      refine e_getr dX8_puts_149 fO_8_16 (by decide) (gs_80 hg) rfl (gp_80_3 hg) ?_
      refine e_getr dX8_puts_152 fO_8_154 (by decide) (gs_82 hg) rfl (gp_82_5 hg) ?_
      refine e_iload dX8_puts_155 rfl ?_
      obtain ⟨h27, Vh27⟩ := Vh25
      refine e_iald dX8_puts_157 (by decide) (gs_86 hg) h27.1 h27.2 ?_
      refine e_top (fun y28 ey28 => ?_)
      have Wy28 := Vh27 y28 ey28
      refine e_istore_n dX8_puts_158 (by decide) (ls' := [some (.inr (some 80)), none, some (.inl x2), some (.inl y28), some (.inl x4), some (.inl r23)]) rfl ?_
      obtain ⟨h29, Vh29⟩ := Wy28
      refine e_iinc dX8_puts_159 (by decide) rfl h29 (ls' := [some (.inr (some 80)), none, some (.inl x2), some (.inl y28), some (.inl (x4 + 1)), some (.inl r23)]) rfl ?_
      refine e_goto (tgt := 92) dX8_puts_162 (by decide) ?_
      refine ev_drop (ls' := [some (.inr (some 80)), none, some (.inl x2), some (.inl y28), some (.inl (x4 + 1)), none]) 5 rfl ?_
      exact Vh29
    · have Bc16 := Vh15.2 c16
      refine e_goto (tgt := 159) dX8_puts_114 (by decide) ?_
      obtain ⟨h30, Vh30⟩ := Bc16
      refine e_iinc dX8_puts_159 (by decide) rfl h30 (ls' := [some (.inr (some 80)), none, some (.inl x2), some (.inl x3), some (.inl (x4 + 1)), none]) rfl ?_
      refine e_goto (tgt := 92) dX8_puts_162 (by decide) ?_
      exact Vh30
set_option maxRecDepth 100000 in
set_option maxHeartbeats 4000000 in
theorem v_X8_keep_0 {Γ : GX} {g : AG} {I J : Nat → Nat → Int} {r : Option AV} (hg : GOk g) (u : Nat) (hu : Mt u)
    (V : ((¬ ((I 80 10) = 10)) → (Ev Γ 0 mX8_keep 82 [some (.inr (some 80)), some (.inr (some u)), some (.inl 0)] [] (g, I) (r, (g, J)))) ∧ ((((I 80 10) = 10)) → (Ev Γ 0 mX8_keep 13 [some (.inr (some 80)), some (.inr (some u)), some (.inl 240)] [] (g, I) (r, (g, J))))) : Ev Γ 0 mX8_keep 0 [some (.inr (some 80)), some (.inr (some u)), none] [] (g, I) (r, (g, J)) := by
  refine e_aload_n dX8_keep_0 rfl ?_
  refine e_geti dX8_keep_1 fO_8_212 (by decide) (gs_80 hg) rfl ?_
  refine e_bipush dX8_keep_4 (by decide) ⟨by decide, by decide⟩ ?_
  refine e_ic_ne (tgt := 80) dX8_keep_6 (by decide) (fun c1 => ?_) (fun c1 => ?_)
  · have Ac1 := V.1 c1
    refine e_iconst dX8_keep_80 ⟨by decide, by decide⟩ ?_
    refine e_istore_n dX8_keep_81 (by decide) (ls' := [some (.inr (some 80)), some (.inr (some u)), some (.inl 0)]) rfl ?_
    exact Ac1
  · have Bc1 := V.2 c1
    refine e_sipush dX8_keep_9 (by decide) ⟨by decide, by decide⟩ ?_
    refine e_istore_n dX8_keep_12 (by decide) (ls' := [some (.inr (some 80)), some (.inr (some u)), some (.inl 240)]) rfl ?_
    exact Bc1
set_option maxRecDepth 100000 in
set_option maxHeartbeats 4000000 in
theorem v_X8_keep_82 {Γ : GX} {g : AG} {I J : Nat → Nat → Int} {r : Option AV} (hg : GOk g) (u : Nat) (hu : Mt u) (x2 : Int)
    (V : ((((I u 1) ≤ x2)) → (((0 : Int) ≤ (I 80 10) ∧ ((I 80 10) : Int) < 10) ∧ (∀ I2 : Nat → Nat → Int, I2 = mset I 133 (I 80 10).toNat (I u 1) → (inR ((I2 80 10) + 1) ∧ (∀ I5 : Nat → Nat → Int, I5 = mset I2 80 10 ((I2 80 10) + 1) → (r = none ∧ J = I5)))))) ∧ ((¬ ((I u 1) ≤ x2)) → (inR (240 * (I 80 10)) ∧ (inR ((240 * (I 80 10)) + x2) ∧ (((0 : Int) ≤ x2 ∧ (x2 : Int) < 240) ∧ (((0 : Int) ≤ ((240 * (I 80 10)) + x2) ∧ (((240 * (I 80 10)) + x2) : Int) < 2400) ∧ (∀ I9 : Nat → Nat → Int, I9 = mset I 132 ((240 * (I 80 10)) + x2).toNat (bByte (I (u + 1) x2.toNat)) → (inR (x2 + 1) ∧ (Ev Γ 0 mX8_keep 82 [some (.inr (some 80)), some (.inr (some u)), some (.inl (x2 + 1))] [] (g, I9) (r, (g, J))))))))))) : Ev Γ 0 mX8_keep 82 [some (.inr (some 80)), some (.inr (some u)), some (.inl x2)] [] (g, I) (r, (g, J)) := by
  refine e_iload_n dX8_keep_82 rfl ?_
  refine e_aload_n dX8_keep_83 rfl ?_
  refine e_geti dX8_keep_84 fO_8_112 (mt_pos hu) (mt_s0 hg hu) rfl ?_
  refine e_ic_ge (tgt := 117) dX8_keep_87 (by decide) (fun c1 => ?_) (fun c1 => ?_)
  · have Ac1 := V.1 c1
    refine e_aload_n dX8_keep_117 rfl ?_
    refine e_getr dX8_keep_118 fO_8_35 (by decide) (gs_80 hg) rfl (gp_80_9 hg) ?_
    refine e_aload_n dX8_keep_121 rfl ?_
    refine e_geti dX8_keep_122 fO_8_212 (by decide) (gs_80 hg) rfl ?_
    refine e_aload_n dX8_keep_125 rfl ?_
    refine e_geti dX8_keep_126 fO_8_112 (mt_pos hu) (mt_s0 hg hu) rfl ?_
    obtain ⟨h3, Vh3⟩ := Ac1
    refine e_iast dX8_keep_129 (by decide) (gs_133 hg) h3.1 h3.2 ?_
    refine e_mem (fun I2 eI2 => ?_)
    have WI2 := Vh3 I2 eI2
    refine e_aload_n dX8_keep_130 rfl ?_
    refine e_dup dX8_keep_131 ?_
    refine e_geti dX8_keep_132 fO_8_212 (by decide) (gs_80 hg) rfl ?_
    refine e_iconst dX8_keep_135 ⟨by decide, by decide⟩ ?_
    obtain ⟨h4, Vh4⟩ := WI2
    refine e_iadd dX8_keep_136 h4 ?_
    refine e_puti dX8_keep_137 fO_8_212 (by decide) (gs_80 hg) rfl rfl ?_
    refine e_mem (fun I5 eI5 => ?_)
    have WI5 := Vh4 I5 eI5
    exact e_vret dX8_keep_140 rfl (by rw [WI5.1, WI5.2])
  · have Bc1 := V.2 c1
    refine e_aload_n dX8_keep_90 rfl ?_
    refine e_getr dX8_keep_91 fO_8_32 (by decide) (gs_80 hg) rfl (gp_80_8 hg) ?_
    refine e_sipush dX8_keep_94 (by decide) ⟨by decide, by decide⟩ ?_
    refine e_aload_n dX8_keep_97 rfl ?_
    refine e_geti dX8_keep_98 fO_8_212 (by decide) (gs_80 hg) rfl ?_
    obtain ⟨h6, Vh6⟩ := Bc1
    refine e_imul dX8_keep_101 h6 ?_
    refine e_iload_n dX8_keep_102 rfl ?_
    obtain ⟨h7, Vh7⟩ := Vh6
    refine e_iadd dX8_keep_103 h7 ?_
    refine e_aload_n dX8_keep_104 rfl ?_
    refine e_getr dX8_keep_105 fO_8_113 (mt_pos hu) (mt_s0 hg hu) rfl (mt_p1 hg hu) ?_
    refine e_iload_n dX8_keep_108 rfl ?_
    obtain ⟨h8, Vh8⟩ := Vh7
    refine e_bald dX8_keep_109 (Nat.succ_pos _) (mt_s1 hg hu) h8.1 h8.2 ?_
    obtain ⟨h10, Vh10⟩ := Vh8
    refine e_bast dX8_keep_110 (by decide) (gs_132 hg) h10.1 h10.2 ?_
    refine e_mem (fun I9 eI9 => ?_)
    have WI9 := Vh10 I9 eI9
    obtain ⟨h11, Vh11⟩ := WI9
    refine e_iinc dX8_keep_111 (by decide) rfl h11 (ls' := [some (.inr (some 80)), some (.inr (some u)), some (.inl (x2 + 1))]) rfl ?_
    refine e_goto (tgt := 82) dX8_keep_114 (by decide) ?_
    exact Vh11
set_option maxRecDepth 100000 in
set_option maxHeartbeats 4000000 in
theorem v_X8_keep_13 {Γ : GX} {g : AG} {I J : Nat → Nat → Int} {r : Option AV} (hg : GOk g) (u : Nat) (hu : Mt u) (x2 : Int)
    (V : (((2400 ≤ x2)) → (Ev Γ 0 mX8_keep 44 [some (.inr (some 80)), some (.inr (some u)), some (.inl 1)] [] (g, I) (r, (g, J)))) ∧ ((¬ (2400 ≤ x2)) → (inR (x2 - 240) ∧ (((0 : Int) ≤ x2 ∧ (x2 : Int) < 2400) ∧ (((0 : Int) ≤ (x2 - 240) ∧ ((x2 - 240) : Int) < 2400) ∧ (∀ I4 : Nat → Nat → Int, I4 = mset I 132 (x2 - 240).toNat (bByte (I 132 x2.toNat)) → (inR (x2 + 1) ∧ (Ev Γ 0 mX8_keep 13 [some (.inr (some 80)), some (.inr (some u)), some (.inl (x2 + 1))] [] (g, I4) (r, (g, J)))))))))) : Ev Γ 0 mX8_keep 13 [some (.inr (some 80)), some (.inr (some u)), some (.inl x2)] [] (g, I) (r, (g, J)) := by
  refine e_iload_n dX8_keep_13 rfl ?_
  refine e_sipush dX8_keep_14 (by decide) ⟨by decide, by decide⟩ ?_
  refine e_ic_ge (tgt := 42) dX8_keep_17 (by decide) (fun c1 => ?_) (fun c1 => ?_)
  · have Ac1 := V.1 c1
    refine e_iconst dX8_keep_42 ⟨by decide, by decide⟩ ?_
    refine e_istore_n dX8_keep_43 (by decide) (ls' := [some (.inr (some 80)), some (.inr (some u)), some (.inl 1)]) rfl ?_
    exact Ac1
  · have Bc1 := V.2 c1
    refine e_aload_n dX8_keep_20 rfl ?_
    refine e_getr dX8_keep_21 fO_8_32 (by decide) (gs_80 hg) rfl (gp_80_8 hg) ?_
    refine e_iload_n dX8_keep_24 rfl ?_
    refine e_sipush dX8_keep_25 (by decide) ⟨by decide, by decide⟩ ?_
    obtain ⟨h2, Vh2⟩ := Bc1
    refine e_isub dX8_keep_28 h2 ?_
    refine e_aload_n dX8_keep_29 rfl ?_
    refine e_getr dX8_keep_30 fO_8_32 (by decide) (gs_80 hg) rfl (gp_80_8 hg) ?_
    refine e_iload_n dX8_keep_33 rfl ?_
    obtain ⟨h3, Vh3⟩ := Vh2
    refine e_bald dX8_keep_34 (by decide) (gs_132 hg) h3.1 h3.2 ?_
    obtain ⟨h5, Vh5⟩ := Vh3
    refine e_bast dX8_keep_35 (by decide) (gs_132 hg) h5.1 h5.2 ?_
    refine e_mem (fun I4 eI4 => ?_)
    have WI4 := Vh5 I4 eI4
    obtain ⟨h6, Vh6⟩ := WI4
    refine e_iinc dX8_keep_36 (by decide) rfl h6 (ls' := [some (.inr (some 80)), some (.inr (some u)), some (.inl (x2 + 1))]) rfl ?_
    refine e_goto (tgt := 13) dX8_keep_39 (by decide) ?_
    exact Vh6
set_option maxRecDepth 100000 in
set_option maxHeartbeats 4000000 in
theorem v_X8_keep_44 {Γ : GX} {g : AG} {I J : Nat → Nat → Int} {r : Option AV} (hg : GOk g) (u : Nat) (hu : Mt u) (x2 : Int)
    (V : (((10 ≤ x2)) → (inR ((I 80 10) - 1) ∧ (∀ I3 : Nat → Nat → Int, I3 = mset I 80 10 ((I 80 10) - 1) → (Ev Γ 0 mX8_keep 82 [some (.inr (some 80)), some (.inr (some u)), some (.inl 0)] [] (g, I3) (r, (g, J)))))) ∧ ((¬ (10 ≤ x2)) → (inR (x2 - 1) ∧ (((0 : Int) ≤ x2 ∧ (x2 : Int) < 10) ∧ (((0 : Int) ≤ (x2 - 1) ∧ ((x2 - 1) : Int) < 10) ∧ (∀ I6 : Nat → Nat → Int, I6 = mset I 133 (x2 - 1).toNat (I 133 x2.toNat) → (inR (x2 + 1) ∧ (Ev Γ 0 mX8_keep 44 [some (.inr (some 80)), some (.inr (some u)), some (.inl (x2 + 1))] [] (g, I6) (r, (g, J)))))))))) : Ev Γ 0 mX8_keep 44 [some (.inr (some 80)), some (.inr (some u)), some (.inl x2)] [] (g, I) (r, (g, J)) := by
  refine e_iload_n dX8_keep_44 rfl ?_
  refine e_bipush dX8_keep_45 (by decide) ⟨by decide, by decide⟩ ?_
  refine e_ic_ge (tgt := 70) dX8_keep_47 (by decide) (fun c1 => ?_) (fun c1 => ?_)
  · have Ac1 := V.1 c1
    refine e_aload_n dX8_keep_70 rfl ?_
    refine e_dup dX8_keep_71 ?_
    refine e_geti dX8_keep_72 fO_8_212 (by decide) (gs_80 hg) rfl ?_
    refine e_iconst dX8_keep_75 ⟨by decide, by decide⟩ ?_
    obtain ⟨h2, Vh2⟩ := Ac1
    refine e_isub dX8_keep_76 h2 ?_
    refine e_puti dX8_keep_77 fO_8_212 (by decide) (gs_80 hg) rfl rfl ?_
    refine e_mem (fun I3 eI3 => ?_)
    have WI3 := Vh2 I3 eI3
    refine e_iconst dX8_keep_80 ⟨by decide, by decide⟩ ?_
    refine e_istore_n dX8_keep_81 (by decide) (ls' := [some (.inr (some 80)), some (.inr (some u)), some (.inl 0)]) rfl ?_
    exact WI3
  · have Bc1 := V.2 c1
    refine e_aload_n dX8_keep_50 rfl ?_
    refine e_getr dX8_keep_51 fO_8_35 (by decide) (gs_80 hg) rfl (gp_80_9 hg) ?_
    refine e_iload_n dX8_keep_54 rfl ?_
    refine e_iconst dX8_keep_55 ⟨by decide, by decide⟩ ?_
    obtain ⟨h4, Vh4⟩ := Bc1
    refine e_isub dX8_keep_56 h4 ?_
    refine e_aload_n dX8_keep_57 rfl ?_
    refine e_getr dX8_keep_58 fO_8_35 (by decide) (gs_80 hg) rfl (gp_80_9 hg) ?_
    refine e_iload_n dX8_keep_61 rfl ?_
    obtain ⟨h5, Vh5⟩ := Vh4
    refine e_iald dX8_keep_62 (by decide) (gs_133 hg) h5.1 h5.2 ?_
    obtain ⟨h7, Vh7⟩ := Vh5
    refine e_iast dX8_keep_63 (by decide) (gs_133 hg) h7.1 h7.2 ?_
    refine e_mem (fun I6 eI6 => ?_)
    have WI6 := Vh7 I6 eI6
    obtain ⟨h8, Vh8⟩ := WI6
    refine e_iinc dX8_keep_64 (by decide) rfl h8 (ls' := [some (.inr (some 80)), some (.inr (some u)), some (.inl (x2 + 1))]) rfl ?_
    refine e_goto (tgt := 44) dX8_keep_67 (by decide) ?_
    exact Vh8
set_option maxRecDepth 100000 in
set_option maxHeartbeats 4000000 in
theorem v_X8_put_0 {Γ : GX} {g gf : AG} {I J : Nat → Nat → Int} {r : Option AV} (hg : GOk g) (hf : g.2.2.2 = gf.2.2.2) (x1 : Int)
    (V : ∀ I1 : Nat → Nat → Int, I1 = mset I 80 0 0 → (∃ (r4 : Int) (J2 : Nat → Nat → Int) (g5 : AG), CT Γ 61 mX8_read [.inr (some 80), .inr (some 122), .inr (some 83), .inl 0, .inl (I1 82 1), .inl 0] (g, I1) (some (.inl r4), (g5, J2)) ∧ GOk g5 ∧ g5.2.2.2 = g.2.2.2 ∧ (∃ (r8 : Int) (J6 : Nat → Nat → Int) (g9 : AG), CT Γ 904 mX8_puts [.inr (some 80), .inl x1] (g5, J2) (some (.inl r8), (g9, J6)) ∧ GOk g9 ∧ g9.2.2.2 = g5.2.2.2 ∧ ((((r8 < 0)) → (r = some (.inl r8) ∧ J = J6 ∧ gf = g9)) ∧ ((¬ (r8 < 0)) → (∃ (J11 : Nat → Nat → Int), CT Γ 0 mX8_keep [.inr (some 80), .inr (some 122)] (g9, J6) (none, (g9, J11)) ∧ (r = some (.inl r8) ∧ J = J11 ∧ gf = g9))))))) : Ev Γ 905 mX8_put 0 [some (.inr (some 80)), some (.inl x1), none, none] [] (g, I) (r, (gf, J)) := by
  refine e_aload_n dX8_put_0 rfl ?_
  refine e_iconst dX8_put_1 ⟨by decide, by decide⟩ ?_
  refine e_puti dX8_put_2 fO_8_103 (by decide) (gs_80 hg) rfl rfl ?_
  refine e_mem (fun I1 eI1 => ?_)
  have WI1 := V I1 eI1
  refine e_aload_n dX8_put_5 rfl ?_
  refine e_aload_n dX8_put_6 rfl ?_
  refine e_getr dX8_put_7 fO_8_29 (by decide) (gs_80 hg) rfl (gp_80_7 hg) ?_
  refine e_aload_n dX8_put_10 rfl ?_
  refine e_getr dX8_put_11 fO_8_16 (by decide) (gs_80 hg) rfl (gp_80_3 hg) ?_
  refine e_getr dX8_put_14 fO_8_113 (by decide) (gs_82 hg) rfl (gp_82_0 hg) ?_
  refine e_iconst dX8_put_17 ⟨by decide, by decide⟩ ?_
  refine e_aload_n dX8_put_18 rfl ?_
  refine e_getr dX8_put_19 fO_8_16 (by decide) (gs_80 hg) rfl (gp_80_3 hg) ?_
  refine e_geti dX8_put_22 fO_8_112 (by decide) (gs_82 hg) rfl ?_
  refine e_iconst dX8_put_25 ⟨by decide, by decide⟩ ?_
  obtain ⟨r4, J2, g5, h3, kg5, cg5, Vh3⟩ := WI1
  refine e_callv (av := [.inr (some 122), .inr (some 83), .inl 0, .inl (I1 82 1), .inl 0]) (st := []) dX8_put_26 cO_8_206 oX8_read rfl (by decide) (gs_80 hg) rfl (Nat.le_of_ble_eq_true rfl) (by decide) h3 (Nat.le_of_eq (congrArg Prod.fst (cg5.trans hf))) (Nat.le_of_eq (congrArg Prod.snd (cg5.trans hf))) rfl rfl ?_
  refine e_istore_n dX8_put_29 (by decide) (ls' := [some (.inr (some 80)), some (.inl x1), some (.inl r4), none]) rfl ?_
  refine e_aload_n dX8_put_30 rfl ?_
  refine e_iload_n dX8_put_31 rfl ?_
  obtain ⟨r8, J6, g9, h7, kg9, cg9, Vh7⟩ := Vh3
  refine e_callv (av := [.inl x1]) (st := []) dX8_put_32 cO_8_279 oX8_puts rfl (by decide) (gs_80 kg5) rfl (Nat.le_of_ble_eq_true rfl) (by decide) h7 (Nat.le_of_eq (congrArg Prod.fst (cg9.trans (cg5.trans hf)))) (Nat.le_of_eq (congrArg Prod.snd (cg9.trans (cg5.trans hf)))) rfl rfl ?_
  refine e_istore_n dX8_put_35 (by decide) (ls' := [some (.inr (some 80)), some (.inl x1), some (.inl r4), some (.inl r8)]) rfl ?_
  refine e_iload_n dX8_put_36 rfl ?_
  refine e_if_lt (tgt := 48) dX8_put_37 (by decide) (fun c10 => ?_) (fun c10 => ?_)
  · have Ac10 := Vh7.1 c10
    refine e_iload_n dX8_put_48 rfl ?_
    exact e_iret dX8_put_49 rfl (by rw [Ac10.1, Ac10.2.1, Ac10.2.2])
  · have Bc10 := Vh7.2 c10
    refine e_aload_n dX8_put_40 rfl ?_
    refine e_aload_n dX8_put_41 rfl ?_
    refine e_getr dX8_put_42 fO_8_29 (by decide) (gs_80 kg9) rfl (gp_80_7 kg9) ?_
    obtain ⟨J11, h12, Vh12⟩ := Bc10
    refine e_callv (av := [.inr (some 122)]) (st := []) dX8_put_45 cO_8_282 oX8_keep rfl (by decide) (gs_80 kg9) rfl (Nat.le_of_ble_eq_true rfl) (by decide) h12 (Nat.le_of_eq (congrArg Prod.fst (cg9.trans (cg5.trans hf)))) (Nat.le_of_eq (congrArg Prod.snd (cg9.trans (cg5.trans hf)))) rfl rfl ?_
    refine e_iload_n dX8_put_48 rfl ?_
    exact e_iret dX8_put_49 rfl (by rw [Vh12.1, Vh12.2.1, Vh12.2.2])
set_option maxRecDepth 100000 in
set_option maxHeartbeats 4000000 in
theorem v_X8_putAll_0 {Γ : GX} {g gf : AG} {I J : Nat → Nat → Int} {r : Option AV} (hg : GOk g) (hf : g.2.2.2 = gf.2.2.2) (x1 : Int)
    (V : ∀ I1 : Nat → Nat → Int, I1 = mset I 80 0 0 → (∃ (r4 : Int) (J2 : Nat → Nat → Int) (g5 : AG), CT Γ 61 mX8_read [.inr (some 80), .inr (some 122), .inr (some 83), .inl 0, .inl (I1 82 1), .inl 0] (g, I1) (some (.inl r4), (g5, J2)) ∧ GOk g5 ∧ g5.2.2.2 = g.2.2.2 ∧ (∃ (r8 : Int) (J6 : Nat → Nat → Int) (g9 : AG), CT Γ 904 mX8_puts [.inr (some 80), .inl x1] (g5, J2) (some (.inl r8), (g9, J6)) ∧ GOk g9 ∧ g9.2.2.2 = g5.2.2.2 ∧ ((((0 ≤ r8)) → (Ev Γ 905 mX8_putAll 46 [some (.inr (some 80)), some (.inl x1), none, some (.inl r8), some (.inl 0)] [] (g9, J6) (r, (gf, J)))) ∧ ((¬ (0 ≤ r8)) → (r = some (.inl (-2)) ∧ J = J6 ∧ gf = g9)))))) : Ev Γ 905 mX8_putAll 0 [some (.inr (some 80)), some (.inl x1), none, none, none] [] (g, I) (r, (gf, J)) := by
  refine e_aload_n dX8_putAll_0 rfl ?_
  refine e_iconst dX8_putAll_1 ⟨by decide, by decide⟩ ?_
  refine e_puti dX8_putAll_2 fO_8_103 (by decide) (gs_80 hg) rfl rfl ?_
  refine e_mem (fun I1 eI1 => ?_)
  have WI1 := V I1 eI1
  refine e_aload_n dX8_putAll_5 rfl ?_
  refine e_aload_n dX8_putAll_6 rfl ?_
  refine e_getr dX8_putAll_7 fO_8_29 (by decide) (gs_80 hg) rfl (gp_80_7 hg) ?_
  refine e_aload_n dX8_putAll_10 rfl ?_
  refine e_getr dX8_putAll_11 fO_8_16 (by decide) (gs_80 hg) rfl (gp_80_3 hg) ?_
  refine e_getr dX8_putAll_14 fO_8_113 (by decide) (gs_82 hg) rfl (gp_82_0 hg) ?_
  refine e_iconst dX8_putAll_17 ⟨by decide, by decide⟩ ?_
  refine e_aload_n dX8_putAll_18 rfl ?_
  refine e_getr dX8_putAll_19 fO_8_16 (by decide) (gs_80 hg) rfl (gp_80_3 hg) ?_
  refine e_geti dX8_putAll_22 fO_8_112 (by decide) (gs_82 hg) rfl ?_
  refine e_iconst dX8_putAll_25 ⟨by decide, by decide⟩ ?_
  obtain ⟨r4, J2, g5, h3, kg5, cg5, Vh3⟩ := WI1
  refine e_callv (av := [.inr (some 122), .inr (some 83), .inl 0, .inl (I1 82 1), .inl 0]) (st := []) dX8_putAll_26 cO_8_206 oX8_read rfl (by decide) (gs_80 hg) rfl (Nat.le_of_ble_eq_true rfl) (by decide) h3 (Nat.le_of_eq (congrArg Prod.fst (cg5.trans hf))) (Nat.le_of_eq (congrArg Prod.snd (cg5.trans hf))) rfl rfl ?_
  refine e_istore_n dX8_putAll_29 (by decide) (ls' := [some (.inr (some 80)), some (.inl x1), some (.inl r4), none, none]) rfl ?_
  refine e_aload_n dX8_putAll_30 rfl ?_
  refine e_iload_n dX8_putAll_31 rfl ?_
  obtain ⟨r8, J6, g9, h7, kg9, cg9, Vh7⟩ := Vh3
  refine e_callv (av := [.inl x1]) (st := []) dX8_putAll_32 cO_8_279 oX8_puts rfl (by decide) (gs_80 kg5) rfl (Nat.le_of_ble_eq_true rfl) (by decide) h7 (Nat.le_of_eq (congrArg Prod.fst (cg9.trans (cg5.trans hf)))) (Nat.le_of_eq (congrArg Prod.snd (cg9.trans (cg5.trans hf)))) rfl rfl ?_
  refine e_istore_n dX8_putAll_35 (by decide) (ls' := [some (.inr (some 80)), some (.inl x1), some (.inl r4), some (.inl r8), none]) rfl ?_
  refine e_iload_n dX8_putAll_36 rfl ?_
  refine e_if_ge (tgt := 43) dX8_putAll_37 (by decide) (fun c10 => ?_) (fun c10 => ?_)
  · have Ac10 := Vh7.1 c10
    refine e_iconst dX8_putAll_43 ⟨by decide, by decide⟩ ?_
    refine e_istore dX8_putAll_44 (by decide) (ls' := [some (.inr (some 80)), some (.inl x1), some (.inl r4), some (.inl r8), some (.inl 0)]) rfl ?_
    refine ev_drop (ls' := [some (.inr (some 80)), some (.inl x1), none, some (.inl r8), some (.inl 0)]) 2 rfl ?_
    exact Ac10
  · have Bc10 := Vh7.2 c10
    refine e_bipush dX8_putAll_40 (by decide) ⟨by decide, by decide⟩ ?_
    exact e_iret dX8_putAll_42 rfl (by rw [Bc10.1, Bc10.2.1, Bc10.2.2])
set_option maxRecDepth 100000 in
set_option maxHeartbeats 4000000 in
theorem v_X8_putAll_46 {Γ : GX} {g gf : AG} {I J : Nat → Nat → Int} {r : Option AV} (hg : GOk g) (hf : g.2.2.2 = gf.2.2.2) (x1 : Int) (x3 : Int) (x4 : Int)
    (V : (((x3 ≤ 0)) → ((((0 ≤ x3)) → (∃ (J3 : Nat → Nat → Int), CT Γ 0 mX8_keep [.inr (some 80), .inr (some 122)] (g, I) (none, (g, J3)) ∧ (r = some (.inl x4) ∧ J = J3 ∧ gf = g))) ∧ ((¬ (0 ≤ x3)) → (∃ (r8 : Int) (J6 : Nat → Nat → Int) (g9 : AG), CT Γ 61 mX8_read [.inr (some 80), .inr (some 82), .inr (some 123), .inl 0, .inl (I 122 1), .inl 0] (g, I) (some (.inl r8), (g9, J6)) ∧ GOk g9 ∧ g9.2.2.2 = g.2.2.2 ∧ (r = some (.inl (-1)) ∧ J = J6 ∧ gf = g9))))) ∧ ((¬ (x3 ≤ 0)) → (inR (x4 + 1) ∧ (((¬ ((x4 + 1) = 20)) → (∃ (r14 : Int) (J12 : Nat → Nat → Int) (g15 : AG), CT Γ 904 mX8_puts [.inr (some 80), .inl x1] (g, I) (some (.inl r14), (g15, J12)) ∧ GOk g15 ∧ g15.2.2.2 = g.2.2.2 ∧ (Ev Γ 905 mX8_putAll 46 [some (.inr (some 80)), some (.inl x1), none, some (.inl r14), some (.inl (x4 + 1))] [] (g15, J12) (r, (gf, J))))) ∧ ((((x4 + 1) = 20)) → (∃ (r18 : Int) (J16 : Nat → Nat → Int), CT Γ 0 mX8_isIn [.inl x1, .inl 0, .inl 2] (g, I) (some (.inl r18), (g, J16)) ∧ ((((r18 = 0)) → (Ev Γ 905 mX8_putAll 46 [some (.inr (some 80)), some (.inl x1), none, some (.inl 0), some (.inl (x4 + 1))] [] (g, J16) (r, (gf, J)))) ∧ ((¬ (r18 = 0)) → (∃ (r22 : Int) (J20 : Nat → Nat → Int), CT Γ 903 mX8_takeBy [.inr (some 80), .inl x1] (g, J16) (some (.inl r22), (g, J20)) ∧ ((((r22 ≤ 0)) → (Ev Γ 905 mX8_putAll 46 [some (.inr (some 80)), some (.inl x1), none, some (.inl 0), some (.inl (x4 + 1))] [] (g, J20) (r, (gf, J)))) ∧ ((¬ (r22 ≤ 0)) → (Ev Γ 905 mX8_putAll 46 [some (.inr (some 80)), some (.inl x1), none, some (.inl (-1)), some (.inl (x4 + 1))] [] (g, J20) (r, (gf, J)))))))))))))) : Ev Γ 905 mX8_putAll 46 [some (.inr (some 80)), some (.inl x1), none, some (.inl x3), some (.inl x4)] [] (g, I) (r, (gf, J)) := by
  refine e_iload_n dX8_putAll_46 rfl ?_
  refine e_if_le (tgt := 95) dX8_putAll_47 (by decide) (fun c1 => ?_) (fun c1 => ?_)
  · have Ac1 := V.1 c1
    refine e_iload_n dX8_putAll_95 rfl ?_
    refine e_if_ge (tgt := 126) dX8_putAll_96 (by decide) (fun c2 => ?_) (fun c2 => ?_)
    · have Ac2 := Ac1.1 c2
      refine e_aload_n dX8_putAll_126 rfl ?_
      refine e_aload_n dX8_putAll_127 rfl ?_
      refine e_getr dX8_putAll_128 fO_8_29 (by decide) (gs_80 hg) rfl (gp_80_7 hg) ?_
      obtain ⟨J3, h4, Vh4⟩ := Ac2
      refine e_callv (av := [.inr (some 122)]) (st := []) dX8_putAll_131 cO_8_282 oX8_keep rfl (by decide) (gs_80 hg) rfl (Nat.le_of_ble_eq_true rfl) (by decide) h4 (Nat.le_of_eq (congrArg Prod.fst hf)) (Nat.le_of_eq (congrArg Prod.snd hf)) rfl rfl ?_
      refine e_iload dX8_putAll_134 rfl ?_
      exact e_iret dX8_putAll_136 rfl (by rw [Vh4.1, Vh4.2.1, Vh4.2.2])
    · have Bc2 := Ac1.2 c2
      refine e_aload_n dX8_putAll_99 rfl ?_
      refine e_aload_n dX8_putAll_100 rfl ?_
      refine e_getr dX8_putAll_101 fO_8_16 (by decide) (gs_80 hg) rfl (gp_80_3 hg) ?_
      refine e_aload_n dX8_putAll_104 rfl ?_
      refine e_getr dX8_putAll_105 fO_8_29 (by decide) (gs_80 hg) rfl (gp_80_7 hg) ?_
      refine e_getr dX8_putAll_108 fO_8_113 (by decide) (gs_122 hg) rfl (gp_122_0 hg) ?_
      refine e_iconst dX8_putAll_111 ⟨by decide, by decide⟩ ?_
      refine e_aload_n dX8_putAll_112 rfl ?_
      refine e_getr dX8_putAll_113 fO_8_29 (by decide) (gs_80 hg) rfl (gp_80_7 hg) ?_
      refine e_geti dX8_putAll_116 fO_8_112 (by decide) (gs_122 hg) rfl ?_
      refine e_iconst dX8_putAll_119 ⟨by decide, by decide⟩ ?_
      obtain ⟨r8, J6, g9, h7, kg9, cg9, Vh7⟩ := Bc2
      refine e_callv (av := [.inr (some 82), .inr (some 123), .inl 0, .inl (I 122 1), .inl 0]) (st := []) dX8_putAll_120 cO_8_206 oX8_read rfl (by decide) (gs_80 hg) rfl (Nat.le_of_ble_eq_true rfl) (by decide) h7 (Nat.le_of_eq (congrArg Prod.fst (cg9.trans hf))) (Nat.le_of_eq (congrArg Prod.snd (cg9.trans hf))) rfl rfl ?_
      refine e_istore_n dX8_putAll_123 (by decide) (ls' := [some (.inr (some 80)), some (.inl x1), some (.inl r8), some (.inl x3), some (.inl x4)]) rfl ?_
      refine e_iconst dX8_putAll_124 ⟨by decide, by decide⟩ ?_
      exact e_iret dX8_putAll_125 rfl (by rw [Vh7.1, Vh7.2.1, Vh7.2.2])
  · have Bc1 := V.2 c1
    obtain ⟨h10, Vh10⟩ := Bc1
    refine e_iinc dX8_putAll_50 (by decide) rfl h10 (ls' := [some (.inr (some 80)), some (.inl x1), none, some (.inl x3), some (.inl (x4 + 1))]) rfl ?_
    refine e_iload dX8_putAll_53 rfl ?_
    refine e_bipush dX8_putAll_55 (by decide) ⟨by decide, by decide⟩ ?_
    refine e_ic_ne (tgt := 86) dX8_putAll_57 (by decide) (fun c11 => ?_) (fun c11 => ?_)
    · have Ac11 := Vh10.1 c11
      refine e_aload_n dX8_putAll_86 rfl ?_
      refine e_iload_n dX8_putAll_87 rfl ?_
      obtain ⟨r14, J12, g15, h13, kg15, cg15, Vh13⟩ := Ac11
      refine e_callv (av := [.inl x1]) (st := []) dX8_putAll_88 cO_8_279 oX8_puts rfl (by decide) (gs_80 hg) rfl (Nat.le_of_ble_eq_true rfl) (by decide) h13 (Nat.le_of_eq (congrArg Prod.fst (cg15.trans hf))) (Nat.le_of_eq (congrArg Prod.snd (cg15.trans hf))) rfl rfl ?_
      refine e_istore_n dX8_putAll_91 (by decide) (ls' := [some (.inr (some 80)), some (.inl x1), none, some (.inl r14), some (.inl (x4 + 1))]) rfl ?_
      refine e_goto (tgt := 46) dX8_putAll_92 (by decide) ?_
      exact Vh13
    · have Bc11 := Vh10.2 c11
      refine e_iload_n dX8_putAll_60 rfl ?_
      refine e_iconst dX8_putAll_61 ⟨by decide, by decide⟩ ?_
      refine e_iconst dX8_putAll_62 ⟨by decide, by decide⟩ ?_
      obtain ⟨r18, J16, h17, Vh17⟩ := Bc11
      refine e_calls (av := [.inl x1, .inl 0, .inl 2]) (st := []) dX8_putAll_63 cO_8_202 oX8_isIn rfl rfl (Nat.le_of_ble_eq_true rfl) (by decide) h17 (Nat.le_of_eq (congrArg Prod.fst hf)) (Nat.le_of_eq (congrArg Prod.snd hf)) rfl rfl ?_
      refine e_if_eq (tgt := 81) dX8_putAll_66 (by decide) (fun c19 => ?_) (fun c19 => ?_)
      · have Ac19 := Vh17.1 c19
        refine e_iconst dX8_putAll_81 ⟨by decide, by decide⟩ ?_
        refine e_istore_n dX8_putAll_82 (by decide) (ls' := [some (.inr (some 80)), some (.inl x1), none, some (.inl 0), some (.inl (x4 + 1))]) rfl ?_
        refine e_goto (tgt := 46) dX8_putAll_83 (by decide) ?_
        exact Ac19
      · have Bc19 := Vh17.2 c19
        refine e_aload_n dX8_putAll_69 rfl ?_
        refine e_iload_n dX8_putAll_70 rfl ?_
        obtain ⟨r22, J20, h21, Vh21⟩ := Bc19
        refine e_callv (av := [.inl x1]) (st := []) dX8_putAll_71 cO_8_263 oX8_takeBy rfl (by decide) (gs_80 hg) rfl (Nat.le_of_ble_eq_true rfl) (by decide) h21 (Nat.le_of_eq (congrArg Prod.fst hf)) (Nat.le_of_eq (congrArg Prod.snd hf)) rfl rfl ?_
        refine e_if_le (tgt := 81) dX8_putAll_74 (by decide) (fun c23 => ?_) (fun c23 => ?_)
        · have Ac23 := Vh21.1 c23
          refine e_iconst dX8_putAll_81 ⟨by decide, by decide⟩ ?_
          refine e_istore_n dX8_putAll_82 (by decide) (ls' := [some (.inr (some 80)), some (.inl x1), none, some (.inl 0), some (.inl (x4 + 1))]) rfl ?_
          refine e_goto (tgt := 46) dX8_putAll_83 (by decide) ?_
          exact Ac23
        · have Bc23 := Vh21.2 c23
          refine e_iconst dX8_putAll_77 ⟨by decide, by decide⟩ ?_
          refine e_goto (tgt := 82) dX8_putAll_78 (by decide) ?_
          refine e_istore_n dX8_putAll_82 (by decide) (ls' := [some (.inr (some 80)), some (.inl x1), none, some (.inl (-1)), some (.inl (x4 + 1))]) rfl ?_
          refine e_goto (tgt := 46) dX8_putAll_83 (by decide) ?_
          exact Bc23
set_option maxRecDepth 100000 in
set_option maxHeartbeats 4000000 in
theorem v_X8_back_0 {Γ : GX} {g gf : AG} {I J : Nat → Nat → Int} {r : Option AV} (hg : GOk g) (hf : g.2.2.2 = gf.2.2.2) 
    (V : ∀ I1 : Nat → Nat → Int, I1 = mset I 80 0 0 → (((¬ ((I1 80 10) = 0)) → (inR ((I1 80 10) - 1) ∧ (∀ I4 : Nat → Nat → Int, I4 = mset I1 80 10 ((I1 80 10) - 1) → (inR (240 * (I4 80 10)) ∧ (((0 : Int) ≤ (I4 80 10) ∧ ((I4 80 10) : Int) < 10) ∧ (∃ (r9 : Int) (J7 : Nat → Nat → Int) (g10 : AG), CT Γ 61 mX8_read [.inr (some 80), .inr (some 82), .inr (some 132), .inl (240 * (I4 80 10)), .inl (I4 133 (I4 80 10).toNat), .inl 0] (g, I4) (some (.inl r9), (g10, J7)) ∧ GOk g10 ∧ g10.2.2.2 = g.2.2.2 ∧ (r = some (.inl 1) ∧ J = J7 ∧ gf = g10))))))) ∧ ((((I1 80 10) = 0)) → (r = some (.inl 0) ∧ J = I1 ∧ gf = g)))) : Ev Γ 62 mX8_back 0 [some (.inr (some 80)), none] [] (g, I) (r, (gf, J)) := by
  refine e_aload_n dX8_back_0 rfl ?_
  refine e_iconst dX8_back_1 ⟨by decide, by decide⟩ ?_
  refine e_puti dX8_back_2 fO_8_103 (by decide) (gs_80 hg) rfl rfl ?_
  refine e_mem (fun I1 eI1 => ?_)
  have WI1 := V I1 eI1
  refine e_aload_n dX8_back_5 rfl ?_
  refine e_geti dX8_back_6 fO_8_212 (by decide) (gs_80 hg) rfl ?_
  refine e_if_ne (tgt := 14) dX8_back_9 (by decide) (fun c2 => ?_) (fun c2 => ?_)
  · have Ac2 := WI1.1 c2
    refine e_aload_n dX8_back_14 rfl ?_
    refine e_dup dX8_back_15 ?_
    refine e_geti dX8_back_16 fO_8_212 (by decide) (gs_80 hg) rfl ?_
    refine e_iconst dX8_back_19 ⟨by decide, by decide⟩ ?_
    obtain ⟨h3, Vh3⟩ := Ac2
    refine e_isub dX8_back_20 h3 ?_
    refine e_puti dX8_back_21 fO_8_212 (by decide) (gs_80 hg) rfl rfl ?_
    refine e_mem (fun I4 eI4 => ?_)
    have WI4 := Vh3 I4 eI4
    refine e_aload_n dX8_back_24 rfl ?_
    refine e_aload_n dX8_back_25 rfl ?_
    refine e_getr dX8_back_26 fO_8_16 (by decide) (gs_80 hg) rfl (gp_80_3 hg) ?_
    refine e_aload_n dX8_back_29 rfl ?_
    refine e_getr dX8_back_30 fO_8_32 (by decide) (gs_80 hg) rfl (gp_80_8 hg) ?_
    refine e_sipush dX8_back_33 (by decide) ⟨by decide, by decide⟩ ?_
    refine e_aload_n dX8_back_36 rfl ?_
    refine e_geti dX8_back_37 fO_8_212 (by decide) (gs_80 hg) rfl ?_
    obtain ⟨h5, Vh5⟩ := WI4
    refine e_imul dX8_back_40 h5 ?_
    refine e_aload_n dX8_back_41 rfl ?_
    refine e_getr dX8_back_42 fO_8_35 (by decide) (gs_80 hg) rfl (gp_80_9 hg) ?_
    refine e_aload_n dX8_back_45 rfl ?_
    refine e_geti dX8_back_46 fO_8_212 (by decide) (gs_80 hg) rfl ?_
    obtain ⟨h6, Vh6⟩ := Vh5
    refine e_iald dX8_back_49 (by decide) (gs_133 hg) h6.1 h6.2 ?_
    refine e_iconst dX8_back_50 ⟨by decide, by decide⟩ ?_
    obtain ⟨r9, J7, g10, h8, kg10, cg10, Vh8⟩ := Vh6
    refine e_callv (av := [.inr (some 82), .inr (some 132), .inl (240 * (I4 80 10)), .inl (I4 133 (I4 80 10).toNat), .inl 0]) (st := []) dX8_back_51 cO_8_206 oX8_read rfl (by decide) (gs_80 hg) rfl (Nat.le_of_ble_eq_true rfl) (by decide) h8 (Nat.le_of_eq (congrArg Prod.fst (cg10.trans hf))) (Nat.le_of_eq (congrArg Prod.snd (cg10.trans hf))) rfl rfl ?_
    refine e_istore_n dX8_back_54 (by decide) (ls' := [some (.inr (some 80)), some (.inl r9)]) rfl ?_
    refine e_iconst dX8_back_55 ⟨by decide, by decide⟩ ?_
    exact e_zret dX8_back_56 rfl (by decide) (by rw [Vh8.1, Vh8.2.1, Vh8.2.2])
  · have Bc2 := WI1.2 c2
    refine e_iconst dX8_back_12 ⟨by decide, by decide⟩ ?_
    exact e_zret dX8_back_13 rfl (by decide) (by rw [Bc2.1, Bc2.2.1, Bc2.2.2])
set_option maxRecDepth 100000 in
set_option maxHeartbeats 4000000 in
theorem v_X8_node_0 {Γ : GX} {g : AG} {I J : Nat → Nat → Int} {r : Option AV} (hg : GOk g) (x1 : Int) (x2 : Int)
    (V : ∀ I1 : Nat → Nat → Int, I1 = mset I 80 0 0 → (∃ (r4 : Int) (J2 : Nat → Nat → Int), CT Γ 0 mX8_isNode [.inr (some 80), .inl x1] (g, I1) (some (.inl r4), (g, J2)) ∧ (((¬ (r4 = 0)) → ((x2 = 0 → (((0 : Int) ≤ x1 ∧ (x1 : Int) < 240) ∧ (r = some (.inl (J2 85 x1.toNat)) ∧ J = J2))) ∧ (x2 = 1 → (((0 : Int) ≤ x1 ∧ (x1 : Int) < 240) ∧ (r = some (.inl (J2 86 x1.toNat)) ∧ J = J2))) ∧ (x2 = 2 → (((0 : Int) ≤ x1 ∧ (x1 : Int) < 240) ∧ (r = some (.inl (J2 88 x1.toNat)) ∧ J = J2))) ∧ (x2 = 3 → (((0 : Int) ≤ x1 ∧ (x1 : Int) < 240) ∧ (r = some (.inl (J2 89 x1.toNat)) ∧ J = J2))) ∧ ((x2 < 0 ∨ 3 < x2) → (r = some (.inl (-1)) ∧ J = J2)))) ∧ (((r4 = 0)) → (r = some (.inl (-1)) ∧ J = J2))))) : Ev Γ 1 mX8_node 0 [some (.inr (some 80)), some (.inl x1), some (.inl x2)] [] (g, I) (r, (g, J)) := by
  refine e_aload_n dX8_node_0 rfl ?_
  refine e_iconst dX8_node_1 ⟨by decide, by decide⟩ ?_
  refine e_puti dX8_node_2 fO_8_103 (by decide) (gs_80 hg) rfl rfl ?_
  refine e_mem (fun I1 eI1 => ?_)
  have WI1 := V I1 eI1
  refine e_aload_n dX8_node_5 rfl ?_
  refine e_iload_n dX8_node_6 rfl ?_
  obtain ⟨r4, J2, h3, Vh3⟩ := WI1
  refine e_callv (av := [.inl x1]) (st := []) dX8_node_7 cO_8_224 oX8_isNode rfl (by decide) (gs_80 hg) rfl (Nat.le_of_ble_eq_true rfl) (by decide) h3 (Nat.le_refl _) (Nat.le_refl _) rfl rfl ?_
  refine e_if_ne (tgt := 15) dX8_node_10 (by decide) (fun c5 => ?_) (fun c5 => ?_)
  · have Ac5 := Vh3.1 c5
    refine e_iload_n dX8_node_15 rfl ?_
    by_cases c6 : x2 = 0
    · have Ac6 := Ac5.1 c6
      refine e_tabIn (x := x2) (off := 32) (tgt := 48) dX8_node_16 (by omega) (by omega) (by rw [c6]; rfl) (by decide) ?_
      refine e_aload_n dX8_node_48 rfl ?_
      refine e_getr dX8_node_49 fO_8_16 (by decide) (gs_80 hg) rfl (gp_80_3 hg) ?_
      refine e_getr dX8_node_52 fO_8_128 (by decide) (gs_82 hg) rfl (gp_82_4 hg) ?_
      refine e_iload_n dX8_node_55 rfl ?_
      obtain ⟨h7, Vh7⟩ := Ac6
      refine e_iald dX8_node_56 (by decide) (gs_85 hg) h7.1 h7.2 ?_
      exact e_iret dX8_node_57 rfl (by rw [Vh7.1, Vh7.2])
    by_cases c8 : x2 = 1
    · have Ac8 := Ac5.2.1 c8
      refine e_tabIn (x := x2) (off := 42) (tgt := 58) dX8_node_16 (by omega) (by omega) (by rw [c8]; rfl) (by decide) ?_
      refine e_aload_n dX8_node_58 rfl ?_
      refine e_getr dX8_node_59 fO_8_16 (by decide) (gs_80 hg) rfl (gp_80_3 hg) ?_
      refine e_getr dX8_node_62 fO_8_154 (by decide) (gs_82 hg) rfl (gp_82_5 hg) ?_
      refine e_iload_n dX8_node_65 rfl ?_
      obtain ⟨h9, Vh9⟩ := Ac8
      refine e_iald dX8_node_66 (by decide) (gs_86 hg) h9.1 h9.2 ?_
      exact e_iret dX8_node_67 rfl (by rw [Vh9.1, Vh9.2])
    by_cases c10 : x2 = 2
    · have Ac10 := Ac5.2.2.1 c10
      refine e_tabIn (x := x2) (off := 52) (tgt := 68) dX8_node_16 (by omega) (by omega) (by rw [c10]; rfl) (by decide) ?_
      refine e_aload_n dX8_node_68 rfl ?_
      refine e_getr dX8_node_69 fO_8_16 (by decide) (gs_80 hg) rfl (gp_80_3 hg) ?_
      refine e_getr dX8_node_72 fO_8_134 (by decide) (gs_82 hg) rfl (gp_82_7 hg) ?_
      refine e_iload_n dX8_node_75 rfl ?_
      obtain ⟨h11, Vh11⟩ := Ac10
      refine e_iald dX8_node_76 (by decide) (gs_88 hg) h11.1 h11.2 ?_
      exact e_iret dX8_node_77 rfl (by rw [Vh11.1, Vh11.2])
    by_cases c12 : x2 = 3
    · have Ac12 := Ac5.2.2.2.1 c12
      refine e_tabIn (x := x2) (off := 62) (tgt := 78) dX8_node_16 (by omega) (by omega) (by rw [c12]; rfl) (by decide) ?_
      refine e_aload_n dX8_node_78 rfl ?_
      refine e_getr dX8_node_79 fO_8_16 (by decide) (gs_80 hg) rfl (gp_80_3 hg) ?_
      refine e_getr dX8_node_82 fO_8_131 (by decide) (gs_82 hg) rfl (gp_82_8 hg) ?_
      refine e_iload_n dX8_node_85 rfl ?_
      obtain ⟨h13, Vh13⟩ := Ac12
      refine e_iald dX8_node_86 (by decide) (gs_89 hg) h13.1 h13.2 ?_
      exact e_iret dX8_node_87 rfl (by rw [Vh13.1, Vh13.2])
    have c14 : x2 < 0 ∨ 3 < x2 := by omega
    have Ac14 := Ac5.2.2.2.2 c14
    refine e_tabOut (x := x2) (tgt := 88) dX8_node_16 c14 (by decide) ?_
    refine e_iconst dX8_node_88 ⟨by decide, by decide⟩ ?_
    exact e_iret dX8_node_89 rfl (by rw [Ac14.1, Ac14.2])
  · have Bc5 := Vh3.2 c5
    refine e_iconst dX8_node_13 ⟨by decide, by decide⟩ ?_
    exact e_iret dX8_node_14 rfl (by rw [Bc5.1, Bc5.2])
set_option maxRecDepth 100000 in
set_option maxHeartbeats 4000000 in
theorem v_X8_at_0 {Γ : GX} {g : AG} {I J : Nat → Nat → Int} {r : Option AV} (hg : GOk g) (x1 : Int)
    (V : (((x1 < 0)) → (∀ I2 : Nat → Nat → Int, I2 = mset I 80 0 1 → (((((I2 80 0) ≤ 0)) → (((0 : Int) ≤ x1 ∧ (x1 : Int) < 240) ∧ (r = some (.inl (bAnd (I2 83 x1.toNat) 255)) ∧ J = I2))) ∧ ((¬ ((I2 80 0) ≤ 0)) → (r = some (.inl 0) ∧ J = I2))))) ∧ ((¬ (x1 < 0)) → ((((x1 < (I 82 1))) → (∀ I6 : Nat → Nat → Int, I6 = mset I 80 0 0 → (((((I6 80 0) ≤ 0)) → (((0 : Int) ≤ x1 ∧ (x1 : Int) < 240) ∧ (r = some (.inl (bAnd (I6 83 x1.toNat) 255)) ∧ J = I6))) ∧ ((¬ ((I6 80 0) ≤ 0)) → (r = some (.inl 0) ∧ J = I6))))) ∧ ((¬ (x1 < (I 82 1))) → (∀ I9 : Nat → Nat → Int, I9 = mset I 80 0 1 → (((((I9 80 0) ≤ 0)) → (((0 : Int) ≤ x1 ∧ (x1 : Int) < 240) ∧ (r = some (.inl (bAnd (I9 83 x1.toNat) 255)) ∧ J = I9))) ∧ ((¬ ((I9 80 0) ≤ 0)) → (r = some (.inl 0) ∧ J = I9)))))))) : Ev Γ 0 mX8_at 0 [some (.inr (some 80)), some (.inl x1)] [] (g, I) (r, (g, J)) := by
  refine e_aload_n dX8_at_0 rfl ?_
  refine e_iload_n dX8_at_1 rfl ?_
  refine e_if_lt (tgt := 16) dX8_at_2 (by decide) (fun c1 => ?_) (fun c1 => ?_)
  · have Ac1 := V.1 c1
    refine e_iconst dX8_at_16 ⟨by decide, by decide⟩ ?_
    refine e_goto (tgt := 21) dX8_at_17 (by decide) ?_
    refine e_puti dX8_at_21 fO_8_103 (by decide) (gs_80 hg) rfl rfl ?_
    refine e_mem (fun I2 eI2 => ?_)
    have WI2 := Ac1 I2 eI2
    refine e_aload_n dX8_at_24 rfl ?_
    refine e_geti dX8_at_25 fO_8_103 (by decide) (gs_80 hg) rfl ?_
    refine e_if_le (tgt := 35) dX8_at_28 (by decide) (fun c3 => ?_) (fun c3 => ?_)
    · have Ac3 := WI2.1 c3
      refine e_aload_n dX8_at_35 rfl ?_
      refine e_getr dX8_at_36 fO_8_16 (by decide) (gs_80 hg) rfl (gp_80_3 hg) ?_
      refine e_getr dX8_at_39 fO_8_113 (by decide) (gs_82 hg) rfl (gp_82_0 hg) ?_
      refine e_iload_n dX8_at_42 rfl ?_
      obtain ⟨h4, Vh4⟩ := Ac3
      refine e_bald dX8_at_43 (by decide) (gs_83 hg) h4.1 h4.2 ?_
      refine e_sipush dX8_at_44 (by decide) ⟨by decide, by decide⟩ ?_
      refine e_iand dX8_at_47 ?_
      exact e_iret dX8_at_48 rfl (by rw [Vh4.1, Vh4.2])
    · have Bc3 := WI2.2 c3
      refine e_iconst dX8_at_31 ⟨by decide, by decide⟩ ?_
      refine e_goto (tgt := 48) dX8_at_32 (by decide) ?_
      exact e_iret dX8_at_48 rfl (by rw [Bc3.1, Bc3.2])
  · have Bc1 := V.2 c1
    refine e_iload_n dX8_at_5 rfl ?_
    refine e_aload_n dX8_at_6 rfl ?_
    refine e_getr dX8_at_7 fO_8_16 (by decide) (gs_80 hg) rfl (gp_80_3 hg) ?_
    refine e_geti dX8_at_10 fO_8_112 (by decide) (gs_82 hg) rfl ?_
    refine e_ic_lt (tgt := 20) dX8_at_13 (by decide) (fun c5 => ?_) (fun c5 => ?_)
    · have Ac5 := Bc1.1 c5
      refine e_iconst dX8_at_20 ⟨by decide, by decide⟩ ?_
      refine e_puti dX8_at_21 fO_8_103 (by decide) (gs_80 hg) rfl rfl ?_
      refine e_mem (fun I6 eI6 => ?_)
      have WI6 := Ac5 I6 eI6
      refine e_aload_n dX8_at_24 rfl ?_
      refine e_geti dX8_at_25 fO_8_103 (by decide) (gs_80 hg) rfl ?_
      refine e_if_le (tgt := 35) dX8_at_28 (by decide) (fun c7 => ?_) (fun c7 => ?_)
      · have Ac7 := WI6.1 c7
        refine e_aload_n dX8_at_35 rfl ?_
        refine e_getr dX8_at_36 fO_8_16 (by decide) (gs_80 hg) rfl (gp_80_3 hg) ?_
        refine e_getr dX8_at_39 fO_8_113 (by decide) (gs_82 hg) rfl (gp_82_0 hg) ?_
        refine e_iload_n dX8_at_42 rfl ?_
        obtain ⟨h8, Vh8⟩ := Ac7
        refine e_bald dX8_at_43 (by decide) (gs_83 hg) h8.1 h8.2 ?_
        refine e_sipush dX8_at_44 (by decide) ⟨by decide, by decide⟩ ?_
        refine e_iand dX8_at_47 ?_
        exact e_iret dX8_at_48 rfl (by rw [Vh8.1, Vh8.2])
      · have Bc7 := WI6.2 c7
        refine e_iconst dX8_at_31 ⟨by decide, by decide⟩ ?_
        refine e_goto (tgt := 48) dX8_at_32 (by decide) ?_
        exact e_iret dX8_at_48 rfl (by rw [Bc7.1, Bc7.2])
    · have Bc5 := Bc1.2 c5
      refine e_iconst dX8_at_16 ⟨by decide, by decide⟩ ?_
      refine e_goto (tgt := 21) dX8_at_17 (by decide) ?_
      refine e_puti dX8_at_21 fO_8_103 (by decide) (gs_80 hg) rfl rfl ?_
      refine e_mem (fun I9 eI9 => ?_)
      have WI9 := Bc5 I9 eI9
      refine e_aload_n dX8_at_24 rfl ?_
      refine e_geti dX8_at_25 fO_8_103 (by decide) (gs_80 hg) rfl ?_
      refine e_if_le (tgt := 35) dX8_at_28 (by decide) (fun c10 => ?_) (fun c10 => ?_)
      · have Ac10 := WI9.1 c10
        refine e_aload_n dX8_at_35 rfl ?_
        refine e_getr dX8_at_36 fO_8_16 (by decide) (gs_80 hg) rfl (gp_80_3 hg) ?_
        refine e_getr dX8_at_39 fO_8_113 (by decide) (gs_82 hg) rfl (gp_82_0 hg) ?_
        refine e_iload_n dX8_at_42 rfl ?_
        obtain ⟨h11, Vh11⟩ := Ac10
        refine e_bald dX8_at_43 (by decide) (gs_83 hg) h11.1 h11.2 ?_
        refine e_sipush dX8_at_44 (by decide) ⟨by decide, by decide⟩ ?_
        refine e_iand dX8_at_47 ?_
        exact e_iret dX8_at_48 rfl (by rw [Vh11.1, Vh11.2])
      · have Bc10 := WI9.2 c10
        refine e_iconst dX8_at_31 ⟨by decide, by decide⟩ ?_
        refine e_goto (tgt := 48) dX8_at_32 (by decide) ?_
        exact e_iret dX8_at_48 rfl (by rw [Bc10.1, Bc10.2])
set_option maxRecDepth 100000 in
set_option maxHeartbeats 4000000 in
theorem v_X8_count_0 {Γ : GX} {g : AG} {I J : Nat → Nat → Int} {r : Option AV} (hg : GOk g) (x1 : Int)
    (V : ∀ I1 : Nat → Nat → Int, I1 = mset I 80 0 0 → ((x1 = 0 → (r = some (.inl (I1 82 1)) ∧ J = I1)) ∧ (x1 = 1 → (r = some (.inl (I1 92 1)) ∧ J = I1)) ∧ (x1 = 2 → (r = some (.inl (I1 102 1)) ∧ J = I1)) ∧ (x1 = 3 → (r = some (.inl (I1 80 2)) ∧ J = I1)) ∧ (x1 = 4 → (r = some (.inl (I1 80 10)) ∧ J = I1)) ∧ ((x1 < 0 ∨ 4 < x1) → (r = some (.inl (-1)) ∧ J = I1)))) : Ev Γ 0 mX8_count 0 [some (.inr (some 80)), some (.inl x1)] [] (g, I) (r, (g, J)) := by
  refine e_aload_n dX8_count_0 rfl ?_
  refine e_iconst dX8_count_1 ⟨by decide, by decide⟩ ?_
  refine e_puti dX8_count_2 fO_8_103 (by decide) (gs_80 hg) rfl rfl ?_
  refine e_mem (fun I1 eI1 => ?_)
  have WI1 := V I1 eI1
  refine e_iload_n dX8_count_5 rfl ?_
  by_cases c2 : x1 = 0
  · have Ac2 := WI1.1 c2
    refine e_tabIn (x := x1) (off := 34) (tgt := 40) dX8_count_6 (by omega) (by omega) (by rw [c2]; rfl) (by decide) ?_
    refine e_aload_n dX8_count_40 rfl ?_
    refine e_getr dX8_count_41 fO_8_16 (by decide) (gs_80 hg) rfl (gp_80_3 hg) ?_
    refine e_geti dX8_count_44 fO_8_112 (by decide) (gs_82 hg) rfl ?_
    exact e_iret dX8_count_47 rfl (by rw [Ac2.1, Ac2.2])
  by_cases c3 : x1 = 1
  · have Ac3 := WI1.2.1 c3
    refine e_tabIn (x := x1) (off := 42) (tgt := 48) dX8_count_6 (by omega) (by omega) (by rw [c3]; rfl) (by decide) ?_
    refine e_aload_n dX8_count_48 rfl ?_
    refine e_getr dX8_count_49 fO_8_20 (by decide) (gs_80 hg) rfl (gp_80_4 hg) ?_
    refine e_geti dX8_count_52 fO_8_112 (by decide) (gs_92 hg) rfl ?_
    exact e_iret dX8_count_55 rfl (by rw [Ac3.1, Ac3.2])
  by_cases c4 : x1 = 2
  · have Ac4 := WI1.2.2.1 c4
    refine e_tabIn (x := x1) (off := 50) (tgt := 56) dX8_count_6 (by omega) (by omega) (by rw [c4]; rfl) (by decide) ?_
    refine e_aload_n dX8_count_56 rfl ?_
    refine e_getr dX8_count_57 fO_8_23 (by decide) (gs_80 hg) rfl (gp_80_5 hg) ?_
    refine e_geti dX8_count_60 fO_8_112 (by decide) (gs_102 hg) rfl ?_
    exact e_iret dX8_count_63 rfl (by rw [Ac4.1, Ac4.2])
  by_cases c5 : x1 = 3
  · have Ac5 := WI1.2.2.2.1 c5
    refine e_tabIn (x := x1) (off := 58) (tgt := 64) dX8_count_6 (by omega) (by omega) (by rw [c5]; rfl) (by decide) ?_
    refine e_aload_n dX8_count_64 rfl ?_
    refine e_geti dX8_count_65 fO_8_95 (by decide) (gs_80 hg) rfl ?_
    exact e_iret dX8_count_68 rfl (by rw [Ac5.1, Ac5.2])
  by_cases c6 : x1 = 4
  · have Ac6 := WI1.2.2.2.2.1 c6
    refine e_tabIn (x := x1) (off := 63) (tgt := 69) dX8_count_6 (by omega) (by omega) (by rw [c6]; rfl) (by decide) ?_
    refine e_aload_n dX8_count_69 rfl ?_
    refine e_geti dX8_count_70 fO_8_212 (by decide) (gs_80 hg) rfl ?_
    exact e_iret dX8_count_73 rfl (by rw [Ac6.1, Ac6.2])
  have c7 : x1 < 0 ∨ 4 < x1 := by omega
  have Ac7 := WI1.2.2.2.2.2 c7
  refine e_tabOut (x := x1) (tgt := 74) dX8_count_6 c7 (by decide) ?_
  refine e_iconst dX8_count_74 ⟨by decide, by decide⟩ ?_
  exact e_iret dX8_count_75 rfl (by rw [Ac7.1, Ac7.2])
