set_option maxRecDepth 100000 in
set_option maxHeartbeats 4000000 in
theorem v_X5_load_0 {Γ : GX} {g : AG} {I J : Nat → Nat → Int} {r : Option AV} (hg : GOc g) (t : Nat) (ht : Tr t) (b1 nb1 : Nat) (pb1 : 0 < b1) (sb1 : g.1[b1]? = some (.inr (.int, nb1))) (lb1 : (nb1 : Int) < 2147483648) (x2 : Int)
    (V : ∀ I1 : Nat → Nat → Int, I1 = mset I t 1 0 → (∃ (r4 : Int) (J2 : Nat → Nat → Int), CT Γ 1 mX5_append [.inr (some t), .inr (some b1), .inl 0, .inl x2] (g, I1) (some (.inl r4), (g, J2)) ∧ (r = none ∧ J = J2))) : Ev Γ 2 mX5_load 0 [some (.inr (some t)), some (.inr (some b1)), some (.inl x2)] [] (g, I) (r, (g, J)) := by
  refine e_aload_n dX5_load_0 rfl ?_
  refine e_iconst dX5_load_1 ⟨by decide, by decide⟩ ?_
  refine e_puti dX5_load_2 fO_5_45 (tr_pos ht) (tr_s0 hg ht) rfl rfl ?_
  refine e_mem (fun I1 eI1 => ?_)
  have WI1 := V I1 eI1
  refine e_aload_n dX5_load_5 rfl ?_
  refine e_aload_n dX5_load_6 rfl ?_
  refine e_iconst dX5_load_7 ⟨by decide, by decide⟩ ?_
  refine e_iload_n dX5_load_8 rfl ?_
  obtain ⟨r4, J2, h3, Vh3⟩ := WI1
  refine e_callv (av := [.inr (some b1), .inl 0, .inl x2]) (st := []) dX5_load_9 cO_5_49 oX5_append rfl (tr_pos ht) (tr_s0 hg ht) rfl (Nat.le_of_ble_eq_true rfl) (by decide) h3 (Nat.le_refl _) (Nat.le_refl _) rfl rfl ?_
  refine e_pop dX5_load_12 ?_
  exact e_vret dX5_load_13 rfl (by rw [Vh3.1, Vh3.2])
set_option maxRecDepth 100000 in
set_option maxHeartbeats 4000000 in
theorem v_X5_copyOf_0 {Γ : GX} {g : AG} {I J : Nat → Nat → Int} {r : Option AV} (hg : GOc g) (t : Nat) (ht : Tr t) (u : Nat) (hu : Tr u)
    (V : ∀ I1 : Nat → Nat → Int, I1 = mset I t 1 (I u 1) → (∀ I2 : Nat → Nat → Int, I2 = mset I1 t 2 (I1 u 2) → (((0 : Int) ≤ 0 ∧ (0 : Int) ≤ 0 ∧ (0 : Int) ≤ (I2 t 1) ∧ (0 + (I2 t 1) : Int) ≤ 240 ∧ (0 + (I2 t 1) : Int) ≤ 240) ∧ (∀ I3 : Nat → Nat → Int, I3 = cpy I2 (u + 1) 0 (t + 1) 0 (I2 t 1).toNat → (((0 : Int) ≤ 0 ∧ (0 : Int) ≤ 0 ∧ (0 : Int) ≤ (I3 t 2) ∧ (0 + (I3 t 2) : Int) ≤ 120 ∧ (0 + (I3 t 2) : Int) ≤ 120) ∧ (∀ I5 : Nat → Nat → Int, I5 = cpy I3 (u + 2) 0 (t + 2) 0 (I3 t 2).toNat → (((0 : Int) ≤ 0 ∧ (0 : Int) ≤ 0 ∧ (0 : Int) ≤ (I5 t 2) ∧ (0 + (I5 t 2) : Int) ≤ 120 ∧ (0 + (I5 t 2) : Int) ≤ 120) ∧ (∀ I7 : Nat → Nat → Int, I7 = cpy I5 (u + 3) 0 (t + 3) 0 (I5 t 2).toNat → (((0 : Int) ≤ 0 ∧ (0 : Int) ≤ 0 ∧ (0 : Int) ≤ (I7 t 2) ∧ (0 + (I7 t 2) : Int) ≤ 120 ∧ (0 + (I7 t 2) : Int) ≤ 120) ∧ (∀ I9 : Nat → Nat → Int, I9 = cpy I7 (u + 4) 0 (t + 4) 0 (I7 t 2).toNat → (((0 : Int) ≤ 0 ∧ (0 : Int) ≤ 0 ∧ (0 : Int) ≤ (I9 t 2) ∧ (0 + (I9 t 2) : Int) ≤ 120 ∧ (0 + (I9 t 2) : Int) ≤ 120) ∧ (∀ I11 : Nat → Nat → Int, I11 = cpy I9 (u + 5) 0 (t + 5) 0 (I9 t 2).toNat → (((0 : Int) ≤ 0 ∧ (0 : Int) ≤ 0 ∧ (0 : Int) ≤ (I11 t 2) ∧ (0 + (I11 t 2) : Int) ≤ 120 ∧ (0 + (I11 t 2) : Int) ≤ 120) ∧ (∀ I13 : Nat → Nat → Int, I13 = cpy I11 (u + 6) 0 (t + 6) 0 (I11 t 2).toNat → (((0 : Int) ≤ 0 ∧ (0 : Int) ≤ 0 ∧ (0 : Int) ≤ (I13 t 2) ∧ (0 + (I13 t 2) : Int) ≤ 120 ∧ (0 + (I13 t 2) : Int) ≤ 120) ∧ (∀ I15 : Nat → Nat → Int, I15 = cpy I13 (u + 7) 0 (t + 7) 0 (I13 t 2).toNat → (((0 : Int) ≤ 0 ∧ (0 : Int) ≤ 0 ∧ (0 : Int) ≤ (I15 t 2) ∧ (0 + (I15 t 2) : Int) ≤ 120 ∧ (0 + (I15 t 2) : Int) ≤ 120) ∧ (∀ I17 : Nat → Nat → Int, I17 = cpy I15 (u + 8) 0 (t + 8) 0 (I15 t 2).toNat → (((0 : Int) ≤ 0 ∧ (0 : Int) ≤ 0 ∧ (0 : Int) ≤ (I17 t 2) ∧ (0 + (I17 t 2) : Int) ≤ 120 ∧ (0 + (I17 t 2) : Int) ≤ 120) ∧ (∀ I19 : Nat → Nat → Int, I19 = cpy I17 (u + 9) 0 (t + 9) 0 (I17 t 2).toNat → (((0 : Int) ≤ 0 ∧ (0 : Int) ≤ 0 ∧ (0 : Int) ≤ 26 ∧ (0 + 26 : Int) ≤ 26 ∧ (0 + 26 : Int) ≤ 26) ∧ (∀ I21 : Nat → Nat → Int, I21 = cpy I19 (u + 10) 0 (t + 10) 0 26 → (r = none ∧ J = I21))))))))))))))))))))))) : Ev Γ 1 mX5_copyOf 0 [some (.inr (some t)), some (.inr (some u))] [] (g, I) (r, (g, J)) := by
  refine e_aload_n dX5_copyOf_0 rfl ?_
  refine e_aload_n dX5_copyOf_1 rfl ?_
  refine e_geti dX5_copyOf_2 fO_5_45 (tr_pos hu) (tr_s0 hg hu) rfl ?_
  refine e_puti dX5_copyOf_5 fO_5_45 (tr_pos ht) (tr_s0 hg ht) rfl rfl ?_
  refine e_mem (fun I1 eI1 => ?_)
  have WI1 := V I1 eI1
  refine e_aload_n dX5_copyOf_8 rfl ?_
  refine e_aload_n dX5_copyOf_9 rfl ?_
  refine e_geti dX5_copyOf_10 fO_5_53 (tr_pos hu) (tr_s0 hg hu) rfl ?_
  refine e_puti dX5_copyOf_13 fO_5_53 (tr_pos ht) (tr_s0 hg ht) rfl rfl ?_
  refine e_mem (fun I2 eI2 => ?_)
  have WI2 := WI1 I2 eI2
  refine e_aload_n dX5_copyOf_16 rfl ?_
  refine e_getr dX5_copyOf_17 fO_5_9 (tr_pos hu) (tr_s0 hg hu) rfl (tr_p1 hg hu) ?_
  refine e_iconst dX5_copyOf_20 ⟨by decide, by decide⟩ ?_
  refine e_aload_n dX5_copyOf_21 rfl ?_
  refine e_getr dX5_copyOf_22 fO_5_9 (tr_pos ht) (tr_s0 hg ht) rfl (tr_p1 hg ht) ?_
  refine e_iconst dX5_copyOf_25 ⟨by decide, by decide⟩ ?_
  refine e_aload_n dX5_copyOf_26 rfl ?_
  refine e_geti dX5_copyOf_27 fO_5_45 (tr_pos ht) (tr_s0 hg ht) rfl ?_
  obtain ⟨h4, Vh4⟩ := WI2
  refine e_copy dX5_copyOf_30 cCopy_5_56 (Nat.succ_pos _) (tr_s1 hg hu) (Nat.succ_pos _) (tr_s1 hg ht) h4 (Nat.le_of_ble_eq_true rfl) (by decide) ?_
  refine e_mem (fun I3 eI3 => ?_)
  have WI3 := Vh4 I3 eI3
  refine e_aload_n dX5_copyOf_33 rfl ?_
  refine e_getr dX5_copyOf_34 fO_5_15 (tr_pos hu) (tr_s0 hg hu) rfl (tr_p2 hg hu) ?_
  refine e_iconst dX5_copyOf_37 ⟨by decide, by decide⟩ ?_
  refine e_aload_n dX5_copyOf_38 rfl ?_
  refine e_getr dX5_copyOf_39 fO_5_15 (tr_pos ht) (tr_s0 hg ht) rfl (tr_p2 hg ht) ?_
  refine e_iconst dX5_copyOf_42 ⟨by decide, by decide⟩ ?_
  refine e_aload_n dX5_copyOf_43 rfl ?_
  refine e_geti dX5_copyOf_44 fO_5_53 (tr_pos ht) (tr_s0 hg ht) rfl ?_
  obtain ⟨h6, Vh6⟩ := WI3
  refine e_copy dX5_copyOf_47 cCopy_5_56 (Nat.succ_pos _) (tr_s2 hg hu) (Nat.succ_pos _) (tr_s2 hg ht) h6 (Nat.le_of_ble_eq_true rfl) (by decide) ?_
  refine e_mem (fun I5 eI5 => ?_)
  have WI5 := Vh6 I5 eI5
  refine e_aload_n dX5_copyOf_50 rfl ?_
  refine e_getr dX5_copyOf_51 fO_5_18 (tr_pos hu) (tr_s0 hg hu) rfl (tr_p3 hg hu) ?_
  refine e_iconst dX5_copyOf_54 ⟨by decide, by decide⟩ ?_
  refine e_aload_n dX5_copyOf_55 rfl ?_
  refine e_getr dX5_copyOf_56 fO_5_18 (tr_pos ht) (tr_s0 hg ht) rfl (tr_p3 hg ht) ?_
  refine e_iconst dX5_copyOf_59 ⟨by decide, by decide⟩ ?_
  refine e_aload_n dX5_copyOf_60 rfl ?_
  refine e_geti dX5_copyOf_61 fO_5_53 (tr_pos ht) (tr_s0 hg ht) rfl ?_
  obtain ⟨h8, Vh8⟩ := WI5
  refine e_copy dX5_copyOf_64 cCopy_5_56 (Nat.succ_pos _) (tr_s3 hg hu) (Nat.succ_pos _) (tr_s3 hg ht) h8 (Nat.le_of_ble_eq_true rfl) (by decide) ?_
  refine e_mem (fun I7 eI7 => ?_)
  have WI7 := Vh8 I7 eI7
  refine e_aload_n dX5_copyOf_67 rfl ?_
  refine e_getr dX5_copyOf_68 fO_5_21 (tr_pos hu) (tr_s0 hg hu) rfl (tr_p4 hg hu) ?_
  refine e_iconst dX5_copyOf_71 ⟨by decide, by decide⟩ ?_
  refine e_aload_n dX5_copyOf_72 rfl ?_
  refine e_getr dX5_copyOf_73 fO_5_21 (tr_pos ht) (tr_s0 hg ht) rfl (tr_p4 hg ht) ?_
  refine e_iconst dX5_copyOf_76 ⟨by decide, by decide⟩ ?_
  refine e_aload_n dX5_copyOf_77 rfl ?_
  refine e_geti dX5_copyOf_78 fO_5_53 (tr_pos ht) (tr_s0 hg ht) rfl ?_
  obtain ⟨h10, Vh10⟩ := WI7
  refine e_copy dX5_copyOf_81 cCopy_5_56 (Nat.succ_pos _) (tr_s4 hg hu) (Nat.succ_pos _) (tr_s4 hg ht) h10 (Nat.le_of_ble_eq_true rfl) (by decide) ?_
  refine e_mem (fun I9 eI9 => ?_)
  have WI9 := Vh10 I9 eI9
  refine e_aload_n dX5_copyOf_84 rfl ?_
  refine e_getr dX5_copyOf_85 fO_5_24 (tr_pos hu) (tr_s0 hg hu) rfl (tr_p5 hg hu) ?_
  refine e_iconst dX5_copyOf_88 ⟨by decide, by decide⟩ ?_
  refine e_aload_n dX5_copyOf_89 rfl ?_
  refine e_getr dX5_copyOf_90 fO_5_24 (tr_pos ht) (tr_s0 hg ht) rfl (tr_p5 hg ht) ?_
  refine e_iconst dX5_copyOf_93 ⟨by decide, by decide⟩ ?_
  refine e_aload_n dX5_copyOf_94 rfl ?_
  refine e_geti dX5_copyOf_95 fO_5_53 (tr_pos ht) (tr_s0 hg ht) rfl ?_
  obtain ⟨h12, Vh12⟩ := WI9
  refine e_copy dX5_copyOf_98 cCopy_5_56 (Nat.succ_pos _) (tr_s5 hg hu) (Nat.succ_pos _) (tr_s5 hg ht) h12 (Nat.le_of_ble_eq_true rfl) (by decide) ?_
  refine e_mem (fun I11 eI11 => ?_)
  have WI11 := Vh12 I11 eI11
  refine e_aload_n dX5_copyOf_101 rfl ?_
  refine e_getr dX5_copyOf_102 fO_5_27 (tr_pos hu) (tr_s0 hg hu) rfl (tr_p6 hg hu) ?_
  refine e_iconst dX5_copyOf_105 ⟨by decide, by decide⟩ ?_
  refine e_aload_n dX5_copyOf_106 rfl ?_
  refine e_getr dX5_copyOf_107 fO_5_27 (tr_pos ht) (tr_s0 hg ht) rfl (tr_p6 hg ht) ?_
  refine e_iconst dX5_copyOf_110 ⟨by decide, by decide⟩ ?_
  refine e_aload_n dX5_copyOf_111 rfl ?_
  refine e_geti dX5_copyOf_112 fO_5_53 (tr_pos ht) (tr_s0 hg ht) rfl ?_
  obtain ⟨h14, Vh14⟩ := WI11
  refine e_copy dX5_copyOf_115 cCopy_5_56 (Nat.succ_pos _) (tr_s6 hg hu) (Nat.succ_pos _) (tr_s6 hg ht) h14 (Nat.le_of_ble_eq_true rfl) (by decide) ?_
  refine e_mem (fun I13 eI13 => ?_)
  have WI13 := Vh14 I13 eI13
  refine e_aload_n dX5_copyOf_118 rfl ?_
  refine e_getr dX5_copyOf_119 fO_5_30 (tr_pos hu) (tr_s0 hg hu) rfl (tr_p7 hg hu) ?_
  refine e_iconst dX5_copyOf_122 ⟨by decide, by decide⟩ ?_
  refine e_aload_n dX5_copyOf_123 rfl ?_
  refine e_getr dX5_copyOf_124 fO_5_30 (tr_pos ht) (tr_s0 hg ht) rfl (tr_p7 hg ht) ?_
  refine e_iconst dX5_copyOf_127 ⟨by decide, by decide⟩ ?_
  refine e_aload_n dX5_copyOf_128 rfl ?_
  refine e_geti dX5_copyOf_129 fO_5_53 (tr_pos ht) (tr_s0 hg ht) rfl ?_
  obtain ⟨h16, Vh16⟩ := WI13
  refine e_copy dX5_copyOf_132 cCopy_5_56 (Nat.succ_pos _) (tr_s7 hg hu) (Nat.succ_pos _) (tr_s7 hg ht) h16 (Nat.le_of_ble_eq_true rfl) (by decide) ?_
  refine e_mem (fun I15 eI15 => ?_)
  have WI15 := Vh16 I15 eI15
  refine e_aload_n dX5_copyOf_135 rfl ?_
  refine e_getr dX5_copyOf_136 fO_5_33 (tr_pos hu) (tr_s0 hg hu) rfl (tr_p8 hg hu) ?_
  refine e_iconst dX5_copyOf_139 ⟨by decide, by decide⟩ ?_
  refine e_aload_n dX5_copyOf_140 rfl ?_
  refine e_getr dX5_copyOf_141 fO_5_33 (tr_pos ht) (tr_s0 hg ht) rfl (tr_p8 hg ht) ?_
  refine e_iconst dX5_copyOf_144 ⟨by decide, by decide⟩ ?_
  refine e_aload_n dX5_copyOf_145 rfl ?_
  refine e_geti dX5_copyOf_146 fO_5_53 (tr_pos ht) (tr_s0 hg ht) rfl ?_
  obtain ⟨h18, Vh18⟩ := WI15
  refine e_copy dX5_copyOf_149 cCopy_5_56 (Nat.succ_pos _) (tr_s8 hg hu) (Nat.succ_pos _) (tr_s8 hg ht) h18 (Nat.le_of_ble_eq_true rfl) (by decide) ?_
  refine e_mem (fun I17 eI17 => ?_)
  have WI17 := Vh18 I17 eI17
  refine e_aload_n dX5_copyOf_152 rfl ?_
  refine e_getr dX5_copyOf_153 fO_5_36 (tr_pos hu) (tr_s0 hg hu) rfl (tr_p9 hg hu) ?_
  refine e_iconst dX5_copyOf_156 ⟨by decide, by decide⟩ ?_
  refine e_aload_n dX5_copyOf_157 rfl ?_
  refine e_getr dX5_copyOf_158 fO_5_36 (tr_pos ht) (tr_s0 hg ht) rfl (tr_p9 hg ht) ?_
  refine e_iconst dX5_copyOf_161 ⟨by decide, by decide⟩ ?_
  refine e_aload_n dX5_copyOf_162 rfl ?_
  refine e_geti dX5_copyOf_163 fO_5_53 (tr_pos ht) (tr_s0 hg ht) rfl ?_
  obtain ⟨h20, Vh20⟩ := WI17
  refine e_copy dX5_copyOf_166 cCopy_5_56 (Nat.succ_pos _) (tr_s9 hg hu) (Nat.succ_pos _) (tr_s9 hg ht) h20 (Nat.le_of_ble_eq_true rfl) (by decide) ?_
  refine e_mem (fun I19 eI19 => ?_)
  have WI19 := Vh20 I19 eI19
  refine e_aload_n dX5_copyOf_169 rfl ?_
  refine e_getr dX5_copyOf_170 fO_5_39 (tr_pos hu) (tr_s0 hg hu) rfl (tr_p10 hg hu) ?_
  refine e_iconst dX5_copyOf_173 ⟨by decide, by decide⟩ ?_
  refine e_aload_n dX5_copyOf_174 rfl ?_
  refine e_getr dX5_copyOf_175 fO_5_39 (tr_pos ht) (tr_s0 hg ht) rfl (tr_p10 hg ht) ?_
  refine e_iconst dX5_copyOf_178 ⟨by decide, by decide⟩ ?_
  refine e_bipush dX5_copyOf_179 (by decide) ⟨by decide, by decide⟩ ?_
  obtain ⟨h22, Vh22⟩ := WI19
  refine e_copy dX5_copyOf_181 cCopy_5_56 (Nat.succ_pos _) (tr_s10 hg hu) (Nat.succ_pos _) (tr_s10 hg ht) h22 (Nat.le_of_ble_eq_true rfl) (by decide) ?_
  refine e_mem (fun I21 eI21 => ?_)
  have WI21 := Vh22 I21 eI21
  exact e_vret dX5_copyOf_184 rfl (by rw [WI21.1, WI21.2])
set_option maxRecDepth 100000 in
set_option maxHeartbeats 4000000 in
theorem v_X5_append_0 {Γ : GX} {g : AG} {I J : Nat → Nat → Int} {r : Option AV} (hg : GOc g) (t : Nat) (ht : Tr t) (b1 nb1 : Nat) (pb1 : 0 < b1) (sb1 : g.1[b1]? = some (.inr (.int, nb1))) (lb1 : (nb1 : Int) < 2147483648) (x2 : Int) (x3 : Int)
    (V : inR (x3 - x2) ∧ (∀ y2 : Int, y2 = (x3 - x2) → ((((x2 < 0)) → (r = some (.inl 0) ∧ J = I)) ∧ ((¬ (x2 < 0)) → ((((y2 < 0)) → (r = some (.inl 0) ∧ J = I)) ∧ ((¬ (y2 < 0)) → (((((nb1 : Int) < x3)) → (r = some (.inl 0) ∧ J = I)) ∧ ((¬ ((nb1 : Int) < x3)) → (inR (240 - (I t 1)) ∧ ((((y2 ≤ (240 - (I t 1)))) → (((0 : Int) ≤ x2 ∧ (0 : Int) ≤ (I t 1) ∧ (0 : Int) ≤ y2 ∧ (x2 + y2 : Int) ≤ nb1 ∧ ((I t 1) + y2 : Int) ≤ 240) ∧ (∀ I8 : Nat → Nat → Int, I8 = cpy I b1 x2.toNat (t + 1) (I t 1).toNat y2.toNat → (inR ((I8 t 1) + y2) ∧ (∀ I11 : Nat → Nat → Int, I11 = mset I8 t 1 ((I8 t 1) + y2) → (r = some (.inl 1) ∧ J = I11)))))) ∧ ((¬ (y2 ≤ (240 - (I t 1)))) → (r = some (.inl 0) ∧ J = I)))))))))))) : Ev Γ 1 mX5_append 0 [some (.inr (some t)), some (.inr (some b1)), some (.inl x2), some (.inl x3), none] [] (g, I) (r, (g, J)) := by
  refine e_iload_n dX5_append_0 rfl ?_
  refine e_iload_n dX5_append_1 rfl ?_
  obtain ⟨h1, Vh1⟩ := V
  refine e_isub dX5_append_2 h1 ?_
  refine e_top (fun y2 ey2 => ?_)
  have Wy2 := Vh1 y2 ey2
  refine e_istore dX5_append_3 (by decide) (ls' := [some (.inr (some t)), some (.inr (some b1)), some (.inl x2), some (.inl x3), some (.inl y2)]) rfl ?_
  refine e_iload_n dX5_append_5 rfl ?_
  refine e_if_lt (tgt := 33) dX5_append_6 (by decide) (fun c3 => ?_) (fun c3 => ?_)
  · have Ac3 := Wy2.1 c3
    refine e_iconst dX5_append_33 ⟨by decide, by decide⟩ ?_
    exact e_zret dX5_append_34 rfl (by decide) (by rw [Ac3.1, Ac3.2])
  · have Bc3 := Wy2.2 c3
    refine e_iload dX5_append_9 rfl ?_
    refine e_if_lt (tgt := 33) dX5_append_11 (by decide) (fun c4 => ?_) (fun c4 => ?_)
    · have Ac4 := Bc3.1 c4
      refine e_iconst dX5_append_33 ⟨by decide, by decide⟩ ?_
      exact e_zret dX5_append_34 rfl (by decide) (by rw [Ac4.1, Ac4.2])
    · have Bc4 := Bc3.2 c4
      refine e_iload_n dX5_append_14 rfl ?_
      refine e_aload_n dX5_append_15 rfl ?_
      refine e_alen (ty := .int) dX5_append_16 (by decide) pb1 sb1 lb1 ?_
      refine e_ic_gt (tgt := 33) dX5_append_17 (by decide) (fun c5 => ?_) (fun c5 => ?_)
      · have Ac5 := Bc4.1 c5
        refine e_iconst dX5_append_33 ⟨by decide, by decide⟩ ?_
        exact e_zret dX5_append_34 rfl (by decide) (by rw [Ac5.1, Ac5.2])
      · have Bc5 := Bc4.2 c5
        refine e_iload dX5_append_20 rfl ?_
        refine e_sipush dX5_append_22 (by decide) ⟨by decide, by decide⟩ ?_
        refine e_aload_n dX5_append_25 rfl ?_
        refine e_geti dX5_append_26 fO_5_45 (tr_pos ht) (tr_s0 hg ht) rfl ?_
        obtain ⟨h6, Vh6⟩ := Bc5
        refine e_isub dX5_append_29 h6 ?_
        refine e_ic_le (tgt := 35) dX5_append_30 (by decide) (fun c7 => ?_) (fun c7 => ?_)
        · have Ac7 := Vh6.1 c7
          refine e_aload_n dX5_append_35 rfl ?_
          refine e_iload_n dX5_append_36 rfl ?_
          refine e_aload_n dX5_append_37 rfl ?_
          refine e_getr dX5_append_38 fO_5_9 (tr_pos ht) (tr_s0 hg ht) rfl (tr_p1 hg ht) ?_
          refine e_aload_n dX5_append_41 rfl ?_
          refine e_geti dX5_append_42 fO_5_45 (tr_pos ht) (tr_s0 hg ht) rfl ?_
          refine e_iload dX5_append_45 rfl ?_
          obtain ⟨h9, Vh9⟩ := Ac7
          refine e_copy dX5_append_47 cCopy_5_56 pb1 sb1 (Nat.succ_pos _) (tr_s1 hg ht) h9 (Nat.le_of_ble_eq_true rfl) (by decide) ?_
          refine e_mem (fun I8 eI8 => ?_)
          have WI8 := Vh9 I8 eI8
          refine e_aload_n dX5_append_50 rfl ?_
          refine e_dup dX5_append_51 ?_
          refine e_geti dX5_append_52 fO_5_45 (tr_pos ht) (tr_s0 hg ht) rfl ?_
          refine e_iload dX5_append_55 rfl ?_
          obtain ⟨h10, Vh10⟩ := WI8
          refine e_iadd dX5_append_57 h10 ?_
          refine e_puti dX5_append_58 fO_5_45 (tr_pos ht) (tr_s0 hg ht) rfl rfl ?_
          refine e_mem (fun I11 eI11 => ?_)
          have WI11 := Vh10 I11 eI11
          refine e_iconst dX5_append_61 ⟨by decide, by decide⟩ ?_
          exact e_zret dX5_append_62 rfl (by decide) (by rw [WI11.1, WI11.2])
        · have Bc7 := Vh6.2 c7
          refine e_iconst dX5_append_33 ⟨by decide, by decide⟩ ?_
          exact e_zret dX5_append_34 rfl (by decide) (by rw [Bc7.1, Bc7.2])
set_option maxRecDepth 100000 in
set_option maxHeartbeats 4000000 in
theorem v_X5_kindOf_0 {Γ : GX} {g : AG} {I J : Nat → Nat → Int} {r : Option AV} (hg : GOc g) (t : Nat) (ht : Tr t) (x1 : Int)
    (V : ((0 : Int) ≤ x1 ∧ (x1 : Int) < 26) ∧ (∀ y2 : Int, y2 = (I (t + 10) x1.toNat) → (((¬ (y2 = (-1))) → (((0 : Int) ≤ y2 ∧ (y2 : Int) < 120) ∧ (r = some (.inl (I (t + 2) y2.toNat)) ∧ J = I))) ∧ (((y2 = (-1))) → (r = some (.inl (-1)) ∧ J = I))))) : Ev Γ 0 mX5_kindOf 0 [some (.inr (some t)), some (.inl x1), none] [] (g, I) (r, (g, J)) := by
  refine e_aload_n dX5_kindOf_0 rfl ?_
  refine e_getr dX5_kindOf_1 fO_5_39 (tr_pos ht) (tr_s0 hg ht) rfl (tr_p10 hg ht) ?_
  refine e_iload_n dX5_kindOf_4 rfl ?_
  obtain ⟨h1, Vh1⟩ := V
  refine e_iald dX5_kindOf_5 (Nat.succ_pos _) (tr_s10 hg ht) h1.1 h1.2 ?_
  refine e_top (fun y2 ey2 => ?_)
  have Wy2 := Vh1 y2 ey2
  refine e_istore_n dX5_kindOf_6 (by decide) (ls' := [some (.inr (some t)), some (.inl x1), some (.inl y2)]) rfl ?_
  refine e_iload_n dX5_kindOf_7 rfl ?_
  refine e_iconst dX5_kindOf_8 ⟨by decide, by decide⟩ ?_
  refine e_ic_ne (tgt := 16) dX5_kindOf_9 (by decide) (fun c3 => ?_) (fun c3 => ?_)
  · have Ac3 := Wy2.1 c3
    refine e_aload_n dX5_kindOf_16 rfl ?_
    refine e_getr dX5_kindOf_17 fO_5_15 (tr_pos ht) (tr_s0 hg ht) rfl (tr_p2 hg ht) ?_
    refine e_iload_n dX5_kindOf_20 rfl ?_
    obtain ⟨h4, Vh4⟩ := Ac3
    refine e_iald dX5_kindOf_21 (Nat.succ_pos _) (tr_s2 hg ht) h4.1 h4.2 ?_
    exact e_iret dX5_kindOf_22 rfl (by rw [Vh4.1, Vh4.2])
  · have Bc3 := Wy2.2 c3
    refine e_iconst dX5_kindOf_12 ⟨by decide, by decide⟩ ?_
    refine e_goto (tgt := 22) dX5_kindOf_13 (by decide) ?_
    exact e_iret dX5_kindOf_22 rfl (by rw [Bc3.1, Bc3.2])
set_option maxRecDepth 100000 in
set_option maxHeartbeats 4000000 in
theorem v_X5_next_0 {Γ : GX} {g : AG} {I J : Nat → Nat → Int} {r : Option AV} (hg : GOc g) (t : Nat) (ht : Tr t) (x1 : Int)
    (V : (((x1 < 0)) → (r = some (.inl (I t 2)) ∧ J = I)) ∧ ((¬ (x1 < 0)) → (((((I t 2) ≤ x1)) → (r = some (.inl (I t 2)) ∧ J = I)) ∧ ((¬ ((I t 2) ≤ x1)) → (((0 : Int) ≤ x1 ∧ (x1 : Int) < 120) ∧ (inR (x1 + (I (t + 8) x1.toNat)) ∧ (r = some (.inl (x1 + (I (t + 8) x1.toNat))) ∧ J = I))))))) : Ev Γ 0 mX5_next 0 [some (.inr (some t)), some (.inl x1)] [] (g, I) (r, (g, J)) := by
  refine e_iload_n dX5_next_0 rfl ?_
  refine e_if_lt (tgt := 23) dX5_next_1 (by decide) (fun c1 => ?_) (fun c1 => ?_)
  · have Ac1 := V.1 c1
    refine e_aload_n dX5_next_23 rfl ?_
    refine e_geti dX5_next_24 fO_5_53 (tr_pos ht) (tr_s0 hg ht) rfl ?_
    exact e_iret dX5_next_27 rfl (by rw [Ac1.1, Ac1.2])
  · have Bc1 := V.2 c1
    refine e_iload_n dX5_next_4 rfl ?_
    refine e_aload_n dX5_next_5 rfl ?_
    refine e_geti dX5_next_6 fO_5_53 (tr_pos ht) (tr_s0 hg ht) rfl ?_
    refine e_ic_ge (tgt := 23) dX5_next_9 (by decide) (fun c2 => ?_) (fun c2 => ?_)
    · have Ac2 := Bc1.1 c2
      refine e_aload_n dX5_next_23 rfl ?_
      refine e_geti dX5_next_24 fO_5_53 (tr_pos ht) (tr_s0 hg ht) rfl ?_
      exact e_iret dX5_next_27 rfl (by rw [Ac2.1, Ac2.2])
    · have Bc2 := Bc1.2 c2
      refine e_iload_n dX5_next_12 rfl ?_
      refine e_aload_n dX5_next_13 rfl ?_
      refine e_getr dX5_next_14 fO_5_33 (tr_pos ht) (tr_s0 hg ht) rfl (tr_p8 hg ht) ?_
      refine e_iload_n dX5_next_17 rfl ?_
      obtain ⟨h3, Vh3⟩ := Bc2
      refine e_iald dX5_next_18 (Nat.succ_pos _) (tr_s8 hg ht) h3.1 h3.2 ?_
      obtain ⟨h4, Vh4⟩ := Vh3
      refine e_iadd dX5_next_19 h4 ?_
      refine e_goto (tgt := 27) dX5_next_20 (by decide) ?_
      exact e_iret dX5_next_27 rfl (by rw [Vh4.1, Vh4.2])
set_option maxRecDepth 100000 in
set_option maxHeartbeats 4000000 in
theorem v_X5_lastByteBehind_0 {Γ : GX} {g : AG} {I J : Nat → Nat → Int} {r : Option AV} (hg : GOc g) (t : Nat) (ht : Tr t) (x1 : Int) (x2 : Int)
    (V : Ev Γ 1 mX5_lastByteBehind 5 [some (.inr (some t)), none, some (.inl x2), some (.inl x1), some (.inl 1)] [] (g, I) (r, (g, J))) : Ev Γ 1 mX5_lastByteBehind 0 [some (.inr (some t)), some (.inl x1), some (.inl x2), none, none] [] (g, I) (r, (g, J)) := by
  refine e_iload_n dX5_lastByteBehind_0 rfl ?_
  refine e_istore_n dX5_lastByteBehind_1 (by decide) (ls' := [some (.inr (some t)), some (.inl x1), some (.inl x2), some (.inl x1), none]) rfl ?_
  refine e_iconst dX5_lastByteBehind_2 ⟨by decide, by decide⟩ ?_
  refine e_istore dX5_lastByteBehind_3 (by decide) (ls' := [some (.inr (some t)), some (.inl x1), some (.inl x2), some (.inl x1), some (.inl 1)]) rfl ?_
  refine ev_drop (ls' := [some (.inr (some t)), none, some (.inl x2), some (.inl x1), some (.inl 1)]) 1 rfl ?_
  exact V
set_option maxRecDepth 100000 in
set_option maxHeartbeats 4000000 in
theorem v_X5_lastByteBehind_5 {Γ : GX} {g : AG} {I J : Nat → Nat → Int} {r : Option AV} (hg : GOc g) (t : Nat) (ht : Tr t) (x2 : Int) (x3 : Int) (x4 : Int)
    (V : (((x2 ≤ x4)) → ((((x3 < 0)) → (r = some (.inl 0) ∧ J = I)) ∧ ((¬ (x3 < 0)) → (((((I t 2) ≤ x3)) → (r = some (.inl 0) ∧ J = I)) ∧ ((¬ ((I t 2) ≤ x3)) → (((0 : Int) ≤ x3 ∧ (x3 : Int) < 120) ∧ (r = some (.inl (I (t + 5) x3.toNat)) ∧ J = I))))))) ∧ ((¬ (x2 ≤ x4)) → (∃ (r7 : Int) (J5 : Nat → Nat → Int), CT Γ 0 mX5_next [.inr (some t), .inl x3] (g, I) (some (.inl r7), (g, J5)) ∧ (inR (x4 + 1) ∧ (Ev Γ 1 mX5_lastByteBehind 5 [some (.inr (some t)), none, some (.inl x2), some (.inl r7), some (.inl (x4 + 1))] [] (g, J5) (r, (g, J))))))) : Ev Γ 1 mX5_lastByteBehind 5 [some (.inr (some t)), none, some (.inl x2), some (.inl x3), some (.inl x4)] [] (g, I) (r, (g, J)) := by
  refine e_iload dX5_lastByteBehind_5 rfl ?_
  refine e_iload_n dX5_lastByteBehind_7 rfl ?_
  refine e_ic_ge (tgt := 23) dX5_lastByteBehind_8 (by decide) (fun c1 => ?_) (fun c1 => ?_)
  · have Ac1 := V.1 c1
    refine e_iload_n dX5_lastByteBehind_23 rfl ?_
    refine e_if_lt (tgt := 44) dX5_lastByteBehind_24 (by decide) (fun c2 => ?_) (fun c2 => ?_)
    · have Ac2 := Ac1.1 c2
      refine e_iconst dX5_lastByteBehind_44 ⟨by decide, by decide⟩ ?_
      exact e_iret dX5_lastByteBehind_45 rfl (by rw [Ac2.1, Ac2.2])
    · have Bc2 := Ac1.2 c2
      refine e_iload_n dX5_lastByteBehind_27 rfl ?_
      refine e_aload_n dX5_lastByteBehind_28 rfl ?_
      refine e_geti dX5_lastByteBehind_29 fO_5_53 (tr_pos ht) (tr_s0 hg ht) rfl ?_
      refine e_ic_ge (tgt := 44) dX5_lastByteBehind_32 (by decide) (fun c3 => ?_) (fun c3 => ?_)
      · have Ac3 := Bc2.1 c3
        refine e_iconst dX5_lastByteBehind_44 ⟨by decide, by decide⟩ ?_
        exact e_iret dX5_lastByteBehind_45 rfl (by rw [Ac3.1, Ac3.2])
      · have Bc3 := Bc2.2 c3
        refine e_aload_n dX5_lastByteBehind_35 rfl ?_
        refine e_getr dX5_lastByteBehind_36 fO_5_24 (tr_pos ht) (tr_s0 hg ht) rfl (tr_p5 hg ht) ?_
        refine e_iload_n dX5_lastByteBehind_39 rfl ?_
        obtain ⟨h4, Vh4⟩ := Bc3
        refine e_iald dX5_lastByteBehind_40 (Nat.succ_pos _) (tr_s5 hg ht) h4.1 h4.2 ?_
        refine e_goto (tgt := 45) dX5_lastByteBehind_41 (by decide) ?_
        exact e_iret dX5_lastByteBehind_45 rfl (by rw [Vh4.1, Vh4.2])
  · have Bc1 := V.2 c1
    refine e_aload_n dX5_lastByteBehind_11 rfl ?_
    refine e_iload_n dX5_lastByteBehind_12 rfl ?_
    obtain ⟨r7, J5, h6, Vh6⟩ := Bc1
    refine e_callv (av := [.inl x3]) (st := []) dX5_lastByteBehind_13 cO_5_62 oX5_next rfl (tr_pos ht) (tr_s0 hg ht) rfl (Nat.le_of_ble_eq_true rfl) (by decide) h6 (Nat.le_refl _) (Nat.le_refl _) rfl rfl ?_
    refine e_istore_n dX5_lastByteBehind_16 (by decide) (ls' := [some (.inr (some t)), none, some (.inl x2), some (.inl r7), some (.inl x4)]) rfl ?_
    obtain ⟨h8, Vh8⟩ := Vh6
    refine e_iinc dX5_lastByteBehind_17 (by decide) rfl h8 (ls' := [some (.inr (some t)), none, some (.inl x2), some (.inl r7), some (.inl (x4 + 1))]) rfl ?_
    refine e_goto (tgt := 5) dX5_lastByteBehind_20 (by decide) ?_
    exact Vh8
set_option maxRecDepth 100000 in
set_option maxHeartbeats 4000000 in
theorem v_X5_markAlike_0 {Γ : GX} {g : AG} {I J : Nat → Nat → Int} {r : Option AV} (hg : GOc g) (t : Nat) (ht : Tr t)
    (V : inR ((I t 2) - 1) ∧ (∀ y2 : Int, y2 = ((I t 2) - 1) → (Ev Γ 2 mX5_markAlike 7 [some (.inr (some t)), some (.inl y2), none] [] (g, I) (r, (g, J))))) : Ev Γ 2 mX5_markAlike 0 [some (.inr (some t)), none, none] [] (g, I) (r, (g, J)) := by
  refine e_aload_n dX5_markAlike_0 rfl ?_
  refine e_geti dX5_markAlike_1 fO_5_53 (tr_pos ht) (tr_s0 hg ht) rfl ?_
  refine e_iconst dX5_markAlike_4 ⟨by decide, by decide⟩ ?_
  obtain ⟨h1, Vh1⟩ := V
  refine e_isub dX5_markAlike_5 h1 ?_
  refine e_top (fun y2 ey2 => ?_)
  have Wy2 := Vh1 y2 ey2
  refine e_istore_n dX5_markAlike_6 (by decide) (ls' := [some (.inr (some t)), some (.inl y2), none]) rfl ?_
  exact Wy2
set_option maxRecDepth 100000 in
set_option maxHeartbeats 4000000 in
theorem v_X5_markAlike_7 {Γ : GX} {g : AG} {I J : Nat → Nat → Int} {r : Option AV} (hg : GOc g) (t : Nat) (ht : Tr t) (x1 : Int)
    (V : (((x1 < 0)) → (r = none ∧ J = I)) ∧ ((¬ (x1 < 0)) → (((0 : Int) ≤ x1 ∧ (x1 : Int) < 120) ∧ (∀ I2 : Nat → Nat → Int, I2 = mset I (t + 11) x1.toNat x1 → (inR (x1 + 1) ∧ (∀ y5 : Int, y5 = (x1 + 1) → (Ev Γ 2 mX5_markAlike 22 [some (.inr (some t)), some (.inl x1), some (.inl y5)] [] (g, I2) (r, (g, J))))))))) : Ev Γ 2 mX5_markAlike 7 [some (.inr (some t)), some (.inl x1), none] [] (g, I) (r, (g, J)) := by
  refine e_iload_n dX5_markAlike_7 rfl ?_
  refine e_if_lt (tgt := 81) dX5_markAlike_8 (by decide) (fun c1 => ?_) (fun c1 => ?_)
  · have Ac1 := V.1 c1
    exact e_vret dX5_markAlike_81 rfl (by rw [Ac1.1, Ac1.2])
  · have Bc1 := V.2 c1
    refine e_aload_n dX5_markAlike_11 rfl ?_
    refine e_getr dX5_markAlike_12 fO_5_42 (tr_pos ht) (tr_s0 hg ht) rfl (tr_p11 hg ht) ?_
    refine e_iload_n dX5_markAlike_15 rfl ?_
    refine e_iload_n dX5_markAlike_16 rfl ?_
    obtain ⟨h3, Vh3⟩ := Bc1
    refine e_iast dX5_markAlike_17 (Nat.succ_pos _) (tr_s11 hg ht) h3.1 h3.2 ?_
    refine e_mem (fun I2 eI2 => ?_)
    have WI2 := Vh3 I2 eI2
    refine e_iload_n dX5_markAlike_18 rfl ?_
    refine e_iconst dX5_markAlike_19 ⟨by decide, by decide⟩ ?_
    obtain ⟨h4, Vh4⟩ := WI2
    refine e_iadd dX5_markAlike_20 h4 ?_
    refine e_top (fun y5 ey5 => ?_)
    have Wy5 := Vh4 y5 ey5
    refine e_istore_n dX5_markAlike_21 (by decide) (ls' := [some (.inr (some t)), some (.inl x1), some (.inl y5)]) rfl ?_
    exact Wy5
set_option maxRecDepth 100000 in
set_option maxHeartbeats 4000000 in
theorem v_X5_markAlike_22 {Γ : GX} {g : AG} {I J : Nat → Nat → Int} {r : Option AV} (hg : GOc g) (t : Nat) (ht : Tr t) (x1 : Int) (x2 : Int)
    (V : ((((I t 2) ≤ x2)) → (inR (x1 + (-1)) ∧ (Ev Γ 2 mX5_markAlike 7 [some (.inr (some t)), some (.inl (x1 + (-1))), none] [] (g, I) (r, (g, J))))) ∧ ((¬ ((I t 2) ≤ x2)) → (((0 : Int) ≤ x2 ∧ (x2 : Int) < 120) ∧ (((0 : Int) ≤ x1 ∧ (x1 : Int) < 120) ∧ (((¬ ((I (t + 8) x2.toNat) = (I (t + 8) x1.toNat))) → (inR (x2 + 1) ∧ (Ev Γ 2 mX5_markAlike 22 [some (.inr (some t)), some (.inl x1), some (.inl (x2 + 1))] [] (g, I) (r, (g, J))))) ∧ ((((I (t + 8) x2.toNat) = (I (t + 8) x1.toNat))) → (∃ (r9 : Int) (J7 : Nat → Nat → Int), CT Γ 1 mX5_looksAlike [.inr (some t), .inl x1, .inl x2] (g, I) (some (.inl r9), (g, J7)) ∧ ((((r9 = 0)) → (inR (x2 + 1) ∧ (Ev Γ 2 mX5_markAlike 22 [some (.inr (some t)), some (.inl x1), some (.inl (x2 + 1))] [] (g, J7) (r, (g, J))))) ∧ ((¬ (r9 = 0)) → (((0 : Int) ≤ x2 ∧ (x2 : Int) < 120) ∧ (((0 : Int) ≤ x1 ∧ (x1 : Int) < 120) ∧ (∀ I13 : Nat → Nat → Int, I13 = mset J7 (t + 11) x1.toNat (J7 (t + 11) x2.toNat) → (inR (x1 + (-1)) ∧ (Ev Γ 2 mX5_markAlike 7 [some (.inr (some t)), some (.inl (x1 + (-1))), none] [] (g, I13) (r, (g, J)))))))))))))))) : Ev Γ 2 mX5_markAlike 22 [some (.inr (some t)), some (.inl x1), some (.inl x2)] [] (g, I) (r, (g, J)) := by
  refine e_iload_n dX5_markAlike_22 rfl ?_
  refine e_aload_n dX5_markAlike_23 rfl ?_
  refine e_geti dX5_markAlike_24 fO_5_53 (tr_pos ht) (tr_s0 hg ht) rfl ?_
  refine e_ic_ge (tgt := 75) dX5_markAlike_27 (by decide) (fun c1 => ?_) (fun c1 => ?_)
  · have Ac1 := V.1 c1
    obtain ⟨h2, Vh2⟩ := Ac1
    refine e_iinc dX5_markAlike_75 (by decide) rfl h2 (ls' := [some (.inr (some t)), some (.inl (x1 + (-1))), some (.inl x2)]) rfl ?_
    refine e_goto (tgt := 7) dX5_markAlike_78 (by decide) ?_
    refine ev_drop (ls' := [some (.inr (some t)), some (.inl (x1 + (-1))), none]) 2 rfl ?_
    exact Vh2
  · have Bc1 := V.2 c1
    refine e_aload_n dX5_markAlike_30 rfl ?_
    refine e_getr dX5_markAlike_31 fO_5_33 (tr_pos ht) (tr_s0 hg ht) rfl (tr_p8 hg ht) ?_
    refine e_iload_n dX5_markAlike_34 rfl ?_
    obtain ⟨h3, Vh3⟩ := Bc1
    refine e_iald dX5_markAlike_35 (Nat.succ_pos _) (tr_s8 hg ht) h3.1 h3.2 ?_
    refine e_aload_n dX5_markAlike_36 rfl ?_
    refine e_getr dX5_markAlike_37 fO_5_33 (tr_pos ht) (tr_s0 hg ht) rfl (tr_p8 hg ht) ?_
    refine e_iload_n dX5_markAlike_40 rfl ?_
    obtain ⟨h4, Vh4⟩ := Vh3
    refine e_iald dX5_markAlike_41 (Nat.succ_pos _) (tr_s8 hg ht) h4.1 h4.2 ?_
    refine e_ic_ne (tgt := 69) dX5_markAlike_42 (by decide) (fun c5 => ?_) (fun c5 => ?_)
    · have Ac5 := Vh4.1 c5
      obtain ⟨h6, Vh6⟩ := Ac5
      refine e_iinc dX5_markAlike_69 (by decide) rfl h6 (ls' := [some (.inr (some t)), some (.inl x1), some (.inl (x2 + 1))]) rfl ?_
      refine e_goto (tgt := 22) dX5_markAlike_72 (by decide) ?_
      exact Vh6
    · have Bc5 := Vh4.2 c5
      refine e_aload_n dX5_markAlike_45 rfl ?_
      refine e_iload_n dX5_markAlike_46 rfl ?_
      refine e_iload_n dX5_markAlike_47 rfl ?_
      obtain ⟨r9, J7, h8, Vh8⟩ := Bc5
      refine e_callv (av := [.inl x1, .inl x2]) (st := []) dX5_markAlike_48 cO_5_66 oX5_looksAlike rfl (tr_pos ht) (tr_s0 hg ht) rfl (Nat.le_of_ble_eq_true rfl) (by decide) h8 (Nat.le_refl _) (Nat.le_refl _) rfl rfl ?_
      refine e_if_eq (tgt := 69) dX5_markAlike_51 (by decide) (fun c10 => ?_) (fun c10 => ?_)
      · have Ac10 := Vh8.1 c10
        obtain ⟨h11, Vh11⟩ := Ac10
        refine e_iinc dX5_markAlike_69 (by decide) rfl h11 (ls' := [some (.inr (some t)), some (.inl x1), some (.inl (x2 + 1))]) rfl ?_
        refine e_goto (tgt := 22) dX5_markAlike_72 (by decide) ?_
        exact Vh11
      · have Bc10 := Vh8.2 c10
        refine e_aload_n dX5_markAlike_54 rfl ?_
        refine e_getr dX5_markAlike_55 fO_5_42 (tr_pos ht) (tr_s0 hg ht) rfl (tr_p11 hg ht) ?_
        refine e_iload_n dX5_markAlike_58 rfl ?_
        refine e_aload_n dX5_markAlike_59 rfl ?_
        refine e_getr dX5_markAlike_60 fO_5_42 (tr_pos ht) (tr_s0 hg ht) rfl (tr_p11 hg ht) ?_
        refine e_iload_n dX5_markAlike_63 rfl ?_
        obtain ⟨h12, Vh12⟩ := Bc10
        refine e_iald dX5_markAlike_64 (Nat.succ_pos _) (tr_s11 hg ht) h12.1 h12.2 ?_
        obtain ⟨h14, Vh14⟩ := Vh12
        refine e_iast dX5_markAlike_65 (Nat.succ_pos _) (tr_s11 hg ht) h14.1 h14.2 ?_
        refine e_mem (fun I13 eI13 => ?_)
        have WI13 := Vh14 I13 eI13
        refine e_goto (tgt := 75) dX5_markAlike_66 (by decide) ?_
        obtain ⟨h15, Vh15⟩ := WI13
        refine e_iinc dX5_markAlike_75 (by decide) rfl h15 (ls' := [some (.inr (some t)), some (.inl (x1 + (-1))), some (.inl x2)]) rfl ?_
        refine e_goto (tgt := 7) dX5_markAlike_78 (by decide) ?_
        refine ev_drop (ls' := [some (.inr (some t)), some (.inl (x1 + (-1))), none]) 2 rfl ?_
        exact Vh15
set_option maxRecDepth 100000 in
set_option maxHeartbeats 4000000 in
theorem v_X5_looksAlike_0 {Γ : GX} {g : AG} {I J : Nat → Nat → Int} {r : Option AV} (hg : GOc g) (t : Nat) (ht : Tr t) (x1 : Int) (x2 : Int)
    (V : ((0 : Int) ≤ x1 ∧ (x1 : Int) < 120) ∧ (((0 : Int) ≤ x2 ∧ (x2 : Int) < 120) ∧ (((¬ ((I (t + 7) x1.toNat) = (I (t + 7) x2.toNat))) → (r = some (.inl 0) ∧ J = I)) ∧ ((((I (t + 7) x1.toNat) = (I (t + 7) x2.toNat))) → (∃ (r6 : Int) (J4 : Nat → Nat → Int), CT Γ 0 mX5_sameAtom [.inr (some t), .inl x1, .inr (some t), .inl x2] (g, I) (some (.inl r6), (g, J4)) ∧ (((¬ (r6 = 0)) → (inR (x1 + 1) ∧ (∀ y9 : Int, y9 = (x1 + 1) → (inR (x2 + 1) ∧ (∀ y11 : Int, y11 = (x2 + 1) → (Ev Γ 1 mX5_looksAlike 39 [some (.inr (some t)), some (.inl x1), none, some (.inl y9), some (.inl y11), some (.inl 0)] [] (g, J4) (r, (g, J)))))))) ∧ (((r6 = 0)) → (r = some (.inl 0) ∧ J = J4)))))))) : Ev Γ 1 mX5_looksAlike 0 [some (.inr (some t)), some (.inl x1), some (.inl x2), none, none, none] [] (g, I) (r, (g, J)) := by
  refine e_aload_n dX5_looksAlike_0 rfl ?_
  refine e_getr dX5_looksAlike_1 fO_5_30 (tr_pos ht) (tr_s0 hg ht) rfl (tr_p7 hg ht) ?_
  refine e_iload_n dX5_looksAlike_4 rfl ?_
  obtain ⟨h1, Vh1⟩ := V
  refine e_iald dX5_looksAlike_5 (Nat.succ_pos _) (tr_s7 hg ht) h1.1 h1.2 ?_
  refine e_aload_n dX5_looksAlike_6 rfl ?_
  refine e_getr dX5_looksAlike_7 fO_5_30 (tr_pos ht) (tr_s0 hg ht) rfl (tr_p7 hg ht) ?_
  refine e_iload_n dX5_looksAlike_10 rfl ?_
  obtain ⟨h2, Vh2⟩ := Vh1
  refine e_iald dX5_looksAlike_11 (Nat.succ_pos _) (tr_s7 hg ht) h2.1 h2.2 ?_
  refine e_ic_ne (tgt := 25) dX5_looksAlike_12 (by decide) (fun c3 => ?_) (fun c3 => ?_)
  · have Ac3 := Vh2.1 c3
    refine e_iconst dX5_looksAlike_25 ⟨by decide, by decide⟩ ?_
    exact e_zret dX5_looksAlike_26 rfl (by decide) (by rw [Ac3.1, Ac3.2])
  · have Bc3 := Vh2.2 c3
    refine e_aload_n dX5_looksAlike_15 rfl ?_
    refine e_iload_n dX5_looksAlike_16 rfl ?_
    refine e_aload_n dX5_looksAlike_17 rfl ?_
    refine e_iload_n dX5_looksAlike_18 rfl ?_
    obtain ⟨r6, J4, h5, Vh5⟩ := Bc3
    refine e_calls (av := [.inr (some t), .inl x1, .inr (some t), .inl x2]) (st := []) dX5_looksAlike_19 cO_5_70 oX5_sameAtom rfl rfl (Nat.le_of_ble_eq_true rfl) (by decide) h5 (Nat.le_refl _) (Nat.le_refl _) rfl rfl ?_
    refine e_if_ne (tgt := 27) dX5_looksAlike_22 (by decide) (fun c7 => ?_) (fun c7 => ?_)
    · have Ac7 := Vh5.1 c7
      refine e_iload_n dX5_looksAlike_27 rfl ?_
      refine e_iconst dX5_looksAlike_28 ⟨by decide, by decide⟩ ?_
      obtain ⟨h8, Vh8⟩ := Ac7
      refine e_iadd dX5_looksAlike_29 h8 ?_
      refine e_top (fun y9 ey9 => ?_)
      have Wy9 := Vh8 y9 ey9
      refine e_istore_n dX5_looksAlike_30 (by decide) (ls' := [some (.inr (some t)), some (.inl x1), some (.inl x2), some (.inl y9), none, none]) rfl ?_
      refine e_iload_n dX5_looksAlike_31 rfl ?_
      refine e_iconst dX5_looksAlike_32 ⟨by decide, by decide⟩ ?_
      obtain ⟨h10, Vh10⟩ := Wy9
      refine e_iadd dX5_looksAlike_33 h10 ?_
      refine e_top (fun y11 ey11 => ?_)
      have Wy11 := Vh10 y11 ey11
      refine e_istore dX5_looksAlike_34 (by decide) (ls' := [some (.inr (some t)), some (.inl x1), some (.inl x2), some (.inl y9), some (.inl y11), none]) rfl ?_
      refine e_iconst dX5_looksAlike_36 ⟨by decide, by decide⟩ ?_
      refine e_istore dX5_looksAlike_37 (by decide) (ls' := [some (.inr (some t)), some (.inl x1), some (.inl x2), some (.inl y9), some (.inl y11), some (.inl 0)]) rfl ?_
      refine ev_drop (ls' := [some (.inr (some t)), some (.inl x1), none, some (.inl y9), some (.inl y11), some (.inl 0)]) 2 rfl ?_
      exact Wy11
    · have Bc7 := Vh5.2 c7
      refine e_iconst dX5_looksAlike_25 ⟨by decide, by decide⟩ ?_
      exact e_zret dX5_looksAlike_26 rfl (by decide) (by rw [Bc7.1, Bc7.2])
set_option maxRecDepth 100000 in
set_option maxHeartbeats 4000000 in
theorem v_X5_looksAlike_39 {Γ : GX} {g : AG} {I J : Nat → Nat → Int} {r : Option AV} (hg : GOc g) (t : Nat) (ht : Tr t) (x1 : Int) (x3 : Int) (x4 : Int) (x5 : Int)
    (V : ((0 : Int) ≤ x1 ∧ (x1 : Int) < 120) ∧ (((((I (t + 7) x1.toNat) ≤ x5)) → (r = some (.inl 1) ∧ J = I)) ∧ ((¬ ((I (t + 7) x1.toNat) ≤ x5)) → (((((I t 2) ≤ x3)) → (r = some (.inl 0) ∧ J = I)) ∧ ((¬ ((I t 2) ≤ x3)) → (((((I t 2) ≤ x4)) → (r = some (.inl 0) ∧ J = I)) ∧ ((¬ ((I t 2) ≤ x4)) → (((0 : Int) ≤ x3 ∧ (x3 : Int) < 120) ∧ (((0 : Int) ≤ x4 ∧ (x4 : Int) < 120) ∧ (((((I (t + 11) x3.toNat) = (I (t + 11) x4.toNat))) → (∃ (r10 : Int) (J8 : Nat → Nat → Int), CT Γ 0 mX5_next [.inr (some t), .inl x3] (g, I) (some (.inl r10), (g, J8)) ∧ (∃ (r13 : Int) (J11 : Nat → Nat → Int), CT Γ 0 mX5_next [.inr (some t), .inl x4] (g, J8) (some (.inl r13), (g, J11)) ∧ (inR (x5 + 1) ∧ (Ev Γ 1 mX5_looksAlike 39 [some (.inr (some t)), some (.inl x1), none, some (.inl r10), some (.inl r13), some (.inl (x5 + 1))] [] (g, J11) (r, (g, J))))))) ∧ ((¬ ((I (t + 11) x3.toNat) = (I (t + 11) x4.toNat))) → (r = some (.inl 0) ∧ J = I)))))))))))) : Ev Γ 1 mX5_looksAlike 39 [some (.inr (some t)), some (.inl x1), none, some (.inl x3), some (.inl x4), some (.inl x5)] [] (g, I) (r, (g, J)) := by
  refine e_iload dX5_looksAlike_39 rfl ?_
  refine e_aload_n dX5_looksAlike_41 rfl ?_
  refine e_getr dX5_looksAlike_42 fO_5_30 (tr_pos ht) (tr_s0 hg ht) rfl (tr_p7 hg ht) ?_
  refine e_iload_n dX5_looksAlike_45 rfl ?_
  obtain ⟨h1, Vh1⟩ := V
  refine e_iald dX5_looksAlike_46 (Nat.succ_pos _) (tr_s7 hg ht) h1.1 h1.2 ?_
  refine e_ic_ge (tgt := 105) dX5_looksAlike_47 (by decide) (fun c2 => ?_) (fun c2 => ?_)
  · have Ac2 := Vh1.1 c2
    refine e_iconst dX5_looksAlike_105 ⟨by decide, by decide⟩ ?_
    exact e_zret dX5_looksAlike_106 rfl (by decide) (by rw [Ac2.1, Ac2.2])
  · have Bc2 := Vh1.2 c2
    refine e_iload_n dX5_looksAlike_50 rfl ?_
    refine e_aload_n dX5_looksAlike_51 rfl ?_
    refine e_geti dX5_looksAlike_52 fO_5_53 (tr_pos ht) (tr_s0 hg ht) rfl ?_
    refine e_ic_ge (tgt := 83) dX5_looksAlike_55 (by decide) (fun c3 => ?_) (fun c3 => ?_)
    · have Ac3 := Bc2.1 c3
      refine e_iconst dX5_looksAlike_83 ⟨by decide, by decide⟩ ?_
      exact e_zret dX5_looksAlike_84 rfl (by decide) (by rw [Ac3.1, Ac3.2])
    · have Bc3 := Bc2.2 c3
      refine e_iload dX5_looksAlike_58 rfl ?_
      refine e_aload_n dX5_looksAlike_60 rfl ?_
      refine e_geti dX5_looksAlike_61 fO_5_53 (tr_pos ht) (tr_s0 hg ht) rfl ?_
      refine e_ic_ge (tgt := 83) dX5_looksAlike_64 (by decide) (fun c4 => ?_) (fun c4 => ?_)
      · have Ac4 := Bc3.1 c4
        refine e_iconst dX5_looksAlike_83 ⟨by decide, by decide⟩ ?_
        exact e_zret dX5_looksAlike_84 rfl (by decide) (by rw [Ac4.1, Ac4.2])
      · have Bc4 := Bc3.2 c4
        refine e_aload_n dX5_looksAlike_67 rfl ?_
        refine e_getr dX5_looksAlike_68 fO_5_42 (tr_pos ht) (tr_s0 hg ht) rfl (tr_p11 hg ht) ?_
        refine e_iload_n dX5_looksAlike_71 rfl ?_
        obtain ⟨h5, Vh5⟩ := Bc4
        refine e_iald dX5_looksAlike_72 (Nat.succ_pos _) (tr_s11 hg ht) h5.1 h5.2 ?_
        refine e_aload_n dX5_looksAlike_73 rfl ?_
        refine e_getr dX5_looksAlike_74 fO_5_42 (tr_pos ht) (tr_s0 hg ht) rfl (tr_p11 hg ht) ?_
        refine e_iload dX5_looksAlike_77 rfl ?_
        obtain ⟨h6, Vh6⟩ := Vh5
        refine e_iald dX5_looksAlike_79 (Nat.succ_pos _) (tr_s11 hg ht) h6.1 h6.2 ?_
        refine e_ic_eq (tgt := 85) dX5_looksAlike_80 (by decide) (fun c7 => ?_) (fun c7 => ?_)
        · have Ac7 := Vh6.1 c7
          refine e_aload_n dX5_looksAlike_85 rfl ?_
          refine e_iload_n dX5_looksAlike_86 rfl ?_
          obtain ⟨r10, J8, h9, Vh9⟩ := Ac7
          refine e_callv (av := [.inl x3]) (st := []) dX5_looksAlike_87 cO_5_62 oX5_next rfl (tr_pos ht) (tr_s0 hg ht) rfl (Nat.le_of_ble_eq_true rfl) (by decide) h9 (Nat.le_refl _) (Nat.le_refl _) rfl rfl ?_
          refine e_istore_n dX5_looksAlike_90 (by decide) (ls' := [some (.inr (some t)), some (.inl x1), none, some (.inl r10), some (.inl x4), some (.inl x5)]) rfl ?_
          refine e_aload_n dX5_looksAlike_91 rfl ?_
          refine e_iload dX5_looksAlike_92 rfl ?_
          obtain ⟨r13, J11, h12, Vh12⟩ := Vh9
          refine e_callv (av := [.inl x4]) (st := []) dX5_looksAlike_94 cO_5_62 oX5_next rfl (tr_pos ht) (tr_s0 hg ht) rfl (Nat.le_of_ble_eq_true rfl) (by decide) h12 (Nat.le_refl _) (Nat.le_refl _) rfl rfl ?_
          refine e_istore dX5_looksAlike_97 (by decide) (ls' := [some (.inr (some t)), some (.inl x1), none, some (.inl r10), some (.inl r13), some (.inl x5)]) rfl ?_
          obtain ⟨h14, Vh14⟩ := Vh12
          refine e_iinc dX5_looksAlike_99 (by decide) rfl h14 (ls' := [some (.inr (some t)), some (.inl x1), none, some (.inl r10), some (.inl r13), some (.inl (x5 + 1))]) rfl ?_
          refine e_goto (tgt := 39) dX5_looksAlike_102 (by decide) ?_
          exact Vh14
        · have Bc7 := Vh6.2 c7
          refine e_iconst dX5_looksAlike_83 ⟨by decide, by decide⟩ ?_
          exact e_zret dX5_looksAlike_84 rfl (by decide) (by rw [Bc7.1, Bc7.2])
set_option maxRecDepth 100000 in
set_option maxHeartbeats 4000000 in
theorem v_X5_sameAtom_0 {Γ : GX} {g : AG} {I J : Nat → Nat → Int} {r : Option AV} (hg : GOc g) (u : Nat) (hu : Tr u) (x1 : Int) (w : Nat) (hw : Tr w) (x3 : Int)
    (V : ((0 : Int) ≤ x1 ∧ (x1 : Int) < 120) ∧ (∀ y2 : Int, y2 = (I (u + 3) x1.toNat) → (((0 : Int) ≤ x3 ∧ (x3 : Int) < 120) ∧ (∀ y4 : Int, y4 = (I (w + 3) x3.toNat) → (((0 : Int) ≤ x1 ∧ (x1 : Int) < 120) ∧ (inR ((I (u + 4) x1.toNat) - y2) ∧ (∀ y7 : Int, y7 = ((I (u + 4) x1.toNat) - y2) → (((0 : Int) ≤ x3 ∧ (x3 : Int) < 120) ∧ (inR ((I (w + 4) x3.toNat) - y4) ∧ ((((y7 = ((I (w + 4) x3.toNat) - y4))) → (Ev Γ 0 mX5_sameAtom 46 [some (.inr (some u)), none, some (.inr (some w)), none, some (.inl y2), some (.inl y4), some (.inl y7), some (.inl 0)] [] (g, I) (r, (g, J)))) ∧ ((¬ (y7 = ((I (w + 4) x3.toNat) - y4))) → (r = some (.inl 0) ∧ J = I)))))))))))) : Ev Γ 0 mX5_sameAtom 0 [some (.inr (some u)), some (.inl x1), some (.inr (some w)), some (.inl x3), none, none, none, none] [] (g, I) (r, (g, J)) := by
  refine e_aload_n dX5_sameAtom_0 rfl ?_
  refine e_getr dX5_sameAtom_1 fO_5_18 (tr_pos hu) (tr_s0 hg hu) rfl (tr_p3 hg hu) ?_
  refine e_iload_n dX5_sameAtom_4 rfl ?_
  obtain ⟨h1, Vh1⟩ := V
  refine e_iald dX5_sameAtom_5 (Nat.succ_pos _) (tr_s3 hg hu) h1.1 h1.2 ?_
  refine e_top (fun y2 ey2 => ?_)
  have Wy2 := Vh1 y2 ey2
  refine e_istore dX5_sameAtom_6 (by decide) (ls' := [some (.inr (some u)), some (.inl x1), some (.inr (some w)), some (.inl x3), some (.inl y2), none, none, none]) rfl ?_
  refine e_aload_n dX5_sameAtom_8 rfl ?_
  refine e_getr dX5_sameAtom_9 fO_5_18 (tr_pos hw) (tr_s0 hg hw) rfl (tr_p3 hg hw) ?_
  refine e_iload_n dX5_sameAtom_12 rfl ?_
  obtain ⟨h3, Vh3⟩ := Wy2
  refine e_iald dX5_sameAtom_13 (Nat.succ_pos _) (tr_s3 hg hw) h3.1 h3.2 ?_
  refine e_top (fun y4 ey4 => ?_)
  have Wy4 := Vh3 y4 ey4
  refine e_istore dX5_sameAtom_14 (by decide) (ls' := [some (.inr (some u)), some (.inl x1), some (.inr (some w)), some (.inl x3), some (.inl y2), some (.inl y4), none, none]) rfl ?_
  refine e_aload_n dX5_sameAtom_16 rfl ?_
  refine e_getr dX5_sameAtom_17 fO_5_21 (tr_pos hu) (tr_s0 hg hu) rfl (tr_p4 hg hu) ?_
  refine e_iload_n dX5_sameAtom_20 rfl ?_
  obtain ⟨h5, Vh5⟩ := Wy4
  refine e_iald dX5_sameAtom_21 (Nat.succ_pos _) (tr_s4 hg hu) h5.1 h5.2 ?_
  refine e_iload dX5_sameAtom_22 rfl ?_
  obtain ⟨h6, Vh6⟩ := Vh5
  refine e_isub dX5_sameAtom_24 h6 ?_
  refine e_top (fun y7 ey7 => ?_)
  have Wy7 := Vh6 y7 ey7
  refine e_istore dX5_sameAtom_25 (by decide) (ls' := [some (.inr (some u)), some (.inl x1), some (.inr (some w)), some (.inl x3), some (.inl y2), some (.inl y4), some (.inl y7), none]) rfl ?_
  refine e_iload dX5_sameAtom_27 rfl ?_
  refine e_aload_n dX5_sameAtom_29 rfl ?_
  refine e_getr dX5_sameAtom_30 fO_5_21 (tr_pos hw) (tr_s0 hg hw) rfl (tr_p4 hg hw) ?_
  refine e_iload_n dX5_sameAtom_33 rfl ?_
  obtain ⟨h8, Vh8⟩ := Wy7
  refine e_iald dX5_sameAtom_34 (Nat.succ_pos _) (tr_s4 hg hw) h8.1 h8.2 ?_
  refine e_iload dX5_sameAtom_35 rfl ?_
  obtain ⟨h9, Vh9⟩ := Vh8
  refine e_isub dX5_sameAtom_37 h9 ?_
  refine e_ic_eq (tgt := 43) dX5_sameAtom_38 (by decide) (fun c10 => ?_) (fun c10 => ?_)
  · have Ac10 := Vh9.1 c10
    refine e_iconst dX5_sameAtom_43 ⟨by decide, by decide⟩ ?_
    refine e_istore dX5_sameAtom_44 (by decide) (ls' := [some (.inr (some u)), some (.inl x1), some (.inr (some w)), some (.inl x3), some (.inl y2), some (.inl y4), some (.inl y7), some (.inl 0)]) rfl ?_
    refine ev_drop (ls' := [some (.inr (some u)), none, some (.inr (some w)), some (.inl x3), some (.inl y2), some (.inl y4), some (.inl y7), some (.inl 0)]) 1 rfl ?_
    refine ev_drop (ls' := [some (.inr (some u)), none, some (.inr (some w)), none, some (.inl y2), some (.inl y4), some (.inl y7), some (.inl 0)]) 3 rfl ?_
    exact Ac10
  · have Bc10 := Vh9.2 c10
    refine e_iconst dX5_sameAtom_41 ⟨by decide, by decide⟩ ?_
    exact e_zret dX5_sameAtom_42 rfl (by decide) (by rw [Bc10.1, Bc10.2])
set_option maxRecDepth 100000 in
set_option maxHeartbeats 4000000 in
theorem v_X5_sameAtom_46 {Γ : GX} {g : AG} {I J : Nat → Nat → Int} {r : Option AV} (hg : GOc g) (u : Nat) (hu : Tr u) (w : Nat) (hw : Tr w) (x4 : Int) (x5 : Int) (x6 : Int) (x7 : Int)
    (V : (((x6 ≤ x7)) → (r = some (.inl 1) ∧ J = I)) ∧ ((¬ (x6 ≤ x7)) → (inR (x4 + x7) ∧ (((0 : Int) ≤ (x4 + x7) ∧ ((x4 + x7) : Int) < 240) ∧ (inR (x5 + x7) ∧ (((0 : Int) ≤ (x5 + x7) ∧ ((x5 + x7) : Int) < 240) ∧ (((((I (u + 1) (x4 + x7).toNat) = (I (w + 1) (x5 + x7).toNat))) → (inR (x7 + 1) ∧ (Ev Γ 0 mX5_sameAtom 46 [some (.inr (some u)), none, some (.inr (some w)), none, some (.inl x4), some (.inl x5), some (.inl x6), some (.inl (x7 + 1))] [] (g, I) (r, (g, J))))) ∧ ((¬ ((I (u + 1) (x4 + x7).toNat) = (I (w + 1) (x5 + x7).toNat))) → (r = some (.inl 0) ∧ J = I))))))))) : Ev Γ 0 mX5_sameAtom 46 [some (.inr (some u)), none, some (.inr (some w)), none, some (.inl x4), some (.inl x5), some (.inl x6), some (.inl x7)] [] (g, I) (r, (g, J)) := by
  refine e_iload dX5_sameAtom_46 rfl ?_
  refine e_iload dX5_sameAtom_48 rfl ?_
  refine e_ic_ge (tgt := 84) dX5_sameAtom_50 (by decide) (fun c1 => ?_) (fun c1 => ?_)
  · have Ac1 := V.1 c1
    refine e_iconst dX5_sameAtom_84 ⟨by decide, by decide⟩ ?_
    exact e_zret dX5_sameAtom_85 rfl (by decide) (by rw [Ac1.1, Ac1.2])
  · have Bc1 := V.2 c1
    refine e_aload_n dX5_sameAtom_53 rfl ?_
    refine e_getr dX5_sameAtom_54 fO_5_9 (tr_pos hu) (tr_s0 hg hu) rfl (tr_p1 hg hu) ?_
    refine e_iload dX5_sameAtom_57 rfl ?_
    refine e_iload dX5_sameAtom_59 rfl ?_
    obtain ⟨h2, Vh2⟩ := Bc1
    refine e_iadd dX5_sameAtom_61 h2 ?_
    obtain ⟨h3, Vh3⟩ := Vh2
    refine e_iald dX5_sameAtom_62 (Nat.succ_pos _) (tr_s1 hg hu) h3.1 h3.2 ?_
    refine e_aload_n dX5_sameAtom_63 rfl ?_
    refine e_getr dX5_sameAtom_64 fO_5_9 (tr_pos hw) (tr_s0 hg hw) rfl (tr_p1 hg hw) ?_
    refine e_iload dX5_sameAtom_67 rfl ?_
    refine e_iload dX5_sameAtom_69 rfl ?_
    obtain ⟨h4, Vh4⟩ := Vh3
    refine e_iadd dX5_sameAtom_71 h4 ?_
    obtain ⟨h5, Vh5⟩ := Vh4
    refine e_iald dX5_sameAtom_72 (Nat.succ_pos _) (tr_s1 hg hw) h5.1 h5.2 ?_
    refine e_ic_eq (tgt := 78) dX5_sameAtom_73 (by decide) (fun c6 => ?_) (fun c6 => ?_)
    · have Ac6 := Vh5.1 c6
      obtain ⟨h7, Vh7⟩ := Ac6
      refine e_iinc dX5_sameAtom_78 (by decide) rfl h7 (ls' := [some (.inr (some u)), none, some (.inr (some w)), none, some (.inl x4), some (.inl x5), some (.inl x6), some (.inl (x7 + 1))]) rfl ?_
      refine e_goto (tgt := 46) dX5_sameAtom_81 (by decide) ?_
      exact Vh7
    · have Bc6 := Vh5.2 c6
      refine e_iconst dX5_sameAtom_76 ⟨by decide, by decide⟩ ?_
      exact e_zret dX5_sameAtom_77 rfl (by decide) (by rw [Bc6.1, Bc6.2])
