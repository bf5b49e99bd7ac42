/-! ===== the law, call by call (written by tools/gen91.py) ===== -/
section LOP
variable {Γ : GX} {g : AG} {I : IF} {nm : String} {x5 x6 : Option AV} {i n : Nat}
theorem l_feed (hg : GOk g) (hv : Inv I) (hL : gL Γ ≤ 3072) (hi : i + 6 ≤ gL Γ) (k : ∀ (g2 : AG) (I2 : IF), Nx g g2 → Inv I2 → ∃ R : AR, Ev Γ 1000 (qL nm) 750 (lsl i x5 x6) [] (g2, I2) R ∧ Rk g2 R n) : ∃ R : AR, Ev Γ 1000 (qL nm) 132 (lsl i x5 x6) [] (g, I) R ∧ Rk g R (n + 1) := by
  obtain ⟨r, J, J2, g2, h1, h2, hG, hI⟩ := q_feed (Γ := Γ) hg hv (sc Γ ((i : Int) + 1)) (sc Γ ((i : Int) + 2)) (sc Γ ((i : Int) + 3)) (sc Γ ((i : Int) + 4)) (sc Γ ((i : Int) + 5))
  obtain ⟨R, e, hk⟩ := k g2 J2 (Nx.gs hG) hI
  have hk0 := hk.nx (Nx.gs hG)
  have hk1 : g.2.2.2.1 ≤ R.2.1.2.2.2.1 ∧ g.2.2.2.2 ≤ R.2.1.2.2.2.2 := ⟨hk0.2.1.1, hk0.2.2.1⟩
  refine ⟨R, ?_, hk0⟩
  refine e_aload_n dL_law_132 rfl ?_
  refine e_aload_n dL_law_133 rfl ?_
  refine e_iload dL_law_134 rfl ?_
  refine e_iconst dL_law_136 ⟨by decide, by decide⟩ ?_
  refine e_iadd dL_law_137 (by unfold inR; omega) ?_
  refine e_sld dL_law_138 (by omega) (by omega) ?_
  refine e_aload_n dL_law_139 rfl ?_
  refine e_iload dL_law_140 rfl ?_
  refine e_iconst dL_law_142 ⟨by decide, by decide⟩ ?_
  refine e_iadd dL_law_143 (by unfold inR; omega) ?_
  refine e_sld dL_law_144 (by omega) (by omega) ?_
  refine e_aload_n dL_law_145 rfl ?_
  refine e_iload dL_law_146 rfl ?_
  refine e_iconst dL_law_148 ⟨by decide, by decide⟩ ?_
  refine e_iadd dL_law_149 (by unfold inR; omega) ?_
  refine e_sld dL_law_150 (by omega) (by omega) ?_
  refine e_aload_n dL_law_151 rfl ?_
  refine e_iload dL_law_152 rfl ?_
  refine e_iconst dL_law_154 ⟨by decide, by decide⟩ ?_
  refine e_iadd dL_law_155 (by unfold inR; omega) ?_
  refine e_sld dL_law_156 (by omega) (by omega) ?_
  refine e_aload_n dL_law_157 rfl ?_
  refine e_iload dL_law_158 rfl ?_
  refine e_iconst dL_law_160 ⟨by decide, by decide⟩ ?_
  refine e_iadd dL_law_161 (by unfold inR; omega) ?_
  refine e_sld dL_law_162 (by omega) (by omega) ?_
  refine e_callv (av := [.inl (sc Γ ((i : Int) + 1)), .inl (sc Γ ((i : Int) + 2)), .inl (sc Γ ((i : Int) + 3)), .inl (sc Γ ((i : Int) + 4)), .inl (sc Γ ((i : Int) + 5))]) (st := []) dL_law_163 cO_9_19 oX6_feed rfl (by decide) (gs_1 hg.c) rfl (Nat.le_of_ble_eq_true rfl) (by decide) h1 hk1.1 hk1.2 rfl rfl ?_
  refine e_aload_n dL_law_166 rfl ?_
  refine e_aload_n dL_law_167 rfl ?_
  refine e_iload dL_law_168 rfl ?_
  refine e_iconst dL_law_170 ⟨by decide, by decide⟩ ?_
  refine e_iadd dL_law_171 (by unfold inR; omega) ?_
  refine e_sld dL_law_172 (by omega) (by omega) ?_
  refine e_aload_n dL_law_173 rfl ?_
  refine e_iload dL_law_174 rfl ?_
  refine e_iconst dL_law_176 ⟨by decide, by decide⟩ ?_
  refine e_iadd dL_law_177 (by unfold inR; omega) ?_
  refine e_sld dL_law_178 (by omega) (by omega) ?_
  refine e_aload_n dL_law_179 rfl ?_
  refine e_iload dL_law_180 rfl ?_
  refine e_iconst dL_law_182 ⟨by decide, by decide⟩ ?_
  refine e_iadd dL_law_183 (by unfold inR; omega) ?_
  refine e_sld dL_law_184 (by omega) (by omega) ?_
  refine e_aload_n dL_law_185 rfl ?_
  refine e_iload dL_law_186 rfl ?_
  refine e_iconst dL_law_188 ⟨by decide, by decide⟩ ?_
  refine e_iadd dL_law_189 (by unfold inR; omega) ?_
  refine e_sld dL_law_190 (by omega) (by omega) ?_
  refine e_aload_n dL_law_191 rfl ?_
  refine e_iload dL_law_192 rfl ?_
  refine e_iconst dL_law_194 ⟨by decide, by decide⟩ ?_
  refine e_iadd dL_law_195 (by unfold inR; omega) ?_
  refine e_sld dL_law_196 (by omega) (by omega) ?_
  refine e_callv (av := [.inl (sc Γ ((i : Int) + 1)), .inl (sc Γ ((i : Int) + 2)), .inl (sc Γ ((i : Int) + 3)), .inl (sc Γ ((i : Int) + 4)), .inl (sc Γ ((i : Int) + 5))]) (st := [.inl r]) dL_law_197 cO_9_23 oX8_feed rfl (by decide) (gs_80 hg) rfl (Nat.le_of_ble_eq_true rfl) (by decide) h2 hk.2.1.1 hk.2.2.1 rfl rfl ?_
  exact e_ic_eq (tgt := 750) dL_law_200 (by decide) (fun _ => e) (fun c => absurd rfl c)
theorem l_end (hg : GOk g) (hv : Inv I) (hL : gL Γ ≤ 3072) (hi : i + 6 ≤ gL Γ) (k : ∀ (g2 : AG) (I2 : IF), Nx g g2 → Inv I2 → ∃ R : AR, Ev Γ 1000 (qL nm) 750 (lsl i x5 x6) [] (g2, I2) R ∧ Rk g2 R n) : ∃ R : AR, Ev Γ 1000 (qL nm) 205 (lsl i x5 x6) [] (g, I) R ∧ Rk g R (n + 1) := by
  obtain ⟨r, J, J2, g2, h1, h2, hG, hI⟩ := q_end (Γ := Γ) hg hv (sc Γ ((i : Int) + 1))
  obtain ⟨R, e, hk⟩ := k g2 J2 (Nx.gs hG) hI
  have hk0 := hk.nx (Nx.gs hG)
  have hk1 : g.2.2.2.1 ≤ R.2.1.2.2.2.1 ∧ g.2.2.2.2 ≤ R.2.1.2.2.2.2 := ⟨hk0.2.1.1, hk0.2.2.1⟩
  refine ⟨R, ?_, hk0⟩
  refine e_aload_n dL_law_205 rfl ?_
  refine e_aload_n dL_law_206 rfl ?_
  refine e_iload dL_law_207 rfl ?_
  refine e_iconst dL_law_209 ⟨by decide, by decide⟩ ?_
  refine e_iadd dL_law_210 (by unfold inR; omega) ?_
  refine e_sld dL_law_211 (by omega) (by omega) ?_
  refine e_callv (av := [.inl (sc Γ ((i : Int) + 1))]) (st := []) dL_law_212 cO_9_24 oX6_end rfl (by decide) (gs_1 hg.c) rfl (Nat.le_of_ble_eq_true rfl) (by decide) h1 hk1.1 hk1.2 rfl rfl ?_
  refine e_aload_n dL_law_215 rfl ?_
  refine e_aload_n dL_law_216 rfl ?_
  refine e_iload dL_law_217 rfl ?_
  refine e_iconst dL_law_219 ⟨by decide, by decide⟩ ?_
  refine e_iadd dL_law_220 (by unfold inR; omega) ?_
  refine e_sld dL_law_221 (by omega) (by omega) ?_
  refine e_callv (av := [.inl (sc Γ ((i : Int) + 1))]) (st := [.inl r]) dL_law_222 cO_9_28 oX8_end rfl (by decide) (gs_80 hg) rfl (Nat.le_of_ble_eq_true rfl) (by decide) h2 hk.2.1.1 hk.2.2.1 rfl rfl ?_
  exact e_ic_eq (tgt := 750) dL_law_225 (by decide) (fun _ => e) (fun c => absurd rfl c)
theorem l_fault (hg : GOk g) (hv : Inv I) (hL : gL Γ ≤ 3072) (hi : i + 6 ≤ gL Γ) (k : ∀ (g2 : AG) (I2 : IF), Nx g g2 → Inv I2 → ∃ R : AR, Ev Γ 1000 (qL nm) 750 (lsl i x5 x6) [] (g2, I2) R ∧ Rk g2 R n) : ∃ R : AR, Ev Γ 1000 (qL nm) 230 (lsl i x5 x6) [] (g, I) R ∧ Rk g R (n + 1) := by
  obtain ⟨r, J, J2, g2, h1, h2, hG, hI⟩ := q_fault (Γ := Γ) hg hv (sc Γ ((i : Int) + 1))
  obtain ⟨R, e, hk⟩ := k g2 J2 (Nx.gs hG) hI
  have hk0 := hk.nx (Nx.gs hG)
  have hk1 : g.2.2.2.1 ≤ R.2.1.2.2.2.1 ∧ g.2.2.2.2 ≤ R.2.1.2.2.2.2 := ⟨hk0.2.1.1, hk0.2.2.1⟩
  refine ⟨R, ?_, hk0⟩
  refine e_aload_n dL_law_230 rfl ?_
  refine e_aload_n dL_law_231 rfl ?_
  refine e_iload dL_law_232 rfl ?_
  refine e_iconst dL_law_234 ⟨by decide, by decide⟩ ?_
  refine e_iadd dL_law_235 (by unfold inR; omega) ?_
  refine e_sld dL_law_236 (by omega) (by omega) ?_
  refine e_callv (av := [.inl (sc Γ ((i : Int) + 1))]) (st := []) dL_law_237 cO_9_29 oX6_fault rfl (by decide) (gs_1 hg.c) rfl (Nat.le_of_ble_eq_true rfl) (by decide) h1 hk1.1 hk1.2 rfl rfl ?_
  refine e_aload_n dL_law_240 rfl ?_
  refine e_aload_n dL_law_241 rfl ?_
  refine e_iload dL_law_242 rfl ?_
  refine e_iconst dL_law_244 ⟨by decide, by decide⟩ ?_
  refine e_iadd dL_law_245 (by unfold inR; omega) ?_
  refine e_sld dL_law_246 (by omega) (by omega) ?_
  refine e_callv (av := [.inl (sc Γ ((i : Int) + 1))]) (st := [.inl r]) dL_law_247 cO_9_32 oX8_fault rfl (by decide) (gs_80 hg) rfl (Nat.le_of_ble_eq_true rfl) (by decide) h2 hk.2.1.1 hk.2.2.1 rfl rfl ?_
  exact e_ic_eq (tgt := 750) dL_law_250 (by decide) (fun _ => e) (fun c => absurd rfl c)
theorem l_take (hg : GOk g) (hv : Inv I) (hL : gL Γ ≤ 3072) (hi : i + 6 ≤ gL Γ) (k : ∀ (g2 : AG) (I2 : IF), Nx g g2 → Inv I2 → ∃ R : AR, Ev Γ 1000 (qL nm) 750 (lsl i x5 x6) [] (g2, I2) R ∧ Rk g2 R n) : ∃ R : AR, Ev Γ 1000 (qL nm) 255 (lsl i x5 x6) [] (g, I) R ∧ Rk g R (n + 1) := by
  obtain ⟨r, J, J2, g2, h1, h2, hG, hI⟩ := q_take (Γ := Γ) hg hv (sc Γ ((i : Int) + 1))
  obtain ⟨R, e, hk⟩ := k g2 J2 (Nx.gs hG) hI
  have hk0 := hk.nx (Nx.gs hG)
  have hk1 : g.2.2.2.1 ≤ R.2.1.2.2.2.1 ∧ g.2.2.2.2 ≤ R.2.1.2.2.2.2 := ⟨hk0.2.1.1, hk0.2.2.1⟩
  refine ⟨R, ?_, hk0⟩
  refine e_aload_n dL_law_255 rfl ?_
  refine e_aload_n dL_law_256 rfl ?_
  refine e_iload dL_law_257 rfl ?_
  refine e_iconst dL_law_259 ⟨by decide, by decide⟩ ?_
  refine e_iadd dL_law_260 (by unfold inR; omega) ?_
  refine e_sld dL_law_261 (by omega) (by omega) ?_
  refine e_callv (av := [.inl (sc Γ ((i : Int) + 1))]) (st := []) dL_law_262 cO_9_33 oX6_take rfl (by decide) (gs_1 hg.c) rfl (Nat.le_of_ble_eq_true rfl) (by decide) h1 hk1.1 hk1.2 rfl rfl ?_
  refine e_aload_n dL_law_265 rfl ?_
  refine e_aload_n dL_law_266 rfl ?_
  refine e_iload dL_law_267 rfl ?_
  refine e_iconst dL_law_269 ⟨by decide, by decide⟩ ?_
  refine e_iadd dL_law_270 (by unfold inR; omega) ?_
  refine e_sld dL_law_271 (by omega) (by omega) ?_
  refine e_callv (av := [.inl (sc Γ ((i : Int) + 1))]) (st := [.inl r]) dL_law_272 cO_9_36 oX8_take rfl (by decide) (gs_80 hg) rfl (Nat.le_of_ble_eq_true rfl) (by decide) h2 hk.2.1.1 hk.2.2.1 rfl rfl ?_
  exact e_ic_eq (tgt := 750) dL_law_275 (by decide) (fun _ => e) (fun c => absurd rfl c)
theorem l_nodes (hg : GOk g) (hv : Inv I) (hL : gL Γ ≤ 3072) (hi : i + 6 ≤ gL Γ) (k : ∀ (g2 : AG) (I2 : IF), Nx g g2 → Inv I2 → ∃ R : AR, Ev Γ 1000 (qL nm) 750 (lsl i x5 x6) [] (g2, I2) R ∧ Rk g2 R n) : ∃ R : AR, Ev Γ 1000 (qL nm) 345 (lsl i x5 x6) [] (g, I) R ∧ Rk g R (n + 1) := by
  obtain ⟨r, J, J2, g2, h1, h2, hG, hI⟩ := q_nodes (Γ := Γ) hg hv
  obtain ⟨R, e, hk⟩ := k g2 J2 (Nx.gs hG) hI
  have hk0 := hk.nx (Nx.gs hG)
  have hk1 : g.2.2.2.1 ≤ R.2.1.2.2.2.1 ∧ g.2.2.2.2 ≤ R.2.1.2.2.2.2 := ⟨hk0.2.1.1, hk0.2.2.1⟩
  refine ⟨R, ?_, hk0⟩
  refine e_aload_n dL_law_345 rfl ?_
  refine e_callv (av := []) (st := []) dL_law_346 cO_9_42 oX6_nodes rfl (by decide) (gs_1 hg.c) rfl (Nat.le_of_ble_eq_true rfl) (by decide) h1 hk1.1 hk1.2 rfl rfl ?_
  refine e_aload_n dL_law_349 rfl ?_
  refine e_callv (av := []) (st := [.inl r]) dL_law_350 cO_9_46 oX8_nodes rfl (by decide) (gs_80 hg) rfl (Nat.le_of_ble_eq_true rfl) (by decide) h2 hk.2.1.1 hk.2.2.1 rfl rfl ?_
  exact e_ic_eq (tgt := 750) dL_law_353 (by decide) (fun _ => e) (fun c => absurd rfl c)
theorem l_node (hg : GOk g) (hv : Inv I) (hL : gL Γ ≤ 3072) (hi : i + 6 ≤ gL Γ) (k : ∀ (g2 : AG) (I2 : IF), Nx g g2 → Inv I2 → ∃ R : AR, Ev Γ 1000 (qL nm) 750 (lsl i x5 x6) [] (g2, I2) R ∧ Rk g2 R n) : ∃ R : AR, Ev Γ 1000 (qL nm) 358 (lsl i x5 x6) [] (g, I) R ∧ Rk g R (n + 1) := by
  obtain ⟨r, J, J2, g2, h1, h2, hG, hI⟩ := q_node (Γ := Γ) hg hv (sc Γ ((i : Int) + 1)) (sc Γ ((i : Int) + 2))
  obtain ⟨R, e, hk⟩ := k g2 J2 (Nx.gs hG) hI
  have hk0 := hk.nx (Nx.gs hG)
  have hk1 : g.2.2.2.1 ≤ R.2.1.2.2.2.1 ∧ g.2.2.2.2 ≤ R.2.1.2.2.2.2 := ⟨hk0.2.1.1, hk0.2.2.1⟩
  refine ⟨R, ?_, hk0⟩
  refine e_aload_n dL_law_358 rfl ?_
  refine e_aload_n dL_law_359 rfl ?_
  refine e_iload dL_law_360 rfl ?_
  refine e_iconst dL_law_362 ⟨by decide, by decide⟩ ?_
  refine e_iadd dL_law_363 (by unfold inR; omega) ?_
  refine e_sld dL_law_364 (by omega) (by omega) ?_
  refine e_aload_n dL_law_365 rfl ?_
  refine e_iload dL_law_366 rfl ?_
  refine e_iconst dL_law_368 ⟨by decide, by decide⟩ ?_
  refine e_iadd dL_law_369 (by unfold inR; omega) ?_
  refine e_sld dL_law_370 (by omega) (by omega) ?_
  refine e_callv (av := [.inl (sc Γ ((i : Int) + 1)), .inl (sc Γ ((i : Int) + 2))]) (st := []) dL_law_371 cO_9_47 oX6_node rfl (by decide) (gs_1 hg.c) rfl (Nat.le_of_ble_eq_true rfl) (by decide) h1 hk1.1 hk1.2 rfl rfl ?_
  refine e_aload_n dL_law_374 rfl ?_
  refine e_aload_n dL_law_375 rfl ?_
  refine e_iload dL_law_376 rfl ?_
  refine e_iconst dL_law_378 ⟨by decide, by decide⟩ ?_
  refine e_iadd dL_law_379 (by unfold inR; omega) ?_
  refine e_sld dL_law_380 (by omega) (by omega) ?_
  refine e_aload_n dL_law_381 rfl ?_
  refine e_iload dL_law_382 rfl ?_
  refine e_iconst dL_law_384 ⟨by decide, by decide⟩ ?_
  refine e_iadd dL_law_385 (by unfold inR; omega) ?_
  refine e_sld dL_law_386 (by omega) (by omega) ?_
  refine e_callv (av := [.inl (sc Γ ((i : Int) + 1)), .inl (sc Γ ((i : Int) + 2))]) (st := [.inl r]) dL_law_387 cO_9_51 oX8_node rfl (by decide) (gs_80 hg) rfl (Nat.le_of_ble_eq_true rfl) (by decide) h2 hk.2.1.1 hk.2.2.1 rfl rfl ?_
  exact e_ic_eq (tgt := 750) dL_law_390 (by decide) (fun _ => e) (fun c => absurd rfl c)
theorem l_alike (hg : GOk g) (hv : Inv I) (hL : gL Γ ≤ 3072) (hi : i + 6 ≤ gL Γ) (k : ∀ (g2 : AG) (I2 : IF), Nx g g2 → Inv I2 → ∃ R : AR, Ev Γ 1000 (qL nm) 750 (lsl i x5 x6) [] (g2, I2) R ∧ Rk g2 R n) : ∃ R : AR, Ev Γ 1000 (qL nm) 395 (lsl i x5 x6) [] (g, I) R ∧ Rk g R (n + 1) := by
  obtain ⟨r, J, J2, g2, h1, h2, hG, hI⟩ := q_alike (Γ := Γ) hg hv (sc Γ ((i : Int) + 1)) (sc Γ ((i : Int) + 2))
  obtain ⟨R, e, hk⟩ := k g2 J2 (Nx.gs hG) hI
  have hk0 := hk.nx (Nx.gs hG)
  have hk1 : g.2.2.2.1 ≤ R.2.1.2.2.2.1 ∧ g.2.2.2.2 ≤ R.2.1.2.2.2.2 := ⟨hk0.2.1.1, hk0.2.2.1⟩
  refine ⟨R, ?_, hk0⟩
  refine e_aload_n dL_law_395 rfl ?_
  refine e_aload_n dL_law_396 rfl ?_
  refine e_iload dL_law_397 rfl ?_
  refine e_iconst dL_law_399 ⟨by decide, by decide⟩ ?_
  refine e_iadd dL_law_400 (by unfold inR; omega) ?_
  refine e_sld dL_law_401 (by omega) (by omega) ?_
  refine e_aload_n dL_law_402 rfl ?_
  refine e_iload dL_law_403 rfl ?_
  refine e_iconst dL_law_405 ⟨by decide, by decide⟩ ?_
  refine e_iadd dL_law_406 (by unfold inR; omega) ?_
  refine e_sld dL_law_407 (by omega) (by omega) ?_
  refine e_callv (av := [.inl (sc Γ ((i : Int) + 1)), .inl (sc Γ ((i : Int) + 2))]) (st := []) dL_law_408 cO_9_52 oX6_alike rfl (by decide) (gs_1 hg.c) rfl (Nat.le_of_ble_eq_true rfl) (by decide) h1 hk1.1 hk1.2 rfl rfl ?_
  refine e_aload_n dL_law_411 rfl ?_
  refine e_aload_n dL_law_412 rfl ?_
  refine e_iload dL_law_413 rfl ?_
  refine e_iconst dL_law_415 ⟨by decide, by decide⟩ ?_
  refine e_iadd dL_law_416 (by unfold inR; omega) ?_
  refine e_sld dL_law_417 (by omega) (by omega) ?_
  refine e_aload_n dL_law_418 rfl ?_
  refine e_iload dL_law_419 rfl ?_
  refine e_iconst dL_law_421 ⟨by decide, by decide⟩ ?_
  refine e_iadd dL_law_422 (by unfold inR; omega) ?_
  refine e_sld dL_law_423 (by omega) (by omega) ?_
  refine e_callv (av := [.inl (sc Γ ((i : Int) + 1)), .inl (sc Γ ((i : Int) + 2))]) (st := [.inl r]) dL_law_424 cO_9_56 oX8_alike rfl (by decide) (gs_80 hg) rfl (Nat.le_of_ble_eq_true rfl) (by decide) h2 hk.2.1.1 hk.2.2.1 rfl rfl ?_
  exact e_ic_eq (tgt := 750) dL_law_427 (by decide) (fun _ => e) (fun c => absurd rfl c)
theorem l_matches (hg : GOk g) (hv : Inv I) (hL : gL Γ ≤ 3072) (hi : i + 6 ≤ gL Γ) (k : ∀ (g2 : AG) (I2 : IF), Nx g g2 → Inv I2 → ∃ R : AR, Ev Γ 1000 (qL nm) 750 (lsl i x5 x6) [] (g2, I2) R ∧ Rk g2 R n) : ∃ R : AR, Ev Γ 1000 (qL nm) 432 (lsl i x5 x6) [] (g, I) R ∧ Rk g R (n + 1) := by
  obtain ⟨r, J, J2, g2, h1, h2, hG, hI⟩ := q_matches (Γ := Γ) hg hv
  obtain ⟨R, e, hk⟩ := k g2 J2 (Nx.gs hG) hI
  have hk0 := hk.nx (Nx.gs hG)
  have hk1 : g.2.2.2.1 ≤ R.2.1.2.2.2.1 ∧ g.2.2.2.2 ≤ R.2.1.2.2.2.2 := ⟨hk0.2.1.1, hk0.2.2.1⟩
  refine ⟨R, ?_, hk0⟩
  refine e_aload_n dL_law_432 rfl ?_
  refine e_callv (av := []) (st := []) dL_law_433 cO_9_57 oX6_matches rfl (by decide) (gs_1 hg.c) rfl (Nat.le_of_ble_eq_true rfl) (by decide) h1 hk1.1 hk1.2 rfl rfl ?_
  refine e_aload_n dL_law_436 rfl ?_
  refine e_callv (av := []) (st := [.inl r]) dL_law_437 cO_9_60 oX8_matches rfl (by decide) (gs_80 hg) rfl (Nat.le_of_ble_eq_true rfl) (by decide) h2 hk.2.1.1 hk.2.2.1 rfl rfl ?_
  exact e_ic_eq (tgt := 750) dL_law_440 (by decide) (fun _ => e) (fun c => absurd rfl c)
theorem l_match (hg : GOk g) (hv : Inv I) (hL : gL Γ ≤ 3072) (hi : i + 6 ≤ gL Γ) (k : ∀ (g2 : AG) (I2 : IF), Nx g g2 → Inv I2 → ∃ R : AR, Ev Γ 1000 (qL nm) 750 (lsl i x5 x6) [] (g2, I2) R ∧ Rk g2 R n) : ∃ R : AR, Ev Γ 1000 (qL nm) 445 (lsl i x5 x6) [] (g, I) R ∧ Rk g R (n + 1) := by
  obtain ⟨r, J, J2, g2, h1, h2, hG, hI⟩ := q_match (Γ := Γ) hg hv (sc Γ ((i : Int) + 1))
  obtain ⟨R, e, hk⟩ := k g2 J2 (Nx.gs hG) hI
  have hk0 := hk.nx (Nx.gs hG)
  have hk1 : g.2.2.2.1 ≤ R.2.1.2.2.2.1 ∧ g.2.2.2.2 ≤ R.2.1.2.2.2.2 := ⟨hk0.2.1.1, hk0.2.2.1⟩
  refine ⟨R, ?_, hk0⟩
  refine e_aload_n dL_law_445 rfl ?_
  refine e_aload_n dL_law_446 rfl ?_
  refine e_iload dL_law_447 rfl ?_
  refine e_iconst dL_law_449 ⟨by decide, by decide⟩ ?_
  refine e_iadd dL_law_450 (by unfold inR; omega) ?_
  refine e_sld dL_law_451 (by omega) (by omega) ?_
  refine e_callv (av := [.inl (sc Γ ((i : Int) + 1))]) (st := []) dL_law_452 cO_9_61 oX6_match rfl (by decide) (gs_1 hg.c) rfl (Nat.le_of_ble_eq_true rfl) (by decide) h1 hk1.1 hk1.2 rfl rfl ?_
  refine e_aload_n dL_law_455 rfl ?_
  refine e_aload_n dL_law_456 rfl ?_
  refine e_iload dL_law_457 rfl ?_
  refine e_iconst dL_law_459 ⟨by decide, by decide⟩ ?_
  refine e_iadd dL_law_460 (by unfold inR; omega) ?_
  refine e_sld dL_law_461 (by omega) (by omega) ?_
  refine e_callv (av := [.inl (sc Γ ((i : Int) + 1))]) (st := [.inl r]) dL_law_462 cO_9_64 oX8_match rfl (by decide) (gs_80 hg) rfl (Nat.le_of_ble_eq_true rfl) (by decide) h2 hk.2.1.1 hk.2.2.1 rfl rfl ?_
  exact e_ic_eq (tgt := 750) dL_law_465 (by decide) (fun _ => e) (fun c => absurd rfl c)
theorem l_hole (hg : GOk g) (hv : Inv I) (hL : gL Γ ≤ 3072) (hi : i + 6 ≤ gL Γ) (k : ∀ (g2 : AG) (I2 : IF), Nx g g2 → Inv I2 → ∃ R : AR, Ev Γ 1000 (qL nm) 750 (lsl i x5 x6) [] (g2, I2) R ∧ Rk g2 R n) : ∃ R : AR, Ev Γ 1000 (qL nm) 470 (lsl i x5 x6) [] (g, I) R ∧ Rk g R (n + 1) := by
  obtain ⟨r, J, J2, g2, h1, h2, hG, hI⟩ := q_hole (Γ := Γ) hg hv (sc Γ ((i : Int) + 1)) (sc Γ ((i : Int) + 2))
  obtain ⟨R, e, hk⟩ := k g2 J2 (Nx.gs hG) hI
  have hk0 := hk.nx (Nx.gs hG)
  have hk1 : g.2.2.2.1 ≤ R.2.1.2.2.2.1 ∧ g.2.2.2.2 ≤ R.2.1.2.2.2.2 := ⟨hk0.2.1.1, hk0.2.2.1⟩
  refine ⟨R, ?_, hk0⟩
  refine e_aload_n dL_law_470 rfl ?_
  refine e_aload_n dL_law_471 rfl ?_
  refine e_iload dL_law_472 rfl ?_
  refine e_iconst dL_law_474 ⟨by decide, by decide⟩ ?_
  refine e_iadd dL_law_475 (by unfold inR; omega) ?_
  refine e_sld dL_law_476 (by omega) (by omega) ?_
  refine e_aload_n dL_law_477 rfl ?_
  refine e_iload dL_law_478 rfl ?_
  refine e_iconst dL_law_480 ⟨by decide, by decide⟩ ?_
  refine e_iadd dL_law_481 (by unfold inR; omega) ?_
  refine e_sld dL_law_482 (by omega) (by omega) ?_
  refine e_callv (av := [.inl (sc Γ ((i : Int) + 1)), .inl (sc Γ ((i : Int) + 2))]) (st := []) dL_law_483 cO_9_65 oX6_hole rfl (by decide) (gs_1 hg.c) rfl (Nat.le_of_ble_eq_true rfl) (by decide) h1 hk1.1 hk1.2 rfl rfl ?_
  refine e_aload_n dL_law_486 rfl ?_
  refine e_aload_n dL_law_487 rfl ?_
  refine e_iload dL_law_488 rfl ?_
  refine e_iconst dL_law_490 ⟨by decide, by decide⟩ ?_
  refine e_iadd dL_law_491 (by unfold inR; omega) ?_
  refine e_sld dL_law_492 (by omega) (by omega) ?_
  refine e_aload_n dL_law_493 rfl ?_
  refine e_iload dL_law_494 rfl ?_
  refine e_iconst dL_law_496 ⟨by decide, by decide⟩ ?_
  refine e_iadd dL_law_497 (by unfold inR; omega) ?_
  refine e_sld dL_law_498 (by omega) (by omega) ?_
  refine e_callv (av := [.inl (sc Γ ((i : Int) + 1)), .inl (sc Γ ((i : Int) + 2))]) (st := [.inl r]) dL_law_499 cO_9_68 oX8_hole rfl (by decide) (gs_80 hg) rfl (Nat.le_of_ble_eq_true rfl) (by decide) h2 hk.2.1.1 hk.2.2.1 rfl rfl ?_
  exact e_ic_eq (tgt := 750) dL_law_502 (by decide) (fun _ => e) (fun c => absurd rfl c)
theorem l_row (hg : GOk g) (hv : Inv I) (hL : gL Γ ≤ 3072) (hi : i + 6 ≤ gL Γ) (k : ∀ (g2 : AG) (I2 : IF), Nx g g2 → Inv I2 → ∃ R : AR, Ev Γ 1000 (qL nm) 750 (lsl i x5 x6) [] (g2, I2) R ∧ Rk g2 R n) : ∃ R : AR, Ev Γ 1000 (qL nm) 507 (lsl i x5 x6) [] (g, I) R ∧ Rk g R (n + 1) := by
  obtain ⟨r, J, J2, g2, h1, h2, hG, hI⟩ := q_row (Γ := Γ) hg hv (sc Γ ((i : Int) + 1)) (sc Γ ((i : Int) + 2))
  obtain ⟨R, e, hk⟩ := k g2 J2 (Nx.gs hG) hI
  have hk0 := hk.nx (Nx.gs hG)
  have hk1 : g.2.2.2.1 ≤ R.2.1.2.2.2.1 ∧ g.2.2.2.2 ≤ R.2.1.2.2.2.2 := ⟨hk0.2.1.1, hk0.2.2.1⟩
  refine ⟨R, ?_, hk0⟩
  refine e_aload_n dL_law_507 rfl ?_
  refine e_aload_n dL_law_508 rfl ?_
  refine e_iload dL_law_509 rfl ?_
  refine e_iconst dL_law_511 ⟨by decide, by decide⟩ ?_
  refine e_iadd dL_law_512 (by unfold inR; omega) ?_
  refine e_sld dL_law_513 (by omega) (by omega) ?_
  refine e_aload_n dL_law_514 rfl ?_
  refine e_iload dL_law_515 rfl ?_
  refine e_iconst dL_law_517 ⟨by decide, by decide⟩ ?_
  refine e_iadd dL_law_518 (by unfold inR; omega) ?_
  refine e_sld dL_law_519 (by omega) (by omega) ?_
  refine e_callv (av := [.inl (sc Γ ((i : Int) + 1)), .inl (sc Γ ((i : Int) + 2))]) (st := []) dL_law_520 cO_9_69 oX6_row rfl (by decide) (gs_1 hg.c) rfl (Nat.le_of_ble_eq_true rfl) (by decide) h1 hk1.1 hk1.2 rfl rfl ?_
  refine e_aload_n dL_law_523 rfl ?_
  refine e_aload_n dL_law_524 rfl ?_
  refine e_iload dL_law_525 rfl ?_
  refine e_iconst dL_law_527 ⟨by decide, by decide⟩ ?_
  refine e_iadd dL_law_528 (by unfold inR; omega) ?_
  refine e_sld dL_law_529 (by omega) (by omega) ?_
  refine e_aload_n dL_law_530 rfl ?_
  refine e_iload dL_law_531 rfl ?_
  refine e_iconst dL_law_533 ⟨by decide, by decide⟩ ?_
  refine e_iadd dL_law_534 (by unfold inR; omega) ?_
  refine e_sld dL_law_535 (by omega) (by omega) ?_
  refine e_callv (av := [.inl (sc Γ ((i : Int) + 1)), .inl (sc Γ ((i : Int) + 2))]) (st := [.inl r]) dL_law_536 cO_9_72 oX8_row rfl (by decide) (gs_80 hg) rfl (Nat.le_of_ble_eq_true rfl) (by decide) h2 hk.2.1.1 hk.2.2.1 rfl rfl ?_
  exact e_ic_eq (tgt := 750) dL_law_539 (by decide) (fun _ => e) (fun c => absurd rfl c)
theorem l_taken (hg : GOk g) (hv : Inv I) (hL : gL Γ ≤ 3072) (hi : i + 6 ≤ gL Γ) (k : ∀ (g2 : AG) (I2 : IF), Nx g g2 → Inv I2 → ∃ R : AR, Ev Γ 1000 (qL nm) 750 (lsl i x5 x6) [] (g2, I2) R ∧ Rk g2 R n) : ∃ R : AR, Ev Γ 1000 (qL nm) 544 (lsl i x5 x6) [] (g, I) R ∧ Rk g R (n + 1) := by
  obtain ⟨r, J, J2, g2, h1, h2, hG, hI⟩ := q_taken (Γ := Γ) hg hv (sc Γ ((i : Int) + 1))
  obtain ⟨R, e, hk⟩ := k g2 J2 (Nx.gs hG) hI
  have hk0 := hk.nx (Nx.gs hG)
  have hk1 : g.2.2.2.1 ≤ R.2.1.2.2.2.1 ∧ g.2.2.2.2 ≤ R.2.1.2.2.2.2 := ⟨hk0.2.1.1, hk0.2.2.1⟩
  refine ⟨R, ?_, hk0⟩
  refine e_aload_n dL_law_544 rfl ?_
  refine e_aload_n dL_law_545 rfl ?_
  refine e_iload dL_law_546 rfl ?_
  refine e_iconst dL_law_548 ⟨by decide, by decide⟩ ?_
  refine e_iadd dL_law_549 (by unfold inR; omega) ?_
  refine e_sld dL_law_550 (by omega) (by omega) ?_
  refine e_callv (av := [.inl (sc Γ ((i : Int) + 1))]) (st := []) dL_law_551 cO_9_73 oX6_taken rfl (by decide) (gs_1 hg.c) rfl (Nat.le_of_ble_eq_true rfl) (by decide) h1 hk1.1 hk1.2 rfl rfl ?_
  refine e_aload_n dL_law_554 rfl ?_
  refine e_aload_n dL_law_555 rfl ?_
  refine e_iload dL_law_556 rfl ?_
  refine e_iconst dL_law_558 ⟨by decide, by decide⟩ ?_
  refine e_iadd dL_law_559 (by unfold inR; omega) ?_
  refine e_sld dL_law_560 (by omega) (by omega) ?_
  refine e_callv (av := [.inl (sc Γ ((i : Int) + 1))]) (st := [.inl r]) dL_law_561 cO_9_76 oX8_taken rfl (by decide) (gs_80 hg) rfl (Nat.le_of_ble_eq_true rfl) (by decide) h2 hk.2.1.1 hk.2.2.1 rfl rfl ?_
  exact e_ic_eq (tgt := 750) dL_law_564 (by decide) (fun _ => e) (fun c => absurd rfl c)
theorem l_takes (hg : GOk g) (hv : Inv I) (hL : gL Γ ≤ 3072) (hi : i + 6 ≤ gL Γ) (k : ∀ (g2 : AG) (I2 : IF), Nx g g2 → Inv I2 → ∃ R : AR, Ev Γ 1000 (qL nm) 750 (lsl i x5 x6) [] (g2, I2) R ∧ Rk g2 R n) : ∃ R : AR, Ev Γ 1000 (qL nm) 569 (lsl i x5 x6) [] (g, I) R ∧ Rk g R (n + 1) := by
  obtain ⟨r, J, J2, g2, h1, h2, hG, hI⟩ := q_takes (Γ := Γ) hg hv (sc Γ ((i : Int) + 1)) (sc Γ ((i : Int) + 2))
  obtain ⟨R, e, hk⟩ := k g2 J2 (Nx.gs hG) hI
  have hk0 := hk.nx (Nx.gs hG)
  have hk1 : g.2.2.2.1 ≤ R.2.1.2.2.2.1 ∧ g.2.2.2.2 ≤ R.2.1.2.2.2.2 := ⟨hk0.2.1.1, hk0.2.2.1⟩
  refine ⟨R, ?_, hk0⟩
  refine e_aload_n dL_law_569 rfl ?_
  refine e_aload_n dL_law_570 rfl ?_
  refine e_iload dL_law_571 rfl ?_
  refine e_iconst dL_law_573 ⟨by decide, by decide⟩ ?_
  refine e_iadd dL_law_574 (by unfold inR; omega) ?_
  refine e_sld dL_law_575 (by omega) (by omega) ?_
  refine e_aload_n dL_law_576 rfl ?_
  refine e_iload dL_law_577 rfl ?_
  refine e_iconst dL_law_579 ⟨by decide, by decide⟩ ?_
  refine e_iadd dL_law_580 (by unfold inR; omega) ?_
  refine e_sld dL_law_581 (by omega) (by omega) ?_
  refine e_callv (av := [.inl (sc Γ ((i : Int) + 1)), .inl (sc Γ ((i : Int) + 2))]) (st := []) dL_law_582 cO_9_77 oX6_takes rfl (by decide) (gs_1 hg.c) rfl (Nat.le_of_ble_eq_true rfl) (by decide) h1 hk1.1 hk1.2 rfl rfl ?_
  refine e_aload_n dL_law_585 rfl ?_
  refine e_aload_n dL_law_586 rfl ?_
  refine e_iload dL_law_587 rfl ?_
  refine e_iconst dL_law_589 ⟨by decide, by decide⟩ ?_
  refine e_iadd dL_law_590 (by unfold inR; omega) ?_
  refine e_sld dL_law_591 (by omega) (by omega) ?_
  refine e_aload_n dL_law_592 rfl ?_
  refine e_iload dL_law_593 rfl ?_
  refine e_iconst dL_law_595 ⟨by decide, by decide⟩ ?_
  refine e_iadd dL_law_596 (by unfold inR; omega) ?_
  refine e_sld dL_law_597 (by omega) (by omega) ?_
  refine e_callv (av := [.inl (sc Γ ((i : Int) + 1)), .inl (sc Γ ((i : Int) + 2))]) (st := [.inl r]) dL_law_598 cO_9_80 oX8_takes rfl (by decide) (gs_80 hg) rfl (Nat.le_of_ble_eq_true rfl) (by decide) h2 hk.2.1.1 hk.2.2.1 rfl rfl ?_
  exact e_ic_eq (tgt := 750) dL_law_601 (by decide) (fun _ => e) (fun c => absurd rfl c)
theorem l_put (hg : GOk g) (hv : Inv I) (hL : gL Γ ≤ 3072) (hi : i + 6 ≤ gL Γ) (k : ∀ (g2 : AG) (I2 : IF), Nx g g2 → Inv I2 → ∃ R : AR, Ev Γ 1000 (qL nm) 750 (lsl i x5 x6) [] (g2, I2) R ∧ Rk g2 R n) : ∃ R : AR, Ev Γ 1000 (qL nm) 606 (lsl i x5 x6) [] (g, I) R ∧ Rk g R (n + 1) := by
  obtain ⟨r, J, J2, g2, h1, h2, hG, hI⟩ := q_put (Γ := Γ) hg hv (sc Γ ((i : Int) + 1))
  obtain ⟨R, e, hk⟩ := k g2 J2 (Nx.gs hG) hI
  have hk0 := hk.nx (Nx.gs hG)
  have hk1 : g.2.2.2.1 ≤ R.2.1.2.2.2.1 ∧ g.2.2.2.2 ≤ R.2.1.2.2.2.2 := ⟨hk0.2.1.1, hk0.2.2.1⟩
  refine ⟨R, ?_, hk0⟩
  refine e_aload_n dL_law_606 rfl ?_
  refine e_aload_n dL_law_607 rfl ?_
  refine e_iload dL_law_608 rfl ?_
  refine e_iconst dL_law_610 ⟨by decide, by decide⟩ ?_
  refine e_iadd dL_law_611 (by unfold inR; omega) ?_
  refine e_sld dL_law_612 (by omega) (by omega) ?_
  refine e_callv (av := [.inl (sc Γ ((i : Int) + 1))]) (st := []) dL_law_613 cO_9_81 oX6_put rfl (by decide) (gs_1 hg.c) rfl (Nat.le_of_ble_eq_true rfl) (by decide) h1 hk1.1 hk1.2 rfl rfl ?_
  refine e_aload_n dL_law_616 rfl ?_
  refine e_aload_n dL_law_617 rfl ?_
  refine e_iload dL_law_618 rfl ?_
  refine e_iconst dL_law_620 ⟨by decide, by decide⟩ ?_
  refine e_iadd dL_law_621 (by unfold inR; omega) ?_
  refine e_sld dL_law_622 (by omega) (by omega) ?_
  refine e_callv (av := [.inl (sc Γ ((i : Int) + 1))]) (st := [.inl r]) dL_law_623 cO_9_84 oX8_put rfl (by decide) (gs_80 hg) rfl (Nat.le_of_ble_eq_true rfl) (by decide) h2 hk.2.1.1 hk.2.2.1 rfl rfl ?_
  exact e_ic_eq (tgt := 750) dL_law_626 (by decide) (fun _ => e) (fun c => absurd rfl c)
theorem l_putAll (hg : GOk g) (hv : Inv I) (hL : gL Γ ≤ 3072) (hi : i + 6 ≤ gL Γ) (k : ∀ (g2 : AG) (I2 : IF), Nx g g2 → Inv I2 → ∃ R : AR, Ev Γ 1000 (qL nm) 750 (lsl i x5 x6) [] (g2, I2) R ∧ Rk g2 R n) : ∃ R : AR, Ev Γ 1000 (qL nm) 631 (lsl i x5 x6) [] (g, I) R ∧ Rk g R (n + 1) := by
  obtain ⟨r, J, J2, g2, h1, h2, hG, hI⟩ := q_putAll (Γ := Γ) hg hv (sc Γ ((i : Int) + 1))
  obtain ⟨R, e, hk⟩ := k g2 J2 (Nx.gs hG) hI
  have hk0 := hk.nx (Nx.gs hG)
  have hk1 : g.2.2.2.1 ≤ R.2.1.2.2.2.1 ∧ g.2.2.2.2 ≤ R.2.1.2.2.2.2 := ⟨hk0.2.1.1, hk0.2.2.1⟩
  refine ⟨R, ?_, hk0⟩
  refine e_aload_n dL_law_631 rfl ?_
  refine e_aload_n dL_law_632 rfl ?_
  refine e_iload dL_law_633 rfl ?_
  refine e_iconst dL_law_635 ⟨by decide, by decide⟩ ?_
  refine e_iadd dL_law_636 (by unfold inR; omega) ?_
  refine e_sld dL_law_637 (by omega) (by omega) ?_
  refine e_callv (av := [.inl (sc Γ ((i : Int) + 1))]) (st := []) dL_law_638 cO_9_85 oX6_putAll rfl (by decide) (gs_1 hg.c) rfl (Nat.le_of_ble_eq_true rfl) (by decide) h1 hk1.1 hk1.2 rfl rfl ?_
  refine e_aload_n dL_law_641 rfl ?_
  refine e_aload_n dL_law_642 rfl ?_
  refine e_iload dL_law_643 rfl ?_
  refine e_iconst dL_law_645 ⟨by decide, by decide⟩ ?_
  refine e_iadd dL_law_646 (by unfold inR; omega) ?_
  refine e_sld dL_law_647 (by omega) (by omega) ?_
  refine e_callv (av := [.inl (sc Γ ((i : Int) + 1))]) (st := [.inl r]) dL_law_648 cO_9_88 oX8_putAll rfl (by decide) (gs_80 hg) rfl (Nat.le_of_ble_eq_true rfl) (by decide) h2 hk.2.1.1 hk.2.2.1 rfl rfl ?_
  exact e_ic_eq (tgt := 750) dL_law_651 (by decide) (fun _ => e) (fun c => absurd rfl c)
theorem l_back (hg : GOk g) (hv : Inv I) (hL : gL Γ ≤ 3072) (hi : i + 6 ≤ gL Γ) (k : ∀ (g2 : AG) (I2 : IF), Nx g g2 → Inv I2 → ∃ R : AR, Ev Γ 1000 (qL nm) 750 (lsl i x5 x6) [] (g2, I2) R ∧ Rk g2 R n) : ∃ R : AR, Ev Γ 1000 (qL nm) 656 (lsl i x5 x6) [] (g, I) R ∧ Rk g R (n + 1) := by
  obtain ⟨r, J, J2, g2, h1, h2, hG, hI⟩ := q_back (Γ := Γ) hg hv
  obtain ⟨R, e, hk⟩ := k g2 J2 (Nx.gs hG) hI
  have hk0 := hk.nx (Nx.gs hG)
  have hk1 : g.2.2.2.1 ≤ R.2.1.2.2.2.1 ∧ g.2.2.2.2 ≤ R.2.1.2.2.2.2 := ⟨hk0.2.1.1, hk0.2.2.1⟩
  refine ⟨R, ?_, hk0⟩
  refine e_aload_n dL_law_656 rfl ?_
  refine e_callv (av := []) (st := []) dL_law_657 cO_9_89 oX6_back rfl (by decide) (gs_1 hg.c) rfl (Nat.le_of_ble_eq_true rfl) (by decide) h1 hk1.1 hk1.2 rfl rfl ?_
  refine e_aload_n dL_law_660 rfl ?_
  refine e_callv (av := []) (st := [.inl r]) dL_law_661 cO_9_93 oX8_back rfl (by decide) (gs_80 hg) rfl (Nat.le_of_ble_eq_true rfl) (by decide) h2 hk.2.1.1 hk.2.2.1 rfl rfl ?_
  exact e_ic_eq (tgt := 750) dL_law_664 (by decide) (fun _ => e) (fun c => absurd rfl c)
theorem l_count (hg : GOk g) (hv : Inv I) (hL : gL Γ ≤ 3072) (hi : i + 6 ≤ gL Γ) (k : ∀ (g2 : AG) (I2 : IF), Nx g g2 → Inv I2 → ∃ R : AR, Ev Γ 1000 (qL nm) 750 (lsl i x5 x6) [] (g2, I2) R ∧ Rk g2 R n) : ∃ R : AR, Ev Γ 1000 (qL nm) 725 (lsl i x5 x6) [] (g, I) R ∧ Rk g R (n + 1) := by
  obtain ⟨r, J, J2, g2, h1, h2, hG, hI⟩ := q_count (Γ := Γ) hg hv (sc Γ ((i : Int) + 1))
  obtain ⟨R, e, hk⟩ := k g2 J2 (Nx.gs hG) hI
  have hk0 := hk.nx (Nx.gs hG)
  have hk1 : g.2.2.2.1 ≤ R.2.1.2.2.2.1 ∧ g.2.2.2.2 ≤ R.2.1.2.2.2.2 := ⟨hk0.2.1.1, hk0.2.2.1⟩
  refine ⟨R, ?_, hk0⟩
  refine e_aload_n dL_law_725 rfl ?_
  refine e_aload_n dL_law_726 rfl ?_
  refine e_iload dL_law_727 rfl ?_
  refine e_iconst dL_law_729 ⟨by decide, by decide⟩ ?_
  refine e_iadd dL_law_730 (by unfold inR; omega) ?_
  refine e_sld dL_law_731 (by omega) (by omega) ?_
  refine e_callv (av := [.inl (sc Γ ((i : Int) + 1))]) (st := []) dL_law_732 cO_9_103 oX6_count rfl (by decide) (gs_1 hg.c) rfl (Nat.le_of_ble_eq_true rfl) (by decide) h1 hk1.1 hk1.2 rfl rfl ?_
  refine e_aload_n dL_law_735 rfl ?_
  refine e_aload_n dL_law_736 rfl ?_
  refine e_iload dL_law_737 rfl ?_
  refine e_iconst dL_law_739 ⟨by decide, by decide⟩ ?_
  refine e_iadd dL_law_740 (by unfold inR; omega) ?_
  refine e_sld dL_law_741 (by omega) (by omega) ?_
  refine e_callv (av := [.inl (sc Γ ((i : Int) + 1))]) (st := [.inl r]) dL_law_742 cO_9_106 oX8_count rfl (by decide) (gs_80 hg) rfl (Nat.le_of_ble_eq_true rfl) (by decide) h2 hk.2.1.1 hk.2.2.1 rfl rfl ?_
  exact e_ic_eq (tgt := 750) dL_law_745 (by decide) (fun _ => e) (fun c => absurd rfl c)
theorem l_differ (hg : GOk g) (hv : Inv I) (hL : gL Γ ≤ 3072) (hi : i + 6 ≤ gL Γ) (k : ∀ (g2 : AG) (I2 : IF), Nx g g2 → Inv I2 → ∃ R : AR, Ev Γ 1000 (qL nm) 750 (lsl i x5 x6) [] (g2, I2) R ∧ Rk g2 R n) : ∃ R : AR, Ev Γ 1000 (qL nm) 280 (lsl i x5 x6) [] (g, I) R ∧ Rk g R (n + 1) := by
  by_cases hz : sc Γ ((i : Int) + 3) = 0
  · obtain ⟨r, J, J2, g2, h1, h2, hG, hI⟩ := q_differ (Γ := Γ) hg hv (sc Γ ((i : Int) + 1)) (sc Γ ((i : Int) + 2)) 0 (by decide)
    obtain ⟨R, e, hk⟩ := k g2 J2 (Nx.gs hG) hI
    have hk0 := hk.nx (Nx.gs hG)
    have hk1 : g.2.2.2.1 ≤ R.2.1.2.2.2.1 ∧ g.2.2.2.2 ≤ R.2.1.2.2.2.2 := ⟨hk0.2.1.1, hk0.2.2.1⟩
    refine ⟨R, ?_, hk0⟩
    refine e_aload_n dL_law_280 rfl ?_
    refine e_aload_n dL_law_281 rfl ?_
    refine e_iload dL_law_282 rfl ?_
    refine e_iconst dL_law_284 ⟨by decide, by decide⟩ ?_
    refine e_iadd dL_law_285 (by unfold inR; omega) ?_
    refine e_sld dL_law_286 (by omega) (by omega) ?_
    refine e_aload_n dL_law_287 rfl ?_
    refine e_iload dL_law_288 rfl ?_
    refine e_iconst dL_law_290 ⟨by decide, by decide⟩ ?_
    refine e_iadd dL_law_291 (by unfold inR; omega) ?_
    refine e_sld dL_law_292 (by omega) (by omega) ?_
    refine e_aload_n dL_law_293 rfl ?_
    refine e_iload dL_law_294 rfl ?_
    refine e_iconst dL_law_296 ⟨by decide, by decide⟩ ?_
    refine e_iadd dL_law_297 (by unfold inR; omega) ?_
    refine e_sld dL_law_298 (by omega) (by omega) ?_
    refine e_if_eq (tgt := 306) dL_law_299 (by decide) (fun _ => ?_) (fun c => absurd hz c)
    refine e_iconst dL_law_306 ⟨by decide, by decide⟩ ?_
    refine e_callv (av := [.inl (sc Γ ((i : Int) + 1)), .inl (sc Γ ((i : Int) + 2)), .inl 0]) (st := []) dL_law_307 cO_9_37 oX6_differ rfl (by decide) (gs_1 hg.c) rfl (Nat.le_of_ble_eq_true rfl) (by decide) h1 hk1.1 hk1.2 rfl rfl ?_
    refine e_aload_n dL_law_310 rfl ?_
    refine e_aload_n dL_law_311 rfl ?_
    refine e_iload dL_law_312 rfl ?_
    refine e_iconst dL_law_314 ⟨by decide, by decide⟩ ?_
    refine e_iadd dL_law_315 (by unfold inR; omega) ?_
    refine e_sld dL_law_316 (by omega) (by omega) ?_
    refine e_aload_n dL_law_317 rfl ?_
    refine e_iload dL_law_318 rfl ?_
    refine e_iconst dL_law_320 ⟨by decide, by decide⟩ ?_
    refine e_iadd dL_law_321 (by unfold inR; omega) ?_
    refine e_sld dL_law_322 (by omega) (by omega) ?_
    refine e_aload_n dL_law_323 rfl ?_
    refine e_iload dL_law_324 rfl ?_
    refine e_iconst dL_law_326 ⟨by decide, by decide⟩ ?_
    refine e_iadd dL_law_327 (by unfold inR; omega) ?_
    refine e_sld dL_law_328 (by omega) (by omega) ?_
    refine e_if_eq (tgt := 336) dL_law_329 (by decide) (fun _ => ?_) (fun c => absurd hz c)
    refine e_iconst dL_law_336 ⟨by decide, by decide⟩ ?_
    refine e_callv (av := [.inl (sc Γ ((i : Int) + 1)), .inl (sc Γ ((i : Int) + 2)), .inl 0]) (st := [.inl r]) dL_law_337 cO_9_41 oX8_differ rfl (by decide) (gs_80 hg) rfl (Nat.le_of_ble_eq_true rfl) (by decide) h2 hk.2.1.1 hk.2.2.1 rfl rfl ?_
    exact e_ic_eq (tgt := 750) dL_law_340 (by decide) (fun _ => e) (fun c => absurd rfl c)
  · obtain ⟨r, J, J2, g2, h1, h2, hG, hI⟩ := q_differ (Γ := Γ) hg hv (sc Γ ((i : Int) + 1)) (sc Γ ((i : Int) + 2)) 1 (by decide)
    obtain ⟨R, e, hk⟩ := k g2 J2 (Nx.gs hG) hI
    have hk0 := hk.nx (Nx.gs hG)
    have hk1 : g.2.2.2.1 ≤ R.2.1.2.2.2.1 ∧ g.2.2.2.2 ≤ R.2.1.2.2.2.2 := ⟨hk0.2.1.1, hk0.2.2.1⟩
    refine ⟨R, ?_, hk0⟩
    refine e_aload_n dL_law_280 rfl ?_
    refine e_aload_n dL_law_281 rfl ?_
    refine e_iload dL_law_282 rfl ?_
    refine e_iconst dL_law_284 ⟨by decide, by decide⟩ ?_
    refine e_iadd dL_law_285 (by unfold inR; omega) ?_
    refine e_sld dL_law_286 (by omega) (by omega) ?_
    refine e_aload_n dL_law_287 rfl ?_
    refine e_iload dL_law_288 rfl ?_
    refine e_iconst dL_law_290 ⟨by decide, by decide⟩ ?_
    refine e_iadd dL_law_291 (by unfold inR; omega) ?_
    refine e_sld dL_law_292 (by omega) (by omega) ?_
    refine e_aload_n dL_law_293 rfl ?_
    refine e_iload dL_law_294 rfl ?_
    refine e_iconst dL_law_296 ⟨by decide, by decide⟩ ?_
    refine e_iadd dL_law_297 (by unfold inR; omega) ?_
    refine e_sld dL_law_298 (by omega) (by omega) ?_
    refine e_if_eq (tgt := 306) dL_law_299 (by decide) (fun c => absurd c hz) (fun _ => ?_)
    refine e_iconst dL_law_302 ⟨by decide, by decide⟩ ?_
    refine e_goto (tgt := 307) dL_law_303 (by decide) ?_
    refine e_callv (av := [.inl (sc Γ ((i : Int) + 1)), .inl (sc Γ ((i : Int) + 2)), .inl 1]) (st := []) dL_law_307 cO_9_37 oX6_differ rfl (by decide) (gs_1 hg.c) rfl (Nat.le_of_ble_eq_true rfl) (by decide) h1 hk1.1 hk1.2 rfl rfl ?_
    refine e_aload_n dL_law_310 rfl ?_
    refine e_aload_n dL_law_311 rfl ?_
    refine e_iload dL_law_312 rfl ?_
    refine e_iconst dL_law_314 ⟨by decide, by decide⟩ ?_
    refine e_iadd dL_law_315 (by unfold inR; omega) ?_
    refine e_sld dL_law_316 (by omega) (by omega) ?_
    refine e_aload_n dL_law_317 rfl ?_
    refine e_iload dL_law_318 rfl ?_
    refine e_iconst dL_law_320 ⟨by decide, by decide⟩ ?_
    refine e_iadd dL_law_321 (by unfold inR; omega) ?_
    refine e_sld dL_law_322 (by omega) (by omega) ?_
    refine e_aload_n dL_law_323 rfl ?_
    refine e_iload dL_law_324 rfl ?_
    refine e_iconst dL_law_326 ⟨by decide, by decide⟩ ?_
    refine e_iadd dL_law_327 (by unfold inR; omega) ?_
    refine e_sld dL_law_328 (by omega) (by omega) ?_
    refine e_if_eq (tgt := 336) dL_law_329 (by decide) (fun c => absurd c hz) (fun _ => ?_)
    refine e_iconst dL_law_332 ⟨by decide, by decide⟩ ?_
    refine e_goto (tgt := 337) dL_law_333 (by decide) ?_
    refine e_callv (av := [.inl (sc Γ ((i : Int) + 1)), .inl (sc Γ ((i : Int) + 2)), .inl 1]) (st := [.inl r]) dL_law_337 cO_9_41 oX8_differ rfl (by decide) (gs_80 hg) rfl (Nat.le_of_ble_eq_true rfl) (by decide) h2 hk.2.1.1 hk.2.2.1 rfl rfl ?_
    exact e_ic_eq (tgt := 750) dL_law_340 (by decide) (fun _ => e) (fun c => absurd rfl c)
end LOP
