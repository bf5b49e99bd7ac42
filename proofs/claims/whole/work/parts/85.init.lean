/-! ===== constructors (this part is written by tools/geninit.py) ===== -/
set_option maxRecDepth 100000 in
theorem ini_ws : ([Cond.methodLink (cN 0) 3 Lib.objectInit, Cond.methodLink (cN 1) 3 Lib.objectInit, Cond.methodLink (cN 2) 3 Lib.objectInit, Cond.methodLink (cN 3) 3 Lib.objectInit, Cond.methodLink (cN 4) 3 Lib.objectInit, Cond.methodLink (cN 5) 3 Lib.objectInit, Cond.methodLink (cN 6) 3 Lib.objectInit, Cond.methodLink (cN 7) 3 Lib.objectInit, Cond.methodLink (cN 8) 1 Lib.objectInit, Cond.instanceMethod Lib.objectInit, Cond.code Lib.objectInit ⟨#[0xb1]⟩ 1 none, Cond.arrayClass .int, Cond.arrayClass .byte, Cond.arrayClass .boolean, Cond.arrayClass .long, Cond.classLink (cN 2) 11 "[[I"] : List Cond).all (fun w => decide (w ∈ lw_tbl) && goodWord w) = true := by decide +kernel
theorem ob_0 : Cond.methodLink (cN 0) 3 Lib.objectInit ∈ lw_g := mem_l ini_ws _ (List.mem_of_getElem? (i := 0) rfl)
theorem ob_1 : Cond.methodLink (cN 1) 3 Lib.objectInit ∈ lw_g := mem_l ini_ws _ (List.mem_of_getElem? (i := 1) rfl)
theorem ob_2 : Cond.methodLink (cN 2) 3 Lib.objectInit ∈ lw_g := mem_l ini_ws _ (List.mem_of_getElem? (i := 2) rfl)
theorem ob_3 : Cond.methodLink (cN 3) 3 Lib.objectInit ∈ lw_g := mem_l ini_ws _ (List.mem_of_getElem? (i := 3) rfl)
theorem ob_4 : Cond.methodLink (cN 4) 3 Lib.objectInit ∈ lw_g := mem_l ini_ws _ (List.mem_of_getElem? (i := 4) rfl)
theorem ob_5 : Cond.methodLink (cN 5) 3 Lib.objectInit ∈ lw_g := mem_l ini_ws _ (List.mem_of_getElem? (i := 5) rfl)
theorem ob_6 : Cond.methodLink (cN 6) 3 Lib.objectInit ∈ lw_g := mem_l ini_ws _ (List.mem_of_getElem? (i := 6) rfl)
theorem ob_7 : Cond.methodLink (cN 7) 3 Lib.objectInit ∈ lw_g := mem_l ini_ws _ (List.mem_of_getElem? (i := 7) rfl)
theorem ob_8 : Cond.methodLink (cN 8) 1 Lib.objectInit ∈ lw_g := mem_l ini_ws _ (List.mem_of_getElem? (i := 8) rfl)
theorem ob_i : Cond.instanceMethod Lib.objectInit ∈ lw_g := mem_l ini_ws _ (List.mem_of_getElem? (i := 9) rfl)
theorem ob_c : Cond.code Lib.objectInit ⟨#[0xb1]⟩ 1 none ∈ lw_g := mem_l ini_ws _ (List.mem_of_getElem? (i := 10) rfl)
theorem ac_int : Cond.arrayClass .int ∈ lw_g := mem_l ini_ws _ (List.mem_of_getElem? (i := 11) rfl)
theorem ac_byte : Cond.arrayClass .byte ∈ lw_g := mem_l ini_ws _ (List.mem_of_getElem? (i := 12) rfl)
theorem ac_boolean : Cond.arrayClass .boolean ∈ lw_g := mem_l ini_ws _ (List.mem_of_getElem? (i := 13) rfl)
theorem ac_long : Cond.arrayClass .long ∈ lw_g := mem_l ini_ws _ (List.mem_of_getElem? (i := 14) rfl)
theorem mm_l : Cond.classLink (cN 2) 11 "[[I" ∈ lw_g := mem_l ini_ws _ (List.mem_of_getElem? (i := 15) rfl)
set_option maxRecDepth 100000 in
theorem mm_o : Cond.arrayOver (.array .int) ∈ lw_tbl := by decide +kernel
theorem lt_a {a n j : Nat} (h : a < n) : a < n + j := Nat.lt_of_lt_of_le h (Nat.le_add_right _ _)
theorem cnt {x f A J K i : Nat} (hx : x = A + J) (hf : f = A + K) (h : J + i ≤ K) : x + i ≤ f := by
  subst hx hf
  omega
theorem cnt0 {x f A J K : Nat} (hx : x = A + J) (hf : f = A + K) (h : J ≤ K) : x ≤ f := by
  subst hx hf
  omega
def i5_1 (g : AG) (a n : Nat) : AG := nG g (.inr (.int, 240)) 240
def i5_2 (g : AG) (a n : Nat) : AG := pG (i5_1 g a n) a 0 (n)
def i5_3 (g : AG) (a n : Nat) : AG := nG (i5_2 g a n) (.inr (.int, 120)) 120
def i5_4 (g : AG) (a n : Nat) : AG := pG (i5_3 g a n) a 3 (n + 1)
def i5_5 (g : AG) (a n : Nat) : AG := nG (i5_4 g a n) (.inr (.int, 120)) 120
def i5_6 (g : AG) (a n : Nat) : AG := pG (i5_5 g a n) a 4 (n + 2)
def i5_7 (g : AG) (a n : Nat) : AG := nG (i5_6 g a n) (.inr (.int, 120)) 120
def i5_8 (g : AG) (a n : Nat) : AG := pG (i5_7 g a n) a 5 (n + 3)
def i5_9 (g : AG) (a n : Nat) : AG := nG (i5_8 g a n) (.inr (.int, 120)) 120
def i5_10 (g : AG) (a n : Nat) : AG := pG (i5_9 g a n) a 6 (n + 4)
def i5_11 (g : AG) (a n : Nat) : AG := nG (i5_10 g a n) (.inr (.int, 120)) 120
def i5_12 (g : AG) (a n : Nat) : AG := pG (i5_11 g a n) a 7 (n + 5)
def i5_13 (g : AG) (a n : Nat) : AG := nG (i5_12 g a n) (.inr (.int, 120)) 120
def i5_14 (g : AG) (a n : Nat) : AG := pG (i5_13 g a n) a 8 (n + 6)
def i5_15 (g : AG) (a n : Nat) : AG := nG (i5_14 g a n) (.inr (.int, 120)) 120
def i5_16 (g : AG) (a n : Nat) : AG := pG (i5_15 g a n) a 9 (n + 7)
def i5_17 (g : AG) (a n : Nat) : AG := nG (i5_16 g a n) (.inr (.int, 120)) 120
def i5_18 (g : AG) (a n : Nat) : AG := pG (i5_17 g a n) a 10 (n + 8)
def i5_19 (g : AG) (a n : Nat) : AG := nG (i5_18 g a n) (.inr (.int, 26)) 26
def i5_20 (g : AG) (a n : Nat) : AG := pG (i5_19 g a n) a 11 (n + 9)
def i5_21 (g : AG) (a n : Nat) : AG := nG (i5_20 g a n) (.inr (.int, 120)) 120
def i5_22 (g : AG) (a n : Nat) : AG := pG (i5_21 g a n) a 12 (n + 10)
def i5 (g : AG) (a n : Nat) : AG := (i5_22 g a n)
theorem z_init5 {g : AG} {I : IF} {a n : Nat} (hz : Zr (g, I)) (hn : g.1.length = n) (han : a < n) : Zr (i5 g a n, I) := by
  have z1 : Zr ((i5_1 g a n), I) := zr_n hz
  have l1 : ((i5_1 g a n)).1.length = n + 1 := len_n hn
  have z2 : Zr ((i5_2 g a n), I) := zr_p z1 l1 (lt_a han)
  have l2 : ((i5_2 g a n)).1.length = n + 1 := len_p l1
  have z3 : Zr ((i5_3 g a n), I) := zr_n z2
  have l3 : ((i5_3 g a n)).1.length = n + 2 := len_n l2
  have z4 : Zr ((i5_4 g a n), I) := zr_p z3 l3 (lt_a han)
  have l4 : ((i5_4 g a n)).1.length = n + 2 := len_p l3
  have z5 : Zr ((i5_5 g a n), I) := zr_n z4
  have l5 : ((i5_5 g a n)).1.length = n + 3 := len_n l4
  have z6 : Zr ((i5_6 g a n), I) := zr_p z5 l5 (lt_a han)
  have l6 : ((i5_6 g a n)).1.length = n + 3 := len_p l5
  have z7 : Zr ((i5_7 g a n), I) := zr_n z6
  have l7 : ((i5_7 g a n)).1.length = n + 4 := len_n l6
  have z8 : Zr ((i5_8 g a n), I) := zr_p z7 l7 (lt_a han)
  have l8 : ((i5_8 g a n)).1.length = n + 4 := len_p l7
  have z9 : Zr ((i5_9 g a n), I) := zr_n z8
  have l9 : ((i5_9 g a n)).1.length = n + 5 := len_n l8
  have z10 : Zr ((i5_10 g a n), I) := zr_p z9 l9 (lt_a han)
  have l10 : ((i5_10 g a n)).1.length = n + 5 := len_p l9
  have z11 : Zr ((i5_11 g a n), I) := zr_n z10
  have l11 : ((i5_11 g a n)).1.length = n + 6 := len_n l10
  have z12 : Zr ((i5_12 g a n), I) := zr_p z11 l11 (lt_a han)
  have l12 : ((i5_12 g a n)).1.length = n + 6 := len_p l11
  have z13 : Zr ((i5_13 g a n), I) := zr_n z12
  have l13 : ((i5_13 g a n)).1.length = n + 7 := len_n l12
  have z14 : Zr ((i5_14 g a n), I) := zr_p z13 l13 (lt_a han)
  have l14 : ((i5_14 g a n)).1.length = n + 7 := len_p l13
  have z15 : Zr ((i5_15 g a n), I) := zr_n z14
  have l15 : ((i5_15 g a n)).1.length = n + 8 := len_n l14
  have z16 : Zr ((i5_16 g a n), I) := zr_p z15 l15 (lt_a han)
  have l16 : ((i5_16 g a n)).1.length = n + 8 := len_p l15
  have z17 : Zr ((i5_17 g a n), I) := zr_n z16
  have l17 : ((i5_17 g a n)).1.length = n + 9 := len_n l16
  have z18 : Zr ((i5_18 g a n), I) := zr_p z17 l17 (lt_a han)
  have l18 : ((i5_18 g a n)).1.length = n + 9 := len_p l17
  have z19 : Zr ((i5_19 g a n), I) := zr_n z18
  have l19 : ((i5_19 g a n)).1.length = n + 10 := len_n l18
  have z20 : Zr ((i5_20 g a n), I) := zr_p z19 l19 (lt_a han)
  have l20 : ((i5_20 g a n)).1.length = n + 10 := len_p l19
  have z21 : Zr ((i5_21 g a n), I) := zr_n z20
  have l21 : ((i5_21 g a n)).1.length = n + 11 := len_n l20
  have z22 : Zr ((i5_22 g a n), I) := zr_p z21 l21 (lt_a han)
  have l22 : ((i5_22 g a n)).1.length = n + 11 := len_p l21
  exact z22
theorem l_init5 {g : AG} {a n : Nat} (hn : g.1.length = n) : (i5 g a n).1.length = n + 11 := by
  have l1 : ((i5_1 g a n)).1.length = n + 1 := len_n hn
  have l2 : ((i5_2 g a n)).1.length = n + 1 := len_p l1
  have l3 : ((i5_3 g a n)).1.length = n + 2 := len_n l2
  have l4 : ((i5_4 g a n)).1.length = n + 2 := len_p l3
  have l5 : ((i5_5 g a n)).1.length = n + 3 := len_n l4
  have l6 : ((i5_6 g a n)).1.length = n + 3 := len_p l5
  have l7 : ((i5_7 g a n)).1.length = n + 4 := len_n l6
  have l8 : ((i5_8 g a n)).1.length = n + 4 := len_p l7
  have l9 : ((i5_9 g a n)).1.length = n + 5 := len_n l8
  have l10 : ((i5_10 g a n)).1.length = n + 5 := len_p l9
  have l11 : ((i5_11 g a n)).1.length = n + 6 := len_n l10
  have l12 : ((i5_12 g a n)).1.length = n + 6 := len_p l11
  have l13 : ((i5_13 g a n)).1.length = n + 7 := len_n l12
  have l14 : ((i5_14 g a n)).1.length = n + 7 := len_p l13
  have l15 : ((i5_15 g a n)).1.length = n + 8 := len_n l14
  have l16 : ((i5_16 g a n)).1.length = n + 8 := len_p l15
  have l17 : ((i5_17 g a n)).1.length = n + 9 := len_n l16
  have l18 : ((i5_18 g a n)).1.length = n + 9 := len_p l17
  have l19 : ((i5_19 g a n)).1.length = n + 10 := len_n l18
  have l20 : ((i5_20 g a n)).1.length = n + 10 := len_p l19
  have l21 : ((i5_21 g a n)).1.length = n + 11 := len_n l20
  have l22 : ((i5_22 g a n)).1.length = n + 11 := len_p l21
  exact l22
theorem s_init5 {g : AG} {a n : Nat} {b : Nat} {y : SH} (hs : g.1[b]? = some y) : (i5 g a n).1[b]? = some y := by
  have s1 : ((i5_1 g a n)).1[b]? = some y := sh_n hs
  have s2 : ((i5_2 g a n)).1[b]? = some y := sh_p s1
  have s3 : ((i5_3 g a n)).1[b]? = some y := sh_n s2
  have s4 : ((i5_4 g a n)).1[b]? = some y := sh_p s3
  have s5 : ((i5_5 g a n)).1[b]? = some y := sh_n s4
  have s6 : ((i5_6 g a n)).1[b]? = some y := sh_p s5
  have s7 : ((i5_7 g a n)).1[b]? = some y := sh_n s6
  have s8 : ((i5_8 g a n)).1[b]? = some y := sh_p s7
  have s9 : ((i5_9 g a n)).1[b]? = some y := sh_n s8
  have s10 : ((i5_10 g a n)).1[b]? = some y := sh_p s9
  have s11 : ((i5_11 g a n)).1[b]? = some y := sh_n s10
  have s12 : ((i5_12 g a n)).1[b]? = some y := sh_p s11
  have s13 : ((i5_13 g a n)).1[b]? = some y := sh_n s12
  have s14 : ((i5_14 g a n)).1[b]? = some y := sh_p s13
  have s15 : ((i5_15 g a n)).1[b]? = some y := sh_n s14
  have s16 : ((i5_16 g a n)).1[b]? = some y := sh_p s15
  have s17 : ((i5_17 g a n)).1[b]? = some y := sh_n s16
  have s18 : ((i5_18 g a n)).1[b]? = some y := sh_p s17
  have s19 : ((i5_19 g a n)).1[b]? = some y := sh_n s18
  have s20 : ((i5_20 g a n)).1[b]? = some y := sh_p s19
  have s21 : ((i5_21 g a n)).1[b]? = some y := sh_n s20
  have s22 : ((i5_22 g a n)).1[b]? = some y := sh_p s21
  exact s22
theorem ct_init5 {g : AG} {a n A B : Nat} (h : g.2.2.2.1 = A ∧ g.2.2.2.2 = B) : (i5 g a n).2.2.2.1 = A + 11 ∧ (i5 g a n).2.2.2.2 = B + 1346 := by
  obtain ⟨rfl, rfl⟩ := h
  have c0 : g.2.2.2.1 = g.2.2.2.1 + 0 ∧ g.2.2.2.2 = g.2.2.2.2 + 0 := ⟨rfl, rfl⟩
  have c1 : ((i5_1 g a n)).2.2.2.1 = g.2.2.2.1 + 1 ∧ ((i5_1 g a n)).2.2.2.2 = g.2.2.2.2 + 240 := ct_n c0
  have c2 : ((i5_2 g a n)).2.2.2.1 = g.2.2.2.1 + 1 ∧ ((i5_2 g a n)).2.2.2.2 = g.2.2.2.2 + 240 := ct_p c1
  have c3 : ((i5_3 g a n)).2.2.2.1 = g.2.2.2.1 + 2 ∧ ((i5_3 g a n)).2.2.2.2 = g.2.2.2.2 + 360 := ct_n c2
  have c4 : ((i5_4 g a n)).2.2.2.1 = g.2.2.2.1 + 2 ∧ ((i5_4 g a n)).2.2.2.2 = g.2.2.2.2 + 360 := ct_p c3
  have c5 : ((i5_5 g a n)).2.2.2.1 = g.2.2.2.1 + 3 ∧ ((i5_5 g a n)).2.2.2.2 = g.2.2.2.2 + 480 := ct_n c4
  have c6 : ((i5_6 g a n)).2.2.2.1 = g.2.2.2.1 + 3 ∧ ((i5_6 g a n)).2.2.2.2 = g.2.2.2.2 + 480 := ct_p c5
  have c7 : ((i5_7 g a n)).2.2.2.1 = g.2.2.2.1 + 4 ∧ ((i5_7 g a n)).2.2.2.2 = g.2.2.2.2 + 600 := ct_n c6
  have c8 : ((i5_8 g a n)).2.2.2.1 = g.2.2.2.1 + 4 ∧ ((i5_8 g a n)).2.2.2.2 = g.2.2.2.2 + 600 := ct_p c7
  have c9 : ((i5_9 g a n)).2.2.2.1 = g.2.2.2.1 + 5 ∧ ((i5_9 g a n)).2.2.2.2 = g.2.2.2.2 + 720 := ct_n c8
  have c10 : ((i5_10 g a n)).2.2.2.1 = g.2.2.2.1 + 5 ∧ ((i5_10 g a n)).2.2.2.2 = g.2.2.2.2 + 720 := ct_p c9
  have c11 : ((i5_11 g a n)).2.2.2.1 = g.2.2.2.1 + 6 ∧ ((i5_11 g a n)).2.2.2.2 = g.2.2.2.2 + 840 := ct_n c10
  have c12 : ((i5_12 g a n)).2.2.2.1 = g.2.2.2.1 + 6 ∧ ((i5_12 g a n)).2.2.2.2 = g.2.2.2.2 + 840 := ct_p c11
  have c13 : ((i5_13 g a n)).2.2.2.1 = g.2.2.2.1 + 7 ∧ ((i5_13 g a n)).2.2.2.2 = g.2.2.2.2 + 960 := ct_n c12
  have c14 : ((i5_14 g a n)).2.2.2.1 = g.2.2.2.1 + 7 ∧ ((i5_14 g a n)).2.2.2.2 = g.2.2.2.2 + 960 := ct_p c13
  have c15 : ((i5_15 g a n)).2.2.2.1 = g.2.2.2.1 + 8 ∧ ((i5_15 g a n)).2.2.2.2 = g.2.2.2.2 + 1080 := ct_n c14
  have c16 : ((i5_16 g a n)).2.2.2.1 = g.2.2.2.1 + 8 ∧ ((i5_16 g a n)).2.2.2.2 = g.2.2.2.2 + 1080 := ct_p c15
  have c17 : ((i5_17 g a n)).2.2.2.1 = g.2.2.2.1 + 9 ∧ ((i5_17 g a n)).2.2.2.2 = g.2.2.2.2 + 1200 := ct_n c16
  have c18 : ((i5_18 g a n)).2.2.2.1 = g.2.2.2.1 + 9 ∧ ((i5_18 g a n)).2.2.2.2 = g.2.2.2.2 + 1200 := ct_p c17
  have c19 : ((i5_19 g a n)).2.2.2.1 = g.2.2.2.1 + 10 ∧ ((i5_19 g a n)).2.2.2.2 = g.2.2.2.2 + 1226 := ct_n c18
  have c20 : ((i5_20 g a n)).2.2.2.1 = g.2.2.2.1 + 10 ∧ ((i5_20 g a n)).2.2.2.2 = g.2.2.2.2 + 1226 := ct_p c19
  have c21 : ((i5_21 g a n)).2.2.2.1 = g.2.2.2.1 + 11 ∧ ((i5_21 g a n)).2.2.2.2 = g.2.2.2.2 + 1346 := ct_n c20
  have c22 : ((i5_22 g a n)).2.2.2.1 = g.2.2.2.1 + 11 ∧ ((i5_22 g a n)).2.2.2.2 = g.2.2.2.2 + 1346 := ct_p c21
  exact c22
set_option maxRecDepth 100000 in
set_option maxHeartbeats 4000000 in
theorem c_init5 {Γ : GX} {g : AG} {I : IF} {a n : Nat} (hF : gF Γ = true) (hz : Zr (g, I)) (hn : g.1.length = n) (ha : 0 < a) (han : a < n) (hs : g.1[a]? = some (.inl 5)) : CT Γ 1 mX5_init [.inr (some a)] (g, I) (none, (i5 g a n, I)) := by
  have c0 : g.2.2.2.1 = g.2.2.2.1 + 0 ∧ g.2.2.2.2 = g.2.2.2.2 + 0 := ⟨rfl, rfl⟩
  have z1 : Zr ((i5_1 g a n), I) := zr_n hz
  have l1 : ((i5_1 g a n)).1.length = n + 1 := len_n hn
  have s1 : ((i5_1 g a n)).1[a]? = some (.inl 5) := sh_n hs
  have c1 : ((i5_1 g a n)).2.2.2.1 = g.2.2.2.1 + 1 ∧ ((i5_1 g a n)).2.2.2.2 = g.2.2.2.2 + 240 := ct_n c0
  have z2 : Zr ((i5_2 g a n), I) := zr_p z1 l1 (lt_a han)
  have l2 : ((i5_2 g a n)).1.length = n + 1 := len_p l1
  have s2 : ((i5_2 g a n)).1[a]? = some (.inl 5) := sh_p s1
  have c2 : ((i5_2 g a n)).2.2.2.1 = g.2.2.2.1 + 1 ∧ ((i5_2 g a n)).2.2.2.2 = g.2.2.2.2 + 240 := ct_p c1
  have z3 : Zr ((i5_3 g a n), I) := zr_n z2
  have l3 : ((i5_3 g a n)).1.length = n + 2 := len_n l2
  have s3 : ((i5_3 g a n)).1[a]? = some (.inl 5) := sh_n s2
  have c3 : ((i5_3 g a n)).2.2.2.1 = g.2.2.2.1 + 2 ∧ ((i5_3 g a n)).2.2.2.2 = g.2.2.2.2 + 360 := ct_n c2
  have z4 : Zr ((i5_4 g a n), I) := zr_p z3 l3 (lt_a han)
  have l4 : ((i5_4 g a n)).1.length = n + 2 := len_p l3
  have s4 : ((i5_4 g a n)).1[a]? = some (.inl 5) := sh_p s3
  have c4 : ((i5_4 g a n)).2.2.2.1 = g.2.2.2.1 + 2 ∧ ((i5_4 g a n)).2.2.2.2 = g.2.2.2.2 + 360 := ct_p c3
  have z5 : Zr ((i5_5 g a n), I) := zr_n z4
  have l5 : ((i5_5 g a n)).1.length = n + 3 := len_n l4
  have s5 : ((i5_5 g a n)).1[a]? = some (.inl 5) := sh_n s4
  have c5 : ((i5_5 g a n)).2.2.2.1 = g.2.2.2.1 + 3 ∧ ((i5_5 g a n)).2.2.2.2 = g.2.2.2.2 + 480 := ct_n c4
  have z6 : Zr ((i5_6 g a n), I) := zr_p z5 l5 (lt_a han)
  have l6 : ((i5_6 g a n)).1.length = n + 3 := len_p l5
  have s6 : ((i5_6 g a n)).1[a]? = some (.inl 5) := sh_p s5
  have c6 : ((i5_6 g a n)).2.2.2.1 = g.2.2.2.1 + 3 ∧ ((i5_6 g a n)).2.2.2.2 = g.2.2.2.2 + 480 := ct_p c5
  have z7 : Zr ((i5_7 g a n), I) := zr_n z6
  have l7 : ((i5_7 g a n)).1.length = n + 4 := len_n l6
  have s7 : ((i5_7 g a n)).1[a]? = some (.inl 5) := sh_n s6
  have c7 : ((i5_7 g a n)).2.2.2.1 = g.2.2.2.1 + 4 ∧ ((i5_7 g a n)).2.2.2.2 = g.2.2.2.2 + 600 := ct_n c6
  have z8 : Zr ((i5_8 g a n), I) := zr_p z7 l7 (lt_a han)
  have l8 : ((i5_8 g a n)).1.length = n + 4 := len_p l7
  have s8 : ((i5_8 g a n)).1[a]? = some (.inl 5) := sh_p s7
  have c8 : ((i5_8 g a n)).2.2.2.1 = g.2.2.2.1 + 4 ∧ ((i5_8 g a n)).2.2.2.2 = g.2.2.2.2 + 600 := ct_p c7
  have z9 : Zr ((i5_9 g a n), I) := zr_n z8
  have l9 : ((i5_9 g a n)).1.length = n + 5 := len_n l8
  have s9 : ((i5_9 g a n)).1[a]? = some (.inl 5) := sh_n s8
  have c9 : ((i5_9 g a n)).2.2.2.1 = g.2.2.2.1 + 5 ∧ ((i5_9 g a n)).2.2.2.2 = g.2.2.2.2 + 720 := ct_n c8
  have z10 : Zr ((i5_10 g a n), I) := zr_p z9 l9 (lt_a han)
  have l10 : ((i5_10 g a n)).1.length = n + 5 := len_p l9
  have s10 : ((i5_10 g a n)).1[a]? = some (.inl 5) := sh_p s9
  have c10 : ((i5_10 g a n)).2.2.2.1 = g.2.2.2.1 + 5 ∧ ((i5_10 g a n)).2.2.2.2 = g.2.2.2.2 + 720 := ct_p c9
  have z11 : Zr ((i5_11 g a n), I) := zr_n z10
  have l11 : ((i5_11 g a n)).1.length = n + 6 := len_n l10
  have s11 : ((i5_11 g a n)).1[a]? = some (.inl 5) := sh_n s10
  have c11 : ((i5_11 g a n)).2.2.2.1 = g.2.2.2.1 + 6 ∧ ((i5_11 g a n)).2.2.2.2 = g.2.2.2.2 + 840 := ct_n c10
  have z12 : Zr ((i5_12 g a n), I) := zr_p z11 l11 (lt_a han)
  have l12 : ((i5_12 g a n)).1.length = n + 6 := len_p l11
  have s12 : ((i5_12 g a n)).1[a]? = some (.inl 5) := sh_p s11
  have c12 : ((i5_12 g a n)).2.2.2.1 = g.2.2.2.1 + 6 ∧ ((i5_12 g a n)).2.2.2.2 = g.2.2.2.2 + 840 := ct_p c11
  have z13 : Zr ((i5_13 g a n), I) := zr_n z12
  have l13 : ((i5_13 g a n)).1.length = n + 7 := len_n l12
  have s13 : ((i5_13 g a n)).1[a]? = some (.inl 5) := sh_n s12
  have c13 : ((i5_13 g a n)).2.2.2.1 = g.2.2.2.1 + 7 ∧ ((i5_13 g a n)).2.2.2.2 = g.2.2.2.2 + 960 := ct_n c12
  have z14 : Zr ((i5_14 g a n), I) := zr_p z13 l13 (lt_a han)
  have l14 : ((i5_14 g a n)).1.length = n + 7 := len_p l13
  have s14 : ((i5_14 g a n)).1[a]? = some (.inl 5) := sh_p s13
  have c14 : ((i5_14 g a n)).2.2.2.1 = g.2.2.2.1 + 7 ∧ ((i5_14 g a n)).2.2.2.2 = g.2.2.2.2 + 960 := ct_p c13
  have z15 : Zr ((i5_15 g a n), I) := zr_n z14
  have l15 : ((i5_15 g a n)).1.length = n + 8 := len_n l14
  have s15 : ((i5_15 g a n)).1[a]? = some (.inl 5) := sh_n s14
  have c15 : ((i5_15 g a n)).2.2.2.1 = g.2.2.2.1 + 8 ∧ ((i5_15 g a n)).2.2.2.2 = g.2.2.2.2 + 1080 := ct_n c14
  have z16 : Zr ((i5_16 g a n), I) := zr_p z15 l15 (lt_a han)
  have l16 : ((i5_16 g a n)).1.length = n + 8 := len_p l15
  have s16 : ((i5_16 g a n)).1[a]? = some (.inl 5) := sh_p s15
  have c16 : ((i5_16 g a n)).2.2.2.1 = g.2.2.2.1 + 8 ∧ ((i5_16 g a n)).2.2.2.2 = g.2.2.2.2 + 1080 := ct_p c15
  have z17 : Zr ((i5_17 g a n), I) := zr_n z16
  have l17 : ((i5_17 g a n)).1.length = n + 9 := len_n l16
  have s17 : ((i5_17 g a n)).1[a]? = some (.inl 5) := sh_n s16
  have c17 : ((i5_17 g a n)).2.2.2.1 = g.2.2.2.1 + 9 ∧ ((i5_17 g a n)).2.2.2.2 = g.2.2.2.2 + 1200 := ct_n c16
  have z18 : Zr ((i5_18 g a n), I) := zr_p z17 l17 (lt_a han)
  have l18 : ((i5_18 g a n)).1.length = n + 9 := len_p l17
  have s18 : ((i5_18 g a n)).1[a]? = some (.inl 5) := sh_p s17
  have c18 : ((i5_18 g a n)).2.2.2.1 = g.2.2.2.1 + 9 ∧ ((i5_18 g a n)).2.2.2.2 = g.2.2.2.2 + 1200 := ct_p c17
  have z19 : Zr ((i5_19 g a n), I) := zr_n z18
  have l19 : ((i5_19 g a n)).1.length = n + 10 := len_n l18
  have s19 : ((i5_19 g a n)).1[a]? = some (.inl 5) := sh_n s18
  have c19 : ((i5_19 g a n)).2.2.2.1 = g.2.2.2.1 + 10 ∧ ((i5_19 g a n)).2.2.2.2 = g.2.2.2.2 + 1226 := ct_n c18
  have z20 : Zr ((i5_20 g a n), I) := zr_p z19 l19 (lt_a han)
  have l20 : ((i5_20 g a n)).1.length = n + 10 := len_p l19
  have s20 : ((i5_20 g a n)).1[a]? = some (.inl 5) := sh_p s19
  have c20 : ((i5_20 g a n)).2.2.2.1 = g.2.2.2.1 + 10 ∧ ((i5_20 g a n)).2.2.2.2 = g.2.2.2.2 + 1226 := ct_p c19
  have z21 : Zr ((i5_21 g a n), I) := zr_n z20
  have l21 : ((i5_21 g a n)).1.length = n + 11 := len_n l20
  have s21 : ((i5_21 g a n)).1[a]? = some (.inl 5) := sh_n s20
  have c21 : ((i5_21 g a n)).2.2.2.1 = g.2.2.2.1 + 11 ∧ ((i5_21 g a n)).2.2.2.2 = g.2.2.2.2 + 1346 := ct_n c20
  have z22 : Zr ((i5_22 g a n), I) := zr_p z21 l21 (lt_a han)
  have l22 : ((i5_22 g a n)).1.length = n + 11 := len_p l21
  have s22 : ((i5_22 g a n)).1[a]? = some (.inl 5) := sh_p s21
  have c22 : ((i5_22 g a n)).2.2.2.1 = g.2.2.2.1 + 11 ∧ ((i5_22 g a n)).2.2.2.2 = g.2.2.2.2 + 1346 := ct_p c21
  have hp0 : 0 < n := Nat.lt_trans ha han
  have cE : (i5 g a n).2.2.2.1 = g.2.2.2.1 + 11 ∧ (i5 g a n).2.2.2.2 = g.2.2.2.2 + 1346 := c22
  refine CT.of (R := (none, (i5 g a n, I))) oX5_init (Nat.le_of_ble_eq_true rfl) (cnt0 c0.1 cE.1 (by decide)) (cnt0 c0.2 cE.2 (by decide)) ?_
  show Ev Γ 1 mX5_init 0 [some (.inr (some a))] [] (g, I) (none, (i5 g a n, I))
  refine e_aload_n dX5_init_0 rfl ?_
  refine e_obji dX5_init_1 (ob_5) ob_i ob_c (by decide) (by decide) ha ?_
  refine e_aload_n dX5_init_4 rfl ?_
  refine e_sipush dX5_init_5 (by decide) ⟨by decide, by decide⟩ ?_
  refine e_newaG (g := g) (N := 240) dX5_init_8 rfl ac_int (by decide) (Or.inl rfl) rfl (by decide) hF hn hp0 hz (cnt c0.1 cE.1 (by decide)) (cnt c0.2 cE.2 (by decide)) ?_
  refine e_putG (g := (i5_1 g a n)) dX5_init_10 fO_5_9 (by decide +kernel) ha s1 rfl rfl rfl rfl ?_
  refine e_aload_n dX5_init_13 rfl ?_
  refine e_bipush dX5_init_14 (by decide) ⟨by decide, by decide⟩ ?_
  refine e_newaG (g := (i5_2 g a n)) (N := 120) dX5_init_16 rfl ac_int (by decide) (Or.inl rfl) rfl (by decide) hF l2 (lt_a hp0) z2 (cnt c2.1 cE.1 (by decide)) (cnt c2.2 cE.2 (by decide)) ?_
  refine e_putG (g := (i5_3 g a n)) dX5_init_18 fO_5_15 (by decide +kernel) ha s3 rfl rfl rfl rfl ?_
  refine e_aload_n dX5_init_21 rfl ?_
  refine e_bipush dX5_init_22 (by decide) ⟨by decide, by decide⟩ ?_
  refine e_newaG (g := (i5_4 g a n)) (N := 120) dX5_init_24 rfl ac_int (by decide) (Or.inl rfl) rfl (by decide) hF l4 (lt_a hp0) z4 (cnt c4.1 cE.1 (by decide)) (cnt c4.2 cE.2 (by decide)) ?_
  refine e_putG (g := (i5_5 g a n)) dX5_init_26 fO_5_18 (by decide +kernel) ha s5 rfl rfl rfl rfl ?_
  refine e_aload_n dX5_init_29 rfl ?_
  refine e_bipush dX5_init_30 (by decide) ⟨by decide, by decide⟩ ?_
  refine e_newaG (g := (i5_6 g a n)) (N := 120) dX5_init_32 rfl ac_int (by decide) (Or.inl rfl) rfl (by decide) hF l6 (lt_a hp0) z6 (cnt c6.1 cE.1 (by decide)) (cnt c6.2 cE.2 (by decide)) ?_
  refine e_putG (g := (i5_7 g a n)) dX5_init_34 fO_5_21 (by decide +kernel) ha s7 rfl rfl rfl rfl ?_
  refine e_aload_n dX5_init_37 rfl ?_
  refine e_bipush dX5_init_38 (by decide) ⟨by decide, by decide⟩ ?_
  refine e_newaG (g := (i5_8 g a n)) (N := 120) dX5_init_40 rfl ac_int (by decide) (Or.inl rfl) rfl (by decide) hF l8 (lt_a hp0) z8 (cnt c8.1 cE.1 (by decide)) (cnt c8.2 cE.2 (by decide)) ?_
  refine e_putG (g := (i5_9 g a n)) dX5_init_42 fO_5_24 (by decide +kernel) ha s9 rfl rfl rfl rfl ?_
  refine e_aload_n dX5_init_45 rfl ?_
  refine e_bipush dX5_init_46 (by decide) ⟨by decide, by decide⟩ ?_
  refine e_newaG (g := (i5_10 g a n)) (N := 120) dX5_init_48 rfl ac_int (by decide) (Or.inl rfl) rfl (by decide) hF l10 (lt_a hp0) z10 (cnt c10.1 cE.1 (by decide)) (cnt c10.2 cE.2 (by decide)) ?_
  refine e_putG (g := (i5_11 g a n)) dX5_init_50 fO_5_27 (by decide +kernel) ha s11 rfl rfl rfl rfl ?_
  refine e_aload_n dX5_init_53 rfl ?_
  refine e_bipush dX5_init_54 (by decide) ⟨by decide, by decide⟩ ?_
  refine e_newaG (g := (i5_12 g a n)) (N := 120) dX5_init_56 rfl ac_int (by decide) (Or.inl rfl) rfl (by decide) hF l12 (lt_a hp0) z12 (cnt c12.1 cE.1 (by decide)) (cnt c12.2 cE.2 (by decide)) ?_
  refine e_putG (g := (i5_13 g a n)) dX5_init_58 fO_5_30 (by decide +kernel) ha s13 rfl rfl rfl rfl ?_
  refine e_aload_n dX5_init_61 rfl ?_
  refine e_bipush dX5_init_62 (by decide) ⟨by decide, by decide⟩ ?_
  refine e_newaG (g := (i5_14 g a n)) (N := 120) dX5_init_64 rfl ac_int (by decide) (Or.inl rfl) rfl (by decide) hF l14 (lt_a hp0) z14 (cnt c14.1 cE.1 (by decide)) (cnt c14.2 cE.2 (by decide)) ?_
  refine e_putG (g := (i5_15 g a n)) dX5_init_66 fO_5_33 (by decide +kernel) ha s15 rfl rfl rfl rfl ?_
  refine e_aload_n dX5_init_69 rfl ?_
  refine e_bipush dX5_init_70 (by decide) ⟨by decide, by decide⟩ ?_
  refine e_newaG (g := (i5_16 g a n)) (N := 120) dX5_init_72 rfl ac_int (by decide) (Or.inl rfl) rfl (by decide) hF l16 (lt_a hp0) z16 (cnt c16.1 cE.1 (by decide)) (cnt c16.2 cE.2 (by decide)) ?_
  refine e_putG (g := (i5_17 g a n)) dX5_init_74 fO_5_36 (by decide +kernel) ha s17 rfl rfl rfl rfl ?_
  refine e_aload_n dX5_init_77 rfl ?_
  refine e_bipush dX5_init_78 (by decide) ⟨by decide, by decide⟩ ?_
  refine e_newaG (g := (i5_18 g a n)) (N := 26) dX5_init_80 rfl ac_int (by decide) (Or.inl rfl) rfl (by decide) hF l18 (lt_a hp0) z18 (cnt c18.1 cE.1 (by decide)) (cnt c18.2 cE.2 (by decide)) ?_
  refine e_putG (g := (i5_19 g a n)) dX5_init_82 fO_5_39 (by decide +kernel) ha s19 rfl rfl rfl rfl ?_
  refine e_aload_n dX5_init_85 rfl ?_
  refine e_bipush dX5_init_86 (by decide) ⟨by decide, by decide⟩ ?_
  refine e_newaG (g := (i5_20 g a n)) (N := 120) dX5_init_88 rfl ac_int (by decide) (Or.inl rfl) rfl (by decide) hF l20 (lt_a hp0) z20 (cnt c20.1 cE.1 (by decide)) (cnt c20.2 cE.2 (by decide)) ?_
  refine e_putG (g := (i5_21 g a n)) dX5_init_90 fO_5_42 (by decide +kernel) ha s21 rfl rfl rfl rfl ?_
  exact e_vret dX5_init_93 rfl rfl
def i4 (g : AG) (a n : Nat) : AG := g
theorem z_init4 {g : AG} {I : IF} {a n : Nat} (hz : Zr (g, I)) (hn : g.1.length = n) (han : a < n) : Zr (i4 g a n, I) := hz
theorem l_init4 {g : AG} {I : IF} {a n : Nat} (hn : g.1.length = n) : (i4 g a n).1.length = n := hn
theorem s_init4 {g : AG} {a n : Nat} {b : Nat} {y : SH} (hs : g.1[b]? = some y) : (i4 g a n).1[b]? = some y := hs
theorem ct_init4 {g : AG} {a n A B : Nat} (h : g.2.2.2.1 = A ∧ g.2.2.2.2 = B) : (i4 g a n).2.2.2.1 = A + 0 ∧ (i4 g a n).2.2.2.2 = B + 0 := h
set_option maxRecDepth 100000 in
set_option maxHeartbeats 4000000 in
theorem c_init4 {Γ : GX} {g : AG} {I : IF} {a n : Nat} (hF : gF Γ = true) (hz : Zr (g, I)) (hn : g.1.length = n) (ha : 0 < a) (han : a < n) (hs : g.1[a]? = some (.inl 4)) : CT Γ 1 mX4_init [.inr (some a)] (g, I) (none, (i4 g a n, I)) := by
  have c0 : g.2.2.2.1 = g.2.2.2.1 + 0 ∧ g.2.2.2.2 = g.2.2.2.2 + 0 := ⟨rfl, rfl⟩
  have hp0 : 0 < n := Nat.lt_trans ha han
  have cE : (i4 g a n).2.2.2.1 = g.2.2.2.1 + 0 ∧ (i4 g a n).2.2.2.2 = g.2.2.2.2 + 0 := c0
  refine CT.of (R := (none, (i4 g a n, I))) oX4_init (Nat.le_of_ble_eq_true rfl) (cnt0 c0.1 cE.1 (by decide)) (cnt0 c0.2 cE.2 (by decide)) ?_
  show Ev Γ 1 mX4_init 0 [some (.inr (some a))] [] (g, I) (none, (i4 g a n, I))
  refine e_aload_n dX4_init_0 rfl ?_
  refine e_obji dX4_init_1 (ob_4) ob_i ob_c (by decide) (by decide) ha ?_
  exact e_vret dX4_init_4 rfl rfl
def i1_1 (g : AG) (a n b1 b2 : Nat) : AG := nG g (.inr (.int, 120)) 120
def i1_2 (g : AG) (a n b1 b2 : Nat) : AG := pG (i1_1 g a n b1 b2) a 2 (n)
def i1_3 (g : AG) (a n b1 b2 : Nat) : AG := nG (i1_2 g a n b1 b2) (.inr (.int, 120)) 120
def i1_4 (g : AG) (a n b1 b2 : Nat) : AG := pG (i1_3 g a n b1 b2) a 3 (n + 1)
def i1_5 (g : AG) (a n b1 b2 : Nat) : AG := nG (i1_4 g a n b1 b2) (.inr (.int, 120)) 120
def i1_6 (g : AG) (a n b1 b2 : Nat) : AG := pG (i1_5 g a n b1 b2) a 4 (n + 2)
def i1_7 (g : AG) (a n b1 b2 : Nat) : AG := nG (i1_6 g a n b1 b2) (.inr (.int, 120)) 120
def i1_8 (g : AG) (a n b1 b2 : Nat) : AG := pG (i1_7 g a n b1 b2) a 5 (n + 3)
def i1_9 (g : AG) (a n b1 b2 : Nat) : AG := nG (i1_8 g a n b1 b2) (.inr (.int, 120)) 120
def i1_10 (g : AG) (a n b1 b2 : Nat) : AG := pG (i1_9 g a n b1 b2) a 6 (n + 4)
def i1_11 (g : AG) (a n b1 b2 : Nat) : AG := nG (i1_10 g a n b1 b2) (.inr (.int, 26)) 26
def i1_12 (g : AG) (a n b1 b2 : Nat) : AG := pG (i1_11 g a n b1 b2) a 11 (n + 5)
def i1_13 (g : AG) (a n b1 b2 : Nat) : AG := nG (i1_12 g a n b1 b2) (.inr (.int, 120)) 120
def i1_14 (g : AG) (a n b1 b2 : Nat) : AG := pG (i1_13 g a n b1 b2) a 12 (n + 6)
def i1_15 (g : AG) (a n b1 b2 : Nat) : AG := nG (i1_14 g a n b1 b2) (.inr (.boolean, 120)) 120
def i1_16 (g : AG) (a n b1 b2 : Nat) : AG := pG (i1_15 g a n b1 b2) a 14 (n + 7)
def i1_17 (g : AG) (a n b1 b2 : Nat) : AG := pG (i1_16 g a n b1 b2) a 0 (b1)
def i1_18 (g : AG) (a n b1 b2 : Nat) : AG := pG (i1_17 g a n b1 b2) a 1 (b2)
def i1 (g : AG) (a n b1 b2 : Nat) : AG := (i1_18 g a n b1 b2)
theorem z_init1 {g : AG} {I : IF} {a n b1 b2 : Nat} (hz : Zr (g, I)) (hn : g.1.length = n) (han : a < n) : Zr (i1 g a n b1 b2, I) := by
  have z1 : Zr ((i1_1 g a n b1 b2), I) := zr_n hz
  have l1 : ((i1_1 g a n b1 b2)).1.length = n + 1 := len_n hn
  have z2 : Zr ((i1_2 g a n b1 b2), I) := zr_p z1 l1 (lt_a han)
  have l2 : ((i1_2 g a n b1 b2)).1.length = n + 1 := len_p l1
  have z3 : Zr ((i1_3 g a n b1 b2), I) := zr_n z2
  have l3 : ((i1_3 g a n b1 b2)).1.length = n + 2 := len_n l2
  have z4 : Zr ((i1_4 g a n b1 b2), I) := zr_p z3 l3 (lt_a han)
  have l4 : ((i1_4 g a n b1 b2)).1.length = n + 2 := len_p l3
  have z5 : Zr ((i1_5 g a n b1 b2), I) := zr_n z4
  have l5 : ((i1_5 g a n b1 b2)).1.length = n + 3 := len_n l4
  have z6 : Zr ((i1_6 g a n b1 b2), I) := zr_p z5 l5 (lt_a han)
  have l6 : ((i1_6 g a n b1 b2)).1.length = n + 3 := len_p l5
  have z7 : Zr ((i1_7 g a n b1 b2), I) := zr_n z6
  have l7 : ((i1_7 g a n b1 b2)).1.length = n + 4 := len_n l6
  have z8 : Zr ((i1_8 g a n b1 b2), I) := zr_p z7 l7 (lt_a han)
  have l8 : ((i1_8 g a n b1 b2)).1.length = n + 4 := len_p l7
  have z9 : Zr ((i1_9 g a n b1 b2), I) := zr_n z8
  have l9 : ((i1_9 g a n b1 b2)).1.length = n + 5 := len_n l8
  have z10 : Zr ((i1_10 g a n b1 b2), I) := zr_p z9 l9 (lt_a han)
  have l10 : ((i1_10 g a n b1 b2)).1.length = n + 5 := len_p l9
  have z11 : Zr ((i1_11 g a n b1 b2), I) := zr_n z10
  have l11 : ((i1_11 g a n b1 b2)).1.length = n + 6 := len_n l10
  have z12 : Zr ((i1_12 g a n b1 b2), I) := zr_p z11 l11 (lt_a han)
  have l12 : ((i1_12 g a n b1 b2)).1.length = n + 6 := len_p l11
  have z13 : Zr ((i1_13 g a n b1 b2), I) := zr_n z12
  have l13 : ((i1_13 g a n b1 b2)).1.length = n + 7 := len_n l12
  have z14 : Zr ((i1_14 g a n b1 b2), I) := zr_p z13 l13 (lt_a han)
  have l14 : ((i1_14 g a n b1 b2)).1.length = n + 7 := len_p l13
  have z15 : Zr ((i1_15 g a n b1 b2), I) := zr_n z14
  have l15 : ((i1_15 g a n b1 b2)).1.length = n + 8 := len_n l14
  have z16 : Zr ((i1_16 g a n b1 b2), I) := zr_p z15 l15 (lt_a han)
  have l16 : ((i1_16 g a n b1 b2)).1.length = n + 8 := len_p l15
  have z17 : Zr ((i1_17 g a n b1 b2), I) := zr_p z16 l16 (lt_a han)
  have l17 : ((i1_17 g a n b1 b2)).1.length = n + 8 := len_p l16
  have z18 : Zr ((i1_18 g a n b1 b2), I) := zr_p z17 l17 (lt_a han)
  have l18 : ((i1_18 g a n b1 b2)).1.length = n + 8 := len_p l17
  exact z18
theorem l_init1 {g : AG} {a n b1 b2 : Nat} (hn : g.1.length = n) : (i1 g a n b1 b2).1.length = n + 8 := by
  have l1 : ((i1_1 g a n b1 b2)).1.length = n + 1 := len_n hn
  have l2 : ((i1_2 g a n b1 b2)).1.length = n + 1 := len_p l1
  have l3 : ((i1_3 g a n b1 b2)).1.length = n + 2 := len_n l2
  have l4 : ((i1_4 g a n b1 b2)).1.length = n + 2 := len_p l3
  have l5 : ((i1_5 g a n b1 b2)).1.length = n + 3 := len_n l4
  have l6 : ((i1_6 g a n b1 b2)).1.length = n + 3 := len_p l5
  have l7 : ((i1_7 g a n b1 b2)).1.length = n + 4 := len_n l6
  have l8 : ((i1_8 g a n b1 b2)).1.length = n + 4 := len_p l7
  have l9 : ((i1_9 g a n b1 b2)).1.length = n + 5 := len_n l8
  have l10 : ((i1_10 g a n b1 b2)).1.length = n + 5 := len_p l9
  have l11 : ((i1_11 g a n b1 b2)).1.length = n + 6 := len_n l10
  have l12 : ((i1_12 g a n b1 b2)).1.length = n + 6 := len_p l11
  have l13 : ((i1_13 g a n b1 b2)).1.length = n + 7 := len_n l12
  have l14 : ((i1_14 g a n b1 b2)).1.length = n + 7 := len_p l13
  have l15 : ((i1_15 g a n b1 b2)).1.length = n + 8 := len_n l14
  have l16 : ((i1_16 g a n b1 b2)).1.length = n + 8 := len_p l15
  have l17 : ((i1_17 g a n b1 b2)).1.length = n + 8 := len_p l16
  have l18 : ((i1_18 g a n b1 b2)).1.length = n + 8 := len_p l17
  exact l18
theorem s_init1 {g : AG} {a n b1 b2 : Nat} {b : Nat} {y : SH} (hs : g.1[b]? = some y) : (i1 g a n b1 b2).1[b]? = some y := by
  have s1 : ((i1_1 g a n b1 b2)).1[b]? = some y := sh_n hs
  have s2 : ((i1_2 g a n b1 b2)).1[b]? = some y := sh_p s1
  have s3 : ((i1_3 g a n b1 b2)).1[b]? = some y := sh_n s2
  have s4 : ((i1_4 g a n b1 b2)).1[b]? = some y := sh_p s3
  have s5 : ((i1_5 g a n b1 b2)).1[b]? = some y := sh_n s4
  have s6 : ((i1_6 g a n b1 b2)).1[b]? = some y := sh_p s5
  have s7 : ((i1_7 g a n b1 b2)).1[b]? = some y := sh_n s6
  have s8 : ((i1_8 g a n b1 b2)).1[b]? = some y := sh_p s7
  have s9 : ((i1_9 g a n b1 b2)).1[b]? = some y := sh_n s8
  have s10 : ((i1_10 g a n b1 b2)).1[b]? = some y := sh_p s9
  have s11 : ((i1_11 g a n b1 b2)).1[b]? = some y := sh_n s10
  have s12 : ((i1_12 g a n b1 b2)).1[b]? = some y := sh_p s11
  have s13 : ((i1_13 g a n b1 b2)).1[b]? = some y := sh_n s12
  have s14 : ((i1_14 g a n b1 b2)).1[b]? = some y := sh_p s13
  have s15 : ((i1_15 g a n b1 b2)).1[b]? = some y := sh_n s14
  have s16 : ((i1_16 g a n b1 b2)).1[b]? = some y := sh_p s15
  have s17 : ((i1_17 g a n b1 b2)).1[b]? = some y := sh_p s16
  have s18 : ((i1_18 g a n b1 b2)).1[b]? = some y := sh_p s17
  exact s18
theorem ct_init1 {g : AG} {a n b1 b2 A B : Nat} (h : g.2.2.2.1 = A ∧ g.2.2.2.2 = B) : (i1 g a n b1 b2).2.2.2.1 = A + 8 ∧ (i1 g a n b1 b2).2.2.2.2 = B + 866 := by
  obtain ⟨rfl, rfl⟩ := h
  have c0 : g.2.2.2.1 = g.2.2.2.1 + 0 ∧ g.2.2.2.2 = g.2.2.2.2 + 0 := ⟨rfl, rfl⟩
  have c1 : ((i1_1 g a n b1 b2)).2.2.2.1 = g.2.2.2.1 + 1 ∧ ((i1_1 g a n b1 b2)).2.2.2.2 = g.2.2.2.2 + 120 := ct_n c0
  have c2 : ((i1_2 g a n b1 b2)).2.2.2.1 = g.2.2.2.1 + 1 ∧ ((i1_2 g a n b1 b2)).2.2.2.2 = g.2.2.2.2 + 120 := ct_p c1
  have c3 : ((i1_3 g a n b1 b2)).2.2.2.1 = g.2.2.2.1 + 2 ∧ ((i1_3 g a n b1 b2)).2.2.2.2 = g.2.2.2.2 + 240 := ct_n c2
  have c4 : ((i1_4 g a n b1 b2)).2.2.2.1 = g.2.2.2.1 + 2 ∧ ((i1_4 g a n b1 b2)).2.2.2.2 = g.2.2.2.2 + 240 := ct_p c3
  have c5 : ((i1_5 g a n b1 b2)).2.2.2.1 = g.2.2.2.1 + 3 ∧ ((i1_5 g a n b1 b2)).2.2.2.2 = g.2.2.2.2 + 360 := ct_n c4
  have c6 : ((i1_6 g a n b1 b2)).2.2.2.1 = g.2.2.2.1 + 3 ∧ ((i1_6 g a n b1 b2)).2.2.2.2 = g.2.2.2.2 + 360 := ct_p c5
  have c7 : ((i1_7 g a n b1 b2)).2.2.2.1 = g.2.2.2.1 + 4 ∧ ((i1_7 g a n b1 b2)).2.2.2.2 = g.2.2.2.2 + 480 := ct_n c6
  have c8 : ((i1_8 g a n b1 b2)).2.2.2.1 = g.2.2.2.1 + 4 ∧ ((i1_8 g a n b1 b2)).2.2.2.2 = g.2.2.2.2 + 480 := ct_p c7
  have c9 : ((i1_9 g a n b1 b2)).2.2.2.1 = g.2.2.2.1 + 5 ∧ ((i1_9 g a n b1 b2)).2.2.2.2 = g.2.2.2.2 + 600 := ct_n c8
  have c10 : ((i1_10 g a n b1 b2)).2.2.2.1 = g.2.2.2.1 + 5 ∧ ((i1_10 g a n b1 b2)).2.2.2.2 = g.2.2.2.2 + 600 := ct_p c9
  have c11 : ((i1_11 g a n b1 b2)).2.2.2.1 = g.2.2.2.1 + 6 ∧ ((i1_11 g a n b1 b2)).2.2.2.2 = g.2.2.2.2 + 626 := ct_n c10
  have c12 : ((i1_12 g a n b1 b2)).2.2.2.1 = g.2.2.2.1 + 6 ∧ ((i1_12 g a n b1 b2)).2.2.2.2 = g.2.2.2.2 + 626 := ct_p c11
  have c13 : ((i1_13 g a n b1 b2)).2.2.2.1 = g.2.2.2.1 + 7 ∧ ((i1_13 g a n b1 b2)).2.2.2.2 = g.2.2.2.2 + 746 := ct_n c12
  have c14 : ((i1_14 g a n b1 b2)).2.2.2.1 = g.2.2.2.1 + 7 ∧ ((i1_14 g a n b1 b2)).2.2.2.2 = g.2.2.2.2 + 746 := ct_p c13
  have c15 : ((i1_15 g a n b1 b2)).2.2.2.1 = g.2.2.2.1 + 8 ∧ ((i1_15 g a n b1 b2)).2.2.2.2 = g.2.2.2.2 + 866 := ct_n c14
  have c16 : ((i1_16 g a n b1 b2)).2.2.2.1 = g.2.2.2.1 + 8 ∧ ((i1_16 g a n b1 b2)).2.2.2.2 = g.2.2.2.2 + 866 := ct_p c15
  have c17 : ((i1_17 g a n b1 b2)).2.2.2.1 = g.2.2.2.1 + 8 ∧ ((i1_17 g a n b1 b2)).2.2.2.2 = g.2.2.2.2 + 866 := ct_p c16
  have c18 : ((i1_18 g a n b1 b2)).2.2.2.1 = g.2.2.2.1 + 8 ∧ ((i1_18 g a n b1 b2)).2.2.2.2 = g.2.2.2.2 + 866 := ct_p c17
  exact c18
set_option maxRecDepth 100000 in
set_option maxHeartbeats 4000000 in
theorem c_init1 {Γ : GX} {g : AG} {I : IF} {a n b1 b2 : Nat} (hF : gF Γ = true) (hz : Zr (g, I)) (hn : g.1.length = n) (ha : 0 < a) (han : a < n) (hs : g.1[a]? = some (.inl 1)) : CT Γ 1 mX1_init [.inr (some a), .inr (some b1), .inr (some b2)] (g, I) (none, (i1 g a n b1 b2, I)) := by
  have c0 : g.2.2.2.1 = g.2.2.2.1 + 0 ∧ g.2.2.2.2 = g.2.2.2.2 + 0 := ⟨rfl, rfl⟩
  have z1 : Zr ((i1_1 g a n b1 b2), I) := zr_n hz
  have l1 : ((i1_1 g a n b1 b2)).1.length = n + 1 := len_n hn
  have s1 : ((i1_1 g a n b1 b2)).1[a]? = some (.inl 1) := sh_n hs
  have c1 : ((i1_1 g a n b1 b2)).2.2.2.1 = g.2.2.2.1 + 1 ∧ ((i1_1 g a n b1 b2)).2.2.2.2 = g.2.2.2.2 + 120 := ct_n c0
  have z2 : Zr ((i1_2 g a n b1 b2), I) := zr_p z1 l1 (lt_a han)
  have l2 : ((i1_2 g a n b1 b2)).1.length = n + 1 := len_p l1
  have s2 : ((i1_2 g a n b1 b2)).1[a]? = some (.inl 1) := sh_p s1
  have c2 : ((i1_2 g a n b1 b2)).2.2.2.1 = g.2.2.2.1 + 1 ∧ ((i1_2 g a n b1 b2)).2.2.2.2 = g.2.2.2.2 + 120 := ct_p c1
  have z3 : Zr ((i1_3 g a n b1 b2), I) := zr_n z2
  have l3 : ((i1_3 g a n b1 b2)).1.length = n + 2 := len_n l2
  have s3 : ((i1_3 g a n b1 b2)).1[a]? = some (.inl 1) := sh_n s2
  have c3 : ((i1_3 g a n b1 b2)).2.2.2.1 = g.2.2.2.1 + 2 ∧ ((i1_3 g a n b1 b2)).2.2.2.2 = g.2.2.2.2 + 240 := ct_n c2
  have z4 : Zr ((i1_4 g a n b1 b2), I) := zr_p z3 l3 (lt_a han)
  have l4 : ((i1_4 g a n b1 b2)).1.length = n + 2 := len_p l3
  have s4 : ((i1_4 g a n b1 b2)).1[a]? = some (.inl 1) := sh_p s3
  have c4 : ((i1_4 g a n b1 b2)).2.2.2.1 = g.2.2.2.1 + 2 ∧ ((i1_4 g a n b1 b2)).2.2.2.2 = g.2.2.2.2 + 240 := ct_p c3
  have z5 : Zr ((i1_5 g a n b1 b2), I) := zr_n z4
  have l5 : ((i1_5 g a n b1 b2)).1.length = n + 3 := len_n l4
  have s5 : ((i1_5 g a n b1 b2)).1[a]? = some (.inl 1) := sh_n s4
  have c5 : ((i1_5 g a n b1 b2)).2.2.2.1 = g.2.2.2.1 + 3 ∧ ((i1_5 g a n b1 b2)).2.2.2.2 = g.2.2.2.2 + 360 := ct_n c4
  have z6 : Zr ((i1_6 g a n b1 b2), I) := zr_p z5 l5 (lt_a han)
  have l6 : ((i1_6 g a n b1 b2)).1.length = n + 3 := len_p l5
  have s6 : ((i1_6 g a n b1 b2)).1[a]? = some (.inl 1) := sh_p s5
  have c6 : ((i1_6 g a n b1 b2)).2.2.2.1 = g.2.2.2.1 + 3 ∧ ((i1_6 g a n b1 b2)).2.2.2.2 = g.2.2.2.2 + 360 := ct_p c5
  have z7 : Zr ((i1_7 g a n b1 b2), I) := zr_n z6
  have l7 : ((i1_7 g a n b1 b2)).1.length = n + 4 := len_n l6
  have s7 : ((i1_7 g a n b1 b2)).1[a]? = some (.inl 1) := sh_n s6
  have c7 : ((i1_7 g a n b1 b2)).2.2.2.1 = g.2.2.2.1 + 4 ∧ ((i1_7 g a n b1 b2)).2.2.2.2 = g.2.2.2.2 + 480 := ct_n c6
  have z8 : Zr ((i1_8 g a n b1 b2), I) := zr_p z7 l7 (lt_a han)
  have l8 : ((i1_8 g a n b1 b2)).1.length = n + 4 := len_p l7
  have s8 : ((i1_8 g a n b1 b2)).1[a]? = some (.inl 1) := sh_p s7
  have c8 : ((i1_8 g a n b1 b2)).2.2.2.1 = g.2.2.2.1 + 4 ∧ ((i1_8 g a n b1 b2)).2.2.2.2 = g.2.2.2.2 + 480 := ct_p c7
  have z9 : Zr ((i1_9 g a n b1 b2), I) := zr_n z8
  have l9 : ((i1_9 g a n b1 b2)).1.length = n + 5 := len_n l8
  have s9 : ((i1_9 g a n b1 b2)).1[a]? = some (.inl 1) := sh_n s8
  have c9 : ((i1_9 g a n b1 b2)).2.2.2.1 = g.2.2.2.1 + 5 ∧ ((i1_9 g a n b1 b2)).2.2.2.2 = g.2.2.2.2 + 600 := ct_n c8
  have z10 : Zr ((i1_10 g a n b1 b2), I) := zr_p z9 l9 (lt_a han)
  have l10 : ((i1_10 g a n b1 b2)).1.length = n + 5 := len_p l9
  have s10 : ((i1_10 g a n b1 b2)).1[a]? = some (.inl 1) := sh_p s9
  have c10 : ((i1_10 g a n b1 b2)).2.2.2.1 = g.2.2.2.1 + 5 ∧ ((i1_10 g a n b1 b2)).2.2.2.2 = g.2.2.2.2 + 600 := ct_p c9
  have z11 : Zr ((i1_11 g a n b1 b2), I) := zr_n z10
  have l11 : ((i1_11 g a n b1 b2)).1.length = n + 6 := len_n l10
  have s11 : ((i1_11 g a n b1 b2)).1[a]? = some (.inl 1) := sh_n s10
  have c11 : ((i1_11 g a n b1 b2)).2.2.2.1 = g.2.2.2.1 + 6 ∧ ((i1_11 g a n b1 b2)).2.2.2.2 = g.2.2.2.2 + 626 := ct_n c10
  have z12 : Zr ((i1_12 g a n b1 b2), I) := zr_p z11 l11 (lt_a han)
  have l12 : ((i1_12 g a n b1 b2)).1.length = n + 6 := len_p l11
  have s12 : ((i1_12 g a n b1 b2)).1[a]? = some (.inl 1) := sh_p s11
  have c12 : ((i1_12 g a n b1 b2)).2.2.2.1 = g.2.2.2.1 + 6 ∧ ((i1_12 g a n b1 b2)).2.2.2.2 = g.2.2.2.2 + 626 := ct_p c11
  have z13 : Zr ((i1_13 g a n b1 b2), I) := zr_n z12
  have l13 : ((i1_13 g a n b1 b2)).1.length = n + 7 := len_n l12
  have s13 : ((i1_13 g a n b1 b2)).1[a]? = some (.inl 1) := sh_n s12
  have c13 : ((i1_13 g a n b1 b2)).2.2.2.1 = g.2.2.2.1 + 7 ∧ ((i1_13 g a n b1 b2)).2.2.2.2 = g.2.2.2.2 + 746 := ct_n c12
  have z14 : Zr ((i1_14 g a n b1 b2), I) := zr_p z13 l13 (lt_a han)
  have l14 : ((i1_14 g a n b1 b2)).1.length = n + 7 := len_p l13
  have s14 : ((i1_14 g a n b1 b2)).1[a]? = some (.inl 1) := sh_p s13
  have c14 : ((i1_14 g a n b1 b2)).2.2.2.1 = g.2.2.2.1 + 7 ∧ ((i1_14 g a n b1 b2)).2.2.2.2 = g.2.2.2.2 + 746 := ct_p c13
  have z15 : Zr ((i1_15 g a n b1 b2), I) := zr_n z14
  have l15 : ((i1_15 g a n b1 b2)).1.length = n + 8 := len_n l14
  have s15 : ((i1_15 g a n b1 b2)).1[a]? = some (.inl 1) := sh_n s14
  have c15 : ((i1_15 g a n b1 b2)).2.2.2.1 = g.2.2.2.1 + 8 ∧ ((i1_15 g a n b1 b2)).2.2.2.2 = g.2.2.2.2 + 866 := ct_n c14
  have z16 : Zr ((i1_16 g a n b1 b2), I) := zr_p z15 l15 (lt_a han)
  have l16 : ((i1_16 g a n b1 b2)).1.length = n + 8 := len_p l15
  have s16 : ((i1_16 g a n b1 b2)).1[a]? = some (.inl 1) := sh_p s15
  have c16 : ((i1_16 g a n b1 b2)).2.2.2.1 = g.2.2.2.1 + 8 ∧ ((i1_16 g a n b1 b2)).2.2.2.2 = g.2.2.2.2 + 866 := ct_p c15
  have z17 : Zr ((i1_17 g a n b1 b2), I) := zr_p z16 l16 (lt_a han)
  have l17 : ((i1_17 g a n b1 b2)).1.length = n + 8 := len_p l16
  have s17 : ((i1_17 g a n b1 b2)).1[a]? = some (.inl 1) := sh_p s16
  have c17 : ((i1_17 g a n b1 b2)).2.2.2.1 = g.2.2.2.1 + 8 ∧ ((i1_17 g a n b1 b2)).2.2.2.2 = g.2.2.2.2 + 866 := ct_p c16
  have z18 : Zr ((i1_18 g a n b1 b2), I) := zr_p z17 l17 (lt_a han)
  have l18 : ((i1_18 g a n b1 b2)).1.length = n + 8 := len_p l17
  have s18 : ((i1_18 g a n b1 b2)).1[a]? = some (.inl 1) := sh_p s17
  have c18 : ((i1_18 g a n b1 b2)).2.2.2.1 = g.2.2.2.1 + 8 ∧ ((i1_18 g a n b1 b2)).2.2.2.2 = g.2.2.2.2 + 866 := ct_p c17
  have hp0 : 0 < n := Nat.lt_trans ha han
  have cE : (i1 g a n b1 b2).2.2.2.1 = g.2.2.2.1 + 8 ∧ (i1 g a n b1 b2).2.2.2.2 = g.2.2.2.2 + 866 := c18
  refine CT.of (R := (none, (i1 g a n b1 b2, I))) oX1_init (Nat.le_of_ble_eq_true rfl) (cnt0 c0.1 cE.1 (by decide)) (cnt0 c0.2 cE.2 (by decide)) ?_
  show Ev Γ 1 mX1_init 0 [some (.inr (some a)), some (.inr (some b1)), some (.inr (some b2))] [] (g, I) (none, (i1 g a n b1 b2, I))
  refine e_aload_n dX1_init_0 rfl ?_
  refine e_obji dX1_init_1 (ob_1) ob_i ob_c (by decide) (by decide) ha ?_
  refine e_aload_n dX1_init_4 rfl ?_
  refine e_bipush dX1_init_5 (by decide) ⟨by decide, by decide⟩ ?_
  refine e_newaG (g := g) (N := 120) dX1_init_7 rfl ac_int (by decide) (Or.inl rfl) rfl (by decide) hF hn hp0 hz (cnt c0.1 cE.1 (by decide)) (cnt c0.2 cE.2 (by decide)) ?_
  refine e_putG (g := (i1_1 g a n b1 b2)) dX1_init_9 fO_1_9 (by decide +kernel) ha s1 rfl rfl rfl rfl ?_
  refine e_aload_n dX1_init_12 rfl ?_
  refine e_bipush dX1_init_13 (by decide) ⟨by decide, by decide⟩ ?_
  refine e_newaG (g := (i1_2 g a n b1 b2)) (N := 120) dX1_init_15 rfl ac_int (by decide) (Or.inl rfl) rfl (by decide) hF l2 (lt_a hp0) z2 (cnt c2.1 cE.1 (by decide)) (cnt c2.2 cE.2 (by decide)) ?_
  refine e_putG (g := (i1_3 g a n b1 b2)) dX1_init_17 fO_1_15 (by decide +kernel) ha s3 rfl rfl rfl rfl ?_
  refine e_aload_n dX1_init_20 rfl ?_
  refine e_bipush dX1_init_21 (by decide) ⟨by decide, by decide⟩ ?_
  refine e_newaG (g := (i1_4 g a n b1 b2)) (N := 120) dX1_init_23 rfl ac_int (by decide) (Or.inl rfl) rfl (by decide) hF l4 (lt_a hp0) z4 (cnt c4.1 cE.1 (by decide)) (cnt c4.2 cE.2 (by decide)) ?_
  refine e_putG (g := (i1_5 g a n b1 b2)) dX1_init_25 fO_1_18 (by decide +kernel) ha s5 rfl rfl rfl rfl ?_
  refine e_aload_n dX1_init_28 rfl ?_
  refine e_bipush dX1_init_29 (by decide) ⟨by decide, by decide⟩ ?_
  refine e_newaG (g := (i1_6 g a n b1 b2)) (N := 120) dX1_init_31 rfl ac_int (by decide) (Or.inl rfl) rfl (by decide) hF l6 (lt_a hp0) z6 (cnt c6.1 cE.1 (by decide)) (cnt c6.2 cE.2 (by decide)) ?_
  refine e_putG (g := (i1_7 g a n b1 b2)) dX1_init_33 fO_1_21 (by decide +kernel) ha s7 rfl rfl rfl rfl ?_
  refine e_aload_n dX1_init_36 rfl ?_
  refine e_bipush dX1_init_37 (by decide) ⟨by decide, by decide⟩ ?_
  refine e_newaG (g := (i1_8 g a n b1 b2)) (N := 120) dX1_init_39 rfl ac_int (by decide) (Or.inl rfl) rfl (by decide) hF l8 (lt_a hp0) z8 (cnt c8.1 cE.1 (by decide)) (cnt c8.2 cE.2 (by decide)) ?_
  refine e_putG (g := (i1_9 g a n b1 b2)) dX1_init_41 fO_1_24 (by decide +kernel) ha s9 rfl rfl rfl rfl ?_
  refine e_aload_n dX1_init_44 rfl ?_
  refine e_bipush dX1_init_45 (by decide) ⟨by decide, by decide⟩ ?_
  refine e_newaG (g := (i1_10 g a n b1 b2)) (N := 26) dX1_init_47 rfl ac_int (by decide) (Or.inl rfl) rfl (by decide) hF l10 (lt_a hp0) z10 (cnt c10.1 cE.1 (by decide)) (cnt c10.2 cE.2 (by decide)) ?_
  refine e_putG (g := (i1_11 g a n b1 b2)) dX1_init_49 fO_1_27 (by decide +kernel) ha s11 rfl rfl rfl rfl ?_
  refine e_aload_n dX1_init_52 rfl ?_
  refine e_bipush dX1_init_53 (by decide) ⟨by decide, by decide⟩ ?_
  refine e_newaG (g := (i1_12 g a n b1 b2)) (N := 120) dX1_init_55 rfl ac_int (by decide) (Or.inl rfl) rfl (by decide) hF l12 (lt_a hp0) z12 (cnt c12.1 cE.1 (by decide)) (cnt c12.2 cE.2 (by decide)) ?_
  refine e_putG (g := (i1_13 g a n b1 b2)) dX1_init_57 fO_1_30 (by decide +kernel) ha s13 rfl rfl rfl rfl ?_
  refine e_aload_n dX1_init_60 rfl ?_
  refine e_bipush dX1_init_61 (by decide) ⟨by decide, by decide⟩ ?_
  refine e_newaG (g := (i1_14 g a n b1 b2)) (N := 120) dX1_init_63 rfl ac_boolean (by decide) (Or.inl rfl) rfl (by decide) hF l14 (lt_a hp0) z14 (cnt c14.1 cE.1 (by decide)) (cnt c14.2 cE.2 (by decide)) ?_
  refine e_putG (g := (i1_15 g a n b1 b2)) dX1_init_65 fO_1_33 (by decide +kernel) ha s15 rfl rfl rfl rfl ?_
  refine e_aload_n dX1_init_68 rfl ?_
  refine e_aload_n dX1_init_69 rfl ?_
  refine e_putG (g := (i1_16 g a n b1 b2)) dX1_init_70 fO_1_37 (by decide +kernel) ha s16 rfl rfl rfl rfl ?_
  refine e_aload_n dX1_init_73 rfl ?_
  refine e_aload_n dX1_init_74 rfl ?_
  refine e_putG (g := (i1_17 g a n b1 b2)) dX1_init_75 fO_1_41 (by decide +kernel) ha s17 rfl rfl rfl rfl ?_
  exact e_vret dX1_init_78 rfl rfl
def i0_1 (g : AG) (a n b1 b2 : Nat) : AG := nG g (.inr (.int, 120)) 120
def i0_2 (g : AG) (a n b1 b2 : Nat) : AG := pG (i0_1 g a n b1 b2) a 2 (n)
def i0_3 (g : AG) (a n b1 b2 : Nat) : AG := nG (i0_2 g a n b1 b2) (.inr (.int, 120)) 120
def i0_4 (g : AG) (a n b1 b2 : Nat) : AG := pG (i0_3 g a n b1 b2) a 4 (n + 1)
def i0_5 (g : AG) (a n b1 b2 : Nat) : AG := pG (i0_4 g a n b1 b2) a 0 (b1)
def i0_6 (g : AG) (a n b1 b2 : Nat) : AG := pG (i0_5 g a n b1 b2) a 1 (b2)
def i0 (g : AG) (a n b1 b2 : Nat) : AG := (i0_6 g a n b1 b2)
theorem z_init0 {g : AG} {I : IF} {a n b1 b2 : Nat} (hz : Zr (g, I)) (hn : g.1.length = n) (han : a < n) : Zr (i0 g a n b1 b2, I) := by
  have z1 : Zr ((i0_1 g a n b1 b2), I) := zr_n hz
  have l1 : ((i0_1 g a n b1 b2)).1.length = n + 1 := len_n hn
  have z2 : Zr ((i0_2 g a n b1 b2), I) := zr_p z1 l1 (lt_a han)
  have l2 : ((i0_2 g a n b1 b2)).1.length = n + 1 := len_p l1
  have z3 : Zr ((i0_3 g a n b1 b2), I) := zr_n z2
  have l3 : ((i0_3 g a n b1 b2)).1.length = n + 2 := len_n l2
  have z4 : Zr ((i0_4 g a n b1 b2), I) := zr_p z3 l3 (lt_a han)
  have l4 : ((i0_4 g a n b1 b2)).1.length = n + 2 := len_p l3
  have z5 : Zr ((i0_5 g a n b1 b2), I) := zr_p z4 l4 (lt_a han)
  have l5 : ((i0_5 g a n b1 b2)).1.length = n + 2 := len_p l4
  have z6 : Zr ((i0_6 g a n b1 b2), I) := zr_p z5 l5 (lt_a han)
  have l6 : ((i0_6 g a n b1 b2)).1.length = n + 2 := len_p l5
  exact z6
theorem l_init0 {g : AG} {a n b1 b2 : Nat} (hn : g.1.length = n) : (i0 g a n b1 b2).1.length = n + 2 := by
  have l1 : ((i0_1 g a n b1 b2)).1.length = n + 1 := len_n hn
  have l2 : ((i0_2 g a n b1 b2)).1.length = n + 1 := len_p l1
  have l3 : ((i0_3 g a n b1 b2)).1.length = n + 2 := len_n l2
  have l4 : ((i0_4 g a n b1 b2)).1.length = n + 2 := len_p l3
  have l5 : ((i0_5 g a n b1 b2)).1.length = n + 2 := len_p l4
  have l6 : ((i0_6 g a n b1 b2)).1.length = n + 2 := len_p l5
  exact l6
theorem s_init0 {g : AG} {a n b1 b2 : Nat} {b : Nat} {y : SH} (hs : g.1[b]? = some y) : (i0 g a n b1 b2).1[b]? = some y := by
  have s1 : ((i0_1 g a n b1 b2)).1[b]? = some y := sh_n hs
  have s2 : ((i0_2 g a n b1 b2)).1[b]? = some y := sh_p s1
  have s3 : ((i0_3 g a n b1 b2)).1[b]? = some y := sh_n s2
  have s4 : ((i0_4 g a n b1 b2)).1[b]? = some y := sh_p s3
  have s5 : ((i0_5 g a n b1 b2)).1[b]? = some y := sh_p s4
  have s6 : ((i0_6 g a n b1 b2)).1[b]? = some y := sh_p s5
  exact s6
theorem ct_init0 {g : AG} {a n b1 b2 A B : Nat} (h : g.2.2.2.1 = A ∧ g.2.2.2.2 = B) : (i0 g a n b1 b2).2.2.2.1 = A + 2 ∧ (i0 g a n b1 b2).2.2.2.2 = B + 240 := by
  obtain ⟨rfl, rfl⟩ := h
  have c0 : g.2.2.2.1 = g.2.2.2.1 + 0 ∧ g.2.2.2.2 = g.2.2.2.2 + 0 := ⟨rfl, rfl⟩
  have c1 : ((i0_1 g a n b1 b2)).2.2.2.1 = g.2.2.2.1 + 1 ∧ ((i0_1 g a n b1 b2)).2.2.2.2 = g.2.2.2.2 + 120 := ct_n c0
  have c2 : ((i0_2 g a n b1 b2)).2.2.2.1 = g.2.2.2.1 + 1 ∧ ((i0_2 g a n b1 b2)).2.2.2.2 = g.2.2.2.2 + 120 := ct_p c1
  have c3 : ((i0_3 g a n b1 b2)).2.2.2.1 = g.2.2.2.1 + 2 ∧ ((i0_3 g a n b1 b2)).2.2.2.2 = g.2.2.2.2 + 240 := ct_n c2
  have c4 : ((i0_4 g a n b1 b2)).2.2.2.1 = g.2.2.2.1 + 2 ∧ ((i0_4 g a n b1 b2)).2.2.2.2 = g.2.2.2.2 + 240 := ct_p c3
  have c5 : ((i0_5 g a n b1 b2)).2.2.2.1 = g.2.2.2.1 + 2 ∧ ((i0_5 g a n b1 b2)).2.2.2.2 = g.2.2.2.2 + 240 := ct_p c4
  have c6 : ((i0_6 g a n b1 b2)).2.2.2.1 = g.2.2.2.1 + 2 ∧ ((i0_6 g a n b1 b2)).2.2.2.2 = g.2.2.2.2 + 240 := ct_p c5
  exact c6
set_option maxRecDepth 100000 in
set_option maxHeartbeats 4000000 in
theorem c_init0 {Γ : GX} {g : AG} {I : IF} {a n b1 b2 : Nat} (hF : gF Γ = true) (hz : Zr (g, I)) (hn : g.1.length = n) (ha : 0 < a) (han : a < n) (hs : g.1[a]? = some (.inl 0)) : CT Γ 1 mX0_init [.inr (some a), .inr (some b1), .inr (some b2)] (g, I) (none, (i0 g a n b1 b2, I)) := by
  have c0 : g.2.2.2.1 = g.2.2.2.1 + 0 ∧ g.2.2.2.2 = g.2.2.2.2 + 0 := ⟨rfl, rfl⟩
  have z1 : Zr ((i0_1 g a n b1 b2), I) := zr_n hz
  have l1 : ((i0_1 g a n b1 b2)).1.length = n + 1 := len_n hn
  have s1 : ((i0_1 g a n b1 b2)).1[a]? = some (.inl 0) := sh_n hs
  have c1 : ((i0_1 g a n b1 b2)).2.2.2.1 = g.2.2.2.1 + 1 ∧ ((i0_1 g a n b1 b2)).2.2.2.2 = g.2.2.2.2 + 120 := ct_n c0
  have z2 : Zr ((i0_2 g a n b1 b2), I) := zr_p z1 l1 (lt_a han)
  have l2 : ((i0_2 g a n b1 b2)).1.length = n + 1 := len_p l1
  have s2 : ((i0_2 g a n b1 b2)).1[a]? = some (.inl 0) := sh_p s1
  have c2 : ((i0_2 g a n b1 b2)).2.2.2.1 = g.2.2.2.1 + 1 ∧ ((i0_2 g a n b1 b2)).2.2.2.2 = g.2.2.2.2 + 120 := ct_p c1
  have z3 : Zr ((i0_3 g a n b1 b2), I) := zr_n z2
  have l3 : ((i0_3 g a n b1 b2)).1.length = n + 2 := len_n l2
  have s3 : ((i0_3 g a n b1 b2)).1[a]? = some (.inl 0) := sh_n s2
  have c3 : ((i0_3 g a n b1 b2)).2.2.2.1 = g.2.2.2.1 + 2 ∧ ((i0_3 g a n b1 b2)).2.2.2.2 = g.2.2.2.2 + 240 := ct_n c2
  have z4 : Zr ((i0_4 g a n b1 b2), I) := zr_p z3 l3 (lt_a han)
  have l4 : ((i0_4 g a n b1 b2)).1.length = n + 2 := len_p l3
  have s4 : ((i0_4 g a n b1 b2)).1[a]? = some (.inl 0) := sh_p s3
  have c4 : ((i0_4 g a n b1 b2)).2.2.2.1 = g.2.2.2.1 + 2 ∧ ((i0_4 g a n b1 b2)).2.2.2.2 = g.2.2.2.2 + 240 := ct_p c3
  have z5 : Zr ((i0_5 g a n b1 b2), I) := zr_p z4 l4 (lt_a han)
  have l5 : ((i0_5 g a n b1 b2)).1.length = n + 2 := len_p l4
  have s5 : ((i0_5 g a n b1 b2)).1[a]? = some (.inl 0) := sh_p s4
  have c5 : ((i0_5 g a n b1 b2)).2.2.2.1 = g.2.2.2.1 + 2 ∧ ((i0_5 g a n b1 b2)).2.2.2.2 = g.2.2.2.2 + 240 := ct_p c4
  have z6 : Zr ((i0_6 g a n b1 b2), I) := zr_p z5 l5 (lt_a han)
  have l6 : ((i0_6 g a n b1 b2)).1.length = n + 2 := len_p l5
  have s6 : ((i0_6 g a n b1 b2)).1[a]? = some (.inl 0) := sh_p s5
  have c6 : ((i0_6 g a n b1 b2)).2.2.2.1 = g.2.2.2.1 + 2 ∧ ((i0_6 g a n b1 b2)).2.2.2.2 = g.2.2.2.2 + 240 := ct_p c5
  have hp0 : 0 < n := Nat.lt_trans ha han
  have cE : (i0 g a n b1 b2).2.2.2.1 = g.2.2.2.1 + 2 ∧ (i0 g a n b1 b2).2.2.2.2 = g.2.2.2.2 + 240 := c6
  refine CT.of (R := (none, (i0 g a n b1 b2, I))) oX0_init (Nat.le_of_ble_eq_true rfl) (cnt0 c0.1 cE.1 (by decide)) (cnt0 c0.2 cE.2 (by decide)) ?_
  show Ev Γ 1 mX0_init 0 [some (.inr (some a)), some (.inr (some b1)), some (.inr (some b2))] [] (g, I) (none, (i0 g a n b1 b2, I))
  refine e_aload_n dX0_init_0 rfl ?_
  refine e_obji dX0_init_1 (ob_0) ob_i ob_c (by decide) (by decide) ha ?_
  refine e_aload_n dX0_init_4 rfl ?_
  refine e_bipush dX0_init_5 (by decide) ⟨by decide, by decide⟩ ?_
  refine e_newaG (g := g) (N := 120) dX0_init_7 rfl ac_int (by decide) (Or.inl rfl) rfl (by decide) hF hn hp0 hz (cnt c0.1 cE.1 (by decide)) (cnt c0.2 cE.2 (by decide)) ?_
  refine e_putG (g := (i0_1 g a n b1 b2)) dX0_init_9 fO_0_9 (by decide +kernel) ha s1 rfl rfl rfl rfl ?_
  refine e_aload_n dX0_init_12 rfl ?_
  refine e_bipush dX0_init_13 (by decide) ⟨by decide, by decide⟩ ?_
  refine e_newaG (g := (i0_2 g a n b1 b2)) (N := 120) dX0_init_15 rfl ac_int (by decide) (Or.inl rfl) rfl (by decide) hF l2 (lt_a hp0) z2 (cnt c2.1 cE.1 (by decide)) (cnt c2.2 cE.2 (by decide)) ?_
  refine e_putG (g := (i0_3 g a n b1 b2)) dX0_init_17 fO_0_15 (by decide +kernel) ha s3 rfl rfl rfl rfl ?_
  refine e_aload_n dX0_init_20 rfl ?_
  refine e_aload_n dX0_init_21 rfl ?_
  refine e_putG (g := (i0_4 g a n b1 b2)) dX0_init_22 fO_0_18 (by decide +kernel) ha s4 rfl rfl rfl rfl ?_
  refine e_aload_n dX0_init_25 rfl ?_
  refine e_aload_n dX0_init_26 rfl ?_
  refine e_putG (g := (i0_5 g a n b1 b2)) dX0_init_27 fO_0_22 (by decide +kernel) ha s5 rfl rfl rfl rfl ?_
  exact e_vret dX0_init_30 rfl rfl
def i3_1 (g : AG) (a n b1 b2 b3 : Nat) : AG := nG g (.inr (.boolean, 80)) 80
def i3_2 (g : AG) (a n b1 b2 b3 : Nat) : AG := pG (i3_1 g a n b1 b2 b3) a 3 (n)
def i3_3 (g : AG) (a n b1 b2 b3 : Nat) : AG := pG (i3_2 g a n b1 b2 b3) a 0 (b1)
def i3_4 (g : AG) (a n b1 b2 b3 : Nat) : AG := pG (i3_3 g a n b1 b2 b3) a 1 (b2)
def i3_5 (g : AG) (a n b1 b2 b3 : Nat) : AG := pG (i3_4 g a n b1 b2 b3) a 2 (b3)
def i3 (g : AG) (a n b1 b2 b3 : Nat) : AG := (i3_5 g a n b1 b2 b3)
theorem z_init3 {g : AG} {I : IF} {a n b1 b2 b3 : Nat} (hz : Zr (g, I)) (hn : g.1.length = n) (han : a < n) : Zr (i3 g a n b1 b2 b3, I) := by
  have z1 : Zr ((i3_1 g a n b1 b2 b3), I) := zr_n hz
  have l1 : ((i3_1 g a n b1 b2 b3)).1.length = n + 1 := len_n hn
  have z2 : Zr ((i3_2 g a n b1 b2 b3), I) := zr_p z1 l1 (lt_a han)
  have l2 : ((i3_2 g a n b1 b2 b3)).1.length = n + 1 := len_p l1
  have z3 : Zr ((i3_3 g a n b1 b2 b3), I) := zr_p z2 l2 (lt_a han)
  have l3 : ((i3_3 g a n b1 b2 b3)).1.length = n + 1 := len_p l2
  have z4 : Zr ((i3_4 g a n b1 b2 b3), I) := zr_p z3 l3 (lt_a han)
  have l4 : ((i3_4 g a n b1 b2 b3)).1.length = n + 1 := len_p l3
  have z5 : Zr ((i3_5 g a n b1 b2 b3), I) := zr_p z4 l4 (lt_a han)
  have l5 : ((i3_5 g a n b1 b2 b3)).1.length = n + 1 := len_p l4
  exact z5
theorem l_init3 {g : AG} {a n b1 b2 b3 : Nat} (hn : g.1.length = n) : (i3 g a n b1 b2 b3).1.length = n + 1 := by
  have l1 : ((i3_1 g a n b1 b2 b3)).1.length = n + 1 := len_n hn
  have l2 : ((i3_2 g a n b1 b2 b3)).1.length = n + 1 := len_p l1
  have l3 : ((i3_3 g a n b1 b2 b3)).1.length = n + 1 := len_p l2
  have l4 : ((i3_4 g a n b1 b2 b3)).1.length = n + 1 := len_p l3
  have l5 : ((i3_5 g a n b1 b2 b3)).1.length = n + 1 := len_p l4
  exact l5
theorem s_init3 {g : AG} {a n b1 b2 b3 : Nat} {b : Nat} {y : SH} (hs : g.1[b]? = some y) : (i3 g a n b1 b2 b3).1[b]? = some y := by
  have s1 : ((i3_1 g a n b1 b2 b3)).1[b]? = some y := sh_n hs
  have s2 : ((i3_2 g a n b1 b2 b3)).1[b]? = some y := sh_p s1
  have s3 : ((i3_3 g a n b1 b2 b3)).1[b]? = some y := sh_p s2
  have s4 : ((i3_4 g a n b1 b2 b3)).1[b]? = some y := sh_p s3
  have s5 : ((i3_5 g a n b1 b2 b3)).1[b]? = some y := sh_p s4
  exact s5
theorem ct_init3 {g : AG} {a n b1 b2 b3 A B : Nat} (h : g.2.2.2.1 = A ∧ g.2.2.2.2 = B) : (i3 g a n b1 b2 b3).2.2.2.1 = A + 1 ∧ (i3 g a n b1 b2 b3).2.2.2.2 = B + 80 := by
  obtain ⟨rfl, rfl⟩ := h
  have c0 : g.2.2.2.1 = g.2.2.2.1 + 0 ∧ g.2.2.2.2 = g.2.2.2.2 + 0 := ⟨rfl, rfl⟩
  have c1 : ((i3_1 g a n b1 b2 b3)).2.2.2.1 = g.2.2.2.1 + 1 ∧ ((i3_1 g a n b1 b2 b3)).2.2.2.2 = g.2.2.2.2 + 80 := ct_n c0
  have c2 : ((i3_2 g a n b1 b2 b3)).2.2.2.1 = g.2.2.2.1 + 1 ∧ ((i3_2 g a n b1 b2 b3)).2.2.2.2 = g.2.2.2.2 + 80 := ct_p c1
  have c3 : ((i3_3 g a n b1 b2 b3)).2.2.2.1 = g.2.2.2.1 + 1 ∧ ((i3_3 g a n b1 b2 b3)).2.2.2.2 = g.2.2.2.2 + 80 := ct_p c2
  have c4 : ((i3_4 g a n b1 b2 b3)).2.2.2.1 = g.2.2.2.1 + 1 ∧ ((i3_4 g a n b1 b2 b3)).2.2.2.2 = g.2.2.2.2 + 80 := ct_p c3
  have c5 : ((i3_5 g a n b1 b2 b3)).2.2.2.1 = g.2.2.2.1 + 1 ∧ ((i3_5 g a n b1 b2 b3)).2.2.2.2 = g.2.2.2.2 + 80 := ct_p c4
  exact c5
set_option maxRecDepth 100000 in
set_option maxHeartbeats 4000000 in
theorem c_init3 {Γ : GX} {g : AG} {I : IF} {a n b1 b2 b3 : Nat} (hF : gF Γ = true) (hz : Zr (g, I)) (hn : g.1.length = n) (ha : 0 < a) (han : a < n) (hs : g.1[a]? = some (.inl 3)) : CT Γ 1 mX3_init [.inr (some a), .inr (some b1), .inr (some b2), .inr (some b3)] (g, I) (none, (i3 g a n b1 b2 b3, I)) := by
  have c0 : g.2.2.2.1 = g.2.2.2.1 + 0 ∧ g.2.2.2.2 = g.2.2.2.2 + 0 := ⟨rfl, rfl⟩
  have z1 : Zr ((i3_1 g a n b1 b2 b3), I) := zr_n hz
  have l1 : ((i3_1 g a n b1 b2 b3)).1.length = n + 1 := len_n hn
  have s1 : ((i3_1 g a n b1 b2 b3)).1[a]? = some (.inl 3) := sh_n hs
  have c1 : ((i3_1 g a n b1 b2 b3)).2.2.2.1 = g.2.2.2.1 + 1 ∧ ((i3_1 g a n b1 b2 b3)).2.2.2.2 = g.2.2.2.2 + 80 := ct_n c0
  have z2 : Zr ((i3_2 g a n b1 b2 b3), I) := zr_p z1 l1 (lt_a han)
  have l2 : ((i3_2 g a n b1 b2 b3)).1.length = n + 1 := len_p l1
  have s2 : ((i3_2 g a n b1 b2 b3)).1[a]? = some (.inl 3) := sh_p s1
  have c2 : ((i3_2 g a n b1 b2 b3)).2.2.2.1 = g.2.2.2.1 + 1 ∧ ((i3_2 g a n b1 b2 b3)).2.2.2.2 = g.2.2.2.2 + 80 := ct_p c1
  have z3 : Zr ((i3_3 g a n b1 b2 b3), I) := zr_p z2 l2 (lt_a han)
  have l3 : ((i3_3 g a n b1 b2 b3)).1.length = n + 1 := len_p l2
  have s3 : ((i3_3 g a n b1 b2 b3)).1[a]? = some (.inl 3) := sh_p s2
  have c3 : ((i3_3 g a n b1 b2 b3)).2.2.2.1 = g.2.2.2.1 + 1 ∧ ((i3_3 g a n b1 b2 b3)).2.2.2.2 = g.2.2.2.2 + 80 := ct_p c2
  have z4 : Zr ((i3_4 g a n b1 b2 b3), I) := zr_p z3 l3 (lt_a han)
  have l4 : ((i3_4 g a n b1 b2 b3)).1.length = n + 1 := len_p l3
  have s4 : ((i3_4 g a n b1 b2 b3)).1[a]? = some (.inl 3) := sh_p s3
  have c4 : ((i3_4 g a n b1 b2 b3)).2.2.2.1 = g.2.2.2.1 + 1 ∧ ((i3_4 g a n b1 b2 b3)).2.2.2.2 = g.2.2.2.2 + 80 := ct_p c3
  have z5 : Zr ((i3_5 g a n b1 b2 b3), I) := zr_p z4 l4 (lt_a han)
  have l5 : ((i3_5 g a n b1 b2 b3)).1.length = n + 1 := len_p l4
  have s5 : ((i3_5 g a n b1 b2 b3)).1[a]? = some (.inl 3) := sh_p s4
  have c5 : ((i3_5 g a n b1 b2 b3)).2.2.2.1 = g.2.2.2.1 + 1 ∧ ((i3_5 g a n b1 b2 b3)).2.2.2.2 = g.2.2.2.2 + 80 := ct_p c4
  have hp0 : 0 < n := Nat.lt_trans ha han
  have cE : (i3 g a n b1 b2 b3).2.2.2.1 = g.2.2.2.1 + 1 ∧ (i3 g a n b1 b2 b3).2.2.2.2 = g.2.2.2.2 + 80 := c5
  refine CT.of (R := (none, (i3 g a n b1 b2 b3, I))) oX3_init (Nat.le_of_ble_eq_true rfl) (cnt0 c0.1 cE.1 (by decide)) (cnt0 c0.2 cE.2 (by decide)) ?_
  show Ev Γ 1 mX3_init 0 [some (.inr (some a)), some (.inr (some b1)), some (.inr (some b2)), some (.inr (some b3))] [] (g, I) (none, (i3 g a n b1 b2 b3, I))
  refine e_aload_n dX3_init_0 rfl ?_
  refine e_obji dX3_init_1 (ob_3) ob_i ob_c (by decide) (by decide) ha ?_
  refine e_aload_n dX3_init_4 rfl ?_
  refine e_bipush dX3_init_5 (by decide) ⟨by decide, by decide⟩ ?_
  refine e_newaG (g := g) (N := 80) dX3_init_7 rfl ac_boolean (by decide) (Or.inl rfl) rfl (by decide) hF hn hp0 hz (cnt c0.1 cE.1 (by decide)) (cnt c0.2 cE.2 (by decide)) ?_
  refine e_putG (g := (i3_1 g a n b1 b2 b3)) dX3_init_9 fO_3_9 (by decide +kernel) ha s1 rfl rfl rfl rfl ?_
  refine e_aload_n dX3_init_12 rfl ?_
  refine e_aload_n dX3_init_13 rfl ?_
  refine e_putG (g := (i3_2 g a n b1 b2 b3)) dX3_init_14 fO_3_15 (by decide +kernel) ha s2 rfl rfl rfl rfl ?_
  refine e_aload_n dX3_init_17 rfl ?_
  refine e_aload_n dX3_init_18 rfl ?_
  refine e_putG (g := (i3_3 g a n b1 b2 b3)) dX3_init_19 fO_3_19 (by decide +kernel) ha s3 rfl rfl rfl rfl ?_
  refine e_aload_n dX3_init_22 rfl ?_
  refine e_aload_n dX3_init_23 rfl ?_
  refine e_putG (g := (i3_4 g a n b1 b2 b3)) dX3_init_24 fO_3_22 (by decide +kernel) ha s4 rfl rfl rfl rfl ?_
  exact e_vret dX3_init_27 rfl rfl
def i2_1 (g : AG) (a n : Nat) : AG := mG g (n) 11 240
def i2_2 (g : AG) (a n : Nat) : AG := pG (i2_1 g a n) a 0 (n)
def i2_3 (g : AG) (a n : Nat) : AG := nG (i2_2 g a n) (.inr (.int, 11)) 11
def i2_4 (g : AG) (a n : Nat) : AG := pG (i2_3 g a n) a 1 (n + 12)
def i2 (g : AG) (a n : Nat) : AG := (i2_4 g a n)
theorem z_init2 {g : AG} {I : IF} {a n : Nat} (hz : Zr (g, I)) (hn : g.1.length = n) (han : a < n) : Zr (i2 g a n, I) := by
  have z1 : Zr ((i2_1 g a n), I) := zr_m hz hn
  have l1 : ((i2_1 g a n)).1.length = n + 12 := len_m hn
  have z2 : Zr ((i2_2 g a n), I) := zr_p z1 l1 (lt_a han)
  have l2 : ((i2_2 g a n)).1.length = n + 12 := len_p l1
  have z3 : Zr ((i2_3 g a n), I) := zr_n z2
  have l3 : ((i2_3 g a n)).1.length = n + 13 := len_n l2
  have z4 : Zr ((i2_4 g a n), I) := zr_p z3 l3 (lt_a han)
  have l4 : ((i2_4 g a n)).1.length = n + 13 := len_p l3
  exact z4
theorem l_init2 {g : AG} {a n : Nat} (hn : g.1.length = n) : (i2 g a n).1.length = n + 13 := by
  have l1 : ((i2_1 g a n)).1.length = n + 12 := len_m hn
  have l2 : ((i2_2 g a n)).1.length = n + 12 := len_p l1
  have l3 : ((i2_3 g a n)).1.length = n + 13 := len_n l2
  have l4 : ((i2_4 g a n)).1.length = n + 13 := len_p l3
  exact l4
theorem s_init2 {g : AG} {a n : Nat} {b : Nat} {y : SH} (hs : g.1[b]? = some y) : (i2 g a n).1[b]? = some y := by
  have s1 : ((i2_1 g a n)).1[b]? = some y := sh_m hs
  have s2 : ((i2_2 g a n)).1[b]? = some y := sh_p s1
  have s3 : ((i2_3 g a n)).1[b]? = some y := sh_n s2
  have s4 : ((i2_4 g a n)).1[b]? = some y := sh_p s3
  exact s4
theorem ct_init2 {g : AG} {a n A B : Nat} (h : g.2.2.2.1 = A ∧ g.2.2.2.2 = B) : (i2 g a n).2.2.2.1 = A + 13 ∧ (i2 g a n).2.2.2.2 = B + 2662 := by
  obtain ⟨rfl, rfl⟩ := h
  have c0 : g.2.2.2.1 = g.2.2.2.1 + 0 ∧ g.2.2.2.2 = g.2.2.2.2 + 0 := ⟨rfl, rfl⟩
  have c1 : ((i2_1 g a n)).2.2.2.1 = g.2.2.2.1 + 12 ∧ ((i2_1 g a n)).2.2.2.2 = g.2.2.2.2 + 2651 := ct_m c0
  have c2 : ((i2_2 g a n)).2.2.2.1 = g.2.2.2.1 + 12 ∧ ((i2_2 g a n)).2.2.2.2 = g.2.2.2.2 + 2651 := ct_p c1
  have c3 : ((i2_3 g a n)).2.2.2.1 = g.2.2.2.1 + 13 ∧ ((i2_3 g a n)).2.2.2.2 = g.2.2.2.2 + 2662 := ct_n c2
  have c4 : ((i2_4 g a n)).2.2.2.1 = g.2.2.2.1 + 13 ∧ ((i2_4 g a n)).2.2.2.2 = g.2.2.2.2 + 2662 := ct_p c3
  exact c4
set_option maxRecDepth 100000 in
set_option maxHeartbeats 4000000 in
theorem c_init2 {Γ : GX} {g : AG} {I : IF} {a n : Nat} (hF : gF Γ = true) (hz : Zr (g, I)) (hn : g.1.length = n) (ha : 0 < a) (han : a < n) (hs : g.1[a]? = some (.inl 2)) : CT Γ 1 mX2_init [.inr (some a)] (g, I) (none, (i2 g a n, I)) := by
  have c0 : g.2.2.2.1 = g.2.2.2.1 + 0 ∧ g.2.2.2.2 = g.2.2.2.2 + 0 := ⟨rfl, rfl⟩
  have z1 : Zr ((i2_1 g a n), I) := zr_m hz hn
  have l1 : ((i2_1 g a n)).1.length = n + 12 := len_m hn
  have s1 : ((i2_1 g a n)).1[a]? = some (.inl 2) := sh_m hs
  have c1 : ((i2_1 g a n)).2.2.2.1 = g.2.2.2.1 + 12 ∧ ((i2_1 g a n)).2.2.2.2 = g.2.2.2.2 + 2651 := ct_m c0
  have z2 : Zr ((i2_2 g a n), I) := zr_p z1 l1 (lt_a han)
  have l2 : ((i2_2 g a n)).1.length = n + 12 := len_p l1
  have s2 : ((i2_2 g a n)).1[a]? = some (.inl 2) := sh_p s1
  have c2 : ((i2_2 g a n)).2.2.2.1 = g.2.2.2.1 + 12 ∧ ((i2_2 g a n)).2.2.2.2 = g.2.2.2.2 + 2651 := ct_p c1
  have z3 : Zr ((i2_3 g a n), I) := zr_n z2
  have l3 : ((i2_3 g a n)).1.length = n + 13 := len_n l2
  have s3 : ((i2_3 g a n)).1[a]? = some (.inl 2) := sh_n s2
  have c3 : ((i2_3 g a n)).2.2.2.1 = g.2.2.2.1 + 13 ∧ ((i2_3 g a n)).2.2.2.2 = g.2.2.2.2 + 2662 := ct_n c2
  have z4 : Zr ((i2_4 g a n), I) := zr_p z3 l3 (lt_a han)
  have l4 : ((i2_4 g a n)).1.length = n + 13 := len_p l3
  have s4 : ((i2_4 g a n)).1[a]? = some (.inl 2) := sh_p s3
  have c4 : ((i2_4 g a n)).2.2.2.1 = g.2.2.2.1 + 13 ∧ ((i2_4 g a n)).2.2.2.2 = g.2.2.2.2 + 2662 := ct_p c3
  have hp0 : 0 < n := Nat.lt_trans ha han
  have cE : (i2 g a n).2.2.2.1 = g.2.2.2.1 + 13 ∧ (i2 g a n).2.2.2.2 = g.2.2.2.2 + 2662 := c4
  refine CT.of (R := (none, (i2 g a n, I))) oX2_init (Nat.le_of_ble_eq_true rfl) (cnt0 c0.1 cE.1 (by decide)) (cnt0 c0.2 cE.2 (by decide)) ?_
  show Ev Γ 1 mX2_init 0 [some (.inr (some a))] [] (g, I) (none, (i2 g a n, I))
  refine e_aload_n dX2_init_0 rfl ?_
  refine e_obji dX2_init_1 (ob_2) ob_i ob_c (by decide) (by decide) ha ?_
  refine e_aload_n dX2_init_4 rfl ?_
  refine e_bipush dX2_init_5 (by decide) ⟨by decide, by decide⟩ ?_
  refine e_sipush dX2_init_7 (by decide) ⟨by decide, by decide⟩ ?_
  refine e_mnaG (g := g) (N := 11) (K := 240) dX2_init_10 mm_l mm_o ac_int rfl rfl (by decide) (by decide) hF hn hp0 hz (cnt c0.1 cE.1 (by decide)) (cnt c0.2 cE.2 (by decide)) ?_
  refine e_putG (g := (i2_1 g a n)) dX2_init_14 fO_2_13 (by decide +kernel) ha s1 rfl rfl rfl rfl ?_
  refine e_aload_n dX2_init_17 rfl ?_
  refine e_bipush dX2_init_18 (by decide) ⟨by decide, by decide⟩ ?_
  refine e_newaG (g := (i2_2 g a n)) (N := 11) dX2_init_20 rfl ac_int (by decide) (Or.inl rfl) rfl (by decide) hF l2 (lt_a hp0) z2 (cnt c2.1 cE.1 (by decide)) (cnt c2.2 cE.2 (by decide)) ?_
  refine e_putG (g := (i2_3 g a n)) dX2_init_22 fO_2_16 (by decide +kernel) ha s3 rfl rfl rfl rfl ?_
  exact e_vret dX2_init_25 rfl rfl
def i7_1 (g : AG) (a n : Nat) : AG := nG g (.inr (.byte, 240)) 240
def i7_2 (g : AG) (a n : Nat) : AG := pG (i7_1 g a n) a 0 (n)
def i7_3 (g : AG) (a n : Nat) : AG := nG (i7_2 g a n) (.inr (.int, 240)) 240
def i7_4 (g : AG) (a n : Nat) : AG := pG (i7_3 g a n) a 3 (n + 1)
def i7_5 (g : AG) (a n : Nat) : AG := nG (i7_4 g a n) (.inr (.int, 240)) 240
def i7_6 (g : AG) (a n : Nat) : AG := pG (i7_5 g a n) a 4 (n + 2)
def i7_7 (g : AG) (a n : Nat) : AG := nG (i7_6 g a n) (.inr (.int, 240)) 240
def i7_8 (g : AG) (a n : Nat) : AG := pG (i7_7 g a n) a 5 (n + 3)
def i7_9 (g : AG) (a n : Nat) : AG := nG (i7_8 g a n) (.inr (.int, 240)) 240
def i7_10 (g : AG) (a n : Nat) : AG := pG (i7_9 g a n) a 6 (n + 4)
def i7_11 (g : AG) (a n : Nat) : AG := nG (i7_10 g a n) (.inr (.int, 240)) 240
def i7_12 (g : AG) (a n : Nat) : AG := pG (i7_11 g a n) a 7 (n + 5)
def i7_13 (g : AG) (a n : Nat) : AG := nG (i7_12 g a n) (.inr (.int, 240)) 240
def i7_14 (g : AG) (a n : Nat) : AG := pG (i7_13 g a n) a 8 (n + 6)
def i7_15 (g : AG) (a n : Nat) : AG := nG (i7_14 g a n) (.inr (.int, 240)) 240
def i7_16 (g : AG) (a n : Nat) : AG := pG (i7_15 g a n) a 9 (n + 7)
def i7_17 (g : AG) (a n : Nat) : AG := nG (i7_16 g a n) (.inr (.boolean, 240)) 240
def i7_18 (g : AG) (a n : Nat) : AG := pG (i7_17 g a n) a 10 (n + 8)
def i7 (g : AG) (a n : Nat) : AG := (i7_18 g a n)
theorem z_init7 {g : AG} {I : IF} {a n : Nat} (hz : Zr (g, I)) (hn : g.1.length = n) (han : a < n) : Zr (i7 g a n, I) := by
  have z1 : Zr ((i7_1 g a n), I) := zr_n hz
  have l1 : ((i7_1 g a n)).1.length = n + 1 := len_n hn
  have z2 : Zr ((i7_2 g a n), I) := zr_p z1 l1 (lt_a han)
  have l2 : ((i7_2 g a n)).1.length = n + 1 := len_p l1
  have z3 : Zr ((i7_3 g a n), I) := zr_n z2
  have l3 : ((i7_3 g a n)).1.length = n + 2 := len_n l2
  have z4 : Zr ((i7_4 g a n), I) := zr_p z3 l3 (lt_a han)
  have l4 : ((i7_4 g a n)).1.length = n + 2 := len_p l3
  have z5 : Zr ((i7_5 g a n), I) := zr_n z4
  have l5 : ((i7_5 g a n)).1.length = n + 3 := len_n l4
  have z6 : Zr ((i7_6 g a n), I) := zr_p z5 l5 (lt_a han)
  have l6 : ((i7_6 g a n)).1.length = n + 3 := len_p l5
  have z7 : Zr ((i7_7 g a n), I) := zr_n z6
  have l7 : ((i7_7 g a n)).1.length = n + 4 := len_n l6
  have z8 : Zr ((i7_8 g a n), I) := zr_p z7 l7 (lt_a han)
  have l8 : ((i7_8 g a n)).1.length = n + 4 := len_p l7
  have z9 : Zr ((i7_9 g a n), I) := zr_n z8
  have l9 : ((i7_9 g a n)).1.length = n + 5 := len_n l8
  have z10 : Zr ((i7_10 g a n), I) := zr_p z9 l9 (lt_a han)
  have l10 : ((i7_10 g a n)).1.length = n + 5 := len_p l9
  have z11 : Zr ((i7_11 g a n), I) := zr_n z10
  have l11 : ((i7_11 g a n)).1.length = n + 6 := len_n l10
  have z12 : Zr ((i7_12 g a n), I) := zr_p z11 l11 (lt_a han)
  have l12 : ((i7_12 g a n)).1.length = n + 6 := len_p l11
  have z13 : Zr ((i7_13 g a n), I) := zr_n z12
  have l13 : ((i7_13 g a n)).1.length = n + 7 := len_n l12
  have z14 : Zr ((i7_14 g a n), I) := zr_p z13 l13 (lt_a han)
  have l14 : ((i7_14 g a n)).1.length = n + 7 := len_p l13
  have z15 : Zr ((i7_15 g a n), I) := zr_n z14
  have l15 : ((i7_15 g a n)).1.length = n + 8 := len_n l14
  have z16 : Zr ((i7_16 g a n), I) := zr_p z15 l15 (lt_a han)
  have l16 : ((i7_16 g a n)).1.length = n + 8 := len_p l15
  have z17 : Zr ((i7_17 g a n), I) := zr_n z16
  have l17 : ((i7_17 g a n)).1.length = n + 9 := len_n l16
  have z18 : Zr ((i7_18 g a n), I) := zr_p z17 l17 (lt_a han)
  have l18 : ((i7_18 g a n)).1.length = n + 9 := len_p l17
  exact z18
theorem l_init7 {g : AG} {a n : Nat} (hn : g.1.length = n) : (i7 g a n).1.length = n + 9 := by
  have l1 : ((i7_1 g a n)).1.length = n + 1 := len_n hn
  have l2 : ((i7_2 g a n)).1.length = n + 1 := len_p l1
  have l3 : ((i7_3 g a n)).1.length = n + 2 := len_n l2
  have l4 : ((i7_4 g a n)).1.length = n + 2 := len_p l3
  have l5 : ((i7_5 g a n)).1.length = n + 3 := len_n l4
  have l6 : ((i7_6 g a n)).1.length = n + 3 := len_p l5
  have l7 : ((i7_7 g a n)).1.length = n + 4 := len_n l6
  have l8 : ((i7_8 g a n)).1.length = n + 4 := len_p l7
  have l9 : ((i7_9 g a n)).1.length = n + 5 := len_n l8
  have l10 : ((i7_10 g a n)).1.length = n + 5 := len_p l9
  have l11 : ((i7_11 g a n)).1.length = n + 6 := len_n l10
  have l12 : ((i7_12 g a n)).1.length = n + 6 := len_p l11
  have l13 : ((i7_13 g a n)).1.length = n + 7 := len_n l12
  have l14 : ((i7_14 g a n)).1.length = n + 7 := len_p l13
  have l15 : ((i7_15 g a n)).1.length = n + 8 := len_n l14
  have l16 : ((i7_16 g a n)).1.length = n + 8 := len_p l15
  have l17 : ((i7_17 g a n)).1.length = n + 9 := len_n l16
  have l18 : ((i7_18 g a n)).1.length = n + 9 := len_p l17
  exact l18
theorem s_init7 {g : AG} {a n : Nat} {b : Nat} {y : SH} (hs : g.1[b]? = some y) : (i7 g a n).1[b]? = some y := by
  have s1 : ((i7_1 g a n)).1[b]? = some y := sh_n hs
  have s2 : ((i7_2 g a n)).1[b]? = some y := sh_p s1
  have s3 : ((i7_3 g a n)).1[b]? = some y := sh_n s2
  have s4 : ((i7_4 g a n)).1[b]? = some y := sh_p s3
  have s5 : ((i7_5 g a n)).1[b]? = some y := sh_n s4
  have s6 : ((i7_6 g a n)).1[b]? = some y := sh_p s5
  have s7 : ((i7_7 g a n)).1[b]? = some y := sh_n s6
  have s8 : ((i7_8 g a n)).1[b]? = some y := sh_p s7
  have s9 : ((i7_9 g a n)).1[b]? = some y := sh_n s8
  have s10 : ((i7_10 g a n)).1[b]? = some y := sh_p s9
  have s11 : ((i7_11 g a n)).1[b]? = some y := sh_n s10
  have s12 : ((i7_12 g a n)).1[b]? = some y := sh_p s11
  have s13 : ((i7_13 g a n)).1[b]? = some y := sh_n s12
  have s14 : ((i7_14 g a n)).1[b]? = some y := sh_p s13
  have s15 : ((i7_15 g a n)).1[b]? = some y := sh_n s14
  have s16 : ((i7_16 g a n)).1[b]? = some y := sh_p s15
  have s17 : ((i7_17 g a n)).1[b]? = some y := sh_n s16
  have s18 : ((i7_18 g a n)).1[b]? = some y := sh_p s17
  exact s18
theorem ct_init7 {g : AG} {a n A B : Nat} (h : g.2.2.2.1 = A ∧ g.2.2.2.2 = B) : (i7 g a n).2.2.2.1 = A + 9 ∧ (i7 g a n).2.2.2.2 = B + 2160 := by
  obtain ⟨rfl, rfl⟩ := h
  have c0 : g.2.2.2.1 = g.2.2.2.1 + 0 ∧ g.2.2.2.2 = g.2.2.2.2 + 0 := ⟨rfl, rfl⟩
  have c1 : ((i7_1 g a n)).2.2.2.1 = g.2.2.2.1 + 1 ∧ ((i7_1 g a n)).2.2.2.2 = g.2.2.2.2 + 240 := ct_n c0
  have c2 : ((i7_2 g a n)).2.2.2.1 = g.2.2.2.1 + 1 ∧ ((i7_2 g a n)).2.2.2.2 = g.2.2.2.2 + 240 := ct_p c1
  have c3 : ((i7_3 g a n)).2.2.2.1 = g.2.2.2.1 + 2 ∧ ((i7_3 g a n)).2.2.2.2 = g.2.2.2.2 + 480 := ct_n c2
  have c4 : ((i7_4 g a n)).2.2.2.1 = g.2.2.2.1 + 2 ∧ ((i7_4 g a n)).2.2.2.2 = g.2.2.2.2 + 480 := ct_p c3
  have c5 : ((i7_5 g a n)).2.2.2.1 = g.2.2.2.1 + 3 ∧ ((i7_5 g a n)).2.2.2.2 = g.2.2.2.2 + 720 := ct_n c4
  have c6 : ((i7_6 g a n)).2.2.2.1 = g.2.2.2.1 + 3 ∧ ((i7_6 g a n)).2.2.2.2 = g.2.2.2.2 + 720 := ct_p c5
  have c7 : ((i7_7 g a n)).2.2.2.1 = g.2.2.2.1 + 4 ∧ ((i7_7 g a n)).2.2.2.2 = g.2.2.2.2 + 960 := ct_n c6
  have c8 : ((i7_8 g a n)).2.2.2.1 = g.2.2.2.1 + 4 ∧ ((i7_8 g a n)).2.2.2.2 = g.2.2.2.2 + 960 := ct_p c7
  have c9 : ((i7_9 g a n)).2.2.2.1 = g.2.2.2.1 + 5 ∧ ((i7_9 g a n)).2.2.2.2 = g.2.2.2.2 + 1200 := ct_n c8
  have c10 : ((i7_10 g a n)).2.2.2.1 = g.2.2.2.1 + 5 ∧ ((i7_10 g a n)).2.2.2.2 = g.2.2.2.2 + 1200 := ct_p c9
  have c11 : ((i7_11 g a n)).2.2.2.1 = g.2.2.2.1 + 6 ∧ ((i7_11 g a n)).2.2.2.2 = g.2.2.2.2 + 1440 := ct_n c10
  have c12 : ((i7_12 g a n)).2.2.2.1 = g.2.2.2.1 + 6 ∧ ((i7_12 g a n)).2.2.2.2 = g.2.2.2.2 + 1440 := ct_p c11
  have c13 : ((i7_13 g a n)).2.2.2.1 = g.2.2.2.1 + 7 ∧ ((i7_13 g a n)).2.2.2.2 = g.2.2.2.2 + 1680 := ct_n c12
  have c14 : ((i7_14 g a n)).2.2.2.1 = g.2.2.2.1 + 7 ∧ ((i7_14 g a n)).2.2.2.2 = g.2.2.2.2 + 1680 := ct_p c13
  have c15 : ((i7_15 g a n)).2.2.2.1 = g.2.2.2.1 + 8 ∧ ((i7_15 g a n)).2.2.2.2 = g.2.2.2.2 + 1920 := ct_n c14
  have c16 : ((i7_16 g a n)).2.2.2.1 = g.2.2.2.1 + 8 ∧ ((i7_16 g a n)).2.2.2.2 = g.2.2.2.2 + 1920 := ct_p c15
  have c17 : ((i7_17 g a n)).2.2.2.1 = g.2.2.2.1 + 9 ∧ ((i7_17 g a n)).2.2.2.2 = g.2.2.2.2 + 2160 := ct_n c16
  have c18 : ((i7_18 g a n)).2.2.2.1 = g.2.2.2.1 + 9 ∧ ((i7_18 g a n)).2.2.2.2 = g.2.2.2.2 + 2160 := ct_p c17
  exact c18
set_option maxRecDepth 100000 in
set_option maxHeartbeats 4000000 in
theorem c_init7 {Γ : GX} {g : AG} {I : IF} {a n : Nat} (hF : gF Γ = true) (hz : Zr (g, I)) (hn : g.1.length = n) (ha : 0 < a) (han : a < n) (hs : g.1[a]? = some (.inl 7)) : CT Γ 1 mX7_init [.inr (some a)] (g, I) (none, (i7 g a n, I)) := by
  have c0 : g.2.2.2.1 = g.2.2.2.1 + 0 ∧ g.2.2.2.2 = g.2.2.2.2 + 0 := ⟨rfl, rfl⟩
  have z1 : Zr ((i7_1 g a n), I) := zr_n hz
  have l1 : ((i7_1 g a n)).1.length = n + 1 := len_n hn
  have s1 : ((i7_1 g a n)).1[a]? = some (.inl 7) := sh_n hs
  have c1 : ((i7_1 g a n)).2.2.2.1 = g.2.2.2.1 + 1 ∧ ((i7_1 g a n)).2.2.2.2 = g.2.2.2.2 + 240 := ct_n c0
  have z2 : Zr ((i7_2 g a n), I) := zr_p z1 l1 (lt_a han)
  have l2 : ((i7_2 g a n)).1.length = n + 1 := len_p l1
  have s2 : ((i7_2 g a n)).1[a]? = some (.inl 7) := sh_p s1
  have c2 : ((i7_2 g a n)).2.2.2.1 = g.2.2.2.1 + 1 ∧ ((i7_2 g a n)).2.2.2.2 = g.2.2.2.2 + 240 := ct_p c1
  have z3 : Zr ((i7_3 g a n), I) := zr_n z2
  have l3 : ((i7_3 g a n)).1.length = n + 2 := len_n l2
  have s3 : ((i7_3 g a n)).1[a]? = some (.inl 7) := sh_n s2
  have c3 : ((i7_3 g a n)).2.2.2.1 = g.2.2.2.1 + 2 ∧ ((i7_3 g a n)).2.2.2.2 = g.2.2.2.2 + 480 := ct_n c2
  have z4 : Zr ((i7_4 g a n), I) := zr_p z3 l3 (lt_a han)
  have l4 : ((i7_4 g a n)).1.length = n + 2 := len_p l3
  have s4 : ((i7_4 g a n)).1[a]? = some (.inl 7) := sh_p s3
  have c4 : ((i7_4 g a n)).2.2.2.1 = g.2.2.2.1 + 2 ∧ ((i7_4 g a n)).2.2.2.2 = g.2.2.2.2 + 480 := ct_p c3
  have z5 : Zr ((i7_5 g a n), I) := zr_n z4
  have l5 : ((i7_5 g a n)).1.length = n + 3 := len_n l4
  have s5 : ((i7_5 g a n)).1[a]? = some (.inl 7) := sh_n s4
  have c5 : ((i7_5 g a n)).2.2.2.1 = g.2.2.2.1 + 3 ∧ ((i7_5 g a n)).2.2.2.2 = g.2.2.2.2 + 720 := ct_n c4
  have z6 : Zr ((i7_6 g a n), I) := zr_p z5 l5 (lt_a han)
  have l6 : ((i7_6 g a n)).1.length = n + 3 := len_p l5
  have s6 : ((i7_6 g a n)).1[a]? = some (.inl 7) := sh_p s5
  have c6 : ((i7_6 g a n)).2.2.2.1 = g.2.2.2.1 + 3 ∧ ((i7_6 g a n)).2.2.2.2 = g.2.2.2.2 + 720 := ct_p c5
  have z7 : Zr ((i7_7 g a n), I) := zr_n z6
  have l7 : ((i7_7 g a n)).1.length = n + 4 := len_n l6
  have s7 : ((i7_7 g a n)).1[a]? = some (.inl 7) := sh_n s6
  have c7 : ((i7_7 g a n)).2.2.2.1 = g.2.2.2.1 + 4 ∧ ((i7_7 g a n)).2.2.2.2 = g.2.2.2.2 + 960 := ct_n c6
  have z8 : Zr ((i7_8 g a n), I) := zr_p z7 l7 (lt_a han)
  have l8 : ((i7_8 g a n)).1.length = n + 4 := len_p l7
  have s8 : ((i7_8 g a n)).1[a]? = some (.inl 7) := sh_p s7
  have c8 : ((i7_8 g a n)).2.2.2.1 = g.2.2.2.1 + 4 ∧ ((i7_8 g a n)).2.2.2.2 = g.2.2.2.2 + 960 := ct_p c7
  have z9 : Zr ((i7_9 g a n), I) := zr_n z8
  have l9 : ((i7_9 g a n)).1.length = n + 5 := len_n l8
  have s9 : ((i7_9 g a n)).1[a]? = some (.inl 7) := sh_n s8
  have c9 : ((i7_9 g a n)).2.2.2.1 = g.2.2.2.1 + 5 ∧ ((i7_9 g a n)).2.2.2.2 = g.2.2.2.2 + 1200 := ct_n c8
  have z10 : Zr ((i7_10 g a n), I) := zr_p z9 l9 (lt_a han)
  have l10 : ((i7_10 g a n)).1.length = n + 5 := len_p l9
  have s10 : ((i7_10 g a n)).1[a]? = some (.inl 7) := sh_p s9
  have c10 : ((i7_10 g a n)).2.2.2.1 = g.2.2.2.1 + 5 ∧ ((i7_10 g a n)).2.2.2.2 = g.2.2.2.2 + 1200 := ct_p c9
  have z11 : Zr ((i7_11 g a n), I) := zr_n z10
  have l11 : ((i7_11 g a n)).1.length = n + 6 := len_n l10
  have s11 : ((i7_11 g a n)).1[a]? = some (.inl 7) := sh_n s10
  have c11 : ((i7_11 g a n)).2.2.2.1 = g.2.2.2.1 + 6 ∧ ((i7_11 g a n)).2.2.2.2 = g.2.2.2.2 + 1440 := ct_n c10
  have z12 : Zr ((i7_12 g a n), I) := zr_p z11 l11 (lt_a han)
  have l12 : ((i7_12 g a n)).1.length = n + 6 := len_p l11
  have s12 : ((i7_12 g a n)).1[a]? = some (.inl 7) := sh_p s11
  have c12 : ((i7_12 g a n)).2.2.2.1 = g.2.2.2.1 + 6 ∧ ((i7_12 g a n)).2.2.2.2 = g.2.2.2.2 + 1440 := ct_p c11
  have z13 : Zr ((i7_13 g a n), I) := zr_n z12
  have l13 : ((i7_13 g a n)).1.length = n + 7 := len_n l12
  have s13 : ((i7_13 g a n)).1[a]? = some (.inl 7) := sh_n s12
  have c13 : ((i7_13 g a n)).2.2.2.1 = g.2.2.2.1 + 7 ∧ ((i7_13 g a n)).2.2.2.2 = g.2.2.2.2 + 1680 := ct_n c12
  have z14 : Zr ((i7_14 g a n), I) := zr_p z13 l13 (lt_a han)
  have l14 : ((i7_14 g a n)).1.length = n + 7 := len_p l13
  have s14 : ((i7_14 g a n)).1[a]? = some (.inl 7) := sh_p s13
  have c14 : ((i7_14 g a n)).2.2.2.1 = g.2.2.2.1 + 7 ∧ ((i7_14 g a n)).2.2.2.2 = g.2.2.2.2 + 1680 := ct_p c13
  have z15 : Zr ((i7_15 g a n), I) := zr_n z14
  have l15 : ((i7_15 g a n)).1.length = n + 8 := len_n l14
  have s15 : ((i7_15 g a n)).1[a]? = some (.inl 7) := sh_n s14
  have c15 : ((i7_15 g a n)).2.2.2.1 = g.2.2.2.1 + 8 ∧ ((i7_15 g a n)).2.2.2.2 = g.2.2.2.2 + 1920 := ct_n c14
  have z16 : Zr ((i7_16 g a n), I) := zr_p z15 l15 (lt_a han)
  have l16 : ((i7_16 g a n)).1.length = n + 8 := len_p l15
  have s16 : ((i7_16 g a n)).1[a]? = some (.inl 7) := sh_p s15
  have c16 : ((i7_16 g a n)).2.2.2.1 = g.2.2.2.1 + 8 ∧ ((i7_16 g a n)).2.2.2.2 = g.2.2.2.2 + 1920 := ct_p c15
  have z17 : Zr ((i7_17 g a n), I) := zr_n z16
  have l17 : ((i7_17 g a n)).1.length = n + 9 := len_n l16
  have s17 : ((i7_17 g a n)).1[a]? = some (.inl 7) := sh_n s16
  have c17 : ((i7_17 g a n)).2.2.2.1 = g.2.2.2.1 + 9 ∧ ((i7_17 g a n)).2.2.2.2 = g.2.2.2.2 + 2160 := ct_n c16
  have z18 : Zr ((i7_18 g a n), I) := zr_p z17 l17 (lt_a han)
  have l18 : ((i7_18 g a n)).1.length = n + 9 := len_p l17
  have s18 : ((i7_18 g a n)).1[a]? = some (.inl 7) := sh_p s17
  have c18 : ((i7_18 g a n)).2.2.2.1 = g.2.2.2.1 + 9 ∧ ((i7_18 g a n)).2.2.2.2 = g.2.2.2.2 + 2160 := ct_p c17
  have hp0 : 0 < n := Nat.lt_trans ha han
  have cE : (i7 g a n).2.2.2.1 = g.2.2.2.1 + 9 ∧ (i7 g a n).2.2.2.2 = g.2.2.2.2 + 2160 := c18
  refine CT.of (R := (none, (i7 g a n, I))) oX7_init (Nat.le_of_ble_eq_true rfl) (cnt0 c0.1 cE.1 (by decide)) (cnt0 c0.2 cE.2 (by decide)) ?_
  show Ev Γ 1 mX7_init 0 [some (.inr (some a))] [] (g, I) (none, (i7 g a n, I))
  refine e_aload_n dX7_init_0 rfl ?_
  refine e_obji dX7_init_1 (ob_7) ob_i ob_c (by decide) (by decide) ha ?_
  refine e_aload_n dX7_init_4 rfl ?_
  refine e_sipush dX7_init_5 (by decide) ⟨by decide, by decide⟩ ?_
  refine e_newaG (g := g) (N := 240) dX7_init_8 rfl ac_byte (by decide) (Or.inl rfl) rfl (by decide) hF hn hp0 hz (cnt c0.1 cE.1 (by decide)) (cnt c0.2 cE.2 (by decide)) ?_
  refine e_putG (g := (i7_1 g a n)) dX7_init_10 fO_7_9 (by decide +kernel) ha s1 rfl rfl rfl rfl ?_
  refine e_aload_n dX7_init_13 rfl ?_
  refine e_sipush dX7_init_14 (by decide) ⟨by decide, by decide⟩ ?_
  refine e_newaG (g := (i7_2 g a n)) (N := 240) dX7_init_17 rfl ac_int (by decide) (Or.inl rfl) rfl (by decide) hF l2 (lt_a hp0) z2 (cnt c2.1 cE.1 (by decide)) (cnt c2.2 cE.2 (by decide)) ?_
  refine e_putG (g := (i7_3 g a n)) dX7_init_19 fO_7_15 (by decide +kernel) ha s3 rfl rfl rfl rfl ?_
  refine e_aload_n dX7_init_22 rfl ?_
  refine e_sipush dX7_init_23 (by decide) ⟨by decide, by decide⟩ ?_
  refine e_newaG (g := (i7_4 g a n)) (N := 240) dX7_init_26 rfl ac_int (by decide) (Or.inl rfl) rfl (by decide) hF l4 (lt_a hp0) z4 (cnt c4.1 cE.1 (by decide)) (cnt c4.2 cE.2 (by decide)) ?_
  refine e_putG (g := (i7_5 g a n)) dX7_init_28 fO_7_19 (by decide +kernel) ha s5 rfl rfl rfl rfl ?_
  refine e_aload_n dX7_init_31 rfl ?_
  refine e_sipush dX7_init_32 (by decide) ⟨by decide, by decide⟩ ?_
  refine e_newaG (g := (i7_6 g a n)) (N := 240) dX7_init_35 rfl ac_int (by decide) (Or.inl rfl) rfl (by decide) hF l6 (lt_a hp0) z6 (cnt c6.1 cE.1 (by decide)) (cnt c6.2 cE.2 (by decide)) ?_
  refine e_putG (g := (i7_7 g a n)) dX7_init_37 fO_7_22 (by decide +kernel) ha s7 rfl rfl rfl rfl ?_
  refine e_aload_n dX7_init_40 rfl ?_
  refine e_sipush dX7_init_41 (by decide) ⟨by decide, by decide⟩ ?_
  refine e_newaG (g := (i7_8 g a n)) (N := 240) dX7_init_44 rfl ac_int (by decide) (Or.inl rfl) rfl (by decide) hF l8 (lt_a hp0) z8 (cnt c8.1 cE.1 (by decide)) (cnt c8.2 cE.2 (by decide)) ?_
  refine e_putG (g := (i7_9 g a n)) dX7_init_46 fO_7_25 (by decide +kernel) ha s9 rfl rfl rfl rfl ?_
  refine e_aload_n dX7_init_49 rfl ?_
  refine e_sipush dX7_init_50 (by decide) ⟨by decide, by decide⟩ ?_
  refine e_newaG (g := (i7_10 g a n)) (N := 240) dX7_init_53 rfl ac_int (by decide) (Or.inl rfl) rfl (by decide) hF l10 (lt_a hp0) z10 (cnt c10.1 cE.1 (by decide)) (cnt c10.2 cE.2 (by decide)) ?_
  refine e_putG (g := (i7_11 g a n)) dX7_init_55 fO_7_28 (by decide +kernel) ha s11 rfl rfl rfl rfl ?_
  refine e_aload_n dX7_init_58 rfl ?_
  refine e_sipush dX7_init_59 (by decide) ⟨by decide, by decide⟩ ?_
  refine e_newaG (g := (i7_12 g a n)) (N := 240) dX7_init_62 rfl ac_int (by decide) (Or.inl rfl) rfl (by decide) hF l12 (lt_a hp0) z12 (cnt c12.1 cE.1 (by decide)) (cnt c12.2 cE.2 (by decide)) ?_
  refine e_putG (g := (i7_13 g a n)) dX7_init_64 fO_7_31 (by decide +kernel) ha s13 rfl rfl rfl rfl ?_
  refine e_aload_n dX7_init_67 rfl ?_
  refine e_sipush dX7_init_68 (by decide) ⟨by decide, by decide⟩ ?_
  refine e_newaG (g := (i7_14 g a n)) (N := 240) dX7_init_71 rfl ac_int (by decide) (Or.inl rfl) rfl (by decide) hF l14 (lt_a hp0) z14 (cnt c14.1 cE.1 (by decide)) (cnt c14.2 cE.2 (by decide)) ?_
  refine e_putG (g := (i7_15 g a n)) dX7_init_73 fO_7_34 (by decide +kernel) ha s15 rfl rfl rfl rfl ?_
  refine e_aload_n dX7_init_76 rfl ?_
  refine e_sipush dX7_init_77 (by decide) ⟨by decide, by decide⟩ ?_
  refine e_newaG (g := (i7_16 g a n)) (N := 240) dX7_init_80 rfl ac_boolean (by decide) (Or.inl rfl) rfl (by decide) hF l16 (lt_a hp0) z16 (cnt c16.1 cE.1 (by decide)) (cnt c16.2 cE.2 (by decide)) ?_
  refine e_putG (g := (i7_17 g a n)) dX7_init_82 fO_7_37 (by decide +kernel) ha s17 rfl rfl rfl rfl ?_
  exact e_vret dX7_init_85 rfl rfl
