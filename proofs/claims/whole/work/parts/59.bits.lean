/-! ===== bits: rows of kit/laws/BITS.to-paste, and what is made of them ===== -/
def bt (x : Int32) (i : Nat) : Bool := x.toBitVec.getLsbD i
theorem b_ext {x y : Int32} (h : ∀ i, i < 32 → bt x i = bt y i) : x = y := Int32.toBitVec_inj.mp (BitVec.eq_of_getLsbD_eq (fun i hi => h i hi))
theorem b_or (x y : Int32) (i : Nat) : bt (x ||| y) i = (bt x i || bt y i) := by unfold bt; rw [Int32.toBitVec_or, BitVec.getLsbD_or]
theorem b_and (x y : Int32) (i : Nat) : bt (x &&& y) i = (bt x i && bt y i) := by unfold bt; rw [Int32.toBitVec_and, BitVec.getLsbD_and]
theorem b_xor (x y : Int32) (i : Nat) : bt (x ^^^ y) i = (bt x i ^^ bt y i) := by unfold bt; rw [Int32.toBitVec_xor, BitVec.getLsbD_xor]
theorem b_big {x : Int32} {i : Nat} (h : 32 ≤ i) : bt x i = false := BitVec.getLsbD_of_ge _ _ h
theorem b_255 (i : Nat) : bt 255 i = decide (i < 8) := by
  rcases Nat.lt_or_ge i 32 with h | h
  · exact (by decide +kernel : ∀ i, i < 32 → bt 255 i = decide (i < 8)) i h
  · rw [b_big h, decide_eq_false (by omega)]
theorem b_m1 : ∀ i, i < 32 → bt (-1) i = true := by decide +kernel
theorem b_0 (i : Nat) : bt 0 i = false := BitVec.getLsbD_zero
theorem s_l : ∀ n, n < 32 → ((nI n &&& 31).toBitVec.smod 32).toNat = n := by decide +kernel
theorem s_u : ∀ n, n < 32 → (((nI n).toUInt32 &&& Int32.toUInt32 31).toBitVec % 32).toNat = n := by decide +kernel
theorem b_shl (n : Nat) (hn : n < 32) (x : Int32) {i : Nat} (hi : i < 32) : bt (x <<< (nI n &&& 31)) i = (decide (n ≤ i) && bt x (i - n)) := by
  unfold bt
  rw [Int32.toBitVec_shiftLeft]
  show (x.toBitVec <<< ((nI n &&& 31).toBitVec.smod 32).toNat).getLsbD i = _
  rw [s_l n hn, BitVec.getLsbD_shiftLeft]
  rcases Nat.lt_or_ge i n with h | h
  · simp [h, Nat.not_le.mpr h]
  · simp [hi, h, Nat.not_lt.mpr h]
theorem b_ushr (n : Nat) (hn : n < 32) (x : Int32) (i : Nat) : bt ((x.toUInt32 >>> ((nI n).toUInt32 &&& Int32.toUInt32 31)).toInt32) i = bt x (n + i) := by
  show (x.toUInt32 >>> ((nI n).toUInt32 &&& Int32.toUInt32 31)).toBitVec.getLsbD i = x.toUInt32.toBitVec.getLsbD (n + i)
  rw [UInt32.toBitVec_shiftRight]
  show (x.toUInt32.toBitVec >>> (((nI n).toUInt32 &&& Int32.toUInt32 31).toBitVec % 32).toNat).getLsbD i = _
  rw [s_u n hn, BitVec.getLsbD_ushiftRight]
theorem b_sshr (n : Nat) (hn : n < 32) (x : Int32) {i : Nat} (hi : i < 32) : bt (x >>> (nI n &&& 31)) i = if n + i < 32 then bt x (n + i) else bt x 31 := by
  unfold bt
  rw [Int32.toBitVec_shiftRight]
  show (x.toBitVec.sshiftRight ((nI n &&& 31).toBitVec.smod 32).toNat).getLsbD i = _
  rw [s_l n hn, BitVec.getLsbD_sshiftRight, BitVec.msb_eq_getLsbD_last]
  simp [hi]
theorem bp_b (x : Int32) : x.toInt8.toInt32 &&& 255 = x &&& 255 := by
  apply Int32.toBitVec_inj.mp
  rw [Int32.toBitVec_and, Int32.toBitVec_and, Int8.toBitVec_toInt32, Int32.toBitVec_toInt8]
  apply BitVec.eq_of_getLsbD_eq
  intro i hi
  rw [BitVec.getLsbD_and, BitVec.getLsbD_and]
  have hm : ∀ i < 32, 8 ≤ i → (255 : Int32).toBitVec.getLsbD i = false := by decide
  rcases Nat.lt_or_ge i 8 with z | z
  · rw [BitVec.getLsbD_signExtend, BitVec.getLsbD_signExtend, if_pos z, if_pos hi]
    simp only [z, hi, decide_true, Bool.true_and]
  · rw [hm i hi z]; simp
/-! our own -/
theorem oi_n : ∀ n : Nat, n < 32 → Int32.ofInt (n : Int) = nI n := by decide +kernel
def tb (x : Int) (i : Nat) : Bool := bt (Int32.ofInt x) i
theorem tb_or (x y : Int) (i : Nat) : tb (bOr x y) i = (tb x i || tb y i) := by
  unfold tb bOr
  rw [Int32.ofInt_toInt, b_or]
theorem tb_clr (x y : Int) {i : Nat} (hi : i < 32) : tb (bAnd x (bXor y (-1))) i = (tb x i && !tb y i) := by
  unfold tb bAnd bXor
  rw [Int32.ofInt_toInt, b_and, Int32.ofInt_toInt, b_xor, show Int32.ofInt (-1) = -1 from rfl, b_m1 i hi]
  cases bt (Int32.ofInt y) i <;> rfl
theorem bt_1 : ∀ i : Nat, i < 32 → bt 1 i = decide (i = 0) := by decide +kernel
theorem tb_one {o i : Nat} (ho : o < 32) (hi : i < 32) : tb (bShl 1 (o : Int)) i = decide (i = o) := by
  unfold tb bShl
  rw [Int32.ofInt_toInt, oi_n o ho, show Int32.ofInt 1 = 1 from rfl, b_shl o ho 1 hi, bt_1 (i - o) (by omega)]
  by_cases h : o ≤ i
  · rw [decide_eq_true h, Bool.true_and, decide_eq_decide]
    omega
  · rw [decide_eq_false h, Bool.false_and]
    exact (decide_eq_false (by omega)).symm
theorem and_1 (y : Int32) : y &&& 1 = if bt y 0 = true then 1 else 0 := by
  refine b_ext (fun i hi => ?_)
  rw [b_and, bt_1 i hi]
  by_cases h : i = 0
  · subst h
    by_cases z : bt y 0 = true
    · rw [if_pos z, z]; rfl
    · rw [if_neg z, b_0]
      cases e : bt y 0
      · rfl
      · exact absurd e z
  · rw [decide_eq_false h, Bool.and_false]
    by_cases z : bt y 0 = true
    · rw [if_pos z, bt_1 i hi, decide_eq_false h]
    · rw [if_neg z, b_0]
theorem tb_test {x : Int} {o : Nat} (ho : o < 32) : bAnd (bShr x (o : Int)) 1 = 1 ↔ tb x o = true := by
  unfold bAnd bShr tb
  have e0 : bt (Int32.ofInt x >>> (nI o &&& 31)) 0 = bt (Int32.ofInt x) o := by rw [b_sshr o ho _ (by omega), if_pos (show o + 0 < 32 by omega), Nat.add_zero]
  rw [Int32.ofInt_toInt, oi_n o ho, show Int32.ofInt 1 = 1 from rfl, and_1, e0]
  by_cases z : bt (Int32.ofInt x) o = true
  · rw [if_pos z, z]
    exact ⟨fun _ => rfl, fun _ => by decide⟩
  · rw [if_neg z]
    exact ⟨fun h => absurd h (by decide), fun h => absurd h z⟩
theorem zDf_tb {Z : IF} {l o : Nat} : zDf Z l o ↔ l < 26 ∧ o < 26 ∧ tb (Z 58 l) o = true := by
  unfold zDf
  exact ⟨fun z => ⟨z.1, z.2.1, (tb_test (by omega)).mp z.2.2⟩, fun z => ⟨z.1, z.2.1, (tb_test (by omega)).mpr z.2.2⟩⟩
/-- a byte of a number -/
def fb (x s : Int) : Int := bAnd (bShr x s) 255
theorem fb_u {x : Int} {s : Nat} (hs : s ≤ 24) : bAnd (bUsh x (s : Int)) 255 = fb x (s : Int) := by
  unfold fb bAnd bUsh bShr
  rw [Int32.ofInt_toInt, Int32.ofInt_toInt, oi_n s (by omega), show Int32.ofInt 255 = 255 from rfl]
  congr 1
  refine b_ext (fun i hi => ?_)
  rw [b_and, b_and, b_ushr s (by omega), b_sshr s (by omega) _ hi, b_255]
  by_cases h : i < 8
  · rw [if_pos (by omega)]
  · rw [decide_eq_false h, Bool.and_false, Bool.and_false]
theorem fb_w (x s : Int) : ∃ w : Int, (-128 ≤ w ∧ w ≤ 127) ∧ fb x s = bAnd w 255 ∧ bByte (bByte (bShr x s)) = w := by
  unfold fb bByte
  have e1 : ∀ Y : Int32, Y.toInt8.toInt32.toInt8 = Y.toInt8 := fun Y => by simp
  generalize hY : Int32.ofInt (bShr x s) = Y
  refine ⟨Y.toInt8.toInt32.toInt, ?_, ?_, ?_⟩
  · rw [Int8.toInt_toInt32]
    have a := Int8.le_toInt Y.toInt8
    have b := Int8.toInt_lt Y.toInt8
    omega
  · unfold bAnd
    rw [hY, Int32.ofInt_toInt, show Int32.ofInt 255 = 255 from rfl, bp_b]
  · rw [Int32.ofInt_toInt, e1]
theorem fb_r (x s : Int) : 0 ≤ fb x s ∧ fb x s ≤ 255 := by
  obtain ⟨w, w1, w2, w3⟩ := fb_w x s
  rw [w2]
  have h : ∀ n : Nat, n < 256 → 0 ≤ bAnd ((n : Int) - 128) 255 ∧ bAnd ((n : Int) - 128) 255 ≤ 255 := by decide +kernel
  have := h (w + 128).toNat (by omega)
  rwa [show (((w + 128).toNat : Nat) : Int) - 128 = w by omega] at this
theorem fb_b (x s : Int) : bByte (bByte (bShr x s)) = sb (fb x s) := by
  obtain ⟨w, w1, w2, w3⟩ := fb_w x s
  rw [w2, w3]
  have h : ∀ n : Nat, n < 256 → sb (bAnd ((n : Int) - 128) 255) = (n : Int) - 128 := by decide +kernel
  have := h (w + 128).toNat (by omega)
  rw [show (((w + 128).toNat : Nat) : Int) - 128 = w by omega] at this
  exact this.symm
section FEED
variable {Γ : GX} {g : AG} {I J X : IF}
/-- END -/
theorem q_end (hg : GOk g) (h : Inv I) (x : Int) : Q2 Γ g I 0 mX6_end [.inl x] 0 mX8_end [.inl x] := by
  have t := h.1.1
  by_cases hx : 0 ≤ x ∧ x ≤ I 1 1
  · have hJ : Inv (mset (mset (mset I 1 1 x) 80 0 0) 80 2 x) := by
      have cells : ∀ a k : Nat, (a ≠ 1 ∨ k ≠ 1) → (a ≠ 80 ∨ (k ≠ 0 ∧ k ≠ 2)) → (mset (mset (mset I 1 1 x) 80 0 0) 80 2 x) a k = I a k := fun a k z1 z2 => by
        unfold mset
        rw [if_neg (by omega), if_neg (by omega), if_neg (by omega)]
      obtain ⟨⟨h1, h2, h3, h4, h5, h6, h7⟩, h8⟩ := id h
      have hs : CSame I (mset (mset (mset I 1 1 x) 80 0 0) 80 2 x) := ⟨fun i k hi => cells _ _ (by omega) (by omega), fun i k hi => cells _ _ (by omega) (by omega), fun k => ⟨cells _ _ (by omega) (by omega), cells _ _ (by omega) (by omega)⟩, cells _ _ (by omega) (by omega), cells _ _ (by omega) (by omega)⟩
      refine ⟨⟨⟨?_, ?_, fun j hj => ?_⟩, h2.mv hs (cells _ _ (by omega) (by omega)), ⟨?_, ?_⟩, ?_, h5.mv (fun a k z => cells _ _ (by omega) (by omega)), h6.mv (fun k => cells _ _ (by omega) (by omega)) (fun k => cells _ _ (by omega) (by omega)), h7.mv (fun a k z => cells _ _ (by omega) (by omega))⟩, fun z => ?_⟩
      · rfl
      · show 0 ≤ x ∧ x ≤ 240
        have := h1.2.1
        omega
      · have hj' : (j : Int) < x := hj
        rw [cells 81 j (by omega) (by omega), cells 2 j (by omega) (by omega)]
        exact h1.2.2 j (by omega)
      · rw [ct_eq (t := 27) (Z := I) (fun i k hi => cells _ _ (by omega) (by omega))]
        exact h3.1
      · rw [cells 27 1 (by omega) (by omega)]; exact h3.2
      · rw [ct_eq (t := 3) (Z := I) (fun i k hi => cells _ _ (by omega) (by omega))]
        exact h4
      · rw [cells 52 15 (by omega) (by omega)] at z
        have k := h8 z
        obtain ⟨e1, e2, e3, e4⟩ := hs.eqs
        unfold KnA at k ⊢
        rw [e4, cells 3 2 (by omega) (by omega), cells 52 13 (by omega) (by omega)]
        exact ⟨fun n hn => by rw [cells 60 n (by omega) (by omega)]; exact k.1 n hn, k.2.1, fun n hn z => by rw [cells 59 _ (by omega) (by omega)]; exact k.2.2 n hn z⟩
    refine Q2.same (r := 1) hg (CT.of (R := (some (.inl 1), (g, mset I 1 1 x))) oX6_end (Nat.le_of_ble_eq_true rfl) (Nat.le_refl _) (Nat.le_refl _) (v_X6_end_0 hg.c x ⟨fun z => absurd z (by omega), fun _ => ⟨fun _ => ?_, fun z => absurd hx.2 z⟩⟩)) (CT.of (R := (some (.inl 1), (g, mset (mset (mset I 1 1 x) 80 0 0) 80 2 x))) oX8_end (Nat.le_of_ble_eq_true rfl) (Nat.le_refl _) (Nat.le_refl _) (v_X8_end_0 hg x ?_)) hJ
    · rintro _ rfl
      exact ⟨rfl, rfl⟩
    · rintro _ rfl
      refine ⟨fun z => absurd z (by omega), fun _ => ⟨fun _ => ?_, fun z => absurd (by rw [mset_k _ _ (by decide), mset_a _ _ (by decide), t.1]; exact hx.2) z⟩⟩
      rintro _ rfl
      exact ⟨rfl, rfl⟩
  · refine Q2.same (r := 0) hg (CT.of (R := (some (.inl 0), (g, I))) oX6_end (Nat.le_of_ble_eq_true rfl) (Nat.le_refl _) (Nat.le_refl _) (v_X6_end_0 hg.c x ⟨fun _ => ⟨rfl, rfl⟩, fun z => ⟨fun y => absurd ⟨by omega, y⟩ hx, fun _ => ⟨rfl, rfl⟩⟩⟩)) (CT.of (R := (some (.inl 0), (g, mset I 80 0 0))) oX8_end (Nat.le_of_ble_eq_true rfl) (Nat.le_refl _) (Nat.le_refl _) (v_X8_end_0 hg x ?_)) (h.m80 (by decide))
    rintro _ rfl
    exact ⟨fun _ => ⟨rfl, rfl⟩, fun z => ⟨fun y => absurd ⟨by omega, by rw [mset_k _ _ (by decide), t.1] at y; exact y⟩ hx, fun _ => ⟨rfl, rfl⟩⟩⟩
end FEED
