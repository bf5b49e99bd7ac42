/-! ===== the cells of the class and of the reference, once both are made ===== -/
def S0 : List SH := [.inr (.int, 0), .inl 6, .inr (.int, 260), .inl 5, .inr (.int, 240), .inr (.int, 120), .inr (.int, 120), .inr (.int, 120), .inr (.int, 120), .inr (.int, 120), .inr (.int, 120), .inr (.int, 120), .inr (.int, 120), .inr (.int, 26), .inr (.int, 120), .inl 5, .inr (.int, 240), .inr (.int, 120), .inr (.int, 120), .inr (.int, 120), .inr (.int, 120), .inr (.int, 120), .inr (.int, 120), .inr (.int, 120), .inr (.int, 120), .inr (.int, 26), .inr (.int, 120), .inl 5, .inr (.int, 240), .inr (.int, 120), .inr (.int, 120), .inr (.int, 120), .inr (.int, 120), .inr (.int, 120), .inr (.int, 120), .inr (.int, 120), .inr (.int, 120), .inr (.int, 26), .inr (.int, 120), .inl 5, .inr (.int, 240), .inr (.int, 120), .inr (.int, 120), .inr (.int, 120), .inr (.int, 120), .inr (.int, 120), .inr (.int, 120), .inr (.int, 120), .inr (.int, 120), .inr (.int, 26), .inr (.int, 120), .inl 4, .inl 1, .inr (.int, 120), .inr (.int, 120), .inr (.int, 120), .inr (.int, 120), .inr (.int, 120), .inr (.int, 26), .inr (.int, 120), .inr (.boolean, 120), .inl 0, .inr (.int, 120), .inr (.int, 120), .inl 3, .inr (.boolean, 80), .inl 2, .inr (.array .int, 11), .inr (.int, 240), .inr (.int, 240), .inr (.int, 240), .inr (.int, 240), .inr (.int, 240), .inr (.int, 240), .inr (.int, 240), .inr (.int, 240), .inr (.int, 240), .inr (.int, 240), .inr (.int, 240), .inr (.int, 11), .inl 8, .inr (.byte, 240), .inl 7, .inr (.byte, 240), .inr (.int, 240), .inr (.int, 240), .inr (.int, 240), .inr (.int, 240), .inr (.int, 240), .inr (.int, 240), .inr (.int, 240), .inr (.boolean, 240), .inl 7, .inr (.byte, 240), .inr (.int, 240), .inr (.int, 240), .inr (.int, 240), .inr (.int, 240), .inr (.int, 240), .inr (.int, 240), .inr (.int, 240), .inr (.boolean, 240), .inl 7, .inr (.byte, 240), .inr (.int, 240), .inr (.int, 240), .inr (.int, 240), .inr (.int, 240), .inr (.int, 240), .inr (.int, 240), .inr (.int, 240), .inr (.boolean, 240), .inl 7, .inr (.byte, 240), .inr (.int, 240), .inr (.int, 240), .inr (.int, 240), .inr (.int, 240), .inr (.int, 240), .inr (.int, 240), .inr (.int, 240), .inr (.boolean, 240), .inl 7, .inr (.byte, 240), .inr (.int, 240), .inr (.int, 240), .inr (.int, 240), .inr (.int, 240), .inr (.int, 240), .inr (.int, 240), .inr (.int, 240), .inr (.boolean, 240), .inr (.byte, 2400), .inr (.int, 10), .inr (.boolean, 676), .inr (.int, 26), .inr (.int, 4000), .inr (.int, 4000), .inr (.int, 4000), .inr (.int, 4000), .inr (.int, 4000), .inr (.int, 26), .inr (.int, 26), .inr (.int, 26), .inr (.int, 26), .inr (.int, 26), .inr (.boolean, 240), .inr (.boolean, 240), .inr (.int, 240), .inr (.byte, 40000), .inr (.boolean, 240), .inr (.boolean, 240), .inr (.long, 1)]
def PL : List (Nat × Nat × Nat) := [(1, 0, 2), (1, 2, 3), (1, 3, 15), (1, 4, 27), (1, 5, 39), (1, 6, 51), (1, 7, 52), (1, 8, 61), (1, 9, 64), (1, 10, 66), (3, 0, 4), (3, 3, 5), (3, 4, 6), (3, 5, 7), (3, 6, 8), (3, 7, 9), (3, 8, 10), (3, 9, 11), (3, 10, 12), (3, 11, 13), (3, 12, 14), (15, 0, 16), (15, 3, 17), (15, 4, 18), (15, 5, 19), (15, 6, 20), (15, 7, 21), (15, 8, 22), (15, 9, 23), (15, 10, 24), (15, 11, 25), (15, 12, 26), (27, 0, 28), (27, 3, 29), (27, 4, 30), (27, 5, 31), (27, 6, 32), (27, 7, 33), (27, 8, 34), (27, 9, 35), (27, 10, 36), (27, 11, 37), (27, 12, 38), (39, 0, 40), (39, 3, 41), (39, 4, 42), (39, 5, 43), (39, 6, 44), (39, 7, 45), (39, 8, 46), (39, 9, 47), (39, 10, 48), (39, 11, 49), (39, 12, 50), (52, 0, 3), (52, 1, 15), (52, 2, 53), (52, 3, 54), (52, 4, 55), (52, 5, 56), (52, 6, 57), (52, 11, 58), (52, 12, 59), (52, 14, 60), (61, 0, 3), (61, 1, 52), (61, 2, 62), (61, 4, 63), (64, 0, 3), (64, 1, 27), (64, 2, 52), (64, 3, 65), (66, 0, 67), (66, 1, 79), (67, 0, 68), (67, 1, 69), (67, 2, 70), (67, 3, 71), (67, 4, 72), (67, 5, 73), (67, 6, 74), (67, 7, 75), (67, 8, 76), (67, 9, 77), (67, 10, 78), (80, 1, 81), (80, 3, 82), (80, 4, 92), (80, 5, 102), (80, 6, 112), (80, 7, 122), (80, 8, 132), (80, 9, 133), (80, 11, 134), (80, 20, 135), (80, 21, 136), (80, 22, 137), (80, 23, 138), (80, 24, 139), (80, 25, 140), (80, 27, 141), (80, 28, 142), (80, 29, 143), (80, 30, 144), (80, 31, 145), (80, 32, 146), (80, 33, 147), (80, 34, 148), (80, 35, 149), (80, 37, 150), (80, 38, 151), (82, 0, 83), (82, 3, 84), (82, 4, 85), (82, 5, 86), (82, 6, 87), (82, 7, 88), (82, 8, 89), (82, 9, 90), (82, 10, 91), (92, 0, 93), (92, 3, 94), (92, 4, 95), (92, 5, 96), (92, 6, 97), (92, 7, 98), (92, 8, 99), (92, 9, 100), (92, 10, 101), (102, 0, 103), (102, 3, 104), (102, 4, 105), (102, 5, 106), (102, 6, 107), (102, 7, 108), (102, 8, 109), (102, 9, 110), (102, 10, 111), (112, 0, 113), (112, 3, 114), (112, 4, 115), (112, 5, 116), (112, 6, 117), (112, 7, 118), (112, 8, 119), (112, 9, 120), (112, 10, 121), (122, 0, 123), (122, 3, 124), (122, 4, 125), (122, 5, 126), (122, 6, 127), (122, 7, 128), (122, 8, 129), (122, 9, 130), (122, 10, 131)]
/-- the graph of cells stands: shapes and fixed references -/
def GOk (g : AG) : Prop := (∀ a : Nat, a < 152 → g.1[a]? = S0[a]?) ∧ ∀ x ∈ PL, g.2.1 x.1 x.2.1 = some x.2.2
/-- the class's cells alone: so it is while the reference is not made yet -/
def GOc (g : AG) : Prop := (∀ a : Nat, a < 80 → g.1[a]? = S0[a]?) ∧ ∀ x ∈ PL.take 85, g.2.1 x.1 x.2.1 = some x.2.2
theorem GOk.c {g : AG} (h : GOk g) : GOc g := ⟨fun a ha => h.1 a (Nat.lt_of_lt_of_le ha (by decide)), fun x hx => h.2 x (List.mem_of_mem_take hx)⟩
/-- the reference's tree at hand is this one -/
abbrev sT (g : AG) (t : Nat) : AG := (g.1, mset g.2.1 80 12 (some t), g.2.2)
theorem gS {g : AG} {t : Nat} (hg : GOk g) : GOk (sT g t) := by
  refine ⟨hg.1, fun x hx => ?_⟩
  have h1 : ¬ (x.1 = 80 ∧ x.2.1 = 12) := by
    have h2 : ∀ x ∈ PL, ¬ (x.1 = 80 ∧ x.2.1 = 12) := by decide +kernel
    exact h2 x hx
  show mset g.2.1 80 12 (some t) x.1 x.2.1 = _
  unfold mset
  rw [if_neg h1]
  exact hg.2 x hx
theorem gC (g : AG) (t : Nat) : (sT g t).2.1 80 12 = some t := by simp [sT, mset]
theorem gs_1 {g : AG} (hg : GOc g) : g.1[1]? = some (.inl 6) := by rw [hg.1 _ (by decide)]; rfl
theorem gs_2 {g : AG} (hg : GOc g) : g.1[2]? = some (.inr (.int, 260)) := by rw [hg.1 _ (by decide)]; rfl
theorem gs_3 {g : AG} (hg : GOc g) : g.1[3]? = some (.inl 5) := by rw [hg.1 _ (by decide)]; rfl
theorem gs_4 {g : AG} (hg : GOc g) : g.1[4]? = some (.inr (.int, 240)) := by rw [hg.1 _ (by decide)]; rfl
theorem gs_5 {g : AG} (hg : GOc g) : g.1[5]? = some (.inr (.int, 120)) := by rw [hg.1 _ (by decide)]; rfl
theorem gs_6 {g : AG} (hg : GOc g) : g.1[6]? = some (.inr (.int, 120)) := by rw [hg.1 _ (by decide)]; rfl
theorem gs_7 {g : AG} (hg : GOc g) : g.1[7]? = some (.inr (.int, 120)) := by rw [hg.1 _ (by decide)]; rfl
theorem gs_8 {g : AG} (hg : GOc g) : g.1[8]? = some (.inr (.int, 120)) := by rw [hg.1 _ (by decide)]; rfl
theorem gs_9 {g : AG} (hg : GOc g) : g.1[9]? = some (.inr (.int, 120)) := by rw [hg.1 _ (by decide)]; rfl
theorem gs_10 {g : AG} (hg : GOc g) : g.1[10]? = some (.inr (.int, 120)) := by rw [hg.1 _ (by decide)]; rfl
theorem gs_11 {g : AG} (hg : GOc g) : g.1[11]? = some (.inr (.int, 120)) := by rw [hg.1 _ (by decide)]; rfl
theorem gs_12 {g : AG} (hg : GOc g) : g.1[12]? = some (.inr (.int, 120)) := by rw [hg.1 _ (by decide)]; rfl
theorem gs_13 {g : AG} (hg : GOc g) : g.1[13]? = some (.inr (.int, 26)) := by rw [hg.1 _ (by decide)]; rfl
theorem gs_14 {g : AG} (hg : GOc g) : g.1[14]? = some (.inr (.int, 120)) := by rw [hg.1 _ (by decide)]; rfl
theorem gs_15 {g : AG} (hg : GOc g) : g.1[15]? = some (.inl 5) := by rw [hg.1 _ (by decide)]; rfl
theorem gs_16 {g : AG} (hg : GOc g) : g.1[16]? = some (.inr (.int, 240)) := by rw [hg.1 _ (by decide)]; rfl
theorem gs_17 {g : AG} (hg : GOc g) : g.1[17]? = some (.inr (.int, 120)) := by rw [hg.1 _ (by decide)]; rfl
theorem gs_18 {g : AG} (hg : GOc g) : g.1[18]? = some (.inr (.int, 120)) := by rw [hg.1 _ (by decide)]; rfl
theorem gs_19 {g : AG} (hg : GOc g) : g.1[19]? = some (.inr (.int, 120)) := by rw [hg.1 _ (by decide)]; rfl
theorem gs_20 {g : AG} (hg : GOc g) : g.1[20]? = some (.inr (.int, 120)) := by rw [hg.1 _ (by decide)]; rfl
theorem gs_21 {g : AG} (hg : GOc g) : g.1[21]? = some (.inr (.int, 120)) := by rw [hg.1 _ (by decide)]; rfl
theorem gs_22 {g : AG} (hg : GOc g) : g.1[22]? = some (.inr (.int, 120)) := by rw [hg.1 _ (by decide)]; rfl
theorem gs_23 {g : AG} (hg : GOc g) : g.1[23]? = some (.inr (.int, 120)) := by rw [hg.1 _ (by decide)]; rfl
theorem gs_24 {g : AG} (hg : GOc g) : g.1[24]? = some (.inr (.int, 120)) := by rw [hg.1 _ (by decide)]; rfl
theorem gs_25 {g : AG} (hg : GOc g) : g.1[25]? = some (.inr (.int, 26)) := by rw [hg.1 _ (by decide)]; rfl
theorem gs_26 {g : AG} (hg : GOc g) : g.1[26]? = some (.inr (.int, 120)) := by rw [hg.1 _ (by decide)]; rfl
theorem gs_27 {g : AG} (hg : GOc g) : g.1[27]? = some (.inl 5) := by rw [hg.1 _ (by decide)]; rfl
theorem gs_28 {g : AG} (hg : GOc g) : g.1[28]? = some (.inr (.int, 240)) := by rw [hg.1 _ (by decide)]; rfl
theorem gs_29 {g : AG} (hg : GOc g) : g.1[29]? = some (.inr (.int, 120)) := by rw [hg.1 _ (by decide)]; rfl
theorem gs_30 {g : AG} (hg : GOc g) : g.1[30]? = some (.inr (.int, 120)) := by rw [hg.1 _ (by decide)]; rfl
theorem gs_31 {g : AG} (hg : GOc g) : g.1[31]? = some (.inr (.int, 120)) := by rw [hg.1 _ (by decide)]; rfl
theorem gs_32 {g : AG} (hg : GOc g) : g.1[32]? = some (.inr (.int, 120)) := by rw [hg.1 _ (by decide)]; rfl
theorem gs_33 {g : AG} (hg : GOc g) : g.1[33]? = some (.inr (.int, 120)) := by rw [hg.1 _ (by decide)]; rfl
theorem gs_34 {g : AG} (hg : GOc g) : g.1[34]? = some (.inr (.int, 120)) := by rw [hg.1 _ (by decide)]; rfl
theorem gs_35 {g : AG} (hg : GOc g) : g.1[35]? = some (.inr (.int, 120)) := by rw [hg.1 _ (by decide)]; rfl
theorem gs_36 {g : AG} (hg : GOc g) : g.1[36]? = some (.inr (.int, 120)) := by rw [hg.1 _ (by decide)]; rfl
theorem gs_37 {g : AG} (hg : GOc g) : g.1[37]? = some (.inr (.int, 26)) := by rw [hg.1 _ (by decide)]; rfl
theorem gs_38 {g : AG} (hg : GOc g) : g.1[38]? = some (.inr (.int, 120)) := by rw [hg.1 _ (by decide)]; rfl
theorem gs_39 {g : AG} (hg : GOc g) : g.1[39]? = some (.inl 5) := by rw [hg.1 _ (by decide)]; rfl
theorem gs_40 {g : AG} (hg : GOc g) : g.1[40]? = some (.inr (.int, 240)) := by rw [hg.1 _ (by decide)]; rfl
theorem gs_41 {g : AG} (hg : GOc g) : g.1[41]? = some (.inr (.int, 120)) := by rw [hg.1 _ (by decide)]; rfl
theorem gs_42 {g : AG} (hg : GOc g) : g.1[42]? = some (.inr (.int, 120)) := by rw [hg.1 _ (by decide)]; rfl
theorem gs_43 {g : AG} (hg : GOc g) : g.1[43]? = some (.inr (.int, 120)) := by rw [hg.1 _ (by decide)]; rfl
theorem gs_44 {g : AG} (hg : GOc g) : g.1[44]? = some (.inr (.int, 120)) := by rw [hg.1 _ (by decide)]; rfl
theorem gs_45 {g : AG} (hg : GOc g) : g.1[45]? = some (.inr (.int, 120)) := by rw [hg.1 _ (by decide)]; rfl
theorem gs_46 {g : AG} (hg : GOc g) : g.1[46]? = some (.inr (.int, 120)) := by rw [hg.1 _ (by decide)]; rfl
theorem gs_47 {g : AG} (hg : GOc g) : g.1[47]? = some (.inr (.int, 120)) := by rw [hg.1 _ (by decide)]; rfl
theorem gs_48 {g : AG} (hg : GOc g) : g.1[48]? = some (.inr (.int, 120)) := by rw [hg.1 _ (by decide)]; rfl
theorem gs_49 {g : AG} (hg : GOc g) : g.1[49]? = some (.inr (.int, 26)) := by rw [hg.1 _ (by decide)]; rfl
theorem gs_50 {g : AG} (hg : GOc g) : g.1[50]? = some (.inr (.int, 120)) := by rw [hg.1 _ (by decide)]; rfl
theorem gs_51 {g : AG} (hg : GOc g) : g.1[51]? = some (.inl 4) := by rw [hg.1 _ (by decide)]; rfl
theorem gs_52 {g : AG} (hg : GOc g) : g.1[52]? = some (.inl 1) := by rw [hg.1 _ (by decide)]; rfl
theorem gs_53 {g : AG} (hg : GOc g) : g.1[53]? = some (.inr (.int, 120)) := by rw [hg.1 _ (by decide)]; rfl
theorem gs_54 {g : AG} (hg : GOc g) : g.1[54]? = some (.inr (.int, 120)) := by rw [hg.1 _ (by decide)]; rfl
theorem gs_55 {g : AG} (hg : GOc g) : g.1[55]? = some (.inr (.int, 120)) := by rw [hg.1 _ (by decide)]; rfl
theorem gs_56 {g : AG} (hg : GOc g) : g.1[56]? = some (.inr (.int, 120)) := by rw [hg.1 _ (by decide)]; rfl
theorem gs_57 {g : AG} (hg : GOc g) : g.1[57]? = some (.inr (.int, 120)) := by rw [hg.1 _ (by decide)]; rfl
theorem gs_58 {g : AG} (hg : GOc g) : g.1[58]? = some (.inr (.int, 26)) := by rw [hg.1 _ (by decide)]; rfl
theorem gs_59 {g : AG} (hg : GOc g) : g.1[59]? = some (.inr (.int, 120)) := by rw [hg.1 _ (by decide)]; rfl
theorem gs_60 {g : AG} (hg : GOc g) : g.1[60]? = some (.inr (.boolean, 120)) := by rw [hg.1 _ (by decide)]; rfl
theorem gs_61 {g : AG} (hg : GOc g) : g.1[61]? = some (.inl 0) := by rw [hg.1 _ (by decide)]; rfl
theorem gs_62 {g : AG} (hg : GOc g) : g.1[62]? = some (.inr (.int, 120)) := by rw [hg.1 _ (by decide)]; rfl
theorem gs_63 {g : AG} (hg : GOc g) : g.1[63]? = some (.inr (.int, 120)) := by rw [hg.1 _ (by decide)]; rfl
theorem gs_64 {g : AG} (hg : GOc g) : g.1[64]? = some (.inl 3) := by rw [hg.1 _ (by decide)]; rfl
theorem gs_65 {g : AG} (hg : GOc g) : g.1[65]? = some (.inr (.boolean, 80)) := by rw [hg.1 _ (by decide)]; rfl
theorem gs_66 {g : AG} (hg : GOc g) : g.1[66]? = some (.inl 2) := by rw [hg.1 _ (by decide)]; rfl
theorem gs_67 {g : AG} (hg : GOc g) : g.1[67]? = some (.inr (.array .int, 11)) := by rw [hg.1 _ (by decide)]; rfl
theorem gs_68 {g : AG} (hg : GOc g) : g.1[68]? = some (.inr (.int, 240)) := by rw [hg.1 _ (by decide)]; rfl
theorem gs_69 {g : AG} (hg : GOc g) : g.1[69]? = some (.inr (.int, 240)) := by rw [hg.1 _ (by decide)]; rfl
theorem gs_70 {g : AG} (hg : GOc g) : g.1[70]? = some (.inr (.int, 240)) := by rw [hg.1 _ (by decide)]; rfl
theorem gs_71 {g : AG} (hg : GOc g) : g.1[71]? = some (.inr (.int, 240)) := by rw [hg.1 _ (by decide)]; rfl
theorem gs_72 {g : AG} (hg : GOc g) : g.1[72]? = some (.inr (.int, 240)) := by rw [hg.1 _ (by decide)]; rfl
theorem gs_73 {g : AG} (hg : GOc g) : g.1[73]? = some (.inr (.int, 240)) := by rw [hg.1 _ (by decide)]; rfl
theorem gs_74 {g : AG} (hg : GOc g) : g.1[74]? = some (.inr (.int, 240)) := by rw [hg.1 _ (by decide)]; rfl
theorem gs_75 {g : AG} (hg : GOc g) : g.1[75]? = some (.inr (.int, 240)) := by rw [hg.1 _ (by decide)]; rfl
theorem gs_76 {g : AG} (hg : GOc g) : g.1[76]? = some (.inr (.int, 240)) := by rw [hg.1 _ (by decide)]; rfl
theorem gs_77 {g : AG} (hg : GOc g) : g.1[77]? = some (.inr (.int, 240)) := by rw [hg.1 _ (by decide)]; rfl
theorem gs_78 {g : AG} (hg : GOc g) : g.1[78]? = some (.inr (.int, 240)) := by rw [hg.1 _ (by decide)]; rfl
theorem gs_79 {g : AG} (hg : GOc g) : g.1[79]? = some (.inr (.int, 11)) := by rw [hg.1 _ (by decide)]; rfl
theorem gs_80 {g : AG} (hg : GOk g) : g.1[80]? = some (.inl 8) := by rw [hg.1 _ (by decide)]; rfl
theorem gs_81 {g : AG} (hg : GOk g) : g.1[81]? = some (.inr (.byte, 240)) := by rw [hg.1 _ (by decide)]; rfl
theorem gs_82 {g : AG} (hg : GOk g) : g.1[82]? = some (.inl 7) := by rw [hg.1 _ (by decide)]; rfl
theorem gs_83 {g : AG} (hg : GOk g) : g.1[83]? = some (.inr (.byte, 240)) := by rw [hg.1 _ (by decide)]; rfl
theorem gs_84 {g : AG} (hg : GOk g) : g.1[84]? = some (.inr (.int, 240)) := by rw [hg.1 _ (by decide)]; rfl
theorem gs_85 {g : AG} (hg : GOk g) : g.1[85]? = some (.inr (.int, 240)) := by rw [hg.1 _ (by decide)]; rfl
theorem gs_86 {g : AG} (hg : GOk g) : g.1[86]? = some (.inr (.int, 240)) := by rw [hg.1 _ (by decide)]; rfl
theorem gs_87 {g : AG} (hg : GOk g) : g.1[87]? = some (.inr (.int, 240)) := by rw [hg.1 _ (by decide)]; rfl
theorem gs_88 {g : AG} (hg : GOk g) : g.1[88]? = some (.inr (.int, 240)) := by rw [hg.1 _ (by decide)]; rfl
theorem gs_89 {g : AG} (hg : GOk g) : g.1[89]? = some (.inr (.int, 240)) := by rw [hg.1 _ (by decide)]; rfl
theorem gs_90 {g : AG} (hg : GOk g) : g.1[90]? = some (.inr (.int, 240)) := by rw [hg.1 _ (by decide)]; rfl
theorem gs_91 {g : AG} (hg : GOk g) : g.1[91]? = some (.inr (.boolean, 240)) := by rw [hg.1 _ (by decide)]; rfl
theorem gs_92 {g : AG} (hg : GOk g) : g.1[92]? = some (.inl 7) := by rw [hg.1 _ (by decide)]; rfl
theorem gs_93 {g : AG} (hg : GOk g) : g.1[93]? = some (.inr (.byte, 240)) := by rw [hg.1 _ (by decide)]; rfl
theorem gs_94 {g : AG} (hg : GOk g) : g.1[94]? = some (.inr (.int, 240)) := by rw [hg.1 _ (by decide)]; rfl
theorem gs_95 {g : AG} (hg : GOk g) : g.1[95]? = some (.inr (.int, 240)) := by rw [hg.1 _ (by decide)]; rfl
theorem gs_96 {g : AG} (hg : GOk g) : g.1[96]? = some (.inr (.int, 240)) := by rw [hg.1 _ (by decide)]; rfl
theorem gs_97 {g : AG} (hg : GOk g) : g.1[97]? = some (.inr (.int, 240)) := by rw [hg.1 _ (by decide)]; rfl
theorem gs_98 {g : AG} (hg : GOk g) : g.1[98]? = some (.inr (.int, 240)) := by rw [hg.1 _ (by decide)]; rfl
theorem gs_99 {g : AG} (hg : GOk g) : g.1[99]? = some (.inr (.int, 240)) := by rw [hg.1 _ (by decide)]; rfl
theorem gs_100 {g : AG} (hg : GOk g) : g.1[100]? = some (.inr (.int, 240)) := by rw [hg.1 _ (by decide)]; rfl
theorem gs_101 {g : AG} (hg : GOk g) : g.1[101]? = some (.inr (.boolean, 240)) := by rw [hg.1 _ (by decide)]; rfl
theorem gs_102 {g : AG} (hg : GOk g) : g.1[102]? = some (.inl 7) := by rw [hg.1 _ (by decide)]; rfl
theorem gs_103 {g : AG} (hg : GOk g) : g.1[103]? = some (.inr (.byte, 240)) := by rw [hg.1 _ (by decide)]; rfl
theorem gs_104 {g : AG} (hg : GOk g) : g.1[104]? = some (.inr (.int, 240)) := by rw [hg.1 _ (by decide)]; rfl
theorem gs_105 {g : AG} (hg : GOk g) : g.1[105]? = some (.inr (.int, 240)) := by rw [hg.1 _ (by decide)]; rfl
theorem gs_106 {g : AG} (hg : GOk g) : g.1[106]? = some (.inr (.int, 240)) := by rw [hg.1 _ (by decide)]; rfl
theorem gs_107 {g : AG} (hg : GOk g) : g.1[107]? = some (.inr (.int, 240)) := by rw [hg.1 _ (by decide)]; rfl
theorem gs_108 {g : AG} (hg : GOk g) : g.1[108]? = some (.inr (.int, 240)) := by rw [hg.1 _ (by decide)]; rfl
theorem gs_109 {g : AG} (hg : GOk g) : g.1[109]? = some (.inr (.int, 240)) := by rw [hg.1 _ (by decide)]; rfl
theorem gs_110 {g : AG} (hg : GOk g) : g.1[110]? = some (.inr (.int, 240)) := by rw [hg.1 _ (by decide)]; rfl
theorem gs_111 {g : AG} (hg : GOk g) : g.1[111]? = some (.inr (.boolean, 240)) := by rw [hg.1 _ (by decide)]; rfl
theorem gs_112 {g : AG} (hg : GOk g) : g.1[112]? = some (.inl 7) := by rw [hg.1 _ (by decide)]; rfl
theorem gs_113 {g : AG} (hg : GOk g) : g.1[113]? = some (.inr (.byte, 240)) := by rw [hg.1 _ (by decide)]; rfl
theorem gs_114 {g : AG} (hg : GOk g) : g.1[114]? = some (.inr (.int, 240)) := by rw [hg.1 _ (by decide)]; rfl
theorem gs_115 {g : AG} (hg : GOk g) : g.1[115]? = some (.inr (.int, 240)) := by rw [hg.1 _ (by decide)]; rfl
theorem gs_116 {g : AG} (hg : GOk g) : g.1[116]? = some (.inr (.int, 240)) := by rw [hg.1 _ (by decide)]; rfl
theorem gs_117 {g : AG} (hg : GOk g) : g.1[117]? = some (.inr (.int, 240)) := by rw [hg.1 _ (by decide)]; rfl
theorem gs_118 {g : AG} (hg : GOk g) : g.1[118]? = some (.inr (.int, 240)) := by rw [hg.1 _ (by decide)]; rfl
theorem gs_119 {g : AG} (hg : GOk g) : g.1[119]? = some (.inr (.int, 240)) := by rw [hg.1 _ (by decide)]; rfl
theorem gs_120 {g : AG} (hg : GOk g) : g.1[120]? = some (.inr (.int, 240)) := by rw [hg.1 _ (by decide)]; rfl
theorem gs_121 {g : AG} (hg : GOk g) : g.1[121]? = some (.inr (.boolean, 240)) := by rw [hg.1 _ (by decide)]; rfl
theorem gs_122 {g : AG} (hg : GOk g) : g.1[122]? = some (.inl 7) := by rw [hg.1 _ (by decide)]; rfl
theorem gs_123 {g : AG} (hg : GOk g) : g.1[123]? = some (.inr (.byte, 240)) := by rw [hg.1 _ (by decide)]; rfl
theorem gs_124 {g : AG} (hg : GOk g) : g.1[124]? = some (.inr (.int, 240)) := by rw [hg.1 _ (by decide)]; rfl
theorem gs_125 {g : AG} (hg : GOk g) : g.1[125]? = some (.inr (.int, 240)) := by rw [hg.1 _ (by decide)]; rfl
theorem gs_126 {g : AG} (hg : GOk g) : g.1[126]? = some (.inr (.int, 240)) := by rw [hg.1 _ (by decide)]; rfl
theorem gs_127 {g : AG} (hg : GOk g) : g.1[127]? = some (.inr (.int, 240)) := by rw [hg.1 _ (by decide)]; rfl
theorem gs_128 {g : AG} (hg : GOk g) : g.1[128]? = some (.inr (.int, 240)) := by rw [hg.1 _ (by decide)]; rfl
theorem gs_129 {g : AG} (hg : GOk g) : g.1[129]? = some (.inr (.int, 240)) := by rw [hg.1 _ (by decide)]; rfl
theorem gs_130 {g : AG} (hg : GOk g) : g.1[130]? = some (.inr (.int, 240)) := by rw [hg.1 _ (by decide)]; rfl
theorem gs_131 {g : AG} (hg : GOk g) : g.1[131]? = some (.inr (.boolean, 240)) := by rw [hg.1 _ (by decide)]; rfl
theorem gs_132 {g : AG} (hg : GOk g) : g.1[132]? = some (.inr (.byte, 2400)) := by rw [hg.1 _ (by decide)]; rfl
theorem gs_133 {g : AG} (hg : GOk g) : g.1[133]? = some (.inr (.int, 10)) := by rw [hg.1 _ (by decide)]; rfl
theorem gs_134 {g : AG} (hg : GOk g) : g.1[134]? = some (.inr (.boolean, 676)) := by rw [hg.1 _ (by decide)]; rfl
theorem gs_135 {g : AG} (hg : GOk g) : g.1[135]? = some (.inr (.int, 26)) := by rw [hg.1 _ (by decide)]; rfl
theorem gs_136 {g : AG} (hg : GOk g) : g.1[136]? = some (.inr (.int, 4000)) := by rw [hg.1 _ (by decide)]; rfl
theorem gs_137 {g : AG} (hg : GOk g) : g.1[137]? = some (.inr (.int, 4000)) := by rw [hg.1 _ (by decide)]; rfl
theorem gs_138 {g : AG} (hg : GOk g) : g.1[138]? = some (.inr (.int, 4000)) := by rw [hg.1 _ (by decide)]; rfl
theorem gs_139 {g : AG} (hg : GOk g) : g.1[139]? = some (.inr (.int, 4000)) := by rw [hg.1 _ (by decide)]; rfl
theorem gs_140 {g : AG} (hg : GOk g) : g.1[140]? = some (.inr (.int, 4000)) := by rw [hg.1 _ (by decide)]; rfl
theorem gs_141 {g : AG} (hg : GOk g) : g.1[141]? = some (.inr (.int, 26)) := by rw [hg.1 _ (by decide)]; rfl
theorem gs_142 {g : AG} (hg : GOk g) : g.1[142]? = some (.inr (.int, 26)) := by rw [hg.1 _ (by decide)]; rfl
theorem gs_143 {g : AG} (hg : GOk g) : g.1[143]? = some (.inr (.int, 26)) := by rw [hg.1 _ (by decide)]; rfl
theorem gs_144 {g : AG} (hg : GOk g) : g.1[144]? = some (.inr (.int, 26)) := by rw [hg.1 _ (by decide)]; rfl
theorem gs_145 {g : AG} (hg : GOk g) : g.1[145]? = some (.inr (.int, 26)) := by rw [hg.1 _ (by decide)]; rfl
theorem gs_146 {g : AG} (hg : GOk g) : g.1[146]? = some (.inr (.boolean, 240)) := by rw [hg.1 _ (by decide)]; rfl
theorem gs_147 {g : AG} (hg : GOk g) : g.1[147]? = some (.inr (.boolean, 240)) := by rw [hg.1 _ (by decide)]; rfl
theorem gs_148 {g : AG} (hg : GOk g) : g.1[148]? = some (.inr (.int, 240)) := by rw [hg.1 _ (by decide)]; rfl
theorem gs_149 {g : AG} (hg : GOk g) : g.1[149]? = some (.inr (.byte, 40000)) := by rw [hg.1 _ (by decide)]; rfl
theorem gs_150 {g : AG} (hg : GOk g) : g.1[150]? = some (.inr (.boolean, 240)) := by rw [hg.1 _ (by decide)]; rfl
theorem gs_151 {g : AG} (hg : GOk g) : g.1[151]? = some (.inr (.boolean, 240)) := by rw [hg.1 _ (by decide)]; rfl
theorem gs_152 {g : AG} (hg : g.1 = S0) : g.1[152]? = some (.inr (.long, 1)) := by rw [hg]; rfl
theorem gp_1_0 {g : AG} (hg : GOc g) : g.2.1 1 0 = some 2 := hg.2 (1, 0, 2) (List.mem_of_getElem? (i := 0) rfl)
theorem gp_1_2 {g : AG} (hg : GOc g) : g.2.1 1 2 = some 3 := hg.2 (1, 2, 3) (List.mem_of_getElem? (i := 1) rfl)
theorem gp_1_3 {g : AG} (hg : GOc g) : g.2.1 1 3 = some 15 := hg.2 (1, 3, 15) (List.mem_of_getElem? (i := 2) rfl)
theorem gp_1_4 {g : AG} (hg : GOc g) : g.2.1 1 4 = some 27 := hg.2 (1, 4, 27) (List.mem_of_getElem? (i := 3) rfl)
theorem gp_1_5 {g : AG} (hg : GOc g) : g.2.1 1 5 = some 39 := hg.2 (1, 5, 39) (List.mem_of_getElem? (i := 4) rfl)
theorem gp_1_6 {g : AG} (hg : GOc g) : g.2.1 1 6 = some 51 := hg.2 (1, 6, 51) (List.mem_of_getElem? (i := 5) rfl)
theorem gp_1_7 {g : AG} (hg : GOc g) : g.2.1 1 7 = some 52 := hg.2 (1, 7, 52) (List.mem_of_getElem? (i := 6) rfl)
theorem gp_1_8 {g : AG} (hg : GOc g) : g.2.1 1 8 = some 61 := hg.2 (1, 8, 61) (List.mem_of_getElem? (i := 7) rfl)
theorem gp_1_9 {g : AG} (hg : GOc g) : g.2.1 1 9 = some 64 := hg.2 (1, 9, 64) (List.mem_of_getElem? (i := 8) rfl)
theorem gp_1_10 {g : AG} (hg : GOc g) : g.2.1 1 10 = some 66 := hg.2 (1, 10, 66) (List.mem_of_getElem? (i := 9) rfl)
theorem gp_3_0 {g : AG} (hg : GOc g) : g.2.1 3 0 = some 4 := hg.2 (3, 0, 4) (List.mem_of_getElem? (i := 10) rfl)
theorem gp_3_3 {g : AG} (hg : GOc g) : g.2.1 3 3 = some 5 := hg.2 (3, 3, 5) (List.mem_of_getElem? (i := 11) rfl)
theorem gp_3_4 {g : AG} (hg : GOc g) : g.2.1 3 4 = some 6 := hg.2 (3, 4, 6) (List.mem_of_getElem? (i := 12) rfl)
theorem gp_3_5 {g : AG} (hg : GOc g) : g.2.1 3 5 = some 7 := hg.2 (3, 5, 7) (List.mem_of_getElem? (i := 13) rfl)
theorem gp_3_6 {g : AG} (hg : GOc g) : g.2.1 3 6 = some 8 := hg.2 (3, 6, 8) (List.mem_of_getElem? (i := 14) rfl)
theorem gp_3_7 {g : AG} (hg : GOc g) : g.2.1 3 7 = some 9 := hg.2 (3, 7, 9) (List.mem_of_getElem? (i := 15) rfl)
theorem gp_3_8 {g : AG} (hg : GOc g) : g.2.1 3 8 = some 10 := hg.2 (3, 8, 10) (List.mem_of_getElem? (i := 16) rfl)
theorem gp_3_9 {g : AG} (hg : GOc g) : g.2.1 3 9 = some 11 := hg.2 (3, 9, 11) (List.mem_of_getElem? (i := 17) rfl)
theorem gp_3_10 {g : AG} (hg : GOc g) : g.2.1 3 10 = some 12 := hg.2 (3, 10, 12) (List.mem_of_getElem? (i := 18) rfl)
theorem gp_3_11 {g : AG} (hg : GOc g) : g.2.1 3 11 = some 13 := hg.2 (3, 11, 13) (List.mem_of_getElem? (i := 19) rfl)
theorem gp_3_12 {g : AG} (hg : GOc g) : g.2.1 3 12 = some 14 := hg.2 (3, 12, 14) (List.mem_of_getElem? (i := 20) rfl)
theorem gp_15_0 {g : AG} (hg : GOc g) : g.2.1 15 0 = some 16 := hg.2 (15, 0, 16) (List.mem_of_getElem? (i := 21) rfl)
theorem gp_15_3 {g : AG} (hg : GOc g) : g.2.1 15 3 = some 17 := hg.2 (15, 3, 17) (List.mem_of_getElem? (i := 22) rfl)
theorem gp_15_4 {g : AG} (hg : GOc g) : g.2.1 15 4 = some 18 := hg.2 (15, 4, 18) (List.mem_of_getElem? (i := 23) rfl)
theorem gp_15_5 {g : AG} (hg : GOc g) : g.2.1 15 5 = some 19 := hg.2 (15, 5, 19) (List.mem_of_getElem? (i := 24) rfl)
theorem gp_15_6 {g : AG} (hg : GOc g) : g.2.1 15 6 = some 20 := hg.2 (15, 6, 20) (List.mem_of_getElem? (i := 25) rfl)
theorem gp_15_7 {g : AG} (hg : GOc g) : g.2.1 15 7 = some 21 := hg.2 (15, 7, 21) (List.mem_of_getElem? (i := 26) rfl)
theorem gp_15_8 {g : AG} (hg : GOc g) : g.2.1 15 8 = some 22 := hg.2 (15, 8, 22) (List.mem_of_getElem? (i := 27) rfl)
theorem gp_15_9 {g : AG} (hg : GOc g) : g.2.1 15 9 = some 23 := hg.2 (15, 9, 23) (List.mem_of_getElem? (i := 28) rfl)
theorem gp_15_10 {g : AG} (hg : GOc g) : g.2.1 15 10 = some 24 := hg.2 (15, 10, 24) (List.mem_of_getElem? (i := 29) rfl)
theorem gp_15_11 {g : AG} (hg : GOc g) : g.2.1 15 11 = some 25 := hg.2 (15, 11, 25) (List.mem_of_getElem? (i := 30) rfl)
theorem gp_15_12 {g : AG} (hg : GOc g) : g.2.1 15 12 = some 26 := hg.2 (15, 12, 26) (List.mem_of_getElem? (i := 31) rfl)
theorem gp_27_0 {g : AG} (hg : GOc g) : g.2.1 27 0 = some 28 := hg.2 (27, 0, 28) (List.mem_of_getElem? (i := 32) rfl)
theorem gp_27_3 {g : AG} (hg : GOc g) : g.2.1 27 3 = some 29 := hg.2 (27, 3, 29) (List.mem_of_getElem? (i := 33) rfl)
theorem gp_27_4 {g : AG} (hg : GOc g) : g.2.1 27 4 = some 30 := hg.2 (27, 4, 30) (List.mem_of_getElem? (i := 34) rfl)
theorem gp_27_5 {g : AG} (hg : GOc g) : g.2.1 27 5 = some 31 := hg.2 (27, 5, 31) (List.mem_of_getElem? (i := 35) rfl)
theorem gp_27_6 {g : AG} (hg : GOc g) : g.2.1 27 6 = some 32 := hg.2 (27, 6, 32) (List.mem_of_getElem? (i := 36) rfl)
theorem gp_27_7 {g : AG} (hg : GOc g) : g.2.1 27 7 = some 33 := hg.2 (27, 7, 33) (List.mem_of_getElem? (i := 37) rfl)
theorem gp_27_8 {g : AG} (hg : GOc g) : g.2.1 27 8 = some 34 := hg.2 (27, 8, 34) (List.mem_of_getElem? (i := 38) rfl)
theorem gp_27_9 {g : AG} (hg : GOc g) : g.2.1 27 9 = some 35 := hg.2 (27, 9, 35) (List.mem_of_getElem? (i := 39) rfl)
theorem gp_27_10 {g : AG} (hg : GOc g) : g.2.1 27 10 = some 36 := hg.2 (27, 10, 36) (List.mem_of_getElem? (i := 40) rfl)
theorem gp_27_11 {g : AG} (hg : GOc g) : g.2.1 27 11 = some 37 := hg.2 (27, 11, 37) (List.mem_of_getElem? (i := 41) rfl)
theorem gp_27_12 {g : AG} (hg : GOc g) : g.2.1 27 12 = some 38 := hg.2 (27, 12, 38) (List.mem_of_getElem? (i := 42) rfl)
theorem gp_39_0 {g : AG} (hg : GOc g) : g.2.1 39 0 = some 40 := hg.2 (39, 0, 40) (List.mem_of_getElem? (i := 43) rfl)
theorem gp_39_3 {g : AG} (hg : GOc g) : g.2.1 39 3 = some 41 := hg.2 (39, 3, 41) (List.mem_of_getElem? (i := 44) rfl)
theorem gp_39_4 {g : AG} (hg : GOc g) : g.2.1 39 4 = some 42 := hg.2 (39, 4, 42) (List.mem_of_getElem? (i := 45) rfl)
theorem gp_39_5 {g : AG} (hg : GOc g) : g.2.1 39 5 = some 43 := hg.2 (39, 5, 43) (List.mem_of_getElem? (i := 46) rfl)
theorem gp_39_6 {g : AG} (hg : GOc g) : g.2.1 39 6 = some 44 := hg.2 (39, 6, 44) (List.mem_of_getElem? (i := 47) rfl)
theorem gp_39_7 {g : AG} (hg : GOc g) : g.2.1 39 7 = some 45 := hg.2 (39, 7, 45) (List.mem_of_getElem? (i := 48) rfl)
theorem gp_39_8 {g : AG} (hg : GOc g) : g.2.1 39 8 = some 46 := hg.2 (39, 8, 46) (List.mem_of_getElem? (i := 49) rfl)
theorem gp_39_9 {g : AG} (hg : GOc g) : g.2.1 39 9 = some 47 := hg.2 (39, 9, 47) (List.mem_of_getElem? (i := 50) rfl)
theorem gp_39_10 {g : AG} (hg : GOc g) : g.2.1 39 10 = some 48 := hg.2 (39, 10, 48) (List.mem_of_getElem? (i := 51) rfl)
theorem gp_39_11 {g : AG} (hg : GOc g) : g.2.1 39 11 = some 49 := hg.2 (39, 11, 49) (List.mem_of_getElem? (i := 52) rfl)
theorem gp_39_12 {g : AG} (hg : GOc g) : g.2.1 39 12 = some 50 := hg.2 (39, 12, 50) (List.mem_of_getElem? (i := 53) rfl)
theorem gp_52_0 {g : AG} (hg : GOc g) : g.2.1 52 0 = some 3 := hg.2 (52, 0, 3) (List.mem_of_getElem? (i := 54) rfl)
theorem gp_52_1 {g : AG} (hg : GOc g) : g.2.1 52 1 = some 15 := hg.2 (52, 1, 15) (List.mem_of_getElem? (i := 55) rfl)
theorem gp_52_2 {g : AG} (hg : GOc g) : g.2.1 52 2 = some 53 := hg.2 (52, 2, 53) (List.mem_of_getElem? (i := 56) rfl)
theorem gp_52_3 {g : AG} (hg : GOc g) : g.2.1 52 3 = some 54 := hg.2 (52, 3, 54) (List.mem_of_getElem? (i := 57) rfl)
theorem gp_52_4 {g : AG} (hg : GOc g) : g.2.1 52 4 = some 55 := hg.2 (52, 4, 55) (List.mem_of_getElem? (i := 58) rfl)
theorem gp_52_5 {g : AG} (hg : GOc g) : g.2.1 52 5 = some 56 := hg.2 (52, 5, 56) (List.mem_of_getElem? (i := 59) rfl)
theorem gp_52_6 {g : AG} (hg : GOc g) : g.2.1 52 6 = some 57 := hg.2 (52, 6, 57) (List.mem_of_getElem? (i := 60) rfl)
theorem gp_52_11 {g : AG} (hg : GOc g) : g.2.1 52 11 = some 58 := hg.2 (52, 11, 58) (List.mem_of_getElem? (i := 61) rfl)
theorem gp_52_12 {g : AG} (hg : GOc g) : g.2.1 52 12 = some 59 := hg.2 (52, 12, 59) (List.mem_of_getElem? (i := 62) rfl)
theorem gp_52_14 {g : AG} (hg : GOc g) : g.2.1 52 14 = some 60 := hg.2 (52, 14, 60) (List.mem_of_getElem? (i := 63) rfl)
theorem gp_61_0 {g : AG} (hg : GOc g) : g.2.1 61 0 = some 3 := hg.2 (61, 0, 3) (List.mem_of_getElem? (i := 64) rfl)
theorem gp_61_1 {g : AG} (hg : GOc g) : g.2.1 61 1 = some 52 := hg.2 (61, 1, 52) (List.mem_of_getElem? (i := 65) rfl)
theorem gp_61_2 {g : AG} (hg : GOc g) : g.2.1 61 2 = some 62 := hg.2 (61, 2, 62) (List.mem_of_getElem? (i := 66) rfl)
theorem gp_61_4 {g : AG} (hg : GOc g) : g.2.1 61 4 = some 63 := hg.2 (61, 4, 63) (List.mem_of_getElem? (i := 67) rfl)
theorem gp_64_0 {g : AG} (hg : GOc g) : g.2.1 64 0 = some 3 := hg.2 (64, 0, 3) (List.mem_of_getElem? (i := 68) rfl)
theorem gp_64_1 {g : AG} (hg : GOc g) : g.2.1 64 1 = some 27 := hg.2 (64, 1, 27) (List.mem_of_getElem? (i := 69) rfl)
theorem gp_64_2 {g : AG} (hg : GOc g) : g.2.1 64 2 = some 52 := hg.2 (64, 2, 52) (List.mem_of_getElem? (i := 70) rfl)
theorem gp_64_3 {g : AG} (hg : GOc g) : g.2.1 64 3 = some 65 := hg.2 (64, 3, 65) (List.mem_of_getElem? (i := 71) rfl)
theorem gp_66_0 {g : AG} (hg : GOc g) : g.2.1 66 0 = some 67 := hg.2 (66, 0, 67) (List.mem_of_getElem? (i := 72) rfl)
theorem gp_66_1 {g : AG} (hg : GOc g) : g.2.1 66 1 = some 79 := hg.2 (66, 1, 79) (List.mem_of_getElem? (i := 73) rfl)
theorem gp_67_0 {g : AG} (hg : GOc g) : g.2.1 67 0 = some 68 := hg.2 (67, 0, 68) (List.mem_of_getElem? (i := 74) rfl)
theorem gp_67_1 {g : AG} (hg : GOc g) : g.2.1 67 1 = some 69 := hg.2 (67, 1, 69) (List.mem_of_getElem? (i := 75) rfl)
theorem gp_67_2 {g : AG} (hg : GOc g) : g.2.1 67 2 = some 70 := hg.2 (67, 2, 70) (List.mem_of_getElem? (i := 76) rfl)
theorem gp_67_3 {g : AG} (hg : GOc g) : g.2.1 67 3 = some 71 := hg.2 (67, 3, 71) (List.mem_of_getElem? (i := 77) rfl)
theorem gp_67_4 {g : AG} (hg : GOc g) : g.2.1 67 4 = some 72 := hg.2 (67, 4, 72) (List.mem_of_getElem? (i := 78) rfl)
theorem gp_67_5 {g : AG} (hg : GOc g) : g.2.1 67 5 = some 73 := hg.2 (67, 5, 73) (List.mem_of_getElem? (i := 79) rfl)
theorem gp_67_6 {g : AG} (hg : GOc g) : g.2.1 67 6 = some 74 := hg.2 (67, 6, 74) (List.mem_of_getElem? (i := 80) rfl)
theorem gp_67_7 {g : AG} (hg : GOc g) : g.2.1 67 7 = some 75 := hg.2 (67, 7, 75) (List.mem_of_getElem? (i := 81) rfl)
theorem gp_67_8 {g : AG} (hg : GOc g) : g.2.1 67 8 = some 76 := hg.2 (67, 8, 76) (List.mem_of_getElem? (i := 82) rfl)
theorem gp_67_9 {g : AG} (hg : GOc g) : g.2.1 67 9 = some 77 := hg.2 (67, 9, 77) (List.mem_of_getElem? (i := 83) rfl)
theorem gp_67_10 {g : AG} (hg : GOc g) : g.2.1 67 10 = some 78 := hg.2 (67, 10, 78) (List.mem_of_getElem? (i := 84) rfl)
theorem gp_80_1 {g : AG} (hg : GOk g) : g.2.1 80 1 = some 81 := hg.2 (80, 1, 81) (List.mem_of_getElem? (i := 85) rfl)
theorem gp_80_3 {g : AG} (hg : GOk g) : g.2.1 80 3 = some 82 := hg.2 (80, 3, 82) (List.mem_of_getElem? (i := 86) rfl)
theorem gp_80_4 {g : AG} (hg : GOk g) : g.2.1 80 4 = some 92 := hg.2 (80, 4, 92) (List.mem_of_getElem? (i := 87) rfl)
theorem gp_80_5 {g : AG} (hg : GOk g) : g.2.1 80 5 = some 102 := hg.2 (80, 5, 102) (List.mem_of_getElem? (i := 88) rfl)
theorem gp_80_6 {g : AG} (hg : GOk g) : g.2.1 80 6 = some 112 := hg.2 (80, 6, 112) (List.mem_of_getElem? (i := 89) rfl)
theorem gp_80_7 {g : AG} (hg : GOk g) : g.2.1 80 7 = some 122 := hg.2 (80, 7, 122) (List.mem_of_getElem? (i := 90) rfl)
theorem gp_80_8 {g : AG} (hg : GOk g) : g.2.1 80 8 = some 132 := hg.2 (80, 8, 132) (List.mem_of_getElem? (i := 91) rfl)
theorem gp_80_9 {g : AG} (hg : GOk g) : g.2.1 80 9 = some 133 := hg.2 (80, 9, 133) (List.mem_of_getElem? (i := 92) rfl)
theorem gp_80_11 {g : AG} (hg : GOk g) : g.2.1 80 11 = some 134 := hg.2 (80, 11, 134) (List.mem_of_getElem? (i := 93) rfl)
theorem gp_80_20 {g : AG} (hg : GOk g) : g.2.1 80 20 = some 135 := hg.2 (80, 20, 135) (List.mem_of_getElem? (i := 94) rfl)
theorem gp_80_21 {g : AG} (hg : GOk g) : g.2.1 80 21 = some 136 := hg.2 (80, 21, 136) (List.mem_of_getElem? (i := 95) rfl)
theorem gp_80_22 {g : AG} (hg : GOk g) : g.2.1 80 22 = some 137 := hg.2 (80, 22, 137) (List.mem_of_getElem? (i := 96) rfl)
theorem gp_80_23 {g : AG} (hg : GOk g) : g.2.1 80 23 = some 138 := hg.2 (80, 23, 138) (List.mem_of_getElem? (i := 97) rfl)
theorem gp_80_24 {g : AG} (hg : GOk g) : g.2.1 80 24 = some 139 := hg.2 (80, 24, 139) (List.mem_of_getElem? (i := 98) rfl)
theorem gp_80_25 {g : AG} (hg : GOk g) : g.2.1 80 25 = some 140 := hg.2 (80, 25, 140) (List.mem_of_getElem? (i := 99) rfl)
theorem gp_80_27 {g : AG} (hg : GOk g) : g.2.1 80 27 = some 141 := hg.2 (80, 27, 141) (List.mem_of_getElem? (i := 100) rfl)
theorem gp_80_28 {g : AG} (hg : GOk g) : g.2.1 80 28 = some 142 := hg.2 (80, 28, 142) (List.mem_of_getElem? (i := 101) rfl)
theorem gp_80_29 {g : AG} (hg : GOk g) : g.2.1 80 29 = some 143 := hg.2 (80, 29, 143) (List.mem_of_getElem? (i := 102) rfl)
theorem gp_80_30 {g : AG} (hg : GOk g) : g.2.1 80 30 = some 144 := hg.2 (80, 30, 144) (List.mem_of_getElem? (i := 103) rfl)
theorem gp_80_31 {g : AG} (hg : GOk g) : g.2.1 80 31 = some 145 := hg.2 (80, 31, 145) (List.mem_of_getElem? (i := 104) rfl)
theorem gp_80_32 {g : AG} (hg : GOk g) : g.2.1 80 32 = some 146 := hg.2 (80, 32, 146) (List.mem_of_getElem? (i := 105) rfl)
theorem gp_80_33 {g : AG} (hg : GOk g) : g.2.1 80 33 = some 147 := hg.2 (80, 33, 147) (List.mem_of_getElem? (i := 106) rfl)
theorem gp_80_34 {g : AG} (hg : GOk g) : g.2.1 80 34 = some 148 := hg.2 (80, 34, 148) (List.mem_of_getElem? (i := 107) rfl)
theorem gp_80_35 {g : AG} (hg : GOk g) : g.2.1 80 35 = some 149 := hg.2 (80, 35, 149) (List.mem_of_getElem? (i := 108) rfl)
theorem gp_80_37 {g : AG} (hg : GOk g) : g.2.1 80 37 = some 150 := hg.2 (80, 37, 150) (List.mem_of_getElem? (i := 109) rfl)
theorem gp_80_38 {g : AG} (hg : GOk g) : g.2.1 80 38 = some 151 := hg.2 (80, 38, 151) (List.mem_of_getElem? (i := 110) rfl)
theorem gp_82_0 {g : AG} (hg : GOk g) : g.2.1 82 0 = some 83 := hg.2 (82, 0, 83) (List.mem_of_getElem? (i := 111) rfl)
theorem gp_82_3 {g : AG} (hg : GOk g) : g.2.1 82 3 = some 84 := hg.2 (82, 3, 84) (List.mem_of_getElem? (i := 112) rfl)
theorem gp_82_4 {g : AG} (hg : GOk g) : g.2.1 82 4 = some 85 := hg.2 (82, 4, 85) (List.mem_of_getElem? (i := 113) rfl)
theorem gp_82_5 {g : AG} (hg : GOk g) : g.2.1 82 5 = some 86 := hg.2 (82, 5, 86) (List.mem_of_getElem? (i := 114) rfl)
theorem gp_82_6 {g : AG} (hg : GOk g) : g.2.1 82 6 = some 87 := hg.2 (82, 6, 87) (List.mem_of_getElem? (i := 115) rfl)
theorem gp_82_7 {g : AG} (hg : GOk g) : g.2.1 82 7 = some 88 := hg.2 (82, 7, 88) (List.mem_of_getElem? (i := 116) rfl)
theorem gp_82_8 {g : AG} (hg : GOk g) : g.2.1 82 8 = some 89 := hg.2 (82, 8, 89) (List.mem_of_getElem? (i := 117) rfl)
theorem gp_82_9 {g : AG} (hg : GOk g) : g.2.1 82 9 = some 90 := hg.2 (82, 9, 90) (List.mem_of_getElem? (i := 118) rfl)
theorem gp_82_10 {g : AG} (hg : GOk g) : g.2.1 82 10 = some 91 := hg.2 (82, 10, 91) (List.mem_of_getElem? (i := 119) rfl)
theorem gp_92_0 {g : AG} (hg : GOk g) : g.2.1 92 0 = some 93 := hg.2 (92, 0, 93) (List.mem_of_getElem? (i := 120) rfl)
theorem gp_92_3 {g : AG} (hg : GOk g) : g.2.1 92 3 = some 94 := hg.2 (92, 3, 94) (List.mem_of_getElem? (i := 121) rfl)
theorem gp_92_4 {g : AG} (hg : GOk g) : g.2.1 92 4 = some 95 := hg.2 (92, 4, 95) (List.mem_of_getElem? (i := 122) rfl)
theorem gp_92_5 {g : AG} (hg : GOk g) : g.2.1 92 5 = some 96 := hg.2 (92, 5, 96) (List.mem_of_getElem? (i := 123) rfl)
theorem gp_92_6 {g : AG} (hg : GOk g) : g.2.1 92 6 = some 97 := hg.2 (92, 6, 97) (List.mem_of_getElem? (i := 124) rfl)
theorem gp_92_7 {g : AG} (hg : GOk g) : g.2.1 92 7 = some 98 := hg.2 (92, 7, 98) (List.mem_of_getElem? (i := 125) rfl)
theorem gp_92_8 {g : AG} (hg : GOk g) : g.2.1 92 8 = some 99 := hg.2 (92, 8, 99) (List.mem_of_getElem? (i := 126) rfl)
theorem gp_92_9 {g : AG} (hg : GOk g) : g.2.1 92 9 = some 100 := hg.2 (92, 9, 100) (List.mem_of_getElem? (i := 127) rfl)
theorem gp_92_10 {g : AG} (hg : GOk g) : g.2.1 92 10 = some 101 := hg.2 (92, 10, 101) (List.mem_of_getElem? (i := 128) rfl)
theorem gp_102_0 {g : AG} (hg : GOk g) : g.2.1 102 0 = some 103 := hg.2 (102, 0, 103) (List.mem_of_getElem? (i := 129) rfl)
theorem gp_102_3 {g : AG} (hg : GOk g) : g.2.1 102 3 = some 104 := hg.2 (102, 3, 104) (List.mem_of_getElem? (i := 130) rfl)
theorem gp_102_4 {g : AG} (hg : GOk g) : g.2.1 102 4 = some 105 := hg.2 (102, 4, 105) (List.mem_of_getElem? (i := 131) rfl)
theorem gp_102_5 {g : AG} (hg : GOk g) : g.2.1 102 5 = some 106 := hg.2 (102, 5, 106) (List.mem_of_getElem? (i := 132) rfl)
theorem gp_102_6 {g : AG} (hg : GOk g) : g.2.1 102 6 = some 107 := hg.2 (102, 6, 107) (List.mem_of_getElem? (i := 133) rfl)
theorem gp_102_7 {g : AG} (hg : GOk g) : g.2.1 102 7 = some 108 := hg.2 (102, 7, 108) (List.mem_of_getElem? (i := 134) rfl)
theorem gp_102_8 {g : AG} (hg : GOk g) : g.2.1 102 8 = some 109 := hg.2 (102, 8, 109) (List.mem_of_getElem? (i := 135) rfl)
theorem gp_102_9 {g : AG} (hg : GOk g) : g.2.1 102 9 = some 110 := hg.2 (102, 9, 110) (List.mem_of_getElem? (i := 136) rfl)
theorem gp_102_10 {g : AG} (hg : GOk g) : g.2.1 102 10 = some 111 := hg.2 (102, 10, 111) (List.mem_of_getElem? (i := 137) rfl)
theorem gp_112_0 {g : AG} (hg : GOk g) : g.2.1 112 0 = some 113 := hg.2 (112, 0, 113) (List.mem_of_getElem? (i := 138) rfl)
theorem gp_112_3 {g : AG} (hg : GOk g) : g.2.1 112 3 = some 114 := hg.2 (112, 3, 114) (List.mem_of_getElem? (i := 139) rfl)
theorem gp_112_4 {g : AG} (hg : GOk g) : g.2.1 112 4 = some 115 := hg.2 (112, 4, 115) (List.mem_of_getElem? (i := 140) rfl)
theorem gp_112_5 {g : AG} (hg : GOk g) : g.2.1 112 5 = some 116 := hg.2 (112, 5, 116) (List.mem_of_getElem? (i := 141) rfl)
theorem gp_112_6 {g : AG} (hg : GOk g) : g.2.1 112 6 = some 117 := hg.2 (112, 6, 117) (List.mem_of_getElem? (i := 142) rfl)
theorem gp_112_7 {g : AG} (hg : GOk g) : g.2.1 112 7 = some 118 := hg.2 (112, 7, 118) (List.mem_of_getElem? (i := 143) rfl)
theorem gp_112_8 {g : AG} (hg : GOk g) : g.2.1 112 8 = some 119 := hg.2 (112, 8, 119) (List.mem_of_getElem? (i := 144) rfl)
theorem gp_112_9 {g : AG} (hg : GOk g) : g.2.1 112 9 = some 120 := hg.2 (112, 9, 120) (List.mem_of_getElem? (i := 145) rfl)
theorem gp_112_10 {g : AG} (hg : GOk g) : g.2.1 112 10 = some 121 := hg.2 (112, 10, 121) (List.mem_of_getElem? (i := 146) rfl)
theorem gp_122_0 {g : AG} (hg : GOk g) : g.2.1 122 0 = some 123 := hg.2 (122, 0, 123) (List.mem_of_getElem? (i := 147) rfl)
theorem gp_122_3 {g : AG} (hg : GOk g) : g.2.1 122 3 = some 124 := hg.2 (122, 3, 124) (List.mem_of_getElem? (i := 148) rfl)
theorem gp_122_4 {g : AG} (hg : GOk g) : g.2.1 122 4 = some 125 := hg.2 (122, 4, 125) (List.mem_of_getElem? (i := 149) rfl)
theorem gp_122_5 {g : AG} (hg : GOk g) : g.2.1 122 5 = some 126 := hg.2 (122, 5, 126) (List.mem_of_getElem? (i := 150) rfl)
theorem gp_122_6 {g : AG} (hg : GOk g) : g.2.1 122 6 = some 127 := hg.2 (122, 6, 127) (List.mem_of_getElem? (i := 151) rfl)
theorem gp_122_7 {g : AG} (hg : GOk g) : g.2.1 122 7 = some 128 := hg.2 (122, 7, 128) (List.mem_of_getElem? (i := 152) rfl)
theorem gp_122_8 {g : AG} (hg : GOk g) : g.2.1 122 8 = some 129 := hg.2 (122, 8, 129) (List.mem_of_getElem? (i := 153) rfl)
theorem gp_122_9 {g : AG} (hg : GOk g) : g.2.1 122 9 = some 130 := hg.2 (122, 9, 130) (List.mem_of_getElem? (i := 154) rfl)
theorem gp_122_10 {g : AG} (hg : GOk g) : g.2.1 122 10 = some 131 := hg.2 (122, 10, 131) (List.mem_of_getElem? (i := 155) rfl)
theorem gs_row {g : AG} (hg : GOc g) {x : Int} (h0 : 0 ≤ x) (h1 : x < 11) : g.1[68 + x.toNat]? = some (.inr (.int, 240)) := by
  rw [hg.1 _ (by omega)]
  have h2 : ∀ n : Nat, n < 11 → S0[68 + n]? = some (.inr (.int, 240)) := by decide +kernel
  exact h2 _ (by omega)
theorem gp_row {g : AG} (hg : GOc g) {x : Int} (h0 : 0 ≤ x) (h1 : x < 11) : g.2.1 67 x.toNat = some (68 + x.toNat) := by
  have h2 : ∀ n : Nat, n < 11 → (67, n, 68 + n) ∈ PL.take 85 := by decide +kernel
  exact hg.2 (67, x.toNat, 68 + x.toNat) (h2 _ (by omega))
def Tr (t : Nat) : Prop := t = 3 ∨ t = 15 ∨ t = 27 ∨ t = 39
def Mt (t : Nat) : Prop := t = 82 ∨ t = 92 ∨ t = 102 ∨ t = 112 ∨ t = 122
theorem tr_pos {t : Nat} (ht : Tr t) : 0 < t := by
  rcases ht with rfl | rfl | rfl | rfl <;> decide
theorem tr_s0 {g : AG} (hg : GOc g) {t : Nat} (ht : Tr t) : g.1[t]? = some (.inl 5) := by
  rcases ht with rfl | rfl | rfl | rfl
  · exact gs_3 hg
  · exact gs_15 hg
  · exact gs_27 hg
  · exact gs_39 hg
theorem tr_s1 {g : AG} (hg : GOc g) {t : Nat} (ht : Tr t) : g.1[t + 1]? = some (.inr (.int, 240)) := by
  rcases ht with rfl | rfl | rfl | rfl
  · exact gs_4 hg
  · exact gs_16 hg
  · exact gs_28 hg
  · exact gs_40 hg
theorem tr_p1 {g : AG} (hg : GOc g) {t : Nat} (ht : Tr t) : g.2.1 t 0 = some (t + 1) := by
  rcases ht with rfl | rfl | rfl | rfl
  · exact gp_3_0 hg
  · exact gp_15_0 hg
  · exact gp_27_0 hg
  · exact gp_39_0 hg
theorem tr_s2 {g : AG} (hg : GOc g) {t : Nat} (ht : Tr t) : g.1[t + 2]? = some (.inr (.int, 120)) := by
  rcases ht with rfl | rfl | rfl | rfl
  · exact gs_5 hg
  · exact gs_17 hg
  · exact gs_29 hg
  · exact gs_41 hg
theorem tr_p2 {g : AG} (hg : GOc g) {t : Nat} (ht : Tr t) : g.2.1 t 3 = some (t + 2) := by
  rcases ht with rfl | rfl | rfl | rfl
  · exact gp_3_3 hg
  · exact gp_15_3 hg
  · exact gp_27_3 hg
  · exact gp_39_3 hg
theorem tr_s3 {g : AG} (hg : GOc g) {t : Nat} (ht : Tr t) : g.1[t + 3]? = some (.inr (.int, 120)) := by
  rcases ht with rfl | rfl | rfl | rfl
  · exact gs_6 hg
  · exact gs_18 hg
  · exact gs_30 hg
  · exact gs_42 hg
theorem tr_p3 {g : AG} (hg : GOc g) {t : Nat} (ht : Tr t) : g.2.1 t 4 = some (t + 3) := by
  rcases ht with rfl | rfl | rfl | rfl
  · exact gp_3_4 hg
  · exact gp_15_4 hg
  · exact gp_27_4 hg
  · exact gp_39_4 hg
theorem tr_s4 {g : AG} (hg : GOc g) {t : Nat} (ht : Tr t) : g.1[t + 4]? = some (.inr (.int, 120)) := by
  rcases ht with rfl | rfl | rfl | rfl
  · exact gs_7 hg
  · exact gs_19 hg
  · exact gs_31 hg
  · exact gs_43 hg
theorem tr_p4 {g : AG} (hg : GOc g) {t : Nat} (ht : Tr t) : g.2.1 t 5 = some (t + 4) := by
  rcases ht with rfl | rfl | rfl | rfl
  · exact gp_3_5 hg
  · exact gp_15_5 hg
  · exact gp_27_5 hg
  · exact gp_39_5 hg
theorem tr_s5 {g : AG} (hg : GOc g) {t : Nat} (ht : Tr t) : g.1[t + 5]? = some (.inr (.int, 120)) := by
  rcases ht with rfl | rfl | rfl | rfl
  · exact gs_8 hg
  · exact gs_20 hg
  · exact gs_32 hg
  · exact gs_44 hg
theorem tr_p5 {g : AG} (hg : GOc g) {t : Nat} (ht : Tr t) : g.2.1 t 6 = some (t + 5) := by
  rcases ht with rfl | rfl | rfl | rfl
  · exact gp_3_6 hg
  · exact gp_15_6 hg
  · exact gp_27_6 hg
  · exact gp_39_6 hg
theorem tr_s6 {g : AG} (hg : GOc g) {t : Nat} (ht : Tr t) : g.1[t + 6]? = some (.inr (.int, 120)) := by
  rcases ht with rfl | rfl | rfl | rfl
  · exact gs_9 hg
  · exact gs_21 hg
  · exact gs_33 hg
  · exact gs_45 hg
theorem tr_p6 {g : AG} (hg : GOc g) {t : Nat} (ht : Tr t) : g.2.1 t 7 = some (t + 6) := by
  rcases ht with rfl | rfl | rfl | rfl
  · exact gp_3_7 hg
  · exact gp_15_7 hg
  · exact gp_27_7 hg
  · exact gp_39_7 hg
theorem tr_s7 {g : AG} (hg : GOc g) {t : Nat} (ht : Tr t) : g.1[t + 7]? = some (.inr (.int, 120)) := by
  rcases ht with rfl | rfl | rfl | rfl
  · exact gs_10 hg
  · exact gs_22 hg
  · exact gs_34 hg
  · exact gs_46 hg
theorem tr_p7 {g : AG} (hg : GOc g) {t : Nat} (ht : Tr t) : g.2.1 t 8 = some (t + 7) := by
  rcases ht with rfl | rfl | rfl | rfl
  · exact gp_3_8 hg
  · exact gp_15_8 hg
  · exact gp_27_8 hg
  · exact gp_39_8 hg
theorem tr_s8 {g : AG} (hg : GOc g) {t : Nat} (ht : Tr t) : g.1[t + 8]? = some (.inr (.int, 120)) := by
  rcases ht with rfl | rfl | rfl | rfl
  · exact gs_11 hg
  · exact gs_23 hg
  · exact gs_35 hg
  · exact gs_47 hg
theorem tr_p8 {g : AG} (hg : GOc g) {t : Nat} (ht : Tr t) : g.2.1 t 9 = some (t + 8) := by
  rcases ht with rfl | rfl | rfl | rfl
  · exact gp_3_9 hg
  · exact gp_15_9 hg
  · exact gp_27_9 hg
  · exact gp_39_9 hg
theorem tr_s9 {g : AG} (hg : GOc g) {t : Nat} (ht : Tr t) : g.1[t + 9]? = some (.inr (.int, 120)) := by
  rcases ht with rfl | rfl | rfl | rfl
  · exact gs_12 hg
  · exact gs_24 hg
  · exact gs_36 hg
  · exact gs_48 hg
theorem tr_p9 {g : AG} (hg : GOc g) {t : Nat} (ht : Tr t) : g.2.1 t 10 = some (t + 9) := by
  rcases ht with rfl | rfl | rfl | rfl
  · exact gp_3_10 hg
  · exact gp_15_10 hg
  · exact gp_27_10 hg
  · exact gp_39_10 hg
theorem tr_s10 {g : AG} (hg : GOc g) {t : Nat} (ht : Tr t) : g.1[t + 10]? = some (.inr (.int, 26)) := by
  rcases ht with rfl | rfl | rfl | rfl
  · exact gs_13 hg
  · exact gs_25 hg
  · exact gs_37 hg
  · exact gs_49 hg
theorem tr_p10 {g : AG} (hg : GOc g) {t : Nat} (ht : Tr t) : g.2.1 t 11 = some (t + 10) := by
  rcases ht with rfl | rfl | rfl | rfl
  · exact gp_3_11 hg
  · exact gp_15_11 hg
  · exact gp_27_11 hg
  · exact gp_39_11 hg
theorem tr_s11 {g : AG} (hg : GOc g) {t : Nat} (ht : Tr t) : g.1[t + 11]? = some (.inr (.int, 120)) := by
  rcases ht with rfl | rfl | rfl | rfl
  · exact gs_14 hg
  · exact gs_26 hg
  · exact gs_38 hg
  · exact gs_50 hg
theorem tr_p11 {g : AG} (hg : GOc g) {t : Nat} (ht : Tr t) : g.2.1 t 12 = some (t + 11) := by
  rcases ht with rfl | rfl | rfl | rfl
  · exact gp_3_12 hg
  · exact gp_15_12 hg
  · exact gp_27_12 hg
  · exact gp_39_12 hg
theorem mt_pos {t : Nat} (ht : Mt t) : 0 < t := by
  rcases ht with rfl | rfl | rfl | rfl | rfl <;> decide
theorem mt_s0 {g : AG} (hg : GOk g) {t : Nat} (ht : Mt t) : g.1[t]? = some (.inl 7) := by
  rcases ht with rfl | rfl | rfl | rfl | rfl
  · exact gs_82 hg
  · exact gs_92 hg
  · exact gs_102 hg
  · exact gs_112 hg
  · exact gs_122 hg
theorem mt_s1 {g : AG} (hg : GOk g) {t : Nat} (ht : Mt t) : g.1[t + 1]? = some (.inr (.byte, 240)) := by
  rcases ht with rfl | rfl | rfl | rfl | rfl
  · exact gs_83 hg
  · exact gs_93 hg
  · exact gs_103 hg
  · exact gs_113 hg
  · exact gs_123 hg
theorem mt_p1 {g : AG} (hg : GOk g) {t : Nat} (ht : Mt t) : g.2.1 t 0 = some (t + 1) := by
  rcases ht with rfl | rfl | rfl | rfl | rfl
  · exact gp_82_0 hg
  · exact gp_92_0 hg
  · exact gp_102_0 hg
  · exact gp_112_0 hg
  · exact gp_122_0 hg
theorem mt_s2 {g : AG} (hg : GOk g) {t : Nat} (ht : Mt t) : g.1[t + 2]? = some (.inr (.int, 240)) := by
  rcases ht with rfl | rfl | rfl | rfl | rfl
  · exact gs_84 hg
  · exact gs_94 hg
  · exact gs_104 hg
  · exact gs_114 hg
  · exact gs_124 hg
theorem mt_p2 {g : AG} (hg : GOk g) {t : Nat} (ht : Mt t) : g.2.1 t 3 = some (t + 2) := by
  rcases ht with rfl | rfl | rfl | rfl | rfl
  · exact gp_82_3 hg
  · exact gp_92_3 hg
  · exact gp_102_3 hg
  · exact gp_112_3 hg
  · exact gp_122_3 hg
theorem mt_s3 {g : AG} (hg : GOk g) {t : Nat} (ht : Mt t) : g.1[t + 3]? = some (.inr (.int, 240)) := by
  rcases ht with rfl | rfl | rfl | rfl | rfl
  · exact gs_85 hg
  · exact gs_95 hg
  · exact gs_105 hg
  · exact gs_115 hg
  · exact gs_125 hg
theorem mt_p3 {g : AG} (hg : GOk g) {t : Nat} (ht : Mt t) : g.2.1 t 4 = some (t + 3) := by
  rcases ht with rfl | rfl | rfl | rfl | rfl
  · exact gp_82_4 hg
  · exact gp_92_4 hg
  · exact gp_102_4 hg
  · exact gp_112_4 hg
  · exact gp_122_4 hg
theorem mt_s4 {g : AG} (hg : GOk g) {t : Nat} (ht : Mt t) : g.1[t + 4]? = some (.inr (.int, 240)) := by
  rcases ht with rfl | rfl | rfl | rfl | rfl
  · exact gs_86 hg
  · exact gs_96 hg
  · exact gs_106 hg
  · exact gs_116 hg
  · exact gs_126 hg
theorem mt_p4 {g : AG} (hg : GOk g) {t : Nat} (ht : Mt t) : g.2.1 t 5 = some (t + 4) := by
  rcases ht with rfl | rfl | rfl | rfl | rfl
  · exact gp_82_5 hg
  · exact gp_92_5 hg
  · exact gp_102_5 hg
  · exact gp_112_5 hg
  · exact gp_122_5 hg
theorem mt_s5 {g : AG} (hg : GOk g) {t : Nat} (ht : Mt t) : g.1[t + 5]? = some (.inr (.int, 240)) := by
  rcases ht with rfl | rfl | rfl | rfl | rfl
  · exact gs_87 hg
  · exact gs_97 hg
  · exact gs_107 hg
  · exact gs_117 hg
  · exact gs_127 hg
theorem mt_p5 {g : AG} (hg : GOk g) {t : Nat} (ht : Mt t) : g.2.1 t 6 = some (t + 5) := by
  rcases ht with rfl | rfl | rfl | rfl | rfl
  · exact gp_82_6 hg
  · exact gp_92_6 hg
  · exact gp_102_6 hg
  · exact gp_112_6 hg
  · exact gp_122_6 hg
theorem mt_s6 {g : AG} (hg : GOk g) {t : Nat} (ht : Mt t) : g.1[t + 6]? = some (.inr (.int, 240)) := by
  rcases ht with rfl | rfl | rfl | rfl | rfl
  · exact gs_88 hg
  · exact gs_98 hg
  · exact gs_108 hg
  · exact gs_118 hg
  · exact gs_128 hg
theorem mt_p6 {g : AG} (hg : GOk g) {t : Nat} (ht : Mt t) : g.2.1 t 7 = some (t + 6) := by
  rcases ht with rfl | rfl | rfl | rfl | rfl
  · exact gp_82_7 hg
  · exact gp_92_7 hg
  · exact gp_102_7 hg
  · exact gp_112_7 hg
  · exact gp_122_7 hg
theorem mt_s7 {g : AG} (hg : GOk g) {t : Nat} (ht : Mt t) : g.1[t + 7]? = some (.inr (.int, 240)) := by
  rcases ht with rfl | rfl | rfl | rfl | rfl
  · exact gs_89 hg
  · exact gs_99 hg
  · exact gs_109 hg
  · exact gs_119 hg
  · exact gs_129 hg
theorem mt_p7 {g : AG} (hg : GOk g) {t : Nat} (ht : Mt t) : g.2.1 t 8 = some (t + 7) := by
  rcases ht with rfl | rfl | rfl | rfl | rfl
  · exact gp_82_8 hg
  · exact gp_92_8 hg
  · exact gp_102_8 hg
  · exact gp_112_8 hg
  · exact gp_122_8 hg
theorem mt_s8 {g : AG} (hg : GOk g) {t : Nat} (ht : Mt t) : g.1[t + 8]? = some (.inr (.int, 240)) := by
  rcases ht with rfl | rfl | rfl | rfl | rfl
  · exact gs_90 hg
  · exact gs_100 hg
  · exact gs_110 hg
  · exact gs_120 hg
  · exact gs_130 hg
theorem mt_p8 {g : AG} (hg : GOk g) {t : Nat} (ht : Mt t) : g.2.1 t 9 = some (t + 8) := by
  rcases ht with rfl | rfl | rfl | rfl | rfl
  · exact gp_82_9 hg
  · exact gp_92_9 hg
  · exact gp_102_9 hg
  · exact gp_112_9 hg
  · exact gp_122_9 hg
theorem mt_s9 {g : AG} (hg : GOk g) {t : Nat} (ht : Mt t) : g.1[t + 9]? = some (.inr (.boolean, 240)) := by
  rcases ht with rfl | rfl | rfl | rfl | rfl
  · exact gs_91 hg
  · exact gs_101 hg
  · exact gs_111 hg
  · exact gs_121 hg
  · exact gs_131 hg
theorem mt_p9 {g : AG} (hg : GOk g) {t : Nat} (ht : Mt t) : g.2.1 t 10 = some (t + 9) := by
  rcases ht with rfl | rfl | rfl | rfl | rfl
  · exact gp_82_10 hg
  · exact gp_92_10 hg
  · exact gp_102_10 hg
  · exact gp_112_10 hg
  · exact gp_122_10 hg
section EVX
variable {Γ : GX} {d : Nat} {q : MI} {pc : Nat} {ls ls' : List (Option AV)} {st : List AV} {h : AH} {R : AR} {g : AG} {I : Nat → Nat → Int}
theorem e_top {x : Int} (k : ∀ y : Int, y = x → Ev Γ d q pc ls (.inl y :: st) h R) : Ev Γ d q pc ls (.inl x :: st) h R := k x rfl
theorem e_mem (k : ∀ J : Nat → Nat → Int, J = I → Ev Γ d q pc ls st (g, J) R) : Ev Γ d q pc ls st (g, I) R := k I rfl
theorem ev_drop (i : Nat) (hs : ls.set i none = ls') (k : Ev Γ d q pc ls' st h R) : Ev Γ d q pc ls st h R := by
  intro p e Rm s m args below meth c Q n0 s0 C h1 h2 hK H locs cells slots mls hl hol hos hH hz hc hsl
  subst hs
  refine k p e Rm s m args below meth c Q n0 s0 C h1 h2 hK H locs cells slots mls ⟨hl.1, hl.2.1, by rw [List.length_set]; exact hl.2.2.1, fun j v hj => ?_⟩ (fun v hv => ?_) hos hH hz hc hsl
  · rw [List.getElem?_set] at hj
    split at hj
    · split at hj <;> cases hj
    · exact hl.2.2.2 j v hj
  · rcases List.mem_or_eq_of_mem_set hv with hv | hv
    · exact hol v hv
    · cases hv
/-! Math.max, Math.min -/
def mWords (nm : MethodName) (cd : ByteArray) : List Cond := [.static nm, .initialized "java/lang/Math", .code nm cd 2 (some .int)]
set_option maxRecDepth 100000 in
theorem mMax_ok : (mWords Lib.Math.max.name Lib.Math.max.code).all (fun w => decide (w ∈ lw_tbl) && goodWord w) = true := by decide +kernel
set_option maxRecDepth 100000 in
theorem mMin_ok : (mWords Lib.Math.min.name Lib.Math.min.code).all (fun w => decide (w ∈ lw_tbl) && goodWord w) = true := by decide +kernel
theorem max_if {x y : Int} (hx : inR x) (hy : inR y) : Value.int (if Int32.ofInt x < Int32.ofInt y then Int32.ofInt y else Int32.ofInt x) = .int (Int32.ofInt (max x y)) := by
  by_cases e : x < y
  · rw [if_pos ((inR_lt hx hy).mpr e), Int.max_eq_right (by omega)]
  · rw [if_neg (fun z => e ((inR_lt hx hy).mp z)), Int.max_eq_left (by omega)]
theorem min_if {x y : Int} (hx : inR x) (hy : inR y) : Value.int (if Int32.ofInt y < Int32.ofInt x then Int32.ofInt y else Int32.ofInt x) = .int (Int32.ofInt (min x y)) := by
  by_cases e : y < x
  · rw [if_pos ((inR_lt hy hx).mpr e), Int.min_eq_right (by omega)]
  · rw [if_neg (fun z => e ((inR_lt hy hx).mp z)), Int.min_eq_left (by omega)]
theorem sum_cat' (l : List AV) : ((l.map (gV Γ)).map fun v => v.category).sum = l.length := sum_cat l
theorem e_mm {x y z : Int} {idx : Nat} {nm : MethodName} {cd : ByteArray} (hd : decode q.2.2.1 pc = .ok (.invokestatic idx, 3)) (hl : Cond.methodLink (cN q.1) idx nm ∈ lw_g) (hst : st.length ≤ 8) (hd1 : 1 ≤ d) (hz : inR x → inR y → inR z)
    (row : ∀ (p : Program) (e : Env) (Rm : Room) (s : State) (m : MethodId) (args : Array Value) (below : List Frame) (meth : Method) (c : Code) (Q : State → Prop) (H : Heap) (locs : List Loc) (cells slots : Nat) (mls : Array Slot), Cx Γ d q p Rm s m args meth c → c.maxLocals = mls.size → (Cond.methodLink (cN q.1) idx nm).before args s = true → 1 ≤ Rm.frames → ((st.map (gV Γ)).map fun v => v.category).sum + 13 ≤ Rm.locals → cells ≤ Rm.cells → slots ≤ Rm.slots → inR x → inR y →
      W p (gl Γ) e Rm s m args below meth c H locs cells slots Q (F0 m (pc + 3) mls (.int (Int32.ofInt z) :: st.map (gV Γ))) → W p (gl Γ) e Rm s m args below meth c H locs cells slots Q (F0 m pc mls (.int (Int32.ofInt y) :: .int (Int32.ofInt x) :: st.map (gV Γ))))
    (hnc : h.1.2.2.2.1 ≤ R.2.1.2.2.2.1) (hns : h.1.2.2.2.2 ≤ R.2.1.2.2.2.2) (k : Ev Γ d q (pc + 3) ls (.inl z :: st) h R) : Ev Γ d q pc ls (.inl y :: .inl x :: st) h R := by
  intro p e Rm s m args below meth c Q n0 s0 C h1 h2 hK H locs cells slots mls hl' hol hos hH hz' hc hsl
  have hy : inR y := okS_h hos
  have hx : inR x := okS_h (okS_t hos)
  have hw : ((st.map (gV Γ)).map fun v => v.category).sum = st.length := sum_cat st
  have hd2 : d ≤ Rm.frames := C.2.2.2.2.2.2.2.2.2.1
  have hd3 : 64 * d ≤ Rm.locals := C.2.2.2.2.2.2.2.2.2.2
  exact row p e Rm s m args below meth c Q H locs cells slots mls C (by rw [hl'.1]; exact C.2.2.1) (C.2.2.2.2.1 _ hl) (by omega) (by rw [hw]; omega) (by omega) (by omega) hx hy (k p e Rm s m args below meth c Q n0 s0 C h1 h2 hK H locs cells slots mls hl' hol (okS_i (hz hx hy) (okS_t (okS_t hos))) hH hz' hc hsl)
theorem inR_max {x y : Int} (hx : inR x) (hy : inR y) : inR (max x y) := by
  rcases Int.le_total x y with e | e
  · rw [Int.max_eq_right e]; exact hy
  · rw [Int.max_eq_left e]; exact hx
theorem inR_min {x y : Int} (hx : inR x) (hy : inR y) : inR (min x y) := by
  rcases Int.le_total x y with e | e
  · rw [Int.min_eq_left e]; exact hx
  · rw [Int.min_eq_right e]; exact hy
theorem e_max {x y : Int} {idx : Nat} (hd : decode q.2.2.1 pc = .ok (.invokestatic idx, 3)) (hl : Cond.methodLink (cN q.1) idx Lib.Math.max.name ∈ lw_g) (hst : st.length ≤ 8) (hd1 : 1 ≤ d) (hnc : h.1.2.2.2.1 ≤ R.2.1.2.2.2.1) (hns : h.1.2.2.2.2 ≤ R.2.1.2.2.2.2) (k : Ev Γ d q (pc + 3) ls (.inl (max x y) :: st) h R) : Ev Γ d q pc ls (.inl y :: .inl x :: st) h R :=
  e_mm (cd := Lib.Math.max.code) hd hl hst hd1 inR_max (fun p e Rm s m args below meth c Q H locs cells slots mls C h1 h2 h3 h4 h5 h6 hx hy w => va_mmax C.1 C.2.1 h1 C.2.2.2.1 h2 (C.2.2.2.2.1 _ (mem_l mMax_ok _ (by simp [mWords]))) (C.2.2.2.2.1 _ (mem_l mMax_ok _ (by simp [mWords]))) (C.2.2.2.2.1 _ (mem_l mMax_ok _ (by simp [mWords]))) h3 h4 h5 h6 hd (by
    rw [max_if hx hy]
    exact w)) hnc hns k
theorem e_min {x y : Int} {idx : Nat} (hd : decode q.2.2.1 pc = .ok (.invokestatic idx, 3)) (hl : Cond.methodLink (cN q.1) idx Lib.Math.min.name ∈ lw_g) (hst : st.length ≤ 8) (hd1 : 1 ≤ d) (hnc : h.1.2.2.2.1 ≤ R.2.1.2.2.2.1) (hns : h.1.2.2.2.2 ≤ R.2.1.2.2.2.2) (k : Ev Γ d q (pc + 3) ls (.inl (min x y) :: st) h R) : Ev Γ d q pc ls (.inl y :: .inl x :: st) h R :=
  e_mm (cd := Lib.Math.min.code) hd hl hst hd1 inR_min (fun p e Rm s m args below meth c Q H locs cells slots mls C h1 h2 h3 h4 h5 h6 hx hy w => va_mmin C.1 C.2.1 h1 C.2.2.2.1 h2 (C.2.2.2.2.1 _ (mem_l mMin_ok _ (by simp [mWords]))) (C.2.2.2.2.1 _ (mem_l mMin_ok _ (by simp [mWords]))) (C.2.2.2.2.1 _ (mem_l mMin_ok _ (by simp [mWords]))) h3 h4 h5 h6 hd (by
    rw [min_if hx hy]
    exact w)) hnc hns k
/-! System.arraycopy of ints -/
def cpy (I : Nat → Nat → Int) (a sp b dp n : Nat) : Nat → Nat → Int := fun c j => if c = b ∧ dp ≤ j ∧ j < dp + n then I a (sp + (j - dp)) else I c j
def cWords : List Cond := [.native arraycopyName, .static arraycopyName, .initialized "java/lang/System"]
set_option maxRecDepth 100000 in
theorem cW_ok : cWords.all (fun w => decide (w ∈ lw_tbl) && goodWord w) = true := by decide +kernel
theorem nfw : nativeFrameWords "java/lang/System" "arraycopy" 5 + 11 ≤ 56 := by decide +kernel
set_option maxHeartbeats 1000000 in
theorem e_copy {a b n0' n1' idx : Nat} {sp dp n : Int} (hd : decode q.2.2.1 pc = .ok (.invokestatic idx, 3)) (hl : Cond.methodLink (cN q.1) idx arraycopyName ∈ lw_g) (ha : 0 < a) (hsa : g.1[a]? = some (.inr (.int, n0'))) (hb : 0 < b) (hsb : g.1[b]? = some (.inr (.int, n1'))) (hbd : 0 ≤ sp ∧ 0 ≤ dp ∧ 0 ≤ n ∧ sp + n ≤ n0' ∧ dp + n ≤ n1') (hst : st.length ≤ 8) (hd1 : 1 ≤ d)
    (k : Ev Γ d q (pc + 3) ls st (g, cpy I a sp.toNat b dp.toNat n.toNat) R) : Ev Γ d q pc ls (.inl n :: .inl dp :: .inr (some b) :: .inl sp :: .inr (some a) :: st) (g, I) R := by
  intro p e Rm s m args below meth c Q n0 s0 C h1 h2 hK H locs cells slots mls hl' hol hos hH hz' hc hsl
  have hn : inR n := okS_h hos
  have hdp : inR dp := okS_h (okS_t hos)
  have hsp : inR sp := okS_h (okS_t (okS_t (okS_t hos)))
  have hw : ((st.map (gV Γ)).map fun v => v.category).sum = st.length := sum_cat st
  have hnw := nfw
  have hd2 : d ≤ Rm.frames := C.2.2.2.2.2.2.2.2.2.1
  have hd3 : 64 * d ≤ Rm.locals := C.2.2.2.2.2.2.2.2.2.2
  have hca := hH.2.2.2.2.1 a .int n0' ha hsa
  have hcb := hH.2.2.2.2.1 b .int n1' hb hsb
  have C' := C
  obtain ⟨hx, hbb, hml, hown, hts, hr, hlk, hnm, hKS, -, -⟩ := C
  have hA := (hKS.2.1 .int (by decide)).1
  have hF := (hKS.2.1 .int (by decide)).2
  show W p (gl Γ) e Rm s m args below meth c H locs cells slots Q (F0 m pc mls (.int (Int32.ofInt n) :: .int (Int32.ofInt dp) :: gV Γ (.inr (some b)) :: .int (Int32.ofInt sp) :: gV Γ (.inr (some a)) :: st.map (gV Γ)))
  rw [gV_ref ha, gV_ref hb]
  have fin : ∀ (H1 : Heap) (locs1 : List Loc), H1[gB Γ + (b - 1)]? = some (arrV (gA Γ .int) n1' (fun j => .int (va_cpy (fun k => Int32.ofInt (I a k)) (fun k => Int32.ofInt (I b k)) sp.toNat dp.toNat n.toNat j))) → H1.size = H.size → (∀ z, z ≠ gB Γ + (b - 1) → H1[z]? = H[z]?) → (∀ z ∈ locs1, gB Γ ≤ z.base) → W p (gl Γ) e Rm s m args below meth c H1 locs1 cells slots Q (F0 m (pc + 3) mls (st.map (gV Γ))) := by
    intro H1 locs1 e1 e2 e3 e4
    refine k p e Rm s m args below meth c Q n0 s0 C' h1 h2 hK H1 locs1 cells slots mls hl' hol (okS_t (okS_t (okS_t (okS_t (okS_t hos))))) (hH.upd (h' := (g, cpy I a sp.toNat b dp.toNat n.toNat)) hb rfl e2 e3 (fun b' hb' ty j => ?_) (fun b' j => ?_) (fun ci hs' => ?_) (fun ty n' hs' => ?_)) e4 hc hsl
    · have e5 : cpy I a sp.toNat b dp.toNat n.toNat b' j = I b' j := by simp [cpy, hb']
      cases ty <;> simp only [sv, e5]
    · show inR (cpy I a sp.toNat b dp.toNat n.toNat b' j)
      unfold cpy
      split
      · exact hH.2.2.2.2.2 _ _
      · exact hH.2.2.2.2.2 _ _
    · have hs2 : g.1[b]? = some (.inl ci) := hs'
      rw [hsb] at hs2
      cases hs2
    · have hs2 : g.1[b]? = some (.inr (ty, n')) := hs'
      rw [hsb] at hs2
      cases hs2
      rw [e1]
      congr 2
      funext j
      show Value.int _ = Value.int (Int32.ofInt (cpy I a sp.toNat b dp.toNat n.toNat b j))
      simp only [va_cpy, cpy, true_and]
      split <;> rfl
  have hca' : H[gB Γ + (a - 1)]? = some (arrV (gA Γ .int) n0' (fun j => .int ((fun k => Int32.ofInt (I a k)) j))) := hca
  have hcb' : H[gB Γ + (b - 1)]? = some (arrV (gA Γ .int) n1' (fun j => .int ((fun k => Int32.ofInt (I b k)) j))) := hcb
  have nn : ∀ z : Int32, ¬ z < 0 → z.toInt = (z.toNatClampNeg : Int) := by
    intro z hz
    have hz0 : (0 : Int) ≤ z.toInt := by
      have := Int32.not_lt.mp hz
      simpa using Int32.le_iff_toInt_le.mp this
    show z.toInt = ((z.toInt.toNat : Nat) : Int)
    omega
  have g1 : ¬ Int32.ofInt sp < 0 := by rw [inR_lt0 hsp]; omega
  have g2 : ¬ Int32.ofInt dp < 0 := by rw [inR_lt0 hdp]; omega
  have g3 : ¬ Int32.ofInt n < 0 := by rw [inR_lt0 hn]; omega
  have g4 : (Int32.ofInt sp).toNatClampNeg + (Int32.ofInt n).toNatClampNeg ≤ n0' := by rw [inR_cl hsp, inR_cl hn]; omega
  intro T hT X
  obtain ⟨-, k0, hk0, cm0, hkk0⟩ := hA n0' (fun j => .int ((fun k => Int32.ofInt (I a k)) j))
  obtain ⟨-, k1, hk1, cm1, hkk1⟩ := hA n1' (fun j => .int ((fun k => Int32.ofInt (I b k)) j))
  obtain ⟨vm', X', step⟩ := X.arraycopy hx hown (hts _ hl) (hts _ (mem_l cW_ok _ (by simp [cWords]))) (hts _ (mem_l cW_ok _ (by simp [cWords]))) (hts _ (mem_l cW_ok _ (by simp [cWords]))) (src := gB Γ + (a - 1)) (dst := gB Γ + (b - 1)) (cs := arrV (gA Γ .int) n0' (fun j => .int ((fun k => Int32.ofInt (I a k)) j))) (cd := arrV (gA Γ .int) n1' (fun j => .int ((fun k => Int32.ofInt (I b k)) j))) (srcPos := Int32.ofInt sp) (destPos := Int32.ofInt dp) (n := Int32.ofInt n) (by rw [hT]; exact hca') (by rw [hT]; exact hcb')
    (fun _ h => by cases h) (fun _ h => by cases h) (fun h => by cases h) (fun h => by cases h) hk0 hk1 hkk0 hkk1 (by simp [refKind]) g1 g2 g3
    (by rw [inR_t hsp, inR_t hn, arrV_size]; omega)
    (by rw [inR_t hdp, inR_t hn, arrV_size]; omega)
    (fun vm₁ _ i hi => by
      have e : (arrV (gA Γ .int) n0' (fun j => .int ((fun k => Int32.ofInt (I a k)) j))).slots.getD ((Int32.ofInt sp).toNatClampNeg + i) .null = .int (Int32.ofInt (I a ((Int32.ofInt sp).toNatClampNeg + i))) := by
        rw [Array.getD_eq_getD_getElem?, arrV_read _ _ (by omega)]
        rfl
      refine ⟨?_, ?_⟩
      · rw [e]
        rfl
      · rw [e]
        exact trivial)
    (g := F0 m pc mls (.int (Int32.ofInt n) :: .int (Int32.ofInt dp) :: .ref (gB Γ + (b - 1)) :: .int (Int32.ofInt sp) :: .ref (gB Γ + (a - 1)) :: st.map (gV Γ))) rfl (by rw [hml]; exact hl'.1) (rest := st.map (gV Γ)) rfl (by rw [hbb]; exact hd) (by omega) (by show 2 * 0 + _ + _ ≤ _; rw [hw]; omega)
  have e1 : copied (arrV (gA Γ .int) n0' (fun j => .int ((fun k => Int32.ofInt (I a k)) j))) (arrV (gA Γ .int) n1' (fun j => .int ((fun k => Int32.ofInt (I b k)) j))) (Int32.ofInt sp) (Int32.ofInt dp) (Int32.ofInt n) = arrV (gA Γ .int) n1' (fun j => .int (va_cpy (fun k => Int32.ofInt (I a k)) (fun k => Int32.ofInt (I b k)) (Int32.ofInt sp).toNatClampNeg (Int32.ofInt dp).toNatClampNeg (Int32.ofInt n).toNatClampNeg j)) := va_copied (fun z => .int z) (gA Γ .int) (gA Γ .int) _ _ g4
  rw [e1, inR_cl hsp, inR_cl hdp, inR_cl hn] at X' step
  have hlt : gB Γ + (b - 1) < H.size := (Array.getElem?_eq_some_iff.mp hcb').1
  obtain ⟨t, a1, b1⟩ := fin (H.setIfInBounds (gB Γ + (b - 1)) (arrV (gA Γ .int) n1' (fun j => .int (va_cpy (fun k => Int32.ofInt (I a k)) (fun k => Int32.ofInt (I b k)) sp.toNat dp.toNat n.toNat j)))) _ (by simp [Array.getElem?_setIfInBounds, hlt]) (by simp) (fun z hz => by simp [Array.getElem?_setIfInBounds, Ne.symm hz]) (fun z hz => by
    rcases List.mem_append.mp hz with hz | hz
    · exact hz' z hz
    · obtain ⟨z', -, hzz⟩ := List.mem_map.mp hz
      rw [← hzz]
      show gB Γ ≤ gB Γ + (b - 1)
      omega) ((T.setVm vm').setCell (gB Γ + (b - 1)) (arrV (gA Γ .int) n1' (fun j => .int (va_cpy (fun k => Int32.ofInt (I a k)) (fun k => Int32.ofInt (I b k)) sp.toNat dp.toNat n.toNat j)))) (by rw [← hT]; rfl) X'
  exact ⟨t, step t a1, b1⟩
end EVX

set_option maxRecDepth 100000 in
theorem cCopy_5_56 : Cond.methodLink (cN 5) 56 arraycopyName ∈ lw_g := mem_g 340 (by decide +kernel) (by decide +kernel)
set_option maxRecDepth 100000 in
theorem cMax_6_127 : Cond.methodLink (cN 6) 127 Lib.Math.max.name ∈ lw_g := mem_g 540 (by decide +kernel) (by decide +kernel)
set_option maxRecDepth 100000 in
theorem cMin_1_83 : Cond.methodLink (cN 1) 83 Lib.Math.min.name ∈ lw_g := mem_g 563 (by decide +kernel) (by decide +kernel)
set_option maxRecDepth 100000 in
theorem cMax_1_89 : Cond.methodLink (cN 1) 89 Lib.Math.max.name ∈ lw_g := mem_g 566 (by decide +kernel) (by decide +kernel)
set_option maxRecDepth 100000 in
theorem cCopy_2_32 : Cond.methodLink (cN 2) 32 arraycopyName ∈ lw_g := mem_g 661 (by decide +kernel) (by decide +kernel)
set_option maxRecDepth 100000 in
theorem cMin_3_67 : Cond.methodLink (cN 3) 67 Lib.Math.min.name ∈ lw_g := mem_g 693 (by decide +kernel) (by decide +kernel)
set_option maxRecDepth 100000 in
theorem cMin_2_41 : Cond.methodLink (cN 2) 41 Lib.Math.min.name ∈ lw_g := mem_g 707 (by decide +kernel) (by decide +kernel)
