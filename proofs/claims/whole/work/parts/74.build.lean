/-! ===== the new text, built ===== -/
noncomputable def ndL (T P X : IF) (fr : Int) (Df : Nat → Nat → Prop) (n : Nat) : List Int := match WAY T P fr Df n with
  | some s => tpl T P X s
  | none => []
def outL (T : IF) (tk : Nat → Int) (F : Nat → List Int) : Nat → Nat → Int → List Int
  | 0, _, d => byt T d (T 0 1)
  | m + 1, n, d => if tk n = 0 then outL T tk F m (n + 1) d else byt T d (T 3 n) ++ (F n ++ outL T tk F m (n + 1) (T 5 n))
/-- the new text -/
noncomputable def newT (T P X : IF) (fr : Int) (Df : Nat → Nat → Prop) (tk : Nat → Int) : List Int := outL T tk (ndL T P X fr Df) (T 0 2).toNat 0 0
/-- none of those taken lies within another -/
def TkD (T : IF) (tk : Nat → Int) : Prop := (∀ n : Nat, tk n = 0 ∨ tk n = 1) ∧ ∀ n m : Nat, n < m → (m : Int) < T 0 2 → tk n = 1 → tk m = 1 → T 5 n ≤ T 3 m
def FrB (Z K : IF) : Prop := ∀ a k : Nat, (a < 53 ∨ 56 < a) → (a ≠ 52 ∨ (k ≠ 9 ∧ k ≠ 10)) → a ≠ 40 → a ≠ 65 → (a ≠ 39 ∨ k ≠ 1) → K a k = Z a k
section BLD
variable {Γ : GX} {g : AG} {I J X K T P s Z : IF} {Df : Nat → Nat → Prop} {w fr : Int} {N N' : Nat → Prop} {sg sg' : Nat → List Int} {B C : List Int} {tk : Nat → Int}
theorem cat_cg {c c' : Nat → List Int} : ∀ (n a : Nat), (∀ i : Nat, a ≤ i → i < a + n → c i = c' i) → cat c n a = cat c' n a
  | 0, _, _ => rfl
  | n + 1, a, h => by rw [cat, cat, h a (Nat.le_refl _) (by omega), cat_cg n (a + 1) (fun i h1 h2 => h i (by omega) (by omega))]
theorem tmpl_cg (hX : TOK w X) (hN : ∀ q : Nat, N q ↔ N' q) (hs : ∀ q : Nat, (q : Int) < X 0 2 → (X 2 q = 1 ∨ X 2 q = 2) → sg (X 9 q).toNat = sg' (X 9 q).toNat) : tmpl X N sg = tmpl X N' sg' := by
  have e : N = N' := funext (fun q => propext (hN q))
  subst e
  unfold tmpl
  have s0 := hX.2.2.2.2.1.1 0 (by have := hX.1.2.1; omega)
  refine cat_cg _ _ (fun i h1 h2 => ?_)
  unfold cb
  by_cases z : sgnb X i
  · obtain ⟨q, q1, q2, q3⟩ := sgn_p hX (by omega) z
    have lt := (let_p hX q1 q2).2.2.2.2
    rw [show (X 3 q).toNat = i by omega] at lt
    have e2 : sg (X 1 (i + 1) - 97).toNat = sg' (X 1 (i + 1) - 97).toNat := by
      rw [lt, show X 9 q + 97 - 97 = X 9 q by omega]
      exact hs q q1 q2
    rw [e2]
  · rw [cif_f z, cif_f z]
theorem FrB.rf : FrB Z Z := fun _ _ _ _ _ _ _ => rfl
theorem FrB.tr (h : FrB Z K) (h2 : FrB K J) : FrB Z J := fun a k z1 z2 z3 z4 z5 => (h2 a k z1 z2 z3 z4 z5).trans (h a k z1 z2 z3 z4 z5)
theorem FrS.fb (h : FrS I J) : FrB I J := fun a k _ _ z3 _ z5 => h a k z3 z5
theorem FrT.fb (h : FrT I J) : FrB I J := fun a k _ _ z3 z4 z5 => h a k z3 z4 z5
theorem FrM.fb (h : FrM I J) : FrB I J := fun a k z1 z2 _ _ _ => h a k z1 z2
theorem FrB.ct (h : FrB Z K) {t : Nat} (ht : t = 3 ∨ t = 15 ∨ t = 27) : ct t K = ct t Z := ct_eq (t := t) (fun i k hi => h _ _ (by omega) (by omega) (by omega) (by omega) (by omega))
theorem FrB.same (h : FrB Z K) : CSame Z K := ⟨fun i k hi => h _ _ (by omega) (by omega) (by omega) (by omega) (by omega), fun i k hi => h _ _ (by omega) (by omega) (by omega) (by omega) (by omega), fun k => ⟨h _ _ (by omega) (by omega) (by omega) (by omega) (by omega), h _ _ (by omega) (by omega) (by omega) (by omega) (by omega)⟩, h _ _ (by omega) (by omega) (by omega) (by omega) (by omega), h _ _ (by omega) (by omega) (by omega) (by omega) (by omega)⟩
theorem zTk_D (hT : TOK 0 (zT Z)) (rule : Int) : TkD (zT Z) (zTk Z rule) := by
  refine ⟨fun n => pb_01 _, fun n m h1 h2 h3 h4 => ?_⟩
  have a : tkn (zT Z) (zM Z) (wit (zT Z) (zM Z)) (alw rule) n := pb_1.1 (show ¬ zTk Z rule n = 0 by omega)
  have b : tkn (zT Z) (zM Z) (wit (zT Z) (zM Z)) (alw rule) m := pb_1.1 (show ¬ zTk Z rule m = 0 by omega)
  have c := b.2 n (by omega) (by omega) a.1
  exact hT.2.2.2.2.1.2.2.1 n m h1 h2 (by omega)
theorem zTk_M {n : Nat} {rule : Int} (h : zTk Z rule n = 1) : WAY (zT Z) (zP Z) (Z 52 7) (zDf Z) n ≠ none := by
  have a : tkn (zT Z) (zM Z) (wit (zT Z) (zM Z)) (alw rule) n := pb_1.1 (show ¬ zTk Z rule n = 0 by omega)
  exact pb_1.1 a.1.1
/-- BUILD -/
theorem c_build (hg : GOk g) (hZ : CSt Z) (hX : TOK 2 (ct 27 Z)) (hl : Z 27 1 ≤ 80) (hO : LetOk (ct 27 Z) (zP Z)) {rule : Int} (hk : TkL Z Z rule) :
    ∃ (r : Int) (J : IF), CT Γ 4 mX3_build [.inr (some 64), .inr (some 39), .inr (some 61)] (g, Z) (some (.inl r), (g, J)) ∧ (r = 0 ∨ r = 1) ∧ FrB Z J ∧ Out J (newT (zT Z) (zP Z) (ct 27 Z) (Z 52 7) (zDf Z) (zTk Z rule)) r := by
  have hT := hZ.1
  have hP := hZ.2.1
  have htc : 1 ≤ Z 3 2 ∧ Z 3 2 ≤ 120 := hT.1.2.1
  have htl : 0 ≤ Z 3 1 ∧ Z 3 1 ≤ 240 := hT.1.1
  have sT' : ∀ q : Nat, (q : Int) < Z 3 2 → 0 ≤ zT Z 3 q ∧ zT Z 3 q < zT Z 4 q ∧ zT Z 4 q ≤ zT Z 5 q ∧ zT Z 5 q ≤ Z 3 1 := hT.2.2.2.2.1.1
  have tD := zTk_D (rule := rule) hT
  have lp : ∀ (m n : Nat) (K : IF) (B : List Int) (d : Int), m + n = (Z 3 2).toNat → FrB Z K → SB K B → 0 ≤ d ∧ d ≤ Z 3 1 → (∀ o : Nat, n ≤ o → (o : Int) < Z 3 2 → zTk Z rule o = 1 → d ≤ zT Z 3 o) →
      ∃ (r : Int) (J : IF), Ev Γ 4 mX3_build 10 [some (.inr (some 64)), some (.inr (some 39)), some (.inr (some 61)), some (.inl d), some (.inl (ncI (zTk Z rule) 1 n)), none] [] (g, K) (some (.inl r), (g, J)) ∧ (r = 0 ∨ r = 1) ∧ FrB Z J ∧ Out J (B ++ outL (zT Z) (zTk Z rule) (ndL (zT Z) (zP Z) (ct 27 Z) (Z 52 7) (zDf Z)) m n d) r := by
    intro m
    induction m with
    | zero =>
      intro n K B d hn hK hB hd ho
      have e3 : K 3 1 = Z 3 1 := hK 3 1 (by omega) (by omega) (by omega) (by omega) (by omega)
      have e4 : ∀ j : Nat, K 4 j = zT Z 1 j := fun j => hK 4 j (by omega) (by omega) (by omega) (by omega) (by omega)
      have e61 : K 61 3 = ncI (zTk Z rule) 1 n := by
        rw [hK 61 3 (by omega) (by omega) (by omega) (by omega) (by omega), hk.1, show (Z 3 2).toNat = n by omega]
      obtain ⟨r, J, j1, j2, j3⟩ := c_app (Γ := Γ) (X := zT Z) hg.c hB (b := 4) ⟨Or.inl rfl, gs_4 hg.c⟩ (x := d) (y := Z 3 1) ⟨hd.1, hd.2, htl.2⟩ (fun j _ _ => e4 j)
      have r01 : r = 0 ∨ r = 1 := by
        by_cases z : (B ++ byt (zT Z) d (Z 3 1)).length ≤ 240
        · exact Or.inr (j3.1 z).1
        · exact Or.inl (j3.2 (by omega))
      refine ⟨r, J, v_X3_build_10 hg.c 39 tr39 d _ ⟨fun _ => ⟨r, J, ?_, r01, rfl, rfl⟩, fun z => absurd (show K 61 3 ≤ ncI (zTk Z rule) 1 n by omega) z⟩, r01, hK.tr j2.fb, j3⟩
      rw [e3]
      exact j1
    | succ m ih =>
      intro n K B d hn hK hB hd ho
      have hs := ncI_succ (zTk Z rule) 1 n
      rcases tD.1 n with t0 | t1
      · rw [t0, if_neg (by decide), Int.add_zero] at hs
        obtain ⟨r, J, j1, j2⟩ := ih (n + 1) K B d (by omega) hK hB hd (fun o h1 h2 h3 => ho o (by omega) h2 h3)
        rw [hs] at j1
        rw [outL, if_pos t0]
        exact ⟨r, J, j1, j2⟩
      · rw [t1, if_pos rfl] at hs
        have hn2 : (n : Int) < Z 3 2 := by omega
        have mono := ncI_mono (f := zTk Z rule) (p := 1) (x := n + 1) (Z 3 2).toNat (by omega)
        have nn := ncI_nn (zTk Z rule) 1 n
        have nle := ncI_le (zTk Z rule) 1 n
        have e61 : K 61 3 = ncI (zTk Z rule) 1 (Z 3 2).toNat := by
          rw [hK 61 3 (by omega) (by omega) (by omega) (by omega) (by omega), hk.1]
        have e62 : K 62 (ncI (zTk Z rule) 1 n).toNat = n := by
          rw [hK 62 _ (by omega) (by omega) (by omega) (by omega) (by omega)]
          exact hk.2 n hn2 t1
        have e6 : K 6 n = zT Z 3 n := hK 6 n (by omega) (by omega) (by omega) (by omega) (by omega)
        have e4 : ∀ j : Nat, K 4 j = zT Z 1 j := fun j => hK 4 j (by omega) (by omega) (by omega) (by omega) (by omega)
        have sn := sT' n hn2
        have hdn := ho n (Nat.le_refl _) hn2 t1
        have hW := zTk_M t1
        rw [outL, if_neg (by omega), ← List.append_assoc]
        obtain ⟨r1, J1, a1, a2, a3⟩ := c_app (Γ := Γ) (X := zT Z) hg.c hB (b := 4) ⟨Or.inl rfl, gs_4 hg.c⟩ (x := d) (y := zT Z 3 n) ⟨hd.1, hdn, by omega⟩ (fun j _ _ => e4 j)
        have stp : ∀ {r : Int} {J : IF}, ((r1 = 0) → r = 0 ∧ J = J1) → ((¬ r1 = 0) → ∃ (r14 : Int) (J12 : IF), CT Γ 3 mX1_findWay [.inr (some 52), .inl (n : Int)] (g, J1) (some (.inl r14), (g, J12)) ∧ (r14 = 0 → r = 0 ∧ J = J12) ∧ (¬ r14 = 0 → ∃ (r18 : Int) (J16 : IF), CT Γ 3 mX3_fillTemplate [.inr (some 64), .inr (some 39)] (g, J12) (some (.inl r18), (g, J16)) ∧ (¬ r18 = 0 → Ev Γ 4 mX3_build 10 [some (.inr (some 64)), some (.inr (some 39)), some (.inr (some 61)), some (.inl (J16 8 n)), some (.inl (ncI (zTk Z rule) 1 (n + 1))), none] [] (g, J16) (some (.inl r), (g, J))) ∧ (r18 = 0 → r = 0 ∧ J = J16))) →
            Ev Γ 4 mX3_build 10 [some (.inr (some 64)), some (.inr (some 39)), some (.inr (some 61)), some (.inl d), some (.inl (ncI (zTk Z rule) 1 n)), none] [] (g, K) (some (.inl r), (g, J)) := fun {r J} h1 h2 => by
          refine v_X3_build_10 hg.c 39 tr39 d _ ⟨fun z => absurd z (by omega), fun _ => ⟨⟨by omega, by omega⟩, fun y6 ey6 => ?_⟩⟩
          rw [e62] at ey6
          subst ey6
          rw [Int.toNat_natCast, e6]
          refine ⟨⟨by omega, by omega⟩, r1, J1, a1, fun z => ⟨by rw [(h1 z).1], (h1 z).2⟩, fun z => ?_⟩
          obtain ⟨r14, J12, b1, b2, b3⟩ := h2 z
          refine ⟨r14, J12, b1, fun y => ⟨by rw [(b2 y).1], (b2 y).2⟩, fun y => ?_⟩
          obtain ⟨r18, J16, c1, c2, c3⟩ := b3 y
          refine ⟨r18, J16, c1, fun x => ⟨⟨by omega, by omega⟩, fun y21 e21 => ⟨by unfold inR; omega, ?_⟩⟩, fun x => ⟨by rw [(c3 x).1], (c3 x).2⟩⟩
          have := c2 x
          rw [hs] at this
          rw [e21]
          exact this
        by_cases hfit : (B ++ byt (zT Z) d (zT Z 3 n)).length ≤ 240
        · obtain ⟨r1e, sb1⟩ := a3.1 hfit
          have f1 := hK.tr a2.fb
          obtain ⟨q1, q2, q3, q4⟩ := f1.same.eqs
          have hC1 := hZ.mv f1.same (f1 15 1 (by omega) (by omega) (by omega) (by omega) (by omega))
          have e7 : J1 52 7 = Z 52 7 := f1 52 7 (by omega) (by omega) (by omega) (by omega) (by omega)
          obtain ⟨J2, w1, w2, w3⟩ := c_findWay (Γ := Γ) (Z := J1) (I := J1) (root := (n : Int)) hg.c hC1 FrM.rf ⟨by omega, by rw [f1 3 2 (by omega) (by omega) (by omega) (by omega) (by omega)]; exact hn2⟩
          rw [q1, q2, q3, e7] at w1 w3
          rw [pb_t hW] at w1
          cases hs' : WAY (zT Z) (zP Z) (Z 52 7) (zDf Z) n with
          | none => exact absurd hs' hW
          | some s' =>
            have hA := w3 s' hs'
            have f2 := f1.tr w2.fb
            have hG := WAY_GI hT hP hZ.2.2.2.2.1 hZ.2.2.2.2.2.2.1 ⟨by omega, hn2⟩ hs'
            have lc : ∀ l : Nat, l < 26 → fn J2 l = fnS (zP Z) s' l ∧ hm J2 l = hmS (zP Z) s' l := fun l hl => by
              have := let_c (by rw [q2]; exact hP) w2 hA hl
              rw [q2] at this
              exact this
            have nonE : ∀ q : Nat, Non (ct 27 Z) J2 q ↔ NonS (ct 27 Z) (zP Z) s' q := fun q => by
              unfold Non NonS
              constructor
              · rintro ⟨h1, h2, h3⟩
                have l9 := (let_p hX h1 (Or.inr h2)).1
                rw [(lc _ (by omega)).2] at h3
                exact ⟨h1, h2, h3⟩
              · rintro ⟨h1, h2, h3⟩
                have l9 := (let_p hX h1 (Or.inr h2)).1
                rw [← (lc _ (by omega)).2] at h3
                exact ⟨h1, h2, h3⟩
            have ft := c_fillTemplate (Γ := Γ) (I := J2) (B := B ++ byt (zT Z) d (zT Z 3 n)) hg.c (by rw [f2.ct (Or.inl rfl)]; exact hT) (by rw [f2.ct (Or.inr (Or.inl rfl))]; exact hP) (by rw [f2.ct (Or.inr (Or.inr rfl))]; exact hX) (by rw [f2 27 1 (by omega) (by omega) (by omega) (by omega) (by omega)]; exact hl) (sb1.mv (w2 39 1 (by omega) (by omega)) (fun k => w2 40 k (by omega) (by omega))) (fun q hq hkq hnq => by
              rw [f2 27 2 (by omega) (by omega) (by omega) (by omega) (by omega)] at hq
              rw [f2 29 q (by omega) (by omega) (by omega) (by omega) (by omega)] at hkq
              rw [f2.ct (Or.inr (Or.inr rfl))] at hnq
              rw [f2 36 q (by omega) (by omega) (by omega) (by omega) (by omega), f2.ct (Or.inl rfl)]
              have l9 := (let_p hX hq hkq).1
              have l9' : 0 ≤ Z 36 q ∧ Z 36 q < 26 := l9
              have lf := let_LF hT hP hX hO hG hq hkq (fun z => hnq ((nonE q).2 z))
              rw [(lc _ (by omega)).1, (lc _ (by omega)).2]
              exact lf)
            rw [f2.ct (Or.inl rfl), f2.ct (Or.inr (Or.inr rfl))] at ft
            obtain ⟨r2, J3, t1', t2, t3, t4⟩ := ft
            have et : tmpl (ct 27 Z) (Non (ct 27 Z) J2) (fun l => sgf (ct 3 Z) (fn J2 l) (hm J2 l)) = ndL (zT Z) (zP Z) (ct 27 Z) (Z 52 7) (zDf Z) n := by
              unfold ndL
              rw [hs']
              refine tmpl_cg hX nonE (fun q hq hkq => ?_)
              have l9 := (let_p hX hq hkq).1
              show sgf (ct 3 Z) (fn J2 _) (hm J2 _) = sgf (zT Z) (fnS (zP Z) s' _) (hmS (zP Z) s' _)
              rw [(lc _ (by omega)).1, (lc _ (by omega)).2]
            rw [et] at t4
            rw [← List.append_assoc]
            have f3 := f2.tr t3.fb
            by_cases hfit2 : (B ++ byt (zT Z) d (zT Z 3 n) ++ ndL (zT Z) (zP Z) (ct 27 Z) (Z 52 7) (zDf Z) n).length ≤ 240
            · obtain ⟨r2e, sb2⟩ := t4.1 hfit2
              have e8 : J3 8 n = zT Z 5 n := f3 8 n (by omega) (by omega) (by omega) (by omega) (by omega)
              obtain ⟨r, J, j1, j2, j3, j4⟩ := ih (n + 1) J3 _ (zT Z 5 n) (by omega) f3 sb2 ⟨by omega, sn.2.2.2⟩ (fun o h1 h2 h3 => tD.2 n o (by omega) h2 t1 h3)
              rw [← e8] at j1
              exact ⟨r, J, stp (fun z => by omega) (fun _ => ⟨1, J2, w1, fun z => absurd z (by decide), fun _ => ⟨r2, J3, t1', fun _ => j1, fun z => by omega⟩⟩), j2, j3, j4⟩
            · have r0 := t4.2 (by omega)
              exact ⟨0, J3, stp (fun z => by omega) (fun _ => ⟨1, J2, w1, fun z => absurd z (by decide), fun _ => ⟨r2, J3, t1', fun z => absurd r0 z, fun _ => ⟨rfl, rfl⟩⟩⟩), Or.inl rfl, f3, (Out.long t4 (by omega) 0).2 rfl⟩
        · have r0 := a3.2 (by omega)
          exact ⟨0, J1, stp (fun _ => ⟨rfl, rfl⟩) (fun z => absurd r0 z), Or.inl rfl, hK.tr a2.fb, (Out.long a3 (by omega) 0).2 rfl⟩
  obtain ⟨r, J, j1, j2, j3, j4⟩ := lp (Z 3 2).toNat 0 (mset Z 39 1 0) [] 0 (by omega) (fun a k _ _ _ _ z5 => by
    unfold mset
    rw [if_neg (by omega)]) ⟨mset_s _ _ _ _, by decide, fun j hj => absurd hj (Nat.not_lt_zero _)⟩ ⟨by decide, htl.1⟩ (fun o _ h2 _ => (sT' o h2).1)
  refine ⟨r, J, CT.of (R := (some (.inl r), (g, J))) oX3_build (Nat.le_of_ble_eq_true rfl) (Nat.le_refl _) (Nat.le_refl _) (v_X3_build_0 hg.c 39 tr39 ?_), j2, j3, ?_⟩
  · intro I1 e1
    rw [e1]
    exact j1
  · rw [List.nil_append] at j4
    exact j4
end BLD
