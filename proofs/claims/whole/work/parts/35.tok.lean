/-! ===== a tree that was read, wherever it lies ===== -/
/-- the cells of the tree at t -/
def tv (t : Nat) (I : IF) : IF := fun i k => I (t + i) k
/-- the same tree -/
def TAg (X Y : IF) : Prop := Y 0 1 = X 0 1 ∧ Y 0 2 = X 0 2 ∧ (∀ j : Nat, (j : Int) < X 0 1 → Y 1 j = X 1 j) ∧ (∀ i p : Nat, 2 ≤ i → i ≤ 9 → (p : Int) < X 0 2 → Y i p = X i p) ∧ (∀ l : Nat, l < 26 → Y 10 l = X 10 l)
def KOk (X : IF) (p : Nat) : Prop := (X 2 p = 0 ∧ ((X 7 p = -1 ∧ ncI (X 6) p (X 0 2).toNat = 0) ∨ (0 ≤ X 7 p ∧ X 7 p = ncI (X 6) p (X 0 2).toNat))) ∨ ((X 2 p = 1 ∨ X 2 p = 2) ∧ X 7 p = -1 ∧ ncI (X 6) p (X 0 2).toNat = 0) ∨ (X 2 p = 3 ∧ X 7 p = -1 ∧ ncI (X 6) p (X 0 2).toNat = 1)
def DOk (X : IF) (D : Nat → Int) : Prop := ∀ q : Nat, (q : Int) < X 0 2 → 0 ≤ D q ∧ D q ≤ 12 ∧ (X 6 q = -1 → D q = 0) ∧ (X 6 q ≠ -1 → D q = D (X 6 q).toNat + 1)
def SOk (X : IF) : Prop := (∀ p : Nat, (p : Int) < X 0 2 → 0 ≤ X 3 p ∧ X 3 p < X 4 p ∧ X 4 p ≤ X 5 p ∧ X 5 p ≤ X 0 1) ∧ (∀ p q : Nat, p < q → (q : Int) < X 0 2 → X 4 p ≤ X 3 q) ∧ (∀ p q : Nat, p < q → (q : Int) < X 0 2 → p + X 8 p ≤ q → X 5 p ≤ X 3 q) ∧ (∀ q : Nat, (q : Int) < X 0 2 → X 6 q ≠ -1 → X 5 q < X 5 (X 6 q).toNat)
def LOk (X : IF) : Prop :=
  (∀ p : Nat, (p : Int) < X 0 2 → (X 2 p = 0 ∧ X 9 p = -1 ∧ ∀ j : Nat, X 3 p ≤ j → (j : Int) < X 4 p → atomb (X 1 j) = true) ∨ ((X 2 p = 1 ∨ X 2 p = 2) ∧ 0 ≤ X 9 p ∧ X 9 p < 26 ∧ X 5 p = X 3 p + 2 ∧ X 4 p = X 3 p + 2 ∧ X 1 (X 3 p).toNat = (if X 2 p = 1 then 63 else 42) ∧ X 1 (X 3 p + 1).toNat = X 9 p + 97) ∨ (X 2 p = 3 ∧ X 9 p = -1 ∧ X 4 p = X 3 p + 1)) ∧
  (∀ l : Nat, l < 26 → (X 10 l = -1 ∧ ∀ p : Nat, (p : Int) < X 0 2 → X 9 p ≠ l) ∨ (0 ≤ X 10 l ∧ X 10 l < X 0 2 ∧ X 9 (X 10 l).toNat = l ∧ ∀ p : Nat, (p : Int) < X 0 2 → X 9 p = l → X 10 l ≤ p ∧ X 2 p = X 2 (X 10 l).toNat)) ∧
  (∀ j : Nat, (j : Int) < X 0 1 → (X 1 j = 63 ∨ X 1 j = 42) → ∃ p : Nat, (p : Int) < X 0 2 ∧ (X 2 p = 1 ∨ X 2 p = 2) ∧ X 3 p = j)
def POk (w : Int) (X : IF) : Prop := (∀ p : Nat, (p : Int) < X 0 2 → X 2 p = 2 → X 6 p ≠ -1 ∧ X 2 (X 6 p).toNat = 0) ∧ (w = 0 → ∀ p : Nat, (p : Int) < X 0 2 → X 2 p = 0) ∧ (w = 2 → ∀ p : Nat, (p : Int) < X 0 2 → X 2 p ≠ 3) ∧ (w = 1 → ncI (X 2) 2 (X 0 2).toNat ≤ 2) ∧ (∀ p q : Nat, (p : Int) < X 0 2 → (q : Int) < X 0 2 → X 2 p = 3 → X 2 q = 3 → p = q)
/-- what holds of a tree that was read as w -/
def TOK (w : Int) (X : IF) : Prop :=
  ((0 ≤ X 0 1 ∧ X 0 1 ≤ 240) ∧ (1 ≤ X 0 2 ∧ X 0 2 ≤ 120) ∧ (∀ j : Nat, (j : Int) < X 0 1 → 0 ≤ X 1 j ∧ X 1 j ≤ 255)) ∧ PTr (X 0 2) (X 6) (X 8) ∧ (∀ p : Nat, (p : Int) < X 0 2 → KOk X p) ∧ (∃ D : Nat → Int, DOk X D) ∧ SOk X ∧ LOk X ∧ POk w X
section TOKS
variable {K X Y : IF} {w : Int}
theorem TOK_of (h : WA K) (h3 : K 51 3 = -1) (h2 : 3 ≤ K 51 2) (h1 : K 51 1 = K 39 1) : TOK (K 51 0) (tv 39 K) := by
  obtain ⟨hR, hC, E, D, hT, hH, hP, hS, hL, hN, hpos⟩ := h
  obtain ⟨r1, r2, r3, r4, r5, r6, r7, r8, r9, r10, r11, r12, r13⟩ := hR
  obtain ⟨c1, c2, c3, c4, c5, c6, c7, c8⟩ := hC
  obtain ⟨t1, t2, t3, t4, t5, t6, t7⟩ := hT
  have hE : ∀ p : Nat, (p : Int) < K 39 2 → E p = p + K 47 p ∧ E p ≤ K 39 2 := fun p hp => by
    rcases (t1 p hp).1 with z | z
    · have := t2 p hp z
      omega
    · exact z
  refine ⟨⟨⟨by have := r1; show 0 ≤ K 39 1; omega, r1.2.2⟩, ⟨by have := hpos (by omega); show 1 ≤ K 39 2; omega, r4.2⟩, r13⟩, ⟨r4.1, fun q hq => ?_, fun p hp => ?_, fun q hq z => ?_, fun p q hpq hq z => ?_⟩, fun p hp => ?_, ⟨D, hP.1⟩, ⟨fun p hp => ?_, hS.2.1, fun p q hpq hq z => ?_, fun q hq z => ?_⟩, ⟨hL.1, hL.2.1, fun j hj => ?_⟩, ⟨hN.2.1, hN.2.2.1, hN.2.2.2, fun z => ?_, fun p q hp hq z y => ?_⟩⟩
  · have := r7 q hq
    exact ⟨this.1, this.2, t6 q hq⟩
  · have := hE p hp
    have g := (t1 p hp).2
    refine ⟨g, ?_⟩
    show (p : Int) + K 47 p ≤ K 39 2
    omega
  · have z' : K 45 q ≠ -1 := z
    have hq' : (q : Int) < K 39 2 := hq
    have g := t4 q hq z'
    have g1 := hE q hq
    have g7 := r7 q hq
    have g2 := hE (K 45 q).toNat (by omega)
    show (q : Int) + K 47 q ≤ K 45 q + K 47 (K 45 q).toNat
    omega
  · have z' : (q : Int) < p + K 47 p := z
    have hq' : (q : Int) < K 39 2 := hq
    have := hE p (by omega)
    exact t5 p q hpq hq (by omega)
  · have q := hH.1 p hp
    rcases q with q | q | ⟨q1, q2, q3⟩
    · exact Or.inl q
    · exact Or.inr (Or.inl q)
    · refine Or.inr (Or.inr ⟨q1, q2, ?_⟩)
      show ncI (K 45) p (K 39 2).toNat = 1
      omega
  · have := hS.1 p hp
    refine ⟨this.1, this.2.1, this.2.2.1, ?_⟩
    show K 44 p ≤ K 39 1
    omega
  · have hp' : (q : Int) < K 39 2 := hq
    have z' : (p : Int) + K 47 p ≤ q := z
    have := hE p (by omega)
    exact hS.2.2.1 p q hpq hq (by omega)
  · have z' : K 45 q ≠ -1 := z
    have hq' : (q : Int) < K 39 2 := hq
    have g7 := r7 q hq
    have g2 := hE (K 45 q).toNat (by omega)
    exact hS.2.2.2 q hq z' (by omega)
  · exact hL.2.2 j (by have hj' : (j : Int) < K 39 1 := hj; omega)
  · have := c7 z
    have g := hN.1
    show ncI (K 41) 2 (K 39 2).toNat ≤ 2
    omega
  · have e1 := c6 p hp z
    have e2 := c6 q hq y
    omega
theorem PTr.cg {c : Int} {par siz par' siz' : Nat → Int} (h : PTr c par siz) (e : ∀ q : Nat, (q : Int) < c → par' q = par q ∧ siz' q = siz q) : PTr c par' siz' := by
  obtain ⟨h0, h1, h2, h3, h4⟩ := h
  refine ⟨h0, fun q hq => ?_, fun p hp => ?_, fun q hq z => ?_, fun p q hpq hq z => ?_⟩
  · rw [(e q hq).1]; exact h1 q hq
  · rw [(e p hp).2]; exact h2 p hp
  · rw [(e q hq).1] at z ⊢
    have := h1 q hq
    rw [(e q hq).2, (e (par q).toNat (by omega)).2]
    exact h3 q hq z
  · rw [(e p (by omega)).2] at z
    rw [(e q hq).1]
    exact h4 p q hpq hq z
theorem TOK.cg (h : TOK w X) (e : TAg X Y) : TOK w Y := by
  obtain ⟨⟨l1, l2, l3⟩, hT, hK, ⟨D, hD⟩, hS, hL, hP⟩ := h
  obtain ⟨e1, e2, e3, e4, e5⟩ := e
  have hc := hT.1
  have hpar := hT.2.1
  have e6 : ∀ q : Nat, (q : Int) < X 0 2 → Y 6 q = X 6 q := fun q hq => e4 6 q (by decide) (by decide) hq
  have nc : ∀ p : Int, ncI (Y 6) p (X 0 2).toNat = ncI (X 6) p (X 0 2).toNat := fun p => ncI_congr (fun q hq => e6 q (by omega))
  refine ⟨⟨by rw [e1]; exact l1, by rw [e2]; exact l2, fun j hj => ?_⟩, ?_, fun p hp => ?_, ⟨D, fun q hq => ?_⟩, ⟨fun p hp => ?_, fun p q hpq hq => ?_, fun p q hpq hq z => ?_, fun q hq z => ?_⟩, ⟨fun p hp => ?_, fun l hl => ?_, fun j hj z => ?_⟩, ⟨fun p hp z => ?_, fun z p hp => ?_, fun z p hp => ?_, fun z => ?_, fun p q hp hq z y => ?_⟩⟩
  · rw [e1] at hj
    rw [e3 j hj]; exact l3 j hj
  · rw [e2]
    exact hT.cg (fun q hq => ⟨e6 q hq, e4 8 q (by decide) (by decide) hq⟩)
  · rw [e2] at hp
    have q := hK p hp
    unfold KOk at q ⊢
    rw [e2, nc, e4 2 p (by decide) (by decide) hp, e4 7 p (by decide) (by decide) hp]
    exact q
  · rw [e2] at hq
    rw [e6 q hq]
    exact hD q hq
  · rw [e2] at hp
    rw [e4 3 p (by decide) (by decide) hp, e4 4 p (by decide) (by decide) hp, e4 5 p (by decide) (by decide) hp, e1]
    exact hS.1 p hp
  · rw [e2] at hq
    rw [e4 4 p (by decide) (by decide) (by omega), e4 3 q (by decide) (by decide) hq]
    exact hS.2.1 p q hpq hq
  · rw [e2] at hq
    rw [e4 8 p (by decide) (by decide) (by omega)] at z
    rw [e4 5 p (by decide) (by decide) (by omega), e4 3 q (by decide) (by decide) hq]
    exact hS.2.2.1 p q hpq hq z
  · rw [e2] at hq
    rw [e6 q hq] at z ⊢
    have := hpar q hq
    rw [e4 5 q (by decide) (by decide) hq, e4 5 (X 6 q).toNat (by decide) (by decide) (by omega)]
    exact hS.2.2.2 q hq z
  · rw [e2] at hp
    have hs := hS.1 p hp
    rw [e4 2 p (by decide) (by decide) hp, e4 9 p (by decide) (by decide) hp, e4 3 p (by decide) (by decide) hp, e4 4 p (by decide) (by decide) hp, e4 5 p (by decide) (by decide) hp]
    rcases hL.1 p hp with ⟨q1, q2, q3⟩ | ⟨q1, q2, q3, q4, q5, q6, q7⟩ | q
    · exact Or.inl ⟨q1, q2, fun j z1 z2 => by rw [e3 j (by omega)]; exact q3 j z1 z2⟩
    · refine Or.inr (Or.inl ⟨q1, q2, q3, q4, q5, ?_, ?_⟩)
      · rw [e3 _ (by omega)]; exact q6
      · rw [e3 _ (by omega)]; exact q7
    · exact Or.inr (Or.inr q)
  · rw [e5 l hl, e2]
    rcases hL.2.1 l hl with ⟨q1, q2⟩ | ⟨q1, q2, q3, q4⟩
    · exact Or.inl ⟨q1, fun p hp => by rw [e4 9 p (by decide) (by decide) hp]; exact q2 p hp⟩
    · refine Or.inr ⟨q1, q2, ?_, fun p hp => ?_⟩
      · rw [e4 9 _ (by decide) (by decide) (by omega)]; exact q3
      · rw [e4 9 p (by decide) (by decide) hp, e4 2 p (by decide) (by decide) hp, e4 2 _ (by decide) (by decide) (by omega)]
        exact q4 p hp
  · rw [e1] at hj
    rw [e3 j hj] at z
    obtain ⟨p, p1, p2, p3⟩ := hL.2.2 j hj z
    exact ⟨p, by rw [e2]; exact p1, by rw [e4 2 p (by decide) (by decide) p1]; exact p2, by rw [e4 3 p (by decide) (by decide) p1]; exact p3⟩
  · rw [e2] at hp
    rw [e4 2 p (by decide) (by decide) hp] at z
    have := hpar p hp
    have g := hP.1 p hp z
    rw [e6 p hp, e4 2 _ (by decide) (by decide) (by omega)]
    exact g
  · rw [e2] at hp
    rw [e4 2 p (by decide) (by decide) hp]; exact hP.2.1 z p hp
  · rw [e2] at hp
    rw [e4 2 p (by decide) (by decide) hp]; exact hP.2.2.1 z p hp
  · rw [e2, ncI_congr (g := X 2) (fun q hq => e4 2 q (by decide) (by decide) (by omega))]
    exact hP.2.2.2.1 z
  · rw [e2] at hp hq
    rw [e4 2 p (by decide) (by decide) hp] at z
    rw [e4 2 q (by decide) (by decide) hq] at y
    exact hP.2.2.2.2 p q hp hq z y
/-- the reference's tree is this one -/
def TR (X U : IF) : Prop := U 0 1 = X 0 1 ∧ U 0 2 = X 0 2 ∧ (∀ j : Nat, (j : Int) < X 0 1 → U 1 j = sb (X 1 j)) ∧ ∀ p : Nat, (p : Int) < X 0 2 →
  (U 2 p = X 2 p ∧ U 3 p = X 3 p ∧ U 4 p = X 5 p ∧ U 7 p = X 6 p ∧ U 8 p = X 9 p) ∧ (X 2 p = 0 → U 5 p = X 4 p ∧ U 6 p = max 0 (X 7 p) ∧ U 9 p = (if X 7 p = -1 then 0 else 1)) ∧ 0 ≤ U 6 p ∧ U 6 p ≤ 120
/-- the bytes that were read give this tree, as w -/
def RdOk (w : Int) (X : IF) : Prop := ∃ Kc : IF, (w = 0 ∨ w = 1 ∨ w = 2) ∧ (0 ≤ Kc 39 1 ∧ Kc 39 1 ≤ 240) ∧ (∀ j : Nat, (j : Int) < Kc 39 1 → 0 ≤ Kc 40 j ∧ Kc 40 j ≤ 255) ∧ (RR (kStart w Kc)).1 = -1 ∧ TAg (tv 39 (RR (kStart w Kc)).2) X
theorem TAg.tr {Z : IF} (h1 : TAg X Y) (h2 : TAg Y Z) : TAg X Z := by
  obtain ⟨a1, a2, a3, a4, a5⟩ := h1
  obtain ⟨b1, b2, b3, b4, b5⟩ := h2
  exact ⟨b1.trans a1, b2.trans a2, fun j hj => (b3 j (by rw [a1]; exact hj)).trans (a3 j hj), fun i p h1 h2 hp => (b4 i p h1 h2 (by rw [a2]; exact hp)).trans (a4 i p h1 h2 hp), fun l hl => (b5 l hl).trans (a5 l hl)⟩
theorem TAg.rf : TAg X X := ⟨rfl, rfl, fun _ _ => rfl, fun _ _ _ _ _ => rfl, fun _ _ => rfl⟩
theorem TAg.sy (h : TAg X Y) : TAg Y X := by
  obtain ⟨a1, a2, a3, a4, a5⟩ := h
  exact ⟨a1.symm, a2.symm, fun j hj => (a3 j (by rw [← a1]; exact hj)).symm, fun i p h1 h2 hp => (a4 i p h1 h2 (by rw [← a2]; exact hp)).symm, fun l hl => (a5 l hl).symm⟩
theorem RdOk.cg (h : RdOk w X) (e : TAg X Y) : RdOk w Y := by
  obtain ⟨Kc, h1, h2, h3, h4, h5⟩ := h
  exact ⟨Kc, h1, h2, h3, h4, h5.tr e⟩
theorem RR_51 {Kc : IF} (hw : w = 0 ∨ w = 1 ∨ w = 2) (hl : 0 ≤ Kc 39 1 ∧ Kc 39 1 ≤ 240) (hb : ∀ j : Nat, (j : Int) < Kc 39 1 → 0 ≤ Kc 40 j ∧ Kc 40 j ≤ 255) (h : (RR (kStart w Kc)).1 = -1) :
    TOK w (tv 39 (RR (kStart w Kc)).2) ∧ (RR (kStart w Kc)).2 39 1 = Kc 39 1 ∧ (∀ j : Nat, (RR (kStart w Kc)).2 40 j = Kc 40 j) := by
  obtain ⟨g1, g2, g3, g4⟩ := WA.run 300 (kStart w Kc) (WA.start hw hl hb) h
  have f0 : (kRun 300 (kStart w Kc)).2 51 0 = w := frR_run (Or.inr ⟨rfl, rfl⟩) (Or.inr (by decide)) 300 (kStart w Kc)
  have h0 := TOK_of g1 g2 g3 g4
  rw [f0] at h0
  exact ⟨h0, frR_run (Or.inl ⟨by decide, Or.inr (by decide), by decide⟩) (Or.inl (by decide)) 300 (kStart w Kc), fun j => frR_run (Or.inl ⟨by decide, Or.inl (by decide), by decide⟩) (Or.inl (by decide)) 300 (kStart w Kc)⟩
theorem RdOk.tok (h : RdOk w X) : TOK w X := by
  obtain ⟨Kc, h1, h2, h3, h4, h5⟩ := h
  exact (RR_51 h1 h2 h3 h4).1.cg h5
/-- the same bytes are read the same -/
theorem RdOk.again (h : RdOk w X) {K : IF} (hl : K 39 1 = X 0 1) (hb : ∀ j : Nat, (j : Int) < X 0 1 → K 40 j = X 1 j) : (RR (kStart w K)).1 = -1 ∧ TAg X (tv 39 (RR (kStart w K)).2) := by
  obtain ⟨Kc, h1, h2, h3, h4, h5⟩ := h
  obtain ⟨-, f1, f2⟩ := RR_51 h1 h2 h3 h4
  have hlc : X 0 1 = Kc 39 1 := h5.1.trans f1
  have hbc : ∀ j : Nat, (j : Int) < X 0 1 → X 1 j = Kc 40 j := fun j hj => (h5.2.2.1 j (by show (j : Int) < (RR (kStart w Kc)).2 39 1; rw [f1, ← hlc]; exact hj)).trans (f2 j)
  have hq : Eqv (kStart w Kc) (kStart w K) := Eqv.start (by rw [hl, hlc]) (fun j hj => by rw [hb j (by rw [hlc]; exact hj), hbc j (by rw [hlc]; exact hj)])
  obtain ⟨q1, q2⟩ := Eqv.run 300 _ _ hq (RI_start h2 h3) (RI_start (by rw [hl, hlc]; exact h2) (fun j hj => by
    rw [hl] at hj
    rw [hb j hj, hbc j hj]
    exact h3 j (by rw [← hlc]; exact hj)))
  obtain ⟨r1, r2, r3, r4, r5, r6⟩ := q2 h4
  refine ⟨q1.symm.trans h4, h5.sy.tr ⟨r1.symm, r2.symm, fun j hj => (r4 j hj).symm, fun i p z1 z2 hp => (r5 (39 + i) p (by omega) (by omega) hp).symm, fun l hl => (r6 l hl).symm⟩⟩
theorem TR.cg {U : IF} (h : TR X U) (e : TAg X Y) : TR Y U := by
  obtain ⟨h1, h2, h3, h4⟩ := h
  obtain ⟨e1, e2, e3, e4, e5⟩ := e
  refine ⟨by rw [e1]; exact h1, by rw [e2]; exact h2, fun j hj => ?_, fun p hp => ?_⟩
  · rw [e1] at hj
    rw [e3 j hj]; exact h3 j hj
  · rw [e2] at hp
    have q := h4 p hp
    rw [e4 2 p (by decide) (by decide) hp, e4 3 p (by decide) (by decide) hp, e4 4 p (by decide) (by decide) hp, e4 5 p (by decide) (by decide) hp, e4 6 p (by decide) (by decide) hp, e4 7 p (by decide) (by decide) hp, e4 9 p (by decide) (by decide) hp]
    exact q
theorem TR_of {J : IF} {u : Nat} (h : Sim J K u) (h7 : K 51 7 = 0) (hR : K 39 2 ≤ 120) : TR (tv 39 K) (tv u J) := by
  obtain ⟨h1, h2, h3, h4, h5, h6, h7', h8, h9, h10, h11⟩ := h
  refine ⟨h1.1, h9, fun j hj => (h1.2.2 j hj).1, fun p hp => ?_⟩
  obtain ⟨p1, p2, p3, p4, p5, p6, p7, p8⟩ := h10 p hp
  refine ⟨⟨p1, p2, p7 (fun z => by omega), p3, p4⟩, fun z => ?_, p8.1, ?_⟩
  · have z' : K 41 p = 0 := z
    show J (u + 5) p = K 43 p ∧ J (u + 6) p = max 0 (K 46 p) ∧ J (u + 9) p = (if K 46 p = -1 then 0 else 1)
    rcases p6 z' with ⟨w1, w2, w3⟩ | ⟨w1, w2, w3⟩
    · refine ⟨p5 z', by omega, ?_⟩
      rw [w2, if_pos w1]
    · refine ⟨p5 z', by omega, ?_⟩
      rw [w2, if_neg (by omega)]
  · show J (u + 6) p ≤ 120
    omega
end TOKS
