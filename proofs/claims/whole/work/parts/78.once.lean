/-! ===== one put, the class ===== -/
/-- what holds of the class alone -/
def CIn (I : IF) : Prop := CSt I ∧ (TOK 2 (ct 27 I) ∧ I 27 1 ≤ 80) ∧ RdOk 0 (ct 3 I) ∧ (I 52 15 ≠ 0 → KnA I I)
def FrO (I J : IF) : Prop := ∀ a k : Nat, (a < 3 ∨ (14 < a ∧ a < 39) ∨ (a = 52 ∧ (k = 7 ∨ k = 8)) ∨ a = 57 ∨ a = 58 ∨ 65 < a) → J a k = I a k
def KcOk (Kc : IF) (B : List Int) : Prop := B.length ≤ 240 → Kc 39 1 = B.length ∧ ∀ j : Nat, j < B.length → Kc 40 j = nth B j
/-- one put, pure: the text T goes to T', the answer is r -/
def Step (P X : IF) (fr : Int) (Df : Nat → Nat → Prop) (rule : Int) (T T' : IF) (r : Int) : Prop :=
  ∃ Kc : IF, KcOk Kc (newT T P X fr Df (mTk T P fr Df rule)) ∧
  ((r = -2 ∧ T' = T ∧ ncI (mTk T P fr Df rule) 1 (T 0 2).toNat ≠ 0 ∧ (240 < (newT T P X fr Df (mTk T P fr Df rule)).length ∨ (RR (kStart 0 Kc)).1 ≠ -1)) ∨
   (r = ncI (mTk T P fr Df rule) 1 (T 0 2).toNat ∧ (newT T P X fr Df (mTk T P fr Df rule)).length ≤ 240 ∧ (RR (kStart 0 Kc)).1 = -1 ∧ TAg (tv 39 (RR (kStart 0 Kc)).2) T' ∧ SmO T' 0 ∧ (r = 0 → T' = T)))
section ONC
variable {Γ : GX} {g : AG} {I J X K T P s Z Kc : IF} {Df : Nat → Nat → Prop} {w fr rule : Int} {B C : List Int}
theorem FrO.rf : FrO I I := fun _ _ _ => rfl
theorem FrO.tr (h : FrO I J) (h2 : FrO J K) : FrO I K := fun a k z => (h2 a k z).trans (h a k z)
theorem FrO.p (h : FrO I J) : zP J = zP I ∧ ct 27 J = ct 27 I ∧ zDf J = zDf I ∧ J 52 7 = I 52 7 := by
  refine ⟨ct_eq (t := 15) (fun i k hi => h _ _ (by omega)), ct_eq (t := 27) (fun i k hi => h _ _ (by omega)), ?_, h _ _ (by omega)⟩
  funext a b
  unfold zDf
  rw [h 58 a (by omega)]
theorem KnA.cs {Y : IF} (h : KnA Z Y) (e : CSame Z J) (h60 : ∀ k : Nat, J 60 k = Y 60 k ∧ J 59 k = Y 59 k) (h13 : J 52 13 = Y 52 13) : KnA J J := by
  obtain ⟨q1, q2, q3, q4⟩ := e.eqs
  have e3 : J 3 2 = Z 3 2 := e.1 0 2 (by decide)
  unfold KnA
  rw [q4, e3, h13]
  exact ⟨fun n hn => by rw [(h60 n).1]; exact h.1 n hn, h.2.1, fun n hn z => by rw [(h60 _).2]; exact h.2.2 n hn z⟩
/-- with none taken the text stays -/
theorem new_same (hz : ncI (mTk T P fr Df rule) 1 (T 0 2).toNat = 0) : newT T P X fr Df (mTk T P fr Df rule) = byt T 0 (T 0 1) := by
  have all : ∀ n : Nat, n < (T 0 2).toNat → mTk T P fr Df rule n = 0 := fun n hn => by
    rcases pb_01 (tkn T (mM T P fr Df) (wit T (mM T P fr Df)) (alw rule) n) with y | y
    · exact y
    · have s := ncI_succ (mTk T P fr Df rule) 1 n
      rw [show mTk T P fr Df rule n = 1 from y, if_pos rfl] at s
      have m := ncI_mono (f := mTk T P fr Df rule) (p := 1) (x := n + 1) (T 0 2).toNat (by omega)
      have nn := ncI_nn (mTk T P fr Df rule) 1 n
      omega
  have lp : ∀ (m n : Nat) (d : Int), m + n = (T 0 2).toNat → outL T (mTk T P fr Df rule) (ndL T P X fr Df) m n d = byt T d (T 0 1) := by
    intro m
    induction m with
    | zero => intro n d _; rfl
    | succ m ih =>
      intro n d h
      rw [outL, if_pos (all n (by omega))]
      exact ih (n + 1) d (by omega)
  exact lp _ 0 0 rfl
/-- the bytes of a tree, laid to be read -/
def lay (X : IF) : IF := fun a k => if a = 39 then X 0 1 else X 1 k
theorem lay_again (h : RdOk 0 X) : (RR (kStart 0 (lay X))).1 = -1 ∧ TAg X (tv 39 (RR (kStart 0 (lay X))).2) := h.again rfl (fun j _ => rfl)
theorem lay_ok (h : TOK w X) : KcOk (lay X) (byt X 0 (X 0 1)) := fun _ => by
  have l := h.1.1
  rw [byt_len]
  refine ⟨by show X 0 1 = _; omega, fun j hj => ?_⟩
  unfold byt
  rw [sgm_nth _ _ _ _ hj]
  show X 1 j = X 1 ((0 : Int).toNat + j)
  rw [show (0 : Int).toNat + j = j from Nat.zero_add j]
theorem CIn.found (hg : GOk g) (h : CIn I) (hr : rule = 0 ∨ rule = 1 ∨ rule = 2) : ∃ J5 J8 : IF, CT Γ 4 mX1_findAll [.inr (some 52)] (g, I) (none, (g, J5)) ∧ CT Γ 1 mX0_choose [.inr (some 61), .inl rule] (g, J5) (none, (g, J8)) ∧ TkL I J8 rule ∧ KnA I J8 ∧ CSame I J8 ∧ (∀ a k : Nat, (a < 52 ∨ a = 57 ∨ a = 58 ∨ 63 < a ∨ (a = 52 ∧ (k = 7 ∨ k = 8))) → J8 a k = I a k) := by
  obtain ⟨J, j1, j2, j3⟩ := c_findAll (Γ := Γ) hg h.1 h.2.2.2
  obtain ⟨q1, q2, q3, q4⟩ := j2.same.eqs
  have e3 : J 3 2 = I 3 2 := j2 3 2 (by decide) (by decide)
  obtain ⟨J8, c1, c2, c3⟩ := c_choose (Γ := Γ) (Z := J) hg.c (h.1.mv j2.same (j2 15 1 (by decide) (by decide))) (fun n hn => by rw [q4]; exact j3.1 n (by rw [← e3]; exact hn)) hr
  have fr8 : ∀ a k : Nat, (a < 52 ∨ a = 57 ∨ a = 58 ∨ 63 < a ∨ (a = 52 ∧ (k = 7 ∨ k = 8))) → J8 a k = I a k := fun a k z => (c2 a k (by omega) (by omega) (by omega)).trans (j2 a k (by omega) (by omega))
  unfold TkL at c3
  rw [j2.same.tk, e3] at c3
  refine ⟨J, J8, j1, c1, c3, ⟨fun n hn => ?_, ?_, fun n hn z => ?_⟩, ⟨fun i k hi => fr8 _ _ (by omega), fun i k hi => fr8 _ _ (by omega), fun k => ⟨fr8 _ _ (by omega), fr8 _ _ (by omega)⟩, fr8 _ _ (by omega), fr8 _ _ (by omega)⟩, fr8⟩
  · rw [c2 60 n (by omega) (by omega) (by omega)]; exact j3.1 n hn
  · rw [c2 52 13 (by omega) (by omega) (by omega)]; exact j3.2.1
  · rw [c2 59 _ (by omega) (by omega) (by omega)]; exact j3.2.2 n hn z
/-- PUTONCE -/
theorem c_putOnce (hg : GOk g) (h : CIn I) (hO : LetOk (ct 27 I) (zP I)) (hr : rule = 0 ∨ rule = 1 ∨ rule = 2) :
    ∃ (r : Int) (J : IF), CT Γ 5 mX6_putOnce [.inr (some 1), .inl rule] (g, I) (some (.inl r), (g, J)) ∧ FrO I J ∧ CIn J ∧ Step (zP I) (ct 27 I) (I 52 7) (zDf I) rule (zT I) (zT J) r := by
  obtain ⟨J5, Z, f1, f2, f3, f4, f5, f6⟩ := h.found (Γ := Γ) hg hr
  obtain ⟨q1, q2, q3, q4⟩ := f5.eqs
  have hT := h.1.1
  have htc : 1 ≤ I 3 2 ∧ I 3 2 ≤ 120 := hT.1.2.1
  have c27 : ct 27 Z = ct 27 I := ct_eq (t := 27) (fun i k hi => f6 _ _ (by omega))
  have c3 : ct 3 Z = ct 3 I := q1
  have hCZ : CSt Z := h.1.mv f5 (f6 15 1 (by omega))
  have z7 : Z 52 7 = I 52 7 := f6 52 7 (by omega)
  have etk : mTk (zT I) (zP I) (I 52 7) (zDf I) rule = zTk I rule := rfl
  have e61 : Z 61 3 = ncI (zTk I rule) 1 (I 3 2).toNat := f3.1
  have foZ : FrO I Z := fun a k z => f6 a k (by omega)
  -- still the class's
  have keep : ∀ {J : IF}, (∀ a k : Nat, (a < 39 ∨ (a = 52 ∧ (k = 7 ∨ k = 8)) ∨ a = 57 ∨ a = 58) → J a k = Z a k) → (∀ k : Nat, J 60 k = Z 60 k ∧ J 59 k = Z 59 k) → J 52 13 = Z 52 13 → CIn J ∧ zT J = zT I := fun {J} e e60 e13 => by
    have cs : CSame Z J := ⟨fun i k hi => e _ _ (by omega), fun i k hi => e _ _ (by omega), fun k => ⟨e _ _ (by omega), e _ _ (by omega)⟩, e _ _ (by omega), e _ _ (by omega)⟩
    have cs' : CSame I J := ⟨fun i k hi => (e _ _ (by omega)).trans (f6 _ _ (by omega)), fun i k hi => (e _ _ (by omega)).trans (f6 _ _ (by omega)), fun k => ⟨(e _ _ (by omega)).trans (f6 _ _ (by omega)), (e _ _ (by omega)).trans (f6 _ _ (by omega))⟩, (e _ _ (by omega)).trans (f6 _ _ (by omega)), (e _ _ (by omega)).trans (f6 _ _ (by omega))⟩
    have c27' : ct 27 J = ct 27 I := ct_eq (t := 27) (fun i k hi => (e _ _ (by omega)).trans (f6 _ _ (by omega)))
    have e3 : zT J = zT I := cs'.eqs.1
    refine ⟨⟨h.1.mv cs' ((e 15 1 (by omega)).trans (f6 15 1 (by omega))), ⟨by rw [c27']; exact h.2.1.1, by rw [e 27 1 (by omega), f6 27 1 (by omega)]; exact h.2.1.2⟩, ?_, fun _ => f4.cs cs' e60 e13⟩, e3⟩
    show RdOk 0 (zT J)
    rw [e3]
    exact h.2.2.1
  by_cases hz : Z 61 3 = 0
  · obtain ⟨k1, k2⟩ := keep (J := Z) (fun _ _ _ => rfl) (fun _ => ⟨rfl, rfl⟩) rfl
    refine ⟨0, Z, CT.of (R := (some (.inl 0), (g, Z))) oX6_putOnce (Nat.le_of_ble_eq_true rfl) (Nat.le_refl _) (Nat.le_refl _) (v_X6_putOnce_0 hg.c rule ⟨_, f1, _, f2, fun z => absurd hz z, fun _ => ⟨rfl, rfl⟩⟩), foZ, k1, ?_⟩
    have hz' : ncI (mTk (zT I) (zP I) (I 52 7) (zDf I) rule) 1 (zT I 0 2).toNat = 0 := by
      rw [etk]
      exact e61.symm.trans hz
    have ns := new_same (X := ct 27 I) hz'
    have lg := lay_again h.2.2.1
    refine ⟨lay (zT I), by rw [ns]; exact lay_ok hT, Or.inr ⟨hz'.symm, ?_, lg.1, ?_, ?_, fun _ => k2⟩⟩
    · rw [ns, byt_len]
      have : zT I 0 1 ≤ 240 := hT.1.1.2
      omega
    · rw [k2]; exact TAg.sy lg.2
    · rw [k2]; exact h.1.2.2.1
  · have hk : TkL Z Z rule := by
      unfold TkL
      rw [f5.tk, show Z 3 2 = I 3 2 from f6 3 2 (by omega)]
      exact f3
    obtain ⟨r1, Y, b1, b2, b3, b4⟩ := c_build (Γ := Γ) hg hCZ (by rw [c27]; exact h.2.1.1) (by rw [f6 27 1 (by omega)]; exact h.2.1.2) (by rw [c27, q2]; exact hO) hk
    rw [q1, q2, c27, z7, q3, f5.tk, ← etk] at b4
    have foY : FrO I Y := foZ.tr (fun a k z => b3 a k (by omega) (by omega) (by omega) (by omega) (by omega))
    by_cases hlen : (newT (zT I) (zP I) (ct 27 I) (I 52 7) (zDf I) (mTk (zT I) (zP I) (I 52 7) (zDf I) rule)).length ≤ 240
    · obtain ⟨r1e, sb1⟩ := b4.1 hlen
      have br : BLs (newT (zT I) (zP I) (ct 27 I) (I 52 7) (zDf I) (mTk (zT I) (zP I) (I 52 7) (zDf I) rule)) := BLs_newT hT h.1.2.1 h.2.1.1 hO h.1.2.2.2.2.1 h.1.2.2.2.2.2.2.1
      have yl : 0 ≤ Y 39 1 ∧ Y 39 1 ≤ 240 := by rw [sb1.1]; omega
      have yb : ∀ j : Nat, (j : Int) < Y 39 1 → 0 ≤ Y 40 j ∧ Y 40 j ≤ 255 := fun j hj => by
        rw [sb1.1] at hj
        rw [sb1.2.2 j (by omega)]
        exact br j (by omega)
      have rt := c_readTree' (Γ := Γ) (I := Y) (w := 0) hg.c yl yb
      have kok : KcOk Y (newT (zT I) (zP I) (ct 27 I) (I 52 7) (zDf I) (mTk (zT I) (zP I) (I 52 7) (zDf I) rule)) := fun _ => ⟨sb1.1, sb1.2.2⟩
      by_cases hrr : (RR (kStart 0 Y)).1 = -1
      · rw [hrr] at rt
        obtain ⟨t1, t2, t3⟩ := RR_51 (w := 0) (Kc := Y) (Or.inl rfl) yl yb hrr
        obtain ⟨A, a1, a2, a3, a4, a5⟩ := c_adopt0 (Γ := Γ) hg.c t1
        have af : ∀ a k : Nat, (a < 3 ∨ 14 < a) → (a < 39 ∨ 51 < a) → (a ≠ 52 ∨ k ≠ 15) → A a k = Y a k := fun a k z1 z2 z3 => (a2 a k z1 z3).trans (RR_f z2)
        have foA : FrO I A := fun a k z => (af a k (by omega) (by omega) (by omega)).trans (foY a k z)
        obtain ⟨p1, p2, p3, p4⟩ := foA.p
        have a61 : A 61 3 = ncI (zTk I rule) 1 (I 3 2).toNat := by
          rw [af 61 3 (by omega) (by omega) (by omega), b3 61 3 (by omega) (by omega) (by omega) (by omega) (by omega)]
          exact e61
        refine ⟨A 61 3, A, CT.of (R := (some (.inl (A 61 3)), (g, A))) oX6_putOnce (Nat.le_of_ble_eq_true rfl) (Nat.le_refl _) (Nat.le_refl _) (v_X6_putOnce_0 hg.c rule ⟨_, f1, _, f2, fun _ => ⟨_, _, b1, fun z => by omega, fun _ => ⟨_, _, rt, fun _ => ⟨_, a1, rfl, rfl⟩, fun z => absurd rfl z⟩⟩, fun z => absurd z hz⟩), foA, ⟨⟨t1.cg a3, by show TOK 1 (zP A); rw [p1]; exact h.1.2.1, a4, ?_, ?_, ?_, ?_, ?_⟩, ⟨?_, ?_⟩, ?_, fun z => absurd a5 z⟩, Y, kok, Or.inr ⟨?_, hlen, hrr, a3, a4, fun z => ?_⟩⟩
        · intro p hp
          rw [foA 15 2 (by omega)] at hp
          rw [foA 57 p (by omega), p1]
          exact h.1.2.2.2.1 p hp
        · rw [p1, p4]; exact h.1.2.2.2.2.1
        · rw [p1, foA 52 8 (by omega)]; exact h.1.2.2.2.2.2.1
        · rw [p3]; exact h.1.2.2.2.2.2.2.1
        · rw [foA 15 1 (by omega)]; exact h.1.2.2.2.2.2.2.2
        · rw [p2]; exact h.2.1.1
        · rw [foA 27 1 (by omega)]; exact h.2.1.2
        · exact ⟨Y, Or.inl rfl, yl, yb, hrr, a3⟩
        · rw [a61, etk]; rfl
        · exfalso
          apply hz
          rw [e61, ← a61]
          exact z
      · obtain ⟨k1, k2⟩ := keep (J := (RR (kStart 0 Y)).2) (fun a k z => (RR_f (by omega)).trans (b3 a k (by omega) (by omega) (by omega) (by omega) (by omega))) (fun k => ⟨(RR_f (by omega)).trans (b3 _ k (by omega) (by omega) (by omega) (by omega) (by omega)), (RR_f (by omega)).trans (b3 _ k (by omega) (by omega) (by omega) (by omega) (by omega))⟩) ((RR_f (by omega)).trans (b3 _ _ (by omega) (by omega) (by omega) (by omega) (by omega)))
        refine ⟨-2, (RR (kStart 0 Y)).2, CT.of (R := (some (.inl (-2)), (g, (RR (kStart 0 Y)).2))) oX6_putOnce (Nat.le_of_ble_eq_true rfl) (Nat.le_refl _) (Nat.le_refl _) (v_X6_putOnce_0 hg.c rule ⟨_, f1, _, f2, fun _ => ⟨_, _, b1, fun z => by omega, fun _ => ⟨_, _, rt, fun z => absurd z hrr, fun _ => ⟨rfl, rfl⟩⟩⟩, fun z => absurd z hz⟩), foY.tr (fun a k z => RR_f (by omega)), k1, Y, kok, Or.inl ⟨rfl, k2, ?_, Or.inr hrr⟩⟩
        rw [etk]
        exact fun z => hz (e61.trans z)
    · have r0 := b4.2 (by omega)
      obtain ⟨k1, k2⟩ := keep (J := Y) (fun a k z => b3 a k (by omega) (by omega) (by omega) (by omega) (by omega)) (fun k => ⟨b3 _ k (by omega) (by omega) (by omega) (by omega) (by omega), b3 _ k (by omega) (by omega) (by omega) (by omega) (by omega)⟩) (b3 _ _ (by omega) (by omega) (by omega) (by omega) (by omega))
      refine ⟨-2, Y, CT.of (R := (some (.inl (-2)), (g, Y))) oX6_putOnce (Nat.le_of_ble_eq_true rfl) (Nat.le_refl _) (Nat.le_refl _) (v_X6_putOnce_0 hg.c rule ⟨_, f1, _, f2, fun _ => ⟨_, _, b1, fun _ => ⟨rfl, rfl⟩, fun z => absurd r0 z⟩, fun z => absurd z hz⟩), foY, k1, Y, fun z => absurd z hlen, Or.inl ⟨rfl, k2, ?_, Or.inl (by omega)⟩⟩
      rw [etk]
      exact fun z => hz (e61.trans z)
end ONC
