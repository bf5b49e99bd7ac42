/-! ===== matching: the class's two choices go as the search does ===== -/
noncomputable def gRun (T P : IF) (fr root : Int) (Df : Nat → Nat → Prop) (ch : Nat → Int) : Nat → Nat → IF → Nat × IF
  | 0, p, s => (p, s)
  | m + 1, p, s => match gStep T P fr root Df (ch p) p s with
    | none => (p, s)
    | some s' => gRun T P fr root Df ch m (p + 1) s'
def gOut (pc : Nat) (r : Nat × IF) : Option IF := if r.1 = pc then some r.2 else none
/-- the deep one -/
def DPO (P : IF) (dp : Int) : Prop := (dp = P 0 2 ∨ (0 ≤ dp ∧ dp < P 0 2 ∧ P 2 dp.toNat = 3)) ∧ ∀ p : Nat, (p : Int) < P 0 2 → P 2 p = 3 → (p : Int) = dp
def chs (early u v : Int) : Nat → Int := fun p => if (p : Int) = early then u else v
theorem ncI_rng {f : Nat → Int} {p : Int} {x : Nat} : ∀ y : Nat, x ≤ y → ncI f p y ≤ ncI f p x + (y - x)
  | 0, h => by rw [show x = 0 by omega]; omega
  | y + 1, h => by
    by_cases e : x = y + 1
    · rw [e]; omega
    · have := ncI_rng (f := f) (p := p) (x := x) y (by omega)
      rw [ncI_succ]
      split <;> omega
section SRC
variable {T P s s' : IF} {fr dp root : Int} {Df : Nat → Nat → Prop} {p q : Nat} {n c c' : Int} {ch ch' : Nat → Int}
theorem TOK.t7n (hT : TOK 0 T) {n : Nat} (hn : (n : Int) < T 0 2) : T 7 n < T 0 2 - n := by
  have h1 := hT.t7 hn
  have h2 := ncI_rng (f := T 6) (p := n) (x := n + 1) (T 0 2).toNat (by omega)
  have h3 : ncI (T 6) n (n + 1) = 0 := ncI_zero (fun q hq => by have := hT.2.1.2.1 q (by omega); omega)
  omega
theorem gStep_nf (h1 : (p : Int) ≠ fr) (h2 : P 2 p ≠ 3) (hk : P 2 p = 0 ∨ P 2 p = 1 ∨ P 2 p = 2 ∨ P 2 p = 3) : gStep T P fr root Df c p s = gStep T P fr root Df c' p s := by
  unfold gStep
  rcases hk with k | k | k | k
  · rw [if_neg (by omega), if_neg (by omega)]
    unfold gFit
    rw [if_pos k, if_pos k]
  · rw [if_neg (by omega), if_neg (by omega)]
    unfold gFit
    rw [if_neg (by omega), if_pos k, if_neg (by omega), if_pos k]
  · rw [if_pos k, if_pos k]
    unfold gRow rMany
    rw [if_neg h1, if_neg h1]
  · exact absurd k h2
theorem gStep_mono (hF : FRO P fr) (hp : (p : Int) < P 0 2) (hf : (p : Int) = fr ∨ P 2 p = 3) (h0 : 0 ≤ c) (hc : c ≤ c') (h : gStep T P fr root Df c p s = none) : gStep T P fr root Df c' p s = none := by
  unfold gStep at h ⊢
  by_cases hd : P 2 p = 3
  · rw [if_neg (by omega)] at h ⊢
    unfold gFit at h ⊢
    rw [if_neg (by omega), if_neg (by omega)] at h ⊢
    by_cases z : c < T 8 (gSeat T P root p s).1.toNat
    · rw [cif_t z] at h
      cases h
    · rw [cif_f (by omega)]
  · have e := hf.resolve_right hd
    rcases hF.1 with z | ⟨z1, z2, z3, z4, z5⟩
    · omega
    · rw [← e, Int.toNat_natCast] at z3 z4
      rw [if_pos z3] at h ⊢
      unfold gRow at h ⊢
      have r1 : rMany P fr p c s = c := by unfold rMany; rw [if_pos e]
      have r2 : rMany P fr p c' s = c' := by unfold rMany; rw [if_pos e]
      rw [r1] at h
      rw [r2]
      by_cases z : c ≤ s 3 (P 6 p).toNat - sgl P p
      · rw [cif_t ⟨h0, z, Or.inl z4⟩] at h
        cases h
      · rw [cif_f (fun y => by omega)]
theorem gStep_lt (hT : TOK 0 T) (hP : TOK 1 P) (hF : FRO P fr) (hr : 0 ≤ root ∧ root < T 0 2) (hG : GI T P Df p s) (hp : (p : Int) < P 0 2) (hf : (p : Int) = fr ∨ P 2 p = 3) (h : gStep T P fr root Df c p s = some s') : c < T 0 2 := by
  unfold gStep at h
  by_cases hd : P 2 p = 3
  · rw [if_neg (by omega)] at h
    unfold gFit at h
    rw [if_neg (by omega), if_neg (by omega)] at h
    have z := (cif_s h).1
    have n1 := (hG.seat hT hP hp (by omega) hr).1
    have h8 := (hT.2.1.2.2.1 (gSeat T P root p s).1.toNat (by omega)).2
    omega
  · have e := hf.resolve_right hd
    rcases hF.1 with z | ⟨z1, z2, z3, z4, z5⟩
    · omega
    · rw [← e, Int.toNat_natCast] at z3 z4
      rw [if_pos z3] at h
      unfold gRow at h
      have r1 : rMany P fr p c s = c := by unfold rMany; rw [if_pos e]
      rw [r1] at h
      have z := (cif_s h).1
      obtain ⟨⟨a1, a2, a3, a4⟩, ⟨b1, b2⟩, ⟨c1, c2, c3⟩, d1, d2⟩ := hG.row hT hP hp z3
      have t := hT.t7n (n := (s 0 (P 6 p).toNat).toNat) (by omega)
      omega
theorem gRun_ge : ∀ (m p : Nat) (s : IF), p ≤ (gRun T P fr root Df ch m p s).1 ∧ (gRun T P fr root Df ch m p s).1 ≤ p + m
  | 0, p, s => ⟨Nat.le_refl _, Nat.le_refl _⟩
  | m + 1, p, s => by
    unfold gRun
    cases gStep T P fr root Df (ch p) p s with
    | none => exact ⟨Nat.le_refl _, by show p ≤ p + (m + 1); omega⟩
    | some s' =>
      have := gRun_ge m (p + 1) s'
      dsimp only
      omega
theorem gRun_s (h : gStep T P fr root Df (ch p) p s = some s') (m : Nat) : gRun T P fr root Df ch (m + 1) p s = gRun T P fr root Df ch m (p + 1) s' := by
  conv => lhs; unfold gRun
  rw [h]
theorem gRun_n (h : gStep T P fr root Df (ch p) p s = none) (m : Nat) : gRun T P fr root Df ch (m + 1) p s = (p, s) := by
  conv => lhs; unfold gRun
  rw [h]
/-- what was not free doesn't ask for the choice -/
theorem TOK.kinds {w : Int} (hP : TOK w P) (hp : (p : Int) < P 0 2) : P 2 p = 0 ∨ P 2 p = 1 ∨ P 2 p = 2 ∨ P 2 p = 3 := by
  rcases hP.2.2.1 p hp with z | z | z
  · exact Or.inl z.1
  · rcases z.1 with y | y
    · exact Or.inr (Or.inl y)
    · exact Or.inr (Or.inr (Or.inl y))
  · exact Or.inr (Or.inr (Or.inr z.1))
theorem gRun_cg (hP : TOK 1 P) (hf : ∀ q : Nat, (q : Int) < P 0 2 → ((q : Int) = fr ∨ P 2 q = 3) → ch q = ch' q) : ∀ (m p : Nat) (s : IF), p + m = (P 0 2).toNat → gRun T P fr root Df ch m p s = gRun T P fr root Df ch' m p s
  | 0, p, s, _ => rfl
  | m + 1, p, s, h => by
    have hp : (p : Int) < P 0 2 := by omega
    have e : gStep T P fr root Df (ch p) p s = gStep T P fr root Df (ch' p) p s := by
      by_cases z : (p : Int) = fr ∨ P 2 p = 3
      · rw [hf p hp z]
      · exact gStep_nf (fun y => z (Or.inl y)) (fun y => z (Or.inr y)) (hP.kinds hp)
    unfold gRun
    rw [e]
    cases gStep T P fr root Df (ch' p) p s with
    | none => rfl
    | some s' => exact gRun_cg hP hf m (p + 1) s' (by omega)
/-- a run that fails at k or ahead of it fails there with a higher choice at k, too -/
theorem gRun_mono (hP : TOK 1 P) (hF : FRO P fr) {k : Nat} (hf : ∀ q : Nat, q < k → (q : Int) < P 0 2 → ((q : Int) = fr ∨ P 2 q = 3) → ch q = ch' q) (hk : ((k : Int) = fr ∨ P 2 k = 3) → 0 ≤ ch k ∧ ch k ≤ ch' k) : ∀ (m p : Nat) (s : IF), p + m = (P 0 2).toNat → (gRun T P fr root Df ch m p s).1 ≤ k → (gRun T P fr root Df ch m p s).1 < (P 0 2).toNat → (gRun T P fr root Df ch' m p s).1 = (gRun T P fr root Df ch m p s).1
  | 0, p, s, _, _, _ => rfl
  | m + 1, p, s, h, h1, h2 => by
    have hp : (p : Int) < P 0 2 := by omega
    have hge := gRun_ge (T := T) (P := P) (fr := fr) (root := root) (Df := Df) (ch := ch) (m + 1) p s
    by_cases hpk : p < k
    · have e : gStep T P fr root Df (ch p) p s = gStep T P fr root Df (ch' p) p s := by
        by_cases z : (p : Int) = fr ∨ P 2 p = 3
        · rw [hf p hpk hp z]
        · exact gStep_nf (fun y => z (Or.inl y)) (fun y => z (Or.inr y)) (hP.kinds hp)
      cases e2 : gStep T P fr root Df (ch p) p s with
      | none =>
        rw [gRun_n e2, gRun_n (e.symm.trans e2)]
      | some s' =>
        rw [gRun_s e2] at h1 h2 ⊢
        rw [gRun_s (e.symm.trans e2)]
        exact gRun_mono hP hF hf hk m (p + 1) s' (by omega) h1 h2
    · have hpe : p = k := by omega
      subst hpe
      cases e2 : gStep T P fr root Df (ch p) p s with
      | none =>
        rw [gRun_n e2]
        have e3 : gStep T P fr root Df (ch' p) p s = none := by
          by_cases z : (p : Int) = fr ∨ P 2 p = 3
          · exact gStep_mono hF hp z (hk z).1 (hk z).2 e2
          · rw [gStep_nf (c' := ch p) (fun y => z (Or.inl y)) (fun y => z (Or.inr y)) (hP.kinds hp)]
            exact e2
        rw [gRun_n e3]
      | some s' =>
        rw [gRun_s e2] at h1
        have := gRun_ge (T := T) (P := P) (fr := fr) (root := root) (Df := Df) (ch := ch) m (p + 1) s'
        omega
/-- who has passed a free piece had a choice below the text's count -/
theorem gRun_lt (hT : TOK 0 T) (hP : TOK 1 P) (hF : FRO P fr) (hD : (∀ l : Nat, ¬ Df l l) ∧ ∀ l o : Nat, Df l o → Df o l) (hr : 0 ≤ root ∧ root < T 0 2) (hc : ∀ q : Nat, 0 ≤ ch q) {k : Nat} (hkc : (k : Int) < P 0 2) (hk : (k : Int) = fr ∨ P 2 k = 3) :
    ∀ (m p : Nat) (s : IF), p + m = (P 0 2).toNat → GI T P Df p s → p ≤ k → k < (gRun T P fr root Df ch m p s).1 → ch k < T 0 2
  | 0, p, s, h, _, h1, h2 => by
    have : k < p := h2
    omega
  | m + 1, p, s, h, hG, h1, h2 => by
    have hp : (p : Int) < P 0 2 := by omega
    cases e2 : gStep T P fr root Df (ch p) p s with
    | none =>
      rw [gRun_n e2] at h2
      have : k < p := h2
      omega
    | some s' =>
      by_cases e : p = k
      · subst e
        exact gStep_lt hT hP hF hr hG hp hk e2
      · rw [gRun_s e2] at h2
        exact gRun_lt hT hP hF hD hr hc hkc hk m (p + 1) s' (by omega) (hG.step hT hP hF hD hp hr (hc p) e2) (by omega) h2
theorem gRun_GI (hT : TOK 0 T) (hP : TOK 1 P) (hF : FRO P fr) (hD : (∀ l : Nat, ¬ Df l l) ∧ ∀ l o : Nat, Df l o → Df o l) (hr : 0 ≤ root ∧ root < T 0 2) (hc : ∀ q : Nat, 0 ≤ ch q) :
    ∀ (m p : Nat) (s : IF), p + m = (P 0 2).toNat → GI T P Df p s → GI T P Df (gRun T P fr root Df ch m p s).1 (gRun T P fr root Df ch m p s).2
  | 0, p, s, _, hG => hG
  | m + 1, p, s, h, hG => by
    cases e2 : gStep T P fr root Df (ch p) p s with
    | none =>
      rw [gRun_n e2]
      exact hG
    | some s' =>
      rw [gRun_s e2]
      exact gRun_GI hT hP hF hD hr hc m (p + 1) s' (by omega) (hG.step hT hP hF hD (by omega) hr (hc p) e2)
/-- no free piece from here on -/
theorem gG_run (hP : TOK 1 P) : ∀ (m p : Nat) (s : IF), p + m = (P 0 2).toNat → (∀ q : Nat, p ≤ q → (q : Int) < P 0 2 → (q : Int) ≠ fr ∧ P 2 q ≠ 3) → gG T P fr root Df m p s = gOut (P 0 2).toNat (gRun T P fr root Df ch m p s)
  | 0, p, s, h, _ => by
    unfold gOut gG gRun
    rw [if_pos (by dsimp only; omega)]
  | m + 1, p, s, h, hn => by
    have hp : (p : Int) < P 0 2 := by omega
    have n1 := hn p (Nat.le_refl _) hp
    unfold gG
    rw [if_neg (fun z => z.elim n1.1 n1.2), gStep_nf (c' := ch p) n1.1 n1.2 (hP.kinds hp)]
    cases e2 : gStep T P fr root Df (ch p) p s with
    | none =>
      rw [gRun_n e2]
      unfold gOut
      rw [if_neg (by dsimp only; omega)]
      rfl
    | some s' =>
      rw [gRun_s e2]
      exact gG_run hP m (p + 1) s' (by omega) (fun q h1 h2 => hn q (by omega) h2)
/-- the later choice -/
noncomputable def gY (T P : IF) (fr root : Int) (Df : Nat → Nat → Prop) (early late u : Int) (m p : Nat) (s : IF) : Option IF :=
  if late < P 0 2 then fs (fun v => gOut (P 0 2).toNat (gRun T P fr root Df (chs early u v) m p s)) (T 0 2).toNat 0 else gOut (P 0 2).toNat (gRun T P fr root Df (chs early u 0) m p s)
theorem gY_n {early late u : Int} {m : Nat} (hpm : p + (m + 1) = (P 0 2).toNat) (h : ∀ v : Int, gStep T P fr root Df (chs early u v p) p s = none) : gY T P fr root Df early late u (m + 1) p s = none := by
  have o : gOut (P 0 2).toNat (p, s) = none := by
    unfold gOut
    rw [if_neg (by dsimp only; omega)]
  unfold gY
  split
  · exact fs_none _ _ (fun v _ _ => by rw [gRun_n (h v)]; exact o)
  · rw [gRun_n (h 0)]
    exact o
theorem gY_s {early late u : Int} {m : Nat} (h : ∀ v : Int, gStep T P fr root Df (chs early u v p) p s = some s') : gY T P fr root Df early late u (m + 1) p s = gY T P fr root Df early late u m (p + 1) s' := by
  unfold gY
  split
  · exact fs_cg _ _ (fun v _ _ => by rw [gRun_s (h v)])
  · rw [gRun_s (h 0)]
theorem gG_Y (hP : TOK 1 P) (hF : FRO P fr) (hDp : DPO P dp) {early late : Int} (he : early = min fr dp) (hl : late = max fr dp) (u : Int) : ∀ (m p : Nat) (s : IF), p + m = (P 0 2).toNat → early < p → (p : Int) ≤ late → gG T P fr root Df m p s = gY T P fr root Df early late u m p s
  | 0, p, s, h, h1, h2 => by
    have hle : late ≤ P 0 2 := by
      have := hF.1
      have := hDp.1
      omega
    unfold gY gOut gG gRun
    rw [if_neg (by omega), if_pos (by dsimp only; omega)]
  | m + 1, p, s, h, h1, h2 => by
    have hp : (p : Int) < P 0 2 := by omega
    by_cases e : (p : Int) = late
    · have hfree : (p : Int) = fr ∨ P 2 p = 3 := by
        rcases hDp.1 with z | z
        · have := hF.1
          left
          omega
        · by_cases y : (p : Int) = dp
          · right
            rw [show p = dp.toNat by omega]
            exact z.2.2
          · left
            omega
      unfold gG gY
      rw [if_pos hfree, if_pos (by omega)]
      refine fs_cg _ _ (fun v _ _ => ?_)
      have hch : chs early u v p = v := by unfold chs; rw [if_neg (by omega)]
      cases e2 : gStep T P fr root Df (v : Int) p s with
      | none =>
        rw [gRun_n (by rw [hch]; exact e2)]
        unfold gOut
        rw [if_neg (by dsimp only; omega)]
        rfl
      | some s' =>
        rw [gRun_s (by rw [hch]; exact e2)]
        exact gG_run hP m (p + 1) s' (by omega) (fun q h3 h4 => ⟨by omega, fun z => by have := hDp.2 q h4 z; omega⟩)
    · have n1 : (p : Int) ≠ fr := by omega
      have n2 : P 2 p ≠ 3 := fun z => by have := hDp.2 p hp z; omega
      have hch : ∀ v : Int, gStep T P fr root Df (chs early u v p) p s = gStep T P fr root Df 0 p s := fun v => gStep_nf n1 n2 (hP.kinds hp)
      unfold gG
      rw [if_neg (fun z => z.elim n1 n2)]
      cases e2 : gStep T P fr root Df 0 p s with
      | none => rw [gY_n h (fun v => (hch v).trans e2)]; rfl
      | some s' =>
        rw [gY_s (fun v => (hch v).trans e2)]
        exact gG_Y hP hF hDp he hl u m (p + 1) s' (by omega) (by omega) (by omega)
/-- the search is over both choices, the earlier one first -/
theorem gG_XY (hP : TOK 1 P) (hF : FRO P fr) (hDp : DPO P dp) {early late : Int} (he : early = min fr dp) (hl : late = max fr dp) (hlt : early < P 0 2) : ∀ (m p : Nat) (s : IF), p + m = (P 0 2).toNat → (p : Int) ≤ early → gG T P fr root Df m p s = fs (fun u => gY T P fr root Df early late u m p s) (T 0 2).toNat 0
  | 0, p, s, h, h1 => by omega
  | m + 1, p, s, h, h1 => by
    have hp : (p : Int) < P 0 2 := by omega
    by_cases e : (p : Int) = early
    · have hfree : (p : Int) = fr ∨ P 2 p = 3 := by
        rcases hDp.1 with z | z
        · have := hF.1
          left
          omega
        · by_cases y : (p : Int) = dp
          · right
            rw [show p = dp.toNat by omega]
            exact z.2.2
          · left
            omega
      unfold gG
      rw [if_pos hfree]
      refine fs_cg _ _ (fun u _ _ => ?_)
      have hch : ∀ v : Int, chs early u v p = u := fun v => by unfold chs; rw [if_pos e]
      cases e2 : gStep T P fr root Df (u : Int) p s with
      | none => rw [gY_n h (fun v => by rw [hch]; exact e2)]; rfl
      | some s' =>
        rw [gY_s (fun v => by rw [hch]; exact e2)]
        show gG T P fr root Df m (p + 1) s' = _
        by_cases hn : early = late
        · exfalso
          have g1 := hF.1
          have g2 := hDp.1
          have e3 : fr = dp := by omega
          rcases g1 with z | z
          · omega
          · rcases g2 with y | y
            · omega
            · rw [e3] at z
              omega
        · by_cases hpl : ((p + 1 : Nat) : Int) ≤ late
          · exact gG_Y hP hF hDp he hl u m (p + 1) s' (by omega) (by omega) hpl
          · omega
    · have n1 : (p : Int) ≠ fr := by omega
      have n2 : P 2 p ≠ 3 := fun z => by have := hDp.2 p hp z; omega
      have hch : ∀ u v : Int, gStep T P fr root Df (chs early u v p) p s = gStep T P fr root Df 0 p s := fun u v => gStep_nf n1 n2 (hP.kinds hp)
      unfold gG
      rw [if_neg (fun z => z.elim n1 n2)]
      cases e2 : gStep T P fr root Df 0 p s with
      | none =>
        rw [fs_none _ _ (fun u _ _ => gY_n h (fun v => (hch u v).trans e2))]
        rfl
      | some s' =>
        rw [fs_cg _ _ (fun u _ _ => gY_s (fun v => (hch u v).trans e2))]
        exact gG_XY hP hF hDp he hl hlt m (p + 1) s' (by omega) (by omega)
end SRC
