/-! ===== matching: the class's tries, one after the other ===== -/
theorem fs_at {α : Type} {F : Nat → Option α} {x : α} : ∀ (n c k : Nat), c ≤ k → k < c + n → (∀ j : Nat, c ≤ j → j < k → F j = none) → F k = some x → fs F n c = some x
  | 0, c, k, h1, h2, _, _ => by omega
  | n + 1, c, k, h1, h2, h3, h4 => by
    by_cases e : c = k
    · rw [e]
      exact fs_s h4
    · rw [fs_n (h3 c (Nat.le_refl _) (by omega))]
      exact fs_at n (c + 1) k (by omega) (by omega) (fun j a b => h3 j (by omega) b) h4
def s00 : IF := fun _ _ => 0
/-- how the pattern matches, if it does -/
noncomputable def WAY (T P : IF) (fr : Int) (Df : Nat → Nat → Prop) (root : Int) : Option IF := gG T P fr root Df (P 0 2).toNat 0 s00
/-- one try -/
noncomputable def fR (T P : IF) (fr dp : Int) (Df : Nat → Nat → Prop) (root : Int) (u v : Nat) : Nat × IF := gRun T P fr root Df (chs (min fr dp) u v) (P 0 2).toNat 0 s00
/-- all tries ahead of this one have failed -/
def LI (T P : IF) (fr dp : Int) (Df : Nat → Nat → Prop) (root : Int) (u v : Nat) : Prop :=
  (∀ u' : Nat, u' < u → gY T P fr root Df (min fr dp) (max fr dp) u' (P 0 2).toNat 0 s00 = none) ∧ (∀ v' : Nat, v' < v → gOut (P 0 2).toNat (fR T P fr dp Df root u v') = none)
section WYS
variable {T P : IF} {fr dp root : Int} {Df : Nat → Nat → Prop} {u v : Nat}
theorem chs_nn {e : Int} (u v q : Nat) : 0 ≤ chs e u v q := by
  unfold chs
  split <;> omega
theorem way_found (hT : TOK 0 T) (hP : TOK 1 P) (hF : FRO P fr) (hDp : DPO P dp) (hD : (∀ l : Nat, ¬ Df l l) ∧ ∀ l o : Nat, Df l o → Df o l) (hr : 0 ≤ root ∧ root < T 0 2)
    (hL : LI T P fr dp Df root u v) (hv : max fr dp = P 0 2 → v = 0) (hu : min fr dp = P 0 2 → u = 0) (h : (fR T P fr dp Df root u v).1 = (P 0 2).toNat) : WAY T P fr Df root = some (fR T P fr dp Df root u v).2 := by
  have hc := hP.1.2.1
  have f1 := hF.1
  have d1 := hDp.1
  have ho : gOut (P 0 2).toNat (fR T P fr dp Df root u v) = some (fR T P fr dp Df root u v).2 := by
    unfold gOut
    rw [if_pos h]
  by_cases he : min fr dp = P 0 2
  · rw [hu he, hv (by omega)] at ho ⊢
    unfold WAY
    rw [gG_run (ch := chs (min fr dp) ((0 : Nat) : Int) ((0 : Nat) : Int)) hP _ 0 s00 (by omega) (fun q _ hq => ⟨by omega, fun z => by have := hDp.2 q hq z; omega⟩)]
    exact ho
  · have hel : min fr dp < P 0 2 := by omega
    have hef : ((min fr dp).toNat : Int) = fr ∨ P 2 (min fr dp).toNat = 3 := by
      rcases d1 with z | z
      · left; omega
      · by_cases y : min fr dp = dp
        · right; rw [y]; exact z.2.2
        · left; omega
    have hmn : 0 ≤ min fr dp := by omega
    have l1 := gRun_lt hT hP hF hD hr (ch := chs (min fr dp) u v) (chs_nn u v) (k := (min fr dp).toNat) (by omega) hef (P 0 2).toNat 0 s00 (by omega) (GI.zero hP) (by omega) (by
      have h' : (gRun T P fr root Df (chs (min fr dp) u v) (P 0 2).toNat 0 s00).1 = (P 0 2).toNat := h
      omega)
    have e1 : chs (min fr dp) u v (min fr dp).toNat = u := by unfold chs; rw [if_pos (by omega)]
    rw [e1] at l1
    unfold WAY
    rw [gG_XY hP hF hDp rfl rfl hel _ 0 s00 (by omega) (by omega)]
    refine fs_at _ 0 u (by omega) (by omega) (fun j _ hj => hL.1 j hj) ?_
    unfold gY
    by_cases hl : max fr dp < P 0 2
    · rw [if_pos hl]
      have hlf : ((max fr dp).toNat : Int) = fr ∨ P 2 (max fr dp).toNat = 3 := by
        rcases d1 with z | z
        · left; omega
        · by_cases y : max fr dp = dp
          · right; rw [y]; exact z.2.2
          · left; omega
      have l2 := gRun_lt hT hP hF hD hr (ch := chs (min fr dp) u v) (chs_nn u v) (k := (max fr dp).toNat) (by omega) hlf (P 0 2).toNat 0 s00 (by omega) (GI.zero hP) (by omega) (by
        have h' : (gRun T P fr root Df (chs (min fr dp) u v) (P 0 2).toNat 0 s00).1 = (P 0 2).toNat := h
        omega)
      have hne : min fr dp ≠ max fr dp := fun z => by
        have z' : fr = dp := by omega
        rcases f1 with y | y
        · omega
        · rcases d1 with x | x
          · omega
          · rw [z'] at y
            omega
      have e2 : chs (min fr dp) u v (max fr dp).toNat = v := by unfold chs; rw [if_neg (by omega)]
      rw [e2] at l2
      exact fs_at _ 0 v (by omega) (by omega) (fun j _ hj => hL.2 j hj) ho
    · rw [if_neg hl]
      have : v = 0 := hv (by omega)
      subst this
      exact ho
/-- the later choice goes up -/
theorem way_late (hT : TOK 0 T) (hP : TOK 1 P) (hF : FRO P fr) (hDp : DPO P dp) (hD : (∀ l : Nat, ¬ Df l l) ∧ ∀ l o : Nat, Df l o → Df o l) (hr : 0 ≤ root ∧ root < T 0 2)
    (hL : LI T P fr dp Df root u v) (h1 : max fr dp < (fR T P fr dp Df root u v).1) (h2 : (fR T P fr dp Df root u v).1 < (P 0 2).toNat) : LI T P fr dp Df root u (v + 1) ∧ (v : Int) + 1 ≤ T 0 2 ∧ max fr dp < P 0 2 := by
  have f1 := hF.1
  have d1 := hDp.1
  have hl : max fr dp < P 0 2 := by omega
  have hlf : ((max fr dp).toNat : Int) = fr ∨ P 2 (max fr dp).toNat = 3 := by
    rcases d1 with z | z
    · left; omega
    · by_cases y : max fr dp = dp
      · right; rw [y]; exact z.2.2
      · left; omega
  have l2 := gRun_lt hT hP hF hD hr (ch := chs (min fr dp) u v) (chs_nn u v) (k := (max fr dp).toNat) (by omega) hlf (P 0 2).toNat 0 s00 (by omega) (GI.zero hP) (by omega) (by
    have h' : max fr dp < (gRun T P fr root Df (chs (min fr dp) u v) (P 0 2).toNat 0 s00).1 := h1
    omega)
  have hne : min fr dp ≠ max fr dp := fun z => by
    have z' : fr = dp := by omega
    rcases f1 with y | y
    · omega
    · rcases d1 with x | x
      · omega
      · rw [z'] at y
        omega
  have e2 : chs (min fr dp) u v (max fr dp).toNat = v := by unfold chs; rw [if_neg (by omega)]
  rw [e2] at l2
  refine ⟨⟨hL.1, fun v' hv' => ?_⟩, by omega, hl⟩
  by_cases e : v' = v
  · rw [e]
    unfold gOut
    rw [if_neg (by omega)]
  · exact hL.2 v' (by omega)
/-- the earlier choice goes up -/
theorem way_early (hT : TOK 0 T) (hP : TOK 1 P) (hF : FRO P fr) (hDp : DPO P dp) (hD : (∀ l : Nat, ¬ Df l l) ∧ ∀ l o : Nat, Df l o → Df o l) (hr : 0 ≤ root ∧ root < T 0 2)
    (hL : LI T P fr dp Df root u v) (hv : max fr dp = P 0 2 → v = 0) (h1 : min fr dp < (fR T P fr dp Df root u v).1) (h3 : (fR T P fr dp Df root u v).1 ≤ max fr dp) (h2 : (fR T P fr dp Df root u v).1 < (P 0 2).toNat) : LI T P fr dp Df root (u + 1) 0 ∧ (u : Int) + 1 ≤ T 0 2 ∧ min fr dp < P 0 2 := by
  have f1 := hF.1
  have d1 := hDp.1
  have hel : min fr dp < P 0 2 := by omega
  have hef : ((min fr dp).toNat : Int) = fr ∨ P 2 (min fr dp).toNat = 3 := by
    rcases d1 with z | z
    · left; omega
    · by_cases y : min fr dp = dp
      · right; rw [y]; exact z.2.2
      · left; omega
  have l1 := gRun_lt hT hP hF hD hr (ch := chs (min fr dp) u v) (chs_nn u v) (k := (min fr dp).toNat) (by omega) hef (P 0 2).toNat 0 s00 (by omega) (GI.zero hP) (by omega) (by
    have h' : min fr dp < (gRun T P fr root Df (chs (min fr dp) u v) (P 0 2).toNat 0 s00).1 := h1
    omega)
  have e1 : chs (min fr dp) u v (min fr dp).toNat = u := by unfold chs; rw [if_pos (by omega)]
  rw [e1] at l1
  refine ⟨⟨fun u' hu' => ?_, fun v' hv' => by omega⟩, by omega, hel⟩
  by_cases e : u' = u
  · rw [e]
    unfold gY
    have on : gOut (P 0 2).toNat (fR T P fr dp Df root u v) = none := by
      unfold gOut
      rw [if_neg (by omega)]
    by_cases hl : max fr dp < P 0 2
    · rw [if_pos hl]
      refine fs_none _ _ (fun v' _ _ => ?_)
      by_cases e2 : v' < v
      · exact hL.2 v' e2
      · have m := gRun_mono (T := T) (root := root) (Df := Df) (ch := chs (min fr dp) u v) (ch' := chs (min fr dp) u v') hP hF (k := (max fr dp).toNat) (fun q h4 h5 h6 => by
            unfold chs
            by_cases e3 : (q : Int) = min fr dp
            · rw [if_pos e3, if_pos e3]
            · exfalso
              rcases h6 with z | z
              · omega
              · have := hDp.2 q h5 z
                omega) (fun _ => ⟨chs_nn u v _, by unfold chs; split <;> omega⟩) (P 0 2).toNat 0 s00 (by omega) (by
            have h' : (gRun T P fr root Df (chs (min fr dp) u v) (P 0 2).toNat 0 s00).1 ≤ max fr dp := h3
            omega) h2
        unfold gOut
        rw [if_neg]
        rw [m]
        have h' : (gRun T P fr root Df (chs (min fr dp) u v) (P 0 2).toNat 0 s00).1 < (P 0 2).toNat := h2
        omega
    · rw [if_neg hl]
      have : v = 0 := hv (by omega)
      subst this
      exact on
  · exact hL.1 u' (by omega)
/-- nothing is left to try -/
theorem way_none (hT : TOK 0 T) (hP : TOK 1 P) (hF : FRO P fr) (hDp : DPO P dp) (hL : LI T P fr dp Df root u v) (hv : max fr dp = P 0 2 → v = 0) (hu : min fr dp = P 0 2 → u = 0) (h3 : (fR T P fr dp Df root u v).1 ≤ min fr dp) (h2 : (fR T P fr dp Df root u v).1 < (P 0 2).toNat) : WAY T P fr Df root = none := by
  have hc := hP.1.2.1
  have f1 := hF.1
  have d1 := hDp.1
  have on : gOut (P 0 2).toNat (fR T P fr dp Df root u v) = none := by
    unfold gOut
    rw [if_neg (by omega)]
  by_cases he : min fr dp = P 0 2
  · rw [hu he, hv (by omega)] at on
    unfold WAY
    rw [gG_run (ch := chs (min fr dp) ((0 : Nat) : Int) ((0 : Nat) : Int)) hP _ 0 s00 (by omega) (fun q _ hq => ⟨by omega, fun z => by have := hDp.2 q hq z; omega⟩)]
    exact on
  · have hel : min fr dp < P 0 2 := by omega
    unfold WAY
    rw [gG_XY hP hF hDp rfl rfl hel _ 0 s00 (by omega) (by omega)]
    refine fs_none _ _ (fun u' _ _ => ?_)
    by_cases e : u' < u
    · exact hL.1 u' e
    · have m : ∀ v' : Int, (gRun T P fr root Df (chs (min fr dp) u' v') (P 0 2).toNat 0 s00).1 < (P 0 2).toNat := fun v' => by
        have g := gRun_mono (T := T) (root := root) (Df := Df) (ch := chs (min fr dp) u v) (ch' := chs (min fr dp) u' v') hP hF (k := (min fr dp).toNat) (fun q h4 h5 h6 => by
            exfalso
            rcases h6 with z | z
            · omega
            · have := hDp.2 q h5 z
              omega) (fun _ => ⟨chs_nn u v _, by unfold chs; rw [if_pos (by omega), if_pos (by omega)]; omega⟩) (P 0 2).toNat 0 s00 (by omega) (by
            have h' : (gRun T P fr root Df (chs (min fr dp) u v) (P 0 2).toNat 0 s00).1 ≤ min fr dp := h3
            omega) h2
        rw [g]
        exact h2
      unfold gY
      split
      · refine fs_none _ _ (fun v' _ _ => ?_)
        unfold gOut
        rw [if_neg (by have := m v'; omega)]
      · unfold gOut
        rw [if_neg (by have := m 0; omega)]
end WYS
