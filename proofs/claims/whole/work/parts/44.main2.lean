/-! ===== matching: both ways are one (the rows) ===== -/
section MN2
variable {T P s s' σ σ' : IF} {fr dp root : Int} {Df : Nat → Nat → Prop} {ks : List Tk} {p : Nat}
theorem P7_sum (hP : TOK 1 P) (hp : (p : Int) < P 0 2) (hk : P 2 p = 0) (h7 : P 7 p ≠ -1) : sgR P p (p + 1) + rwR P p (p + 1) = P 7 p := by
  have e7 := hP.p7 hp hk
  have e8 := nc_sw (P := P) (a := (p : Int)) (by omega) (P 0 2).toNat
  have e9 := nc_sw (P := P) (a := (p : Int)) (by omega) (p + 1)
  have e10 : ncI (P 6) p (p + 1) = 0 := ncI_zero (fun q hq => by have := hP.2.1.2.1 q (by omega); omega)
  have hK := hP.2.2.1 p hp
  have h0 : 0 ≤ P 7 p := by rcases hK with z | z | z <;> omega
  unfold sgR rwR
  omega
/-- letters that have no first piece at p -/
theorem SG.mv2 (hP : TOK 1 P) (h : SG T P p s σ) (hn : ∀ l : Nat, l < 26 → P 10 l ≠ p) (e : ∀ q : Nat, q < p → s' 0 q = s 0 q ∧ s' 1 q = s 1 q) : SG T P ((p + 1 : Nat) : Int) s' σ := by
  intro l hl
  have hl10 := hP.2.2.2.2.2.1.2.1 l hl
  have hne := hn l hl
  obtain ⟨h1, h2, h3⟩ := h l hl
  refine ⟨fun z => h1 (by omega), fun z1 z2 z3 => ?_, fun z1 z2 z3 => ?_⟩
  · rw [(e (P 10 l).toNat (by omega)).1]
    exact h2 z1 (by omega) z3
  · rw [(e (P 10 l).toNat (by omega)).1, (e (P 10 l).toNat (by omega)).2]
    exact h3 z1 (by omega) z3
/-- a letter gets its first piece -/
theorem SG.new (hP : TOK 1 P) (h : SG T P p s σ) (hp : (p : Int) < P 0 2) (hk : P 2 p = 1 ∨ P 2 p = 2) (hf : P 10 (P 9 p).toNat = p) (e : ∀ q : Nat, q < p → s' 0 q = s 0 q ∧ s' 1 q = s 1 q)
    (ho : ∀ o a : Nat, o ≠ (P 9 p).toNat → 141 ≤ a → a ≤ 145 → σ' a o = σ a o)
    (h1 : P 2 p = 1 → σ' 141 (P 9 p).toNat = s' 0 p ∧ σ' 143 (P 9 p).toNat = -1)
    (h2 : P 2 p = 2 → σ' 141 (P 9 p).toNat = -1 ∧ σ' 143 (P 9 p).toNat = s' 1 p ∧ σ' 142 (P 9 p).toNat = s' 0 p ∧ (0 ≤ σ' 144 (P 9 p).toNat ∧ σ' 144 (P 9 p).toNat < T 0 2) ∧ 0 ≤ σ' 145 (P 9 p).toNat ∧ σ' 145 (P 9 p).toNat + s' 1 p ≤ T 7 (σ' 144 (P 9 p).toNat).toNat ∧ (0 < s' 1 p → s' 0 p = tmI (T 8) (σ' 144 (P 9 p).toNat) (σ' 145 (P 9 p).toNat).toNat)) : SG T P ((p + 1 : Nat) : Int) s' σ' := by
  intro l hl
  obtain ⟨b1, b2, b3, b4, b5⟩ := hP.l10 hp hk
  by_cases el : l = (P 9 p).toNat
  · rw [el, hf, Int.toNat_natCast]
    exact ⟨fun z => by omega, fun _ _ z => h1 z, fun _ _ z => h2 z⟩
  · have hne : P 10 l ≠ p := fun z => el (b5 l hl z)
    have hl10 := hP.2.2.2.2.2.1.2.1 l hl
    obtain ⟨g1, g2, g3⟩ := h l hl
    rw [ho l 141 el (by decide) (by decide), ho l 142 el (by decide) (by decide), ho l 143 el (by decide) (by decide), ho l 144 el (by decide) (by decide), ho l 145 el (by decide) (by decide)]
    refine ⟨fun z => g1 (by omega), fun z1 z2 z3 => ?_, fun z1 z2 z3 => ?_⟩
    · rw [(e (P 10 l).toNat (by omega)).1]
      exact g2 z1 (by omega) z3
    · rw [(e (P 10 l).toNat (by omega)).1, (e (P 10 l).toNat (by omega)).2]
      exact g3 z1 (by omega) z3
theorem rBind_o {l o a : Nat} {k n j : Int} (h : o ≠ l) : rBind T σ l k n j a o = σ a o := by
  unfold rBind
  rw [mset_k _ _ h, mset_k _ _ h, mset_k _ _ h, mset_k _ _ h]
theorem rBind_v {l : Nat} {k n j : Int} : rBind T σ l k n j 143 l = k ∧ rBind T σ l k n j 144 l = n ∧ rBind T σ l k n j 145 l = j ∧ rBind T σ l k n j 142 l = (if k = 0 then -1 else tmI (T 8) n j.toNat) := by
  unfold rBind
  refine ⟨?_, ?_, ?_, mset_s _ _ _ _⟩
  · rw [mset_a _ _ (by decide), mset_a _ _ (by decide), mset_a _ _ (by decide), mset_s]
  · rw [mset_a _ _ (by decide), mset_a _ _ (by decide), mset_s]
  · rw [mset_a _ _ (by decide), mset_s]
/-- the induction's two claims -/
def MS (T P : IF) (fr root : Int) (Df : Nat → Nat → Prop) (f : Nat) : Prop := ∀ (p m : Nat) (s : IF) (ks : List Tk) (σ : IF), p + m = (P 0 2).toNat → GI T P Df p s → WS T P p p ks → KR T P s ks → SG T P p s σ → 3 * m + ks.length + 1 ≤ f → Rl T P (dD T P Df f ks σ) (gG T P fr root Df m p s)
def MW (T P : IF) (fr root : Int) (Df : Nat → Nat → Prop) (f : Nat) : Prop := ∀ (p m : Nat) (s : IF) (ks : List Tk) (σ : IF), p + m = (P 0 2).toNat → (p : Int) < P 0 2 → P 2 p ≠ 2 → GI T P Df p s → WS T P (p + P 8 p) p ks → KR T P (gPut p (gSeat T P root p s).1 (gSeat T P root p s).2) ks → SG T P p s σ → 3 * m + ks.length ≤ f → Rl T P (dD T P Df f ((p, -1, (gSeat T P root p s).1, 0) :: ks) σ) (gG T P fr root Df m p s)
/-- a row among a term's pieces -/
theorem main_row (hT : TOK 0 T) (hP : TOK 1 P) (hF : FRO P fr) {f : Nat} (ih : MS T P fr root Df f) {m : Nat} {a i n j : Int} {rest : List Tk} (hpm : p + (m + 1) = (P 0 2).toNat) (hG : GI T P Df p s) (hk : P 2 p = 2)
    (ha : 0 ≤ a ∧ a < P 0 2 ∧ P 2 a.toNat = 0) (hi : 0 ≤ i ∧ i ≠ max 0 (P 7 a.toNat)) (hp6 : P 6 p = a) (hnx : (p : Int) + P 8 p = tmI (P 8) a (i + 1).toNat) (hi1 : i + 1 ≤ ncI (P 6) a (P 0 2).toNat) (hpi : (p : Int) = tmI (P 8) a i.toNat)
    (hn : 0 ≤ n ∧ n < T 0 2) (hrest : WS T P (a + P 8 a.toNat) a rest) (hK : KR T P s ((a, i, n, j) :: rest)) (hS : SG T P p s σ) (hf : 3 * (m + 1) + (rest.length + 1) + 1 ≤ f + 1) :
    Rl T P (dD T P Df (f + 1) ((a, i, n, j) :: rest) σ) (gG T P fr root Df (m + 1) p s) := by
  have hp : (p : Int) < P 0 2 := by omega
  obtain ⟨⟨a1, a2, a3, a4⟩, ⟨b1, b2⟩, ⟨c1, c2, c3⟩, d1, d2⟩ := hG.row hT hP hp hk
  obtain ⟨q1, q2, q3, q4, q5⟩ := hP.l10 hp (Or.inr hk)
  have hsz := size_leaf hP hp (Or.inr hk)
  have hk1 := hK (a, i, n, j) List.mem_cons_self
  dsimp only at hk1
  rw [hp6] at a1 a2 a3 a4 b1 b2 c1 c2 c3 d2
  have hj : j = T 7 n.toNat - s 3 a.toNat := hk1.2.1 a4
  have hna : n = s 0 a.toNat := hk1.1
  rw [← hna] at b1 b2 c2 c3
  have htt : max 0 (T 7 n.toNat) = T 7 n.toNat := by omega
  have hgl := sgl_row hP hk
  rw [hp6] at hgl
  have t7n := hT.t7n (n := n.toNat) (by omega)
  -- how a choice goes on
  have go : ∀ (k : Int) (σx : IF), 0 ≤ k → k ≤ s 3 a.toNat - sgl P p → ((p : Int) = fr ∨ k = s 3 a.toNat - sgl P p) → SG T P ((p + 1 : Nat) : Int) (rSet T P p k s) σx → Rl T P (dD T P Df f ((a, i + 1, n, j + k) :: rest) σx) (gG T P fr root Df m (p + 1) (rSet T P p k s)) := by
    intro k σx k0 k1 k2 hSx
    obtain ⟨e0, e1, e2, e3⟩ := rSet_eff (T := T) (P := P) (p := p) (m := k) (s := s) (by omega)
    rw [hp6] at e2 e3
    refine ih (p + 1) m _ _ σx (by omega) (hG.rset hT hP hF hp hk ⟨k0, by rw [hp6]; exact k1⟩ (by rw [hp6]; exact k2)) ⟨⟨ha.1, ha.2.1, by omega, ha.2.2⟩, ⟨by omega, hi1, by rw [← hnx, hsz]; omega⟩, hn, ⟨by omega, by omega⟩, hrest⟩ ?_ hSx (by simp only [List.length_cons]; omega)
    intro x hx
    rcases List.mem_cons.mp hx with rfl | hx
    · dsimp only
      rw [(e0 a.toNat (by omega)).1, e3.2]
      exact ⟨hna, fun _ => by omega, fun z => absurd z a4⟩
    · have hl := WS.lt rest _ _ hrest x hx
      rw [(e0 x.1.toNat (by omega)).1, (e2 x.1.toNat (by omega)).2]
      exact hK x (List.mem_cons_of_mem _ hx)
  -- how a choice counts
  have cnt : ∀ (k : Nat) (σx τ : IF), dD T P Df f ((a, i + 1, n, j + k) :: rest) σx = some τ → (k : Int) ≤ s 3 a.toNat - sgl P p ∧ ((p : Int) ≠ fr → (k : Int) = s 3 a.toNat - sgl P p) := by
    intro k σx τ h
    have r := dD_cnt hP f (p + P 8 p) a (i + 1) n (j + k) rest σx ha ⟨by omega, hi1⟩ hnx (by omega) h
    rw [hsz, show ((p : Int) + 1).toNat = p + 1 by omega, htt] at r
    have nn := rwR_nn (P := P) (a := a) (p := p + 1) (by omega)
    refine ⟨?_, fun z => ?_⟩
    · by_cases y : rwR P a (p + 1) = 0
      · have := r.2 y
        omega
      · have := r.1 (by omega)
        omega
    · have y := hF.2 p hp hk z
      rw [hp6] at y
      have := r.2 y
      omega
  have eff : ∀ k : Int, ∀ q : Nat, q < p → rSet T P p k s 0 q = s 0 q ∧ rSet T P p k s 1 q = s 1 q := fun k q hq => (rSet_eff (T := T) (P := P) (p := p) (m := k) (s := s) (by omega)).1 q (by omega)
  have new : P 10 (P 9 p).toNat = p → ∀ k : Int, 0 ≤ k → k ≤ s 3 a.toNat - sgl P p → SG T P ((p + 1 : Nat) : Int) (rSet T P p k s) (rBind T σ (P 9 p).toNat k n j) := by
    intro hf0 k k0 k1
    obtain ⟨e0, e1, e2, e3⟩ := rSet_eff (T := T) (P := P) (p := p) (m := k) (s := s) (by omega)
    obtain ⟨v1, v2, v3, v4⟩ := rBind_v (T := T) (σ := σ) (l := (P 9 p).toNat) (k := k) (n := n) (j := j)
    rw [hp6] at e1
    refine hS.new hP hp (Or.inr hk) hf0 (eff k) (fun o x ho _ _ => rBind_o ho) (fun z => by omega) (fun _ => ⟨?_, ?_, ?_, ?_, ?_, ?_, fun z => ?_⟩)
    · rw [rBind_141]
      exact ((hS (P 9 p).toNat (by omega)).1 (Or.inr (by omega))).1
    · rw [v1, e1.2]
    · rw [v4, e1.1, hj]
      split
      · rfl
      · rw [c3]
    · rw [v2]; exact hn
    · rw [v3]; omega
    · rw [v3, v2, e1.2]; omega
    · rw [v3, v2, e1.1, hj]
      rw [e1.2] at z
      rw [if_neg (by omega), c3]
  have hpi' : (tmI (P 8) a i.toNat).toNat = p := by omega
  unfold dD
  rw [if_neg (by omega), if_neg hi.2, hpi', if_pos hk, htt, show T 7 n.toNat - j + 1 = s 3 a.toNat + 1 by omega]
  by_cases hfr : (p : Int) = fr
  · have hf0 : P 10 (P 9 p).toNat = p := by
      rcases hF.1 with z | ⟨z1, z2, z3, z4, z5⟩
      · omega
      · rw [← hfr, Int.toNat_natCast] at z4
        exact z4
    have hb := ((hS (P 9 p).toNat (by omega)).1 (Or.inr (by omega))).2
    rw [if_pos hb]
    unfold gG
    rw [if_pos (Or.inl hfr)]
    have gs : ∀ k : Nat, gStep T P fr root Df k p s = cif ((k : Int) ≤ s 3 a.toNat - sgl P p) (some (rSet T P p k s)) none := fun k => by
      unfold gStep gRow
      have r1 : rMany P fr p k s = k := by unfold rMany; rw [if_pos hfr]
      rw [if_pos hk, r1, hp6]
      by_cases z : (k : Int) ≤ s 3 a.toNat - sgl P p
      · rw [cif_t z, cif_t ⟨by omega, z, Or.inl hf0⟩]
      · rw [cif_f z, cif_f (fun y => z y.2.1)]
    rw [fs_ext (s 3 a.toNat + 1).toNat (T 0 2).toNat 0 (by omega) (fun k k1 k2 => by rw [gs k, cif_f (by omega)]; rfl)]
    refine fs_rel _ _ (fun k k1 k2 => ?_)
    rw [gs k]
    by_cases z : (k : Int) ≤ s 3 a.toNat - sgl P p
    · rw [cif_t z]
      exact go k _ (by omega) z (Or.inl hfr) (new hf0 k (by omega) z)
    · rw [cif_f z]
      refine ⟨fun _ => ?_, fun s' y => (by cases y)⟩
      cases e : dD T P Df f ((a, i + 1, n, j + k) :: rest) (rBind T σ (P 9 p).toNat k n j) with
      | none => rfl
      | some τ => exact absurd (cnt k _ τ e).1 z
  · have hdp : ¬ ((p : Int) = fr ∨ P 2 p = 3) := fun z => z.elim hfr (by omega)
    unfold gG
    rw [if_neg hdp]
    have r1 : rMany P fr p 0 s = s 3 a.toNat - sgl P p := by unfold rMany; rw [if_neg hfr, hp6]
    obtain ⟨k0, hk0⟩ : ∃ k0 : Nat, (k0 : Int) = s 3 a.toNat - sgl P p := ⟨(s 3 a.toNat - sgl P p).toNat, by omega⟩
    by_cases hf0 : P 10 (P 9 p).toNat = p
    · have hb := ((hS (P 9 p).toNat (by omega)).1 (Or.inr (by omega))).2
      rw [if_pos hb]
      have gs : gStep T P fr root Df 0 p s = some (rSet T P p k0 s) := by
        unfold gStep gRow
        rw [if_pos hk, r1, hp6, cif_t ⟨by omega, by omega, Or.inl hf0⟩, hk0]
      rw [gs, fs_only (k0 := k0) (fun k k1 k2 => ?_) (by omega)]
      · exact go k0 _ (by omega) (by omega) (Or.inr hk0) (new hf0 k0 (by omega) (by omega))
      · cases e : dD T P Df f ((a, i + 1, n, j + k) :: rest) (rBind T σ (P 9 p).toNat k n j) with
        | none => rfl
        | some τ =>
          have := (cnt k _ τ e).2 hfr
          omega
    · have hlt : P 10 (P 9 p).toNat < p := by omega
      have sg3 := (hS (P 9 p).toNat (by omega)).2.2 (by omega) hlt (by rw [q4]; exact hk)
      obtain ⟨g1, g2, g3, g4, g5, g6, g7⟩ := sg3
      have gq := hG.2.2.2.1 (P 10 (P 9 p).toNat).toNat (by omega) (by rw [q4]; exact hk)
      rw [if_neg (by omega)]
      obtain ⟨e0, e1, e2, e3⟩ := rSet_eff (T := T) (P := P) (p := p) (m := (k0 : Int)) (s := s) (by omega)
      rw [hp6] at e1
      have ef := e0 (P 10 (P 9 p).toNat).toNat (by omega)
      have hrow : RowL T σ (P 9 p).toNat n j k0 ↔ RowA T (rSet T P p k0 s) (P 10 (P 9 p).toNat).toNat p := by
        unfold RowL RowA
        rw [ef.1, ef.2, e1.1, e1.2, g2]
        refine ⟨fun z => ⟨z.1, fun x hx => ?_⟩, fun z => ⟨z.1, fun x hx => ?_⟩⟩
        · have y := z.2 x (by omega)
          rw [g7 (by omega), if_neg (by omega), c3, tm_adv, tm_adv]
          rw [show (σ 145 (P 9 p).toNat + x).toNat = (σ 145 (P 9 p).toNat).toNat + x by omega, hj, show (T 7 n.toNat - s 3 a.toNat + x).toNat = (T 7 n.toNat - s 3 a.toNat).toNat + x by omega] at y
          exact y
        · have y := z.2 x (by omega)
          rw [g7 (by omega), if_neg (by omega), c3, tm_adv, tm_adv] at y
          rw [show (σ 145 (P 9 p).toNat + x).toNat = (σ 145 (P 9 p).toNat).toNat + x by omega, hj, show (T 7 n.toNat - s 3 a.toNat + x).toNat = (T 7 n.toNat - s 3 a.toNat).toNat + x by omega]
          exact y
      rw [fs_only (k0 := k0) (fun k k1 k2 => ?_) (by omega)]
      · by_cases hr : RowL T σ (P 9 p).toNat n j k0
        · have gs : gStep T P fr root Df 0 p s = some (rSet T P p k0 s) := by
            unfold gStep gRow
            rw [if_pos hk, r1, hp6, ← hk0, cif_t ⟨by omega, by omega, Or.inr (hrow.mp hr)⟩]
          rw [gs, cif_t hr]
          exact go k0 σ (by omega) (by omega) (Or.inr hk0) (hS.mv2 hP (fun l hl z => hf0 (by rw [← q5 l hl z]; exact z)) (eff k0))
        · have gs : gStep T P fr root Df 0 p s = none := by
            unfold gStep gRow
            rw [if_pos hk, r1, hp6, ← hk0, cif_f (fun z => z.2.2.elim hf0 (fun y => hr (hrow.mpr y)))]
          rw [gs, cif_f hr]
          exact Rl.nn
      · cases e : cif (RowL T σ (P 9 p).toNat n j k) (dD T P Df f ((a, i + 1, n, j + k) :: rest) σ) none with
        | none => rfl
        | some τ =>
          have := (cnt k _ τ (cif_n e).2).2 hfr
          omega
end MN2
