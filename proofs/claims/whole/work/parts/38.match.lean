/-! ===== matching: the class's way, on its own ===== -/
noncomputable def cif {α : Type} (P : Prop) (a b : α) : α := @ite α P (Classical.propDecidable P) a b
theorem cif_t {α : Type} {P : Prop} {a b : α} (h : P) : cif P a b = a := by unfold cif; rw [if_pos h]
theorem cif_f {α : Type} {P : Prop} {a b : α} (h : ¬ P) : cif P a b = b := by unfold cif; rw [if_neg h]
theorem cif_s {α : Type} {P : Prop} {a c : α} (h : cif P (some a) none = some c) : P ∧ a = c := by
  by_cases z : P
  · rw [cif_t z] at h; exact ⟨z, Option.some.inj h⟩
  · rw [cif_f z] at h; cases h
/-- the first success from c on, in n tries -/
def fs {α : Type} (F : Nat → Option α) : Nat → Nat → Option α
  | 0, _ => none
  | n + 1, c => match F c with
    | some x => some x
    | none => fs F n (c + 1)
theorem fs_s {α : Type} {F : Nat → Option α} {n c : Nat} {x : α} (h : F c = some x) : fs F (n + 1) c = some x := by unfold fs; rw [h]
theorem fs_n {α : Type} {F : Nat → Option α} {n c : Nat} (h : F c = none) : fs F (n + 1) c = fs F n (c + 1) := by conv => lhs; unfold fs; rw [h]
theorem fs_none {α : Type} {F : Nat → Option α} : ∀ (n c : Nat), (∀ k : Nat, c ≤ k → k < c + n → F k = none) → fs F n c = none
  | 0, _, _ => rfl
  | n + 1, c, h => by
    rw [fs_n (h c (Nat.le_refl _) (by omega))]
    exact fs_none n (c + 1) (fun k h1 h2 => h k (by omega) (by omega))
theorem fs_cg {α : Type} {F F' : Nat → Option α} : ∀ (n c : Nat), (∀ k : Nat, c ≤ k → k < c + n → F k = F' k) → fs F n c = fs F' n c
  | 0, _, _ => rfl
  | n + 1, c, h => by
    unfold fs
    rw [h c (Nat.le_refl _) (by omega), fs_cg n (c + 1) (fun k h1 h2 => h k (by omega) (by omega))]
/-- further tries that fail change nothing -/
theorem fs_ext {α : Type} {F : Nat → Option α} : ∀ (n m c : Nat), n ≤ m → (∀ k : Nat, c + n ≤ k → k < c + m → F k = none) → fs F m c = fs F n c
  | 0, m, c, _, h => by
    rw [fs_none m c (fun k h1 h2 => h k (by omega) h2)]
    rfl
  | n + 1, m, c, hm, h => by
    obtain ⟨m, rfl⟩ : ∃ j, m = j + 1 := ⟨m - 1, by omega⟩
    unfold fs
    rw [fs_ext n m (c + 1) (by omega) (fun k h1 h2 => h k (by omega) (by omega))]
theorem fs_some {α : Type} {F : Nat → Option α} {x : α} : ∀ (n c : Nat), fs F n c = some x → ∃ k : Nat, c ≤ k ∧ k < c + n ∧ F k = some x
  | 0, _, h => by cases h
  | n + 1, c, h => by
    cases e : F c with
    | some y =>
      rw [fs_s e] at h
      exact ⟨c, Nat.le_refl _, by omega, by rw [e, h]⟩
    | none =>
      rw [fs_n e] at h
      obtain ⟨k, k1, k2, k3⟩ := fs_some n (c + 1) h
      exact ⟨k, by omega, by omega, k3⟩
def fS (P : IF) : Nat → Int := fun q => if P 2 q = 2 then -2 else P 6 q
def fW (P : IF) : Nat → Int := fun q => if P 2 q = 2 then P 6 q else -2
/-- of a's terms from p on: how many take one node, how many are rows -/
def sgR (P : IF) (a : Int) (p : Nat) : Int := ncI (fS P) a (P 0 2).toNat - ncI (fS P) a p
def rwR (P : IF) (a : Int) (p : Nat) : Int := ncI (fW P) a (P 0 2).toNat - ncI (fW P) a p
def sgl (P : IF) (p : Nat) : Int := sgR P (if P 2 p = 2 then P 6 p else p) (p + 1)
section MTP
variable {T P : IF} {fr root : Int} {Df : Nat → Nat → Prop}
theorem nc_sw {a : Int} (ha : 0 ≤ a) : ∀ n : Nat, ncI (P 6) a n = ncI (fS P) a n + ncI (fW P) a n
  | 0 => rfl
  | n + 1 => by
    rw [ncI_succ, ncI_succ, ncI_succ, nc_sw ha n]
    unfold fS fW
    by_cases z : P 2 n = 2
    · rw [if_pos z, if_pos z, if_neg (show ¬ (-2 : Int) = a by omega)]
      omega
    · rw [if_neg z, if_neg z, if_neg (show ¬ (-2 : Int) = a by omega)]
      omega
theorem sgR_nn {a : Int} {p : Nat} (h : p ≤ (P 0 2).toNat) : 0 ≤ sgR P a p := by
  have := ncI_mono (f := fS P) (p := a) (x := p) _ h
  unfold sgR
  omega
theorem rwR_nn {a : Int} {p : Nat} (h : p ≤ (P 0 2).toNat) : 0 ≤ rwR P a p := by
  have := ncI_mono (f := fW P) (p := a) (x := p) _ h
  unfold rwR
  omega
theorem sgR_s {a : Int} {p : Nat} : sgR P a p = sgR P a (p + 1) + (if fS P p = a then 1 else 0) := by
  unfold sgR
  rw [ncI_succ]
  omega
theorem rwR_s {a : Int} {p : Nat} : rwR P a p = rwR P a (p + 1) + (if fW P p = a then 1 else 0) := by
  unfold rwR
  rw [ncI_succ]
  omega
/-- a row is like another one -/
def RowA (T s : IF) (f p : Nat) : Prop := s 1 f = s 1 p ∧ ∀ k : Nat, (k : Int) < s 1 f → T 11 (adv (T 8) k (s 0 f)).toNat = T 11 (adv (T 8) k (s 0 p)).toNat
/-- a hole takes this node -/
def HoF (T P : IF) (Df : Nat → Nat → Prop) (p : Nat) (n : Int) (s : IF) : Prop :=
  (P 10 (P 9 p).toNat ≠ p → T 11 (s 0 (P 10 (P 9 p).toNat).toNat).toNat = T 11 n.toNat) ∧
  (P 10 (P 9 p).toNat = p → ∀ o : Nat, o < 26 → Df (P 9 p).toNat o → P 10 o ≠ -1 → P 10 o < p → P 2 (P 10 o).toNat = 1 → T 11 (s 0 (P 10 o).toNat).toNat ≠ T 11 n.toNat)
/-- a term takes this node -/
def TeF (T P : IF) (p : Nat) (n : Int) : Prop := AtE T n.toNat P p ∧ ((T 7 n.toNat = -1 ∧ P 7 p = -1) ∨ (T 7 n.toNat ≠ -1 ∧ P 7 p ≠ -1 ∧ ((sgl P p < P 7 p ∧ sgl P p ≤ T 7 n.toNat) ∨ (P 7 p ≤ sgl P p ∧ T 7 n.toNat = P 7 p))))
noncomputable def gSeat (T P : IF) (root : Int) (p : Nat) (s : IF) : Int × IF :=
  if p = 0 then (root, s) else if P 2 (P 6 p).toNat = 3 then (s 2 (P 6 p).toNat, s)
  else (s 2 (P 6 p).toNat, mset (mset s 2 (P 6 p).toNat (s 2 (P 6 p).toNat + T 8 (s 2 (P 6 p).toNat).toNat)) 3 (P 6 p).toNat (s 3 (P 6 p).toNat - 1))
def gPut (p : Nat) (n : Int) (s : IF) : IF := mset (mset s 0 p n) 1 p 1
noncomputable def gFit (T P : IF) (Df : Nat → Nat → Prop) (p : Nat) (n : Int) (c : Int) (s : IF) : Option IF :=
  if P 2 p = 0 then cif (TeF T P p n) (some (if P 7 p = -1 then s else mset (mset s 2 p (n + 1)) 3 p (T 7 n.toNat))) none
  else if P 2 p = 1 then cif (HoF T P Df p n s) (some s) none
  else cif (c < T 8 n.toNat) (some (mset s 2 p (n + c))) none
def rMany (P : IF) (fr : Int) (p : Nat) (c : Int) (s : IF) : Int := if (p : Int) = fr then c else s 3 (P 6 p).toNat - sgl P p
def rSet (T P : IF) (p : Nat) (m : Int) (s : IF) : IF := mset (mset (mset (mset s 0 p (if m = 0 then -1 else s 2 (P 6 p).toNat)) 1 p m) 2 (P 6 p).toNat (adv (T 8) m.toNat (s 2 (P 6 p).toNat))) 3 (P 6 p).toNat (s 3 (P 6 p).toNat - m)
noncomputable def gRow (T P : IF) (fr : Int) (p : Nat) (c : Int) (s : IF) : Option IF :=
  cif (0 ≤ rMany P fr p c s ∧ rMany P fr p c s ≤ s 3 (P 6 p).toNat - sgl P p ∧ (P 10 (P 9 p).toNat = p ∨ RowA T (rSet T P p (rMany P fr p c s) s) (P 10 (P 9 p).toNat).toNat p)) (some (rSet T P p (rMany P fr p c s) s)) none
noncomputable def gStep (T P : IF) (fr root : Int) (Df : Nat → Nat → Prop) (c : Int) (p : Nat) (s : IF) : Option IF :=
  if P 2 p = 2 then gRow T P fr p c s else gFit T P Df p (gSeat T P root p s).1 c (gPut p (gSeat T P root p s).1 (gSeat T P root p s).2)
/-- the search, as the reference goes -/
noncomputable def gG (T P : IF) (fr root : Int) (Df : Nat → Nat → Prop) : Nat → Nat → IF → Option IF
  | 0, _, s => some s
  | m + 1, p, s => if (p : Int) = fr ∨ P 2 p = 3 then fs (fun c => (gStep T P fr root Df c p s).bind (gG T P fr root Df m (p + 1))) (T 0 2).toNat 0 else (gStep T P fr root Df 0 p s).bind (gG T P fr root Df m (p + 1))
/-- what can be chosen of rows -/
def FRO (P : IF) (fr : Int) : Prop := (fr = P 0 2 ∨ (0 ≤ fr ∧ fr < P 0 2 ∧ P 2 fr.toNat = 2 ∧ P 10 (P 9 fr.toNat).toNat = fr ∧ 0 < rwR P (P 6 fr.toNat) (fr.toNat + 1))) ∧ ∀ p : Nat, (p : Int) < P 0 2 → P 2 p = 2 → (p : Int) ≠ fr → rwR P (P 6 p) (p + 1) = 0
def CN (P s : IF) (a p : Nat) : Prop := (0 < rwR P a p → sgR P a p ≤ s 3 a) ∧ (rwR P a p = 0 → s 3 a = sgR P a p)
/-- what holds of the way so far, ahead of piece p -/
def GI (T P : IF) (Df : Nat → Nat → Prop) (p : Nat) (s : IF) : Prop :=
  (∀ q : Nat, q < p → P 2 q ≠ 2 → 0 ≤ s 0 q ∧ s 0 q < T 0 2 ∧ s 1 q = 1) ∧
  (∀ q : Nat, q < p → P 2 q = 0 → (P 7 q = -1 ∧ T 7 (s 0 q).toNat = -1) ∨ (P 7 q ≠ -1 ∧ 0 ≤ s 3 q ∧ s 3 q ≤ T 7 (s 0 q).toNat ∧ s 2 q = tmI (T 8) (s 0 q) (T 7 (s 0 q).toNat - s 3 q).toNat ∧ CN P s q p)) ∧
  (∀ q : Nat, q < p → P 2 q = 3 → s 0 q ≤ s 2 q ∧ s 2 q < s 0 q + T 8 (s 0 q).toNat) ∧
  (∀ q : Nat, q < p → P 2 q = 2 → 0 ≤ s 1 q ∧ (s 1 q = 0 → s 0 q = -1) ∧ ∃ j : Nat, j + s 1 q ≤ T 7 (s 0 (P 6 q).toNat).toNat ∧ (0 < s 1 q → s 0 q = tmI (T 8) (s 0 (P 6 q).toNat) j)) ∧
  (∀ l o : Nat, l < 26 → o < 26 → Df l o → P 10 l ≠ -1 → P 10 l < p → P 2 (P 10 l).toNat = 1 → P 10 o ≠ -1 → P 10 o < p → P 2 (P 10 o).toNat = 1 → T 11 (s 0 (P 10 l).toNat).toNat ≠ T 11 (s 0 (P 10 o).toNat).toNat)
theorem GI.zero {s : IF} (hP : TOK 1 P) : GI T P Df 0 s := by
  refine ⟨fun q h => by omega, fun q h => by omega, fun q h => by omega, fun q h => by omega, fun l o hl ho _ h1 h2 => ?_⟩
  have := hP.2.2.2.2.2.1.2.1 l hl
  omega
/-- a piece's parent -/
theorem TOK.par (hP : TOK 1 P) {p : Nat} (hp : (p : Int) < P 0 2) (h0 : p ≠ 0) : 0 ≤ P 6 p ∧ P 6 p < p ∧ (P 2 (P 6 p).toNat = 3 ∨ (P 2 (P 6 p).toNat = 0 ∧ 0 ≤ P 7 (P 6 p).toNat)) := by
  have h1 := hP.2.1.2.1 p hp
  have h2 : P 6 p ≠ -1 := fun z => h0 (h1.2.2 z)
  have h3 := hP.2.2.1 (P 6 p).toNat (by omega)
  have h4 : ncI (P 6) (P 6 p) (p + 1) = ncI (P 6) (P 6 p) p + 1 := by rw [ncI_succ, if_pos rfl]
  have h5 := ncI_nn (P 6) (P 6 p) p
  have h6 := ncI_mono (f := P 6) (p := P 6 p) (x := p + 1) (P 0 2).toNat (by omega)
  refine ⟨by omega, by omega, ?_⟩
  unfold KOk at h3
  rw [show (((P 6 p).toNat : Nat) : Int) = P 6 p by omega] at h3
  rcases h3 with ⟨z, y⟩ | ⟨z, y⟩ | ⟨z, y⟩
  · exact Or.inr ⟨z, by omega⟩
  · omega
  · exact Or.inl z
theorem sgR_pos (hP : TOK 1 P) {p : Nat} (hp : (p : Int) < P 0 2) (hk : P 2 p ≠ 2) : sgR P (P 6 p) p = sgR P (P 6 p) (p + 1) + 1 := by
  rw [sgR_s]
  unfold fS
  rw [if_neg hk, if_pos rfl]
theorem sgl_term (hP : TOK 1 P) {p : Nat} (hk : P 2 p ≠ 2) : sgl P p = sgR P p (p + 1) := by unfold sgl; rw [if_neg hk]
theorem sgl_row (hP : TOK 1 P) {p : Nat} (hk : P 2 p = 2) : sgl P p = sgR P (P 6 p) (p + 1) := by unfold sgl; rw [if_pos hk]
/-- a node's next term -/
theorem tm_next (hT : TOK 0 T) {n : Int} {k : Nat} : tmI (T 8) n k + T 8 (tmI (T 8) n k).toNat = tmI (T 8) n (k + 1) := (adv_s _ _ _).symm
theorem tm_adv {n : Int} {j k : Nat} : adv (T 8) k (tmI (T 8) n j) = tmI (T 8) n (j + k) := (adv_add _ _ _ _).symm
/-- what the seat of a piece is -/
theorem GI.seat (hT : TOK 0 T) (hP : TOK 1 P) {p : Nat} {s : IF} (h : GI T P Df p s) (hp : (p : Int) < P 0 2) (hk : P 2 p ≠ 2) (hr : 0 ≤ root ∧ root < T 0 2) :
    (0 ≤ (gSeat T P root p s).1 ∧ (gSeat T P root p s).1 < T 0 2) ∧ (p ≠ 0 → P 2 (P 6 p).toNat ≠ 3 → 0 < s 3 (P 6 p).toNat ∧ 0 ≤ s 2 (P 6 p).toNat ∧ s 2 (P 6 p).toNat < T 0 2 ∧ T 7 (s 0 (P 6 p).toNat).toNat - s 3 (P 6 p).toNat ≥ 0 ∧ s 2 (P 6 p).toNat = tmI (T 8) (s 0 (P 6 p).toNat) (T 7 (s 0 (P 6 p).toNat).toNat - s 3 (P 6 p).toNat).toNat ∧ P 2 (P 6 p).toNat = 0 ∧ P 7 (P 6 p).toNat ≠ -1) := by
  obtain ⟨g1, g2, g3, g4, g5⟩ := h
  by_cases h0 : p = 0
  · refine ⟨?_, fun z => absurd h0 z⟩
    unfold gSeat
    rw [if_pos h0]
    exact hr
  · obtain ⟨a1, a2, a3⟩ := hP.par hp h0
    have gk := g1 (P 6 p).toNat (by omega)
    by_cases hd : P 2 (P 6 p).toNat = 3
    · refine ⟨?_, fun _ z => absurd hd z⟩
      unfold gSeat
      rw [if_neg h0, if_pos hd]
      have := g3 (P 6 p).toNat (by omega) hd
      have gk := gk (by omega)
      have h8 := hT.2.1.2.2.1 (s 0 (P 6 p).toNat).toNat (by omega)
      dsimp only
      omega
    · have hz : P 2 (P 6 p).toNat = 0 := by omega
      have gk := gk (by omega)
      obtain ⟨q1, q2⟩ := a3.resolve_left hd
      rcases g2 (P 6 p).toNat (by omega) hz with y | ⟨y1, y2, y3, y4, y5⟩
      · omega
      · have hs : 0 < s 3 (P 6 p).toNat := by
          have e1 := sgR_pos hP hp hk
          have e2 := sgR_nn (P := P) (a := P 6 p) (p := p + 1) (by omega)
          have e3 := rwR_nn (P := P) (a := P 6 p) (p := p) (by omega)
          unfold CN at y5
          rw [show (((P 6 p).toNat : Nat) : Int) = P 6 p by omega] at y5
          by_cases e4 : rwR P (P 6 p) p = 0
          · have := y5.2 e4
            omega
          · have := y5.1 (by omega)
            omega
        have t1 := hT.t7t (p := (s 0 (P 6 p).toNat).toNat) (by omega) (k := (T 7 (s 0 (P 6 p).toNat).toNat - s 3 (P 6 p).toNat).toNat) (by omega)
        rw [show (((s 0 (P 6 p).toNat).toNat : Nat) : Int) = s 0 (P 6 p).toNat by omega, ← y4] at t1
        refine ⟨?_, fun _ _ => ⟨hs, by omega, by omega, by omega, y4, hz, y1⟩⟩
        unfold gSeat
        rw [if_neg h0, if_neg hd]
        dsimp only
        omega
end MTP
