/-! ===== what the letters stand for, on both sides ===== -/
def fnS (P s : IF) (l : Nat) : Int := if P 10 l = -1 then -1 else s 0 (P 10 l).toNat
def hmS (P s : IF) (l : Nat) : Int := if P 10 l = -1 then -1 else s 1 (P 10 l).toNat
def NonS (X P s : IF) (q : Nat) : Prop := (q : Int) < X 0 2 ∧ X 2 q = 2 ∧ hmS P s (X 9 q).toNat = 0
/-- every letter of the template is one of the pattern's, of the same kind -/
def LetOk (X P : IF) : Prop := ∀ q : Nat, (q : Int) < X 0 2 → (X 2 q = 1 ∨ X 2 q = 2) → P 10 (X 9 q).toNat ≠ -1 ∧ P 2 (P 10 (X 9 q).toNat).toNat = X 2 q
noncomputable def tpl (T P X s : IF) : List Int := tmpl X (NonS X P s) (fun l => sgf T (fnS P s l) (hmS P s l))
section LTS
variable {Γ : GX} {g : AG} {I J X K T P s Z : IF} {Df : Nat → Nat → Prop} {w : Int}
theorem NonS.nr : NR X (NonS X P s) := fun p h => ⟨h.1, h.2.1⟩
theorem tmI_adv {n : Int} {j k : Nat} : adv (T 8) k (tmI (T 8) n j) = tmI (T 8) n (j + k) := tm_adv
/-- where a letter of the template is seated -/
theorem let_seat (hP : TOK 1 P) (hX : TOK w X) (hO : LetOk X P) {q : Nat} (hq : (q : Int) < X 0 2) (hk : X 2 q = 1 ∨ X 2 q = 2) : 0 ≤ P 10 (X 9 q).toNat ∧ P 10 (X 9 q).toNat < P 0 2 ∧ P 2 (P 10 (X 9 q).toNat).toNat = X 2 q ∧ (0 ≤ X 9 q ∧ X 9 q < 26) := by
  have l9 := (let_p hX hq hk).1
  obtain ⟨o1, o2⟩ := hO q hq hk
  rcases hP.2.2.2.2.2.1.2.1 (X 9 q).toNat (by omega) with z | z
  · exact absurd z.1 o1
  · exact ⟨z.1, z.2.1, o2, l9⟩
theorem let_LF (hT : TOK 0 T) (hP : TOK 1 P) (hX : TOK w X) (hO : LetOk X P) (hG : GI T P Df (P 0 2).toNat s) {q : Nat} (hq : (q : Int) < X 0 2) (hk : X 2 q = 1 ∨ X 2 q = 2) (hn : ¬ NonS X P s q) :
    fnS P s (X 9 q).toNat ≠ -1 ∧ LF T (fnS P s (X 9 q).toNat) (hmS P s (X 9 q).toNat) := by
  obtain ⟨o1, o2, o3, o4⟩ := let_seat hP hX hO hq hk
  have ef : fnS P s (X 9 q).toNat = s 0 (P 10 (X 9 q).toNat).toNat := if_neg (by omega)
  have eh : hmS P s (X 9 q).toNat = s 1 (P 10 (X 9 q).toNat).toNat := if_neg (by omega)
  have hpc := hP.1.2.1
  rcases hk with k1 | k2
  · have a := hG.1 (P 10 (X 9 q).toNat).toNat (by omega) (by omega)
    rw [ef, eh, a.2.2]
    refine ⟨by omega, by decide, by decide, fun k hk => ?_⟩
    obtain rfl : k = 0 := by omega
    exact ⟨a.1, a.2.1⟩
  · have a := hG.2.2.2.1 (P 10 (X 9 q).toNat).toNat (by omega) (by omega)
    have h0 : s 1 (P 10 (X 9 q).toNat).toNat ≠ 0 := fun z => hn ⟨hq, k2, by rw [eh]; exact z⟩
    obtain ⟨a1, a2, j, a3, a4⟩ := a
    have pk := hP.2.2.2.2.2.2.1 (P 10 (X 9 q).toNat).toNat (by omega) (by omega)
    have pr := hP.2.1.2.1 (P 10 (X 9 q).toNat).toNat (by omega)
    have b := hG.1 (P 6 (P 10 (X 9 q).toNat).toNat).toNat (by omega) (by omega)
    have e := a4 (by omega)
    have t7 := hT.t7 (p := (s 0 (P 6 (P 10 (X 9 q).toNat).toNat).toNat).toNat) (by omega)
    have nle := ncI_le (T 6) (((s 0 (P 6 (P 10 (X 9 q).toNat).toNat).toNat).toNat : Nat) : Int) (T 0 2).toNat
    have htc := hT.1.2.1
    rw [ef, eh]
    have all : ∀ k : Nat, (k : Int) < s 1 (P 10 (X 9 q).toNat).toNat → 0 ≤ adv (T 8) k (s 0 (P 10 (X 9 q).toNat).toNat) ∧ adv (T 8) k (s 0 (P 10 (X 9 q).toNat).toNat) < T 0 2 := fun k hk => by
      rw [e, tm_adv]
      have tl := hT.2.1.tml (n := (s 0 (P 6 (P 10 (X 9 q).toNat).toNat).toNat).toNat) (j := j + k) (by omega) (by omega)
      rw [show (((s 0 (P 6 (P 10 (X 9 q).toNat).toNat).toNat).toNat : Nat) : Int) = s 0 (P 6 (P 10 (X 9 q).toNat).toNat).toNat by omega] at tl
      exact ⟨by omega, tl.2.2.1⟩
    have z0 := all 0 (by omega)
    have z0' : 0 ≤ s 0 (P 10 (X 9 q).toNat).toNat := z0.1
    exact ⟨by omega, by omega, by omega, all⟩
/-- the reference's letters -/
theorem let_m (hT : TOK 0 T) (hP : TOK 1 P) (hX : TOK w X) (hO : LetOk X P) (hG : GI T P Df (P 0 2).toNat s) (hR : LR2 T P s I) :
    (∀ q : Nat, (q : Int) < X 0 2 → (NonS X P s q ↔ X 2 q = 2 ∧ I 143 (X 9 q).toNat ≤ 0)) ∧
    (∀ q : Nat, (q : Int) < X 0 2 → ¬ NonS X P s q → (X 2 q = 1 → HF T I (X 9 q).toNat (sgf T (fnS P s (X 9 q).toNat) (hmS P s (X 9 q).toNat))) ∧ (X 2 q = 2 → RF T I (X 9 q).toNat (sgf T (fnS P s (X 9 q).toNat) (hmS P s (X 9 q).toNat)))) := by
  obtain ⟨τ, r1, r2⟩ := hR
  have ef : ∀ q : Nat, (q : Int) < X 0 2 → (X 2 q = 1 ∨ X 2 q = 2) → fnS P s (X 9 q).toNat = s 0 (P 10 (X 9 q).toNat).toNat := fun q hq hk => if_neg (hO q hq hk).1
  have eh : ∀ q : Nat, (q : Int) < X 0 2 → (X 2 q = 1 ∨ X 2 q = 2) → hmS P s (X 9 q).toNat = s 1 (P 10 (X 9 q).toNat).toNat := fun q hq hk => if_neg (hO q hq hk).1
  refine ⟨fun q hq => ?_, fun q hq hn => ⟨fun k1 => ?_, fun k2 => ?_⟩⟩
  · constructor
    · rintro ⟨h1, h2, h3⟩
      obtain ⟨o1, o2, o3, o4⟩ := let_seat hP hX hO hq (Or.inr h2)
      have a := (r1 (X 9 q).toNat (by omega)).2.2 (by omega) o2 (by omega)
      have b := r2 (X 9 q).toNat (by omega)
      rw [eh q hq (Or.inr h2)] at h3
      exact ⟨h2, by rw [b.2.1, a.2.1, h3]; decide⟩
    · rintro ⟨h2, h3⟩
      obtain ⟨o1, o2, o3, o4⟩ := let_seat hP hX hO hq (Or.inr h2)
      have a := (r1 (X 9 q).toNat (by omega)).2.2 (by omega) o2 (by omega)
      have b := r2 (X 9 q).toNat (by omega)
      have c := (hG.2.2.2.1 (P 10 (X 9 q).toNat).toNat (by omega) (by omega)).1
      rw [b.2.1, a.2.1] at h3
      exact ⟨hq, h2, by rw [eh q hq (Or.inr h2)]; omega⟩
  · obtain ⟨o1, o2, o3, o4⟩ := let_seat hP hX hO hq (Or.inl k1)
    have a := (r1 (X 9 q).toNat (by omega)).2.1 (by omega) o2 (by omega)
    have b := r2 (X 9 q).toNat (by omega)
    have c := hG.1 (P 10 (X 9 q).toNat).toNat (by omega) (by omega)
    unfold HF
    rw [b.1, a.1, ef q hq (Or.inl k1), eh q hq (Or.inl k1), c.2.2]
    exact ⟨⟨c.1, c.2.1⟩, rfl⟩
  · obtain ⟨o1, o2, o3, o4⟩ := let_seat hP hX hO hq (Or.inr k2)
    have a := (r1 (X 9 q).toNat (by omega)).2.2 (by omega) o2 (by omega)
    have b := r2 (X 9 q).toNat (by omega)
    have c := (hG.2.2.2.1 (P 10 (X 9 q).toNat).toNat (by omega) (by omega)).1
    have h0 : s 1 (P 10 (X 9 q).toNat).toNat ≠ 0 := fun z => hn ⟨hq, k2, by rw [eh q hq (Or.inr k2)]; exact z⟩
    have b3 := b.2.2 (by rw [a.2.1]; omega)
    have lf := (let_LF hT hP hX hO hG hq (Or.inr k2) hn).2
    rw [ef q hq (Or.inr k2), eh q hq (Or.inr k2)] at lf
    have l0 : 0 ≤ s 0 (P 10 (X 9 q).toNat).toNat ∧ s 0 (P 10 (X 9 q).toNat).toNat < T 0 2 := lf.2.2 0 (by omega)
    unfold RF
    rw [b3.1, b3.2.1, b3.2.2, b.2.1, a.2.1, a.2.2.1, ef q hq (Or.inr k2), eh q hq (Or.inr k2)]
    refine ⟨l0, a.2.2.2.1, a.2.2.2.2.1, by omega, a.2.2.2.2.2.1, ?_⟩
    unfold sgf
    have e := a.2.2.2.2.2.2 (by omega)
    have ee : adv (T 8) (s 1 (P 10 (X 9 q).toNat).toNat - 1).toNat (s 0 (P 10 (X 9 q).toNat).toNat) = tmI (T 8) (τ 144 (X 9 q).toNat) (τ 145 (X 9 q).toNat + s 1 (P 10 (X 9 q).toNat).toNat - 1).toNat := by
      conv => lhs; rw [e]
      rw [tm_adv]
      congr 1
      have := a.2.2.2.2.1
      omega
    rw [ee]
/-- the class's letters -/
theorem let_c (hP : TOK 1 (zP Z)) (hF : FrM Z J) (hA : Ag Z (Z 15 2).toNat s J) {l : Nat} (hl : l < 26) : fn J l = fnS (zP Z) s l ∧ hm J l = hmS (zP Z) s l := by
  have e25 : J 25 l = Z 25 l := hF 25 l (by omega) (Or.inl (by decide))
  have a := hP.2.2.2.2.2.1.2.1 l hl
  have e10 : zP Z 10 l = Z 25 l := rfl
  have e02 : zP Z 0 2 = Z 15 2 := rfl
  unfold fn hm fnS hmS
  rw [e25, e10]
  by_cases z : Z 25 l = -1
  · rw [if_pos z, if_pos z, if_pos z, if_pos z]
    exact ⟨rfl, rfl⟩
  · rw [if_neg z, if_neg z, if_neg z, if_neg z]
    rw [e10, e02] at a
    rcases a with a | a
    · exact absurd a.1 z
    · have := hA (Z 25 l).toNat (by omega)
      exact ⟨this.1, this.2.1⟩
end LTS
