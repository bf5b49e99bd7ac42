/-! ===== matching: both ways are one (all) ===== -/
section MN3
variable {T P s s' σ σ' : IF} {fr dp root : Int} {Df : Nat → Nat → Prop} {ks : List Tk} {p : Nat}
theorem main_S (hT : TOK 0 T) (hP : TOK 1 P) (hF : FRO P fr) (hr : 0 ≤ root ∧ root < T 0 2) {f : Nat} (ih1 : MS T P fr root Df f) (ih2 : MW T P fr root Df f) : MS T P fr root Df (f + 1) := by
  intro p m s ks σ hpm hG hW hK hS hf
  cases ks with
  | nil =>
    have hpc : (p : Int) = P 0 2 := hW
    obtain rfl : m = 0 := by omega
    have hd : dOk T Df σ := by
      intro a b ha hb hab ha1 hb1
      obtain ⟨x1, x2, x3⟩ := hS a ha
      obtain ⟨y1, y2, y3⟩ := hS b (by omega)
      have one : ∀ l : Nat, l < 26 → σ 141 l ≠ -1 → P 10 l ≠ -1 ∧ P 10 l < p ∧ P 2 (P 10 l).toNat = 1 ∧ σ 141 l = s 0 (P 10 l).toNat := fun l hl h1 => by
        obtain ⟨w1, w2, w3⟩ := hS l hl
        have h2 : ¬ (P 10 l = -1 ∨ (p : Int) ≤ P 10 l) := fun z => h1 (w1 z).1
        have h3 : P 10 l ≠ -1 := fun z => h2 (Or.inl z)
        have h4 : P 10 l < p := by omega
        have hl10 := hP.2.2.2.2.2.1.2.1 l hl
        rcases hl10 with z | ⟨z1, z2, z3, z4⟩
        · exact absurd z.1 h3
        · have hk := hP.2.2.2.2.2.1.1 (P 10 l).toNat (by omega)
          have hk12 : P 2 (P 10 l).toNat = 1 ∨ P 2 (P 10 l).toNat = 2 := by
            rcases hk with k | k | k
            · omega
            · exact k.1
            · omega
          rcases hk12 with k | k
          · exact ⟨h3, h4, k, (w2 h3 h4 k).1⟩
          · exact absurd (w3 h3 h4 k).1 h1
      obtain ⟨a1, a2, a3, a4⟩ := one a ha ha1
      obtain ⟨b1, b2, b3, b4⟩ := one b (by omega) hb1
      rw [a4, b4]
      exact hG.2.2.2.2 a b ha (by omega) hab a1 a2 a3 b1 b2 b3
    unfold dD gG
    rw [cif_t hd]
    exact ⟨fun z => (by cases z), fun s' z => ⟨σ, rfl, by cases z; rw [← hpc]; exact hS⟩⟩
  | cons k rest =>
    obtain ⟨a, i, n, j⟩ := k
    obtain ⟨⟨a0, a1, a2, a3⟩, ⟨i0, i1, ip⟩, hn, hj, hrest⟩ := hW
    obtain ⟨w1, w2⟩ := WS.child hP ⟨a0, a1, a3⟩ ⟨i0, i1⟩ ip
    have hk1 := hK (a, i, n, j) List.mem_cons_self
    dsimp only at hk1
    have hK2 : KR T P s rest := fun x hx => hK x (List.mem_cons_of_mem _ hx)
    have ea : ((a.toNat : Nat) : Int) = a := by omega
    have ht := hG.term (a := a.toNat) (by omega) a3 hT
    simp only [List.length_cons] at hf
    by_cases hm : i = max 0 (P 7 a.toNat)
    · have hpe := w1 hm
      have hjt : j = max 0 (T 7 n.toNat) := by
        rcases ht with ⟨z1, z2⟩ | ⟨z1, z2, z3, z4, z5, z6⟩
        · rw [hk1.1, hk1.2.2 z1, z2]
        · have e := jump_end hP (a := a.toNat) (by omega)
          rw [ea, ← hpe, Int.toNat_natCast] at e
          unfold CN at z6
          rw [ea] at z6
          have z7 := z6.2 e.2
          have z8 := hk1.2.1 z1
          rw [hk1.1] at z8 ⊢
          omega
      unfold dD
      rw [if_neg (by omega), if_pos hm, if_pos hjt]
      rw [← hpe] at hrest
      exact ih1 p m s rest σ hpm hG (hrest.up (by omega)) hK2 hS (by omega)
    · obtain ⟨y1, y2, y3, y4, y5, y6⟩ := w2 hm
      rw [Int.toNat_natCast] at y3 y4
      obtain ⟨m, rfl⟩ : ∃ m', m = m' + 1 := ⟨m - 1, by omega⟩
      have hpi' : (tmI (P 8) a i.toNat).toNat = p := by omega
      by_cases k2 : P 2 p = 2
      · exact main_row hT hP hF ih1 hpm hG k2 ⟨a0, a1, a3⟩ ⟨i0, hm⟩ y3 y4 y5 ip hn hrest hK hS (by omega)
      · have h0 : p ≠ 0 := by omega
        have hse := (hG.seat hT hP y2 k2 hr).2 h0 (by rw [y3, a3]; decide)
        rw [y3] at hse
        obtain ⟨t1, t2, t3, t4, t5, t6, t7⟩ := hse
        have hna := hk1.1
        have hja := hk1.2.1 t7
        have hseat : (gSeat T P root p s).1 = tmI (T 8) n j.toNat := by
          unfold gSeat
          rw [if_neg h0, if_neg (by rw [y3, a3]; decide), y3]
          dsimp only
          rw [t5, ← hna, hja]
        have hjt : j ≠ max 0 (T 7 n.toNat) := by
          rw [← hna] at t4
          omega
        unfold dD
        rw [if_neg (by omega), if_neg hm, hpi', if_neg k2, if_neg hjt, ← hseat, ← ip]
        obtain ⟨e0, e1, e2, e3⟩ := seat_eff (T := T) (root := root) (s := s) (n := (gSeat T P root p s).1) hP y2
        have e3 := e3 h0 (by rw [y3, a3]; decide)
        rw [y3] at e3
        refine ih2 p (m + 1) s ((a, i + 1, n, j + 1) :: rest) σ hpm y2 k2 hG ⟨⟨a0, a1, by omega, a3⟩, ⟨by omega, y5, y4⟩, hn, ⟨by omega, by omega⟩, hrest⟩ ?_ hS (by simp only [List.length_cons]; omega)
        intro x hx
        rcases List.mem_cons.mp hx with rfl | hx
        · dsimp only
          rw [(e0 a.toNat (by omega)).1, e3.2]
          exact ⟨hna, fun _ => by omega, fun z => absurd z t7⟩
        · have hl := WS.lt rest _ _ hrest x hx
          rw [(e0 x.1.toNat (by omega)).1, (e2 x.1.toNat (Or.inr (Or.inl (by rw [y3]; omega)))).2]
          exact hK2 x hx
theorem main_W (hT : TOK 0 T) (hP : TOK 1 P) (hF : FRO P fr) (hD : (∀ l : Nat, ¬ Df l l) ∧ ∀ l o : Nat, Df l o → Df o l) (hr : 0 ≤ root ∧ root < T 0 2) {f : Nat} (ih1 : MS T P fr root Df f) (ih2 : MW T P fr root Df f) : MW T P fr root Df (f + 1) := by
  intro p m s ks σ hpm hp hk hG hW hK hS hf
  obtain ⟨m, rfl⟩ : ∃ m', m = m' + 1 := ⟨m - 1, by omega⟩
  have hn := (hG.seat hT hP hp hk hr).1
  obtain ⟨e0, e1, e2, e3⟩ := seat_eff (T := T) (root := root) (s := s) (n := (gSeat T P root p s).1) hP hp
  have hst : ∀ c : Int, gStep T P fr root Df c p s = gFit T P Df p (gSeat T P root p s).1 c (gPut p (gSeat T P root p s).1 (gSeat T P root p s).2) := fun c => by
    unfold gStep
    rw [if_neg hk]
  have hgi : ∀ (c : Int) (s' : IF), 0 ≤ c → gStep T P fr root Df c p s = some s' → GI T P Df (p + 1) s' := fun c s' hc h => hG.step hT hP hF hD hp hr hc h
  have hlt := WS.lt ks _ _ hW
  have hfr : (p : Int) ≠ fr := fun z => by
    rcases hF.1 with y | ⟨y1, y2, y3, y4, y5⟩
    · omega
    · rw [← z, Int.toNat_natCast] at y3
      exact hk y3
  generalize hnn : (gSeat T P root p s).1 = n at *
  generalize hss : gPut p n (gSeat T P root p s).2 = s2 at *
  have old : ∀ q : Nat, q < p → s2 0 q = s 0 q ∧ s2 1 q = s 1 q := fun q hq => e0 q (by omega)
  unfold dD
  rw [if_pos rfl, Int.toNat_natCast]
  rcases hP.kinds hp with k | k | k | k
  · -- a term
    rw [if_pos k]
    unfold gG
    rw [if_neg (show ¬ ((p : Int) = fr ∨ P 2 p = 3) from fun z => z.elim hfr (by omega)), hst 0]
    have hK0 := hP.2.2.1 p hp
    have t7 := hT.t7 (p := n.toNat) (by omega)
    by_cases hat : AtE P p T n.toNat ∧ (P 7 p = -1 ↔ T 7 n.toNat = -1)
    · rw [cif_t hat]
      by_cases hte : TeF T P p n
      · have hg : gFit T P Df p n 0 s2 = some (if P 7 p = -1 then s2 else mset (mset s2 2 p (n + 1)) 3 p (T 7 n.toNat)) := by
          unfold gFit
          rw [if_pos k, cif_t hte]
        have hg2 := hgi 0 _ (by decide) ((hst 0).trans hg)
        rw [hg]
        generalize hs3 : (if P 7 p = -1 then s2 else mset (mset s2 2 p (n + 1)) 3 p (T 7 n.toNat)) = s3 at hg2 ⊢
        have f0 : ∀ q : Nat, s3 0 q = s2 0 q ∧ s3 1 q = s2 1 q := fun q => by
          rw [← hs3]
          split
          · exact ⟨rfl, rfl⟩
          · rw [mset_a _ _ (by decide), mset_a _ _ (by decide), mset_a _ _ (by decide), mset_a _ _ (by decide)]
            exact ⟨rfl, rfl⟩
        have f3 : ∀ q : Nat, q ≠ p → s3 3 q = s2 3 q := fun q hq => by
          rw [← hs3]
          split
          · rfl
          · rw [mset_k _ _ hq, mset_a _ _ (by decide)]
        have f3p : P 7 p ≠ -1 → s3 3 p = T 7 n.toNat := fun z => by
          rw [← hs3, if_neg z, mset_s]
        refine ih1 (p + 1) m s3 ((p, 0, n, 0) :: ks) σ (by omega) hg2 ⟨⟨by omega, hp, by omega, by rw [Int.toNat_natCast]; exact k⟩, ⟨by decide, ncI_nn _ _ _, by show ((p + 1 : Nat) : Int) = (p : Int) + 1; omega⟩, hn, ⟨by decide, by omega⟩, by rw [Int.toNat_natCast]; exact hW⟩ ?_ (hS.mv hP hp (Or.inl k) (fun q hq => ⟨(f0 q).1.trans (old q hq).1, (f0 q).2.trans (old q hq).2⟩)) (by simp only [List.length_cons]; omega)
        intro x hx
        rcases List.mem_cons.mp hx with rfl | hx
        · dsimp only
          rw [Int.toNat_natCast, (f0 p).1, e1.1]
          exact ⟨rfl, fun z => by rw [f3p z]; omega, fun _ => rfl⟩
        · have hl := hlt x hx
          rw [(f0 x.1.toNat).1, f3 x.1.toNat (by omega)]
          exact hK x hx
      · have hg : gFit T P Df p n 0 s2 = none := by
          unfold gFit
          rw [if_pos k, cif_f hte]
        rw [hg]
        refine ⟨fun _ => ?_, fun s' y => (by cases y)⟩
        cases e : dD T P Df f ((↑p, 0, n, 0) :: ks) σ with
        | none => rfl
        | some τ =>
          exfalso
          have r := dD_cnt hP f (p + 1) p 0 n 0 ks σ ⟨by omega, hp, by rw [Int.toNat_natCast]; exact k⟩ ⟨by decide, ncI_nn _ _ _⟩ rfl (by decide) e
          rw [show ((p : Int) + 1).toNat = p + 1 by omega] at r
          refine hte ⟨hat.1.sy, ?_⟩
          by_cases z7 : P 7 p = -1
          · exact Or.inl ⟨hat.2.mp z7, z7⟩
          · have z8 : T 7 n.toNat ≠ -1 := fun z => z7 (hat.2.mpr z)
            have sum := P7_sum hP hp k z7
            have nn := rwR_nn (P := P) (a := (p : Int)) (p := p + 1) (by omega)
            have gl := sgl_term hP (p := p) (by omega)
            refine Or.inr ⟨z8, z7, ?_⟩
            by_cases y : rwR P p (p + 1) = 0
            · right
              have := r.2 y
              omega
            · left
              have := r.1 (by omega)
              omega
    · have hte : ¬ TeF T P p n := fun z => hat ⟨z.1.sy, by rcases z.2 with y | y; exact ⟨fun _ => y.1, fun _ => y.2⟩; exact ⟨fun x => absurd x y.2.1, fun x => absurd x y.1⟩⟩
      have hg : gFit T P Df p n 0 s2 = none := by
        unfold gFit
        rw [if_pos k, cif_f hte]
      rw [cif_f hat, hg]
      exact Rl.nn
  · -- a hole
    rw [if_neg (by omega), if_pos k]
    unfold gG
    rw [if_neg (show ¬ ((p : Int) = fr ∨ P 2 p = 3) from fun z => z.elim hfr (by omega)), hst 0]
    obtain ⟨q1, q2, q3, q4, q5⟩ := hP.l10 hp (Or.inl k)
    have hsz := size_leaf hP hp (Or.inl k)
    have hW1 : WS T P ((p + 1 : Nat) : Int) ((p + 1 : Nat) : Int) ks := by
      rw [hsz] at hW
      rw [show ((p + 1 : Nat) : Int) = (p : Int) + 1 by omega]
      exact hW.up (by omega)
    have hs9 := hS (P 9 p).toNat (by omega)
    have hfit : ∀ Q : Prop, (HoF T P Df p n s2 ↔ Q) → gFit T P Df p n 0 s2 = cif Q (some s2) none := fun Q h => by
      unfold gFit
      rw [if_neg (by omega), if_pos k]
      by_cases z : HoF T P Df p n s2
      · rw [cif_t z, cif_t (h.mp z)]
      · rw [cif_f z, cif_f (fun y => z (h.mpr y))]
    by_cases hf0 : P 10 (P 9 p).toNat = p
    · have hb := (hs9.1 (Or.inr (by omega)))
      rw [if_pos hb.1]
      by_cases ho : HoF T P Df p n s2
      · have hg := (hfit True ⟨fun _ => trivial, fun _ => ho⟩).trans (cif_t trivial)
        rw [hg]
        refine ih1 (p + 1) m s2 ks _ (by omega) (hgi 0 _ (by decide) ((hst 0).trans hg)) hW1 hK (hS.new hP hp (Or.inl k) hf0 old (fun o a z1 z2 z3 => mset_k _ _ z1) (fun _ => ⟨?_, ?_⟩) (fun z => by omega)) (by omega)
        · rw [mset_s, e1.1]
        · rw [mset_a _ _ (by decide)]
          exact hb.2
      · have hg := (hfit False ⟨fun z => absurd z ho, fun z => z.elim⟩).trans (cif_f id)
        rw [hg]
        refine ⟨fun _ => ?_, fun s' y => (by cases y)⟩
        cases e : dD T P Df f ks (mset σ 141 (P 9 p).toNat n) with
        | none => rfl
        | some τ =>
          exfalso
          obtain ⟨x1, x2⟩ := dD_ext f ks _ e
          refine ho ⟨fun z => absurd hf0 z, fun _ o ho1 hd o1 o2 o3 hal => ?_⟩
          have ho10 := hP.2.2.2.2.2.1.2.1 o ho1
          have hso := (hS o ho1).2.1 o1 o2 o3
          have hgo := hG.1 (P 10 o).toNat (by omega) (by omega)
          rw [(old (P 10 o).toNat (by omega)).1, ← hso.1] at hal
          have hne : o ≠ (P 9 p).toNat := fun z => hD.1 o (by rw [← z] at hd; exact hd)
          have t1 : τ 141 (P 9 p).toNat = n := (x2 _ (by rw [mset_s]; omega)).trans (mset_s _ _ _ _)
          have t2 : τ 141 o = σ 141 o := (x2 o (by rw [mset_k _ _ hne, hso.1]; omega)).trans (mset_k _ _ hne)
          have hon : σ 141 o ≠ -1 := by rw [hso.1]; omega
          by_cases hlo : o < (P 9 p).toNat
          · exact x1 (P 9 p).toNat o (by omega) hlo hd (by rw [t1]; omega) (by rw [t2]; exact hon) (by rw [t1, t2]; exact hal.symm)
          · exact x1 o (P 9 p).toNat ho1 (by omega) (hD.2 _ _ hd) (by rw [t2]; exact hon) (by rw [t1]; omega) (by rw [t1, t2]; exact hal)
    · have hlt2 : P 10 (P 9 p).toNat < p := by omega
      have hso := hs9.2.1 (by omega) hlt2 (by rw [q4]; exact k)
      have hgo := hG.1 (P 10 (P 9 p).toNat).toNat (by omega) (by rw [q4]; omega)
      rw [if_neg (by rw [hso.1]; omega), hfit (T 11 (σ 141 (P 9 p).toNat).toNat = T 11 n.toNat) ⟨fun z => by
          have := z.1 hf0
          rw [(old (P 10 (P 9 p).toNat).toNat (by omega)).1, ← hso.1] at this
          exact this, fun z => ⟨fun _ => by
          rw [(old (P 10 (P 9 p).toNat).toNat (by omega)).1, ← hso.1]
          exact z, fun y => absurd y hf0⟩⟩]
      by_cases hal : T 11 (σ 141 (P 9 p).toNat).toNat = T 11 n.toNat
      · rw [cif_t hal, cif_t hal]
        have hg : gFit T P Df p n 0 s2 = some s2 := by
          unfold gFit
          rw [if_neg (by omega), if_pos k, cif_t ⟨fun _ => by
            rw [(old (P 10 (P 9 p).toNat).toNat (by omega)).1, ← hso.1]
            exact hal, fun y => absurd y hf0⟩]
        exact ih1 (p + 1) m s2 ks σ (by omega) (hgi 0 _ (by decide) ((hst 0).trans hg)) hW1 hK (hS.mv2 hP (fun l hl z => hf0 (by rw [← q5 l hl z]; exact z)) old) (by omega)
      · rw [cif_f hal, cif_f hal]
        exact Rl.nn
  · exact absurd k hk
  · -- deep
    rw [if_neg (by omega), if_neg (by omega)]
    obtain ⟨d1, d2, d3, d4⟩ := size_deep hP hp k
    have h8 := hT.2.1.2.2.1 n.toNat (by omega)
    unfold gG
    rw [if_pos (Or.inr k)]
    have gs : ∀ c : Nat, gStep T P fr root Df c p s = cif ((c : Int) < T 8 n.toNat) (some (mset s2 2 p (n + c))) none := fun c => by
      rw [hst]
      unfold gFit
      rw [if_neg (by omega), if_neg (by omega)]
    rw [fs_ext (T 8 n.toNat).toNat (T 0 2).toNat 0 (by omega) (fun c c1 c2 => by rw [gs c, cif_f (by omega)]; rfl)]
    refine fs_rel _ _ (fun c c1 c2 => ?_)
    rw [gs c, cif_t (by omega)]
    have h0 : tmI (P 8) p 0 = ((p + 1 : Nat) : Int) := by show (p : Int) + 1 = _; omega
    have hse : gSeat T P root (p + 1) (mset s2 2 p (n + c)) = (n + c, mset s2 2 p (n + c)) := by
      unfold gSeat
      rw [if_neg (by omega), d2, Int.toNat_natCast, if_pos k, mset_s]
    have r := ih2 (p + 1) m (mset s2 2 p (n + c)) ks σ (by omega) d1 d4 (hgi c _ (by omega) (by rw [gs c, cif_t (by omega)])) (by
        rw [d3] at hW
        rw [show ((p + 1 : Nat) : Int) + P 8 (p + 1) = (p : Int) + (1 + P 8 (p + 1)) by omega]
        exact hW.up (by omega)) (by
        rw [hse]
        refine hK.mv hlt (fun q hq => ?_)
        unfold gPut
        dsimp only
        rw [mset_a _ _ (by decide), mset_k _ _ (by omega), mset_a _ _ (by decide), mset_a _ _ (by decide), mset_a _ _ (by decide), mset_a _ _ (by decide)]
        exact ⟨rfl, rfl⟩) (hS.mv hP hp (Or.inr k) (fun q hq => by
        rw [mset_a _ _ (by decide), mset_a _ _ (by decide)]
        exact old q hq)) (by omega)
    rw [hse] at r
    rw [h0]
    exact r
/-- BOTH WAYS ARE ONE -/
theorem main_all (hT : TOK 0 T) (hP : TOK 1 P) (hF : FRO P fr) (hD : (∀ l : Nat, ¬ Df l l) ∧ ∀ l o : Nat, Df l o → Df o l) (hr : 0 ≤ root ∧ root < T 0 2) : ∀ f : Nat, MS T P fr root Df f ∧ MW T P fr root Df f
  | 0 => ⟨fun p m s ks σ _ _ _ _ _ h => by omega, fun p m s ks σ h1 h2 _ _ _ _ _ h => by omega⟩
  | f + 1 => ⟨main_S hT hP hF hr (main_all hT hP hF hD hr f).1 (main_all hT hP hF hD hr f).2, main_W hT hP hF hD hr (main_all hT hP hF hD hr f).1 (main_all hT hP hF hD hr f).2⟩
theorem main_way (hT : TOK 0 T) (hP : TOK 1 P) (hF : FRO P fr) (hD : (∀ l : Nat, ¬ Df l l) ∧ ∀ l o : Nat, Df l o → Df o l) (hr : 0 ≤ root ∧ root < T 0 2) (hs : ∀ l : Nat, l < 26 → σ 141 l = -1 ∧ σ 143 l = -1) {f : Nat} (hf : 360 ≤ f) :
    Rl T P (dD T P Df f [(0, -1, root, 0)] σ) (WAY T P fr Df root) := by
  have hc := hP.1.2.1
  have k2 : P 2 0 ≠ 2 := fun z => by
    have := hP.2.2.2.2.2.2.1 0 (by omega) z
    have := hP.2.1.2.1 0 (by omega)
    omega
  have hroot : ((0 : Nat) : Int) + P 8 0 = P 0 2 := by
    have h1 := hP.2.1.root ((P 0 2).toNat - 1) ((P 0 2).toNat - 1) (Nat.le_refl _) (by omega)
    have h2 := (hP.2.1.2.2.1 0 (by omega)).2
    omega
  have hse : gSeat T P root 0 s00 = (root, s00) := by
    unfold gSeat
    rw [if_pos rfl]
  have r := (main_all hT hP hF hD hr f).2 0 (P 0 2).toNat s00 [] σ (by omega) (by omega) k2 (GI.zero hP) hroot (fun k hk => by cases hk) (fun l hl => by
    have hl10 := hP.2.2.2.2.2.1.2.1 l hl
    exact ⟨fun _ => hs l hl, fun z1 z2 => by omega, fun z1 z2 => by omega⟩) (by simp only [List.length_nil]; omega)
  rw [hse] at r
  exact r
end MN3
