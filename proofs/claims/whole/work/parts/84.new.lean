/-! ===== new things ===== -/
/-- behind the things that are there all is empty -/
def Zr (h : AH) : Prop := ∀ a : Nat, h.1.1.length ≤ a → ∀ k : Nat, h.2 a k = 0 ∧ h.1.2.1 a k = none ∧ h.1.2.2.1 a k = 0
def nG (g : AG) (x : SH) (n : Nat) : AG := (g.1 ++ [x], g.2.1, g.2.2.1, g.2.2.2.1 + 1, g.2.2.2.2 + n)
def pG (g : AG) (a k b : Nat) : AG := (g.1, mset g.2.1 a k (some b), g.2.2)
def mG (g : AG) (n0 N K : Nat) : AG := (g.1 ++ (.inr (.array .int, N) :: List.replicate N (.inr (.int, K))), (fun a k => if a = n0 ∧ k < N then some (n0 + 1 + k) else g.2.1 a k), g.2.2.1, g.2.2.2.1 + (1 + N), g.2.2.2.2 + (N + N * K))
abbrev hN (h : AH) (x : SH) (n : Nat) : AH := (nG h.1 x n, h.2)
abbrev hM (h : AH) (n0 N K : Nat) : AH := (mG h.1 n0 N K, h.2)
section NEW
variable {Γ : GX} {d : Nat} {q : MI} {pc pc' : Nat} {ls ls' : List (Option AV)} {st st' : List AV} {h h' : AH} {R : AR} {a ci k idx : Nat} {H H' : Heap}
theorem HR.app {xs : List SH} (hH : HR Γ h H) (hF : gF Γ = true) (hp : 0 < h.1.1.length) (hS : h'.1.1 = h.1.1 ++ xs) (hz : H'.size = H.size + xs.length) (ho : ∀ z : Nat, z < H.size → H'[z]? = H[z]?)
    (hsv : ∀ b : Nat, b < h.1.1.length → ∀ (ty : FieldType) (j : Nat), sv Γ h' ty b j = sv Γ h ty b j) (hR : ∀ b j : Nat, inR (h'.2 b j))
    (hob : ∀ j ci : Nat, xs[j]? = some (.inl ci) → ci < 9 ∧ t_OB (H.size + j) ((gD Γ).1 ci) (cF ci) ((gD Γ).2 ci) H' (fun k => sv Γ h' (cy ci k) (h.1.1.length + j) k))
    (har : ∀ (j : Nat) (ty : FieldType) (n : Nat), xs[j]? = some (.inr (ty, n)) → H'[H.size + j]? = some (arrV (gA Γ ty) n (fun k => sv Γ h' ty (h.1.1.length + j) k))) : HR Γ h' H' := by
  obtain ⟨h1, h2, h3, h4, h5, h6⟩ := hH
  have hs := h2 hF
  have hl : h'.1.1.length = h.1.1.length + xs.length := by rw [hS, List.length_append]
  have adr : ∀ j : Nat, H.size + j = gB Γ + (h.1.1.length + j - 1) := fun j => by omega
  refine ⟨by rw [hl, hz]; omega, fun _ => by rw [hl, hz]; omega, fun z hq => ?_, fun b ci hb hs' => ?_, fun b ty n hb hs' => ?_, hR⟩
  · rw [ho z (by omega)]
    exact h3 z hq
  · rw [hS] at hs'
    by_cases e : b < h.1.1.length
    · rw [List.getElem?_append_left e] at hs'
      obtain ⟨g1, g2⟩ := h4 b ci hb hs'
      refine ⟨g1, (g2.kept (ho _ (by omega))).to fun k _ => ?_⟩
      rw [hsv b e]
    · rw [List.getElem?_append_right (by omega)] at hs'
      have := hob _ _ hs'
      rw [adr, show h.1.1.length + (b - h.1.1.length) = b by omega] at this
      exact this
  · rw [hS] at hs'
    by_cases e : b < h.1.1.length
    · rw [List.getElem?_append_left e] at hs'
      rw [ho _ (by omega), h5 b ty n hb hs']
      congr 2
      funext j
      rw [hsv b e]
    · rw [List.getElem?_append_right (by omega)] at hs'
      have := har _ _ _ hs'
      rw [adr, show h.1.1.length + (b - h.1.1.length) = b by omega] at this
      exact this
theorem sv_z (hz : Zr h) {b : Nat} (hb : h.1.1.length ≤ b) {ty : FieldType} (ht : iT ty = true ∨ rT ty = true ∨ ty = .long) (k : Nat) : sv Γ h ty b k = defaultValue ty := by
  obtain ⟨z1, z2, z3⟩ := hz b hb k
  rcases ht with t | t | t
  · rw [sv_i t, z1]
    cases ty <;> first | rfl | cases t
  · rw [sv_r t, z2]
    cases ty <;> first | rfl | cases t
  · subst t
    show Value.long (h.1.2.2.1 b k) = _
    rw [z3]
    rfl
theorem cy_ir : ∀ ci : Nat, ci < 9 → ∀ k : Nat, k < cF ci → (iT (cy ci k) || rT (cy ci k)) = true := by decide +kernel
theorem one_at {x y : SH} {j : Nat} (h : [x][j]? = some y) : j = 0 ∧ x = y := by
  have hj : j < 1 := (List.getElem?_eq_some_iff.mp h).1
  have e : j = 0 := by omega
  subst e
  exact ⟨rfl, Option.some.inj h⟩
theorem e_new (hd : decode q.2.2.1 pc = .ok (.new idx, 3)) (hn : NOk q.1 idx ci) (hF : gF Γ = true) {n0 : Nat} (hl0 : h.1.1.length = n0) (hp : 0 < n0) (hz : Zr h) (hc1 : h.1.2.2.2.1 + 1 ≤ R.2.1.2.2.2.1) (hs1 : h.1.2.2.2.2 + cF ci ≤ R.2.1.2.2.2.2)
    (kk : Ev Γ d q (pc + 3) ls (.inr (some n0) :: st) (hN h (.inl ci) (cF ci)) R) : Ev Γ d q pc ls st h R := by
  subst hl0
  intro p e Rm s m args below meth c Q n0 s0 C g1 g2 hK H locs cells slots mls hl hol hos hH hz' hc hsl
  have C' := C
  obtain ⟨hx, hb, hml, hown, hts, hr, hlk, hnm, hKS, hd1, hd2⟩ := C
  obtain ⟨hci, l1, l2, l3⟩ := hn
  have hKn := hKS.1.1 ci _ (cl_at hci)
  have hs := hH.2.1 hF
  refine W.newcK hx hb hown (hts _ l1) (hts _ l2) (hts _ l3) rfl hd (by omega) (by omega) hKn.2.1 rfl fun H1 kC hkC e1 z1 o1 => ?_
  have hb1 := u_born (cy ci) hts (cw_ok hci) hKn hkC e1 (cy_ok hci)
  have go := kk p e Rm s m args below meth c Q n0 s0 C' g1 g2 hK H1 locs (cells + 1) (slots + cF ci) mls hl hol (okS_c (v := .inr (some h.1.1.length)) trivial hos) (hH.app (h' := hN h (.inl ci) (cF ci)) (xs := [.inl ci]) hF hp rfl z1 o1 (fun _ _ _ _ => rfl) hH.2.2.2.2.2 (fun j ci' hj => by
      obtain ⟨rfl, e⟩ := one_at hj
      cases e
      refine ⟨hci, hb1.to (fun k hk => ?_)⟩
      have := cy_ir ci hci k hk
      simp only [Bool.or_eq_true] at this
      exact (sv_z (Γ := Γ) hz (Nat.le_refl _) (by rcases this with t | t; exact Or.inl t; exact Or.inr (Or.inl t)) k).symm) (fun j ty n hj => by
      obtain ⟨rfl, e⟩ := one_at hj
      cases e)) hz' (by show h.1.2.2.2.1 + 1 = _; omega) (by show h.1.2.2.2.2 + cF ci = _; omega)
  have e : gV Γ (.inr (some h.1.1.length)) = .ref H.size := by
    rw [gV_ref hp]
    exact congrArg Value.ref (show gB Γ + (h.1.1.length - 1) = H.size by omega)
  rw [List.map_cons, e] at go
  exact go
theorem e_newa {n : Int} {N : Nat} {aty : ArrayType} {ty : FieldType} (hd : decode q.2.2.1 pc = .ok (.newarray aty, 2)) (hty : newarray.typeOf aty = ty) (hA : Cond.arrayClass ty ∈ lw_g) (hi : ty ∈ aTy) (hir : iT ty = true ∨ ty = .long) (hnN : n = (N : Int)) (hb4 : N * componentBytes ty ≤ 536870912) (hF : gF Γ = true) {n0 : Nat} (hl0 : h.1.1.length = n0) (hp : 0 < n0) (hz : Zr h) (hc1 : h.1.2.2.2.1 + 1 ≤ R.2.1.2.2.2.1) (hs1 : h.1.2.2.2.2 + N ≤ R.2.1.2.2.2.2)
    (kk : Ev Γ d q (pc + 2) ls (.inr (some n0) :: st) (hN h (.inr (ty, N)) N) R) : Ev Γ d q pc ls (.inl n :: st) h R := by
  subst hl0
  intro p e Rm s m args below meth c Q n0 s0 C g1 g2 hK H locs cells slots mls hl hol hos hH hz' hc hsl
  have C' := C
  obtain ⟨hx, hb, hml, hown, hts, hr, hlk, hnm, hKS, hd1, hd2⟩ := C
  have hs := hH.2.1 hF
  have hn : inR n := okS_h hos
  subst hty
  refine va_newaK hx hb (hts _ hA) rfl hd rfl (by rw [inR_lt0 hn]; omega) (N := N) (by rw [inR_cl hn]; omega) hb4 (by omega) (by omega) rfl fun H1 cA e1 z1 o1 hAr hNm => ?_
  have ecA : cA = gA Γ (newarray.typeOf aty) := Option.some.inj (hNm.symm.trans (hKS.2.1 _ hi).2)
  subst ecA
  have go := kk p e Rm s m args below meth c Q n0 s0 C' g1 g2 hK H1 locs (cells + 1) (slots + N) mls hl hol (okS_c (v := .inr (some h.1.1.length)) trivial (okS_t hos)) (hH.app (h' := hN h (.inr (newarray.typeOf aty, N)) N) (xs := [.inr (newarray.typeOf aty, N)]) hF hp rfl z1 o1 (fun _ _ _ _ => rfl) hH.2.2.2.2.2 (fun j ci' hj => by
      obtain ⟨rfl, e⟩ := one_at hj
      cases e) (fun j ty n hj => by
      obtain ⟨rfl, e⟩ := one_at hj
      cases e
      refine e1.trans ?_
      congr 2
      funext k
      exact (sv_z (Γ := Γ) hz (Nat.le_refl _) (by rcases hir with t | t; exact Or.inl t; exact Or.inr (Or.inr t)) k).symm)) hz' (by show h.1.2.2.2.1 + 1 = _; omega) (by show h.1.2.2.2.2 + N = _; omega)
  have e : gV Γ (.inr (some h.1.1.length)) = .ref H.size := by
    rw [gV_ref hp]
    exact congrArg Value.ref (show gB Γ + (h.1.1.length - 1) = H.size by omega)
  rw [List.map_cons, e] at go
  exact go
/-- Object's constructor -/
theorem e_obji {a : Nat} (hd : decode q.2.2.1 pc = .ok (.invokespecial idx, 3)) (w1 : Cond.methodLink (cN q.1) idx Lib.objectInit ∈ lw_g) (w2 : Cond.instanceMethod Lib.objectInit ∈ lw_g) (w3 : Cond.code Lib.objectInit ⟨#[0xb1]⟩ 1 none ∈ lw_g) (hdd : 1 ≤ d) (hst : st.length ≤ 8) (ha : 0 < a)
    (kk : Ev Γ d q (pc + 3) ls st h R) : Ev Γ d q pc ls (.inr (some a) :: st) h R := by
  intro p e Rm s m args below meth c Q n0 s0 C g1 g2 hK H locs cells slots mls hl hol hos hH hz' hc hsl
  have C' := C
  obtain ⟨hx, hb, hml, hown, hts, hr, hlk, hnm, hKS, hd1, hd2⟩ := C
  have go := kk p e Rm s m args below meth c Q n0 s0 C' g1 g2 hK H locs cells slots mls hl hol (okS_t hos) hH hz' hc hsl
  show W p (gl Γ) e Rm s m args below meth c H locs cells slots Q (F0 m pc mls (gV Γ (.inr (some a)) :: st.map (gV Γ)))
  rw [gV_ref ha]
  have hW8 : 2 * (F0 m pc mls (Value.ref (gB Γ + (a - 1)) :: st.map (gV Γ))).monitorRoom + ((st.map (gV Γ)).map fun v => v.category).sum ≤ 8 := lv_room (by rw [sum_cat]; exact hst)
  exact W.objInit hx hb hown (hts _ w1) (hts _ w2) (hts _ w3) rfl (by rw [hml]; exact hl.1) rfl hd (by omega) (by omega) go
/-- a final field, in its own constructor -/
theorem e_putrF {b : Nat} (hd : decode q.2.2.1 pc = .ok (.putfield idx, 3)) (hf : FOk q.1 idx ci k) (hnn : nF.all (fun x => !(x.1 == cN q.1 && x.2.1 == idx)) = true) (ha : 0 < a) (hs : h.1.1[a]? = some (.inl ci)) (hfin : (cT ci k).2.2.2 = true) (ht : rT (cy ci k) = true) (hin : q.2.1.name = "<init>") (hdecl : (cT ci k).1 = cN q.1)
    (kk : Ev Γ d q (pc + 3) ls st (hP h a k (some b)) R) : Ev Γ d q pc ls (.inr (some b) :: .inr (some a) :: st) h R := by
  intro p e Rm s m args below meth c Q n0 s0 C h1 h2 hK H locs cells slots mls hl hol hos hH hz hc hsl
  obtain ⟨hci, cell, q1, q2, q3, q4⟩ := hH.2.2.2.1 a ci ha hs
  have C' := C
  obtain ⟨hx, hb, hml, hown, hts, hr, hlk, hnm, hKS, hd1, hd2⟩ := C
  have hap := va_apart (own := cN q.1) hts (cw_ok hci) (cy ci) (cy_ok hci) (cn_ok hci) hKS.1 (cl_at hci)
  obtain ⟨hS2, hfc, kC, hkC, hkind⟩ := hKS.1.1 ci _ (cl_at hci)
  obtain ⟨cf, kf, fi, f, hi, hsl2⟩ := hS2 k hf.2.1
  have hlay := hts _ (cw_ok hci _ (u_in_lay hf.2.1))
  unfold u_lay at hlay
  rw [if_pos hfin] at hlay
  have hst := (u_facts hfc hkC (u_lays hts (cw_ok hci) hf.2.1) hi).1
  have hcf : m.cls = cf := by
    obtain ⟨_, _, c', _, _, _, -, -, hf', -, -, -, hown2, -⟩ := Cond.laysFinal_spec hlay
    have e1 : c' = cf := by have := hi.symm.trans hf'; simp at this; exact this.1.symm
    rw [hdecl] at hown2
    rw [← e1]; exact Option.some.inj (hown.symm.trans hown2)
  have h6 := u_fits hfc hkC hkind (Or.inr hlay) hi (cy_ok hci k hf.2.1) (ref_n (Γ := Γ) ht (some b)) (ref_f (Γ := Γ) ht (some b))
  have hl1 : Cond.fieldLink (cN q.1) idx (cT ci k).1 (cT ci k).2.1 (cT ci k).2.2.1 ∈ lw_g := by
    rcases hf.2.2 with y | ⟨host, y⟩
    · exact y
    · have := List.all_eq_true.mp hnn _ y
      simp at this
  show W p (gl Γ) e Rm s m args below meth c H locs cells slots Q (F0 m pc mls (gV Γ (.inr (some b)) :: gV Γ (.inr (some a)) :: st.map (gV Γ)))
  rw [gV_ref ha]
  refine W.putFinK hx hb hown (hts _ hl1) hi hst hcf (by rw [hnm]; exact hin) (by rw [q2]; exact h6) q1 q3 (by rw [hsl2]; exact k2_hasslot (q4 k hf.2.1)) rfl rfl hd fun H' e1 e2 e3 => ?_
  refine kk p e Rm s m args below meth c Q n0 s0 C' h1 h2 hK H' _ cells slots mls hl hol (okS_t (okS_t hos)) (hH.upd (h' := hP h a k (some b)) ha rfl e2 e3 (fun b' hb' => sv_hP hb') hH.2.2.2.2.2 (fun ci' hs' => ?_) (fun ty n hs' => ?_)) (fun z hz' => ?_) hc hsl
  · rw [hs] at hs'
    cases hs'
    rw [hsl2] at e1
    refine ⟨hci, t_OB.to (V := updV (fun j => sv Γ h (cy ci j) a j) k (gV Γ (.inr (some b)))) ⟨_, e1, q2, q3, t_set q4 hap hf.2.1 _⟩ (fun j _ => ?_)⟩
    by_cases e : j = k
    · subst e
      simp only [updV, if_pos]
      exact (sv_hPs ht).symm
    · simp only [updV, if_neg e]
      exact (sv_hPk _ e).symm
  · rw [hs] at hs'
    cases hs'
  · rcases List.mem_append.mp hz' with hz' | hz'
    · exact hz z hz'
    · rw [List.mem_singleton.mp hz']
      show gB Γ ≤ gB Γ + (a - 1)
      omega
/-! arrays of arrays -/
theorem outer_arr (c : ClassId) (N h0 : Nat) : ∀ i : Nat, Jvm.Free.Multi.outerC c N h0 i = arrV c N (fun j => if j < i then Value.ref (h0 + 1 + j) else .null)
  | 0 => by
    show ({ cls := c, slots := Array.replicate N .null, vm := .none } : Cell) = _
    rw [arrV_new]
    refine congrArg (arrV c N) (funext fun j => ?_)
    rw [if_neg (Nat.not_lt_zero _)]
  | i + 1 => by
    show (Jvm.Free.Multi.outerC c N h0 i).setSlot i (.ref (h0 + 1 + i)) = _
    rw [outer_arr c N h0 i, arrV_store]
    refine congrArg (arrV c N) (funext fun j => ?_)
    unfold updV
    by_cases e : j = i
    · subst e
      rw [if_pos rfl, if_pos (Nat.lt_succ_self _)]
    · rw [if_neg e]
      show (if j < i then Value.ref (h0 + 1 + j) else Value.null) = _
      by_cases y : j < i
      · rw [if_pos y, if_pos (by omega)]
      · rw [if_neg y, if_neg (by omega)]
/-- the word of arrays of arrays of ints, warm -/
theorem ao_alike {s U : State} {A B : Array Value} (hal : s.vm.Alike U.vm) (h : (Cond.arrayOver (.array .int)).before A s = true) : (Cond.arrayOver (.array .int)).before B U = true := by
  have e := Cond.arrayOver_setVmC (args := A) hal (.array .int)
  have e2 : (Cond.arrayOver (.array .int)).before B U = (Cond.arrayOver (.array .int)).before A (s.setVm U.vm) := rfl
  rw [e2, e]
  exact h
theorem e_mna {N K : Nat} {n k2 : Int} (hd : decode q.2.2.1 pc = .ok (.multianewarray idx 2, 4)) (hl1 : Cond.classLink (cN q.1) idx "[[I" ∈ lw_g) (hAo : Cond.arrayOver (.array .int) ∈ lw_tbl) (hA : Cond.arrayClass .int ∈ lw_g) (hnN : n = (N : Int)) (hkK : k2 = (K : Int)) (hb1 : N * 4 ≤ 536870912) (hb2 : K * 4 ≤ 536870912) (hF : gF Γ = true) {n0 : Nat} (hl0 : h.1.1.length = n0) (hp : 0 < n0) (hz : Zr h) (hc1 : h.1.2.2.2.1 + (1 + N) ≤ R.2.1.2.2.2.1) (hs1 : h.1.2.2.2.2 + (N + N * K) ≤ R.2.1.2.2.2.2)
    (kk : Ev Γ d q (pc + 4) ls (.inr (some n0) :: st) (hM h n0 N K) R) : Ev Γ d q pc ls (.inl k2 :: .inl n :: st) h R := by
  subst hl0
  intro p e Rm s m args below meth c Q n0 s0 C g1 g2 hK H locs cells slots mls hl hol hos hH hz' hc hsl
  have C' := C
  obtain ⟨hx, hb, hml, hown, hts, hr, hlk, hnm, hKS, hd1, hd2⟩ := C
  have hs := hH.2.1 hF
  have hk9 : inR k2 := okS_h hos
  have hn9 : inR n := okS_h (okS_t hos)
  obtain ⟨-, -, s9, t1, -, -, t4⟩ := hKS.2.2.2.2.2.2.2
  have hover : (Cond.arrayOver (.array .int)).before args s = true := ao_alike t4.alike (t1 _ hAo)
  have cn : (Int32.ofInt n).toNatClampNeg = N := by rw [inR_cl hn9]; omega
  have ck : (Int32.ofInt k2).toNatClampNeg = K := by rw [inR_cl hk9]; omega
  intro T hT Xs
  obtain ⟨vm₁, cA, comp, -, fA, fC, hO, -, X', step⟩ := Stand.multianewarray2F Xs hx (ty := .int) hown (hts _ hl1) hover (hts _ hA) (g := F0 m pc mls (.int (Int32.ofInt k2) :: .int (Int32.ofInt n) :: st.map (gV Γ))) rfl (by rw [hb]; exact hd) rfl (by rw [inR_lt0 hn9]; omega) (by rw [inR_lt0 hk9]; omega) (by rw [cn]; exact hb1) (by rw [ck]; exact hb2) (by rw [ck]; omega) rfl rfl (by rw [cn]; omega) (by rw [cn, ck]; omega)
  rw [cn, ck] at X' step
  have ecA : cA = gA Γ (.array .int) := Option.some.inj (fA.symm.trans (hKS.2.1 (.array .int) (by decide)).2)
  have ecI : comp = gA Γ .int := Option.some.inj (fC.symm.trans (hKS.2.1 .int (by decide)).2)
  subst ecA
  subst ecI
  have hTh : (T.setVm vm₁).heap = H := hT
  obtain ⟨f1, f2, -, -⟩ := Jvm.Free.Multi.fill_facts (T.setVm vm₁) (gA Γ (.array .int)) (gA Γ .int) N K (defaultValue .int) N
  have hold : ∀ x : Nat, x < H.size → (Jvm.Free.Multi.fill (T.setVm vm₁) (gA Γ (.array .int)) (gA Γ .int) N K (defaultValue .int) N).heap[x]? = H[x]? := fun x hx => by
    rw [Jvm.Free.Multi.fill_old (T.setVm vm₁) (gA Γ (.array .int)) (gA Γ .int) N K (defaultValue .int) (a := x) (by rw [hTh]; exact hx) N, hTh]
  have hrow : ∀ j : Nat, j < N → (Jvm.Free.Multi.fill (T.setVm vm₁) (gA Γ (.array .int)) (gA Γ .int) N K (defaultValue .int) N).heap[H.size + 1 + j]? = some (arrV (gA Γ .int) K (fun _ => defaultValue .int)) := fun j hj => by
    have := Jvm.Free.Multi.fill_inner (T.setVm vm₁) (gA Γ (.array .int)) (gA Γ .int) N K (defaultValue .int) N j hj
    rw [hTh] at this
    rw [this, ← arrV_new]
    rfl
  rw [hTh, outer_arr] at f2
  rw [hTh] at f1
  generalize Jvm.Free.Multi.fill (T.setVm vm₁) (gA Γ (.array .int)) (gA Γ .int) N K (defaultValue .int) N = F at X' step f1 f2 hold hrow
  have go := kk p e Rm s m args below meth c Q n0 s0 C' g1 g2 hK F.heap locs (cells + 1 + N) (slots + N + N * K) mls hl hol (okS_c (v := .inr (some h.1.1.length)) trivial (okS_t (okS_t hos))) (hH.app (h' := hM h h.1.1.length N K) (xs := .inr (.array .int, N) :: List.replicate N (.inr (.int, K))) hF hp rfl (by rw [f1, List.length_cons, List.length_replicate]; omega) hold (fun b hb ty j => ?_) hH.2.2.2.2.2 (fun j ci' hj => ?_) (fun j ty n' hj => ?_)) hz' (by show h.1.2.2.2.1 + (1 + N) = _; omega) (by show h.1.2.2.2.2 + (N + N * K) = _; omega)
  · have e9 : gV Γ (.inr (some h.1.1.length)) = .ref H.size := by
      rw [gV_ref hp]
      exact congrArg Value.ref (show gB Γ + (h.1.1.length - 1) = H.size by omega)
    rw [List.map_cons, e9] at go
    obtain ⟨t, y1, y2⟩ := go F rfl X'
    refine ⟨t, step t ?_, y2⟩
    rw [show T.heap.size = H.size by rw [hT]]
    exact y1
  · have e2 : (hM h h.1.1.length N K).1.2.1 b = h.1.2.1 b := by
      funext j
      show (if b = h.1.1.length ∧ j < N then _ else _) = _
      rw [if_neg (by omega)]
    cases ty <;> first | rfl | (show gV Γ (.inr ((hM h h.1.1.length N K).1.2.1 b j)) = gV Γ (.inr (h.1.2.1 b j)); rw [e2])
  · cases j with
    | zero => cases hj
    | succ j =>
      have := List.mem_of_getElem? hj
      rw [List.getElem?_cons_succ] at hj
      have h9 := List.eq_of_mem_replicate (List.mem_of_getElem? hj)
      cases h9
  · cases j with
    | zero =>
      cases hj
      rw [Nat.add_zero, f2]
      congr 2
      funext k
      show (if k < N then Value.ref (H.size + 1 + k) else .null) = gV Γ (.inr (if h.1.1.length = h.1.1.length ∧ k < N then some (h.1.1.length + 1 + k) else h.1.2.1 h.1.1.length k))
      by_cases y : k < N
      · rw [if_pos y, if_pos ⟨rfl, y⟩, gV_ref (by omega)]
        exact congrArg Value.ref (show H.size + 1 + k = gB Γ + (h.1.1.length + 1 + k - 1) by omega)
      · rw [if_neg y, if_neg (fun z => y z.2), (hz _ (Nat.le_refl _) k).2.1]
        rfl
    | succ j =>
      rw [List.getElem?_cons_succ] at hj
      have hjN : j < N := by
        have := (List.getElem?_eq_some_iff.mp hj).1
        rw [List.length_replicate] at this
        exact this
      have h9 := List.eq_of_mem_replicate (List.mem_of_getElem? hj)
      cases h9
      rw [show H.size + (j + 1) = H.size + 1 + j by omega, hrow j hjN]
      congr 2
      funext k
      exact (sv_z (Γ := Γ) hz (show h.1.1.length ≤ h.1.1.length + (j + 1) by omega) (Or.inl rfl) k).symm
theorem Zr.n {x : SH} {m : Nat} (hz : Zr h) : Zr (hN h x m) := fun b hb j => hz b (by
  have : (h.1.1 ++ [x]).length ≤ b := hb
  rw [List.length_append] at this
  omega) j
theorem Zr.m {N K : Nat} (hz : Zr h) : Zr (hM h h.1.1.length N K) := fun b hb j => by
  have h1 : (h.1.1 ++ ((Sum.inr (.array .int, N) : SH) :: List.replicate N (Sum.inr (.int, K) : SH))).length ≤ b := hb
  rw [List.length_append, List.length_cons] at h1
  obtain ⟨z1, z2, z3⟩ := hz b (by omega) j
  refine ⟨z1, ?_, z3⟩
  show (if b = h.1.1.length ∧ j < N then _ else h.1.2.1 b j) = none
  rw [if_neg (by omega)]
  exact z2
theorem Zr.p {r : Option Nat} (hz : Zr h) (ha : a < h.1.1.length) : Zr (hP h a k r) := fun b hb j => by
  obtain ⟨z1, z2, z3⟩ := hz b hb j
  refine ⟨z1, ?_, z3⟩
  show mset h.1.2.1 a k r b j = none
  have : h.1.1.length ≤ b := hb
  rw [mset_a _ _ (by omega)]
  exact z2
theorem Zr.i {x : Int} (hz : Zr h) (ha : a < h.1.1.length) : Zr (hI h a k x) := fun b hb j => by
  obtain ⟨z1, z2, z3⟩ := hz b hb j
  refine ⟨?_, z2, z3⟩
  show mset h.2 a k x b j = 0
  have : h.1.1.length ≤ b := hb
  rw [mset_a _ _ (by omega)]
  exact z1
theorem len_n {g : AG} {x : SH} {m n : Nat} (h : g.1.length = n) : (nG g x m).1.length = n + 1 := by
  show (g.1 ++ [x]).length = n + 1
  rw [List.length_append, h]
  rfl
theorem sh_n {g : AG} {x y : SH} {m : Nat} (h : g.1[a]? = some y) : (nG g x m).1[a]? = some y := by
  show (g.1 ++ [x])[a]? = some y
  rw [List.getElem?_append_left (List.getElem?_eq_some_iff.mp h).1]
  exact h
theorem sh_l {g : AG} {x : SH} {m n : Nat} (h : g.1.length = n) : (nG g x m).1[n]? = some x := by
  show (g.1 ++ [x])[n]? = some x
  rw [← h]
  simp
/-! the same, of a heap in two halves -/
theorem e_newG {g : AG} {I : IF} (hd : decode q.2.2.1 pc = .ok (.new idx, 3)) (hn : NOk q.1 idx ci) (hF : gF Γ = true) {n0 : Nat} (hl0 : g.1.length = n0) (hp : 0 < n0) (hz : Zr (g, I)) (hc1 : g.2.2.2.1 + 1 ≤ R.2.1.2.2.2.1) (hs1 : g.2.2.2.2 + cF ci ≤ R.2.1.2.2.2.2)
    (kk : Ev Γ d q (pc + 3) ls (.inr (some n0) :: st) (nG g (.inl ci) (cF ci), I) R) : Ev Γ d q pc ls st (g, I) R := e_new (h := (g, I)) hd hn hF hl0 hp hz hc1 hs1 kk
theorem e_newaG {g : AG} {I : IF} {n : Int} {N : Nat} {aty : ArrayType} {ty : FieldType} (hd : decode q.2.2.1 pc = .ok (.newarray aty, 2)) (hty : newarray.typeOf aty = ty) (hA : Cond.arrayClass ty ∈ lw_g) (hi : ty ∈ aTy) (hir : iT ty = true ∨ ty = .long) (hnN : n = (N : Int)) (hb4 : N * componentBytes ty ≤ 536870912) (hF : gF Γ = true) {n0 : Nat} (hl0 : g.1.length = n0) (hp : 0 < n0) (hz : Zr (g, I)) (hc1 : g.2.2.2.1 + 1 ≤ R.2.1.2.2.2.1) (hs1 : g.2.2.2.2 + N ≤ R.2.1.2.2.2.2)
    (kk : Ev Γ d q (pc + 2) ls (.inr (some n0) :: st) (nG g (.inr (ty, N)) N, I) R) : Ev Γ d q pc ls (.inl n :: st) (g, I) R := e_newa (h := (g, I)) hd hty hA hi hir hnN hb4 hF hl0 hp hz hc1 hs1 kk
theorem e_mnaG {g : AG} {I : IF} {N K : Nat} {n k2 : Int} (hd : decode q.2.2.1 pc = .ok (.multianewarray idx 2, 4)) (hl1 : Cond.classLink (cN q.1) idx "[[I" ∈ lw_g) (hAo : Cond.arrayOver (.array .int) ∈ lw_tbl) (hA : Cond.arrayClass .int ∈ lw_g) (hnN : n = (N : Int)) (hkK : k2 = (K : Int)) (hb1 : N * 4 ≤ 536870912) (hb2 : K * 4 ≤ 536870912) (hF : gF Γ = true) {n0 : Nat} (hl0 : g.1.length = n0) (hp : 0 < n0) (hz : Zr (g, I)) (hc1 : g.2.2.2.1 + (1 + N) ≤ R.2.1.2.2.2.1) (hs1 : g.2.2.2.2 + (N + N * K) ≤ R.2.1.2.2.2.2)
    (kk : Ev Γ d q (pc + 4) ls (.inr (some n0) :: st) (mG g n0 N K, I) R) : Ev Γ d q pc ls (.inl k2 :: .inl n :: st) (g, I) R := e_mna (h := (g, I)) hd hl1 hAo hA hnN hkK hb1 hb2 hF hl0 hp hz hc1 hs1 kk
theorem e_putG {g : AG} {I : IF} {b : Nat} (hd : decode q.2.2.1 pc = .ok (.putfield idx, 3)) (hf : FOk q.1 idx ci k) (hnn : nF.all (fun x => !(x.1 == cN q.1 && x.2.1 == idx)) = true) (ha : 0 < a) (hs : g.1[a]? = some (.inl ci)) (hfin : (cT ci k).2.2.2 = true) (ht : rT (cy ci k) = true) (hin : q.2.1.name = "<init>") (hdecl : (cT ci k).1 = cN q.1)
    (kk : Ev Γ d q (pc + 3) ls st (pG g a k b, I) R) : Ev Γ d q pc ls (.inr (some b) :: .inr (some a) :: st) (g, I) R := e_putrF (h := (g, I)) hd hf hnn ha hs hfin ht hin hdecl kk
theorem zr_n {g : AG} {I : IF} {x : SH} {m : Nat} (hz : Zr (g, I)) : Zr (nG g x m, I) := Zr.n (h := (g, I)) hz
theorem zr_m {g : AG} {I : IF} {n N K : Nat} (hz : Zr (g, I)) (hn : g.1.length = n) : Zr (mG g n N K, I) := by
  subst hn
  exact Zr.m (h := (g, I)) hz
theorem zr_p {g : AG} {I : IF} {b n : Nat} (hz : Zr (g, I)) (hn : g.1.length = n) (ha : a < n) : Zr (pG g a k b, I) := Zr.p (h := (g, I)) (r := some b) hz (by show a < g.1.length; omega)
theorem zr_i {g : AG} {I : IF} {x : Int} {n : Nat} (hz : Zr (g, I)) (hn : g.1.length = n) (ha : a < n) : Zr (g, mset I a k x) := Zr.i (h := (g, I)) hz (by show a < g.1.length; omega)
theorem len_p {g : AG} {b n : Nat} (h : g.1.length = n) : (pG g a k b).1.length = n := h
theorem sh_p {g : AG} {b c : Nat} {y : SH} (h : g.1[c]? = some y) : (pG g a k b).1[c]? = some y := h
theorem len_m {g : AG} {n N K : Nat} (h : g.1.length = n) : (mG g n N K).1.length = n + (1 + N) := by
  show (g.1 ++ (_ :: List.replicate N _)).length = _
  rw [List.length_append, List.length_cons, List.length_replicate, h]
  omega
theorem sh_m {g : AG} {n N K : Nat} {y : SH} (h : g.1[a]? = some y) : (mG g n N K).1[a]? = some y := by
  show (g.1 ++ (_ :: List.replicate N _))[a]? = some y
  rw [List.getElem?_append_left (List.getElem?_eq_some_iff.mp h).1]
  exact h
/-! how many are made, so far -/
theorem ct_n {g : AG} {x : SH} {m A B : Nat} (h : g.2.2.2.1 = A ∧ g.2.2.2.2 = B) : (nG g x m).2.2.2.1 = A + 1 ∧ (nG g x m).2.2.2.2 = B + m := ⟨congrArg (· + 1) h.1, congrArg (· + m) h.2⟩
theorem ct_m {g : AG} {n N K A B : Nat} (h : g.2.2.2.1 = A ∧ g.2.2.2.2 = B) : (mG g n N K).2.2.2.1 = A + (1 + N) ∧ (mG g n N K).2.2.2.2 = B + (N + N * K) := ⟨congrArg (· + (1 + N)) h.1, congrArg (· + (N + N * K)) h.2⟩
theorem ct_p {g : AG} {b A B : Nat} (h : g.2.2.2.1 = A ∧ g.2.2.2.2 = B) : (pG g a k b).2.2.2.1 = A ∧ (pG g a k b).2.2.2.2 = B := h
end NEW
