/-! ===== from the law's entry to its loop ===== -/
/-- from here the machine comes there -/
def To (Γ : GX) (d : Nat) (q : MI) (pc : Nat) (ls : List (Option AV)) (st : List AV) (h : AH) (T : Nat × List (Option AV) × AH) : Prop :=
  ∀ (p : Program) (e : Env) (Rm : Room) (s : State) (m : MethodId) (args : Array Value) (below : List Frame) (meth : Method) (c : Code) (Q : State → Prop) (n0 s0 : Nat),
    Cx Γ d q p Rm s m args meth c → T.2.2.1.2.2.2.1 ≤ n0 + Rm.cells → T.2.2.1.2.2.2.2 ≤ s0 + Rm.slots →
    (∀ (H : Heap) (locs : List Loc) (cells slots : Nat) (mls : Array Slot), LR Γ q.2.2.2.1 mls T.2.1 → okl T.2.1 → HR Γ T.2.2 H → (∀ z ∈ locs, gB Γ ≤ z.base) → T.2.2.1.2.2.2.1 = n0 + cells → T.2.2.1.2.2.2.2 = s0 + slots →
      W p (gl Γ) e Rm s m args below meth c H locs cells slots Q (F0 m T.1 mls [])) →
    ∀ (H : Heap) (locs : List Loc) (cells slots : Nat) (mls : Array Slot), LR Γ q.2.2.2.1 mls ls → okl ls → okS st → HR Γ h H → (∀ z ∈ locs, gB Γ ≤ z.base) → h.1.2.2.2.1 = n0 + cells → h.1.2.2.2.2 = s0 + slots →
      W p (gl Γ) e Rm s m args below meth c H locs cells slots Q (F0 m pc mls (st.map (gV Γ)))
section TOO
variable {Γ : GX} {d : Nat} {q : MI} {pc pc' : Nat} {ls ls' : List (Option AV)} {st st' : List AV} {h h' : AH} {T : Nat × List (Option AV) × AH} {a ci k idx : Nat} {H H' : Heap}
theorem t_done : To Γ d q pc ls [] h (pc, ls, h) := fun p e Rm s m args below meth c Q n0 s0 C h1 h2 hK H locs cells slots mls hl hol _ hH hz hc hs => hK H locs cells slots mls hl hol hH hz hc hs
theorem tev_of (f : ∀ (p : Program) (e : Env) (Rm : Room) (s : State) (m : MethodId) (args : Array Value) (below : List Frame) (meth : Method) (c : Code) (Q : State → Prop) (H : Heap) (locs : List Loc) (cells slots : Nat) (mls : Array Slot),
      Cx Γ d q p Rm s m args meth c → LR Γ q.2.2.2.1 mls ls → okl ls → okS st → HR Γ h H → W p (gl Γ) e Rm s m args below meth c H locs cells slots Q (F0 m pc' mls (st'.map (gV Γ))) → W p (gl Γ) e Rm s m args below meth c H locs cells slots Q (F0 m pc mls (st.map (gV Γ))))
    (hok : okl ls → okS st → (∀ a k : Nat, inR (h.2 a k)) → okS st') (k : To Γ d q pc' ls st' h T) : To Γ d q pc ls st h T := by
  intro p e Rm s m args below meth c Q n0 s0 C h1 h2 hK H locs cells slots mls hl hol hos hH hz hc hs
  exact f p e Rm s m args below meth c Q H locs cells slots mls C hl hol hos hH (k p e Rm s m args below meth c Q n0 s0 C h1 h2 hK H locs cells slots mls hl hol (hok hol hos hH.2.2.2.2.2) hH hz hc hs)
theorem tev_ls {i : Nat} {v : AV} (hi : i < q.2.2.2.1) (f : ∀ (p : Program) (e : Env) (Rm : Room) (s : State) (m : MethodId) (args : Array Value) (below : List Frame) (meth : Method) (c : Code) (Q : State → Prop) (H : Heap) (locs : List Loc) (cells slots : Nat) (mls : Array Slot),
      Cx Γ d q p Rm s m args meth c → LR Γ q.2.2.2.1 mls ls → (∀ mls' : Array Slot, lv_has mls' q.2.2.2.1 ((i, gV Γ v) :: (lvp Γ 0 ls).filter (fun z => !(z.1 == i) && !(z.1 + 1 == i && z.2.category == 2))) → W p (gl Γ) e Rm s m args below meth c H locs cells slots Q (F0 m pc' mls' (st'.map (gV Γ)))) → W p (gl Γ) e Rm s m args below meth c H locs cells slots Q (F0 m pc mls (st.map (gV Γ))))
    (hok : okl ls → okS st → okv v ∧ okS st') (hs' : ls.set i (some v) = ls') (k : To Γ d q pc' ls' st' h T) : To Γ d q pc ls st h T := by
  intro p e Rm s m args below meth c Q n0 s0 C h1 h2 hK H locs cells slots mls hl hol hos hH hz hc hs
  subst hs'
  exact f p e Rm s m args below meth c Q H locs cells slots mls C hl (fun mls' h' => k p e Rm s m args below meth c Q n0 s0 C h1 h2 hK H locs cells slots mls' (hl.set h') (okl_set hol (hok hol hos).1) (hok hol hos).2 hH hz hc hs)
theorem te_dup {v : AV} (hd : decode q.2.2.1 pc = .ok (.dup, 1)) (k : To Γ d q (pc + 1) ls (v :: v :: st) h T) : To Γ d q pc ls (v :: st) h T :=
  tev_of (fun _ _ _ _ _ _ _ _ _ _ _ _ _ _ _ C _ _ _ _ w => lv_dup C.1 C.2.1 hd (gV_cat Γ v) w) (fun _ hs _ => okS_c (okS_h hs) hs) k
theorem te_iconst {n : Int} (hd : decode q.2.2.1 pc = .ok (.iconst n, 1)) (hn : inR n) (k : To Γ d q (pc + 1) ls (.inl n :: st) h T) : To Γ d q pc ls st h T :=
  tev_of (fun _ _ _ _ _ _ _ _ _ _ _ _ _ _ _ C _ _ _ _ w => lv_iconst C.1 C.2.1 hd rfl w) (fun _ hs _ => okS_i hn hs) k
theorem te_astore_n {j : Fin 4} {a : Nat} (hd : decode q.2.2.1 pc = .ok (.astore_n j, 1)) (hi : j.val < q.2.2.2.1) (hs' : ls.set j.val (some (.inr (some a))) = ls') (k : To Γ d q (pc + 1) ls' st h T) : To Γ d q pc ls (.inr (some a) :: st) h T :=
  tev_ls (v := .inr (some a)) (pc' := pc + 1) (st' := st) hi (fun _ _ _ _ _ _ _ _ _ _ _ _ _ _ _ C hl w => lv_astore_n C.1 C.2.1 hd rfl hl.has hi rfl w) (fun _ hs => ⟨okS_h hs, okS_t hs⟩) hs' k
theorem te_istore {i : Nat} {x : Int} (hd : decode q.2.2.1 pc = .ok (.istore i, 2)) (hi : i < q.2.2.2.1) (hs' : ls.set i (some (.inl x)) = ls') (k : To Γ d q (pc + 2) ls' st h T) : To Γ d q pc ls (.inl x :: st) h T :=
  tev_ls (v := .inl x) (pc' := pc + 2) (st' := st) hi (fun _ _ _ _ _ _ _ _ _ _ _ _ _ _ _ C hl w => lv_istore C.1 C.2.1 hd hl.has hi rfl w) (fun _ hs => ⟨okS_h hs, okS_t hs⟩) hs' k
set_option maxHeartbeats 1000000 in
theorem te_new (hd : decode q.2.2.1 pc = .ok (.new idx, 3)) (hn : NOk q.1 idx ci) (hF : gF Γ = true) {n0 : Nat} (hl0 : h.1.1.length = n0) (hp : 0 < n0) (hz : Zr h) (hc1 : h.1.2.2.2.1 + 1 ≤ T.2.2.1.2.2.2.1) (hs1 : h.1.2.2.2.2 + cF ci ≤ T.2.2.1.2.2.2.2)
    (kk : To Γ d q (pc + 3) ls (.inr (some n0) :: st) (hN h (.inl ci) (cF ci)) T) : To Γ d q pc ls st h T := by
  subst hl0
  intro p e Rm s m args below meth c Q n0 s0 C g1 g2 hK H locs cells slots mls hl hol hos hH hz' hc hsl
  have C' := C
  obtain ⟨hx, hb, hml, hown, hts, hr, hlk, hnm, hKS, hd1, hd2⟩ := C
  obtain ⟨hci, l1, l2, l3⟩ := hn
  have hKn := hKS.1.1 ci _ (cl_at hci)
  have hs := hH.2.1 hF
  refine W.newcK hx hb hown (hts _ l1) (hts _ l2) (hts _ l3) rfl hd (by omega) (by omega) hKn.2.1 rfl fun H1 kC hkC e1 z1 o1 => ?_
  have hb1 := u_born (cy ci) hts (cw_ok hci) hKn hkC e1 (cy_ok hci)
  have go := kk p e Rm s m args below meth c Q n0 s0 C' g1 g2 hK H1 locs (cells + 1) (slots + cF ci) mls hl hol (okS_c (v := .inr (some h.1.1.length)) trivial hos) (hH.app (h' := hN h (.inl ci) (cF ci)) (xs := [.inl ci]) hF hp rfl z1 o1 (fun _ _ _ _ => rfl) hH.2.2.2.2.2 (fun j ci' hj => by
      obtain ⟨rfl, e⟩ := one_at hj
      cases e
      refine ⟨hci, hb1.to (fun k hk => ?_)⟩
      have := cy_ir ci hci k hk
      simp only [Bool.or_eq_true] at this
      exact (sv_z (Γ := Γ) hz (Nat.le_refl _) (by rcases this with t | t; exact Or.inl t; exact Or.inr (Or.inl t)) k).symm) (fun j ty n hj => by
      obtain ⟨rfl, e⟩ := one_at hj
      cases e)) hz' (by show h.1.2.2.2.1 + 1 = _; omega) (by show h.1.2.2.2.2 + cF ci = _; omega)
  have e : gV Γ (.inr (some h.1.1.length)) = .ref H.size := by
    rw [gV_ref hp]
    exact congrArg Value.ref (show gB Γ + (h.1.1.length - 1) = H.size by omega)
  rw [List.map_cons, e] at go
  exact go
set_option maxHeartbeats 1000000 in
theorem te_newa {n : Int} {N : Nat} {aty : ArrayType} {ty : FieldType} (hd : decode q.2.2.1 pc = .ok (.newarray aty, 2)) (hty : newarray.typeOf aty = ty) (hA : Cond.arrayClass ty ∈ lw_g) (hi : ty ∈ aTy) (hir : iT ty = true ∨ ty = .long) (hnN : n = (N : Int)) (hb4 : N * componentBytes ty ≤ 536870912) (hF : gF Γ = true) {n0 : Nat} (hl0 : h.1.1.length = n0) (hp : 0 < n0) (hz : Zr h) (hc1 : h.1.2.2.2.1 + 1 ≤ T.2.2.1.2.2.2.1) (hs1 : h.1.2.2.2.2 + N ≤ T.2.2.1.2.2.2.2)
    (kk : To Γ d q (pc + 2) ls (.inr (some n0) :: st) (hN h (.inr (ty, N)) N) T) : To Γ d q pc ls (.inl n :: st) h T := by
  subst hl0
  intro p e Rm s m args below meth c Q n0 s0 C g1 g2 hK H locs cells slots mls hl hol hos hH hz' hc hsl
  have C' := C
  obtain ⟨hx, hb, hml, hown, hts, hr, hlk, hnm, hKS, hd1, hd2⟩ := C
  have hs := hH.2.1 hF
  have hn : inR n := okS_h hos
  subst hty
  refine va_newaK hx hb (hts _ hA) rfl hd rfl (by rw [inR_lt0 hn]; omega) (N := N) (by rw [inR_cl hn]; omega) hb4 (by omega) (by omega) rfl fun H1 cA e1 z1 o1 hAr hNm => ?_
  have ecA : cA = gA Γ (newarray.typeOf aty) := Option.some.inj (hNm.symm.trans (hKS.2.1 _ hi).2)
  subst ecA
  have go := kk p e Rm s m args below meth c Q n0 s0 C' g1 g2 hK H1 locs (cells + 1) (slots + N) mls hl hol (okS_c (v := .inr (some h.1.1.length)) trivial (okS_t hos)) (hH.app (h' := hN h (.inr (newarray.typeOf aty, N)) N) (xs := [.inr (newarray.typeOf aty, N)]) hF hp rfl z1 o1 (fun _ _ _ _ => rfl) hH.2.2.2.2.2 (fun j ci' hj => by
      obtain ⟨rfl, e⟩ := one_at hj
      cases e) (fun j ty n hj => by
      obtain ⟨rfl, e⟩ := one_at hj
      cases e
      refine e1.trans ?_
      congr 2
      funext k
      exact (sv_z (Γ := Γ) hz (Nat.le_refl _) (by rcases hir with t | t; exact Or.inl t; exact Or.inr (Or.inr t)) k).symm)) hz' (by show h.1.2.2.2.1 + 1 = _; omega) (by show h.1.2.2.2.2 + N = _; omega)
  have e : gV Γ (.inr (some h.1.1.length)) = .ref H.size := by
    rw [gV_ref hp]
    exact congrArg Value.ref (show gB Γ + (h.1.1.length - 1) = H.size by omega)
  rw [List.map_cons, e] at go
  exact go
set_option maxHeartbeats 1000000 in
theorem te_callc {q' : MI} {a d' idx : Nat} {av stk : List AV} {h2 : AH} (hd : decode q.2.2.1 pc = .ok (.invokespecial idx, 3)) (hco : COk q.1 idx q') (hm : MOk q') (hk : q'.2.2.2.2.2.2 = 2) (ha : 0 < a) (hn : av.length = q'.2.2.2.2.2.1) (hst : st.length ≤ 8) (hdd : d' < d)
    (hct : CT Γ d' q' (.inr (some a) :: av) h (none, h2)) (hnc : h2.1.2.2.2.1 ≤ T.2.2.1.2.2.2.1) (hns : h2.1.2.2.2.2 ≤ T.2.2.1.2.2.2.2) (hstk : av.reverse ++ .inr (some a) :: st = stk) (k : To Γ d q (pc + 3) ls st h2 T) : To Γ d q pc ls stk h T := by
  intro p e Rm s m args below meth c Q n0 s0 C g1 g2 hK H locs cells slots mls hl hol hos hH hz hc hsl
  obtain ⟨hokav, hokst⟩ := okS_rev hos hstk
  have C' := C
  obtain ⟨hx, hb, hml, hown, hts, hr, hlk, hnm, hKS, hd1, hd2⟩ := C
  obtain ⟨m1, m2, m3, m4, m5, m6, m7, m8, m9, m10, m11, m12⟩ := hm
  have hm : MOk q' := ⟨m1, m2, m3, m4, m5, m6, m7, m8, m9, m10, m11, m12⟩
  obtain ⟨c1, c2, hM⟩ := hct
  dsimp only at c1 c2 hM
  have hmap : stk.map (gV Γ) = (av.map (gV Γ)).reverse ++ Value.ref (gB Γ + (a - 1)) :: st.map (gV Γ) := by
    rw [← hstk, List.map_append, List.map_reverse, List.map_cons, gV_ref ha]
  have hpre : PreS s H (PcA Γ (.inr (some a) :: av) h) (Value.ref (gB Γ + (a - 1)) :: av.map (gV Γ)) :=
    ⟨PcA_blind, fun U hU hW => ⟨by rw [List.map_cons, gV_ref ha], by rw [hU]; exact hH, hKS.warm hW, okS_c trivial hokav⟩⟩
  have hroom : (rmOf d' (h2.1.2.2.2.1 - h.1.2.2.2.1) (h2.1.2.2.2.2 - h.1.2.2.2.2)).frames + 1 ≤ Rm.frames ∧ 8 + (q'.2.2.2.1 + 11) + (rmOf d' (h2.1.2.2.2.1 - h.1.2.2.2.1) (h2.1.2.2.2.2 - h.1.2.2.2.2)).locals ≤ Rm.locals := by
    show d' + 1 ≤ Rm.frames ∧ 8 + (q'.2.2.2.1 + 11) + 64 * d' ≤ Rm.locals
    omega
  have hf : cells + (h2.1.2.2.2.1 - h.1.2.2.2.1) ≤ Rm.cells ∧ slots + (h2.1.2.2.2.2 - h.1.2.2.2.2) ≤ Rm.slots := by omega
  have hlen : ∀ sig, parseMethodDescriptor q'.2.1.desc = some sig → q'.2.2.2.2.2.1 = sig.parameters.length := fun sig hsig => by
    rw [hsig] at m8
    exact (Option.some.inj m8).symm
  have hW8 : 2 * (F0 m pc mls (stk.map (gV Γ))).monitorRoom + ((st.map (gV Γ)).map fun v => v.category).sum ≤ 8 := lv_room (by rw [sum_cat]; exact hst)
  have hret : q'.2.2.2.2.1 = none := (m12 hk).2
  have hwm : Cond.code q'.2.1 q'.2.2.1 q'.2.2.2.1 none ∈ wsM q' := by
    unfold wsM
    rw [hret]
    exact List.mem_cons_self
  have hcd : (Cond.code q'.2.1 q'.2.2.1 q'.2.2.2.1 none).before args s = true := by
    have := hts _ m1
    rwa [hret] at this
  refine run_go (as := (Value.ref (gB Γ + (a - 1)) :: av.map (gV Γ)).toArray) (mc := h2.1.2.2.2.1 - h.1.2.2.2.1) (ms := h2.1.2.2.2.2 - h.1.2.2.2.2) (h2 := h2) (r := none) ?_ (fun H1 L hH1 hL hokr => k p e Rm s m args below meth c Q n0 s0 C' g1 g2 hK H1 _ _ _ mls hl hol (okS_t hokst) hH1 (fun z hz' => (List.mem_append.mp hz').elim (hz z) (hL z)) (by omega) (by omega))
  rcases hco with hl1 | ⟨host, hl1⟩
  · exact va_runI (g := F0 m pc mls (stk.map (gV Γ))) (As := av.map (gV Γ)) (rest := st.map (gV Γ)) (Ts := lw_g) ⟨hx, hb, hml, hown, hts⟩ hM ⟨⟨rfl, rfl, hroom.1, hroom.2, pay_in hts (ws_good hm), hwm, hcd, hts _ m5, m7, hlen, hts _ hl1⟩, (m12 hk).1, hts _ (m3 (by rw [hk]; decide))⟩ hpre rfl (by rw [List.length_map]; exact hn) hl.1 hmap hW8 hd hf
  · exact va_runIN (g := F0 m pc mls (stk.map (gV Γ))) (As := av.map (gV Γ)) (rest := st.map (gV Γ)) (Ts := lw_g) ⟨hx, hb, hml, hown, hts⟩ hM ⟨⟨⟨rfl, rfl, hroom.1, hroom.2, pay_in hts (ws_good hm), hwm⟩, hcd, hts _ m5, m7, hlen, va_Nw.use rfl (hKS.2.2.2.1 _ hl1)⟩, (m12 hk).1, hts _ (m3 (by rw [hk]; decide))⟩ hpre rfl (by rw [List.length_map]; exact hn) hl.1 hmap hW8 hd hf
theorem te_newG {g : AG} {I : IF} (hd : decode q.2.2.1 pc = .ok (.new idx, 3)) (hn : NOk q.1 idx ci) (hF : gF Γ = true) {n0 : Nat} (hl0 : g.1.length = n0) (hp : 0 < n0) (hz : Zr (g, I)) (hc1 : g.2.2.2.1 + 1 ≤ T.2.2.1.2.2.2.1) (hs1 : g.2.2.2.2 + cF ci ≤ T.2.2.1.2.2.2.2)
    (kk : To Γ d q (pc + 3) ls (.inr (some n0) :: st) (nG g (.inl ci) (cF ci), I) T) : To Γ d q pc ls st (g, I) T := te_new (h := (g, I)) hd hn hF hl0 hp hz hc1 hs1 kk
theorem te_newaG {g : AG} {I : IF} {n : Int} {N : Nat} {aty : ArrayType} {ty : FieldType} (hd : decode q.2.2.1 pc = .ok (.newarray aty, 2)) (hty : newarray.typeOf aty = ty) (hA : Cond.arrayClass ty ∈ lw_g) (hi : ty ∈ aTy) (hir : iT ty = true ∨ ty = .long) (hnN : n = (N : Int)) (hb4 : N * componentBytes ty ≤ 536870912) (hF : gF Γ = true) {n0 : Nat} (hl0 : g.1.length = n0) (hp : 0 < n0) (hz : Zr (g, I)) (hc1 : g.2.2.2.1 + 1 ≤ T.2.2.1.2.2.2.1) (hs1 : g.2.2.2.2 + N ≤ T.2.2.1.2.2.2.2)
    (kk : To Γ d q (pc + 2) ls (.inr (some n0) :: st) (nG g (.inr (ty, N)) N, I) T) : To Γ d q pc ls (.inl n :: st) (g, I) T := te_newa (h := (g, I)) hd hty hA hi hir hnN hb4 hF hl0 hp hz hc1 hs1 kk
/-- the last thing that is made -/
def gE : AG := nG h8 (.inr (.long, 1)) 1
theorem gE_s : gE.1 = S0 := g8_0
theorem gE_ok : GOk gE := ⟨fun a ha => by rw [gE_s], h8_ok.2⟩
theorem h8_l : h8.1.length = 152 := g8_l
set_option maxRecDepth 100000 in
theorem gE_c : gE.2.2.2.1 = 152 ∧ gE.2.2.2.2 = 85169 := by
  have e1 : G6.2.2.2.1 = 1 ∧ G6.2.2.2.2 = 11 := ⟨rfl, rfl⟩
  have e2 := ct_init6
  have e3 : G8.2.2.2.1 = i6.2.2.2.1 + 1 ∧ G8.2.2.2.2 = i6.2.2.2.2 + 39 := ⟨rfl, rfl⟩
  have e4 := ct_init8
  have e5 : gE.2.2.2.1 = i8.2.2.2.1 + 1 ∧ gE.2.2.2.2 = i8.2.2.2.2 + 1 := ⟨rfl, rfl⟩
  rw [e5.1, e5.2, e4.1, e4.2, e3.1, e3.2, e2.1, e2.2, e1.1, e1.2]
  exact ⟨rfl, rfl⟩
theorem cle {x A y : Nat} (h : y = x + A) : x ≤ y := by omega
/-- both are made -/
theorem t_made {nm : String} (hF : gF Γ = true) : ∃ L : IF, To Γ 1000 (qL nm) 0 [some (.inr (some 0)), none, none, none, none, none, none] [] (GL0, I0) (23, lsl 0 none none, (gE, L)) ∧ Inv L := by
  obtain ⟨J, j1, j2⟩ := c_init6 (Γ := Γ) hF
  have zi6 : Zr (i6, J) := fun a ha k => by
    obtain ⟨y1, y2, y3⟩ := z_init6 a ha k
    have hl : i6.1.length ≤ a := ha
    rw [g6_l] at hl
    exact ⟨j2.2.2.2.2.2 a k (by omega), y2, y3⟩
  have zG8 : Zr (G8, J) := zr_n zi6
  obtain ⟨L, l1, l2, l3⟩ := c_init8 (Γ := Γ) hF j2 zG8
  have hz0 : Zr (GL0, I0) := fun a _ k => ⟨rfl, rfl, rfl⟩
  have cE := gE_c
  have c6 : G6.2.2.2.1 = 1 ∧ G6.2.2.2.2 = 11 := ⟨rfl, rfl⟩
  have ci6 := ct_init6
  have c8 : G8.2.2.2.1 = i6.2.2.2.1 + 1 ∧ G8.2.2.2.2 = i6.2.2.2.2 + 39 := ⟨rfl, rfl⟩
  have ci8 := ct_init8
  have ch8 : h8.2.2.2.1 = i8.2.2.2.1 ∧ h8.2.2.2.2 = i8.2.2.2.2 := ⟨rfl, rfl⟩
  rw [c6.1, c6.2] at ci6
  rw [ci6.1, ci6.2] at c8
  rw [c8.1, c8.2] at ci8
  rw [ci8.1, ci8.2] at ch8
  refine ⟨L, ?_, l2⟩
  refine te_newG (g := GL0) dL_law_0 nO_9_8 hF (n0 := 1) rfl (by decide) hz0 (show GL0.2.2.2.1 + 1 ≤ gE.2.2.2.1 by rw [cE.1]; decide) (show GL0.2.2.2.2 + 11 ≤ gE.2.2.2.2 by rw [cE.2]; decide) ?_
  refine te_dup dL_law_3 ?_
  refine te_callc (h := (G6, I0)) (h2 := (i6, J)) (av := []) dL_law_4 cO_9_15 oX6_init rfl (by decide) rfl (by decide) (by decide) j1 (show i6.2.2.2.1 ≤ gE.2.2.2.1 by rw [cE.1, ci6.1]; decide) (show i6.2.2.2.2 ≤ gE.2.2.2.2 by rw [cE.2, ci6.2]; decide) rfl ?_
  refine te_astore_n dL_law_7 (show 1 < 7 by decide) (ls' := [some (.inr (some 0)), some (.inr (some 1)), none, none, none, none, none]) rfl ?_
  refine te_newG (g := i6) dL_law_8 nO_9_16 hF (n0 := 80) g6_l (by decide) zi6 (show i6.2.2.2.1 + 1 ≤ gE.2.2.2.1 by rw [cE.1, ci6.1]; decide) (show i6.2.2.2.2 + 39 ≤ gE.2.2.2.2 by rw [cE.2, ci6.2]; decide) ?_
  refine te_dup dL_law_11 ?_
  refine te_callc (h := (G8, J)) (h2 := (h8, L)) (av := []) dL_law_12 cO_9_18 oX8_init rfl (by decide) rfl (by decide) (by decide) l1 (show h8.2.2.2.1 ≤ gE.2.2.2.1 by rw [cE.1, ch8.1]; decide) (show h8.2.2.2.2 ≤ gE.2.2.2.2 by rw [cE.2, ch8.2]; decide) rfl ?_
  refine te_astore_n dL_law_15 (show 2 < 7 by decide) (ls' := [some (.inr (some 0)), some (.inr (some 1)), some (.inr (some 80)), none, none, none, none]) rfl ?_
  refine te_iconst dL_law_16 ⟨by decide, by decide⟩ ?_
  refine te_newaG (g := h8) (N := 1) dL_law_17 rfl ac_long (by decide) (Or.inr rfl) rfl (by decide) hF (n0 := 152) h8_l (by decide) l3 (show h8.2.2.2.1 + 1 ≤ gE.2.2.2.1 by rw [cE.1, ch8.1]; decide) (show h8.2.2.2.2 + 1 ≤ gE.2.2.2.2 by rw [cE.2, ch8.2]; decide) ?_
  refine te_astore_n dL_law_19 (show 3 < 7 by decide) (ls' := [some (.inr (some 0)), some (.inr (some 1)), some (.inr (some 80)), some (.inr (some 152)), none, none, none]) rfl ?_
  refine te_iconst dL_law_20 ⟨by decide, by decide⟩ ?_
  refine te_istore dL_law_21 (show 4 < 7 by decide) (ls' := lsl 0 none none) rfl ?_
  exact t_done
end TOO
