/-! ===== contracts and calls ===== -/
def rmOf (d mc ms : Nat) : Room := { frames := d, cells := mc, slots := ms, locals := 64 * d }
def PcA (Γ : GX) (av : List AV) (h : AH) : Array Value → State → Prop := fun args U => args = (av.map (gV Γ)).toArray ∧ HR Γ h U.heap ∧ KS Γ U ∧ okS av
def QcA (Γ : GX) (R : AR) : Array Value → State → Outcome → State → Prop := fun _ _ oc t => oc = .returned (R.1.map (gV Γ)) ∧ HR Γ R.2 t.heap ∧ ∀ v : AV, R.1 = some v → okv v
def wsM (q : MI) : List Cond := Cond.code q.2.1 q.2.2.1 q.2.2.2.1 q.2.2.2.2.1 :: lw_g
/-- THE CONTRACT OF A METHOD: called with these on this heap it answers this and leaves that heap; d frames below it suffice -/
def CT (Γ : GX) (d : Nat) (q : MI) (av : List AV) (h : AH) (R : AR) : Prop :=
  h.1.2.2.2.1 ≤ R.2.1.2.2.2.1 ∧ h.1.2.2.2.2 ≤ R.2.1.2.2.2.2 ∧
  Met (gl Γ) q.2.1 (wsM q) (rmOf d (R.2.1.2.2.2.1 - h.1.2.2.2.1) (R.2.1.2.2.2.2 - h.1.2.2.2.2)) (PcA Γ av h) (QcA Γ R) (R.2.1.2.2.2.1 - h.1.2.2.2.1) (R.2.1.2.2.2.2 - h.1.2.2.2.2) (fun z => gB Γ ≤ z)
section CTS
variable {Γ : GX} {d : Nat} {q : MI} {pc : Nat} {ls : List (Option AV)} {st st' : List AV} {h : AH} {R : AR}
theorem lv_args_c1 (vs : List Value) (hc : ∀ v ∈ vs, v.category = 1) : ∀ i j : Nat, ∀ v : Value, vs[j]? = some v → (i + j, v) ∈ lv_args i vs := by
  induction vs with
  | nil => intro i j v hj; simp at hj
  | cons a r ih =>
    intro i j v hj
    have ha : ¬ a.category = 2 := by rw [hc a List.mem_cons_self]; decide
    unfold lv_args
    rw [if_neg ha]
    cases j with
    | zero =>
      simp at hj
      subst hj
      exact List.mem_cons_self
    | succ j =>
      have h1 := ih (fun v hv => hc v (List.mem_cons_of_mem _ hv)) (i + 1) j v (by simpa using hj)
      rw [show i + (j + 1) = i + 1 + j by omega]
      exact List.mem_cons_of_mem _ h1
theorem lg_sl_c1 (vs : List Value) (hc : ∀ v ∈ vs, v.category = 1) : (lg_sl vs).length = vs.length := by
  induction vs with
  | nil => rfl
  | cons a r ih =>
    have ha : ¬ a.category = 2 := by rw [hc a List.mem_cons_self]; decide
    have h1 := ih (fun v hv => hc v (List.mem_cons_of_mem _ hv))
    unfold lg_sl at h1 ⊢
    rw [List.flatMap_cons, if_neg ha, List.length_append, h1]
    simp
    omega
/-- the locals at a method's entry -/
def enL (n : Nat) (av : List AV) : List (Option AV) := av.map some ++ List.replicate (n - av.length) none
theorem enL_LR {n : Nat} {av : List AV} (hn : av.length ≤ n) : LR Γ n ((lg_sl (av.map (gV Γ)) ++ List.replicate (n - (lg_sl (av.map (gV Γ))).length) Slot.unset).toArray) (enL n av) := by
  have hc : ∀ v ∈ av.map (gV Γ), v.category = 1 := fun v hv => by
    obtain ⟨w, -, rfl⟩ := List.mem_map.mp hv
    exact gV_cat Γ w
  have hln : (lg_sl (av.map (gV Γ))).length = av.length := by rw [lg_sl_c1 _ hc, List.length_map]
  have hl := lv_entry (av.map (gV Γ)) (n := n) (by rw [hln]; exact hn)
  refine ⟨hl.1, hl.2.1, by simp [enL]; omega, fun i v hi => ?_⟩
  have hiv : av[i]? = some v := by
    unfold enL at hi
    by_cases e : i < av.length
    · rw [List.getElem?_append_left (by simpa using e), List.getElem?_map] at hi
      rw [List.getElem?_eq_getElem e] at hi ⊢
      simpa using hi
    · rw [List.getElem?_append_right (by simp; omega), List.getElem?_replicate] at hi
      split at hi <;> simp at hi
  have h2 := lv_args_c1 (av.map (gV Γ)) hc 0 i (gV Γ v) (by rw [List.getElem?_map, hiv]; rfl)
  rw [Nat.zero_add] at h2
  exact hl.2.2 _ h2
theorem enL_ok {n : Nat} {av : List AV} (hv : okS av) : okl (enL n av) := fun v hm => by
  unfold enL at hm
  rcases List.mem_append.mp hm with hm | hm
  · obtain ⟨w, hw, e⟩ := List.mem_map.mp hm
    cases e
    exact hv _ hw
  · have := List.eq_of_mem_replicate hm
    cases this
set_option maxHeartbeats 1000000 in
theorem CT.of {av : List AV} (hm : MOk q) (hlen : av.length ≤ q.2.2.2.1) (hc : h.1.2.2.2.1 ≤ R.2.1.2.2.2.1) (hs : h.1.2.2.2.2 ≤ R.2.1.2.2.2.2) (k : Ev Γ d q 0 (enL q.2.2.2.1 av) [] h R) : CT Γ d q av h R := by
  refine ⟨hc, hs, Met.ofW (cc := q.2.2.1) (maxL := q.2.2.2.1) (ret := q.2.2.2.2.1) hm.2.2.2.2.2.2.2.2.1 rfl ?_⟩
  intro p e s m args below meth c s₁ B hml hv
  obtain ⟨rfl, hH, hKS, hok⟩ := hv
  have hts := atoms_spec (ws := wsM q) B.pre
  have hown : s.vm.findClass q.2.1.cls = some m.cls := findClass_of_methodNamed B.named
  have hlk := B.notSynchronized
  rw [hm.2.2.2.2.2.1] at hown
  rw [lg_entry_eq]
  refine k p e _ s m _ below meth c _ h.1.2.2.2.1 h.1.2.2.2.2 ⟨B.exec, B.bytes, hml, hown, fun w hw => hts w (List.mem_cons_of_mem _ hw), B.returns, hlk, (name_of_methodNamed B.named B.method).1, hKS, Nat.le_refl _, Nat.le_refl _⟩ ?_ ?_ ?_ s.heap [] 0 0 _ (enL_LR hlen) (enL_ok hok) (fun v hv => by cases hv) hH (fun z hz => by cases hz) rfl rfl
  · show _ ≤ _ + (R.2.1.2.2.2.1 - h.1.2.2.2.1)
    omega
  · show _ ≤ _ + (R.2.1.2.2.2.2 - h.1.2.2.2.2)
    omega
  · intro pc' H' locs' cells' slots' mls' hret hH' hz hcc hss hokr
    obtain ⟨rv, Rh⟩ := R
    dsimp only at hret hH' hcc hss hokr ⊢
    have ec : Rh.1.2.2.2.1 - h.1.2.2.2.1 = cells' := by omega
    have es : Rh.1.2.2.2.2 - h.1.2.2.2.2 = slots' := by omega
    rw [ec, es]
    have hr := B.returns
    rcases rv with _ | x | r
    · refine W.vret B.exec B.bytes (by rw [hr]; exact hret.2) (fun t ht hW => ⟨rfl, by rw [ht]; exact hH', hokr⟩) hz hret.1
    · obtain ⟨hd, ty, hq, hn⟩ := hret
      exact W.zret B.exec B.bytes (by rw [hr]; exact hq) hn (fun t ht hW => ⟨rfl, by rw [ht]; exact hH', hokr⟩) hz hd
    · exact hret.elim
theorem ws_good {q' : MI} (hm : MOk q') : GoodIn lw_g (wsM q') := fun w hw => by
  rcases List.mem_cons.mp hw with rfl | hw
  · exact good_gg _ hm.1
  · exact good_gg w hw
theorem sum_cat (l : List AV) : ((l.map (gV Γ)).map fun v => v.category).sum = l.length := by
  induction l with
  | nil => rfl
  | cons a r ih =>
    simp only [List.map_cons, List.sum_cons, List.length_cons, ih, gV_cat]
    omega
theorem run_go {p : Program} {e : Env} {Rm : Room} {s : State} {m : MethodId} {args : Array Value} {below : List Frame} {meth : Method} {c : Code} {Q : State → Prop} {H : Heap} {locs : List Loc} {cells slots mc ms : Nat} {mls : Array Slot} {g : List Value} {as : Array Value} {r : Option AV} {h2 : AH}
    (run : va_Run p (gl Γ) e Rm s m args below meth c H locs cells slots mc ms (F0 m pc mls g) (st.map (gV Γ)) (QcA Γ (r, h2) as) (fun z => gB Γ ≤ z))
    (k : ∀ (H1 : Heap) (L : List Loc), HR Γ h2 H1 → (∀ z ∈ L, gB Γ ≤ z.base) → (∀ v : AV, r = some v → okv v) → W p (gl Γ) e Rm s m args below meth c H1 (locs ++ L) (cells + mc) (slots + ms) Q (F0 m (pc + 3) mls ((r.toList ++ st).map (gV Γ)))) :
    W p (gl Γ) e Rm s m args below meth c H locs cells slots Q (F0 m pc mls g) := by
  intro T hT X
  obtain ⟨v, st₀, t, T', L, h0, X', hL, e1, e2, ⟨hv, hH2, hok⟩, go⟩ := run T hT X
  cases hv
  obtain ⟨t2, a1, b1⟩ := k T'.heap L (by rw [e1]; exact hH2) hL hok T' rfl X'
  refine ⟨t2, go t2 ?_, b1⟩
  have e3 : (r.map (gV Γ)).toList ++ st.map (gV Γ) = (r.toList ++ st).map (gV Γ) := by cases r <;> simp
  show Steps p.tables e below (T'.setTop (F0 m (pc + 3) mls ((r.map (gV Γ)).toList ++ st.map (gV Γ)))) t2
  rw [e3]
  exact a1
theorem okS_res {r : Option AV} (hr : ∀ v : AV, r = some v → okv v) (hs : okS st) : okS (r.toList ++ st) := fun w hw => by
  rcases List.mem_append.mp hw with hw | hw
  · exact hr w (by cases r <;> simp_all)
  · exact hs w hw
theorem okS_rev {av : List AV} {stk : List AV} (hs : okS stk) (he : av.reverse ++ st = stk) : okS av ∧ okS st := by
  subst he
  exact ⟨fun w hw => hs w (List.mem_append_left _ (List.mem_reverse.mpr hw)), fun w hw => hs w (List.mem_append_right _ hw)⟩
theorem PcA_blind {av : List AV} : FrameBlind (PcA Γ av h) := fun a U g mk z => ⟨z.1, z.2.1, z.2.2.1.blind g mk a, z.2.2.2⟩
set_option maxHeartbeats 1000000 in
/-- a call of an object's method -/
theorem e_callv {q' : MI} {a d' idx : Nat} {av stk : List AV} {r : Option AV} {h2 : AH} (hd : decode q.2.2.1 pc = .ok (.invokevirtual idx, 3)) (hco : COk q.1 idx q') (hm : MOk q') (hk : q'.2.2.2.2.2.2 = 0) (ha : 0 < a) (hsh : h.1.1[a]? = some (.inl q'.1)) (hn : av.length = q'.2.2.2.2.2.1) (hst : st.length ≤ 8) (hdd : d' < d)
    (hct : CT Γ d' q' (.inr (some a) :: av) h (r, h2)) (hnc : h2.1.2.2.2.1 ≤ R.2.1.2.2.2.1) (hns : h2.1.2.2.2.2 ≤ R.2.1.2.2.2.2) (hstk : av.reverse ++ .inr (some a) :: st = stk) (hres : r.toList ++ st = st') (k : Ev Γ d q (pc + 3) ls st' h2 R) : Ev Γ d q pc ls stk h R := by
  intro p e Rm s m args below meth c Q n0 s0 C g1 g2 hK H locs cells slots mls hl hol hos hH hz hc hsl
  subst hres
  obtain ⟨hokav, hokst⟩ := okS_rev hos hstk
  obtain ⟨hci, cell, q1, q2, q3, q4⟩ := hH.2.2.2.1 a _ ha hsh
  have C' := C
  obtain ⟨hx, hb, hml, hown, hts, hr, hlk, hnm, hKS, hd1, hd2⟩ := C
  obtain ⟨hS2, hfc, kC, hkC, hkind⟩ := hKS.1.1 _ _ (cl_at hci)
  obtain ⟨m1, m2, m3, m4, m5, m6, m7, m8, m9, m10, m11, m12⟩ := hm
  have hm : MOk q' := ⟨m1, m2, m3, m4, m5, m6, m7, m8, m9, m10, m11, m12⟩
  obtain ⟨c1, c2, hM⟩ := hct
  dsimp only at c1 c2 hM
  have hmap : stk.map (gV Γ) = (av.map (gV Γ)).reverse ++ Value.ref (gB Γ + (a - 1)) :: st.map (gV Γ) := by
    rw [← hstk, List.map_append, List.map_reverse, List.map_cons, gV_ref ha]
  have hpre : PreV s H (cN q'.1) (gB Γ + (a - 1)) (PcA Γ (.inr (some a) :: av) h) (av.map (gV Γ)) :=
    ⟨PcA_blind, ⟨cell, q1, by rw [q3]; rfl, by rw [q2]; exact hfc⟩, fun U hU hW => ⟨by rw [List.map_cons, gV_ref ha], by rw [hU]; exact hH, hKS.warm hW, okS_c trivial hokav⟩⟩
  have hroom : (rmOf d' (h2.1.2.2.2.1 - h.1.2.2.2.1) (h2.1.2.2.2.2 - h.1.2.2.2.2)).frames + 1 ≤ Rm.frames ∧ 8 + (q'.2.2.2.1 + 11) + (rmOf d' (h2.1.2.2.2.1 - h.1.2.2.2.1) (h2.1.2.2.2.2 - h.1.2.2.2.2)).locals ≤ Rm.locals := by
    show d' + 1 ≤ Rm.frames ∧ 8 + (q'.2.2.2.1 + 11) + 64 * d' ≤ Rm.locals
    omega
  have hf : cells + (h2.1.2.2.2.1 - h.1.2.2.2.1) ≤ Rm.cells ∧ slots + (h2.1.2.2.2.2 - h.1.2.2.2.2) ≤ Rm.slots := by omega
  have hlen : ∀ sig, parseMethodDescriptor q'.2.1.desc = some sig → q'.2.2.2.2.2.1 = sig.parameters.length := fun sig hsig => by
    rw [hsig] at m8
    exact (Option.some.inj m8).symm
  have hW8 : 2 * (F0 m pc mls (stk.map (gV Γ))).monitorRoom + ((st.map (gV Γ)).map fun v => v.category).sum ≤ 8 := lv_room (by rw [sum_cat]; exact hst)
  have hsel : (Cond.selects (cN q'.1) q'.2.1 q'.2.1).before args s = true := by
    have := hts _ (m4 hk)
    rwa [m6] at this
  refine run_go (as := (Value.ref (gB Γ + (a - 1)) :: av.map (gV Γ)).toArray) (mc := h2.1.2.2.2.1 - h.1.2.2.2.1) (ms := h2.1.2.2.2.2 - h.1.2.2.2.2) (h2 := h2) (r := r) ?_ (fun H1 L hH1 hL hokr => k p e Rm s m args below meth c Q n0 s0 C' g1 g2 hK H1 _ _ _ mls hl hol (okS_res hokr (okS_t hokst)) hH1 (fun z hz' => (List.mem_append.mp hz').elim (hz z) (hL z)) (by omega) (by omega))
  rcases hco with hl1 | ⟨host, hl1⟩
  · exact va_runV (g := F0 m pc mls (stk.map (gV Γ))) (As := av.map (gV Γ)) (rest := st.map (gV Γ)) (Ts := lw_g) ⟨hx, hb, hml, hown, hts⟩ hM ⟨⟨rfl, rfl, hroom.1, hroom.2, pay_in hts (ws_good hm), List.mem_cons_self, hts _ m1, hts _ m5, m7, hlen, hts _ hl1⟩, hts _ (m3 (by rw [hk]; decide)), hsel⟩ hpre rfl (by rw [List.length_map]; exact hn) hl.1 hmap hW8 hd hf
  · exact va_runVN (g := F0 m pc mls (stk.map (gV Γ))) (As := av.map (gV Γ)) (rest := st.map (gV Γ)) (Ts := lw_g) ⟨hx, hb, hml, hown, hts⟩ hM ⟨⟨⟨rfl, rfl, hroom.1, hroom.2, pay_in hts (ws_good hm), List.mem_cons_self⟩, hts _ m1, hts _ m5, m7, hlen, va_Nw.use rfl (hKS.2.2.2.1 _ hl1)⟩, hts _ (m3 (by rw [hk]; decide)), hsel⟩ hpre rfl (by rw [List.length_map]; exact hn) hl.1 hmap hW8 hd hf
set_option maxHeartbeats 1000000 in
/-- a static call -/
theorem e_calls {q' : MI} {d' idx : Nat} {av stk : List AV} {r : Option AV} {h2 : AH} (hd : decode q.2.2.1 pc = .ok (.invokestatic idx, 3)) (hco : COk q.1 idx q') (hm : MOk q') (hk : q'.2.2.2.2.2.2 = 1) (hn : av.length = q'.2.2.2.2.2.1) (hst : st.length ≤ 8) (hdd : d' < d)
    (hct : CT Γ d' q' av h (r, h2)) (hnc : h2.1.2.2.2.1 ≤ R.2.1.2.2.2.1) (hns : h2.1.2.2.2.2 ≤ R.2.1.2.2.2.2) (hstk : av.reverse ++ st = stk) (hres : r.toList ++ st = st') (k : Ev Γ d q (pc + 3) ls st' h2 R) : Ev Γ d q pc ls stk h R := by
  intro p e Rm s m args below meth c Q n0 s0 C g1 g2 hK H locs cells slots mls hl hol hos hH hz hc hsl
  subst hres
  obtain ⟨hokav, hokst⟩ := okS_rev hos hstk
  have C' := C
  obtain ⟨hx, hb, hml, hown, hts, hr, hlk, hnm, hKS, hd1, hd2⟩ := C
  obtain ⟨m1, m2, m3, m4, m5, m6, m7, m8, m9, m10, m11, m12⟩ := hm
  have hm : MOk q' := ⟨m1, m2, m3, m4, m5, m6, m7, m8, m9, m10, m11, m12⟩
  obtain ⟨c1, c2, hM⟩ := hct
  dsimp only at c1 c2 hM
  have hmap : stk.map (gV Γ) = (av.map (gV Γ)).reverse ++ st.map (gV Γ) := by
    rw [← hstk, List.map_append, List.map_reverse]
  have hpre : PreS s H (PcA Γ av h) (av.map (gV Γ)) := ⟨PcA_blind, fun U hU hW => ⟨rfl, by rw [hU]; exact hH, hKS.warm hW, hokav⟩⟩
  have hroom : (rmOf d' (h2.1.2.2.2.1 - h.1.2.2.2.1) (h2.1.2.2.2.2 - h.1.2.2.2.2)).frames + 1 ≤ Rm.frames ∧ 8 + (q'.2.2.2.1 + 11) + (rmOf d' (h2.1.2.2.2.1 - h.1.2.2.2.1) (h2.1.2.2.2.2 - h.1.2.2.2.2)).locals ≤ Rm.locals := by
    show d' + 1 ≤ Rm.frames ∧ 8 + (q'.2.2.2.1 + 11) + 64 * d' ≤ Rm.locals
    omega
  have hf : cells + (h2.1.2.2.2.1 - h.1.2.2.2.1) ≤ Rm.cells ∧ slots + (h2.1.2.2.2.2 - h.1.2.2.2.2) ≤ Rm.slots := by omega
  have hlen : ∀ sig, parseMethodDescriptor q'.2.1.desc = some sig → q'.2.2.2.2.2.1 = sig.parameters.length := fun sig hsig => by
    rw [hsig] at m8
    exact (Option.some.inj m8).symm
  have hW8 : 2 * (F0 m pc mls (stk.map (gV Γ))).monitorRoom + ((st.map (gV Γ)).map fun v => v.category).sum ≤ 8 := lv_room (by rw [sum_cat]; exact hst)
  refine run_go (as := (av.map (gV Γ)).toArray) (mc := h2.1.2.2.2.1 - h.1.2.2.2.1) (ms := h2.1.2.2.2.2 - h.1.2.2.2.2) (h2 := h2) (r := r) ?_ (fun H1 L hH1 hL hokr => k p e Rm s m args below meth c Q n0 s0 C' g1 g2 hK H1 _ _ _ mls hl hol (okS_res hokr hokst) hH1 (fun z hz' => (List.mem_append.mp hz').elim (hz z) (hL z)) (by omega) (by omega))
  rcases hco with hl1 | ⟨host, hl1⟩
  · exact va_runS (g := F0 m pc mls (stk.map (gV Γ))) (As := av.map (gV Γ)) (rest := st.map (gV Γ)) (Ts := lw_g) ⟨hx, hb, hml, hown, hts⟩ hM ⟨⟨rfl, rfl, hroom.1, hroom.2, pay_in hts (ws_good hm), List.mem_cons_self, hts _ m1, hts _ m5, m7, hlen, hts _ hl1⟩, hts _ (m2 hk)⟩ hpre rfl (by rw [List.length_map]; exact hn) hl.1 hmap hW8 hd hf
  · exact va_runSN (g := F0 m pc mls (stk.map (gV Γ))) (As := av.map (gV Γ)) (rest := st.map (gV Γ)) (Ts := lw_g) ⟨hx, hb, hml, hown, hts⟩ hM ⟨⟨⟨rfl, rfl, hroom.1, hroom.2, pay_in hts (ws_good hm), List.mem_cons_self⟩, hts _ m1, hts _ m5, m7, hlen, va_Nw.use rfl (hKS.2.2.2.1 _ hl1)⟩, hts _ (m2 hk), trivial⟩ hpre rfl (by rw [List.length_map]; exact hn) hl.1 hmap hW8 hd hf
set_option maxHeartbeats 1000000 in
/-- a constructor's call -/
theorem e_callc {q' : MI} {a d' idx : Nat} {av stk : List AV} {h2 : AH} (hd : decode q.2.2.1 pc = .ok (.invokespecial idx, 3)) (hco : COk q.1 idx q') (hm : MOk q') (hk : q'.2.2.2.2.2.2 = 2) (ha : 0 < a) (hn : av.length = q'.2.2.2.2.2.1) (hst : st.length ≤ 8) (hdd : d' < d)
    (hct : CT Γ d' q' (.inr (some a) :: av) h (none, h2)) (hnc : h2.1.2.2.2.1 ≤ R.2.1.2.2.2.1) (hns : h2.1.2.2.2.2 ≤ R.2.1.2.2.2.2) (hstk : av.reverse ++ .inr (some a) :: st = stk) (k : Ev Γ d q (pc + 3) ls st h2 R) : Ev Γ d q pc ls stk h R := by
  intro p e Rm s m args below meth c Q n0 s0 C g1 g2 hK H locs cells slots mls hl hol hos hH hz hc hsl
  obtain ⟨hokav, hokst⟩ := okS_rev hos hstk
  have C' := C
  obtain ⟨hx, hb, hml, hown, hts, hr, hlk, hnm, hKS, hd1, hd2⟩ := C
  obtain ⟨m1, m2, m3, m4, m5, m6, m7, m8, m9, m10, m11, m12⟩ := hm
  have hm : MOk q' := ⟨m1, m2, m3, m4, m5, m6, m7, m8, m9, m10, m11, m12⟩
  obtain ⟨c1, c2, hM⟩ := hct
  dsimp only at c1 c2 hM
  have hmap : stk.map (gV Γ) = (av.map (gV Γ)).reverse ++ Value.ref (gB Γ + (a - 1)) :: st.map (gV Γ) := by
    rw [← hstk, List.map_append, List.map_reverse, List.map_cons, gV_ref ha]
  have hpre : PreS s H (PcA Γ (.inr (some a) :: av) h) (Value.ref (gB Γ + (a - 1)) :: av.map (gV Γ)) :=
    ⟨PcA_blind, fun U hU hW => ⟨by rw [List.map_cons, gV_ref ha], by rw [hU]; exact hH, hKS.warm hW, okS_c trivial hokav⟩⟩
  have hroom : (rmOf d' (h2.1.2.2.2.1 - h.1.2.2.2.1) (h2.1.2.2.2.2 - h.1.2.2.2.2)).frames + 1 ≤ Rm.frames ∧ 8 + (q'.2.2.2.1 + 11) + (rmOf d' (h2.1.2.2.2.1 - h.1.2.2.2.1) (h2.1.2.2.2.2 - h.1.2.2.2.2)).locals ≤ Rm.locals := by
    show d' + 1 ≤ Rm.frames ∧ 8 + (q'.2.2.2.1 + 11) + 64 * d' ≤ Rm.locals
    omega
  have hf : cells + (h2.1.2.2.2.1 - h.1.2.2.2.1) ≤ Rm.cells ∧ slots + (h2.1.2.2.2.2 - h.1.2.2.2.2) ≤ Rm.slots := by omega
  have hlen : ∀ sig, parseMethodDescriptor q'.2.1.desc = some sig → q'.2.2.2.2.2.1 = sig.parameters.length := fun sig hsig => by
    rw [hsig] at m8
    exact (Option.some.inj m8).symm
  have hW8 : 2 * (F0 m pc mls (stk.map (gV Γ))).monitorRoom + ((st.map (gV Γ)).map fun v => v.category).sum ≤ 8 := lv_room (by rw [sum_cat]; exact hst)
  have hret : q'.2.2.2.2.1 = none := (m12 hk).2
  have hwm : Cond.code q'.2.1 q'.2.2.1 q'.2.2.2.1 none ∈ wsM q' := by
    unfold wsM
    rw [hret]
    exact List.mem_cons_self
  have hcd : (Cond.code q'.2.1 q'.2.2.1 q'.2.2.2.1 none).before args s = true := by
    have := hts _ m1
    rwa [hret] at this
  refine run_go (as := (Value.ref (gB Γ + (a - 1)) :: av.map (gV Γ)).toArray) (mc := h2.1.2.2.2.1 - h.1.2.2.2.1) (ms := h2.1.2.2.2.2 - h.1.2.2.2.2) (h2 := h2) (r := none) ?_ (fun H1 L hH1 hL hokr => k p e Rm s m args below meth c Q n0 s0 C' g1 g2 hK H1 _ _ _ mls hl hol (okS_t hokst) hH1 (fun z hz' => (List.mem_append.mp hz').elim (hz z) (hL z)) (by omega) (by omega))
  rcases hco with hl1 | ⟨host, hl1⟩
  · exact va_runI (g := F0 m pc mls (stk.map (gV Γ))) (As := av.map (gV Γ)) (rest := st.map (gV Γ)) (Ts := lw_g) ⟨hx, hb, hml, hown, hts⟩ hM ⟨⟨rfl, rfl, hroom.1, hroom.2, pay_in hts (ws_good hm), hwm, hcd, hts _ m5, m7, hlen, hts _ hl1⟩, (m12 hk).1, hts _ (m3 (by rw [hk]; decide))⟩ hpre rfl (by rw [List.length_map]; exact hn) hl.1 hmap hW8 hd hf
  · exact va_runIN (g := F0 m pc mls (stk.map (gV Γ))) (As := av.map (gV Γ)) (rest := st.map (gV Γ)) (Ts := lw_g) ⟨hx, hb, hml, hown, hts⟩ hM ⟨⟨⟨rfl, rfl, hroom.1, hroom.2, pay_in hts (ws_good hm), hwm⟩, hcd, hts _ m5, m7, hlen, va_Nw.use rfl (hKS.2.2.2.1 _ hl1)⟩, (m12 hk).1, hts _ (m3 (by rw [hk]; decide))⟩ hpre rfl (by rw [List.length_map]; exact hn) hl.1 hmap hW8 hd hf
end CTS
