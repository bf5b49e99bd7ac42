/-! ===== at, which may throw; the law's own at, which catches ===== -/
def nse : String := "java/util/NoSuchElementException"
def sup2 : List String := ["java/lang/RuntimeException", "java/lang/Exception"]
abbrev hL (h : AH) (a k : Nat) (v : Int64) : AH := ((h.1.1, h.1.2.1, mset h.1.2.2.1 a k v, h.1.2.2.2), h.2)
/-- one thing more of six fields -/
abbrev xG (g : AG) : AG := (g.1, g.2.1, g.2.2.1, g.2.2.2.1 + 1, g.2.2.2.2 + 6)
abbrev lG (g : AG) (v : Int64) : AG := (g.1, g.2.1, mset g.2.2.1 152 0 v, g.2.2.2)
abbrev mL_at : MI := (9, yL_at, cL_at, 4, some .int, 3, 1)
abbrev wsLa : List Cond := Cond.codeWith yL_at cL_at 4 (some .int) [(0, 9, 12, 13)] :: lw_g
def CTL (Γ : GX) (d : Nat) (av : List AV) (h : AH) (R : AR) : Prop :=
  h.1.2.2.2.1 ≤ R.2.1.2.2.2.1 ∧ h.1.2.2.2.2 ≤ R.2.1.2.2.2.2 ∧
  Met (gl Γ) yL_at wsLa (rmOf d (R.2.1.2.2.2.1 - h.1.2.2.2.1) (R.2.1.2.2.2.2 - h.1.2.2.2.2)) (PcA Γ av h) (QcA Γ R) (R.2.1.2.2.2.1 - h.1.2.2.2.1) (R.2.1.2.2.2.2 - h.1.2.2.2.2) (fun z => gB Γ ≤ z)
section THR
variable {Γ : GX} {g : AG} {I : IF} {d : Nat} {q : MI} {pc : Nat} {ls : List (Option AV)} {st st' : List AV} {h : AH} {R : AR} {a ci k idx : Nat} {H H' : Heap}
/-- more heap, where more is allowed -/
theorem HR.grow (hH : HR Γ h H) (hF : gF Γ = false) (hp : 0 < h.1.1.length) (hz : H.size ≤ H'.size) (ho : ∀ z : Nat, z < H.size → H'[z]? = H[z]?) : HR Γ h H' := by
  obtain ⟨h1, h2, h3, h4, h5, h6⟩ := hH
  refine ⟨by omega, fun z => (by rw [hF] at z; cases z), fun q hq => ?_, fun a ci ha hs => ?_, fun a ty n ha hs => ?_, h6⟩
  · rw [ho q (by omega)]
    exact h3 q hq
  · have hl := (List.getElem?_eq_some_iff.mp hs).1
    obtain ⟨g1, g2⟩ := h4 a ci ha hs
    exact ⟨g1, g2.kept (ho _ (by omega))⟩
  · have hl := (List.getElem?_eq_some_iff.mp hs).1
    rw [ho _ (by omega)]
    exact h5 a ty n ha hs
theorem w_getf {v : AV} {p : Program} {e : Env} {Rm : Room} {s : State} {m : MethodId} {args : Array Value} {below : List Frame} {meth : Method} {c : Code} {Q : State → Prop} {locs : List Loc} {cells slots : Nat} {mls : Array Slot} {vs : List Value} (C : Cx Γ d q p Rm s m args meth c) (hH : HR Γ h H) (hd : decode q.2.2.1 pc = .ok (.getfield idx, 3)) (hf : FOk q.1 idx ci k) (ha : 0 < a) (hs : h.1.1[a]? = some (.inl ci)) (hv : sv Γ h (cy ci k) a k = gV Γ v)
    (w : W p (gl Γ) e Rm s m args below meth c H locs cells slots Q (F0 m (pc + 3) mls (gV Γ v :: vs))) : W p (gl Γ) e Rm s m args below meth c H locs cells slots Q (F0 m pc mls (gV Γ (.inr (some a)) :: vs)) := by
  obtain ⟨hci, cell, q1, q2, q3, q4⟩ := hH.2.2.2.1 a ci ha hs
  obtain ⟨hx, hb, hml, hown, hts, hr, hlk, hnm, hKS, hd1, hd2⟩ := C
  obtain ⟨hS, hfc, kC, hkC, hkind⟩ := hKS.1.1 ci _ (cl_at hci)
  obtain ⟨cf, kf, fi, f, hi, hsl⟩ := hS k hf.2.1
  have hst := (u_facts hfc hkC (u_lays hts (cw_ok hci) hf.2.1) hi).1
  have hslot : cell.slots[f.slot]? = some (gV Γ v) := by rw [hsl, q4 k hf.2.1]; exact congrArg some hv
  rw [gV_ref ha]
  rcases hf.2.2 with hl1 | ⟨host, hl1⟩
  · exact W.getf hx hb hown (hts _ hl1) hi hst q1 (by rw [q3]; exact fun h => by cases h) hslot rfl rfl hd w
  · exact va_Wgetf hx hb hown (va_Nw.use rfl (hKS.2.2.1 _ hl1)) hi hst q1 (by rw [q3]; exact fun h => by cases h) hslot rfl rfl hd w
/-! what a throw needs of the law's start -/
set_option maxRecDepth 100000 in
theorem kx_thr {s : State} (hK : KX Γ s) (hh : ∀ q : Nat, q < gB Γ → H[q]? = (gH Γ)[q]?) :
    (∃ sa : Nat, vk_R (cN 6) 194 "the text has no such byte" sa s) ∧ vx_Zq Bundle.tN "UNASSIGNED_STACK" Bundle.steD (fun z => gB Γ ≤ z) s H ∧ vx_Zq Bundle.tN "SUPPRESSED_SENTINEL" Bundle.listD (fun z => gB Γ ≤ z) s H := by
  obtain ⟨-, hB, s0, h1, h2, h3, h4⟩ := hK
  have hf := flat_of_before _ h2
  have hA : ∀ a : Nat, a < s0.heap.size → ¬ (gB Γ ≤ a) := fun a ha => by rw [h3] at ha; omega
  have kp : ∀ {n dd : String}, vx_Zq Bundle.tN n dd (fun z => gB Γ ≤ z) s0 s0.heap → vx_Zq Bundle.tN n dd (fun z => gB Γ ≤ z) s H := fun z => (vx_Zq.moved h4.alike z).kept (fun a ha _ => by
    rw [h3] at ha ⊢
    exact hh a (by omega))
  have hx : (Cond.exactly (Term.string "ShapeTool" 194) "java/lang/String").before #[Value.ref (gb Γ)] s0 = true := hf _ (by decide +kernel)
  obtain ⟨sa, -, -, -, hsa, -⟩ := Cond.exactly_spec hx
  refine ⟨⟨sa, vk_R.warm h4 (vk_R.of (h1 (Cond.stringRef "ShapeTool" 194 "the text has no such byte") (by decide +kernel)) hsa)⟩, kp (vx_Zqof (h1 _ (by decide +kernel)) (h1 _ (by decide +kernel)) (hf _ (by decide +kernel)) hA), kp (vx_Zqof (h1 _ (by decide +kernel)) (h1 _ (by decide +kernel)) (hf _ (by decide +kernel)) hA)⟩
/-- a word of the law's start, here -/
theorem kx_w {s : State} {args : Array Value} (hK : KX Γ s) {w : Cond} (hw : w ∈ lw_tbl) (hg : (goodWord w || (w.onTables && w.faceAtom)) = true) : w.before args s = true := by
  obtain ⟨-, -, s0, h1, -, -, h4⟩ := hK
  simp only [Bool.or_eq_true, Bool.and_eq_true] at hg
  rcases hg with hg | hg
  · exact word_at h4 (good_of_word hg) (h1 w hw)
  · exact va_tabs hg.1 (rfl : (s0.setVm s.vm).vm = s.vm) (Cond.faceAtom_setVm h4.alike w hg.2 (h1 w hw))
set_option maxRecDepth 100000 in
theorem thr_ws : (Cond.classLink (cN 6) 192 nse :: Cond.initialized nse :: vx_atX (cN 6) 196 nse 13 prog_17_method_4_code sup2).all (fun w => decide (w ∈ lw_tbl) && (goodWord w || (w.onTables && w.faceAtom))) = true := by decide +kernel
/-- AT, where there is such a byte -/
theorem c_at (hg : GOc g) {x : Int} (hx : 0 ≤ x ∧ x < I 3 1) (hl : I 3 1 ≤ 240) : CT Γ 0 mX6_at [.inr (some 1), .inl x] (g, I) (some (.inl (I 4 x.toNat)), (g, I)) := by
  refine CT.of (R := (some (.inl (I 4 x.toNat)), (g, I))) oX6_at (Nat.le_of_ble_eq_true rfl) (Nat.le_refl _) (Nat.le_refl _) ?_
  show Ev Γ 0 mX6_at 0 [some (.inr (some 1)), some (.inl x)] [] (g, I) _
  refine e_iload_n dX6_at_0 rfl ?_
  refine e_if_lt (tgt := 15) dX6_at_1 (by decide) (fun c => absurd c (by omega)) (fun _ => ?_)
  refine e_iload_n dX6_at_4 rfl ?_
  refine e_aload_n dX6_at_5 rfl ?_
  refine e_getr dX6_at_6 fO_6_16 (by decide) (gs_1 hg) rfl (gp_1_2 hg) ?_
  refine e_geti dX6_at_9 fO_6_189 (by decide) (gs_3 hg) rfl ?_
  refine e_ic_lt (tgt := 25) dX6_at_12 (by decide) (fun _ => ?_) (fun c => absurd hx.2 c)
  refine e_aload_n dX6_at_25 rfl ?_
  refine e_getr dX6_at_26 fO_6_16 (by decide) (gs_1 hg) rfl (gp_1_2 hg) ?_
  refine e_getr dX6_at_29 fO_6_199 (by decide) (gs_3 hg) rfl (gp_3_0 hg) ?_
  refine e_iload_n dX6_at_32 rfl ?_
  refine e_iald (n := 240) dX6_at_33 (by decide) (gs_4 hg) hx.1 (by omega) ?_
  exact e_iret dX6_at_34 rfl rfl
set_option maxHeartbeats 1000000 in
/-- AT, where there is none -/
theorem c_atX (hF : gF Γ = false) (hg : GOc g) {x : Int} (hx : x < 0 ∨ I 3 1 ≤ x) : vx_Met (gl Γ) yX6_at (wsM mX6_at) (rmOf 8 1 6) (PcA Γ [.inr (some 1), .inl x] (g, I)) (fun _ _ _ _ => False) (fun E _ t => E = nse ∧ HR Γ (g, I) t.heap) 1 6 (fun z => gB Γ ≤ z) := by
  refine vx_ofW (cc := cX6_at) (maxL := 2) (ret := some .int) (by decide) rfl ?_
  intro p e s m args below meth c s₁ B hml htab hv
  obtain ⟨hargs, hH, hKS, hok⟩ := hv
  have hts := atoms_spec (ws := wsM mX6_at) B.pre
  have hown : s.vm.findClass (cN 6) = some m.cls := findClass_of_methodNamed B.named
  have C : Cx Γ 8 mX6_at p (rmOf 8 1 6) s m args meth c := ⟨B.exec, B.bytes, hml, hown, fun w hw => hts w (List.mem_cons_of_mem _ hw), B.returns, B.notSynchronized, (name_of_methodNamed B.named B.method).1, hKS, Nat.le_refl _, Nat.le_refl _⟩
  have hg1 := C.2.2.2.2.1
  have hix : inR x := hok (.inl x) (List.mem_cons_of_mem _ List.mem_cons_self)
  have hil : inR (I 3 1) := hH.2.2.2.2.2 3 1
  have hp : 0 < g.1.length := by
    have := (List.getElem?_eq_some_iff.mp (gs_1 hg)).1
    omega
  have hKX := hKS.2.2.2.2.2.2.2
  obtain ⟨⟨sa, k1⟩, k2, k3⟩ := kx_thr (H := s.heap) hKX hH.2.2.1
  have wst : ∀ w ∈ Cond.classLink (cN 6) 192 nse :: Cond.initialized nse :: vx_atX (cN 6) 196 nse 13 prog_17_method_4_code sup2, w.before args s = true := fun w hw => by
    have := List.all_eq_true.mp thr_ws w hw
    simp only [Bool.and_eq_true, decide_eq_true_eq] at this
    exact kx_w hKX this.1 this.2
  have key : ∀ mls : Array Slot, LR Γ 2 mls (enL 2 [.inr (some 1), .inl x]) → W p (gl Γ) e (rmOf 8 1 6) s m args below meth c s.heap [] 0 0 (vx_MQ below (fun _ _ _ _ => False) (fun E _ t => E = nse ∧ HR Γ (g, I) t.heap) args s 1 6 (fun z => gB Γ ≤ z)) (F0 m 0 mls []) := by
    intro mls hl
    have t15 : W p (gl Γ) e (rmOf 8 1 6) s m args below meth c s.heap [] 0 0 (vx_MQ below (fun _ _ _ _ => False) (fun E _ t => E = nse ∧ HR Γ (g, I) t.heap) args s 1 6 (fun z => gB Γ ≤ z)) (F0 m 15 mls []) :=
      vx_throwX (rx := prog_17_method_4_code) (ix := 13) (own := cN 6) (cls := nse) (text := "the text has no such byte") (names := sup2) (ik := 192) (is := 194) (ic := 196) (A := fun z => gB Γ ≤ z) B.exec B.bytes hKX.1 (by decide +kernel) (by decide +kernel) (by decide +kernel) (by decide +kernel) hown (by decide) (by decide) (wst _ List.mem_cons_self) (wst _ (List.mem_cons_of_mem _ List.mem_cons_self)) k1 (fun w hw => wst _ (List.mem_cons_of_mem _ (List.mem_cons_of_mem _ hw)))
        (fun w hw => by
          have := List.all_eq_true.mp thr_ws w hw
          simp only [Bool.and_eq_true, Bool.or_eq_true] at this
          unfold vx_ot
          rcases this.2 with y | y
          · rw [y, Bool.or_true]
          · rw [y.1, Bool.true_or]) k2 k3 ⟨Nat.le_refl _, fun _ _ _ => rfl, fun z hz => nomatch hz⟩ (hl.1.trans hml.symm) dX6_at_15 dX6_at_18 dX6_at_19 dX6_at_21 dX6_at_24 (fun z hz => (htab z hz).elim) (by decide) (by decide) (by decide) (by decide) B.notSynchronized
        (fun t _ hz ho => ⟨rfl, hH.grow hF hp hz ho⟩) (fun z hz => nomatch hz) (by decide) (by decide)
    refine lv_iload_n B.exec B.bytes dX6_at_0 rfl (hl.2.2.2 1 (.inl x) rfl) ?_
    refine lv_if_lt (tgt := 15) B.exec B.bytes dX6_at_1 (by decide) (fun _ => t15) (fun c0 => ?_)
    have hx2 : I 3 1 ≤ x := by
      rcases hx with z | z
      · exact absurd ((inR_lt0 hix).2 z) c0
      · exact z
    refine lv_iload_n B.exec B.bytes dX6_at_4 rfl (hl.2.2.2 1 (.inl x) rfl) ?_
    refine lv_aload_n B.exec B.bytes dX6_at_5 rfl (hl.2.2.2 0 (.inr (some 1)) rfl) ?_
    refine w_getf (v := .inr (some 3)) C hH dX6_at_6 fO_6_16 (by decide) (gs_1 hg) (by rw [sv_r rfl]; exact congrArg (fun r => gV Γ (.inr r)) (gp_1_2 hg)) ?_
    refine w_getf (v := .inl (I 3 1)) C hH dX6_at_9 fO_6_189 (by decide) (gs_3 hg) (sv_i rfl) ?_
    refine lv_icmp_lt (tgt := 25) B.exec B.bytes dX6_at_12 (by decide) (fun c1 => ?_) (fun _ => t15)
    exact absurd ((inR_lt hix hil).1 c1) (by omega)
  subst hargs
  rw [lg_entry_eq]
  exact key _ (enL_LR (Nat.le_of_ble_eq_true rfl))
/-! the law's own at -/
theorem Met.ofWT {l : Launch} {y : MethodName} {ws ws' : List Cond} {rm : Room} {Pc : Array Value → State → Prop} {Qc : Array Value → State → Outcome → State → Prop} {mc ms : Nat} {free : Addr → Prop} {cc : ByteArray} {maxL : Nat} {ret : Option FieldType} {hh : List (Nat × Nat × Nat × Nat)}
    (hy : plainName y.cls = true) (hw : ws = Cond.codeWith y cc maxL ret hh :: ws')
    (body : ∀ p e s m args below meth c s₁, BodyLoose p l y (headSpec ws rm) cc maxL ret e s m args below meth c s₁ → c.maxLocals = maxL → c.exceptionTable.toList.map (fun h => (h.startPc, h.endPc, h.handlerPc, h.catchType)) = hh → Pc args s →
      W p l e (headSpec ws rm).room s m args below meth c s.heap [] 0 0 (MQ below Qc args s mc ms free) (entryFrame m args maxL)) : Met l y ws rm Pc Qc mc ms free := by
  refine MetFree.of_bodyS (code := cc) (maxLocals := maxL) (ret := ret) hy ?_ ?_
  · intro args s m h hn
    obtain ⟨m9, meth, c, hn9, h1, h2, h3, h4, -, h5, h6, -⟩ := Cond.codeWith_spec (atoms_spec (ws := ws) h _ (by rw [hw]; exact List.mem_cons_self))
    cases hn.symm.trans hn9
    exact ⟨meth, c, h1, h2, h3, h4, h5, h6⟩
  · intro p e s m args below meth c s₁ B hml hP _
    have hh0 : s₁.heap = s.heap := by rw [B.state]; rfl
    have ht : c.exceptionTable.toList.map (fun h => (h.startPc, h.endPc, h.handlerPc, h.catchType)) = hh := by
      obtain ⟨m9, meth9, c9, hn9, h1, h2, h3, h4, h7, h5, h6, -⟩ := Cond.codeWith_spec (atoms_spec (ws := ws) B.pre _ (by rw [hw]; exact List.mem_cons_self))
      cases Option.some.inj (hn9.symm.trans B.named)
      cases Option.some.inj (h1.symm.trans B.method)
      cases Option.some.inj (h2.symm.trans (Stand.of_body B).code)
      exact h7
    obtain ⟨t, a1, o, b1, b2, b3⟩ := body p e s m args below meth c s₁ B hml ht hP s₁ hh0 (Stand.of_body B)
    exact ⟨t, o, a1, b1, b2, ⟨b3.1, b3.2⟩⟩
set_option maxHeartbeats 1000000 in
theorem CTL.of {av : List AV} (hlen : av.length ≤ 4) (hc : h.1.2.2.2.1 ≤ R.2.1.2.2.2.1) (hs : h.1.2.2.2.2 ≤ R.2.1.2.2.2.2) (k : Ev Γ d mL_at 0 (enL 4 av) [] h R) : CTL Γ d av h R := by
  refine ⟨hc, hs, Met.ofWT (cc := cL_at) (maxL := 4) (ret := some .int) (by decide) rfl ?_⟩
  intro p e s m args below meth c s₁ B hml _ hv
  obtain ⟨rfl, hH, hKS, hok⟩ := hv
  have hts := atoms_spec (ws := wsLa) B.pre
  have hown : s.vm.findClass (cN 9) = some m.cls := findClass_of_methodNamed B.named
  have hlk := B.notSynchronized
  rw [lg_entry_eq]
  refine k p e _ s m _ below meth c _ h.1.2.2.2.1 h.1.2.2.2.2 ⟨B.exec, B.bytes, hml, hown, fun w hw => hts w (List.mem_cons_of_mem _ hw), B.returns, hlk, (name_of_methodNamed B.named B.method).1, hKS, Nat.le_refl _, Nat.le_refl _⟩ ?_ ?_ ?_ s.heap [] 0 0 _ (enL_LR hlen) (enL_ok hok) (fun v hv => by cases hv) hH (fun z hz => by cases hz) rfl rfl
  · show _ ≤ _ + (R.2.1.2.2.2.1 - h.1.2.2.2.1)
    omega
  · show _ ≤ _ + (R.2.1.2.2.2.2 - h.1.2.2.2.2)
    omega
  · intro pc' H' locs' cells' slots' mls' hret hH' hz hcc hss hokr
    obtain ⟨rv, Rh⟩ := R
    dsimp only at hret hH' hcc hss hokr ⊢
    have ec : Rh.1.2.2.2.1 - h.1.2.2.2.1 = cells' := by omega
    have es : Rh.1.2.2.2.2 - h.1.2.2.2.2 = slots' := by omega
    rw [ec, es]
    have hr := B.returns
    rcases rv with _ | x | r
    · cases hret.2
    · obtain ⟨hd, ty, hq, hn⟩ := hret
      exact W.zret B.exec B.bytes (by rw [hr]; exact hq) hn (fun t ht hW => ⟨rfl, by rw [ht]; exact hH', hokr⟩) hz hd
    · exact hret.elim
theorem sv_hL {v : Int64} {b : Nat} (hb : b ≠ a) (ty : FieldType) (j : Nat) : sv Γ (hL h a k v) ty b j = sv Γ h ty b j := by
  cases ty <;> first | rfl | (show Value.long (mset h.1.2.2.1 a k v b j) = Value.long (h.1.2.2.1 b j); rw [mset_a _ _ hb])
theorem e_last {x i : Int} {n : Nat} (hd1 : decode q.2.2.1 pc = .ok (.i2l, 1)) (hd2 : decode q.2.2.1 (pc + 1) = .ok (.lastore, 1)) (ha : 0 < a) (hs : h.1.1[a]? = some (.inr (.long, n))) (h0 : 0 ≤ i) (h1 : i < n) (kk : Ev Γ d q (pc + 2) ls st (hL h a i.toNat (Int32.ofInt x).toInt64) R) : Ev Γ d q pc ls (.inl x :: .inl i :: .inr (some a) :: st) h R := by
  intro p e Rm s m args below meth c Q n0 s0 C g1 g2 hK H locs cells slots mls hl hol hos hH hz hc hsl
  have hi : inR i := okS_h (okS_t hos)
  have hcell := hH.2.2.2.2.1 a .long n ha hs
  show W p (gl Γ) e Rm s m args below meth c H locs cells slots Q (F0 m pc mls (.int (Int32.ofInt x) :: .int (Int32.ofInt i) :: gV Γ (.inr (some a)) :: st.map (gV Γ)))
  rw [gV_ref ha]
  refine lv_i2l C.1 C.2.1 hd1 rfl ?_
  refine W.last C.1 C.2.1 hcell ((C.2.2.2.2.2.2.2.2.1.2.1 .long (by decide)).1 n _) (fun z => by cases z) (by rw [arrV_size]; exact in_ok hi h0 h1) rfl rfl hd2 (fun H' e1 e2 e3 => ?_)
  refine kk p e Rm s m args below meth c Q n0 s0 C g1 g2 hK H' _ cells slots mls hl hol (okS_t (okS_t (okS_t hos))) (hH.upd (h' := hL h a i.toNat (Int32.ofInt x).toInt64) ha rfl e2 e3 (fun b hb => sv_hL hb) hH.2.2.2.2.2 (fun ci' hs' => ?_) (fun ty' n' hs' => ?_)) (fun z hz' => ?_) hc hsl
  · rw [hs] at hs'
    cases hs'
  · rw [hs] at hs'
    cases hs'
    rw [e1, arrV_store, inR_cl hi]
    congr 2
    funext j
    show updV (fun k => Value.long (h.1.2.2.1 a k)) i.toNat (Value.long (Int32.ofInt x).toInt64) j = Value.long (mset h.1.2.2.1 a i.toNat (Int32.ofInt x).toInt64 a j)
    unfold updV
    by_cases e : j = i.toNat
    · subst e
      rw [if_pos rfl, mset_s]
    · rw [if_neg e, mset_k _ _ e]
  · rcases List.mem_append.mp hz' with hz' | hz'
    · exact hz z hz'
    · rw [List.mem_singleton.mp hz']
      show gB Γ ≤ gB Γ + (a - 1)
      omega
/-- the law's at, where there is such a byte -/
theorem c_lat (hg : GOc g) (h152 : g.1[152]? = some (.inr (.long, 1))) {x : Int} (hx : 0 ≤ x ∧ x < I 3 1) (hl : I 3 1 ≤ 240) : CTL Γ 10 [.inr (some 1), .inl x, .inr (some 152)] (g, I) (some (.inl 0), (lG g (Int32.ofInt (I 4 x.toNat)).toInt64, I)) := by
  refine CTL.of (R := (some (.inl 0), (lG g (Int32.ofInt (I 4 x.toNat)).toInt64, I))) (Nat.le_of_ble_eq_true rfl) (Nat.le_refl _) (Nat.le_refl _) ?_
  show Ev Γ 10 mL_at 0 [some (.inr (some 1)), some (.inl x), some (.inr (some 152)), none] [] (g, I) _
  refine e_aload_n dL_at_0 rfl ?_
  refine e_iconst dL_at_1 ⟨by decide, by decide⟩ ?_
  refine e_aload_n dL_at_2 rfl ?_
  refine e_iload_n dL_at_3 rfl ?_
  refine e_callv (av := [.inl x]) (st := [.inl 0, .inr (some 152)]) dL_at_4 cO_9_7 oX6_at rfl (by decide) (gs_1 hg) rfl (by decide) (by decide) (c_at (Γ := Γ) hg hx hl) (Nat.le_refl _) (Nat.le_refl _) rfl rfl ?_
  refine e_last (n := 1) dL_at_7 dL_at_8 (by decide) h152 (by decide) (by decide) ?_
  refine e_goto (tgt := 15) dL_at_9 (by decide) ?_
  refine e_iconst dL_at_15 ⟨by decide, by decide⟩ ?_
  exact e_iret dL_at_16 rfl rfl
set_option maxRecDepth 100000 in
theorem cat_ws : ([Cond.classLink (cN 9) 13 nse, Cond.castable nse nse] : List Cond).all (fun w => decide (w ∈ lw_tbl) && (goodWord w || (w.onTables && w.faceAtom))) = true := by decide +kernel
set_option maxHeartbeats 1000000 in
/-- the law's at, where there is none: caught -/
theorem c_latX (hF : gF Γ = false) (hg : GOc g) {x : Int} (hx : x < 0 ∨ I 3 1 ≤ x) : CTL Γ 10 [.inr (some 1), .inl x, .inr (some 152)] (g, I) (some (.inl 1), (xG g, I)) := by
  refine ⟨Nat.le_succ _, Nat.le_add_right _ _, Met.ofWT (cc := cL_at) (maxL := 4) (ret := some .int) (by decide) rfl ?_⟩
  intro p e s m args below meth c s₁ B hml htab hv
  obtain ⟨rfl, hH, hKS, hok⟩ := hv
  have hts := atoms_spec (ws := wsLa) B.pre
  have hown : s.vm.findClass (cN 9) = some m.cls := findClass_of_methodNamed B.named
  have hg1 : ∀ w ∈ lw_g, w.before _ s = true := fun w hw => hts w (List.mem_cons_of_mem _ hw)
  have hok2 : okS [.inl x] := fun v hv => hok v (by
    rw [List.mem_singleton.mp hv]
    exact List.mem_cons_of_mem _ List.mem_cons_self)
  have ec : g.2.2.2.1 + 1 - g.2.2.2.1 = 1 := by omega
  have es : g.2.2.2.2 + 6 - g.2.2.2.2 = 6 := by omega
  show W p (gl Γ) e (rmOf 10 (g.2.2.2.1 + 1 - g.2.2.2.1) (g.2.2.2.2 + 6 - g.2.2.2.2)) s m _ below meth c s.heap [] 0 0 (MQ below (QcA Γ (some (.inl 1), (xG g, I))) _ s (g.2.2.2.1 + 1 - g.2.2.2.1) (g.2.2.2.2 + 6 - g.2.2.2.2) (fun z => gB Γ ≤ z)) _
  rw [ec, es, lg_entry_eq]
  have hl := enL_LR (Γ := Γ) (n := 4) (av := [.inr (some 1), .inl x, .inr (some 152)]) (Nat.le_of_ble_eq_true rfl)
  generalize (lg_sl (List.map (gV Γ) [Sum.inr (some 1), Sum.inl x, Sum.inr (some 152)]) ++ List.replicate (4 - (lg_sl (List.map (gV Γ) [Sum.inr (some 1), Sum.inl x, Sum.inr (some 152)])).length) Slot.unset).toArray = mls at hl ⊢
  refine lv_aload_n B.exec B.bytes dL_at_0 rfl (hl.2.2.2 2 (.inr (some 152)) rfl) ?_
  refine lv_iconst B.exec B.bytes dL_at_1 (v := 0) rfl ?_
  refine lv_aload_n B.exec B.bytes dL_at_2 rfl (hl.2.2.2 0 (.inr (some 1)) rfl) ?_
  refine lv_iload_n B.exec B.bytes dL_at_3 rfl (hl.2.2.2 1 (.inl x) rfl) ?_
  obtain ⟨hci, cell, q1, q2, q3, q4⟩ := hH.2.2.2.1 1 6 (by decide) (gs_1 hg)
  obtain ⟨hS2, hfc, kC, hkC, hkind⟩ := hKS.1.1 _ _ (cl_at hci)
  obtain ⟨m1, m2, m3, m4, m5, m6, m7, m8, m9, m10, m11, m12⟩ := oX6_at
  have hlen : ∀ sig, parseMethodDescriptor yX6_at.desc = some sig → 1 = sig.parameters.length := fun sig hsig => by
    have m8' : (parseMethodDescriptor yX6_at.desc).map (fun d => d.parameters.length) = some 1 := m8
    rw [hsig] at m8'
    exact (Option.some.inj m8').symm
  have hl1 : Cond.methodLink (cN 9) 7 yX6_at ∈ lw_g := by
    rcases cO_9_7 with y | ⟨host, y⟩
    · exact y
    · exact absurd y (by
        have : ∀ z ∈ nM, ¬ (z.1 = cN 9 ∧ z.2.1 = 7) := by decide +kernel
        exact fun y => this _ y ⟨rfl, rfl⟩)
  have hpre : PreV s s.heap (cN 6) (gB Γ + (1 - 1)) (PcA Γ [.inr (some 1), .inl x] (g, I)) [.int (Int32.ofInt x)] :=
    ⟨PcA_blind, ⟨cell, q1, by rw [q3]; rfl, by rw [q2]; exact hfc⟩, fun U hU hW => ⟨by rw [List.map_cons, gV_ref (by decide)]; rfl, by rw [hU]; exact hH, hKS.warm hW, okS_c trivial hok2⟩⟩
  have run := vx_runV (meth := meth) (g := F0 m 4 mls [.int (Int32.ofInt x), .ref (gB Γ + (1 - 1)), .int 0, .ref (gB Γ + (152 - 1))]) (As := [.int (Int32.ofInt x)]) (rest := [.int 0, .ref (gB Γ + (152 - 1))]) (Ts := lw_g) (e := e) (below := below) (R := rmOf 10 1 6) (H := s.heap) (locs := []) (cells := 0) (slots := 0) (cc := cL_at) (own := cN 9) (index := 7) ⟨B.exec, B.bytes, hml, hown, hg1⟩ (c_atX (Γ := Γ) hF hg hx) ⟨⟨rfl, rfl, by decide, by decide, pay_in hg1 (ws_good oX6_at), List.mem_cons_self, hg1 _ m1, hg1 _ m5, m7, hlen, hg1 _ hl1⟩, hg1 _ (m3 (by decide)), hg1 _ (m4 rfl)⟩ hpre rfl rfl hl.1 rfl (lv_room (Nat.le_of_ble_eq_true rfl)) dL_at_4 ⟨by decide, by decide⟩
  intro T hT X
  rcases run T hT X with ⟨v, st₀, t, T', L, h0, X', hL, e1, e2, hq, -⟩ | ⟨q9, st₀, t, T', L, E, ce, h0, X', hL, e1, e2, ⟨hE, hHR⟩, hce, hcv, hcl, stp⟩
  · exact hq.elim
  · subst hE
    have wst : ∀ w ∈ ([Cond.classLink (cN 9) 13 nse, Cond.castable nse nse] : List Cond), w.before (List.map (gV Γ) [Sum.inr (some 1), Sum.inl x, Sum.inr (some 152)]).toArray s = true := fun w hw => by
      have := List.all_eq_true.mp cat_ws w hw
      simp only [Bool.and_eq_true, decide_eq_true_eq] at this
      exact kx_w hKS.2.2.2.2.2.2.2 this.1 this.2
    obtain ⟨ent, hent⟩ : ∃ ent : ExceptionTableEntry, c.exceptionTable.toList = [ent] ∧ ent.startPc = 0 ∧ ent.endPc = 9 ∧ ent.handlerPc = 12 ∧ ent.catchType = 13 := by
      cases hcs : c.exceptionTable.toList with
      | nil => rw [hcs] at htab; cases htab
      | cons a r =>
        rw [hcs] at htab
        cases r with
        | nil =>
          simp only [List.map_cons, List.map_nil, List.cons.injEq, Prod.mk.injEq, and_true] at htab
          exact ⟨a, rfl, htab.1, htab.2.1, htab.2.2.1, htab.2.2.2⟩
        | cons b r => simp at htab
    obtain ⟨he, en1, en2, en3, en4⟩ := hent
    have fin : W p (gl Γ) e (rmOf 10 1 6) s m (List.map (gV Γ) [Sum.inr (some 1), Sum.inl x, Sum.inr (some 152)]).toArray below meth c T'.heap ([] ++ L) (0 + 1) (0 + 6) (MQ below (QcA Γ (some (.inl 1), (xG g, I))) (List.map (gV Γ) [Sum.inr (some 1), Sum.inl x, Sum.inr (some 152)]).toArray s 1 6 (fun z => gB Γ ≤ z)) (F0 m ent.handlerPc mls [.ref q9]) := by
      rw [en3]
      refine lv_astore_n B.exec B.bytes dL_at_12 rfl hl.has (by decide) rfl (fun ls' _ => ?_)
      refine lv_iconst B.exec B.bytes dL_at_13 (v := 1) rfl ?_
      exact W.iret B.exec B.bytes B.returns (fun t' ht' hW' => ⟨rfl, by rw [ht', e1]; exact hHR, fun v hv => by cases hv; exact ⟨by decide, by decide⟩⟩) hL dL_at_14
    have cx := vx_catch (own := cN 9) (name := nse) (E := nse) (ce := ce) (q := q9) (pc := 4) (ls := mls) (rest := [.int 0, .ref (gB Γ + (152 - 1))]) hown [] ent [] he (fun z hz => nomatch hz) (by unfold covers; rw [en1, en2]; rfl) (by rw [en4]; decide) (by rw [en4]; exact wst _ List.mem_cons_self) (wst _ (List.mem_cons_of_mem _ List.mem_cons_self)) (by rw [e1]; exact hce) hcv hcl fin
    obtain ⟨t2, a1, b1⟩ := cx T' rfl X'
    exact ⟨t2, stp.trans a1, b1⟩
end THR
