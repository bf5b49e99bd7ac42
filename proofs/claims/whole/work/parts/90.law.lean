/-! ===== the law's own rows ===== -/
abbrev qL (nm : String) : MI := (9, ⟨RL, nm, ""⟩, cL_law, 7, some .boolean, 1, 1)
abbrev lsl (i : Int) (x5 x6 : Option AV) : List (Option AV) := [some (.inr (some 0)), some (.inr (some 1)), some (.inr (some 80)), some (.inr (some 152)), some (.inl i), x5, x6]
/-- the script's number -/
def sc (Γ : GX) (n : Int) : Int := (gX Γ n.toNat).toInt
/-- one call further -/
def Nx (g g2 : AG) : Prop := (GOk g2 ∧ g2.1 = g.1) ∧ (g.2.2.2.1 ≤ g2.2.2.2.1 ∧ g2.2.2.2.1 ≤ g.2.2.2.1 + 1) ∧ (g.2.2.2.2 ≤ g2.2.2.2.2 ∧ g2.2.2.2.2 ≤ g.2.2.2.2 + 6)
/-- it ends with true, and with so many things more -/
def Rk (g : AG) (R : AR) (n : Nat) : Prop := R.1 = some (.inl 1) ∧ (g.2.2.2.1 ≤ R.2.1.2.2.2.1 ∧ R.2.1.2.2.2.1 ≤ g.2.2.2.1 + n) ∧ (g.2.2.2.2 ≤ R.2.1.2.2.2.2 ∧ R.2.1.2.2.2.2 ≤ g.2.2.2.2 + 6 * n)
section LAW
variable {Γ : GX} {g : AG} {I J : IF} {d : Nat} {q : MI} {pc : Nat} {ls : List (Option AV)} {st st' : List AV} {h : AH} {R : AR} {nm : String}
theorem e_slen (hd : decode q.2.2.1 pc = .ok (.arraylength, 1)) (kk : Ev Γ d q (pc + 1) ls (.inl (gL Γ : Int) :: st) h R) : Ev Γ d q pc ls (.inr (some 0) :: st) h R := by
  intro p e Rm s m args below meth c Q n0 s0 C g1 g2 hK H locs cells slots mls hl hol hos hH hz hc hsl
  have hKS := C.2.2.2.2.2.2.2.2.1
  have hB := hKS.2.2.2.2.2.1
  have hL := hKS.2.2.2.2.2.2.1
  obtain ⟨scr, x1, x2, x3, x4, x5⟩ := hKS.2.2.2.2.1
  have hcell : H[gb Γ]? = some scr := by rw [hH.2.2.1 _ hB]; exact x1
  have go := kk p e Rm s m args below meth c Q n0 s0 C g1 g2 hK H locs cells slots mls hl hol (okS_i (show inR (gL Γ : Int) from ⟨by omega, by omega⟩) (okS_t hos)) hH hz hc hsl
  show W p (gl Γ) e Rm s m args below meth c H locs cells slots Q (F0 m pc mls (.ref (gb Γ) :: st.map (gV Γ)))
  refine W.alen (n := Int32.ofInt (gL Γ : Int)) C.1 C.2.1 hcell x2 ?_ rfl rfl hd go
  rw [x4, Int32.ofInt_eq_ofNat]
theorem e_sld {i : Int} (hd : decode q.2.2.1 pc = .ok (.iaload, 1)) (h0 : 0 ≤ i) (h1 : i < gL Γ) (kk : Ev Γ d q (pc + 1) ls (.inl (sc Γ i) :: st) h R) : Ev Γ d q pc ls (.inl i :: .inr (some 0) :: st) h R := by
  intro p e Rm s m args below meth c Q n0 s0 C g1 g2 hK H locs cells slots mls hl hol hos hH hz hc hsl
  have hKS := C.2.2.2.2.2.2.2.2.1
  have hB := hKS.2.2.2.2.2.1
  have hi : inR i := okS_h hos
  obtain ⟨scr, x1, x2, x3, x4, x5⟩ := hKS.2.2.2.2.1
  have hcell : H[gb Γ]? = some scr := by rw [hH.2.2.1 _ hB]; exact x1
  have go := kk p e Rm s m args below meth c Q n0 s0 C g1 g2 hK H locs cells slots mls hl hol (okS_i (show inR (sc Γ i) from inR_of _) (okS_t (okS_t hos))) hH hz hc hsl
  show W p (gl Γ) e Rm s m args below meth c H locs cells slots Q (F0 m pc mls (.int (Int32.ofInt i) :: .ref (gb Γ) :: st.map (gV Γ)))
  have e9 : gV Γ (.inl (sc Γ i)) = .int (gX Γ i.toNat) := by
    show Value.int (Int32.ofInt (Int32.toInt _)) = _
    rw [Int32.ofInt_toInt]
  rw [List.map_cons, e9] at go
  refine W.iald C.1 C.2.1 hcell x2 x3 (by rw [x4]; exact in_ok hi h0 h1) ?_ rfl rfl hd go
  rw [inR_cl hi]
  exact x5 _ (by omega)
set_option maxRecDepth 100000 in
theorem lat_ws : ([Cond.codeWith yL_at cL_at 4 (some .int) [(0, 9, 12, 13)], Cond.initialized yL_at.cls, Cond.methodLink (cN 9) 94 yL_at, Cond.static yL_at] : List Cond).all (fun w => decide (w ∈ lw_tbl) && goodWord w) = true := by decide +kernel
set_option maxHeartbeats 1000000 in
theorem e_callsw {d' : Nat} {av stk : List AV} {r : Option AV} {h2 : AH} (hd : decode q.2.2.1 pc = .ok (.invokestatic 94, 3)) (hq9 : q.1 = 9) (hn : av.length = 3) (hst : st.length ≤ 8) (hdd : d' < d)
    (hct : CTL Γ d' av h (r, h2)) (hnc : h2.1.2.2.2.1 ≤ R.2.1.2.2.2.1) (hns : h2.1.2.2.2.2 ≤ R.2.1.2.2.2.2) (hstk : av.reverse ++ st = stk) (hres : r.toList ++ st = st') (k : Ev Γ d q (pc + 3) ls st' h2 R) : Ev Γ d q pc ls stk h R := by
  intro p e Rm s m args below meth c Q n0 s0 C g1 g2 hK H locs cells slots mls hl hol hos hH hz hc hsl
  subst hres
  obtain ⟨hokav, hokst⟩ := okS_rev hos hstk
  have C' := C
  obtain ⟨hx, hb, hml, hown, hts, hr, hlk, hnm, hKS, hd1, hd2⟩ := C
  rw [hq9] at hown
  have wl := mem_l lat_ws
  have w1 := wl _ (List.mem_of_getElem? (i := 0) rfl)
  have w2 := wl _ (List.mem_of_getElem? (i := 1) rfl)
  have w3 := wl _ (List.mem_of_getElem? (i := 2) rfl)
  have w4 := wl _ (List.mem_of_getElem? (i := 3) rfl)
  have wg : GoodIn lw_g wsLa := fun w hw => by
    rcases List.mem_cons.mp hw with rfl | hw
    · exact good_gg _ w1
    · exact good_gg w hw
  obtain ⟨c1, c2, hMt⟩ := hct
  dsimp only at c1 c2 hMt
  have hmap : stk.map (gV Γ) = (av.map (gV Γ)).reverse ++ st.map (gV Γ) := by
    rw [← hstk, List.map_append, List.map_reverse]
  have hpre : PreS s H (PcA Γ av h) (av.map (gV Γ)) := ⟨PcA_blind, fun U hU hW => ⟨rfl, by rw [hU]; exact hH, hKS.warm hW, hokav⟩⟩
  have hroom : (rmOf d' (h2.1.2.2.2.1 - h.1.2.2.2.1) (h2.1.2.2.2.2 - h.1.2.2.2.2)).frames + 1 ≤ Rm.frames ∧ 8 + (4 + 11) + (rmOf d' (h2.1.2.2.2.1 - h.1.2.2.2.1) (h2.1.2.2.2.2 - h.1.2.2.2.2)).locals ≤ Rm.locals := by
    show d' + 1 ≤ Rm.frames ∧ 8 + (4 + 11) + 64 * d' ≤ Rm.locals
    omega
  have hf : cells + (h2.1.2.2.2.1 - h.1.2.2.2.1) ≤ Rm.cells ∧ slots + (h2.1.2.2.2.2 - h.1.2.2.2.2) ≤ Rm.slots := by omega
  have hlen : ∀ sig, parseMethodDescriptor yL_at.desc = some sig → 3 = sig.parameters.length := fun sig hsig => by
    have m8 : (parseMethodDescriptor yL_at.desc).map (fun d => d.parameters.length) = some 3 := by decide +kernel
    rw [hsig] at m8
    exact (Option.some.inj m8).symm
  have hW8 : 2 * (F0 m pc mls (stk.map (gV Γ))).monitorRoom + ((st.map (gV Γ)).map fun v => v.category).sum ≤ 8 := lv_room (by rw [sum_cat]; exact hst)
  refine run_go (as := (av.map (gV Γ)).toArray) (mc := h2.1.2.2.2.1 - h.1.2.2.2.1) (ms := h2.1.2.2.2.2 - h.1.2.2.2.2) (h2 := h2) (r := r) ?_ (fun H1 L hH1 hL hokr => k p e Rm s m args below meth c Q n0 s0 C' g1 g2 hK H1 _ _ _ mls hl hol (okS_res hokr hokst) hH1 (fun z hz' => (List.mem_append.mp hz').elim (hz z) (hL z)) (by omega) (by omega))
  exact vx_runSW (g := F0 m pc mls (stk.map (gV Γ))) (As := av.map (gV Γ)) (rest := st.map (gV Γ)) (Ts := lw_g) (own := cN 9) ⟨hx, hb, hml, hown, hts⟩ hMt ⟨⟨rfl, rfl, hroom.1, hroom.2, pay_in hts wg, List.mem_cons_self⟩, hts _ w1, hts _ w2, ⟨by decide, by decide⟩, hlen, hts _ w3, hts _ w4⟩ hpre rfl (by rw [List.length_map]; exact hn) hl.1 hmap hW8 hd hf
/-- two longs, alike -/
theorem e_lc {b : Int} (hs : h.1.1[152]? = some (.inr (.long, 1))) (hv : h.1.2.2.1 152 0 = (Int32.ofInt b).toInt64) (h6 : ls[6]? = some (some (.inl b))) (k : Ev Γ d (qL nm) 722 ls [] h R) : Ev Γ d (qL nm) 712 ls [.inl 0, .inr (some 152)] h R := by
  intro p e Rm s m args below meth c Q n0 s0 C g1 g2 hK H locs cells slots mls hl hol hos hH hz hc hsl
  have hcell := hH.2.2.2.2.1 152 .long 1 (by decide) hs
  have hi : inR 0 := inR_0
  have go := k p e Rm s m args below meth c Q n0 s0 C g1 g2 hK H locs cells slots mls hl hol (fun v hv => by cases hv) hH hz hc hsl
  show W p (gl Γ) e Rm s m args below meth c H locs cells slots Q (F0 m 712 mls [.int (Int32.ofInt 0), gV Γ (.inr (some 152))])
  rw [gV_ref (by decide)]
  refine W.lald (v := .long ((Int32.ofInt b).toInt64)) C.1 C.2.1 hcell ((C.2.2.2.2.2.2.2.2.1.2.1 .long (by decide)).1 1 _) (fun z => by cases z) (by rw [arrV_size]; exact in_ok hi (by decide) (by decide)) ?_ rfl rfl dL_law_712 ?_
  · rw [inR_cl hi, arrV_read _ _ (by decide)]
    show some (Value.long (h.1.2.2.1 152 0)) = _
    rw [hv]
  · refine lv_iload C.1 C.2.1 dL_law_713 (hl.2.2.2 6 _ h6) ?_
    refine lv_i2l C.1 C.2.1 dL_law_715 rfl ?_
    refine W.lcmp C.1 C.2.1 dL_law_716 ?_
    refine lv_if_eq (tgt := 722) C.1 C.2.1 dL_law_717 (show ((717 : Nat) : Int) + 5 = ((722 : Nat) : Int) by decide) (fun _ => go) (fun c => absurd ?_ c)
    unfold lg_cmp
    simp
theorem Nx.gs {g2 : AG} (h : GOk g2 ∧ g2.1 = g.1 ∧ g2.2.2 = g.2.2) : Nx g g2 := by
  refine ⟨⟨h.1, h.2.1⟩, ?_, ?_⟩
  · rw [h.2.2]
    exact ⟨Nat.le_refl _, Nat.le_succ _⟩
  · rw [h.2.2]
    exact ⟨Nat.le_refl _, Nat.le_add_right _ _⟩
theorem Rk.nx {g2 : AG} {n : Nat} (hr : Rk g2 R n) (hn : Nx g g2) : Rk g R (n + 1) := by
  obtain ⟨r1, ⟨r2, r3⟩, r4, r5⟩ := hr
  obtain ⟨-, ⟨n1, n2⟩, n3, n4⟩ := hn
  refine ⟨r1, ⟨Nat.le_trans n1 r2, ?_⟩, Nat.le_trans n3 r4, ?_⟩ <;> omega
end LAW
