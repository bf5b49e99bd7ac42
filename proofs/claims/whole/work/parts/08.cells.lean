/-! ===== cells ===== -/
section HRS
variable {Γ : GX}
theorem gV_ref {a : Nat} (ha : 0 < a) : gV Γ (.inr (some a)) = .ref (gB Γ + (a - 1)) := by
  show Value.ref (if a = 0 then gb Γ else gB Γ + (a - 1)) = _
  rw [if_neg (by omega)]
def iT (ty : FieldType) : Bool := match ty with
  | .int => true
  | .boolean => true
  | .byte => true
  | _ => false
def rT (ty : FieldType) : Bool := match ty with
  | .object _ => true
  | .array _ => true
  | _ => false
theorem sv_i {h : AH} {ty : FieldType} {a k : Nat} (ht : iT ty = true) : sv Γ h ty a k = gV Γ (.inl (h.2 a k)) := by
  cases ty <;> first | rfl | cases ht
theorem sv_r {h : AH} {ty : FieldType} {a k : Nat} (ht : rT ty = true) : sv Γ h ty a k = gV Γ (.inr (h.1.2.1 a k)) := by
  cases ty <;> first | rfl | cases ht
theorem HR.upd {h h' : AH} {H H' : Heap} {a : Nat} (hH : HR Γ h H) (ha : 0 < a) (hS : h'.1.1 = h.1.1) (hz : H'.size = H.size) (ho : ∀ z : Nat, z ≠ gB Γ + (a - 1) → H'[z]? = H[z]?)
    (hsv : ∀ b : Nat, b ≠ a → ∀ (ty : FieldType) (j : Nat), sv Γ h' ty b j = sv Γ h ty b j) (hR : ∀ b j : Nat, inR (h'.2 b j))
    (hob : ∀ ci : Nat, h.1.1[a]? = some (.inl ci) → ci < 9 ∧ t_OB (gB Γ + (a - 1)) ((gD Γ).1 ci) (cF ci) ((gD Γ).2 ci) H' (fun k => sv Γ h' (cy ci k) a k))
    (har : ∀ (ty : FieldType) (n : Nat), h.1.1[a]? = some (.inr (ty, n)) → H'[gB Γ + (a - 1)]? = some (arrV (gA Γ ty) n (fun k => sv Γ h' ty a k))) : HR Γ h' H' := by
  obtain ⟨h1, h2, h3, h4, h5, h6⟩ := hH
  refine ⟨by rw [hS, hz]; exact h1, by rw [hS, hz]; exact h2, fun z hq => ?_, fun b ci hb hs => ?_, fun b ty n hb hs => ?_, hR⟩
  · rw [ho z (by omega)]
    exact h3 z hq
  · rw [hS] at hs
    by_cases e : b = a
    · subst e
      exact hob ci hs
    · obtain ⟨g1, g2⟩ := h4 b ci hb hs
      refine ⟨g1, (g2.kept (ho _ (by omega))).to fun k _ => ?_⟩
      rw [hsv b e]
  · rw [hS] at hs
    by_cases e : b = a
    · subst e
      exact har ty n hs
    · rw [ho _ (by omega), h5 b ty n hb hs]
      congr 2
      funext j
      rw [hsv b e]
/-- a whole number is stored -/
abbrev hI (h : AH) (a k : Nat) (x : Int) : AH := (h.1, mset h.2 a k x)
/-- a reference is stored -/
abbrev hP (h : AH) (a k : Nat) (r : Option Nat) : AH := ((h.1.1, mset h.1.2.1 a k r, h.1.2.2), h.2)
theorem sv_hI {h : AH} {a k : Nat} {x : Int} {b : Nat} (hb : b ≠ a) (ty : FieldType) (j : Nat) : sv Γ (hI h a k x) ty b j = sv Γ h ty b j := by
  cases ty <;> simp only [sv, hI, mset_a _ _ hb]
theorem sv_hIk {h : AH} {a k : Nat} {x : Int} {b : Nat} (ty : FieldType) {j : Nat} (hj : j ≠ k) : sv Γ (hI h a k x) ty b j = sv Γ h ty b j := by
  cases ty <;> simp only [sv, hI, mset_k _ _ hj]
theorem sv_hIs {h : AH} {a k : Nat} {x : Int} {ty : FieldType} (ht : iT ty = true) : sv Γ (hI h a k x) ty a k = gV Γ (.inl x) := by
  rw [sv_i ht]
  simp only [hI, mset_s]
theorem sv_hP {h : AH} {a k : Nat} {r : Option Nat} {b : Nat} (hb : b ≠ a) (ty : FieldType) (j : Nat) : sv Γ (hP h a k r) ty b j = sv Γ h ty b j := by
  cases ty <;> simp only [sv, hP, mset_a _ _ hb]
theorem sv_hPk {h : AH} {a k : Nat} {r : Option Nat} {b : Nat} (ty : FieldType) {j : Nat} (hj : j ≠ k) : sv Γ (hP h a k r) ty b j = sv Γ h ty b j := by
  cases ty <;> simp only [sv, hP, mset_k _ _ hj]
theorem sv_hPs {h : AH} {a k : Nat} {r : Option Nat} {ty : FieldType} (ht : rT ty = true) : sv Γ (hP h a k r) ty a k = gV Γ (.inr r) := by
  rw [sv_r ht]
  simp only [hP, mset_s]
theorem inR_mset {f : Nat → Nat → Int} {a k : Nat} {x : Int} (hf : ∀ b j : Nat, inR (f b j)) (hx : inR x) : ∀ b j : Nat, inR (mset f a k x b j) := by
  intro b j
  unfold mset
  split
  · exact hx
  · exact hf b j
end HRS
section EVH
variable {Γ : GX} {d : Nat} {q : MI} {pc pc' : Nat} {ls ls' : List (Option AV)} {st st' : List AV} {h : AH} {R : AR} {a ci k idx : Nat}
theorem e_getf {v : AV} (hd : decode q.2.2.1 pc = .ok (.getfield idx, 3)) (hf : FOk q.1 idx ci k) (ha : 0 < a) (hs : h.1.1[a]? = some (.inl ci)) (hv : sv Γ h (cy ci k) a k = gV Γ v) (hok : (∀ b j : Nat, inR (h.2 b j)) → okv v) (kk : Ev Γ d q (pc + 3) ls (v :: st) h R) : Ev Γ d q pc ls (.inr (some a) :: st) h R := by
  refine ev_of (fun p e Rm s m args below meth c Q H locs cells slots mls C hl hol hos hH w => ?_) (fun _ hs hi => okS_c (hok hi) (okS_t hs)) kk
  obtain ⟨hci, cell, q1, q2, q3, q4⟩ := hH.2.2.2.1 a ci ha hs
  obtain ⟨hx, hb, hml, hown, hts, hr, hlk, hnm, hKS, hd1, hd2⟩ := C
  obtain ⟨hS, hfc, kC, hkC, hkind⟩ := hKS.1.1 ci _ (cl_at hci)
  obtain ⟨cf, kf, fi, f, hi, hsl⟩ := hS k hf.2.1
  have hst := (u_facts hfc hkC (u_lays hts (cw_ok hci) hf.2.1) hi).1
  have hslot : cell.slots[f.slot]? = some (gV Γ v) := by rw [hsl, q4 k hf.2.1]; exact congrArg some hv
  show W p (gl Γ) e Rm s m args below meth c H locs cells slots Q (F0 m pc mls (gV Γ (.inr (some a)) :: st.map (gV Γ)))
  rw [gV_ref ha]
  rcases hf.2.2 with hl1 | ⟨host, hl1⟩
  · exact W.getf hx hb hown (hts _ hl1) hi hst q1 (by rw [q3]; exact fun h => by cases h) hslot rfl rfl hd w
  · exact va_Wgetf hx hb hown (va_Nw.use rfl (hKS.2.2.1 _ hl1)) hi hst q1 (by rw [q3]; exact fun h => by cases h) hslot rfl rfl hd w
theorem e_geti (hd : decode q.2.2.1 pc = .ok (.getfield idx, 3)) (hf : FOk q.1 idx ci k) (ha : 0 < a) (hs : h.1.1[a]? = some (.inl ci)) (ht : iT (cy ci k) = true) (kk : Ev Γ d q (pc + 3) ls (.inl (h.2 a k) :: st) h R) : Ev Γ d q pc ls (.inr (some a) :: st) h R :=
  e_getf (v := .inl (h.2 a k)) hd hf ha hs (sv_i ht) (fun hi => hi a k) kk
theorem e_getr {b : Nat} (hd : decode q.2.2.1 pc = .ok (.getfield idx, 3)) (hf : FOk q.1 idx ci k) (ha : 0 < a) (hs : h.1.1[a]? = some (.inl ci)) (ht : rT (cy ci k) = true) (hp : h.1.2.1 a k = some b) (kk : Ev Γ d q (pc + 3) ls (.inr (some b) :: st) h R) : Ev Γ d q pc ls (.inr (some a) :: st) h R :=
  e_getf (v := .inr (some b)) hd hf ha hs (by rw [sv_r ht, hp]) (fun _ => trivial) kk
/-- putfield, of a field that isn't final -/
theorem e_put {v : AV} {h' : AH} (hd : decode q.2.2.1 pc = .ok (.putfield idx, 3)) (hf : FOk q.1 idx ci k) (ha : 0 < a) (hs : h.1.1[a]? = some (.inl ci)) (hfin : (cT ci k).2.2.2 = false) (hn : narrow (cy ci k) (gV Γ v) = gV Γ v) (hfit : fits (cy ci k) (gV Γ v) = true)
    (hS : h'.1.1 = h.1.1) (hc1 : h'.1.2.2.2 = h.1.2.2.2) (hsv : ∀ b : Nat, b ≠ a → ∀ (ty : FieldType) (j : Nat), sv Γ h' ty b j = sv Γ h ty b j) (hsk : ∀ (ty : FieldType) (j : Nat), j ≠ k → sv Γ h' ty a j = sv Γ h ty a j) (hss : sv Γ h' (cy ci k) a k = gV Γ v)
    (hR : (∀ b j : Nat, inR (h.2 b j)) → okv v → ∀ b j : Nat, inR (h'.2 b j)) (kk : Ev Γ d q (pc + 3) ls st h' R) : Ev Γ d q pc ls (v :: .inr (some a) :: st) h R := by
  intro p e Rm s m args below meth c Q n0 s0 C h1 h2 hK H locs cells slots mls hl hol hos hH hz hc hsl
  obtain ⟨hci, cell, q1, q2, q3, q4⟩ := hH.2.2.2.1 a ci ha hs
  have C' := C
  obtain ⟨hx, hb, hml, hown, hts, hr, hlk, hnm, hKS, hd1, hd2⟩ := C
  have hap := va_apart (own := cN q.1) hts (cw_ok hci) (cy ci) (cy_ok hci) (cn_ok hci) hKS.1 (cl_at hci)
  obtain ⟨hS2, hfc, kC, hkC, hkind⟩ := hKS.1.1 ci _ (cl_at hci)
  obtain ⟨cf, kf, fi, f, hi, hsl2⟩ := hS2 k hf.2.1
  have hlay := hts _ (cw_ok hci _ (u_in_lay hf.2.1))
  unfold u_lay at hlay
  rw [if_neg (by rw [hfin]; decide)] at hlay
  have hst := (u_facts hfc hkC (u_lays hts (cw_ok hci) hf.2.1) hi).1
  have h6 := u_store hfc hkC hkind hlay hi (cy_ok hci k hf.2.1) hn hfit
  show W p (gl Γ) e Rm s m args below meth c H locs cells slots Q (F0 m pc mls (gV Γ v :: gV Γ (.inr (some a)) :: st.map (gV Γ)))
  rw [gV_ref ha]
  have fin : ∀ H' : Heap, H'[gB Γ + (a - 1)]? = some (cell.setSlot f.slot (gV Γ v)) → H'.size = H.size → (∀ z, z ≠ gB Γ + (a - 1) → H'[z]? = H[z]?) → W p (gl Γ) e Rm s m args below meth c H' (locs ++ [⟨gB Γ + (a - 1), f.slot⟩]) cells slots Q (F0 m (pc + 3) mls (st.map (gV Γ))) := by
    intro H' e1 e2 e3
    refine kk p e Rm s m args below meth c Q n0 s0 C' h1 h2 hK H' _ cells slots mls hl hol (okS_t (okS_t hos)) (hH.upd ha hS e2 e3 hsv (hR hH.2.2.2.2.2 (okS_h hos)) (fun ci' hs' => ?_) (fun ty n hs' => ?_)) (fun z hz' => ?_) (by rw [hc1]; exact hc) (by rw [hc1]; exact hsl)
    · rw [hs] at hs'
      cases hs'
      rw [hsl2] at e1
      refine ⟨hci, t_OB.to (V := updV (fun j => sv Γ h (cy ci j) a j) k (gV Γ v)) ⟨_, e1, q2, q3, t_set q4 hap hf.2.1 _⟩ (fun j _ => ?_)⟩
      by_cases e : j = k
      · subst e
        simp only [updV, if_pos]
        exact hss.symm
      · simp only [updV, if_neg e]
        exact (hsk _ _ e).symm
    · rw [hs] at hs'
      cases hs'
    · rcases List.mem_append.mp hz' with hz' | hz'
      · exact hz z hz'
      · rw [List.mem_singleton.mp hz']
        show gB Γ ≤ gB Γ + (a - 1)
        omega
  rcases hf.2.2 with hl1 | ⟨host, hl1⟩
  · exact W.putK hx hb (f := f) ⟨hown, hts _ hl1, ⟨_, _, _, hi⟩, hst⟩ (by rw [q2]; exact h6) q1 q3 (by rw [hsl2]; exact k2_hasslot (q4 k hf.2.1)) rfl rfl hd fin
  · exact va_WputK hx hb (f := f) hown (va_Nw.use rfl (hKS.2.2.1 _ hl1)) hi hst (by rw [q2]; exact h6) q1 q3 (by rw [hsl2]; exact k2_hasslot (q4 k hf.2.1)) rfl rfl hd fin
theorem e_puti {x : Int} (hd : decode q.2.2.1 pc = .ok (.putfield idx, 3)) (hf : FOk q.1 idx ci k) (ha : 0 < a) (hs : h.1.1[a]? = some (.inl ci)) (hfin : (cT ci k).2.2.2 = false) (hty : cy ci k = .int) (kk : Ev Γ d q (pc + 3) ls st (hI h a k x) R) : Ev Γ d q pc ls (.inl x :: .inr (some a) :: st) h R :=
  e_put (h' := hI h a k x) hd hf ha hs hfin (by rw [hty]; rfl) (by rw [hty]; rfl) rfl rfl (fun b hb => sv_hI hb) (fun ty j hj => sv_hIk ty hj) (sv_hIs (by rw [hty]; rfl)) (fun hi hv => inR_mset hi hv) kk
theorem bool_n {x : Int} (hx : x = 0 ∨ x = 1) : narrow .boolean (.int (Int32.ofInt x)) = .int (Int32.ofInt x) := by
  rcases hx with rfl | rfl <;> decide
theorem bool_f {x : Int} (hx : x = 0 ∨ x = 1) : fits .boolean (.int (Int32.ofInt x)) = true := by
  rcases hx with rfl | rfl <;> decide
theorem e_putz {x : Int} (hd : decode q.2.2.1 pc = .ok (.putfield idx, 3)) (hf : FOk q.1 idx ci k) (ha : 0 < a) (hs : h.1.1[a]? = some (.inl ci)) (hfin : (cT ci k).2.2.2 = false) (hty : cy ci k = .boolean) (hx : x = 0 ∨ x = 1) (kk : Ev Γ d q (pc + 3) ls st (hI h a k x) R) : Ev Γ d q pc ls (.inl x :: .inr (some a) :: st) h R :=
  e_put (h' := hI h a k x) hd hf ha hs hfin (by rw [hty]; exact bool_n hx) (by rw [hty]; exact bool_f hx) rfl rfl (fun b hb => sv_hI hb) (fun ty j hj => sv_hIk ty hj) (sv_hIs (by rw [hty]; rfl)) (fun hi hv => inR_mset hi hv) kk
theorem ref_n {ty : FieldType} (ht : rT ty = true) (r : Option Nat) : narrow ty (gV Γ (.inr r)) = gV Γ (.inr r) := by
  cases ty <;> first | (cases r <;> rfl) | cases ht
theorem ref_f {ty : FieldType} (ht : rT ty = true) (r : Option Nat) : fits ty (gV Γ (.inr r)) = true := by
  cases ty <;> first | (cases r <;> rfl) | cases ht
theorem e_putr {b : Nat} (hd : decode q.2.2.1 pc = .ok (.putfield idx, 3)) (hf : FOk q.1 idx ci k) (ha : 0 < a) (hs : h.1.1[a]? = some (.inl ci)) (hfin : (cT ci k).2.2.2 = false) (ht : rT (cy ci k) = true) (kk : Ev Γ d q (pc + 3) ls st (hP h a k (some b)) R) : Ev Γ d q pc ls (.inr (some b) :: .inr (some a) :: st) h R :=
  e_put (h' := hP h a k (some b)) hd hf ha hs hfin (ref_n ht _) (ref_f ht _) rfl rfl (fun b hb => sv_hP hb) (fun ty j hj => sv_hPk ty hj) (sv_hPs ht) (fun hi _ => hi) kk
/-! arrays -/
theorem in_ok {i : Int} {n : Nat} (hi : inR i) (h0 : 0 ≤ i) (h1 : i < n) : ¬ (Int32.ofInt i < 0 ∨ n ≤ (Int32.ofInt i).toNatClampNeg) := by
  rw [inR_lt0 hi, inR_cl hi]
  omega
theorem e_ald {i : Int} {n : Nat} {ty : FieldType} {v : AV} {ins : Instr}
    (row : ∀ (p : Program) (e : Env) (Rm : Room) (s : State) (m : MethodId) (args : Array Value) (below : List Frame) (meth : Method) (c : Code) (Q : State → Prop) (H : Heap) (locs : List Loc) (cells slots : Nat) (mls : Array Slot) (cell : Cell), Cx Γ d q p Rm s m args meth c → H[gB Γ + (a - 1)]? = some cell → s.isArrayOf cell ty → cell.vm ≠ .unknown → ¬ (Int32.ofInt i < 0 ∨ cell.slots.size ≤ (Int32.ofInt i).toNatClampNeg) → cell.slots[(Int32.ofInt i).toNatClampNeg]? = some (gV Γ v) →
      W p (gl Γ) e Rm s m args below meth c H locs cells slots Q (F0 m (pc + 1) mls (gV Γ v :: st.map (gV Γ))) → W p (gl Γ) e Rm s m args below meth c H locs cells slots Q (F0 m pc mls (.int (Int32.ofInt i) :: .ref (gB Γ + (a - 1)) :: st.map (gV Γ))))
    (hty : ty ∈ aTy) (ha : 0 < a) (hs : h.1.1[a]? = some (.inr (ty, n))) (h0 : 0 ≤ i) (h1 : i < n) (hv : sv Γ h ty a i.toNat = gV Γ v) (hok : (∀ b j : Nat, inR (h.2 b j)) → okv v) (kk : Ev Γ d q (pc + 1) ls (v :: st) h R) : Ev Γ d q pc ls (.inl i :: .inr (some a) :: st) h R := by
  refine ev_of (fun p e Rm s m args below meth c Q H locs cells slots mls C hl hol hos hH w => ?_) (fun _ hs hi => okS_c (hok hi) (okS_t (okS_t hs))) kk
  have hi : inR i := okS_h hos
  have hcell := hH.2.2.2.2.1 a ty n ha hs
  show W p (gl Γ) e Rm s m args below meth c H locs cells slots Q (F0 m pc mls (.int (Int32.ofInt i) :: gV Γ (.inr (some a)) :: st.map (gV Γ)))
  rw [gV_ref ha]
  refine row p e Rm s m args below meth c Q H locs cells slots mls _ C hcell ((C.2.2.2.2.2.2.2.2.1.2.1 ty hty).1 n _) (fun z => by cases z) (by rw [arrV_size]; exact in_ok hi h0 h1) ?_ w
  rw [inR_cl hi, arrV_read _ _ (by omega), hv]
theorem e_iald {i : Int} {n : Nat} (hd : decode q.2.2.1 pc = .ok (.iaload, 1)) (ha : 0 < a) (hs : h.1.1[a]? = some (.inr (.int, n))) (h0 : 0 ≤ i) (h1 : i < n) (kk : Ev Γ d q (pc + 1) ls (.inl (h.2 a i.toNat) :: st) h R) : Ev Γ d q pc ls (.inl i :: .inr (some a) :: st) h R :=
  e_ald (ty := .int) (ins := .iaload) (v := .inl (h.2 a i.toNat)) (fun _ _ _ _ _ _ _ _ _ _ _ _ _ _ _ _ C h1 h2 h3 h4 h5 w => W.iald C.1 C.2.1 h1 h2 h3 h4 h5 rfl rfl hd w) (by decide) ha hs h0 h1 rfl (fun hi => hi _ _) kk
theorem e_bald {i : Int} {n : Nat} (hd : decode q.2.2.1 pc = .ok (.baload, 1)) (ha : 0 < a) (hs : h.1.1[a]? = some (.inr (.byte, n))) (h0 : 0 ≤ i) (h1 : i < n) (kk : Ev Γ d q (pc + 1) ls (.inl (h.2 a i.toNat) :: st) h R) : Ev Γ d q pc ls (.inl i :: .inr (some a) :: st) h R :=
  e_ald (ty := .byte) (ins := .iaload) (v := .inl (h.2 a i.toNat)) (fun _ _ _ _ _ _ _ _ _ _ _ _ _ _ _ _ C h1 h2 h3 h4 h5 w => W.bald C.1 C.2.1 h1 h2 h3 h4 h5 rfl rfl hd w) (by decide) ha hs h0 h1 rfl (fun hi => hi _ _) kk
theorem e_zald {i : Int} {n : Nat} (hd : decode q.2.2.1 pc = .ok (.baload, 1)) (ha : 0 < a) (hs : h.1.1[a]? = some (.inr (.boolean, n))) (h0 : 0 ≤ i) (h1 : i < n) (kk : Ev Γ d q (pc + 1) ls (.inl (h.2 a i.toNat) :: st) h R) : Ev Γ d q pc ls (.inl i :: .inr (some a) :: st) h R :=
  e_ald (ty := .boolean) (ins := .iaload) (v := .inl (h.2 a i.toNat)) (fun _ _ _ _ _ _ _ _ _ _ _ _ _ _ _ _ C h1 h2 h3 h4 h5 w => W.zald C.1 C.2.1 h1 h2 h3 h4 h5 rfl rfl hd w) (by decide) ha hs h0 h1 rfl (fun hi => hi _ _) kk
theorem e_aald {i : Int} {n b : Nat} (hd : decode q.2.2.1 pc = .ok (.aaload, 1)) (ha : 0 < a) (hs : h.1.1[a]? = some (.inr (.array .int, n))) (h0 : 0 ≤ i) (h1 : i < n) (hp : h.1.2.1 a i.toNat = some b) (kk : Ev Γ d q (pc + 1) ls (.inr (some b) :: st) h R) : Ev Γ d q pc ls (.inl i :: .inr (some a) :: st) h R :=
  e_ald (ty := .array .int) (ins := .aaload) (v := .inr (some b)) (fun _ _ _ _ _ _ _ _ _ _ _ _ _ _ _ _ C h1 h2 h3 h4 h5 w => W.aald C.1 C.2.1 h1 h2 rfl h3 h4 h5 rfl rfl hd w) (by decide) ha hs h0 h1 (by rw [sv_r rfl, hp]) (fun _ => trivial) kk
theorem e_alen {n : Nat} {ty : FieldType} (hd : decode q.2.2.1 pc = .ok (.arraylength, 1)) (hty : ty ∈ aTy) (ha : 0 < a) (hs : h.1.1[a]? = some (.inr (ty, n))) (hn : (n : Int) < 2147483648) (kk : Ev Γ d q (pc + 1) ls (.inl (n : Int) :: st) h R) : Ev Γ d q pc ls (.inr (some a) :: st) h R := by
  refine ev_of (fun p e Rm s m args below meth c Q H locs cells slots mls C hl hol hos hH w => ?_) (fun _ hs hi => okS_i (show inR (n : Int) from ⟨by omega, hn⟩) (okS_t hs)) kk
  have hcell := hH.2.2.2.2.1 a ty n ha hs
  show W p (gl Γ) e Rm s m args below meth c H locs cells slots Q (F0 m pc mls (gV Γ (.inr (some a)) :: st.map (gV Γ)))
  rw [gV_ref ha]
  refine W.alen (n := Int32.ofInt (n : Int)) C.1 C.2.1 hcell ((C.2.2.2.2.2.2.2.2.1.2.1 ty hty).1 n _) ?_ rfl rfl hd w
  rw [arrV_size, Int32.ofInt_eq_ofNat]
theorem e_ast {i x : Int} {n : Nat} {ty : FieldType} {y : Int}
    (row : ∀ (p : Program) (e : Env) (Rm : Room) (s : State) (m : MethodId) (args : Array Value) (below : List Frame) (meth : Method) (c : Code) (Q : State → Prop) (H : Heap) (locs : List Loc) (cells slots : Nat) (mls : Array Slot) (cell : Cell), Cx Γ d q p Rm s m args meth c → H[gB Γ + (a - 1)]? = some cell → s.isArrayOf cell ty → cell.vm ≠ .unknown → ¬ (Int32.ofInt i < 0 ∨ cell.slots.size ≤ (Int32.ofInt i).toNatClampNeg) →
      (∀ H' : Heap, H'[gB Γ + (a - 1)]? = some (cell.setSlot (Int32.ofInt i).toNatClampNeg (gV Γ (.inl y))) → H'.size = H.size → (∀ z, z ≠ gB Γ + (a - 1) → H'[z]? = H[z]?) → W p (gl Γ) e Rm s m args below meth c H' (locs ++ [⟨gB Γ + (a - 1), (Int32.ofInt i).toNatClampNeg⟩]) cells slots Q (F0 m (pc + 1) mls (st.map (gV Γ)))) →
      W p (gl Γ) e Rm s m args below meth c H locs cells slots Q (F0 m pc mls (.int (Int32.ofInt x) :: .int (Int32.ofInt i) :: .ref (gB Γ + (a - 1)) :: st.map (gV Γ))))
    (hty : ty ∈ aTy) (hi2 : iT ty = true) (ha : 0 < a) (hs : h.1.1[a]? = some (.inr (ty, n))) (h0 : 0 ≤ i) (h1 : i < n) (hy : inR x → inR y) (kk : Ev Γ d q (pc + 1) ls st (hI h a i.toNat y) R) : Ev Γ d q pc ls (.inl x :: .inl i :: .inr (some a) :: st) h R := by
  intro p e Rm s m args below meth c Q n0 s0 C g1 g2 hK H locs cells slots mls hl hol hos hH hz hc hsl
  have hx : inR x := okS_h hos
  have hi : inR i := okS_h (okS_t hos)
  have hcell := hH.2.2.2.2.1 a ty n ha hs
  show W p (gl Γ) e Rm s m args below meth c H locs cells slots Q (F0 m pc mls (.int (Int32.ofInt x) :: .int (Int32.ofInt i) :: gV Γ (.inr (some a)) :: st.map (gV Γ)))
  rw [gV_ref ha]
  refine row p e Rm s m args below meth c Q H locs cells slots mls _ C hcell ((C.2.2.2.2.2.2.2.2.1.2.1 ty hty).1 n _) (fun z => by cases z) (by rw [arrV_size]; exact in_ok hi h0 h1) (fun H' e1 e2 e3 => ?_)
  refine kk p e Rm s m args below meth c Q n0 s0 C g1 g2 hK H' _ cells slots mls hl hol (okS_t (okS_t (okS_t hos))) (hH.upd (h' := hI h a i.toNat y) ha rfl e2 e3 (fun b hb => sv_hI hb) (inR_mset hH.2.2.2.2.2 (hy hx)) (fun ci' hs' => ?_) (fun ty' n' hs' => ?_)) (fun z hz' => ?_) hc hsl
  · rw [hs] at hs'
    cases hs'
  · rw [hs] at hs'
    cases hs'
    rw [e1, arrV_store, inR_cl hi]
    congr 2
    funext j
    by_cases e : j = i.toNat
    · subst e
      simp only [updV, if_pos]
      exact (sv_hIs hi2).symm
    · simp only [updV, if_neg e]
      exact (sv_hIk _ e).symm
  · rcases List.mem_append.mp hz' with hz' | hz'
    · exact hz z hz'
    · rw [List.mem_singleton.mp hz']
      show gB Γ ≤ gB Γ + (a - 1)
      omega
theorem e_iast {i x : Int} {n : Nat} (hd : decode q.2.2.1 pc = .ok (.iastore, 1)) (ha : 0 < a) (hs : h.1.1[a]? = some (.inr (.int, n))) (h0 : 0 ≤ i) (h1 : i < n) (kk : Ev Γ d q (pc + 1) ls st (hI h a i.toNat x) R) : Ev Γ d q pc ls (.inl x :: .inl i :: .inr (some a) :: st) h R :=
  e_ast (ty := .int) (fun _ _ _ _ _ _ _ _ _ _ _ _ _ _ _ _ C h1 h2 h3 h4 w => W.iast C.1 C.2.1 h1 h2 h3 h4 rfl rfl hd w) (by decide) rfl ha hs h0 h1 (fun z => z) kk
theorem e_bast {i x : Int} {n : Nat} (hd : decode q.2.2.1 pc = .ok (.bastore, 1)) (ha : 0 < a) (hs : h.1.1[a]? = some (.inr (.byte, n))) (h0 : 0 ≤ i) (h1 : i < n) (kk : Ev Γ d q (pc + 1) ls st (hI h a i.toNat (bByte x)) R) : Ev Γ d q pc ls (.inl x :: .inl i :: .inr (some a) :: st) h R :=
  e_ast (ty := .byte) (fun _ _ _ _ _ _ _ _ _ _ _ _ _ _ _ _ C h1 h2 h3 h4 w => W.bast C.1 C.2.1 h1 h2 h3 h4 rfl rfl hd (by
    have e : narrow .byte (.int (Int32.ofInt x)) = gV Γ (.inl (bByte x)) := by show Value.int _ = Value.int (Int32.ofInt (Int32.toInt _)); rw [Int32.ofInt_toInt]
    rw [e]
    exact w)) (by decide) rfl ha hs h0 h1 (fun _ => inR_of _) kk
theorem e_zast {i x : Int} {n : Nat} (hd : decode q.2.2.1 pc = .ok (.bastore, 1)) (ha : 0 < a) (hs : h.1.1[a]? = some (.inr (.boolean, n))) (h0 : 0 ≤ i) (h1 : i < n) (hx : x = 0 ∨ x = 1) (kk : Ev Γ d q (pc + 1) ls st (hI h a i.toNat x) R) : Ev Γ d q pc ls (.inl x :: .inl i :: .inr (some a) :: st) h R :=
  e_ast (ty := .boolean) (fun _ _ _ _ _ _ _ _ _ _ _ _ _ _ _ _ C h1 h2 h3 h4 w => W.zast C.1 C.2.1 h1 h2 h3 h4 rfl rfl hd (by
    rw [bool_n hx]
    exact w)) (by decide) rfl ha hs h0 h1 (fun z => z) kk
/-! the end -/
theorem e_ireturn {x : Int} {ty : FieldType} (hd : decode q.2.2.1 pc = .ok (.ireturn, 1)) (hq : q.2.2.2.2.1 = some ty) (hn : narrow ty (.int (Int32.ofInt x)) = .int (Int32.ofInt x)) (hR : R = (some (.inl x), h)) : Ev Γ d q pc ls [.inl x] h R := by
  intro p e Rm s m args below meth c Q n0 s0 C g1 g2 hK H locs cells slots mls hl hol hos hH hz hc hsl
  subst hR
  exact hK pc H locs cells slots mls ⟨hd, ty, hq, hn⟩ hH hz hc hsl (fun v hv => by cases hv; exact okS_h hos)
theorem e_iret {x : Int} (hd : decode q.2.2.1 pc = .ok (.ireturn, 1)) (hq : q.2.2.2.2.1 = some .int) (hR : R = (some (.inl x), h)) : Ev Γ d q pc ls [.inl x] h R := e_ireturn hd hq rfl hR
theorem e_zret {x : Int} (hd : decode q.2.2.1 pc = .ok (.ireturn, 1)) (hq : q.2.2.2.2.1 = some .boolean) (hx : x = 0 ∨ x = 1) (hR : R = (some (.inl x), h)) : Ev Γ d q pc ls [.inl x] h R := e_ireturn hd hq (bool_n hx) hR
theorem e_vret (hd : decode q.2.2.1 pc = .ok (.return_, 1)) (hq : q.2.2.2.2.1 = none) (hR : R = (none, h)) : Ev Γ d q pc ls [] h R := by
  intro p e Rm s m args below meth c Q n0 s0 C g1 g2 hK H locs cells slots mls hl hol hos hH hz hc hsl
  subst hR
  exact hK pc H locs cells slots mls ⟨hd, hq⟩ hH hz hc hsl (fun v hv => by cases hv)
end EVH
