/-! ===== THE PURE MACHINE AND THE MACHINE ===== -/
def inR (x : Int) : Prop := -2147483648 ≤ x ∧ x < 2147483648
theorem inR_t {x : Int} (h : inR x) : (Int32.ofInt x).toInt = x := Int32.toInt_ofInt_of_le (by have := h.1; omega) (by have := h.2; omega)
theorem inR_of (x : Int32) : inR x.toInt := ⟨by have := Int32.le_toInt x; omega, by have := Int32.toInt_lt x; omega⟩
theorem inR_lt {x y : Int} (hx : inR x) (hy : inR y) : Int32.ofInt x < Int32.ofInt y ↔ x < y := by rw [Int32.lt_iff_toInt_lt, inR_t hx, inR_t hy]
theorem inR_le {x y : Int} (hx : inR x) (hy : inR y) : Int32.ofInt x ≤ Int32.ofInt y ↔ x ≤ y := by rw [Int32.le_iff_toInt_le, inR_t hx, inR_t hy]
theorem inR_eq {x y : Int} (hx : inR x) (hy : inR y) : Int32.ofInt x = Int32.ofInt y ↔ x = y := by rw [← Int32.toInt_inj, inR_t hx, inR_t hy]
theorem inR_0 : inR 0 := ⟨by omega, by omega⟩
theorem inR_lt0 {x : Int} (hx : inR x) : Int32.ofInt x < 0 ↔ x < 0 := inR_lt hx inR_0
theorem inR_le0 {x : Int} (hx : inR x) : Int32.ofInt x ≤ 0 ↔ x ≤ 0 := inR_le hx inR_0
theorem inR_gt0 {x : Int} (hx : inR x) : 0 < Int32.ofInt x ↔ 0 < x := inR_lt inR_0 hx
theorem inR_ge0 {x : Int} (hx : inR x) : 0 ≤ Int32.ofInt x ↔ 0 ≤ x := inR_le inR_0 hx
theorem inR_eq0 {x : Int} (hx : inR x) : Int32.ofInt x = 0 ↔ x = 0 := inR_eq hx inR_0
theorem inR_cl {x : Int} (h : inR x) : (Int32.ofInt x).toNatClampNeg = x.toNat := by
  show (Int32.ofInt x).toInt.toNat = _
  rw [inR_t h]
/-- a cell's place -/
def gV (Γ : GX) (v : AV) : Value := match v with
  | .inl x => .int (Int32.ofInt x)
  | .inr none => .null
  | .inr (some a) => .ref (if a = 0 then gb Γ else gB Γ + (a - 1))
def okv (v : AV) : Prop := match v with
  | .inl x => inR x
  | .inr _ => True
theorem gV_cat (Γ : GX) (v : AV) : (gV Γ v).category = 1 := by
  rcases v with x | _ | a <;> rfl
def mset {α : Type} (f : Nat → Nat → α) (a k : Nat) (v : α) : Nat → Nat → α := fun b j => if b = a ∧ j = k then v else f b j
theorem mset_s {α : Type} (f : Nat → Nat → α) (a k : Nat) (v : α) : mset f a k v a k = v := by simp [mset]
theorem mset_a {α : Type} (f : Nat → Nat → α) {a k b j : Nat} (v : α) (h : b ≠ a) : mset f a k v b j = f b j := by simp [mset, h]
theorem mset_k {α : Type} (f : Nat → Nat → α) {a k b j : Nat} (v : α) (h : j ≠ k) : mset f a k v b j = f b j := by simp [mset, h]
/-- the contents of a place, by its type -/
def sv (Γ : GX) (h : AH) (ty : FieldType) (a k : Nat) : Value := match ty with
  | .object _ => gV Γ (.inr (h.1.2.1 a k))
  | .array _ => gV Γ (.inr (h.1.2.1 a k))
  | .long => .long (h.1.2.2.1 a k)
  | _ => .int (Int32.ofInt (h.2 a k))
/-- the heap holds what the pure heap says -/
def HR (Γ : GX) (h : AH) (H : Heap) : Prop :=
  gB Γ + h.1.1.length ≤ H.size + 1 ∧ (gF Γ = true → gB Γ + h.1.1.length = H.size + 1) ∧ (∀ q : Nat, q < gB Γ → H[q]? = (gH Γ)[q]?) ∧
  (∀ a ci : Nat, 0 < a → h.1.1[a]? = some (.inl ci) → ci < 9 ∧ t_OB (gB Γ + (a - 1)) ((gD Γ).1 ci) (cF ci) ((gD Γ).2 ci) H (fun k => sv Γ h (cy ci k) a k)) ∧
  (∀ (a : Nat) (ty : FieldType) (n : Nat), 0 < a → h.1.1[a]? = some (.inr (ty, n)) → H[gB Γ + (a - 1)]? = some (arrV (gA Γ ty) n (fun k => sv Γ h ty a k))) ∧
  ∀ a k : Nat, inR (h.2 a k)
def aTy : List FieldType := [.int, .boolean, .byte, .long, .array .int]
/-- the law's own start, from which all is warmed: its words, its heap -/
def KX (Γ : GX) (s : State) : Prop := (gl Γ).stackTraces = false ∧ gB Γ = (gH Γ).size ∧ ∃ s0 : State, (∀ w ∈ lw_tbl, w.before #[Value.ref (gb Γ)] s0 = true) ∧ (Jvm.Cond.and given_1 narrow_1).before #[Value.ref (gb Γ)] s0 = true ∧ s0.heap = gH Γ ∧ s0.WarmedH s.vm
theorem KX.warm {Γ : GX} {s U : State} (hW : s.WarmedH U.vm) (h : KX Γ s) : KX Γ U := by
  obtain ⟨h1, h2, s0, h3, h4, h5, h6⟩ := h
  exact ⟨h1, h2, s0, h3, h4, h5, State.WarmedH.trans h6 hW⟩
/-- what a method knows of the tables -/
def KS (Γ : GX) (s : State) : Prop :=
  va_K (gD Γ) vwCl [] s ∧ (∀ ty ∈ aTy, ArrOfT s (gA Γ ty) ty ∧ s.vm.findClass ("[" ++ ty.toString) = some (gA Γ ty)) ∧
  (∀ x ∈ nF, va_Nw (.fieldLinkNest x.1 x.2.1 x.2.2.1 x.2.2.2.1 x.2.2.2.2.1 x.2.2.2.2.2) s) ∧ (∀ x ∈ nM, va_Nw (.methodLinkNest x.1 x.2.1 x.2.2.1 x.2.2.2) s) ∧
  va_X (gb Γ) (gL Γ) (gX Γ) s (gH Γ) ∧ gb Γ < gB Γ ∧ gL Γ < 2147483648 ∧ KX Γ s
theorem KS.warm {Γ : GX} {s U : State} (hW : s.WarmedH U.vm) (h : KS Γ s) : KS Γ U := by
  obtain ⟨h1, h2, h3, h4, h5, h6⟩ := h
  refine ⟨va_K.moved hW.alike h1, fun ty ht => ⟨arrOfT_moved hW.alike (h2 ty ht).1, ?_⟩, fun x hx => va_Nw.warmF hW (h3 x hx), fun x hx => va_Nw.warmM hW (h4 x hx), va_X.moved hW.alike h5, h6.1, h6.2.1, h6.2.2.warm hW⟩
  rw [hW.alike.findClass]
  exact (h2 ty ht).2
theorem KS.blind {Γ : GX} {U : State} (g : JFrame) (mk : MethodId) (a : Array Value) (h : KS Γ U) : KS Γ (U.calling g mk a) := by
  obtain ⟨h1, h2, h3, h4, h5, h6⟩ := h
  exact ⟨va_K.moved (u := U) (U := U.calling g mk a) (Vm.Alike.refl U.vm) h1, fun ty ht => ⟨arrOfT_moved (u := U) (E := U.calling g mk a) (Vm.Alike.refl U.vm) (h2 ty ht).1, (h2 ty ht).2⟩, fun x hx => va_Nw.same rfl (rfl : U.vm = (U.calling g mk a).vm) (h3 x hx), fun x hx => va_Nw.same rfl (rfl : U.vm = (U.calling g mk a).vm) (h4 x hx), va_X.moved (u := U) (U := U.calling g mk a) (Vm.Alike.refl U.vm) h5, h6⟩
/-- a method's body stands -/
def Cx (Γ : GX) (d : Nat) (q : MI) (p : Program) (Rm : Room) (s : State) (m : MethodId) (args : Array Value) (meth : Method) (c : Code) : Prop :=
  p.tables.exec = Jvm.exec ∧ c.code = q.2.2.1 ∧ c.maxLocals = q.2.2.2.1 ∧ s.vm.findClass (cN q.1) = some m.cls ∧ (∀ w ∈ lw_g, w.before args s = true) ∧
  meth.sig.returnType = q.2.2.2.2.1 ∧ meth.locks = false ∧ meth.name = q.2.1.name ∧ KS Γ s ∧ d ≤ Rm.frames ∧ 64 * d ≤ Rm.locals
/-- the locals -/
def LR (Γ : GX) (n : Nat) (mls : Array Slot) (ls : List (Option AV)) : Prop :=
  mls.size = n ∧ lv_wf mls ∧ ls.length = n ∧ ∀ (i : Nat) (v : AV), ls[i]? = some (some v) → mls[i]? = some (.val (gV Γ v))
def okl (ls : List (Option AV)) : Prop := ∀ v : AV, some v ∈ ls → okv v
def okS (st : List AV) : Prop := ∀ v ∈ st, okv v
/-- a place at which the method returns with this -/
def retI (q : MI) (pc : Nat) (r : Option AV) : Prop := match r with
  | none => decode q.2.2.1 pc = .ok (.return_, 1) ∧ q.2.2.2.2.1 = none
  | some (.inl x) => decode q.2.2.1 pc = .ok (.ireturn, 1) ∧ ∃ ty : FieldType, q.2.2.2.2.1 = some ty ∧ narrow ty (.int (Int32.ofInt x)) = .int (Int32.ofInt x)
  | some (.inr _) => False
/-- FROM HERE THE METHOD RETURNS, with this answer and this heap -/
def Ev (Γ : GX) (d : Nat) (q : MI) (pc : Nat) (ls : List (Option AV)) (st : List AV) (h : AH) (R : AR) : Prop :=
  ∀ (p : Program) (e : Env) (Rm : Room) (s : State) (m : MethodId) (args : Array Value) (below : List Frame) (meth : Method) (c : Code) (Q : State → Prop) (n0 s0 : Nat),
    Cx Γ d q p Rm s m args meth c → R.2.1.2.2.2.1 ≤ n0 + Rm.cells → R.2.1.2.2.2.2 ≤ s0 + Rm.slots →
    (∀ (pc' : Nat) (H' : Heap) (locs' : List Loc) (cells' slots' : Nat) (mls' : Array Slot), retI q pc' R.1 → HR Γ R.2 H' → (∀ z ∈ locs', gB Γ ≤ z.base) → R.2.1.2.2.2.1 = n0 + cells' → R.2.1.2.2.2.2 = s0 + slots' → (∀ v : AV, R.1 = some v → okv v) →
      W p (gl Γ) e Rm s m args below meth c H' locs' cells' slots' Q (F0 m pc' mls' (R.1.map (gV Γ)).toList)) →
    ∀ (H : Heap) (locs : List Loc) (cells slots : Nat) (mls : Array Slot), LR Γ q.2.2.2.1 mls ls → okl ls → okS st → HR Γ h H → (∀ z ∈ locs, gB Γ ≤ z.base) → h.1.2.2.2.1 = n0 + cells → h.1.2.2.2.2 = s0 + slots →
      W p (gl Γ) e Rm s m args below meth c H locs cells slots Q (F0 m pc mls (st.map (gV Γ)))
section EV
variable {Γ : GX} {d : Nat} {q : MI} {pc pc' : Nat} {ls ls' : List (Option AV)} {st st' : List AV} {h : AH} {R : AR}
/-- an instruction that moves the stack alone -/
theorem ev_of (f : ∀ (p : Program) (e : Env) (Rm : Room) (s : State) (m : MethodId) (args : Array Value) (below : List Frame) (meth : Method) (c : Code) (Q : State → Prop) (H : Heap) (locs : List Loc) (cells slots : Nat) (mls : Array Slot),
      Cx Γ d q p Rm s m args meth c → LR Γ q.2.2.2.1 mls ls → okl ls → okS st → HR Γ h H → W p (gl Γ) e Rm s m args below meth c H locs cells slots Q (F0 m pc' mls (st'.map (gV Γ))) → W p (gl Γ) e Rm s m args below meth c H locs cells slots Q (F0 m pc mls (st.map (gV Γ))))
    (hok : okl ls → okS st → (∀ a k : Nat, inR (h.2 a k)) → okS st') (k : Ev Γ d q pc' ls st' h R) : Ev Γ d q pc ls st h R := by
  intro p e Rm s m args below meth c Q n0 s0 C h1 h2 hK H locs cells slots mls hl hol hos hH hz hc hs
  exact f p e Rm s m args below meth c Q H locs cells slots mls C hl hol hos hH (k p e Rm s m args below meth c Q n0 s0 C h1 h2 hK H locs cells slots mls hl hol (hok hol hos hH.2.2.2.2.2) hH hz hc hs)
theorem okS_c {v : AV} (hv : okv v) (hs : okS st) : okS (v :: st) := fun w hw => by
  rcases List.mem_cons.mp hw with rfl | hw
  · exact hv
  · exact hs w hw
theorem okS_i {x : Int} (hx : inR x) (hs : okS st) : okS (.inl x :: st) := okS_c (v := .inl x) hx hs
theorem okS_t {v : AV} (hs : okS (v :: st)) : okS st := fun w hw => hs w (List.mem_cons_of_mem _ hw)
theorem okS_h {v : AV} (hs : okS (v :: st)) : okv v := hs v List.mem_cons_self
theorem okl_at {i : Nat} {v : AV} (hl : okl ls) (hi : ls[i]? = some (some v)) : okv v := hl v (List.mem_of_getElem? hi)
theorem e_iconst {n : Int} (hd : decode q.2.2.1 pc = .ok (.iconst n, 1)) (hn : inR n) (k : Ev Γ d q (pc + 1) ls (.inl n :: st) h R) : Ev Γ d q pc ls st h R :=
  ev_of (fun _ _ _ _ _ _ _ _ _ _ _ _ _ _ _ C _ _ _ _ w => lv_iconst C.1 C.2.1 hd rfl w) (fun _ hs _ => okS_i hn hs) k
theorem e_bipush {n : Int} (hd : decode q.2.2.1 pc = .ok (.bipush n, 2)) (hv : (Int8.ofInt n).toInt32 = Int32.ofInt n) (hn : inR n) (k : Ev Γ d q (pc + 2) ls (.inl n :: st) h R) : Ev Γ d q pc ls st h R :=
  ev_of (fun _ _ _ _ _ _ _ _ _ _ _ _ _ _ _ C _ _ _ _ w => lv_bipush C.1 C.2.1 hd hv w) (fun _ hs _ => okS_i hn hs) k
theorem e_sipush {n : Int} (hd : decode q.2.2.1 pc = .ok (.sipush n, 3)) (hv : (Int16.ofInt n).toInt32 = Int32.ofInt n) (hn : inR n) (k : Ev Γ d q (pc + 3) ls (.inl n :: st) h R) : Ev Γ d q pc ls st h R :=
  ev_of (fun _ _ _ _ _ _ _ _ _ _ _ _ _ _ _ C _ _ _ _ w => lv_sipush C.1 C.2.1 hd hv w) (fun _ hs _ => okS_i hn hs) k
theorem e_iload_n {j : Fin 4} {x : Int} (hd : decode q.2.2.1 pc = .ok (.iload_n j, 1)) (hi : ls[j.val]? = some (some (.inl x))) (k : Ev Γ d q (pc + 1) ls (.inl x :: st) h R) : Ev Γ d q pc ls st h R :=
  ev_of (fun _ _ _ _ _ _ _ _ _ _ _ _ _ _ _ C hl _ _ _ w => lv_iload_n C.1 C.2.1 hd rfl (hl.2.2.2 _ _ hi) w) (fun hl hs _ => okS_c (okl_at hl hi) hs) k
theorem e_iload {i : Nat} {x : Int} (hd : decode q.2.2.1 pc = .ok (.iload i, 2)) (hi : ls[i]? = some (some (.inl x))) (k : Ev Γ d q (pc + 2) ls (.inl x :: st) h R) : Ev Γ d q pc ls st h R :=
  ev_of (fun _ _ _ _ _ _ _ _ _ _ _ _ _ _ _ C hl _ _ _ w => lv_iload C.1 C.2.1 hd (hl.2.2.2 _ _ hi) w) (fun hl hs _ => okS_c (okl_at hl hi) hs) k
theorem e_aload_n {j : Fin 4} {a : Nat} (hd : decode q.2.2.1 pc = .ok (.aload_n j, 1)) (hi : ls[j.val]? = some (some (.inr (some a)))) (k : Ev Γ d q (pc + 1) ls (.inr (some a) :: st) h R) : Ev Γ d q pc ls st h R :=
  ev_of (fun _ _ _ _ _ _ _ _ _ _ _ _ _ _ _ C hl _ _ _ w => lv_aload_n C.1 C.2.1 hd rfl (hl.2.2.2 _ _ hi) w) (fun hl hs _ => okS_c (okl_at hl hi) hs) k
theorem e_aload {i : Nat} {a : Nat} (hd : decode q.2.2.1 pc = .ok (.aload i, 2)) (hi : ls[i]? = some (some (.inr (some a)))) (k : Ev Γ d q (pc + 2) ls (.inr (some a) :: st) h R) : Ev Γ d q pc ls st h R :=
  ev_of (fun _ _ _ _ _ _ _ _ _ _ _ _ _ _ _ C hl _ _ _ w => lv_aload C.1 C.2.1 hd (hl.2.2.2 _ _ hi) w) (fun hl hs _ => okS_c (okl_at hl hi) hs) k

theorem e_iadd {x y : Int} (hd : decode q.2.2.1 pc = .ok (.iadd, 1)) (hr : inR (x + y)) (k : Ev Γ d q (pc + 1) ls (.inl (x + y) :: st) h R) : Ev Γ d q pc ls (.inl y :: .inl x :: st) h R :=
  ev_of (fun _ _ _ _ _ _ _ _ _ _ _ _ _ _ _ C _ _ _ _ w => lv_iadd C.1 C.2.1 hd (by
    have e : Value.int (Int32.ofInt x + Int32.ofInt y) = gV Γ (.inl (x + y)) := by show _ = Value.int (Int32.ofInt (x + y)); rw [Int32.ofInt_add]
    rw [e]
    exact w)) (fun _ hs _ => okS_i hr (okS_t (okS_t hs))) k
theorem e_isub {x y : Int} (hd : decode q.2.2.1 pc = .ok (.isub, 1)) (hr : inR (x - y)) (k : Ev Γ d q (pc + 1) ls (.inl (x - y) :: st) h R) : Ev Γ d q pc ls (.inl y :: .inl x :: st) h R :=
  ev_of (fun _ _ _ _ _ _ _ _ _ _ _ _ _ _ _ C _ _ _ _ w => lv_isub C.1 C.2.1 hd (by
    have e : Value.int (Int32.ofInt x - Int32.ofInt y) = gV Γ (.inl (x - y)) := by show _ = Value.int (Int32.ofInt (x - y)); rw [Int32.ofInt_sub]
    rw [e]
    exact w)) (fun _ hs _ => okS_i hr (okS_t (okS_t hs))) k
theorem e_imul {x y : Int} (hd : decode q.2.2.1 pc = .ok (.imul, 1)) (hr : inR (x * y)) (k : Ev Γ d q (pc + 1) ls (.inl (x * y) :: st) h R) : Ev Γ d q pc ls (.inl y :: .inl x :: st) h R :=
  ev_of (fun _ _ _ _ _ _ _ _ _ _ _ _ _ _ _ C _ _ _ _ w => lv_imul C.1 C.2.1 hd (by
    have e : Value.int (Int32.ofInt x * Int32.ofInt y) = gV Γ (.inl (x * y)) := by show _ = Value.int (Int32.ofInt (x * y)); rw [Int32.ofInt_mul]
    rw [e]
    exact w)) (fun _ hs _ => okS_i hr (okS_t (okS_t hs))) k
def bAnd (x y : Int) : Int := (Int32.ofInt x &&& Int32.ofInt y).toInt
def bOr (x y : Int) : Int := (Int32.ofInt x ||| Int32.ofInt y).toInt
def bXor (x y : Int) : Int := (Int32.ofInt x ^^^ Int32.ofInt y).toInt
def bShl (x y : Int) : Int := (Int32.ofInt x <<< (Int32.ofInt y &&& 31)).toInt
def bShr (x y : Int) : Int := (Int32.ofInt x >>> (Int32.ofInt y &&& 31)).toInt
def bUsh (x y : Int) : Int := ((Int32.ofInt x).toUInt32 >>> ((Int32.ofInt y).toUInt32 &&& Int32.toUInt32 31)).toInt32.toInt
def bByte (x : Int) : Int := (Int32.ofInt x).toInt8.toInt32.toInt
theorem e_iand {x y : Int} (hd : decode q.2.2.1 pc = .ok (.iand, 1)) (k : Ev Γ d q (pc + 1) ls (.inl (bAnd x y) :: st) h R) : Ev Γ d q pc ls (.inl y :: .inl x :: st) h R :=
  ev_of (fun _ _ _ _ _ _ _ _ _ _ _ _ _ _ _ C _ _ _ _ w => lv_iand C.1 C.2.1 hd (by
    have e : Value.int (Int32.ofInt x &&& Int32.ofInt y) = gV Γ (.inl (bAnd x y)) := by show _ = Value.int (Int32.ofInt (Int32.toInt _)); rw [Int32.ofInt_toInt]
    rw [e]
    exact w)) (fun _ hs _ => okS_i (inR_of _) (okS_t (okS_t hs))) k
theorem e_ior {x y : Int} (hd : decode q.2.2.1 pc = .ok (.ior, 1)) (k : Ev Γ d q (pc + 1) ls (.inl (bOr x y) :: st) h R) : Ev Γ d q pc ls (.inl y :: .inl x :: st) h R :=
  ev_of (fun _ _ _ _ _ _ _ _ _ _ _ _ _ _ _ C _ _ _ _ w => lv_ior C.1 C.2.1 hd (by
    have e : Value.int (Int32.ofInt x ||| Int32.ofInt y) = gV Γ (.inl (bOr x y)) := by show _ = Value.int (Int32.ofInt (Int32.toInt _)); rw [Int32.ofInt_toInt]
    rw [e]
    exact w)) (fun _ hs _ => okS_i (inR_of _) (okS_t (okS_t hs))) k
theorem e_ixor {x y : Int} (hd : decode q.2.2.1 pc = .ok (.ixor, 1)) (k : Ev Γ d q (pc + 1) ls (.inl (bXor x y) :: st) h R) : Ev Γ d q pc ls (.inl y :: .inl x :: st) h R :=
  ev_of (fun _ _ _ _ _ _ _ _ _ _ _ _ _ _ _ C _ _ _ _ w => lv_ixor C.1 C.2.1 hd (by
    have e : Value.int (Int32.ofInt x ^^^ Int32.ofInt y) = gV Γ (.inl (bXor x y)) := by show _ = Value.int (Int32.ofInt (Int32.toInt _)); rw [Int32.ofInt_toInt]
    rw [e]
    exact w)) (fun _ hs _ => okS_i (inR_of _) (okS_t (okS_t hs))) k
theorem e_ishl {x y : Int} (hd : decode q.2.2.1 pc = .ok (.ishl, 1)) (k : Ev Γ d q (pc + 1) ls (.inl (bShl x y) :: st) h R) : Ev Γ d q pc ls (.inl y :: .inl x :: st) h R :=
  ev_of (fun _ _ _ _ _ _ _ _ _ _ _ _ _ _ _ C _ _ _ _ w => lv_ishl C.1 C.2.1 hd (by
    have e : Value.int (Int32.ofInt x <<< (Int32.ofInt y &&& 31)) = gV Γ (.inl (bShl x y)) := by show _ = Value.int (Int32.ofInt (Int32.toInt _)); rw [Int32.ofInt_toInt]
    rw [e]
    exact w)) (fun _ hs _ => okS_i (inR_of _) (okS_t (okS_t hs))) k
theorem e_ishr {x y : Int} (hd : decode q.2.2.1 pc = .ok (.ishr, 1)) (k : Ev Γ d q (pc + 1) ls (.inl (bShr x y) :: st) h R) : Ev Γ d q pc ls (.inl y :: .inl x :: st) h R :=
  ev_of (fun _ _ _ _ _ _ _ _ _ _ _ _ _ _ _ C _ _ _ _ w => lv_ishr C.1 C.2.1 hd (by
    have e : Value.int (Int32.ofInt x >>> (Int32.ofInt y &&& 31)) = gV Γ (.inl (bShr x y)) := by show _ = Value.int (Int32.ofInt (Int32.toInt _)); rw [Int32.ofInt_toInt]
    rw [e]
    exact w)) (fun _ hs _ => okS_i (inR_of _) (okS_t (okS_t hs))) k
theorem e_iushr {x y : Int} (hd : decode q.2.2.1 pc = .ok (.iushr, 1)) (k : Ev Γ d q (pc + 1) ls (.inl (bUsh x y) :: st) h R) : Ev Γ d q pc ls (.inl y :: .inl x :: st) h R :=
  ev_of (fun _ _ _ _ _ _ _ _ _ _ _ _ _ _ _ C _ _ _ _ w => lv_iushr C.1 C.2.1 hd (v := Int32.ofInt (bUsh x y)) (Int32.ofInt_toInt _).symm w) (fun _ hs _ => okS_i (inR_of _) (okS_t (okS_t hs))) k
theorem e_i2b {x : Int} (hd : decode q.2.2.1 pc = .ok (.i2b, 1)) (k : Ev Γ d q (pc + 1) ls (.inl (bByte x) :: st) h R) : Ev Γ d q pc ls (.inl x :: st) h R :=
  ev_of (fun _ _ _ _ _ _ _ _ _ _ _ _ _ _ _ C _ _ _ _ w => lv_i2b C.1 C.2.1 hd (v := Int32.ofInt (bByte x)) (Int32.ofInt_toInt _).symm w) (fun _ hs _ => okS_i (inR_of _) (okS_t hs)) k
theorem e_dup {v : AV} (hd : decode q.2.2.1 pc = .ok (.dup, 1)) (k : Ev Γ d q (pc + 1) ls (v :: v :: st) h R) : Ev Γ d q pc ls (v :: st) h R :=
  ev_of (fun _ _ _ _ _ _ _ _ _ _ _ _ _ _ _ C _ _ _ _ w => lv_dup C.1 C.2.1 hd (gV_cat Γ v) w) (fun _ hs _ => okS_c (okS_h hs) hs) k
theorem e_pop {v : AV} (hd : decode q.2.2.1 pc = .ok (.pop, 1)) (k : Ev Γ d q (pc + 1) ls st h R) : Ev Γ d q pc ls (v :: st) h R :=
  ev_of (fun _ _ _ _ _ _ _ _ _ _ _ _ _ _ _ C _ _ _ _ w => lv_pop C.1 C.2.1 hd (gV_cat Γ v) w) (fun _ hs _ => okS_t hs) k
theorem e_dup2 {v w : AV} (hd : decode q.2.2.1 pc = .ok (.dup2, 1)) (k : Ev Γ d q (pc + 1) ls (v :: w :: v :: w :: st) h R) : Ev Γ d q pc ls (v :: w :: st) h R :=
  ev_of (fun _ _ _ _ _ _ _ _ _ _ _ _ _ _ _ C _ _ _ _ z => lv_dup2_11 C.1 C.2.1 hd (gV_cat Γ v) (gV_cat Γ w) z) (fun _ hs _ => okS_c (okS_h hs) (okS_c (okS_h (okS_t hs)) hs)) k
theorem e_goto {off : Int} {tgt : Nat} (hd : decode q.2.2.1 pc = .ok (.goto off, 3)) (ht : (pc : Int) + off = (tgt : Int)) (k : Ev Γ d q tgt ls st h R) : Ev Γ d q pc ls st h R :=
  ev_of (fun _ _ _ _ _ _ _ _ _ _ _ _ _ _ _ C _ _ _ _ w => lv_goto C.1 C.2.1 hd ht w) (fun _ hs _ => hs) k
theorem e_if_eq {x : Int} {off : Int} {tgt : Nat} (hd : decode q.2.2.1 pc = .ok (.ifCond .eq off, 3)) (ht : (pc : Int) + off = (tgt : Int)) (kt : (x = 0) → Ev Γ d q tgt ls st h R) (kf : (¬ x = 0) → Ev Γ d q (pc + 3) ls st h R) : Ev Γ d q pc ls (.inl x :: st) h R := by
  intro p e Rm s m args below meth c Q n0 s0 C h1 h2 hK H locs cells slots mls hl hol hos hH hz hc hs
  have hx : inR x := okS_h hos
  exact lv_if_eq C.1 C.2.1 hd ht (fun c => kt ((inR_eq0 hx).mp c) p e Rm s m args below meth _ Q n0 s0 C h1 h2 hK H locs cells slots mls hl hol (okS_t hos) hH hz hc hs) (fun c => kf (fun z => c ((inR_eq0 hx).mpr z)) p e Rm s m args below meth _ Q n0 s0 C h1 h2 hK H locs cells slots mls hl hol (okS_t hos) hH hz hc hs)
theorem e_if_ne {x : Int} {off : Int} {tgt : Nat} (hd : decode q.2.2.1 pc = .ok (.ifCond .ne off, 3)) (ht : (pc : Int) + off = (tgt : Int)) (kt : (¬ x = 0) → Ev Γ d q tgt ls st h R) (kf : (x = 0) → Ev Γ d q (pc + 3) ls st h R) : Ev Γ d q pc ls (.inl x :: st) h R := by
  intro p e Rm s m args below meth c Q n0 s0 C h1 h2 hK H locs cells slots mls hl hol hos hH hz hc hs
  have hx : inR x := okS_h hos
  exact lv_if_ne C.1 C.2.1 hd ht (fun c => kt (fun z => c ((inR_eq0 hx).mpr z)) p e Rm s m args below meth _ Q n0 s0 C h1 h2 hK H locs cells slots mls hl hol (okS_t hos) hH hz hc hs) (fun c => kf ((inR_eq0 hx).mp c) p e Rm s m args below meth _ Q n0 s0 C h1 h2 hK H locs cells slots mls hl hol (okS_t hos) hH hz hc hs)
theorem e_if_lt {x : Int} {off : Int} {tgt : Nat} (hd : decode q.2.2.1 pc = .ok (.ifCond .lt off, 3)) (ht : (pc : Int) + off = (tgt : Int)) (kt : (x < 0) → Ev Γ d q tgt ls st h R) (kf : (¬ x < 0) → Ev Γ d q (pc + 3) ls st h R) : Ev Γ d q pc ls (.inl x :: st) h R := by
  intro p e Rm s m args below meth c Q n0 s0 C h1 h2 hK H locs cells slots mls hl hol hos hH hz hc hs
  have hx : inR x := okS_h hos
  exact lv_if_lt C.1 C.2.1 hd ht (fun c => kt ((inR_lt0 hx).mp c) p e Rm s m args below meth _ Q n0 s0 C h1 h2 hK H locs cells slots mls hl hol (okS_t hos) hH hz hc hs) (fun c => kf (fun z => c ((inR_lt0 hx).mpr z)) p e Rm s m args below meth _ Q n0 s0 C h1 h2 hK H locs cells slots mls hl hol (okS_t hos) hH hz hc hs)
theorem e_if_ge {x : Int} {off : Int} {tgt : Nat} (hd : decode q.2.2.1 pc = .ok (.ifCond .ge off, 3)) (ht : (pc : Int) + off = (tgt : Int)) (kt : (0 ≤ x) → Ev Γ d q tgt ls st h R) (kf : (¬ 0 ≤ x) → Ev Γ d q (pc + 3) ls st h R) : Ev Γ d q pc ls (.inl x :: st) h R := by
  intro p e Rm s m args below meth c Q n0 s0 C h1 h2 hK H locs cells slots mls hl hol hos hH hz hc hs
  have hx : inR x := okS_h hos
  exact lv_if_ge C.1 C.2.1 hd ht (fun c => kt ((inR_ge0 hx).mp c) p e Rm s m args below meth _ Q n0 s0 C h1 h2 hK H locs cells slots mls hl hol (okS_t hos) hH hz hc hs) (fun c => kf (fun z => c ((inR_ge0 hx).mpr z)) p e Rm s m args below meth _ Q n0 s0 C h1 h2 hK H locs cells slots mls hl hol (okS_t hos) hH hz hc hs)
theorem e_if_gt {x : Int} {off : Int} {tgt : Nat} (hd : decode q.2.2.1 pc = .ok (.ifCond .gt off, 3)) (ht : (pc : Int) + off = (tgt : Int)) (kt : (0 < x) → Ev Γ d q tgt ls st h R) (kf : (¬ 0 < x) → Ev Γ d q (pc + 3) ls st h R) : Ev Γ d q pc ls (.inl x :: st) h R := by
  intro p e Rm s m args below meth c Q n0 s0 C h1 h2 hK H locs cells slots mls hl hol hos hH hz hc hs
  have hx : inR x := okS_h hos
  exact lv_if_gt C.1 C.2.1 hd ht (fun c => kt ((inR_gt0 hx).mp c) p e Rm s m args below meth _ Q n0 s0 C h1 h2 hK H locs cells slots mls hl hol (okS_t hos) hH hz hc hs) (fun c => kf (fun z => c ((inR_gt0 hx).mpr z)) p e Rm s m args below meth _ Q n0 s0 C h1 h2 hK H locs cells slots mls hl hol (okS_t hos) hH hz hc hs)
theorem e_if_le {x : Int} {off : Int} {tgt : Nat} (hd : decode q.2.2.1 pc = .ok (.ifCond .le off, 3)) (ht : (pc : Int) + off = (tgt : Int)) (kt : (x ≤ 0) → Ev Γ d q tgt ls st h R) (kf : (¬ x ≤ 0) → Ev Γ d q (pc + 3) ls st h R) : Ev Γ d q pc ls (.inl x :: st) h R := by
  intro p e Rm s m args below meth c Q n0 s0 C h1 h2 hK H locs cells slots mls hl hol hos hH hz hc hs
  have hx : inR x := okS_h hos
  exact lv_if_le C.1 C.2.1 hd ht (fun c => kt ((inR_le0 hx).mp c) p e Rm s m args below meth _ Q n0 s0 C h1 h2 hK H locs cells slots mls hl hol (okS_t hos) hH hz hc hs) (fun c => kf (fun z => c ((inR_le0 hx).mpr z)) p e Rm s m args below meth _ Q n0 s0 C h1 h2 hK H locs cells slots mls hl hol (okS_t hos) hH hz hc hs)
theorem e_ic_eq {x y : Int} {off : Int} {tgt : Nat} (hd : decode q.2.2.1 pc = .ok (.if_icmp .eq off, 3)) (ht : (pc : Int) + off = (tgt : Int)) (kt : (x = y) → Ev Γ d q tgt ls st h R) (kf : (¬ x = y) → Ev Γ d q (pc + 3) ls st h R) : Ev Γ d q pc ls (.inl y :: .inl x :: st) h R := by
  intro p e Rm s m args below meth c Q n0 s0 C h1 h2 hK H locs cells slots mls hl hol hos hH hz hc hs
  have hy : inR y := okS_h hos
  have hx : inR x := okS_h (okS_t hos)
  exact lv_icmp_eq C.1 C.2.1 hd ht (fun c => kt ((inR_eq hx hy).mp c) p e Rm s m args below meth _ Q n0 s0 C h1 h2 hK H locs cells slots mls hl hol (okS_t (okS_t hos)) hH hz hc hs) (fun c => kf (fun z => c ((inR_eq hx hy).mpr z)) p e Rm s m args below meth _ Q n0 s0 C h1 h2 hK H locs cells slots mls hl hol (okS_t (okS_t hos)) hH hz hc hs)
theorem e_ic_ne {x y : Int} {off : Int} {tgt : Nat} (hd : decode q.2.2.1 pc = .ok (.if_icmp .ne off, 3)) (ht : (pc : Int) + off = (tgt : Int)) (kt : (¬ x = y) → Ev Γ d q tgt ls st h R) (kf : (x = y) → Ev Γ d q (pc + 3) ls st h R) : Ev Γ d q pc ls (.inl y :: .inl x :: st) h R := by
  intro p e Rm s m args below meth c Q n0 s0 C h1 h2 hK H locs cells slots mls hl hol hos hH hz hc hs
  have hy : inR y := okS_h hos
  have hx : inR x := okS_h (okS_t hos)
  exact lv_icmp_ne C.1 C.2.1 hd ht (fun c => kt (fun z => c ((inR_eq hx hy).mpr z)) p e Rm s m args below meth _ Q n0 s0 C h1 h2 hK H locs cells slots mls hl hol (okS_t (okS_t hos)) hH hz hc hs) (fun c => kf ((inR_eq hx hy).mp c) p e Rm s m args below meth _ Q n0 s0 C h1 h2 hK H locs cells slots mls hl hol (okS_t (okS_t hos)) hH hz hc hs)
theorem e_ic_lt {x y : Int} {off : Int} {tgt : Nat} (hd : decode q.2.2.1 pc = .ok (.if_icmp .lt off, 3)) (ht : (pc : Int) + off = (tgt : Int)) (kt : (x < y) → Ev Γ d q tgt ls st h R) (kf : (¬ x < y) → Ev Γ d q (pc + 3) ls st h R) : Ev Γ d q pc ls (.inl y :: .inl x :: st) h R := by
  intro p e Rm s m args below meth c Q n0 s0 C h1 h2 hK H locs cells slots mls hl hol hos hH hz hc hs
  have hy : inR y := okS_h hos
  have hx : inR x := okS_h (okS_t hos)
  exact lv_icmp_lt C.1 C.2.1 hd ht (fun c => kt ((inR_lt hx hy).mp c) p e Rm s m args below meth _ Q n0 s0 C h1 h2 hK H locs cells slots mls hl hol (okS_t (okS_t hos)) hH hz hc hs) (fun c => kf (fun z => c ((inR_lt hx hy).mpr z)) p e Rm s m args below meth _ Q n0 s0 C h1 h2 hK H locs cells slots mls hl hol (okS_t (okS_t hos)) hH hz hc hs)
theorem e_ic_ge {x y : Int} {off : Int} {tgt : Nat} (hd : decode q.2.2.1 pc = .ok (.if_icmp .ge off, 3)) (ht : (pc : Int) + off = (tgt : Int)) (kt : (y ≤ x) → Ev Γ d q tgt ls st h R) (kf : (¬ y ≤ x) → Ev Γ d q (pc + 3) ls st h R) : Ev Γ d q pc ls (.inl y :: .inl x :: st) h R := by
  intro p e Rm s m args below meth c Q n0 s0 C h1 h2 hK H locs cells slots mls hl hol hos hH hz hc hs
  have hy : inR y := okS_h hos
  have hx : inR x := okS_h (okS_t hos)
  exact lv_icmp_ge C.1 C.2.1 hd ht (fun c => kt ((inR_le hy hx).mp c) p e Rm s m args below meth _ Q n0 s0 C h1 h2 hK H locs cells slots mls hl hol (okS_t (okS_t hos)) hH hz hc hs) (fun c => kf (fun z => c ((inR_le hy hx).mpr z)) p e Rm s m args below meth _ Q n0 s0 C h1 h2 hK H locs cells slots mls hl hol (okS_t (okS_t hos)) hH hz hc hs)
theorem e_ic_gt {x y : Int} {off : Int} {tgt : Nat} (hd : decode q.2.2.1 pc = .ok (.if_icmp .gt off, 3)) (ht : (pc : Int) + off = (tgt : Int)) (kt : (y < x) → Ev Γ d q tgt ls st h R) (kf : (¬ y < x) → Ev Γ d q (pc + 3) ls st h R) : Ev Γ d q pc ls (.inl y :: .inl x :: st) h R := by
  intro p e Rm s m args below meth c Q n0 s0 C h1 h2 hK H locs cells slots mls hl hol hos hH hz hc hs
  have hy : inR y := okS_h hos
  have hx : inR x := okS_h (okS_t hos)
  exact lv_icmp_gt C.1 C.2.1 hd ht (fun c => kt ((inR_lt hy hx).mp c) p e Rm s m args below meth _ Q n0 s0 C h1 h2 hK H locs cells slots mls hl hol (okS_t (okS_t hos)) hH hz hc hs) (fun c => kf (fun z => c ((inR_lt hy hx).mpr z)) p e Rm s m args below meth _ Q n0 s0 C h1 h2 hK H locs cells slots mls hl hol (okS_t (okS_t hos)) hH hz hc hs)
theorem e_ic_le {x y : Int} {off : Int} {tgt : Nat} (hd : decode q.2.2.1 pc = .ok (.if_icmp .le off, 3)) (ht : (pc : Int) + off = (tgt : Int)) (kt : (x ≤ y) → Ev Γ d q tgt ls st h R) (kf : (¬ x ≤ y) → Ev Γ d q (pc + 3) ls st h R) : Ev Γ d q pc ls (.inl y :: .inl x :: st) h R := by
  intro p e Rm s m args below meth c Q n0 s0 C h1 h2 hK H locs cells slots mls hl hol hos hH hz hc hs
  have hy : inR y := okS_h hos
  have hx : inR x := okS_h (okS_t hos)
  exact lv_icmp_le C.1 C.2.1 hd ht (fun c => kt ((inR_le hx hy).mp c) p e Rm s m args below meth _ Q n0 s0 C h1 h2 hK H locs cells slots mls hl hol (okS_t (okS_t hos)) hH hz hc hs) (fun c => kf (fun z => c ((inR_le hx hy).mpr z)) p e Rm s m args below meth _ Q n0 s0 C h1 h2 hK H locs cells slots mls hl hol (okS_t (okS_t hos)) hH hz hc hs)
theorem e_tabIn {dflt lo hi : Int} {offs : Array Int} {len : Nat} {x off : Int} {tgt : Nat} (hd : decode q.2.2.1 pc = .ok (.tableswitch dflt lo hi offs, len)) (h1 : ¬ x < lo) (h2 : ¬ hi < x) (ho : offs[(x - lo).toNat]? = some off) (ht : (pc : Int) + off = (tgt : Int)) (k : Ev Γ d q tgt ls st h R) : Ev Γ d q pc ls (.inl x :: st) h R :=
  ev_of (fun _ _ _ _ _ _ _ _ _ _ _ _ _ _ _ C _ _ hos _ w => lv_tableIn C.1 C.2.1 hd (by rw [inR_t (okS_h hos)]; exact h1) (by rw [inR_t (okS_h hos)]; exact h2) (by rw [inR_t (okS_h hos)]; exact ho) ht w) (fun _ hs _ => okS_t hs) k
theorem e_tabOut {dflt lo hi : Int} {offs : Array Int} {len : Nat} {x : Int} {tgt : Nat} (hd : decode q.2.2.1 pc = .ok (.tableswitch dflt lo hi offs, len)) (h1 : x < lo ∨ hi < x) (ht : (pc : Int) + dflt = (tgt : Int)) (k : Ev Γ d q tgt ls st h R) : Ev Γ d q pc ls (.inl x :: st) h R :=
  ev_of (fun _ _ _ _ _ _ _ _ _ _ _ _ _ _ _ C _ _ hos _ w => lv_tableOut C.1 C.2.1 hd (by rw [inR_t (okS_h hos)]; exact h1) ht w) (fun _ hs _ => okS_t hs) k
theorem e_look {dflt : Int} {ps : Array (Int × Int)} {len : Nat} {x off : Int} {tgt : Nat} (hd : decode q.2.2.1 pc = .ok (.lookupswitch dflt ps, len)) (hp : (ps.toList.zip (ps.toList.drop 1)).all (fun (a, next) => a.1 < next.1) = true) (ho : Op.lookupswitch.offset ps.toList dflt x = off) (ht : (pc : Int) + off = (tgt : Int)) (k : Ev Γ d q tgt ls st h R) : Ev Γ d q pc ls (.inl x :: st) h R :=
  ev_of (fun _ _ _ _ _ _ _ _ _ _ _ _ _ _ _ C _ _ hos _ w => lv_lookup C.1 C.2.1 hd hp (by rw [inR_t (okS_h hos)]; exact ho) ht w) (fun _ hs _ => okS_t hs) k
/-! locals -/
def lvp (Γ : GX) : Nat → List (Option AV) → List (Nat × Value)
  | _, [] => []
  | i, none :: r => lvp Γ (i + 1) r
  | i, some v :: r => (i, gV Γ v) :: lvp Γ (i + 1) r
theorem lvp_mem (ls : List (Option AV)) : ∀ (i : Nat) (z : Nat × Value), z ∈ lvp Γ i ls ↔ ∃ (j : Nat) (v : AV), ls[j]? = some (some v) ∧ z = (i + j, gV Γ v) := by
  induction ls with
  | nil => intro i z; simp [lvp]
  | cons a r ih =>
    intro i z
    cases a with
    | none =>
      simp only [lvp]
      rw [ih]
      constructor
      · rintro ⟨j, v, hj, rfl⟩
        exact ⟨j + 1, v, by simpa using hj, by simp; omega⟩
      · rintro ⟨j, v, hj, rfl⟩
        cases j with
        | zero => simp at hj
        | succ j => exact ⟨j, v, by simpa using hj, by simp; omega⟩
    | some v =>
      simp only [lvp, List.mem_cons]
      rw [ih]
      constructor
      · rintro (rfl | ⟨j, w, hj, rfl⟩)
        · exact ⟨0, v, by simp, by simp⟩
        · exact ⟨j + 1, w, by simpa using hj, by simp; omega⟩
      · rintro ⟨j, w, hj, rfl⟩
        cases j with
        | zero =>
          simp at hj
          subst hj
          exact Or.inl (by simp)
        | succ j => exact Or.inr ⟨j, w, by simpa using hj, by simp; omega⟩
theorem LR.has {n : Nat} {mls : Array Slot} (hl : LR Γ n mls ls) : lv_has mls n (lvp Γ 0 ls) := by
  refine ⟨hl.1, hl.2.1, fun z hz => ?_⟩
  obtain ⟨j, v, hj, rfl⟩ := (lvp_mem ls 0 z).mp hz
  simpa using hl.2.2.2 j v hj
theorem LR.set {n : Nat} {mls : Array Slot} {i : Nat} {v : AV} (hl : LR Γ n mls ls) {mls' : Array Slot} (h' : lv_has mls' n ((i, gV Γ v) :: (lvp Γ 0 ls).filter (fun z => !(z.1 == i) && !(z.1 + 1 == i && z.2.category == 2)))) : LR Γ n mls' (ls.set i (some v)) := by
  refine ⟨h'.1, h'.2.1, by rw [List.length_set]; exact hl.2.2.1, fun j w hj => ?_⟩
  rw [List.getElem?_set] at hj
  by_cases e : i = j
  · subst e
    rw [if_pos rfl] at hj
    split at hj
    · cases hj
      exact h'.2.2 _ List.mem_cons_self
    · cases hj
  · rw [if_neg e] at hj
    refine h'.2.2 (j, gV Γ w) (List.mem_cons_of_mem _ (List.mem_filter.mpr ⟨(lvp_mem ls 0 _).mpr ⟨j, w, hj, by simp⟩, ?_⟩))
    simp [gV_cat, Ne.symm e]
theorem okl_set {i : Nat} {v : AV} (hl : okl ls) (hv : okv v) : okl (ls.set i (some v)) := fun w hw => by
  rcases List.mem_or_eq_of_mem_set hw with hw | hw
  · exact hl w hw
  · cases hw
    exact hv
/-- an instruction that sets a local -/
theorem ev_ls {i : Nat} {v : AV} (hi : i < q.2.2.2.1) (f : ∀ (p : Program) (e : Env) (Rm : Room) (s : State) (m : MethodId) (args : Array Value) (below : List Frame) (meth : Method) (c : Code) (Q : State → Prop) (H : Heap) (locs : List Loc) (cells slots : Nat) (mls : Array Slot),
      Cx Γ d q p Rm s m args meth c → LR Γ q.2.2.2.1 mls ls → (∀ mls' : Array Slot, lv_has mls' q.2.2.2.1 ((i, gV Γ v) :: (lvp Γ 0 ls).filter (fun z => !(z.1 == i) && !(z.1 + 1 == i && z.2.category == 2))) → W p (gl Γ) e Rm s m args below meth c H locs cells slots Q (F0 m pc' mls' (st'.map (gV Γ)))) → W p (gl Γ) e Rm s m args below meth c H locs cells slots Q (F0 m pc mls (st.map (gV Γ))))
    (hok : okl ls → okS st → okv v ∧ okS st') (hs' : ls.set i (some v) = ls') (k : Ev Γ d q pc' ls' st' h R) : Ev Γ d q pc ls st h R := by
  intro p e Rm s m args below meth c Q n0 s0 C h1 h2 hK H locs cells slots mls hl hol hos hH hz hc hs
  subst hs'
  exact f p e Rm s m args below meth c Q H locs cells slots mls C hl (fun mls' h' => k p e Rm s m args below meth c Q n0 s0 C h1 h2 hK H locs cells slots mls' (hl.set h') (okl_set hol (hok hol hos).1) (hok hol hos).2 hH hz hc hs)
theorem e_istore_n {j : Fin 4} {x : Int} (hd : decode q.2.2.1 pc = .ok (.istore_n j, 1)) (hi : j.val < q.2.2.2.1) (hs' : ls.set j.val (some (.inl x)) = ls') (k : Ev Γ d q (pc + 1) ls' st h R) : Ev Γ d q pc ls (.inl x :: st) h R :=
  ev_ls (v := .inl x) (pc' := pc + 1) (st' := st) hi (fun _ _ _ _ _ _ _ _ _ _ _ _ _ _ _ C hl w => lv_istore_n C.1 C.2.1 hd rfl hl.has hi rfl w) (fun _ hs => ⟨okS_h hs, okS_t hs⟩) hs' k
theorem e_istore {i : Nat} {x : Int} (hd : decode q.2.2.1 pc = .ok (.istore i, 2)) (hi : i < q.2.2.2.1) (hs' : ls.set i (some (.inl x)) = ls') (k : Ev Γ d q (pc + 2) ls' st h R) : Ev Γ d q pc ls (.inl x :: st) h R :=
  ev_ls (v := .inl x) (pc' := pc + 2) (st' := st) hi (fun _ _ _ _ _ _ _ _ _ _ _ _ _ _ _ C hl w => lv_istore C.1 C.2.1 hd hl.has hi rfl w) (fun _ hs => ⟨okS_h hs, okS_t hs⟩) hs' k
theorem e_astore_n {j : Fin 4} {a : Nat} (hd : decode q.2.2.1 pc = .ok (.astore_n j, 1)) (hi : j.val < q.2.2.2.1) (hs' : ls.set j.val (some (.inr (some a))) = ls') (k : Ev Γ d q (pc + 1) ls' st h R) : Ev Γ d q pc ls (.inr (some a) :: st) h R :=
  ev_ls (v := .inr (some a)) (pc' := pc + 1) (st' := st) hi (fun _ _ _ _ _ _ _ _ _ _ _ _ _ _ _ C hl w => lv_astore_n C.1 C.2.1 hd rfl hl.has hi rfl w) (fun _ hs => ⟨okS_h hs, okS_t hs⟩) hs' k
theorem e_iinc {i : Nat} {n x : Int} (hd : decode q.2.2.1 pc = .ok (.iinc i n, 3)) (hi : i < q.2.2.2.1) (hx : ls[i]? = some (some (.inl x))) (hr : inR (x + n)) (hs' : ls.set i (some (.inl (x + n))) = ls') (k : Ev Γ d q (pc + 3) ls' st h R) : Ev Γ d q pc ls st h R :=
  ev_ls (v := .inl (x + n)) (pc' := pc + 3) (st' := st) hi (fun _ _ _ _ _ _ _ _ _ _ _ _ _ _ _ C hl w => by
    obtain ⟨k, hk⟩ := List.getElem?_of_mem ((lvp_mem (Γ := Γ) ls 0 (i, gV Γ (.inl x))).mpr ⟨i, _, hx, by simp⟩)
    exact lv_iinc C.1 C.2.1 hd hl.has hk (v := Int32.ofInt (x + n)) (Int32.ofInt_add x n).symm hi rfl w) (fun _ hs => ⟨hr, hs⟩) hs' k
end EV
