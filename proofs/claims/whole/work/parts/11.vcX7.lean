set_option maxRecDepth 100000 in
set_option maxHeartbeats 4000000 in
theorem v_X7_term_0 {Γ : GX} {g : AG} {I J : Nat → Nat → Int} {r : Option AV} (hg : GOk g) (t : Nat) (ht : Mt t) (x1 : Int) (x2 : Int)
    (V : inR (x1 + 1) ∧ (∀ y2 : Int, y2 = (x1 + 1) → (Ev Γ 0 mX7_term 7 [some (.inr (some t)), some (.inl x1), none, some (.inl x2), some (.inl y2)] [] (g, I) (r, (g, J))))) : Ev Γ 0 mX7_term 0 [some (.inr (some t)), some (.inl x1), some (.inl x2), none, none] [] (g, I) (r, (g, J)) := by
  refine e_iload_n dX7_term_0 rfl ?_
  refine e_istore_n dX7_term_1 (by decide) (ls' := [some (.inr (some t)), some (.inl x1), some (.inl x2), some (.inl x2), none]) rfl ?_
  refine e_iload_n dX7_term_2 rfl ?_
  refine e_iconst dX7_term_3 ⟨by decide, by decide⟩ ?_
  obtain ⟨h1, Vh1⟩ := V
  refine e_iadd dX7_term_4 h1 ?_
  refine e_top (fun y2 ey2 => ?_)
  have Wy2 := Vh1 y2 ey2
  refine e_istore dX7_term_5 (by decide) (ls' := [some (.inr (some t)), some (.inl x1), some (.inl x2), some (.inl x2), some (.inl y2)]) rfl ?_
  refine ev_drop (ls' := [some (.inr (some t)), some (.inl x1), none, some (.inl x2), some (.inl y2)]) 2 rfl ?_
  exact Wy2
set_option maxRecDepth 100000 in
set_option maxHeartbeats 4000000 in
theorem v_X7_term_7 {Γ : GX} {g : AG} {I J : Nat → Nat → Int} {r : Option AV} (hg : GOk g) (t : Nat) (ht : Mt t) (x1 : Int) (x3 : Int) (x4 : Int)
    (V : ((0 : Int) ≤ x4 ∧ (x4 : Int) < 240) ∧ (((¬ ((I (t + 7) x4.toNat) = x1)) → (((0 : Int) ≤ x4 ∧ (x4 : Int) < 240) ∧ (((¬ ((I (t + 7) x4.toNat) = x1)) → (inR (x4 + 1) ∧ (Ev Γ 0 mX7_term 7 [some (.inr (some t)), some (.inl x1), none, some (.inl x3), some (.inl (x4 + 1))] [] (g, I) (r, (g, J))))) ∧ ((((I (t + 7) x4.toNat) = x1)) → (inR (x3 + (-1)) ∧ (inR (x4 + 1) ∧ (Ev Γ 0 mX7_term 7 [some (.inr (some t)), some (.inl x1), none, some (.inl (x3 + (-1))), some (.inl (x4 + 1))] [] (g, I) (r, (g, J))))))))) ∧ ((((I (t + 7) x4.toNat) = x1)) → ((((x3 ≤ 0)) → (r = some (.inl x4) ∧ J = I)) ∧ ((¬ (x3 ≤ 0)) → (((0 : Int) ≤ x4 ∧ (x4 : Int) < 240) ∧ (((¬ ((I (t + 7) x4.toNat) = x1)) → (inR (x4 + 1) ∧ (Ev Γ 0 mX7_term 7 [some (.inr (some t)), some (.inl x1), none, some (.inl x3), some (.inl (x4 + 1))] [] (g, I) (r, (g, J))))) ∧ ((((I (t + 7) x4.toNat) = x1)) → (inR (x3 + (-1)) ∧ (inR (x4 + 1) ∧ (Ev Γ 0 mX7_term 7 [some (.inr (some t)), some (.inl x1), none, some (.inl (x3 + (-1))), some (.inl (x4 + 1))] [] (g, I) (r, (g, J))))))))))))) : Ev Γ 0 mX7_term 7 [some (.inr (some t)), some (.inl x1), none, some (.inl x3), some (.inl x4)] [] (g, I) (r, (g, J)) := by
  refine e_aload_n dX7_term_7 rfl ?_
  refine e_getr dX7_term_8 fO_7_31 (mt_pos ht) (mt_s0 hg ht) rfl (mt_p7 hg ht) ?_
  refine e_iload dX7_term_11 rfl ?_
  obtain ⟨h1, Vh1⟩ := V
  refine e_iald dX7_term_13 (Nat.succ_pos _) (mt_s7 hg ht) h1.1 h1.2 ?_
  refine e_iload_n dX7_term_14 rfl ?_
  refine e_ic_ne (tgt := 22) dX7_term_15 (by decide) (fun c2 => ?_) (fun c2 => ?_)
  · have Ac2 := Vh1.1 c2
    refine e_aload_n dX7_term_22 rfl ?_
    refine e_getr dX7_term_23 fO_7_31 (mt_pos ht) (mt_s0 hg ht) rfl (mt_p7 hg ht) ?_
    refine e_iload dX7_term_26 rfl ?_
    obtain ⟨h3, Vh3⟩ := Ac2
    refine e_iald dX7_term_28 (Nat.succ_pos _) (mt_s7 hg ht) h3.1 h3.2 ?_
    refine e_iload_n dX7_term_29 rfl ?_
    refine e_ic_ne (tgt := 36) dX7_term_30 (by decide) (fun c4 => ?_) (fun c4 => ?_)
    · have Ac4 := Vh3.1 c4
      obtain ⟨h5, Vh5⟩ := Ac4
      refine e_iinc dX7_term_36 (by decide) rfl h5 (ls' := [some (.inr (some t)), some (.inl x1), none, some (.inl x3), some (.inl (x4 + 1))]) rfl ?_
      refine e_goto (tgt := 7) dX7_term_39 (by decide) ?_
      exact Vh5
    · have Bc4 := Vh3.2 c4
      obtain ⟨h6, Vh6⟩ := Bc4
      refine e_iinc dX7_term_33 (by decide) rfl h6 (ls' := [some (.inr (some t)), some (.inl x1), none, some (.inl (x3 + (-1))), some (.inl x4)]) rfl ?_
      obtain ⟨h7, Vh7⟩ := Vh6
      refine e_iinc dX7_term_36 (by decide) rfl h7 (ls' := [some (.inr (some t)), some (.inl x1), none, some (.inl (x3 + (-1))), some (.inl (x4 + 1))]) rfl ?_
      refine e_goto (tgt := 7) dX7_term_39 (by decide) ?_
      exact Vh7
  · have Bc2 := Vh1.2 c2
    refine e_iload_n dX7_term_18 rfl ?_
    refine e_if_le (tgt := 42) dX7_term_19 (by decide) (fun c8 => ?_) (fun c8 => ?_)
    · have Ac8 := Bc2.1 c8
      refine e_iload dX7_term_42 rfl ?_
      exact e_iret dX7_term_44 rfl (by rw [Ac8.1, Ac8.2])
    · have Bc8 := Bc2.2 c8
      refine e_aload_n dX7_term_22 rfl ?_
      refine e_getr dX7_term_23 fO_7_31 (mt_pos ht) (mt_s0 hg ht) rfl (mt_p7 hg ht) ?_
      refine e_iload dX7_term_26 rfl ?_
      obtain ⟨h9, Vh9⟩ := Bc8
      refine e_iald dX7_term_28 (Nat.succ_pos _) (mt_s7 hg ht) h9.1 h9.2 ?_
      refine e_iload_n dX7_term_29 rfl ?_
      refine e_ic_ne (tgt := 36) dX7_term_30 (by decide) (fun c10 => ?_) (fun c10 => ?_)
      · have Ac10 := Vh9.1 c10
        obtain ⟨h11, Vh11⟩ := Ac10
        refine e_iinc dX7_term_36 (by decide) rfl h11 (ls' := [some (.inr (some t)), some (.inl x1), none, some (.inl x3), some (.inl (x4 + 1))]) rfl ?_
        refine e_goto (tgt := 7) dX7_term_39 (by decide) ?_
        exact Vh11
      · have Bc10 := Vh9.2 c10
        obtain ⟨h12, Vh12⟩ := Bc10
        refine e_iinc dX7_term_33 (by decide) rfl h12 (ls' := [some (.inr (some t)), some (.inl x1), none, some (.inl (x3 + (-1))), some (.inl x4)]) rfl ?_
        obtain ⟨h13, Vh13⟩ := Vh12
        refine e_iinc dX7_term_36 (by decide) rfl h13 (ls' := [some (.inr (some t)), some (.inl x1), none, some (.inl (x3 + (-1))), some (.inl (x4 + 1))]) rfl ?_
        refine e_goto (tgt := 7) dX7_term_39 (by decide) ?_
        exact Vh13
