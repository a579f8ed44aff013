def w_WD_fault  (σ : am_S) (K : Int32 → am_S → Prop) : Prop := K (σ.1 0 12) σ
theorem t_WD_fault {d : Nat}   {σ : am_S} {K : Int32 → am_S → Prop} (h : w_WD_fault  σ K) : am_run (d + 1) y_WD_fault [.ref 0] σ (am_Ri K) := by
  unfold w_WD_fault at h
  refine am_begin (vs := [.ref 0]) c_WD_fault (by decide +kernel) rfl rfl rfl rfl ?_
  refine r_aload_n d_WD_fault_0 rfl ?_
  refine r_getI d_WD_fault_1 f_WD_83 kd_0 rfl ?_
  exact r_iret d_WD_fault_4 h
def w_Mod_no (x1 : Int32) (σ : am_S) (K : Int32 → am_S → Prop) : Prop := K (-1) (am_upI σ 153 18 x1)
theorem t_Mod_no {d : Nat} {x1 : Int32}  {σ : am_S} {K : Int32 → am_S → Prop} (h : w_Mod_no x1 σ K) : am_run (d + 1) y_Mod_no [.ref 153, .int x1] σ (am_Ri K) := by
  unfold w_Mod_no at h
  refine am_begin (vs := [.ref 153, .int x1]) c_Mod_no (by decide +kernel) rfl rfl rfl rfl ?_
  refine r_aload_n d_Mod_no_0 rfl ?_
  refine r_iload_n d_Mod_no_1 rfl ?_
  refine r_putI d_Mod_no_2 f_Mod_62 kd_153 rfl ?_
  refine r_iconst (-1) d_Mod_no_5 (by decide) ?_
  exact r_iret d_Mod_no_6 h
abbrev R_Mod_rim (d : Nat) (K : Int32 → am_S → Prop) (pc : Nat) (vs st : List Value) (σ : am_S) : Prop := am_r (am_run (d + 1)) "WheelDiscModel" (some .int) prog_13_method_8_code (am_Ri K) pc vs st σ
def w_Mod_rim (x1 : Int32) (x2 : Int32) (σ : am_S) (K : Int32 → am_S → Prop) : Prop := ∀ d : Nat, am_run (d + 2) y_Mod_rim [.ref 153, .int x1, .int x2] σ (am_Ri K)
theorem t_Mod_rim {d : Nat} {x1 : Int32} {x2 : Int32}  {σ : am_S} {K : Int32 → am_S → Prop} (h : w_Mod_rim x1 x2 σ K) : am_run (d + 2) y_Mod_rim [.ref 153, .int x1, .int x2] σ (am_Ri K) := h d
theorem e_Mod_rim {x1 : Int32} {x2 : Int32}  {σ : am_S} {K : Int32 → am_S → Prop} (h : ∀ d : Nat, (am_ite (x1 < (nI 0)) (w_Mod_no (nI 1) (am_upI σ 153 18 (nI 0)) (fun r2 τ2 => K r2 τ2)) (am_ite ((nI 3) < x1) (w_Mod_no (nI 1) (am_upI σ 153 18 (nI 0)) (fun r4 τ4 => K r4 τ4)) (am_ite ((nI 3) ≤ x1) (am_ite ((nI 3) ≤ x1) (am_ite (¬ x1 = (nI 3)) (R_Mod_rim d K 67 [.ref 153, .null, .null, .int (nI 0)] [] (am_upI (am_upI (am_upI σ 153 18 (nI 0)) 153 7 x1) 153 8 x2)) (R_Mod_rim d K 67 [.ref 153, .null, .null, .int (nI 0)] [] (am_upI (am_upI (am_upI σ 153 18 (nI 0)) 153 7 x1) 153 8 (nI 0)))) (am_ite ((nI 0) ≤ x2) (am_ite (¬ x1 = (nI 3)) (R_Mod_rim d K 67 [.ref 153, .null, .null, .int (nI 0)] [] (am_upI (am_upI (am_upI σ 153 18 (nI 0)) 153 7 x1) 153 8 x2)) (R_Mod_rim d K 67 [.ref 153, .null, .null, .int (nI 0)] [] (am_upI (am_upI (am_upI σ 153 18 (nI 0)) 153 7 x1) 153 8 (nI 0)))) (w_Mod_no (nI 3) (am_upI σ 153 18 (nI 0)) (fun r10 τ10 => K r10 τ10)))) (am_ite (x2 ≤ (nI 64)) (am_ite ((nI 3) ≤ x1) (am_ite (¬ x1 = (nI 3)) (R_Mod_rim d K 67 [.ref 153, .null, .null, .int (nI 0)] [] (am_upI (am_upI (am_upI σ 153 18 (nI 0)) 153 7 x1) 153 8 x2)) (R_Mod_rim d K 67 [.ref 153, .null, .null, .int (nI 0)] [] (am_upI (am_upI (am_upI σ 153 18 (nI 0)) 153 7 x1) 153 8 (nI 0)))) (am_ite ((nI 0) ≤ x2) (am_ite (¬ x1 = (nI 3)) (R_Mod_rim d K 67 [.ref 153, .null, .null, .int (nI 0)] [] (am_upI (am_upI (am_upI σ 153 18 (nI 0)) 153 7 x1) 153 8 x2)) (R_Mod_rim d K 67 [.ref 153, .null, .null, .int (nI 0)] [] (am_upI (am_upI (am_upI σ 153 18 (nI 0)) 153 7 x1) 153 8 (nI 0)))) (w_Mod_no (nI 3) (am_upI σ 153 18 (nI 0)) (fun r16 τ16 => K r16 τ16)))) (w_Mod_no (nI 1) (am_upI σ 153 18 (nI 0)) (fun r17 τ17 => K r17 τ17))))))) : w_Mod_rim x1 x2 σ K := by
  intro d
  have h := h d
  refine am_begin (vs := [.ref 153, .int x1, .int x2, .null]) c_Mod_rim (by decide +kernel) rfl rfl rfl rfl ?_
  refine r_aload_n d_Mod_rim_0 rfl ?_
  refine r_iconst (nI 0) d_Mod_rim_1 (by decide) ?_
  refine r_putI d_Mod_rim_2 f_Mod_62 kd_153 rfl ?_
  refine r_iload_n d_Mod_rim_5 rfl ?_
  refine r_if2 25 (x1 < (nI 0)) d_Mod_rim_6 (by decide) rfl (fun c1 => ?_) (fun c1 => ?_)
  · have h := h.1 c1
    refine r_aload_n d_Mod_rim_25 rfl ?_
    refine r_iconst (nI 1) d_Mod_rim_26 (by decide) ?_
    refine r_virtI [.int (nI 1)] [] d_Mod_rim_27 v_Mod_75 rfl rfl cn_153 rfl (t_Mod_no h) (fun r2 τ2 h => ?_)
    exact r_iret d_Mod_rim_30 h
  · have h := h.2 c1
    refine r_iload_n d_Mod_rim_9 rfl ?_
    refine r_iconst (nI 3) d_Mod_rim_10 (by decide) ?_
    refine r_icmp2 25 ((nI 3) < x1) d_Mod_rim_11 (by decide) rfl (fun c3 => ?_) (fun c3 => ?_)
    · have h := h.1 c3
      refine r_aload_n d_Mod_rim_25 rfl ?_
      refine r_iconst (nI 1) d_Mod_rim_26 (by decide) ?_
      refine r_virtI [.int (nI 1)] [] d_Mod_rim_27 v_Mod_75 rfl rfl cn_153 rfl (t_Mod_no h) (fun r4 τ4 h => ?_)
      exact r_iret d_Mod_rim_30 h
    · have h := h.2 c3
      refine r_iload_n d_Mod_rim_14 rfl ?_
      refine r_iconst (nI 3) d_Mod_rim_15 (by decide) ?_
      refine r_icmp2 31 ((nI 3) ≤ x1) d_Mod_rim_16 (by decide) rfl (fun c5 => ?_) (fun c5 => ?_)
      · have h := h.1 c5
        refine r_iload_n d_Mod_rim_31 rfl ?_
        refine r_iconst (nI 3) d_Mod_rim_32 (by decide) ?_
        refine r_icmp2 46 ((nI 3) ≤ x1) d_Mod_rim_33 (by decide) rfl (fun c6 => ?_) (fun c6 => ?_)
        · have h := h.1 c6
          refine r_aload_n d_Mod_rim_46 rfl ?_
          refine r_iload_n d_Mod_rim_47 rfl ?_
          refine r_putI d_Mod_rim_48 f_Mod_24 kd_153 rfl ?_
          refine r_aload_n d_Mod_rim_51 rfl ?_
          refine r_iload_n d_Mod_rim_52 rfl ?_
          refine r_iconst (nI 3) d_Mod_rim_53 (by decide) ?_
          refine r_icmp2 61 (¬ x1 = (nI 3)) d_Mod_rim_54 (by decide) rfl (fun c7 => ?_) (fun c7 => ?_)
          · have h := h.1 c7
            refine r_iload_n d_Mod_rim_61 rfl ?_
            refine r_putI d_Mod_rim_62 f_Mod_79 kd_153 rfl ?_
            refine r_iconst (nI 0) d_Mod_rim_65 (by decide) ?_
            refine r_istore_n (vs' := [.ref 153, .int x1, .int x2, .int (nI 0)]) d_Mod_rim_66 rfl rfl ?_
            exact am_weak (vs := [.ref 153, .null, .null, .int (nI 0)]) ⟨Or.inl rfl, Or.inr ⟨rfl, rfl⟩, Or.inr ⟨rfl, rfl⟩, Or.inl rfl, trivial⟩ h
          · have h := h.2 c7
            refine r_iconst (nI 0) d_Mod_rim_57 (by decide) ?_
            refine r_goto 62 d_Mod_rim_58 (by decide) ?_
            refine r_putI d_Mod_rim_62 f_Mod_79 kd_153 rfl ?_
            refine r_iconst (nI 0) d_Mod_rim_65 (by decide) ?_
            refine r_istore_n (vs' := [.ref 153, .int x1, .int x2, .int (nI 0)]) d_Mod_rim_66 rfl rfl ?_
            exact am_weak (vs := [.ref 153, .null, .null, .int (nI 0)]) ⟨Or.inl rfl, Or.inr ⟨rfl, rfl⟩, Or.inr ⟨rfl, rfl⟩, Or.inl rfl, trivial⟩ h
        · have h := h.2 c6
          refine r_iload_n d_Mod_rim_36 rfl ?_
          refine r_if2 46 ((nI 0) ≤ x2) d_Mod_rim_37 (by decide) rfl (fun c8 => ?_) (fun c8 => ?_)
          · have h := h.1 c8
            refine r_aload_n d_Mod_rim_46 rfl ?_
            refine r_iload_n d_Mod_rim_47 rfl ?_
            refine r_putI d_Mod_rim_48 f_Mod_24 kd_153 rfl ?_
            refine r_aload_n d_Mod_rim_51 rfl ?_
            refine r_iload_n d_Mod_rim_52 rfl ?_
            refine r_iconst (nI 3) d_Mod_rim_53 (by decide) ?_
            refine r_icmp2 61 (¬ x1 = (nI 3)) d_Mod_rim_54 (by decide) rfl (fun c9 => ?_) (fun c9 => ?_)
            · have h := h.1 c9
              refine r_iload_n d_Mod_rim_61 rfl ?_
              refine r_putI d_Mod_rim_62 f_Mod_79 kd_153 rfl ?_
              refine r_iconst (nI 0) d_Mod_rim_65 (by decide) ?_
              refine r_istore_n (vs' := [.ref 153, .int x1, .int x2, .int (nI 0)]) d_Mod_rim_66 rfl rfl ?_
              exact am_weak (vs := [.ref 153, .null, .null, .int (nI 0)]) ⟨Or.inl rfl, Or.inr ⟨rfl, rfl⟩, Or.inr ⟨rfl, rfl⟩, Or.inl rfl, trivial⟩ h
            · have h := h.2 c9
              refine r_iconst (nI 0) d_Mod_rim_57 (by decide) ?_
              refine r_goto 62 d_Mod_rim_58 (by decide) ?_
              refine r_putI d_Mod_rim_62 f_Mod_79 kd_153 rfl ?_
              refine r_iconst (nI 0) d_Mod_rim_65 (by decide) ?_
              refine r_istore_n (vs' := [.ref 153, .int x1, .int x2, .int (nI 0)]) d_Mod_rim_66 rfl rfl ?_
              exact am_weak (vs := [.ref 153, .null, .null, .int (nI 0)]) ⟨Or.inl rfl, Or.inr ⟨rfl, rfl⟩, Or.inr ⟨rfl, rfl⟩, Or.inl rfl, trivial⟩ h
          · have h := h.2 c8
            refine r_aload_n d_Mod_rim_40 rfl ?_
            refine r_iconst (nI 3) d_Mod_rim_41 (by decide) ?_
            refine r_virtI [.int (nI 3)] [] d_Mod_rim_42 v_Mod_75 rfl rfl cn_153 rfl (t_Mod_no h) (fun r10 τ10 h => ?_)
            exact r_iret d_Mod_rim_45 h
      · have h := h.2 c5
        refine r_iload_n d_Mod_rim_19 rfl ?_
        refine r_bipush (nI 64) d_Mod_rim_20 (by decide) ?_
        refine r_icmp2 31 (x2 ≤ (nI 64)) d_Mod_rim_22 (by decide) rfl (fun c11 => ?_) (fun c11 => ?_)
        · have h := h.1 c11
          refine r_iload_n d_Mod_rim_31 rfl ?_
          refine r_iconst (nI 3) d_Mod_rim_32 (by decide) ?_
          refine r_icmp2 46 ((nI 3) ≤ x1) d_Mod_rim_33 (by decide) rfl (fun c12 => ?_) (fun c12 => ?_)
          · have h := h.1 c12
            refine r_aload_n d_Mod_rim_46 rfl ?_
            refine r_iload_n d_Mod_rim_47 rfl ?_
            refine r_putI d_Mod_rim_48 f_Mod_24 kd_153 rfl ?_
            refine r_aload_n d_Mod_rim_51 rfl ?_
            refine r_iload_n d_Mod_rim_52 rfl ?_
            refine r_iconst (nI 3) d_Mod_rim_53 (by decide) ?_
            refine r_icmp2 61 (¬ x1 = (nI 3)) d_Mod_rim_54 (by decide) rfl (fun c13 => ?_) (fun c13 => ?_)
            · have h := h.1 c13
              refine r_iload_n d_Mod_rim_61 rfl ?_
              refine r_putI d_Mod_rim_62 f_Mod_79 kd_153 rfl ?_
              refine r_iconst (nI 0) d_Mod_rim_65 (by decide) ?_
              refine r_istore_n (vs' := [.ref 153, .int x1, .int x2, .int (nI 0)]) d_Mod_rim_66 rfl rfl ?_
              exact am_weak (vs := [.ref 153, .null, .null, .int (nI 0)]) ⟨Or.inl rfl, Or.inr ⟨rfl, rfl⟩, Or.inr ⟨rfl, rfl⟩, Or.inl rfl, trivial⟩ h
            · have h := h.2 c13
              refine r_iconst (nI 0) d_Mod_rim_57 (by decide) ?_
              refine r_goto 62 d_Mod_rim_58 (by decide) ?_
              refine r_putI d_Mod_rim_62 f_Mod_79 kd_153 rfl ?_
              refine r_iconst (nI 0) d_Mod_rim_65 (by decide) ?_
              refine r_istore_n (vs' := [.ref 153, .int x1, .int x2, .int (nI 0)]) d_Mod_rim_66 rfl rfl ?_
              exact am_weak (vs := [.ref 153, .null, .null, .int (nI 0)]) ⟨Or.inl rfl, Or.inr ⟨rfl, rfl⟩, Or.inr ⟨rfl, rfl⟩, Or.inl rfl, trivial⟩ h
          · have h := h.2 c12
            refine r_iload_n d_Mod_rim_36 rfl ?_
            refine r_if2 46 ((nI 0) ≤ x2) d_Mod_rim_37 (by decide) rfl (fun c14 => ?_) (fun c14 => ?_)
            · have h := h.1 c14
              refine r_aload_n d_Mod_rim_46 rfl ?_
              refine r_iload_n d_Mod_rim_47 rfl ?_
              refine r_putI d_Mod_rim_48 f_Mod_24 kd_153 rfl ?_
              refine r_aload_n d_Mod_rim_51 rfl ?_
              refine r_iload_n d_Mod_rim_52 rfl ?_
              refine r_iconst (nI 3) d_Mod_rim_53 (by decide) ?_
              refine r_icmp2 61 (¬ x1 = (nI 3)) d_Mod_rim_54 (by decide) rfl (fun c15 => ?_) (fun c15 => ?_)
              · have h := h.1 c15
                refine r_iload_n d_Mod_rim_61 rfl ?_
                refine r_putI d_Mod_rim_62 f_Mod_79 kd_153 rfl ?_
                refine r_iconst (nI 0) d_Mod_rim_65 (by decide) ?_
                refine r_istore_n (vs' := [.ref 153, .int x1, .int x2, .int (nI 0)]) d_Mod_rim_66 rfl rfl ?_
                exact am_weak (vs := [.ref 153, .null, .null, .int (nI 0)]) ⟨Or.inl rfl, Or.inr ⟨rfl, rfl⟩, Or.inr ⟨rfl, rfl⟩, Or.inl rfl, trivial⟩ h
              · have h := h.2 c15
                refine r_iconst (nI 0) d_Mod_rim_57 (by decide) ?_
                refine r_goto 62 d_Mod_rim_58 (by decide) ?_
                refine r_putI d_Mod_rim_62 f_Mod_79 kd_153 rfl ?_
                refine r_iconst (nI 0) d_Mod_rim_65 (by decide) ?_
                refine r_istore_n (vs' := [.ref 153, .int x1, .int x2, .int (nI 0)]) d_Mod_rim_66 rfl rfl ?_
                exact am_weak (vs := [.ref 153, .null, .null, .int (nI 0)]) ⟨Or.inl rfl, Or.inr ⟨rfl, rfl⟩, Or.inr ⟨rfl, rfl⟩, Or.inl rfl, trivial⟩ h
            · have h := h.2 c14
              refine r_aload_n d_Mod_rim_40 rfl ?_
              refine r_iconst (nI 3) d_Mod_rim_41 (by decide) ?_
              refine r_virtI [.int (nI 3)] [] d_Mod_rim_42 v_Mod_75 rfl rfl cn_153 rfl (t_Mod_no h) (fun r16 τ16 h => ?_)
              exact r_iret d_Mod_rim_45 h
        · have h := h.2 c11
          refine r_aload_n d_Mod_rim_25 rfl ?_
          refine r_iconst (nI 1) d_Mod_rim_26 (by decide) ?_
          refine r_virtI [.int (nI 1)] [] d_Mod_rim_27 v_Mod_75 rfl rfl cn_153 rfl (t_Mod_no h) (fun r17 τ17 h => ?_)
          exact r_iret d_Mod_rim_30 h
theorem l_Mod_rim_67 {d : Nat}  {x3 : Int32}  {σ : am_S} {K : Int32 → am_S → Prop} (h : (am_ite ((nI 64) ≤ x3) (K (σ.1 153 8) σ) (vp_in x3 64 ∧ R_Mod_rim d K 67 [.ref 153, .null, .null, .int (x3 + nI 1)] [] (am_upJ σ 158 (Int32.toNatClampNeg x3) (0))))) : R_Mod_rim d K 67 [.ref 153, .null, .null, .int x3] [] σ := by
  refine r_iload_n d_Mod_rim_67 rfl ?_
  refine r_bipush (nI 64) d_Mod_rim_68 (by decide) ?_
  refine r_icmp2 86 ((nI 64) ≤ x3) d_Mod_rim_70 (by decide) rfl (fun c18 => ?_) (fun c18 => ?_)
  · have h := h.1 c18
    refine r_aload_n d_Mod_rim_86 rfl ?_
    refine r_getI d_Mod_rim_87 f_Mod_79 kd_153 rfl ?_
    exact r_iret d_Mod_rim_90 h
  · have h := h.2 c18
    refine r_aload_n d_Mod_rim_73 rfl ?_
    refine r_getR d_Mod_rim_74 f_Mod_28 kd_153 rfl lk_153_9 ?_
    refine r_iload_n d_Mod_rim_77 rfl ?_
    refine r_lconst (0) d_Mod_rim_78 (by decide) ?_
    refine r_last d_Mod_rim_79 ce_158 ⟨h.1, ?_⟩
    have h := h.2
    refine r_inc1 (vs' := [.ref 153, .null, .null, .int (x3 + nI 1)]) d_Mod_rim_80 rfl rfl rfl ?_
    refine r_goto 67 d_Mod_rim_83 (by decide) ?_
    exact h
def w_Mod_entry (x1 : Int32) (x2 : Int64) (σ : am_S) (K : Int32 → am_S → Prop) : Prop := (am_ite ((σ.1 153 7) = (-1)) (w_Mod_no (nI 2) (am_upI σ 153 18 (nI 0)) (fun r2 τ2 => K (nI 0) τ2)) (am_ite (¬ (σ.1 153 7) = (nI 3)) (am_ite (x1 < (nI 0)) (w_Mod_no (nI 1) (am_upI σ 153 18 (nI 0)) (fun r5 τ5 => K (nI 0) τ5)) (am_ite (x1 < (σ.1 153 8)) (vp_in x1 64 ∧ K (nI 1) (am_upJ (am_upI σ 153 18 (nI 0)) 158 (Int32.toNatClampNeg x1) x2)) (w_Mod_no (nI 1) (am_upI σ 153 18 (nI 0)) (fun r7 τ7 => K (nI 0) τ7)))) (w_Mod_no (nI 2) (am_upI σ 153 18 (nI 0)) (fun r8 τ8 => K (nI 0) τ8))))
theorem t_Mod_entry {d : Nat} {x1 : Int32} {x2 : Int64}  {σ : am_S} {K : Int32 → am_S → Prop} (h : w_Mod_entry x1 x2 σ K) : am_run (d + 2) y_Mod_entry [.ref 153, .int x1, .long x2] σ (am_Ri K) := by
  unfold w_Mod_entry at h
  refine am_begin (vs := [.ref 153, .int x1, .long x2, .null]) c_Mod_entry (by decide +kernel) rfl rfl rfl rfl ?_
  refine r_aload_n d_Mod_entry_0 rfl ?_
  refine r_iconst (nI 0) d_Mod_entry_1 (by decide) ?_
  refine r_putI d_Mod_entry_2 f_Mod_62 kd_153 rfl ?_
  refine r_aload_n d_Mod_entry_5 rfl ?_
  refine r_getI d_Mod_entry_6 f_Mod_24 kd_153 rfl ?_
  refine r_iconst (-1) d_Mod_entry_9 (by decide) ?_
  refine r_icmp2 21 ((σ.1 153 7) = (-1)) d_Mod_entry_10 (by decide) rfl (fun c1 => ?_) (fun c1 => ?_)
  · have h := h.1 c1
    refine r_aload_n d_Mod_entry_21 rfl ?_
    refine r_iconst (nI 2) d_Mod_entry_22 (by decide) ?_
    refine r_virtI [.int (nI 2)] [] d_Mod_entry_23 v_Mod_75 rfl rfl cn_153 rfl (t_Mod_no h) (fun r2 τ2 h => ?_)
    refine r_pop d_Mod_entry_26 rfl ?_
    refine r_iconst (nI 0) d_Mod_entry_27 (by decide) ?_
    exact r_zret0 d_Mod_entry_28 h
  · have h := h.2 c1
    refine r_aload_n d_Mod_entry_13 rfl ?_
    refine r_getI d_Mod_entry_14 f_Mod_24 kd_153 rfl ?_
    refine r_iconst (nI 3) d_Mod_entry_17 (by decide) ?_
    refine r_icmp2 29 (¬ (σ.1 153 7) = (nI 3)) d_Mod_entry_18 (by decide) rfl (fun c3 => ?_) (fun c3 => ?_)
    · have h := h.1 c3
      refine r_iload_n d_Mod_entry_29 rfl ?_
      refine r_if2 41 (x1 < (nI 0)) d_Mod_entry_30 (by decide) rfl (fun c4 => ?_) (fun c4 => ?_)
      · have h := h.1 c4
        refine r_aload_n d_Mod_entry_41 rfl ?_
        refine r_iconst (nI 1) d_Mod_entry_42 (by decide) ?_
        refine r_virtI [.int (nI 1)] [] d_Mod_entry_43 v_Mod_75 rfl rfl cn_153 rfl (t_Mod_no h) (fun r5 τ5 h => ?_)
        refine r_pop d_Mod_entry_46 rfl ?_
        refine r_iconst (nI 0) d_Mod_entry_47 (by decide) ?_
        exact r_zret0 d_Mod_entry_48 h
      · have h := h.2 c4
        refine r_iload_n d_Mod_entry_33 rfl ?_
        refine r_aload_n d_Mod_entry_34 rfl ?_
        refine r_getI d_Mod_entry_35 f_Mod_79 kd_153 rfl ?_
        refine r_icmp2 49 (x1 < (σ.1 153 8)) d_Mod_entry_38 (by decide) rfl (fun c6 => ?_) (fun c6 => ?_)
        · have h := h.1 c6
          refine r_aload_n d_Mod_entry_49 rfl ?_
          refine r_getR d_Mod_entry_50 f_Mod_28 kd_153 rfl lk_153_9 ?_
          refine r_iload_n d_Mod_entry_53 rfl ?_
          refine r_lload_n d_Mod_entry_54 rfl ?_
          refine r_last d_Mod_entry_55 ce_158 ⟨h.1, ?_⟩
          have h := h.2
          refine r_iconst (nI 1) d_Mod_entry_56 (by decide) ?_
          exact r_zret1 d_Mod_entry_57 h
        · have h := h.2 c6
          refine r_aload_n d_Mod_entry_41 rfl ?_
          refine r_iconst (nI 1) d_Mod_entry_42 (by decide) ?_
          refine r_virtI [.int (nI 1)] [] d_Mod_entry_43 v_Mod_75 rfl rfl cn_153 rfl (t_Mod_no h) (fun r7 τ7 h => ?_)
          refine r_pop d_Mod_entry_46 rfl ?_
          refine r_iconst (nI 0) d_Mod_entry_47 (by decide) ?_
          exact r_zret0 d_Mod_entry_48 h
    · have h := h.2 c3
      refine r_aload_n d_Mod_entry_21 rfl ?_
      refine r_iconst (nI 2) d_Mod_entry_22 (by decide) ?_
      refine r_virtI [.int (nI 2)] [] d_Mod_entry_23 v_Mod_75 rfl rfl cn_153 rfl (t_Mod_no h) (fun r8 τ8 h => ?_)
      refine r_pop d_Mod_entry_26 rfl ?_
      refine r_iconst (nI 0) d_Mod_entry_27 (by decide) ?_
      exact r_zret0 d_Mod_entry_28 h
abbrev R_Mod_copy (d : Nat) (K : am_S → Prop) (pc : Nat) (vs st : List Value) (σ : am_S) : Prop := am_r (am_run (d + 0)) "WheelDiscModel" none prog_13_method_5_code (am_Rv K) pc vs st σ
def w_Mod_copy (x1 : Int32) (x2 : Int32) (σ : am_S) (K : am_S → Prop) : Prop := ∀ d : Nat, am_run (d + 1) y_Mod_copy [.ref 153, .int x1, .int x2] σ (am_Rv K)
theorem t_Mod_copy {d : Nat} {x1 : Int32} {x2 : Int32}  {σ : am_S} {K : am_S → Prop} (h : w_Mod_copy x1 x2 σ K) : am_run (d + 1) y_Mod_copy [.ref 153, .int x1, .int x2] σ (am_Rv K) := h d
theorem e_Mod_copy {x1 : Int32} {x2 : Int32}  {σ : am_S} {K : am_S → Prop} (h : ∀ d : Nat, R_Mod_copy d K 2 [.ref 153, .int x1, .int x2, .int (nI 0)] [] σ) : w_Mod_copy x1 x2 σ K := by
  intro d
  have h := h d
  refine am_begin (vs := [.ref 153, .int x1, .int x2, .null]) c_Mod_copy (by decide +kernel) rfl rfl rfl rfl ?_
  refine r_iconst (nI 0) d_Mod_copy_0 (by decide) ?_
  refine r_istore_n (vs' := [.ref 153, .int x1, .int x2, .int (nI 0)]) d_Mod_copy_1 rfl rfl ?_
  exact h
theorem l_Mod_copy_2 {d : Nat}  {x1 : Int32} {x2 : Int32} {x3 : Int32}  {σ : am_S} {K : am_S → Prop} (h : (am_ite ((nI 3) ≤ x3) (R_Mod_copy d K 35 [.ref 153, .int x1, .int x2, .int (nI 0)] [] σ) (vp_in (((nI 3) * x1) + x3) 96 ∧ (vp_in (((nI 3) * x2) + x3) 96 ∧ R_Mod_copy d K 2 [.ref 153, .int x1, .int x2, .int (x3 + nI 1)] [] (am_upI σ 154 (Int32.toNatClampNeg (((nI 3) * x2) + x3)) (σ.1 154 (Int32.toNatClampNeg (((nI 3) * x1) + x3)))))))) : R_Mod_copy d K 2 [.ref 153, .int x1, .int x2, .int x3] [] σ := by
  refine r_iload_n d_Mod_copy_2 rfl ?_
  refine r_iconst (nI 3) d_Mod_copy_3 (by decide) ?_
  refine r_icmp2 33 ((nI 3) ≤ x3) d_Mod_copy_4 (by decide) rfl (fun c1 => ?_) (fun c1 => ?_)
  · have h := h.1 c1
    refine r_iconst (nI 0) d_Mod_copy_33 (by decide) ?_
    refine r_istore_n (vs' := [.ref 153, .int x1, .int x2, .int (nI 0)]) d_Mod_copy_34 rfl rfl ?_
    exact h
  · have h := h.2 c1
    refine r_aload_n d_Mod_copy_7 rfl ?_
    refine r_getR d_Mod_copy_8 f_Mod_9 kd_153 rfl lk_153_0 ?_
    refine r_iconst (nI 3) d_Mod_copy_11 (by decide) ?_
    refine r_iload_n d_Mod_copy_12 rfl ?_
    refine r_imul d_Mod_copy_13 ?_
    refine r_iload_n d_Mod_copy_14 rfl ?_
    refine r_iadd d_Mod_copy_15 ?_
    refine r_aload_n d_Mod_copy_16 rfl ?_
    refine r_getR d_Mod_copy_17 f_Mod_9 kd_153 rfl lk_153_0 ?_
    refine r_iconst (nI 3) d_Mod_copy_20 (by decide) ?_
    refine r_iload_n d_Mod_copy_21 rfl ?_
    refine r_imul d_Mod_copy_22 ?_
    refine r_iload_n d_Mod_copy_23 rfl ?_
    refine r_iadd d_Mod_copy_24 ?_
    refine r_iald d_Mod_copy_25 ce_154 ⟨h.1, ?_⟩
    have h := h.2
    refine r_iast d_Mod_copy_26 ce_154 ⟨h.1, ?_⟩
    have h := h.2
    refine r_inc1 (vs' := [.ref 153, .int x1, .int x2, .int (x3 + nI 1)]) d_Mod_copy_27 rfl rfl rfl ?_
    refine r_goto 2 d_Mod_copy_30 (by decide) ?_
    exact h
theorem l_Mod_copy_35 {d : Nat}  {x1 : Int32} {x2 : Int32} {x3 : Int32}  {σ : am_S} {K : am_S → Prop} (h : (am_ite ((nI 10) ≤ x3) (R_Mod_copy d K 93 [.ref 153, .int x1, .int x2, .int (nI 0)] [] σ) (vp_in (((nI 10) * x1) + x3) 320 ∧ (vp_in (((nI 10) * x2) + x3) 320 ∧ (vp_in (((nI 10) * x1) + x3) 320 ∧ (vp_in (((nI 10) * x2) + x3) 320 ∧ R_Mod_copy d K 35 [.ref 153, .int x1, .int x2, .int (x3 + nI 1)] [] (am_upI (am_upI σ 155 (Int32.toNatClampNeg (((nI 10) * x2) + x3)) (σ.1 155 (Int32.toNatClampNeg (((nI 10) * x1) + x3)))) 156 (Int32.toNatClampNeg (((nI 10) * x2) + x3)) (σ.1 156 (Int32.toNatClampNeg (((nI 10) * x1) + x3)))))))))) : R_Mod_copy d K 35 [.ref 153, .int x1, .int x2, .int x3] [] σ := by
  refine r_iload_n d_Mod_copy_35 rfl ?_
  refine r_bipush (nI 10) d_Mod_copy_36 (by decide) ?_
  refine r_icmp2 91 ((nI 10) ≤ x3) d_Mod_copy_38 (by decide) rfl (fun c2 => ?_) (fun c2 => ?_)
  · have h := h.1 c2
    refine r_iconst (nI 0) d_Mod_copy_91 (by decide) ?_
    refine r_istore_n (vs' := [.ref 153, .int x1, .int x2, .int (nI 0)]) d_Mod_copy_92 rfl rfl ?_
    exact h
  · have h := h.2 c2
    refine r_aload_n d_Mod_copy_41 rfl ?_
    refine r_getR d_Mod_copy_42 f_Mod_13 kd_153 rfl lk_153_1 ?_
    refine r_bipush (nI 10) d_Mod_copy_45 (by decide) ?_
    refine r_iload_n d_Mod_copy_47 rfl ?_
    refine r_imul d_Mod_copy_48 ?_
    refine r_iload_n d_Mod_copy_49 rfl ?_
    refine r_iadd d_Mod_copy_50 ?_
    refine r_aload_n d_Mod_copy_51 rfl ?_
    refine r_getR d_Mod_copy_52 f_Mod_13 kd_153 rfl lk_153_1 ?_
    refine r_bipush (nI 10) d_Mod_copy_55 (by decide) ?_
    refine r_iload_n d_Mod_copy_57 rfl ?_
    refine r_imul d_Mod_copy_58 ?_
    refine r_iload_n d_Mod_copy_59 rfl ?_
    refine r_iadd d_Mod_copy_60 ?_
    refine r_iald d_Mod_copy_61 ce_155 ⟨h.1, ?_⟩
    have h := h.2
    refine r_iast d_Mod_copy_62 ce_155 ⟨h.1, ?_⟩
    have h := h.2
    refine r_aload_n d_Mod_copy_63 rfl ?_
    refine r_getR d_Mod_copy_64 f_Mod_16 kd_153 rfl lk_153_2 ?_
    refine r_bipush (nI 10) d_Mod_copy_67 (by decide) ?_
    refine r_iload_n d_Mod_copy_69 rfl ?_
    refine r_imul d_Mod_copy_70 ?_
    refine r_iload_n d_Mod_copy_71 rfl ?_
    refine r_iadd d_Mod_copy_72 ?_
    refine r_aload_n d_Mod_copy_73 rfl ?_
    refine r_getR d_Mod_copy_74 f_Mod_16 kd_153 rfl lk_153_2 ?_
    refine r_bipush (nI 10) d_Mod_copy_77 (by decide) ?_
    refine r_iload_n d_Mod_copy_79 rfl ?_
    refine r_imul d_Mod_copy_80 ?_
    refine r_iload_n d_Mod_copy_81 rfl ?_
    refine r_iadd d_Mod_copy_82 ?_
    refine r_iald d_Mod_copy_83 ce_156 ⟨h.1, ?_⟩
    have h := h.2
    refine r_iast d_Mod_copy_84 ce_156 ⟨h.1, ?_⟩
    have h := h.2
    refine r_inc1 (vs' := [.ref 153, .int x1, .int x2, .int (x3 + nI 1)]) d_Mod_copy_85 rfl rfl rfl ?_
    refine r_goto 35 d_Mod_copy_88 (by decide) ?_
    exact h
theorem l_Mod_copy_93 {d : Nat}  {x1 : Int32} {x2 : Int32} {x3 : Int32}  {σ : am_S} {K : am_S → Prop} (h : (am_ite ((nI 5120) ≤ x3) (K σ) (vp_in (((nI 5120) * x1) + x3) 163840 ∧ (vp_in (((nI 5120) * x2) + x3) 163840 ∧ ((σ.1 157 (Int32.toNatClampNeg (((nI 5120) * x1) + x3))) = nI 0 ∨ (σ.1 157 (Int32.toNatClampNeg (((nI 5120) * x1) + x3))) = nI 1) ∧ R_Mod_copy d K 93 [.ref 153, .int x1, .int x2, .int (x3 + nI 1)] [] (am_upI σ 157 (Int32.toNatClampNeg (((nI 5120) * x2) + x3)) (σ.1 157 (Int32.toNatClampNeg (((nI 5120) * x1) + x3)))))))) : R_Mod_copy d K 93 [.ref 153, .int x1, .int x2, .int x3] [] σ := by
  refine r_iload_n d_Mod_copy_93 rfl ?_
  refine r_sipush (nI 5120) d_Mod_copy_94 (by decide) ?_
  refine r_icmp2 130 ((nI 5120) ≤ x3) d_Mod_copy_97 (by decide) rfl (fun c3 => ?_) (fun c3 => ?_)
  · have h := h.1 c3
    exact r_vret d_Mod_copy_130 h
  · have h := h.2 c3
    refine r_aload_n d_Mod_copy_100 rfl ?_
    refine r_getR d_Mod_copy_101 f_Mod_20 kd_153 rfl lk_153_3 ?_
    refine r_sipush (nI 5120) d_Mod_copy_104 (by decide) ?_
    refine r_iload_n d_Mod_copy_107 rfl ?_
    refine r_imul d_Mod_copy_108 ?_
    refine r_iload_n d_Mod_copy_109 rfl ?_
    refine r_iadd d_Mod_copy_110 ?_
    refine r_aload_n d_Mod_copy_111 rfl ?_
    refine r_getR d_Mod_copy_112 f_Mod_20 kd_153 rfl lk_153_3 ?_
    refine r_sipush (nI 5120) d_Mod_copy_115 (by decide) ?_
    refine r_iload_n d_Mod_copy_118 rfl ?_
    refine r_imul d_Mod_copy_119 ?_
    refine r_iload_n d_Mod_copy_120 rfl ?_
    refine r_iadd d_Mod_copy_121 ?_
    refine r_zald d_Mod_copy_122 ce_157 ⟨h.1, ?_⟩
    have h := h.2
    refine r_zast d_Mod_copy_123 ce_157 ⟨h.1, h.2.1, ?_⟩
    have h := h.2.2
    refine r_inc1 (vs' := [.ref 153, .int x1, .int x2, .int (x3 + nI 1)]) d_Mod_copy_124 rfl rfl rfl ?_
    refine r_goto 93 d_Mod_copy_127 (by decide) ?_
    exact h
def w_Mod_change  (σ : am_S) (K : am_S → Prop) : Prop := (am_ite (¬ (σ.1 153 4) = (nI 30)) (w_Mod_copy (nI 0) ((nI 2) + ((((σ.1 153 5) + ((σ.1 153 4) + (nI 1))) - (nI 1)) - (((σ.1 153 5) + ((σ.1 153 4) + (nI 1))) - (nI 1)) / (nI 30) * (nI 30))) (am_upI σ 153 4 ((σ.1 153 4) + (nI 1))) (fun τ2 => K τ2)) (w_Mod_copy (nI 0) ((nI 2) + ((((((σ.1 153 5) + (nI 1)) - ((σ.1 153 5) + (nI 1)) / (nI 30) * (nI 30)) + (σ.1 153 4)) - (nI 1)) - (((((σ.1 153 5) + (nI 1)) - ((σ.1 153 5) + (nI 1)) / (nI 30) * (nI 30)) + (σ.1 153 4)) - (nI 1)) / (nI 30) * (nI 30))) (am_upI σ 153 5 (((σ.1 153 5) + (nI 1)) - ((σ.1 153 5) + (nI 1)) / (nI 30) * (nI 30))) (fun τ3 => K τ3)))
theorem t_Mod_change {d : Nat}   {σ : am_S} {K : am_S → Prop} (h : w_Mod_change  σ K) : am_run (d + 2) y_Mod_change [.ref 153] σ (am_Rv K) := by
  unfold w_Mod_change at h
  refine am_begin (vs := [.ref 153]) c_Mod_change (by decide +kernel) rfl rfl rfl rfl ?_
  refine r_aload_n d_Mod_change_0 rfl ?_
  refine r_getI d_Mod_change_1 f_Mod_65 kd_153 rfl ?_
  refine r_bipush (nI 30) d_Mod_change_4 (by decide) ?_
  refine r_icmp2 25 (¬ (σ.1 153 4) = (nI 30)) d_Mod_change_6 (by decide) rfl (fun c1 => ?_) (fun c1 => ?_)
  · have h := h.1 c1
    refine r_aload_n d_Mod_change_25 rfl ?_
    refine r_dup d_Mod_change_26 rfl ?_
    refine r_getI d_Mod_change_27 f_Mod_65 kd_153 rfl ?_
    refine r_iconst (nI 1) d_Mod_change_30 (by decide) ?_
    refine r_iadd d_Mod_change_31 ?_
    refine r_putI d_Mod_change_32 f_Mod_65 kd_153 rfl ?_
    refine r_aload_n d_Mod_change_35 rfl ?_
    refine r_iconst (nI 0) d_Mod_change_36 (by decide) ?_
    refine r_iconst (nI 2) d_Mod_change_37 (by decide) ?_
    refine r_aload_n d_Mod_change_38 rfl ?_
    refine r_getI d_Mod_change_39 f_Mod_68 kd_153 rfl ?_
    refine r_aload_n d_Mod_change_42 rfl ?_
    refine r_getI d_Mod_change_43 f_Mod_65 kd_153 rfl ?_
    refine r_iadd d_Mod_change_46 ?_
    refine r_iconst (nI 1) d_Mod_change_47 (by decide) ?_
    refine r_isub d_Mod_change_48 ?_
    refine r_bipush (nI 30) d_Mod_change_49 (by decide) ?_
    refine r_irem d_Mod_change_51 ⟨by decide, ?_⟩
    refine r_iadd d_Mod_change_52 ?_
    refine r_virtV [.int (nI 0), .int ((nI 2) + ((((σ.1 153 5) + ((σ.1 153 4) + (nI 1))) - (nI 1)) - (((σ.1 153 5) + ((σ.1 153 4) + (nI 1))) - (nI 1)) / (nI 30) * (nI 30)))] [] d_Mod_change_53 v_Mod_71 rfl rfl cn_153 rfl (t_Mod_copy h) (fun τ2 h => ?_)
    exact r_vret d_Mod_change_56 h
  · have h := h.2 c1
    refine r_aload_n d_Mod_change_9 rfl ?_
    refine r_aload_n d_Mod_change_10 rfl ?_
    refine r_getI d_Mod_change_11 f_Mod_68 kd_153 rfl ?_
    refine r_iconst (nI 1) d_Mod_change_14 (by decide) ?_
    refine r_iadd d_Mod_change_15 ?_
    refine r_bipush (nI 30) d_Mod_change_16 (by decide) ?_
    refine r_irem d_Mod_change_18 ⟨by decide, ?_⟩
    refine r_putI d_Mod_change_19 f_Mod_68 kd_153 rfl ?_
    refine r_goto 35 d_Mod_change_22 (by decide) ?_
    refine r_aload_n d_Mod_change_35 rfl ?_
    refine r_iconst (nI 0) d_Mod_change_36 (by decide) ?_
    refine r_iconst (nI 2) d_Mod_change_37 (by decide) ?_
    refine r_aload_n d_Mod_change_38 rfl ?_
    refine r_getI d_Mod_change_39 f_Mod_68 kd_153 rfl ?_
    refine r_aload_n d_Mod_change_42 rfl ?_
    refine r_getI d_Mod_change_43 f_Mod_65 kd_153 rfl ?_
    refine r_iadd d_Mod_change_46 ?_
    refine r_iconst (nI 1) d_Mod_change_47 (by decide) ?_
    refine r_isub d_Mod_change_48 ?_
    refine r_bipush (nI 30) d_Mod_change_49 (by decide) ?_
    refine r_irem d_Mod_change_51 ⟨by decide, ?_⟩
    refine r_iadd d_Mod_change_52 ?_
    refine r_virtV [.int (nI 0), .int ((nI 2) + ((((((σ.1 153 5) + (nI 1)) - ((σ.1 153 5) + (nI 1)) / (nI 30) * (nI 30)) + (σ.1 153 4)) - (nI 1)) - (((((σ.1 153 5) + (nI 1)) - ((σ.1 153 5) + (nI 1)) / (nI 30) * (nI 30)) + (σ.1 153 4)) - (nI 1)) / (nI 30) * (nI 30)))] [] d_Mod_change_53 v_Mod_71 rfl rfl cn_153 rfl (t_Mod_copy h) (fun τ3 h => ?_)
    exact r_vret d_Mod_change_56 h
abbrev R_Mod_begin (d : Nat) (K : am_S → Prop) (pc : Nat) (vs st : List Value) (σ : am_S) : Prop := am_r (am_run (d + 0)) "WheelDiscModel" none prog_13_method_7_code (am_Rv K) pc vs st σ
def w_Mod_begin (x1 : Int32) (σ : am_S) (K : am_S → Prop) : Prop := ∀ d : Nat, am_run (d + 1) y_Mod_begin [.ref 153, .int x1] σ (am_Rv K)
theorem t_Mod_begin {d : Nat} {x1 : Int32}  {σ : am_S} {K : am_S → Prop} (h : w_Mod_begin x1 σ K) : am_run (d + 1) y_Mod_begin [.ref 153, .int x1] σ (am_Rv K) := h d
theorem e_Mod_begin {x1 : Int32}  {σ : am_S} {K : am_S → Prop} (h : ∀ d : Nat, (vp_in (nI 0) 96 ∧ (vp_in (nI 1) 96 ∧ (vp_in (nI 2) 96 ∧ R_Mod_begin d K 23 [.ref 153, .null, .int (nI 0)] [] (am_upI (am_upI (am_upI σ 154 0 x1) 154 1 (nI 0)) 154 2 (nI 0)))))) : w_Mod_begin x1 σ K := by
  intro d
  have h := h d
  refine am_begin (vs := [.ref 153, .int x1, .null]) c_Mod_begin (by decide +kernel) rfl rfl rfl rfl ?_
  refine r_aload_n d_Mod_begin_0 rfl ?_
  refine r_getR d_Mod_begin_1 f_Mod_9 kd_153 rfl lk_153_0 ?_
  refine r_iconst (nI 0) d_Mod_begin_4 (by decide) ?_
  refine r_iload_n d_Mod_begin_5 rfl ?_
  refine r_iast d_Mod_begin_6 ce_154 ⟨h.1, ?_⟩
  have h := h.2
  refine r_aload_n d_Mod_begin_7 rfl ?_
  refine r_getR d_Mod_begin_8 f_Mod_9 kd_153 rfl lk_153_0 ?_
  refine r_iconst (nI 1) d_Mod_begin_11 (by decide) ?_
  refine r_iconst (nI 0) d_Mod_begin_12 (by decide) ?_
  refine r_iast d_Mod_begin_13 ce_154 ⟨h.1, ?_⟩
  have h := h.2
  refine r_aload_n d_Mod_begin_14 rfl ?_
  refine r_getR d_Mod_begin_15 f_Mod_9 kd_153 rfl lk_153_0 ?_
  refine r_iconst (nI 2) d_Mod_begin_18 (by decide) ?_
  refine r_iconst (nI 0) d_Mod_begin_19 (by decide) ?_
  refine r_iast d_Mod_begin_20 ce_154 ⟨h.1, ?_⟩
  have h := h.2
  refine r_iconst (nI 0) d_Mod_begin_21 (by decide) ?_
  refine r_istore_n (vs' := [.ref 153, .int x1, .int (nI 0)]) d_Mod_begin_22 rfl rfl ?_
  exact am_weak (vs := [.ref 153, .null, .int (nI 0)]) ⟨Or.inl rfl, Or.inr ⟨rfl, rfl⟩, Or.inl rfl, trivial⟩ h
theorem l_Mod_begin_23 {d : Nat}  {x2 : Int32}  {σ : am_S} {K : am_S → Prop} (h : (am_ite ((nI 5120) ≤ x2) (K σ) (vp_in x2 163840 ∧ R_Mod_begin d K 23 [.ref 153, .null, .int (x2 + nI 1)] [] (am_upI σ 157 (Int32.toNatClampNeg x2) (nI 0))))) : R_Mod_begin d K 23 [.ref 153, .null, .int x2] [] σ := by
  refine r_iload_n d_Mod_begin_23 rfl ?_
  refine r_sipush (nI 5120) d_Mod_begin_24 (by decide) ?_
  refine r_icmp2 43 ((nI 5120) ≤ x2) d_Mod_begin_27 (by decide) rfl (fun c1 => ?_) (fun c1 => ?_)
  · have h := h.1 c1
    exact r_vret d_Mod_begin_43 h
  · have h := h.2 c1
    refine r_aload_n d_Mod_begin_30 rfl ?_
    refine r_getR d_Mod_begin_31 f_Mod_20 kd_153 rfl lk_153_3 ?_
    refine r_iload_n d_Mod_begin_34 rfl ?_
    refine r_iconst (nI 0) d_Mod_begin_35 (by decide) ?_
    refine r_zast d_Mod_begin_36 ce_157 ⟨h.1, Or.inl rfl, ?_⟩
    have h := h.2
    refine r_inc1 (vs' := [.ref 153, .null, .int (x2 + nI 1)]) d_Mod_begin_37 rfl rfl rfl ?_
    refine r_goto 23 d_Mod_begin_40 (by decide) ?_
    exact h
def w_Mod_disc (x1 : Int32) (σ : am_S) (K : Int32 → am_S → Prop) : Prop := (am_ite (x1 < (nI 1)) (w_Mod_no (nI 1) (am_upI σ 153 18 (nI 0)) (fun r2 τ2 => K (nI 0) τ2)) (am_ite (x1 ≤ (nI 512)) (w_Mod_change  (am_upI σ 153 18 (nI 0)) (fun τ4 => (w_Mod_begin x1 τ4 (fun τ5 => K (nI 1) τ5)))) (w_Mod_no (nI 1) (am_upI σ 153 18 (nI 0)) (fun r6 τ6 => K (nI 0) τ6))))
theorem t_Mod_disc {d : Nat} {x1 : Int32}  {σ : am_S} {K : Int32 → am_S → Prop} (h : w_Mod_disc x1 σ K) : am_run (d + 3) y_Mod_disc [.ref 153, .int x1] σ (am_Ri K) := by
  unfold w_Mod_disc at h
  refine am_begin (vs := [.ref 153, .int x1]) c_Mod_disc (by decide +kernel) rfl rfl rfl rfl ?_
  refine r_aload_n d_Mod_disc_0 rfl ?_
  refine r_iconst (nI 0) d_Mod_disc_1 (by decide) ?_
  refine r_putI d_Mod_disc_2 f_Mod_62 kd_153 rfl ?_
  refine r_iload_n d_Mod_disc_5 rfl ?_
  refine r_iconst (nI 1) d_Mod_disc_6 (by decide) ?_
  refine r_icmp2 17 (x1 < (nI 1)) d_Mod_disc_7 (by decide) rfl (fun c1 => ?_) (fun c1 => ?_)
  · have h := h.1 c1
    refine r_aload_n d_Mod_disc_17 rfl ?_
    refine r_iconst (nI 1) d_Mod_disc_18 (by decide) ?_
    refine r_virtI [.int (nI 1)] [] d_Mod_disc_19 v_Mod_75 rfl rfl cn_153 rfl (t_Mod_no h) (fun r2 τ2 h => ?_)
    refine r_pop d_Mod_disc_22 rfl ?_
    refine r_iconst (nI 0) d_Mod_disc_23 (by decide) ?_
    exact r_zret0 d_Mod_disc_24 h
  · have h := h.2 c1
    refine r_iload_n d_Mod_disc_10 rfl ?_
    refine r_sipush (nI 512) d_Mod_disc_11 (by decide) ?_
    refine r_icmp2 25 (x1 ≤ (nI 512)) d_Mod_disc_14 (by decide) rfl (fun c3 => ?_) (fun c3 => ?_)
    · have h := h.1 c3
      refine r_aload_n d_Mod_disc_25 rfl ?_
      refine r_virtV [] [] d_Mod_disc_26 v_Mod_82 rfl rfl cn_153 rfl (t_Mod_change h) (fun τ4 h => ?_)
      refine r_aload_n d_Mod_disc_29 rfl ?_
      refine r_iload_n d_Mod_disc_30 rfl ?_
      refine r_virtV [.int x1] [] d_Mod_disc_31 v_Mod_85 rfl rfl cn_153 rfl (t_Mod_begin h) (fun τ5 h => ?_)
      refine r_iconst (nI 1) d_Mod_disc_34 (by decide) ?_
      exact r_zret1 d_Mod_disc_35 h
    · have h := h.2 c3
      refine r_aload_n d_Mod_disc_17 rfl ?_
      refine r_iconst (nI 1) d_Mod_disc_18 (by decide) ?_
      refine r_virtI [.int (nI 1)] [] d_Mod_disc_19 v_Mod_75 rfl rfl cn_153 rfl (t_Mod_no h) (fun r6 τ6 h => ?_)
      refine r_pop d_Mod_disc_22 rfl ?_
      refine r_iconst (nI 0) d_Mod_disc_23 (by decide) ?_
      exact r_zret0 d_Mod_disc_24 h
def w_Mod_wide  (σ : am_S) (K : Int32 → am_S → Prop) : Prop := (am_ite (¬ (σ.1 153 7) = (nI 0)) (am_ite (¬ (σ.1 153 7) = (nI 1)) (K (nI 64) σ) (K (nI 16) σ)) (K (nI 8) σ))
theorem t_Mod_wide {d : Nat}   {σ : am_S} {K : Int32 → am_S → Prop} (h : w_Mod_wide  σ K) : am_run (d + 1) y_Mod_wide [.ref 153] σ (am_Ri K) := by
  unfold w_Mod_wide at h
  refine am_begin (vs := [.ref 153]) c_Mod_wide (by decide +kernel) rfl rfl rfl rfl ?_
  refine r_aload_n d_Mod_wide_0 rfl ?_
  refine r_getI d_Mod_wide_1 f_Mod_24 kd_153 rfl ?_
  refine r_if2 12 (¬ (σ.1 153 7) = (nI 0)) d_Mod_wide_4 (by decide) rfl (fun c1 => ?_) (fun c1 => ?_)
  · have h := h.1 c1
    refine r_aload_n d_Mod_wide_12 rfl ?_
    refine r_getI d_Mod_wide_13 f_Mod_24 kd_153 rfl ?_
    refine r_iconst (nI 1) d_Mod_wide_16 (by decide) ?_
    refine r_icmp2 25 (¬ (σ.1 153 7) = (nI 1)) d_Mod_wide_17 (by decide) rfl (fun c2 => ?_) (fun c2 => ?_)
    · have h := h.1 c2
      refine r_bipush (nI 64) d_Mod_wide_25 (by decide) ?_
      exact r_iret d_Mod_wide_27 h
    · have h := h.2 c2
      refine r_bipush (nI 16) d_Mod_wide_20 (by decide) ?_
      refine r_goto 27 d_Mod_wide_22 (by decide) ?_
      exact r_iret d_Mod_wide_27 h
  · have h := h.2 c1
    refine r_bipush (nI 8) d_Mod_wide_7 (by decide) ?_
    refine r_goto 27 d_Mod_wide_9 (by decide) ?_
    exact r_iret d_Mod_wide_27 h
def w_Mod_n  (σ : am_S) (K : Int32 → am_S → Prop) : Prop := K (σ.1 154 0) σ
theorem t_Mod_n {d : Nat}   {σ : am_S} {K : Int32 → am_S → Prop} (h : w_Mod_n  σ K) : am_run (d + 1) y_Mod_n [.ref 153] σ (am_Ri K) := by
  unfold w_Mod_n at h
  refine am_begin (vs := [.ref 153]) c_Mod_n (by decide +kernel) rfl rfl rfl rfl ?_
  refine r_aload_n d_Mod_n_0 rfl ?_
  refine r_getR d_Mod_n_1 f_Mod_9 kd_153 rfl lk_153_0 ?_
  refine r_iconst (nI 0) d_Mod_n_4 (by decide) ?_
  refine r_iald d_Mod_n_5 ce_154 ⟨pk_in 0 96 (by decide), ?_⟩
  exact r_iret d_Mod_n_6 h
abbrev R_Mod_track (d : Nat) (K : Int32 → am_S → Prop) (pc : Nat) (vs st : List Value) (σ : am_S) : Prop := am_r (am_run (d + 2)) "WheelDiscModel" (some .int) prog_13_method_12_code (am_Ri K) pc vs st σ
def w_Mod_track  (σ : am_S) (K : Int32 → am_S → Prop) : Prop := ∀ d : Nat, am_run (d + 3) y_Mod_track [.ref 153] σ (am_Ri K)
theorem t_Mod_track {d : Nat}   {σ : am_S} {K : Int32 → am_S → Prop} (h : w_Mod_track  σ K) : am_run (d + 3) y_Mod_track [.ref 153] σ (am_Ri K) := h d
theorem e_Mod_track   {σ : am_S} {K : Int32 → am_S → Prop} (h : ∀ d : Nat, (am_ite (¬ (σ.1 153 7) = (-1)) (am_ite (¬ (σ.1 154 1) = (nI 10)) (w_Mod_change  (am_upI σ 153 18 (nI 0)) (fun τ3 => R_Mod_track d K 49 [.ref 153, .int (τ3.1 154 1), .int (nI 0), .null] [] τ3)) (w_Mod_no (nI 4) (am_upI σ 153 18 (nI 0)) (fun r4 τ4 => K r4 τ4))) (w_Mod_no (nI 2) (am_upI σ 153 18 (nI 0)) (fun r5 τ5 => K r5 τ5)))) : w_Mod_track  σ K := by
  intro d
  have h := h d
  refine am_begin (vs := [.ref 153, .null, .null, .null]) c_Mod_track (by decide +kernel) rfl rfl rfl rfl ?_
  refine r_aload_n d_Mod_track_0 rfl ?_
  refine r_iconst (nI 0) d_Mod_track_1 (by decide) ?_
  refine r_putI d_Mod_track_2 f_Mod_62 kd_153 rfl ?_
  refine r_aload_n d_Mod_track_5 rfl ?_
  refine r_getI d_Mod_track_6 f_Mod_24 kd_153 rfl ?_
  refine r_iconst (-1) d_Mod_track_9 (by decide) ?_
  refine r_icmp2 19 (¬ (σ.1 153 7) = (-1)) d_Mod_track_10 (by decide) rfl (fun c1 => ?_) (fun c1 => ?_)
  · have h := h.1 c1
    refine r_aload_n d_Mod_track_19 rfl ?_
    refine r_getR d_Mod_track_20 f_Mod_9 kd_153 rfl lk_153_0 ?_
    refine r_iconst (nI 1) d_Mod_track_23 (by decide) ?_
    refine r_iald d_Mod_track_24 ce_154 ⟨pk_in 1 96 (by decide), ?_⟩
    refine r_bipush (nI 10) d_Mod_track_25 (by decide) ?_
    refine r_icmp2 36 (¬ (σ.1 154 1) = (nI 10)) d_Mod_track_27 (by decide) rfl (fun c2 => ?_) (fun c2 => ?_)
    · have h := h.1 c2
      refine r_aload_n d_Mod_track_36 rfl ?_
      refine r_virtV [] [] d_Mod_track_37 v_Mod_82 rfl rfl cn_153 rfl (t_Mod_change h) (fun τ3 h => ?_)
      refine r_aload_n d_Mod_track_40 rfl ?_
      refine r_getR d_Mod_track_41 f_Mod_9 kd_153 rfl lk_153_0 ?_
      refine r_iconst (nI 1) d_Mod_track_44 (by decide) ?_
      refine r_iald d_Mod_track_45 ce_154 ⟨pk_in 1 96 (by decide), ?_⟩
      refine r_istore_n (vs' := [.ref 153, .int (τ3.1 154 1), .null, .null]) d_Mod_track_46 rfl rfl ?_
      refine r_iconst (nI 0) d_Mod_track_47 (by decide) ?_
      refine r_istore_n (vs' := [.ref 153, .int (τ3.1 154 1), .int (nI 0), .null]) d_Mod_track_48 rfl rfl ?_
      exact h
    · have h := h.2 c2
      refine r_aload_n d_Mod_track_30 rfl ?_
      refine r_iconst (nI 4) d_Mod_track_31 (by decide) ?_
      refine r_virtI [.int (nI 4)] [] d_Mod_track_32 v_Mod_75 rfl rfl cn_153 rfl (t_Mod_no h) (fun r4 τ4 h => ?_)
      exact r_iret d_Mod_track_35 h
  · have h := h.2 c1
    refine r_aload_n d_Mod_track_13 rfl ?_
    refine r_iconst (nI 2) d_Mod_track_14 (by decide) ?_
    refine r_virtI [.int (nI 2)] [] d_Mod_track_15 v_Mod_75 rfl rfl cn_153 rfl (t_Mod_no h) (fun r5 τ5 h => ?_)
    exact r_iret d_Mod_track_18 h
theorem l_Mod_track_49 {d : Nat}  {x1 : Int32} {x2 : Int32}  {σ : am_S} {K : Int32 → am_S → Prop} (h : (am_ite ((nI 512) ≤ x2) (vp_in (nI 1) 96 ∧ K x1 (am_upI (am_upI σ 154 1 ((σ.1 154 1) + (nI 1))) 153 7 (-1))) (w_Mod_wide  σ (fun r7 τ7 => (¬ r7 = nI 0 ∧ (w_Mod_n  τ7 (fun r8 τ8 => (am_ite (r8 ≤ x2) (vp_in (((nI 512) * x1) + x2) 163840 ∧ R_Mod_track d K 49 [.ref 153, .int x1, .int (x2 + nI 1), .null] [] (am_upI τ8 157 (Int32.toNatClampNeg (((nI 512) * x1) + x2)) (nI 0))) (am_ite ((τ8.1 153 8) ≤ (x2 / r7)) (vp_in (((nI 512) * x1) + x2) 163840 ∧ R_Mod_track d K 49 [.ref 153, .int x1, .int (x2 + nI 1), .null] [] (am_upI τ8 157 (Int32.toNatClampNeg (((nI 512) * x1) + x2)) (nI 0))) (vp_in (x2 / r7) 64 ∧ (w_Mod_wide  τ8 (fun r11 τ11 => (¬ r11 = nI 0 ∧ (am_ite (¬ (lg_cmp (((τ8.2 158 (Int32.toNatClampNeg (x2 / r7))) >>> (Int32.toInt64 (x2 - x2 / r11 * r11) &&& 63)) &&& (1)) (1)) = (nI 0)) (vp_in (((nI 512) * x1) + x2) 163840 ∧ R_Mod_track d K 49 [.ref 153, .int x1, .int (x2 + nI 1), .null] [] (am_upI τ11 157 (Int32.toNatClampNeg (((nI 512) * x1) + x2)) (nI 0))) (vp_in (((nI 512) * x1) + x2) 163840 ∧ R_Mod_track d K 49 [.ref 153, .int x1, .int (x2 + nI 1), .null] [] (am_upI τ11 157 (Int32.toNatClampNeg (((nI 512) * x1) + x2)) (nI 1))))))))))))))))) : R_Mod_track d K 49 [.ref 153, .int x1, .int x2, .null] [] σ := by
  refine r_iload_n d_Mod_track_49 rfl ?_
  refine r_sipush (nI 512) d_Mod_track_50 (by decide) ?_
  refine r_icmp2 122 ((nI 512) ≤ x2) d_Mod_track_53 (by decide) rfl (fun c6 => ?_) (fun c6 => ?_)
  · have h := h.1 c6
    refine r_aload_n d_Mod_track_122 rfl ?_
    refine r_getR d_Mod_track_123 f_Mod_9 kd_153 rfl lk_153_0 ?_
    refine r_iconst (nI 1) d_Mod_track_126 (by decide) ?_
    refine r_dup2 d_Mod_track_127 rfl rfl ?_
    refine r_iald d_Mod_track_128 ce_154 ⟨pk_in 1 96 (by decide), ?_⟩
    refine r_iconst (nI 1) d_Mod_track_129 (by decide) ?_
    refine r_iadd d_Mod_track_130 ?_
    refine r_iast d_Mod_track_131 ce_154 ⟨h.1, ?_⟩
    have h := h.2
    refine r_aload_n d_Mod_track_132 rfl ?_
    refine r_iconst (-1) d_Mod_track_133 (by decide) ?_
    refine r_putI d_Mod_track_134 f_Mod_24 kd_153 rfl ?_
    refine r_iload_n d_Mod_track_137 rfl ?_
    exact r_iret d_Mod_track_138 h
  · have h := h.2 c6
    refine r_iload_n d_Mod_track_56 rfl ?_
    refine r_aload_n d_Mod_track_57 rfl ?_
    refine r_virtI [] [.int x2] d_Mod_track_58 v_Mod_89 rfl rfl cn_153 rfl (t_Mod_wide h) (fun r7 τ7 h => ?_)
    refine r_idiv d_Mod_track_61 ⟨h.1, ?_⟩
    have h := h.2
    refine r_istore_n (vs' := [.ref 153, .int x1, .int x2, .int (x2 / r7)]) d_Mod_track_62 rfl rfl ?_
    refine r_aload_n d_Mod_track_63 rfl ?_
    refine r_getR d_Mod_track_64 f_Mod_20 kd_153 rfl lk_153_3 ?_
    refine r_sipush (nI 512) d_Mod_track_67 (by decide) ?_
    refine r_iload_n d_Mod_track_70 rfl ?_
    refine r_imul d_Mod_track_71 ?_
    refine r_iload_n d_Mod_track_72 rfl ?_
    refine r_iadd d_Mod_track_73 ?_
    refine r_iload_n d_Mod_track_74 rfl ?_
    refine r_aload_n d_Mod_track_75 rfl ?_
    refine r_virtI [] [.int x2, .int (((nI 512) * x1) + x2), .ref 157] d_Mod_track_76 v_Mod_93 rfl rfl cn_153 rfl (t_Mod_n h) (fun r8 τ8 h => ?_)
    refine r_icmp2 114 (r8 ≤ x2) d_Mod_track_79 (by decide) rfl (fun c9 => ?_) (fun c9 => ?_)
    · have h := h.1 c9
      refine r_iconst (nI 0) d_Mod_track_114 (by decide) ?_
      refine r_zast d_Mod_track_115 ce_157 ⟨h.1, Or.inl rfl, ?_⟩
      have h := h.2
      refine r_inc1 (vs' := [.ref 153, .int x1, .int (x2 + nI 1), .int (x2 / r7)]) d_Mod_track_116 rfl rfl rfl ?_
      refine r_goto 49 d_Mod_track_119 (by decide) ?_
      exact am_weak (vs := [.ref 153, .int x1, .int (x2 + nI 1), .null]) ⟨Or.inl rfl, Or.inl rfl, Or.inl rfl, Or.inr ⟨rfl, rfl⟩, trivial⟩ h
    · have h := h.2 c9
      refine r_iload_n d_Mod_track_82 rfl ?_
      refine r_aload_n d_Mod_track_83 rfl ?_
      refine r_getI d_Mod_track_84 f_Mod_79 kd_153 rfl ?_
      refine r_icmp2 114 ((τ8.1 153 8) ≤ (x2 / r7)) d_Mod_track_87 (by decide) rfl (fun c10 => ?_) (fun c10 => ?_)
      · have h := h.1 c10
        refine r_iconst (nI 0) d_Mod_track_114 (by decide) ?_
        refine r_zast d_Mod_track_115 ce_157 ⟨h.1, Or.inl rfl, ?_⟩
        have h := h.2
        refine r_inc1 (vs' := [.ref 153, .int x1, .int (x2 + nI 1), .int (x2 / r7)]) d_Mod_track_116 rfl rfl rfl ?_
        refine r_goto 49 d_Mod_track_119 (by decide) ?_
        exact am_weak (vs := [.ref 153, .int x1, .int (x2 + nI 1), .null]) ⟨Or.inl rfl, Or.inl rfl, Or.inl rfl, Or.inr ⟨rfl, rfl⟩, trivial⟩ h
      · have h := h.2 c10
        refine r_aload_n d_Mod_track_90 rfl ?_
        refine r_getR d_Mod_track_91 f_Mod_28 kd_153 rfl lk_153_9 ?_
        refine r_iload_n d_Mod_track_94 rfl ?_
        refine r_lald d_Mod_track_95 ce_158 ⟨h.1, ?_⟩
        have h := h.2
        refine r_iload_n d_Mod_track_96 rfl ?_
        refine r_aload_n d_Mod_track_97 rfl ?_
        refine r_virtI [] [.int x2, .long (τ8.2 158 (Int32.toNatClampNeg (x2 / r7))), .int (((nI 512) * x1) + x2), .ref 157] d_Mod_track_98 v_Mod_89 rfl rfl cn_153 rfl (t_Mod_wide h) (fun r11 τ11 h => ?_)
        refine r_irem d_Mod_track_101 ⟨h.1, ?_⟩
        have h := h.2
        refine r_lshr d_Mod_track_102 ?_
        refine r_lconst (1) d_Mod_track_103 (by decide) ?_
        refine r_land d_Mod_track_104 ?_
        refine r_lconst (1) d_Mod_track_105 (by decide) ?_
        refine r_lcmp d_Mod_track_106 ?_
        refine r_if2 114 (¬ (lg_cmp (((τ8.2 158 (Int32.toNatClampNeg (x2 / r7))) >>> (Int32.toInt64 (x2 - x2 / r11 * r11) &&& 63)) &&& (1)) (1)) = (nI 0)) d_Mod_track_107 (by decide) rfl (fun c12 => ?_) (fun c12 => ?_)
        · have h := h.1 c12
          refine r_iconst (nI 0) d_Mod_track_114 (by decide) ?_
          refine r_zast d_Mod_track_115 ce_157 ⟨h.1, Or.inl rfl, ?_⟩
          have h := h.2
          refine r_inc1 (vs' := [.ref 153, .int x1, .int (x2 + nI 1), .int (x2 / r7)]) d_Mod_track_116 rfl rfl rfl ?_
          refine r_goto 49 d_Mod_track_119 (by decide) ?_
          exact am_weak (vs := [.ref 153, .int x1, .int (x2 + nI 1), .null]) ⟨Or.inl rfl, Or.inl rfl, Or.inl rfl, Or.inr ⟨rfl, rfl⟩, trivial⟩ h
        · have h := h.2 c12
          refine r_iconst (nI 1) d_Mod_track_110 (by decide) ?_
          refine r_goto 115 d_Mod_track_111 (by decide) ?_
          refine r_zast d_Mod_track_115 ce_157 ⟨h.1, Or.inr rfl, ?_⟩
          have h := h.2
          refine r_inc1 (vs' := [.ref 153, .int x1, .int (x2 + nI 1), .int (x2 / r7)]) d_Mod_track_116 rfl rfl rfl ?_
          refine r_goto 49 d_Mod_track_119 (by decide) ?_
          exact am_weak (vs := [.ref 153, .int x1, .int (x2 + nI 1), .null]) ⟨Or.inl rfl, Or.inl rfl, Or.inl rfl, Or.inr ⟨rfl, rfl⟩, trivial⟩ h
def w_Mod_light (x1 : Int32) (x2 : Int32) (x3 : Int32) (σ : am_S) (K : Int32 → am_S → Prop) : Prop := (am_ite (x1 < (nI 0)) (w_Mod_no (nI 1) (am_upI σ 153 18 (nI 0)) (fun r2 τ2 => K r2 τ2)) (am_ite ((σ.1 154 1) ≤ x1) (w_Mod_no (nI 1) (am_upI σ 153 18 (nI 0)) (fun r4 τ4 => K r4 τ4)) (am_ite (x2 < (nI 0)) (w_Mod_no (nI 1) (am_upI σ 153 18 (nI 0)) (fun r6 τ6 => K r6 τ6)) (w_Mod_n  (am_upI σ 153 18 (nI 0)) (fun r7 τ7 => (am_ite (x2 < r7) (w_Mod_change  τ7 (fun τ9 => (vp_in (((nI 512) * x1) + x2) 163840 ∧ (vp_in (((nI 512) * x1) + x2) 163840 ∧ (x3 = nI 0 ∨ x3 = nI 1) ∧ (am_ite ((τ9.1 157 (Int32.toNatClampNeg (((nI 512) * x1) + x2))) = (nI 0)) (K (nI 0) (am_upI τ9 157 (Int32.toNatClampNeg (((nI 512) * x1) + x2)) x3)) (K (nI 1) (am_upI τ9 157 (Int32.toNatClampNeg (((nI 512) * x1) + x2)) x3))))))) (w_Mod_no (nI 1) τ7 (fun r11 τ11 => K r11 τ11))))))))
theorem t_Mod_light {d : Nat} {x1 : Int32} {x2 : Int32} {x3 : Int32}  {σ : am_S} {K : Int32 → am_S → Prop} (h : w_Mod_light x1 x2 x3 σ K) : am_run (d + 3) y_Mod_light [.ref 153, .int x1, .int x2, .int x3] σ (am_Ri K) := by
  unfold w_Mod_light at h
  refine am_begin (vs := [.ref 153, .int x1, .int x2, .int x3, .null]) c_Mod_light (by decide +kernel) rfl rfl rfl rfl ?_
  refine r_aload_n d_Mod_light_0 rfl ?_
  refine r_iconst (nI 0) d_Mod_light_1 (by decide) ?_
  refine r_putI d_Mod_light_2 f_Mod_62 kd_153 rfl ?_
  refine r_iload_n d_Mod_light_5 rfl ?_
  refine r_if2 31 (x1 < (nI 0)) d_Mod_light_6 (by decide) rfl (fun c1 => ?_) (fun c1 => ?_)
  · have h := h.1 c1
    refine r_aload_n d_Mod_light_31 rfl ?_
    refine r_iconst (nI 1) d_Mod_light_32 (by decide) ?_
    refine r_virtI [.int (nI 1)] [] d_Mod_light_33 v_Mod_75 rfl rfl cn_153 rfl (t_Mod_no h) (fun r2 τ2 h => ?_)
    exact r_iret d_Mod_light_36 h
  · have h := h.2 c1
    refine r_iload_n d_Mod_light_9 rfl ?_
    refine r_aload_n d_Mod_light_10 rfl ?_
    refine r_getR d_Mod_light_11 f_Mod_9 kd_153 rfl lk_153_0 ?_
    refine r_iconst (nI 1) d_Mod_light_14 (by decide) ?_
    refine r_iald d_Mod_light_15 ce_154 ⟨pk_in 1 96 (by decide), ?_⟩
    refine r_icmp2 31 ((σ.1 154 1) ≤ x1) d_Mod_light_16 (by decide) rfl (fun c3 => ?_) (fun c3 => ?_)
    · have h := h.1 c3
      refine r_aload_n d_Mod_light_31 rfl ?_
      refine r_iconst (nI 1) d_Mod_light_32 (by decide) ?_
      refine r_virtI [.int (nI 1)] [] d_Mod_light_33 v_Mod_75 rfl rfl cn_153 rfl (t_Mod_no h) (fun r4 τ4 h => ?_)
      exact r_iret d_Mod_light_36 h
    · have h := h.2 c3
      refine r_iload_n d_Mod_light_19 rfl ?_
      refine r_if2 31 (x2 < (nI 0)) d_Mod_light_20 (by decide) rfl (fun c5 => ?_) (fun c5 => ?_)
      · have h := h.1 c5
        refine r_aload_n d_Mod_light_31 rfl ?_
        refine r_iconst (nI 1) d_Mod_light_32 (by decide) ?_
        refine r_virtI [.int (nI 1)] [] d_Mod_light_33 v_Mod_75 rfl rfl cn_153 rfl (t_Mod_no h) (fun r6 τ6 h => ?_)
        exact r_iret d_Mod_light_36 h
      · have h := h.2 c5
        refine r_iload_n d_Mod_light_23 rfl ?_
        refine r_aload_n d_Mod_light_24 rfl ?_
        refine r_virtI [] [.int x2] d_Mod_light_25 v_Mod_93 rfl rfl cn_153 rfl (t_Mod_n h) (fun r7 τ7 h => ?_)
        refine r_icmp2 37 (x2 < r7) d_Mod_light_28 (by decide) rfl (fun c8 => ?_) (fun c8 => ?_)
        · have h := h.1 c8
          refine r_aload_n d_Mod_light_37 rfl ?_
          refine r_virtV [] [] d_Mod_light_38 v_Mod_82 rfl rfl cn_153 rfl (t_Mod_change h) (fun τ9 h => ?_)
          refine r_aload_n d_Mod_light_41 rfl ?_
          refine r_getR d_Mod_light_42 f_Mod_20 kd_153 rfl lk_153_3 ?_
          refine r_sipush (nI 512) d_Mod_light_45 (by decide) ?_
          refine r_iload_n d_Mod_light_48 rfl ?_
          refine r_imul d_Mod_light_49 ?_
          refine r_iload_n d_Mod_light_50 rfl ?_
          refine r_iadd d_Mod_light_51 ?_
          refine r_zald d_Mod_light_52 ce_157 ⟨h.1, ?_⟩
          have h := h.2
          refine r_istore (vs' := [.ref 153, .int x1, .int x2, .int x3, .int (τ9.1 157 (Int32.toNatClampNeg (((nI 512) * x1) + x2)))]) d_Mod_light_53 rfl rfl ?_
          refine r_aload_n d_Mod_light_55 rfl ?_
          refine r_getR d_Mod_light_56 f_Mod_20 kd_153 rfl lk_153_3 ?_
          refine r_sipush (nI 512) d_Mod_light_59 (by decide) ?_
          refine r_iload_n d_Mod_light_62 rfl ?_
          refine r_imul d_Mod_light_63 ?_
          refine r_iload_n d_Mod_light_64 rfl ?_
          refine r_iadd d_Mod_light_65 ?_
          refine r_iload_n d_Mod_light_66 rfl ?_
          refine r_zast d_Mod_light_67 ce_157 ⟨h.1, h.2.1, ?_⟩
          have h := h.2.2
          refine r_iload d_Mod_light_68 rfl ?_
          refine r_if2 77 ((τ9.1 157 (Int32.toNatClampNeg (((nI 512) * x1) + x2))) = (nI 0)) d_Mod_light_70 (by decide) rfl (fun c10 => ?_) (fun c10 => ?_)
          · have h := h.1 c10
            refine r_iconst (nI 0) d_Mod_light_77 (by decide) ?_
            exact r_iret d_Mod_light_78 h
          · have h := h.2 c10
            refine r_iconst (nI 1) d_Mod_light_73 (by decide) ?_
            refine r_goto 78 d_Mod_light_74 (by decide) ?_
            exact r_iret d_Mod_light_78 h
        · have h := h.2 c8
          refine r_aload_n d_Mod_light_31 rfl ?_
          refine r_iconst (nI 1) d_Mod_light_32 (by decide) ?_
          refine r_virtI [.int (nI 1)] [] d_Mod_light_33 v_Mod_75 rfl rfl cn_153 rfl (t_Mod_no h) (fun r11 τ11 h => ?_)
          exact r_iret d_Mod_light_36 h
def w_Mod_readers  (σ : am_S) (K : Int32 → am_S → Prop) : Prop := K (σ.1 154 2) σ
theorem t_Mod_readers {d : Nat}   {σ : am_S} {K : Int32 → am_S → Prop} (h : w_Mod_readers  σ K) : am_run (d + 1) y_Mod_readers [.ref 153] σ (am_Ri K) := by
  unfold w_Mod_readers at h
  refine am_begin (vs := [.ref 153]) c_Mod_readers (by decide +kernel) rfl rfl rfl rfl ?_
  refine r_aload_n d_Mod_readers_0 rfl ?_
  refine r_getR d_Mod_readers_1 f_Mod_9 kd_153 rfl lk_153_0 ?_
  refine r_iconst (nI 2) d_Mod_readers_4 (by decide) ?_
  refine r_iald d_Mod_readers_5 ce_154 ⟨pk_in 2 96 (by decide), ?_⟩
  exact r_iret d_Mod_readers_6 h
def w_Mod_reader (x1 : Int32) (x2 : Int32) (σ : am_S) (K : Int32 → am_S → Prop) : Prop := (am_ite (x1 < (nI 0)) (w_Mod_no (nI 1) (am_upI σ 153 18 (nI 0)) (fun r2 τ2 => K r2 τ2)) (am_ite ((σ.1 154 1) ≤ x1) (w_Mod_no (nI 1) (am_upI σ 153 18 (nI 0)) (fun r4 τ4 => K r4 τ4)) (am_ite (x2 < (nI 0)) (w_Mod_no (nI 1) (am_upI σ 153 18 (nI 0)) (fun r6 τ6 => K r6 τ6)) (w_Mod_n  (am_upI σ 153 18 (nI 0)) (fun r7 τ7 => (am_ite (x2 < r7) (w_Mod_readers  τ7 (fun r9 τ9 => (am_ite (¬ r9 = (nI 10)) (w_Mod_change  τ9 (fun τ11 => (vp_in (τ11.1 154 2) 320 ∧ (vp_in (τ11.1 154 2) 320 ∧ (vp_in (nI 2) 96 ∧ K (((τ11.1 154 2) + (nI 1)) - (nI 1)) (am_upI (am_upI (am_upI τ11 155 (Int32.toNatClampNeg (τ11.1 154 2)) x1) 156 (Int32.toNatClampNeg (τ11.1 154 2)) x2) 154 2 ((τ11.1 154 2) + (nI 1)))))))) (w_Mod_no (nI 4) τ9 (fun r12 τ12 => K r12 τ12))))) (w_Mod_no (nI 1) τ7 (fun r13 τ13 => K r13 τ13))))))))
theorem t_Mod_reader {d : Nat} {x1 : Int32} {x2 : Int32}  {σ : am_S} {K : Int32 → am_S → Prop} (h : w_Mod_reader x1 x2 σ K) : am_run (d + 3) y_Mod_reader [.ref 153, .int x1, .int x2] σ (am_Ri K) := by
  unfold w_Mod_reader at h
  refine am_begin (vs := [.ref 153, .int x1, .int x2]) c_Mod_reader (by decide +kernel) rfl rfl rfl rfl ?_
  refine r_aload_n d_Mod_reader_0 rfl ?_
  refine r_iconst (nI 0) d_Mod_reader_1 (by decide) ?_
  refine r_putI d_Mod_reader_2 f_Mod_62 kd_153 rfl ?_
  refine r_iload_n d_Mod_reader_5 rfl ?_
  refine r_if2 31 (x1 < (nI 0)) d_Mod_reader_6 (by decide) rfl (fun c1 => ?_) (fun c1 => ?_)
  · have h := h.1 c1
    refine r_aload_n d_Mod_reader_31 rfl ?_
    refine r_iconst (nI 1) d_Mod_reader_32 (by decide) ?_
    refine r_virtI [.int (nI 1)] [] d_Mod_reader_33 v_Mod_75 rfl rfl cn_153 rfl (t_Mod_no h) (fun r2 τ2 h => ?_)
    exact r_iret d_Mod_reader_36 h
  · have h := h.2 c1
    refine r_iload_n d_Mod_reader_9 rfl ?_
    refine r_aload_n d_Mod_reader_10 rfl ?_
    refine r_getR d_Mod_reader_11 f_Mod_9 kd_153 rfl lk_153_0 ?_
    refine r_iconst (nI 1) d_Mod_reader_14 (by decide) ?_
    refine r_iald d_Mod_reader_15 ce_154 ⟨pk_in 1 96 (by decide), ?_⟩
    refine r_icmp2 31 ((σ.1 154 1) ≤ x1) d_Mod_reader_16 (by decide) rfl (fun c3 => ?_) (fun c3 => ?_)
    · have h := h.1 c3
      refine r_aload_n d_Mod_reader_31 rfl ?_
      refine r_iconst (nI 1) d_Mod_reader_32 (by decide) ?_
      refine r_virtI [.int (nI 1)] [] d_Mod_reader_33 v_Mod_75 rfl rfl cn_153 rfl (t_Mod_no h) (fun r4 τ4 h => ?_)
      exact r_iret d_Mod_reader_36 h
    · have h := h.2 c3
      refine r_iload_n d_Mod_reader_19 rfl ?_
      refine r_if2 31 (x2 < (nI 0)) d_Mod_reader_20 (by decide) rfl (fun c5 => ?_) (fun c5 => ?_)
      · have h := h.1 c5
        refine r_aload_n d_Mod_reader_31 rfl ?_
        refine r_iconst (nI 1) d_Mod_reader_32 (by decide) ?_
        refine r_virtI [.int (nI 1)] [] d_Mod_reader_33 v_Mod_75 rfl rfl cn_153 rfl (t_Mod_no h) (fun r6 τ6 h => ?_)
        exact r_iret d_Mod_reader_36 h
      · have h := h.2 c5
        refine r_iload_n d_Mod_reader_23 rfl ?_
        refine r_aload_n d_Mod_reader_24 rfl ?_
        refine r_virtI [] [.int x2] d_Mod_reader_25 v_Mod_93 rfl rfl cn_153 rfl (t_Mod_n h) (fun r7 τ7 h => ?_)
        refine r_icmp2 37 (x2 < r7) d_Mod_reader_28 (by decide) rfl (fun c8 => ?_) (fun c8 => ?_)
        · have h := h.1 c8
          refine r_aload_n d_Mod_reader_37 rfl ?_
          refine r_virtI [] [] d_Mod_reader_38 v_Mod_96 rfl rfl cn_153 rfl (t_Mod_readers h) (fun r9 τ9 h => ?_)
          refine r_bipush (nI 10) d_Mod_reader_41 (by decide) ?_
          refine r_icmp2 52 (¬ r9 = (nI 10)) d_Mod_reader_43 (by decide) rfl (fun c10 => ?_) (fun c10 => ?_)
          · have h := h.1 c10
            refine r_aload_n d_Mod_reader_52 rfl ?_
            refine r_virtV [] [] d_Mod_reader_53 v_Mod_82 rfl rfl cn_153 rfl (t_Mod_change h) (fun τ11 h => ?_)
            refine r_aload_n d_Mod_reader_56 rfl ?_
            refine r_getR d_Mod_reader_57 f_Mod_13 kd_153 rfl lk_153_1 ?_
            refine r_aload_n d_Mod_reader_60 rfl ?_
            refine r_getR d_Mod_reader_61 f_Mod_9 kd_153 rfl lk_153_0 ?_
            refine r_iconst (nI 2) d_Mod_reader_64 (by decide) ?_
            refine r_iald d_Mod_reader_65 ce_154 ⟨pk_in 2 96 (by decide), ?_⟩
            refine r_iload_n d_Mod_reader_66 rfl ?_
            refine r_iast d_Mod_reader_67 ce_155 ⟨h.1, ?_⟩
            have h := h.2
            refine r_aload_n d_Mod_reader_68 rfl ?_
            refine r_getR d_Mod_reader_69 f_Mod_16 kd_153 rfl lk_153_2 ?_
            refine r_aload_n d_Mod_reader_72 rfl ?_
            refine r_getR d_Mod_reader_73 f_Mod_9 kd_153 rfl lk_153_0 ?_
            refine r_iconst (nI 2) d_Mod_reader_76 (by decide) ?_
            refine r_iald d_Mod_reader_77 ce_154 ⟨pk_in 2 96 (by decide), ?_⟩
            refine r_iload_n d_Mod_reader_78 rfl ?_
            refine r_iast d_Mod_reader_79 ce_156 ⟨h.1, ?_⟩
            have h := h.2
            refine r_aload_n d_Mod_reader_80 rfl ?_
            refine r_getR d_Mod_reader_81 f_Mod_9 kd_153 rfl lk_153_0 ?_
            refine r_iconst (nI 2) d_Mod_reader_84 (by decide) ?_
            refine r_dup2 d_Mod_reader_85 rfl rfl ?_
            refine r_iald d_Mod_reader_86 ce_154 ⟨pk_in 2 96 (by decide), ?_⟩
            refine r_iconst (nI 1) d_Mod_reader_87 (by decide) ?_
            refine r_iadd d_Mod_reader_88 ?_
            refine r_iast d_Mod_reader_89 ce_154 ⟨h.1, ?_⟩
            have h := h.2
            refine r_aload_n d_Mod_reader_90 rfl ?_
            refine r_getR d_Mod_reader_91 f_Mod_9 kd_153 rfl lk_153_0 ?_
            refine r_iconst (nI 2) d_Mod_reader_94 (by decide) ?_
            refine r_iald d_Mod_reader_95 ce_154 ⟨pk_in 2 96 (by decide), ?_⟩
            refine r_iconst (nI 1) d_Mod_reader_96 (by decide) ?_
            refine r_isub d_Mod_reader_97 ?_
            exact r_iret d_Mod_reader_98 h
          · have h := h.2 c10
            refine r_aload_n d_Mod_reader_46 rfl ?_
            refine r_iconst (nI 4) d_Mod_reader_47 (by decide) ?_
            refine r_virtI [.int (nI 4)] [] d_Mod_reader_48 v_Mod_75 rfl rfl cn_153 rfl (t_Mod_no h) (fun r12 τ12 h => ?_)
            exact r_iret d_Mod_reader_51 h
        · have h := h.2 c8
          refine r_aload_n d_Mod_reader_31 rfl ?_
          refine r_iconst (nI 1) d_Mod_reader_32 (by decide) ?_
          refine r_virtI [.int (nI 1)] [] d_Mod_reader_33 v_Mod_75 rfl rfl cn_153 rfl (t_Mod_no h) (fun r13 τ13 h => ?_)
          exact r_iret d_Mod_reader_36 h
abbrev R_Mod_lift (d : Nat) (K : Int32 → am_S → Prop) (pc : Nat) (vs st : List Value) (σ : am_S) : Prop := am_r (am_run (d + 2)) "WheelDiscModel" (some .int) prog_13_method_15_code (am_Ri K) pc vs st σ
def w_Mod_lift (x1 : Int32) (σ : am_S) (K : Int32 → am_S → Prop) : Prop := ∀ d : Nat, am_run (d + 3) y_Mod_lift [.ref 153, .int x1] σ (am_Ri K)
theorem t_Mod_lift {d : Nat} {x1 : Int32}  {σ : am_S} {K : Int32 → am_S → Prop} (h : w_Mod_lift x1 σ K) : am_run (d + 3) y_Mod_lift [.ref 153, .int x1] σ (am_Ri K) := h d
theorem e_Mod_lift {x1 : Int32}  {σ : am_S} {K : Int32 → am_S → Prop} (h : ∀ d : Nat, (am_ite (x1 < (nI 0)) (w_Mod_no (nI 1) (am_upI σ 153 18 (nI 0)) (fun r2 τ2 => K r2 τ2)) (w_Mod_readers  (am_upI σ 153 18 (nI 0)) (fun r3 τ3 => (am_ite (x1 < r3) (w_Mod_change  τ3 (fun τ5 => R_Mod_lift d K 29 [.ref 153, .null, .int x1] [] τ5)) (w_Mod_no (nI 1) τ3 (fun r6 τ6 => K r6 τ6))))))) : w_Mod_lift x1 σ K := by
  intro d
  have h := h d
  refine am_begin (vs := [.ref 153, .int x1, .null]) c_Mod_lift (by decide +kernel) rfl rfl rfl rfl ?_
  refine r_aload_n d_Mod_lift_0 rfl ?_
  refine r_iconst (nI 0) d_Mod_lift_1 (by decide) ?_
  refine r_putI d_Mod_lift_2 f_Mod_62 kd_153 rfl ?_
  refine r_iload_n d_Mod_lift_5 rfl ?_
  refine r_if2 17 (x1 < (nI 0)) d_Mod_lift_6 (by decide) rfl (fun c1 => ?_) (fun c1 => ?_)
  · have h := h.1 c1
    refine r_aload_n d_Mod_lift_17 rfl ?_
    refine r_iconst (nI 1) d_Mod_lift_18 (by decide) ?_
    refine r_virtI [.int (nI 1)] [] d_Mod_lift_19 v_Mod_75 rfl rfl cn_153 rfl (t_Mod_no h) (fun r2 τ2 h => ?_)
    exact r_iret d_Mod_lift_22 h
  · have h := h.2 c1
    refine r_iload_n d_Mod_lift_9 rfl ?_
    refine r_aload_n d_Mod_lift_10 rfl ?_
    refine r_virtI [] [.int x1] d_Mod_lift_11 v_Mod_96 rfl rfl cn_153 rfl (t_Mod_readers h) (fun r3 τ3 h => ?_)
    refine r_icmp2 23 (x1 < r3) d_Mod_lift_14 (by decide) rfl (fun c4 => ?_) (fun c4 => ?_)
    · have h := h.1 c4
      refine r_aload_n d_Mod_lift_23 rfl ?_
      refine r_virtV [] [] d_Mod_lift_24 v_Mod_82 rfl rfl cn_153 rfl (t_Mod_change h) (fun τ5 h => ?_)
      refine r_iload_n d_Mod_lift_27 rfl ?_
      refine r_istore_n (vs' := [.ref 153, .int x1, .int x1]) d_Mod_lift_28 rfl rfl ?_
      exact am_weak (vs := [.ref 153, .null, .int x1]) ⟨Or.inl rfl, Or.inr ⟨rfl, rfl⟩, Or.inl rfl, trivial⟩ h
    · have h := h.2 c4
      refine r_aload_n d_Mod_lift_17 rfl ?_
      refine r_iconst (nI 1) d_Mod_lift_18 (by decide) ?_
      refine r_virtI [.int (nI 1)] [] d_Mod_lift_19 v_Mod_75 rfl rfl cn_153 rfl (t_Mod_no h) (fun r6 τ6 h => ?_)
      exact r_iret d_Mod_lift_22 h
theorem l_Mod_lift_29 {d : Nat}  {x2 : Int32}  {σ : am_S} {K : Int32 → am_S → Prop} (h : (w_Mod_readers  σ (fun r7 τ7 => (am_ite (r7 ≤ (x2 + (nI 1))) (vp_in (nI 2) 96 ∧ K ((τ7.1 154 2) - (nI 1)) (am_upI τ7 154 2 ((τ7.1 154 2) - (nI 1)))) (vp_in (x2 + (nI 1)) 320 ∧ (vp_in x2 320 ∧ (vp_in (x2 + (nI 1)) 320 ∧ (vp_in x2 320 ∧ R_Mod_lift d K 29 [.ref 153, .null, .int (x2 + nI 1)] [] (am_upI (am_upI τ7 155 (Int32.toNatClampNeg x2) (τ7.1 155 (Int32.toNatClampNeg (x2 + (nI 1))))) 156 (Int32.toNatClampNeg x2) (τ7.1 156 (Int32.toNatClampNeg (x2 + (nI 1))))))))))))) : R_Mod_lift d K 29 [.ref 153, .null, .int x2] [] σ := by
  refine r_iload_n d_Mod_lift_29 rfl ?_
  refine r_iconst (nI 1) d_Mod_lift_30 (by decide) ?_
  refine r_iadd d_Mod_lift_31 ?_
  refine r_aload_n d_Mod_lift_32 rfl ?_
  refine r_virtI [] [.int (x2 + (nI 1))] d_Mod_lift_33 v_Mod_96 rfl rfl cn_153 rfl (t_Mod_readers h) (fun r7 τ7 h => ?_)
  refine r_icmp2 73 (r7 ≤ (x2 + (nI 1))) d_Mod_lift_36 (by decide) rfl (fun c8 => ?_) (fun c8 => ?_)
  · have h := h.1 c8
    refine r_aload_n d_Mod_lift_73 rfl ?_
    refine r_getR d_Mod_lift_74 f_Mod_9 kd_153 rfl lk_153_0 ?_
    refine r_iconst (nI 2) d_Mod_lift_77 (by decide) ?_
    refine r_dup2 d_Mod_lift_78 rfl rfl ?_
    refine r_iald d_Mod_lift_79 ce_154 ⟨pk_in 2 96 (by decide), ?_⟩
    refine r_iconst (nI 1) d_Mod_lift_80 (by decide) ?_
    refine r_isub d_Mod_lift_81 ?_
    refine r_iast d_Mod_lift_82 ce_154 ⟨h.1, ?_⟩
    have h := h.2
    refine r_aload_n d_Mod_lift_83 rfl ?_
    refine r_getR d_Mod_lift_84 f_Mod_9 kd_153 rfl lk_153_0 ?_
    refine r_iconst (nI 2) d_Mod_lift_87 (by decide) ?_
    refine r_iald d_Mod_lift_88 ce_154 ⟨pk_in 2 96 (by decide), ?_⟩
    exact r_iret d_Mod_lift_89 h
  · have h := h.2 c8
    refine r_aload_n d_Mod_lift_39 rfl ?_
    refine r_getR d_Mod_lift_40 f_Mod_13 kd_153 rfl lk_153_1 ?_
    refine r_iload_n d_Mod_lift_43 rfl ?_
    refine r_aload_n d_Mod_lift_44 rfl ?_
    refine r_getR d_Mod_lift_45 f_Mod_13 kd_153 rfl lk_153_1 ?_
    refine r_iload_n d_Mod_lift_48 rfl ?_
    refine r_iconst (nI 1) d_Mod_lift_49 (by decide) ?_
    refine r_iadd d_Mod_lift_50 ?_
    refine r_iald d_Mod_lift_51 ce_155 ⟨h.1, ?_⟩
    have h := h.2
    refine r_iast d_Mod_lift_52 ce_155 ⟨h.1, ?_⟩
    have h := h.2
    refine r_aload_n d_Mod_lift_53 rfl ?_
    refine r_getR d_Mod_lift_54 f_Mod_16 kd_153 rfl lk_153_2 ?_
    refine r_iload_n d_Mod_lift_57 rfl ?_
    refine r_aload_n d_Mod_lift_58 rfl ?_
    refine r_getR d_Mod_lift_59 f_Mod_16 kd_153 rfl lk_153_2 ?_
    refine r_iload_n d_Mod_lift_62 rfl ?_
    refine r_iconst (nI 1) d_Mod_lift_63 (by decide) ?_
    refine r_iadd d_Mod_lift_64 ?_
    refine r_iald d_Mod_lift_65 ce_156 ⟨h.1, ?_⟩
    have h := h.2
    refine r_iast d_Mod_lift_66 ce_156 ⟨h.1, ?_⟩
    have h := h.2
    refine r_inc1 (vs' := [.ref 153, .null, .int (x2 + nI 1)]) d_Mod_lift_67 rfl rfl rfl ?_
    refine r_goto 29 d_Mod_lift_70 (by decide) ?_
    exact h
abbrev R_Mod_turnBy (d : Nat) (K : am_S → Prop) (pc : Nat) (vs st : List Value) (σ : am_S) : Prop := am_r (am_run (d + 1)) "WheelDiscModel" none prog_13_method_16_code (am_Rv K) pc vs st σ
def w_Mod_turnBy (x1 : Int32) (σ : am_S) (K : am_S → Prop) : Prop := ∀ d : Nat, am_run (d + 2) y_Mod_turnBy [.ref 153, .int x1] σ (am_Rv K)
theorem t_Mod_turnBy {d : Nat} {x1 : Int32}  {σ : am_S} {K : am_S → Prop} (h : w_Mod_turnBy x1 σ K) : am_run (d + 2) y_Mod_turnBy [.ref 153, .int x1] σ (am_Rv K) := h d
theorem e_Mod_turnBy {x1 : Int32}  {σ : am_S} {K : am_S → Prop} (h : ∀ d : Nat, R_Mod_turnBy d K 2 [.ref 153, .int x1, .int (nI 0), .null] [] σ) : w_Mod_turnBy x1 σ K := by
  intro d
  have h := h d
  refine am_begin (vs := [.ref 153, .int x1, .null, .null]) c_Mod_turnBy (by decide +kernel) rfl rfl rfl rfl ?_
  refine r_iconst (nI 0) d_Mod_turnBy_0 (by decide) ?_
  refine r_istore_n (vs' := [.ref 153, .int x1, .int (nI 0), .null]) d_Mod_turnBy_1 rfl rfl ?_
  exact h
theorem l_Mod_turnBy_2 {d : Nat}  {x1 : Int32} {x2 : Int32}  {σ : am_S} {K : am_S → Prop} (h : (am_ite ((σ.1 154 1) ≤ x2) (K σ) (R_Mod_turnBy d K 14 [.ref 153, .int x1, .int x2, .int (nI 0)] [] σ))) : R_Mod_turnBy d K 2 [.ref 153, .int x1, .int x2, .null] [] σ := by
  refine r_iload_n d_Mod_turnBy_2 rfl ?_
  refine r_aload_n d_Mod_turnBy_3 rfl ?_
  refine r_getR d_Mod_turnBy_4 f_Mod_9 kd_153 rfl lk_153_0 ?_
  refine r_iconst (nI 1) d_Mod_turnBy_7 (by decide) ?_
  refine r_iald d_Mod_turnBy_8 ce_154 ⟨pk_in 1 96 (by decide), ?_⟩
  refine r_icmp2 93 ((σ.1 154 1) ≤ x2) d_Mod_turnBy_9 (by decide) rfl (fun c1 => ?_) (fun c1 => ?_)
  · have h := h.1 c1
    exact r_vret d_Mod_turnBy_93 h
  · have h := h.2 c1
    refine r_iconst (nI 0) d_Mod_turnBy_12 (by decide) ?_
    refine r_istore_n (vs' := [.ref 153, .int x1, .int x2, .int (nI 0)]) d_Mod_turnBy_13 rfl rfl ?_
    exact h
theorem l_Mod_turnBy_14 {d : Nat}  {x1 : Int32} {x2 : Int32} {x3 : Int32}  {σ : am_S} {K : am_S → Prop} (h : (w_Mod_n  σ (fun r2 τ2 => (am_ite (r2 ≤ x3) (R_Mod_turnBy d K 55 [.ref 153, .int x1, .int x2, .int (nI 0)] [] τ2) (w_Mod_n  τ2 (fun r4 τ4 => (¬ r4 = nI 0 ∧ (vp_in (((nI 512) * x2) + ((x3 + x1) - (x3 + x1) / r4 * r4)) 163840 ∧ (vp_in x3 512 ∧ ((τ4.1 157 (Int32.toNatClampNeg (((nI 512) * x2) + ((x3 + x1) - (x3 + x1) / r4 * r4)))) = nI 0 ∨ (τ4.1 157 (Int32.toNatClampNeg (((nI 512) * x2) + ((x3 + x1) - (x3 + x1) / r4 * r4)))) = nI 1) ∧ R_Mod_turnBy d K 14 [.ref 153, .int x1, .int x2, .int (x3 + nI 1)] [] (am_upI τ4 165 (Int32.toNatClampNeg x3) (τ4.1 157 (Int32.toNatClampNeg (((nI 512) * x2) + ((x3 + x1) - (x3 + x1) / r4 * r4)))))))))))))) : R_Mod_turnBy d K 14 [.ref 153, .int x1, .int x2, .int x3] [] σ := by
  refine r_iload_n d_Mod_turnBy_14 rfl ?_
  refine r_aload_n d_Mod_turnBy_15 rfl ?_
  refine r_virtI [] [.int x3] d_Mod_turnBy_16 v_Mod_93 rfl rfl cn_153 rfl (t_Mod_n h) (fun r2 τ2 h => ?_)
  refine r_icmp2 53 (r2 ≤ x3) d_Mod_turnBy_19 (by decide) rfl (fun c3 => ?_) (fun c3 => ?_)
  · have h := h.1 c3
    refine r_iconst (nI 0) d_Mod_turnBy_53 (by decide) ?_
    refine r_istore_n (vs' := [.ref 153, .int x1, .int x2, .int (nI 0)]) d_Mod_turnBy_54 rfl rfl ?_
    exact h
  · have h := h.2 c3
    refine r_aload_n d_Mod_turnBy_22 rfl ?_
    refine r_getR d_Mod_turnBy_23 f_Mod_50 kd_153 rfl lk_153_23 ?_
    refine r_iload_n d_Mod_turnBy_26 rfl ?_
    refine r_aload_n d_Mod_turnBy_27 rfl ?_
    refine r_getR d_Mod_turnBy_28 f_Mod_20 kd_153 rfl lk_153_3 ?_
    refine r_sipush (nI 512) d_Mod_turnBy_31 (by decide) ?_
    refine r_iload_n d_Mod_turnBy_34 rfl ?_
    refine r_imul d_Mod_turnBy_35 ?_
    refine r_iload_n d_Mod_turnBy_36 rfl ?_
    refine r_iload_n d_Mod_turnBy_37 rfl ?_
    refine r_iadd d_Mod_turnBy_38 ?_
    refine r_aload_n d_Mod_turnBy_39 rfl ?_
    refine r_virtI [] [.int (x3 + x1), .int ((nI 512) * x2), .ref 157, .int x3, .ref 165] d_Mod_turnBy_40 v_Mod_93 rfl rfl cn_153 rfl (t_Mod_n h) (fun r4 τ4 h => ?_)
    refine r_irem d_Mod_turnBy_43 ⟨h.1, ?_⟩
    have h := h.2
    refine r_iadd d_Mod_turnBy_44 ?_
    refine r_zald d_Mod_turnBy_45 ce_157 ⟨h.1, ?_⟩
    have h := h.2
    refine r_zast d_Mod_turnBy_46 ce_165 ⟨h.1, h.2.1, ?_⟩
    have h := h.2.2
    refine r_inc1 (vs' := [.ref 153, .int x1, .int x2, .int (x3 + nI 1)]) d_Mod_turnBy_47 rfl rfl rfl ?_
    refine r_goto 14 d_Mod_turnBy_50 (by decide) ?_
    exact h
theorem l_Mod_turnBy_55 {d : Nat}  {x1 : Int32} {x2 : Int32} {x3 : Int32}  {σ : am_S} {K : am_S → Prop} (h : (w_Mod_n  σ (fun r5 τ5 => (am_ite (r5 ≤ x3) (R_Mod_turnBy d K 2 [.ref 153, .int x1, .int (x2 + nI 1), .null] [] τ5) (vp_in x3 512 ∧ (vp_in (((nI 512) * x2) + x3) 163840 ∧ ((τ5.1 165 (Int32.toNatClampNeg x3)) = nI 0 ∨ (τ5.1 165 (Int32.toNatClampNeg x3)) = nI 1) ∧ R_Mod_turnBy d K 55 [.ref 153, .int x1, .int x2, .int (x3 + nI 1)] [] (am_upI τ5 157 (Int32.toNatClampNeg (((nI 512) * x2) + x3)) (τ5.1 165 (Int32.toNatClampNeg x3))))))))) : R_Mod_turnBy d K 55 [.ref 153, .int x1, .int x2, .int x3] [] σ := by
  refine r_iload_n d_Mod_turnBy_55 rfl ?_
  refine r_aload_n d_Mod_turnBy_56 rfl ?_
  refine r_virtI [] [.int x3] d_Mod_turnBy_57 v_Mod_93 rfl rfl cn_153 rfl (t_Mod_n h) (fun r5 τ5 h => ?_)
  refine r_icmp2 87 (r5 ≤ x3) d_Mod_turnBy_60 (by decide) rfl (fun c6 => ?_) (fun c6 => ?_)
  · have h := h.1 c6
    refine r_inc1 (vs' := [.ref 153, .int x1, .int (x2 + nI 1), .int x3]) d_Mod_turnBy_87 rfl rfl rfl ?_
    refine r_goto 2 d_Mod_turnBy_90 (by decide) ?_
    exact am_weak (vs := [.ref 153, .int x1, .int (x2 + nI 1), .null]) ⟨Or.inl rfl, Or.inl rfl, Or.inl rfl, Or.inr ⟨rfl, rfl⟩, trivial⟩ h
  · have h := h.2 c6
    refine r_aload_n d_Mod_turnBy_63 rfl ?_
    refine r_getR d_Mod_turnBy_64 f_Mod_20 kd_153 rfl lk_153_3 ?_
    refine r_sipush (nI 512) d_Mod_turnBy_67 (by decide) ?_
    refine r_iload_n d_Mod_turnBy_70 rfl ?_
    refine r_imul d_Mod_turnBy_71 ?_
    refine r_iload_n d_Mod_turnBy_72 rfl ?_
    refine r_iadd d_Mod_turnBy_73 ?_
    refine r_aload_n d_Mod_turnBy_74 rfl ?_
    refine r_getR d_Mod_turnBy_75 f_Mod_50 kd_153 rfl lk_153_23 ?_
    refine r_iload_n d_Mod_turnBy_78 rfl ?_
    refine r_zald d_Mod_turnBy_79 ce_165 ⟨h.1, ?_⟩
    have h := h.2
    refine r_zast d_Mod_turnBy_80 ce_157 ⟨h.1, h.2.1, ?_⟩
    have h := h.2.2
    refine r_inc1 (vs' := [.ref 153, .int x1, .int x2, .int (x3 + nI 1)]) d_Mod_turnBy_81 rfl rfl rfl ?_
    refine r_goto 55 d_Mod_turnBy_84 (by decide) ?_
    exact h
def w_Mod_turn (x1 : Int32) (σ : am_S) (K : Int32 → am_S → Prop) : Prop := (w_Mod_change  (am_upI σ 153 18 (nI 0)) (fun τ1 => (w_Mod_n  τ1 (fun r2 τ2 => (¬ r2 = nI 0 ∧ (am_ite ((nI 0) ≤ (x1 - x1 / r2 * r2)) (w_Mod_turnBy (x1 - x1 / r2 * r2) τ2 (fun τ4 => K (nI 1) τ4)) (w_Mod_n  τ2 (fun r5 τ5 => (w_Mod_turnBy ((x1 - x1 / r2 * r2) + r5) τ5 (fun τ6 => K (nI 1) τ6))))))))))
theorem t_Mod_turn {d : Nat} {x1 : Int32}  {σ : am_S} {K : Int32 → am_S → Prop} (h : w_Mod_turn x1 σ K) : am_run (d + 3) y_Mod_turn [.ref 153, .int x1] σ (am_Ri K) := by
  unfold w_Mod_turn at h
  refine am_begin (vs := [.ref 153, .int x1, .null]) c_Mod_turn (by decide +kernel) rfl rfl rfl rfl ?_
  refine r_aload_n d_Mod_turn_0 rfl ?_
  refine r_iconst (nI 0) d_Mod_turn_1 (by decide) ?_
  refine r_putI d_Mod_turn_2 f_Mod_62 kd_153 rfl ?_
  refine r_aload_n d_Mod_turn_5 rfl ?_
  refine r_virtV [] [] d_Mod_turn_6 v_Mod_82 rfl rfl cn_153 rfl (t_Mod_change h) (fun τ1 h => ?_)
  refine r_iload_n d_Mod_turn_9 rfl ?_
  refine r_aload_n d_Mod_turn_10 rfl ?_
  refine r_virtI [] [.int x1] d_Mod_turn_11 v_Mod_93 rfl rfl cn_153 rfl (t_Mod_n h) (fun r2 τ2 h => ?_)
  refine r_irem d_Mod_turn_14 ⟨h.1, ?_⟩
  have h := h.2
  refine r_istore_n (vs' := [.ref 153, .int x1, .int (x1 - x1 / r2 * r2)]) d_Mod_turn_15 rfl rfl ?_
  refine r_aload_n d_Mod_turn_16 rfl ?_
  refine r_iload_n d_Mod_turn_17 rfl ?_
  refine r_if2 30 ((nI 0) ≤ (x1 - x1 / r2 * r2)) d_Mod_turn_18 (by decide) rfl (fun c3 => ?_) (fun c3 => ?_)
  · have h := h.1 c3
    refine r_iload_n d_Mod_turn_30 rfl ?_
    refine r_virtV [.int (x1 - x1 / r2 * r2)] [] d_Mod_turn_31 v_Mod_99 rfl rfl cn_153 rfl (t_Mod_turnBy h) (fun τ4 h => ?_)
    refine r_iconst (nI 1) d_Mod_turn_34 (by decide) ?_
    exact r_zret1 d_Mod_turn_35 h
  · have h := h.2 c3
    refine r_iload_n d_Mod_turn_21 rfl ?_
    refine r_aload_n d_Mod_turn_22 rfl ?_
    refine r_virtI [] [.int (x1 - x1 / r2 * r2), .ref 153] d_Mod_turn_23 v_Mod_93 rfl rfl cn_153 rfl (t_Mod_n h) (fun r5 τ5 h => ?_)
    refine r_iadd d_Mod_turn_26 ?_
    refine r_goto 31 d_Mod_turn_27 (by decide) ?_
    refine r_virtV [.int ((x1 - x1 / r2 * r2) + r5)] [] d_Mod_turn_31 v_Mod_99 rfl rfl cn_153 rfl (t_Mod_turnBy h) (fun τ6 h => ?_)
    refine r_iconst (nI 1) d_Mod_turn_34 (by decide) ?_
    exact r_zret1 d_Mod_turn_35 h
abbrev R_Mod_mirror (d : Nat) (K : Int32 → am_S → Prop) (pc : Nat) (vs st : List Value) (σ : am_S) : Prop := am_r (am_run (d + 2)) "WheelDiscModel" (some .boolean) prog_13_method_18_code (am_Ri K) pc vs st σ
def w_Mod_mirror  (σ : am_S) (K : Int32 → am_S → Prop) : Prop := ∀ d : Nat, am_run (d + 3) y_Mod_mirror [.ref 153] σ (am_Ri K)
theorem t_Mod_mirror {d : Nat}   {σ : am_S} {K : Int32 → am_S → Prop} (h : w_Mod_mirror  σ K) : am_run (d + 3) y_Mod_mirror [.ref 153] σ (am_Ri K) := h d
theorem e_Mod_mirror   {σ : am_S} {K : Int32 → am_S → Prop} (h : ∀ d : Nat, (w_Mod_change  (am_upI σ 153 18 (nI 0)) (fun τ1 => R_Mod_mirror d K 11 [.ref 153, .int (nI 0), .null] [] τ1))) : w_Mod_mirror  σ K := by
  intro d
  have h := h d
  refine am_begin (vs := [.ref 153, .null, .null]) c_Mod_mirror (by decide +kernel) rfl rfl rfl rfl ?_
  refine r_aload_n d_Mod_mirror_0 rfl ?_
  refine r_iconst (nI 0) d_Mod_mirror_1 (by decide) ?_
  refine r_putI d_Mod_mirror_2 f_Mod_62 kd_153 rfl ?_
  refine r_aload_n d_Mod_mirror_5 rfl ?_
  refine r_virtV [] [] d_Mod_mirror_6 v_Mod_82 rfl rfl cn_153 rfl (t_Mod_change h) (fun τ1 h => ?_)
  refine r_iconst (nI 0) d_Mod_mirror_9 (by decide) ?_
  refine r_istore_n (vs' := [.ref 153, .int (nI 0), .null]) d_Mod_mirror_10 rfl rfl ?_
  exact h
theorem l_Mod_mirror_11 {d : Nat}  {x1 : Int32}  {σ : am_S} {K : Int32 → am_S → Prop} (h : (am_ite ((σ.1 154 1) ≤ x1) (R_Mod_mirror d K 104 [.ref 153, .int (nI 0), .null] [] σ) (R_Mod_mirror d K 23 [.ref 153, .int x1, .int (nI 0)] [] σ))) : R_Mod_mirror d K 11 [.ref 153, .int x1, .null] [] σ := by
  refine r_iload_n d_Mod_mirror_11 rfl ?_
  refine r_aload_n d_Mod_mirror_12 rfl ?_
  refine r_getR d_Mod_mirror_13 f_Mod_9 kd_153 rfl lk_153_0 ?_
  refine r_iconst (nI 1) d_Mod_mirror_16 (by decide) ?_
  refine r_iald d_Mod_mirror_17 ce_154 ⟨pk_in 1 96 (by decide), ?_⟩
  refine r_icmp2 102 ((σ.1 154 1) ≤ x1) d_Mod_mirror_18 (by decide) rfl (fun c2 => ?_) (fun c2 => ?_)
  · have h := h.1 c2
    refine r_iconst (nI 0) d_Mod_mirror_102 (by decide) ?_
    refine r_istore_n (vs' := [.ref 153, .int (nI 0), .null]) d_Mod_mirror_103 rfl rfl ?_
    exact h
  · have h := h.2 c2
    refine r_iconst (nI 0) d_Mod_mirror_21 (by decide) ?_
    refine r_istore_n (vs' := [.ref 153, .int x1, .int (nI 0)]) d_Mod_mirror_22 rfl rfl ?_
    exact h
theorem l_Mod_mirror_104 {d : Nat}  {x1 : Int32}  {σ : am_S} {K : Int32 → am_S → Prop} (h : (w_Mod_readers  σ (fun r3 τ3 => (am_ite (r3 ≤ x1) (K (nI 1) τ3) (w_Mod_n  τ3 (fun r5 τ5 => (vp_in x1 320 ∧ (w_Mod_n  τ5 (fun r6 τ6 => (¬ r6 = nI 0 ∧ (vp_in x1 320 ∧ R_Mod_mirror d K 104 [.ref 153, .int (x1 + nI 1), .null] [] (am_upI τ6 156 (Int32.toNatClampNeg x1) ((r5 - (τ5.1 156 (Int32.toNatClampNeg x1))) - (r5 - (τ5.1 156 (Int32.toNatClampNeg x1))) / r6 * r6))))))))))))) : R_Mod_mirror d K 104 [.ref 153, .int x1, .null] [] σ := by
  refine r_iload_n d_Mod_mirror_104 rfl ?_
  refine r_aload_n d_Mod_mirror_105 rfl ?_
  refine r_virtI [] [.int x1] d_Mod_mirror_106 v_Mod_96 rfl rfl cn_153 rfl (t_Mod_readers h) (fun r3 τ3 h => ?_)
  refine r_icmp2 140 (r3 ≤ x1) d_Mod_mirror_109 (by decide) rfl (fun c4 => ?_) (fun c4 => ?_)
  · have h := h.1 c4
    refine r_iconst (nI 1) d_Mod_mirror_140 (by decide) ?_
    exact r_zret1 d_Mod_mirror_141 h
  · have h := h.2 c4
    refine r_aload_n d_Mod_mirror_112 rfl ?_
    refine r_getR d_Mod_mirror_113 f_Mod_16 kd_153 rfl lk_153_2 ?_
    refine r_iload_n d_Mod_mirror_116 rfl ?_
    refine r_aload_n d_Mod_mirror_117 rfl ?_
    refine r_virtI [] [.int x1, .ref 156] d_Mod_mirror_118 v_Mod_93 rfl rfl cn_153 rfl (t_Mod_n h) (fun r5 τ5 h => ?_)
    refine r_aload_n d_Mod_mirror_121 rfl ?_
    refine r_getR d_Mod_mirror_122 f_Mod_16 kd_153 rfl lk_153_2 ?_
    refine r_iload_n d_Mod_mirror_125 rfl ?_
    refine r_iald d_Mod_mirror_126 ce_156 ⟨h.1, ?_⟩
    have h := h.2
    refine r_isub d_Mod_mirror_127 ?_
    refine r_aload_n d_Mod_mirror_128 rfl ?_
    refine r_virtI [] [.int (r5 - (τ5.1 156 (Int32.toNatClampNeg x1))), .int x1, .ref 156] d_Mod_mirror_129 v_Mod_93 rfl rfl cn_153 rfl (t_Mod_n h) (fun r6 τ6 h => ?_)
    refine r_irem d_Mod_mirror_132 ⟨h.1, ?_⟩
    have h := h.2
    refine r_iast d_Mod_mirror_133 ce_156 ⟨h.1, ?_⟩
    have h := h.2
    refine r_inc1 (vs' := [.ref 153, .int (x1 + nI 1), .null]) d_Mod_mirror_134 rfl rfl rfl ?_
    refine r_goto 104 d_Mod_mirror_137 (by decide) ?_
    exact h
theorem l_Mod_mirror_23 {d : Nat}  {x1 : Int32} {x2 : Int32}  {σ : am_S} {K : Int32 → am_S → Prop} (h : (w_Mod_n  σ (fun r7 τ7 => (am_ite (r7 ≤ x2) (R_Mod_mirror d K 64 [.ref 153, .int x1, .int (nI 0)] [] τ7) (w_Mod_n  τ7 (fun r9 τ9 => (vp_in (((((nI 512) * x1) + r9) - (nI 1)) - x2) 163840 ∧ (vp_in x2 512 ∧ ((τ9.1 157 (Int32.toNatClampNeg (((((nI 512) * x1) + r9) - (nI 1)) - x2))) = nI 0 ∨ (τ9.1 157 (Int32.toNatClampNeg (((((nI 512) * x1) + r9) - (nI 1)) - x2))) = nI 1) ∧ R_Mod_mirror d K 23 [.ref 153, .int x1, .int (x2 + nI 1)] [] (am_upI τ9 165 (Int32.toNatClampNeg x2) (τ9.1 157 (Int32.toNatClampNeg (((((nI 512) * x1) + r9) - (nI 1)) - x2)))))))))))) : R_Mod_mirror d K 23 [.ref 153, .int x1, .int x2] [] σ := by
  refine r_iload_n d_Mod_mirror_23 rfl ?_
  refine r_aload_n d_Mod_mirror_24 rfl ?_
  refine r_virtI [] [.int x2] d_Mod_mirror_25 v_Mod_93 rfl rfl cn_153 rfl (t_Mod_n h) (fun r7 τ7 h => ?_)
  refine r_icmp2 62 (r7 ≤ x2) d_Mod_mirror_28 (by decide) rfl (fun c8 => ?_) (fun c8 => ?_)
  · have h := h.1 c8
    refine r_iconst (nI 0) d_Mod_mirror_62 (by decide) ?_
    refine r_istore_n (vs' := [.ref 153, .int x1, .int (nI 0)]) d_Mod_mirror_63 rfl rfl ?_
    exact h
  · have h := h.2 c8
    refine r_aload_n d_Mod_mirror_31 rfl ?_
    refine r_getR d_Mod_mirror_32 f_Mod_50 kd_153 rfl lk_153_23 ?_
    refine r_iload_n d_Mod_mirror_35 rfl ?_
    refine r_aload_n d_Mod_mirror_36 rfl ?_
    refine r_getR d_Mod_mirror_37 f_Mod_20 kd_153 rfl lk_153_3 ?_
    refine r_sipush (nI 512) d_Mod_mirror_40 (by decide) ?_
    refine r_iload_n d_Mod_mirror_43 rfl ?_
    refine r_imul d_Mod_mirror_44 ?_
    refine r_aload_n d_Mod_mirror_45 rfl ?_
    refine r_virtI [] [.int ((nI 512) * x1), .ref 157, .int x2, .ref 165] d_Mod_mirror_46 v_Mod_93 rfl rfl cn_153 rfl (t_Mod_n h) (fun r9 τ9 h => ?_)
    refine r_iadd d_Mod_mirror_49 ?_
    refine r_iconst (nI 1) d_Mod_mirror_50 (by decide) ?_
    refine r_isub d_Mod_mirror_51 ?_
    refine r_iload_n d_Mod_mirror_52 rfl ?_
    refine r_isub d_Mod_mirror_53 ?_
    refine r_zald d_Mod_mirror_54 ce_157 ⟨h.1, ?_⟩
    have h := h.2
    refine r_zast d_Mod_mirror_55 ce_165 ⟨h.1, h.2.1, ?_⟩
    have h := h.2.2
    refine r_inc1 (vs' := [.ref 153, .int x1, .int (x2 + nI 1)]) d_Mod_mirror_56 rfl rfl rfl ?_
    refine r_goto 23 d_Mod_mirror_59 (by decide) ?_
    exact h
theorem l_Mod_mirror_64 {d : Nat}  {x1 : Int32} {x2 : Int32}  {σ : am_S} {K : Int32 → am_S → Prop} (h : (w_Mod_n  σ (fun r10 τ10 => (am_ite (r10 ≤ x2) (R_Mod_mirror d K 11 [.ref 153, .int (x1 + nI 1), .null] [] τ10) (vp_in x2 512 ∧ (vp_in (((nI 512) * x1) + x2) 163840 ∧ ((τ10.1 165 (Int32.toNatClampNeg x2)) = nI 0 ∨ (τ10.1 165 (Int32.toNatClampNeg x2)) = nI 1) ∧ R_Mod_mirror d K 64 [.ref 153, .int x1, .int (x2 + nI 1)] [] (am_upI τ10 157 (Int32.toNatClampNeg (((nI 512) * x1) + x2)) (τ10.1 165 (Int32.toNatClampNeg x2))))))))) : R_Mod_mirror d K 64 [.ref 153, .int x1, .int x2] [] σ := by
  refine r_iload_n d_Mod_mirror_64 rfl ?_
  refine r_aload_n d_Mod_mirror_65 rfl ?_
  refine r_virtI [] [.int x2] d_Mod_mirror_66 v_Mod_93 rfl rfl cn_153 rfl (t_Mod_n h) (fun r10 τ10 h => ?_)
  refine r_icmp2 96 (r10 ≤ x2) d_Mod_mirror_69 (by decide) rfl (fun c11 => ?_) (fun c11 => ?_)
  · have h := h.1 c11
    refine r_inc1 (vs' := [.ref 153, .int (x1 + nI 1), .int x2]) d_Mod_mirror_96 rfl rfl rfl ?_
    refine r_goto 11 d_Mod_mirror_99 (by decide) ?_
    exact am_weak (vs := [.ref 153, .int (x1 + nI 1), .null]) ⟨Or.inl rfl, Or.inl rfl, Or.inr ⟨rfl, rfl⟩, trivial⟩ h
  · have h := h.2 c11
    refine r_aload_n d_Mod_mirror_72 rfl ?_
    refine r_getR d_Mod_mirror_73 f_Mod_20 kd_153 rfl lk_153_3 ?_
    refine r_sipush (nI 512) d_Mod_mirror_76 (by decide) ?_
    refine r_iload_n d_Mod_mirror_79 rfl ?_
    refine r_imul d_Mod_mirror_80 ?_
    refine r_iload_n d_Mod_mirror_81 rfl ?_
    refine r_iadd d_Mod_mirror_82 ?_
    refine r_aload_n d_Mod_mirror_83 rfl ?_
    refine r_getR d_Mod_mirror_84 f_Mod_50 kd_153 rfl lk_153_23 ?_
    refine r_iload_n d_Mod_mirror_87 rfl ?_
    refine r_zald d_Mod_mirror_88 ce_165 ⟨h.1, ?_⟩
    have h := h.2
    refine r_zast d_Mod_mirror_89 ce_157 ⟨h.1, h.2.1, ?_⟩
    have h := h.2.2
    refine r_inc1 (vs' := [.ref 153, .int x1, .int (x2 + nI 1)]) d_Mod_mirror_90 rfl rfl rfl ?_
    refine r_goto 64 d_Mod_mirror_93 (by decide) ?_
    exact h
