def w_Mod_swap (x1 : Int32) (x2 : Int32) (σ : am_S) (K : Int32 → am_S → Prop) : Prop := (am_ite (x1 < (nI 0)) (w_Mod_no (nI 1) (am_upI σ 153 18 (nI 0)) (fun r2 τ2 => K (nI 0) τ2)) (w_Mod_readers  (am_upI σ 153 18 (nI 0)) (fun r3 τ3 => (am_ite (r3 ≤ x1) (w_Mod_no (nI 1) τ3 (fun r5 τ5 => K (nI 0) τ5)) (am_ite (x2 < (nI 0)) (w_Mod_no (nI 1) τ3 (fun r7 τ7 => K (nI 0) τ7)) (w_Mod_readers  τ3 (fun r8 τ8 => (am_ite (x2 < r8) (w_Mod_change  τ8 (fun τ10 => (vp_in x1 320 ∧ (vp_in x1 320 ∧ (vp_in x2 320 ∧ (vp_in x1 320 ∧ (vp_in x2 320 ∧ (vp_in x1 320 ∧ (vp_in x2 320 ∧ (vp_in x2 320 ∧ K (nI 1) (am_upI (am_upI (am_upI (am_upI τ10 155 (Int32.toNatClampNeg x1) (τ10.1 155 (Int32.toNatClampNeg x2))) 156 (Int32.toNatClampNeg x1) (τ10.1 156 (Int32.toNatClampNeg x2))) 155 (Int32.toNatClampNeg x2) (τ10.1 155 (Int32.toNatClampNeg x1))) 156 (Int32.toNatClampNeg x2) (τ10.1 156 (Int32.toNatClampNeg x1))))))))))))) (w_Mod_no (nI 1) τ8 (fun r11 τ11 => K (nI 0) τ11))))))))))
theorem t_Mod_swap {d : Nat} {x1 : Int32} {x2 : Int32}  {σ : am_S} {K : Int32 → am_S → Prop} (h : w_Mod_swap x1 x2 σ K) : am_run (d + 3) y_Mod_swap [.ref 153, .int x1, .int x2] σ (am_Ri K) := by
  unfold w_Mod_swap at h
  refine am_begin (vs := [.ref 153, .int x1, .int x2, .null, .null]) c_Mod_swap (by decide +kernel) rfl rfl rfl rfl ?_
  refine r_aload_n d_Mod_swap_0 rfl ?_
  refine r_iconst (nI 0) d_Mod_swap_1 (by decide) ?_
  refine r_putI d_Mod_swap_2 f_Mod_62 kd_153 rfl ?_
  refine r_iload_n d_Mod_swap_5 rfl ?_
  refine r_if2 29 (x1 < (nI 0)) d_Mod_swap_6 (by decide) rfl (fun c1 => ?_) (fun c1 => ?_)
  · have h := h.1 c1
    refine r_aload_n d_Mod_swap_29 rfl ?_
    refine r_iconst (nI 1) d_Mod_swap_30 (by decide) ?_
    refine r_virtI [.int (nI 1)] [] d_Mod_swap_31 v_Mod_75 rfl rfl cn_153 rfl (t_Mod_no h) (fun r2 τ2 h => ?_)
    refine r_pop d_Mod_swap_34 rfl ?_
    refine r_iconst (nI 0) d_Mod_swap_35 (by decide) ?_
    exact r_zret0 d_Mod_swap_36 h
  · have h := h.2 c1
    refine r_iload_n d_Mod_swap_9 rfl ?_
    refine r_aload_n d_Mod_swap_10 rfl ?_
    refine r_virtI [] [.int x1] d_Mod_swap_11 v_Mod_96 rfl rfl cn_153 rfl (t_Mod_readers h) (fun r3 τ3 h => ?_)
    refine r_icmp2 29 (r3 ≤ x1) d_Mod_swap_14 (by decide) rfl (fun c4 => ?_) (fun c4 => ?_)
    · have h := h.1 c4
      refine r_aload_n d_Mod_swap_29 rfl ?_
      refine r_iconst (nI 1) d_Mod_swap_30 (by decide) ?_
      refine r_virtI [.int (nI 1)] [] d_Mod_swap_31 v_Mod_75 rfl rfl cn_153 rfl (t_Mod_no h) (fun r5 τ5 h => ?_)
      refine r_pop d_Mod_swap_34 rfl ?_
      refine r_iconst (nI 0) d_Mod_swap_35 (by decide) ?_
      exact r_zret0 d_Mod_swap_36 h
    · have h := h.2 c4
      refine r_iload_n d_Mod_swap_17 rfl ?_
      refine r_if2 29 (x2 < (nI 0)) d_Mod_swap_18 (by decide) rfl (fun c6 => ?_) (fun c6 => ?_)
      · have h := h.1 c6
        refine r_aload_n d_Mod_swap_29 rfl ?_
        refine r_iconst (nI 1) d_Mod_swap_30 (by decide) ?_
        refine r_virtI [.int (nI 1)] [] d_Mod_swap_31 v_Mod_75 rfl rfl cn_153 rfl (t_Mod_no h) (fun r7 τ7 h => ?_)
        refine r_pop d_Mod_swap_34 rfl ?_
        refine r_iconst (nI 0) d_Mod_swap_35 (by decide) ?_
        exact r_zret0 d_Mod_swap_36 h
      · have h := h.2 c6
        refine r_iload_n d_Mod_swap_21 rfl ?_
        refine r_aload_n d_Mod_swap_22 rfl ?_
        refine r_virtI [] [.int x2] d_Mod_swap_23 v_Mod_96 rfl rfl cn_153 rfl (t_Mod_readers h) (fun r8 τ8 h => ?_)
        refine r_icmp2 37 (x2 < r8) d_Mod_swap_26 (by decide) rfl (fun c9 => ?_) (fun c9 => ?_)
        · have h := h.1 c9
          refine r_aload_n d_Mod_swap_37 rfl ?_
          refine r_virtV [] [] d_Mod_swap_38 v_Mod_82 rfl rfl cn_153 rfl (t_Mod_change h) (fun τ10 h => ?_)
          refine r_aload_n d_Mod_swap_41 rfl ?_
          refine r_getR d_Mod_swap_42 f_Mod_13 kd_153 rfl lk_153_1 ?_
          refine r_iload_n d_Mod_swap_45 rfl ?_
          refine r_iald d_Mod_swap_46 ce_155 ⟨h.1, ?_⟩
          have h := h.2
          refine r_istore_n (vs' := [.ref 153, .int x1, .int x2, .int (τ10.1 155 (Int32.toNatClampNeg x1)), .null]) d_Mod_swap_47 rfl rfl ?_
          refine r_aload_n d_Mod_swap_48 rfl ?_
          refine r_getR d_Mod_swap_49 f_Mod_16 kd_153 rfl lk_153_2 ?_
          refine r_iload_n d_Mod_swap_52 rfl ?_
          refine r_iald d_Mod_swap_53 ce_156 ⟨h.1, ?_⟩
          have h := h.2
          refine r_istore (vs' := [.ref 153, .int x1, .int x2, .int (τ10.1 155 (Int32.toNatClampNeg x1)), .int (τ10.1 156 (Int32.toNatClampNeg x1))]) d_Mod_swap_54 rfl rfl ?_
          refine r_aload_n d_Mod_swap_56 rfl ?_
          refine r_getR d_Mod_swap_57 f_Mod_13 kd_153 rfl lk_153_1 ?_
          refine r_iload_n d_Mod_swap_60 rfl ?_
          refine r_aload_n d_Mod_swap_61 rfl ?_
          refine r_getR d_Mod_swap_62 f_Mod_13 kd_153 rfl lk_153_1 ?_
          refine r_iload_n d_Mod_swap_65 rfl ?_
          refine r_iald d_Mod_swap_66 ce_155 ⟨h.1, ?_⟩
          have h := h.2
          refine r_iast d_Mod_swap_67 ce_155 ⟨h.1, ?_⟩
          have h := h.2
          refine r_aload_n d_Mod_swap_68 rfl ?_
          refine r_getR d_Mod_swap_69 f_Mod_16 kd_153 rfl lk_153_2 ?_
          refine r_iload_n d_Mod_swap_72 rfl ?_
          refine r_aload_n d_Mod_swap_73 rfl ?_
          refine r_getR d_Mod_swap_74 f_Mod_16 kd_153 rfl lk_153_2 ?_
          refine r_iload_n d_Mod_swap_77 rfl ?_
          refine r_iald d_Mod_swap_78 ce_156 ⟨h.1, ?_⟩
          have h := h.2
          refine r_iast d_Mod_swap_79 ce_156 ⟨h.1, ?_⟩
          have h := h.2
          refine r_aload_n d_Mod_swap_80 rfl ?_
          refine r_getR d_Mod_swap_81 f_Mod_13 kd_153 rfl lk_153_1 ?_
          refine r_iload_n d_Mod_swap_84 rfl ?_
          refine r_iload_n d_Mod_swap_85 rfl ?_
          refine r_iast d_Mod_swap_86 ce_155 ⟨h.1, ?_⟩
          have h := h.2
          refine r_aload_n d_Mod_swap_87 rfl ?_
          refine r_getR d_Mod_swap_88 f_Mod_16 kd_153 rfl lk_153_2 ?_
          refine r_iload_n d_Mod_swap_91 rfl ?_
          refine r_iload d_Mod_swap_92 rfl ?_
          refine r_iast d_Mod_swap_94 ce_156 ⟨h.1, ?_⟩
          have h := h.2
          refine r_iconst (nI 1) d_Mod_swap_95 (by decide) ?_
          exact r_zret1 d_Mod_swap_96 h
        · have h := h.2 c9
          refine r_aload_n d_Mod_swap_29 rfl ?_
          refine r_iconst (nI 1) d_Mod_swap_30 (by decide) ?_
          refine r_virtI [.int (nI 1)] [] d_Mod_swap_31 v_Mod_75 rfl rfl cn_153 rfl (t_Mod_no h) (fun r11 τ11 h => ?_)
          refine r_pop d_Mod_swap_34 rfl ?_
          refine r_iconst (nI 0) d_Mod_swap_35 (by decide) ?_
          exact r_zret0 d_Mod_swap_36 h
def w_Mod_undo  (σ : am_S) (K : Int32 → am_S → Prop) : Prop := (am_ite (¬ (σ.1 153 4) = (nI 0)) (w_Mod_copy ((nI 2) + (((σ.1 153 5) + ((σ.1 153 4) - (nI 1))) - ((σ.1 153 5) + ((σ.1 153 4) - (nI 1))) / (nI 30) * (nI 30))) (nI 0) (am_upI (am_upI σ 153 18 (nI 0)) 153 4 ((σ.1 153 4) - (nI 1))) (fun τ2 => K (τ2.1 153 4) τ2)) (w_Mod_no (nI 2) (am_upI σ 153 18 (nI 0)) (fun r3 τ3 => K r3 τ3)))
theorem t_Mod_undo {d : Nat}   {σ : am_S} {K : Int32 → am_S → Prop} (h : w_Mod_undo  σ K) : am_run (d + 2) y_Mod_undo [.ref 153] σ (am_Ri K) := by
  unfold w_Mod_undo at h
  refine am_begin (vs := [.ref 153]) c_Mod_undo (by decide +kernel) rfl rfl rfl rfl ?_
  refine r_aload_n d_Mod_undo_0 rfl ?_
  refine r_iconst (nI 0) d_Mod_undo_1 (by decide) ?_
  refine r_putI d_Mod_undo_2 f_Mod_62 kd_153 rfl ?_
  refine r_aload_n d_Mod_undo_5 rfl ?_
  refine r_getI d_Mod_undo_6 f_Mod_65 kd_153 rfl ?_
  refine r_if2 18 (¬ (σ.1 153 4) = (nI 0)) d_Mod_undo_9 (by decide) rfl (fun c1 => ?_) (fun c1 => ?_)
  · have h := h.1 c1
    refine r_aload_n d_Mod_undo_18 rfl ?_
    refine r_dup d_Mod_undo_19 rfl ?_
    refine r_getI d_Mod_undo_20 f_Mod_65 kd_153 rfl ?_
    refine r_iconst (nI 1) d_Mod_undo_23 (by decide) ?_
    refine r_isub d_Mod_undo_24 ?_
    refine r_putI d_Mod_undo_25 f_Mod_65 kd_153 rfl ?_
    refine r_aload_n d_Mod_undo_28 rfl ?_
    refine r_iconst (nI 2) d_Mod_undo_29 (by decide) ?_
    refine r_aload_n d_Mod_undo_30 rfl ?_
    refine r_getI d_Mod_undo_31 f_Mod_68 kd_153 rfl ?_
    refine r_aload_n d_Mod_undo_34 rfl ?_
    refine r_getI d_Mod_undo_35 f_Mod_65 kd_153 rfl ?_
    refine r_iadd d_Mod_undo_38 ?_
    refine r_bipush (nI 30) d_Mod_undo_39 (by decide) ?_
    refine r_irem d_Mod_undo_41 ⟨by decide, ?_⟩
    refine r_iadd d_Mod_undo_42 ?_
    refine r_iconst (nI 0) d_Mod_undo_43 (by decide) ?_
    refine r_virtV [.int ((nI 2) + (((σ.1 153 5) + ((σ.1 153 4) - (nI 1))) - ((σ.1 153 5) + ((σ.1 153 4) - (nI 1))) / (nI 30) * (nI 30))), .int (nI 0)] [] d_Mod_undo_44 v_Mod_71 rfl rfl cn_153 rfl (t_Mod_copy h) (fun τ2 h => ?_)
    refine r_aload_n d_Mod_undo_47 rfl ?_
    refine r_getI d_Mod_undo_48 f_Mod_65 kd_153 rfl ?_
    exact r_iret d_Mod_undo_51 h
  · have h := h.2 c1
    refine r_aload_n d_Mod_undo_12 rfl ?_
    refine r_iconst (nI 2) d_Mod_undo_13 (by decide) ?_
    refine r_virtI [.int (nI 2)] [] d_Mod_undo_14 v_Mod_75 rfl rfl cn_153 rfl (t_Mod_no h) (fun r3 τ3 h => ?_)
    exact r_iret d_Mod_undo_17 h
def w_Mod_sees (x1 : Int32) (x2 : Int32) (σ : am_S) (K : Int32 → am_S → Prop) : Prop := (vp_in x1 320 ∧ (vp_in x1 320 ∧ (w_Mod_n  σ (fun r1 τ1 => (¬ r1 = nI 0 ∧ (vp_in (((nI 512) * (σ.1 155 (Int32.toNatClampNeg x1))) + ((x2 + (σ.1 156 (Int32.toNatClampNeg x1))) - (x2 + (σ.1 156 (Int32.toNatClampNeg x1))) / r1 * r1)) 163840 ∧ (((τ1.1 157 (Int32.toNatClampNeg (((nI 512) * (σ.1 155 (Int32.toNatClampNeg x1))) + ((x2 + (σ.1 156 (Int32.toNatClampNeg x1))) - (x2 + (σ.1 156 (Int32.toNatClampNeg x1))) / r1 * r1)))) = nI 0 ∨ (τ1.1 157 (Int32.toNatClampNeg (((nI 512) * (σ.1 155 (Int32.toNatClampNeg x1))) + ((x2 + (σ.1 156 (Int32.toNatClampNeg x1))) - (x2 + (σ.1 156 (Int32.toNatClampNeg x1))) / r1 * r1)))) = nI 1) ∧ K (τ1.1 157 (Int32.toNatClampNeg (((nI 512) * (σ.1 155 (Int32.toNatClampNeg x1))) + ((x2 + (σ.1 156 (Int32.toNatClampNeg x1))) - (x2 + (σ.1 156 (Int32.toNatClampNeg x1))) / r1 * r1)))) τ1)))))))
theorem t_Mod_sees {d : Nat} {x1 : Int32} {x2 : Int32}  {σ : am_S} {K : Int32 → am_S → Prop} (h : w_Mod_sees x1 x2 σ K) : am_run (d + 2) y_Mod_sees [.ref 153, .int x1, .int x2] σ (am_Ri K) := by
  unfold w_Mod_sees at h
  refine am_begin (vs := [.ref 153, .int x1, .int x2]) c_Mod_sees (by decide +kernel) rfl rfl rfl rfl ?_
  refine r_aload_n d_Mod_sees_0 rfl ?_
  refine r_getR d_Mod_sees_1 f_Mod_20 kd_153 rfl lk_153_3 ?_
  refine r_sipush (nI 512) d_Mod_sees_4 (by decide) ?_
  refine r_aload_n d_Mod_sees_7 rfl ?_
  refine r_getR d_Mod_sees_8 f_Mod_13 kd_153 rfl lk_153_1 ?_
  refine r_iload_n d_Mod_sees_11 rfl ?_
  refine r_iald d_Mod_sees_12 ce_155 ⟨h.1, ?_⟩
  have h := h.2
  refine r_imul d_Mod_sees_13 ?_
  refine r_iload_n d_Mod_sees_14 rfl ?_
  refine r_aload_n d_Mod_sees_15 rfl ?_
  refine r_getR d_Mod_sees_16 f_Mod_16 kd_153 rfl lk_153_2 ?_
  refine r_iload_n d_Mod_sees_19 rfl ?_
  refine r_iald d_Mod_sees_20 ce_156 ⟨h.1, ?_⟩
  have h := h.2
  refine r_iadd d_Mod_sees_21 ?_
  refine r_aload_n d_Mod_sees_22 rfl ?_
  refine r_virtI [] [.int (x2 + (σ.1 156 (Int32.toNatClampNeg x1))), .int ((nI 512) * (σ.1 155 (Int32.toNatClampNeg x1))), .ref 157] d_Mod_sees_23 v_Mod_93 rfl rfl cn_153 rfl (t_Mod_n h) (fun r1 τ1 h => ?_)
  refine r_irem d_Mod_sees_26 ⟨h.1, ?_⟩
  have h := h.2
  refine r_iadd d_Mod_sees_27 ?_
  refine r_zald d_Mod_sees_28 ce_157 ⟨h.1, ?_⟩
  have h := h.2
  exact r_zret d_Mod_sees_29 h
abbrev R_Mod_wordAt (d : Nat) (K : Int32 → am_S → Prop) (pc : Nat) (vs st : List Value) (σ : am_S) : Prop := am_r (am_run (d + 2)) "WheelDiscModel" (some .int) prog_13_method_22_code (am_Ri K) pc vs st σ
def w_Mod_wordAt (x1 : Int32) (σ : am_S) (K : Int32 → am_S → Prop) : Prop := ∀ d : Nat, am_run (d + 3) y_Mod_wordAt [.ref 153, .int x1] σ (am_Ri K)
theorem t_Mod_wordAt {d : Nat} {x1 : Int32}  {σ : am_S} {K : Int32 → am_S → Prop} (h : w_Mod_wordAt x1 σ K) : am_run (d + 3) y_Mod_wordAt [.ref 153, .int x1] σ (am_Ri K) := h d
theorem e_Mod_wordAt {x1 : Int32}  {σ : am_S} {K : Int32 → am_S → Prop} (h : ∀ d : Nat, R_Mod_wordAt d K 4 [.ref 153, .int x1, .int (nI 0), .int (nI 0)] [] σ) : w_Mod_wordAt x1 σ K := by
  intro d
  have h := h d
  refine am_begin (vs := [.ref 153, .int x1, .null, .null]) c_Mod_wordAt (by decide +kernel) rfl rfl rfl rfl ?_
  refine r_iconst (nI 0) d_Mod_wordAt_0 (by decide) ?_
  refine r_istore_n (vs' := [.ref 153, .int x1, .int (nI 0), .null]) d_Mod_wordAt_1 rfl rfl ?_
  refine r_iconst (nI 0) d_Mod_wordAt_2 (by decide) ?_
  refine r_istore_n (vs' := [.ref 153, .int x1, .int (nI 0), .int (nI 0)]) d_Mod_wordAt_3 rfl rfl ?_
  exact h
theorem l_Mod_wordAt_4 {d : Nat}  {x1 : Int32} {x2 : Int32} {x3 : Int32}  {σ : am_S} {K : Int32 → am_S → Prop} (h : (w_Mod_readers  σ (fun r1 τ1 => (am_ite (r1 ≤ x3) (K x2 τ1) (w_Mod_sees x3 x1 τ1 (fun r3 τ3 => (am_ite (r3 = (nI 0)) (R_Mod_wordAt d K 4 [.ref 153, .int x1, .int (((nI 2) * x2) + (nI 0)), .int (x3 + nI 1)] [] τ3) (R_Mod_wordAt d K 4 [.ref 153, .int x1, .int (((nI 2) * x2) + (nI 1)), .int (x3 + nI 1)] [] τ3)))))))) : R_Mod_wordAt d K 4 [.ref 153, .int x1, .int x2, .int x3] [] σ := by
  refine r_iload_n d_Mod_wordAt_4 rfl ?_
  refine r_aload_n d_Mod_wordAt_5 rfl ?_
  refine r_virtI [] [.int x3] d_Mod_wordAt_6 v_Mod_96 rfl rfl cn_153 rfl (t_Mod_readers h) (fun r1 τ1 h => ?_)
  refine r_icmp2 37 (r1 ≤ x3) d_Mod_wordAt_9 (by decide) rfl (fun c2 => ?_) (fun c2 => ?_)
  · have h := h.1 c2
    refine r_iload_n d_Mod_wordAt_37 rfl ?_
    exact r_iret d_Mod_wordAt_38 h
  · have h := h.2 c2
    refine r_iconst (nI 2) d_Mod_wordAt_12 (by decide) ?_
    refine r_iload_n d_Mod_wordAt_13 rfl ?_
    refine r_imul d_Mod_wordAt_14 ?_
    refine r_aload_n d_Mod_wordAt_15 rfl ?_
    refine r_iload_n d_Mod_wordAt_16 rfl ?_
    refine r_iload_n d_Mod_wordAt_17 rfl ?_
    refine r_virtI [.int x3, .int x1] [.int ((nI 2) * x2)] d_Mod_wordAt_18 v_Mod_102 rfl rfl cn_153 rfl (t_Mod_sees h) (fun r3 τ3 h => ?_)
    refine r_if2 28 (r3 = (nI 0)) d_Mod_wordAt_21 (by decide) rfl (fun c4 => ?_) (fun c4 => ?_)
    · have h := h.1 c4
      refine r_iconst (nI 0) d_Mod_wordAt_28 (by decide) ?_
      refine r_iadd d_Mod_wordAt_29 ?_
      refine r_istore_n (vs' := [.ref 153, .int x1, .int (((nI 2) * x2) + (nI 0)), .int x3]) d_Mod_wordAt_30 rfl rfl ?_
      refine r_inc1 (vs' := [.ref 153, .int x1, .int (((nI 2) * x2) + (nI 0)), .int (x3 + nI 1)]) d_Mod_wordAt_31 rfl rfl rfl ?_
      refine r_goto 4 d_Mod_wordAt_34 (by decide) ?_
      exact h
    · have h := h.2 c4
      refine r_iconst (nI 1) d_Mod_wordAt_24 (by decide) ?_
      refine r_goto 29 d_Mod_wordAt_25 (by decide) ?_
      refine r_iadd d_Mod_wordAt_29 ?_
      refine r_istore_n (vs' := [.ref 153, .int x1, .int (((nI 2) * x2) + (nI 1)), .int x3]) d_Mod_wordAt_30 rfl rfl ?_
      refine r_inc1 (vs' := [.ref 153, .int x1, .int (((nI 2) * x2) + (nI 1)), .int (x3 + nI 1)]) d_Mod_wordAt_31 rfl rfl rfl ?_
      refine r_goto 4 d_Mod_wordAt_34 (by decide) ?_
      exact h
abbrev R_Mod_read (d : Nat) (K : am_S → Prop) (pc : Nat) (vs st : List Value) (σ : am_S) : Prop := am_r (am_run (d + 3)) "WheelDiscModel" none prog_13_method_23_code (am_Rv K) pc vs st σ
def w_Mod_read  (σ : am_S) (K : am_S → Prop) : Prop := ∀ d : Nat, am_run (d + 4) y_Mod_read [.ref 153] σ (am_Rv K)
theorem t_Mod_read {d : Nat}   {σ : am_S} {K : am_S → Prop} (h : w_Mod_read  σ K) : am_run (d + 4) y_Mod_read [.ref 153] σ (am_Rv K) := h d
theorem e_Mod_read   {σ : am_S} {K : am_S → Prop} (h : ∀ d : Nat, R_Mod_read d K 2 [.ref 153, .int (nI 0)] [] σ) : w_Mod_read  σ K := by
  intro d
  have h := h d
  refine am_begin (vs := [.ref 153, .null]) c_Mod_read (by decide +kernel) rfl rfl rfl rfl ?_
  refine r_iconst (nI 0) d_Mod_read_0 (by decide) ?_
  refine r_istore_n (vs' := [.ref 153, .int (nI 0)]) d_Mod_read_1 rfl rfl ?_
  exact h
theorem l_Mod_read_2 {d : Nat}  {x1 : Int32}  {σ : am_S} {K : am_S → Prop} (h : (w_Mod_n  σ (fun r1 τ1 => (am_ite (r1 ≤ x1) (K τ1) (w_Mod_wordAt x1 τ1 (fun r3 τ3 => (vp_in x1 512 ∧ R_Mod_read d K 2 [.ref 153, .int (x1 + nI 1)] [] (am_upI τ3 161 (Int32.toNatClampNeg x1) r3)))))))) : R_Mod_read d K 2 [.ref 153, .int x1] [] σ := by
  refine r_iload_n d_Mod_read_2 rfl ?_
  refine r_aload_n d_Mod_read_3 rfl ?_
  refine r_virtI [] [.int x1] d_Mod_read_4 v_Mod_93 rfl rfl cn_153 rfl (t_Mod_n h) (fun r1 τ1 h => ?_)
  refine r_icmp2 27 (r1 ≤ x1) d_Mod_read_7 (by decide) rfl (fun c2 => ?_) (fun c2 => ?_)
  · have h := h.1 c2
    exact r_vret d_Mod_read_27 h
  · have h := h.2 c2
    refine r_aload_n d_Mod_read_10 rfl ?_
    refine r_getR d_Mod_read_11 f_Mod_38 kd_153 rfl lk_153_19 ?_
    refine r_iload_n d_Mod_read_14 rfl ?_
    refine r_aload_n d_Mod_read_15 rfl ?_
    refine r_iload_n d_Mod_read_16 rfl ?_
    refine r_virtI [.int x1] [.int x1, .ref 161] d_Mod_read_17 v_Mod_106 rfl rfl cn_153 rfl (t_Mod_wordAt h) (fun r3 τ3 h => ?_)
    refine r_iast d_Mod_read_20 ce_161 ⟨h.1, ?_⟩
    have h := h.2
    refine r_inc1 (vs' := [.ref 153, .int (x1 + nI 1)]) d_Mod_read_21 rfl rfl rfl ?_
    refine r_goto 2 d_Mod_read_24 (by decide) ?_
    exact h
def w_Mod_all  (σ : am_S) (K : Int32 → am_S → Prop) : Prop := (w_Mod_readers  σ (fun r1 τ1 => K (((nI 1) <<< (r1 &&& 31)) - (nI 1)) τ1))
theorem t_Mod_all {d : Nat}   {σ : am_S} {K : Int32 → am_S → Prop} (h : w_Mod_all  σ K) : am_run (d + 2) y_Mod_all [.ref 153] σ (am_Ri K) := by
  unfold w_Mod_all at h
  refine am_begin (vs := [.ref 153]) c_Mod_all (by decide +kernel) rfl rfl rfl rfl ?_
  refine r_iconst (nI 1) d_Mod_all_0 (by decide) ?_
  refine r_aload_n d_Mod_all_1 rfl ?_
  refine r_virtI [] [.int (nI 1)] d_Mod_all_2 v_Mod_96 rfl rfl cn_153 rfl (t_Mod_readers h) (fun r1 τ1 h => ?_)
  refine r_ishl d_Mod_all_5 ?_
  refine r_iconst (nI 1) d_Mod_all_6 (by decide) ?_
  refine r_isub d_Mod_all_7 ?_
  exact r_iret d_Mod_all_8 h
abbrev R_Mod_isTrue (d : Nat) (K : Int32 → am_S → Prop) (pc : Nat) (vs st : List Value) (σ : am_S) : Prop := am_r (am_run (d + 1)) "WheelDiscModel" (some .boolean) prog_13_method_24_code (am_Ri K) pc vs st σ
def w_Mod_isTrue (x1 : Int32) (σ : am_S) (K : Int32 → am_S → Prop) : Prop := ∀ d : Nat, am_run (d + 2) y_Mod_isTrue [.ref 153, .int x1] σ (am_Ri K)
theorem t_Mod_isTrue {d : Nat} {x1 : Int32}  {σ : am_S} {K : Int32 → am_S → Prop} (h : w_Mod_isTrue x1 σ K) : am_run (d + 2) y_Mod_isTrue [.ref 153, .int x1] σ (am_Ri K) := h d
theorem e_Mod_isTrue {x1 : Int32}  {σ : am_S} {K : Int32 → am_S → Prop} (h : ∀ d : Nat, R_Mod_isTrue d K 2 [.ref 153, .int x1, .int (nI 0), .null] [] σ) : w_Mod_isTrue x1 σ K := by
  intro d
  have h := h d
  refine am_begin (vs := [.ref 153, .int x1, .null, .null]) c_Mod_isTrue (by decide +kernel) rfl rfl rfl rfl ?_
  refine r_iconst (nI 0) d_Mod_isTrue_0 (by decide) ?_
  refine r_istore_n (vs' := [.ref 153, .int x1, .int (nI 0), .null]) d_Mod_isTrue_1 rfl rfl ?_
  exact h
theorem l_Mod_isTrue_2 {d : Nat}  {x1 : Int32} {x2 : Int32}  {σ : am_S} {K : Int32 → am_S → Prop} (h : (w_Mod_n  σ (fun r1 τ1 => (am_ite (r1 ≤ x2) (K (nI 1) τ1) (R_Mod_isTrue d K 14 [.ref 153, .int x1, .int x2, .int (x2 + (nI 1))] [] τ1))))) : R_Mod_isTrue d K 2 [.ref 153, .int x1, .int x2, .null] [] σ := by
  refine r_iload_n d_Mod_isTrue_2 rfl ?_
  refine r_aload_n d_Mod_isTrue_3 rfl ?_
  refine r_virtI [] [.int x2] d_Mod_isTrue_4 v_Mod_93 rfl rfl cn_153 rfl (t_Mod_n h) (fun r1 τ1 h => ?_)
  refine r_icmp2 55 (r1 ≤ x2) d_Mod_isTrue_7 (by decide) rfl (fun c2 => ?_) (fun c2 => ?_)
  · have h := h.1 c2
    refine r_iconst (nI 1) d_Mod_isTrue_55 (by decide) ?_
    exact r_zret1 d_Mod_isTrue_56 h
  · have h := h.2 c2
    refine r_iload_n d_Mod_isTrue_10 rfl ?_
    refine r_iconst (nI 1) d_Mod_isTrue_11 (by decide) ?_
    refine r_iadd d_Mod_isTrue_12 ?_
    refine r_istore_n (vs' := [.ref 153, .int x1, .int x2, .int (x2 + (nI 1))]) d_Mod_isTrue_13 rfl rfl ?_
    exact h
theorem l_Mod_isTrue_14 {d : Nat}  {x1 : Int32} {x2 : Int32} {x3 : Int32}  {σ : am_S} {K : Int32 → am_S → Prop} (h : (w_Mod_n  σ (fun r3 τ3 => (am_ite (r3 ≤ x3) (R_Mod_isTrue d K 2 [.ref 153, .int x1, .int (x2 + nI 1), .null] [] τ3) (vp_in x2 512 ∧ (vp_in x3 512 ∧ (am_ite (¬ ((τ3.1 161 (Int32.toNatClampNeg x2)) &&& x1) = ((τ3.1 161 (Int32.toNatClampNeg x3)) &&& x1)) (R_Mod_isTrue d K 14 [.ref 153, .int x1, .int x2, .int (x3 + nI 1)] [] τ3) (K (nI 0) τ3)))))))) : R_Mod_isTrue d K 14 [.ref 153, .int x1, .int x2, .int x3] [] σ := by
  refine r_iload_n d_Mod_isTrue_14 rfl ?_
  refine r_aload_n d_Mod_isTrue_15 rfl ?_
  refine r_virtI [] [.int x3] d_Mod_isTrue_16 v_Mod_93 rfl rfl cn_153 rfl (t_Mod_n h) (fun r3 τ3 h => ?_)
  refine r_icmp2 49 (r3 ≤ x3) d_Mod_isTrue_19 (by decide) rfl (fun c4 => ?_) (fun c4 => ?_)
  · have h := h.1 c4
    refine r_inc1 (vs' := [.ref 153, .int x1, .int (x2 + nI 1), .int x3]) d_Mod_isTrue_49 rfl rfl rfl ?_
    refine r_goto 2 d_Mod_isTrue_52 (by decide) ?_
    exact am_weak (vs := [.ref 153, .int x1, .int (x2 + nI 1), .null]) ⟨Or.inl rfl, Or.inl rfl, Or.inl rfl, Or.inr ⟨rfl, rfl⟩, trivial⟩ h
  · have h := h.2 c4
    refine r_aload_n d_Mod_isTrue_22 rfl ?_
    refine r_getR d_Mod_isTrue_23 f_Mod_38 kd_153 rfl lk_153_19 ?_
    refine r_iload_n d_Mod_isTrue_26 rfl ?_
    refine r_iald d_Mod_isTrue_27 ce_161 ⟨h.1, ?_⟩
    have h := h.2
    refine r_iload_n d_Mod_isTrue_28 rfl ?_
    refine r_iand d_Mod_isTrue_29 ?_
    refine r_aload_n d_Mod_isTrue_30 rfl ?_
    refine r_getR d_Mod_isTrue_31 f_Mod_38 kd_153 rfl lk_153_19 ?_
    refine r_iload_n d_Mod_isTrue_34 rfl ?_
    refine r_iald d_Mod_isTrue_35 ce_161 ⟨h.1, ?_⟩
    have h := h.2
    refine r_iload_n d_Mod_isTrue_36 rfl ?_
    refine r_iand d_Mod_isTrue_37 ?_
    refine r_icmp2 43 (¬ ((τ3.1 161 (Int32.toNatClampNeg x2)) &&& x1) = ((τ3.1 161 (Int32.toNatClampNeg x3)) &&& x1)) d_Mod_isTrue_38 (by decide) rfl (fun c5 => ?_) (fun c5 => ?_)
    · have h := h.1 c5
      refine r_inc1 (vs' := [.ref 153, .int x1, .int x2, .int (x3 + nI 1)]) d_Mod_isTrue_43 rfl rfl rfl ?_
      refine r_goto 14 d_Mod_isTrue_46 (by decide) ?_
      exact h
    · have h := h.2 c5
      refine r_iconst (nI 0) d_Mod_isTrue_41 (by decide) ?_
      exact r_zret0 d_Mod_isTrue_42 h
abbrev R_Mod_kind (d : Nat) (K : Int32 → am_S → Prop) (pc : Nat) (vs st : List Value) (σ : am_S) : Prop := am_r (am_run (d + 4)) "WheelDiscModel" (some .int) prog_13_method_26_code (am_Ri K) pc vs st σ
def w_Mod_kind  (σ : am_S) (K : Int32 → am_S → Prop) : Prop := ∀ d : Nat, am_run (d + 5) y_Mod_kind [.ref 153] σ (am_Ri K)
theorem t_Mod_kind {d : Nat}   {σ : am_S} {K : Int32 → am_S → Prop} (h : w_Mod_kind  σ K) : am_run (d + 5) y_Mod_kind [.ref 153] σ (am_Ri K) := h d
theorem e_Mod_kind   {σ : am_S} {K : Int32 → am_S → Prop} (h : ∀ d : Nat, (w_Mod_read  σ (fun τ1 => (w_Mod_all  τ1 (fun r2 τ2 => (w_Mod_isTrue r2 τ2 (fun r3 τ3 => (am_ite (¬ r3 = (nI 0)) (w_Mod_n  τ3 (fun r5 τ5 => (am_ite (r5 ≤ (nI 1)) (R_Mod_kind d K 33 [.ref 153, .int (nI 0), .int (nI 0), .null] [] τ5) (R_Mod_kind d K 33 [.ref 153, .int (nI 1), .int (nI 0), .null] [] τ5)))) (K (nI 0) τ3))))))))) : w_Mod_kind  σ K := by
  intro d
  have h := h d
  refine am_begin (vs := [.ref 153, .null, .null, .null]) c_Mod_kind (by decide +kernel) rfl rfl rfl rfl ?_
  refine r_aload_n d_Mod_kind_0 rfl ?_
  refine r_virtV [] [] d_Mod_kind_1 v_Mod_109 rfl rfl cn_153 rfl (t_Mod_read h) (fun τ1 h => ?_)
  refine r_aload_n d_Mod_kind_4 rfl ?_
  refine r_aload_n d_Mod_kind_5 rfl ?_
  refine r_virtI [] [.ref 153] d_Mod_kind_6 v_Mod_112 rfl rfl cn_153 rfl (t_Mod_all h) (fun r2 τ2 h => ?_)
  refine r_virtI [.int r2] [] d_Mod_kind_9 v_Mod_115 rfl rfl cn_153 rfl (t_Mod_isTrue h) (fun r3 τ3 h => ?_)
  refine r_if2 17 (¬ r3 = (nI 0)) d_Mod_kind_12 (by decide) rfl (fun c4 => ?_) (fun c4 => ?_)
  · have h := h.1 c4
    refine r_aload_n d_Mod_kind_17 rfl ?_
    refine r_virtI [] [] d_Mod_kind_18 v_Mod_93 rfl rfl cn_153 rfl (t_Mod_n h) (fun r5 τ5 h => ?_)
    refine r_iconst (nI 1) d_Mod_kind_21 (by decide) ?_
    refine r_icmp2 29 (r5 ≤ (nI 1)) d_Mod_kind_22 (by decide) rfl (fun c6 => ?_) (fun c6 => ?_)
    · have h := h.1 c6
      refine r_iconst (nI 0) d_Mod_kind_29 (by decide) ?_
      refine r_istore_n (vs' := [.ref 153, .int (nI 0), .null, .null]) d_Mod_kind_30 rfl rfl ?_
      refine r_iconst (nI 0) d_Mod_kind_31 (by decide) ?_
      refine r_istore_n (vs' := [.ref 153, .int (nI 0), .int (nI 0), .null]) d_Mod_kind_32 rfl rfl ?_
      exact h
    · have h := h.2 c6
      refine r_iconst (nI 1) d_Mod_kind_25 (by decide) ?_
      refine r_goto 30 d_Mod_kind_26 (by decide) ?_
      refine r_istore_n (vs' := [.ref 153, .int (nI 1), .null, .null]) d_Mod_kind_30 rfl rfl ?_
      refine r_iconst (nI 0) d_Mod_kind_31 (by decide) ?_
      refine r_istore_n (vs' := [.ref 153, .int (nI 1), .int (nI 0), .null]) d_Mod_kind_32 rfl rfl ?_
      exact h
  · have h := h.2 c4
    refine r_iconst (nI 0) d_Mod_kind_15 (by decide) ?_
    exact r_iret d_Mod_kind_16 h
theorem l_Mod_kind_33 {d : Nat}  {x1 : Int32} {x2 : Int32}  {σ : am_S} {K : Int32 → am_S → Prop} (h : (w_Mod_n  σ (fun r7 τ7 => (am_ite (r7 ≤ x2) (am_ite (x1 = (nI 0)) (am_ite (¬ (τ7.1 154 1) = (nI 1)) (R_Mod_kind d K 118 [.ref 153, .int x1, .int (nI 0), .int (nI 1)] [] τ7) (R_Mod_kind d K 118 [.ref 153, .int x1, .int (nI 1), .int (nI 1)] [] τ7)) (am_ite (¬ (τ7.1 154 1) = (nI 1)) (am_ite (¬ (τ7.1 154 1) = (nI 1)) (R_Mod_kind d K 118 [.ref 153, .int x1, .int (nI 0), .int (nI 1)] [] τ7) (R_Mod_kind d K 118 [.ref 153, .int x1, .int (nI 1), .int (nI 1)] [] τ7)) (K (nI 3) τ7))) (am_ite (x1 = (nI 0)) (R_Mod_kind d K 33 [.ref 153, .int (nI 0), .int (x2 + nI 1), .null] [] τ7) (vp_in x2 512 ∧ (w_Mod_n  τ7 (fun r14 τ14 => (¬ r14 = nI 0 ∧ (vp_in ((x2 + (nI 1)) - (x2 + (nI 1)) / r14 * r14) 512 ∧ (w_Int_bitCount ((τ7.1 161 (Int32.toNatClampNeg x2)) ^^^ (τ14.1 161 (Int32.toNatClampNeg ((x2 + (nI 1)) - (x2 + (nI 1)) / r14 * r14)))) τ14 (fun r15 τ15 => (am_ite (¬ r15 = (nI 1)) (R_Mod_kind d K 33 [.ref 153, .int (nI 0), .int (x2 + nI 1), .null] [] τ15) (R_Mod_kind d K 33 [.ref 153, .int (nI 1), .int (x2 + nI 1), .null] [] τ15)))))))))))))) : R_Mod_kind d K 33 [.ref 153, .int x1, .int x2, .null] [] σ := by
  refine r_iload_n d_Mod_kind_33 rfl ?_
  refine r_aload_n d_Mod_kind_34 rfl ?_
  refine r_virtI [] [.int x2] d_Mod_kind_35 v_Mod_93 rfl rfl cn_153 rfl (t_Mod_n h) (fun r7 τ7 h => ?_)
  refine r_icmp2 84 (r7 ≤ x2) d_Mod_kind_38 (by decide) rfl (fun c8 => ?_) (fun c8 => ?_)
  · have h := h.1 c8
    refine r_iload_n d_Mod_kind_84 rfl ?_
    refine r_if2 100 (x1 = (nI 0)) d_Mod_kind_85 (by decide) rfl (fun c9 => ?_) (fun c9 => ?_)
    · have h := h.1 c9
      refine r_aload_n d_Mod_kind_100 rfl ?_
      refine r_getR d_Mod_kind_101 f_Mod_9 kd_153 rfl lk_153_0 ?_
      refine r_iconst (nI 1) d_Mod_kind_104 (by decide) ?_
      refine r_iald d_Mod_kind_105 ce_154 ⟨pk_in 1 96 (by decide), ?_⟩
      refine r_iconst (nI 1) d_Mod_kind_106 (by decide) ?_
      refine r_icmp2 114 (¬ (τ7.1 154 1) = (nI 1)) d_Mod_kind_107 (by decide) rfl (fun c10 => ?_) (fun c10 => ?_)
      · have h := h.1 c10
        refine r_iconst (nI 0) d_Mod_kind_114 (by decide) ?_
        refine r_istore_n (vs' := [.ref 153, .int x1, .int (nI 0), .null]) d_Mod_kind_115 rfl rfl ?_
        refine r_iconst (nI 1) d_Mod_kind_116 (by decide) ?_
        refine r_istore_n (vs' := [.ref 153, .int x1, .int (nI 0), .int (nI 1)]) d_Mod_kind_117 rfl rfl ?_
        exact h
      · have h := h.2 c10
        refine r_iconst (nI 1) d_Mod_kind_110 (by decide) ?_
        refine r_goto 115 d_Mod_kind_111 (by decide) ?_
        refine r_istore_n (vs' := [.ref 153, .int x1, .int (nI 1), .null]) d_Mod_kind_115 rfl rfl ?_
        refine r_iconst (nI 1) d_Mod_kind_116 (by decide) ?_
        refine r_istore_n (vs' := [.ref 153, .int x1, .int (nI 1), .int (nI 1)]) d_Mod_kind_117 rfl rfl ?_
        exact h
    · have h := h.2 c9
      refine r_aload_n d_Mod_kind_88 rfl ?_
      refine r_getR d_Mod_kind_89 f_Mod_9 kd_153 rfl lk_153_0 ?_
      refine r_iconst (nI 1) d_Mod_kind_92 (by decide) ?_
      refine r_iald d_Mod_kind_93 ce_154 ⟨pk_in 1 96 (by decide), ?_⟩
      refine r_iconst (nI 1) d_Mod_kind_94 (by decide) ?_
      refine r_icmp2 100 (¬ (τ7.1 154 1) = (nI 1)) d_Mod_kind_95 (by decide) rfl (fun c11 => ?_) (fun c11 => ?_)
      · have h := h.1 c11
        refine r_aload_n d_Mod_kind_100 rfl ?_
        refine r_getR d_Mod_kind_101 f_Mod_9 kd_153 rfl lk_153_0 ?_
        refine r_iconst (nI 1) d_Mod_kind_104 (by decide) ?_
        refine r_iald d_Mod_kind_105 ce_154 ⟨pk_in 1 96 (by decide), ?_⟩
        refine r_iconst (nI 1) d_Mod_kind_106 (by decide) ?_
        refine r_icmp2 114 (¬ (τ7.1 154 1) = (nI 1)) d_Mod_kind_107 (by decide) rfl (fun c12 => ?_) (fun c12 => ?_)
        · have h := h.1 c12
          refine r_iconst (nI 0) d_Mod_kind_114 (by decide) ?_
          refine r_istore_n (vs' := [.ref 153, .int x1, .int (nI 0), .null]) d_Mod_kind_115 rfl rfl ?_
          refine r_iconst (nI 1) d_Mod_kind_116 (by decide) ?_
          refine r_istore_n (vs' := [.ref 153, .int x1, .int (nI 0), .int (nI 1)]) d_Mod_kind_117 rfl rfl ?_
          exact h
        · have h := h.2 c12
          refine r_iconst (nI 1) d_Mod_kind_110 (by decide) ?_
          refine r_goto 115 d_Mod_kind_111 (by decide) ?_
          refine r_istore_n (vs' := [.ref 153, .int x1, .int (nI 1), .null]) d_Mod_kind_115 rfl rfl ?_
          refine r_iconst (nI 1) d_Mod_kind_116 (by decide) ?_
          refine r_istore_n (vs' := [.ref 153, .int x1, .int (nI 1), .int (nI 1)]) d_Mod_kind_117 rfl rfl ?_
          exact h
      · have h := h.2 c11
        refine r_iconst (nI 3) d_Mod_kind_98 (by decide) ?_
        exact r_iret d_Mod_kind_99 h
  · have h := h.2 c8
    refine r_iload_n d_Mod_kind_41 rfl ?_
    refine r_if2 76 (x1 = (nI 0)) d_Mod_kind_42 (by decide) rfl (fun c13 => ?_) (fun c13 => ?_)
    · have h := h.1 c13
      refine r_iconst (nI 0) d_Mod_kind_76 (by decide) ?_
      refine r_istore_n (vs' := [.ref 153, .int (nI 0), .int x2, .null]) d_Mod_kind_77 rfl rfl ?_
      refine r_inc1 (vs' := [.ref 153, .int (nI 0), .int (x2 + nI 1), .null]) d_Mod_kind_78 rfl rfl rfl ?_
      refine r_goto 33 d_Mod_kind_81 (by decide) ?_
      exact h
    · have h := h.2 c13
      refine r_aload_n d_Mod_kind_45 rfl ?_
      refine r_getR d_Mod_kind_46 f_Mod_38 kd_153 rfl lk_153_19 ?_
      refine r_iload_n d_Mod_kind_49 rfl ?_
      refine r_iald d_Mod_kind_50 ce_161 ⟨h.1, ?_⟩
      have h := h.2
      refine r_aload_n d_Mod_kind_51 rfl ?_
      refine r_getR d_Mod_kind_52 f_Mod_38 kd_153 rfl lk_153_19 ?_
      refine r_iload_n d_Mod_kind_55 rfl ?_
      refine r_iconst (nI 1) d_Mod_kind_56 (by decide) ?_
      refine r_iadd d_Mod_kind_57 ?_
      refine r_aload_n d_Mod_kind_58 rfl ?_
      refine r_virtI [] [.int (x2 + (nI 1)), .ref 161, .int (τ7.1 161 (Int32.toNatClampNeg x2))] d_Mod_kind_59 v_Mod_93 rfl rfl cn_153 rfl (t_Mod_n h) (fun r14 τ14 h => ?_)
      refine r_irem d_Mod_kind_62 ⟨h.1, ?_⟩
      have h := h.2
      refine r_iald d_Mod_kind_63 ce_161 ⟨h.1, ?_⟩
      have h := h.2
      refine r_ixor d_Mod_kind_64 ?_
      refine r_statI [.int ((τ7.1 161 (Int32.toNatClampNeg x2)) ^^^ (τ14.1 161 (Int32.toNatClampNeg ((x2 + (nI 1)) - (x2 + (nI 1)) / r14 * r14))))] [] d_Mod_kind_65 s_Mod_119 rfl rfl rfl (t_Int_bitCount h) (fun r15 τ15 h => ?_)
      refine r_iconst (nI 1) d_Mod_kind_68 (by decide) ?_
      refine r_icmp2 76 (¬ r15 = (nI 1)) d_Mod_kind_69 (by decide) rfl (fun c16 => ?_) (fun c16 => ?_)
      · have h := h.1 c16
        refine r_iconst (nI 0) d_Mod_kind_76 (by decide) ?_
        refine r_istore_n (vs' := [.ref 153, .int (nI 0), .int x2, .null]) d_Mod_kind_77 rfl rfl ?_
        refine r_inc1 (vs' := [.ref 153, .int (nI 0), .int (x2 + nI 1), .null]) d_Mod_kind_78 rfl rfl rfl ?_
        refine r_goto 33 d_Mod_kind_81 (by decide) ?_
        exact h
      · have h := h.2 c16
        refine r_iconst (nI 1) d_Mod_kind_72 (by decide) ?_
        refine r_goto 77 d_Mod_kind_73 (by decide) ?_
        refine r_istore_n (vs' := [.ref 153, .int (nI 1), .int x2, .null]) d_Mod_kind_77 rfl rfl ?_
        refine r_inc1 (vs' := [.ref 153, .int (nI 1), .int (x2 + nI 1), .null]) d_Mod_kind_78 rfl rfl rfl ?_
        refine r_goto 33 d_Mod_kind_81 (by decide) ?_
        exact h
theorem l_Mod_kind_118 {d : Nat}  {x1 : Int32} {x2 : Int32} {x3 : Int32}  {σ : am_S} {K : Int32 → am_S → Prop} (h : (w_Mod_readers  σ (fun r17 τ17 => (am_ite (r17 ≤ x3) (am_ite (x2 = (nI 0)) (am_ite (x1 = (nI 0)) (K (nI 1) τ17) (K (nI 2) τ17)) (K (nI 4) τ17)) (am_ite (x2 = (nI 0)) (R_Mod_kind d K 118 [.ref 153, .int x1, .int (nI 0), .int (x3 + nI 1)] [] τ17) (vp_in x3 320 ∧ (vp_in (x3 - (nI 1)) 320 ∧ (w_Mod_n  τ17 (fun r22 τ22 => (¬ r22 = nI 0 ∧ (am_ite (¬ (τ17.1 156 (Int32.toNatClampNeg x3)) = (((τ17.1 156 (Int32.toNatClampNeg (x3 - (nI 1)))) + (nI 1)) - ((τ17.1 156 (Int32.toNatClampNeg (x3 - (nI 1)))) + (nI 1)) / r22 * r22)) (R_Mod_kind d K 118 [.ref 153, .int x1, .int (nI 0), .int (x3 + nI 1)] [] τ22) (R_Mod_kind d K 118 [.ref 153, .int x1, .int (nI 1), .int (x3 + nI 1)] [] τ22)))))))))))) : R_Mod_kind d K 118 [.ref 153, .int x1, .int x2, .int x3] [] σ := by
  refine r_iload_n d_Mod_kind_118 rfl ?_
  refine r_aload_n d_Mod_kind_119 rfl ?_
  refine r_virtI [] [.int x3] d_Mod_kind_120 v_Mod_96 rfl rfl cn_153 rfl (t_Mod_readers h) (fun r17 τ17 h => ?_)
  refine r_icmp2 166 (r17 ≤ x3) d_Mod_kind_123 (by decide) rfl (fun c18 => ?_) (fun c18 => ?_)
  · have h := h.1 c18
    refine r_iload_n d_Mod_kind_166 rfl ?_
    refine r_if2 174 (x2 = (nI 0)) d_Mod_kind_167 (by decide) rfl (fun c19 => ?_) (fun c19 => ?_)
    · have h := h.1 c19
      refine r_iload_n d_Mod_kind_174 rfl ?_
      refine r_if2 182 (x1 = (nI 0)) d_Mod_kind_175 (by decide) rfl (fun c20 => ?_) (fun c20 => ?_)
      · have h := h.1 c20
        refine r_iconst (nI 1) d_Mod_kind_182 (by decide) ?_
        exact r_iret d_Mod_kind_183 h
      · have h := h.2 c20
        refine r_iconst (nI 2) d_Mod_kind_178 (by decide) ?_
        refine r_goto 183 d_Mod_kind_179 (by decide) ?_
        exact r_iret d_Mod_kind_183 h
    · have h := h.2 c19
      refine r_iconst (nI 4) d_Mod_kind_170 (by decide) ?_
      refine r_goto 183 d_Mod_kind_171 (by decide) ?_
      exact r_iret d_Mod_kind_183 h
  · have h := h.2 c18
    refine r_iload_n d_Mod_kind_126 rfl ?_
    refine r_if2 158 (x2 = (nI 0)) d_Mod_kind_127 (by decide) rfl (fun c21 => ?_) (fun c21 => ?_)
    · have h := h.1 c21
      refine r_iconst (nI 0) d_Mod_kind_158 (by decide) ?_
      refine r_istore_n (vs' := [.ref 153, .int x1, .int (nI 0), .int x3]) d_Mod_kind_159 rfl rfl ?_
      refine r_inc1 (vs' := [.ref 153, .int x1, .int (nI 0), .int (x3 + nI 1)]) d_Mod_kind_160 rfl rfl rfl ?_
      refine r_goto 118 d_Mod_kind_163 (by decide) ?_
      exact h
    · have h := h.2 c21
      refine r_aload_n d_Mod_kind_130 rfl ?_
      refine r_getR d_Mod_kind_131 f_Mod_16 kd_153 rfl lk_153_2 ?_
      refine r_iload_n d_Mod_kind_134 rfl ?_
      refine r_iald d_Mod_kind_135 ce_156 ⟨h.1, ?_⟩
      have h := h.2
      refine r_aload_n d_Mod_kind_136 rfl ?_
      refine r_getR d_Mod_kind_137 f_Mod_16 kd_153 rfl lk_153_2 ?_
      refine r_iload_n d_Mod_kind_140 rfl ?_
      refine r_iconst (nI 1) d_Mod_kind_141 (by decide) ?_
      refine r_isub d_Mod_kind_142 ?_
      refine r_iald d_Mod_kind_143 ce_156 ⟨h.1, ?_⟩
      have h := h.2
      refine r_iconst (nI 1) d_Mod_kind_144 (by decide) ?_
      refine r_iadd d_Mod_kind_145 ?_
      refine r_aload_n d_Mod_kind_146 rfl ?_
      refine r_virtI [] [.int ((τ17.1 156 (Int32.toNatClampNeg (x3 - (nI 1)))) + (nI 1)), .int (τ17.1 156 (Int32.toNatClampNeg x3))] d_Mod_kind_147 v_Mod_93 rfl rfl cn_153 rfl (t_Mod_n h) (fun r22 τ22 h => ?_)
      refine r_irem d_Mod_kind_150 ⟨h.1, ?_⟩
      have h := h.2
      refine r_icmp2 158 (¬ (τ17.1 156 (Int32.toNatClampNeg x3)) = (((τ17.1 156 (Int32.toNatClampNeg (x3 - (nI 1)))) + (nI 1)) - ((τ17.1 156 (Int32.toNatClampNeg (x3 - (nI 1)))) + (nI 1)) / r22 * r22)) d_Mod_kind_151 (by decide) rfl (fun c23 => ?_) (fun c23 => ?_)
      · have h := h.1 c23
        refine r_iconst (nI 0) d_Mod_kind_158 (by decide) ?_
        refine r_istore_n (vs' := [.ref 153, .int x1, .int (nI 0), .int x3]) d_Mod_kind_159 rfl rfl ?_
        refine r_inc1 (vs' := [.ref 153, .int x1, .int (nI 0), .int (x3 + nI 1)]) d_Mod_kind_160 rfl rfl rfl ?_
        refine r_goto 118 d_Mod_kind_163 (by decide) ?_
        exact h
      · have h := h.2 c23
        refine r_iconst (nI 1) d_Mod_kind_154 (by decide) ?_
        refine r_goto 159 d_Mod_kind_155 (by decide) ?_
        refine r_istore_n (vs' := [.ref 153, .int x1, .int (nI 1), .int x3]) d_Mod_kind_159 rfl rfl ?_
        refine r_inc1 (vs' := [.ref 153, .int x1, .int (nI 1), .int (x3 + nI 1)]) d_Mod_kind_160 rfl rfl rfl ?_
        refine r_goto 118 d_Mod_kind_163 (by decide) ?_
        exact h
def w_Mod_count (x1 : Int32) (σ : am_S) (K : Int32 → am_S → Prop) : Prop := (am_ite (x1 = nI 0) (vp_in x1 96 ∧ K (σ.1 154 (Int32.toNatClampNeg x1)) (am_upI σ 153 18 (nI 0))) (am_ite (x1 = nI 1) (vp_in x1 96 ∧ K (σ.1 154 (Int32.toNatClampNeg x1)) (am_upI σ 153 18 (nI 0))) (am_ite (x1 = nI 2) (vp_in x1 96 ∧ K (σ.1 154 (Int32.toNatClampNeg x1)) (am_upI σ 153 18 (nI 0))) (am_ite (x1 = nI 3) (w_Mod_kind  (am_upI σ 153 18 (nI 0)) (fun r2 τ2 => K r2 τ2)) (am_ite (x1 = nI 4) (K (σ.1 153 4) (am_upI σ 153 18 (nI 0))) (am_ite (x1 = nI 5) (K (σ.1 153 11) (am_upI σ 153 18 (nI 0))) (am_ite (x1 = nI 6) (K (σ.1 153 13) (am_upI σ 153 18 (nI 0))) (am_ite (x1 = nI 7) (am_ite (¬ (σ.1 153 7) = (-1)) (K (σ.1 153 8) (am_upI σ 153 18 (nI 0))) (K (-1) (am_upI σ 153 18 (nI 0)))) (w_Mod_no (nI 1) (am_upI σ 153 18 (nI 0)) (fun r4 τ4 => K r4 τ4))))))))))
theorem t_Mod_count {d : Nat} {x1 : Int32}  {σ : am_S} {K : Int32 → am_S → Prop} (h : w_Mod_count x1 σ K) : am_run (d + 6) y_Mod_count [.ref 153, .int x1] σ (am_Ri K) := by
  unfold w_Mod_count at h
  refine am_begin (vs := [.ref 153, .int x1]) c_Mod_count (by decide +kernel) rfl rfl rfl rfl ?_
  refine r_aload_n d_Mod_count_0 rfl ?_
  refine r_iconst (nI 0) d_Mod_count_1 (by decide) ?_
  refine r_putI d_Mod_count_2 f_Mod_62 kd_153 rfl ?_
  refine r_iload_n d_Mod_count_5 rfl ?_
  by_cases c1_0 : x1 = nI 0
  · have h := h.1 c1_0
    refine r_tabIn 52 46 d_Mod_count_6 (by rw [c1_0]; decide) (by rw [c1_0]; decide) (by rw [c1_0]; rfl) (by decide) ?_
    refine r_aload_n d_Mod_count_52 rfl ?_
    refine r_getR d_Mod_count_53 f_Mod_9 kd_153 rfl lk_153_0 ?_
    refine r_iload_n d_Mod_count_56 rfl ?_
    refine r_iald d_Mod_count_57 ce_154 ⟨h.1, ?_⟩
    have h := h.2
    exact r_iret d_Mod_count_58 h
  have h := h.2 c1_0
  by_cases c1_1 : x1 = nI 1
  · have h := h.1 c1_1
    refine r_tabIn 52 46 d_Mod_count_6 (by rw [c1_1]; decide) (by rw [c1_1]; decide) (by rw [c1_1]; rfl) (by decide) ?_
    refine r_aload_n d_Mod_count_52 rfl ?_
    refine r_getR d_Mod_count_53 f_Mod_9 kd_153 rfl lk_153_0 ?_
    refine r_iload_n d_Mod_count_56 rfl ?_
    refine r_iald d_Mod_count_57 ce_154 ⟨h.1, ?_⟩
    have h := h.2
    exact r_iret d_Mod_count_58 h
  have h := h.2 c1_1
  by_cases c1_2 : x1 = nI 2
  · have h := h.1 c1_2
    refine r_tabIn 52 46 d_Mod_count_6 (by rw [c1_2]; decide) (by rw [c1_2]; decide) (by rw [c1_2]; rfl) (by decide) ?_
    refine r_aload_n d_Mod_count_52 rfl ?_
    refine r_getR d_Mod_count_53 f_Mod_9 kd_153 rfl lk_153_0 ?_
    refine r_iload_n d_Mod_count_56 rfl ?_
    refine r_iald d_Mod_count_57 ce_154 ⟨h.1, ?_⟩
    have h := h.2
    exact r_iret d_Mod_count_58 h
  have h := h.2 c1_2
  by_cases c1_3 : x1 = nI 3
  · have h := h.1 c1_3
    refine r_tabIn 59 53 d_Mod_count_6 (by rw [c1_3]; decide) (by rw [c1_3]; decide) (by rw [c1_3]; rfl) (by decide) ?_
    refine r_aload_n d_Mod_count_59 rfl ?_
    refine r_virtI [] [] d_Mod_count_60 v_Mod_124 rfl rfl cn_153 rfl (t_Mod_kind h) (fun r2 τ2 h => ?_)
    exact r_iret d_Mod_count_63 h
  have h := h.2 c1_3
  by_cases c1_4 : x1 = nI 4
  · have h := h.1 c1_4
    refine r_tabIn 64 58 d_Mod_count_6 (by rw [c1_4]; decide) (by rw [c1_4]; decide) (by rw [c1_4]; rfl) (by decide) ?_
    refine r_aload_n d_Mod_count_64 rfl ?_
    refine r_getI d_Mod_count_65 f_Mod_65 kd_153 rfl ?_
    exact r_iret d_Mod_count_68 h
  have h := h.2 c1_4
  by_cases c1_5 : x1 = nI 5
  · have h := h.1 c1_5
    refine r_tabIn 69 63 d_Mod_count_6 (by rw [c1_5]; decide) (by rw [c1_5]; decide) (by rw [c1_5]; rfl) (by decide) ?_
    refine r_aload_n d_Mod_count_69 rfl ?_
    refine r_getI d_Mod_count_70 f_Mod_127 kd_153 rfl ?_
    exact r_iret d_Mod_count_73 h
  have h := h.2 c1_5
  by_cases c1_6 : x1 = nI 6
  · have h := h.1 c1_6
    refine r_tabIn 74 68 d_Mod_count_6 (by rw [c1_6]; decide) (by rw [c1_6]; decide) (by rw [c1_6]; rfl) (by decide) ?_
    refine r_aload_n d_Mod_count_74 rfl ?_
    refine r_getI d_Mod_count_75 f_Mod_130 kd_153 rfl ?_
    exact r_iret d_Mod_count_78 h
  have h := h.2 c1_6
  by_cases c1_7 : x1 = nI 7
  · have h := h.1 c1_7
    refine r_tabIn 79 73 d_Mod_count_6 (by rw [c1_7]; decide) (by rw [c1_7]; decide) (by rw [c1_7]; rfl) (by decide) ?_
    refine r_aload_n d_Mod_count_79 rfl ?_
    refine r_getI d_Mod_count_80 f_Mod_24 kd_153 rfl ?_
    refine r_iconst (-1) d_Mod_count_83 (by decide) ?_
    refine r_icmp2 91 (¬ (σ.1 153 7) = (-1)) d_Mod_count_84 (by decide) rfl (fun c3 => ?_) (fun c3 => ?_)
    · have h := h.1 c3
      refine r_aload_n d_Mod_count_91 rfl ?_
      refine r_getI d_Mod_count_92 f_Mod_79 kd_153 rfl ?_
      exact r_iret d_Mod_count_95 h
    · have h := h.2 c3
      refine r_iconst (-1) d_Mod_count_87 (by decide) ?_
      refine r_goto 95 d_Mod_count_88 (by decide) ?_
      exact r_iret d_Mod_count_95 h
  have h := h.2 c1_7
  refine r_tabOut 96 d_Mod_count_6 (am_tab0 7 (by decide) (fun j hj => by rcases (show j = 0 ∨ j = 1 ∨ j = 2 ∨ j = 3 ∨ j = 4 ∨ j = 5 ∨ j = 6 ∨ j = 7 by omega) with rfl | rfl | rfl | rfl | rfl | rfl | rfl | rfl <;> assumption)) (by decide) ?_
  refine r_aload_n d_Mod_count_96 rfl ?_
  refine r_iconst (nI 1) d_Mod_count_97 (by decide) ?_
  refine r_virtI [.int (nI 1)] [] d_Mod_count_98 v_Mod_75 rfl rfl cn_153 rfl (t_Mod_no h) (fun r4 τ4 h => ?_)
  exact r_iret d_Mod_count_101 h
def w_Mod_isStand (x1 : Int32) (σ : am_S) (K : Int32 → am_S → Prop) : Prop := (am_ite (x1 < (nI 0)) (K (nI 0) σ) (w_Mod_n  σ (fun r2 τ2 => (am_ite (r2 ≤ x1) (K (nI 0) τ2) (K (nI 1) τ2)))))
theorem t_Mod_isStand {d : Nat} {x1 : Int32}  {σ : am_S} {K : Int32 → am_S → Prop} (h : w_Mod_isStand x1 σ K) : am_run (d + 2) y_Mod_isStand [.ref 153, .int x1] σ (am_Ri K) := by
  unfold w_Mod_isStand at h
  refine am_begin (vs := [.ref 153, .int x1]) c_Mod_isStand (by decide +kernel) rfl rfl rfl rfl ?_
  refine r_iload_n d_Mod_isStand_0 rfl ?_
  refine r_if2 16 (x1 < (nI 0)) d_Mod_isStand_1 (by decide) rfl (fun c1 => ?_) (fun c1 => ?_)
  · have h := h.1 c1
    refine r_iconst (nI 0) d_Mod_isStand_16 (by decide) ?_
    exact r_zret0 d_Mod_isStand_17 h
  · have h := h.2 c1
    refine r_iload_n d_Mod_isStand_4 rfl ?_
    refine r_aload_n d_Mod_isStand_5 rfl ?_
    refine r_virtI [] [.int x1] d_Mod_isStand_6 v_Mod_93 rfl rfl cn_153 rfl (t_Mod_n h) (fun r2 τ2 h => ?_)
    refine r_icmp2 16 (r2 ≤ x1) d_Mod_isStand_9 (by decide) rfl (fun c3 => ?_) (fun c3 => ?_)
    · have h := h.1 c3
      refine r_iconst (nI 0) d_Mod_isStand_16 (by decide) ?_
      exact r_zret0 d_Mod_isStand_17 h
    · have h := h.2 c3
      refine r_iconst (nI 1) d_Mod_isStand_12 (by decide) ?_
      refine r_goto 17 d_Mod_isStand_13 (by decide) ?_
      exact r_zret1 d_Mod_isStand_17 h
def w_Mod_word (x1 : Int32) (σ : am_S) (K : Int32 → am_S → Prop) : Prop := (w_Mod_isStand x1 (am_upI σ 153 18 (nI 0)) (fun r1 τ1 => (am_ite (r1 = (nI 0)) (w_Mod_no (nI 1) τ1 (fun r3 τ3 => K r3 τ3)) (w_Mod_wordAt x1 τ1 (fun r4 τ4 => K r4 τ4)))))
theorem t_Mod_word {d : Nat} {x1 : Int32}  {σ : am_S} {K : Int32 → am_S → Prop} (h : w_Mod_word x1 σ K) : am_run (d + 4) y_Mod_word [.ref 153, .int x1] σ (am_Ri K) := by
  unfold w_Mod_word at h
  refine am_begin (vs := [.ref 153, .int x1]) c_Mod_word (by decide +kernel) rfl rfl rfl rfl ?_
  refine r_aload_n d_Mod_word_0 rfl ?_
  refine r_iconst (nI 0) d_Mod_word_1 (by decide) ?_
  refine r_putI d_Mod_word_2 f_Mod_62 kd_153 rfl ?_
  refine r_aload_n d_Mod_word_5 rfl ?_
  refine r_iload_n d_Mod_word_6 rfl ?_
  refine r_virtI [.int x1] [] d_Mod_word_7 v_Mod_133 rfl rfl cn_153 rfl (t_Mod_isStand h) (fun r1 τ1 h => ?_)
  refine r_if2 21 (r1 = (nI 0)) d_Mod_word_10 (by decide) rfl (fun c2 => ?_) (fun c2 => ?_)
  · have h := h.1 c2
    refine r_aload_n d_Mod_word_21 rfl ?_
    refine r_iconst (nI 1) d_Mod_word_22 (by decide) ?_
    refine r_virtI [.int (nI 1)] [] d_Mod_word_23 v_Mod_75 rfl rfl cn_153 rfl (t_Mod_no h) (fun r3 τ3 h => ?_)
    exact r_iret d_Mod_word_26 h
  · have h := h.2 c2
    refine r_aload_n d_Mod_word_13 rfl ?_
    refine r_iload_n d_Mod_word_14 rfl ?_
    refine r_virtI [.int x1] [] d_Mod_word_15 v_Mod_106 rfl rfl cn_153 rfl (t_Mod_wordAt h) (fun r4 τ4 h => ?_)
    refine r_goto 26 d_Mod_word_18 (by decide) ?_
    exact r_iret d_Mod_word_26 h
abbrev R_Mod_seen (d : Nat) (K : Int32 → am_S → Prop) (pc : Nat) (vs st : List Value) (σ : am_S) : Prop := am_r (am_run (d + 2)) "WheelDiscModel" (some .int) prog_13_method_30_code (am_Ri K) pc vs st σ
def w_Mod_seen (x1 : Int32) (x2 : Int32) (σ : am_S) (K : Int32 → am_S → Prop) : Prop := ∀ d : Nat, am_run (d + 3) y_Mod_seen [.ref 153, .int x1, .int x2] σ (am_Ri K)
theorem t_Mod_seen {d : Nat} {x1 : Int32} {x2 : Int32}  {σ : am_S} {K : Int32 → am_S → Prop} (h : w_Mod_seen x1 x2 σ K) : am_run (d + 3) y_Mod_seen [.ref 153, .int x1, .int x2] σ (am_Ri K) := h d
theorem e_Mod_seen {x1 : Int32} {x2 : Int32}  {σ : am_S} {K : Int32 → am_S → Prop} (h : ∀ d : Nat, (am_ite (x1 < (nI 0)) (w_Mod_no (nI 1) (am_upI σ 153 18 (nI 0)) (fun r2 τ2 => K r2 τ2)) (w_Mod_readers  (am_upI σ 153 18 (nI 0)) (fun r3 τ3 => (am_ite (r3 ≤ x1) (w_Mod_no (nI 1) τ3 (fun r5 τ5 => K r5 τ5)) (am_ite (x2 < (nI 0)) (w_Mod_no (nI 1) τ3 (fun r7 τ7 => K r7 τ7)) (am_ite (x2 ≤ (nI 3)) (am_ite (¬ x2 = (nI 0)) (am_ite (¬ x2 = (nI 1)) (w_Mod_n  τ3 (fun r11 τ11 => R_Mod_seen d K 66 [.ref 153, .int x1, .int x2, .int (nI 0), .int r11, .int (nI 0), .null] [] τ11)) (vp_in x1 320 ∧ K (τ3.1 156 (Int32.toNatClampNeg x1)) τ3)) (vp_in x1 320 ∧ K (τ3.1 155 (Int32.toNatClampNeg x1)) τ3)) (w_Mod_no (nI 1) τ3 (fun r12 τ12 => K r12 τ12))))))))) : w_Mod_seen x1 x2 σ K := by
  intro d
  have h := h d
  refine am_begin (vs := [.ref 153, .int x1, .int x2, .null, .null, .null, .null]) c_Mod_seen (by decide +kernel) rfl rfl rfl rfl ?_
  refine r_aload_n d_Mod_seen_0 rfl ?_
  refine r_iconst (nI 0) d_Mod_seen_1 (by decide) ?_
  refine r_putI d_Mod_seen_2 f_Mod_62 kd_153 rfl ?_
  refine r_iload_n d_Mod_seen_5 rfl ?_
  refine r_if2 26 (x1 < (nI 0)) d_Mod_seen_6 (by decide) rfl (fun c1 => ?_) (fun c1 => ?_)
  · have h := h.1 c1
    refine r_aload_n d_Mod_seen_26 rfl ?_
    refine r_iconst (nI 1) d_Mod_seen_27 (by decide) ?_
    refine r_virtI [.int (nI 1)] [] d_Mod_seen_28 v_Mod_75 rfl rfl cn_153 rfl (t_Mod_no h) (fun r2 τ2 h => ?_)
    exact r_iret d_Mod_seen_31 h
  · have h := h.2 c1
    refine r_iload_n d_Mod_seen_9 rfl ?_
    refine r_aload_n d_Mod_seen_10 rfl ?_
    refine r_virtI [] [.int x1] d_Mod_seen_11 v_Mod_96 rfl rfl cn_153 rfl (t_Mod_readers h) (fun r3 τ3 h => ?_)
    refine r_icmp2 26 (r3 ≤ x1) d_Mod_seen_14 (by decide) rfl (fun c4 => ?_) (fun c4 => ?_)
    · have h := h.1 c4
      refine r_aload_n d_Mod_seen_26 rfl ?_
      refine r_iconst (nI 1) d_Mod_seen_27 (by decide) ?_
      refine r_virtI [.int (nI 1)] [] d_Mod_seen_28 v_Mod_75 rfl rfl cn_153 rfl (t_Mod_no h) (fun r5 τ5 h => ?_)
      exact r_iret d_Mod_seen_31 h
    · have h := h.2 c4
      refine r_iload_n d_Mod_seen_17 rfl ?_
      refine r_if2 26 (x2 < (nI 0)) d_Mod_seen_18 (by decide) rfl (fun c6 => ?_) (fun c6 => ?_)
      · have h := h.1 c6
        refine r_aload_n d_Mod_seen_26 rfl ?_
        refine r_iconst (nI 1) d_Mod_seen_27 (by decide) ?_
        refine r_virtI [.int (nI 1)] [] d_Mod_seen_28 v_Mod_75 rfl rfl cn_153 rfl (t_Mod_no h) (fun r7 τ7 h => ?_)
        exact r_iret d_Mod_seen_31 h
      · have h := h.2 c6
        refine r_iload_n d_Mod_seen_21 rfl ?_
        refine r_iconst (nI 3) d_Mod_seen_22 (by decide) ?_
        refine r_icmp2 32 (x2 ≤ (nI 3)) d_Mod_seen_23 (by decide) rfl (fun c8 => ?_) (fun c8 => ?_)
        · have h := h.1 c8
          refine r_iload_n d_Mod_seen_32 rfl ?_
          refine r_if2 43 (¬ x2 = (nI 0)) d_Mod_seen_33 (by decide) rfl (fun c9 => ?_) (fun c9 => ?_)
          · have h := h.1 c9
            refine r_iload_n d_Mod_seen_43 rfl ?_
            refine r_iconst (nI 1) d_Mod_seen_44 (by decide) ?_
            refine r_icmp2 55 (¬ x2 = (nI 1)) d_Mod_seen_45 (by decide) rfl (fun c10 => ?_) (fun c10 => ?_)
            · have h := h.1 c10
              refine r_iconst (nI 0) d_Mod_seen_55 (by decide) ?_
              refine r_istore_n (vs' := [.ref 153, .int x1, .int x2, .int (nI 0), .null, .null, .null]) d_Mod_seen_56 rfl rfl ?_
              refine r_aload_n d_Mod_seen_57 rfl ?_
              refine r_virtI [] [] d_Mod_seen_58 v_Mod_93 rfl rfl cn_153 rfl (t_Mod_n h) (fun r11 τ11 h => ?_)
              refine r_istore (vs' := [.ref 153, .int x1, .int x2, .int (nI 0), .int r11, .null, .null]) d_Mod_seen_61 rfl rfl ?_
              refine r_iconst (nI 0) d_Mod_seen_63 (by decide) ?_
              refine r_istore (vs' := [.ref 153, .int x1, .int x2, .int (nI 0), .int r11, .int (nI 0), .null]) d_Mod_seen_64 rfl rfl ?_
              exact h
            · have h := h.2 c10
              refine r_aload_n d_Mod_seen_48 rfl ?_
              refine r_getR d_Mod_seen_49 f_Mod_16 kd_153 rfl lk_153_2 ?_
              refine r_iload_n d_Mod_seen_52 rfl ?_
              refine r_iald d_Mod_seen_53 ce_156 ⟨h.1, ?_⟩
              have h := h.2
              exact r_iret d_Mod_seen_54 h
          · have h := h.2 c9
            refine r_aload_n d_Mod_seen_36 rfl ?_
            refine r_getR d_Mod_seen_37 f_Mod_13 kd_153 rfl lk_153_1 ?_
            refine r_iload_n d_Mod_seen_40 rfl ?_
            refine r_iald d_Mod_seen_41 ce_155 ⟨h.1, ?_⟩
            have h := h.2
            exact r_iret d_Mod_seen_42 h
        · have h := h.2 c8
          refine r_aload_n d_Mod_seen_26 rfl ?_
          refine r_iconst (nI 1) d_Mod_seen_27 (by decide) ?_
          refine r_virtI [.int (nI 1)] [] d_Mod_seen_28 v_Mod_75 rfl rfl cn_153 rfl (t_Mod_no h) (fun r12 τ12 h => ?_)
          exact r_iret d_Mod_seen_31 h
theorem l_Mod_seen_66 {d : Nat}  {x1 : Int32} {x2 : Int32} {x3 : Int32} {x4 : Int32} {x5 : Int32}  {σ : am_S} {K : Int32 → am_S → Prop} (h : (w_Mod_n  σ (fun r13 τ13 => (am_ite (r13 ≤ x5) (am_ite (¬ x2 = (nI 2)) (K x4 τ13) (K x3 τ13)) (w_Mod_sees x1 x5 τ13 (fun r16 τ16 => (w_Mod_n  τ16 (fun r17 τ17 => (w_Mod_n  τ17 (fun r18 τ18 => (¬ r18 = nI 0 ∧ (w_Mod_sees x1 (((x5 + r17) - (nI 1)) - ((x5 + r17) - (nI 1)) / r18 * r18) τ18 (fun r19 τ19 => (am_ite (¬ r16 = r19) (R_Mod_seen d K 113 [.ref 153, .int x1, .int x2, .int (x3 + nI 1), .int x4, .int x5, .int (nI 1)] [] τ19) (R_Mod_seen d K 66 [.ref 153, .int x1, .int x2, .int x3, .int x4, .int (x5 + nI 1), .null] [] τ19))))))))))))))) : R_Mod_seen d K 66 [.ref 153, .int x1, .int x2, .int x3, .int x4, .int x5, .null] [] σ := by
  refine r_iload d_Mod_seen_66 rfl ?_
  refine r_aload_n d_Mod_seen_68 rfl ?_
  refine r_virtI [] [.int x5] d_Mod_seen_69 v_Mod_93 rfl rfl cn_153 rfl (t_Mod_n h) (fun r13 τ13 h => ?_)
  refine r_icmp2 166 (r13 ≤ x5) d_Mod_seen_72 (by decide) rfl (fun c14 => ?_) (fun c14 => ?_)
  · have h := h.1 c14
    refine r_iload_n d_Mod_seen_166 rfl ?_
    refine r_iconst (nI 2) d_Mod_seen_167 (by decide) ?_
    refine r_icmp2 175 (¬ x2 = (nI 2)) d_Mod_seen_168 (by decide) rfl (fun c15 => ?_) (fun c15 => ?_)
    · have h := h.1 c15
      refine r_iload d_Mod_seen_175 rfl ?_
      exact r_iret d_Mod_seen_177 h
    · have h := h.2 c15
      refine r_iload_n d_Mod_seen_171 rfl ?_
      refine r_goto 177 d_Mod_seen_172 (by decide) ?_
      exact r_iret d_Mod_seen_177 h
  · have h := h.2 c14
    refine r_aload_n d_Mod_seen_75 rfl ?_
    refine r_iload_n d_Mod_seen_76 rfl ?_
    refine r_iload d_Mod_seen_77 rfl ?_
    refine r_virtI [.int x1, .int x5] [] d_Mod_seen_79 v_Mod_102 rfl rfl cn_153 rfl (t_Mod_sees h) (fun r16 τ16 h => ?_)
    refine r_aload_n d_Mod_seen_82 rfl ?_
    refine r_iload_n d_Mod_seen_83 rfl ?_
    refine r_iload d_Mod_seen_84 rfl ?_
    refine r_aload_n d_Mod_seen_86 rfl ?_
    refine r_virtI [] [.int x5, .int x1, .ref 153, .int r16] d_Mod_seen_87 v_Mod_93 rfl rfl cn_153 rfl (t_Mod_n h) (fun r17 τ17 h => ?_)
    refine r_iadd d_Mod_seen_90 ?_
    refine r_iconst (nI 1) d_Mod_seen_91 (by decide) ?_
    refine r_isub d_Mod_seen_92 ?_
    refine r_aload_n d_Mod_seen_93 rfl ?_
    refine r_virtI [] [.int ((x5 + r17) - (nI 1)), .int x1, .ref 153, .int r16] d_Mod_seen_94 v_Mod_93 rfl rfl cn_153 rfl (t_Mod_n h) (fun r18 τ18 h => ?_)
    refine r_irem d_Mod_seen_97 ⟨h.1, ?_⟩
    have h := h.2
    refine r_virtI [.int x1, .int (((x5 + r17) - (nI 1)) - ((x5 + r17) - (nI 1)) / r18 * r18)] [.int r16] d_Mod_seen_98 v_Mod_102 rfl rfl cn_153 rfl (t_Mod_sees h) (fun r19 τ19 h => ?_)
    refine r_icmp2 107 (¬ r16 = r19) d_Mod_seen_101 (by decide) rfl (fun c20 => ?_) (fun c20 => ?_)
    · have h := h.1 c20
      refine r_inc1 (vs' := [.ref 153, .int x1, .int x2, .int (x3 + nI 1), .int x4, .int x5, .null]) d_Mod_seen_107 rfl rfl rfl ?_
      refine r_iconst (nI 1) d_Mod_seen_110 (by decide) ?_
      refine r_istore (vs' := [.ref 153, .int x1, .int x2, .int (x3 + nI 1), .int x4, .int x5, .int (nI 1)]) d_Mod_seen_111 rfl rfl ?_
      exact h
    · have h := h.2 c20
      refine r_goto 160 d_Mod_seen_104 (by decide) ?_
      refine r_inc1 (vs' := [.ref 153, .int x1, .int x2, .int x3, .int x4, .int (x5 + nI 1), .null]) d_Mod_seen_160 rfl rfl rfl ?_
      refine r_goto 66 d_Mod_seen_163 (by decide) ?_
      exact h
theorem l_Mod_seen_113 {d : Nat}  {x1 : Int32} {x2 : Int32} {x3 : Int32} {x4 : Int32} {x5 : Int32} {x6 : Int32}  {σ : am_S} {K : Int32 → am_S → Prop} (h : (w_Mod_n  σ (fun r21 τ21 => (¬ r21 = nI 0 ∧ (w_Mod_sees x1 ((x5 + x6) - (x5 + x6) / r21 * r21) τ21 (fun r22 τ22 => (w_Mod_sees x1 x5 τ22 (fun r23 τ23 => (am_ite (¬ r22 = r23) (am_ite (x4 ≤ x6) (R_Mod_seen d K 66 [.ref 153, .int x1, .int x2, .int x3, .int x4, .int (x5 + nI 1), .null] [] τ23) (R_Mod_seen d K 66 [.ref 153, .int x1, .int x2, .int x3, .int x6, .int (x5 + nI 1), .null] [] τ23)) (R_Mod_seen d K 113 [.ref 153, .int x1, .int x2, .int x3, .int x4, .int x5, .int (x6 + nI 1)] [] τ23)))))))))) : R_Mod_seen d K 113 [.ref 153, .int x1, .int x2, .int x3, .int x4, .int x5, .int x6] [] σ := by
  refine r_aload_n d_Mod_seen_113 rfl ?_
  refine r_iload_n d_Mod_seen_114 rfl ?_
  refine r_iload d_Mod_seen_115 rfl ?_
  refine r_iload d_Mod_seen_117 rfl ?_
  refine r_iadd d_Mod_seen_119 ?_
  refine r_aload_n d_Mod_seen_120 rfl ?_
  refine r_virtI [] [.int (x5 + x6), .int x1, .ref 153] d_Mod_seen_121 v_Mod_93 rfl rfl cn_153 rfl (t_Mod_n h) (fun r21 τ21 h => ?_)
  refine r_irem d_Mod_seen_124 ⟨h.1, ?_⟩
  have h := h.2
  refine r_virtI [.int x1, .int ((x5 + x6) - (x5 + x6) / r21 * r21)] [] d_Mod_seen_125 v_Mod_102 rfl rfl cn_153 rfl (t_Mod_sees h) (fun r22 τ22 h => ?_)
  refine r_aload_n d_Mod_seen_128 rfl ?_
  refine r_iload_n d_Mod_seen_129 rfl ?_
  refine r_iload d_Mod_seen_130 rfl ?_
  refine r_virtI [.int x1, .int x5] [.int r22] d_Mod_seen_132 v_Mod_102 rfl rfl cn_153 rfl (t_Mod_sees h) (fun r23 τ23 h => ?_)
  refine r_icmp2 144 (¬ r22 = r23) d_Mod_seen_135 (by decide) rfl (fun c24 => ?_) (fun c24 => ?_)
  · have h := h.1 c24
    refine r_iload d_Mod_seen_144 rfl ?_
    refine r_iload d_Mod_seen_146 rfl ?_
    refine r_icmp2 156 (x4 ≤ x6) d_Mod_seen_148 (by decide) rfl (fun c25 => ?_) (fun c25 => ?_)
    · have h := h.1 c25
      refine r_iload d_Mod_seen_156 rfl ?_
      refine r_istore (vs' := [.ref 153, .int x1, .int x2, .int x3, .int x4, .int x5, .int x6]) d_Mod_seen_158 rfl rfl ?_
      refine r_inc1 (vs' := [.ref 153, .int x1, .int x2, .int x3, .int x4, .int (x5 + nI 1), .int x6]) d_Mod_seen_160 rfl rfl rfl ?_
      refine r_goto 66 d_Mod_seen_163 (by decide) ?_
      exact am_weak (vs := [.ref 153, .int x1, .int x2, .int x3, .int x4, .int (x5 + nI 1), .null]) ⟨Or.inl rfl, Or.inl rfl, Or.inl rfl, Or.inl rfl, Or.inl rfl, Or.inl rfl, Or.inr ⟨rfl, rfl⟩, trivial⟩ h
    · have h := h.2 c25
      refine r_iload d_Mod_seen_151 rfl ?_
      refine r_goto 158 d_Mod_seen_153 (by decide) ?_
      refine r_istore (vs' := [.ref 153, .int x1, .int x2, .int x3, .int x6, .int x5, .int x6]) d_Mod_seen_158 rfl rfl ?_
      refine r_inc1 (vs' := [.ref 153, .int x1, .int x2, .int x3, .int x6, .int (x5 + nI 1), .int x6]) d_Mod_seen_160 rfl rfl rfl ?_
      refine r_goto 66 d_Mod_seen_163 (by decide) ?_
      exact am_weak (vs := [.ref 153, .int x1, .int x2, .int x3, .int x6, .int (x5 + nI 1), .null]) ⟨Or.inl rfl, Or.inl rfl, Or.inl rfl, Or.inl rfl, Or.inl rfl, Or.inl rfl, Or.inr ⟨rfl, rfl⟩, trivial⟩ h
  · have h := h.2 c24
    refine r_inc1 (vs' := [.ref 153, .int x1, .int x2, .int x3, .int x4, .int x5, .int (x6 + nI 1)]) d_Mod_seen_138 rfl rfl rfl ?_
    refine r_goto 113 d_Mod_seen_141 (by decide) ?_
    exact h
abbrev R_Mod_where (d : Nat) (K : Int32 → am_S → Prop) (pc : Nat) (vs st : List Value) (σ : am_S) : Prop := am_r (am_run (d + 3)) "WheelDiscModel" (some .int) prog_13_method_31_code (am_Ri K) pc vs st σ
def w_Mod_where (x1 : Int32) (σ : am_S) (K : Int32 → am_S → Prop) : Prop := ∀ d : Nat, am_run (d + 4) y_Mod_where [.ref 153, .int x1] σ (am_Ri K)
theorem t_Mod_where {d : Nat} {x1 : Int32}  {σ : am_S} {K : Int32 → am_S → Prop} (h : w_Mod_where x1 σ K) : am_run (d + 4) y_Mod_where [.ref 153, .int x1] σ (am_Ri K) := h d
theorem e_Mod_where {x1 : Int32}  {σ : am_S} {K : Int32 → am_S → Prop} (h : ∀ d : Nat, R_Mod_where d K 9 [.ref 153, .int x1, .int (nI 0), .int (nI 0)] [] (am_upI σ 153 18 (nI 0))) : w_Mod_where x1 σ K := by
  intro d
  have h := h d
  refine am_begin (vs := [.ref 153, .int x1, .null, .null]) c_Mod_where (by decide +kernel) rfl rfl rfl rfl ?_
  refine r_aload_n d_Mod_where_0 rfl ?_
  refine r_iconst (nI 0) d_Mod_where_1 (by decide) ?_
  refine r_putI d_Mod_where_2 f_Mod_62 kd_153 rfl ?_
  refine r_iconst (nI 0) d_Mod_where_5 (by decide) ?_
  refine r_istore_n (vs' := [.ref 153, .int x1, .int (nI 0), .null]) d_Mod_where_6 rfl rfl ?_
  refine r_iconst (nI 0) d_Mod_where_7 (by decide) ?_
  refine r_istore_n (vs' := [.ref 153, .int x1, .int (nI 0), .int (nI 0)]) d_Mod_where_8 rfl rfl ?_
  exact h
theorem l_Mod_where_9 {d : Nat}  {x1 : Int32} {x2 : Int32} {x3 : Int32}  {σ : am_S} {K : Int32 → am_S → Prop} (h : (w_Mod_n  σ (fun r1 τ1 => (am_ite (r1 ≤ x3) (K x2 τ1) (w_Mod_wordAt x3 τ1 (fun r3 τ3 => (am_ite (¬ r3 = x1) (R_Mod_where d K 9 [.ref 153, .int x1, .int x2, .int (x3 + nI 1)] [] τ3) (R_Mod_where d K 9 [.ref 153, .int x1, .int (x2 + nI 1), .int (x3 + nI 1)] [] τ3)))))))) : R_Mod_where d K 9 [.ref 153, .int x1, .int x2, .int x3] [] σ := by
  refine r_iload_n d_Mod_where_9 rfl ?_
  refine r_aload_n d_Mod_where_10 rfl ?_
  refine r_virtI [] [.int x3] d_Mod_where_11 v_Mod_93 rfl rfl cn_153 rfl (t_Mod_n h) (fun r1 τ1 h => ?_)
  refine r_icmp2 35 (r1 ≤ x3) d_Mod_where_14 (by decide) rfl (fun c2 => ?_) (fun c2 => ?_)
  · have h := h.1 c2
    refine r_iload_n d_Mod_where_35 rfl ?_
    exact r_iret d_Mod_where_36 h
  · have h := h.2 c2
    refine r_aload_n d_Mod_where_17 rfl ?_
    refine r_iload_n d_Mod_where_18 rfl ?_
    refine r_virtI [.int x3] [] d_Mod_where_19 v_Mod_106 rfl rfl cn_153 rfl (t_Mod_wordAt h) (fun r3 τ3 h => ?_)
    refine r_iload_n d_Mod_where_22 rfl ?_
    refine r_icmp2 29 (¬ r3 = x1) d_Mod_where_23 (by decide) rfl (fun c4 => ?_) (fun c4 => ?_)
    · have h := h.1 c4
      refine r_inc1 (vs' := [.ref 153, .int x1, .int x2, .int (x3 + nI 1)]) d_Mod_where_29 rfl rfl rfl ?_
      refine r_goto 9 d_Mod_where_32 (by decide) ?_
      exact h
    · have h := h.2 c4
      refine r_inc1 (vs' := [.ref 153, .int x1, .int (x2 + nI 1), .int x3]) d_Mod_where_26 rfl rfl rfl ?_
      refine r_inc1 (vs' := [.ref 153, .int x1, .int (x2 + nI 1), .int (x3 + nI 1)]) d_Mod_where_29 rfl rfl rfl ?_
      refine r_goto 9 d_Mod_where_32 (by decide) ?_
      exact h
abbrev R_Mod_at (d : Nat) (K : Int32 → am_S → Prop) (pc : Nat) (vs st : List Value) (σ : am_S) : Prop := am_r (am_run (d + 3)) "WheelDiscModel" (some .int) prog_13_method_32_code (am_Ri K) pc vs st σ
def w_Mod_at (x1 : Int32) (x2 : Int32) (σ : am_S) (K : Int32 → am_S → Prop) : Prop := ∀ d : Nat, am_run (d + 4) y_Mod_at [.ref 153, .int x1, .int x2] σ (am_Ri K)
theorem t_Mod_at {d : Nat} {x1 : Int32} {x2 : Int32}  {σ : am_S} {K : Int32 → am_S → Prop} (h : w_Mod_at x1 x2 σ K) : am_run (d + 4) y_Mod_at [.ref 153, .int x1, .int x2] σ (am_Ri K) := h d
theorem e_Mod_at {x1 : Int32} {x2 : Int32}  {σ : am_S} {K : Int32 → am_S → Prop} (h : ∀ d : Nat, R_Mod_at d K 10 [.ref 153, .int x1, .int x2, .int (nI 0), .int (nI 0)] [] (am_upI σ 153 18 (nI 0))) : w_Mod_at x1 x2 σ K := by
  intro d
  have h := h d
  refine am_begin (vs := [.ref 153, .int x1, .int x2, .null, .null]) c_Mod_at (by decide +kernel) rfl rfl rfl rfl ?_
  refine r_aload_n d_Mod_at_0 rfl ?_
  refine r_iconst (nI 0) d_Mod_at_1 (by decide) ?_
  refine r_putI d_Mod_at_2 f_Mod_62 kd_153 rfl ?_
  refine r_iconst (nI 0) d_Mod_at_5 (by decide) ?_
  refine r_istore_n (vs' := [.ref 153, .int x1, .int x2, .int (nI 0), .null]) d_Mod_at_6 rfl rfl ?_
  refine r_iconst (nI 0) d_Mod_at_7 (by decide) ?_
  refine r_istore (vs' := [.ref 153, .int x1, .int x2, .int (nI 0), .int (nI 0)]) d_Mod_at_8 rfl rfl ?_
  exact h
theorem l_Mod_at_10 {d : Nat}  {x1 : Int32} {x2 : Int32} {x3 : Int32} {x4 : Int32}  {σ : am_S} {K : Int32 → am_S → Prop} (h : (w_Mod_n  σ (fun r1 τ1 => (am_ite (r1 ≤ x4) (w_Mod_no (nI 1) τ1 (fun r3 τ3 => K r3 τ3)) (w_Mod_wordAt x4 τ1 (fun r4 τ4 => (am_ite (r4 = x1) (am_ite (¬ x3 = x2) (R_Mod_at d K 10 [.ref 153, .int x1, .int x2, .int (x3 + nI 1), .int (x4 + nI 1)] [] τ4) (K x4 τ4)) (R_Mod_at d K 10 [.ref 153, .int x1, .int x2, .int x3, .int (x4 + nI 1)] [] τ4)))))))) : R_Mod_at d K 10 [.ref 153, .int x1, .int x2, .int x3, .int x4] [] σ := by
  refine r_iload d_Mod_at_10 rfl ?_
  refine r_aload_n d_Mod_at_12 rfl ?_
  refine r_virtI [] [.int x4] d_Mod_at_13 v_Mod_93 rfl rfl cn_153 rfl (t_Mod_n h) (fun r1 τ1 h => ?_)
  refine r_icmp2 49 (r1 ≤ x4) d_Mod_at_16 (by decide) rfl (fun c2 => ?_) (fun c2 => ?_)
  · have h := h.1 c2
    refine r_aload_n d_Mod_at_49 rfl ?_
    refine r_iconst (nI 1) d_Mod_at_50 (by decide) ?_
    refine r_virtI [.int (nI 1)] [] d_Mod_at_51 v_Mod_75 rfl rfl cn_153 rfl (t_Mod_no h) (fun r3 τ3 h => ?_)
    exact r_iret d_Mod_at_54 h
  · have h := h.2 c2
    refine r_aload_n d_Mod_at_19 rfl ?_
    refine r_iload d_Mod_at_20 rfl ?_
    refine r_virtI [.int x4] [] d_Mod_at_22 v_Mod_106 rfl rfl cn_153 rfl (t_Mod_wordAt h) (fun r4 τ4 h => ?_)
    refine r_iload_n d_Mod_at_25 rfl ?_
    refine r_icmp2 32 (r4 = x1) d_Mod_at_26 (by decide) rfl (fun c5 => ?_) (fun c5 => ?_)
    · have h := h.1 c5
      refine r_iload_n d_Mod_at_32 rfl ?_
      refine r_iload_n d_Mod_at_33 rfl ?_
      refine r_icmp2 40 (¬ x3 = x2) d_Mod_at_34 (by decide) rfl (fun c6 => ?_) (fun c6 => ?_)
      · have h := h.1 c6
        refine r_inc1 (vs' := [.ref 153, .int x1, .int x2, .int (x3 + nI 1), .int x4]) d_Mod_at_40 rfl rfl rfl ?_
        refine r_inc1 (vs' := [.ref 153, .int x1, .int x2, .int (x3 + nI 1), .int (x4 + nI 1)]) d_Mod_at_43 rfl rfl rfl ?_
        refine r_goto 10 d_Mod_at_46 (by decide) ?_
        exact h
      · have h := h.2 c6
        refine r_iload d_Mod_at_37 rfl ?_
        exact r_iret d_Mod_at_39 h
    · have h := h.2 c5
      refine r_goto 43 d_Mod_at_29 (by decide) ?_
      refine r_inc1 (vs' := [.ref 153, .int x1, .int x2, .int x3, .int (x4 + nI 1)]) d_Mod_at_43 rfl rfl rfl ?_
      refine r_goto 10 d_Mod_at_46 (by decide) ?_
      exact h
def w_Mod_edge (x1 : Int32) (σ : am_S) (K : Int32 → am_S → Prop) : Prop := (w_Mod_isStand x1 (am_upI σ 153 18 (nI 0)) (fun r1 τ1 => (am_ite (¬ r1 = (nI 0)) (w_Mod_wordAt x1 τ1 (fun r3 τ3 => (w_Mod_n  τ3 (fun r4 τ4 => (¬ r4 = nI 0 ∧ (w_Mod_wordAt ((x1 + (nI 1)) - (x1 + (nI 1)) / r4 * r4) τ4 (fun r5 τ5 => (w_Int_bitCount (r3 ^^^ r5) τ5 (fun r6 τ6 => K ((nI 1) <<< (r6 &&& 31)) τ6))))))))) (w_Mod_no (nI 1) τ1 (fun r7 τ7 => K r7 τ7)))))
theorem t_Mod_edge {d : Nat} {x1 : Int32}  {σ : am_S} {K : Int32 → am_S → Prop} (h : w_Mod_edge x1 σ K) : am_run (d + 4) y_Mod_edge [.ref 153, .int x1] σ (am_Ri K) := by
  unfold w_Mod_edge at h
  refine am_begin (vs := [.ref 153, .int x1]) c_Mod_edge (by decide +kernel) rfl rfl rfl rfl ?_
  refine r_aload_n d_Mod_edge_0 rfl ?_
  refine r_iconst (nI 0) d_Mod_edge_1 (by decide) ?_
  refine r_putI d_Mod_edge_2 f_Mod_62 kd_153 rfl ?_
  refine r_aload_n d_Mod_edge_5 rfl ?_
  refine r_iload_n d_Mod_edge_6 rfl ?_
  refine r_virtI [.int x1] [] d_Mod_edge_7 v_Mod_133 rfl rfl cn_153 rfl (t_Mod_isStand h) (fun r1 τ1 h => ?_)
  refine r_if2 19 (¬ r1 = (nI 0)) d_Mod_edge_10 (by decide) rfl (fun c2 => ?_) (fun c2 => ?_)
  · have h := h.1 c2
    refine r_iconst (nI 1) d_Mod_edge_19 (by decide) ?_
    refine r_aload_n d_Mod_edge_20 rfl ?_
    refine r_iload_n d_Mod_edge_21 rfl ?_
    refine r_virtI [.int x1] [.int (nI 1)] d_Mod_edge_22 v_Mod_106 rfl rfl cn_153 rfl (t_Mod_wordAt h) (fun r3 τ3 h => ?_)
    refine r_aload_n d_Mod_edge_25 rfl ?_
    refine r_iload_n d_Mod_edge_26 rfl ?_
    refine r_iconst (nI 1) d_Mod_edge_27 (by decide) ?_
    refine r_iadd d_Mod_edge_28 ?_
    refine r_aload_n d_Mod_edge_29 rfl ?_
    refine r_virtI [] [.int (x1 + (nI 1)), .ref 153, .int r3, .int (nI 1)] d_Mod_edge_30 v_Mod_93 rfl rfl cn_153 rfl (t_Mod_n h) (fun r4 τ4 h => ?_)
    refine r_irem d_Mod_edge_33 ⟨h.1, ?_⟩
    have h := h.2
    refine r_virtI [.int ((x1 + (nI 1)) - (x1 + (nI 1)) / r4 * r4)] [.int r3, .int (nI 1)] d_Mod_edge_34 v_Mod_106 rfl rfl cn_153 rfl (t_Mod_wordAt h) (fun r5 τ5 h => ?_)
    refine r_ixor d_Mod_edge_37 ?_
    refine r_statI [.int (r3 ^^^ r5)] [.int (nI 1)] d_Mod_edge_38 s_Mod_119 rfl rfl rfl (t_Int_bitCount h) (fun r6 τ6 h => ?_)
    refine r_ishl d_Mod_edge_41 ?_
    exact r_iret d_Mod_edge_42 h
  · have h := h.2 c2
    refine r_aload_n d_Mod_edge_13 rfl ?_
    refine r_iconst (nI 1) d_Mod_edge_14 (by decide) ?_
    refine r_virtI [.int (nI 1)] [] d_Mod_edge_15 v_Mod_75 rfl rfl cn_153 rfl (t_Mod_no h) (fun r7 τ7 h => ?_)
    exact r_iret d_Mod_edge_18 h
abbrev R_Mod_way (d : Nat) (K : Int32 → am_S → Prop) (pc : Nat) (vs st : List Value) (σ : am_S) : Prop := am_r (am_run (d + 3)) "WheelDiscModel" (some .int) prog_13_method_34_code (am_Ri K) pc vs st σ
def w_Mod_way (x1 : Int32) (x2 : Int32) (σ : am_S) (K : Int32 → am_S → Prop) : Prop := ∀ d : Nat, am_run (d + 4) y_Mod_way [.ref 153, .int x1, .int x2] σ (am_Ri K)
theorem t_Mod_way {d : Nat} {x1 : Int32} {x2 : Int32}  {σ : am_S} {K : Int32 → am_S → Prop} (h : w_Mod_way x1 x2 σ K) : am_run (d + 4) y_Mod_way [.ref 153, .int x1, .int x2] σ (am_Ri K) := h d
theorem e_Mod_way {x1 : Int32} {x2 : Int32}  {σ : am_S} {K : Int32 → am_S → Prop} (h : ∀ d : Nat, (w_Mod_isStand x1 (am_upI σ 153 18 (nI 0)) (fun r1 τ1 => (am_ite (¬ r1 = (nI 0)) (w_Mod_wordAt x1 τ1 (fun r3 τ3 => (w_Mod_n  τ3 (fun r4 τ4 => (¬ r4 = nI 0 ∧ (w_Mod_wordAt ((x1 + (nI 1)) - (x1 + (nI 1)) / r4 * r4) τ4 (fun r5 τ5 => (am_ite (x2 < (nI 0)) (w_Mod_no (nI 1) τ5 (fun r7 τ7 => K r7 τ7)) (w_Int_bitCount (r3 ^^^ r5) τ5 (fun r8 τ8 => (am_ite (x2 < ((nI 1) <<< (r8 &&& 31))) (R_Mod_way d K 76 [.null, .null, .null, .null, .int (r3 ^^^ r5), .int (r3 &&& ((r3 ^^^ r5) ^^^ (-1))), .int x2, .int (nI 0)] [] τ8) (w_Mod_no (nI 1) τ8 (fun r10 τ10 => K r10 τ10))))))))))))) (w_Mod_no (nI 1) τ1 (fun r11 τ11 => K r11 τ11)))))) : w_Mod_way x1 x2 σ K := by
  intro d
  have h := h d
  refine am_begin (vs := [.ref 153, .int x1, .int x2, .null, .null, .null, .null, .null]) c_Mod_way (by decide +kernel) rfl rfl rfl rfl ?_
  refine r_aload_n d_Mod_way_0 rfl ?_
  refine r_iconst (nI 0) d_Mod_way_1 (by decide) ?_
  refine r_putI d_Mod_way_2 f_Mod_62 kd_153 rfl ?_
  refine r_aload_n d_Mod_way_5 rfl ?_
  refine r_iload_n d_Mod_way_6 rfl ?_
  refine r_virtI [.int x1] [] d_Mod_way_7 v_Mod_133 rfl rfl cn_153 rfl (t_Mod_isStand h) (fun r1 τ1 h => ?_)
  refine r_if2 19 (¬ r1 = (nI 0)) d_Mod_way_10 (by decide) rfl (fun c2 => ?_) (fun c2 => ?_)
  · have h := h.1 c2
    refine r_aload_n d_Mod_way_19 rfl ?_
    refine r_iload_n d_Mod_way_20 rfl ?_
    refine r_virtI [.int x1] [] d_Mod_way_21 v_Mod_106 rfl rfl cn_153 rfl (t_Mod_wordAt h) (fun r3 τ3 h => ?_)
    refine r_istore_n (vs' := [.ref 153, .int x1, .int x2, .int r3, .null, .null, .null, .null]) d_Mod_way_24 rfl rfl ?_
    refine r_iload_n d_Mod_way_25 rfl ?_
    refine r_aload_n d_Mod_way_26 rfl ?_
    refine r_iload_n d_Mod_way_27 rfl ?_
    refine r_iconst (nI 1) d_Mod_way_28 (by decide) ?_
    refine r_iadd d_Mod_way_29 ?_
    refine r_aload_n d_Mod_way_30 rfl ?_
    refine r_virtI [] [.int (x1 + (nI 1)), .ref 153, .int r3] d_Mod_way_31 v_Mod_93 rfl rfl cn_153 rfl (t_Mod_n h) (fun r4 τ4 h => ?_)
    refine r_irem d_Mod_way_34 ⟨h.1, ?_⟩
    have h := h.2
    refine r_virtI [.int ((x1 + (nI 1)) - (x1 + (nI 1)) / r4 * r4)] [.int r3] d_Mod_way_35 v_Mod_106 rfl rfl cn_153 rfl (t_Mod_wordAt h) (fun r5 τ5 h => ?_)
    refine r_ixor d_Mod_way_38 ?_
    refine r_istore (vs' := [.ref 153, .int x1, .int x2, .int r3, .int (r3 ^^^ r5), .null, .null, .null]) d_Mod_way_39 rfl rfl ?_
    refine r_iload_n d_Mod_way_41 rfl ?_
    refine r_if2 56 (x2 < (nI 0)) d_Mod_way_42 (by decide) rfl (fun c6 => ?_) (fun c6 => ?_)
    · have h := h.1 c6
      refine r_aload_n d_Mod_way_56 rfl ?_
      refine r_iconst (nI 1) d_Mod_way_57 (by decide) ?_
      refine r_virtI [.int (nI 1)] [] d_Mod_way_58 v_Mod_75 rfl rfl cn_153 rfl (t_Mod_no h) (fun r7 τ7 h => ?_)
      exact r_iret d_Mod_way_61 h
    · have h := h.2 c6
      refine r_iload_n d_Mod_way_45 rfl ?_
      refine r_iconst (nI 1) d_Mod_way_46 (by decide) ?_
      refine r_iload d_Mod_way_47 rfl ?_
      refine r_statI [.int (r3 ^^^ r5)] [.int (nI 1), .int x2] d_Mod_way_49 s_Mod_119 rfl rfl rfl (t_Int_bitCount h) (fun r8 τ8 h => ?_)
      refine r_ishl d_Mod_way_52 ?_
      refine r_icmp2 62 (x2 < ((nI 1) <<< (r8 &&& 31))) d_Mod_way_53 (by decide) rfl (fun c9 => ?_) (fun c9 => ?_)
      · have h := h.1 c9
        refine r_iload_n d_Mod_way_62 rfl ?_
        refine r_iload d_Mod_way_63 rfl ?_
        refine r_iconst (-1) d_Mod_way_65 (by decide) ?_
        refine r_ixor d_Mod_way_66 ?_
        refine r_iand d_Mod_way_67 ?_
        refine r_istore (vs' := [.ref 153, .int x1, .int x2, .int r3, .int (r3 ^^^ r5), .int (r3 &&& ((r3 ^^^ r5) ^^^ (-1))), .null, .null]) d_Mod_way_68 rfl rfl ?_
        refine r_iload_n d_Mod_way_70 rfl ?_
        refine r_istore (vs' := [.ref 153, .int x1, .int x2, .int r3, .int (r3 ^^^ r5), .int (r3 &&& ((r3 ^^^ r5) ^^^ (-1))), .int x2, .null]) d_Mod_way_71 rfl rfl ?_
        refine r_iconst (nI 0) d_Mod_way_73 (by decide) ?_
        refine r_istore (vs' := [.ref 153, .int x1, .int x2, .int r3, .int (r3 ^^^ r5), .int (r3 &&& ((r3 ^^^ r5) ^^^ (-1))), .int x2, .int (nI 0)]) d_Mod_way_74 rfl rfl ?_
        exact am_weak (vs := [.null, .null, .null, .null, .int (r3 ^^^ r5), .int (r3 &&& ((r3 ^^^ r5) ^^^ (-1))), .int x2, .int (nI 0)]) ⟨Or.inr ⟨rfl, rfl⟩, Or.inr ⟨rfl, rfl⟩, Or.inr ⟨rfl, rfl⟩, Or.inr ⟨rfl, rfl⟩, Or.inl rfl, Or.inl rfl, Or.inl rfl, Or.inl rfl, trivial⟩ h
      · have h := h.2 c9
        refine r_aload_n d_Mod_way_56 rfl ?_
        refine r_iconst (nI 1) d_Mod_way_57 (by decide) ?_
        refine r_virtI [.int (nI 1)] [] d_Mod_way_58 v_Mod_75 rfl rfl cn_153 rfl (t_Mod_no h) (fun r10 τ10 h => ?_)
        exact r_iret d_Mod_way_61 h
  · have h := h.2 c2
    refine r_aload_n d_Mod_way_13 rfl ?_
    refine r_iconst (nI 1) d_Mod_way_14 (by decide) ?_
    refine r_virtI [.int (nI 1)] [] d_Mod_way_15 v_Mod_75 rfl rfl cn_153 rfl (t_Mod_no h) (fun r11 τ11 h => ?_)
    exact r_iret d_Mod_way_18 h
theorem l_Mod_way_76 {d : Nat}  {x4 : Int32} {x5 : Int32} {x6 : Int32} {x7 : Int32}  {σ : am_S} {K : Int32 → am_S → Prop} (h : (am_ite ((nI 10) ≤ x7) (K x5 σ) (am_ite (¬ ((x4 >>> (x7 &&& 31)) &&& (nI 1)) = (nI 0)) (R_Mod_way d K 76 [.null, .null, .null, .null, .int x4, .int (x5 ||| ((x6 &&& (nI 1)) <<< (x7 &&& 31))), .int (x6 >>> ((nI 1) &&& 31)), .int (x7 + nI 1)] [] σ) (R_Mod_way d K 76 [.null, .null, .null, .null, .int x4, .int x5, .int x6, .int (x7 + nI 1)] [] σ)))) : R_Mod_way d K 76 [.null, .null, .null, .null, .int x4, .int x5, .int x6, .int x7] [] σ := by
  refine r_iload d_Mod_way_76 rfl ?_
  refine r_bipush (nI 10) d_Mod_way_78 (by decide) ?_
  refine r_icmp2 120 ((nI 10) ≤ x7) d_Mod_way_80 (by decide) rfl (fun c12 => ?_) (fun c12 => ?_)
  · have h := h.1 c12
    refine r_iload d_Mod_way_120 rfl ?_
    exact r_iret d_Mod_way_122 h
  · have h := h.2 c12
    refine r_iload d_Mod_way_83 rfl ?_
    refine r_iload d_Mod_way_85 rfl ?_
    refine r_ishr d_Mod_way_87 ?_
    refine r_iconst (nI 1) d_Mod_way_88 (by decide) ?_
    refine r_iand d_Mod_way_89 ?_
    refine r_if2 96 (¬ ((x4 >>> (x7 &&& 31)) &&& (nI 1)) = (nI 0)) d_Mod_way_90 (by decide) rfl (fun c13 => ?_) (fun c13 => ?_)
    · have h := h.1 c13
      refine r_iload d_Mod_way_96 rfl ?_
      refine r_iload d_Mod_way_98 rfl ?_
      refine r_iconst (nI 1) d_Mod_way_100 (by decide) ?_
      refine r_iand d_Mod_way_101 ?_
      refine r_iload d_Mod_way_102 rfl ?_
      refine r_ishl d_Mod_way_104 ?_
      refine r_ior d_Mod_way_105 ?_
      refine r_istore (vs' := [.null, .null, .null, .null, .int x4, .int (x5 ||| ((x6 &&& (nI 1)) <<< (x7 &&& 31))), .int x6, .int x7]) d_Mod_way_106 rfl rfl ?_
      refine r_iload d_Mod_way_108 rfl ?_
      refine r_iconst (nI 1) d_Mod_way_110 (by decide) ?_
      refine r_ishr d_Mod_way_111 ?_
      refine r_istore (vs' := [.null, .null, .null, .null, .int x4, .int (x5 ||| ((x6 &&& (nI 1)) <<< (x7 &&& 31))), .int (x6 >>> ((nI 1) &&& 31)), .int x7]) d_Mod_way_112 rfl rfl ?_
      refine r_inc1 (vs' := [.null, .null, .null, .null, .int x4, .int (x5 ||| ((x6 &&& (nI 1)) <<< (x7 &&& 31))), .int (x6 >>> ((nI 1) &&& 31)), .int (x7 + nI 1)]) d_Mod_way_114 rfl rfl rfl ?_
      refine r_goto 76 d_Mod_way_117 (by decide) ?_
      exact h
    · have h := h.2 c13
      refine r_goto 114 d_Mod_way_93 (by decide) ?_
      refine r_inc1 (vs' := [.null, .null, .null, .null, .int x4, .int x5, .int x6, .int (x7 + nI 1)]) d_Mod_way_114 rfl rfl rfl ?_
      refine r_goto 76 d_Mod_way_117 (by decide) ?_
      exact h
abbrev R_Mod_fewest (d : Nat) (K : Int32 → am_S → Prop) (pc : Nat) (vs st : List Value) (σ : am_S) : Prop := am_r (am_run (d + 4)) "WheelDiscModel" (some .int) prog_13_method_35_code (am_Ri K) pc vs st σ
def w_Mod_fewest  (σ : am_S) (K : Int32 → am_S → Prop) : Prop := ∀ d : Nat, am_run (d + 5) y_Mod_fewest [.ref 153] σ (am_Ri K)
theorem t_Mod_fewest {d : Nat}   {σ : am_S} {K : Int32 → am_S → Prop} (h : w_Mod_fewest  σ K) : am_run (d + 5) y_Mod_fewest [.ref 153] σ (am_Ri K) := h d
theorem e_Mod_fewest   {σ : am_S} {K : Int32 → am_S → Prop} (h : ∀ d : Nat, (w_Mod_n  (am_upI σ 153 18 (nI 0)) (fun r1 τ1 => (am_ite (¬ r1 = (nI 1)) (w_Mod_read  τ1 (fun τ3 => R_Mod_fewest d K 24 [.ref 153, .int (nI 99), .int (nI 0), .null, .null] [] τ3)) (K (-1) τ1))))) : w_Mod_fewest  σ K := by
  intro d
  have h := h d
  refine am_begin (vs := [.ref 153, .null, .null, .null, .null]) c_Mod_fewest (by decide +kernel) rfl rfl rfl rfl ?_
  refine r_aload_n d_Mod_fewest_0 rfl ?_
  refine r_iconst (nI 0) d_Mod_fewest_1 (by decide) ?_
  refine r_putI d_Mod_fewest_2 f_Mod_62 kd_153 rfl ?_
  refine r_aload_n d_Mod_fewest_5 rfl ?_
  refine r_virtI [] [] d_Mod_fewest_6 v_Mod_93 rfl rfl cn_153 rfl (t_Mod_n h) (fun r1 τ1 h => ?_)
  refine r_iconst (nI 1) d_Mod_fewest_9 (by decide) ?_
  refine r_icmp2 15 (¬ r1 = (nI 1)) d_Mod_fewest_10 (by decide) rfl (fun c2 => ?_) (fun c2 => ?_)
  · have h := h.1 c2
    refine r_aload_n d_Mod_fewest_15 rfl ?_
    refine r_virtV [] [] d_Mod_fewest_16 v_Mod_109 rfl rfl cn_153 rfl (t_Mod_read h) (fun τ3 h => ?_)
    refine r_bipush (nI 99) d_Mod_fewest_19 (by decide) ?_
    refine r_istore_n (vs' := [.ref 153, .int (nI 99), .null, .null, .null]) d_Mod_fewest_21 rfl rfl ?_
    refine r_iconst (nI 0) d_Mod_fewest_22 (by decide) ?_
    refine r_istore_n (vs' := [.ref 153, .int (nI 99), .int (nI 0), .null, .null]) d_Mod_fewest_23 rfl rfl ?_
    exact h
  · have h := h.2 c2
    refine r_iconst (-1) d_Mod_fewest_13 (by decide) ?_
    exact r_iret d_Mod_fewest_14 h
theorem l_Mod_fewest_24 {d : Nat}  {x1 : Int32} {x2 : Int32}  {σ : am_S} {K : Int32 → am_S → Prop} (h : (w_Mod_n  σ (fun r4 τ4 => (am_ite (r4 ≤ x2) (K x1 τ4) (R_Mod_fewest d K 36 [.ref 153, .int x1, .int x2, .int (x2 + (nI 1)), .null] [] τ4))))) : R_Mod_fewest d K 24 [.ref 153, .int x1, .int x2, .null, .null] [] σ := by
  refine r_iload_n d_Mod_fewest_24 rfl ?_
  refine r_aload_n d_Mod_fewest_25 rfl ?_
  refine r_virtI [] [.int x2] d_Mod_fewest_26 v_Mod_93 rfl rfl cn_153 rfl (t_Mod_n h) (fun r4 τ4 h => ?_)
  refine r_icmp2 87 (r4 ≤ x2) d_Mod_fewest_29 (by decide) rfl (fun c5 => ?_) (fun c5 => ?_)
  · have h := h.1 c5
    refine r_iload_n d_Mod_fewest_87 rfl ?_
    exact r_iret d_Mod_fewest_88 h
  · have h := h.2 c5
    refine r_iload_n d_Mod_fewest_32 rfl ?_
    refine r_iconst (nI 1) d_Mod_fewest_33 (by decide) ?_
    refine r_iadd d_Mod_fewest_34 ?_
    refine r_istore_n (vs' := [.ref 153, .int x1, .int x2, .int (x2 + (nI 1)), .null]) d_Mod_fewest_35 rfl rfl ?_
    exact h
theorem l_Mod_fewest_36 {d : Nat}  {x1 : Int32} {x2 : Int32} {x3 : Int32}  {σ : am_S} {K : Int32 → am_S → Prop} (h : (w_Mod_n  σ (fun r6 τ6 => (am_ite (r6 ≤ x3) (R_Mod_fewest d K 24 [.ref 153, .int x1, .int (x2 + nI 1), .null, .null] [] τ6) (vp_in x2 512 ∧ (vp_in x3 512 ∧ (w_Int_bitCount ((τ6.1 161 (Int32.toNatClampNeg x2)) ^^^ (τ6.1 161 (Int32.toNatClampNeg x3))) τ6 (fun r8 τ8 => (am_ite (x1 ≤ r8) (R_Mod_fewest d K 36 [.ref 153, .int x1, .int x2, .int (x3 + nI 1), .null] [] τ8) (R_Mod_fewest d K 36 [.ref 153, .int r8, .int x2, .int (x3 + nI 1), .null] [] τ8)))))))))) : R_Mod_fewest d K 36 [.ref 153, .int x1, .int x2, .int x3, .null] [] σ := by
  refine r_iload_n d_Mod_fewest_36 rfl ?_
  refine r_aload_n d_Mod_fewest_37 rfl ?_
  refine r_virtI [] [.int x3] d_Mod_fewest_38 v_Mod_93 rfl rfl cn_153 rfl (t_Mod_n h) (fun r6 τ6 h => ?_)
  refine r_icmp2 81 (r6 ≤ x3) d_Mod_fewest_41 (by decide) rfl (fun c7 => ?_) (fun c7 => ?_)
  · have h := h.1 c7
    refine r_inc1 (vs' := [.ref 153, .int x1, .int (x2 + nI 1), .int x3, .null]) d_Mod_fewest_81 rfl rfl rfl ?_
    refine r_goto 24 d_Mod_fewest_84 (by decide) ?_
    exact am_weak (vs := [.ref 153, .int x1, .int (x2 + nI 1), .null, .null]) ⟨Or.inl rfl, Or.inl rfl, Or.inl rfl, Or.inr ⟨rfl, rfl⟩, Or.inl rfl, trivial⟩ h
  · have h := h.2 c7
    refine r_aload_n d_Mod_fewest_44 rfl ?_
    refine r_getR d_Mod_fewest_45 f_Mod_38 kd_153 rfl lk_153_19 ?_
    refine r_iload_n d_Mod_fewest_48 rfl ?_
    refine r_iald d_Mod_fewest_49 ce_161 ⟨h.1, ?_⟩
    have h := h.2
    refine r_aload_n d_Mod_fewest_50 rfl ?_
    refine r_getR d_Mod_fewest_51 f_Mod_38 kd_153 rfl lk_153_19 ?_
    refine r_iload_n d_Mod_fewest_54 rfl ?_
    refine r_iald d_Mod_fewest_55 ce_161 ⟨h.1, ?_⟩
    have h := h.2
    refine r_ixor d_Mod_fewest_56 ?_
    refine r_statI [.int ((τ6.1 161 (Int32.toNatClampNeg x2)) ^^^ (τ6.1 161 (Int32.toNatClampNeg x3)))] [] d_Mod_fewest_57 s_Mod_119 rfl rfl rfl (t_Int_bitCount h) (fun r8 τ8 h => ?_)
    refine r_istore (vs' := [.ref 153, .int x1, .int x2, .int x3, .int r8]) d_Mod_fewest_60 rfl rfl ?_
    refine r_iload d_Mod_fewest_62 rfl ?_
    refine r_iload_n d_Mod_fewest_64 rfl ?_
    refine r_icmp2 73 (x1 ≤ r8) d_Mod_fewest_65 (by decide) rfl (fun c9 => ?_) (fun c9 => ?_)
    · have h := h.1 c9
      refine r_iload_n d_Mod_fewest_73 rfl ?_
      refine r_istore_n (vs' := [.ref 153, .int x1, .int x2, .int x3, .int r8]) d_Mod_fewest_74 rfl rfl ?_
      refine r_inc1 (vs' := [.ref 153, .int x1, .int x2, .int (x3 + nI 1), .int r8]) d_Mod_fewest_75 rfl rfl rfl ?_
      refine r_goto 36 d_Mod_fewest_78 (by decide) ?_
      exact am_weak (vs := [.ref 153, .int x1, .int x2, .int (x3 + nI 1), .null]) ⟨Or.inl rfl, Or.inl rfl, Or.inl rfl, Or.inl rfl, Or.inr ⟨rfl, rfl⟩, trivial⟩ h
    · have h := h.2 c9
      refine r_iload d_Mod_fewest_68 rfl ?_
      refine r_goto 74 d_Mod_fewest_70 (by decide) ?_
      refine r_istore_n (vs' := [.ref 153, .int r8, .int x2, .int x3, .int r8]) d_Mod_fewest_74 rfl rfl ?_
      refine r_inc1 (vs' := [.ref 153, .int r8, .int x2, .int (x3 + nI 1), .int r8]) d_Mod_fewest_75 rfl rfl rfl ?_
      refine r_goto 36 d_Mod_fewest_78 (by decide) ?_
      exact am_weak (vs := [.ref 153, .int r8, .int x2, .int (x3 + nI 1), .null]) ⟨Or.inl rfl, Or.inl rfl, Or.inl rfl, Or.inl rfl, Or.inr ⟨rfl, rfl⟩, trivial⟩ h
abbrev R_Mod_blind (d : Nat) (K : Int32 → am_S → Prop) (pc : Nat) (vs st : List Value) (σ : am_S) : Prop := am_r (am_run (d + 4)) "WheelDiscModel" (some .int) prog_13_method_36_code (am_Ri K) pc vs st σ
def w_Mod_blind  (σ : am_S) (K : Int32 → am_S → Prop) : Prop := ∀ d : Nat, am_run (d + 5) y_Mod_blind [.ref 153] σ (am_Ri K)
theorem t_Mod_blind {d : Nat}   {σ : am_S} {K : Int32 → am_S → Prop} (h : w_Mod_blind  σ K) : am_run (d + 5) y_Mod_blind [.ref 153] σ (am_Ri K) := h d
theorem e_Mod_blind   {σ : am_S} {K : Int32 → am_S → Prop} (h : ∀ d : Nat, (w_Mod_read  (am_upI σ 153 18 (nI 0)) (fun τ1 => (w_Mod_all  τ1 (fun r2 τ2 => (w_Mod_isTrue r2 τ2 (fun r3 τ3 => (am_ite (¬ r3 = (nI 0)) (R_Mod_blind d K 26 [.ref 153, .int (nI 0), .int (nI 0)] [] τ3) (K (nI 0) τ3))))))))) : w_Mod_blind  σ K := by
  intro d
  have h := h d
  refine am_begin (vs := [.ref 153, .null, .null]) c_Mod_blind (by decide +kernel) rfl rfl rfl rfl ?_
  refine r_aload_n d_Mod_blind_0 rfl ?_
  refine r_iconst (nI 0) d_Mod_blind_1 (by decide) ?_
  refine r_putI d_Mod_blind_2 f_Mod_62 kd_153 rfl ?_
  refine r_aload_n d_Mod_blind_5 rfl ?_
  refine r_virtV [] [] d_Mod_blind_6 v_Mod_109 rfl rfl cn_153 rfl (t_Mod_read h) (fun τ1 h => ?_)
  refine r_aload_n d_Mod_blind_9 rfl ?_
  refine r_aload_n d_Mod_blind_10 rfl ?_
  refine r_virtI [] [.ref 153] d_Mod_blind_11 v_Mod_112 rfl rfl cn_153 rfl (t_Mod_all h) (fun r2 τ2 h => ?_)
  refine r_virtI [.int r2] [] d_Mod_blind_14 v_Mod_115 rfl rfl cn_153 rfl (t_Mod_isTrue h) (fun r3 τ3 h => ?_)
  refine r_if2 22 (¬ r3 = (nI 0)) d_Mod_blind_17 (by decide) rfl (fun c4 => ?_) (fun c4 => ?_)
  · have h := h.1 c4
    refine r_iconst (nI 0) d_Mod_blind_22 (by decide) ?_
    refine r_istore_n (vs' := [.ref 153, .int (nI 0), .null]) d_Mod_blind_23 rfl rfl ?_
    refine r_iconst (nI 0) d_Mod_blind_24 (by decide) ?_
    refine r_istore_n (vs' := [.ref 153, .int (nI 0), .int (nI 0)]) d_Mod_blind_25 rfl rfl ?_
    exact h
  · have h := h.2 c4
    refine r_iconst (nI 0) d_Mod_blind_20 (by decide) ?_
    exact r_iret d_Mod_blind_21 h
theorem l_Mod_blind_26 {d : Nat}  {x1 : Int32} {x2 : Int32}  {σ : am_S} {K : Int32 → am_S → Prop} (h : (w_Mod_readers  σ (fun r5 τ5 => (am_ite (r5 ≤ x2) (K x1 τ5) (w_Mod_all  τ5 (fun r7 τ7 => (w_Mod_isTrue (r7 &&& (((nI 1) <<< (x2 &&& 31)) ^^^ (-1))) τ7 (fun r8 τ8 => (am_ite (r8 = (nI 0)) (R_Mod_blind d K 26 [.ref 153, .int x1, .int (x2 + nI 1)] [] τ8) (R_Mod_blind d K 26 [.ref 153, .int (x1 ||| ((nI 1) <<< (x2 &&& 31))), .int (x2 + nI 1)] [] τ8)))))))))) : R_Mod_blind d K 26 [.ref 153, .int x1, .int x2] [] σ := by
  refine r_iload_n d_Mod_blind_26 rfl ?_
  refine r_aload_n d_Mod_blind_27 rfl ?_
  refine r_virtI [] [.int x2] d_Mod_blind_28 v_Mod_96 rfl rfl cn_153 rfl (t_Mod_readers h) (fun r5 τ5 h => ?_)
  refine r_icmp2 63 (r5 ≤ x2) d_Mod_blind_31 (by decide) rfl (fun c6 => ?_) (fun c6 => ?_)
  · have h := h.1 c6
    refine r_iload_n d_Mod_blind_63 rfl ?_
    exact r_iret d_Mod_blind_64 h
  · have h := h.2 c6
    refine r_aload_n d_Mod_blind_34 rfl ?_
    refine r_aload_n d_Mod_blind_35 rfl ?_
    refine r_virtI [] [.ref 153] d_Mod_blind_36 v_Mod_112 rfl rfl cn_153 rfl (t_Mod_all h) (fun r7 τ7 h => ?_)
    refine r_iconst (nI 1) d_Mod_blind_39 (by decide) ?_
    refine r_iload_n d_Mod_blind_40 rfl ?_
    refine r_ishl d_Mod_blind_41 ?_
    refine r_iconst (-1) d_Mod_blind_42 (by decide) ?_
    refine r_ixor d_Mod_blind_43 ?_
    refine r_iand d_Mod_blind_44 ?_
    refine r_virtI [.int (r7 &&& (((nI 1) <<< (x2 &&& 31)) ^^^ (-1)))] [] d_Mod_blind_45 v_Mod_115 rfl rfl cn_153 rfl (t_Mod_isTrue h) (fun r8 τ8 h => ?_)
    refine r_if2 57 (r8 = (nI 0)) d_Mod_blind_48 (by decide) rfl (fun c9 => ?_) (fun c9 => ?_)
    · have h := h.1 c9
      refine r_inc1 (vs' := [.ref 153, .int x1, .int (x2 + nI 1)]) d_Mod_blind_57 rfl rfl rfl ?_
      refine r_goto 26 d_Mod_blind_60 (by decide) ?_
      exact h
    · have h := h.2 c9
      refine r_iload_n d_Mod_blind_51 rfl ?_
      refine r_iconst (nI 1) d_Mod_blind_52 (by decide) ?_
      refine r_iload_n d_Mod_blind_53 rfl ?_
      refine r_ishl d_Mod_blind_54 ?_
      refine r_ior d_Mod_blind_55 ?_
      refine r_istore_n (vs' := [.ref 153, .int (x1 ||| ((nI 1) <<< (x2 &&& 31))), .int x2]) d_Mod_blind_56 rfl rfl ?_
      refine r_inc1 (vs' := [.ref 153, .int (x1 ||| ((nI 1) <<< (x2 &&& 31))), .int (x2 + nI 1)]) d_Mod_blind_57 rfl rfl rfl ?_
      refine r_goto 26 d_Mod_blind_60 (by decide) ?_
      exact h
