abbrev R_Search_layFound (d : Nat) (K : am_S → Prop) (pc : Nat) (vs st : List Value) (σ : am_S) : Prop := am_r (am_run (d + 2)) "WheelDisc$Search" none prog_9_method_13_code (am_Rv K) pc vs st σ
def w_Search_layFound  (σ : am_S) (K : am_S → Prop) : Prop := ∀ d : Nat, am_run (d + 3) y_Search_layFound [.ref 21, .ref 3] σ (am_Rv K)
theorem t_Search_layFound {d : Nat}   {σ : am_S} {K : am_S → Prop} (h : w_Search_layFound  σ K) : am_run (d + 3) y_Search_layFound [.ref 21, .ref 3] σ (am_Rv K) := h d
theorem e_Search_layFound   {σ : am_S} {K : am_S → Prop} (h : ∀ d : Nat, (w_Disc_empty (σ.1 21 0) σ (fun τ1 => (w_Disc_addDarkTrack  τ1 (fun r2 τ2 => R_Search_layFound d K 15 [.ref 21, .ref 3, .int (nI 0)] [] τ2))))) : w_Search_layFound  σ K := by
  intro d
  have h := h d
  refine am_begin (vs := [.ref 21, .ref 3, .null]) c_Search_layFound (by decide +kernel) rfl rfl rfl rfl ?_
  refine r_aload_n d_Search_layFound_0 rfl ?_
  refine r_aload_n d_Search_layFound_1 rfl ?_
  refine r_getI d_Search_layFound_2 f_Search_9 kd_21 rfl ?_
  refine r_virtV [.int (σ.1 21 0)] [] d_Search_layFound_5 v_Search_77 rfl rfl cn_3 rfl (t_Disc_empty h) (fun τ1 h => ?_)
  refine r_aload_n d_Search_layFound_8 rfl ?_
  refine r_virtI [] [] d_Search_layFound_9 v_Search_83 rfl rfl cn_3 rfl (t_Disc_addDarkTrack h) (fun r2 τ2 h => ?_)
  refine r_pop d_Search_layFound_12 rfl ?_
  refine r_iconst (nI 0) d_Search_layFound_13 (by decide) ?_
  refine r_istore_n (vs' := [.ref 21, .ref 3, .int (nI 0)]) d_Search_layFound_14 rfl rfl ?_
  exact h
theorem l_Search_layFound_15 {d : Nat}  {x2 : Int32}  {σ : am_S} {K : am_S → Prop} (h : (am_ite ((σ.1 21 0) ≤ x2) (R_Search_layFound d K 46 [.ref 21, .ref 3, .int (nI 0)] [] σ) (w_Search_lightOf (σ.1 21 6) x2 σ (fun r4 τ4 => (w_Disc_setLight (nI 0) x2 r4 τ4 (fun τ5 => R_Search_layFound d K 15 [.ref 21, .ref 3, .int (x2 + nI 1)] [] τ5)))))) : R_Search_layFound d K 15 [.ref 21, .ref 3, .int x2] [] σ := by
  refine r_iload_n d_Search_layFound_15 rfl ?_
  refine r_aload_n d_Search_layFound_16 rfl ?_
  refine r_getI d_Search_layFound_17 f_Search_9 kd_21 rfl ?_
  refine r_icmp2 44 ((σ.1 21 0) ≤ x2) d_Search_layFound_20 (by decide) rfl (fun c3 => ?_) (fun c3 => ?_)
  · have h := h.1 c3
    refine r_iconst (nI 0) d_Search_layFound_44 (by decide) ?_
    refine r_istore_n (vs' := [.ref 21, .ref 3, .int (nI 0)]) d_Search_layFound_45 rfl rfl ?_
    exact h
  · have h := h.2 c3
    refine r_aload_n d_Search_layFound_23 rfl ?_
    refine r_iconst (nI 0) d_Search_layFound_24 (by decide) ?_
    refine r_iload_n d_Search_layFound_25 rfl ?_
    refine r_aload_n d_Search_layFound_26 rfl ?_
    refine r_aload_n d_Search_layFound_27 rfl ?_
    refine r_getI d_Search_layFound_28 f_Search_30 kd_21 rfl ?_
    refine r_iload_n d_Search_layFound_31 rfl ?_
    refine r_virtI [.int (σ.1 21 6), .int x2] [.int x2, .int (nI 0), .ref 3] d_Search_layFound_32 v_Search_74 rfl rfl cn_21 rfl (t_Search_lightOf h) (fun r4 τ4 h => ?_)
    refine r_virtV [.int (nI 0), .int x2, .int r4] [] d_Search_layFound_35 v_Search_87 rfl rfl cn_3 rfl (t_Disc_setLight h) (fun τ5 h => ?_)
    refine r_inc1 (vs' := [.ref 21, .ref 3, .int (x2 + nI 1)]) d_Search_layFound_38 rfl rfl rfl ?_
    refine r_goto 15 d_Search_layFound_41 (by decide) ?_
    exact h
theorem l_Search_layFound_46 {d : Nat}  {x2 : Int32}  {σ : am_S} {K : am_S → Prop} (h : (am_ite ((σ.1 21 1) ≤ x2) (K σ) (w_Disc_addReader (nI 0) (x2 * (σ.1 21 2)) σ (fun r7 τ7 => R_Search_layFound d K 46 [.ref 21, .ref 3, .int (x2 + nI 1)] [] τ7)))) : R_Search_layFound d K 46 [.ref 21, .ref 3, .int x2] [] σ := by
  refine r_iload_n d_Search_layFound_46 rfl ?_
  refine r_aload_n d_Search_layFound_47 rfl ?_
  refine r_getI d_Search_layFound_48 f_Search_15 kd_21 rfl ?_
  refine r_icmp2 72 ((σ.1 21 1) ≤ x2) d_Search_layFound_51 (by decide) rfl (fun c6 => ?_) (fun c6 => ?_)
  · have h := h.1 c6
    exact r_vret d_Search_layFound_72 h
  · have h := h.2 c6
    refine r_aload_n d_Search_layFound_54 rfl ?_
    refine r_iconst (nI 0) d_Search_layFound_55 (by decide) ?_
    refine r_iload_n d_Search_layFound_56 rfl ?_
    refine r_aload_n d_Search_layFound_57 rfl ?_
    refine r_getI d_Search_layFound_58 f_Search_18 kd_21 rfl ?_
    refine r_imul d_Search_layFound_61 ?_
    refine r_virtI [.int (nI 0), .int (x2 * (σ.1 21 2))] [] d_Search_layFound_62 v_Search_91 rfl rfl cn_3 rfl (t_Disc_addReader h) (fun r7 τ7 h => ?_)
    refine r_pop d_Search_layFound_65 rfl ?_
    refine r_inc1 (vs' := [.ref 21, .ref 3, .int (x2 + nI 1)]) d_Search_layFound_66 rfl rfl rfl ?_
    refine r_goto 46 d_Search_layFound_69 (by decide) ?_
    exact h
def w_WD_searchOn (x1 : Int32) (σ : am_S) (K : Int32 → am_S → Prop) : Prop := (w_Search_advance x1 σ (fun r1 τ1 => (am_ite (¬ r1 = (nI 1)) (K r1 τ1) (w_WD_beginChange  τ1 (fun τ3 => (w_Search_layFound  τ3 (fun τ4 => K r1 τ4)))))))
theorem t_WD_searchOn {d : Nat} {x1 : Int32}  {σ : am_S} {K : Int32 → am_S → Prop} (h : w_WD_searchOn x1 σ K) : am_run (d + 5) y_WD_searchOn [.ref 0, .int x1] σ (am_Ri K) := by
  unfold w_WD_searchOn at h
  refine am_begin (vs := [.ref 0, .int x1, .null]) c_WD_searchOn (by decide +kernel) rfl rfl rfl rfl ?_
  refine r_aload_n d_WD_searchOn_0 rfl ?_
  refine r_getR d_WD_searchOn_1 f_WD_50 kd_0 rfl lk_0_6 ?_
  refine r_iload_n d_WD_searchOn_4 rfl ?_
  refine r_virtI [.int x1] [] d_WD_searchOn_5 v_WD_328 rfl rfl cn_21 rfl (t_Search_advance h) (fun r1 τ1 h => ?_)
  refine r_istore_n (vs' := [.ref 0, .int x1, .int r1]) d_WD_searchOn_8 rfl rfl ?_
  refine r_iload_n d_WD_searchOn_9 rfl ?_
  refine r_iconst (nI 1) d_WD_searchOn_10 (by decide) ?_
  refine r_icmp2 29 (¬ r1 = (nI 1)) d_WD_searchOn_11 (by decide) rfl (fun c2 => ?_) (fun c2 => ?_)
  · have h := h.1 c2
    refine r_iload_n d_WD_searchOn_29 rfl ?_
    exact r_iret d_WD_searchOn_30 h
  · have h := h.2 c2
    refine r_aload_n d_WD_searchOn_14 rfl ?_
    refine r_virtV [] [] d_WD_searchOn_15 v_WD_116 rfl rfl cn_0 rfl (t_WD_beginChange h) (fun τ3 h => ?_)
    refine r_aload_n d_WD_searchOn_18 rfl ?_
    refine r_getR d_WD_searchOn_19 f_WD_50 kd_0 rfl lk_0_6 ?_
    refine r_aload_n d_WD_searchOn_22 rfl ?_
    refine r_getR d_WD_searchOn_23 f_WD_19 kd_0 rfl lk_0_1 ?_
    refine r_virtV [.ref 3] [] d_WD_searchOn_26 v_WD_331 rfl rfl cn_21 rfl (t_Search_layFound h) (fun τ4 h => ?_)
    refine r_iload_n d_WD_searchOn_29 rfl ?_
    exact r_iret d_WD_searchOn_30 h
def w_WD_single (x1 : Int32) (x2 : Int32) (x3 : Int32) (σ : am_S) (K : Int32 → am_S → Prop) : Prop := (w_Search_fits x1 x2 σ (fun r1 τ1 => (am_ite (r1 = (nI 0)) (w_WD_refuse (nI 1) τ1 (fun r3 τ3 => K r3 τ3)) (w_Search_isStepCount x3 τ1 (fun r4 τ4 => (am_ite (¬ r4 = (nI 0)) (w_Search_affords x3 τ4 (fun r6 τ6 => (am_ite (¬ r6 = (nI 0)) (w_Search_begin x1 x2 τ6 (fun τ8 => (w_WD_searchOn x3 τ8 (fun r9 τ9 => (w_WD_accept r9 τ9 (fun r10 τ10 => K r10 τ10)))))) (w_WD_refuse (nI 4) τ6 (fun r11 τ11 => K r11 τ11))))) (w_WD_refuse (nI 1) τ4 (fun r12 τ12 => K r12 τ12))))))))
theorem t_WD_single {d : Nat} {x1 : Int32} {x2 : Int32} {x3 : Int32}  {σ : am_S} {K : Int32 → am_S → Prop} (h : w_WD_single x1 x2 x3 σ K) : am_run (d + 6) y_WD_single [.ref 0, .int x1, .int x2, .int x3] σ (am_Ri K) := by
  unfold w_WD_single at h
  refine am_begin (vs := [.ref 0, .int x1, .int x2, .int x3]) c_WD_single (by decide +kernel) rfl rfl rfl rfl ?_
  refine r_iload_n d_WD_single_0 rfl ?_
  refine r_iload_n d_WD_single_1 rfl ?_
  refine r_statI [.int x1, .int x2] [] d_WD_single_2 s_WD_258 rfl rfl rfl (t_Search_fits h) (fun r1 τ1 h => ?_)
  refine r_if2 15 (r1 = (nI 0)) d_WD_single_5 (by decide) rfl (fun c2 => ?_) (fun c2 => ?_)
  · have h := h.1 c2
    refine r_aload_n d_WD_single_15 rfl ?_
    refine r_iconst (nI 1) d_WD_single_16 (by decide) ?_
    refine r_virtI [.int (nI 1)] [] d_WD_single_17 v_WD_95 rfl rfl cn_0 rfl (t_WD_refuse h) (fun r3 τ3 h => ?_)
    exact r_iret d_WD_single_20 h
  · have h := h.2 c2
    refine r_iload_n d_WD_single_8 rfl ?_
    refine r_statI [.int x3] [] d_WD_single_9 s_WD_261 rfl rfl rfl (t_Search_isStepCount h) (fun r4 τ4 h => ?_)
    refine r_if2 21 (¬ r4 = (nI 0)) d_WD_single_12 (by decide) rfl (fun c5 => ?_) (fun c5 => ?_)
    · have h := h.1 c5
      refine r_aload_n d_WD_single_21 rfl ?_
      refine r_getR d_WD_single_22 f_WD_50 kd_0 rfl lk_0_6 ?_
      refine r_iload_n d_WD_single_25 rfl ?_
      refine r_virtI [.int x3] [] d_WD_single_26 v_WD_264 rfl rfl cn_21 rfl (t_Search_affords h) (fun r6 τ6 h => ?_)
      refine r_if2 38 (¬ r6 = (nI 0)) d_WD_single_29 (by decide) rfl (fun c7 => ?_) (fun c7 => ?_)
      · have h := h.1 c7
        refine r_aload_n d_WD_single_38 rfl ?_
        refine r_getR d_WD_single_39 f_WD_50 kd_0 rfl lk_0_6 ?_
        refine r_iload_n d_WD_single_42 rfl ?_
        refine r_iload_n d_WD_single_43 rfl ?_
        refine r_virtV [.int x1, .int x2] [] d_WD_single_44 v_WD_267 rfl rfl cn_21 rfl (t_Search_begin h) (fun τ8 h => ?_)
        refine r_aload_n d_WD_single_47 rfl ?_
        refine r_aload_n d_WD_single_48 rfl ?_
        refine r_iload_n d_WD_single_49 rfl ?_
        refine r_virtI [.int x3] [.ref 0] d_WD_single_50 v_WD_270 rfl rfl cn_0 rfl (t_WD_searchOn h) (fun r9 τ9 h => ?_)
        refine r_virtI [.int r9] [] d_WD_single_53 v_WD_91 rfl rfl cn_0 rfl (t_WD_accept h) (fun r10 τ10 h => ?_)
        exact r_iret d_WD_single_56 h
      · have h := h.2 c7
        refine r_aload_n d_WD_single_32 rfl ?_
        refine r_iconst (nI 4) d_WD_single_33 (by decide) ?_
        refine r_virtI [.int (nI 4)] [] d_WD_single_34 v_WD_95 rfl rfl cn_0 rfl (t_WD_refuse h) (fun r11 τ11 h => ?_)
        exact r_iret d_WD_single_37 h
    · have h := h.2 c5
      refine r_aload_n d_WD_single_15 rfl ?_
      refine r_iconst (nI 1) d_WD_single_16 (by decide) ?_
      refine r_virtI [.int (nI 1)] [] d_WD_single_17 v_WD_95 rfl rfl cn_0 rfl (t_WD_refuse h) (fun r12 τ12 h => ?_)
      exact r_iret d_WD_single_20 h
def w_WD_go (x1 : Int32) (σ : am_S) (K : Int32 → am_S → Prop) : Prop := (w_Search_isStepCount x1 σ (fun r1 τ1 => (am_ite (¬ r1 = (nI 0)) (am_ite (¬ (τ1.1 21 8) = (nI 0)) (w_Search_affords x1 τ1 (fun r4 τ4 => (am_ite (¬ r4 = (nI 0)) (w_WD_searchOn x1 τ4 (fun r6 τ6 => (w_WD_accept r6 τ6 (fun r7 τ7 => K r7 τ7)))) (w_WD_refuse (nI 4) τ4 (fun r8 τ8 => K r8 τ8))))) (w_WD_refuse (nI 2) τ1 (fun r9 τ9 => K r9 τ9))) (w_WD_refuse (nI 1) τ1 (fun r10 τ10 => K r10 τ10)))))
theorem t_WD_go {d : Nat} {x1 : Int32}  {σ : am_S} {K : Int32 → am_S → Prop} (h : w_WD_go x1 σ K) : am_run (d + 6) y_WD_go [.ref 0, .int x1] σ (am_Ri K) := by
  unfold w_WD_go at h
  refine am_begin (vs := [.ref 0, .int x1]) c_WD_go (by decide +kernel) rfl rfl rfl rfl ?_
  refine r_iload_n d_WD_go_0 rfl ?_
  refine r_statI [.int x1] [] d_WD_go_1 s_WD_261 rfl rfl rfl (t_Search_isStepCount h) (fun r1 τ1 h => ?_)
  refine r_if2 13 (¬ r1 = (nI 0)) d_WD_go_4 (by decide) rfl (fun c2 => ?_) (fun c2 => ?_)
  · have h := h.1 c2
    refine r_aload_n d_WD_go_13 rfl ?_
    refine r_getR d_WD_go_14 f_WD_50 kd_0 rfl lk_0_6 ?_
    refine r_getI d_WD_go_17 f_WD_273 kd_21 rfl ?_
    refine r_if2 29 (¬ (τ1.1 21 8) = (nI 0)) d_WD_go_20 (by decide) rfl (fun c3 => ?_) (fun c3 => ?_)
    · have h := h.1 c3
      refine r_aload_n d_WD_go_29 rfl ?_
      refine r_getR d_WD_go_30 f_WD_50 kd_0 rfl lk_0_6 ?_
      refine r_iload_n d_WD_go_33 rfl ?_
      refine r_virtI [.int x1] [] d_WD_go_34 v_WD_264 rfl rfl cn_21 rfl (t_Search_affords h) (fun r4 τ4 h => ?_)
      refine r_if2 46 (¬ r4 = (nI 0)) d_WD_go_37 (by decide) rfl (fun c5 => ?_) (fun c5 => ?_)
      · have h := h.1 c5
        refine r_aload_n d_WD_go_46 rfl ?_
        refine r_aload_n d_WD_go_47 rfl ?_
        refine r_iload_n d_WD_go_48 rfl ?_
        refine r_virtI [.int x1] [.ref 0] d_WD_go_49 v_WD_270 rfl rfl cn_0 rfl (t_WD_searchOn h) (fun r6 τ6 h => ?_)
        refine r_virtI [.int r6] [] d_WD_go_52 v_WD_91 rfl rfl cn_0 rfl (t_WD_accept h) (fun r7 τ7 h => ?_)
        exact r_iret d_WD_go_55 h
      · have h := h.2 c5
        refine r_aload_n d_WD_go_40 rfl ?_
        refine r_iconst (nI 4) d_WD_go_41 (by decide) ?_
        refine r_virtI [.int (nI 4)] [] d_WD_go_42 v_WD_95 rfl rfl cn_0 rfl (t_WD_refuse h) (fun r8 τ8 h => ?_)
        exact r_iret d_WD_go_45 h
    · have h := h.2 c3
      refine r_aload_n d_WD_go_23 rfl ?_
      refine r_iconst (nI 2) d_WD_go_24 (by decide) ?_
      refine r_virtI [.int (nI 2)] [] d_WD_go_25 v_WD_95 rfl rfl cn_0 rfl (t_WD_refuse h) (fun r9 τ9 h => ?_)
      exact r_iret d_WD_go_28 h
  · have h := h.2 c2
    refine r_aload_n d_WD_go_7 rfl ?_
    refine r_iconst (nI 1) d_WD_go_8 (by decide) ?_
    refine r_virtI [.int (nI 1)] [] d_WD_go_9 v_WD_95 rfl rfl cn_0 rfl (t_WD_refuse h) (fun r10 τ10 h => ?_)
    exact r_iret d_WD_go_12 h
def w_Drive_add (x1 : Int32) (σ : am_S) (K : am_S → Prop) : Prop := (vp_in (σ.1 22 5) 2000 ∧ K (am_upI (am_upI σ 23 (Int32.toNatClampNeg (σ.1 22 5)) x1) 22 5 ((σ.1 22 5) + (nI 1))))
theorem t_Drive_add {d : Nat} {x1 : Int32}  {σ : am_S} {K : am_S → Prop} (h : w_Drive_add x1 σ K) : am_run (d + 1) y_Drive_add [.ref 22, .int x1] σ (am_Rv K) := by
  unfold w_Drive_add at h
  refine am_begin (vs := [.ref 22, .int x1]) c_Drive_add (by decide +kernel) rfl rfl rfl rfl ?_
  refine r_aload_n d_Drive_add_0 rfl ?_
  refine r_getR d_Drive_add_1 f_Drive_11 kd_22 rfl lk_22_0 ?_
  refine r_aload_n d_Drive_add_4 rfl ?_
  refine r_getI d_Drive_add_5 f_Drive_28 kd_22 rfl ?_
  refine r_iload_n d_Drive_add_8 rfl ?_
  refine r_iast d_Drive_add_9 ce_23 ⟨h.1, ?_⟩
  have h := h.2
  refine r_aload_n d_Drive_add_10 rfl ?_
  refine r_dup d_Drive_add_11 rfl ?_
  refine r_getI d_Drive_add_12 f_Drive_28 kd_22 rfl ?_
  refine r_iconst (nI 1) d_Drive_add_15 (by decide) ?_
  refine r_iadd d_Drive_add_16 ?_
  refine r_putI d_Drive_add_17 f_Drive_28 kd_22 rfl ?_
  exact r_vret d_Drive_add_20 h
def w_WD_drive (x1 : Int32) (σ : am_S) (K : Int32 → am_S → Prop) : Prop := (am_ite ((σ.1 22 5) < (nI 2000)) (w_Drive_add x1 σ (fun τ2 => (w_WD_accept (τ2.1 22 5) τ2 (fun r3 τ3 => K r3 τ3)))) (w_WD_refuse (nI 4) σ (fun r4 τ4 => K r4 τ4)))
theorem t_WD_drive {d : Nat} {x1 : Int32}  {σ : am_S} {K : Int32 → am_S → Prop} (h : w_WD_drive x1 σ K) : am_run (d + 2) y_WD_drive [.ref 0, .int x1] σ (am_Ri K) := by
  unfold w_WD_drive at h
  refine am_begin (vs := [.ref 0, .int x1]) c_WD_drive (by decide +kernel) rfl rfl rfl rfl ?_
  refine r_aload_n d_WD_drive_0 rfl ?_
  refine r_getR d_WD_drive_1 f_WD_57 kd_0 rfl lk_0_7 ?_
  refine r_getI d_WD_drive_4 f_WD_195 kd_22 rfl ?_
  refine r_sipush (nI 2000) d_WD_drive_7 (by decide) ?_
  refine r_icmp2 19 ((σ.1 22 5) < (nI 2000)) d_WD_drive_10 (by decide) rfl (fun c1 => ?_) (fun c1 => ?_)
  · have h := h.1 c1
    refine r_aload_n d_WD_drive_19 rfl ?_
    refine r_getR d_WD_drive_20 f_WD_57 kd_0 rfl lk_0_7 ?_
    refine r_iload_n d_WD_drive_23 rfl ?_
    refine r_virtV [.int x1] [] d_WD_drive_24 v_WD_276 rfl rfl cn_22 rfl (t_Drive_add h) (fun τ2 h => ?_)
    refine r_aload_n d_WD_drive_27 rfl ?_
    refine r_aload_n d_WD_drive_28 rfl ?_
    refine r_getR d_WD_drive_29 f_WD_57 kd_0 rfl lk_0_7 ?_
    refine r_getI d_WD_drive_32 f_WD_195 kd_22 rfl ?_
    refine r_virtI [.int (τ2.1 22 5)] [] d_WD_drive_35 v_WD_91 rfl rfl cn_0 rfl (t_WD_accept h) (fun r3 τ3 h => ?_)
    exact r_iret d_WD_drive_38 h
  · have h := h.2 c1
    refine r_aload_n d_WD_drive_13 rfl ?_
    refine r_iconst (nI 4) d_WD_drive_14 (by decide) ?_
    refine r_virtI [.int (nI 4)] [] d_WD_drive_15 v_WD_95 rfl rfl cn_0 rfl (t_WD_refuse h) (fun r4 τ4 h => ?_)
    exact r_iret d_WD_drive_18 h
def w_Drive_empty  (σ : am_S) (K : am_S → Prop) : Prop := (w_Drive_unfollow  (am_upI σ 22 5 (nI 0)) (fun τ1 => K τ1))
theorem t_Drive_empty {d : Nat}   {σ : am_S} {K : am_S → Prop} (h : w_Drive_empty  σ K) : am_run (d + 2) y_Drive_empty [.ref 22] σ (am_Rv K) := by
  unfold w_Drive_empty at h
  refine am_begin (vs := [.ref 22]) c_Drive_empty (by decide +kernel) rfl rfl rfl rfl ?_
  refine r_aload_n d_Drive_empty_0 rfl ?_
  refine r_iconst (nI 0) d_Drive_empty_1 (by decide) ?_
  refine r_putI d_Drive_empty_2 f_Drive_28 kd_22 rfl ?_
  refine r_aload_n d_Drive_empty_5 rfl ?_
  refine r_virtV [] [] d_Drive_empty_6 v_Drive_38 rfl rfl cn_22 rfl (t_Drive_unfollow h) (fun τ1 h => ?_)
  exact r_vret d_Drive_empty_9 h
def w_WD_halt  (σ : am_S) (K : Int32 → am_S → Prop) : Prop := (w_Drive_empty  σ (fun τ1 => (w_WD_accept (σ.1 22 5) τ1 (fun r2 τ2 => K r2 τ2))))
theorem t_WD_halt {d : Nat}   {σ : am_S} {K : Int32 → am_S → Prop} (h : w_WD_halt  σ K) : am_run (d + 3) y_WD_halt [.ref 0] σ (am_Ri K) := by
  unfold w_WD_halt at h
  refine am_begin (vs := [.ref 0, .null]) c_WD_halt (by decide +kernel) rfl rfl rfl rfl ?_
  refine r_aload_n d_WD_halt_0 rfl ?_
  refine r_getR d_WD_halt_1 f_WD_57 kd_0 rfl lk_0_7 ?_
  refine r_getI d_WD_halt_4 f_WD_195 kd_22 rfl ?_
  refine r_istore_n (vs' := [.ref 0, .int (σ.1 22 5)]) d_WD_halt_7 rfl rfl ?_
  refine r_aload_n d_WD_halt_8 rfl ?_
  refine r_getR d_WD_halt_9 f_WD_57 kd_0 rfl lk_0_7 ?_
  refine r_virtV [] [] d_WD_halt_12 v_WD_279 rfl rfl cn_22 rfl (t_Drive_empty h) (fun τ1 h => ?_)
  refine r_aload_n d_WD_halt_15 rfl ?_
  refine r_iload_n d_WD_halt_16 rfl ?_
  refine r_virtI [.int (σ.1 22 5)] [] d_WD_halt_17 v_WD_91 rfl rfl cn_0 rfl (t_WD_accept h) (fun r2 τ2 h => ?_)
  exact r_iret d_WD_halt_20 h
abbrev R_Drive_takeNext (d : Nat) (K : am_S → Prop) (pc : Nat) (vs st : List Value) (σ : am_S) : Prop := am_r (am_run (d + 0)) "WheelDisc$Drive" none prog_3_method_8_code (am_Rv K) pc vs st σ
def w_Drive_takeNext (x1 : Int32) (σ : am_S) (K : am_S → Prop) : Prop := ∀ d : Nat, am_run (d + 1) y_Drive_takeNext [.ref 22, .int x1] σ (am_Rv K)
theorem t_Drive_takeNext {d : Nat} {x1 : Int32}  {σ : am_S} {K : am_S → Prop} (h : w_Drive_takeNext x1 σ K) : am_run (d + 1) y_Drive_takeNext [.ref 22, .int x1] σ (am_Rv K) := h d
theorem e_Drive_takeNext {x1 : Int32}  {σ : am_S} {K : am_S → Prop} (h : ∀ d : Nat, R_Drive_takeNext d K 2 [.ref 22, .int x1, .int (nI 0)] [] σ) : w_Drive_takeNext x1 σ K := by
  intro d
  have h := h d
  refine am_begin (vs := [.ref 22, .int x1, .null]) c_Drive_takeNext (by decide +kernel) rfl rfl rfl rfl ?_
  refine r_iconst (nI 0) d_Drive_takeNext_0 (by decide) ?_
  refine r_istore_n (vs' := [.ref 22, .int x1, .int (nI 0)]) d_Drive_takeNext_1 rfl rfl ?_
  exact h
theorem l_Drive_takeNext_2 {d : Nat}  {x1 : Int32} {x2 : Int32}  {σ : am_S} {K : am_S → Prop} (h : (am_ite (x1 ≤ x2) (K σ) (vp_in x2 512 ∧ (vp_in x2 512 ∧ ((σ.1 27 (Int32.toNatClampNeg x2)) = nI 0 ∨ (σ.1 27 (Int32.toNatClampNeg x2)) = nI 1) ∧ R_Drive_takeNext d K 2 [.ref 22, .int x1, .int (x2 + nI 1)] [] (am_upI σ 26 (Int32.toNatClampNeg x2) (σ.1 27 (Int32.toNatClampNeg x2))))))) : R_Drive_takeNext d K 2 [.ref 22, .int x1, .int x2] [] σ := by
  refine r_iload_n d_Drive_takeNext_2 rfl ?_
  refine r_iload_n d_Drive_takeNext_3 rfl ?_
  refine r_icmp2 25 (x1 ≤ x2) d_Drive_takeNext_4 (by decide) rfl (fun c1 => ?_) (fun c1 => ?_)
  · have h := h.1 c1
    exact r_vret d_Drive_takeNext_25 h
  · have h := h.2 c1
    refine r_aload_n d_Drive_takeNext_7 rfl ?_
    refine r_getR d_Drive_takeNext_8 f_Drive_21 kd_22 rfl lk_22_3 ?_
    refine r_iload_n d_Drive_takeNext_11 rfl ?_
    refine r_aload_n d_Drive_takeNext_12 rfl ?_
    refine r_getR d_Drive_takeNext_13 f_Drive_25 kd_22 rfl lk_22_4 ?_
    refine r_iload_n d_Drive_takeNext_16 rfl ?_
    refine r_zald d_Drive_takeNext_17 ce_27 ⟨h.1, ?_⟩
    have h := h.2
    refine r_zast d_Drive_takeNext_18 ce_26 ⟨h.1, h.2.1, ?_⟩
    have h := h.2.2
    refine r_inc1 (vs' := [.ref 22, .int x1, .int (x2 + nI 1)]) d_Drive_takeNext_19 rfl rfl rfl ?_
    refine r_goto 2 d_Drive_takeNext_22 (by decide) ?_
    exact h
def w_Drive_isNearReached (x1 : Int32) (x2 : Int32) (σ : am_S) (K : Int32 → am_S → Prop) : Prop := (vp_in x1 512 ∧ (am_ite (¬ (σ.1 26 (Int32.toNatClampNeg x1)) = (nI 0)) (K (nI 1) σ) (w_WD_stepRound x1 (-1) x2 σ (fun r2 τ2 => (vp_in r2 512 ∧ (am_ite (¬ (τ2.1 26 (Int32.toNatClampNeg r2)) = (nI 0)) (K (nI 1) τ2) (w_WD_stepRound x1 (nI 1) x2 τ2 (fun r4 τ4 => (vp_in r4 512 ∧ (am_ite ((τ4.1 26 (Int32.toNatClampNeg r4)) = (nI 0)) (K (nI 0) τ4) (K (nI 1) τ4)))))))))))
theorem t_Drive_isNearReached {d : Nat} {x1 : Int32} {x2 : Int32}  {σ : am_S} {K : Int32 → am_S → Prop} (h : w_Drive_isNearReached x1 x2 σ K) : am_run (d + 2) y_Drive_isNearReached [.ref 22, .int x1, .int x2] σ (am_Ri K) := by
  unfold w_Drive_isNearReached at h
  refine am_begin (vs := [.ref 22, .int x1, .int x2]) c_Drive_isNearReached (by decide +kernel) rfl rfl rfl rfl ?_
  refine r_aload_n d_Drive_isNearReached_0 rfl ?_
  refine r_getR d_Drive_isNearReached_1 f_Drive_21 kd_22 rfl lk_22_3 ?_
  refine r_iload_n d_Drive_isNearReached_4 rfl ?_
  refine r_zald d_Drive_isNearReached_5 ce_26 ⟨h.1, ?_⟩
  have h := h.2
  refine r_if2 37 (¬ (σ.1 26 (Int32.toNatClampNeg x1)) = (nI 0)) d_Drive_isNearReached_6 (by decide) rfl (fun c1 => ?_) (fun c1 => ?_)
  · have h := h.1 c1
    refine r_iconst (nI 1) d_Drive_isNearReached_37 (by decide) ?_
    refine r_goto 42 d_Drive_isNearReached_38 (by decide) ?_
    exact r_zret1 d_Drive_isNearReached_42 h
  · have h := h.2 c1
    refine r_aload_n d_Drive_isNearReached_9 rfl ?_
    refine r_getR d_Drive_isNearReached_10 f_Drive_21 kd_22 rfl lk_22_3 ?_
    refine r_iload_n d_Drive_isNearReached_13 rfl ?_
    refine r_iconst (-1) d_Drive_isNearReached_14 (by decide) ?_
    refine r_iload_n d_Drive_isNearReached_15 rfl ?_
    refine r_statI [.int x1, .int (-1), .int x2] [.ref 26] d_Drive_isNearReached_16 s_Drive_59 rfl rfl rfl (t_WD_stepRound h) (fun r2 τ2 h => ?_)
    refine r_zald d_Drive_isNearReached_19 ce_26 ⟨h.1, ?_⟩
    have h := h.2
    refine r_if2 37 (¬ (τ2.1 26 (Int32.toNatClampNeg r2)) = (nI 0)) d_Drive_isNearReached_20 (by decide) rfl (fun c3 => ?_) (fun c3 => ?_)
    · have h := h.1 c3
      refine r_iconst (nI 1) d_Drive_isNearReached_37 (by decide) ?_
      refine r_goto 42 d_Drive_isNearReached_38 (by decide) ?_
      exact r_zret1 d_Drive_isNearReached_42 h
    · have h := h.2 c3
      refine r_aload_n d_Drive_isNearReached_23 rfl ?_
      refine r_getR d_Drive_isNearReached_24 f_Drive_21 kd_22 rfl lk_22_3 ?_
      refine r_iload_n d_Drive_isNearReached_27 rfl ?_
      refine r_iconst (nI 1) d_Drive_isNearReached_28 (by decide) ?_
      refine r_iload_n d_Drive_isNearReached_29 rfl ?_
      refine r_statI [.int x1, .int (nI 1), .int x2] [.ref 26] d_Drive_isNearReached_30 s_Drive_59 rfl rfl rfl (t_WD_stepRound h) (fun r4 τ4 h => ?_)
      refine r_zald d_Drive_isNearReached_33 ce_26 ⟨h.1, ?_⟩
      have h := h.2
      refine r_if2 41 ((τ4.1 26 (Int32.toNatClampNeg r4)) = (nI 0)) d_Drive_isNearReached_34 (by decide) rfl (fun c5 => ?_) (fun c5 => ?_)
      · have h := h.1 c5
        refine r_iconst (nI 0) d_Drive_isNearReached_41 (by decide) ?_
        exact r_zret0 d_Drive_isNearReached_42 h
      · have h := h.2 c5
        refine r_iconst (nI 1) d_Drive_isNearReached_37 (by decide) ?_
        refine r_goto 42 d_Drive_isNearReached_38 (by decide) ?_
        exact r_zret1 d_Drive_isNearReached_42 h
abbrev R_Drive_followWord (d : Nat) (K : am_S → Prop) (pc : Nat) (vs st : List Value) (σ : am_S) : Prop := am_r (am_run (d + 2)) "WheelDisc$Drive" none prog_3_method_7_code (am_Rv K) pc vs st σ
def w_Drive_followWord (x2 : Int32) (σ : am_S) (K : am_S → Prop) : Prop := ∀ d : Nat, am_run (d + 3) y_Drive_followWord [.ref 22, .ref 9, .int x2] σ (am_Rv K)
theorem t_Drive_followWord {d : Nat} {x2 : Int32}  {σ : am_S} {K : am_S → Prop} (h : w_Drive_followWord x2 σ K) : am_run (d + 3) y_Drive_followWord [.ref 22, .ref 9, .int x2] σ (am_Rv K) := h d
theorem e_Drive_followWord {x2 : Int32}  {σ : am_S} {K : am_S → Prop} (h : ∀ d : Nat, R_Drive_followWord d K 8 [.ref 22, .ref 9, .int x2, .int (nI 0), .int (-1), .int (nI 0), .null] [] σ) : w_Drive_followWord x2 σ K := by
  intro d
  have h := h d
  refine am_begin (vs := [.ref 22, .ref 9, .int x2, .null, .null, .null, .null]) c_Drive_followWord (by decide +kernel) rfl rfl rfl rfl ?_
  refine r_iconst (nI 0) d_Drive_followWord_0 (by decide) ?_
  refine r_istore_n (vs' := [.ref 22, .ref 9, .int x2, .int (nI 0), .null, .null, .null]) d_Drive_followWord_1 rfl rfl ?_
  refine r_iconst (-1) d_Drive_followWord_2 (by decide) ?_
  refine r_istore (vs' := [.ref 22, .ref 9, .int x2, .int (nI 0), .int (-1), .null, .null]) d_Drive_followWord_3 rfl rfl ?_
  refine r_iconst (nI 0) d_Drive_followWord_5 (by decide) ?_
  refine r_istore (vs' := [.ref 22, .ref 9, .int x2, .int (nI 0), .int (-1), .int (nI 0), .null]) d_Drive_followWord_6 rfl rfl ?_
  exact h
theorem l_Drive_followWord_8 {d : Nat}  {x2 : Int32} {x3 : Int32} {x4 : Int32} {x5 : Int32}  {σ : am_S} {K : am_S → Prop} (h : (am_ite ((σ.1 9 2) ≤ x5) (w_Drive_takeNext (σ.1 9 2) σ (fun τ2 => (vp_in x2 2000 ∧ (vp_in x2 2000 ∧ (am_ite (¬ x3 = (nI 0)) (K (am_upI (am_upI τ2 24 (Int32.toNatClampNeg x2) x3) 25 (Int32.toNatClampNeg x2) x4)) (am_ite (¬ (τ2.1 22 7) = (-1)) (K (am_upI (am_upI τ2 24 (Int32.toNatClampNeg x2) x3) 25 (Int32.toNatClampNeg x2) x4)) (K (am_upI (am_upI (am_upI τ2 24 (Int32.toNatClampNeg x2) x3) 25 (Int32.toNatClampNeg x2) x4) 22 7 x2)))))))) (vp_in x5 512 ∧ (vp_in x2 2000 ∧ (am_ite (¬ (σ.1 10 (Int32.toNatClampNeg x5)) = (σ.1 23 (Int32.toNatClampNeg x2))) (vp_in x5 512 ∧ R_Drive_followWord d K 8 [.ref 22, .ref 9, .int x2, .int x3, .int x4, .int (x5 + nI 1), .null] [] (am_upI σ 27 (Int32.toNatClampNeg x5) (nI 0))) (am_ite (x2 = (nI 0)) (vp_in x5 512 ∧ (am_ite (¬ x4 = (-1)) (R_Drive_followWord d K 8 [.ref 22, .ref 9, .int x2, .int (x3 + nI 1), .int x4, .int (x5 + nI 1), .null] [] (am_upI σ 27 (Int32.toNatClampNeg x5) (nI 1))) (R_Drive_followWord d K 8 [.ref 22, .ref 9, .int x2, .int (x3 + nI 1), .int x5, .int (x5 + nI 1), .null] [] (am_upI σ 27 (Int32.toNatClampNeg x5) (nI 1))))) (w_Drive_isNearReached x5 (σ.1 9 2) σ (fun r10 τ10 => (am_ite (r10 = (nI 0)) (vp_in x5 512 ∧ R_Drive_followWord d K 8 [.ref 22, .ref 9, .int x2, .int x3, .int x4, .int (x5 + nI 1), .null] [] (am_upI τ10 27 (Int32.toNatClampNeg x5) (nI 0))) (vp_in x5 512 ∧ (am_ite (¬ x4 = (-1)) (R_Drive_followWord d K 8 [.ref 22, .ref 9, .int x2, .int (x3 + nI 1), .int x4, .int (x5 + nI 1), .null] [] (am_upI τ10 27 (Int32.toNatClampNeg x5) (nI 1))) (R_Drive_followWord d K 8 [.ref 22, .ref 9, .int x2, .int (x3 + nI 1), .int x5, .int (x5 + nI 1), .null] [] (am_upI τ10 27 (Int32.toNatClampNeg x5) (nI 1)))))))))))))) : R_Drive_followWord d K 8 [.ref 22, .ref 9, .int x2, .int x3, .int x4, .int x5, .null] [] σ := by
  refine r_iload d_Drive_followWord_8 rfl ?_
  refine r_aload_n d_Drive_followWord_10 rfl ?_
  refine r_getI d_Drive_followWord_11 f_Drive_45 kd_9 rfl ?_
  refine r_icmp2 95 ((σ.1 9 2) ≤ x5) d_Drive_followWord_14 (by decide) rfl (fun c1 => ?_) (fun c1 => ?_)
  · have h := h.1 c1
    refine r_aload_n d_Drive_followWord_95 rfl ?_
    refine r_aload_n d_Drive_followWord_96 rfl ?_
    refine r_getI d_Drive_followWord_97 f_Drive_45 kd_9 rfl ?_
    refine r_virtV [.int (σ.1 9 2)] [] d_Drive_followWord_100 v_Drive_55 rfl rfl cn_22 rfl (t_Drive_takeNext h) (fun τ2 h => ?_)
    refine r_aload_n d_Drive_followWord_103 rfl ?_
    refine r_getR d_Drive_followWord_104 f_Drive_15 kd_22 rfl lk_22_1 ?_
    refine r_iload_n d_Drive_followWord_107 rfl ?_
    refine r_iload_n d_Drive_followWord_108 rfl ?_
    refine r_iast d_Drive_followWord_109 ce_24 ⟨h.1, ?_⟩
    have h := h.2
    refine r_aload_n d_Drive_followWord_110 rfl ?_
    refine r_getR d_Drive_followWord_111 f_Drive_18 kd_22 rfl lk_22_2 ?_
    refine r_iload_n d_Drive_followWord_114 rfl ?_
    refine r_iload d_Drive_followWord_115 rfl ?_
    refine r_iast d_Drive_followWord_117 ce_25 ⟨h.1, ?_⟩
    have h := h.2
    refine r_iload_n d_Drive_followWord_118 rfl ?_
    refine r_if2 135 (¬ x3 = (nI 0)) d_Drive_followWord_119 (by decide) rfl (fun c3 => ?_) (fun c3 => ?_)
    · have h := h.1 c3
      exact r_vret d_Drive_followWord_135 h
    · have h := h.2 c3
      refine r_aload_n d_Drive_followWord_122 rfl ?_
      refine r_getI d_Drive_followWord_123 f_Drive_35 kd_22 rfl ?_
      refine r_iconst (-1) d_Drive_followWord_126 (by decide) ?_
      refine r_icmp2 135 (¬ (τ2.1 22 7) = (-1)) d_Drive_followWord_127 (by decide) rfl (fun c4 => ?_) (fun c4 => ?_)
      · have h := h.1 c4
        exact r_vret d_Drive_followWord_135 h
      · have h := h.2 c4
        refine r_aload_n d_Drive_followWord_130 rfl ?_
        refine r_iload_n d_Drive_followWord_131 rfl ?_
        refine r_putI d_Drive_followWord_132 f_Drive_35 kd_22 rfl ?_
        exact r_vret d_Drive_followWord_135 h
  · have h := h.2 c1
    refine r_aload_n d_Drive_followWord_17 rfl ?_
    refine r_getR d_Drive_followWord_18 f_Drive_50 kd_9 rfl lk_9_0 ?_
    refine r_iload d_Drive_followWord_21 rfl ?_
    refine r_iald d_Drive_followWord_23 ce_10 ⟨h.1, ?_⟩
    have h := h.2
    refine r_aload_n d_Drive_followWord_24 rfl ?_
    refine r_getR d_Drive_followWord_25 f_Drive_11 kd_22 rfl lk_22_0 ?_
    refine r_iload_n d_Drive_followWord_28 rfl ?_
    refine r_iald d_Drive_followWord_29 ce_23 ⟨h.1, ?_⟩
    have h := h.2
    refine r_icmp2 54 (¬ (σ.1 10 (Int32.toNatClampNeg x5)) = (σ.1 23 (Int32.toNatClampNeg x2))) d_Drive_followWord_30 (by decide) rfl (fun c5 => ?_) (fun c5 => ?_)
    · have h := h.1 c5
      refine r_iconst (nI 0) d_Drive_followWord_54 (by decide) ?_
      refine r_istore (vs' := [.ref 22, .ref 9, .int x2, .int x3, .int x4, .int x5, .int (nI 0)]) d_Drive_followWord_55 rfl rfl ?_
      refine r_aload_n d_Drive_followWord_57 rfl ?_
      refine r_getR d_Drive_followWord_58 f_Drive_25 kd_22 rfl lk_22_4 ?_
      refine r_iload d_Drive_followWord_61 rfl ?_
      refine r_iload d_Drive_followWord_63 rfl ?_
      refine r_zast d_Drive_followWord_65 ce_27 ⟨h.1, Or.inl rfl, ?_⟩
      have h := h.2
      refine r_iload d_Drive_followWord_66 rfl ?_
      refine r_if2 89 ((nI 0) = (nI 0)) d_Drive_followWord_68 (by decide) rfl (fun _ => ?_) (fun c => absurd (by decide) c)
      refine r_inc1 (vs' := [.ref 22, .ref 9, .int x2, .int x3, .int x4, .int (x5 + nI 1), .int (nI 0)]) d_Drive_followWord_89 rfl rfl rfl ?_
      refine r_goto 8 d_Drive_followWord_92 (by decide) ?_
      exact am_weak (vs := [.ref 22, .ref 9, .int x2, .int x3, .int x4, .int (x5 + nI 1), .null]) ⟨Or.inl rfl, Or.inl rfl, Or.inl rfl, Or.inl rfl, Or.inl rfl, Or.inl rfl, Or.inr ⟨rfl, rfl⟩, trivial⟩ h
    · have h := h.2 c5
      refine r_iload_n d_Drive_followWord_33 rfl ?_
      refine r_if2 50 (x2 = (nI 0)) d_Drive_followWord_34 (by decide) rfl (fun c7 => ?_) (fun c7 => ?_)
      · have h := h.1 c7
        refine r_iconst (nI 1) d_Drive_followWord_50 (by decide) ?_
        refine r_goto 55 d_Drive_followWord_51 (by decide) ?_
        refine r_istore (vs' := [.ref 22, .ref 9, .int x2, .int x3, .int x4, .int x5, .int (nI 1)]) d_Drive_followWord_55 rfl rfl ?_
        refine r_aload_n d_Drive_followWord_57 rfl ?_
        refine r_getR d_Drive_followWord_58 f_Drive_25 kd_22 rfl lk_22_4 ?_
        refine r_iload d_Drive_followWord_61 rfl ?_
        refine r_iload d_Drive_followWord_63 rfl ?_
        refine r_zast d_Drive_followWord_65 ce_27 ⟨h.1, Or.inr rfl, ?_⟩
        have h := h.2
        refine r_iload d_Drive_followWord_66 rfl ?_
        refine r_if2 89 ((nI 1) = (nI 0)) d_Drive_followWord_68 (by decide) rfl (fun c => absurd c (by decide)) (fun _ => ?_)
        refine r_inc1 (vs' := [.ref 22, .ref 9, .int x2, .int (x3 + nI 1), .int x4, .int x5, .int (nI 1)]) d_Drive_followWord_71 rfl rfl rfl ?_
        refine r_iload d_Drive_followWord_74 rfl ?_
        refine r_iconst (-1) d_Drive_followWord_76 (by decide) ?_
        refine r_icmp2 85 (¬ x4 = (-1)) d_Drive_followWord_77 (by decide) rfl (fun c9 => ?_) (fun c9 => ?_)
        · have h := h.1 c9
          refine r_iload d_Drive_followWord_85 rfl ?_
          refine r_istore (vs' := [.ref 22, .ref 9, .int x2, .int (x3 + nI 1), .int x4, .int x5, .int (nI 1)]) d_Drive_followWord_87 rfl rfl ?_
          refine r_inc1 (vs' := [.ref 22, .ref 9, .int x2, .int (x3 + nI 1), .int x4, .int (x5 + nI 1), .int (nI 1)]) d_Drive_followWord_89 rfl rfl rfl ?_
          refine r_goto 8 d_Drive_followWord_92 (by decide) ?_
          exact am_weak (vs := [.ref 22, .ref 9, .int x2, .int (x3 + nI 1), .int x4, .int (x5 + nI 1), .null]) ⟨Or.inl rfl, Or.inl rfl, Or.inl rfl, Or.inl rfl, Or.inl rfl, Or.inl rfl, Or.inr ⟨rfl, rfl⟩, trivial⟩ h
        · have h := h.2 c9
          refine r_iload d_Drive_followWord_80 rfl ?_
          refine r_goto 87 d_Drive_followWord_82 (by decide) ?_
          refine r_istore (vs' := [.ref 22, .ref 9, .int x2, .int (x3 + nI 1), .int x5, .int x5, .int (nI 1)]) d_Drive_followWord_87 rfl rfl ?_
          refine r_inc1 (vs' := [.ref 22, .ref 9, .int x2, .int (x3 + nI 1), .int x5, .int (x5 + nI 1), .int (nI 1)]) d_Drive_followWord_89 rfl rfl rfl ?_
          refine r_goto 8 d_Drive_followWord_92 (by decide) ?_
          exact am_weak (vs := [.ref 22, .ref 9, .int x2, .int (x3 + nI 1), .int x5, .int (x5 + nI 1), .null]) ⟨Or.inl rfl, Or.inl rfl, Or.inl rfl, Or.inl rfl, Or.inl rfl, Or.inl rfl, Or.inr ⟨rfl, rfl⟩, trivial⟩ h
      · have h := h.2 c7
        refine r_aload_n d_Drive_followWord_37 rfl ?_
        refine r_iload d_Drive_followWord_38 rfl ?_
        refine r_aload_n d_Drive_followWord_40 rfl ?_
        refine r_getI d_Drive_followWord_41 f_Drive_45 kd_9 rfl ?_
        refine r_virtI [.int x5, .int (σ.1 9 2)] [] d_Drive_followWord_44 v_Drive_51 rfl rfl cn_22 rfl (t_Drive_isNearReached h) (fun r10 τ10 h => ?_)
        refine r_if2 54 (r10 = (nI 0)) d_Drive_followWord_47 (by decide) rfl (fun c11 => ?_) (fun c11 => ?_)
        · have h := h.1 c11
          refine r_iconst (nI 0) d_Drive_followWord_54 (by decide) ?_
          refine r_istore (vs' := [.ref 22, .ref 9, .int x2, .int x3, .int x4, .int x5, .int (nI 0)]) d_Drive_followWord_55 rfl rfl ?_
          refine r_aload_n d_Drive_followWord_57 rfl ?_
          refine r_getR d_Drive_followWord_58 f_Drive_25 kd_22 rfl lk_22_4 ?_
          refine r_iload d_Drive_followWord_61 rfl ?_
          refine r_iload d_Drive_followWord_63 rfl ?_
          refine r_zast d_Drive_followWord_65 ce_27 ⟨h.1, Or.inl rfl, ?_⟩
          have h := h.2
          refine r_iload d_Drive_followWord_66 rfl ?_
          refine r_if2 89 ((nI 0) = (nI 0)) d_Drive_followWord_68 (by decide) rfl (fun _ => ?_) (fun c => absurd (by decide) c)
          refine r_inc1 (vs' := [.ref 22, .ref 9, .int x2, .int x3, .int x4, .int (x5 + nI 1), .int (nI 0)]) d_Drive_followWord_89 rfl rfl rfl ?_
          refine r_goto 8 d_Drive_followWord_92 (by decide) ?_
          exact am_weak (vs := [.ref 22, .ref 9, .int x2, .int x3, .int x4, .int (x5 + nI 1), .null]) ⟨Or.inl rfl, Or.inl rfl, Or.inl rfl, Or.inl rfl, Or.inl rfl, Or.inl rfl, Or.inr ⟨rfl, rfl⟩, trivial⟩ h
        · have h := h.2 c11
          refine r_iconst (nI 1) d_Drive_followWord_50 (by decide) ?_
          refine r_goto 55 d_Drive_followWord_51 (by decide) ?_
          refine r_istore (vs' := [.ref 22, .ref 9, .int x2, .int x3, .int x4, .int x5, .int (nI 1)]) d_Drive_followWord_55 rfl rfl ?_
          refine r_aload_n d_Drive_followWord_57 rfl ?_
          refine r_getR d_Drive_followWord_58 f_Drive_25 kd_22 rfl lk_22_4 ?_
          refine r_iload d_Drive_followWord_61 rfl ?_
          refine r_iload d_Drive_followWord_63 rfl ?_
          refine r_zast d_Drive_followWord_65 ce_27 ⟨h.1, Or.inr rfl, ?_⟩
          have h := h.2
          refine r_iload d_Drive_followWord_66 rfl ?_
          refine r_if2 89 ((nI 1) = (nI 0)) d_Drive_followWord_68 (by decide) rfl (fun c => absurd c (by decide)) (fun _ => ?_)
          refine r_inc1 (vs' := [.ref 22, .ref 9, .int x2, .int (x3 + nI 1), .int x4, .int x5, .int (nI 1)]) d_Drive_followWord_71 rfl rfl rfl ?_
          refine r_iload d_Drive_followWord_74 rfl ?_
          refine r_iconst (-1) d_Drive_followWord_76 (by decide) ?_
          refine r_icmp2 85 (¬ x4 = (-1)) d_Drive_followWord_77 (by decide) rfl (fun c14 => ?_) (fun c14 => ?_)
          · have h := h.1 c14
            refine r_iload d_Drive_followWord_85 rfl ?_
            refine r_istore (vs' := [.ref 22, .ref 9, .int x2, .int (x3 + nI 1), .int x4, .int x5, .int (nI 1)]) d_Drive_followWord_87 rfl rfl ?_
            refine r_inc1 (vs' := [.ref 22, .ref 9, .int x2, .int (x3 + nI 1), .int x4, .int (x5 + nI 1), .int (nI 1)]) d_Drive_followWord_89 rfl rfl rfl ?_
            refine r_goto 8 d_Drive_followWord_92 (by decide) ?_
            exact am_weak (vs := [.ref 22, .ref 9, .int x2, .int (x3 + nI 1), .int x4, .int (x5 + nI 1), .null]) ⟨Or.inl rfl, Or.inl rfl, Or.inl rfl, Or.inl rfl, Or.inl rfl, Or.inl rfl, Or.inr ⟨rfl, rfl⟩, trivial⟩ h
          · have h := h.2 c14
            refine r_iload d_Drive_followWord_80 rfl ?_
            refine r_goto 87 d_Drive_followWord_82 (by decide) ?_
            refine r_istore (vs' := [.ref 22, .ref 9, .int x2, .int (x3 + nI 1), .int x5, .int x5, .int (nI 1)]) d_Drive_followWord_87 rfl rfl ?_
            refine r_inc1 (vs' := [.ref 22, .ref 9, .int x2, .int (x3 + nI 1), .int x5, .int (x5 + nI 1), .int (nI 1)]) d_Drive_followWord_89 rfl rfl rfl ?_
            refine r_goto 8 d_Drive_followWord_92 (by decide) ?_
            exact am_weak (vs := [.ref 22, .ref 9, .int x2, .int (x3 + nI 1), .int x5, .int (x5 + nI 1), .null]) ⟨Or.inl rfl, Or.inl rfl, Or.inl rfl, Or.inl rfl, Or.inl rfl, Or.inl rfl, Or.inr ⟨rfl, rfl⟩, trivial⟩ h
abbrev R_Drive_follow (d : Nat) (K : am_S → Prop) (pc : Nat) (vs st : List Value) (σ : am_S) : Prop := am_r (am_run (d + 3)) "WheelDisc$Drive" none prog_3_method_6_code (am_Rv K) pc vs st σ
def w_Drive_follow  (σ : am_S) (K : am_S → Prop) : Prop := ∀ d : Nat, am_run (d + 4) y_Drive_follow [.ref 22, .ref 9] σ (am_Rv K)
theorem t_Drive_follow {d : Nat}   {σ : am_S} {K : am_S → Prop} (h : w_Drive_follow  σ K) : am_run (d + 4) y_Drive_follow [.ref 22, .ref 9] σ (am_Rv K) := h d
theorem e_Drive_follow   {σ : am_S} {K : am_S → Prop} (h : ∀ d : Nat, R_Drive_follow d K 5 [.ref 22, .ref 9, .int (σ.1 22 6)] [] σ) : w_Drive_follow  σ K := by
  intro d
  have h := h d
  refine am_begin (vs := [.ref 22, .ref 9, .null]) c_Drive_follow (by decide +kernel) rfl rfl rfl rfl ?_
  refine r_aload_n d_Drive_follow_0 rfl ?_
  refine r_getI d_Drive_follow_1 f_Drive_32 kd_22 rfl ?_
  refine r_istore_n (vs' := [.ref 22, .ref 9, .int (σ.1 22 6)]) d_Drive_follow_4 rfl rfl ?_
  exact h
theorem l_Drive_follow_5 {d : Nat}  {x2 : Int32}  {σ : am_S} {K : am_S → Prop} (h : (am_ite ((σ.1 22 5) ≤ x2) (K (am_upI σ 22 6 (σ.1 22 5))) (w_Drive_followWord x2 σ (fun τ2 => R_Drive_follow d K 5 [.ref 22, .ref 9, .int (x2 + nI 1)] [] τ2)))) : R_Drive_follow d K 5 [.ref 22, .ref 9, .int x2] [] σ := by
  refine r_iload_n d_Drive_follow_5 rfl ?_
  refine r_aload_n d_Drive_follow_6 rfl ?_
  refine r_getI d_Drive_follow_7 f_Drive_28 kd_22 rfl ?_
  refine r_icmp2 25 ((σ.1 22 5) ≤ x2) d_Drive_follow_10 (by decide) rfl (fun c1 => ?_) (fun c1 => ?_)
  · have h := h.1 c1
    refine r_aload_n d_Drive_follow_25 rfl ?_
    refine r_aload_n d_Drive_follow_26 rfl ?_
    refine r_getI d_Drive_follow_27 f_Drive_28 kd_22 rfl ?_
    refine r_putI d_Drive_follow_30 f_Drive_32 kd_22 rfl ?_
    exact r_vret d_Drive_follow_33 h
  · have h := h.2 c1
    refine r_aload_n d_Drive_follow_13 rfl ?_
    refine r_aload_n d_Drive_follow_14 rfl ?_
    refine r_iload_n d_Drive_follow_15 rfl ?_
    refine r_virtV [.ref 9, .int x2] [] d_Drive_follow_16 v_Drive_41 rfl rfl cn_22 rfl (t_Drive_followWord h) (fun τ2 h => ?_)
    refine r_inc1 (vs' := [.ref 22, .ref 9, .int (x2 + nI 1)]) d_Drive_follow_19 rfl rfl rfl ?_
    refine r_goto 5 d_Drive_follow_22 (by decide) ?_
    exact h
def w_WD_followedDrive  (σ : am_S) (K : am_S → Prop) : Prop := (w_WD_lookedAt  σ (fun τ1 => (w_Drive_follow  τ1 (fun τ2 => K τ2))))
theorem t_WD_followedDrive {d : Nat}   {σ : am_S} {K : am_S → Prop} (h : w_WD_followedDrive  σ K) : am_run (d + 6) y_WD_followedDrive [.ref 0] σ (am_Rr 22 K) := by
  unfold w_WD_followedDrive at h
  refine am_begin (vs := [.ref 0]) c_WD_followedDrive (by decide +kernel) rfl rfl rfl rfl ?_
  refine r_aload_n d_WD_followedDrive_0 rfl ?_
  refine r_getR d_WD_followedDrive_1 f_WD_57 kd_0 rfl lk_0_7 ?_
  refine r_aload_n d_WD_followedDrive_4 rfl ?_
  refine r_virtR [] [.ref 22] d_WD_followedDrive_5 v_WD_187 rfl rfl cn_0 rfl (t_WD_lookedAt h) (fun τ1 h => ?_)
  refine r_virtV [.ref 9] [] d_WD_followedDrive_8 v_WD_325 rfl rfl cn_22 rfl (t_Drive_follow h) (fun τ2 h => ?_)
  refine r_aload_n d_WD_followedDrive_11 rfl ?_
  refine r_getR d_WD_followedDrive_12 f_WD_57 kd_0 rfl lk_0_7 ?_
  exact r_aret d_WD_followedDrive_15 h
def w_WD_slip  (σ : am_S) (K : Int32 → am_S → Prop) : Prop := (w_WD_followedDrive  σ (fun τ1 => (w_WD_accept (τ1.1 22 7) τ1 (fun r2 τ2 => K r2 τ2))))
theorem t_WD_slip {d : Nat}   {σ : am_S} {K : Int32 → am_S → Prop} (h : w_WD_slip  σ K) : am_run (d + 7) y_WD_slip [.ref 0] σ (am_Ri K) := by
  unfold w_WD_slip at h
  refine am_begin (vs := [.ref 0]) c_WD_slip (by decide +kernel) rfl rfl rfl rfl ?_
  refine r_aload_n d_WD_slip_0 rfl ?_
  refine r_aload_n d_WD_slip_1 rfl ?_
  refine r_virtR [] [.ref 0] d_WD_slip_2 v_WD_281 rfl rfl cn_0 rfl (t_WD_followedDrive h) (fun τ1 h => ?_)
  refine r_getI d_WD_slip_5 f_WD_285 kd_22 rfl ?_
  refine r_virtI [.int (τ1.1 22 7)] [] d_WD_slip_8 v_WD_91 rfl rfl cn_0 rfl (t_WD_accept h) (fun r2 τ2 h => ?_)
  exact r_iret d_WD_slip_11 h
def w_Drive_has (x1 : Int32) (σ : am_S) (K : Int32 → am_S → Prop) : Prop := (am_ite (x1 < (nI 0)) (K (nI 0) σ) (am_ite ((σ.1 22 5) ≤ x1) (K (nI 0) σ) (K (nI 1) σ)))
theorem t_Drive_has {d : Nat} {x1 : Int32}  {σ : am_S} {K : Int32 → am_S → Prop} (h : w_Drive_has x1 σ K) : am_run (d + 1) y_Drive_has [.ref 22, .int x1] σ (am_Ri K) := by
  unfold w_Drive_has at h
  refine am_begin (vs := [.ref 22, .int x1]) c_Drive_has (by decide +kernel) rfl rfl rfl rfl ?_
  refine r_iload_n d_Drive_has_0 rfl ?_
  refine r_if2 16 (x1 < (nI 0)) d_Drive_has_1 (by decide) rfl (fun c1 => ?_) (fun c1 => ?_)
  · have h := h.1 c1
    refine r_iconst (nI 0) d_Drive_has_16 (by decide) ?_
    exact r_zret0 d_Drive_has_17 h
  · have h := h.2 c1
    refine r_iload_n d_Drive_has_4 rfl ?_
    refine r_aload_n d_Drive_has_5 rfl ?_
    refine r_getI d_Drive_has_6 f_Drive_28 kd_22 rfl ?_
    refine r_icmp2 16 ((σ.1 22 5) ≤ x1) d_Drive_has_9 (by decide) rfl (fun c2 => ?_) (fun c2 => ?_)
    · have h := h.1 c2
      refine r_iconst (nI 0) d_Drive_has_16 (by decide) ?_
      exact r_zret0 d_Drive_has_17 h
    · have h := h.2 c2
      refine r_iconst (nI 1) d_Drive_has_12 (by decide) ?_
      refine r_goto 17 d_Drive_has_13 (by decide) ?_
      exact r_zret1 d_Drive_has_17 h
def w_WD_stands (x1 : Int32) (σ : am_S) (K : Int32 → am_S → Prop) : Prop := (w_Drive_has x1 σ (fun r1 τ1 => (am_ite (¬ r1 = (nI 0)) (w_WD_followedDrive  τ1 (fun τ3 => (vp_in x1 2000 ∧ (w_WD_accept (τ3.1 24 (Int32.toNatClampNeg x1)) τ3 (fun r4 τ4 => K r4 τ4))))) (w_WD_refuse (nI 1) τ1 (fun r5 τ5 => K r5 τ5)))))
theorem t_WD_stands {d : Nat} {x1 : Int32}  {σ : am_S} {K : Int32 → am_S → Prop} (h : w_WD_stands x1 σ K) : am_run (d + 7) y_WD_stands [.ref 0, .int x1] σ (am_Ri K) := by
  unfold w_WD_stands at h
  refine am_begin (vs := [.ref 0, .int x1]) c_WD_stands (by decide +kernel) rfl rfl rfl rfl ?_
  refine r_aload_n d_WD_stands_0 rfl ?_
  refine r_getR d_WD_stands_1 f_WD_57 kd_0 rfl lk_0_7 ?_
  refine r_iload_n d_WD_stands_4 rfl ?_
  refine r_virtI [.int x1] [] d_WD_stands_5 v_WD_288 rfl rfl cn_22 rfl (t_Drive_has h) (fun r1 τ1 h => ?_)
  refine r_if2 17 (¬ r1 = (nI 0)) d_WD_stands_8 (by decide) rfl (fun c2 => ?_) (fun c2 => ?_)
  · have h := h.1 c2
    refine r_aload_n d_WD_stands_17 rfl ?_
    refine r_aload_n d_WD_stands_18 rfl ?_
    refine r_virtR [] [.ref 0] d_WD_stands_19 v_WD_281 rfl rfl cn_0 rfl (t_WD_followedDrive h) (fun τ3 h => ?_)
    refine r_getR d_WD_stands_22 f_WD_291 kd_22 rfl lk_22_1 ?_
    refine r_iload_n d_WD_stands_25 rfl ?_
    refine r_iald d_WD_stands_26 ce_24 ⟨h.1, ?_⟩
    have h := h.2
    refine r_virtI [.int (τ3.1 24 (Int32.toNatClampNeg x1))] [] d_WD_stands_27 v_WD_91 rfl rfl cn_0 rfl (t_WD_accept h) (fun r4 τ4 h => ?_)
    exact r_iret d_WD_stands_30 h
  · have h := h.2 c2
    refine r_aload_n d_WD_stands_11 rfl ?_
    refine r_iconst (nI 1) d_WD_stands_12 (by decide) ?_
    refine r_virtI [.int (nI 1)] [] d_WD_stands_13 v_WD_95 rfl rfl cn_0 rfl (t_WD_refuse h) (fun r5 τ5 h => ?_)
    exact r_iret d_WD_stands_16 h
def w_WD_stand (x1 : Int32) (σ : am_S) (K : Int32 → am_S → Prop) : Prop := (w_Drive_has x1 σ (fun r1 τ1 => (am_ite (r1 = (nI 0)) (w_WD_refuse (nI 1) τ1 (fun r3 τ3 => K r3 τ3)) (w_WD_followedDrive  τ1 (fun τ4 => (vp_in x1 2000 ∧ (am_ite (¬ (τ4.1 24 (Int32.toNatClampNeg x1)) = (nI 0)) (w_WD_followedDrive  τ4 (fun τ6 => (vp_in x1 2000 ∧ (w_WD_accept (τ6.1 25 (Int32.toNatClampNeg x1)) τ6 (fun r7 τ7 => K r7 τ7))))) (w_WD_refuse (nI 1) τ4 (fun r8 τ8 => K r8 τ8)))))))))
theorem t_WD_stand {d : Nat} {x1 : Int32}  {σ : am_S} {K : Int32 → am_S → Prop} (h : w_WD_stand x1 σ K) : am_run (d + 7) y_WD_stand [.ref 0, .int x1] σ (am_Ri K) := by
  unfold w_WD_stand at h
  refine am_begin (vs := [.ref 0, .int x1]) c_WD_stand (by decide +kernel) rfl rfl rfl rfl ?_
  refine r_aload_n d_WD_stand_0 rfl ?_
  refine r_getR d_WD_stand_1 f_WD_57 kd_0 rfl lk_0_7 ?_
  refine r_iload_n d_WD_stand_4 rfl ?_
  refine r_virtI [.int x1] [] d_WD_stand_5 v_WD_288 rfl rfl cn_22 rfl (t_Drive_has h) (fun r1 τ1 h => ?_)
  refine r_if2 23 (r1 = (nI 0)) d_WD_stand_8 (by decide) rfl (fun c2 => ?_) (fun c2 => ?_)
  · have h := h.1 c2
    refine r_aload_n d_WD_stand_23 rfl ?_
    refine r_iconst (nI 1) d_WD_stand_24 (by decide) ?_
    refine r_virtI [.int (nI 1)] [] d_WD_stand_25 v_WD_95 rfl rfl cn_0 rfl (t_WD_refuse h) (fun r3 τ3 h => ?_)
    exact r_iret d_WD_stand_28 h
  · have h := h.2 c2
    refine r_aload_n d_WD_stand_11 rfl ?_
    refine r_virtR [] [] d_WD_stand_12 v_WD_281 rfl rfl cn_0 rfl (t_WD_followedDrive h) (fun τ4 h => ?_)
    refine r_getR d_WD_stand_15 f_WD_291 kd_22 rfl lk_22_1 ?_
    refine r_iload_n d_WD_stand_18 rfl ?_
    refine r_iald d_WD_stand_19 ce_24 ⟨h.1, ?_⟩
    have h := h.2
    refine r_if2 29 (¬ (τ4.1 24 (Int32.toNatClampNeg x1)) = (nI 0)) d_WD_stand_20 (by decide) rfl (fun c5 => ?_) (fun c5 => ?_)
    · have h := h.1 c5
      refine r_aload_n d_WD_stand_29 rfl ?_
      refine r_aload_n d_WD_stand_30 rfl ?_
      refine r_virtR [] [.ref 0] d_WD_stand_31 v_WD_281 rfl rfl cn_0 rfl (t_WD_followedDrive h) (fun τ6 h => ?_)
      refine r_getR d_WD_stand_34 f_WD_294 kd_22 rfl lk_22_2 ?_
      refine r_iload_n d_WD_stand_37 rfl ?_
      refine r_iald d_WD_stand_38 ce_25 ⟨h.1, ?_⟩
      have h := h.2
      refine r_virtI [.int (τ6.1 25 (Int32.toNatClampNeg x1))] [] d_WD_stand_39 v_WD_91 rfl rfl cn_0 rfl (t_WD_accept h) (fun r7 τ7 h => ?_)
      exact r_iret d_WD_stand_42 h
    · have h := h.2 c5
      refine r_aload_n d_WD_stand_23 rfl ?_
      refine r_iconst (nI 1) d_WD_stand_24 (by decide) ?_
      refine r_virtI [.int (nI 1)] [] d_WD_stand_25 v_WD_95 rfl rfl cn_0 rfl (t_WD_refuse h) (fun r8 τ8 h => ?_)
      exact r_iret d_WD_stand_28 h
def w_Math_abs (x0 : Int32) (σ : am_S) (K : Int32 → am_S → Prop) : Prop := (am_ite ((nI 0) ≤ x0) (K x0 σ) (K (-x0) σ))
theorem t_Math_abs {d : Nat} {x0 : Int32}  {σ : am_S} {K : Int32 → am_S → Prop} (h : w_Math_abs x0 σ K) : am_run (d + 1) y_Math_abs [.int x0] σ (am_Ri K) := by
  unfold w_Math_abs at h
  refine am_begin (vs := [.int x0]) c_Math_abs (by decide +kernel) rfl rfl rfl rfl ?_
  refine r_iload_n d_Math_abs_0 rfl ?_
  refine r_if2 9 ((nI 0) ≤ x0) d_Math_abs_1 (by decide) rfl (fun c1 => ?_) (fun c1 => ?_)
  · have h := h.1 c1
    refine r_iload_n d_Math_abs_9 rfl ?_
    exact r_iret d_Math_abs_10 h
  · have h := h.2 c1
    refine r_iload_n d_Math_abs_4 rfl ?_
    refine r_ineg d_Math_abs_5 ?_
    refine r_goto 10 d_Math_abs_6 (by decide) ?_
    exact r_iret d_Math_abs_10 h
def w_Drive_wayRound (x0 : Int32) (x1 : Int32) (x2 : Int32) (σ : am_S) (K : Int32 → am_S → Prop) : Prop := (w_Math_abs (x0 - x1) σ (fun r1 τ1 => (w_Math_min r1 (x2 - r1) τ1 (fun r2 τ2 => K r2 τ2))))
theorem t_Drive_wayRound {d : Nat} {x0 : Int32} {x1 : Int32} {x2 : Int32}  {σ : am_S} {K : Int32 → am_S → Prop} (h : w_Drive_wayRound x0 x1 x2 σ K) : am_run (d + 2) y_Drive_wayRound [.int x0, .int x1, .int x2] σ (am_Ri K) := by
  unfold w_Drive_wayRound at h
  refine am_begin (vs := [.int x0, .int x1, .int x2, .null]) c_Drive_wayRound (by decide +kernel) rfl rfl rfl rfl ?_
  refine r_iload_n d_Drive_wayRound_0 rfl ?_
  refine r_iload_n d_Drive_wayRound_1 rfl ?_
  refine r_isub d_Drive_wayRound_2 ?_
  refine r_statI [.int (x0 - x1)] [] d_Drive_wayRound_3 s_Drive_72 rfl rfl rfl (t_Math_abs h) (fun r1 τ1 h => ?_)
  refine r_istore_n (vs' := [.int x0, .int x1, .int x2, .int r1]) d_Drive_wayRound_6 rfl rfl ?_
  refine r_iload_n d_Drive_wayRound_7 rfl ?_
  refine r_iload_n d_Drive_wayRound_8 rfl ?_
  refine r_iload_n d_Drive_wayRound_9 rfl ?_
  refine r_isub d_Drive_wayRound_10 ?_
  refine r_statI [.int r1, .int (x2 - r1)] [] d_Drive_wayRound_11 s_Drive_77 rfl rfl rfl (t_Math_min h) (fun r2 τ2 h => ?_)
  exact r_iret d_Drive_wayRound_14 h
abbrev R_Drive_mendedStand (d : Nat) (K : Int32 → am_S → Prop) (pc : Nat) (vs st : List Value) (σ : am_S) : Prop := am_r (am_run (d + 2)) "WheelDisc$Drive" (some .int) prog_3_method_10_code (am_Ri K) pc vs st σ
def w_Drive_mendedStand  (σ : am_S) (K : Int32 → am_S → Prop) : Prop := ∀ d : Nat, am_run (d + 3) y_Drive_mendedStand [.ref 22, .ref 9] σ (am_Ri K)
theorem t_Drive_mendedStand {d : Nat}   {σ : am_S} {K : Int32 → am_S → Prop} (h : w_Drive_mendedStand  σ K) : am_run (d + 3) y_Drive_mendedStand [.ref 22, .ref 9] σ (am_Ri K) := h d
theorem e_Drive_mendedStand   {σ : am_S} {K : Int32 → am_S → Prop} (h : ∀ d : Nat, (am_ite (¬ (σ.1 22 7) = (-1)) (am_ite (¬ (σ.1 22 7) = (nI 0)) (vp_in ((σ.1 22 7) - (nI 1)) 2000 ∧ R_Drive_mendedStand d K 38 [.ref 22, .ref 9, .int (σ.1 25 (Int32.toNatClampNeg ((σ.1 22 7) - (nI 1)))), .int (nI 0), .int (nI 1), .null, .null, .null] [] σ) (R_Drive_mendedStand d K 38 [.ref 22, .ref 9, .int (nI 0), .int (nI 0), .int (nI 1), .null, .null, .null] [] σ)) (K (-1) σ))) : w_Drive_mendedStand  σ K := by
  intro d
  have h := h d
  refine am_begin (vs := [.ref 22, .ref 9, .null, .null, .null, .null, .null, .null]) c_Drive_mendedStand (by decide +kernel) rfl rfl rfl rfl ?_
  refine r_aload_n d_Drive_mendedStand_0 rfl ?_
  refine r_getI d_Drive_mendedStand_1 f_Drive_35 kd_22 rfl ?_
  refine r_iconst (-1) d_Drive_mendedStand_4 (by decide) ?_
  refine r_icmp2 10 (¬ (σ.1 22 7) = (-1)) d_Drive_mendedStand_5 (by decide) rfl (fun c1 => ?_) (fun c1 => ?_)
  · have h := h.1 c1
    refine r_aload_n d_Drive_mendedStand_10 rfl ?_
    refine r_getI d_Drive_mendedStand_11 f_Drive_35 kd_22 rfl ?_
    refine r_if2 21 (¬ (σ.1 22 7) = (nI 0)) d_Drive_mendedStand_14 (by decide) rfl (fun c2 => ?_) (fun c2 => ?_)
    · have h := h.1 c2
      refine r_aload_n d_Drive_mendedStand_21 rfl ?_
      refine r_getR d_Drive_mendedStand_22 f_Drive_18 kd_22 rfl lk_22_2 ?_
      refine r_aload_n d_Drive_mendedStand_25 rfl ?_
      refine r_getI d_Drive_mendedStand_26 f_Drive_35 kd_22 rfl ?_
      refine r_iconst (nI 1) d_Drive_mendedStand_29 (by decide) ?_
      refine r_isub d_Drive_mendedStand_30 ?_
      refine r_iald d_Drive_mendedStand_31 ce_25 ⟨h.1, ?_⟩
      have h := h.2
      refine r_istore_n (vs' := [.ref 22, .ref 9, .int (σ.1 25 (Int32.toNatClampNeg ((σ.1 22 7) - (nI 1)))), .null, .null, .null, .null, .null]) d_Drive_mendedStand_32 rfl rfl ?_
      refine r_iconst (nI 0) d_Drive_mendedStand_33 (by decide) ?_
      refine r_istore_n (vs' := [.ref 22, .ref 9, .int (σ.1 25 (Int32.toNatClampNeg ((σ.1 22 7) - (nI 1)))), .int (nI 0), .null, .null, .null, .null]) d_Drive_mendedStand_34 rfl rfl ?_
      refine r_iconst (nI 1) d_Drive_mendedStand_35 (by decide) ?_
      refine r_istore (vs' := [.ref 22, .ref 9, .int (σ.1 25 (Int32.toNatClampNeg ((σ.1 22 7) - (nI 1)))), .int (nI 0), .int (nI 1), .null, .null, .null]) d_Drive_mendedStand_36 rfl rfl ?_
      exact h
    · have h := h.2 c2
      refine r_iconst (nI 0) d_Drive_mendedStand_17 (by decide) ?_
      refine r_goto 32 d_Drive_mendedStand_18 (by decide) ?_
      refine r_istore_n (vs' := [.ref 22, .ref 9, .int (nI 0), .null, .null, .null, .null, .null]) d_Drive_mendedStand_32 rfl rfl ?_
      refine r_iconst (nI 0) d_Drive_mendedStand_33 (by decide) ?_
      refine r_istore_n (vs' := [.ref 22, .ref 9, .int (nI 0), .int (nI 0), .null, .null, .null, .null]) d_Drive_mendedStand_34 rfl rfl ?_
      refine r_iconst (nI 1) d_Drive_mendedStand_35 (by decide) ?_
      refine r_istore (vs' := [.ref 22, .ref 9, .int (nI 0), .int (nI 0), .int (nI 1), .null, .null, .null]) d_Drive_mendedStand_36 rfl rfl ?_
      exact h
  · have h := h.2 c1
    refine r_iconst (-1) d_Drive_mendedStand_8 (by decide) ?_
    exact r_iret d_Drive_mendedStand_9 h
theorem l_Drive_mendedStand_38 {d : Nat}  {x2 : Int32} {x3 : Int32} {x4 : Int32}  {σ : am_S} {K : Int32 → am_S → Prop} (h : (am_ite ((σ.1 9 2) ≤ x4) (K x3 σ) (vp_in x4 512 ∧ (vp_in (σ.1 22 7) 2000 ∧ (w_Int_bitCount ((σ.1 10 (Int32.toNatClampNeg x4)) ^^^ (σ.1 23 (Int32.toNatClampNeg (σ.1 22 7)))) σ (fun r4 τ4 => (vp_in x3 512 ∧ (vp_in (τ4.1 22 7) 2000 ∧ (w_Int_bitCount ((τ4.1 10 (Int32.toNatClampNeg x3)) ^^^ (τ4.1 23 (Int32.toNatClampNeg (τ4.1 22 7)))) τ4 (fun r5 τ5 => (w_Drive_wayRound x4 x2 (τ5.1 9 2) τ5 (fun r6 τ6 => (w_Drive_wayRound x3 x2 (τ6.1 9 2) τ6 (fun r7 τ7 => (am_ite (r7 ≤ r6) (am_ite (r4 < r5) (R_Drive_mendedStand d K 38 [.ref 22, .ref 9, .int x2, .int x4, .int (x4 + nI 1), .null, .null, .null] [] τ7) (am_ite (¬ r4 = r5) (R_Drive_mendedStand d K 38 [.ref 22, .ref 9, .int x2, .int x3, .int (x4 + nI 1), .null, .null, .null] [] τ7) (R_Drive_mendedStand d K 38 [.ref 22, .ref 9, .int x2, .int x3, .int (x4 + nI 1), .null, .null, .null] [] τ7))) (am_ite (r4 < r5) (R_Drive_mendedStand d K 38 [.ref 22, .ref 9, .int x2, .int x4, .int (x4 + nI 1), .null, .null, .null] [] τ7) (am_ite (¬ r4 = r5) (R_Drive_mendedStand d K 38 [.ref 22, .ref 9, .int x2, .int x3, .int (x4 + nI 1), .null, .null, .null] [] τ7) (R_Drive_mendedStand d K 38 [.ref 22, .ref 9, .int x2, .int x4, .int (x4 + nI 1), .null, .null, .null] [] τ7)))))))))))))))))) : R_Drive_mendedStand d K 38 [.ref 22, .ref 9, .int x2, .int x3, .int x4, .null, .null, .null] [] σ := by
  refine r_iload d_Drive_mendedStand_38 rfl ?_
  refine r_aload_n d_Drive_mendedStand_40 rfl ?_
  refine r_getI d_Drive_mendedStand_41 f_Drive_45 kd_9 rfl ?_
  refine r_icmp2 147 ((σ.1 9 2) ≤ x4) d_Drive_mendedStand_44 (by decide) rfl (fun c3 => ?_) (fun c3 => ?_)
  · have h := h.1 c3
    refine r_iload_n d_Drive_mendedStand_147 rfl ?_
    exact r_iret d_Drive_mendedStand_148 h
  · have h := h.2 c3
    refine r_aload_n d_Drive_mendedStand_47 rfl ?_
    refine r_getR d_Drive_mendedStand_48 f_Drive_50 kd_9 rfl lk_9_0 ?_
    refine r_iload d_Drive_mendedStand_51 rfl ?_
    refine r_iald d_Drive_mendedStand_53 ce_10 ⟨h.1, ?_⟩
    have h := h.2
    refine r_aload_n d_Drive_mendedStand_54 rfl ?_
    refine r_getR d_Drive_mendedStand_55 f_Drive_11 kd_22 rfl lk_22_0 ?_
    refine r_aload_n d_Drive_mendedStand_58 rfl ?_
    refine r_getI d_Drive_mendedStand_59 f_Drive_35 kd_22 rfl ?_
    refine r_iald d_Drive_mendedStand_62 ce_23 ⟨h.1, ?_⟩
    have h := h.2
    refine r_ixor d_Drive_mendedStand_63 ?_
    refine r_statI [.int ((σ.1 10 (Int32.toNatClampNeg x4)) ^^^ (σ.1 23 (Int32.toNatClampNeg (σ.1 22 7))))] [] d_Drive_mendedStand_64 s_Drive_63 rfl rfl rfl (t_Int_bitCount h) (fun r4 τ4 h => ?_)
    refine r_istore (vs' := [.ref 22, .ref 9, .int x2, .int x3, .int x4, .int r4, .null, .null]) d_Drive_mendedStand_67 rfl rfl ?_
    refine r_aload_n d_Drive_mendedStand_69 rfl ?_
    refine r_getR d_Drive_mendedStand_70 f_Drive_50 kd_9 rfl lk_9_0 ?_
    refine r_iload_n d_Drive_mendedStand_73 rfl ?_
    refine r_iald d_Drive_mendedStand_74 ce_10 ⟨h.1, ?_⟩
    have h := h.2
    refine r_aload_n d_Drive_mendedStand_75 rfl ?_
    refine r_getR d_Drive_mendedStand_76 f_Drive_11 kd_22 rfl lk_22_0 ?_
    refine r_aload_n d_Drive_mendedStand_79 rfl ?_
    refine r_getI d_Drive_mendedStand_80 f_Drive_35 kd_22 rfl ?_
    refine r_iald d_Drive_mendedStand_83 ce_23 ⟨h.1, ?_⟩
    have h := h.2
    refine r_ixor d_Drive_mendedStand_84 ?_
    refine r_statI [.int ((τ4.1 10 (Int32.toNatClampNeg x3)) ^^^ (τ4.1 23 (Int32.toNatClampNeg (τ4.1 22 7))))] [] d_Drive_mendedStand_85 s_Drive_63 rfl rfl rfl (t_Int_bitCount h) (fun r5 τ5 h => ?_)
    refine r_istore (vs' := [.ref 22, .ref 9, .int x2, .int x3, .int x4, .int r4, .int r5, .null]) d_Drive_mendedStand_88 rfl rfl ?_
    refine r_iload d_Drive_mendedStand_90 rfl ?_
    refine r_iload_n d_Drive_mendedStand_92 rfl ?_
    refine r_aload_n d_Drive_mendedStand_93 rfl ?_
    refine r_getI d_Drive_mendedStand_94 f_Drive_45 kd_9 rfl ?_
    refine r_statI [.int x4, .int x2, .int (τ5.1 9 2)] [] d_Drive_mendedStand_97 s_Drive_69 rfl rfl rfl (t_Drive_wayRound h) (fun r6 τ6 h => ?_)
    refine r_iload_n d_Drive_mendedStand_100 rfl ?_
    refine r_iload_n d_Drive_mendedStand_101 rfl ?_
    refine r_aload_n d_Drive_mendedStand_102 rfl ?_
    refine r_getI d_Drive_mendedStand_103 f_Drive_45 kd_9 rfl ?_
    refine r_statI [.int x3, .int x2, .int (τ6.1 9 2)] [.int r6] d_Drive_mendedStand_106 s_Drive_69 rfl rfl rfl (t_Drive_wayRound h) (fun r7 τ7 h => ?_)
    refine r_icmp2 116 (r7 ≤ r6) d_Drive_mendedStand_109 (by decide) rfl (fun c8 => ?_) (fun c8 => ?_)
    · have h := h.1 c8
      refine r_iconst (nI 0) d_Drive_mendedStand_116 (by decide) ?_
      refine r_istore (vs' := [.ref 22, .ref 9, .int x2, .int x3, .int x4, .int r4, .int r5, .int (nI 0)]) d_Drive_mendedStand_117 rfl rfl ?_
      refine r_iload d_Drive_mendedStand_119 rfl ?_
      refine r_iload d_Drive_mendedStand_121 rfl ?_
      refine r_icmp2 138 (r4 < r5) d_Drive_mendedStand_123 (by decide) rfl (fun c9 => ?_) (fun c9 => ?_)
      · have h := h.1 c9
        refine r_iload d_Drive_mendedStand_138 rfl ?_
        refine r_istore_n (vs' := [.ref 22, .ref 9, .int x2, .int x4, .int x4, .int r4, .int r5, .int (nI 0)]) d_Drive_mendedStand_140 rfl rfl ?_
        refine r_inc1 (vs' := [.ref 22, .ref 9, .int x2, .int x4, .int (x4 + nI 1), .int r4, .int r5, .int (nI 0)]) d_Drive_mendedStand_141 rfl rfl rfl ?_
        refine r_goto 38 d_Drive_mendedStand_144 (by decide) ?_
        exact am_weak (vs := [.ref 22, .ref 9, .int x2, .int x4, .int (x4 + nI 1), .null, .null, .null]) ⟨Or.inl rfl, Or.inl rfl, Or.inl rfl, Or.inl rfl, Or.inl rfl, Or.inr ⟨rfl, rfl⟩, Or.inr ⟨rfl, rfl⟩, Or.inr ⟨rfl, rfl⟩, trivial⟩ h
      · have h := h.2 c9
        refine r_iload d_Drive_mendedStand_126 rfl ?_
        refine r_iload d_Drive_mendedStand_128 rfl ?_
        refine r_icmp2 141 (¬ r4 = r5) d_Drive_mendedStand_130 (by decide) rfl (fun c10 => ?_) (fun c10 => ?_)
        · have h := h.1 c10
          refine r_inc1 (vs' := [.ref 22, .ref 9, .int x2, .int x3, .int (x4 + nI 1), .int r4, .int r5, .int (nI 0)]) d_Drive_mendedStand_141 rfl rfl rfl ?_
          refine r_goto 38 d_Drive_mendedStand_144 (by decide) ?_
          exact am_weak (vs := [.ref 22, .ref 9, .int x2, .int x3, .int (x4 + nI 1), .null, .null, .null]) ⟨Or.inl rfl, Or.inl rfl, Or.inl rfl, Or.inl rfl, Or.inl rfl, Or.inr ⟨rfl, rfl⟩, Or.inr ⟨rfl, rfl⟩, Or.inr ⟨rfl, rfl⟩, trivial⟩ h
        · have h := h.2 c10
          refine r_iload d_Drive_mendedStand_133 rfl ?_
          refine r_if2 141 ((nI 0) = (nI 0)) d_Drive_mendedStand_135 (by decide) rfl (fun _ => ?_) (fun c => absurd (by decide) c)
          refine r_inc1 (vs' := [.ref 22, .ref 9, .int x2, .int x3, .int (x4 + nI 1), .int r4, .int r5, .int (nI 0)]) d_Drive_mendedStand_141 rfl rfl rfl ?_
          refine r_goto 38 d_Drive_mendedStand_144 (by decide) ?_
          exact am_weak (vs := [.ref 22, .ref 9, .int x2, .int x3, .int (x4 + nI 1), .null, .null, .null]) ⟨Or.inl rfl, Or.inl rfl, Or.inl rfl, Or.inl rfl, Or.inl rfl, Or.inr ⟨rfl, rfl⟩, Or.inr ⟨rfl, rfl⟩, Or.inr ⟨rfl, rfl⟩, trivial⟩ h
    · have h := h.2 c8
      refine r_iconst (nI 1) d_Drive_mendedStand_112 (by decide) ?_
      refine r_goto 117 d_Drive_mendedStand_113 (by decide) ?_
      refine r_istore (vs' := [.ref 22, .ref 9, .int x2, .int x3, .int x4, .int r4, .int r5, .int (nI 1)]) d_Drive_mendedStand_117 rfl rfl ?_
      refine r_iload d_Drive_mendedStand_119 rfl ?_
      refine r_iload d_Drive_mendedStand_121 rfl ?_
      refine r_icmp2 138 (r4 < r5) d_Drive_mendedStand_123 (by decide) rfl (fun c12 => ?_) (fun c12 => ?_)
      · have h := h.1 c12
        refine r_iload d_Drive_mendedStand_138 rfl ?_
        refine r_istore_n (vs' := [.ref 22, .ref 9, .int x2, .int x4, .int x4, .int r4, .int r5, .int (nI 1)]) d_Drive_mendedStand_140 rfl rfl ?_
        refine r_inc1 (vs' := [.ref 22, .ref 9, .int x2, .int x4, .int (x4 + nI 1), .int r4, .int r5, .int (nI 1)]) d_Drive_mendedStand_141 rfl rfl rfl ?_
        refine r_goto 38 d_Drive_mendedStand_144 (by decide) ?_
        exact am_weak (vs := [.ref 22, .ref 9, .int x2, .int x4, .int (x4 + nI 1), .null, .null, .null]) ⟨Or.inl rfl, Or.inl rfl, Or.inl rfl, Or.inl rfl, Or.inl rfl, Or.inr ⟨rfl, rfl⟩, Or.inr ⟨rfl, rfl⟩, Or.inr ⟨rfl, rfl⟩, trivial⟩ h
      · have h := h.2 c12
        refine r_iload d_Drive_mendedStand_126 rfl ?_
        refine r_iload d_Drive_mendedStand_128 rfl ?_
        refine r_icmp2 141 (¬ r4 = r5) d_Drive_mendedStand_130 (by decide) rfl (fun c13 => ?_) (fun c13 => ?_)
        · have h := h.1 c13
          refine r_inc1 (vs' := [.ref 22, .ref 9, .int x2, .int x3, .int (x4 + nI 1), .int r4, .int r5, .int (nI 1)]) d_Drive_mendedStand_141 rfl rfl rfl ?_
          refine r_goto 38 d_Drive_mendedStand_144 (by decide) ?_
          exact am_weak (vs := [.ref 22, .ref 9, .int x2, .int x3, .int (x4 + nI 1), .null, .null, .null]) ⟨Or.inl rfl, Or.inl rfl, Or.inl rfl, Or.inl rfl, Or.inl rfl, Or.inr ⟨rfl, rfl⟩, Or.inr ⟨rfl, rfl⟩, Or.inr ⟨rfl, rfl⟩, trivial⟩ h
        · have h := h.2 c13
          refine r_iload d_Drive_mendedStand_133 rfl ?_
          refine r_if2 141 ((nI 1) = (nI 0)) d_Drive_mendedStand_135 (by decide) rfl (fun c => absurd c (by decide)) (fun _ => ?_)
          refine r_iload d_Drive_mendedStand_138 rfl ?_
          refine r_istore_n (vs' := [.ref 22, .ref 9, .int x2, .int x4, .int x4, .int r4, .int r5, .int (nI 1)]) d_Drive_mendedStand_140 rfl rfl ?_
          refine r_inc1 (vs' := [.ref 22, .ref 9, .int x2, .int x4, .int (x4 + nI 1), .int r4, .int r5, .int (nI 1)]) d_Drive_mendedStand_141 rfl rfl rfl ?_
          refine r_goto 38 d_Drive_mendedStand_144 (by decide) ?_
          exact am_weak (vs := [.ref 22, .ref 9, .int x2, .int x4, .int (x4 + nI 1), .null, .null, .null]) ⟨Or.inl rfl, Or.inl rfl, Or.inl rfl, Or.inl rfl, Or.inl rfl, Or.inr ⟨rfl, rfl⟩, Or.inr ⟨rfl, rfl⟩, Or.inr ⟨rfl, rfl⟩, trivial⟩ h
def w_WD_mend  (σ : am_S) (K : Int32 → am_S → Prop) : Prop := (w_WD_followedDrive  σ (fun τ1 => (w_WD_lookedAt  τ1 (fun τ2 => (w_Drive_mendedStand  τ2 (fun r3 τ3 => (w_WD_accept r3 τ3 (fun r4 τ4 => K r4 τ4))))))))
theorem t_WD_mend {d : Nat}   {σ : am_S} {K : Int32 → am_S → Prop} (h : w_WD_mend  σ K) : am_run (d + 7) y_WD_mend [.ref 0] σ (am_Ri K) := by
  unfold w_WD_mend at h
  refine am_begin (vs := [.ref 0]) c_WD_mend (by decide +kernel) rfl rfl rfl rfl ?_
  refine r_aload_n d_WD_mend_0 rfl ?_
  refine r_aload_n d_WD_mend_1 rfl ?_
  refine r_virtR [] [.ref 0] d_WD_mend_2 v_WD_281 rfl rfl cn_0 rfl (t_WD_followedDrive h) (fun τ1 h => ?_)
  refine r_aload_n d_WD_mend_5 rfl ?_
  refine r_virtR [] [.ref 22, .ref 0] d_WD_mend_6 v_WD_187 rfl rfl cn_0 rfl (t_WD_lookedAt h) (fun τ2 h => ?_)
  refine r_virtI [.ref 9] [.ref 0] d_WD_mend_9 v_WD_297 rfl rfl cn_22 rfl (t_Drive_mendedStand h) (fun r3 τ3 h => ?_)
  refine r_virtI [.int r3] [] d_WD_mend_12 v_WD_91 rfl rfl cn_0 rfl (t_WD_accept h) (fun r4 τ4 h => ?_)
  exact r_iret d_WD_mend_15 h
def w_WL_add (x1 : Int32) (σ : am_S) (K : am_S → Prop) : Prop := (vp_in (σ.1 28 1) 512 ∧ K (am_upI (am_upI σ 29 (Int32.toNatClampNeg (σ.1 28 1)) x1) 28 1 ((σ.1 28 1) + (nI 1))))
theorem t_WL_add {d : Nat} {x1 : Int32}  {σ : am_S} {K : am_S → Prop} (h : w_WL_add x1 σ K) : am_run (d + 1) y_WL_add [.ref 28, .int x1] σ (am_Rv K) := by
  unfold w_WL_add at h
  refine am_begin (vs := [.ref 28, .int x1]) c_WL_add (by decide +kernel) rfl rfl rfl rfl ?_
  refine r_aload_n d_WL_add_0 rfl ?_
  refine r_getR d_WL_add_1 f_WL_11 kd_28 rfl lk_28_0 ?_
  refine r_aload_n d_WL_add_4 rfl ?_
  refine r_getI d_WL_add_5 f_WL_15 kd_28 rfl ?_
  refine r_iload_n d_WL_add_8 rfl ?_
  refine r_iast d_WL_add_9 ce_29 ⟨h.1, ?_⟩
  have h := h.2
  refine r_aload_n d_WL_add_10 rfl ?_
  refine r_dup d_WL_add_11 rfl ?_
  refine r_getI d_WL_add_12 f_WL_15 kd_28 rfl ?_
  refine r_iconst (nI 1) d_WL_add_15 (by decide) ?_
  refine r_iadd d_WL_add_16 ?_
  refine r_putI d_WL_add_17 f_WL_15 kd_28 rfl ?_
  exact r_vret d_WL_add_20 h
def w_WD_tell (x1 : Int32) (σ : am_S) (K : Int32 → am_S → Prop) : Prop := (am_ite ((σ.1 28 1) < (nI 512)) (w_WL_add x1 σ (fun τ2 => (w_WD_accept (τ2.1 28 1) τ2 (fun r3 τ3 => K r3 τ3)))) (w_WD_refuse (nI 4) σ (fun r4 τ4 => K r4 τ4)))
theorem t_WD_tell {d : Nat} {x1 : Int32}  {σ : am_S} {K : Int32 → am_S → Prop} (h : w_WD_tell x1 σ K) : am_run (d + 2) y_WD_tell [.ref 0, .int x1] σ (am_Ri K) := by
  unfold w_WD_tell at h
  refine am_begin (vs := [.ref 0, .int x1]) c_WD_tell (by decide +kernel) rfl rfl rfl rfl ?_
  refine r_aload_n d_WD_tell_0 rfl ?_
  refine r_getR d_WD_tell_1 f_WD_64 kd_0 rfl lk_0_8 ?_
  refine r_getI d_WD_tell_4 f_WD_196 kd_28 rfl ?_
  refine r_sipush (nI 512) d_WD_tell_7 (by decide) ?_
  refine r_icmp2 19 ((σ.1 28 1) < (nI 512)) d_WD_tell_10 (by decide) rfl (fun c1 => ?_) (fun c1 => ?_)
  · have h := h.1 c1
    refine r_aload_n d_WD_tell_19 rfl ?_
    refine r_getR d_WD_tell_20 f_WD_64 kd_0 rfl lk_0_8 ?_
    refine r_iload_n d_WD_tell_23 rfl ?_
    refine r_virtV [.int x1] [] d_WD_tell_24 v_WD_301 rfl rfl cn_28 rfl (t_WL_add h) (fun τ2 h => ?_)
    refine r_aload_n d_WD_tell_27 rfl ?_
    refine r_aload_n d_WD_tell_28 rfl ?_
    refine r_getR d_WD_tell_29 f_WD_64 kd_0 rfl lk_0_8 ?_
    refine r_getI d_WD_tell_32 f_WD_196 kd_28 rfl ?_
    refine r_virtI [.int (τ2.1 28 1)] [] d_WD_tell_35 v_WD_91 rfl rfl cn_0 rfl (t_WD_accept h) (fun r3 τ3 h => ?_)
    exact r_iret d_WD_tell_38 h
  · have h := h.2 c1
    refine r_aload_n d_WD_tell_13 rfl ?_
    refine r_iconst (nI 4) d_WD_tell_14 (by decide) ?_
    refine r_virtI [.int (nI 4)] [] d_WD_tell_15 v_WD_95 rfl rfl cn_0 rfl (t_WD_refuse h) (fun r4 τ4 h => ?_)
    exact r_iret d_WD_tell_18 h
def w_WL_has (x1 : Int32) (σ : am_S) (K : Int32 → am_S → Prop) : Prop := (am_ite (x1 < (nI 0)) (K (nI 0) σ) (am_ite ((σ.1 28 1) ≤ x1) (K (nI 0) σ) (K (nI 1) σ)))
theorem t_WL_has {d : Nat} {x1 : Int32}  {σ : am_S} {K : Int32 → am_S → Prop} (h : w_WL_has x1 σ K) : am_run (d + 1) y_WL_has [.ref 28, .int x1] σ (am_Ri K) := by
  unfold w_WL_has at h
  refine am_begin (vs := [.ref 28, .int x1]) c_WL_has (by decide +kernel) rfl rfl rfl rfl ?_
  refine r_iload_n d_WL_has_0 rfl ?_
  refine r_if2 16 (x1 < (nI 0)) d_WL_has_1 (by decide) rfl (fun c1 => ?_) (fun c1 => ?_)
  · have h := h.1 c1
    refine r_iconst (nI 0) d_WL_has_16 (by decide) ?_
    exact r_zret0 d_WL_has_17 h
  · have h := h.2 c1
    refine r_iload_n d_WL_has_4 rfl ?_
    refine r_aload_n d_WL_has_5 rfl ?_
    refine r_getI d_WL_has_6 f_WL_15 kd_28 rfl ?_
    refine r_icmp2 16 ((σ.1 28 1) ≤ x1) d_WL_has_9 (by decide) rfl (fun c2 => ?_) (fun c2 => ?_)
    · have h := h.1 c2
      refine r_iconst (nI 0) d_WL_has_16 (by decide) ?_
      exact r_zret0 d_WL_has_17 h
    · have h := h.2 c2
      refine r_iconst (nI 1) d_WL_has_12 (by decide) ?_
      refine r_goto 17 d_WL_has_13 (by decide) ?_
      exact r_zret1 d_WL_has_17 h
def w_WD_forge (x1 : Int32) (x2 : Int32) (σ : am_S) (K : Int32 → am_S → Prop) : Prop := (w_WL_has x1 σ (fun r1 τ1 => (am_ite (r1 = (nI 0)) (w_WD_deny (nI 1) τ1 (fun r3 τ3 => ((r3 = nI 0 ∨ r3 = nI 1) ∧ K r3 τ3))) (am_ite (x2 < (nI 0)) (w_WD_deny (nI 1) τ1 (fun r5 τ5 => ((r5 = nI 0 ∨ r5 = nI 1) ∧ K r5 τ5))) (am_ite (x2 ≤ (nI 31)) (vp_in x1 512 ∧ (vp_in x1 512 ∧ (w_WD_grant (nI 1) (am_upI τ1 29 (Int32.toNatClampNeg x1) ((τ1.1 29 (Int32.toNatClampNeg x1)) ^^^ ((nI 1) <<< (x2 &&& 31)))) (fun r7 τ7 => ((r7 = nI 0 ∨ r7 = nI 1) ∧ K r7 τ7))))) (w_WD_deny (nI 1) τ1 (fun r8 τ8 => ((r8 = nI 0 ∨ r8 = nI 1) ∧ K r8 τ8))))))))
theorem t_WD_forge {d : Nat} {x1 : Int32} {x2 : Int32}  {σ : am_S} {K : Int32 → am_S → Prop} (h : w_WD_forge x1 x2 σ K) : am_run (d + 2) y_WD_forge [.ref 0, .int x1, .int x2] σ (am_Ri K) := by
  unfold w_WD_forge at h
  refine am_begin (vs := [.ref 0, .int x1, .int x2]) c_WD_forge (by decide +kernel) rfl rfl rfl rfl ?_
  refine r_aload_n d_WD_forge_0 rfl ?_
  refine r_getR d_WD_forge_1 f_WD_64 kd_0 rfl lk_0_8 ?_
  refine r_iload_n d_WD_forge_4 rfl ?_
  refine r_virtI [.int x1] [] d_WD_forge_5 v_WD_302 rfl rfl cn_28 rfl (t_WL_has h) (fun r1 τ1 h => ?_)
  refine r_if2 21 (r1 = (nI 0)) d_WD_forge_8 (by decide) rfl (fun c2 => ?_) (fun c2 => ?_)
  · have h := h.1 c2
    refine r_aload_n d_WD_forge_21 rfl ?_
    refine r_iconst (nI 1) d_WD_forge_22 (by decide) ?_
    refine r_virtI [.int (nI 1)] [] d_WD_forge_23 v_WD_102 rfl rfl cn_0 rfl (t_WD_deny h) (fun r3 τ3 h => ?_)
    exact r_zret d_WD_forge_26 h
  · have h := h.2 c2
    refine r_iload_n d_WD_forge_11 rfl ?_
    refine r_if2 21 (x2 < (nI 0)) d_WD_forge_12 (by decide) rfl (fun c4 => ?_) (fun c4 => ?_)
    · have h := h.1 c4
      refine r_aload_n d_WD_forge_21 rfl ?_
      refine r_iconst (nI 1) d_WD_forge_22 (by decide) ?_
      refine r_virtI [.int (nI 1)] [] d_WD_forge_23 v_WD_102 rfl rfl cn_0 rfl (t_WD_deny h) (fun r5 τ5 h => ?_)
      exact r_zret d_WD_forge_26 h
    · have h := h.2 c4
      refine r_iload_n d_WD_forge_15 rfl ?_
      refine r_bipush (nI 31) d_WD_forge_16 (by decide) ?_
      refine r_icmp2 27 (x2 ≤ (nI 31)) d_WD_forge_18 (by decide) rfl (fun c6 => ?_) (fun c6 => ?_)
      · have h := h.1 c6
        refine r_aload_n d_WD_forge_27 rfl ?_
        refine r_getR d_WD_forge_28 f_WD_64 kd_0 rfl lk_0_8 ?_
        refine r_getR d_WD_forge_31 f_WD_303 kd_28 rfl lk_28_0 ?_
        refine r_iload_n d_WD_forge_34 rfl ?_
        refine r_dup2 d_WD_forge_35 rfl rfl ?_
        refine r_iald d_WD_forge_36 ce_29 ⟨h.1, ?_⟩
        have h := h.2
        refine r_iconst (nI 1) d_WD_forge_37 (by decide) ?_
        refine r_iload_n d_WD_forge_38 rfl ?_
        refine r_ishl d_WD_forge_39 ?_
        refine r_ixor d_WD_forge_40 ?_
        refine r_iast d_WD_forge_41 ce_29 ⟨h.1, ?_⟩
        have h := h.2
        refine r_aload_n d_WD_forge_42 rfl ?_
        refine r_iconst (nI 1) d_WD_forge_43 (by decide) ?_
        refine r_virtI [.int (nI 1)] [] d_WD_forge_44 v_WD_112 rfl rfl cn_0 rfl (t_WD_grant h) (fun r7 τ7 h => ?_)
        exact r_zret d_WD_forge_47 h
      · have h := h.2 c6
        refine r_aload_n d_WD_forge_21 rfl ?_
        refine r_iconst (nI 1) d_WD_forge_22 (by decide) ?_
        refine r_virtI [.int (nI 1)] [] d_WD_forge_23 v_WD_102 rfl rfl cn_0 rfl (t_WD_deny h) (fun r8 τ8 h => ?_)
        exact r_zret d_WD_forge_26 h
abbrev R_WL_isLikeOneAhead (d : Nat) (K : Int32 → am_S → Prop) (pc : Nat) (vs st : List Value) (σ : am_S) : Prop := am_r (am_run (d + 0)) "WheelDisc$WordList" (some .boolean) prog_11_method_5_code (am_Ri K) pc vs st σ
def w_WL_isLikeOneAhead (x1 : Int32) (σ : am_S) (K : Int32 → am_S → Prop) : Prop := ∀ d : Nat, am_run (d + 1) y_WL_isLikeOneAhead [.ref 28, .int x1] σ (am_Ri K)
theorem t_WL_isLikeOneAhead {d : Nat} {x1 : Int32}  {σ : am_S} {K : Int32 → am_S → Prop} (h : w_WL_isLikeOneAhead x1 σ K) : am_run (d + 1) y_WL_isLikeOneAhead [.ref 28, .int x1] σ (am_Ri K) := h d
theorem e_WL_isLikeOneAhead {x1 : Int32}  {σ : am_S} {K : Int32 → am_S → Prop} (h : ∀ d : Nat, R_WL_isLikeOneAhead d K 2 [.ref 28, .int x1, .int (nI 0)] [] σ) : w_WL_isLikeOneAhead x1 σ K := by
  intro d
  have h := h d
  refine am_begin (vs := [.ref 28, .int x1, .null]) c_WL_isLikeOneAhead (by decide +kernel) rfl rfl rfl rfl ?_
  refine r_iconst (nI 0) d_WL_isLikeOneAhead_0 (by decide) ?_
  refine r_istore_n (vs' := [.ref 28, .int x1, .int (nI 0)]) d_WL_isLikeOneAhead_1 rfl rfl ?_
  exact h
theorem l_WL_isLikeOneAhead_2 {d : Nat}  {x1 : Int32} {x2 : Int32}  {σ : am_S} {K : Int32 → am_S → Prop} (h : (am_ite (x1 ≤ x2) (K (nI 0) σ) (vp_in x2 512 ∧ (vp_in x1 512 ∧ (am_ite (¬ (σ.1 29 (Int32.toNatClampNeg x2)) = (σ.1 29 (Int32.toNatClampNeg x1))) (R_WL_isLikeOneAhead d K 2 [.ref 28, .int x1, .int (x2 + nI 1)] [] σ) (K (nI 1) σ)))))) : R_WL_isLikeOneAhead d K 2 [.ref 28, .int x1, .int x2] [] σ := by
  refine r_iload_n d_WL_isLikeOneAhead_2 rfl ?_
  refine r_iload_n d_WL_isLikeOneAhead_3 rfl ?_
  refine r_icmp2 30 (x1 ≤ x2) d_WL_isLikeOneAhead_4 (by decide) rfl (fun c1 => ?_) (fun c1 => ?_)
  · have h := h.1 c1
    refine r_iconst (nI 0) d_WL_isLikeOneAhead_30 (by decide) ?_
    exact r_zret0 d_WL_isLikeOneAhead_31 h
  · have h := h.2 c1
    refine r_aload_n d_WL_isLikeOneAhead_7 rfl ?_
    refine r_getR d_WL_isLikeOneAhead_8 f_WL_11 kd_28 rfl lk_28_0 ?_
    refine r_iload_n d_WL_isLikeOneAhead_11 rfl ?_
    refine r_iald d_WL_isLikeOneAhead_12 ce_29 ⟨h.1, ?_⟩
    have h := h.2
    refine r_aload_n d_WL_isLikeOneAhead_13 rfl ?_
    refine r_getR d_WL_isLikeOneAhead_14 f_WL_11 kd_28 rfl lk_28_0 ?_
    refine r_iload_n d_WL_isLikeOneAhead_17 rfl ?_
    refine r_iald d_WL_isLikeOneAhead_18 ce_29 ⟨h.1, ?_⟩
    have h := h.2
    refine r_icmp2 24 (¬ (σ.1 29 (Int32.toNatClampNeg x2)) = (σ.1 29 (Int32.toNatClampNeg x1))) d_WL_isLikeOneAhead_19 (by decide) rfl (fun c2 => ?_) (fun c2 => ?_)
    · have h := h.1 c2
      refine r_inc1 (vs' := [.ref 28, .int x1, .int (x2 + nI 1)]) d_WL_isLikeOneAhead_24 rfl rfl rfl ?_
      refine r_goto 2 d_WL_isLikeOneAhead_27 (by decide) ?_
      exact h
    · have h := h.2 c2
      refine r_iconst (nI 1) d_WL_isLikeOneAhead_22 (by decide) ?_
      exact r_zret1 d_WL_isLikeOneAhead_23 h
def w_WL_isSingleStep (x1 : Int32) (σ : am_S) (K : Int32 → am_S → Prop) : Prop := (vp_in x1 512 ∧ (w_WD_stepRound x1 (-1) (σ.1 28 1) σ (fun r1 τ1 => (vp_in r1 512 ∧ (w_Int_bitCount ((σ.1 29 (Int32.toNatClampNeg x1)) ^^^ (τ1.1 29 (Int32.toNatClampNeg r1))) τ1 (fun r2 τ2 => (am_ite (¬ r2 = (nI 1)) (K (nI 0) τ2) (K (nI 1) τ2))))))))
theorem t_WL_isSingleStep {d : Nat} {x1 : Int32}  {σ : am_S} {K : Int32 → am_S → Prop} (h : w_WL_isSingleStep x1 σ K) : am_run (d + 2) y_WL_isSingleStep [.ref 28, .int x1] σ (am_Ri K) := by
  unfold w_WL_isSingleStep at h
  refine am_begin (vs := [.ref 28, .int x1]) c_WL_isSingleStep (by decide +kernel) rfl rfl rfl rfl ?_
  refine r_aload_n d_WL_isSingleStep_0 rfl ?_
  refine r_getR d_WL_isSingleStep_1 f_WL_11 kd_28 rfl lk_28_0 ?_
  refine r_iload_n d_WL_isSingleStep_4 rfl ?_
  refine r_iald d_WL_isSingleStep_5 ce_29 ⟨h.1, ?_⟩
  have h := h.2
  refine r_aload_n d_WL_isSingleStep_6 rfl ?_
  refine r_getR d_WL_isSingleStep_7 f_WL_11 kd_28 rfl lk_28_0 ?_
  refine r_iload_n d_WL_isSingleStep_10 rfl ?_
  refine r_iconst (-1) d_WL_isSingleStep_11 (by decide) ?_
  refine r_aload_n d_WL_isSingleStep_12 rfl ?_
  refine r_getI d_WL_isSingleStep_13 f_WL_15 kd_28 rfl ?_
  refine r_statI [.int x1, .int (-1), .int (σ.1 28 1)] [.ref 29, .int (σ.1 29 (Int32.toNatClampNeg x1))] d_WL_isSingleStep_16 s_WL_26 rfl rfl rfl (t_WD_stepRound h) (fun r1 τ1 h => ?_)
  refine r_iald d_WL_isSingleStep_19 ce_29 ⟨h.1, ?_⟩
  have h := h.2
  refine r_ixor d_WL_isSingleStep_20 ?_
  refine r_statI [.int ((σ.1 29 (Int32.toNatClampNeg x1)) ^^^ (τ1.1 29 (Int32.toNatClampNeg r1)))] [] d_WL_isSingleStep_21 s_WL_30 rfl rfl rfl (t_Int_bitCount h) (fun r2 τ2 h => ?_)
  refine r_iconst (nI 1) d_WL_isSingleStep_24 (by decide) ?_
  refine r_icmp2 32 (¬ r2 = (nI 1)) d_WL_isSingleStep_25 (by decide) rfl (fun c3 => ?_) (fun c3 => ?_)
  · have h := h.1 c3
    refine r_iconst (nI 0) d_WL_isSingleStep_32 (by decide) ?_
    exact r_zret0 d_WL_isSingleStep_33 h
  · have h := h.2 c3
    refine r_iconst (nI 1) d_WL_isSingleStep_28 (by decide) ?_
    refine r_goto 33 d_WL_isSingleStep_29 (by decide) ?_
    exact r_zret1 d_WL_isSingleStep_33 h
abbrev R_WL_firstWrong (d : Nat) (K : Int32 → am_S → Prop) (pc : Nat) (vs st : List Value) (σ : am_S) : Prop := am_r (am_run (d + 2)) "WheelDisc$WordList" (some .int) prog_11_method_4_code (am_Ri K) pc vs st σ
def w_WL_firstWrong (x1 : Int32) (σ : am_S) (K : Int32 → am_S → Prop) : Prop := ∀ d : Nat, am_run (d + 3) y_WL_firstWrong [.ref 28, .int x1] σ (am_Ri K)
theorem t_WL_firstWrong {d : Nat} {x1 : Int32}  {σ : am_S} {K : Int32 → am_S → Prop} (h : w_WL_firstWrong x1 σ K) : am_run (d + 3) y_WL_firstWrong [.ref 28, .int x1] σ (am_Ri K) := h d
theorem e_WL_firstWrong {x1 : Int32}  {σ : am_S} {K : Int32 → am_S → Prop} (h : ∀ d : Nat, R_WL_firstWrong d K 2 [.ref 28, .int x1, .int (nI 0)] [] σ) : w_WL_firstWrong x1 σ K := by
  intro d
  have h := h d
  refine am_begin (vs := [.ref 28, .int x1, .null]) c_WL_firstWrong (by decide +kernel) rfl rfl rfl rfl ?_
  refine r_iconst (nI 0) d_WL_firstWrong_0 (by decide) ?_
  refine r_istore_n (vs' := [.ref 28, .int x1, .int (nI 0)]) d_WL_firstWrong_1 rfl rfl ?_
  exact h
theorem l_WL_firstWrong_2 {d : Nat}  {x1 : Int32} {x2 : Int32}  {σ : am_S} {K : Int32 → am_S → Prop} (h : (am_ite ((σ.1 28 1) ≤ x2) (K (-1) σ) (w_WL_isLikeOneAhead x2 σ (fun r2 τ2 => (am_ite (¬ r2 = (nI 0)) (K x2 τ2) (am_ite (x1 = (nI 0)) (R_WL_firstWrong d K 2 [.ref 28, .int x1, .int (x2 + nI 1)] [] τ2) (w_WL_isSingleStep x2 τ2 (fun r5 τ5 => (am_ite (¬ r5 = (nI 0)) (R_WL_firstWrong d K 2 [.ref 28, .int x1, .int (x2 + nI 1)] [] τ5) (K x2 τ5)))))))))) : R_WL_firstWrong d K 2 [.ref 28, .int x1, .int x2] [] σ := by
  refine r_iload_n d_WL_firstWrong_2 rfl ?_
  refine r_aload_n d_WL_firstWrong_3 rfl ?_
  refine r_getI d_WL_firstWrong_4 f_WL_15 kd_28 rfl ?_
  refine r_icmp2 38 ((σ.1 28 1) ≤ x2) d_WL_firstWrong_7 (by decide) rfl (fun c1 => ?_) (fun c1 => ?_)
  · have h := h.1 c1
    refine r_iconst (-1) d_WL_firstWrong_38 (by decide) ?_
    exact r_iret d_WL_firstWrong_39 h
  · have h := h.2 c1
    refine r_aload_n d_WL_firstWrong_10 rfl ?_
    refine r_iload_n d_WL_firstWrong_11 rfl ?_
    refine r_virtI [.int x2] [] d_WL_firstWrong_12 v_WL_19 rfl rfl cn_28 rfl (t_WL_isLikeOneAhead h) (fun r2 τ2 h => ?_)
    refine r_if2 30 (¬ r2 = (nI 0)) d_WL_firstWrong_15 (by decide) rfl (fun c3 => ?_) (fun c3 => ?_)
    · have h := h.1 c3
      refine r_iload_n d_WL_firstWrong_30 rfl ?_
      exact r_iret d_WL_firstWrong_31 h
    · have h := h.2 c3
      refine r_iload_n d_WL_firstWrong_18 rfl ?_
      refine r_if2 32 (x1 = (nI 0)) d_WL_firstWrong_19 (by decide) rfl (fun c4 => ?_) (fun c4 => ?_)
      · have h := h.1 c4
        refine r_inc1 (vs' := [.ref 28, .int x1, .int (x2 + nI 1)]) d_WL_firstWrong_32 rfl rfl rfl ?_
        refine r_goto 2 d_WL_firstWrong_35 (by decide) ?_
        exact h
      · have h := h.2 c4
        refine r_aload_n d_WL_firstWrong_22 rfl ?_
        refine r_iload_n d_WL_firstWrong_23 rfl ?_
        refine r_virtI [.int x2] [] d_WL_firstWrong_24 v_WL_23 rfl rfl cn_28 rfl (t_WL_isSingleStep h) (fun r5 τ5 h => ?_)
        refine r_if2 32 (¬ r5 = (nI 0)) d_WL_firstWrong_27 (by decide) rfl (fun c6 => ?_) (fun c6 => ?_)
        · have h := h.1 c6
          refine r_inc1 (vs' := [.ref 28, .int x1, .int (x2 + nI 1)]) d_WL_firstWrong_32 rfl rfl rfl ?_
          refine r_goto 2 d_WL_firstWrong_35 (by decide) ?_
          exact h
        · have h := h.2 c6
          refine r_iload_n d_WL_firstWrong_30 rfl ?_
          exact r_iret d_WL_firstWrong_31 h
def w_WD_check (x1 : Int32) (σ : am_S) (K : Int32 → am_S → Prop) : Prop := (am_ite (x1 = (nI 1)) (am_ite (¬ (σ.1 28 1) = (nI 0)) (am_ite (¬ x1 = (nI 2)) (w_WL_firstWrong (nI 0) σ (fun r4 τ4 => (w_WD_accept r4 τ4 (fun r5 τ5 => K r5 τ5)))) (w_WL_firstWrong (nI 1) σ (fun r6 τ6 => (w_WD_accept r6 τ6 (fun r7 τ7 => K r7 τ7))))) (w_WD_refuse (nI 2) σ (fun r8 τ8 => K r8 τ8))) (am_ite (x1 = (nI 2)) (am_ite (¬ (σ.1 28 1) = (nI 0)) (am_ite (¬ x1 = (nI 2)) (w_WL_firstWrong (nI 0) σ (fun r12 τ12 => (w_WD_accept r12 τ12 (fun r13 τ13 => K r13 τ13)))) (w_WL_firstWrong (nI 1) σ (fun r14 τ14 => (w_WD_accept r14 τ14 (fun r15 τ15 => K r15 τ15))))) (w_WD_refuse (nI 2) σ (fun r16 τ16 => K r16 τ16))) (w_WD_refuse (nI 1) σ (fun r17 τ17 => K r17 τ17))))
theorem t_WD_check {d : Nat} {x1 : Int32}  {σ : am_S} {K : Int32 → am_S → Prop} (h : w_WD_check x1 σ K) : am_run (d + 4) y_WD_check [.ref 0, .int x1] σ (am_Ri K) := by
  unfold w_WD_check at h
  refine am_begin (vs := [.ref 0, .int x1]) c_WD_check (by decide +kernel) rfl rfl rfl rfl ?_
  refine r_iload_n d_WD_check_0 rfl ?_
  refine r_iconst (nI 1) d_WD_check_1 (by decide) ?_
  refine r_icmp2 16 (x1 = (nI 1)) d_WD_check_2 (by decide) rfl (fun c1 => ?_) (fun c1 => ?_)
  · have h := h.1 c1
    refine r_aload_n d_WD_check_16 rfl ?_
    refine r_getR d_WD_check_17 f_WD_64 kd_0 rfl lk_0_8 ?_
    refine r_getI d_WD_check_20 f_WD_196 kd_28 rfl ?_
    refine r_if2 32 (¬ (σ.1 28 1) = (nI 0)) d_WD_check_23 (by decide) rfl (fun c2 => ?_) (fun c2 => ?_)
    · have h := h.1 c2
      refine r_aload_n d_WD_check_32 rfl ?_
      refine r_aload_n d_WD_check_33 rfl ?_
      refine r_getR d_WD_check_34 f_WD_64 kd_0 rfl lk_0_8 ?_
      refine r_iload_n d_WD_check_37 rfl ?_
      refine r_iconst (nI 2) d_WD_check_38 (by decide) ?_
      refine r_icmp2 46 (¬ x1 = (nI 2)) d_WD_check_39 (by decide) rfl (fun c3 => ?_) (fun c3 => ?_)
      · have h := h.1 c3
        refine r_iconst (nI 0) d_WD_check_46 (by decide) ?_
        refine r_virtI [.int (nI 0)] [.ref 0] d_WD_check_47 v_WD_304 rfl rfl cn_28 rfl (t_WL_firstWrong h) (fun r4 τ4 h => ?_)
        refine r_virtI [.int r4] [] d_WD_check_50 v_WD_91 rfl rfl cn_0 rfl (t_WD_accept h) (fun r5 τ5 h => ?_)
        exact r_iret d_WD_check_53 h
      · have h := h.2 c3
        refine r_iconst (nI 1) d_WD_check_42 (by decide) ?_
        refine r_goto 47 d_WD_check_43 (by decide) ?_
        refine r_virtI [.int (nI 1)] [.ref 0] d_WD_check_47 v_WD_304 rfl rfl cn_28 rfl (t_WL_firstWrong h) (fun r6 τ6 h => ?_)
        refine r_virtI [.int r6] [] d_WD_check_50 v_WD_91 rfl rfl cn_0 rfl (t_WD_accept h) (fun r7 τ7 h => ?_)
        exact r_iret d_WD_check_53 h
    · have h := h.2 c2
      refine r_aload_n d_WD_check_26 rfl ?_
      refine r_iconst (nI 2) d_WD_check_27 (by decide) ?_
      refine r_virtI [.int (nI 2)] [] d_WD_check_28 v_WD_95 rfl rfl cn_0 rfl (t_WD_refuse h) (fun r8 τ8 h => ?_)
      exact r_iret d_WD_check_31 h
  · have h := h.2 c1
    refine r_iload_n d_WD_check_5 rfl ?_
    refine r_iconst (nI 2) d_WD_check_6 (by decide) ?_
    refine r_icmp2 16 (x1 = (nI 2)) d_WD_check_7 (by decide) rfl (fun c9 => ?_) (fun c9 => ?_)
    · have h := h.1 c9
      refine r_aload_n d_WD_check_16 rfl ?_
      refine r_getR d_WD_check_17 f_WD_64 kd_0 rfl lk_0_8 ?_
      refine r_getI d_WD_check_20 f_WD_196 kd_28 rfl ?_
      refine r_if2 32 (¬ (σ.1 28 1) = (nI 0)) d_WD_check_23 (by decide) rfl (fun c10 => ?_) (fun c10 => ?_)
      · have h := h.1 c10
        refine r_aload_n d_WD_check_32 rfl ?_
        refine r_aload_n d_WD_check_33 rfl ?_
        refine r_getR d_WD_check_34 f_WD_64 kd_0 rfl lk_0_8 ?_
        refine r_iload_n d_WD_check_37 rfl ?_
        refine r_iconst (nI 2) d_WD_check_38 (by decide) ?_
        refine r_icmp2 46 (¬ x1 = (nI 2)) d_WD_check_39 (by decide) rfl (fun c11 => ?_) (fun c11 => ?_)
        · have h := h.1 c11
          refine r_iconst (nI 0) d_WD_check_46 (by decide) ?_
          refine r_virtI [.int (nI 0)] [.ref 0] d_WD_check_47 v_WD_304 rfl rfl cn_28 rfl (t_WL_firstWrong h) (fun r12 τ12 h => ?_)
          refine r_virtI [.int r12] [] d_WD_check_50 v_WD_91 rfl rfl cn_0 rfl (t_WD_accept h) (fun r13 τ13 h => ?_)
          exact r_iret d_WD_check_53 h
        · have h := h.2 c11
          refine r_iconst (nI 1) d_WD_check_42 (by decide) ?_
          refine r_goto 47 d_WD_check_43 (by decide) ?_
          refine r_virtI [.int (nI 1)] [.ref 0] d_WD_check_47 v_WD_304 rfl rfl cn_28 rfl (t_WL_firstWrong h) (fun r14 τ14 h => ?_)
          refine r_virtI [.int r14] [] d_WD_check_50 v_WD_91 rfl rfl cn_0 rfl (t_WD_accept h) (fun r15 τ15 h => ?_)
          exact r_iret d_WD_check_53 h
      · have h := h.2 c10
        refine r_aload_n d_WD_check_26 rfl ?_
        refine r_iconst (nI 2) d_WD_check_27 (by decide) ?_
        refine r_virtI [.int (nI 2)] [] d_WD_check_28 v_WD_95 rfl rfl cn_0 rfl (t_WD_refuse h) (fun r16 τ16 h => ?_)
        exact r_iret d_WD_check_31 h
    · have h := h.2 c9
      refine r_aload_n d_WD_check_10 rfl ?_
      refine r_iconst (nI 1) d_WD_check_11 (by decide) ?_
      refine r_virtI [.int (nI 1)] [] d_WD_check_12 v_WD_95 rfl rfl cn_0 rfl (t_WD_refuse h) (fun r17 τ17 h => ?_)
      exact r_iret d_WD_check_15 h
def w_WD_clear  (σ : am_S) (K : Int32 → am_S → Prop) : Prop := (w_WD_accept (σ.1 28 1) (am_upI σ 28 1 (nI 0)) (fun r1 τ1 => K r1 τ1))
theorem t_WD_clear {d : Nat}   {σ : am_S} {K : Int32 → am_S → Prop} (h : w_WD_clear  σ K) : am_run (d + 2) y_WD_clear [.ref 0] σ (am_Ri K) := by
  unfold w_WD_clear at h
  refine am_begin (vs := [.ref 0, .null]) c_WD_clear (by decide +kernel) rfl rfl rfl rfl ?_
  refine r_aload_n d_WD_clear_0 rfl ?_
  refine r_getR d_WD_clear_1 f_WD_64 kd_0 rfl lk_0_8 ?_
  refine r_getI d_WD_clear_4 f_WD_196 kd_28 rfl ?_
  refine r_istore_n (vs' := [.ref 0, .int (σ.1 28 1)]) d_WD_clear_7 rfl rfl ?_
  refine r_aload_n d_WD_clear_8 rfl ?_
  refine r_getR d_WD_clear_9 f_WD_64 kd_0 rfl lk_0_8 ?_
  refine r_iconst (nI 0) d_WD_clear_12 (by decide) ?_
  refine r_putI d_WD_clear_13 f_WD_196 kd_28 rfl ?_
  refine r_aload_n d_WD_clear_16 rfl ?_
  refine r_iload_n d_WD_clear_17 rfl ?_
  refine r_virtI [.int (σ.1 28 1)] [] d_WD_clear_18 v_WD_91 rfl rfl cn_0 rfl (t_WD_accept h) (fun r1 τ1 h => ?_)
  exact r_iret d_WD_clear_21 h
