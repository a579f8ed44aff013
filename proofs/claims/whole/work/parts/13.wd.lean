def w_WD_form (x1 : Int32) (σ : am_S) (K : Int32 → am_S → Prop) : Prop := (w_Disc_hasSector x1 σ (fun r1 τ1 => (am_ite (¬ r1 = (nI 0)) (w_WD_formed  τ1 (fun τ3 => (vp_in x1 512 ∧ (w_WD_accept (τ3.1 14 (Int32.toNatClampNeg x1)) τ3 (fun r4 τ4 => K r4 τ4))))) (w_WD_refuse (nI 1) τ1 (fun r5 τ5 => K r5 τ5)))))
theorem t_WD_form {d : Nat} {x1 : Int32}  {σ : am_S} {K : Int32 → am_S → Prop} (h : w_WD_form x1 σ K) : am_run (d + 7) y_WD_form [.ref 0, .int x1] σ (am_Ri K) := by
  unfold w_WD_form at h
  refine am_begin (vs := [.ref 0, .int x1]) c_WD_form (by decide +kernel) rfl rfl rfl rfl ?_
  refine r_aload_n d_WD_form_0 rfl ?_
  refine r_getR d_WD_form_1 f_WD_19 kd_0 rfl lk_0_1 ?_
  refine r_iload_n d_WD_form_4 rfl ?_
  refine r_virtI [.int x1] [] d_WD_form_5 v_WD_146 rfl rfl cn_3 rfl (t_Disc_hasSector h) (fun r1 τ1 h => ?_)
  refine r_if2 17 (¬ r1 = (nI 0)) d_WD_form_8 (by decide) rfl (fun c2 => ?_) (fun c2 => ?_)
  · have h := h.1 c2
    refine r_aload_n d_WD_form_17 rfl ?_
    refine r_aload_n d_WD_form_18 rfl ?_
    refine r_virtR [] [.ref 0] d_WD_form_19 v_WD_234 rfl rfl cn_0 rfl (t_WD_formed h) (fun τ3 h => ?_)
    refine r_getR d_WD_form_22 f_WD_238 kd_13 rfl lk_13_0 ?_
    refine r_iload_n d_WD_form_25 rfl ?_
    refine r_iald d_WD_form_26 ce_14 ⟨h.1, ?_⟩
    have h := h.2
    refine r_virtI [.int (τ3.1 14 (Int32.toNatClampNeg x1))] [] d_WD_form_27 v_WD_91 rfl rfl cn_0 rfl (t_WD_accept h) (fun r4 τ4 h => ?_)
    exact r_iret d_WD_form_30 h
  · have h := h.2 c2
    refine r_aload_n d_WD_form_11 rfl ?_
    refine r_iconst (nI 1) d_WD_form_12 (by decide) ?_
    refine r_virtI [.int (nI 1)] [] d_WD_form_13 v_WD_95 rfl rfl cn_0 rfl (t_WD_refuse h) (fun r5 τ5 h => ?_)
    exact r_iret d_WD_form_16 h
def w_Form_become  (σ : am_S) (K : am_S → Prop) : Prop := ((¬ (nI 0) < 0 ∧ ¬ (nI 0) < 0 ∧ ¬ (σ.1 13 3) < 0 ∧ (Int32.toNatClampNeg (nI 0)) + (Int32.toNatClampNeg (σ.1 13 3)) ≤ 512 ∧ (Int32.toNatClampNeg (nI 0)) + (Int32.toNatClampNeg (σ.1 13 3)) ≤ 512) ∧ K (am_cpI (am_upI (am_upI σ 17 3 (σ.1 13 3)) 17 4 (σ.1 13 4)) 14 18 0 0 (Int32.toNatClampNeg (σ.1 13 3))))
theorem t_Form_become {d : Nat}   {σ : am_S} {K : am_S → Prop} (h : w_Form_become  σ K) : am_run (d + 1) y_Form_become [.ref 17, .ref 13] σ (am_Rv K) := by
  unfold w_Form_become at h
  refine am_begin (vs := [.ref 17, .ref 13]) c_Form_become (by decide +kernel) rfl rfl rfl rfl ?_
  refine r_aload_n d_Form_become_0 rfl ?_
  refine r_aload_n d_Form_become_1 rfl ?_
  refine r_getI d_Form_become_2 f_Form_22 kd_13 rfl ?_
  refine r_putI d_Form_become_5 f_Form_22 kd_17 rfl ?_
  refine r_aload_n d_Form_become_8 rfl ?_
  refine r_aload_n d_Form_become_9 rfl ?_
  refine r_getI d_Form_become_10 f_Form_26 kd_13 rfl ?_
  refine r_putI d_Form_become_13 f_Form_26 kd_17 rfl ?_
  refine r_aload_n d_Form_become_16 rfl ?_
  refine r_getR d_Form_become_17 f_Form_9 kd_13 rfl lk_13_0 ?_
  refine r_iconst (nI 0) d_Form_become_20 (by decide) ?_
  refine r_aload_n d_Form_become_21 rfl ?_
  refine r_getR d_Form_become_22 f_Form_9 kd_17 rfl lk_17_0 ?_
  refine r_iconst (nI 0) d_Form_become_25 (by decide) ?_
  refine r_aload_n d_Form_become_26 rfl ?_
  refine r_getI d_Form_become_27 f_Form_22 kd_17 rfl ?_
  refine r_cpI (t := 0) d_Form_become_30 a_Form_33 ce_14 ce_18 rfl ⟨h.1, ?_⟩
  have h := h.2
  exact r_vret d_Form_become_33 h
def w_WD_keep  (σ : am_S) (K : Int32 → am_S → Prop) : Prop := (w_WD_formed  σ (fun τ1 => (w_Form_become  τ1 (fun τ2 => (w_WD_grant (nI 1) (am_upI τ2 0 11 (nI 1)) (fun r3 τ3 => ((r3 = nI 0 ∨ r3 = nI 1) ∧ K r3 τ3)))))))
theorem t_WD_keep {d : Nat}   {σ : am_S} {K : Int32 → am_S → Prop} (h : w_WD_keep  σ K) : am_run (d + 7) y_WD_keep [.ref 0] σ (am_Ri K) := by
  unfold w_WD_keep at h
  refine am_begin (vs := [.ref 0]) c_WD_keep (by decide +kernel) rfl rfl rfl rfl ?_
  refine r_aload_n d_WD_keep_0 rfl ?_
  refine r_getR d_WD_keep_1 f_WD_44 kd_0 rfl lk_0_5 ?_
  refine r_aload_n d_WD_keep_4 rfl ?_
  refine r_virtR [] [.ref 17] d_WD_keep_5 v_WD_234 rfl rfl cn_0 rfl (t_WD_formed h) (fun τ1 h => ?_)
  refine r_virtV [.ref 13] [] d_WD_keep_8 v_WD_241 rfl rfl cn_17 rfl (t_Form_become h) (fun τ2 h => ?_)
  refine r_aload_n d_WD_keep_11 rfl ?_
  refine r_iconst (nI 1) d_WD_keep_12 (by decide) ?_
  refine r_putZ d_WD_keep_13 f_WD_79 kd_0 rfl ⟨Or.inr rfl, ?_⟩
  refine r_aload_n d_WD_keep_16 rfl ?_
  refine r_iconst (nI 1) d_WD_keep_17 (by decide) ?_
  refine r_virtI [.int (nI 1)] [] d_WD_keep_18 v_WD_112 rfl rfl cn_0 rfl (t_WD_grant h) (fun r3 τ3 h => ?_)
  exact r_zret d_WD_keep_21 h
abbrev R_Form_isLike (d : Nat) (K : Int32 → am_S → Prop) (pc : Nat) (vs st : List Value) (σ : am_S) : Prop := am_r (am_run (d + 0)) "WheelDisc$Form" (some .boolean) prog_4_method_3_code (am_Ri K) pc vs st σ
def w_Form_isLike  (σ : am_S) (K : Int32 → am_S → Prop) : Prop := ∀ d : Nat, am_run (d + 1) y_Form_isLike [.ref 13, .ref 17] σ (am_Ri K)
theorem t_Form_isLike {d : Nat}   {σ : am_S} {K : Int32 → am_S → Prop} (h : w_Form_isLike  σ K) : am_run (d + 1) y_Form_isLike [.ref 13, .ref 17] σ (am_Ri K) := h d
theorem e_Form_isLike   {σ : am_S} {K : Int32 → am_S → Prop} (h : ∀ d : Nat, (am_ite (¬ (σ.1 13 3) = (σ.1 17 3)) (K (nI 0) σ) (am_ite ((σ.1 13 4) = (σ.1 17 4)) (R_Form_isLike d K 26 [.ref 13, .ref 17, .int (nI 0)] [] σ) (K (nI 0) σ)))) : w_Form_isLike  σ K := by
  intro d
  have h := h d
  refine am_begin (vs := [.ref 13, .ref 17, .null]) c_Form_isLike (by decide +kernel) rfl rfl rfl rfl ?_
  refine r_aload_n d_Form_isLike_0 rfl ?_
  refine r_getI d_Form_isLike_1 f_Form_22 kd_13 rfl ?_
  refine r_aload_n d_Form_isLike_4 rfl ?_
  refine r_getI d_Form_isLike_5 f_Form_22 kd_17 rfl ?_
  refine r_icmp2 22 (¬ (σ.1 13 3) = (σ.1 17 3)) d_Form_isLike_8 (by decide) rfl (fun c1 => ?_) (fun c1 => ?_)
  · have h := h.1 c1
    refine r_iconst (nI 0) d_Form_isLike_22 (by decide) ?_
    exact r_zret0 d_Form_isLike_23 h
  · have h := h.2 c1
    refine r_aload_n d_Form_isLike_11 rfl ?_
    refine r_getI d_Form_isLike_12 f_Form_26 kd_13 rfl ?_
    refine r_aload_n d_Form_isLike_15 rfl ?_
    refine r_getI d_Form_isLike_16 f_Form_26 kd_17 rfl ?_
    refine r_icmp2 24 ((σ.1 13 4) = (σ.1 17 4)) d_Form_isLike_19 (by decide) rfl (fun c2 => ?_) (fun c2 => ?_)
    · have h := h.1 c2
      refine r_iconst (nI 0) d_Form_isLike_24 (by decide) ?_
      refine r_istore_n (vs' := [.ref 13, .ref 17, .int (nI 0)]) d_Form_isLike_25 rfl rfl ?_
      exact h
    · have h := h.2 c2
      refine r_iconst (nI 0) d_Form_isLike_22 (by decide) ?_
      exact r_zret0 d_Form_isLike_23 h
theorem l_Form_isLike_26 {d : Nat}  {x2 : Int32}  {σ : am_S} {K : Int32 → am_S → Prop} (h : (am_ite ((σ.1 13 3) ≤ x2) (K (nI 1) σ) (vp_in x2 512 ∧ (vp_in x2 512 ∧ (am_ite ((σ.1 14 (Int32.toNatClampNeg x2)) = (σ.1 18 (Int32.toNatClampNeg x2))) (R_Form_isLike d K 26 [.ref 13, .ref 17, .int (x2 + nI 1)] [] σ) (K (nI 0) σ)))))) : R_Form_isLike d K 26 [.ref 13, .ref 17, .int x2] [] σ := by
  refine r_iload_n d_Form_isLike_26 rfl ?_
  refine r_aload_n d_Form_isLike_27 rfl ?_
  refine r_getI d_Form_isLike_28 f_Form_22 kd_13 rfl ?_
  refine r_icmp2 57 ((σ.1 13 3) ≤ x2) d_Form_isLike_31 (by decide) rfl (fun c3 => ?_) (fun c3 => ?_)
  · have h := h.1 c3
    refine r_iconst (nI 1) d_Form_isLike_57 (by decide) ?_
    exact r_zret1 d_Form_isLike_58 h
  · have h := h.2 c3
    refine r_aload_n d_Form_isLike_34 rfl ?_
    refine r_getR d_Form_isLike_35 f_Form_9 kd_13 rfl lk_13_0 ?_
    refine r_iload_n d_Form_isLike_38 rfl ?_
    refine r_iald d_Form_isLike_39 ce_14 ⟨h.1, ?_⟩
    have h := h.2
    refine r_aload_n d_Form_isLike_40 rfl ?_
    refine r_getR d_Form_isLike_41 f_Form_9 kd_17 rfl lk_17_0 ?_
    refine r_iload_n d_Form_isLike_44 rfl ?_
    refine r_iald d_Form_isLike_45 ce_18 ⟨h.1, ?_⟩
    have h := h.2
    refine r_icmp2 51 ((σ.1 14 (Int32.toNatClampNeg x2)) = (σ.1 18 (Int32.toNatClampNeg x2))) d_Form_isLike_46 (by decide) rfl (fun c4 => ?_) (fun c4 => ?_)
    · have h := h.1 c4
      refine r_inc1 (vs' := [.ref 13, .ref 17, .int (x2 + nI 1)]) d_Form_isLike_51 rfl rfl rfl ?_
      refine r_goto 26 d_Form_isLike_54 (by decide) ?_
      exact h
    · have h := h.2 c4
      refine r_iconst (nI 0) d_Form_isLike_49 (by decide) ?_
      exact r_zret0 d_Form_isLike_50 h
def w_WD_same  (σ : am_S) (K : Int32 → am_S → Prop) : Prop := (am_ite (¬ (σ.1 0 11) = (nI 0)) (w_WD_formed  σ (fun τ2 => (w_Form_isLike  τ2 (fun r3 τ3 => (w_WD_grant r3 τ3 (fun r4 τ4 => ((r4 = nI 0 ∨ r4 = nI 1) ∧ K r4 τ4))))))) (w_WD_deny (nI 2) σ (fun r5 τ5 => ((r5 = nI 0 ∨ r5 = nI 1) ∧ K r5 τ5))))
theorem t_WD_same {d : Nat}   {σ : am_S} {K : Int32 → am_S → Prop} (h : w_WD_same  σ K) : am_run (d + 7) y_WD_same [.ref 0] σ (am_Ri K) := by
  unfold w_WD_same at h
  refine am_begin (vs := [.ref 0]) c_WD_same (by decide +kernel) rfl rfl rfl rfl ?_
  refine r_aload_n d_WD_same_0 rfl ?_
  refine r_getI d_WD_same_1 f_WD_79 kd_0 rfl ?_
  refine r_if2 13 (¬ (σ.1 0 11) = (nI 0)) d_WD_same_4 (by decide) rfl (fun c1 => ?_) (fun c1 => ?_)
  · have h := h.1 c1
    refine r_aload_n d_WD_same_13 rfl ?_
    refine r_aload_n d_WD_same_14 rfl ?_
    refine r_virtR [] [.ref 0] d_WD_same_15 v_WD_234 rfl rfl cn_0 rfl (t_WD_formed h) (fun τ2 h => ?_)
    refine r_aload_n d_WD_same_18 rfl ?_
    refine r_getR d_WD_same_19 f_WD_44 kd_0 rfl lk_0_5 ?_
    refine r_virtI [.ref 17] [.ref 0] d_WD_same_22 v_WD_244 rfl rfl cn_13 rfl (t_Form_isLike h) (fun r3 τ3 h => ?_)
    refine r_virtI [.int r3] [] d_WD_same_25 v_WD_112 rfl rfl cn_0 rfl (t_WD_grant h) (fun r4 τ4 h => ?_)
    exact r_zret d_WD_same_28 h
  · have h := h.2 c1
    refine r_aload_n d_WD_same_7 rfl ?_
    refine r_iconst (nI 2) d_WD_same_8 (by decide) ?_
    refine r_virtI [.int (nI 2)] [] d_WD_same_9 v_WD_102 rfl rfl cn_0 rfl (t_WD_deny h) (fun r5 τ5 h => ?_)
    exact r_zret d_WD_same_12 h
abbrev R_Maker_makeGray (d : Nat) (K : am_S → Prop) (pc : Nat) (vs st : List Value) (σ : am_S) : Prop := am_r (am_run (d + 2)) "WheelDisc$Maker" none prog_6_method_2_code (am_Rv K) pc vs st σ
def w_Maker_makeGray (x1 : Int32) (x2 : Int32) (σ : am_S) (K : am_S → Prop) : Prop := ∀ d : Nat, am_run (d + 3) y_Maker_makeGray [.ref 3, .int x1, .int x2] σ (am_Rv K)
theorem t_Maker_makeGray {d : Nat} {x1 : Int32} {x2 : Int32}  {σ : am_S} {K : am_S → Prop} (h : w_Maker_makeGray x1 x2 σ K) : am_run (d + 3) y_Maker_makeGray [.ref 3, .int x1, .int x2] σ (am_Rv K) := h d
theorem e_Maker_makeGray {x1 : Int32} {x2 : Int32}  {σ : am_S} {K : am_S → Prop} (h : ∀ d : Nat, R_Maker_makeGray d K 2 [.ref 3, .int x1, .int x2, .int (nI 4), .null, .null, .null, .null] [] σ) : w_Maker_makeGray x1 x2 σ K := by
  intro d
  have h := h d
  refine am_begin (vs := [.ref 3, .int x1, .int x2, .null, .null, .null, .null, .null]) c_Maker_makeGray (by decide +kernel) rfl rfl rfl rfl ?_
  refine r_iconst (nI 4) d_Maker_makeGray_0 (by decide) ?_
  refine r_istore_n (vs' := [.ref 3, .int x1, .int x2, .int (nI 4), .null, .null, .null, .null]) d_Maker_makeGray_1 rfl rfl ?_
  exact h
theorem l_Maker_makeGray_2 {d : Nat}  {x1 : Int32} {x2 : Int32} {x3 : Int32}  {σ : am_S} {K : am_S → Prop} (h : (am_ite (x1 ≤ x3) (w_Disc_empty x1 σ (fun τ2 => R_Maker_makeGray d K 29 [.ref 3, .int x1, .int x2, .int x3, .int (nI 0), .null, .null, .null] [] τ2)) (am_ite ((nI 512) ≤ x3) (w_Disc_empty x1 σ (fun τ4 => R_Maker_makeGray d K 29 [.ref 3, .int x1, .int x2, .int x3, .int (nI 0), .null, .null, .null] [] τ4)) (R_Maker_makeGray d K 2 [.ref 3, .int x1, .int x2, .int (x3 * (nI 2)), .null, .null, .null, .null] [] σ)))) : R_Maker_makeGray d K 2 [.ref 3, .int x1, .int x2, .int x3, .null, .null, .null, .null] [] σ := by
  refine r_iload_n d_Maker_makeGray_2 rfl ?_
  refine r_iload_n d_Maker_makeGray_3 rfl ?_
  refine r_icmp2 21 (x1 ≤ x3) d_Maker_makeGray_4 (by decide) rfl (fun c1 => ?_) (fun c1 => ?_)
  · have h := h.1 c1
    refine r_aload_n d_Maker_makeGray_21 rfl ?_
    refine r_iload_n d_Maker_makeGray_22 rfl ?_
    refine r_virtV [.int x1] [] d_Maker_makeGray_23 v_Maker_9 rfl rfl cn_3 rfl (t_Disc_empty h) (fun τ2 h => ?_)
    refine r_iconst (nI 0) d_Maker_makeGray_26 (by decide) ?_
    refine r_istore (vs' := [.ref 3, .int x1, .int x2, .int x3, .int (nI 0), .null, .null, .null]) d_Maker_makeGray_27 rfl rfl ?_
    exact h
  · have h := h.2 c1
    refine r_iload_n d_Maker_makeGray_7 rfl ?_
    refine r_sipush (nI 512) d_Maker_makeGray_8 (by decide) ?_
    refine r_icmp2 21 ((nI 512) ≤ x3) d_Maker_makeGray_11 (by decide) rfl (fun c3 => ?_) (fun c3 => ?_)
    · have h := h.1 c3
      refine r_aload_n d_Maker_makeGray_21 rfl ?_
      refine r_iload_n d_Maker_makeGray_22 rfl ?_
      refine r_virtV [.int x1] [] d_Maker_makeGray_23 v_Maker_9 rfl rfl cn_3 rfl (t_Disc_empty h) (fun τ4 h => ?_)
      refine r_iconst (nI 0) d_Maker_makeGray_26 (by decide) ?_
      refine r_istore (vs' := [.ref 3, .int x1, .int x2, .int x3, .int (nI 0), .null, .null, .null]) d_Maker_makeGray_27 rfl rfl ?_
      exact h
    · have h := h.2 c3
      refine r_iload_n d_Maker_makeGray_14 rfl ?_
      refine r_iconst (nI 2) d_Maker_makeGray_15 (by decide) ?_
      refine r_imul d_Maker_makeGray_16 ?_
      refine r_istore_n (vs' := [.ref 3, .int x1, .int x2, .int (x3 * (nI 2)), .null, .null, .null, .null]) d_Maker_makeGray_17 rfl rfl ?_
      refine r_goto 2 d_Maker_makeGray_18 (by decide) ?_
      exact h
theorem l_Maker_makeGray_29 {d : Nat}  {x1 : Int32} {x2 : Int32} {x3 : Int32} {x4 : Int32}  {σ : am_S} {K : am_S → Prop} (h : (am_ite (x2 ≤ x4) (R_Maker_makeGray d K 61 [.ref 3, .int x1, .int x2, .null, .int ((x3 - x1) / (nI 2)), .int (nI 0), .null, .null] [] σ) (w_Disc_addDarkTrack  σ (fun r6 τ6 => (w_Disc_addReader r6 (nI 0) τ6 (fun r7 τ7 => R_Maker_makeGray d K 29 [.ref 3, .int x1, .int x2, .int x3, .int (x4 + nI 1), .null, .null, .null] [] τ7)))))) : R_Maker_makeGray d K 29 [.ref 3, .int x1, .int x2, .int x3, .int x4, .null, .null, .null] [] σ := by
  refine r_iload d_Maker_makeGray_29 rfl ?_
  refine r_iload_n d_Maker_makeGray_31 rfl ?_
  refine r_icmp2 51 (x2 ≤ x4) d_Maker_makeGray_32 (by decide) rfl (fun c5 => ?_) (fun c5 => ?_)
  · have h := h.1 c5
    refine r_iload_n d_Maker_makeGray_51 rfl ?_
    refine r_iload_n d_Maker_makeGray_52 rfl ?_
    refine r_isub d_Maker_makeGray_53 ?_
    refine r_iconst (nI 2) d_Maker_makeGray_54 (by decide) ?_
    refine r_idiv d_Maker_makeGray_55 ⟨by decide, ?_⟩
    refine r_istore (vs' := [.ref 3, .int x1, .int x2, .int x3, .int ((x3 - x1) / (nI 2)), .null, .null, .null]) d_Maker_makeGray_56 rfl rfl ?_
    refine r_iconst (nI 0) d_Maker_makeGray_58 (by decide) ?_
    refine r_istore (vs' := [.ref 3, .int x1, .int x2, .int x3, .int ((x3 - x1) / (nI 2)), .int (nI 0), .null, .null]) d_Maker_makeGray_59 rfl rfl ?_
    exact am_weak (vs := [.ref 3, .int x1, .int x2, .null, .int ((x3 - x1) / (nI 2)), .int (nI 0), .null, .null]) ⟨Or.inl rfl, Or.inl rfl, Or.inl rfl, Or.inr ⟨rfl, rfl⟩, Or.inl rfl, Or.inl rfl, Or.inl rfl, Or.inl rfl, trivial⟩ h
  · have h := h.2 c5
    refine r_aload_n d_Maker_makeGray_35 rfl ?_
    refine r_aload_n d_Maker_makeGray_36 rfl ?_
    refine r_virtI [] [.ref 3] d_Maker_makeGray_37 v_Maker_15 rfl rfl cn_3 rfl (t_Disc_addDarkTrack h) (fun r6 τ6 h => ?_)
    refine r_iconst (nI 0) d_Maker_makeGray_40 (by decide) ?_
    refine r_virtI [.int r6, .int (nI 0)] [] d_Maker_makeGray_41 v_Maker_19 rfl rfl cn_3 rfl (t_Disc_addReader h) (fun r7 τ7 h => ?_)
    refine r_pop d_Maker_makeGray_44 rfl ?_
    refine r_inc1 (vs' := [.ref 3, .int x1, .int x2, .int x3, .int (x4 + nI 1), .null, .null, .null]) d_Maker_makeGray_45 rfl rfl rfl ?_
    refine r_goto 29 d_Maker_makeGray_48 (by decide) ?_
    exact h
theorem l_Maker_makeGray_61 {d : Nat}  {x1 : Int32} {x2 : Int32} {x4 : Int32} {x5 : Int32}  {σ : am_S} {K : am_S → Prop} (h : (am_ite (x1 ≤ x5) (K σ) (R_Maker_makeGray d K 85 [.ref 3, .int x1, .int x2, .null, .int x4, .int x5, .int ((x4 + x5) ^^^ ((x4 + x5) >>> ((nI 1) &&& 31))), .int (nI 0)] [] σ))) : R_Maker_makeGray d K 61 [.ref 3, .int x1, .int x2, .null, .int x4, .int x5, .null, .null] [] σ := by
  refine r_iload d_Maker_makeGray_61 rfl ?_
  refine r_iload_n d_Maker_makeGray_63 rfl ?_
  refine r_icmp2 130 (x1 ≤ x5) d_Maker_makeGray_64 (by decide) rfl (fun c8 => ?_) (fun c8 => ?_)
  · have h := h.1 c8
    exact r_vret d_Maker_makeGray_130 h
  · have h := h.2 c8
    refine r_iload d_Maker_makeGray_67 rfl ?_
    refine r_iload d_Maker_makeGray_69 rfl ?_
    refine r_iadd d_Maker_makeGray_71 ?_
    refine r_iload d_Maker_makeGray_72 rfl ?_
    refine r_iload d_Maker_makeGray_74 rfl ?_
    refine r_iadd d_Maker_makeGray_76 ?_
    refine r_iconst (nI 1) d_Maker_makeGray_77 (by decide) ?_
    refine r_ishr d_Maker_makeGray_78 ?_
    refine r_ixor d_Maker_makeGray_79 ?_
    refine r_istore (vs' := [.ref 3, .int x1, .int x2, .null, .int x4, .int x5, .int ((x4 + x5) ^^^ ((x4 + x5) >>> ((nI 1) &&& 31))), .null]) d_Maker_makeGray_80 rfl rfl ?_
    refine r_iconst (nI 0) d_Maker_makeGray_82 (by decide) ?_
    refine r_istore (vs' := [.ref 3, .int x1, .int x2, .null, .int x4, .int x5, .int ((x4 + x5) ^^^ ((x4 + x5) >>> ((nI 1) &&& 31))), .int (nI 0)]) d_Maker_makeGray_83 rfl rfl ?_
    exact h
theorem l_Maker_makeGray_85 {d : Nat}  {x1 : Int32} {x2 : Int32} {x4 : Int32} {x5 : Int32} {x6 : Int32} {x7 : Int32}  {σ : am_S} {K : am_S → Prop} (h : (am_ite (x2 ≤ x7) (R_Maker_makeGray d K 61 [.ref 3, .int x1, .int x2, .null, .int x4, .int (x5 + nI 1), .null, .null] [] σ) (am_ite (((x6 >>> (((x2 - (nI 1)) - x7) &&& 31)) &&& (nI 1)) = (nI 0)) (w_Disc_setLight x7 x5 (nI 0) σ (fun τ11 => R_Maker_makeGray d K 85 [.ref 3, .int x1, .int x2, .null, .int x4, .int x5, .int x6, .int (x7 + nI 1)] [] τ11)) (w_Disc_setLight x7 x5 (nI 1) σ (fun τ12 => R_Maker_makeGray d K 85 [.ref 3, .int x1, .int x2, .null, .int x4, .int x5, .int x6, .int (x7 + nI 1)] [] τ12))))) : R_Maker_makeGray d K 85 [.ref 3, .int x1, .int x2, .null, .int x4, .int x5, .int x6, .int x7] [] σ := by
  refine r_iload d_Maker_makeGray_85 rfl ?_
  refine r_iload_n d_Maker_makeGray_87 rfl ?_
  refine r_icmp2 124 (x2 ≤ x7) d_Maker_makeGray_88 (by decide) rfl (fun c9 => ?_) (fun c9 => ?_)
  · have h := h.1 c9
    refine r_inc1 (vs' := [.ref 3, .int x1, .int x2, .null, .int x4, .int (x5 + nI 1), .int x6, .int x7]) d_Maker_makeGray_124 rfl rfl rfl ?_
    refine r_goto 61 d_Maker_makeGray_127 (by decide) ?_
    exact am_weak (vs := [.ref 3, .int x1, .int x2, .null, .int x4, .int (x5 + nI 1), .null, .null]) ⟨Or.inl rfl, Or.inl rfl, Or.inl rfl, Or.inl rfl, Or.inl rfl, Or.inl rfl, Or.inr ⟨rfl, rfl⟩, Or.inr ⟨rfl, rfl⟩, trivial⟩ h
  · have h := h.2 c9
    refine r_aload_n d_Maker_makeGray_91 rfl ?_
    refine r_iload d_Maker_makeGray_92 rfl ?_
    refine r_iload d_Maker_makeGray_94 rfl ?_
    refine r_iload d_Maker_makeGray_96 rfl ?_
    refine r_iload_n d_Maker_makeGray_98 rfl ?_
    refine r_iconst (nI 1) d_Maker_makeGray_99 (by decide) ?_
    refine r_isub d_Maker_makeGray_100 ?_
    refine r_iload d_Maker_makeGray_101 rfl ?_
    refine r_isub d_Maker_makeGray_103 ?_
    refine r_ishr d_Maker_makeGray_104 ?_
    refine r_iconst (nI 1) d_Maker_makeGray_105 (by decide) ?_
    refine r_iand d_Maker_makeGray_106 ?_
    refine r_if2 114 (((x6 >>> (((x2 - (nI 1)) - x7) &&& 31)) &&& (nI 1)) = (nI 0)) d_Maker_makeGray_107 (by decide) rfl (fun c10 => ?_) (fun c10 => ?_)
    · have h := h.1 c10
      refine r_iconst (nI 0) d_Maker_makeGray_114 (by decide) ?_
      refine r_virtV [.int x7, .int x5, .int (nI 0)] [] d_Maker_makeGray_115 v_Maker_23 rfl rfl cn_3 rfl (t_Disc_setLight h) (fun τ11 h => ?_)
      refine r_inc1 (vs' := [.ref 3, .int x1, .int x2, .null, .int x4, .int x5, .int x6, .int (x7 + nI 1)]) d_Maker_makeGray_118 rfl rfl rfl ?_
      refine r_goto 85 d_Maker_makeGray_121 (by decide) ?_
      exact h
    · have h := h.2 c10
      refine r_iconst (nI 1) d_Maker_makeGray_110 (by decide) ?_
      refine r_goto 115 d_Maker_makeGray_111 (by decide) ?_
      refine r_virtV [.int x7, .int x5, .int (nI 1)] [] d_Maker_makeGray_115 v_Maker_23 rfl rfl cn_3 rfl (t_Disc_setLight h) (fun τ12 h => ?_)
      refine r_inc1 (vs' := [.ref 3, .int x1, .int x2, .null, .int x4, .int x5, .int x6, .int (x7 + nI 1)]) d_Maker_makeGray_118 rfl rfl rfl ?_
      refine r_goto 85 d_Maker_makeGray_121 (by decide) ?_
      exact h
def w_WD_gray (x1 : Int32) (x2 : Int32) (σ : am_S) (K : Int32 → am_S → Prop) : Prop := (am_ite (x1 < (nI 4)) (w_WD_deny (nI 1) σ (fun r2 τ2 => ((r2 = nI 0 ∨ r2 = nI 1) ∧ K r2 τ2))) (am_ite ((nI 512) < x1) (w_WD_deny (nI 1) σ (fun r4 τ4 => ((r4 = nI 0 ∨ r4 = nI 1) ∧ K r4 τ4))) (am_ite ((x1 - x1 / (nI 2) * (nI 2)) = (nI 0)) (am_ite (x2 < (nI 2)) (w_WD_deny (nI 1) σ (fun r7 τ7 => ((r7 = nI 0 ∨ r7 = nI 1) ∧ K r7 τ7))) (am_ite ((nI 10) < x2) (w_WD_deny (nI 1) σ (fun r9 τ9 => ((r9 = nI 0 ∨ r9 = nI 1) ∧ K r9 τ9))) (am_ite (x1 ≤ ((nI 1) <<< (x2 &&& 31))) (w_WD_beginChange  σ (fun τ11 => (w_Maker_makeGray x1 x2 τ11 (fun τ12 => (w_WD_grant (nI 1) τ12 (fun r13 τ13 => ((r13 = nI 0 ∨ r13 = nI 1) ∧ K r13 τ13))))))) (w_WD_deny (nI 1) σ (fun r14 τ14 => ((r14 = nI 0 ∨ r14 = nI 1) ∧ K r14 τ14)))))) (w_WD_deny (nI 1) σ (fun r15 τ15 => ((r15 = nI 0 ∨ r15 = nI 1) ∧ K r15 τ15))))))
theorem t_WD_gray {d : Nat} {x1 : Int32} {x2 : Int32}  {σ : am_S} {K : Int32 → am_S → Prop} (h : w_WD_gray x1 x2 σ K) : am_run (d + 4) y_WD_gray [.ref 0, .int x1, .int x2] σ (am_Ri K) := by
  unfold w_WD_gray at h
  refine am_begin (vs := [.ref 0, .int x1, .int x2]) c_WD_gray (by decide +kernel) rfl rfl rfl rfl ?_
  refine r_iload_n d_WD_gray_0 rfl ?_
  refine r_iconst (nI 4) d_WD_gray_1 (by decide) ?_
  refine r_icmp2 18 (x1 < (nI 4)) d_WD_gray_2 (by decide) rfl (fun c1 => ?_) (fun c1 => ?_)
  · have h := h.1 c1
    refine r_aload_n d_WD_gray_18 rfl ?_
    refine r_iconst (nI 1) d_WD_gray_19 (by decide) ?_
    refine r_virtI [.int (nI 1)] [] d_WD_gray_20 v_WD_102 rfl rfl cn_0 rfl (t_WD_deny h) (fun r2 τ2 h => ?_)
    exact r_zret d_WD_gray_23 h
  · have h := h.2 c1
    refine r_iload_n d_WD_gray_5 rfl ?_
    refine r_sipush (nI 512) d_WD_gray_6 (by decide) ?_
    refine r_icmp2 18 ((nI 512) < x1) d_WD_gray_9 (by decide) rfl (fun c3 => ?_) (fun c3 => ?_)
    · have h := h.1 c3
      refine r_aload_n d_WD_gray_18 rfl ?_
      refine r_iconst (nI 1) d_WD_gray_19 (by decide) ?_
      refine r_virtI [.int (nI 1)] [] d_WD_gray_20 v_WD_102 rfl rfl cn_0 rfl (t_WD_deny h) (fun r4 τ4 h => ?_)
      exact r_zret d_WD_gray_23 h
    · have h := h.2 c3
      refine r_iload_n d_WD_gray_12 rfl ?_
      refine r_iconst (nI 2) d_WD_gray_13 (by decide) ?_
      refine r_irem d_WD_gray_14 ⟨by decide, ?_⟩
      refine r_if2 24 ((x1 - x1 / (nI 2) * (nI 2)) = (nI 0)) d_WD_gray_15 (by decide) rfl (fun c5 => ?_) (fun c5 => ?_)
      · have h := h.1 c5
        refine r_iload_n d_WD_gray_24 rfl ?_
        refine r_iconst (nI 2) d_WD_gray_25 (by decide) ?_
        refine r_icmp2 42 (x2 < (nI 2)) d_WD_gray_26 (by decide) rfl (fun c6 => ?_) (fun c6 => ?_)
        · have h := h.1 c6
          refine r_aload_n d_WD_gray_42 rfl ?_
          refine r_iconst (nI 1) d_WD_gray_43 (by decide) ?_
          refine r_virtI [.int (nI 1)] [] d_WD_gray_44 v_WD_102 rfl rfl cn_0 rfl (t_WD_deny h) (fun r7 τ7 h => ?_)
          exact r_zret d_WD_gray_47 h
        · have h := h.2 c6
          refine r_iload_n d_WD_gray_29 rfl ?_
          refine r_bipush (nI 10) d_WD_gray_30 (by decide) ?_
          refine r_icmp2 42 ((nI 10) < x2) d_WD_gray_32 (by decide) rfl (fun c8 => ?_) (fun c8 => ?_)
          · have h := h.1 c8
            refine r_aload_n d_WD_gray_42 rfl ?_
            refine r_iconst (nI 1) d_WD_gray_43 (by decide) ?_
            refine r_virtI [.int (nI 1)] [] d_WD_gray_44 v_WD_102 rfl rfl cn_0 rfl (t_WD_deny h) (fun r9 τ9 h => ?_)
            exact r_zret d_WD_gray_47 h
          · have h := h.2 c8
            refine r_iconst (nI 1) d_WD_gray_35 (by decide) ?_
            refine r_iload_n d_WD_gray_36 rfl ?_
            refine r_ishl d_WD_gray_37 ?_
            refine r_iload_n d_WD_gray_38 rfl ?_
            refine r_icmp2 48 (x1 ≤ ((nI 1) <<< (x2 &&& 31))) d_WD_gray_39 (by decide) rfl (fun c10 => ?_) (fun c10 => ?_)
            · have h := h.1 c10
              refine r_aload_n d_WD_gray_48 rfl ?_
              refine r_virtV [] [] d_WD_gray_49 v_WD_116 rfl rfl cn_0 rfl (t_WD_beginChange h) (fun τ11 h => ?_)
              refine r_aload_n d_WD_gray_52 rfl ?_
              refine r_getR d_WD_gray_53 f_WD_19 kd_0 rfl lk_0_1 ?_
              refine r_iload_n d_WD_gray_56 rfl ?_
              refine r_iload_n d_WD_gray_57 rfl ?_
              refine r_statV [.ref 3, .int x1, .int x2] [] d_WD_gray_58 s_WD_248 rfl rfl rfl (t_Maker_makeGray h) (fun τ12 h => ?_)
              refine r_aload_n d_WD_gray_61 rfl ?_
              refine r_iconst (nI 1) d_WD_gray_62 (by decide) ?_
              refine r_virtI [.int (nI 1)] [] d_WD_gray_63 v_WD_112 rfl rfl cn_0 rfl (t_WD_grant h) (fun r13 τ13 h => ?_)
              exact r_zret d_WD_gray_66 h
            · have h := h.2 c10
              refine r_aload_n d_WD_gray_42 rfl ?_
              refine r_iconst (nI 1) d_WD_gray_43 (by decide) ?_
              refine r_virtI [.int (nI 1)] [] d_WD_gray_44 v_WD_102 rfl rfl cn_0 rfl (t_WD_deny h) (fun r14 τ14 h => ?_)
              exact r_zret d_WD_gray_47 h
      · have h := h.2 c5
        refine r_aload_n d_WD_gray_18 rfl ?_
        refine r_iconst (nI 1) d_WD_gray_19 (by decide) ?_
        refine r_virtI [.int (nI 1)] [] d_WD_gray_20 v_WD_102 rfl rfl cn_0 rfl (t_WD_deny h) (fun r15 τ15 h => ?_)
        exact r_zret d_WD_gray_23 h
def w_Marks_wipe_30  (σ : am_S) (K : am_S → Prop) : Prop := (w_Arr_fillJ (k := 31) (nk := 16) (0) σ (fun τ1 => K τ1))
theorem t_Marks_wipe_30 {d : Nat}   {σ : am_S} {K : am_S → Prop} (h : w_Marks_wipe_30  σ K) : am_run (d + 2) y_Marks_wipe [.ref 30] σ (am_Rv K) := by
  unfold w_Marks_wipe_30 at h
  refine am_begin (vs := [.ref 30]) c_Marks_wipe (by decide +kernel) rfl rfl rfl rfl ?_
  refine r_aload_n d_Marks_wipe_0 rfl ?_
  refine r_getR d_Marks_wipe_1 f_Marks_9 kd_30 rfl lk_30_0 ?_
  refine r_lconst (0) d_Marks_wipe_4 (by decide) ?_
  refine r_statV [.ref 31, .long (0)] [] d_Marks_wipe_5 s_Marks_15 rfl rfl rfl (t_Arr_fillJ ce_31 h) (fun τ1 h => ?_)
  exact r_vret d_Marks_wipe_8 h
def w_Marks_has_30 (x1 : Int32) (σ : am_S) (K : Int32 → am_S → Prop) : Prop := (w_WD_isSet (k := 31) (nk := 16) (nI 0) x1 σ (fun r1 τ1 => ((r1 = nI 0 ∨ r1 = nI 1) ∧ K r1 τ1)))
theorem t_Marks_has_30 {d : Nat} {x1 : Int32}  {σ : am_S} {K : Int32 → am_S → Prop} (h : w_Marks_has_30 x1 σ K) : am_run (d + 2) y_Marks_has [.ref 30, .int x1] σ (am_Ri K) := by
  unfold w_Marks_has_30 at h
  refine am_begin (vs := [.ref 30, .int x1]) c_Marks_has (by decide +kernel) rfl rfl rfl rfl ?_
  refine r_aload_n d_Marks_has_0 rfl ?_
  refine r_getR d_Marks_has_1 f_Marks_9 kd_30 rfl lk_30_0 ?_
  refine r_iconst (nI 0) d_Marks_has_4 (by decide) ?_
  refine r_iload_n d_Marks_has_5 rfl ?_
  refine r_statI [.ref 31, .int (nI 0), .int x1] [] d_Marks_has_6 s_Marks_21 rfl rfl rfl (t_WD_isSet ce_31 h) (fun r1 τ1 h => ?_)
  exact r_zret d_Marks_has_9 h
def w_Marks_add_30 (x1 : Int32) (σ : am_S) (K : am_S → Prop) : Prop := (vp_in (x1 >>> ((nI 6) &&& 31)) 16 ∧ (vp_in (x1 >>> ((nI 6) &&& 31)) 16 ∧ K (am_upJ σ 31 (Int32.toNatClampNeg (x1 >>> ((nI 6) &&& 31))) ((σ.2 31 (Int32.toNatClampNeg (x1 >>> ((nI 6) &&& 31)))) ||| ((1) <<< (Int32.toInt64 (x1 &&& (nI 63)) &&& 63))))))
theorem t_Marks_add_30 {d : Nat} {x1 : Int32}  {σ : am_S} {K : am_S → Prop} (h : w_Marks_add_30 x1 σ K) : am_run (d + 1) y_Marks_add [.ref 30, .int x1] σ (am_Rv K) := by
  unfold w_Marks_add_30 at h
  refine am_begin (vs := [.ref 30, .int x1]) c_Marks_add (by decide +kernel) rfl rfl rfl rfl ?_
  refine r_aload_n d_Marks_add_0 rfl ?_
  refine r_getR d_Marks_add_1 f_Marks_9 kd_30 rfl lk_30_0 ?_
  refine r_iload_n d_Marks_add_4 rfl ?_
  refine r_bipush (nI 6) d_Marks_add_5 (by decide) ?_
  refine r_ishr d_Marks_add_7 ?_
  refine r_dup2 d_Marks_add_8 rfl rfl ?_
  refine r_lald d_Marks_add_9 ce_31 ⟨h.1, ?_⟩
  have h := h.2
  refine r_lconst (1) d_Marks_add_10 (by decide) ?_
  refine r_iload_n d_Marks_add_11 rfl ?_
  refine r_bipush (nI 63) d_Marks_add_12 (by decide) ?_
  refine r_iand d_Marks_add_14 ?_
  refine r_lshl d_Marks_add_15 ?_
  refine r_lor d_Marks_add_16 ?_
  refine r_last d_Marks_add_17 ce_31 ⟨h.1, ?_⟩
  have h := h.2
  exact r_vret d_Marks_add_18 h
abbrev R_Maker_makeChain (d : Nat) (K : Int32 → am_S → Prop) (pc : Nat) (vs st : List Value) (σ : am_S) : Prop := am_r (am_run (d + 2)) "WheelDisc$Maker" (some .int) prog_6_method_3_code (am_Ri K) pc vs st σ
def w_Maker_makeChain (x1 : Int32) (x2 : Int32) (σ : am_S) (K : Int32 → am_S → Prop) : Prop := ∀ d : Nat, am_run (d + 3) y_Maker_makeChain [.ref 3, .int x1, .int x2, .ref 30] σ (am_Ri K)
theorem t_Maker_makeChain {d : Nat} {x1 : Int32} {x2 : Int32}  {σ : am_S} {K : Int32 → am_S → Prop} (h : w_Maker_makeChain x1 x2 σ K) : am_run (d + 3) y_Maker_makeChain [.ref 3, .int x1, .int x2, .ref 30] σ (am_Ri K) := h d
theorem e_Maker_makeChain {x1 : Int32} {x2 : Int32}  {σ : am_S} {K : Int32 → am_S → Prop} (h : ∀ d : Nat, (w_Disc_empty ((nI 1) <<< (x1 &&& 31)) σ (fun τ1 => (w_Disc_addDarkTrack  τ1 (fun r2 τ2 => R_Maker_makeChain d K 19 [.ref 3, .int x1, .int x2, .ref 30, .int ((nI 1) <<< (x1 &&& 31)), .int (nI 0), .null, .null] [] τ2))))) : w_Maker_makeChain x1 x2 σ K := by
  intro d
  have h := h d
  refine am_begin (vs := [.ref 3, .int x1, .int x2, .ref 30, .null, .null, .null, .null]) c_Maker_makeChain (by decide +kernel) rfl rfl rfl rfl ?_
  refine r_iconst (nI 1) d_Maker_makeChain_0 (by decide) ?_
  refine r_iload_n d_Maker_makeChain_1 rfl ?_
  refine r_ishl d_Maker_makeChain_2 ?_
  refine r_istore (vs' := [.ref 3, .int x1, .int x2, .ref 30, .int ((nI 1) <<< (x1 &&& 31)), .null, .null, .null]) d_Maker_makeChain_3 rfl rfl ?_
  refine r_aload_n d_Maker_makeChain_5 rfl ?_
  refine r_iload d_Maker_makeChain_6 rfl ?_
  refine r_virtV [.int ((nI 1) <<< (x1 &&& 31))] [] d_Maker_makeChain_8 v_Maker_9 rfl rfl cn_3 rfl (t_Disc_empty h) (fun τ1 h => ?_)
  refine r_aload_n d_Maker_makeChain_11 rfl ?_
  refine r_virtI [] [] d_Maker_makeChain_12 v_Maker_15 rfl rfl cn_3 rfl (t_Disc_addDarkTrack h) (fun r2 τ2 h => ?_)
  refine r_pop d_Maker_makeChain_15 rfl ?_
  refine r_iconst (nI 0) d_Maker_makeChain_16 (by decide) ?_
  refine r_istore (vs' := [.ref 3, .int x1, .int x2, .ref 30, .int ((nI 1) <<< (x1 &&& 31)), .int (nI 0), .null, .null]) d_Maker_makeChain_17 rfl rfl ?_
  exact h
theorem l_Maker_makeChain_19 {d : Nat}  {x1 : Int32} {x2 : Int32} {x4 : Int32} {x5 : Int32}  {σ : am_S} {K : Int32 → am_S → Prop} (h : (am_ite (x1 ≤ x5) (w_Marks_wipe_30  σ (fun τ4 => R_Maker_makeChain d K 55 [.ref 3, .int x1, .int x2, .ref 30, .int x4, .int (x4 - (nI 1)), .int (nI 0), .int (nI 0)] [] τ4)) (w_Disc_addReader (nI 0) x5 σ (fun r5 τ5 => R_Maker_makeChain d K 19 [.ref 3, .int x1, .int x2, .ref 30, .int x4, .int (x5 + nI 1), .null, .null] [] τ5)))) : R_Maker_makeChain d K 19 [.ref 3, .int x1, .int x2, .ref 30, .int x4, .int x5, .null, .null] [] σ := by
  refine r_iload d_Maker_makeChain_19 rfl ?_
  refine r_iload_n d_Maker_makeChain_21 rfl ?_
  refine r_icmp2 39 (x1 ≤ x5) d_Maker_makeChain_22 (by decide) rfl (fun c3 => ?_) (fun c3 => ?_)
  · have h := h.1 c3
    refine r_aload_n d_Maker_makeChain_39 rfl ?_
    refine r_virtV [] [] d_Maker_makeChain_40 v_Maker_27 rfl rfl cn_30 rfl (t_Marks_wipe_30 h) (fun τ4 h => ?_)
    refine r_iload d_Maker_makeChain_43 rfl ?_
    refine r_iconst (nI 1) d_Maker_makeChain_45 (by decide) ?_
    refine r_isub d_Maker_makeChain_46 ?_
    refine r_istore (vs' := [.ref 3, .int x1, .int x2, .ref 30, .int x4, .int (x4 - (nI 1)), .null, .null]) d_Maker_makeChain_47 rfl rfl ?_
    refine r_iconst (nI 0) d_Maker_makeChain_49 (by decide) ?_
    refine r_istore (vs' := [.ref 3, .int x1, .int x2, .ref 30, .int x4, .int (x4 - (nI 1)), .int (nI 0), .null]) d_Maker_makeChain_50 rfl rfl ?_
    refine r_iconst (nI 0) d_Maker_makeChain_52 (by decide) ?_
    refine r_istore (vs' := [.ref 3, .int x1, .int x2, .ref 30, .int x4, .int (x4 - (nI 1)), .int (nI 0), .int (nI 0)]) d_Maker_makeChain_53 rfl rfl ?_
    exact h
  · have h := h.2 c3
    refine r_aload_n d_Maker_makeChain_25 rfl ?_
    refine r_iconst (nI 0) d_Maker_makeChain_26 (by decide) ?_
    refine r_iload d_Maker_makeChain_27 rfl ?_
    refine r_virtI [.int (nI 0), .int x5] [] d_Maker_makeChain_29 v_Maker_19 rfl rfl cn_3 rfl (t_Disc_addReader h) (fun r5 τ5 h => ?_)
    refine r_pop d_Maker_makeChain_32 rfl ?_
    refine r_inc1 (vs' := [.ref 3, .int x1, .int x2, .ref 30, .int x4, .int (x5 + nI 1), .null, .null]) d_Maker_makeChain_33 rfl rfl rfl ?_
    refine r_goto 19 d_Maker_makeChain_36 (by decide) ?_
    exact h
theorem l_Maker_makeChain_55 {d : Nat}  {x1 : Int32} {x2 : Int32} {x4 : Int32} {x5 : Int32} {x6 : Int32} {x7 : Int32}  {σ : am_S} {K : Int32 → am_S → Prop} (h : (am_ite (x4 ≤ x7) (K x6 σ) (w_Marks_has_30 ((x5 <<< ((nI 1) &&& 31)) &&& (x4 - (nI 1))) σ (fun r7 τ7 => (am_ite (r7 = (nI 0)) (w_Marks_add_30 ((x5 <<< ((nI 1) &&& 31)) &&& (x4 - (nI 1))) τ7 (fun τ9 => (am_ite ((((x5 <<< ((nI 1) &&& 31)) &&& (x4 - (nI 1))) &&& (nI 1)) = (nI 0)) (w_Disc_setLight (nI 0) x7 (nI 0) τ9 (fun τ11 => (am_ite (¬ ((x5 <<< ((nI 1) &&& 31)) &&& (x4 - (nI 1))) = x2) (R_Maker_makeChain d K 55 [.ref 3, .int x1, .int x2, .ref 30, .int x4, .int ((x5 <<< ((nI 1) &&& 31)) &&& (x4 - (nI 1))), .int x6, .int (x7 + nI 1)] [] τ11) (R_Maker_makeChain d K 55 [.ref 3, .int x1, .int x2, .ref 30, .int x4, .int ((x5 <<< ((nI 1) &&& 31)) &&& (x4 - (nI 1))), .int (((x7 - x1) + (nI 1)) &&& (x4 - (nI 1))), .int (x7 + nI 1)] [] τ11)))) (w_Disc_setLight (nI 0) x7 (nI 1) τ9 (fun τ13 => (am_ite (¬ ((x5 <<< ((nI 1) &&& 31)) &&& (x4 - (nI 1))) = x2) (R_Maker_makeChain d K 55 [.ref 3, .int x1, .int x2, .ref 30, .int x4, .int ((x5 <<< ((nI 1) &&& 31)) &&& (x4 - (nI 1))), .int x6, .int (x7 + nI 1)] [] τ13) (R_Maker_makeChain d K 55 [.ref 3, .int x1, .int x2, .ref 30, .int x4, .int ((x5 <<< ((nI 1) &&& 31)) &&& (x4 - (nI 1))), .int (((x7 - x1) + (nI 1)) &&& (x4 - (nI 1))), .int (x7 + nI 1)] [] τ13))))))) (w_Marks_add_30 (((x5 <<< ((nI 1) &&& 31)) &&& (x4 - (nI 1))) ||| (nI 1)) τ7 (fun τ15 => (am_ite (((((x5 <<< ((nI 1) &&& 31)) &&& (x4 - (nI 1))) ||| (nI 1)) &&& (nI 1)) = (nI 0)) (w_Disc_setLight (nI 0) x7 (nI 0) τ15 (fun τ17 => (am_ite (¬ (((x5 <<< ((nI 1) &&& 31)) &&& (x4 - (nI 1))) ||| (nI 1)) = x2) (R_Maker_makeChain d K 55 [.ref 3, .int x1, .int x2, .ref 30, .int x4, .int (((x5 <<< ((nI 1) &&& 31)) &&& (x4 - (nI 1))) ||| (nI 1)), .int x6, .int (x7 + nI 1)] [] τ17) (R_Maker_makeChain d K 55 [.ref 3, .int x1, .int x2, .ref 30, .int x4, .int (((x5 <<< ((nI 1) &&& 31)) &&& (x4 - (nI 1))) ||| (nI 1)), .int (((x7 - x1) + (nI 1)) &&& (x4 - (nI 1))), .int (x7 + nI 1)] [] τ17)))) (w_Disc_setLight (nI 0) x7 (nI 1) τ15 (fun τ19 => (am_ite (¬ (((x5 <<< ((nI 1) &&& 31)) &&& (x4 - (nI 1))) ||| (nI 1)) = x2) (R_Maker_makeChain d K 55 [.ref 3, .int x1, .int x2, .ref 30, .int x4, .int (((x5 <<< ((nI 1) &&& 31)) &&& (x4 - (nI 1))) ||| (nI 1)), .int x6, .int (x7 + nI 1)] [] τ19) (R_Maker_makeChain d K 55 [.ref 3, .int x1, .int x2, .ref 30, .int x4, .int (((x5 <<< ((nI 1) &&& 31)) &&& (x4 - (nI 1))) ||| (nI 1)), .int (((x7 - x1) + (nI 1)) &&& (x4 - (nI 1))), .int (x7 + nI 1)] [] τ19)))))))))))) : R_Maker_makeChain d K 55 [.ref 3, .int x1, .int x2, .ref 30, .int x4, .int x5, .int x6, .int x7] [] σ := by
  refine r_iload d_Maker_makeChain_55 rfl ?_
  refine r_iload d_Maker_makeChain_57 rfl ?_
  refine r_icmp2 138 (x4 ≤ x7) d_Maker_makeChain_59 (by decide) rfl (fun c6 => ?_) (fun c6 => ?_)
  · have h := h.1 c6
    refine r_iload d_Maker_makeChain_138 rfl ?_
    exact r_iret d_Maker_makeChain_140 h
  · have h := h.2 c6
    refine r_iload d_Maker_makeChain_62 rfl ?_
    refine r_iconst (nI 1) d_Maker_makeChain_64 (by decide) ?_
    refine r_ishl d_Maker_makeChain_65 ?_
    refine r_iload d_Maker_makeChain_66 rfl ?_
    refine r_iconst (nI 1) d_Maker_makeChain_68 (by decide) ?_
    refine r_isub d_Maker_makeChain_69 ?_
    refine r_iand d_Maker_makeChain_70 ?_
    refine r_istore (vs' := [.ref 3, .int x1, .int x2, .ref 30, .int x4, .int ((x5 <<< ((nI 1) &&& 31)) &&& (x4 - (nI 1))), .int x6, .int x7]) d_Maker_makeChain_71 rfl rfl ?_
    refine r_aload_n d_Maker_makeChain_73 rfl ?_
    refine r_iload d_Maker_makeChain_74 rfl ?_
    refine r_virtI [.int ((x5 <<< ((nI 1) &&& 31)) &&& (x4 - (nI 1)))] [] d_Maker_makeChain_76 v_Maker_32 rfl rfl cn_30 rfl (t_Marks_has_30 h) (fun r7 τ7 h => ?_)
    refine r_if2 88 (r7 = (nI 0)) d_Maker_makeChain_79 (by decide) rfl (fun c8 => ?_) (fun c8 => ?_)
    · have h := h.1 c8
      refine r_aload_n d_Maker_makeChain_88 rfl ?_
      refine r_iload d_Maker_makeChain_89 rfl ?_
      refine r_virtV [.int ((x5 <<< ((nI 1) &&& 31)) &&& (x4 - (nI 1)))] [] d_Maker_makeChain_91 v_Maker_36 rfl rfl cn_30 rfl (t_Marks_add_30 h) (fun τ9 h => ?_)
      refine r_aload_n d_Maker_makeChain_94 rfl ?_
      refine r_iconst (nI 0) d_Maker_makeChain_95 (by decide) ?_
      refine r_iload d_Maker_makeChain_96 rfl ?_
      refine r_iload d_Maker_makeChain_98 rfl ?_
      refine r_iconst (nI 1) d_Maker_makeChain_100 (by decide) ?_
      refine r_iand d_Maker_makeChain_101 ?_
      refine r_if2 109 ((((x5 <<< ((nI 1) &&& 31)) &&& (x4 - (nI 1))) &&& (nI 1)) = (nI 0)) d_Maker_makeChain_102 (by decide) rfl (fun c10 => ?_) (fun c10 => ?_)
      · have h := h.1 c10
        refine r_iconst (nI 0) d_Maker_makeChain_109 (by decide) ?_
        refine r_virtV [.int (nI 0), .int x7, .int (nI 0)] [] d_Maker_makeChain_110 v_Maker_23 rfl rfl cn_3 rfl (t_Disc_setLight h) (fun τ11 h => ?_)
        refine r_iload d_Maker_makeChain_113 rfl ?_
        refine r_iload_n d_Maker_makeChain_115 rfl ?_
        refine r_icmp2 132 (¬ ((x5 <<< ((nI 1) &&& 31)) &&& (x4 - (nI 1))) = x2) d_Maker_makeChain_116 (by decide) rfl (fun c12 => ?_) (fun c12 => ?_)
        · have h := h.1 c12
          refine r_inc1 (vs' := [.ref 3, .int x1, .int x2, .ref 30, .int x4, .int ((x5 <<< ((nI 1) &&& 31)) &&& (x4 - (nI 1))), .int x6, .int (x7 + nI 1)]) d_Maker_makeChain_132 rfl rfl rfl ?_
          refine r_goto 55 d_Maker_makeChain_135 (by decide) ?_
          exact h
        · have h := h.2 c12
          refine r_iload d_Maker_makeChain_119 rfl ?_
          refine r_iload_n d_Maker_makeChain_121 rfl ?_
          refine r_isub d_Maker_makeChain_122 ?_
          refine r_iconst (nI 1) d_Maker_makeChain_123 (by decide) ?_
          refine r_iadd d_Maker_makeChain_124 ?_
          refine r_iload d_Maker_makeChain_125 rfl ?_
          refine r_iconst (nI 1) d_Maker_makeChain_127 (by decide) ?_
          refine r_isub d_Maker_makeChain_128 ?_
          refine r_iand d_Maker_makeChain_129 ?_
          refine r_istore (vs' := [.ref 3, .int x1, .int x2, .ref 30, .int x4, .int ((x5 <<< ((nI 1) &&& 31)) &&& (x4 - (nI 1))), .int (((x7 - x1) + (nI 1)) &&& (x4 - (nI 1))), .int x7]) d_Maker_makeChain_130 rfl rfl ?_
          refine r_inc1 (vs' := [.ref 3, .int x1, .int x2, .ref 30, .int x4, .int ((x5 <<< ((nI 1) &&& 31)) &&& (x4 - (nI 1))), .int (((x7 - x1) + (nI 1)) &&& (x4 - (nI 1))), .int (x7 + nI 1)]) d_Maker_makeChain_132 rfl rfl rfl ?_
          refine r_goto 55 d_Maker_makeChain_135 (by decide) ?_
          exact h
      · have h := h.2 c10
        refine r_iconst (nI 1) d_Maker_makeChain_105 (by decide) ?_
        refine r_goto 110 d_Maker_makeChain_106 (by decide) ?_
        refine r_virtV [.int (nI 0), .int x7, .int (nI 1)] [] d_Maker_makeChain_110 v_Maker_23 rfl rfl cn_3 rfl (t_Disc_setLight h) (fun τ13 h => ?_)
        refine r_iload d_Maker_makeChain_113 rfl ?_
        refine r_iload_n d_Maker_makeChain_115 rfl ?_
        refine r_icmp2 132 (¬ ((x5 <<< ((nI 1) &&& 31)) &&& (x4 - (nI 1))) = x2) d_Maker_makeChain_116 (by decide) rfl (fun c14 => ?_) (fun c14 => ?_)
        · have h := h.1 c14
          refine r_inc1 (vs' := [.ref 3, .int x1, .int x2, .ref 30, .int x4, .int ((x5 <<< ((nI 1) &&& 31)) &&& (x4 - (nI 1))), .int x6, .int (x7 + nI 1)]) d_Maker_makeChain_132 rfl rfl rfl ?_
          refine r_goto 55 d_Maker_makeChain_135 (by decide) ?_
          exact h
        · have h := h.2 c14
          refine r_iload d_Maker_makeChain_119 rfl ?_
          refine r_iload_n d_Maker_makeChain_121 rfl ?_
          refine r_isub d_Maker_makeChain_122 ?_
          refine r_iconst (nI 1) d_Maker_makeChain_123 (by decide) ?_
          refine r_iadd d_Maker_makeChain_124 ?_
          refine r_iload d_Maker_makeChain_125 rfl ?_
          refine r_iconst (nI 1) d_Maker_makeChain_127 (by decide) ?_
          refine r_isub d_Maker_makeChain_128 ?_
          refine r_iand d_Maker_makeChain_129 ?_
          refine r_istore (vs' := [.ref 3, .int x1, .int x2, .ref 30, .int x4, .int ((x5 <<< ((nI 1) &&& 31)) &&& (x4 - (nI 1))), .int (((x7 - x1) + (nI 1)) &&& (x4 - (nI 1))), .int x7]) d_Maker_makeChain_130 rfl rfl ?_
          refine r_inc1 (vs' := [.ref 3, .int x1, .int x2, .ref 30, .int x4, .int ((x5 <<< ((nI 1) &&& 31)) &&& (x4 - (nI 1))), .int (((x7 - x1) + (nI 1)) &&& (x4 - (nI 1))), .int (x7 + nI 1)]) d_Maker_makeChain_132 rfl rfl rfl ?_
          refine r_goto 55 d_Maker_makeChain_135 (by decide) ?_
          exact h
    · have h := h.2 c8
      refine r_iload d_Maker_makeChain_82 rfl ?_
      refine r_iconst (nI 1) d_Maker_makeChain_84 (by decide) ?_
      refine r_ior d_Maker_makeChain_85 ?_
      refine r_istore (vs' := [.ref 3, .int x1, .int x2, .ref 30, .int x4, .int (((x5 <<< ((nI 1) &&& 31)) &&& (x4 - (nI 1))) ||| (nI 1)), .int x6, .int x7]) d_Maker_makeChain_86 rfl rfl ?_
      refine r_aload_n d_Maker_makeChain_88 rfl ?_
      refine r_iload d_Maker_makeChain_89 rfl ?_
      refine r_virtV [.int (((x5 <<< ((nI 1) &&& 31)) &&& (x4 - (nI 1))) ||| (nI 1))] [] d_Maker_makeChain_91 v_Maker_36 rfl rfl cn_30 rfl (t_Marks_add_30 h) (fun τ15 h => ?_)
      refine r_aload_n d_Maker_makeChain_94 rfl ?_
      refine r_iconst (nI 0) d_Maker_makeChain_95 (by decide) ?_
      refine r_iload d_Maker_makeChain_96 rfl ?_
      refine r_iload d_Maker_makeChain_98 rfl ?_
      refine r_iconst (nI 1) d_Maker_makeChain_100 (by decide) ?_
      refine r_iand d_Maker_makeChain_101 ?_
      refine r_if2 109 (((((x5 <<< ((nI 1) &&& 31)) &&& (x4 - (nI 1))) ||| (nI 1)) &&& (nI 1)) = (nI 0)) d_Maker_makeChain_102 (by decide) rfl (fun c16 => ?_) (fun c16 => ?_)
      · have h := h.1 c16
        refine r_iconst (nI 0) d_Maker_makeChain_109 (by decide) ?_
        refine r_virtV [.int (nI 0), .int x7, .int (nI 0)] [] d_Maker_makeChain_110 v_Maker_23 rfl rfl cn_3 rfl (t_Disc_setLight h) (fun τ17 h => ?_)
        refine r_iload d_Maker_makeChain_113 rfl ?_
        refine r_iload_n d_Maker_makeChain_115 rfl ?_
        refine r_icmp2 132 (¬ (((x5 <<< ((nI 1) &&& 31)) &&& (x4 - (nI 1))) ||| (nI 1)) = x2) d_Maker_makeChain_116 (by decide) rfl (fun c18 => ?_) (fun c18 => ?_)
        · have h := h.1 c18
          refine r_inc1 (vs' := [.ref 3, .int x1, .int x2, .ref 30, .int x4, .int (((x5 <<< ((nI 1) &&& 31)) &&& (x4 - (nI 1))) ||| (nI 1)), .int x6, .int (x7 + nI 1)]) d_Maker_makeChain_132 rfl rfl rfl ?_
          refine r_goto 55 d_Maker_makeChain_135 (by decide) ?_
          exact h
        · have h := h.2 c18
          refine r_iload d_Maker_makeChain_119 rfl ?_
          refine r_iload_n d_Maker_makeChain_121 rfl ?_
          refine r_isub d_Maker_makeChain_122 ?_
          refine r_iconst (nI 1) d_Maker_makeChain_123 (by decide) ?_
          refine r_iadd d_Maker_makeChain_124 ?_
          refine r_iload d_Maker_makeChain_125 rfl ?_
          refine r_iconst (nI 1) d_Maker_makeChain_127 (by decide) ?_
          refine r_isub d_Maker_makeChain_128 ?_
          refine r_iand d_Maker_makeChain_129 ?_
          refine r_istore (vs' := [.ref 3, .int x1, .int x2, .ref 30, .int x4, .int (((x5 <<< ((nI 1) &&& 31)) &&& (x4 - (nI 1))) ||| (nI 1)), .int (((x7 - x1) + (nI 1)) &&& (x4 - (nI 1))), .int x7]) d_Maker_makeChain_130 rfl rfl ?_
          refine r_inc1 (vs' := [.ref 3, .int x1, .int x2, .ref 30, .int x4, .int (((x5 <<< ((nI 1) &&& 31)) &&& (x4 - (nI 1))) ||| (nI 1)), .int (((x7 - x1) + (nI 1)) &&& (x4 - (nI 1))), .int (x7 + nI 1)]) d_Maker_makeChain_132 rfl rfl rfl ?_
          refine r_goto 55 d_Maker_makeChain_135 (by decide) ?_
          exact h
      · have h := h.2 c16
        refine r_iconst (nI 1) d_Maker_makeChain_105 (by decide) ?_
        refine r_goto 110 d_Maker_makeChain_106 (by decide) ?_
        refine r_virtV [.int (nI 0), .int x7, .int (nI 1)] [] d_Maker_makeChain_110 v_Maker_23 rfl rfl cn_3 rfl (t_Disc_setLight h) (fun τ19 h => ?_)
        refine r_iload d_Maker_makeChain_113 rfl ?_
        refine r_iload_n d_Maker_makeChain_115 rfl ?_
        refine r_icmp2 132 (¬ (((x5 <<< ((nI 1) &&& 31)) &&& (x4 - (nI 1))) ||| (nI 1)) = x2) d_Maker_makeChain_116 (by decide) rfl (fun c20 => ?_) (fun c20 => ?_)
        · have h := h.1 c20
          refine r_inc1 (vs' := [.ref 3, .int x1, .int x2, .ref 30, .int x4, .int (((x5 <<< ((nI 1) &&& 31)) &&& (x4 - (nI 1))) ||| (nI 1)), .int x6, .int (x7 + nI 1)]) d_Maker_makeChain_132 rfl rfl rfl ?_
          refine r_goto 55 d_Maker_makeChain_135 (by decide) ?_
          exact h
        · have h := h.2 c20
          refine r_iload d_Maker_makeChain_119 rfl ?_
          refine r_iload_n d_Maker_makeChain_121 rfl ?_
          refine r_isub d_Maker_makeChain_122 ?_
          refine r_iconst (nI 1) d_Maker_makeChain_123 (by decide) ?_
          refine r_iadd d_Maker_makeChain_124 ?_
          refine r_iload d_Maker_makeChain_125 rfl ?_
          refine r_iconst (nI 1) d_Maker_makeChain_127 (by decide) ?_
          refine r_isub d_Maker_makeChain_128 ?_
          refine r_iand d_Maker_makeChain_129 ?_
          refine r_istore (vs' := [.ref 3, .int x1, .int x2, .ref 30, .int x4, .int (((x5 <<< ((nI 1) &&& 31)) &&& (x4 - (nI 1))) ||| (nI 1)), .int (((x7 - x1) + (nI 1)) &&& (x4 - (nI 1))), .int x7]) d_Maker_makeChain_130 rfl rfl ?_
          refine r_inc1 (vs' := [.ref 3, .int x1, .int x2, .ref 30, .int x4, .int (((x5 <<< ((nI 1) &&& 31)) &&& (x4 - (nI 1))) ||| (nI 1)), .int (((x7 - x1) + (nI 1)) &&& (x4 - (nI 1))), .int (x7 + nI 1)]) d_Maker_makeChain_132 rfl rfl rfl ?_
          refine r_goto 55 d_Maker_makeChain_135 (by decide) ?_
          exact h
def w_WD_chain (x1 : Int32) (x2 : Int32) (σ : am_S) (K : Int32 → am_S → Prop) : Prop := (am_ite (x1 < (nI 1)) (w_WD_deny (nI 1) σ (fun r2 τ2 => ((r2 = nI 0 ∨ r2 = nI 1) ∧ K r2 τ2))) (am_ite ((nI 9) < x1) (w_WD_deny (nI 1) σ (fun r4 τ4 => ((r4 = nI 0 ∨ r4 = nI 1) ∧ K r4 τ4))) (am_ite (x2 < (nI 0)) (w_WD_deny (nI 1) σ (fun r6 τ6 => ((r6 = nI 0 ∨ r6 = nI 1) ∧ K r6 τ6))) (am_ite (x2 < ((nI 1) <<< (x1 &&& 31))) (w_WD_beginChange  σ (fun τ8 => (w_Maker_makeChain x1 x2 τ8 (fun r9 τ9 => (w_Disc_turnBy r9 τ9 (fun τ10 => (w_WD_grant (nI 1) τ10 (fun r11 τ11 => ((r11 = nI 0 ∨ r11 = nI 1) ∧ K r11 τ11))))))))) (w_WD_deny (nI 1) σ (fun r12 τ12 => ((r12 = nI 0 ∨ r12 = nI 1) ∧ K r12 τ12)))))))
theorem t_WD_chain {d : Nat} {x1 : Int32} {x2 : Int32}  {σ : am_S} {K : Int32 → am_S → Prop} (h : w_WD_chain x1 x2 σ K) : am_run (d + 4) y_WD_chain [.ref 0, .int x1, .int x2] σ (am_Ri K) := by
  unfold w_WD_chain at h
  refine am_begin (vs := [.ref 0, .int x1, .int x2, .null]) c_WD_chain (by decide +kernel) rfl rfl rfl rfl ?_
  refine r_iload_n d_WD_chain_0 rfl ?_
  refine r_iconst (nI 1) d_WD_chain_1 (by decide) ?_
  refine r_icmp2 22 (x1 < (nI 1)) d_WD_chain_2 (by decide) rfl (fun c1 => ?_) (fun c1 => ?_)
  · have h := h.1 c1
    refine r_aload_n d_WD_chain_22 rfl ?_
    refine r_iconst (nI 1) d_WD_chain_23 (by decide) ?_
    refine r_virtI [.int (nI 1)] [] d_WD_chain_24 v_WD_102 rfl rfl cn_0 rfl (t_WD_deny h) (fun r2 τ2 h => ?_)
    exact r_zret d_WD_chain_27 h
  · have h := h.2 c1
    refine r_iload_n d_WD_chain_5 rfl ?_
    refine r_bipush (nI 9) d_WD_chain_6 (by decide) ?_
    refine r_icmp2 22 ((nI 9) < x1) d_WD_chain_8 (by decide) rfl (fun c3 => ?_) (fun c3 => ?_)
    · have h := h.1 c3
      refine r_aload_n d_WD_chain_22 rfl ?_
      refine r_iconst (nI 1) d_WD_chain_23 (by decide) ?_
      refine r_virtI [.int (nI 1)] [] d_WD_chain_24 v_WD_102 rfl rfl cn_0 rfl (t_WD_deny h) (fun r4 τ4 h => ?_)
      exact r_zret d_WD_chain_27 h
    · have h := h.2 c3
      refine r_iload_n d_WD_chain_11 rfl ?_
      refine r_if2 22 (x2 < (nI 0)) d_WD_chain_12 (by decide) rfl (fun c5 => ?_) (fun c5 => ?_)
      · have h := h.1 c5
        refine r_aload_n d_WD_chain_22 rfl ?_
        refine r_iconst (nI 1) d_WD_chain_23 (by decide) ?_
        refine r_virtI [.int (nI 1)] [] d_WD_chain_24 v_WD_102 rfl rfl cn_0 rfl (t_WD_deny h) (fun r6 τ6 h => ?_)
        exact r_zret d_WD_chain_27 h
      · have h := h.2 c5
        refine r_iload_n d_WD_chain_15 rfl ?_
        refine r_iconst (nI 1) d_WD_chain_16 (by decide) ?_
        refine r_iload_n d_WD_chain_17 rfl ?_
        refine r_ishl d_WD_chain_18 ?_
        refine r_icmp2 28 (x2 < ((nI 1) <<< (x1 &&& 31))) d_WD_chain_19 (by decide) rfl (fun c7 => ?_) (fun c7 => ?_)
        · have h := h.1 c7
          refine r_aload_n d_WD_chain_28 rfl ?_
          refine r_virtV [] [] d_WD_chain_29 v_WD_116 rfl rfl cn_0 rfl (t_WD_beginChange h) (fun τ8 h => ?_)
          refine r_aload_n d_WD_chain_32 rfl ?_
          refine r_getR d_WD_chain_33 f_WD_19 kd_0 rfl lk_0_1 ?_
          refine r_iload_n d_WD_chain_36 rfl ?_
          refine r_iload_n d_WD_chain_37 rfl ?_
          refine r_aload_n d_WD_chain_38 rfl ?_
          refine r_getR d_WD_chain_39 f_WD_71 kd_0 rfl lk_0_9 ?_
          refine r_statI [.ref 3, .int x1, .int x2, .ref 30] [] d_WD_chain_42 s_WD_254 rfl rfl rfl (t_Maker_makeChain h) (fun r9 τ9 h => ?_)
          refine r_istore_n (vs' := [.ref 0, .int x1, .int x2, .int r9]) d_WD_chain_45 rfl rfl ?_
          refine r_aload_n d_WD_chain_46 rfl ?_
          refine r_getR d_WD_chain_47 f_WD_19 kd_0 rfl lk_0_1 ?_
          refine r_iload_n d_WD_chain_50 rfl ?_
          refine r_aload_n d_WD_chain_51 rfl ?_
          refine r_getR d_WD_chain_52 f_WD_75 kd_0 rfl lk_0_10 ?_
          refine r_virtV [.int r9, .ref 32] [] d_WD_chain_55 v_WD_168 rfl rfl cn_3 rfl (t_Disc_turnBy h) (fun τ10 h => ?_)
          refine r_aload_n d_WD_chain_58 rfl ?_
          refine r_iconst (nI 1) d_WD_chain_59 (by decide) ?_
          refine r_virtI [.int (nI 1)] [] d_WD_chain_60 v_WD_112 rfl rfl cn_0 rfl (t_WD_grant h) (fun r11 τ11 h => ?_)
          exact r_zret d_WD_chain_63 h
        · have h := h.2 c7
          refine r_aload_n d_WD_chain_22 rfl ?_
          refine r_iconst (nI 1) d_WD_chain_23 (by decide) ?_
          refine r_virtI [.int (nI 1)] [] d_WD_chain_24 v_WD_102 rfl rfl cn_0 rfl (t_WD_deny h) (fun r12 τ12 h => ?_)
          exact r_zret d_WD_chain_27 h
def w_Search_fits (x0 : Int32) (x1 : Int32) (σ : am_S) (K : Int32 → am_S → Prop) : Prop := (am_ite (x0 < (nI 2)) (K (nI 0) σ) (am_ite ((nI 20) < x0) (K (nI 0) σ) (am_ite (x1 < (nI 2)) (K (nI 0) σ) (am_ite ((nI 5) < x1) (K (nI 0) σ) (¬ x1 = nI 0 ∧ (am_ite (¬ (x0 - x0 / x1 * x1) = (nI 0)) (K (nI 0) σ) (K (nI 1) σ)))))))
theorem t_Search_fits {d : Nat} {x0 : Int32} {x1 : Int32}  {σ : am_S} {K : Int32 → am_S → Prop} (h : w_Search_fits x0 x1 σ K) : am_run (d + 1) y_Search_fits [.int x0, .int x1] σ (am_Ri K) := by
  unfold w_Search_fits at h
  refine am_begin (vs := [.int x0, .int x1]) c_Search_fits (by decide +kernel) rfl rfl rfl rfl ?_
  refine r_iload_n d_Search_fits_0 rfl ?_
  refine r_iconst (nI 2) d_Search_fits_1 (by decide) ?_
  refine r_icmp2 31 (x0 < (nI 2)) d_Search_fits_2 (by decide) rfl (fun c1 => ?_) (fun c1 => ?_)
  · have h := h.1 c1
    refine r_iconst (nI 0) d_Search_fits_31 (by decide) ?_
    exact r_zret0 d_Search_fits_32 h
  · have h := h.2 c1
    refine r_iload_n d_Search_fits_5 rfl ?_
    refine r_bipush (nI 20) d_Search_fits_6 (by decide) ?_
    refine r_icmp2 31 ((nI 20) < x0) d_Search_fits_8 (by decide) rfl (fun c2 => ?_) (fun c2 => ?_)
    · have h := h.1 c2
      refine r_iconst (nI 0) d_Search_fits_31 (by decide) ?_
      exact r_zret0 d_Search_fits_32 h
    · have h := h.2 c2
      refine r_iload_n d_Search_fits_11 rfl ?_
      refine r_iconst (nI 2) d_Search_fits_12 (by decide) ?_
      refine r_icmp2 31 (x1 < (nI 2)) d_Search_fits_13 (by decide) rfl (fun c3 => ?_) (fun c3 => ?_)
      · have h := h.1 c3
        refine r_iconst (nI 0) d_Search_fits_31 (by decide) ?_
        exact r_zret0 d_Search_fits_32 h
      · have h := h.2 c3
        refine r_iload_n d_Search_fits_16 rfl ?_
        refine r_iconst (nI 5) d_Search_fits_17 (by decide) ?_
        refine r_icmp2 31 ((nI 5) < x1) d_Search_fits_18 (by decide) rfl (fun c4 => ?_) (fun c4 => ?_)
        · have h := h.1 c4
          refine r_iconst (nI 0) d_Search_fits_31 (by decide) ?_
          exact r_zret0 d_Search_fits_32 h
        · have h := h.2 c4
          refine r_iload_n d_Search_fits_21 rfl ?_
          refine r_iload_n d_Search_fits_22 rfl ?_
          refine r_irem d_Search_fits_23 ⟨h.1, ?_⟩
          have h := h.2
          refine r_if2 31 (¬ (x0 - x0 / x1 * x1) = (nI 0)) d_Search_fits_24 (by decide) rfl (fun c5 => ?_) (fun c5 => ?_)
          · have h := h.1 c5
            refine r_iconst (nI 0) d_Search_fits_31 (by decide) ?_
            exact r_zret0 d_Search_fits_32 h
          · have h := h.2 c5
            refine r_iconst (nI 1) d_Search_fits_27 (by decide) ?_
            refine r_goto 32 d_Search_fits_28 (by decide) ?_
            exact r_zret1 d_Search_fits_32 h
def w_Search_isStepCount (x0 : Int32) (σ : am_S) (K : Int32 → am_S → Prop) : Prop := (am_ite (x0 < (nI 0)) (K (nI 0) σ) (am_ite ((nI 2000000) < x0) (K (nI 0) σ) (K (nI 1) σ)))
theorem t_Search_isStepCount {d : Nat} {x0 : Int32}  {σ : am_S} {K : Int32 → am_S → Prop} (h : w_Search_isStepCount x0 σ K) : am_run (d + 1) y_Search_isStepCount [.int x0] σ (am_Ri K) := by
  unfold w_Search_isStepCount at h
  refine am_begin (vs := [.int x0]) c_Search_isStepCount (by decide +kernel) rfl rfl rfl rfl ?_
  refine r_iload_n d_Search_isStepCount_0 rfl ?_
  refine r_if2 14 (x0 < (nI 0)) d_Search_isStepCount_1 (by decide) rfl (fun c1 => ?_) (fun c1 => ?_)
  · have h := h.1 c1
    refine r_iconst (nI 0) d_Search_isStepCount_14 (by decide) ?_
    exact r_zret0 d_Search_isStepCount_15 h
  · have h := h.2 c1
    refine r_iload_n d_Search_isStepCount_4 rfl ?_
    refine r_ldc (nI 2000000) d_Search_isStepCount_5 k_Search_40 ?_
    refine r_icmp2 14 ((nI 2000000) < x0) d_Search_isStepCount_7 (by decide) rfl (fun c2 => ?_) (fun c2 => ?_)
    · have h := h.1 c2
      refine r_iconst (nI 0) d_Search_isStepCount_14 (by decide) ?_
      exact r_zret0 d_Search_isStepCount_15 h
    · have h := h.2 c2
      refine r_iconst (nI 1) d_Search_isStepCount_10 (by decide) ?_
      refine r_goto 15 d_Search_isStepCount_11 (by decide) ?_
      exact r_zret1 d_Search_isStepCount_15 h
def w_Search_affords (x1 : Int32) (σ : am_S) (K : Int32 → am_S → Prop) : Prop := (am_ite (((nI 4000000) - (σ.1 21 7)) < x1) (K (nI 0) σ) (K (nI 1) σ))
theorem t_Search_affords {d : Nat} {x1 : Int32}  {σ : am_S} {K : Int32 → am_S → Prop} (h : w_Search_affords x1 σ K) : am_run (d + 1) y_Search_affords [.ref 21, .int x1] σ (am_Ri K) := by
  unfold w_Search_affords at h
  refine am_begin (vs := [.ref 21, .int x1]) c_Search_affords (by decide +kernel) rfl rfl rfl rfl ?_
  refine r_iload_n d_Search_affords_0 rfl ?_
  refine r_ldc (nI 4000000) d_Search_affords_1 k_Search_41 ?_
  refine r_aload_n d_Search_affords_3 rfl ?_
  refine r_getI d_Search_affords_4 f_Search_33 kd_21 rfl ?_
  refine r_isub d_Search_affords_7 ?_
  refine r_icmp2 15 (((nI 4000000) - (σ.1 21 7)) < x1) d_Search_affords_8 (by decide) rfl (fun c1 => ?_) (fun c1 => ?_)
  · have h := h.1 c1
    refine r_iconst (nI 0) d_Search_affords_15 (by decide) ?_
    exact r_zret0 d_Search_affords_16 h
  · have h := h.2 c1
    refine r_iconst (nI 1) d_Search_affords_11 (by decide) ?_
    refine r_goto 16 d_Search_affords_12 (by decide) ?_
    exact r_zret1 d_Search_affords_16 h
def w_Search_begin (x1 : Int32) (x2 : Int32) (σ : am_S) (K : am_S → Prop) : Prop := (w_Search_fits x1 x2 σ (fun r1 τ1 => (am_ite (¬ r1 = (nI 0)) (¬ x2 = nI 0 ∧ K (am_upI (am_upI (am_upI (am_upI (am_upI (am_upI (am_upI τ1 21 0 x1) 21 1 x2) 21 2 (x1 / x2)) 21 3 ((nI 1) <<< (x1 &&& 31))) 21 4 (nI 0)) 21 5 (nI 0)) 21 8 (nI 1))) (K τ1))))
theorem t_Search_begin {d : Nat} {x1 : Int32} {x2 : Int32}  {σ : am_S} {K : am_S → Prop} (h : w_Search_begin x1 x2 σ K) : am_run (d + 2) y_Search_begin [.ref 21, .int x1, .int x2] σ (am_Rv K) := by
  unfold w_Search_begin at h
  refine am_begin (vs := [.ref 21, .int x1, .int x2]) c_Search_begin (by decide +kernel) rfl rfl rfl rfl ?_
  refine r_iload_n d_Search_begin_0 rfl ?_
  refine r_iload_n d_Search_begin_1 rfl ?_
  refine r_statI [.int x1, .int x2] [] d_Search_begin_2 s_Search_42 rfl rfl rfl (t_Search_fits h) (fun r1 τ1 h => ?_)
  refine r_if2 9 (¬ r1 = (nI 0)) d_Search_begin_5 (by decide) rfl (fun c2 => ?_) (fun c2 => ?_)
  · have h := h.1 c2
    refine r_aload_n d_Search_begin_9 rfl ?_
    refine r_iload_n d_Search_begin_10 rfl ?_
    refine r_putI d_Search_begin_11 f_Search_9 kd_21 rfl ?_
    refine r_aload_n d_Search_begin_14 rfl ?_
    refine r_iload_n d_Search_begin_15 rfl ?_
    refine r_putI d_Search_begin_16 f_Search_15 kd_21 rfl ?_
    refine r_aload_n d_Search_begin_19 rfl ?_
    refine r_iload_n d_Search_begin_20 rfl ?_
    refine r_iload_n d_Search_begin_21 rfl ?_
    refine r_idiv d_Search_begin_22 ⟨h.1, ?_⟩
    have h := h.2
    refine r_putI d_Search_begin_23 f_Search_18 kd_21 rfl ?_
    refine r_aload_n d_Search_begin_26 rfl ?_
    refine r_iconst (nI 1) d_Search_begin_27 (by decide) ?_
    refine r_iload_n d_Search_begin_28 rfl ?_
    refine r_ishl d_Search_begin_29 ?_
    refine r_putI d_Search_begin_30 f_Search_21 kd_21 rfl ?_
    refine r_aload_n d_Search_begin_33 rfl ?_
    refine r_iconst (nI 0) d_Search_begin_34 (by decide) ?_
    refine r_putI d_Search_begin_35 f_Search_24 kd_21 rfl ?_
    refine r_aload_n d_Search_begin_38 rfl ?_
    refine r_iconst (nI 0) d_Search_begin_39 (by decide) ?_
    refine r_putI d_Search_begin_40 f_Search_27 kd_21 rfl ?_
    refine r_aload_n d_Search_begin_43 rfl ?_
    refine r_iconst (nI 1) d_Search_begin_44 (by decide) ?_
    refine r_putZ d_Search_begin_45 f_Search_36 kd_21 rfl ⟨Or.inr rfl, ?_⟩
    exact r_vret d_Search_begin_48 h
  · have h := h.2 c2
    exact r_vret d_Search_begin_8 h
abbrev R_Search_lightsAtEnd (d : Nat) (K : Int32 → am_S → Prop) (pc : Nat) (vs st : List Value) (σ : am_S) : Prop := am_r (am_run (d + 0)) "WheelDisc$Search" (some .int) prog_9_method_8_code (am_Ri K) pc vs st σ
def w_Search_lightsAtEnd (x1 : Int32) (σ : am_S) (K : Int32 → am_S → Prop) : Prop := ∀ d : Nat, am_run (d + 1) y_Search_lightsAtEnd [.ref 21, .int x1] σ (am_Ri K)
theorem t_Search_lightsAtEnd {d : Nat} {x1 : Int32}  {σ : am_S} {K : Int32 → am_S → Prop} (h : w_Search_lightsAtEnd x1 σ K) : am_run (d + 1) y_Search_lightsAtEnd [.ref 21, .int x1] σ (am_Ri K) := h d
theorem e_Search_lightsAtEnd {x1 : Int32}  {σ : am_S} {K : Int32 → am_S → Prop} (h : ∀ d : Nat, R_Search_lightsAtEnd d K 2 [.ref 21, .int x1, .int (nI 0)] [] σ) : w_Search_lightsAtEnd x1 σ K := by
  intro d
  have h := h d
  refine am_begin (vs := [.ref 21, .int x1, .null]) c_Search_lightsAtEnd (by decide +kernel) rfl rfl rfl rfl ?_
  refine r_iconst (nI 0) d_Search_lightsAtEnd_0 (by decide) ?_
  refine r_istore_n (vs' := [.ref 21, .int x1, .int (nI 0)]) d_Search_lightsAtEnd_1 rfl rfl ?_
  exact h
theorem l_Search_lightsAtEnd_2 {d : Nat}  {x1 : Int32} {x2 : Int32}  {σ : am_S} {K : Int32 → am_S → Prop} (h : (am_ite ((σ.1 21 0) ≤ x2) (K x2 σ) (am_ite (((x1 >>> (x2 &&& 31)) &&& (nI 1)) = (nI 0)) (K x2 σ) (R_Search_lightsAtEnd d K 2 [.ref 21, .int x1, .int (x2 + nI 1)] [] σ)))) : R_Search_lightsAtEnd d K 2 [.ref 21, .int x1, .int x2] [] σ := by
  refine r_iload_n d_Search_lightsAtEnd_2 rfl ?_
  refine r_aload_n d_Search_lightsAtEnd_3 rfl ?_
  refine r_getI d_Search_lightsAtEnd_4 f_Search_9 kd_21 rfl ?_
  refine r_icmp2 24 ((σ.1 21 0) ≤ x2) d_Search_lightsAtEnd_7 (by decide) rfl (fun c1 => ?_) (fun c1 => ?_)
  · have h := h.1 c1
    refine r_iload_n d_Search_lightsAtEnd_24 rfl ?_
    exact r_iret d_Search_lightsAtEnd_25 h
  · have h := h.2 c1
    refine r_iload_n d_Search_lightsAtEnd_10 rfl ?_
    refine r_iload_n d_Search_lightsAtEnd_11 rfl ?_
    refine r_ishr d_Search_lightsAtEnd_12 ?_
    refine r_iconst (nI 1) d_Search_lightsAtEnd_13 (by decide) ?_
    refine r_iand d_Search_lightsAtEnd_14 ?_
    refine r_if2 24 (((x1 >>> (x2 &&& 31)) &&& (nI 1)) = (nI 0)) d_Search_lightsAtEnd_15 (by decide) rfl (fun c2 => ?_) (fun c2 => ?_)
    · have h := h.1 c2
      refine r_iload_n d_Search_lightsAtEnd_24 rfl ?_
      exact r_iret d_Search_lightsAtEnd_25 h
    · have h := h.2 c2
      refine r_inc1 (vs' := [.ref 21, .int x1, .int (x2 + nI 1)]) d_Search_lightsAtEnd_18 rfl rfl rfl ?_
      refine r_goto 2 d_Search_lightsAtEnd_21 (by decide) ?_
      exact h
abbrev R_Search_repeated (d : Nat) (K : Int32 → am_S → Prop) (pc : Nat) (vs st : List Value) (σ : am_S) : Prop := am_r (am_run (d + 0)) "WheelDisc$Search" (some .int) prog_9_method_9_code (am_Ri K) pc vs st σ
def w_Search_repeated (x1 : Int32) (x2 : Int32) (σ : am_S) (K : Int32 → am_S → Prop) : Prop := ∀ d : Nat, am_run (d + 1) y_Search_repeated [.ref 21, .int x1, .int x2] σ (am_Ri K)
theorem t_Search_repeated {d : Nat} {x1 : Int32} {x2 : Int32}  {σ : am_S} {K : Int32 → am_S → Prop} (h : w_Search_repeated x1 x2 σ K) : am_run (d + 1) y_Search_repeated [.ref 21, .int x1, .int x2] σ (am_Ri K) := h d
theorem e_Search_repeated {x1 : Int32} {x2 : Int32}  {σ : am_S} {K : Int32 → am_S → Prop} (h : ∀ d : Nat, R_Search_repeated d K 5 [.ref 21, .null, .int x2, .int x1, .int x2] [] σ) : w_Search_repeated x1 x2 σ K := by
  intro d
  have h := h d
  refine am_begin (vs := [.ref 21, .int x1, .int x2, .null, .null]) c_Search_repeated (by decide +kernel) rfl rfl rfl rfl ?_
  refine r_iload_n d_Search_repeated_0 rfl ?_
  refine r_istore_n (vs' := [.ref 21, .int x1, .int x2, .int x1, .null]) d_Search_repeated_1 rfl rfl ?_
  refine r_iload_n d_Search_repeated_2 rfl ?_
  refine r_istore (vs' := [.ref 21, .int x1, .int x2, .int x1, .int x2]) d_Search_repeated_3 rfl rfl ?_
  exact am_weak (vs := [.ref 21, .null, .int x2, .int x1, .int x2]) ⟨Or.inl rfl, Or.inr ⟨rfl, rfl⟩, Or.inl rfl, Or.inl rfl, Or.inl rfl, trivial⟩ h
theorem l_Search_repeated_5 {d : Nat}  {x2 : Int32} {x3 : Int32} {x4 : Int32}  {σ : am_S} {K : Int32 → am_S → Prop} (h : (am_ite ((σ.1 21 0) ≤ x4) (K x3 σ) (R_Search_repeated d K 5 [.ref 21, .null, .int x2, .int ((x3 <<< ((nI 1) &&& 31)) ||| ((x3 >>> ((x2 - (nI 1)) &&& 31)) &&& (nI 1))), .int (x4 + nI 1)] [] σ))) : R_Search_repeated d K 5 [.ref 21, .null, .int x2, .int x3, .int x4] [] σ := by
  refine r_iload d_Search_repeated_5 rfl ?_
  refine r_aload_n d_Search_repeated_7 rfl ?_
  refine r_getI d_Search_repeated_8 f_Search_9 kd_21 rfl ?_
  refine r_icmp2 32 ((σ.1 21 0) ≤ x4) d_Search_repeated_11 (by decide) rfl (fun c1 => ?_) (fun c1 => ?_)
  · have h := h.1 c1
    refine r_iload_n d_Search_repeated_32 rfl ?_
    exact r_iret d_Search_repeated_33 h
  · have h := h.2 c1
    refine r_iload_n d_Search_repeated_14 rfl ?_
    refine r_iconst (nI 1) d_Search_repeated_15 (by decide) ?_
    refine r_ishl d_Search_repeated_16 ?_
    refine r_iload_n d_Search_repeated_17 rfl ?_
    refine r_iload_n d_Search_repeated_18 rfl ?_
    refine r_iconst (nI 1) d_Search_repeated_19 (by decide) ?_
    refine r_isub d_Search_repeated_20 ?_
    refine r_ishr d_Search_repeated_21 ?_
    refine r_iconst (nI 1) d_Search_repeated_22 (by decide) ?_
    refine r_iand d_Search_repeated_23 ?_
    refine r_ior d_Search_repeated_24 ?_
    refine r_istore_n (vs' := [.ref 21, .null, .int x2, .int ((x3 <<< ((nI 1) &&& 31)) ||| ((x3 >>> ((x2 - (nI 1)) &&& 31)) &&& (nI 1))), .int x4]) d_Search_repeated_25 rfl rfl ?_
    refine r_inc1 (vs' := [.ref 21, .null, .int x2, .int ((x3 <<< ((nI 1) &&& 31)) ||| ((x3 >>> ((x2 - (nI 1)) &&& 31)) &&& (nI 1))), .int (x4 + nI 1)]) d_Search_repeated_26 rfl rfl rfl ?_
    refine r_goto 5 d_Search_repeated_29 (by decide) ?_
    exact h
abbrev R_Search_leastTurnedBehind (d : Nat) (K : Int32 → am_S → Prop) (pc : Nat) (vs st : List Value) (σ : am_S) : Prop := am_r (am_run (d + 1)) "WheelDisc$Search" (some .int) prog_9_method_7_code (am_Ri K) pc vs st σ
def w_Search_leastTurnedBehind (x1 : Int32) (σ : am_S) (K : Int32 → am_S → Prop) : Prop := ∀ d : Nat, am_run (d + 2) y_Search_leastTurnedBehind [.ref 21, .int x1] σ (am_Ri K)
theorem t_Search_leastTurnedBehind {d : Nat} {x1 : Int32}  {σ : am_S} {K : Int32 → am_S → Prop} (h : w_Search_leastTurnedBehind x1 σ K) : am_run (d + 2) y_Search_leastTurnedBehind [.ref 21, .int x1] σ (am_Ri K) := h d
theorem e_Search_leastTurnedBehind {x1 : Int32}  {σ : am_S} {K : Int32 → am_S → Prop} (h : ∀ d : Nat, R_Search_leastTurnedBehind d K 4 [.ref 21, .null, .int x1, .int (nI 0), .null, .null] [] σ) : w_Search_leastTurnedBehind x1 σ K := by
  intro d
  have h := h d
  refine am_begin (vs := [.ref 21, .int x1, .null, .null, .null, .null]) c_Search_leastTurnedBehind (by decide +kernel) rfl rfl rfl rfl ?_
  refine r_iload_n d_Search_leastTurnedBehind_0 rfl ?_
  refine r_istore_n (vs' := [.ref 21, .int x1, .int x1, .null, .null, .null]) d_Search_leastTurnedBehind_1 rfl rfl ?_
  refine r_iconst (nI 0) d_Search_leastTurnedBehind_2 (by decide) ?_
  refine r_istore_n (vs' := [.ref 21, .int x1, .int x1, .int (nI 0), .null, .null]) d_Search_leastTurnedBehind_3 rfl rfl ?_
  exact am_weak (vs := [.ref 21, .null, .int x1, .int (nI 0), .null, .null]) ⟨Or.inl rfl, Or.inr ⟨rfl, rfl⟩, Or.inl rfl, Or.inl rfl, Or.inl rfl, Or.inl rfl, trivial⟩ h
theorem l_Search_leastTurnedBehind_4 {d : Nat}  {x2 : Int32} {x3 : Int32}  {σ : am_S} {K : Int32 → am_S → Prop} (h : (am_ite ((σ.1 21 3) ≤ x3) (K (σ.1 21 3) σ) (w_Search_lightsAtEnd x2 σ (fun r2 τ2 => (am_ite ((nI 0) < ((τ2.1 21 0) - r2)) (w_Search_repeated ((x2 >>> (r2 &&& 31)) ||| (nI 1)) ((τ2.1 21 0) - r2) τ2 (fun r4 τ4 => (¬ ((τ2.1 21 0) - r2) = nI 0 ∧ (am_ite (¬ ((τ4.1 21 0) - (τ4.1 21 0) / ((τ2.1 21 0) - r2) * ((τ2.1 21 0) - r2)) = (nI 0)) (R_Search_leastTurnedBehind d K 4 [.ref 21, .null, .int r4, .int (x3 + nI 1), .null, .null] [] τ4) (K r4 τ4))))) (K (τ2.1 21 3) τ2)))))) : R_Search_leastTurnedBehind d K 4 [.ref 21, .null, .int x2, .int x3, .null, .null] [] σ := by
  refine r_iload_n d_Search_leastTurnedBehind_4 rfl ?_
  refine r_aload_n d_Search_leastTurnedBehind_5 rfl ?_
  refine r_getI d_Search_leastTurnedBehind_6 f_Search_21 kd_21 rfl ?_
  refine r_icmp2 69 ((σ.1 21 3) ≤ x3) d_Search_leastTurnedBehind_9 (by decide) rfl (fun c1 => ?_) (fun c1 => ?_)
  · have h := h.1 c1
    refine r_aload_n d_Search_leastTurnedBehind_69 rfl ?_
    refine r_getI d_Search_leastTurnedBehind_70 f_Search_21 kd_21 rfl ?_
    exact r_iret d_Search_leastTurnedBehind_73 h
  · have h := h.2 c1
    refine r_aload_n d_Search_leastTurnedBehind_12 rfl ?_
    refine r_iload_n d_Search_leastTurnedBehind_13 rfl ?_
    refine r_virtI [.int x2] [] d_Search_leastTurnedBehind_14 v_Search_60 rfl rfl cn_21 rfl (t_Search_lightsAtEnd h) (fun r2 τ2 h => ?_)
    refine r_istore (vs' := [.ref 21, .null, .int x2, .int x3, .int r2, .null]) d_Search_leastTurnedBehind_17 rfl rfl ?_
    refine r_aload_n d_Search_leastTurnedBehind_19 rfl ?_
    refine r_getI d_Search_leastTurnedBehind_20 f_Search_9 kd_21 rfl ?_
    refine r_iload d_Search_leastTurnedBehind_23 rfl ?_
    refine r_isub d_Search_leastTurnedBehind_25 ?_
    refine r_istore (vs' := [.ref 21, .null, .int x2, .int x3, .int r2, .int ((τ2.1 21 0) - r2)]) d_Search_leastTurnedBehind_26 rfl rfl ?_
    refine r_iload d_Search_leastTurnedBehind_28 rfl ?_
    refine r_if2 38 ((nI 0) < ((τ2.1 21 0) - r2)) d_Search_leastTurnedBehind_30 (by decide) rfl (fun c3 => ?_) (fun c3 => ?_)
    · have h := h.1 c3
      refine r_aload_n d_Search_leastTurnedBehind_38 rfl ?_
      refine r_iload_n d_Search_leastTurnedBehind_39 rfl ?_
      refine r_iload d_Search_leastTurnedBehind_40 rfl ?_
      refine r_ishr d_Search_leastTurnedBehind_42 ?_
      refine r_iconst (nI 1) d_Search_leastTurnedBehind_43 (by decide) ?_
      refine r_ior d_Search_leastTurnedBehind_44 ?_
      refine r_iload d_Search_leastTurnedBehind_45 rfl ?_
      refine r_virtI [.int ((x2 >>> (r2 &&& 31)) ||| (nI 1)), .int ((τ2.1 21 0) - r2)] [] d_Search_leastTurnedBehind_47 v_Search_63 rfl rfl cn_21 rfl (t_Search_repeated h) (fun r4 τ4 h => ?_)
      refine r_istore_n (vs' := [.ref 21, .null, .int r4, .int x3, .int r2, .int ((τ2.1 21 0) - r2)]) d_Search_leastTurnedBehind_50 rfl rfl ?_
      refine r_aload_n d_Search_leastTurnedBehind_51 rfl ?_
      refine r_getI d_Search_leastTurnedBehind_52 f_Search_9 kd_21 rfl ?_
      refine r_iload d_Search_leastTurnedBehind_55 rfl ?_
      refine r_irem d_Search_leastTurnedBehind_57 ⟨h.1, ?_⟩
      have h := h.2
      refine r_if2 63 (¬ ((τ4.1 21 0) - (τ4.1 21 0) / ((τ2.1 21 0) - r2) * ((τ2.1 21 0) - r2)) = (nI 0)) d_Search_leastTurnedBehind_58 (by decide) rfl (fun c5 => ?_) (fun c5 => ?_)
      · have h := h.1 c5
        refine r_inc1 (vs' := [.ref 21, .null, .int r4, .int (x3 + nI 1), .int r2, .int ((τ2.1 21 0) - r2)]) d_Search_leastTurnedBehind_63 rfl rfl rfl ?_
        refine r_goto 4 d_Search_leastTurnedBehind_66 (by decide) ?_
        exact am_weak (vs := [.ref 21, .null, .int r4, .int (x3 + nI 1), .null, .null]) ⟨Or.inl rfl, Or.inl rfl, Or.inl rfl, Or.inl rfl, Or.inr ⟨rfl, rfl⟩, Or.inr ⟨rfl, rfl⟩, trivial⟩ h
      · have h := h.2 c5
        refine r_iload_n d_Search_leastTurnedBehind_61 rfl ?_
        exact r_iret d_Search_leastTurnedBehind_62 h
    · have h := h.2 c3
      refine r_aload_n d_Search_leastTurnedBehind_33 rfl ?_
      refine r_getI d_Search_leastTurnedBehind_34 f_Search_21 kd_21 rfl ?_
      exact r_iret d_Search_leastTurnedBehind_37 h
def w_Search_lightOf (x1 : Int32) (x2 : Int32) (σ : am_S) (K : Int32 → am_S → Prop) : Prop := (am_ite (((x1 >>> ((((σ.1 21 0) - (nI 1)) - x2) &&& 31)) &&& (nI 1)) = (nI 0)) (K (nI 0) σ) (K (nI 1) σ))
theorem t_Search_lightOf {d : Nat} {x1 : Int32} {x2 : Int32}  {σ : am_S} {K : Int32 → am_S → Prop} (h : w_Search_lightOf x1 x2 σ K) : am_run (d + 1) y_Search_lightOf [.ref 21, .int x1, .int x2] σ (am_Ri K) := by
  unfold w_Search_lightOf at h
  refine am_begin (vs := [.ref 21, .int x1, .int x2]) c_Search_lightOf (by decide +kernel) rfl rfl rfl rfl ?_
  refine r_iload_n d_Search_lightOf_0 rfl ?_
  refine r_aload_n d_Search_lightOf_1 rfl ?_
  refine r_getI d_Search_lightOf_2 f_Search_9 kd_21 rfl ?_
  refine r_iconst (nI 1) d_Search_lightOf_5 (by decide) ?_
  refine r_isub d_Search_lightOf_6 ?_
  refine r_iload_n d_Search_lightOf_7 rfl ?_
  refine r_isub d_Search_lightOf_8 ?_
  refine r_ishr d_Search_lightOf_9 ?_
  refine r_iconst (nI 1) d_Search_lightOf_10 (by decide) ?_
  refine r_iand d_Search_lightOf_11 ?_
  refine r_if2 19 (((x1 >>> ((((σ.1 21 0) - (nI 1)) - x2) &&& 31)) &&& (nI 1)) = (nI 0)) d_Search_lightOf_12 (by decide) rfl (fun c1 => ?_) (fun c1 => ?_)
  · have h := h.1 c1
    refine r_iconst (nI 0) d_Search_lightOf_19 (by decide) ?_
    exact r_zret0 d_Search_lightOf_20 h
  · have h := h.2 c1
    refine r_iconst (nI 1) d_Search_lightOf_15 (by decide) ?_
    refine r_goto 20 d_Search_lightOf_16 (by decide) ?_
    exact r_zret1 d_Search_lightOf_20 h
abbrev R_Search_wordOf (d : Nat) (K : Int32 → am_S → Prop) (pc : Nat) (vs st : List Value) (σ : am_S) : Prop := am_r (am_run (d + 1)) "WheelDisc$Search" (some .int) prog_9_method_11_code (am_Ri K) pc vs st σ
def w_Search_wordOf (x1 : Int32) (x2 : Int32) (σ : am_S) (K : Int32 → am_S → Prop) : Prop := ∀ d : Nat, am_run (d + 2) y_Search_wordOf [.ref 21, .int x1, .int x2] σ (am_Ri K)
theorem t_Search_wordOf {d : Nat} {x1 : Int32} {x2 : Int32}  {σ : am_S} {K : Int32 → am_S → Prop} (h : w_Search_wordOf x1 x2 σ K) : am_run (d + 2) y_Search_wordOf [.ref 21, .int x1, .int x2] σ (am_Ri K) := h d
theorem e_Search_wordOf {x1 : Int32} {x2 : Int32}  {σ : am_S} {K : Int32 → am_S → Prop} (h : ∀ d : Nat, R_Search_wordOf d K 8 [.ref 21, .int x1, .null, .int (nI 0), .int x2, .int (nI 0)] [] σ) : w_Search_wordOf x1 x2 σ K := by
  intro d
  have h := h d
  refine am_begin (vs := [.ref 21, .int x1, .int x2, .null, .null, .null]) c_Search_wordOf (by decide +kernel) rfl rfl rfl rfl ?_
  refine r_iconst (nI 0) d_Search_wordOf_0 (by decide) ?_
  refine r_istore_n (vs' := [.ref 21, .int x1, .int x2, .int (nI 0), .null, .null]) d_Search_wordOf_1 rfl rfl ?_
  refine r_iload_n d_Search_wordOf_2 rfl ?_
  refine r_istore (vs' := [.ref 21, .int x1, .int x2, .int (nI 0), .int x2, .null]) d_Search_wordOf_3 rfl rfl ?_
  refine r_iconst (nI 0) d_Search_wordOf_5 (by decide) ?_
  refine r_istore (vs' := [.ref 21, .int x1, .int x2, .int (nI 0), .int x2, .int (nI 0)]) d_Search_wordOf_6 rfl rfl ?_
  exact am_weak (vs := [.ref 21, .int x1, .null, .int (nI 0), .int x2, .int (nI 0)]) ⟨Or.inl rfl, Or.inl rfl, Or.inr ⟨rfl, rfl⟩, Or.inl rfl, Or.inl rfl, Or.inl rfl, trivial⟩ h
theorem l_Search_wordOf_8 {d : Nat}  {x1 : Int32} {x3 : Int32} {x4 : Int32} {x5 : Int32}  {σ : am_S} {K : Int32 → am_S → Prop} (h : (am_ite ((σ.1 21 1) ≤ x5) (K x3 σ) (w_Search_lightOf x1 x4 σ (fun r2 τ2 => (am_ite (r2 = (nI 0)) (am_ite ((x4 + (τ2.1 21 2)) < (τ2.1 21 0)) (R_Search_wordOf d K 8 [.ref 21, .int x1, .null, .int ((x3 <<< ((nI 1) &&& 31)) ||| (nI 0)), .int (x4 + (τ2.1 21 2)), .int (x5 + nI 1)] [] τ2) (R_Search_wordOf d K 8 [.ref 21, .int x1, .null, .int ((x3 <<< ((nI 1) &&& 31)) ||| (nI 0)), .int ((x4 + (τ2.1 21 2)) - (τ2.1 21 0)), .int (x5 + nI 1)] [] τ2)) (am_ite ((x4 + (τ2.1 21 2)) < (τ2.1 21 0)) (R_Search_wordOf d K 8 [.ref 21, .int x1, .null, .int ((x3 <<< ((nI 1) &&& 31)) ||| (nI 1)), .int (x4 + (τ2.1 21 2)), .int (x5 + nI 1)] [] τ2) (R_Search_wordOf d K 8 [.ref 21, .int x1, .null, .int ((x3 <<< ((nI 1) &&& 31)) ||| (nI 1)), .int ((x4 + (τ2.1 21 2)) - (τ2.1 21 0)), .int (x5 + nI 1)] [] τ2))))))) : R_Search_wordOf d K 8 [.ref 21, .int x1, .null, .int x3, .int x4, .int x5] [] σ := by
  refine r_iload d_Search_wordOf_8 rfl ?_
  refine r_aload_n d_Search_wordOf_10 rfl ?_
  refine r_getI d_Search_wordOf_11 f_Search_15 kd_21 rfl ?_
  refine r_icmp2 70 ((σ.1 21 1) ≤ x5) d_Search_wordOf_14 (by decide) rfl (fun c1 => ?_) (fun c1 => ?_)
  · have h := h.1 c1
    refine r_iload_n d_Search_wordOf_70 rfl ?_
    exact r_iret d_Search_wordOf_71 h
  · have h := h.2 c1
    refine r_iload_n d_Search_wordOf_17 rfl ?_
    refine r_iconst (nI 1) d_Search_wordOf_18 (by decide) ?_
    refine r_ishl d_Search_wordOf_19 ?_
    refine r_aload_n d_Search_wordOf_20 rfl ?_
    refine r_iload_n d_Search_wordOf_21 rfl ?_
    refine r_iload d_Search_wordOf_22 rfl ?_
    refine r_virtI [.int x1, .int x4] [.int (x3 <<< ((nI 1) &&& 31))] d_Search_wordOf_24 v_Search_74 rfl rfl cn_21 rfl (t_Search_lightOf h) (fun r2 τ2 h => ?_)
    refine r_if2 34 (r2 = (nI 0)) d_Search_wordOf_27 (by decide) rfl (fun c3 => ?_) (fun c3 => ?_)
    · have h := h.1 c3
      refine r_iconst (nI 0) d_Search_wordOf_34 (by decide) ?_
      refine r_ior d_Search_wordOf_35 ?_
      refine r_istore_n (vs' := [.ref 21, .int x1, .null, .int ((x3 <<< ((nI 1) &&& 31)) ||| (nI 0)), .int x4, .int x5]) d_Search_wordOf_36 rfl rfl ?_
      refine r_iload d_Search_wordOf_37 rfl ?_
      refine r_aload_n d_Search_wordOf_39 rfl ?_
      refine r_getI d_Search_wordOf_40 f_Search_18 kd_21 rfl ?_
      refine r_iadd d_Search_wordOf_43 ?_
      refine r_istore (vs' := [.ref 21, .int x1, .null, .int ((x3 <<< ((nI 1) &&& 31)) ||| (nI 0)), .int (x4 + (τ2.1 21 2)), .int x5]) d_Search_wordOf_44 rfl rfl ?_
      refine r_iload d_Search_wordOf_46 rfl ?_
      refine r_aload_n d_Search_wordOf_48 rfl ?_
      refine r_getI d_Search_wordOf_49 f_Search_9 kd_21 rfl ?_
      refine r_icmp2 64 ((x4 + (τ2.1 21 2)) < (τ2.1 21 0)) d_Search_wordOf_52 (by decide) rfl (fun c4 => ?_) (fun c4 => ?_)
      · have h := h.1 c4
        refine r_inc1 (vs' := [.ref 21, .int x1, .null, .int ((x3 <<< ((nI 1) &&& 31)) ||| (nI 0)), .int (x4 + (τ2.1 21 2)), .int (x5 + nI 1)]) d_Search_wordOf_64 rfl rfl rfl ?_
        refine r_goto 8 d_Search_wordOf_67 (by decide) ?_
        exact h
      · have h := h.2 c4
        refine r_iload d_Search_wordOf_55 rfl ?_
        refine r_aload_n d_Search_wordOf_57 rfl ?_
        refine r_getI d_Search_wordOf_58 f_Search_9 kd_21 rfl ?_
        refine r_isub d_Search_wordOf_61 ?_
        refine r_istore (vs' := [.ref 21, .int x1, .null, .int ((x3 <<< ((nI 1) &&& 31)) ||| (nI 0)), .int ((x4 + (τ2.1 21 2)) - (τ2.1 21 0)), .int x5]) d_Search_wordOf_62 rfl rfl ?_
        refine r_inc1 (vs' := [.ref 21, .int x1, .null, .int ((x3 <<< ((nI 1) &&& 31)) ||| (nI 0)), .int ((x4 + (τ2.1 21 2)) - (τ2.1 21 0)), .int (x5 + nI 1)]) d_Search_wordOf_64 rfl rfl rfl ?_
        refine r_goto 8 d_Search_wordOf_67 (by decide) ?_
        exact h
    · have h := h.2 c3
      refine r_iconst (nI 1) d_Search_wordOf_30 (by decide) ?_
      refine r_goto 35 d_Search_wordOf_31 (by decide) ?_
      refine r_ior d_Search_wordOf_35 ?_
      refine r_istore_n (vs' := [.ref 21, .int x1, .null, .int ((x3 <<< ((nI 1) &&& 31)) ||| (nI 1)), .int x4, .int x5]) d_Search_wordOf_36 rfl rfl ?_
      refine r_iload d_Search_wordOf_37 rfl ?_
      refine r_aload_n d_Search_wordOf_39 rfl ?_
      refine r_getI d_Search_wordOf_40 f_Search_18 kd_21 rfl ?_
      refine r_iadd d_Search_wordOf_43 ?_
      refine r_istore (vs' := [.ref 21, .int x1, .null, .int ((x3 <<< ((nI 1) &&& 31)) ||| (nI 1)), .int (x4 + (τ2.1 21 2)), .int x5]) d_Search_wordOf_44 rfl rfl ?_
      refine r_iload d_Search_wordOf_46 rfl ?_
      refine r_aload_n d_Search_wordOf_48 rfl ?_
      refine r_getI d_Search_wordOf_49 f_Search_9 kd_21 rfl ?_
      refine r_icmp2 64 ((x4 + (τ2.1 21 2)) < (τ2.1 21 0)) d_Search_wordOf_52 (by decide) rfl (fun c5 => ?_) (fun c5 => ?_)
      · have h := h.1 c5
        refine r_inc1 (vs' := [.ref 21, .int x1, .null, .int ((x3 <<< ((nI 1) &&& 31)) ||| (nI 1)), .int (x4 + (τ2.1 21 2)), .int (x5 + nI 1)]) d_Search_wordOf_64 rfl rfl rfl ?_
        refine r_goto 8 d_Search_wordOf_67 (by decide) ?_
        exact h
      · have h := h.2 c5
        refine r_iload d_Search_wordOf_55 rfl ?_
        refine r_aload_n d_Search_wordOf_57 rfl ?_
        refine r_getI d_Search_wordOf_58 f_Search_9 kd_21 rfl ?_
        refine r_isub d_Search_wordOf_61 ?_
        refine r_istore (vs' := [.ref 21, .int x1, .null, .int ((x3 <<< ((nI 1) &&& 31)) ||| (nI 1)), .int ((x4 + (τ2.1 21 2)) - (τ2.1 21 0)), .int x5]) d_Search_wordOf_62 rfl rfl ?_
        refine r_inc1 (vs' := [.ref 21, .int x1, .null, .int ((x3 <<< ((nI 1) &&& 31)) ||| (nI 1)), .int ((x4 + (τ2.1 21 2)) - (τ2.1 21 0)), .int (x5 + nI 1)]) d_Search_wordOf_64 rfl rfl rfl ?_
        refine r_goto 8 d_Search_wordOf_67 (by decide) ?_
        exact h
abbrev R_Search_isSingle (d : Nat) (K : Int32 → am_S → Prop) (pc : Nat) (vs st : List Value) (σ : am_S) : Prop := am_r (am_run (d + 2)) "WheelDisc$Search" (some .boolean) prog_9_method_10_code (am_Ri K) pc vs st σ
def w_Search_isSingle (x1 : Int32) (σ : am_S) (K : Int32 → am_S → Prop) : Prop := ∀ d : Nat, am_run (d + 3) y_Search_isSingle [.ref 21, .int x1] σ (am_Ri K)
theorem t_Search_isSingle {d : Nat} {x1 : Int32}  {σ : am_S} {K : Int32 → am_S → Prop} (h : w_Search_isSingle x1 σ K) : am_run (d + 3) y_Search_isSingle [.ref 21, .int x1] σ (am_Ri K) := h d
theorem e_Search_isSingle {x1 : Int32}  {σ : am_S} {K : Int32 → am_S → Prop} (h : ∀ d : Nat, (w_Search_wordOf x1 ((σ.1 21 0) - (nI 1)) σ (fun r1 τ1 => R_Search_isSingle d K 17 [.ref 21, .int x1, .int (nI 0), .int r1, .int (nI 0), .null] [] τ1))) : w_Search_isSingle x1 σ K := by
  intro d
  have h := h d
  refine am_begin (vs := [.ref 21, .int x1, .null, .null, .null, .null]) c_Search_isSingle (by decide +kernel) rfl rfl rfl rfl ?_
  refine r_iconst (nI 0) d_Search_isSingle_0 (by decide) ?_
  refine r_istore_n (vs' := [.ref 21, .int x1, .int (nI 0), .null, .null, .null]) d_Search_isSingle_1 rfl rfl ?_
  refine r_aload_n d_Search_isSingle_2 rfl ?_
  refine r_iload_n d_Search_isSingle_3 rfl ?_
  refine r_aload_n d_Search_isSingle_4 rfl ?_
  refine r_getI d_Search_isSingle_5 f_Search_9 kd_21 rfl ?_
  refine r_iconst (nI 1) d_Search_isSingle_8 (by decide) ?_
  refine r_isub d_Search_isSingle_9 ?_
  refine r_virtI [.int x1, .int ((σ.1 21 0) - (nI 1))] [] d_Search_isSingle_10 v_Search_66 rfl rfl cn_21 rfl (t_Search_wordOf h) (fun r1 τ1 h => ?_)
  refine r_istore_n (vs' := [.ref 21, .int x1, .int (nI 0), .int r1, .null, .null]) d_Search_isSingle_13 rfl rfl ?_
  refine r_iconst (nI 0) d_Search_isSingle_14 (by decide) ?_
  refine r_istore (vs' := [.ref 21, .int x1, .int (nI 0), .int r1, .int (nI 0), .null]) d_Search_isSingle_15 rfl rfl ?_
  exact h
theorem l_Search_isSingle_17 {d : Nat}  {x1 : Int32} {x2 : Int32} {x3 : Int32} {x4 : Int32}  {σ : am_S} {K : Int32 → am_S → Prop} (h : (am_ite ((σ.1 21 0) ≤ x4) (K (nI 1) σ) (w_Search_wordOf x1 x4 σ (fun r3 τ3 => (am_ite (¬ ((x2 >>> (r3 &&& 31)) &&& (nI 1)) = (nI 0)) (K (nI 0) τ3) (w_Int_bitCount (r3 ^^^ x3) τ3 (fun r5 τ5 => (am_ite (r5 = (nI 1)) (R_Search_isSingle d K 17 [.ref 21, .int x1, .int (x2 ||| ((nI 1) <<< (r3 &&& 31))), .int r3, .int (x4 + nI 1), .null] [] τ5) (K (nI 0) τ5))))))))) : R_Search_isSingle d K 17 [.ref 21, .int x1, .int x2, .int x3, .int x4, .null] [] σ := by
  refine r_iload d_Search_isSingle_17 rfl ?_
  refine r_aload_n d_Search_isSingle_19 rfl ?_
  refine r_getI d_Search_isSingle_20 f_Search_9 kd_21 rfl ?_
  refine r_icmp2 73 ((σ.1 21 0) ≤ x4) d_Search_isSingle_23 (by decide) rfl (fun c2 => ?_) (fun c2 => ?_)
  · have h := h.1 c2
    refine r_iconst (nI 1) d_Search_isSingle_73 (by decide) ?_
    exact r_zret1 d_Search_isSingle_74 h
  · have h := h.2 c2
    refine r_aload_n d_Search_isSingle_26 rfl ?_
    refine r_iload_n d_Search_isSingle_27 rfl ?_
    refine r_iload d_Search_isSingle_28 rfl ?_
    refine r_virtI [.int x1, .int x4] [] d_Search_isSingle_30 v_Search_66 rfl rfl cn_21 rfl (t_Search_wordOf h) (fun r3 τ3 h => ?_)
    refine r_istore (vs' := [.ref 21, .int x1, .int x2, .int x3, .int x4, .int r3]) d_Search_isSingle_33 rfl rfl ?_
    refine r_iload_n d_Search_isSingle_35 rfl ?_
    refine r_iload d_Search_isSingle_36 rfl ?_
    refine r_ishr d_Search_isSingle_38 ?_
    refine r_iconst (nI 1) d_Search_isSingle_39 (by decide) ?_
    refine r_iand d_Search_isSingle_40 ?_
    refine r_if2 55 (¬ ((x2 >>> (r3 &&& 31)) &&& (nI 1)) = (nI 0)) d_Search_isSingle_41 (by decide) rfl (fun c4 => ?_) (fun c4 => ?_)
    · have h := h.1 c4
      refine r_iconst (nI 0) d_Search_isSingle_55 (by decide) ?_
      exact r_zret0 d_Search_isSingle_56 h
    · have h := h.2 c4
      refine r_iload d_Search_isSingle_44 rfl ?_
      refine r_iload_n d_Search_isSingle_46 rfl ?_
      refine r_ixor d_Search_isSingle_47 ?_
      refine r_statI [.int (r3 ^^^ x3)] [] d_Search_isSingle_48 s_Search_69 rfl rfl rfl (t_Int_bitCount h) (fun r5 τ5 h => ?_)
      refine r_iconst (nI 1) d_Search_isSingle_51 (by decide) ?_
      refine r_icmp2 57 (r5 = (nI 1)) d_Search_isSingle_52 (by decide) rfl (fun c6 => ?_) (fun c6 => ?_)
      · have h := h.1 c6
        refine r_iload_n d_Search_isSingle_57 rfl ?_
        refine r_iconst (nI 1) d_Search_isSingle_58 (by decide) ?_
        refine r_iload d_Search_isSingle_59 rfl ?_
        refine r_ishl d_Search_isSingle_61 ?_
        refine r_ior d_Search_isSingle_62 ?_
        refine r_istore_n (vs' := [.ref 21, .int x1, .int (x2 ||| ((nI 1) <<< (r3 &&& 31))), .int x3, .int x4, .int r3]) d_Search_isSingle_63 rfl rfl ?_
        refine r_iload d_Search_isSingle_64 rfl ?_
        refine r_istore_n (vs' := [.ref 21, .int x1, .int (x2 ||| ((nI 1) <<< (r3 &&& 31))), .int r3, .int x4, .int r3]) d_Search_isSingle_66 rfl rfl ?_
        refine r_inc1 (vs' := [.ref 21, .int x1, .int (x2 ||| ((nI 1) <<< (r3 &&& 31))), .int r3, .int (x4 + nI 1), .int r3]) d_Search_isSingle_67 rfl rfl rfl ?_
        refine r_goto 17 d_Search_isSingle_70 (by decide) ?_
        exact am_weak (vs := [.ref 21, .int x1, .int (x2 ||| ((nI 1) <<< (r3 &&& 31))), .int r3, .int (x4 + nI 1), .null]) ⟨Or.inl rfl, Or.inl rfl, Or.inl rfl, Or.inl rfl, Or.inl rfl, Or.inr ⟨rfl, rfl⟩, trivial⟩ h
      · have h := h.2 c6
        refine r_iconst (nI 0) d_Search_isSingle_55 (by decide) ?_
        exact r_zret0 d_Search_isSingle_56 h
abbrev R_Search_advance (d : Nat) (K : Int32 → am_S → Prop) (pc : Nat) (vs st : List Value) (σ : am_S) : Prop := am_r (am_run (d + 3)) "WheelDisc$Search" (some .int) prog_9_method_6_code (am_Ri K) pc vs st σ
def w_Search_advance (x1 : Int32) (σ : am_S) (K : Int32 → am_S → Prop) : Prop := ∀ d : Nat, am_run (d + 4) y_Search_advance [.ref 21, .int x1] σ (am_Ri K)
theorem t_Search_advance {d : Nat} {x1 : Int32}  {σ : am_S} {K : Int32 → am_S → Prop} (h : w_Search_advance x1 σ K) : am_run (d + 4) y_Search_advance [.ref 21, .int x1] σ (am_Ri K) := h d
theorem e_Search_advance {x1 : Int32}  {σ : am_S} {K : Int32 → am_S → Prop} (h : ∀ d : Nat, (w_Math_min ((σ.1 21 4) + x1) (σ.1 21 3) (am_upI σ 21 7 ((σ.1 21 7) + x1)) (fun r1 τ1 => R_Search_advance d K 26 [.ref 21, .int x1, .int r1, .int (nI 0), .null] [] τ1))) : w_Search_advance x1 σ K := by
  intro d
  have h := h d
  refine am_begin (vs := [.ref 21, .int x1, .null, .null, .null]) c_Search_advance (by decide +kernel) rfl rfl rfl rfl ?_
  refine r_aload_n d_Search_advance_0 rfl ?_
  refine r_dup d_Search_advance_1 rfl ?_
  refine r_getI d_Search_advance_2 f_Search_33 kd_21 rfl ?_
  refine r_iload_n d_Search_advance_5 rfl ?_
  refine r_iadd d_Search_advance_6 ?_
  refine r_putI d_Search_advance_7 f_Search_33 kd_21 rfl ?_
  refine r_aload_n d_Search_advance_10 rfl ?_
  refine r_getI d_Search_advance_11 f_Search_24 kd_21 rfl ?_
  refine r_iload_n d_Search_advance_14 rfl ?_
  refine r_iadd d_Search_advance_15 ?_
  refine r_aload_n d_Search_advance_16 rfl ?_
  refine r_getI d_Search_advance_17 f_Search_21 kd_21 rfl ?_
  refine r_statI [.int ((σ.1 21 4) + x1), .int (σ.1 21 3)] [] d_Search_advance_20 s_Search_46 rfl rfl rfl (t_Math_min h) (fun r1 τ1 h => ?_)
  refine r_istore_n (vs' := [.ref 21, .int x1, .int r1, .null, .null]) d_Search_advance_23 rfl rfl ?_
  refine r_iconst (nI 0) d_Search_advance_24 (by decide) ?_
  refine r_istore_n (vs' := [.ref 21, .int x1, .int r1, .int (nI 0), .null]) d_Search_advance_25 rfl rfl ?_
  exact h
theorem l_Search_advance_26 {d : Nat}  {x1 : Int32} {x2 : Int32} {x3 : Int32}  {σ : am_S} {K : Int32 → am_S → Prop} (h : (am_ite (x1 ≤ x3) (am_ite ((σ.1 21 3) ≤ x2) (K (nI 0) (am_upI (am_upI σ 21 4 x2) 21 8 (nI 0))) (K (-2) (am_upI (am_upI σ 21 4 x2) 21 8 (nI 1)))) (am_ite (x2 ≤ (σ.1 21 5)) (am_ite ((σ.1 21 3) ≤ x2) (K (nI 0) (am_upI (am_upI σ 21 4 x2) 21 8 (nI 0))) (K (-2) (am_upI (am_upI σ 21 4 x2) 21 8 (nI 1)))) (w_Search_leastTurnedBehind (σ.1 21 5) σ (fun r10 τ10 => (w_Search_isSingle (σ.1 21 5) (am_upI τ10 21 5 r10) (fun r11 τ11 => (am_ite (r11 = (nI 0)) (R_Search_advance d K 26 [.ref 21, .int x1, .int x2, .int (x3 + nI 1), .null] [] τ11) (K (nI 1) (am_upI (am_upI τ11 21 6 (σ.1 21 5)) 21 4 ((σ.1 21 5) + (nI 1)))))))))))) : R_Search_advance d K 26 [.ref 21, .int x1, .int x2, .int x3, .null] [] σ := by
  refine r_iload_n d_Search_advance_26 rfl ?_
  refine r_iload_n d_Search_advance_27 rfl ?_
  refine r_icmp2 86 (x1 ≤ x3) d_Search_advance_28 (by decide) rfl (fun c2 => ?_) (fun c2 => ?_)
  · have h := h.1 c2
    refine r_aload_n d_Search_advance_86 rfl ?_
    refine r_iload_n d_Search_advance_87 rfl ?_
    refine r_putI d_Search_advance_88 f_Search_24 kd_21 rfl ?_
    refine r_aload_n d_Search_advance_91 rfl ?_
    refine r_aload_n d_Search_advance_92 rfl ?_
    refine r_getI d_Search_advance_93 f_Search_24 kd_21 rfl ?_
    refine r_aload_n d_Search_advance_96 rfl ?_
    refine r_getI d_Search_advance_97 f_Search_21 kd_21 rfl ?_
    refine r_icmp2 107 ((σ.1 21 3) ≤ x2) d_Search_advance_100 (by decide) rfl (fun c3 => ?_) (fun c3 => ?_)
    · have h := h.1 c3
      refine r_iconst (nI 0) d_Search_advance_107 (by decide) ?_
      refine r_putZ d_Search_advance_108 f_Search_36 kd_21 rfl ⟨Or.inl rfl, ?_⟩
      refine r_aload_n d_Search_advance_111 rfl ?_
      refine r_getI d_Search_advance_112 f_Search_36 kd_21 rfl ?_
      refine r_if2 123 ((nI 0) = (nI 0)) d_Search_advance_115 (by decide) rfl (fun _ => ?_) (fun c => absurd (by decide) c)
      refine r_iconst (nI 0) d_Search_advance_123 (by decide) ?_
      exact r_iret d_Search_advance_124 h
    · have h := h.2 c3
      refine r_iconst (nI 1) d_Search_advance_103 (by decide) ?_
      refine r_goto 108 d_Search_advance_104 (by decide) ?_
      refine r_putZ d_Search_advance_108 f_Search_36 kd_21 rfl ⟨Or.inr rfl, ?_⟩
      refine r_aload_n d_Search_advance_111 rfl ?_
      refine r_getI d_Search_advance_112 f_Search_36 kd_21 rfl ?_
      refine r_if2 123 ((nI 1) = (nI 0)) d_Search_advance_115 (by decide) rfl (fun c => absurd c (by decide)) (fun _ => ?_)
      refine r_bipush (-2) d_Search_advance_118 (by decide) ?_
      refine r_goto 124 d_Search_advance_120 (by decide) ?_
      exact r_iret d_Search_advance_124 h
  · have h := h.2 c2
    refine r_aload_n d_Search_advance_31 rfl ?_
    refine r_getI d_Search_advance_32 f_Search_27 kd_21 rfl ?_
    refine r_iload_n d_Search_advance_35 rfl ?_
    refine r_icmp2 86 (x2 ≤ (σ.1 21 5)) d_Search_advance_36 (by decide) rfl (fun c6 => ?_) (fun c6 => ?_)
    · have h := h.1 c6
      refine r_aload_n d_Search_advance_86 rfl ?_
      refine r_iload_n d_Search_advance_87 rfl ?_
      refine r_putI d_Search_advance_88 f_Search_24 kd_21 rfl ?_
      refine r_aload_n d_Search_advance_91 rfl ?_
      refine r_aload_n d_Search_advance_92 rfl ?_
      refine r_getI d_Search_advance_93 f_Search_24 kd_21 rfl ?_
      refine r_aload_n d_Search_advance_96 rfl ?_
      refine r_getI d_Search_advance_97 f_Search_21 kd_21 rfl ?_
      refine r_icmp2 107 ((σ.1 21 3) ≤ x2) d_Search_advance_100 (by decide) rfl (fun c7 => ?_) (fun c7 => ?_)
      · have h := h.1 c7
        refine r_iconst (nI 0) d_Search_advance_107 (by decide) ?_
        refine r_putZ d_Search_advance_108 f_Search_36 kd_21 rfl ⟨Or.inl rfl, ?_⟩
        refine r_aload_n d_Search_advance_111 rfl ?_
        refine r_getI d_Search_advance_112 f_Search_36 kd_21 rfl ?_
        refine r_if2 123 ((nI 0) = (nI 0)) d_Search_advance_115 (by decide) rfl (fun _ => ?_) (fun c => absurd (by decide) c)
        refine r_iconst (nI 0) d_Search_advance_123 (by decide) ?_
        exact r_iret d_Search_advance_124 h
      · have h := h.2 c7
        refine r_iconst (nI 1) d_Search_advance_103 (by decide) ?_
        refine r_goto 108 d_Search_advance_104 (by decide) ?_
        refine r_putZ d_Search_advance_108 f_Search_36 kd_21 rfl ⟨Or.inr rfl, ?_⟩
        refine r_aload_n d_Search_advance_111 rfl ?_
        refine r_getI d_Search_advance_112 f_Search_36 kd_21 rfl ?_
        refine r_if2 123 ((nI 1) = (nI 0)) d_Search_advance_115 (by decide) rfl (fun c => absurd c (by decide)) (fun _ => ?_)
        refine r_bipush (-2) d_Search_advance_118 (by decide) ?_
        refine r_goto 124 d_Search_advance_120 (by decide) ?_
        exact r_iret d_Search_advance_124 h
    · have h := h.2 c6
      refine r_aload_n d_Search_advance_39 rfl ?_
      refine r_getI d_Search_advance_40 f_Search_27 kd_21 rfl ?_
      refine r_istore (vs' := [.ref 21, .int x1, .int x2, .int x3, .int (σ.1 21 5)]) d_Search_advance_43 rfl rfl ?_
      refine r_aload_n d_Search_advance_45 rfl ?_
      refine r_aload_n d_Search_advance_46 rfl ?_
      refine r_iload d_Search_advance_47 rfl ?_
      refine r_virtI [.int (σ.1 21 5)] [.ref 21] d_Search_advance_49 v_Search_52 rfl rfl cn_21 rfl (t_Search_leastTurnedBehind h) (fun r10 τ10 h => ?_)
      refine r_putI d_Search_advance_52 f_Search_27 kd_21 rfl ?_
      refine r_aload_n d_Search_advance_55 rfl ?_
      refine r_iload d_Search_advance_56 rfl ?_
      refine r_virtI [.int (σ.1 21 5)] [] d_Search_advance_58 v_Search_56 rfl rfl cn_21 rfl (t_Search_isSingle h) (fun r11 τ11 h => ?_)
      refine r_if2 80 (r11 = (nI 0)) d_Search_advance_61 (by decide) rfl (fun c12 => ?_) (fun c12 => ?_)
      · have h := h.1 c12
        refine r_inc1 (vs' := [.ref 21, .int x1, .int x2, .int (x3 + nI 1), .int (σ.1 21 5)]) d_Search_advance_80 rfl rfl rfl ?_
        refine r_goto 26 d_Search_advance_83 (by decide) ?_
        exact am_weak (vs := [.ref 21, .int x1, .int x2, .int (x3 + nI 1), .null]) ⟨Or.inl rfl, Or.inl rfl, Or.inl rfl, Or.inl rfl, Or.inr ⟨rfl, rfl⟩, trivial⟩ h
      · have h := h.2 c12
        refine r_aload_n d_Search_advance_64 rfl ?_
        refine r_iload d_Search_advance_65 rfl ?_
        refine r_putI d_Search_advance_67 f_Search_30 kd_21 rfl ?_
        refine r_aload_n d_Search_advance_70 rfl ?_
        refine r_iload d_Search_advance_71 rfl ?_
        refine r_iconst (nI 1) d_Search_advance_73 (by decide) ?_
        refine r_iadd d_Search_advance_74 ?_
        refine r_putI d_Search_advance_75 f_Search_24 kd_21 rfl ?_
        refine r_iconst (nI 1) d_Search_advance_78 (by decide) ?_
        exact r_iret d_Search_advance_79 h
