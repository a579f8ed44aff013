def w_Mod_tell (x1 : Int32) (σ : am_S) (K : Int32 → am_S → Prop) : Prop := (am_ite (¬ (σ.1 153 13) = (nI 512)) (vp_in (σ.1 153 13) 512 ∧ K ((σ.1 153 13) + (nI 1)) (am_upI (am_upI (am_upI σ 153 18 (nI 0)) 160 (Int32.toNatClampNeg (σ.1 153 13)) x1) 153 13 ((σ.1 153 13) + (nI 1)))) (w_Mod_no (nI 4) (am_upI σ 153 18 (nI 0)) (fun r2 τ2 => K r2 τ2)))
theorem t_Mod_tell {d : Nat} {x1 : Int32}  {σ : am_S} {K : Int32 → am_S → Prop} (h : w_Mod_tell x1 σ K) : am_run (d + 2) y_Mod_tell [.ref 153, .int x1] σ (am_Ri K) := by
  unfold w_Mod_tell at h
  refine am_begin (vs := [.ref 153, .int x1]) c_Mod_tell (by decide +kernel) rfl rfl rfl rfl ?_
  refine r_aload_n d_Mod_tell_0 rfl ?_
  refine r_iconst (nI 0) d_Mod_tell_1 (by decide) ?_
  refine r_putI d_Mod_tell_2 f_Mod_62 kd_153 rfl ?_
  refine r_aload_n d_Mod_tell_5 rfl ?_
  refine r_getI d_Mod_tell_6 f_Mod_130 kd_153 rfl ?_
  refine r_sipush (nI 512) d_Mod_tell_9 (by decide) ?_
  refine r_icmp2 21 (¬ (σ.1 153 13) = (nI 512)) d_Mod_tell_12 (by decide) rfl (fun c1 => ?_) (fun c1 => ?_)
  · have h := h.1 c1
    refine r_aload_n d_Mod_tell_21 rfl ?_
    refine r_getR d_Mod_tell_22 f_Mod_35 kd_153 rfl lk_153_12 ?_
    refine r_aload_n d_Mod_tell_25 rfl ?_
    refine r_getI d_Mod_tell_26 f_Mod_130 kd_153 rfl ?_
    refine r_iload_n d_Mod_tell_29 rfl ?_
    refine r_iast d_Mod_tell_30 ce_160 ⟨h.1, ?_⟩
    have h := h.2
    refine r_aload_n d_Mod_tell_31 rfl ?_
    refine r_dup d_Mod_tell_32 rfl ?_
    refine r_getI d_Mod_tell_33 f_Mod_130 kd_153 rfl ?_
    refine r_iconst (nI 1) d_Mod_tell_36 (by decide) ?_
    refine r_iadd d_Mod_tell_37 ?_
    refine r_putI d_Mod_tell_38 f_Mod_130 kd_153 rfl ?_
    refine r_aload_n d_Mod_tell_41 rfl ?_
    refine r_getI d_Mod_tell_42 f_Mod_130 kd_153 rfl ?_
    exact r_iret d_Mod_tell_45 h
  · have h := h.2 c1
    refine r_aload_n d_Mod_tell_15 rfl ?_
    refine r_iconst (nI 4) d_Mod_tell_16 (by decide) ?_
    refine r_virtI [.int (nI 4)] [] d_Mod_tell_17 v_Mod_75 rfl rfl cn_153 rfl (t_Mod_no h) (fun r2 τ2 h => ?_)
    exact r_iret d_Mod_tell_20 h
def w_Mod_forge (x1 : Int32) (x2 : Int32) (σ : am_S) (K : Int32 → am_S → Prop) : Prop := (am_ite (x1 < (nI 0)) (w_Mod_no (nI 1) (am_upI σ 153 18 (nI 0)) (fun r2 τ2 => K (nI 0) τ2)) (am_ite ((σ.1 153 13) ≤ x1) (w_Mod_no (nI 1) (am_upI σ 153 18 (nI 0)) (fun r4 τ4 => K (nI 0) τ4)) (am_ite (x2 < (nI 0)) (w_Mod_no (nI 1) (am_upI σ 153 18 (nI 0)) (fun r6 τ6 => K (nI 0) τ6)) (am_ite (x2 ≤ (nI 31)) (vp_in x1 512 ∧ (vp_in x1 512 ∧ K (nI 1) (am_upI (am_upI σ 153 18 (nI 0)) 160 (Int32.toNatClampNeg x1) ((σ.1 160 (Int32.toNatClampNeg x1)) ^^^ ((nI 1) <<< (x2 &&& 31)))))) (w_Mod_no (nI 1) (am_upI σ 153 18 (nI 0)) (fun r8 τ8 => K (nI 0) τ8))))))
theorem t_Mod_forge {d : Nat} {x1 : Int32} {x2 : Int32}  {σ : am_S} {K : Int32 → am_S → Prop} (h : w_Mod_forge x1 x2 σ K) : am_run (d + 2) y_Mod_forge [.ref 153, .int x1, .int x2] σ (am_Ri K) := by
  unfold w_Mod_forge at h
  refine am_begin (vs := [.ref 153, .int x1, .int x2]) c_Mod_forge (by decide +kernel) rfl rfl rfl rfl ?_
  refine r_aload_n d_Mod_forge_0 rfl ?_
  refine r_iconst (nI 0) d_Mod_forge_1 (by decide) ?_
  refine r_putI d_Mod_forge_2 f_Mod_62 kd_153 rfl ?_
  refine r_iload_n d_Mod_forge_5 rfl ?_
  refine r_if2 27 (x1 < (nI 0)) d_Mod_forge_6 (by decide) rfl (fun c1 => ?_) (fun c1 => ?_)
  · have h := h.1 c1
    refine r_aload_n d_Mod_forge_27 rfl ?_
    refine r_iconst (nI 1) d_Mod_forge_28 (by decide) ?_
    refine r_virtI [.int (nI 1)] [] d_Mod_forge_29 v_Mod_75 rfl rfl cn_153 rfl (t_Mod_no h) (fun r2 τ2 h => ?_)
    refine r_pop d_Mod_forge_32 rfl ?_
    refine r_iconst (nI 0) d_Mod_forge_33 (by decide) ?_
    exact r_zret0 d_Mod_forge_34 h
  · have h := h.2 c1
    refine r_iload_n d_Mod_forge_9 rfl ?_
    refine r_aload_n d_Mod_forge_10 rfl ?_
    refine r_getI d_Mod_forge_11 f_Mod_130 kd_153 rfl ?_
    refine r_icmp2 27 ((σ.1 153 13) ≤ x1) d_Mod_forge_14 (by decide) rfl (fun c3 => ?_) (fun c3 => ?_)
    · have h := h.1 c3
      refine r_aload_n d_Mod_forge_27 rfl ?_
      refine r_iconst (nI 1) d_Mod_forge_28 (by decide) ?_
      refine r_virtI [.int (nI 1)] [] d_Mod_forge_29 v_Mod_75 rfl rfl cn_153 rfl (t_Mod_no h) (fun r4 τ4 h => ?_)
      refine r_pop d_Mod_forge_32 rfl ?_
      refine r_iconst (nI 0) d_Mod_forge_33 (by decide) ?_
      exact r_zret0 d_Mod_forge_34 h
    · have h := h.2 c3
      refine r_iload_n d_Mod_forge_17 rfl ?_
      refine r_if2 27 (x2 < (nI 0)) d_Mod_forge_18 (by decide) rfl (fun c5 => ?_) (fun c5 => ?_)
      · have h := h.1 c5
        refine r_aload_n d_Mod_forge_27 rfl ?_
        refine r_iconst (nI 1) d_Mod_forge_28 (by decide) ?_
        refine r_virtI [.int (nI 1)] [] d_Mod_forge_29 v_Mod_75 rfl rfl cn_153 rfl (t_Mod_no h) (fun r6 τ6 h => ?_)
        refine r_pop d_Mod_forge_32 rfl ?_
        refine r_iconst (nI 0) d_Mod_forge_33 (by decide) ?_
        exact r_zret0 d_Mod_forge_34 h
      · have h := h.2 c5
        refine r_iload_n d_Mod_forge_21 rfl ?_
        refine r_bipush (nI 31) d_Mod_forge_22 (by decide) ?_
        refine r_icmp2 35 (x2 ≤ (nI 31)) d_Mod_forge_24 (by decide) rfl (fun c7 => ?_) (fun c7 => ?_)
        · have h := h.1 c7
          refine r_aload_n d_Mod_forge_35 rfl ?_
          refine r_getR d_Mod_forge_36 f_Mod_35 kd_153 rfl lk_153_12 ?_
          refine r_iload_n d_Mod_forge_39 rfl ?_
          refine r_dup2 d_Mod_forge_40 rfl rfl ?_
          refine r_iald d_Mod_forge_41 ce_160 ⟨h.1, ?_⟩
          have h := h.2
          refine r_iconst (nI 1) d_Mod_forge_42 (by decide) ?_
          refine r_iload_n d_Mod_forge_43 rfl ?_
          refine r_ishl d_Mod_forge_44 ?_
          refine r_ixor d_Mod_forge_45 ?_
          refine r_iast d_Mod_forge_46 ce_160 ⟨h.1, ?_⟩
          have h := h.2
          refine r_iconst (nI 1) d_Mod_forge_47 (by decide) ?_
          exact r_zret1 d_Mod_forge_48 h
        · have h := h.2 c7
          refine r_aload_n d_Mod_forge_27 rfl ?_
          refine r_iconst (nI 1) d_Mod_forge_28 (by decide) ?_
          refine r_virtI [.int (nI 1)] [] d_Mod_forge_29 v_Mod_75 rfl rfl cn_153 rfl (t_Mod_no h) (fun r8 τ8 h => ?_)
          refine r_pop d_Mod_forge_32 rfl ?_
          refine r_iconst (nI 0) d_Mod_forge_33 (by decide) ?_
          exact r_zret0 d_Mod_forge_34 h
abbrev R_Mod_check (d : Nat) (K : Int32 → am_S → Prop) (pc : Nat) (vs st : List Value) (σ : am_S) : Prop := am_r (am_run (d + 1)) "WheelDiscModel" (some .int) prog_13_method_65_code (am_Ri K) pc vs st σ
def w_Mod_check (x1 : Int32) (σ : am_S) (K : Int32 → am_S → Prop) : Prop := ∀ d : Nat, am_run (d + 2) y_Mod_check [.ref 153, .int x1] σ (am_Ri K)
theorem t_Mod_check {d : Nat} {x1 : Int32}  {σ : am_S} {K : Int32 → am_S → Prop} (h : w_Mod_check x1 σ K) : am_run (d + 2) y_Mod_check [.ref 153, .int x1] σ (am_Ri K) := h d
theorem e_Mod_check {x1 : Int32}  {σ : am_S} {K : Int32 → am_S → Prop} (h : ∀ d : Nat, (am_ite (x1 < (nI 1)) (w_Mod_no (nI 1) (am_upI σ 153 18 (nI 0)) (fun r2 τ2 => K r2 τ2)) (am_ite (x1 ≤ (nI 2)) (am_ite (¬ (σ.1 153 13) = (nI 0)) (R_Mod_check d K 36 [.ref 153, .int x1, .int (nI 0), .null] [] (am_upI σ 153 18 (nI 0))) (w_Mod_no (nI 2) (am_upI σ 153 18 (nI 0)) (fun r5 τ5 => K r5 τ5))) (w_Mod_no (nI 1) (am_upI σ 153 18 (nI 0)) (fun r6 τ6 => K r6 τ6))))) : w_Mod_check x1 σ K := by
  intro d
  have h := h d
  refine am_begin (vs := [.ref 153, .int x1, .null, .null]) c_Mod_check (by decide +kernel) rfl rfl rfl rfl ?_
  refine r_aload_n d_Mod_check_0 rfl ?_
  refine r_iconst (nI 0) d_Mod_check_1 (by decide) ?_
  refine r_putI d_Mod_check_2 f_Mod_62 kd_153 rfl ?_
  refine r_iload_n d_Mod_check_5 rfl ?_
  refine r_iconst (nI 1) d_Mod_check_6 (by decide) ?_
  refine r_icmp2 15 (x1 < (nI 1)) d_Mod_check_7 (by decide) rfl (fun c1 => ?_) (fun c1 => ?_)
  · have h := h.1 c1
    refine r_aload_n d_Mod_check_15 rfl ?_
    refine r_iconst (nI 1) d_Mod_check_16 (by decide) ?_
    refine r_virtI [.int (nI 1)] [] d_Mod_check_17 v_Mod_75 rfl rfl cn_153 rfl (t_Mod_no h) (fun r2 τ2 h => ?_)
    exact r_iret d_Mod_check_20 h
  · have h := h.2 c1
    refine r_iload_n d_Mod_check_10 rfl ?_
    refine r_iconst (nI 2) d_Mod_check_11 (by decide) ?_
    refine r_icmp2 21 (x1 ≤ (nI 2)) d_Mod_check_12 (by decide) rfl (fun c3 => ?_) (fun c3 => ?_)
    · have h := h.1 c3
      refine r_aload_n d_Mod_check_21 rfl ?_
      refine r_getI d_Mod_check_22 f_Mod_130 kd_153 rfl ?_
      refine r_if2 34 (¬ (σ.1 153 13) = (nI 0)) d_Mod_check_25 (by decide) rfl (fun c4 => ?_) (fun c4 => ?_)
      · have h := h.1 c4
        refine r_iconst (nI 0) d_Mod_check_34 (by decide) ?_
        refine r_istore_n (vs' := [.ref 153, .int x1, .int (nI 0), .null]) d_Mod_check_35 rfl rfl ?_
        exact h
      · have h := h.2 c4
        refine r_aload_n d_Mod_check_28 rfl ?_
        refine r_iconst (nI 2) d_Mod_check_29 (by decide) ?_
        refine r_virtI [.int (nI 2)] [] d_Mod_check_30 v_Mod_75 rfl rfl cn_153 rfl (t_Mod_no h) (fun r5 τ5 h => ?_)
        exact r_iret d_Mod_check_33 h
    · have h := h.2 c3
      refine r_aload_n d_Mod_check_15 rfl ?_
      refine r_iconst (nI 1) d_Mod_check_16 (by decide) ?_
      refine r_virtI [.int (nI 1)] [] d_Mod_check_17 v_Mod_75 rfl rfl cn_153 rfl (t_Mod_no h) (fun r6 τ6 h => ?_)
      exact r_iret d_Mod_check_20 h
theorem l_Mod_check_36 {d : Nat}  {x1 : Int32} {x2 : Int32}  {σ : am_S} {K : Int32 → am_S → Prop} (h : (am_ite ((σ.1 153 13) ≤ x2) (K (-1) σ) (R_Mod_check d K 46 [.ref 153, .int x1, .int x2, .int (nI 0)] [] σ))) : R_Mod_check d K 36 [.ref 153, .int x1, .int x2, .null] [] σ := by
  refine r_iload_n d_Mod_check_36 rfl ?_
  refine r_aload_n d_Mod_check_37 rfl ?_
  refine r_getI d_Mod_check_38 f_Mod_130 kd_153 rfl ?_
  refine r_icmp2 127 ((σ.1 153 13) ≤ x2) d_Mod_check_41 (by decide) rfl (fun c7 => ?_) (fun c7 => ?_)
  · have h := h.1 c7
    refine r_iconst (-1) d_Mod_check_127 (by decide) ?_
    exact r_iret d_Mod_check_128 h
  · have h := h.2 c7
    refine r_iconst (nI 0) d_Mod_check_44 (by decide) ?_
    refine r_istore_n (vs' := [.ref 153, .int x1, .int x2, .int (nI 0)]) d_Mod_check_45 rfl rfl ?_
    exact h
theorem l_Mod_check_46 {d : Nat}  {x1 : Int32} {x2 : Int32} {x3 : Int32}  {σ : am_S} {K : Int32 → am_S → Prop} (h : (am_ite (x2 ≤ x3) (am_ite (¬ x1 = (nI 2)) (R_Mod_check d K 36 [.ref 153, .int x1, .int (x2 + nI 1), .null] [] σ) (am_ite ((σ.1 153 13) = (nI 1)) (K x2 σ) (vp_in x2 512 ∧ (¬ (σ.1 153 13) = nI 0 ∧ (vp_in (((x2 + (σ.1 153 13)) - (nI 1)) - ((x2 + (σ.1 153 13)) - (nI 1)) / (σ.1 153 13) * (σ.1 153 13)) 512 ∧ (w_Int_bitCount ((σ.1 160 (Int32.toNatClampNeg x2)) ^^^ (σ.1 160 (Int32.toNatClampNeg (((x2 + (σ.1 153 13)) - (nI 1)) - ((x2 + (σ.1 153 13)) - (nI 1)) / (σ.1 153 13) * (σ.1 153 13))))) σ (fun r11 τ11 => (am_ite (r11 = (nI 1)) (R_Mod_check d K 36 [.ref 153, .int x1, .int (x2 + nI 1), .null] [] τ11) (K x2 τ11))))))))) (vp_in x3 512 ∧ (vp_in x2 512 ∧ (am_ite (¬ (σ.1 160 (Int32.toNatClampNeg x3)) = (σ.1 160 (Int32.toNatClampNeg x2))) (R_Mod_check d K 46 [.ref 153, .int x1, .int x2, .int (x3 + nI 1)] [] σ) (K x2 σ)))))) : R_Mod_check d K 46 [.ref 153, .int x1, .int x2, .int x3] [] σ := by
  refine r_iload_n d_Mod_check_46 rfl ?_
  refine r_iload_n d_Mod_check_47 rfl ?_
  refine r_icmp2 74 (x2 ≤ x3) d_Mod_check_48 (by decide) rfl (fun c8 => ?_) (fun c8 => ?_)
  · have h := h.1 c8
    refine r_iload_n d_Mod_check_74 rfl ?_
    refine r_iconst (nI 2) d_Mod_check_75 (by decide) ?_
    refine r_icmp2 121 (¬ x1 = (nI 2)) d_Mod_check_76 (by decide) rfl (fun c9 => ?_) (fun c9 => ?_)
    · have h := h.1 c9
      refine r_inc1 (vs' := [.ref 153, .int x1, .int (x2 + nI 1), .int x3]) d_Mod_check_121 rfl rfl rfl ?_
      refine r_goto 36 d_Mod_check_124 (by decide) ?_
      exact am_weak (vs := [.ref 153, .int x1, .int (x2 + nI 1), .null]) ⟨Or.inl rfl, Or.inl rfl, Or.inl rfl, Or.inr ⟨rfl, rfl⟩, trivial⟩ h
    · have h := h.2 c9
      refine r_aload_n d_Mod_check_79 rfl ?_
      refine r_getI d_Mod_check_80 f_Mod_130 kd_153 rfl ?_
      refine r_iconst (nI 1) d_Mod_check_83 (by decide) ?_
      refine r_icmp2 119 ((σ.1 153 13) = (nI 1)) d_Mod_check_84 (by decide) rfl (fun c10 => ?_) (fun c10 => ?_)
      · have h := h.1 c10
        refine r_iload_n d_Mod_check_119 rfl ?_
        exact r_iret d_Mod_check_120 h
      · have h := h.2 c10
        refine r_aload_n d_Mod_check_87 rfl ?_
        refine r_getR d_Mod_check_88 f_Mod_35 kd_153 rfl lk_153_12 ?_
        refine r_iload_n d_Mod_check_91 rfl ?_
        refine r_iald d_Mod_check_92 ce_160 ⟨h.1, ?_⟩
        have h := h.2
        refine r_aload_n d_Mod_check_93 rfl ?_
        refine r_getR d_Mod_check_94 f_Mod_35 kd_153 rfl lk_153_12 ?_
        refine r_iload_n d_Mod_check_97 rfl ?_
        refine r_aload_n d_Mod_check_98 rfl ?_
        refine r_getI d_Mod_check_99 f_Mod_130 kd_153 rfl ?_
        refine r_iadd d_Mod_check_102 ?_
        refine r_iconst (nI 1) d_Mod_check_103 (by decide) ?_
        refine r_isub d_Mod_check_104 ?_
        refine r_aload_n d_Mod_check_105 rfl ?_
        refine r_getI d_Mod_check_106 f_Mod_130 kd_153 rfl ?_
        refine r_irem d_Mod_check_109 ⟨h.1, ?_⟩
        have h := h.2
        refine r_iald d_Mod_check_110 ce_160 ⟨h.1, ?_⟩
        have h := h.2
        refine r_ixor d_Mod_check_111 ?_
        refine r_statI [.int ((σ.1 160 (Int32.toNatClampNeg x2)) ^^^ (σ.1 160 (Int32.toNatClampNeg (((x2 + (σ.1 153 13)) - (nI 1)) - ((x2 + (σ.1 153 13)) - (nI 1)) / (σ.1 153 13) * (σ.1 153 13)))))] [] d_Mod_check_112 s_Mod_119 rfl rfl rfl (t_Int_bitCount h) (fun r11 τ11 h => ?_)
        refine r_iconst (nI 1) d_Mod_check_115 (by decide) ?_
        refine r_icmp2 121 (r11 = (nI 1)) d_Mod_check_116 (by decide) rfl (fun c12 => ?_) (fun c12 => ?_)
        · have h := h.1 c12
          refine r_inc1 (vs' := [.ref 153, .int x1, .int (x2 + nI 1), .int x3]) d_Mod_check_121 rfl rfl rfl ?_
          refine r_goto 36 d_Mod_check_124 (by decide) ?_
          exact am_weak (vs := [.ref 153, .int x1, .int (x2 + nI 1), .null]) ⟨Or.inl rfl, Or.inl rfl, Or.inl rfl, Or.inr ⟨rfl, rfl⟩, trivial⟩ h
        · have h := h.2 c12
          refine r_iload_n d_Mod_check_119 rfl ?_
          exact r_iret d_Mod_check_120 h
  · have h := h.2 c8
    refine r_aload_n d_Mod_check_51 rfl ?_
    refine r_getR d_Mod_check_52 f_Mod_35 kd_153 rfl lk_153_12 ?_
    refine r_iload_n d_Mod_check_55 rfl ?_
    refine r_iald d_Mod_check_56 ce_160 ⟨h.1, ?_⟩
    have h := h.2
    refine r_aload_n d_Mod_check_57 rfl ?_
    refine r_getR d_Mod_check_58 f_Mod_35 kd_153 rfl lk_153_12 ?_
    refine r_iload_n d_Mod_check_61 rfl ?_
    refine r_iald d_Mod_check_62 ce_160 ⟨h.1, ?_⟩
    have h := h.2
    refine r_icmp2 68 (¬ (σ.1 160 (Int32.toNatClampNeg x3)) = (σ.1 160 (Int32.toNatClampNeg x2))) d_Mod_check_63 (by decide) rfl (fun c13 => ?_) (fun c13 => ?_)
    · have h := h.1 c13
      refine r_inc1 (vs' := [.ref 153, .int x1, .int x2, .int (x3 + nI 1)]) d_Mod_check_68 rfl rfl rfl ?_
      refine r_goto 46 d_Mod_check_71 (by decide) ?_
      exact h
    · have h := h.2 c13
      refine r_iload_n d_Mod_check_66 rfl ?_
      exact r_iret d_Mod_check_67 h
def w_Mod_clear  (σ : am_S) (K : Int32 → am_S → Prop) : Prop := K (σ.1 153 13) (am_upI (am_upI σ 153 18 (nI 0)) 153 13 (nI 0))
theorem t_Mod_clear {d : Nat}   {σ : am_S} {K : Int32 → am_S → Prop} (h : w_Mod_clear  σ K) : am_run (d + 1) y_Mod_clear [.ref 153] σ (am_Ri K) := by
  unfold w_Mod_clear at h
  refine am_begin (vs := [.ref 153, .null]) c_Mod_clear (by decide +kernel) rfl rfl rfl rfl ?_
  refine r_aload_n d_Mod_clear_0 rfl ?_
  refine r_iconst (nI 0) d_Mod_clear_1 (by decide) ?_
  refine r_putI d_Mod_clear_2 f_Mod_62 kd_153 rfl ?_
  refine r_aload_n d_Mod_clear_5 rfl ?_
  refine r_getI d_Mod_clear_6 f_Mod_130 kd_153 rfl ?_
  refine r_istore_n (vs' := [.ref 153, .int (σ.1 153 13)]) d_Mod_clear_9 rfl rfl ?_
  refine r_aload_n d_Mod_clear_10 rfl ?_
  refine r_iconst (nI 0) d_Mod_clear_11 (by decide) ?_
  refine r_putI d_Mod_clear_12 f_Mod_130 kd_153 rfl ?_
  refine r_iload_n d_Mod_clear_15 rfl ?_
  exact r_iret d_Mod_clear_16 h
def w_Mod_fault  (σ : am_S) (K : Int32 → am_S → Prop) : Prop := K (σ.1 153 18) σ
theorem t_Mod_fault {d : Nat}   {σ : am_S} {K : Int32 → am_S → Prop} (h : w_Mod_fault  σ K) : am_run (d + 1) y_Mod_fault [.ref 153] σ (am_Ri K) := by
  unfold w_Mod_fault at h
  refine am_begin (vs := [.ref 153]) c_Mod_fault (by decide +kernel) rfl rfl rfl rfl ?_
  refine r_aload_n d_Mod_fault_0 rfl ?_
  refine r_getI d_Mod_fault_1 f_Mod_62 kd_153 rfl ?_
  exact r_iret d_Mod_fault_4 h
