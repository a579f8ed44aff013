/-! THE REFERENCE'S STRING -/
theorem e_Mod_string {d : Nat} {x1 x2 x3 : Int32} {σ : am_S} {K : am_S → Prop} (h : (am_ite (x1 ≤ x3) (vp_in (x1 - x2) 16 ∧ (vp_in x1 16 ∧ (u_Mod_string d (x1 + (nI 1)) x2 x3 (am_upI σ 168 (Int32.toNatClampNeg x1) (σ.1 168 (Int32.toNatClampNeg (x1 - x2)))) (fun τ2 => (vp_in (x1 - x2) 16 ∧ R_Mod_string d K 98 [.ref 153, .int x1, .null, .int x3, .int ((τ2.1 168 (Int32.toNatClampNeg (x1 - x2))) + (nI 1))] [] τ2))))) (¬ x2 = nI 0 ∧ (am_ite ((x3 - x3 / x2 * x2) = (nI 0)) (R_Mod_string d K 15 [.ref 153, .null, .int x2, .null, .int (nI 1)] [] σ) (K σ))))) : u_Mod_string (d + 1) x1 x2 x3 σ K := by
  unfold u_Mod_string
  refine am_begin (vs := [.ref 153, .int x1, .int x2, .int x3, .null]) c_Mod_string (by decide +kernel) rfl rfl rfl rfl ?_
  refine r_iload_n d_Mod_string_0 rfl ?_
  refine r_iload_n d_Mod_string_1 rfl ?_
  refine r_icmp2 63 (x1 ≤ x3) d_Mod_string_2 (by decide) rfl (fun c1 => ?_) (fun c1 => ?_)
  · have h := h.1 c1
    refine r_aload_n d_Mod_string_63 rfl ?_
    refine r_getR d_Mod_string_64 f_Mod_59 kd_153 rfl lk_153_28 ?_
    refine r_iload_n d_Mod_string_67 rfl ?_
    refine r_aload_n d_Mod_string_68 rfl ?_
    refine r_getR d_Mod_string_69 f_Mod_59 kd_153 rfl lk_153_28 ?_
    refine r_iload_n d_Mod_string_72 rfl ?_
    refine r_iload_n d_Mod_string_73 rfl ?_
    refine r_isub d_Mod_string_74 ?_
    refine r_iald d_Mod_string_75 ce_168 ⟨h.1, ?_⟩
    have h := h.2
    refine r_iast d_Mod_string_76 ce_168 ⟨h.1, ?_⟩
    have h := h.2
    refine r_aload_n d_Mod_string_77 rfl ?_
    refine r_iload_n d_Mod_string_78 rfl ?_
    refine r_iconst (nI 1) d_Mod_string_79 (by decide) ?_
    refine r_iadd d_Mod_string_80 ?_
    refine r_iload_n d_Mod_string_81 rfl ?_
    refine r_iload_n d_Mod_string_82 rfl ?_
    refine r_virtV [.int (x1 + (nI 1)), .int x2, .int x3] [] d_Mod_string_83 v_Mod_164 rfl rfl cn_153 rfl h (fun τ2 h => ?_)
    refine r_aload_n d_Mod_string_86 rfl ?_
    refine r_getR d_Mod_string_87 f_Mod_59 kd_153 rfl lk_153_28 ?_
    refine r_iload_n d_Mod_string_90 rfl ?_
    refine r_iload_n d_Mod_string_91 rfl ?_
    refine r_isub d_Mod_string_92 ?_
    refine r_iald d_Mod_string_93 ce_168 ⟨h.1, ?_⟩
    have h := h.2
    refine r_iconst (nI 1) d_Mod_string_94 (by decide) ?_
    refine r_iadd d_Mod_string_95 ?_
    refine r_istore (vs' := [.ref 153, .int x1, .int x2, .int x3, .int ((τ2.1 168 (Int32.toNatClampNeg (x1 - x2))) + (nI 1))]) d_Mod_string_96 rfl rfl ?_
    exact am_weak (vs := [.ref 153, .int x1, .null, .int x3, .int ((τ2.1 168 (Int32.toNatClampNeg (x1 - x2))) + (nI 1))]) ⟨Or.inl rfl, Or.inl rfl, Or.inr ⟨rfl, rfl⟩, Or.inl rfl, Or.inl rfl, trivial⟩ h
  · have h := h.2 c1
    refine r_iload_n d_Mod_string_5 rfl ?_
    refine r_iload_n d_Mod_string_6 rfl ?_
    refine r_irem d_Mod_string_7 ⟨h.1, ?_⟩
    have h := h.2
    refine r_if2 12 ((x3 - x3 / x2 * x2) = (nI 0)) d_Mod_string_8 (by decide) rfl (fun c3 => ?_) (fun c3 => ?_)
    · have h := h.1 c3
      refine r_iconst (nI 1) d_Mod_string_12 (by decide) ?_
      refine r_istore (vs' := [.ref 153, .int x1, .int x2, .int x3, .int (nI 1)]) d_Mod_string_13 rfl rfl ?_
      exact am_weak (vs := [.ref 153, .null, .int x2, .null, .int (nI 1)]) ⟨Or.inl rfl, Or.inr ⟨rfl, rfl⟩, Or.inl rfl, Or.inr ⟨rfl, rfl⟩, Or.inl rfl, trivial⟩ h
    · have h := h.2 c3
      exact r_vret d_Mod_string_11 h
theorem l_Mod_string_98 {d : Nat} {x1 : Int32} {x3 : Int32} {x4 : Int32} {σ : am_S} {K : am_S → Prop} (h : (am_ite ((nI 2) ≤ x4) (K σ) (vp_in x1 16 ∧ (u_Mod_string d (x1 + (nI 1)) x1 x3 (am_upI σ 168 (Int32.toNatClampNeg x1) x4) (fun τ5 => R_Mod_string d K 98 [.ref 153, .int x1, .null, .int x3, .int (x4 + nI 1)] [] τ5))))) : R_Mod_string d K 98 [.ref 153, .int x1, .null, .int x3, .int x4] [] σ := by
  refine r_iload d_Mod_string_98 rfl ?_
  refine r_iconst (nI 2) d_Mod_string_100 (by decide) ?_
  refine r_icmp2 127 ((nI 2) ≤ x4) d_Mod_string_101 (by decide) rfl (fun c4 => ?_) (fun c4 => ?_)
  · have h := h.1 c4
    exact r_vret d_Mod_string_127 h
  · have h := h.2 c4
    refine r_aload_n d_Mod_string_104 rfl ?_
    refine r_getR d_Mod_string_105 f_Mod_59 kd_153 rfl lk_153_28 ?_
    refine r_iload_n d_Mod_string_108 rfl ?_
    refine r_iload d_Mod_string_109 rfl ?_
    refine r_iast d_Mod_string_111 ce_168 ⟨h.1, ?_⟩
    have h := h.2
    refine r_aload_n d_Mod_string_112 rfl ?_
    refine r_iload_n d_Mod_string_113 rfl ?_
    refine r_iconst (nI 1) d_Mod_string_114 (by decide) ?_
    refine r_iadd d_Mod_string_115 ?_
    refine r_iload_n d_Mod_string_116 rfl ?_
    refine r_iload_n d_Mod_string_117 rfl ?_
    refine r_virtV [.int (x1 + (nI 1)), .int x1, .int x3] [] d_Mod_string_118 v_Mod_164 rfl rfl cn_153 rfl h (fun τ5 h => ?_)
    refine r_inc1 (vs' := [.ref 153, .int x1, .null, .int x3, .int (x4 + nI 1)]) d_Mod_string_121 rfl rfl rfl ?_
    refine r_goto 98 d_Mod_string_124 (by decide) ?_
    exact h
theorem l_Mod_string_15 {d : Nat} {x2 : Int32} {x4 : Int32} {σ : am_S} {K : am_S → Prop} (h : (am_ite (x2 < x4) (K σ) (vp_in x4 16 ∧ (am_ite (¬ (σ.1 168 (Int32.toNatClampNeg x4)) = (nI 1)) (vp_in (σ.1 153 29) 163840 ∧ R_Mod_string d K 15 [.ref 153, .null, .int x2, .null, .int (x4 + nI 1)] [] (am_upI (am_upI σ 157 (Int32.toNatClampNeg (σ.1 153 29)) (nI 0)) 153 29 ((σ.1 153 29) + (nI 1)))) (vp_in (σ.1 153 29) 163840 ∧ R_Mod_string d K 15 [.ref 153, .null, .int x2, .null, .int (x4 + nI 1)] [] (am_upI (am_upI σ 157 (Int32.toNatClampNeg (σ.1 153 29)) (nI 1)) 153 29 ((σ.1 153 29) + (nI 1)))))))) : R_Mod_string d K 15 [.ref 153, .null, .int x2, .null, .int x4] [] σ := by
  refine r_iload d_Mod_string_15 rfl ?_
  refine r_iload_n d_Mod_string_17 rfl ?_
  refine r_icmp2 62 (x2 < x4) d_Mod_string_18 (by decide) rfl (fun c6 => ?_) (fun c6 => ?_)
  · have h := h.1 c6
    exact r_vret d_Mod_string_62 h
  · have h := h.2 c6
    refine r_aload_n d_Mod_string_21 rfl ?_
    refine r_getR d_Mod_string_22 f_Mod_20 kd_153 rfl lk_153_3 ?_
    refine r_aload_n d_Mod_string_25 rfl ?_
    refine r_getI d_Mod_string_26 f_Mod_161 kd_153 rfl ?_
    refine r_aload_n d_Mod_string_29 rfl ?_
    refine r_getR d_Mod_string_30 f_Mod_59 kd_153 rfl lk_153_28 ?_
    refine r_iload d_Mod_string_33 rfl ?_
    refine r_iald d_Mod_string_35 ce_168 ⟨h.1, ?_⟩
    have h := h.2
    refine r_iconst (nI 1) d_Mod_string_36 (by decide) ?_
    refine r_icmp2 44 (¬ (σ.1 168 (Int32.toNatClampNeg x4)) = (nI 1)) d_Mod_string_37 (by decide) rfl (fun c7 => ?_) (fun c7 => ?_)
    · have h := h.1 c7
      refine r_iconst (nI 0) d_Mod_string_44 (by decide) ?_
      refine r_zast d_Mod_string_45 ce_157 ⟨h.1, Or.inl rfl, ?_⟩
      have h := h.2
      refine r_aload_n d_Mod_string_46 rfl ?_
      refine r_dup d_Mod_string_47 rfl ?_
      refine r_getI d_Mod_string_48 f_Mod_161 kd_153 rfl ?_
      refine r_iconst (nI 1) d_Mod_string_51 (by decide) ?_
      refine r_iadd d_Mod_string_52 ?_
      refine r_putI d_Mod_string_53 f_Mod_161 kd_153 rfl ?_
      refine r_inc1 (vs' := [.ref 153, .null, .int x2, .null, .int (x4 + nI 1)]) d_Mod_string_56 rfl rfl rfl ?_
      refine r_goto 15 d_Mod_string_59 (by decide) ?_
      exact h
    · have h := h.2 c7
      refine r_iconst (nI 1) d_Mod_string_40 (by decide) ?_
      refine r_goto 45 d_Mod_string_41 (by decide) ?_
      refine r_zast d_Mod_string_45 ce_157 ⟨h.1, Or.inr rfl, ?_⟩
      have h := h.2
      refine r_aload_n d_Mod_string_46 rfl ?_
      refine r_dup d_Mod_string_47 rfl ?_
      refine r_getI d_Mod_string_48 f_Mod_161 kd_153 rfl ?_
      refine r_iconst (nI 1) d_Mod_string_51 (by decide) ?_
      refine r_iadd d_Mod_string_52 ?_
      refine r_putI d_Mod_string_53 f_Mod_161 kd_153 rfl ?_
      refine r_inc1 (vs' := [.ref 153, .null, .int x2, .null, .int (x4 + nI 1)]) d_Mod_string_56 rfl rfl rfl ?_
      refine r_goto 15 d_Mod_string_59 (by decide) ?_
      exact h
