abbrev R_Mod_isFound (d : Nat) (K : Int32 → am_S → Prop) (pc : Nat) (vs st : List Value) (σ : am_S) : Prop := am_r (am_run (d + 2)) "WheelDiscModel" (some .boolean) prog_13_method_51_code (am_Ri K) pc vs st σ
def w_Mod_isFound (x1 : Int32) (σ : am_S) (K : Int32 → am_S → Prop) : Prop := ∀ d : Nat, am_run (d + 3) y_Mod_isFound [.ref 153, .int x1] σ (am_Ri K)
theorem t_Mod_isFound {d : Nat} {x1 : Int32}  {σ : am_S} {K : Int32 → am_S → Prop} (h : w_Mod_isFound x1 σ K) : am_run (d + 3) y_Mod_isFound [.ref 153, .int x1] σ (am_Ri K) := h d
theorem e_Mod_isFound {x1 : Int32}  {σ : am_S} {K : Int32 → am_S → Prop} (h : ∀ d : Nat, R_Mod_isFound d K 7 [.ref 153, .int x1, .int (σ.1 153 14), .int (nI 0), .null] [] σ) : w_Mod_isFound x1 σ K := by
  intro d
  have h := h d
  refine am_begin (vs := [.ref 153, .int x1, .null, .null, .null]) c_Mod_isFound (by decide +kernel) rfl rfl rfl rfl ?_
  refine r_aload_n d_Mod_isFound_0 rfl ?_
  refine r_getI d_Mod_isFound_1 f_Mod_168 kd_153 rfl ?_
  refine r_istore_n (vs' := [.ref 153, .int x1, .int (σ.1 153 14), .null, .null]) d_Mod_isFound_4 rfl rfl ?_
  refine r_iconst (nI 0) d_Mod_isFound_5 (by decide) ?_
  refine r_istore_n (vs' := [.ref 153, .int x1, .int (σ.1 153 14), .int (nI 0), .null]) d_Mod_isFound_6 rfl rfl ?_
  exact h
theorem l_Mod_isFound_7 {d : Nat}  {x1 : Int32} {x2 : Int32} {x3 : Int32}  {σ : am_S} {K : Int32 → am_S → Prop} (h : (am_ite (x2 ≤ x3) (vp_in (x2 - (nI 1)) 512 ∧ (w_Int_bitCount ((σ.1 161 0) ^^^ (σ.1 161 (Int32.toNatClampNeg (x2 - (nI 1))))) σ (fun r2 τ2 => (am_ite (r2 = (nI 1)) (R_Mod_isFound d K 84 [.ref 153, .int x1, .int x2, .int (nI 0), .null] [] τ2) (K (nI 0) τ2))))) (w_Mod_searchWord x1 x3 σ (fun r4 τ4 => (vp_in x3 512 ∧ (am_ite (x3 ≤ (nI 0)) (R_Mod_isFound d K 7 [.ref 153, .int x1, .int x2, .int (x3 + nI 1), .null] [] (am_upI τ4 161 (Int32.toNatClampNeg x3) r4)) (vp_in x3 512 ∧ (vp_in (x3 - (nI 1)) 512 ∧ (w_Int_bitCount (((am_upI τ4 161 (Int32.toNatClampNeg x3) r4).1 161 (Int32.toNatClampNeg x3)) ^^^ ((am_upI τ4 161 (Int32.toNatClampNeg x3) r4).1 161 (Int32.toNatClampNeg (x3 - (nI 1))))) (am_upI τ4 161 (Int32.toNatClampNeg x3) r4) (fun r6 τ6 => (am_ite (r6 = (nI 1)) (R_Mod_isFound d K 7 [.ref 153, .int x1, .int x2, .int (x3 + nI 1), .null] [] τ6) (K (nI 0) τ6)))))))))))) : R_Mod_isFound d K 7 [.ref 153, .int x1, .int x2, .int x3, .null] [] σ := by
  refine r_iload_n d_Mod_isFound_7 rfl ?_
  refine r_iload_n d_Mod_isFound_8 rfl ?_
  refine r_icmp2 58 (x2 ≤ x3) d_Mod_isFound_9 (by decide) rfl (fun c1 => ?_) (fun c1 => ?_)
  · have h := h.1 c1
    refine r_aload_n d_Mod_isFound_58 rfl ?_
    refine r_getR d_Mod_isFound_59 f_Mod_38 kd_153 rfl lk_153_19 ?_
    refine r_iconst (nI 0) d_Mod_isFound_62 (by decide) ?_
    refine r_iald d_Mod_isFound_63 ce_161 ⟨pk_in 0 512 (by decide), ?_⟩
    refine r_aload_n d_Mod_isFound_64 rfl ?_
    refine r_getR d_Mod_isFound_65 f_Mod_38 kd_153 rfl lk_153_19 ?_
    refine r_iload_n d_Mod_isFound_68 rfl ?_
    refine r_iconst (nI 1) d_Mod_isFound_69 (by decide) ?_
    refine r_isub d_Mod_isFound_70 ?_
    refine r_iald d_Mod_isFound_71 ce_161 ⟨h.1, ?_⟩
    have h := h.2
    refine r_ixor d_Mod_isFound_72 ?_
    refine r_statI [.int ((σ.1 161 0) ^^^ (σ.1 161 (Int32.toNatClampNeg (x2 - (nI 1)))))] [] d_Mod_isFound_73 s_Mod_119 rfl rfl rfl (t_Int_bitCount h) (fun r2 τ2 h => ?_)
    refine r_iconst (nI 1) d_Mod_isFound_76 (by decide) ?_
    refine r_icmp2 82 (r2 = (nI 1)) d_Mod_isFound_77 (by decide) rfl (fun c3 => ?_) (fun c3 => ?_)
    · have h := h.1 c3
      refine r_iconst (nI 0) d_Mod_isFound_82 (by decide) ?_
      refine r_istore_n (vs' := [.ref 153, .int x1, .int x2, .int (nI 0), .null]) d_Mod_isFound_83 rfl rfl ?_
      exact h
    · have h := h.2 c3
      refine r_iconst (nI 0) d_Mod_isFound_80 (by decide) ?_
      exact r_zret0 d_Mod_isFound_81 h
  · have h := h.2 c1
    refine r_aload_n d_Mod_isFound_12 rfl ?_
    refine r_getR d_Mod_isFound_13 f_Mod_38 kd_153 rfl lk_153_19 ?_
    refine r_iload_n d_Mod_isFound_16 rfl ?_
    refine r_aload_n d_Mod_isFound_17 rfl ?_
    refine r_iload_n d_Mod_isFound_18 rfl ?_
    refine r_iload_n d_Mod_isFound_19 rfl ?_
    refine r_virtI [.int x1, .int x3] [.int x3, .ref 161] d_Mod_isFound_20 v_Mod_177 rfl rfl cn_153 rfl (t_Mod_searchWord h) (fun r4 τ4 h => ?_)
    refine r_iast d_Mod_isFound_23 ce_161 ⟨h.1, ?_⟩
    have h := h.2
    refine r_iload_n d_Mod_isFound_24 rfl ?_
    refine r_if2 52 (x3 ≤ (nI 0)) d_Mod_isFound_25 (by decide) rfl (fun c5 => ?_) (fun c5 => ?_)
    · have h := h.1 c5
      refine r_inc1 (vs' := [.ref 153, .int x1, .int x2, .int (x3 + nI 1), .null]) d_Mod_isFound_52 rfl rfl rfl ?_
      refine r_goto 7 d_Mod_isFound_55 (by decide) ?_
      exact h
    · have h := h.2 c5
      refine r_aload_n d_Mod_isFound_28 rfl ?_
      refine r_getR d_Mod_isFound_29 f_Mod_38 kd_153 rfl lk_153_19 ?_
      refine r_iload_n d_Mod_isFound_32 rfl ?_
      refine r_iald d_Mod_isFound_33 ce_161 ⟨h.1, ?_⟩
      have h := h.2
      refine r_aload_n d_Mod_isFound_34 rfl ?_
      refine r_getR d_Mod_isFound_35 f_Mod_38 kd_153 rfl lk_153_19 ?_
      refine r_iload_n d_Mod_isFound_38 rfl ?_
      refine r_iconst (nI 1) d_Mod_isFound_39 (by decide) ?_
      refine r_isub d_Mod_isFound_40 ?_
      refine r_iald d_Mod_isFound_41 ce_161 ⟨h.1, ?_⟩
      have h := h.2
      refine r_ixor d_Mod_isFound_42 ?_
      refine r_statI [.int (((am_upI τ4 161 (Int32.toNatClampNeg x3) r4).1 161 (Int32.toNatClampNeg x3)) ^^^ ((am_upI τ4 161 (Int32.toNatClampNeg x3) r4).1 161 (Int32.toNatClampNeg (x3 - (nI 1)))))] [] d_Mod_isFound_43 s_Mod_119 rfl rfl rfl (t_Int_bitCount h) (fun r6 τ6 h => ?_)
      refine r_iconst (nI 1) d_Mod_isFound_46 (by decide) ?_
      refine r_icmp2 52 (r6 = (nI 1)) d_Mod_isFound_47 (by decide) rfl (fun c7 => ?_) (fun c7 => ?_)
      · have h := h.1 c7
        refine r_inc1 (vs' := [.ref 153, .int x1, .int x2, .int (x3 + nI 1), .null]) d_Mod_isFound_52 rfl rfl rfl ?_
        refine r_goto 7 d_Mod_isFound_55 (by decide) ?_
        exact h
      · have h := h.2 c7
        refine r_iconst (nI 0) d_Mod_isFound_50 (by decide) ?_
        exact r_zret0 d_Mod_isFound_51 h
theorem l_Mod_isFound_84 {d : Nat}  {x1 : Int32} {x2 : Int32} {x3 : Int32}  {σ : am_S} {K : Int32 → am_S → Prop} (h : (am_ite (x2 ≤ x3) (R_Mod_isFound d K 132 [.null, .int x1, .int x2, .int (nI 1), .null] [] σ) (R_Mod_isFound d K 94 [.ref 153, .int x1, .int x2, .int x3, .int (x3 + (nI 1))] [] σ))) : R_Mod_isFound d K 84 [.ref 153, .int x1, .int x2, .int x3, .null] [] σ := by
  refine r_iload_n d_Mod_isFound_84 rfl ?_
  refine r_iload_n d_Mod_isFound_85 rfl ?_
  refine r_icmp2 130 (x2 ≤ x3) d_Mod_isFound_86 (by decide) rfl (fun c8 => ?_) (fun c8 => ?_)
  · have h := h.1 c8
    refine r_iconst (nI 1) d_Mod_isFound_130 (by decide) ?_
    refine r_istore_n (vs' := [.ref 153, .int x1, .int x2, .int (nI 1), .null]) d_Mod_isFound_131 rfl rfl ?_
    exact am_weak (vs := [.null, .int x1, .int x2, .int (nI 1), .null]) ⟨Or.inr ⟨rfl, rfl⟩, Or.inl rfl, Or.inl rfl, Or.inl rfl, Or.inl rfl, trivial⟩ h
  · have h := h.2 c8
    refine r_iload_n d_Mod_isFound_89 rfl ?_
    refine r_iconst (nI 1) d_Mod_isFound_90 (by decide) ?_
    refine r_iadd d_Mod_isFound_91 ?_
    refine r_istore (vs' := [.ref 153, .int x1, .int x2, .int x3, .int (x3 + (nI 1))]) d_Mod_isFound_92 rfl rfl ?_
    exact h
theorem l_Mod_isFound_132 {d : Nat}  {x1 : Int32} {x2 : Int32} {x3 : Int32}  {σ : am_S} {K : Int32 → am_S → Prop} (h : (am_ite (x2 ≤ x3) (K (nI 1) σ) (am_ite (x1 ≤ (((x1 <<< (x3 &&& 31)) ||| (x1 >>> ((x2 - x3) &&& 31))) &&& (((nI 1) <<< (x2 &&& 31)) - (nI 1)))) (R_Mod_isFound d K 132 [.null, .int x1, .int x2, .int (x3 + nI 1), .null] [] σ) (K (nI 0) σ)))) : R_Mod_isFound d K 132 [.null, .int x1, .int x2, .int x3, .null] [] σ := by
  refine r_iload_n d_Mod_isFound_132 rfl ?_
  refine r_iload_n d_Mod_isFound_133 rfl ?_
  refine r_icmp2 168 (x2 ≤ x3) d_Mod_isFound_134 (by decide) rfl (fun c9 => ?_) (fun c9 => ?_)
  · have h := h.1 c9
    refine r_iconst (nI 1) d_Mod_isFound_168 (by decide) ?_
    exact r_zret1 d_Mod_isFound_169 h
  · have h := h.2 c9
    refine r_iload_n d_Mod_isFound_137 rfl ?_
    refine r_iload_n d_Mod_isFound_138 rfl ?_
    refine r_ishl d_Mod_isFound_139 ?_
    refine r_iload_n d_Mod_isFound_140 rfl ?_
    refine r_iload_n d_Mod_isFound_141 rfl ?_
    refine r_iload_n d_Mod_isFound_142 rfl ?_
    refine r_isub d_Mod_isFound_143 ?_
    refine r_ishr d_Mod_isFound_144 ?_
    refine r_ior d_Mod_isFound_145 ?_
    refine r_iconst (nI 1) d_Mod_isFound_146 (by decide) ?_
    refine r_iload_n d_Mod_isFound_147 rfl ?_
    refine r_ishl d_Mod_isFound_148 ?_
    refine r_iconst (nI 1) d_Mod_isFound_149 (by decide) ?_
    refine r_isub d_Mod_isFound_150 ?_
    refine r_iand d_Mod_isFound_151 ?_
    refine r_istore (vs' := [.null, .int x1, .int x2, .int x3, .int (((x1 <<< (x3 &&& 31)) ||| (x1 >>> ((x2 - x3) &&& 31))) &&& (((nI 1) <<< (x2 &&& 31)) - (nI 1)))]) d_Mod_isFound_152 rfl rfl ?_
    refine r_iload d_Mod_isFound_154 rfl ?_
    refine r_iload_n d_Mod_isFound_156 rfl ?_
    refine r_icmp2 162 (x1 ≤ (((x1 <<< (x3 &&& 31)) ||| (x1 >>> ((x2 - x3) &&& 31))) &&& (((nI 1) <<< (x2 &&& 31)) - (nI 1)))) d_Mod_isFound_157 (by decide) rfl (fun c10 => ?_) (fun c10 => ?_)
    · have h := h.1 c10
      refine r_inc1 (vs' := [.null, .int x1, .int x2, .int (x3 + nI 1), .int (((x1 <<< (x3 &&& 31)) ||| (x1 >>> ((x2 - x3) &&& 31))) &&& (((nI 1) <<< (x2 &&& 31)) - (nI 1)))]) d_Mod_isFound_162 rfl rfl rfl ?_
      refine r_goto 132 d_Mod_isFound_165 (by decide) ?_
      exact am_weak (vs := [.null, .int x1, .int x2, .int (x3 + nI 1), .null]) ⟨Or.inl rfl, Or.inl rfl, Or.inl rfl, Or.inl rfl, Or.inr ⟨rfl, rfl⟩, trivial⟩ h
    · have h := h.2 c10
      refine r_iconst (nI 0) d_Mod_isFound_160 (by decide) ?_
      exact r_zret0 d_Mod_isFound_161 h
theorem l_Mod_isFound_94 {d : Nat}  {x1 : Int32} {x2 : Int32} {x3 : Int32} {x4 : Int32}  {σ : am_S} {K : Int32 → am_S → Prop} (h : (am_ite (x2 ≤ x4) (R_Mod_isFound d K 84 [.ref 153, .int x1, .int x2, .int (x3 + nI 1), .null] [] σ) (vp_in x3 512 ∧ (vp_in x4 512 ∧ (am_ite (¬ (σ.1 161 (Int32.toNatClampNeg x3)) = (σ.1 161 (Int32.toNatClampNeg x4))) (R_Mod_isFound d K 94 [.ref 153, .int x1, .int x2, .int x3, .int (x4 + nI 1)] [] σ) (K (nI 0) σ)))))) : R_Mod_isFound d K 94 [.ref 153, .int x1, .int x2, .int x3, .int x4] [] σ := by
  refine r_iload d_Mod_isFound_94 rfl ?_
  refine r_iload_n d_Mod_isFound_96 rfl ?_
  refine r_icmp2 124 (x2 ≤ x4) d_Mod_isFound_97 (by decide) rfl (fun c11 => ?_) (fun c11 => ?_)
  · have h := h.1 c11
    refine r_inc1 (vs' := [.ref 153, .int x1, .int x2, .int (x3 + nI 1), .int x4]) d_Mod_isFound_124 rfl rfl rfl ?_
    refine r_goto 84 d_Mod_isFound_127 (by decide) ?_
    exact am_weak (vs := [.ref 153, .int x1, .int x2, .int (x3 + nI 1), .null]) ⟨Or.inl rfl, Or.inl rfl, Or.inl rfl, Or.inl rfl, Or.inr ⟨rfl, rfl⟩, trivial⟩ h
  · have h := h.2 c11
    refine r_aload_n d_Mod_isFound_100 rfl ?_
    refine r_getR d_Mod_isFound_101 f_Mod_38 kd_153 rfl lk_153_19 ?_
    refine r_iload_n d_Mod_isFound_104 rfl ?_
    refine r_iald d_Mod_isFound_105 ce_161 ⟨h.1, ?_⟩
    have h := h.2
    refine r_aload_n d_Mod_isFound_106 rfl ?_
    refine r_getR d_Mod_isFound_107 f_Mod_38 kd_153 rfl lk_153_19 ?_
    refine r_iload d_Mod_isFound_110 rfl ?_
    refine r_iald d_Mod_isFound_112 ce_161 ⟨h.1, ?_⟩
    have h := h.2
    refine r_icmp2 118 (¬ (σ.1 161 (Int32.toNatClampNeg x3)) = (σ.1 161 (Int32.toNatClampNeg x4))) d_Mod_isFound_113 (by decide) rfl (fun c12 => ?_) (fun c12 => ?_)
    · have h := h.1 c12
      refine r_inc1 (vs' := [.ref 153, .int x1, .int x2, .int x3, .int (x4 + nI 1)]) d_Mod_isFound_118 rfl rfl rfl ?_
      refine r_goto 94 d_Mod_isFound_121 (by decide) ?_
      exact h
    · have h := h.2 c12
      refine r_iconst (nI 0) d_Mod_isFound_116 (by decide) ?_
      exact r_zret0 d_Mod_isFound_117 h
abbrev R_Mod_search (d : Nat) (K : Int32 → am_S → Prop) (pc : Nat) (vs st : List Value) (σ : am_S) : Prop := am_r (am_run (d + 3)) "WheelDiscModel" (some .int) prog_13_method_52_code (am_Ri K) pc vs st σ
def w_Mod_search (x1 : Int32) (σ : am_S) (K : Int32 → am_S → Prop) : Prop := ∀ d : Nat, am_run (d + 4) y_Mod_search [.ref 153, .int x1] σ (am_Ri K)
theorem t_Mod_search {d : Nat} {x1 : Int32}  {σ : am_S} {K : Int32 → am_S → Prop} (h : w_Mod_search x1 σ K) : am_run (d + 4) y_Mod_search [.ref 153, .int x1] σ (am_Ri K) := h d
theorem e_Mod_search {x1 : Int32}  {σ : am_S} {K : Int32 → am_S → Prop} (h : ∀ d : Nat, R_Mod_search d K 12 [.ref 153, .int x1, .int (nI 0), .null, .null] [] (am_upI σ 153 17 ((σ.1 153 17) + x1))) : w_Mod_search x1 σ K := by
  intro d
  have h := h d
  refine am_begin (vs := [.ref 153, .int x1, .null, .null, .null]) c_Mod_search (by decide +kernel) rfl rfl rfl rfl ?_
  refine r_aload_n d_Mod_search_0 rfl ?_
  refine r_dup d_Mod_search_1 rfl ?_
  refine r_getI d_Mod_search_2 f_Mod_181 kd_153 rfl ?_
  refine r_iload_n d_Mod_search_5 rfl ?_
  refine r_iadd d_Mod_search_6 ?_
  refine r_putI d_Mod_search_7 f_Mod_181 kd_153 rfl ?_
  refine r_iconst (nI 0) d_Mod_search_10 (by decide) ?_
  refine r_istore_n (vs' := [.ref 153, .int x1, .int (nI 0), .null, .null]) d_Mod_search_11 rfl rfl ?_
  exact h
theorem l_Mod_search_12 {d : Nat}  {x1 : Int32} {x2 : Int32}  {σ : am_S} {K : Int32 → am_S → Prop} (h : (am_ite (x1 ≤ x2) (am_ite (((nI 1) <<< ((σ.1 153 14) &&& 31)) ≤ (σ.1 153 16)) (K (nI 0) (am_upI σ 153 14 (nI 0))) (K (-2) σ)) (am_ite (((nI 1) <<< ((σ.1 153 14) &&& 31)) ≤ (σ.1 153 16)) (am_ite (((nI 1) <<< ((σ.1 153 14) &&& 31)) ≤ (σ.1 153 16)) (K (nI 0) (am_upI σ 153 14 (nI 0))) (K (-2) σ)) (w_Mod_isFound (σ.1 153 16) (am_upI σ 153 16 ((σ.1 153 16) + (nI 1))) (fun r5 τ5 => (am_ite (¬ r5 = (nI 0)) (w_Mod_change  τ5 (fun τ7 => (w_Mod_begin (τ7.1 153 14) τ7 (fun τ8 => R_Mod_search d K 71 [.ref 153, .null, .null, .int (σ.1 153 16), .int (nI 0)] [] τ8)))) (R_Mod_search d K 12 [.ref 153, .int x1, .int (x2 + nI 1), .null, .null] [] τ5))))))) : R_Mod_search d K 12 [.ref 153, .int x1, .int x2, .null, .null] [] σ := by
  refine r_iload_n d_Mod_search_12 rfl ?_
  refine r_iload_n d_Mod_search_13 rfl ?_
  refine r_icmp2 170 (x1 ≤ x2) d_Mod_search_14 (by decide) rfl (fun c1 => ?_) (fun c1 => ?_)
  · have h := h.1 c1
    refine r_aload_n d_Mod_search_170 rfl ?_
    refine r_getI d_Mod_search_171 f_Mod_184 kd_153 rfl ?_
    refine r_iconst (nI 1) d_Mod_search_174 (by decide) ?_
    refine r_aload_n d_Mod_search_175 rfl ?_
    refine r_getI d_Mod_search_176 f_Mod_168 kd_153 rfl ?_
    refine r_ishl d_Mod_search_179 ?_
    refine r_icmp2 186 (((nI 1) <<< ((σ.1 153 14) &&& 31)) ≤ (σ.1 153 16)) d_Mod_search_180 (by decide) rfl (fun c2 => ?_) (fun c2 => ?_)
    · have h := h.1 c2
      refine r_aload_n d_Mod_search_186 rfl ?_
      refine r_iconst (nI 0) d_Mod_search_187 (by decide) ?_
      refine r_putI d_Mod_search_188 f_Mod_168 kd_153 rfl ?_
      refine r_iconst (nI 0) d_Mod_search_191 (by decide) ?_
      exact r_iret d_Mod_search_192 h
    · have h := h.2 c2
      refine r_bipush (-2) d_Mod_search_183 (by decide) ?_
      exact r_iret d_Mod_search_185 h
  · have h := h.2 c1
    refine r_aload_n d_Mod_search_17 rfl ?_
    refine r_getI d_Mod_search_18 f_Mod_184 kd_153 rfl ?_
    refine r_iconst (nI 1) d_Mod_search_21 (by decide) ?_
    refine r_aload_n d_Mod_search_22 rfl ?_
    refine r_getI d_Mod_search_23 f_Mod_168 kd_153 rfl ?_
    refine r_ishl d_Mod_search_26 ?_
    refine r_icmp2 170 (((nI 1) <<< ((σ.1 153 14) &&& 31)) ≤ (σ.1 153 16)) d_Mod_search_27 (by decide) rfl (fun c3 => ?_) (fun c3 => ?_)
    · have h := h.1 c3
      refine r_aload_n d_Mod_search_170 rfl ?_
      refine r_getI d_Mod_search_171 f_Mod_184 kd_153 rfl ?_
      refine r_iconst (nI 1) d_Mod_search_174 (by decide) ?_
      refine r_aload_n d_Mod_search_175 rfl ?_
      refine r_getI d_Mod_search_176 f_Mod_168 kd_153 rfl ?_
      refine r_ishl d_Mod_search_179 ?_
      refine r_icmp2 186 (((nI 1) <<< ((σ.1 153 14) &&& 31)) ≤ (σ.1 153 16)) d_Mod_search_180 (by decide) rfl (fun c4 => ?_) (fun c4 => ?_)
      · have h := h.1 c4
        refine r_aload_n d_Mod_search_186 rfl ?_
        refine r_iconst (nI 0) d_Mod_search_187 (by decide) ?_
        refine r_putI d_Mod_search_188 f_Mod_168 kd_153 rfl ?_
        refine r_iconst (nI 0) d_Mod_search_191 (by decide) ?_
        exact r_iret d_Mod_search_192 h
      · have h := h.2 c4
        refine r_bipush (-2) d_Mod_search_183 (by decide) ?_
        exact r_iret d_Mod_search_185 h
    · have h := h.2 c3
      refine r_aload_n d_Mod_search_30 rfl ?_
      refine r_getI d_Mod_search_31 f_Mod_184 kd_153 rfl ?_
      refine r_istore_n (vs' := [.ref 153, .int x1, .int x2, .int (σ.1 153 16), .null]) d_Mod_search_34 rfl rfl ?_
      refine r_aload_n d_Mod_search_35 rfl ?_
      refine r_dup d_Mod_search_36 rfl ?_
      refine r_getI d_Mod_search_37 f_Mod_184 kd_153 rfl ?_
      refine r_iconst (nI 1) d_Mod_search_40 (by decide) ?_
      refine r_iadd d_Mod_search_41 ?_
      refine r_putI d_Mod_search_42 f_Mod_184 kd_153 rfl ?_
      refine r_aload_n d_Mod_search_45 rfl ?_
      refine r_iload_n d_Mod_search_46 rfl ?_
      refine r_virtI [.int (σ.1 153 16)] [] d_Mod_search_47 v_Mod_187 rfl rfl cn_153 rfl (t_Mod_isFound h) (fun r5 τ5 h => ?_)
      refine r_if2 56 (¬ r5 = (nI 0)) d_Mod_search_50 (by decide) rfl (fun c6 => ?_) (fun c6 => ?_)
      · have h := h.1 c6
        refine r_aload_n d_Mod_search_56 rfl ?_
        refine r_virtV [] [] d_Mod_search_57 v_Mod_82 rfl rfl cn_153 rfl (t_Mod_change h) (fun τ7 h => ?_)
        refine r_aload_n d_Mod_search_60 rfl ?_
        refine r_aload_n d_Mod_search_61 rfl ?_
        refine r_getI d_Mod_search_62 f_Mod_168 kd_153 rfl ?_
        refine r_virtV [.int (τ7.1 153 14)] [] d_Mod_search_65 v_Mod_85 rfl rfl cn_153 rfl (t_Mod_begin h) (fun τ8 h => ?_)
        refine r_iconst (nI 0) d_Mod_search_68 (by decide) ?_
        refine r_istore (vs' := [.ref 153, .int x1, .int x2, .int (σ.1 153 16), .int (nI 0)]) d_Mod_search_69 rfl rfl ?_
        exact am_weak (vs := [.ref 153, .null, .null, .int (σ.1 153 16), .int (nI 0)]) ⟨Or.inl rfl, Or.inr ⟨rfl, rfl⟩, Or.inr ⟨rfl, rfl⟩, Or.inl rfl, Or.inl rfl, trivial⟩ h
      · have h := h.2 c6
        refine r_goto 164 d_Mod_search_53 (by decide) ?_
        refine r_inc1 (vs' := [.ref 153, .int x1, .int (x2 + nI 1), .int (σ.1 153 16), .null]) d_Mod_search_164 rfl rfl rfl ?_
        refine r_goto 12 d_Mod_search_167 (by decide) ?_
        exact am_weak (vs := [.ref 153, .int x1, .int (x2 + nI 1), .null, .null]) ⟨Or.inl rfl, Or.inl rfl, Or.inl rfl, Or.inr ⟨rfl, rfl⟩, Or.inl rfl, trivial⟩ h
theorem l_Mod_search_71 {d : Nat}  {x3 : Int32} {x4 : Int32}  {σ : am_S} {K : Int32 → am_S → Prop} (h : (am_ite ((σ.1 153 14) ≤ x4) (vp_in (nI 1) 96 ∧ (vp_in (nI 2) 96 ∧ R_Mod_search d K 120 [.ref 153, .null, .null, .null, .int (nI 0)] [] (am_upI (am_upI σ 154 1 (nI 1)) 154 2 (σ.1 153 15)))) (w_Mod_bitOf x3 x4 σ (fun r10 τ10 => (vp_in x4 163840 ∧ (r10 = nI 0 ∨ r10 = nI 1) ∧ R_Mod_search d K 71 [.ref 153, .null, .null, .int x3, .int (x4 + nI 1)] [] (am_upI τ10 157 (Int32.toNatClampNeg x4) r10)))))) : R_Mod_search d K 71 [.ref 153, .null, .null, .int x3, .int x4] [] σ := by
  refine r_iload d_Mod_search_71 rfl ?_
  refine r_aload_n d_Mod_search_73 rfl ?_
  refine r_getI d_Mod_search_74 f_Mod_168 kd_153 rfl ?_
  refine r_icmp2 100 ((σ.1 153 14) ≤ x4) d_Mod_search_77 (by decide) rfl (fun c9 => ?_) (fun c9 => ?_)
  · have h := h.1 c9
    refine r_aload_n d_Mod_search_100 rfl ?_
    refine r_getR d_Mod_search_101 f_Mod_9 kd_153 rfl lk_153_0 ?_
    refine r_iconst (nI 1) d_Mod_search_104 (by decide) ?_
    refine r_iconst (nI 1) d_Mod_search_105 (by decide) ?_
    refine r_iast d_Mod_search_106 ce_154 ⟨h.1, ?_⟩
    have h := h.2
    refine r_aload_n d_Mod_search_107 rfl ?_
    refine r_getR d_Mod_search_108 f_Mod_9 kd_153 rfl lk_153_0 ?_
    refine r_iconst (nI 2) d_Mod_search_111 (by decide) ?_
    refine r_aload_n d_Mod_search_112 rfl ?_
    refine r_getI d_Mod_search_113 f_Mod_171 kd_153 rfl ?_
    refine r_iast d_Mod_search_116 ce_154 ⟨h.1, ?_⟩
    have h := h.2
    refine r_iconst (nI 0) d_Mod_search_117 (by decide) ?_
    refine r_istore (vs' := [.ref 153, .null, .null, .int x3, .int (nI 0)]) d_Mod_search_118 rfl rfl ?_
    exact am_weak (vs := [.ref 153, .null, .null, .null, .int (nI 0)]) ⟨Or.inl rfl, Or.inl rfl, Or.inl rfl, Or.inr ⟨rfl, rfl⟩, Or.inl rfl, trivial⟩ h
  · have h := h.2 c9
    refine r_aload_n d_Mod_search_80 rfl ?_
    refine r_getR d_Mod_search_81 f_Mod_20 kd_153 rfl lk_153_3 ?_
    refine r_iload d_Mod_search_84 rfl ?_
    refine r_aload_n d_Mod_search_86 rfl ?_
    refine r_iload_n d_Mod_search_87 rfl ?_
    refine r_iload d_Mod_search_88 rfl ?_
    refine r_virtI [.int x3, .int x4] [.int x4, .ref 157] d_Mod_search_90 v_Mod_174 rfl rfl cn_153 rfl (t_Mod_bitOf h) (fun r10 τ10 h => ?_)
    refine r_zast d_Mod_search_93 ce_157 ⟨h.1, h.2.1, ?_⟩
    have h := h.2.2
    refine r_inc1 (vs' := [.ref 153, .null, .null, .int x3, .int (x4 + nI 1)]) d_Mod_search_94 rfl rfl rfl ?_
    refine r_goto 71 d_Mod_search_97 (by decide) ?_
    exact h
theorem l_Mod_search_120 {d : Nat}  {x4 : Int32}  {σ : am_S} {K : Int32 → am_S → Prop} (h : (am_ite ((σ.1 153 15) ≤ x4) (K (nI 1) σ) (vp_in x4 320 ∧ (¬ (σ.1 153 15) = nI 0 ∧ (vp_in x4 320 ∧ R_Mod_search d K 120 [.ref 153, .null, .null, .null, .int (x4 + nI 1)] [] (am_upI (am_upI σ 155 (Int32.toNatClampNeg x4) (nI 0)) 156 (Int32.toNatClampNeg x4) (x4 * ((σ.1 153 14) / (σ.1 153 15))))))))) : R_Mod_search d K 120 [.ref 153, .null, .null, .null, .int x4] [] σ := by
  refine r_iload d_Mod_search_120 rfl ?_
  refine r_aload_n d_Mod_search_122 rfl ?_
  refine r_getI d_Mod_search_123 f_Mod_171 kd_153 rfl ?_
  refine r_icmp2 162 ((σ.1 153 15) ≤ x4) d_Mod_search_126 (by decide) rfl (fun c11 => ?_) (fun c11 => ?_)
  · have h := h.1 c11
    refine r_iconst (nI 1) d_Mod_search_162 (by decide) ?_
    exact r_iret d_Mod_search_163 h
  · have h := h.2 c11
    refine r_aload_n d_Mod_search_129 rfl ?_
    refine r_getR d_Mod_search_130 f_Mod_13 kd_153 rfl lk_153_1 ?_
    refine r_iload d_Mod_search_133 rfl ?_
    refine r_iconst (nI 0) d_Mod_search_135 (by decide) ?_
    refine r_iast d_Mod_search_136 ce_155 ⟨h.1, ?_⟩
    have h := h.2
    refine r_aload_n d_Mod_search_137 rfl ?_
    refine r_getR d_Mod_search_138 f_Mod_16 kd_153 rfl lk_153_2 ?_
    refine r_iload d_Mod_search_141 rfl ?_
    refine r_iload d_Mod_search_143 rfl ?_
    refine r_aload_n d_Mod_search_145 rfl ?_
    refine r_getI d_Mod_search_146 f_Mod_168 kd_153 rfl ?_
    refine r_aload_n d_Mod_search_149 rfl ?_
    refine r_getI d_Mod_search_150 f_Mod_171 kd_153 rfl ?_
    refine r_idiv d_Mod_search_153 ⟨h.1, ?_⟩
    have h := h.2
    refine r_imul d_Mod_search_154 ?_
    refine r_iast d_Mod_search_155 ce_156 ⟨h.1, ?_⟩
    have h := h.2
    refine r_inc1 (vs' := [.ref 153, .null, .null, .null, .int (x4 + nI 1)]) d_Mod_search_156 rfl rfl rfl ?_
    refine r_goto 120 d_Mod_search_159 (by decide) ?_
    exact h
def w_Mod_single (x1 : Int32) (x2 : Int32) (x3 : Int32) (σ : am_S) (K : Int32 → am_S → Prop) : Prop := (am_ite (x1 < (nI 2)) (w_Mod_no (nI 1) (am_upI σ 153 18 (nI 0)) (fun r2 τ2 => K r2 τ2)) (am_ite ((nI 20) < x1) (w_Mod_no (nI 1) (am_upI σ 153 18 (nI 0)) (fun r4 τ4 => K r4 τ4)) (am_ite (x2 < (nI 2)) (w_Mod_no (nI 1) (am_upI σ 153 18 (nI 0)) (fun r6 τ6 => K r6 τ6)) (am_ite ((nI 5) < x2) (w_Mod_no (nI 1) (am_upI σ 153 18 (nI 0)) (fun r8 τ8 => K r8 τ8)) (¬ x2 = nI 0 ∧ (am_ite (¬ (x1 - x1 / x2 * x2) = (nI 0)) (w_Mod_no (nI 1) (am_upI σ 153 18 (nI 0)) (fun r10 τ10 => K r10 τ10)) (am_ite (x3 < (nI 0)) (w_Mod_no (nI 1) (am_upI σ 153 18 (nI 0)) (fun r12 τ12 => K r12 τ12)) (am_ite (x3 ≤ (nI 2000000)) (am_ite (((σ.1 153 17) + x3) ≤ (nI 4000000)) (w_Mod_search x3 (am_upI (am_upI (am_upI (am_upI σ 153 18 (nI 0)) 153 14 x1) 153 15 x2) 153 16 (nI 0)) (fun r15 τ15 => K r15 τ15)) (w_Mod_no (nI 4) (am_upI σ 153 18 (nI 0)) (fun r16 τ16 => K r16 τ16))) (w_Mod_no (nI 1) (am_upI σ 153 18 (nI 0)) (fun r17 τ17 => K r17 τ17))))))))))
theorem t_Mod_single {d : Nat} {x1 : Int32} {x2 : Int32} {x3 : Int32}  {σ : am_S} {K : Int32 → am_S → Prop} (h : w_Mod_single x1 x2 x3 σ K) : am_run (d + 5) y_Mod_single [.ref 153, .int x1, .int x2, .int x3] σ (am_Ri K) := by
  unfold w_Mod_single at h
  refine am_begin (vs := [.ref 153, .int x1, .int x2, .int x3]) c_Mod_single (by decide +kernel) rfl rfl rfl rfl ?_
  refine r_aload_n d_Mod_single_0 rfl ?_
  refine r_iconst (nI 0) d_Mod_single_1 (by decide) ?_
  refine r_putI d_Mod_single_2 f_Mod_62 kd_153 rfl ?_
  refine r_iload_n d_Mod_single_5 rfl ?_
  refine r_iconst (nI 2) d_Mod_single_6 (by decide) ?_
  refine r_icmp2 42 (x1 < (nI 2)) d_Mod_single_7 (by decide) rfl (fun c1 => ?_) (fun c1 => ?_)
  · have h := h.1 c1
    refine r_aload_n d_Mod_single_42 rfl ?_
    refine r_iconst (nI 1) d_Mod_single_43 (by decide) ?_
    refine r_virtI [.int (nI 1)] [] d_Mod_single_44 v_Mod_75 rfl rfl cn_153 rfl (t_Mod_no h) (fun r2 τ2 h => ?_)
    exact r_iret d_Mod_single_47 h
  · have h := h.2 c1
    refine r_iload_n d_Mod_single_10 rfl ?_
    refine r_bipush (nI 20) d_Mod_single_11 (by decide) ?_
    refine r_icmp2 42 ((nI 20) < x1) d_Mod_single_13 (by decide) rfl (fun c3 => ?_) (fun c3 => ?_)
    · have h := h.1 c3
      refine r_aload_n d_Mod_single_42 rfl ?_
      refine r_iconst (nI 1) d_Mod_single_43 (by decide) ?_
      refine r_virtI [.int (nI 1)] [] d_Mod_single_44 v_Mod_75 rfl rfl cn_153 rfl (t_Mod_no h) (fun r4 τ4 h => ?_)
      exact r_iret d_Mod_single_47 h
    · have h := h.2 c3
      refine r_iload_n d_Mod_single_16 rfl ?_
      refine r_iconst (nI 2) d_Mod_single_17 (by decide) ?_
      refine r_icmp2 42 (x2 < (nI 2)) d_Mod_single_18 (by decide) rfl (fun c5 => ?_) (fun c5 => ?_)
      · have h := h.1 c5
        refine r_aload_n d_Mod_single_42 rfl ?_
        refine r_iconst (nI 1) d_Mod_single_43 (by decide) ?_
        refine r_virtI [.int (nI 1)] [] d_Mod_single_44 v_Mod_75 rfl rfl cn_153 rfl (t_Mod_no h) (fun r6 τ6 h => ?_)
        exact r_iret d_Mod_single_47 h
      · have h := h.2 c5
        refine r_iload_n d_Mod_single_21 rfl ?_
        refine r_iconst (nI 5) d_Mod_single_22 (by decide) ?_
        refine r_icmp2 42 ((nI 5) < x2) d_Mod_single_23 (by decide) rfl (fun c7 => ?_) (fun c7 => ?_)
        · have h := h.1 c7
          refine r_aload_n d_Mod_single_42 rfl ?_
          refine r_iconst (nI 1) d_Mod_single_43 (by decide) ?_
          refine r_virtI [.int (nI 1)] [] d_Mod_single_44 v_Mod_75 rfl rfl cn_153 rfl (t_Mod_no h) (fun r8 τ8 h => ?_)
          exact r_iret d_Mod_single_47 h
        · have h := h.2 c7
          refine r_iload_n d_Mod_single_26 rfl ?_
          refine r_iload_n d_Mod_single_27 rfl ?_
          refine r_irem d_Mod_single_28 ⟨h.1, ?_⟩
          have h := h.2
          refine r_if2 42 (¬ (x1 - x1 / x2 * x2) = (nI 0)) d_Mod_single_29 (by decide) rfl (fun c9 => ?_) (fun c9 => ?_)
          · have h := h.1 c9
            refine r_aload_n d_Mod_single_42 rfl ?_
            refine r_iconst (nI 1) d_Mod_single_43 (by decide) ?_
            refine r_virtI [.int (nI 1)] [] d_Mod_single_44 v_Mod_75 rfl rfl cn_153 rfl (t_Mod_no h) (fun r10 τ10 h => ?_)
            exact r_iret d_Mod_single_47 h
          · have h := h.2 c9
            refine r_iload_n d_Mod_single_32 rfl ?_
            refine r_if2 42 (x3 < (nI 0)) d_Mod_single_33 (by decide) rfl (fun c11 => ?_) (fun c11 => ?_)
            · have h := h.1 c11
              refine r_aload_n d_Mod_single_42 rfl ?_
              refine r_iconst (nI 1) d_Mod_single_43 (by decide) ?_
              refine r_virtI [.int (nI 1)] [] d_Mod_single_44 v_Mod_75 rfl rfl cn_153 rfl (t_Mod_no h) (fun r12 τ12 h => ?_)
              exact r_iret d_Mod_single_47 h
            · have h := h.2 c11
              refine r_iload_n d_Mod_single_36 rfl ?_
              refine r_ldc (nI 2000000) d_Mod_single_37 k_Mod_190 ?_
              refine r_icmp2 48 (x3 ≤ (nI 2000000)) d_Mod_single_39 (by decide) rfl (fun c13 => ?_) (fun c13 => ?_)
              · have h := h.1 c13
                refine r_aload_n d_Mod_single_48 rfl ?_
                refine r_getI d_Mod_single_49 f_Mod_181 kd_153 rfl ?_
                refine r_iload_n d_Mod_single_52 rfl ?_
                refine r_iadd d_Mod_single_53 ?_
                refine r_ldc (nI 4000000) d_Mod_single_54 k_Mod_191 ?_
                refine r_icmp2 65 (((σ.1 153 17) + x3) ≤ (nI 4000000)) d_Mod_single_56 (by decide) rfl (fun c14 => ?_) (fun c14 => ?_)
                · have h := h.1 c14
                  refine r_aload_n d_Mod_single_65 rfl ?_
                  refine r_iload_n d_Mod_single_66 rfl ?_
                  refine r_putI d_Mod_single_67 f_Mod_168 kd_153 rfl ?_
                  refine r_aload_n d_Mod_single_70 rfl ?_
                  refine r_iload_n d_Mod_single_71 rfl ?_
                  refine r_putI d_Mod_single_72 f_Mod_171 kd_153 rfl ?_
                  refine r_aload_n d_Mod_single_75 rfl ?_
                  refine r_iconst (nI 0) d_Mod_single_76 (by decide) ?_
                  refine r_putI d_Mod_single_77 f_Mod_184 kd_153 rfl ?_
                  refine r_aload_n d_Mod_single_80 rfl ?_
                  refine r_iload_n d_Mod_single_81 rfl ?_
                  refine r_virtI [.int x3] [] d_Mod_single_82 v_Mod_192 rfl rfl cn_153 rfl (t_Mod_search h) (fun r15 τ15 h => ?_)
                  exact r_iret d_Mod_single_85 h
                · have h := h.2 c14
                  refine r_aload_n d_Mod_single_59 rfl ?_
                  refine r_iconst (nI 4) d_Mod_single_60 (by decide) ?_
                  refine r_virtI [.int (nI 4)] [] d_Mod_single_61 v_Mod_75 rfl rfl cn_153 rfl (t_Mod_no h) (fun r16 τ16 h => ?_)
                  exact r_iret d_Mod_single_64 h
              · have h := h.2 c13
                refine r_aload_n d_Mod_single_42 rfl ?_
                refine r_iconst (nI 1) d_Mod_single_43 (by decide) ?_
                refine r_virtI [.int (nI 1)] [] d_Mod_single_44 v_Mod_75 rfl rfl cn_153 rfl (t_Mod_no h) (fun r17 τ17 h => ?_)
                exact r_iret d_Mod_single_47 h
def w_Mod_go (x1 : Int32) (σ : am_S) (K : Int32 → am_S → Prop) : Prop := (am_ite (x1 < (nI 0)) (w_Mod_no (nI 1) (am_upI σ 153 18 (nI 0)) (fun r2 τ2 => K r2 τ2)) (am_ite (x1 ≤ (nI 2000000)) (am_ite (¬ (σ.1 153 14) = (nI 0)) (am_ite (((σ.1 153 17) + x1) ≤ (nI 4000000)) (w_Mod_search x1 (am_upI σ 153 18 (nI 0)) (fun r6 τ6 => K r6 τ6)) (w_Mod_no (nI 4) (am_upI σ 153 18 (nI 0)) (fun r7 τ7 => K r7 τ7))) (w_Mod_no (nI 2) (am_upI σ 153 18 (nI 0)) (fun r8 τ8 => K r8 τ8))) (w_Mod_no (nI 1) (am_upI σ 153 18 (nI 0)) (fun r9 τ9 => K r9 τ9))))
theorem t_Mod_go {d : Nat} {x1 : Int32}  {σ : am_S} {K : Int32 → am_S → Prop} (h : w_Mod_go x1 σ K) : am_run (d + 5) y_Mod_go [.ref 153, .int x1] σ (am_Ri K) := by
  unfold w_Mod_go at h
  refine am_begin (vs := [.ref 153, .int x1]) c_Mod_go (by decide +kernel) rfl rfl rfl rfl ?_
  refine r_aload_n d_Mod_go_0 rfl ?_
  refine r_iconst (nI 0) d_Mod_go_1 (by decide) ?_
  refine r_putI d_Mod_go_2 f_Mod_62 kd_153 rfl ?_
  refine r_iload_n d_Mod_go_5 rfl ?_
  refine r_if2 15 (x1 < (nI 0)) d_Mod_go_6 (by decide) rfl (fun c1 => ?_) (fun c1 => ?_)
  · have h := h.1 c1
    refine r_aload_n d_Mod_go_15 rfl ?_
    refine r_iconst (nI 1) d_Mod_go_16 (by decide) ?_
    refine r_virtI [.int (nI 1)] [] d_Mod_go_17 v_Mod_75 rfl rfl cn_153 rfl (t_Mod_no h) (fun r2 τ2 h => ?_)
    exact r_iret d_Mod_go_20 h
  · have h := h.2 c1
    refine r_iload_n d_Mod_go_9 rfl ?_
    refine r_ldc (nI 2000000) d_Mod_go_10 k_Mod_190 ?_
    refine r_icmp2 21 (x1 ≤ (nI 2000000)) d_Mod_go_12 (by decide) rfl (fun c3 => ?_) (fun c3 => ?_)
    · have h := h.1 c3
      refine r_aload_n d_Mod_go_21 rfl ?_
      refine r_getI d_Mod_go_22 f_Mod_168 kd_153 rfl ?_
      refine r_if2 34 (¬ (σ.1 153 14) = (nI 0)) d_Mod_go_25 (by decide) rfl (fun c4 => ?_) (fun c4 => ?_)
      · have h := h.1 c4
        refine r_aload_n d_Mod_go_34 rfl ?_
        refine r_getI d_Mod_go_35 f_Mod_181 kd_153 rfl ?_
        refine r_iload_n d_Mod_go_38 rfl ?_
        refine r_iadd d_Mod_go_39 ?_
        refine r_ldc (nI 4000000) d_Mod_go_40 k_Mod_191 ?_
        refine r_icmp2 51 (((σ.1 153 17) + x1) ≤ (nI 4000000)) d_Mod_go_42 (by decide) rfl (fun c5 => ?_) (fun c5 => ?_)
        · have h := h.1 c5
          refine r_aload_n d_Mod_go_51 rfl ?_
          refine r_iload_n d_Mod_go_52 rfl ?_
          refine r_virtI [.int x1] [] d_Mod_go_53 v_Mod_192 rfl rfl cn_153 rfl (t_Mod_search h) (fun r6 τ6 h => ?_)
          exact r_iret d_Mod_go_56 h
        · have h := h.2 c5
          refine r_aload_n d_Mod_go_45 rfl ?_
          refine r_iconst (nI 4) d_Mod_go_46 (by decide) ?_
          refine r_virtI [.int (nI 4)] [] d_Mod_go_47 v_Mod_75 rfl rfl cn_153 rfl (t_Mod_no h) (fun r7 τ7 h => ?_)
          exact r_iret d_Mod_go_50 h
      · have h := h.2 c4
        refine r_aload_n d_Mod_go_28 rfl ?_
        refine r_iconst (nI 2) d_Mod_go_29 (by decide) ?_
        refine r_virtI [.int (nI 2)] [] d_Mod_go_30 v_Mod_75 rfl rfl cn_153 rfl (t_Mod_no h) (fun r8 τ8 h => ?_)
        exact r_iret d_Mod_go_33 h
    · have h := h.2 c3
      refine r_aload_n d_Mod_go_15 rfl ?_
      refine r_iconst (nI 1) d_Mod_go_16 (by decide) ?_
      refine r_virtI [.int (nI 1)] [] d_Mod_go_17 v_Mod_75 rfl rfl cn_153 rfl (t_Mod_no h) (fun r9 τ9 h => ?_)
      exact r_iret d_Mod_go_20 h
def w_Mod_drive (x1 : Int32) (σ : am_S) (K : Int32 → am_S → Prop) : Prop := (am_ite (¬ (σ.1 153 11) = (nI 2000)) (vp_in (σ.1 153 11) 2000 ∧ K ((σ.1 153 11) + (nI 1)) (am_upI (am_upI (am_upI σ 153 18 (nI 0)) 159 (Int32.toNatClampNeg (σ.1 153 11)) x1) 153 11 ((σ.1 153 11) + (nI 1)))) (w_Mod_no (nI 4) (am_upI σ 153 18 (nI 0)) (fun r2 τ2 => K r2 τ2)))
theorem t_Mod_drive {d : Nat} {x1 : Int32}  {σ : am_S} {K : Int32 → am_S → Prop} (h : w_Mod_drive x1 σ K) : am_run (d + 2) y_Mod_drive [.ref 153, .int x1] σ (am_Ri K) := by
  unfold w_Mod_drive at h
  refine am_begin (vs := [.ref 153, .int x1]) c_Mod_drive (by decide +kernel) rfl rfl rfl rfl ?_
  refine r_aload_n d_Mod_drive_0 rfl ?_
  refine r_iconst (nI 0) d_Mod_drive_1 (by decide) ?_
  refine r_putI d_Mod_drive_2 f_Mod_62 kd_153 rfl ?_
  refine r_aload_n d_Mod_drive_5 rfl ?_
  refine r_getI d_Mod_drive_6 f_Mod_127 kd_153 rfl ?_
  refine r_sipush (nI 2000) d_Mod_drive_9 (by decide) ?_
  refine r_icmp2 21 (¬ (σ.1 153 11) = (nI 2000)) d_Mod_drive_12 (by decide) rfl (fun c1 => ?_) (fun c1 => ?_)
  · have h := h.1 c1
    refine r_aload_n d_Mod_drive_21 rfl ?_
    refine r_getR d_Mod_drive_22 f_Mod_32 kd_153 rfl lk_153_10 ?_
    refine r_aload_n d_Mod_drive_25 rfl ?_
    refine r_getI d_Mod_drive_26 f_Mod_127 kd_153 rfl ?_
    refine r_iload_n d_Mod_drive_29 rfl ?_
    refine r_iast d_Mod_drive_30 ce_159 ⟨h.1, ?_⟩
    have h := h.2
    refine r_aload_n d_Mod_drive_31 rfl ?_
    refine r_dup d_Mod_drive_32 rfl ?_
    refine r_getI d_Mod_drive_33 f_Mod_127 kd_153 rfl ?_
    refine r_iconst (nI 1) d_Mod_drive_36 (by decide) ?_
    refine r_iadd d_Mod_drive_37 ?_
    refine r_putI d_Mod_drive_38 f_Mod_127 kd_153 rfl ?_
    refine r_aload_n d_Mod_drive_41 rfl ?_
    refine r_getI d_Mod_drive_42 f_Mod_127 kd_153 rfl ?_
    exact r_iret d_Mod_drive_45 h
  · have h := h.2 c1
    refine r_aload_n d_Mod_drive_15 rfl ?_
    refine r_iconst (nI 4) d_Mod_drive_16 (by decide) ?_
    refine r_virtI [.int (nI 4)] [] d_Mod_drive_17 v_Mod_75 rfl rfl cn_153 rfl (t_Mod_no h) (fun r2 τ2 h => ?_)
    exact r_iret d_Mod_drive_20 h
def w_Mod_halt  (σ : am_S) (K : Int32 → am_S → Prop) : Prop := K (σ.1 153 11) (am_upI (am_upI σ 153 18 (nI 0)) 153 11 (nI 0))
theorem t_Mod_halt {d : Nat}   {σ : am_S} {K : Int32 → am_S → Prop} (h : w_Mod_halt  σ K) : am_run (d + 1) y_Mod_halt [.ref 153] σ (am_Ri K) := by
  unfold w_Mod_halt at h
  refine am_begin (vs := [.ref 153, .null]) c_Mod_halt (by decide +kernel) rfl rfl rfl rfl ?_
  refine r_aload_n d_Mod_halt_0 rfl ?_
  refine r_iconst (nI 0) d_Mod_halt_1 (by decide) ?_
  refine r_putI d_Mod_halt_2 f_Mod_62 kd_153 rfl ?_
  refine r_aload_n d_Mod_halt_5 rfl ?_
  refine r_getI d_Mod_halt_6 f_Mod_127 kd_153 rfl ?_
  refine r_istore_n (vs' := [.ref 153, .int (σ.1 153 11)]) d_Mod_halt_9 rfl rfl ?_
  refine r_aload_n d_Mod_halt_10 rfl ?_
  refine r_iconst (nI 0) d_Mod_halt_11 (by decide) ?_
  refine r_putI d_Mod_halt_12 f_Mod_127 kd_153 rfl ?_
  refine r_iload_n d_Mod_halt_15 rfl ?_
  exact r_iret d_Mod_halt_16 h
abbrev R_Mod_follow (d : Nat) (K : Int32 → am_S → Prop) (pc : Nat) (vs st : List Value) (σ : am_S) : Prop := am_r (am_run (d + 4)) "WheelDiscModel" (some .int) prog_13_method_57_code (am_Ri K) pc vs st σ
def w_Mod_follow (x1 : Int32) (σ : am_S) (K : Int32 → am_S → Prop) : Prop := ∀ d : Nat, am_run (d + 5) y_Mod_follow [.ref 153, .int x1] σ (am_Ri K)
theorem t_Mod_follow {d : Nat} {x1 : Int32}  {σ : am_S} {K : Int32 → am_S → Prop} (h : w_Mod_follow x1 σ K) : am_run (d + 5) y_Mod_follow [.ref 153, .int x1] σ (am_Ri K) := h d
theorem e_Mod_follow {x1 : Int32}  {σ : am_S} {K : Int32 → am_S → Prop} (h : ∀ d : Nat, (w_Mod_read  σ (fun τ1 => R_Mod_follow d K 13 [.ref 153, .int x1, .int (nI 0), .int (nI 0), .null, .null] [] (am_upI τ1 153 30 (-1))))) : w_Mod_follow x1 σ K := by
  intro d
  have h := h d
  refine am_begin (vs := [.ref 153, .int x1, .null, .null, .null, .null]) c_Mod_follow (by decide +kernel) rfl rfl rfl rfl ?_
  refine r_aload_n d_Mod_follow_0 rfl ?_
  refine r_virtV [] [] d_Mod_follow_1 v_Mod_109 rfl rfl cn_153 rfl (t_Mod_read h) (fun τ1 h => ?_)
  refine r_aload_n d_Mod_follow_4 rfl ?_
  refine r_iconst (-1) d_Mod_follow_5 (by decide) ?_
  refine r_putI d_Mod_follow_6 f_Mod_195 kd_153 rfl ?_
  refine r_iconst (nI 0) d_Mod_follow_9 (by decide) ?_
  refine r_istore_n (vs' := [.ref 153, .int x1, .int (nI 0), .null, .null, .null]) d_Mod_follow_10 rfl rfl ?_
  refine r_iconst (nI 0) d_Mod_follow_11 (by decide) ?_
  refine r_istore_n (vs' := [.ref 153, .int x1, .int (nI 0), .int (nI 0), .null, .null]) d_Mod_follow_12 rfl rfl ?_
  exact h
theorem l_Mod_follow_13 {d : Nat}  {x1 : Int32} {x2 : Int32} {x3 : Int32}  {σ : am_S} {K : Int32 → am_S → Prop} (h : (am_ite (x1 < x3) (K x2 σ) (R_Mod_follow d K 23 [.ref 153, .int x1, .int (nI 0), .int x3, .int (nI 0), .null] [] σ))) : R_Mod_follow d K 13 [.ref 153, .int x1, .int x2, .int x3, .null, .null] [] σ := by
  refine r_iload_n d_Mod_follow_13 rfl ?_
  refine r_iload_n d_Mod_follow_14 rfl ?_
  refine r_icmp2 204 (x1 < x3) d_Mod_follow_15 (by decide) rfl (fun c2 => ?_) (fun c2 => ?_)
  · have h := h.1 c2
    refine r_iload_n d_Mod_follow_204 rfl ?_
    exact r_iret d_Mod_follow_205 h
  · have h := h.2 c2
    refine r_iconst (nI 0) d_Mod_follow_18 (by decide) ?_
    refine r_istore_n (vs' := [.ref 153, .int x1, .int (nI 0), .int x3, .null, .null]) d_Mod_follow_19 rfl rfl ?_
    refine r_iconst (nI 0) d_Mod_follow_20 (by decide) ?_
    refine r_istore (vs' := [.ref 153, .int x1, .int (nI 0), .int x3, .int (nI 0), .null]) d_Mod_follow_21 rfl rfl ?_
    exact h
theorem l_Mod_follow_23 {d : Nat}  {x1 : Int32} {x2 : Int32} {x3 : Int32} {x4 : Int32}  {σ : am_S} {K : Int32 → am_S → Prop} (h : (w_Mod_n  σ (fun r3 τ3 => (am_ite (r3 ≤ x4) (R_Mod_follow d K 152 [.ref 153, .int x1, .int x2, .int x3, .int (nI 0), .null] [] τ3) (am_ite (x3 = (nI 0)) (vp_in x4 512 ∧ (vp_in x3 2000 ∧ (am_ite (¬ (τ3.1 161 (Int32.toNatClampNeg x4)) = (τ3.1 159 (Int32.toNatClampNeg x3))) (vp_in x4 512 ∧ (vp_in x4 512 ∧ (am_ite (((am_upI τ3 166 (Int32.toNatClampNeg x4) (nI 0)).1 166 (Int32.toNatClampNeg x4)) = (nI 0)) (R_Mod_follow d K 23 [.ref 153, .int x1, .int (x2 + (nI 0)), .int x3, .int (x4 + nI 1), .null] [] (am_upI τ3 166 (Int32.toNatClampNeg x4) (nI 0))) (R_Mod_follow d K 23 [.ref 153, .int x1, .int (x2 + (nI 1)), .int x3, .int (x4 + nI 1), .null] [] (am_upI τ3 166 (Int32.toNatClampNeg x4) (nI 0)))))) (vp_in x4 512 ∧ (vp_in x4 512 ∧ (am_ite (((am_upI τ3 166 (Int32.toNatClampNeg x4) (nI 1)).1 166 (Int32.toNatClampNeg x4)) = (nI 0)) (R_Mod_follow d K 23 [.ref 153, .int x1, .int (x2 + (nI 0)), .int x3, .int (x4 + nI 1), .null] [] (am_upI τ3 166 (Int32.toNatClampNeg x4) (nI 1))) (R_Mod_follow d K 23 [.ref 153, .int x1, .int (x2 + (nI 1)), .int x3, .int (x4 + nI 1), .null] [] (am_upI τ3 166 (Int32.toNatClampNeg x4) (nI 1))))))))) (vp_in x4 512 ∧ (am_ite (¬ (τ3.1 165 (Int32.toNatClampNeg x4)) = (nI 0)) (vp_in x4 512 ∧ (vp_in x3 2000 ∧ (am_ite (¬ (τ3.1 161 (Int32.toNatClampNeg x4)) = (τ3.1 159 (Int32.toNatClampNeg x3))) (vp_in x4 512 ∧ (vp_in x4 512 ∧ (am_ite (((am_upI τ3 166 (Int32.toNatClampNeg x4) (nI 0)).1 166 (Int32.toNatClampNeg x4)) = (nI 0)) (R_Mod_follow d K 23 [.ref 153, .int x1, .int (x2 + (nI 0)), .int x3, .int (x4 + nI 1), .null] [] (am_upI τ3 166 (Int32.toNatClampNeg x4) (nI 0))) (R_Mod_follow d K 23 [.ref 153, .int x1, .int (x2 + (nI 1)), .int x3, .int (x4 + nI 1), .null] [] (am_upI τ3 166 (Int32.toNatClampNeg x4) (nI 0)))))) (vp_in x4 512 ∧ (vp_in x4 512 ∧ (am_ite (((am_upI τ3 166 (Int32.toNatClampNeg x4) (nI 1)).1 166 (Int32.toNatClampNeg x4)) = (nI 0)) (R_Mod_follow d K 23 [.ref 153, .int x1, .int (x2 + (nI 0)), .int x3, .int (x4 + nI 1), .null] [] (am_upI τ3 166 (Int32.toNatClampNeg x4) (nI 1))) (R_Mod_follow d K 23 [.ref 153, .int x1, .int (x2 + (nI 1)), .int x3, .int (x4 + nI 1), .null] [] (am_upI τ3 166 (Int32.toNatClampNeg x4) (nI 1))))))))) (w_Mod_n  τ3 (fun r15 τ15 => (¬ r15 = nI 0 ∧ (vp_in ((x4 + (nI 1)) - (x4 + (nI 1)) / r15 * r15) 512 ∧ (am_ite (¬ (τ15.1 165 (Int32.toNatClampNeg ((x4 + (nI 1)) - (x4 + (nI 1)) / r15 * r15))) = (nI 0)) (vp_in x4 512 ∧ (vp_in x3 2000 ∧ (am_ite (¬ (τ15.1 161 (Int32.toNatClampNeg x4)) = (τ15.1 159 (Int32.toNatClampNeg x3))) (vp_in x4 512 ∧ (vp_in x4 512 ∧ (am_ite (((am_upI τ15 166 (Int32.toNatClampNeg x4) (nI 0)).1 166 (Int32.toNatClampNeg x4)) = (nI 0)) (R_Mod_follow d K 23 [.ref 153, .int x1, .int (x2 + (nI 0)), .int x3, .int (x4 + nI 1), .null] [] (am_upI τ15 166 (Int32.toNatClampNeg x4) (nI 0))) (R_Mod_follow d K 23 [.ref 153, .int x1, .int (x2 + (nI 1)), .int x3, .int (x4 + nI 1), .null] [] (am_upI τ15 166 (Int32.toNatClampNeg x4) (nI 0)))))) (vp_in x4 512 ∧ (vp_in x4 512 ∧ (am_ite (((am_upI τ15 166 (Int32.toNatClampNeg x4) (nI 1)).1 166 (Int32.toNatClampNeg x4)) = (nI 0)) (R_Mod_follow d K 23 [.ref 153, .int x1, .int (x2 + (nI 0)), .int x3, .int (x4 + nI 1), .null] [] (am_upI τ15 166 (Int32.toNatClampNeg x4) (nI 1))) (R_Mod_follow d K 23 [.ref 153, .int x1, .int (x2 + (nI 1)), .int x3, .int (x4 + nI 1), .null] [] (am_upI τ15 166 (Int32.toNatClampNeg x4) (nI 1))))))))) (w_Mod_n  τ15 (fun r21 τ21 => (w_Mod_n  τ21 (fun r22 τ22 => (¬ r22 = nI 0 ∧ (vp_in (((x4 + r21) - (nI 1)) - ((x4 + r21) - (nI 1)) / r22 * r22) 512 ∧ (am_ite ((τ22.1 165 (Int32.toNatClampNeg (((x4 + r21) - (nI 1)) - ((x4 + r21) - (nI 1)) / r22 * r22))) = (nI 0)) (vp_in x4 512 ∧ (vp_in x4 512 ∧ (am_ite (((am_upI τ22 166 (Int32.toNatClampNeg x4) (nI 0)).1 166 (Int32.toNatClampNeg x4)) = (nI 0)) (R_Mod_follow d K 23 [.ref 153, .int x1, .int (x2 + (nI 0)), .int x3, .int (x4 + nI 1), .null] [] (am_upI τ22 166 (Int32.toNatClampNeg x4) (nI 0))) (R_Mod_follow d K 23 [.ref 153, .int x1, .int (x2 + (nI 1)), .int x3, .int (x4 + nI 1), .null] [] (am_upI τ22 166 (Int32.toNatClampNeg x4) (nI 0)))))) (vp_in x4 512 ∧ (vp_in x3 2000 ∧ (am_ite (¬ (τ22.1 161 (Int32.toNatClampNeg x4)) = (τ22.1 159 (Int32.toNatClampNeg x3))) (vp_in x4 512 ∧ (vp_in x4 512 ∧ (am_ite (((am_upI τ22 166 (Int32.toNatClampNeg x4) (nI 0)).1 166 (Int32.toNatClampNeg x4)) = (nI 0)) (R_Mod_follow d K 23 [.ref 153, .int x1, .int (x2 + (nI 0)), .int x3, .int (x4 + nI 1), .null] [] (am_upI τ22 166 (Int32.toNatClampNeg x4) (nI 0))) (R_Mod_follow d K 23 [.ref 153, .int x1, .int (x2 + (nI 1)), .int x3, .int (x4 + nI 1), .null] [] (am_upI τ22 166 (Int32.toNatClampNeg x4) (nI 0)))))) (vp_in x4 512 ∧ (vp_in x4 512 ∧ (am_ite (((am_upI τ22 166 (Int32.toNatClampNeg x4) (nI 1)).1 166 (Int32.toNatClampNeg x4)) = (nI 0)) (R_Mod_follow d K 23 [.ref 153, .int x1, .int (x2 + (nI 0)), .int x3, .int (x4 + nI 1), .null] [] (am_upI τ22 166 (Int32.toNatClampNeg x4) (nI 1))) (R_Mod_follow d K 23 [.ref 153, .int x1, .int (x2 + (nI 1)), .int x3, .int (x4 + nI 1), .null] [] (am_upI τ22 166 (Int32.toNatClampNeg x4) (nI 1)))))))))))))))))))))))))))) : R_Mod_follow d K 23 [.ref 153, .int x1, .int x2, .int x3, .int x4, .null] [] σ := by
  refine r_iload d_Mod_follow_23 rfl ?_
  refine r_aload_n d_Mod_follow_25 rfl ?_
  refine r_virtI [] [.int x4] d_Mod_follow_26 v_Mod_93 rfl rfl cn_153 rfl (t_Mod_n h) (fun r3 τ3 h => ?_)
  refine r_icmp2 149 (r3 ≤ x4) d_Mod_follow_29 (by decide) rfl (fun c4 => ?_) (fun c4 => ?_)
  · have h := h.1 c4
    refine r_iconst (nI 0) d_Mod_follow_149 (by decide) ?_
    refine r_istore (vs' := [.ref 153, .int x1, .int x2, .int x3, .int (nI 0), .null]) d_Mod_follow_150 rfl rfl ?_
    exact h
  · have h := h.2 c4
    refine r_iload_n d_Mod_follow_32 rfl ?_
    refine r_if2 85 (x3 = (nI 0)) d_Mod_follow_33 (by decide) rfl (fun c5 => ?_) (fun c5 => ?_)
    · have h := h.1 c5
      refine r_iconst (nI 1) d_Mod_follow_85 (by decide) ?_
      refine r_goto 90 d_Mod_follow_86 (by decide) ?_
      refine r_istore (vs' := [.ref 153, .int x1, .int x2, .int x3, .int x4, .int (nI 1)]) d_Mod_follow_90 rfl rfl ?_
      refine r_aload_n d_Mod_follow_92 rfl ?_
      refine r_getR d_Mod_follow_93 f_Mod_53 kd_153 rfl lk_153_24 ?_
      refine r_iload d_Mod_follow_96 rfl ?_
      refine r_iload d_Mod_follow_98 rfl ?_
      refine r_if2 123 ((nI 1) = (nI 0)) d_Mod_follow_100 (by decide) rfl (fun c => absurd c (by decide)) (fun _ => ?_)
      refine r_aload_n d_Mod_follow_103 rfl ?_
      refine r_getR d_Mod_follow_104 f_Mod_38 kd_153 rfl lk_153_19 ?_
      refine r_iload d_Mod_follow_107 rfl ?_
      refine r_iald d_Mod_follow_109 ce_161 ⟨h.1, ?_⟩
      have h := h.2
      refine r_aload_n d_Mod_follow_110 rfl ?_
      refine r_getR d_Mod_follow_111 f_Mod_32 kd_153 rfl lk_153_10 ?_
      refine r_iload_n d_Mod_follow_114 rfl ?_
      refine r_iald d_Mod_follow_115 ce_159 ⟨h.1, ?_⟩
      have h := h.2
      refine r_icmp2 123 (¬ (τ3.1 161 (Int32.toNatClampNeg x4)) = (τ3.1 159 (Int32.toNatClampNeg x3))) d_Mod_follow_116 (by decide) rfl (fun c7 => ?_) (fun c7 => ?_)
      · have h := h.1 c7
        refine r_iconst (nI 0) d_Mod_follow_123 (by decide) ?_
        refine r_zast d_Mod_follow_124 ce_166 ⟨h.1, Or.inl rfl, ?_⟩
        have h := h.2
        refine r_iload_n d_Mod_follow_125 rfl ?_
        refine r_aload_n d_Mod_follow_126 rfl ?_
        refine r_getR d_Mod_follow_127 f_Mod_53 kd_153 rfl lk_153_24 ?_
        refine r_iload d_Mod_follow_130 rfl ?_
        refine r_zald d_Mod_follow_132 ce_166 ⟨h.1, ?_⟩
        have h := h.2
        refine r_if2 140 (((am_upI τ3 166 (Int32.toNatClampNeg x4) (nI 0)).1 166 (Int32.toNatClampNeg x4)) = (nI 0)) d_Mod_follow_133 (by decide) rfl (fun c8 => ?_) (fun c8 => ?_)
        · have h := h.1 c8
          refine r_iconst (nI 0) d_Mod_follow_140 (by decide) ?_
          refine r_iadd d_Mod_follow_141 ?_
          refine r_istore_n (vs' := [.ref 153, .int x1, .int (x2 + (nI 0)), .int x3, .int x4, .int (nI 1)]) d_Mod_follow_142 rfl rfl ?_
          refine r_inc1 (vs' := [.ref 153, .int x1, .int (x2 + (nI 0)), .int x3, .int (x4 + nI 1), .int (nI 1)]) d_Mod_follow_143 rfl rfl rfl ?_
          refine r_goto 23 d_Mod_follow_146 (by decide) ?_
          exact am_weak (vs := [.ref 153, .int x1, .int (x2 + (nI 0)), .int x3, .int (x4 + nI 1), .null]) ⟨Or.inl rfl, Or.inl rfl, Or.inl rfl, Or.inl rfl, Or.inl rfl, Or.inr ⟨rfl, rfl⟩, trivial⟩ h
        · have h := h.2 c8
          refine r_iconst (nI 1) d_Mod_follow_136 (by decide) ?_
          refine r_goto 141 d_Mod_follow_137 (by decide) ?_
          refine r_iadd d_Mod_follow_141 ?_
          refine r_istore_n (vs' := [.ref 153, .int x1, .int (x2 + (nI 1)), .int x3, .int x4, .int (nI 1)]) d_Mod_follow_142 rfl rfl ?_
          refine r_inc1 (vs' := [.ref 153, .int x1, .int (x2 + (nI 1)), .int x3, .int (x4 + nI 1), .int (nI 1)]) d_Mod_follow_143 rfl rfl rfl ?_
          refine r_goto 23 d_Mod_follow_146 (by decide) ?_
          exact am_weak (vs := [.ref 153, .int x1, .int (x2 + (nI 1)), .int x3, .int (x4 + nI 1), .null]) ⟨Or.inl rfl, Or.inl rfl, Or.inl rfl, Or.inl rfl, Or.inl rfl, Or.inr ⟨rfl, rfl⟩, trivial⟩ h
      · have h := h.2 c7
        refine r_iconst (nI 1) d_Mod_follow_119 (by decide) ?_
        refine r_goto 124 d_Mod_follow_120 (by decide) ?_
        refine r_zast d_Mod_follow_124 ce_166 ⟨h.1, Or.inr rfl, ?_⟩
        have h := h.2
        refine r_iload_n d_Mod_follow_125 rfl ?_
        refine r_aload_n d_Mod_follow_126 rfl ?_
        refine r_getR d_Mod_follow_127 f_Mod_53 kd_153 rfl lk_153_24 ?_
        refine r_iload d_Mod_follow_130 rfl ?_
        refine r_zald d_Mod_follow_132 ce_166 ⟨h.1, ?_⟩
        have h := h.2
        refine r_if2 140 (((am_upI τ3 166 (Int32.toNatClampNeg x4) (nI 1)).1 166 (Int32.toNatClampNeg x4)) = (nI 0)) d_Mod_follow_133 (by decide) rfl (fun c9 => ?_) (fun c9 => ?_)
        · have h := h.1 c9
          refine r_iconst (nI 0) d_Mod_follow_140 (by decide) ?_
          refine r_iadd d_Mod_follow_141 ?_
          refine r_istore_n (vs' := [.ref 153, .int x1, .int (x2 + (nI 0)), .int x3, .int x4, .int (nI 1)]) d_Mod_follow_142 rfl rfl ?_
          refine r_inc1 (vs' := [.ref 153, .int x1, .int (x2 + (nI 0)), .int x3, .int (x4 + nI 1), .int (nI 1)]) d_Mod_follow_143 rfl rfl rfl ?_
          refine r_goto 23 d_Mod_follow_146 (by decide) ?_
          exact am_weak (vs := [.ref 153, .int x1, .int (x2 + (nI 0)), .int x3, .int (x4 + nI 1), .null]) ⟨Or.inl rfl, Or.inl rfl, Or.inl rfl, Or.inl rfl, Or.inl rfl, Or.inr ⟨rfl, rfl⟩, trivial⟩ h
        · have h := h.2 c9
          refine r_iconst (nI 1) d_Mod_follow_136 (by decide) ?_
          refine r_goto 141 d_Mod_follow_137 (by decide) ?_
          refine r_iadd d_Mod_follow_141 ?_
          refine r_istore_n (vs' := [.ref 153, .int x1, .int (x2 + (nI 1)), .int x3, .int x4, .int (nI 1)]) d_Mod_follow_142 rfl rfl ?_
          refine r_inc1 (vs' := [.ref 153, .int x1, .int (x2 + (nI 1)), .int x3, .int (x4 + nI 1), .int (nI 1)]) d_Mod_follow_143 rfl rfl rfl ?_
          refine r_goto 23 d_Mod_follow_146 (by decide) ?_
          exact am_weak (vs := [.ref 153, .int x1, .int (x2 + (nI 1)), .int x3, .int (x4 + nI 1), .null]) ⟨Or.inl rfl, Or.inl rfl, Or.inl rfl, Or.inl rfl, Or.inl rfl, Or.inr ⟨rfl, rfl⟩, trivial⟩ h
    · have h := h.2 c5
      refine r_aload_n d_Mod_follow_36 rfl ?_
      refine r_getR d_Mod_follow_37 f_Mod_50 kd_153 rfl lk_153_23 ?_
      refine r_iload d_Mod_follow_40 rfl ?_
      refine r_zald d_Mod_follow_42 ce_165 ⟨h.1, ?_⟩
      have h := h.2
      refine r_if2 85 (¬ (τ3.1 165 (Int32.toNatClampNeg x4)) = (nI 0)) d_Mod_follow_43 (by decide) rfl (fun c10 => ?_) (fun c10 => ?_)
      · have h := h.1 c10
        refine r_iconst (nI 1) d_Mod_follow_85 (by decide) ?_
        refine r_goto 90 d_Mod_follow_86 (by decide) ?_
        refine r_istore (vs' := [.ref 153, .int x1, .int x2, .int x3, .int x4, .int (nI 1)]) d_Mod_follow_90 rfl rfl ?_
        refine r_aload_n d_Mod_follow_92 rfl ?_
        refine r_getR d_Mod_follow_93 f_Mod_53 kd_153 rfl lk_153_24 ?_
        refine r_iload d_Mod_follow_96 rfl ?_
        refine r_iload d_Mod_follow_98 rfl ?_
        refine r_if2 123 ((nI 1) = (nI 0)) d_Mod_follow_100 (by decide) rfl (fun c => absurd c (by decide)) (fun _ => ?_)
        refine r_aload_n d_Mod_follow_103 rfl ?_
        refine r_getR d_Mod_follow_104 f_Mod_38 kd_153 rfl lk_153_19 ?_
        refine r_iload d_Mod_follow_107 rfl ?_
        refine r_iald d_Mod_follow_109 ce_161 ⟨h.1, ?_⟩
        have h := h.2
        refine r_aload_n d_Mod_follow_110 rfl ?_
        refine r_getR d_Mod_follow_111 f_Mod_32 kd_153 rfl lk_153_10 ?_
        refine r_iload_n d_Mod_follow_114 rfl ?_
        refine r_iald d_Mod_follow_115 ce_159 ⟨h.1, ?_⟩
        have h := h.2
        refine r_icmp2 123 (¬ (τ3.1 161 (Int32.toNatClampNeg x4)) = (τ3.1 159 (Int32.toNatClampNeg x3))) d_Mod_follow_116 (by decide) rfl (fun c12 => ?_) (fun c12 => ?_)
        · have h := h.1 c12
          refine r_iconst (nI 0) d_Mod_follow_123 (by decide) ?_
          refine r_zast d_Mod_follow_124 ce_166 ⟨h.1, Or.inl rfl, ?_⟩
          have h := h.2
          refine r_iload_n d_Mod_follow_125 rfl ?_
          refine r_aload_n d_Mod_follow_126 rfl ?_
          refine r_getR d_Mod_follow_127 f_Mod_53 kd_153 rfl lk_153_24 ?_
          refine r_iload d_Mod_follow_130 rfl ?_
          refine r_zald d_Mod_follow_132 ce_166 ⟨h.1, ?_⟩
          have h := h.2
          refine r_if2 140 (((am_upI τ3 166 (Int32.toNatClampNeg x4) (nI 0)).1 166 (Int32.toNatClampNeg x4)) = (nI 0)) d_Mod_follow_133 (by decide) rfl (fun c13 => ?_) (fun c13 => ?_)
          · have h := h.1 c13
            refine r_iconst (nI 0) d_Mod_follow_140 (by decide) ?_
            refine r_iadd d_Mod_follow_141 ?_
            refine r_istore_n (vs' := [.ref 153, .int x1, .int (x2 + (nI 0)), .int x3, .int x4, .int (nI 1)]) d_Mod_follow_142 rfl rfl ?_
            refine r_inc1 (vs' := [.ref 153, .int x1, .int (x2 + (nI 0)), .int x3, .int (x4 + nI 1), .int (nI 1)]) d_Mod_follow_143 rfl rfl rfl ?_
            refine r_goto 23 d_Mod_follow_146 (by decide) ?_
            exact am_weak (vs := [.ref 153, .int x1, .int (x2 + (nI 0)), .int x3, .int (x4 + nI 1), .null]) ⟨Or.inl rfl, Or.inl rfl, Or.inl rfl, Or.inl rfl, Or.inl rfl, Or.inr ⟨rfl, rfl⟩, trivial⟩ h
          · have h := h.2 c13
            refine r_iconst (nI 1) d_Mod_follow_136 (by decide) ?_
            refine r_goto 141 d_Mod_follow_137 (by decide) ?_
            refine r_iadd d_Mod_follow_141 ?_
            refine r_istore_n (vs' := [.ref 153, .int x1, .int (x2 + (nI 1)), .int x3, .int x4, .int (nI 1)]) d_Mod_follow_142 rfl rfl ?_
            refine r_inc1 (vs' := [.ref 153, .int x1, .int (x2 + (nI 1)), .int x3, .int (x4 + nI 1), .int (nI 1)]) d_Mod_follow_143 rfl rfl rfl ?_
            refine r_goto 23 d_Mod_follow_146 (by decide) ?_
            exact am_weak (vs := [.ref 153, .int x1, .int (x2 + (nI 1)), .int x3, .int (x4 + nI 1), .null]) ⟨Or.inl rfl, Or.inl rfl, Or.inl rfl, Or.inl rfl, Or.inl rfl, Or.inr ⟨rfl, rfl⟩, trivial⟩ h
        · have h := h.2 c12
          refine r_iconst (nI 1) d_Mod_follow_119 (by decide) ?_
          refine r_goto 124 d_Mod_follow_120 (by decide) ?_
          refine r_zast d_Mod_follow_124 ce_166 ⟨h.1, Or.inr rfl, ?_⟩
          have h := h.2
          refine r_iload_n d_Mod_follow_125 rfl ?_
          refine r_aload_n d_Mod_follow_126 rfl ?_
          refine r_getR d_Mod_follow_127 f_Mod_53 kd_153 rfl lk_153_24 ?_
          refine r_iload d_Mod_follow_130 rfl ?_
          refine r_zald d_Mod_follow_132 ce_166 ⟨h.1, ?_⟩
          have h := h.2
          refine r_if2 140 (((am_upI τ3 166 (Int32.toNatClampNeg x4) (nI 1)).1 166 (Int32.toNatClampNeg x4)) = (nI 0)) d_Mod_follow_133 (by decide) rfl (fun c14 => ?_) (fun c14 => ?_)
          · have h := h.1 c14
            refine r_iconst (nI 0) d_Mod_follow_140 (by decide) ?_
            refine r_iadd d_Mod_follow_141 ?_
            refine r_istore_n (vs' := [.ref 153, .int x1, .int (x2 + (nI 0)), .int x3, .int x4, .int (nI 1)]) d_Mod_follow_142 rfl rfl ?_
            refine r_inc1 (vs' := [.ref 153, .int x1, .int (x2 + (nI 0)), .int x3, .int (x4 + nI 1), .int (nI 1)]) d_Mod_follow_143 rfl rfl rfl ?_
            refine r_goto 23 d_Mod_follow_146 (by decide) ?_
            exact am_weak (vs := [.ref 153, .int x1, .int (x2 + (nI 0)), .int x3, .int (x4 + nI 1), .null]) ⟨Or.inl rfl, Or.inl rfl, Or.inl rfl, Or.inl rfl, Or.inl rfl, Or.inr ⟨rfl, rfl⟩, trivial⟩ h
          · have h := h.2 c14
            refine r_iconst (nI 1) d_Mod_follow_136 (by decide) ?_
            refine r_goto 141 d_Mod_follow_137 (by decide) ?_
            refine r_iadd d_Mod_follow_141 ?_
            refine r_istore_n (vs' := [.ref 153, .int x1, .int (x2 + (nI 1)), .int x3, .int x4, .int (nI 1)]) d_Mod_follow_142 rfl rfl ?_
            refine r_inc1 (vs' := [.ref 153, .int x1, .int (x2 + (nI 1)), .int x3, .int (x4 + nI 1), .int (nI 1)]) d_Mod_follow_143 rfl rfl rfl ?_
            refine r_goto 23 d_Mod_follow_146 (by decide) ?_
            exact am_weak (vs := [.ref 153, .int x1, .int (x2 + (nI 1)), .int x3, .int (x4 + nI 1), .null]) ⟨Or.inl rfl, Or.inl rfl, Or.inl rfl, Or.inl rfl, Or.inl rfl, Or.inr ⟨rfl, rfl⟩, trivial⟩ h
      · have h := h.2 c10
        refine r_aload_n d_Mod_follow_46 rfl ?_
        refine r_getR d_Mod_follow_47 f_Mod_50 kd_153 rfl lk_153_23 ?_
        refine r_iload d_Mod_follow_50 rfl ?_
        refine r_iconst (nI 1) d_Mod_follow_52 (by decide) ?_
        refine r_iadd d_Mod_follow_53 ?_
        refine r_aload_n d_Mod_follow_54 rfl ?_
        refine r_virtI [] [.int (x4 + (nI 1)), .ref 165] d_Mod_follow_55 v_Mod_93 rfl rfl cn_153 rfl (t_Mod_n h) (fun r15 τ15 h => ?_)
        refine r_irem d_Mod_follow_58 ⟨h.1, ?_⟩
        have h := h.2
        refine r_zald d_Mod_follow_59 ce_165 ⟨h.1, ?_⟩
        have h := h.2
        refine r_if2 85 (¬ (τ15.1 165 (Int32.toNatClampNeg ((x4 + (nI 1)) - (x4 + (nI 1)) / r15 * r15))) = (nI 0)) d_Mod_follow_60 (by decide) rfl (fun c16 => ?_) (fun c16 => ?_)
        · have h := h.1 c16
          refine r_iconst (nI 1) d_Mod_follow_85 (by decide) ?_
          refine r_goto 90 d_Mod_follow_86 (by decide) ?_
          refine r_istore (vs' := [.ref 153, .int x1, .int x2, .int x3, .int x4, .int (nI 1)]) d_Mod_follow_90 rfl rfl ?_
          refine r_aload_n d_Mod_follow_92 rfl ?_
          refine r_getR d_Mod_follow_93 f_Mod_53 kd_153 rfl lk_153_24 ?_
          refine r_iload d_Mod_follow_96 rfl ?_
          refine r_iload d_Mod_follow_98 rfl ?_
          refine r_if2 123 ((nI 1) = (nI 0)) d_Mod_follow_100 (by decide) rfl (fun c => absurd c (by decide)) (fun _ => ?_)
          refine r_aload_n d_Mod_follow_103 rfl ?_
          refine r_getR d_Mod_follow_104 f_Mod_38 kd_153 rfl lk_153_19 ?_
          refine r_iload d_Mod_follow_107 rfl ?_
          refine r_iald d_Mod_follow_109 ce_161 ⟨h.1, ?_⟩
          have h := h.2
          refine r_aload_n d_Mod_follow_110 rfl ?_
          refine r_getR d_Mod_follow_111 f_Mod_32 kd_153 rfl lk_153_10 ?_
          refine r_iload_n d_Mod_follow_114 rfl ?_
          refine r_iald d_Mod_follow_115 ce_159 ⟨h.1, ?_⟩
          have h := h.2
          refine r_icmp2 123 (¬ (τ15.1 161 (Int32.toNatClampNeg x4)) = (τ15.1 159 (Int32.toNatClampNeg x3))) d_Mod_follow_116 (by decide) rfl (fun c18 => ?_) (fun c18 => ?_)
          · have h := h.1 c18
            refine r_iconst (nI 0) d_Mod_follow_123 (by decide) ?_
            refine r_zast d_Mod_follow_124 ce_166 ⟨h.1, Or.inl rfl, ?_⟩
            have h := h.2
            refine r_iload_n d_Mod_follow_125 rfl ?_
            refine r_aload_n d_Mod_follow_126 rfl ?_
            refine r_getR d_Mod_follow_127 f_Mod_53 kd_153 rfl lk_153_24 ?_
            refine r_iload d_Mod_follow_130 rfl ?_
            refine r_zald d_Mod_follow_132 ce_166 ⟨h.1, ?_⟩
            have h := h.2
            refine r_if2 140 (((am_upI τ15 166 (Int32.toNatClampNeg x4) (nI 0)).1 166 (Int32.toNatClampNeg x4)) = (nI 0)) d_Mod_follow_133 (by decide) rfl (fun c19 => ?_) (fun c19 => ?_)
            · have h := h.1 c19
              refine r_iconst (nI 0) d_Mod_follow_140 (by decide) ?_
              refine r_iadd d_Mod_follow_141 ?_
              refine r_istore_n (vs' := [.ref 153, .int x1, .int (x2 + (nI 0)), .int x3, .int x4, .int (nI 1)]) d_Mod_follow_142 rfl rfl ?_
              refine r_inc1 (vs' := [.ref 153, .int x1, .int (x2 + (nI 0)), .int x3, .int (x4 + nI 1), .int (nI 1)]) d_Mod_follow_143 rfl rfl rfl ?_
              refine r_goto 23 d_Mod_follow_146 (by decide) ?_
              exact am_weak (vs := [.ref 153, .int x1, .int (x2 + (nI 0)), .int x3, .int (x4 + nI 1), .null]) ⟨Or.inl rfl, Or.inl rfl, Or.inl rfl, Or.inl rfl, Or.inl rfl, Or.inr ⟨rfl, rfl⟩, trivial⟩ h
            · have h := h.2 c19
              refine r_iconst (nI 1) d_Mod_follow_136 (by decide) ?_
              refine r_goto 141 d_Mod_follow_137 (by decide) ?_
              refine r_iadd d_Mod_follow_141 ?_
              refine r_istore_n (vs' := [.ref 153, .int x1, .int (x2 + (nI 1)), .int x3, .int x4, .int (nI 1)]) d_Mod_follow_142 rfl rfl ?_
              refine r_inc1 (vs' := [.ref 153, .int x1, .int (x2 + (nI 1)), .int x3, .int (x4 + nI 1), .int (nI 1)]) d_Mod_follow_143 rfl rfl rfl ?_
              refine r_goto 23 d_Mod_follow_146 (by decide) ?_
              exact am_weak (vs := [.ref 153, .int x1, .int (x2 + (nI 1)), .int x3, .int (x4 + nI 1), .null]) ⟨Or.inl rfl, Or.inl rfl, Or.inl rfl, Or.inl rfl, Or.inl rfl, Or.inr ⟨rfl, rfl⟩, trivial⟩ h
          · have h := h.2 c18
            refine r_iconst (nI 1) d_Mod_follow_119 (by decide) ?_
            refine r_goto 124 d_Mod_follow_120 (by decide) ?_
            refine r_zast d_Mod_follow_124 ce_166 ⟨h.1, Or.inr rfl, ?_⟩
            have h := h.2
            refine r_iload_n d_Mod_follow_125 rfl ?_
            refine r_aload_n d_Mod_follow_126 rfl ?_
            refine r_getR d_Mod_follow_127 f_Mod_53 kd_153 rfl lk_153_24 ?_
            refine r_iload d_Mod_follow_130 rfl ?_
            refine r_zald d_Mod_follow_132 ce_166 ⟨h.1, ?_⟩
            have h := h.2
            refine r_if2 140 (((am_upI τ15 166 (Int32.toNatClampNeg x4) (nI 1)).1 166 (Int32.toNatClampNeg x4)) = (nI 0)) d_Mod_follow_133 (by decide) rfl (fun c20 => ?_) (fun c20 => ?_)
            · have h := h.1 c20
              refine r_iconst (nI 0) d_Mod_follow_140 (by decide) ?_
              refine r_iadd d_Mod_follow_141 ?_
              refine r_istore_n (vs' := [.ref 153, .int x1, .int (x2 + (nI 0)), .int x3, .int x4, .int (nI 1)]) d_Mod_follow_142 rfl rfl ?_
              refine r_inc1 (vs' := [.ref 153, .int x1, .int (x2 + (nI 0)), .int x3, .int (x4 + nI 1), .int (nI 1)]) d_Mod_follow_143 rfl rfl rfl ?_
              refine r_goto 23 d_Mod_follow_146 (by decide) ?_
              exact am_weak (vs := [.ref 153, .int x1, .int (x2 + (nI 0)), .int x3, .int (x4 + nI 1), .null]) ⟨Or.inl rfl, Or.inl rfl, Or.inl rfl, Or.inl rfl, Or.inl rfl, Or.inr ⟨rfl, rfl⟩, trivial⟩ h
            · have h := h.2 c20
              refine r_iconst (nI 1) d_Mod_follow_136 (by decide) ?_
              refine r_goto 141 d_Mod_follow_137 (by decide) ?_
              refine r_iadd d_Mod_follow_141 ?_
              refine r_istore_n (vs' := [.ref 153, .int x1, .int (x2 + (nI 1)), .int x3, .int x4, .int (nI 1)]) d_Mod_follow_142 rfl rfl ?_
              refine r_inc1 (vs' := [.ref 153, .int x1, .int (x2 + (nI 1)), .int x3, .int (x4 + nI 1), .int (nI 1)]) d_Mod_follow_143 rfl rfl rfl ?_
              refine r_goto 23 d_Mod_follow_146 (by decide) ?_
              exact am_weak (vs := [.ref 153, .int x1, .int (x2 + (nI 1)), .int x3, .int (x4 + nI 1), .null]) ⟨Or.inl rfl, Or.inl rfl, Or.inl rfl, Or.inl rfl, Or.inl rfl, Or.inr ⟨rfl, rfl⟩, trivial⟩ h
        · have h := h.2 c16
          refine r_aload_n d_Mod_follow_63 rfl ?_
          refine r_getR d_Mod_follow_64 f_Mod_50 kd_153 rfl lk_153_23 ?_
          refine r_iload d_Mod_follow_67 rfl ?_
          refine r_aload_n d_Mod_follow_69 rfl ?_
          refine r_virtI [] [.int x4, .ref 165] d_Mod_follow_70 v_Mod_93 rfl rfl cn_153 rfl (t_Mod_n h) (fun r21 τ21 h => ?_)
          refine r_iadd d_Mod_follow_73 ?_
          refine r_iconst (nI 1) d_Mod_follow_74 (by decide) ?_
          refine r_isub d_Mod_follow_75 ?_
          refine r_aload_n d_Mod_follow_76 rfl ?_
          refine r_virtI [] [.int ((x4 + r21) - (nI 1)), .ref 165] d_Mod_follow_77 v_Mod_93 rfl rfl cn_153 rfl (t_Mod_n h) (fun r22 τ22 h => ?_)
          refine r_irem d_Mod_follow_80 ⟨h.1, ?_⟩
          have h := h.2
          refine r_zald d_Mod_follow_81 ce_165 ⟨h.1, ?_⟩
          have h := h.2
          refine r_if2 89 ((τ22.1 165 (Int32.toNatClampNeg (((x4 + r21) - (nI 1)) - ((x4 + r21) - (nI 1)) / r22 * r22))) = (nI 0)) d_Mod_follow_82 (by decide) rfl (fun c23 => ?_) (fun c23 => ?_)
          · have h := h.1 c23
            refine r_iconst (nI 0) d_Mod_follow_89 (by decide) ?_
            refine r_istore (vs' := [.ref 153, .int x1, .int x2, .int x3, .int x4, .int (nI 0)]) d_Mod_follow_90 rfl rfl ?_
            refine r_aload_n d_Mod_follow_92 rfl ?_
            refine r_getR d_Mod_follow_93 f_Mod_53 kd_153 rfl lk_153_24 ?_
            refine r_iload d_Mod_follow_96 rfl ?_
            refine r_iload d_Mod_follow_98 rfl ?_
            refine r_if2 123 ((nI 0) = (nI 0)) d_Mod_follow_100 (by decide) rfl (fun _ => ?_) (fun c => absurd (by decide) c)
            refine r_iconst (nI 0) d_Mod_follow_123 (by decide) ?_
            refine r_zast d_Mod_follow_124 ce_166 ⟨h.1, Or.inl rfl, ?_⟩
            have h := h.2
            refine r_iload_n d_Mod_follow_125 rfl ?_
            refine r_aload_n d_Mod_follow_126 rfl ?_
            refine r_getR d_Mod_follow_127 f_Mod_53 kd_153 rfl lk_153_24 ?_
            refine r_iload d_Mod_follow_130 rfl ?_
            refine r_zald d_Mod_follow_132 ce_166 ⟨h.1, ?_⟩
            have h := h.2
            refine r_if2 140 (((am_upI τ22 166 (Int32.toNatClampNeg x4) (nI 0)).1 166 (Int32.toNatClampNeg x4)) = (nI 0)) d_Mod_follow_133 (by decide) rfl (fun c25 => ?_) (fun c25 => ?_)
            · have h := h.1 c25
              refine r_iconst (nI 0) d_Mod_follow_140 (by decide) ?_
              refine r_iadd d_Mod_follow_141 ?_
              refine r_istore_n (vs' := [.ref 153, .int x1, .int (x2 + (nI 0)), .int x3, .int x4, .int (nI 0)]) d_Mod_follow_142 rfl rfl ?_
              refine r_inc1 (vs' := [.ref 153, .int x1, .int (x2 + (nI 0)), .int x3, .int (x4 + nI 1), .int (nI 0)]) d_Mod_follow_143 rfl rfl rfl ?_
              refine r_goto 23 d_Mod_follow_146 (by decide) ?_
              exact am_weak (vs := [.ref 153, .int x1, .int (x2 + (nI 0)), .int x3, .int (x4 + nI 1), .null]) ⟨Or.inl rfl, Or.inl rfl, Or.inl rfl, Or.inl rfl, Or.inl rfl, Or.inr ⟨rfl, rfl⟩, trivial⟩ h
            · have h := h.2 c25
              refine r_iconst (nI 1) d_Mod_follow_136 (by decide) ?_
              refine r_goto 141 d_Mod_follow_137 (by decide) ?_
              refine r_iadd d_Mod_follow_141 ?_
              refine r_istore_n (vs' := [.ref 153, .int x1, .int (x2 + (nI 1)), .int x3, .int x4, .int (nI 0)]) d_Mod_follow_142 rfl rfl ?_
              refine r_inc1 (vs' := [.ref 153, .int x1, .int (x2 + (nI 1)), .int x3, .int (x4 + nI 1), .int (nI 0)]) d_Mod_follow_143 rfl rfl rfl ?_
              refine r_goto 23 d_Mod_follow_146 (by decide) ?_
              exact am_weak (vs := [.ref 153, .int x1, .int (x2 + (nI 1)), .int x3, .int (x4 + nI 1), .null]) ⟨Or.inl rfl, Or.inl rfl, Or.inl rfl, Or.inl rfl, Or.inl rfl, Or.inr ⟨rfl, rfl⟩, trivial⟩ h
          · have h := h.2 c23
            refine r_iconst (nI 1) d_Mod_follow_85 (by decide) ?_
            refine r_goto 90 d_Mod_follow_86 (by decide) ?_
            refine r_istore (vs' := [.ref 153, .int x1, .int x2, .int x3, .int x4, .int (nI 1)]) d_Mod_follow_90 rfl rfl ?_
            refine r_aload_n d_Mod_follow_92 rfl ?_
            refine r_getR d_Mod_follow_93 f_Mod_53 kd_153 rfl lk_153_24 ?_
            refine r_iload d_Mod_follow_96 rfl ?_
            refine r_iload d_Mod_follow_98 rfl ?_
            refine r_if2 123 ((nI 1) = (nI 0)) d_Mod_follow_100 (by decide) rfl (fun c => absurd c (by decide)) (fun _ => ?_)
            refine r_aload_n d_Mod_follow_103 rfl ?_
            refine r_getR d_Mod_follow_104 f_Mod_38 kd_153 rfl lk_153_19 ?_
            refine r_iload d_Mod_follow_107 rfl ?_
            refine r_iald d_Mod_follow_109 ce_161 ⟨h.1, ?_⟩
            have h := h.2
            refine r_aload_n d_Mod_follow_110 rfl ?_
            refine r_getR d_Mod_follow_111 f_Mod_32 kd_153 rfl lk_153_10 ?_
            refine r_iload_n d_Mod_follow_114 rfl ?_
            refine r_iald d_Mod_follow_115 ce_159 ⟨h.1, ?_⟩
            have h := h.2
            refine r_icmp2 123 (¬ (τ22.1 161 (Int32.toNatClampNeg x4)) = (τ22.1 159 (Int32.toNatClampNeg x3))) d_Mod_follow_116 (by decide) rfl (fun c27 => ?_) (fun c27 => ?_)
            · have h := h.1 c27
              refine r_iconst (nI 0) d_Mod_follow_123 (by decide) ?_
              refine r_zast d_Mod_follow_124 ce_166 ⟨h.1, Or.inl rfl, ?_⟩
              have h := h.2
              refine r_iload_n d_Mod_follow_125 rfl ?_
              refine r_aload_n d_Mod_follow_126 rfl ?_
              refine r_getR d_Mod_follow_127 f_Mod_53 kd_153 rfl lk_153_24 ?_
              refine r_iload d_Mod_follow_130 rfl ?_
              refine r_zald d_Mod_follow_132 ce_166 ⟨h.1, ?_⟩
              have h := h.2
              refine r_if2 140 (((am_upI τ22 166 (Int32.toNatClampNeg x4) (nI 0)).1 166 (Int32.toNatClampNeg x4)) = (nI 0)) d_Mod_follow_133 (by decide) rfl (fun c28 => ?_) (fun c28 => ?_)
              · have h := h.1 c28
                refine r_iconst (nI 0) d_Mod_follow_140 (by decide) ?_
                refine r_iadd d_Mod_follow_141 ?_
                refine r_istore_n (vs' := [.ref 153, .int x1, .int (x2 + (nI 0)), .int x3, .int x4, .int (nI 1)]) d_Mod_follow_142 rfl rfl ?_
                refine r_inc1 (vs' := [.ref 153, .int x1, .int (x2 + (nI 0)), .int x3, .int (x4 + nI 1), .int (nI 1)]) d_Mod_follow_143 rfl rfl rfl ?_
                refine r_goto 23 d_Mod_follow_146 (by decide) ?_
                exact am_weak (vs := [.ref 153, .int x1, .int (x2 + (nI 0)), .int x3, .int (x4 + nI 1), .null]) ⟨Or.inl rfl, Or.inl rfl, Or.inl rfl, Or.inl rfl, Or.inl rfl, Or.inr ⟨rfl, rfl⟩, trivial⟩ h
              · have h := h.2 c28
                refine r_iconst (nI 1) d_Mod_follow_136 (by decide) ?_
                refine r_goto 141 d_Mod_follow_137 (by decide) ?_
                refine r_iadd d_Mod_follow_141 ?_
                refine r_istore_n (vs' := [.ref 153, .int x1, .int (x2 + (nI 1)), .int x3, .int x4, .int (nI 1)]) d_Mod_follow_142 rfl rfl ?_
                refine r_inc1 (vs' := [.ref 153, .int x1, .int (x2 + (nI 1)), .int x3, .int (x4 + nI 1), .int (nI 1)]) d_Mod_follow_143 rfl rfl rfl ?_
                refine r_goto 23 d_Mod_follow_146 (by decide) ?_
                exact am_weak (vs := [.ref 153, .int x1, .int (x2 + (nI 1)), .int x3, .int (x4 + nI 1), .null]) ⟨Or.inl rfl, Or.inl rfl, Or.inl rfl, Or.inl rfl, Or.inl rfl, Or.inr ⟨rfl, rfl⟩, trivial⟩ h
            · have h := h.2 c27
              refine r_iconst (nI 1) d_Mod_follow_119 (by decide) ?_
              refine r_goto 124 d_Mod_follow_120 (by decide) ?_
              refine r_zast d_Mod_follow_124 ce_166 ⟨h.1, Or.inr rfl, ?_⟩
              have h := h.2
              refine r_iload_n d_Mod_follow_125 rfl ?_
              refine r_aload_n d_Mod_follow_126 rfl ?_
              refine r_getR d_Mod_follow_127 f_Mod_53 kd_153 rfl lk_153_24 ?_
              refine r_iload d_Mod_follow_130 rfl ?_
              refine r_zald d_Mod_follow_132 ce_166 ⟨h.1, ?_⟩
              have h := h.2
              refine r_if2 140 (((am_upI τ22 166 (Int32.toNatClampNeg x4) (nI 1)).1 166 (Int32.toNatClampNeg x4)) = (nI 0)) d_Mod_follow_133 (by decide) rfl (fun c29 => ?_) (fun c29 => ?_)
              · have h := h.1 c29
                refine r_iconst (nI 0) d_Mod_follow_140 (by decide) ?_
                refine r_iadd d_Mod_follow_141 ?_
                refine r_istore_n (vs' := [.ref 153, .int x1, .int (x2 + (nI 0)), .int x3, .int x4, .int (nI 1)]) d_Mod_follow_142 rfl rfl ?_
                refine r_inc1 (vs' := [.ref 153, .int x1, .int (x2 + (nI 0)), .int x3, .int (x4 + nI 1), .int (nI 1)]) d_Mod_follow_143 rfl rfl rfl ?_
                refine r_goto 23 d_Mod_follow_146 (by decide) ?_
                exact am_weak (vs := [.ref 153, .int x1, .int (x2 + (nI 0)), .int x3, .int (x4 + nI 1), .null]) ⟨Or.inl rfl, Or.inl rfl, Or.inl rfl, Or.inl rfl, Or.inl rfl, Or.inr ⟨rfl, rfl⟩, trivial⟩ h
              · have h := h.2 c29
                refine r_iconst (nI 1) d_Mod_follow_136 (by decide) ?_
                refine r_goto 141 d_Mod_follow_137 (by decide) ?_
                refine r_iadd d_Mod_follow_141 ?_
                refine r_istore_n (vs' := [.ref 153, .int x1, .int (x2 + (nI 1)), .int x3, .int x4, .int (nI 1)]) d_Mod_follow_142 rfl rfl ?_
                refine r_inc1 (vs' := [.ref 153, .int x1, .int (x2 + (nI 1)), .int x3, .int (x4 + nI 1), .int (nI 1)]) d_Mod_follow_143 rfl rfl rfl ?_
                refine r_goto 23 d_Mod_follow_146 (by decide) ?_
                exact am_weak (vs := [.ref 153, .int x1, .int (x2 + (nI 1)), .int x3, .int (x4 + nI 1), .null]) ⟨Or.inl rfl, Or.inl rfl, Or.inl rfl, Or.inl rfl, Or.inl rfl, Or.inr ⟨rfl, rfl⟩, trivial⟩ h
theorem l_Mod_follow_152 {d : Nat}  {x1 : Int32} {x2 : Int32} {x3 : Int32} {x4 : Int32}  {σ : am_S} {K : Int32 → am_S → Prop} (h : (w_Mod_n  σ (fun r30 τ30 => (am_ite (r30 ≤ x4) (am_ite (¬ x2 = (nI 0)) (R_Mod_follow d K 13 [.ref 153, .int x1, .int x2, .int (x3 + nI 1), .null, .null] [] τ30) (am_ite (¬ (τ30.1 153 30) = (-1)) (R_Mod_follow d K 13 [.ref 153, .int x1, .int x2, .int (x3 + nI 1), .null, .null] [] τ30) (R_Mod_follow d K 13 [.ref 153, .int x1, .int x2, .int (x3 + nI 1), .null, .null] [] (am_upI τ30 153 30 x3)))) (vp_in x4 512 ∧ (vp_in x4 512 ∧ ((τ30.1 166 (Int32.toNatClampNeg x4)) = nI 0 ∨ (τ30.1 166 (Int32.toNatClampNeg x4)) = nI 1) ∧ R_Mod_follow d K 152 [.ref 153, .int x1, .int x2, .int x3, .int (x4 + nI 1), .null] [] (am_upI τ30 165 (Int32.toNatClampNeg x4) (τ30.1 166 (Int32.toNatClampNeg x4))))))))) : R_Mod_follow d K 152 [.ref 153, .int x1, .int x2, .int x3, .int x4, .null] [] σ := by
  refine r_iload d_Mod_follow_152 rfl ?_
  refine r_aload_n d_Mod_follow_154 rfl ?_
  refine r_virtI [] [.int x4] d_Mod_follow_155 v_Mod_93 rfl rfl cn_153 rfl (t_Mod_n h) (fun r30 τ30 h => ?_)
  refine r_icmp2 181 (r30 ≤ x4) d_Mod_follow_158 (by decide) rfl (fun c31 => ?_) (fun c31 => ?_)
  · have h := h.1 c31
    refine r_iload_n d_Mod_follow_181 rfl ?_
    refine r_if2 198 (¬ x2 = (nI 0)) d_Mod_follow_182 (by decide) rfl (fun c32 => ?_) (fun c32 => ?_)
    · have h := h.1 c32
      refine r_inc1 (vs' := [.ref 153, .int x1, .int x2, .int (x3 + nI 1), .int x4, .null]) d_Mod_follow_198 rfl rfl rfl ?_
      refine r_goto 13 d_Mod_follow_201 (by decide) ?_
      exact am_weak (vs := [.ref 153, .int x1, .int x2, .int (x3 + nI 1), .null, .null]) ⟨Or.inl rfl, Or.inl rfl, Or.inl rfl, Or.inl rfl, Or.inr ⟨rfl, rfl⟩, Or.inl rfl, trivial⟩ h
    · have h := h.2 c32
      refine r_aload_n d_Mod_follow_185 rfl ?_
      refine r_getI d_Mod_follow_186 f_Mod_195 kd_153 rfl ?_
      refine r_iconst (-1) d_Mod_follow_189 (by decide) ?_
      refine r_icmp2 198 (¬ (τ30.1 153 30) = (-1)) d_Mod_follow_190 (by decide) rfl (fun c33 => ?_) (fun c33 => ?_)
      · have h := h.1 c33
        refine r_inc1 (vs' := [.ref 153, .int x1, .int x2, .int (x3 + nI 1), .int x4, .null]) d_Mod_follow_198 rfl rfl rfl ?_
        refine r_goto 13 d_Mod_follow_201 (by decide) ?_
        exact am_weak (vs := [.ref 153, .int x1, .int x2, .int (x3 + nI 1), .null, .null]) ⟨Or.inl rfl, Or.inl rfl, Or.inl rfl, Or.inl rfl, Or.inr ⟨rfl, rfl⟩, Or.inl rfl, trivial⟩ h
      · have h := h.2 c33
        refine r_aload_n d_Mod_follow_193 rfl ?_
        refine r_iload_n d_Mod_follow_194 rfl ?_
        refine r_putI d_Mod_follow_195 f_Mod_195 kd_153 rfl ?_
        refine r_inc1 (vs' := [.ref 153, .int x1, .int x2, .int (x3 + nI 1), .int x4, .null]) d_Mod_follow_198 rfl rfl rfl ?_
        refine r_goto 13 d_Mod_follow_201 (by decide) ?_
        exact am_weak (vs := [.ref 153, .int x1, .int x2, .int (x3 + nI 1), .null, .null]) ⟨Or.inl rfl, Or.inl rfl, Or.inl rfl, Or.inl rfl, Or.inr ⟨rfl, rfl⟩, Or.inl rfl, trivial⟩ h
  · have h := h.2 c31
    refine r_aload_n d_Mod_follow_161 rfl ?_
    refine r_getR d_Mod_follow_162 f_Mod_50 kd_153 rfl lk_153_23 ?_
    refine r_iload d_Mod_follow_165 rfl ?_
    refine r_aload_n d_Mod_follow_167 rfl ?_
    refine r_getR d_Mod_follow_168 f_Mod_53 kd_153 rfl lk_153_24 ?_
    refine r_iload d_Mod_follow_171 rfl ?_
    refine r_zald d_Mod_follow_173 ce_166 ⟨h.1, ?_⟩
    have h := h.2
    refine r_zast d_Mod_follow_174 ce_165 ⟨h.1, h.2.1, ?_⟩
    have h := h.2.2
    refine r_inc1 (vs' := [.ref 153, .int x1, .int x2, .int x3, .int (x4 + nI 1), .null]) d_Mod_follow_175 rfl rfl rfl ?_
    refine r_goto 152 d_Mod_follow_178 (by decide) ?_
    exact h
def w_Mod_slip  (σ : am_S) (K : Int32 → am_S → Prop) : Prop := (w_Mod_follow ((σ.1 153 11) - (nI 1)) (am_upI σ 153 18 (nI 0)) (fun r1 τ1 => K (τ1.1 153 30) τ1))
theorem t_Mod_slip {d : Nat}   {σ : am_S} {K : Int32 → am_S → Prop} (h : w_Mod_slip  σ K) : am_run (d + 6) y_Mod_slip [.ref 153] σ (am_Ri K) := by
  unfold w_Mod_slip at h
  refine am_begin (vs := [.ref 153]) c_Mod_slip (by decide +kernel) rfl rfl rfl rfl ?_
  refine r_aload_n d_Mod_slip_0 rfl ?_
  refine r_iconst (nI 0) d_Mod_slip_1 (by decide) ?_
  refine r_putI d_Mod_slip_2 f_Mod_62 kd_153 rfl ?_
  refine r_aload_n d_Mod_slip_5 rfl ?_
  refine r_aload_n d_Mod_slip_6 rfl ?_
  refine r_getI d_Mod_slip_7 f_Mod_127 kd_153 rfl ?_
  refine r_iconst (nI 1) d_Mod_slip_10 (by decide) ?_
  refine r_isub d_Mod_slip_11 ?_
  refine r_virtI [.int ((σ.1 153 11) - (nI 1))] [] d_Mod_slip_12 v_Mod_198 rfl rfl cn_153 rfl (t_Mod_follow h) (fun r1 τ1 h => ?_)
  refine r_pop d_Mod_slip_15 rfl ?_
  refine r_aload_n d_Mod_slip_16 rfl ?_
  refine r_getI d_Mod_slip_17 f_Mod_195 kd_153 rfl ?_
  exact r_iret d_Mod_slip_20 h
def w_Mod_stands (x1 : Int32) (σ : am_S) (K : Int32 → am_S → Prop) : Prop := (am_ite (x1 < (nI 0)) (w_Mod_no (nI 1) (am_upI σ 153 18 (nI 0)) (fun r2 τ2 => K r2 τ2)) (am_ite (x1 < (σ.1 153 11)) (w_Mod_follow x1 (am_upI σ 153 18 (nI 0)) (fun r4 τ4 => K r4 τ4)) (w_Mod_no (nI 1) (am_upI σ 153 18 (nI 0)) (fun r5 τ5 => K r5 τ5))))
theorem t_Mod_stands {d : Nat} {x1 : Int32}  {σ : am_S} {K : Int32 → am_S → Prop} (h : w_Mod_stands x1 σ K) : am_run (d + 6) y_Mod_stands [.ref 153, .int x1] σ (am_Ri K) := by
  unfold w_Mod_stands at h
  refine am_begin (vs := [.ref 153, .int x1]) c_Mod_stands (by decide +kernel) rfl rfl rfl rfl ?_
  refine r_aload_n d_Mod_stands_0 rfl ?_
  refine r_iconst (nI 0) d_Mod_stands_1 (by decide) ?_
  refine r_putI d_Mod_stands_2 f_Mod_62 kd_153 rfl ?_
  refine r_iload_n d_Mod_stands_5 rfl ?_
  refine r_if2 17 (x1 < (nI 0)) d_Mod_stands_6 (by decide) rfl (fun c1 => ?_) (fun c1 => ?_)
  · have h := h.1 c1
    refine r_aload_n d_Mod_stands_17 rfl ?_
    refine r_iconst (nI 1) d_Mod_stands_18 (by decide) ?_
    refine r_virtI [.int (nI 1)] [] d_Mod_stands_19 v_Mod_75 rfl rfl cn_153 rfl (t_Mod_no h) (fun r2 τ2 h => ?_)
    refine r_goto 30 d_Mod_stands_22 (by decide) ?_
    exact r_iret d_Mod_stands_30 h
  · have h := h.2 c1
    refine r_iload_n d_Mod_stands_9 rfl ?_
    refine r_aload_n d_Mod_stands_10 rfl ?_
    refine r_getI d_Mod_stands_11 f_Mod_127 kd_153 rfl ?_
    refine r_icmp2 25 (x1 < (σ.1 153 11)) d_Mod_stands_14 (by decide) rfl (fun c3 => ?_) (fun c3 => ?_)
    · have h := h.1 c3
      refine r_aload_n d_Mod_stands_25 rfl ?_
      refine r_iload_n d_Mod_stands_26 rfl ?_
      refine r_virtI [.int x1] [] d_Mod_stands_27 v_Mod_198 rfl rfl cn_153 rfl (t_Mod_follow h) (fun r4 τ4 h => ?_)
      exact r_iret d_Mod_stands_30 h
    · have h := h.2 c3
      refine r_aload_n d_Mod_stands_17 rfl ?_
      refine r_iconst (nI 1) d_Mod_stands_18 (by decide) ?_
      refine r_virtI [.int (nI 1)] [] d_Mod_stands_19 v_Mod_75 rfl rfl cn_153 rfl (t_Mod_no h) (fun r5 τ5 h => ?_)
      refine r_goto 30 d_Mod_stands_22 (by decide) ?_
      exact r_iret d_Mod_stands_30 h
abbrev R_Mod_leastStand (d : Nat) (K : Int32 → am_S → Prop) (pc : Nat) (vs st : List Value) (σ : am_S) : Prop := am_r (am_run (d + 1)) "WheelDiscModel" (some .int) prog_13_method_58_code (am_Ri K) pc vs st σ
def w_Mod_leastStand  (σ : am_S) (K : Int32 → am_S → Prop) : Prop := ∀ d : Nat, am_run (d + 2) y_Mod_leastStand [.ref 153] σ (am_Ri K)
theorem t_Mod_leastStand {d : Nat}   {σ : am_S} {K : Int32 → am_S → Prop} (h : w_Mod_leastStand  σ K) : am_run (d + 2) y_Mod_leastStand [.ref 153] σ (am_Ri K) := h d
theorem e_Mod_leastStand   {σ : am_S} {K : Int32 → am_S → Prop} (h : ∀ d : Nat, R_Mod_leastStand d K 2 [.ref 153, .int (nI 0)] [] σ) : w_Mod_leastStand  σ K := by
  intro d
  have h := h d
  refine am_begin (vs := [.ref 153, .null]) c_Mod_leastStand (by decide +kernel) rfl rfl rfl rfl ?_
  refine r_iconst (nI 0) d_Mod_leastStand_0 (by decide) ?_
  refine r_istore_n (vs' := [.ref 153, .int (nI 0)]) d_Mod_leastStand_1 rfl rfl ?_
  exact h
theorem l_Mod_leastStand_2 {d : Nat}  {x1 : Int32}  {σ : am_S} {K : Int32 → am_S → Prop} (h : (w_Mod_n  σ (fun r1 τ1 => (am_ite (r1 ≤ x1) (K (-1) τ1) (vp_in x1 512 ∧ (am_ite ((τ1.1 165 (Int32.toNatClampNeg x1)) = (nI 0)) (R_Mod_leastStand d K 2 [.ref 153, .int (x1 + nI 1)] [] τ1) (K x1 τ1))))))) : R_Mod_leastStand d K 2 [.ref 153, .int x1] [] σ := by
  refine r_iload_n d_Mod_leastStand_2 rfl ?_
  refine r_aload_n d_Mod_leastStand_3 rfl ?_
  refine r_virtI [] [.int x1] d_Mod_leastStand_4 v_Mod_93 rfl rfl cn_153 rfl (t_Mod_n h) (fun r1 τ1 h => ?_)
  refine r_icmp2 27 (r1 ≤ x1) d_Mod_leastStand_7 (by decide) rfl (fun c2 => ?_) (fun c2 => ?_)
  · have h := h.1 c2
    refine r_iconst (-1) d_Mod_leastStand_27 (by decide) ?_
    exact r_iret d_Mod_leastStand_28 h
  · have h := h.2 c2
    refine r_aload_n d_Mod_leastStand_10 rfl ?_
    refine r_getR d_Mod_leastStand_11 f_Mod_50 kd_153 rfl lk_153_23 ?_
    refine r_iload_n d_Mod_leastStand_14 rfl ?_
    refine r_zald d_Mod_leastStand_15 ce_165 ⟨h.1, ?_⟩
    have h := h.2
    refine r_if2 21 ((τ1.1 165 (Int32.toNatClampNeg x1)) = (nI 0)) d_Mod_leastStand_16 (by decide) rfl (fun c3 => ?_) (fun c3 => ?_)
    · have h := h.1 c3
      refine r_inc1 (vs' := [.ref 153, .int (x1 + nI 1)]) d_Mod_leastStand_21 rfl rfl rfl ?_
      refine r_goto 2 d_Mod_leastStand_24 (by decide) ?_
      exact h
    · have h := h.2 c3
      refine r_iload_n d_Mod_leastStand_19 rfl ?_
      exact r_iret d_Mod_leastStand_20 h
def w_Mod_stand (x1 : Int32) (σ : am_S) (K : Int32 → am_S → Prop) : Prop := (am_ite (x1 < (nI 0)) (w_Mod_no (nI 1) (am_upI σ 153 18 (nI 0)) (fun r2 τ2 => K r2 τ2)) (am_ite ((σ.1 153 11) ≤ x1) (w_Mod_no (nI 1) (am_upI σ 153 18 (nI 0)) (fun r4 τ4 => K r4 τ4)) (w_Mod_follow x1 (am_upI σ 153 18 (nI 0)) (fun r5 τ5 => (am_ite (¬ r5 = (nI 0)) (w_Mod_leastStand  τ5 (fun r7 τ7 => K r7 τ7)) (w_Mod_no (nI 1) τ5 (fun r8 τ8 => K r8 τ8)))))))
theorem t_Mod_stand {d : Nat} {x1 : Int32}  {σ : am_S} {K : Int32 → am_S → Prop} (h : w_Mod_stand x1 σ K) : am_run (d + 6) y_Mod_stand [.ref 153, .int x1] σ (am_Ri K) := by
  unfold w_Mod_stand at h
  refine am_begin (vs := [.ref 153, .int x1]) c_Mod_stand (by decide +kernel) rfl rfl rfl rfl ?_
  refine r_aload_n d_Mod_stand_0 rfl ?_
  refine r_iconst (nI 0) d_Mod_stand_1 (by decide) ?_
  refine r_putI d_Mod_stand_2 f_Mod_62 kd_153 rfl ?_
  refine r_iload_n d_Mod_stand_5 rfl ?_
  refine r_if2 25 (x1 < (nI 0)) d_Mod_stand_6 (by decide) rfl (fun c1 => ?_) (fun c1 => ?_)
  · have h := h.1 c1
    refine r_aload_n d_Mod_stand_25 rfl ?_
    refine r_iconst (nI 1) d_Mod_stand_26 (by decide) ?_
    refine r_virtI [.int (nI 1)] [] d_Mod_stand_27 v_Mod_75 rfl rfl cn_153 rfl (t_Mod_no h) (fun r2 τ2 h => ?_)
    exact r_iret d_Mod_stand_30 h
  · have h := h.2 c1
    refine r_iload_n d_Mod_stand_9 rfl ?_
    refine r_aload_n d_Mod_stand_10 rfl ?_
    refine r_getI d_Mod_stand_11 f_Mod_127 kd_153 rfl ?_
    refine r_icmp2 25 ((σ.1 153 11) ≤ x1) d_Mod_stand_14 (by decide) rfl (fun c3 => ?_) (fun c3 => ?_)
    · have h := h.1 c3
      refine r_aload_n d_Mod_stand_25 rfl ?_
      refine r_iconst (nI 1) d_Mod_stand_26 (by decide) ?_
      refine r_virtI [.int (nI 1)] [] d_Mod_stand_27 v_Mod_75 rfl rfl cn_153 rfl (t_Mod_no h) (fun r4 τ4 h => ?_)
      exact r_iret d_Mod_stand_30 h
    · have h := h.2 c3
      refine r_aload_n d_Mod_stand_17 rfl ?_
      refine r_iload_n d_Mod_stand_18 rfl ?_
      refine r_virtI [.int x1] [] d_Mod_stand_19 v_Mod_198 rfl rfl cn_153 rfl (t_Mod_follow h) (fun r5 τ5 h => ?_)
      refine r_if2 31 (¬ r5 = (nI 0)) d_Mod_stand_22 (by decide) rfl (fun c6 => ?_) (fun c6 => ?_)
      · have h := h.1 c6
        refine r_aload_n d_Mod_stand_31 rfl ?_
        refine r_virtI [] [] d_Mod_stand_32 v_Mod_201 rfl rfl cn_153 rfl (t_Mod_leastStand h) (fun r7 τ7 h => ?_)
        exact r_iret d_Mod_stand_35 h
      · have h := h.2 c6
        refine r_aload_n d_Mod_stand_25 rfl ?_
        refine r_iconst (nI 1) d_Mod_stand_26 (by decide) ?_
        refine r_virtI [.int (nI 1)] [] d_Mod_stand_27 v_Mod_75 rfl rfl cn_153 rfl (t_Mod_no h) (fun r8 τ8 h => ?_)
        exact r_iret d_Mod_stand_30 h
abbrev R_Mod_mend (d : Nat) (K : Int32 → am_S → Prop) (pc : Nat) (vs st : List Value) (σ : am_S) : Prop := am_r (am_run (d + 5)) "WheelDiscModel" (some .int) prog_13_method_62_code (am_Ri K) pc vs st σ
def w_Mod_mend  (σ : am_S) (K : Int32 → am_S → Prop) : Prop := ∀ d : Nat, am_run (d + 6) y_Mod_mend [.ref 153] σ (am_Ri K)
theorem t_Mod_mend {d : Nat}   {σ : am_S} {K : Int32 → am_S → Prop} (h : w_Mod_mend  σ K) : am_run (d + 6) y_Mod_mend [.ref 153] σ (am_Ri K) := h d
theorem e_Mod_mend   {σ : am_S} {K : Int32 → am_S → Prop} (h : ∀ d : Nat, (w_Mod_follow ((σ.1 153 11) - (nI 1)) (am_upI σ 153 18 (nI 0)) (fun r1 τ1 => (am_ite (¬ (τ1.1 153 30) = (-1)) (am_ite ((τ1.1 153 30) ≤ (nI 0)) (R_Mod_mend d K 62 [.ref 153, .int (τ1.1 153 30), .int (nI 0), .int (-1), .int (nI 99), .int (nI 0), .int (nI 0), .null, .null] [] τ1) (w_Mod_follow ((τ1.1 153 30) - (nI 1)) τ1 (fun r4 τ4 => (w_Mod_leastStand  τ4 (fun r5 τ5 => R_Mod_mend d K 62 [.ref 153, .int (τ1.1 153 30), .int r5, .int (-1), .int (nI 99), .int (nI 0), .int (nI 0), .null, .null] [] τ5))))) (K (-1) τ1))))) : w_Mod_mend  σ K := by
  intro d
  have h := h d
  refine am_begin (vs := [.ref 153, .null, .null, .null, .null, .null, .null, .null, .null]) c_Mod_mend (by decide +kernel) rfl rfl rfl rfl ?_
  refine r_aload_n d_Mod_mend_0 rfl ?_
  refine r_iconst (nI 0) d_Mod_mend_1 (by decide) ?_
  refine r_putI d_Mod_mend_2 f_Mod_62 kd_153 rfl ?_
  refine r_aload_n d_Mod_mend_5 rfl ?_
  refine r_aload_n d_Mod_mend_6 rfl ?_
  refine r_getI d_Mod_mend_7 f_Mod_127 kd_153 rfl ?_
  refine r_iconst (nI 1) d_Mod_mend_10 (by decide) ?_
  refine r_isub d_Mod_mend_11 ?_
  refine r_virtI [.int ((σ.1 153 11) - (nI 1))] [] d_Mod_mend_12 v_Mod_198 rfl rfl cn_153 rfl (t_Mod_follow h) (fun r1 τ1 h => ?_)
  refine r_pop d_Mod_mend_15 rfl ?_
  refine r_aload_n d_Mod_mend_16 rfl ?_
  refine r_getI d_Mod_mend_17 f_Mod_195 kd_153 rfl ?_
  refine r_iconst (-1) d_Mod_mend_20 (by decide) ?_
  refine r_icmp2 26 (¬ (τ1.1 153 30) = (-1)) d_Mod_mend_21 (by decide) rfl (fun c2 => ?_) (fun c2 => ?_)
  · have h := h.1 c2
    refine r_aload_n d_Mod_mend_26 rfl ?_
    refine r_getI d_Mod_mend_27 f_Mod_195 kd_153 rfl ?_
    refine r_istore_n (vs' := [.ref 153, .int (τ1.1 153 30), .null, .null, .null, .null, .null, .null, .null]) d_Mod_mend_30 rfl rfl ?_
    refine r_iconst (nI 0) d_Mod_mend_31 (by decide) ?_
    refine r_istore_n (vs' := [.ref 153, .int (τ1.1 153 30), .int (nI 0), .null, .null, .null, .null, .null, .null]) d_Mod_mend_32 rfl rfl ?_
    refine r_iload_n d_Mod_mend_33 rfl ?_
    refine r_if2 50 ((τ1.1 153 30) ≤ (nI 0)) d_Mod_mend_34 (by decide) rfl (fun c3 => ?_) (fun c3 => ?_)
    · have h := h.1 c3
      refine r_iconst (-1) d_Mod_mend_50 (by decide) ?_
      refine r_istore_n (vs' := [.ref 153, .int (τ1.1 153 30), .int (nI 0), .int (-1), .null, .null, .null, .null, .null]) d_Mod_mend_51 rfl rfl ?_
      refine r_bipush (nI 99) d_Mod_mend_52 (by decide) ?_
      refine r_istore (vs' := [.ref 153, .int (τ1.1 153 30), .int (nI 0), .int (-1), .int (nI 99), .null, .null, .null, .null]) d_Mod_mend_54 rfl rfl ?_
      refine r_iconst (nI 0) d_Mod_mend_56 (by decide) ?_
      refine r_istore (vs' := [.ref 153, .int (τ1.1 153 30), .int (nI 0), .int (-1), .int (nI 99), .int (nI 0), .null, .null, .null]) d_Mod_mend_57 rfl rfl ?_
      refine r_iconst (nI 0) d_Mod_mend_59 (by decide) ?_
      refine r_istore (vs' := [.ref 153, .int (τ1.1 153 30), .int (nI 0), .int (-1), .int (nI 99), .int (nI 0), .int (nI 0), .null, .null]) d_Mod_mend_60 rfl rfl ?_
      exact h
    · have h := h.2 c3
      refine r_aload_n d_Mod_mend_37 rfl ?_
      refine r_iload_n d_Mod_mend_38 rfl ?_
      refine r_iconst (nI 1) d_Mod_mend_39 (by decide) ?_
      refine r_isub d_Mod_mend_40 ?_
      refine r_virtI [.int ((τ1.1 153 30) - (nI 1))] [] d_Mod_mend_41 v_Mod_198 rfl rfl cn_153 rfl (t_Mod_follow h) (fun r4 τ4 h => ?_)
      refine r_pop d_Mod_mend_44 rfl ?_
      refine r_aload_n d_Mod_mend_45 rfl ?_
      refine r_virtI [] [] d_Mod_mend_46 v_Mod_201 rfl rfl cn_153 rfl (t_Mod_leastStand h) (fun r5 τ5 h => ?_)
      refine r_istore_n (vs' := [.ref 153, .int (τ1.1 153 30), .int r5, .null, .null, .null, .null, .null, .null]) d_Mod_mend_49 rfl rfl ?_
      refine r_iconst (-1) d_Mod_mend_50 (by decide) ?_
      refine r_istore_n (vs' := [.ref 153, .int (τ1.1 153 30), .int r5, .int (-1), .null, .null, .null, .null, .null]) d_Mod_mend_51 rfl rfl ?_
      refine r_bipush (nI 99) d_Mod_mend_52 (by decide) ?_
      refine r_istore (vs' := [.ref 153, .int (τ1.1 153 30), .int r5, .int (-1), .int (nI 99), .null, .null, .null, .null]) d_Mod_mend_54 rfl rfl ?_
      refine r_iconst (nI 0) d_Mod_mend_56 (by decide) ?_
      refine r_istore (vs' := [.ref 153, .int (τ1.1 153 30), .int r5, .int (-1), .int (nI 99), .int (nI 0), .null, .null, .null]) d_Mod_mend_57 rfl rfl ?_
      refine r_iconst (nI 0) d_Mod_mend_59 (by decide) ?_
      refine r_istore (vs' := [.ref 153, .int (τ1.1 153 30), .int r5, .int (-1), .int (nI 99), .int (nI 0), .int (nI 0), .null, .null]) d_Mod_mend_60 rfl rfl ?_
      exact h
  · have h := h.2 c2
    refine r_iconst (-1) d_Mod_mend_24 (by decide) ?_
    exact r_iret d_Mod_mend_25 h
theorem l_Mod_mend_62 {d : Nat}  {x1 : Int32} {x2 : Int32} {x3 : Int32} {x4 : Int32} {x5 : Int32} {x6 : Int32}  {σ : am_S} {K : Int32 → am_S → Prop} (h : (w_Mod_n  σ (fun r6 τ6 => (am_ite (r6 ≤ x6) (K x3 τ6) (vp_in x6 512 ∧ (vp_in x1 2000 ∧ (w_Int_bitCount ((τ6.1 161 (Int32.toNatClampNeg x6)) ^^^ (τ6.1 159 (Int32.toNatClampNeg x1))) τ6 (fun r8 τ8 => (am_ite (x2 ≤ x6) (w_Mod_n  τ8 (fun r10 τ10 => (am_ite ((x6 - x2) ≤ (r10 - (x6 - x2))) (am_ite (x4 < r8) (R_Mod_mend d K 62 [.ref 153, .int x1, .int x2, .int x3, .int x4, .int x5, .int (x6 + nI 1), .null, .null] [] τ10) (am_ite (¬ r8 = x4) (R_Mod_mend d K 62 [.ref 153, .int x1, .int x2, .int x6, .int r8, .int (x6 - x2), .int (x6 + nI 1), .null, .null] [] τ10) (am_ite ((x6 - x2) < x5) (R_Mod_mend d K 62 [.ref 153, .int x1, .int x2, .int x6, .int r8, .int (x6 - x2), .int (x6 + nI 1), .null, .null] [] τ10) (R_Mod_mend d K 62 [.ref 153, .int x1, .int x2, .int x3, .int x4, .int x5, .int (x6 + nI 1), .null, .null] [] τ10)))) (w_Mod_n  τ10 (fun r15 τ15 => (am_ite (x4 < r8) (R_Mod_mend d K 62 [.ref 153, .int x1, .int x2, .int x3, .int x4, .int x5, .int (x6 + nI 1), .null, .null] [] τ15) (am_ite (¬ r8 = x4) (R_Mod_mend d K 62 [.ref 153, .int x1, .int x2, .int x6, .int r8, .int (r15 - (x6 - x2)), .int (x6 + nI 1), .null, .null] [] τ15) (am_ite ((r15 - (x6 - x2)) < x5) (R_Mod_mend d K 62 [.ref 153, .int x1, .int x2, .int x6, .int r8, .int (r15 - (x6 - x2)), .int (x6 + nI 1), .null, .null] [] τ15) (R_Mod_mend d K 62 [.ref 153, .int x1, .int x2, .int x3, .int x4, .int x5, .int (x6 + nI 1), .null, .null] [] τ15))))))))) (w_Mod_n  τ8 (fun r19 τ19 => (am_ite ((x2 - x6) ≤ (r19 - (x2 - x6))) (am_ite (x4 < r8) (R_Mod_mend d K 62 [.ref 153, .int x1, .int x2, .int x3, .int x4, .int x5, .int (x6 + nI 1), .null, .null] [] τ19) (am_ite (¬ r8 = x4) (R_Mod_mend d K 62 [.ref 153, .int x1, .int x2, .int x6, .int r8, .int (x2 - x6), .int (x6 + nI 1), .null, .null] [] τ19) (am_ite ((x2 - x6) < x5) (R_Mod_mend d K 62 [.ref 153, .int x1, .int x2, .int x6, .int r8, .int (x2 - x6), .int (x6 + nI 1), .null, .null] [] τ19) (R_Mod_mend d K 62 [.ref 153, .int x1, .int x2, .int x3, .int x4, .int x5, .int (x6 + nI 1), .null, .null] [] τ19)))) (w_Mod_n  τ19 (fun r24 τ24 => (am_ite (x4 < r8) (R_Mod_mend d K 62 [.ref 153, .int x1, .int x2, .int x3, .int x4, .int x5, .int (x6 + nI 1), .null, .null] [] τ24) (am_ite (¬ r8 = x4) (R_Mod_mend d K 62 [.ref 153, .int x1, .int x2, .int x6, .int r8, .int (r24 - (x2 - x6)), .int (x6 + nI 1), .null, .null] [] τ24) (am_ite ((r24 - (x2 - x6)) < x5) (R_Mod_mend d K 62 [.ref 153, .int x1, .int x2, .int x6, .int r8, .int (r24 - (x2 - x6)), .int (x6 + nI 1), .null, .null] [] τ24) (R_Mod_mend d K 62 [.ref 153, .int x1, .int x2, .int x3, .int x4, .int x5, .int (x6 + nI 1), .null, .null] [] τ24)))))))))))))))))) : R_Mod_mend d K 62 [.ref 153, .int x1, .int x2, .int x3, .int x4, .int x5, .int x6, .null, .null] [] σ := by
  refine r_iload d_Mod_mend_62 rfl ?_
  refine r_aload_n d_Mod_mend_64 rfl ?_
  refine r_virtI [] [.int x6] d_Mod_mend_65 v_Mod_93 rfl rfl cn_153 rfl (t_Mod_n h) (fun r6 τ6 h => ?_)
  refine r_icmp2 171 (r6 ≤ x6) d_Mod_mend_68 (by decide) rfl (fun c7 => ?_) (fun c7 => ?_)
  · have h := h.1 c7
    refine r_iload_n d_Mod_mend_171 rfl ?_
    exact r_iret d_Mod_mend_172 h
  · have h := h.2 c7
    refine r_aload_n d_Mod_mend_71 rfl ?_
    refine r_getR d_Mod_mend_72 f_Mod_38 kd_153 rfl lk_153_19 ?_
    refine r_iload d_Mod_mend_75 rfl ?_
    refine r_iald d_Mod_mend_77 ce_161 ⟨h.1, ?_⟩
    have h := h.2
    refine r_aload_n d_Mod_mend_78 rfl ?_
    refine r_getR d_Mod_mend_79 f_Mod_32 kd_153 rfl lk_153_10 ?_
    refine r_iload_n d_Mod_mend_82 rfl ?_
    refine r_iald d_Mod_mend_83 ce_159 ⟨h.1, ?_⟩
    have h := h.2
    refine r_ixor d_Mod_mend_84 ?_
    refine r_statI [.int ((τ6.1 161 (Int32.toNatClampNeg x6)) ^^^ (τ6.1 159 (Int32.toNatClampNeg x1)))] [] d_Mod_mend_85 s_Mod_119 rfl rfl rfl (t_Int_bitCount h) (fun r8 τ8 h => ?_)
    refine r_istore (vs' := [.ref 153, .int x1, .int x2, .int x3, .int x4, .int x5, .int x6, .int r8, .null]) d_Mod_mend_88 rfl rfl ?_
    refine r_iload d_Mod_mend_90 rfl ?_
    refine r_iload_n d_Mod_mend_92 rfl ?_
    refine r_icmp2 103 (x2 ≤ x6) d_Mod_mend_93 (by decide) rfl (fun c9 => ?_) (fun c9 => ?_)
    · have h := h.1 c9
      refine r_iload d_Mod_mend_103 rfl ?_
      refine r_iload_n d_Mod_mend_105 rfl ?_
      refine r_isub d_Mod_mend_106 ?_
      refine r_istore (vs' := [.ref 153, .int x1, .int x2, .int x3, .int x4, .int x5, .int x6, .int r8, .int (x6 - x2)]) d_Mod_mend_107 rfl rfl ?_
      refine r_aload_n d_Mod_mend_109 rfl ?_
      refine r_virtI [] [] d_Mod_mend_110 v_Mod_93 rfl rfl cn_153 rfl (t_Mod_n h) (fun r10 τ10 h => ?_)
      refine r_iload d_Mod_mend_113 rfl ?_
      refine r_isub d_Mod_mend_115 ?_
      refine r_iload d_Mod_mend_116 rfl ?_
      refine r_icmp2 130 ((x6 - x2) ≤ (r10 - (x6 - x2))) d_Mod_mend_118 (by decide) rfl (fun c11 => ?_) (fun c11 => ?_)
      · have h := h.1 c11
        refine r_iload d_Mod_mend_130 rfl ?_
        refine r_iload d_Mod_mend_132 rfl ?_
        refine r_icmp2 165 (x4 < r8) d_Mod_mend_134 (by decide) rfl (fun c12 => ?_) (fun c12 => ?_)
        · have h := h.1 c12
          refine r_inc1 (vs' := [.ref 153, .int x1, .int x2, .int x3, .int x4, .int x5, .int (x6 + nI 1), .int r8, .int (x6 - x2)]) d_Mod_mend_165 rfl rfl rfl ?_
          refine r_goto 62 d_Mod_mend_168 (by decide) ?_
          exact am_weak (vs := [.ref 153, .int x1, .int x2, .int x3, .int x4, .int x5, .int (x6 + nI 1), .null, .null]) ⟨Or.inl rfl, Or.inl rfl, Or.inl rfl, Or.inl rfl, Or.inl rfl, Or.inl rfl, Or.inl rfl, Or.inr ⟨rfl, rfl⟩, Or.inr ⟨rfl, rfl⟩, trivial⟩ h
        · have h := h.2 c12
          refine r_iload d_Mod_mend_137 rfl ?_
          refine r_iload d_Mod_mend_139 rfl ?_
          refine r_icmp2 154 (¬ r8 = x4) d_Mod_mend_141 (by decide) rfl (fun c13 => ?_) (fun c13 => ?_)
          · have h := h.1 c13
            refine r_iload d_Mod_mend_154 rfl ?_
            refine r_istore_n (vs' := [.ref 153, .int x1, .int x2, .int x6, .int x4, .int x5, .int x6, .int r8, .int (x6 - x2)]) d_Mod_mend_156 rfl rfl ?_
            refine r_iload d_Mod_mend_157 rfl ?_
            refine r_istore (vs' := [.ref 153, .int x1, .int x2, .int x6, .int r8, .int x5, .int x6, .int r8, .int (x6 - x2)]) d_Mod_mend_159 rfl rfl ?_
            refine r_iload d_Mod_mend_161 rfl ?_
            refine r_istore (vs' := [.ref 153, .int x1, .int x2, .int x6, .int r8, .int (x6 - x2), .int x6, .int r8, .int (x6 - x2)]) d_Mod_mend_163 rfl rfl ?_
            refine r_inc1 (vs' := [.ref 153, .int x1, .int x2, .int x6, .int r8, .int (x6 - x2), .int (x6 + nI 1), .int r8, .int (x6 - x2)]) d_Mod_mend_165 rfl rfl rfl ?_
            refine r_goto 62 d_Mod_mend_168 (by decide) ?_
            exact am_weak (vs := [.ref 153, .int x1, .int x2, .int x6, .int r8, .int (x6 - x2), .int (x6 + nI 1), .null, .null]) ⟨Or.inl rfl, Or.inl rfl, Or.inl rfl, Or.inl rfl, Or.inl rfl, Or.inl rfl, Or.inl rfl, Or.inr ⟨rfl, rfl⟩, Or.inr ⟨rfl, rfl⟩, trivial⟩ h
          · have h := h.2 c13
            refine r_iload d_Mod_mend_144 rfl ?_
            refine r_iload d_Mod_mend_146 rfl ?_
            refine r_icmp2 154 ((x6 - x2) < x5) d_Mod_mend_148 (by decide) rfl (fun c14 => ?_) (fun c14 => ?_)
            · have h := h.1 c14
              refine r_iload d_Mod_mend_154 rfl ?_
              refine r_istore_n (vs' := [.ref 153, .int x1, .int x2, .int x6, .int x4, .int x5, .int x6, .int r8, .int (x6 - x2)]) d_Mod_mend_156 rfl rfl ?_
              refine r_iload d_Mod_mend_157 rfl ?_
              refine r_istore (vs' := [.ref 153, .int x1, .int x2, .int x6, .int r8, .int x5, .int x6, .int r8, .int (x6 - x2)]) d_Mod_mend_159 rfl rfl ?_
              refine r_iload d_Mod_mend_161 rfl ?_
              refine r_istore (vs' := [.ref 153, .int x1, .int x2, .int x6, .int r8, .int (x6 - x2), .int x6, .int r8, .int (x6 - x2)]) d_Mod_mend_163 rfl rfl ?_
              refine r_inc1 (vs' := [.ref 153, .int x1, .int x2, .int x6, .int r8, .int (x6 - x2), .int (x6 + nI 1), .int r8, .int (x6 - x2)]) d_Mod_mend_165 rfl rfl rfl ?_
              refine r_goto 62 d_Mod_mend_168 (by decide) ?_
              exact am_weak (vs := [.ref 153, .int x1, .int x2, .int x6, .int r8, .int (x6 - x2), .int (x6 + nI 1), .null, .null]) ⟨Or.inl rfl, Or.inl rfl, Or.inl rfl, Or.inl rfl, Or.inl rfl, Or.inl rfl, Or.inl rfl, Or.inr ⟨rfl, rfl⟩, Or.inr ⟨rfl, rfl⟩, trivial⟩ h
            · have h := h.2 c14
              refine r_goto 165 d_Mod_mend_151 (by decide) ?_
              refine r_inc1 (vs' := [.ref 153, .int x1, .int x2, .int x3, .int x4, .int x5, .int (x6 + nI 1), .int r8, .int (x6 - x2)]) d_Mod_mend_165 rfl rfl rfl ?_
              refine r_goto 62 d_Mod_mend_168 (by decide) ?_
              exact am_weak (vs := [.ref 153, .int x1, .int x2, .int x3, .int x4, .int x5, .int (x6 + nI 1), .null, .null]) ⟨Or.inl rfl, Or.inl rfl, Or.inl rfl, Or.inl rfl, Or.inl rfl, Or.inl rfl, Or.inl rfl, Or.inr ⟨rfl, rfl⟩, Or.inr ⟨rfl, rfl⟩, trivial⟩ h
      · have h := h.2 c11
        refine r_aload_n d_Mod_mend_121 rfl ?_
        refine r_virtI [] [] d_Mod_mend_122 v_Mod_93 rfl rfl cn_153 rfl (t_Mod_n h) (fun r15 τ15 h => ?_)
        refine r_iload d_Mod_mend_125 rfl ?_
        refine r_isub d_Mod_mend_127 ?_
        refine r_istore (vs' := [.ref 153, .int x1, .int x2, .int x3, .int x4, .int x5, .int x6, .int r8, .int (r15 - (x6 - x2))]) d_Mod_mend_128 rfl rfl ?_
        refine r_iload d_Mod_mend_130 rfl ?_
        refine r_iload d_Mod_mend_132 rfl ?_
        refine r_icmp2 165 (x4 < r8) d_Mod_mend_134 (by decide) rfl (fun c16 => ?_) (fun c16 => ?_)
        · have h := h.1 c16
          refine r_inc1 (vs' := [.ref 153, .int x1, .int x2, .int x3, .int x4, .int x5, .int (x6 + nI 1), .int r8, .int (r15 - (x6 - x2))]) d_Mod_mend_165 rfl rfl rfl ?_
          refine r_goto 62 d_Mod_mend_168 (by decide) ?_
          exact am_weak (vs := [.ref 153, .int x1, .int x2, .int x3, .int x4, .int x5, .int (x6 + nI 1), .null, .null]) ⟨Or.inl rfl, Or.inl rfl, Or.inl rfl, Or.inl rfl, Or.inl rfl, Or.inl rfl, Or.inl rfl, Or.inr ⟨rfl, rfl⟩, Or.inr ⟨rfl, rfl⟩, trivial⟩ h
        · have h := h.2 c16
          refine r_iload d_Mod_mend_137 rfl ?_
          refine r_iload d_Mod_mend_139 rfl ?_
          refine r_icmp2 154 (¬ r8 = x4) d_Mod_mend_141 (by decide) rfl (fun c17 => ?_) (fun c17 => ?_)
          · have h := h.1 c17
            refine r_iload d_Mod_mend_154 rfl ?_
            refine r_istore_n (vs' := [.ref 153, .int x1, .int x2, .int x6, .int x4, .int x5, .int x6, .int r8, .int (r15 - (x6 - x2))]) d_Mod_mend_156 rfl rfl ?_
            refine r_iload d_Mod_mend_157 rfl ?_
            refine r_istore (vs' := [.ref 153, .int x1, .int x2, .int x6, .int r8, .int x5, .int x6, .int r8, .int (r15 - (x6 - x2))]) d_Mod_mend_159 rfl rfl ?_
            refine r_iload d_Mod_mend_161 rfl ?_
            refine r_istore (vs' := [.ref 153, .int x1, .int x2, .int x6, .int r8, .int (r15 - (x6 - x2)), .int x6, .int r8, .int (r15 - (x6 - x2))]) d_Mod_mend_163 rfl rfl ?_
            refine r_inc1 (vs' := [.ref 153, .int x1, .int x2, .int x6, .int r8, .int (r15 - (x6 - x2)), .int (x6 + nI 1), .int r8, .int (r15 - (x6 - x2))]) d_Mod_mend_165 rfl rfl rfl ?_
            refine r_goto 62 d_Mod_mend_168 (by decide) ?_
            exact am_weak (vs := [.ref 153, .int x1, .int x2, .int x6, .int r8, .int (r15 - (x6 - x2)), .int (x6 + nI 1), .null, .null]) ⟨Or.inl rfl, Or.inl rfl, Or.inl rfl, Or.inl rfl, Or.inl rfl, Or.inl rfl, Or.inl rfl, Or.inr ⟨rfl, rfl⟩, Or.inr ⟨rfl, rfl⟩, trivial⟩ h
          · have h := h.2 c17
            refine r_iload d_Mod_mend_144 rfl ?_
            refine r_iload d_Mod_mend_146 rfl ?_
            refine r_icmp2 154 ((r15 - (x6 - x2)) < x5) d_Mod_mend_148 (by decide) rfl (fun c18 => ?_) (fun c18 => ?_)
            · have h := h.1 c18
              refine r_iload d_Mod_mend_154 rfl ?_
              refine r_istore_n (vs' := [.ref 153, .int x1, .int x2, .int x6, .int x4, .int x5, .int x6, .int r8, .int (r15 - (x6 - x2))]) d_Mod_mend_156 rfl rfl ?_
              refine r_iload d_Mod_mend_157 rfl ?_
              refine r_istore (vs' := [.ref 153, .int x1, .int x2, .int x6, .int r8, .int x5, .int x6, .int r8, .int (r15 - (x6 - x2))]) d_Mod_mend_159 rfl rfl ?_
              refine r_iload d_Mod_mend_161 rfl ?_
              refine r_istore (vs' := [.ref 153, .int x1, .int x2, .int x6, .int r8, .int (r15 - (x6 - x2)), .int x6, .int r8, .int (r15 - (x6 - x2))]) d_Mod_mend_163 rfl rfl ?_
              refine r_inc1 (vs' := [.ref 153, .int x1, .int x2, .int x6, .int r8, .int (r15 - (x6 - x2)), .int (x6 + nI 1), .int r8, .int (r15 - (x6 - x2))]) d_Mod_mend_165 rfl rfl rfl ?_
              refine r_goto 62 d_Mod_mend_168 (by decide) ?_
              exact am_weak (vs := [.ref 153, .int x1, .int x2, .int x6, .int r8, .int (r15 - (x6 - x2)), .int (x6 + nI 1), .null, .null]) ⟨Or.inl rfl, Or.inl rfl, Or.inl rfl, Or.inl rfl, Or.inl rfl, Or.inl rfl, Or.inl rfl, Or.inr ⟨rfl, rfl⟩, Or.inr ⟨rfl, rfl⟩, trivial⟩ h
            · have h := h.2 c18
              refine r_goto 165 d_Mod_mend_151 (by decide) ?_
              refine r_inc1 (vs' := [.ref 153, .int x1, .int x2, .int x3, .int x4, .int x5, .int (x6 + nI 1), .int r8, .int (r15 - (x6 - x2))]) d_Mod_mend_165 rfl rfl rfl ?_
              refine r_goto 62 d_Mod_mend_168 (by decide) ?_
              exact am_weak (vs := [.ref 153, .int x1, .int x2, .int x3, .int x4, .int x5, .int (x6 + nI 1), .null, .null]) ⟨Or.inl rfl, Or.inl rfl, Or.inl rfl, Or.inl rfl, Or.inl rfl, Or.inl rfl, Or.inl rfl, Or.inr ⟨rfl, rfl⟩, Or.inr ⟨rfl, rfl⟩, trivial⟩ h
    · have h := h.2 c9
      refine r_iload_n d_Mod_mend_96 rfl ?_
      refine r_iload d_Mod_mend_97 rfl ?_
      refine r_isub d_Mod_mend_99 ?_
      refine r_goto 107 d_Mod_mend_100 (by decide) ?_
      refine r_istore (vs' := [.ref 153, .int x1, .int x2, .int x3, .int x4, .int x5, .int x6, .int r8, .int (x2 - x6)]) d_Mod_mend_107 rfl rfl ?_
      refine r_aload_n d_Mod_mend_109 rfl ?_
      refine r_virtI [] [] d_Mod_mend_110 v_Mod_93 rfl rfl cn_153 rfl (t_Mod_n h) (fun r19 τ19 h => ?_)
      refine r_iload d_Mod_mend_113 rfl ?_
      refine r_isub d_Mod_mend_115 ?_
      refine r_iload d_Mod_mend_116 rfl ?_
      refine r_icmp2 130 ((x2 - x6) ≤ (r19 - (x2 - x6))) d_Mod_mend_118 (by decide) rfl (fun c20 => ?_) (fun c20 => ?_)
      · have h := h.1 c20
        refine r_iload d_Mod_mend_130 rfl ?_
        refine r_iload d_Mod_mend_132 rfl ?_
        refine r_icmp2 165 (x4 < r8) d_Mod_mend_134 (by decide) rfl (fun c21 => ?_) (fun c21 => ?_)
        · have h := h.1 c21
          refine r_inc1 (vs' := [.ref 153, .int x1, .int x2, .int x3, .int x4, .int x5, .int (x6 + nI 1), .int r8, .int (x2 - x6)]) d_Mod_mend_165 rfl rfl rfl ?_
          refine r_goto 62 d_Mod_mend_168 (by decide) ?_
          exact am_weak (vs := [.ref 153, .int x1, .int x2, .int x3, .int x4, .int x5, .int (x6 + nI 1), .null, .null]) ⟨Or.inl rfl, Or.inl rfl, Or.inl rfl, Or.inl rfl, Or.inl rfl, Or.inl rfl, Or.inl rfl, Or.inr ⟨rfl, rfl⟩, Or.inr ⟨rfl, rfl⟩, trivial⟩ h
        · have h := h.2 c21
          refine r_iload d_Mod_mend_137 rfl ?_
          refine r_iload d_Mod_mend_139 rfl ?_
          refine r_icmp2 154 (¬ r8 = x4) d_Mod_mend_141 (by decide) rfl (fun c22 => ?_) (fun c22 => ?_)
          · have h := h.1 c22
            refine r_iload d_Mod_mend_154 rfl ?_
            refine r_istore_n (vs' := [.ref 153, .int x1, .int x2, .int x6, .int x4, .int x5, .int x6, .int r8, .int (x2 - x6)]) d_Mod_mend_156 rfl rfl ?_
            refine r_iload d_Mod_mend_157 rfl ?_
            refine r_istore (vs' := [.ref 153, .int x1, .int x2, .int x6, .int r8, .int x5, .int x6, .int r8, .int (x2 - x6)]) d_Mod_mend_159 rfl rfl ?_
            refine r_iload d_Mod_mend_161 rfl ?_
            refine r_istore (vs' := [.ref 153, .int x1, .int x2, .int x6, .int r8, .int (x2 - x6), .int x6, .int r8, .int (x2 - x6)]) d_Mod_mend_163 rfl rfl ?_
            refine r_inc1 (vs' := [.ref 153, .int x1, .int x2, .int x6, .int r8, .int (x2 - x6), .int (x6 + nI 1), .int r8, .int (x2 - x6)]) d_Mod_mend_165 rfl rfl rfl ?_
            refine r_goto 62 d_Mod_mend_168 (by decide) ?_
            exact am_weak (vs := [.ref 153, .int x1, .int x2, .int x6, .int r8, .int (x2 - x6), .int (x6 + nI 1), .null, .null]) ⟨Or.inl rfl, Or.inl rfl, Or.inl rfl, Or.inl rfl, Or.inl rfl, Or.inl rfl, Or.inl rfl, Or.inr ⟨rfl, rfl⟩, Or.inr ⟨rfl, rfl⟩, trivial⟩ h
          · have h := h.2 c22
            refine r_iload d_Mod_mend_144 rfl ?_
            refine r_iload d_Mod_mend_146 rfl ?_
            refine r_icmp2 154 ((x2 - x6) < x5) d_Mod_mend_148 (by decide) rfl (fun c23 => ?_) (fun c23 => ?_)
            · have h := h.1 c23
              refine r_iload d_Mod_mend_154 rfl ?_
              refine r_istore_n (vs' := [.ref 153, .int x1, .int x2, .int x6, .int x4, .int x5, .int x6, .int r8, .int (x2 - x6)]) d_Mod_mend_156 rfl rfl ?_
              refine r_iload d_Mod_mend_157 rfl ?_
              refine r_istore (vs' := [.ref 153, .int x1, .int x2, .int x6, .int r8, .int x5, .int x6, .int r8, .int (x2 - x6)]) d_Mod_mend_159 rfl rfl ?_
              refine r_iload d_Mod_mend_161 rfl ?_
              refine r_istore (vs' := [.ref 153, .int x1, .int x2, .int x6, .int r8, .int (x2 - x6), .int x6, .int r8, .int (x2 - x6)]) d_Mod_mend_163 rfl rfl ?_
              refine r_inc1 (vs' := [.ref 153, .int x1, .int x2, .int x6, .int r8, .int (x2 - x6), .int (x6 + nI 1), .int r8, .int (x2 - x6)]) d_Mod_mend_165 rfl rfl rfl ?_
              refine r_goto 62 d_Mod_mend_168 (by decide) ?_
              exact am_weak (vs := [.ref 153, .int x1, .int x2, .int x6, .int r8, .int (x2 - x6), .int (x6 + nI 1), .null, .null]) ⟨Or.inl rfl, Or.inl rfl, Or.inl rfl, Or.inl rfl, Or.inl rfl, Or.inl rfl, Or.inl rfl, Or.inr ⟨rfl, rfl⟩, Or.inr ⟨rfl, rfl⟩, trivial⟩ h
            · have h := h.2 c23
              refine r_goto 165 d_Mod_mend_151 (by decide) ?_
              refine r_inc1 (vs' := [.ref 153, .int x1, .int x2, .int x3, .int x4, .int x5, .int (x6 + nI 1), .int r8, .int (x2 - x6)]) d_Mod_mend_165 rfl rfl rfl ?_
              refine r_goto 62 d_Mod_mend_168 (by decide) ?_
              exact am_weak (vs := [.ref 153, .int x1, .int x2, .int x3, .int x4, .int x5, .int (x6 + nI 1), .null, .null]) ⟨Or.inl rfl, Or.inl rfl, Or.inl rfl, Or.inl rfl, Or.inl rfl, Or.inl rfl, Or.inl rfl, Or.inr ⟨rfl, rfl⟩, Or.inr ⟨rfl, rfl⟩, trivial⟩ h
      · have h := h.2 c20
        refine r_aload_n d_Mod_mend_121 rfl ?_
        refine r_virtI [] [] d_Mod_mend_122 v_Mod_93 rfl rfl cn_153 rfl (t_Mod_n h) (fun r24 τ24 h => ?_)
        refine r_iload d_Mod_mend_125 rfl ?_
        refine r_isub d_Mod_mend_127 ?_
        refine r_istore (vs' := [.ref 153, .int x1, .int x2, .int x3, .int x4, .int x5, .int x6, .int r8, .int (r24 - (x2 - x6))]) d_Mod_mend_128 rfl rfl ?_
        refine r_iload d_Mod_mend_130 rfl ?_
        refine r_iload d_Mod_mend_132 rfl ?_
        refine r_icmp2 165 (x4 < r8) d_Mod_mend_134 (by decide) rfl (fun c25 => ?_) (fun c25 => ?_)
        · have h := h.1 c25
          refine r_inc1 (vs' := [.ref 153, .int x1, .int x2, .int x3, .int x4, .int x5, .int (x6 + nI 1), .int r8, .int (r24 - (x2 - x6))]) d_Mod_mend_165 rfl rfl rfl ?_
          refine r_goto 62 d_Mod_mend_168 (by decide) ?_
          exact am_weak (vs := [.ref 153, .int x1, .int x2, .int x3, .int x4, .int x5, .int (x6 + nI 1), .null, .null]) ⟨Or.inl rfl, Or.inl rfl, Or.inl rfl, Or.inl rfl, Or.inl rfl, Or.inl rfl, Or.inl rfl, Or.inr ⟨rfl, rfl⟩, Or.inr ⟨rfl, rfl⟩, trivial⟩ h
        · have h := h.2 c25
          refine r_iload d_Mod_mend_137 rfl ?_
          refine r_iload d_Mod_mend_139 rfl ?_
          refine r_icmp2 154 (¬ r8 = x4) d_Mod_mend_141 (by decide) rfl (fun c26 => ?_) (fun c26 => ?_)
          · have h := h.1 c26
            refine r_iload d_Mod_mend_154 rfl ?_
            refine r_istore_n (vs' := [.ref 153, .int x1, .int x2, .int x6, .int x4, .int x5, .int x6, .int r8, .int (r24 - (x2 - x6))]) d_Mod_mend_156 rfl rfl ?_
            refine r_iload d_Mod_mend_157 rfl ?_
            refine r_istore (vs' := [.ref 153, .int x1, .int x2, .int x6, .int r8, .int x5, .int x6, .int r8, .int (r24 - (x2 - x6))]) d_Mod_mend_159 rfl rfl ?_
            refine r_iload d_Mod_mend_161 rfl ?_
            refine r_istore (vs' := [.ref 153, .int x1, .int x2, .int x6, .int r8, .int (r24 - (x2 - x6)), .int x6, .int r8, .int (r24 - (x2 - x6))]) d_Mod_mend_163 rfl rfl ?_
            refine r_inc1 (vs' := [.ref 153, .int x1, .int x2, .int x6, .int r8, .int (r24 - (x2 - x6)), .int (x6 + nI 1), .int r8, .int (r24 - (x2 - x6))]) d_Mod_mend_165 rfl rfl rfl ?_
            refine r_goto 62 d_Mod_mend_168 (by decide) ?_
            exact am_weak (vs := [.ref 153, .int x1, .int x2, .int x6, .int r8, .int (r24 - (x2 - x6)), .int (x6 + nI 1), .null, .null]) ⟨Or.inl rfl, Or.inl rfl, Or.inl rfl, Or.inl rfl, Or.inl rfl, Or.inl rfl, Or.inl rfl, Or.inr ⟨rfl, rfl⟩, Or.inr ⟨rfl, rfl⟩, trivial⟩ h
          · have h := h.2 c26
            refine r_iload d_Mod_mend_144 rfl ?_
            refine r_iload d_Mod_mend_146 rfl ?_
            refine r_icmp2 154 ((r24 - (x2 - x6)) < x5) d_Mod_mend_148 (by decide) rfl (fun c27 => ?_) (fun c27 => ?_)
            · have h := h.1 c27
              refine r_iload d_Mod_mend_154 rfl ?_
              refine r_istore_n (vs' := [.ref 153, .int x1, .int x2, .int x6, .int x4, .int x5, .int x6, .int r8, .int (r24 - (x2 - x6))]) d_Mod_mend_156 rfl rfl ?_
              refine r_iload d_Mod_mend_157 rfl ?_
              refine r_istore (vs' := [.ref 153, .int x1, .int x2, .int x6, .int r8, .int x5, .int x6, .int r8, .int (r24 - (x2 - x6))]) d_Mod_mend_159 rfl rfl ?_
              refine r_iload d_Mod_mend_161 rfl ?_
              refine r_istore (vs' := [.ref 153, .int x1, .int x2, .int x6, .int r8, .int (r24 - (x2 - x6)), .int x6, .int r8, .int (r24 - (x2 - x6))]) d_Mod_mend_163 rfl rfl ?_
              refine r_inc1 (vs' := [.ref 153, .int x1, .int x2, .int x6, .int r8, .int (r24 - (x2 - x6)), .int (x6 + nI 1), .int r8, .int (r24 - (x2 - x6))]) d_Mod_mend_165 rfl rfl rfl ?_
              refine r_goto 62 d_Mod_mend_168 (by decide) ?_
              exact am_weak (vs := [.ref 153, .int x1, .int x2, .int x6, .int r8, .int (r24 - (x2 - x6)), .int (x6 + nI 1), .null, .null]) ⟨Or.inl rfl, Or.inl rfl, Or.inl rfl, Or.inl rfl, Or.inl rfl, Or.inl rfl, Or.inl rfl, Or.inr ⟨rfl, rfl⟩, Or.inr ⟨rfl, rfl⟩, trivial⟩ h
            · have h := h.2 c27
              refine r_goto 165 d_Mod_mend_151 (by decide) ?_
              refine r_inc1 (vs' := [.ref 153, .int x1, .int x2, .int x3, .int x4, .int x5, .int (x6 + nI 1), .int r8, .int (r24 - (x2 - x6))]) d_Mod_mend_165 rfl rfl rfl ?_
              refine r_goto 62 d_Mod_mend_168 (by decide) ?_
              exact am_weak (vs := [.ref 153, .int x1, .int x2, .int x3, .int x4, .int x5, .int (x6 + nI 1), .null, .null]) ⟨Or.inl rfl, Or.inl rfl, Or.inl rfl, Or.inl rfl, Or.inl rfl, Or.inl rfl, Or.inl rfl, Or.inr ⟨rfl, rfl⟩, Or.inr ⟨rfl, rfl⟩, trivial⟩ h
