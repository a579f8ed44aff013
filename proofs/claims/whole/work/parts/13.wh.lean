abbrev R_Mod_spare (d : Nat) (K : Int32 → am_S → Prop) (pc : Nat) (vs st : List Value) (σ : am_S) : Prop := am_r (am_run (d + 4)) "WheelDiscModel" (some .int) prog_13_method_37_code (am_Ri K) pc vs st σ
def w_Mod_spare  (σ : am_S) (K : Int32 → am_S → Prop) : Prop := ∀ d : Nat, am_run (d + 5) y_Mod_spare [.ref 153] σ (am_Ri K)
theorem t_Mod_spare {d : Nat}   {σ : am_S} {K : Int32 → am_S → Prop} (h : w_Mod_spare  σ K) : am_run (d + 5) y_Mod_spare [.ref 153] σ (am_Ri K) := h d
theorem e_Mod_spare   {σ : am_S} {K : Int32 → am_S → Prop} (h : ∀ d : Nat, (w_Mod_read  (am_upI σ 153 18 (nI 0)) (fun τ1 => (w_Mod_all  τ1 (fun r2 τ2 => (w_Mod_isTrue r2 τ2 (fun r3 τ3 => (am_ite (¬ r3 = (nI 0)) (R_Mod_spare d K 26 [.ref 153, .int (nI 0), .int (nI 0)] [] τ3) (K (nI 0) τ3))))))))) : w_Mod_spare  σ K := by
  intro d
  have h := h d
  refine am_begin (vs := [.ref 153, .null, .null]) c_Mod_spare (by decide +kernel) rfl rfl rfl rfl ?_
  refine r_aload_n d_Mod_spare_0 rfl ?_
  refine r_iconst (nI 0) d_Mod_spare_1 (by decide) ?_
  refine r_putI d_Mod_spare_2 f_Mod_62 kd_153 rfl ?_
  refine r_aload_n d_Mod_spare_5 rfl ?_
  refine r_virtV [] [] d_Mod_spare_6 v_Mod_109 rfl rfl cn_153 rfl (t_Mod_read h) (fun τ1 h => ?_)
  refine r_aload_n d_Mod_spare_9 rfl ?_
  refine r_aload_n d_Mod_spare_10 rfl ?_
  refine r_virtI [] [.ref 153] d_Mod_spare_11 v_Mod_112 rfl rfl cn_153 rfl (t_Mod_all h) (fun r2 τ2 h => ?_)
  refine r_virtI [.int r2] [] d_Mod_spare_14 v_Mod_115 rfl rfl cn_153 rfl (t_Mod_isTrue h) (fun r3 τ3 h => ?_)
  refine r_if2 22 (¬ r3 = (nI 0)) d_Mod_spare_17 (by decide) rfl (fun c4 => ?_) (fun c4 => ?_)
  · have h := h.1 c4
    refine r_iconst (nI 0) d_Mod_spare_22 (by decide) ?_
    refine r_istore_n (vs' := [.ref 153, .int (nI 0), .null]) d_Mod_spare_23 rfl rfl ?_
    refine r_iconst (nI 0) d_Mod_spare_24 (by decide) ?_
    refine r_istore_n (vs' := [.ref 153, .int (nI 0), .int (nI 0)]) d_Mod_spare_25 rfl rfl ?_
    exact h
  · have h := h.2 c4
    refine r_iconst (nI 0) d_Mod_spare_20 (by decide) ?_
    exact r_iret d_Mod_spare_21 h
theorem l_Mod_spare_26 {d : Nat}  {x1 : Int32} {x2 : Int32}  {σ : am_S} {K : Int32 → am_S → Prop} (h : (w_Mod_readers  σ (fun r5 τ5 => (am_ite (r5 ≤ x2) (K x1 τ5) (w_Mod_all  τ5 (fun r7 τ7 => (w_Mod_isTrue ((r7 &&& (x1 ^^^ (-1))) &&& (((nI 1) <<< (x2 &&& 31)) ^^^ (-1))) τ7 (fun r8 τ8 => (am_ite (r8 = (nI 0)) (R_Mod_spare d K 26 [.ref 153, .int x1, .int (x2 + nI 1)] [] τ8) (R_Mod_spare d K 26 [.ref 153, .int (x1 ||| ((nI 1) <<< (x2 &&& 31))), .int (x2 + nI 1)] [] τ8)))))))))) : R_Mod_spare d K 26 [.ref 153, .int x1, .int x2] [] σ := by
  refine r_iload_n d_Mod_spare_26 rfl ?_
  refine r_aload_n d_Mod_spare_27 rfl ?_
  refine r_virtI [] [.int x2] d_Mod_spare_28 v_Mod_96 rfl rfl cn_153 rfl (t_Mod_readers h) (fun r5 τ5 h => ?_)
  refine r_icmp2 67 (r5 ≤ x2) d_Mod_spare_31 (by decide) rfl (fun c6 => ?_) (fun c6 => ?_)
  · have h := h.1 c6
    refine r_iload_n d_Mod_spare_67 rfl ?_
    exact r_iret d_Mod_spare_68 h
  · have h := h.2 c6
    refine r_aload_n d_Mod_spare_34 rfl ?_
    refine r_aload_n d_Mod_spare_35 rfl ?_
    refine r_virtI [] [.ref 153] d_Mod_spare_36 v_Mod_112 rfl rfl cn_153 rfl (t_Mod_all h) (fun r7 τ7 h => ?_)
    refine r_iload_n d_Mod_spare_39 rfl ?_
    refine r_iconst (-1) d_Mod_spare_40 (by decide) ?_
    refine r_ixor d_Mod_spare_41 ?_
    refine r_iand d_Mod_spare_42 ?_
    refine r_iconst (nI 1) d_Mod_spare_43 (by decide) ?_
    refine r_iload_n d_Mod_spare_44 rfl ?_
    refine r_ishl d_Mod_spare_45 ?_
    refine r_iconst (-1) d_Mod_spare_46 (by decide) ?_
    refine r_ixor d_Mod_spare_47 ?_
    refine r_iand d_Mod_spare_48 ?_
    refine r_virtI [.int ((r7 &&& (x1 ^^^ (-1))) &&& (((nI 1) <<< (x2 &&& 31)) ^^^ (-1)))] [] d_Mod_spare_49 v_Mod_115 rfl rfl cn_153 rfl (t_Mod_isTrue h) (fun r8 τ8 h => ?_)
    refine r_if2 61 (r8 = (nI 0)) d_Mod_spare_52 (by decide) rfl (fun c9 => ?_) (fun c9 => ?_)
    · have h := h.1 c9
      refine r_inc1 (vs' := [.ref 153, .int x1, .int (x2 + nI 1)]) d_Mod_spare_61 rfl rfl rfl ?_
      refine r_goto 26 d_Mod_spare_64 (by decide) ?_
      exact h
    · have h := h.2 c9
      refine r_iload_n d_Mod_spare_55 rfl ?_
      refine r_iconst (nI 1) d_Mod_spare_56 (by decide) ?_
      refine r_iload_n d_Mod_spare_57 rfl ?_
      refine r_ishl d_Mod_spare_58 ?_
      refine r_ior d_Mod_spare_59 ?_
      refine r_istore_n (vs' := [.ref 153, .int (x1 ||| ((nI 1) <<< (x2 &&& 31))), .int x2]) d_Mod_spare_60 rfl rfl ?_
      refine r_inc1 (vs' := [.ref 153, .int (x1 ||| ((nI 1) <<< (x2 &&& 31))), .int (x2 + nI 1)]) d_Mod_spare_61 rfl rfl rfl ?_
      refine r_goto 26 d_Mod_spare_64 (by decide) ?_
      exact h
def w_Mod_standOf (x1 : Int32) (σ : am_S) (K : Int32 → am_S → Prop) : Prop := (am_ite ((σ.1 153 25) = (nI 0)) (w_Mod_n  σ (fun r2 τ2 => (¬ r2 = nI 0 ∧ K (((σ.1 153 26) + x1) - ((σ.1 153 26) + x1) / r2 * r2) τ2))) (w_Mod_n  σ (fun r3 τ3 => (w_Mod_n  τ3 (fun r4 τ4 => (¬ r4 = nI 0 ∧ K ((((σ.1 153 26) + r3) - x1) - (((σ.1 153 26) + r3) - x1) / r4 * r4) τ4))))))
theorem t_Mod_standOf {d : Nat} {x1 : Int32}  {σ : am_S} {K : Int32 → am_S → Prop} (h : w_Mod_standOf x1 σ K) : am_run (d + 2) y_Mod_standOf [.ref 153, .int x1] σ (am_Ri K) := by
  unfold w_Mod_standOf at h
  refine am_begin (vs := [.ref 153, .int x1]) c_Mod_standOf (by decide +kernel) rfl rfl rfl rfl ?_
  refine r_aload_n d_Mod_standOf_0 rfl ?_
  refine r_getI d_Mod_standOf_1 f_Mod_136 kd_153 rfl ?_
  refine r_if2 26 ((σ.1 153 25) = (nI 0)) d_Mod_standOf_4 (by decide) rfl (fun c1 => ?_) (fun c1 => ?_)
  · have h := h.1 c1
    refine r_aload_n d_Mod_standOf_26 rfl ?_
    refine r_getI d_Mod_standOf_27 f_Mod_140 kd_153 rfl ?_
    refine r_iload_n d_Mod_standOf_30 rfl ?_
    refine r_iadd d_Mod_standOf_31 ?_
    refine r_aload_n d_Mod_standOf_32 rfl ?_
    refine r_virtI [] [.int ((σ.1 153 26) + x1)] d_Mod_standOf_33 v_Mod_93 rfl rfl cn_153 rfl (t_Mod_n h) (fun r2 τ2 h => ?_)
    refine r_irem d_Mod_standOf_36 ⟨h.1, ?_⟩
    have h := h.2
    exact r_iret d_Mod_standOf_37 h
  · have h := h.2 c1
    refine r_aload_n d_Mod_standOf_7 rfl ?_
    refine r_getI d_Mod_standOf_8 f_Mod_140 kd_153 rfl ?_
    refine r_aload_n d_Mod_standOf_11 rfl ?_
    refine r_virtI [] [.int (σ.1 153 26)] d_Mod_standOf_12 v_Mod_93 rfl rfl cn_153 rfl (t_Mod_n h) (fun r3 τ3 h => ?_)
    refine r_iadd d_Mod_standOf_15 ?_
    refine r_iload_n d_Mod_standOf_16 rfl ?_
    refine r_isub d_Mod_standOf_17 ?_
    refine r_aload_n d_Mod_standOf_18 rfl ?_
    refine r_virtI [] [.int (((σ.1 153 26) + r3) - x1)] d_Mod_standOf_19 v_Mod_93 rfl rfl cn_153 rfl (t_Mod_n h) (fun r4 τ4 h => ?_)
    refine r_irem d_Mod_standOf_22 ⟨h.1, ?_⟩
    have h := h.2
    refine r_goto 37 d_Mod_standOf_23 (by decide) ?_
    exact r_iret d_Mod_standOf_37 h
abbrev R_Mod_isAhead (d : Nat) (K : Int32 → am_S → Prop) (pc : Nat) (vs st : List Value) (σ : am_S) : Prop := am_r (am_run (d + 2)) "WheelDiscModel" (some .boolean) prog_13_method_39_code (am_Ri K) pc vs st σ
def w_Mod_isAhead (x1 : Int32) (x2 : Int32) (σ : am_S) (K : Int32 → am_S → Prop) : Prop := ∀ d : Nat, am_run (d + 3) y_Mod_isAhead [.ref 153, .int x1, .int x2] σ (am_Ri K)
theorem t_Mod_isAhead {d : Nat} {x1 : Int32} {x2 : Int32}  {σ : am_S} {K : Int32 → am_S → Prop} (h : w_Mod_isAhead x1 x2 σ K) : am_run (d + 3) y_Mod_isAhead [.ref 153, .int x1, .int x2] σ (am_Ri K) := h d
theorem e_Mod_isAhead {x1 : Int32} {x2 : Int32}  {σ : am_S} {K : Int32 → am_S → Prop} (h : ∀ d : Nat, R_Mod_isAhead d K 2 [.ref 153, .int x1, .int x2, .int (nI 0), .null, .null] [] σ) : w_Mod_isAhead x1 x2 σ K := by
  intro d
  have h := h d
  refine am_begin (vs := [.ref 153, .int x1, .int x2, .null, .null, .null]) c_Mod_isAhead (by decide +kernel) rfl rfl rfl rfl ?_
  refine r_iconst (nI 0) d_Mod_isAhead_0 (by decide) ?_
  refine r_istore_n (vs' := [.ref 153, .int x1, .int x2, .int (nI 0), .null, .null]) d_Mod_isAhead_1 rfl rfl ?_
  exact h
theorem l_Mod_isAhead_2 {d : Nat}  {x1 : Int32} {x2 : Int32} {x3 : Int32}  {σ : am_S} {K : Int32 → am_S → Prop} (h : (w_Mod_n  σ (fun r1 τ1 => (am_ite (r1 ≤ x3) (K (nI 0) τ1) (w_Mod_standOf x3 τ1 (fun r3 τ3 => (w_Mod_sees x1 r3 τ3 (fun r4 τ4 => (w_Mod_standOf x3 τ4 (fun r5 τ5 => (w_Mod_sees x2 r5 τ5 (fun r6 τ6 => (am_ite (r4 = r6) (R_Mod_isAhead d K 2 [.ref 153, .int x1, .int x2, .int (x3 + nI 1), .null, .null] [] τ6) ((r6 = nI 0 ∨ r6 = nI 1) ∧ K r6 τ6)))))))))))))) : R_Mod_isAhead d K 2 [.ref 153, .int x1, .int x2, .int x3, .null, .null] [] σ := by
  refine r_iload_n d_Mod_isAhead_2 rfl ?_
  refine r_aload_n d_Mod_isAhead_3 rfl ?_
  refine r_virtI [] [.int x3] d_Mod_isAhead_4 v_Mod_93 rfl rfl cn_153 rfl (t_Mod_n h) (fun r1 τ1 h => ?_)
  refine r_icmp2 50 (r1 ≤ x3) d_Mod_isAhead_7 (by decide) rfl (fun c2 => ?_) (fun c2 => ?_)
  · have h := h.1 c2
    refine r_iconst (nI 0) d_Mod_isAhead_50 (by decide) ?_
    exact r_zret0 d_Mod_isAhead_51 h
  · have h := h.2 c2
    refine r_aload_n d_Mod_isAhead_10 rfl ?_
    refine r_iload_n d_Mod_isAhead_11 rfl ?_
    refine r_aload_n d_Mod_isAhead_12 rfl ?_
    refine r_iload_n d_Mod_isAhead_13 rfl ?_
    refine r_virtI [.int x3] [.int x1, .ref 153] d_Mod_isAhead_14 v_Mod_143 rfl rfl cn_153 rfl (t_Mod_standOf h) (fun r3 τ3 h => ?_)
    refine r_virtI [.int x1, .int r3] [] d_Mod_isAhead_17 v_Mod_102 rfl rfl cn_153 rfl (t_Mod_sees h) (fun r4 τ4 h => ?_)
    refine r_istore (vs' := [.ref 153, .int x1, .int x2, .int x3, .int r4, .null]) d_Mod_isAhead_20 rfl rfl ?_
    refine r_aload_n d_Mod_isAhead_22 rfl ?_
    refine r_iload_n d_Mod_isAhead_23 rfl ?_
    refine r_aload_n d_Mod_isAhead_24 rfl ?_
    refine r_iload_n d_Mod_isAhead_25 rfl ?_
    refine r_virtI [.int x3] [.int x2, .ref 153] d_Mod_isAhead_26 v_Mod_143 rfl rfl cn_153 rfl (t_Mod_standOf h) (fun r5 τ5 h => ?_)
    refine r_virtI [.int x2, .int r5] [] d_Mod_isAhead_29 v_Mod_102 rfl rfl cn_153 rfl (t_Mod_sees h) (fun r6 τ6 h => ?_)
    refine r_istore (vs' := [.ref 153, .int x1, .int x2, .int x3, .int r4, .int r6]) d_Mod_isAhead_32 rfl rfl ?_
    refine r_iload d_Mod_isAhead_34 rfl ?_
    refine r_iload d_Mod_isAhead_36 rfl ?_
    refine r_icmp2 44 (r4 = r6) d_Mod_isAhead_38 (by decide) rfl (fun c7 => ?_) (fun c7 => ?_)
    · have h := h.1 c7
      refine r_inc1 (vs' := [.ref 153, .int x1, .int x2, .int (x3 + nI 1), .int r4, .int r6]) d_Mod_isAhead_44 rfl rfl rfl ?_
      refine r_goto 2 d_Mod_isAhead_47 (by decide) ?_
      exact am_weak (vs := [.ref 153, .int x1, .int x2, .int (x3 + nI 1), .null, .null]) ⟨Or.inl rfl, Or.inl rfl, Or.inl rfl, Or.inl rfl, Or.inr ⟨rfl, rfl⟩, Or.inr ⟨rfl, rfl⟩, trivial⟩ h
    · have h := h.2 c7
      refine r_iload d_Mod_isAhead_41 rfl ?_
      exact r_zret d_Mod_isAhead_43 h
abbrev R_Mod_rowOf (d : Nat) (K : am_S → Prop) (pc : Nat) (vs st : List Value) (σ : am_S) : Prop := am_r (am_run (d + 3)) "WheelDiscModel" none prog_13_method_40_code (am_Rv K) pc vs st σ
def w_Mod_rowOf  (σ : am_S) (K : am_S → Prop) : Prop := ∀ d : Nat, am_run (d + 4) y_Mod_rowOf [.ref 153] σ (am_Rv K)
theorem t_Mod_rowOf {d : Nat}   {σ : am_S} {K : am_S → Prop} (h : w_Mod_rowOf  σ K) : am_run (d + 4) y_Mod_rowOf [.ref 153] σ (am_Rv K) := h d
theorem e_Mod_rowOf   {σ : am_S} {K : am_S → Prop} (h : ∀ d : Nat, R_Mod_rowOf d K 2 [.ref 153, .int (nI 0), .null, .null] [] σ) : w_Mod_rowOf  σ K := by
  intro d
  have h := h d
  refine am_begin (vs := [.ref 153, .null, .null, .null]) c_Mod_rowOf (by decide +kernel) rfl rfl rfl rfl ?_
  refine r_iconst (nI 0) d_Mod_rowOf_0 (by decide) ?_
  refine r_istore_n (vs' := [.ref 153, .int (nI 0), .null, .null]) d_Mod_rowOf_1 rfl rfl ?_
  exact h
theorem l_Mod_rowOf_2 {d : Nat}  {x1 : Int32}  {σ : am_S} {K : am_S → Prop} (h : (w_Mod_readers  σ (fun r1 τ1 => (am_ite (r1 ≤ x1) (R_Mod_rowOf d K 67 [.ref 153, .int (nI 0), .null, .null] [] τ1) (R_Mod_rowOf d K 12 [.ref 153, .int x1, .int x1, .null] [] τ1))))) : R_Mod_rowOf d K 2 [.ref 153, .int x1, .null, .null] [] σ := by
  refine r_iload_n d_Mod_rowOf_2 rfl ?_
  refine r_aload_n d_Mod_rowOf_3 rfl ?_
  refine r_virtI [] [.int x1] d_Mod_rowOf_4 v_Mod_96 rfl rfl cn_153 rfl (t_Mod_readers h) (fun r1 τ1 h => ?_)
  refine r_icmp2 65 (r1 ≤ x1) d_Mod_rowOf_7 (by decide) rfl (fun c2 => ?_) (fun c2 => ?_)
  · have h := h.1 c2
    refine r_iconst (nI 0) d_Mod_rowOf_65 (by decide) ?_
    refine r_istore_n (vs' := [.ref 153, .int (nI 0), .null, .null]) d_Mod_rowOf_66 rfl rfl ?_
    exact h
  · have h := h.2 c2
    refine r_iload_n d_Mod_rowOf_10 rfl ?_
    refine r_istore_n (vs' := [.ref 153, .int x1, .int x1, .null]) d_Mod_rowOf_11 rfl rfl ?_
    exact h
theorem l_Mod_rowOf_67 {d : Nat}  {x1 : Int32}  {σ : am_S} {K : am_S → Prop} (h : (w_Mod_n  σ (fun r3 τ3 => (am_ite (r3 ≤ x1) (K τ3) (R_Mod_rowOf d K 79 [.ref 153, .int x1, .int (nI 0), .int (nI 0)] [] τ3))))) : R_Mod_rowOf d K 67 [.ref 153, .int x1, .null, .null] [] σ := by
  refine r_iload_n d_Mod_rowOf_67 rfl ?_
  refine r_aload_n d_Mod_rowOf_68 rfl ?_
  refine r_virtI [] [.int x1] d_Mod_rowOf_69 v_Mod_93 rfl rfl cn_153 rfl (t_Mod_n h) (fun r3 τ3 h => ?_)
  refine r_icmp2 134 (r3 ≤ x1) d_Mod_rowOf_72 (by decide) rfl (fun c4 => ?_) (fun c4 => ?_)
  · have h := h.1 c4
    exact r_vret d_Mod_rowOf_134 h
  · have h := h.2 c4
    refine r_iconst (nI 0) d_Mod_rowOf_75 (by decide) ?_
    refine r_istore_n (vs' := [.ref 153, .int x1, .int (nI 0), .null]) d_Mod_rowOf_76 rfl rfl ?_
    refine r_iconst (nI 0) d_Mod_rowOf_77 (by decide) ?_
    refine r_istore_n (vs' := [.ref 153, .int x1, .int (nI 0), .int (nI 0)]) d_Mod_rowOf_78 rfl rfl ?_
    exact h
theorem l_Mod_rowOf_12 {d : Nat}  {x1 : Int32} {x2 : Int32}  {σ : am_S} {K : am_S → Prop} (h : (am_ite (x2 ≤ (nI 0)) (vp_in x2 10 ∧ R_Mod_rowOf d K 2 [.ref 153, .int (x1 + nI 1), .null, .null] [] (am_upI σ 164 (Int32.toNatClampNeg x2) x1)) (vp_in (x2 - (nI 1)) 10 ∧ (w_Mod_isAhead x1 (σ.1 164 (Int32.toNatClampNeg (x2 - (nI 1)))) σ (fun r6 τ6 => (am_ite (r6 = (nI 0)) (vp_in x2 10 ∧ R_Mod_rowOf d K 2 [.ref 153, .int (x1 + nI 1), .null, .null] [] (am_upI τ6 164 (Int32.toNatClampNeg x2) x1)) (vp_in (x2 - (nI 1)) 10 ∧ (vp_in x2 10 ∧ R_Mod_rowOf d K 12 [.ref 153, .int x1, .int (x2 - nI 1), .null] [] (am_upI τ6 164 (Int32.toNatClampNeg x2) (τ6.1 164 (Int32.toNatClampNeg (x2 - (nI 1))))))))))))) : R_Mod_rowOf d K 12 [.ref 153, .int x1, .int x2, .null] [] σ := by
  refine r_iload_n d_Mod_rowOf_12 rfl ?_
  refine r_if2 52 (x2 ≤ (nI 0)) d_Mod_rowOf_13 (by decide) rfl (fun c5 => ?_) (fun c5 => ?_)
  · have h := h.1 c5
    refine r_aload_n d_Mod_rowOf_52 rfl ?_
    refine r_getR d_Mod_rowOf_53 f_Mod_47 kd_153 rfl lk_153_22 ?_
    refine r_iload_n d_Mod_rowOf_56 rfl ?_
    refine r_iload_n d_Mod_rowOf_57 rfl ?_
    refine r_iast d_Mod_rowOf_58 ce_164 ⟨h.1, ?_⟩
    have h := h.2
    refine r_inc1 (vs' := [.ref 153, .int (x1 + nI 1), .int x2, .null]) d_Mod_rowOf_59 rfl rfl rfl ?_
    refine r_goto 2 d_Mod_rowOf_62 (by decide) ?_
    exact am_weak (vs := [.ref 153, .int (x1 + nI 1), .null, .null]) ⟨Or.inl rfl, Or.inl rfl, Or.inr ⟨rfl, rfl⟩, Or.inl rfl, trivial⟩ h
  · have h := h.2 c5
    refine r_aload_n d_Mod_rowOf_16 rfl ?_
    refine r_iload_n d_Mod_rowOf_17 rfl ?_
    refine r_aload_n d_Mod_rowOf_18 rfl ?_
    refine r_getR d_Mod_rowOf_19 f_Mod_47 kd_153 rfl lk_153_22 ?_
    refine r_iload_n d_Mod_rowOf_22 rfl ?_
    refine r_iconst (nI 1) d_Mod_rowOf_23 (by decide) ?_
    refine r_isub d_Mod_rowOf_24 ?_
    refine r_iald d_Mod_rowOf_25 ce_164 ⟨h.1, ?_⟩
    have h := h.2
    refine r_virtI [.int x1, .int (σ.1 164 (Int32.toNatClampNeg (x2 - (nI 1))))] [] d_Mod_rowOf_26 v_Mod_146 rfl rfl cn_153 rfl (t_Mod_isAhead h) (fun r6 τ6 h => ?_)
    refine r_if2 52 (r6 = (nI 0)) d_Mod_rowOf_29 (by decide) rfl (fun c7 => ?_) (fun c7 => ?_)
    · have h := h.1 c7
      refine r_aload_n d_Mod_rowOf_52 rfl ?_
      refine r_getR d_Mod_rowOf_53 f_Mod_47 kd_153 rfl lk_153_22 ?_
      refine r_iload_n d_Mod_rowOf_56 rfl ?_
      refine r_iload_n d_Mod_rowOf_57 rfl ?_
      refine r_iast d_Mod_rowOf_58 ce_164 ⟨h.1, ?_⟩
      have h := h.2
      refine r_inc1 (vs' := [.ref 153, .int (x1 + nI 1), .int x2, .null]) d_Mod_rowOf_59 rfl rfl rfl ?_
      refine r_goto 2 d_Mod_rowOf_62 (by decide) ?_
      exact am_weak (vs := [.ref 153, .int (x1 + nI 1), .null, .null]) ⟨Or.inl rfl, Or.inl rfl, Or.inr ⟨rfl, rfl⟩, Or.inl rfl, trivial⟩ h
    · have h := h.2 c7
      refine r_aload_n d_Mod_rowOf_32 rfl ?_
      refine r_getR d_Mod_rowOf_33 f_Mod_47 kd_153 rfl lk_153_22 ?_
      refine r_iload_n d_Mod_rowOf_36 rfl ?_
      refine r_aload_n d_Mod_rowOf_37 rfl ?_
      refine r_getR d_Mod_rowOf_38 f_Mod_47 kd_153 rfl lk_153_22 ?_
      refine r_iload_n d_Mod_rowOf_41 rfl ?_
      refine r_iconst (nI 1) d_Mod_rowOf_42 (by decide) ?_
      refine r_isub d_Mod_rowOf_43 ?_
      refine r_iald d_Mod_rowOf_44 ce_164 ⟨h.1, ?_⟩
      have h := h.2
      refine r_iast d_Mod_rowOf_45 ce_164 ⟨h.1, ?_⟩
      have h := h.2
      refine r_dec1 (vs' := [.ref 153, .int x1, .int (x2 - nI 1), .null]) d_Mod_rowOf_46 rfl rfl rfl ?_
      refine r_goto 12 d_Mod_rowOf_49 (by decide) ?_
      exact h
theorem l_Mod_rowOf_79 {d : Nat}  {x1 : Int32} {x2 : Int32} {x3 : Int32}  {σ : am_S} {K : am_S → Prop} (h : (w_Mod_readers  σ (fun r8 τ8 => (am_ite (r8 ≤ x3) (vp_in x1 512 ∧ R_Mod_rowOf d K 67 [.ref 153, .int (x1 + nI 1), .null, .null] [] (am_upI τ8 163 (Int32.toNatClampNeg x1) x2)) (vp_in x3 10 ∧ (w_Mod_standOf x1 τ8 (fun r10 τ10 => (w_Mod_sees (τ8.1 164 (Int32.toNatClampNeg x3)) r10 τ10 (fun r11 τ11 => (am_ite (r11 = (nI 0)) (R_Mod_rowOf d K 79 [.ref 153, .int x1, .int (((nI 2) * x2) + (nI 0)), .int (x3 + nI 1)] [] τ11) (R_Mod_rowOf d K 79 [.ref 153, .int x1, .int (((nI 2) * x2) + (nI 1)), .int (x3 + nI 1)] [] τ11))))))))))) : R_Mod_rowOf d K 79 [.ref 153, .int x1, .int x2, .int x3] [] σ := by
  refine r_iload_n d_Mod_rowOf_79 rfl ?_
  refine r_aload_n d_Mod_rowOf_80 rfl ?_
  refine r_virtI [] [.int x3] d_Mod_rowOf_81 v_Mod_96 rfl rfl cn_153 rfl (t_Mod_readers h) (fun r8 τ8 h => ?_)
  refine r_icmp2 121 (r8 ≤ x3) d_Mod_rowOf_84 (by decide) rfl (fun c9 => ?_) (fun c9 => ?_)
  · have h := h.1 c9
    refine r_aload_n d_Mod_rowOf_121 rfl ?_
    refine r_getR d_Mod_rowOf_122 f_Mod_44 kd_153 rfl lk_153_21 ?_
    refine r_iload_n d_Mod_rowOf_125 rfl ?_
    refine r_iload_n d_Mod_rowOf_126 rfl ?_
    refine r_iast d_Mod_rowOf_127 ce_163 ⟨h.1, ?_⟩
    have h := h.2
    refine r_inc1 (vs' := [.ref 153, .int (x1 + nI 1), .int x2, .int x3]) d_Mod_rowOf_128 rfl rfl rfl ?_
    refine r_goto 67 d_Mod_rowOf_131 (by decide) ?_
    exact am_weak (vs := [.ref 153, .int (x1 + nI 1), .null, .null]) ⟨Or.inl rfl, Or.inl rfl, Or.inr ⟨rfl, rfl⟩, Or.inr ⟨rfl, rfl⟩, trivial⟩ h
  · have h := h.2 c9
    refine r_iconst (nI 2) d_Mod_rowOf_87 (by decide) ?_
    refine r_iload_n d_Mod_rowOf_88 rfl ?_
    refine r_imul d_Mod_rowOf_89 ?_
    refine r_aload_n d_Mod_rowOf_90 rfl ?_
    refine r_aload_n d_Mod_rowOf_91 rfl ?_
    refine r_getR d_Mod_rowOf_92 f_Mod_47 kd_153 rfl lk_153_22 ?_
    refine r_iload_n d_Mod_rowOf_95 rfl ?_
    refine r_iald d_Mod_rowOf_96 ce_164 ⟨h.1, ?_⟩
    have h := h.2
    refine r_aload_n d_Mod_rowOf_97 rfl ?_
    refine r_iload_n d_Mod_rowOf_98 rfl ?_
    refine r_virtI [.int x1] [.int (τ8.1 164 (Int32.toNatClampNeg x3)), .ref 153, .int ((nI 2) * x2)] d_Mod_rowOf_99 v_Mod_143 rfl rfl cn_153 rfl (t_Mod_standOf h) (fun r10 τ10 h => ?_)
    refine r_virtI [.int (τ8.1 164 (Int32.toNatClampNeg x3)), .int r10] [.int ((nI 2) * x2)] d_Mod_rowOf_102 v_Mod_102 rfl rfl cn_153 rfl (t_Mod_sees h) (fun r11 τ11 h => ?_)
    refine r_if2 112 (r11 = (nI 0)) d_Mod_rowOf_105 (by decide) rfl (fun c12 => ?_) (fun c12 => ?_)
    · have h := h.1 c12
      refine r_iconst (nI 0) d_Mod_rowOf_112 (by decide) ?_
      refine r_iadd d_Mod_rowOf_113 ?_
      refine r_istore_n (vs' := [.ref 153, .int x1, .int (((nI 2) * x2) + (nI 0)), .int x3]) d_Mod_rowOf_114 rfl rfl ?_
      refine r_inc1 (vs' := [.ref 153, .int x1, .int (((nI 2) * x2) + (nI 0)), .int (x3 + nI 1)]) d_Mod_rowOf_115 rfl rfl rfl ?_
      refine r_goto 79 d_Mod_rowOf_118 (by decide) ?_
      exact h
    · have h := h.2 c12
      refine r_iconst (nI 1) d_Mod_rowOf_108 (by decide) ?_
      refine r_goto 113 d_Mod_rowOf_109 (by decide) ?_
      refine r_iadd d_Mod_rowOf_113 ?_
      refine r_istore_n (vs' := [.ref 153, .int x1, .int (((nI 2) * x2) + (nI 1)), .int x3]) d_Mod_rowOf_114 rfl rfl ?_
      refine r_inc1 (vs' := [.ref 153, .int x1, .int (((nI 2) * x2) + (nI 1)), .int (x3 + nI 1)]) d_Mod_rowOf_115 rfl rfl rfl ?_
      refine r_goto 79 d_Mod_rowOf_118 (by decide) ?_
      exact h
abbrev R_Mod_form0 (d : Nat) (K : am_S → Prop) (pc : Nat) (vs st : List Value) (σ : am_S) : Prop := am_r (am_run (d + 4)) "WheelDiscModel" none prog_13_method_41_code (am_Rv K) pc vs st σ
def w_Mod_form0  (σ : am_S) (K : am_S → Prop) : Prop := ∀ d : Nat, am_run (d + 5) y_Mod_form0 [.ref 153] σ (am_Rv K)
theorem t_Mod_form0 {d : Nat}   {σ : am_S} {K : am_S → Prop} (h : w_Mod_form0  σ K) : am_run (d + 5) y_Mod_form0 [.ref 153] σ (am_Rv K) := h d
theorem e_Mod_form0   {σ : am_S} {K : am_S → Prop} (h : ∀ d : Nat, R_Mod_form0 d K 4 [.ref 153, .int (nI 0), .int (nI 0), .null, .null] [] σ) : w_Mod_form0  σ K := by
  intro d
  have h := h d
  refine am_begin (vs := [.ref 153, .null, .null, .null, .null]) c_Mod_form0 (by decide +kernel) rfl rfl rfl rfl ?_
  refine r_iconst (nI 0) d_Mod_form0_0 (by decide) ?_
  refine r_istore_n (vs' := [.ref 153, .int (nI 0), .null, .null, .null]) d_Mod_form0_1 rfl rfl ?_
  refine r_iconst (nI 0) d_Mod_form0_2 (by decide) ?_
  refine r_istore_n (vs' := [.ref 153, .int (nI 0), .int (nI 0), .null, .null]) d_Mod_form0_3 rfl rfl ?_
  exact h
theorem l_Mod_form0_4 {d : Nat}  {x1 : Int32} {x2 : Int32}  {σ : am_S} {K : am_S → Prop} (h : (am_ite ((nI 2) ≤ x2) (K σ) (am_ite (¬ x2 = (nI 1)) (R_Mod_form0 d K 28 [.ref 153, .int x1, .int x2, .null, .null] [] (am_upI (am_upI σ 153 25 (nI 0)) 153 26 (nI 0))) (R_Mod_form0 d K 28 [.ref 153, .int x1, .int x2, .null, .null] [] (am_upI (am_upI σ 153 25 (nI 1)) 153 26 (nI 0)))))) : R_Mod_form0 d K 4 [.ref 153, .int x1, .int x2, .null, .null] [] σ := by
  refine r_iload_n d_Mod_form0_4 rfl ?_
  refine r_iconst (nI 2) d_Mod_form0_5 (by decide) ?_
  refine r_icmp2 161 ((nI 2) ≤ x2) d_Mod_form0_6 (by decide) rfl (fun c1 => ?_) (fun c1 => ?_)
  · have h := h.1 c1
    exact r_vret d_Mod_form0_161 h
  · have h := h.2 c1
    refine r_aload_n d_Mod_form0_9 rfl ?_
    refine r_iload_n d_Mod_form0_10 rfl ?_
    refine r_iconst (nI 1) d_Mod_form0_11 (by decide) ?_
    refine r_icmp2 19 (¬ x2 = (nI 1)) d_Mod_form0_12 (by decide) rfl (fun c2 => ?_) (fun c2 => ?_)
    · have h := h.1 c2
      refine r_iconst (nI 0) d_Mod_form0_19 (by decide) ?_
      refine r_putZ d_Mod_form0_20 f_Mod_136 kd_153 rfl ⟨Or.inl rfl, ?_⟩
      refine r_aload_n d_Mod_form0_23 rfl ?_
      refine r_iconst (nI 0) d_Mod_form0_24 (by decide) ?_
      refine r_putI d_Mod_form0_25 f_Mod_140 kd_153 rfl ?_
      exact h
    · have h := h.2 c2
      refine r_iconst (nI 1) d_Mod_form0_15 (by decide) ?_
      refine r_goto 20 d_Mod_form0_16 (by decide) ?_
      refine r_putZ d_Mod_form0_20 f_Mod_136 kd_153 rfl ⟨Or.inr rfl, ?_⟩
      refine r_aload_n d_Mod_form0_23 rfl ?_
      refine r_iconst (nI 0) d_Mod_form0_24 (by decide) ?_
      refine r_putI d_Mod_form0_25 f_Mod_140 kd_153 rfl ?_
      exact h
theorem l_Mod_form0_28 {d : Nat}  {x1 : Int32} {x2 : Int32}  {σ : am_S} {K : am_S → Prop} (h : (w_Mod_n  σ (fun r3 τ3 => (am_ite (r3 ≤ (σ.1 153 26)) (R_Mod_form0 d K 4 [.ref 153, .int x1, .int (x2 + nI 1), .null, .null] [] τ3) (w_Mod_rowOf  τ3 (fun τ5 => R_Mod_form0 d K 45 [.ref 153, .int x1, .int x2, .int (nI 0), .null] [] τ5)))))) : R_Mod_form0 d K 28 [.ref 153, .int x1, .int x2, .null, .null] [] σ := by
  refine r_aload_n d_Mod_form0_28 rfl ?_
  refine r_getI d_Mod_form0_29 f_Mod_140 kd_153 rfl ?_
  refine r_aload_n d_Mod_form0_32 rfl ?_
  refine r_virtI [] [.int (σ.1 153 26)] d_Mod_form0_33 v_Mod_93 rfl rfl cn_153 rfl (t_Mod_n h) (fun r3 τ3 h => ?_)
  refine r_icmp2 155 (r3 ≤ (σ.1 153 26)) d_Mod_form0_36 (by decide) rfl (fun c4 => ?_) (fun c4 => ?_)
  · have h := h.1 c4
    refine r_inc1 (vs' := [.ref 153, .int x1, .int (x2 + nI 1), .null, .null]) d_Mod_form0_155 rfl rfl rfl ?_
    refine r_goto 4 d_Mod_form0_158 (by decide) ?_
    exact h
  · have h := h.2 c4
    refine r_aload_n d_Mod_form0_39 rfl ?_
    refine r_virtV [] [] d_Mod_form0_40 v_Mod_149 rfl rfl cn_153 rfl (t_Mod_rowOf h) (fun τ5 h => ?_)
    refine r_iconst (nI 0) d_Mod_form0_43 (by decide) ?_
    refine r_istore_n (vs' := [.ref 153, .int x1, .int x2, .int (nI 0), .null]) d_Mod_form0_44 rfl rfl ?_
    exact h
theorem l_Mod_form0_45 {d : Nat}  {x1 : Int32} {x2 : Int32} {x3 : Int32}  {σ : am_S} {K : am_S → Prop} (h : (am_ite (x1 = (nI 0)) (am_ite (x1 = (nI 0)) (R_Mod_form0 d K 111 [.ref 153, .null, .int x2, .null, .int (nI 0)] [] σ) (w_Mod_n  σ (fun r8 τ8 => (am_ite (x3 = r8) (R_Mod_form0 d K 28 [.ref 153, .int x1, .int x2, .null, .null] [] (am_upI τ8 153 26 ((τ8.1 153 26) + (nI 1)))) (vp_in x3 512 ∧ (vp_in x3 512 ∧ (am_ite ((τ8.1 163 (Int32.toNatClampNeg x3)) ≤ (τ8.1 162 (Int32.toNatClampNeg x3))) (R_Mod_form0 d K 111 [.ref 153, .null, .int x2, .null, .int (nI 0)] [] τ8) (R_Mod_form0 d K 28 [.ref 153, .int x1, .int x2, .null, .null] [] (am_upI τ8 153 26 ((τ8.1 153 26) + (nI 1))))))))))) (w_Mod_n  σ (fun r11 τ11 => (am_ite (r11 ≤ x3) (am_ite (x1 = (nI 0)) (R_Mod_form0 d K 111 [.ref 153, .null, .int x2, .null, .int (nI 0)] [] τ11) (w_Mod_n  τ11 (fun r14 τ14 => (am_ite (x3 = r14) (R_Mod_form0 d K 28 [.ref 153, .int x1, .int x2, .null, .null] [] (am_upI τ14 153 26 ((τ14.1 153 26) + (nI 1)))) (vp_in x3 512 ∧ (vp_in x3 512 ∧ (am_ite ((τ14.1 163 (Int32.toNatClampNeg x3)) ≤ (τ14.1 162 (Int32.toNatClampNeg x3))) (R_Mod_form0 d K 111 [.ref 153, .null, .int x2, .null, .int (nI 0)] [] τ14) (R_Mod_form0 d K 28 [.ref 153, .int x1, .int x2, .null, .null] [] (am_upI τ14 153 26 ((τ14.1 153 26) + (nI 1))))))))))) (vp_in x3 512 ∧ (vp_in x3 512 ∧ (am_ite (¬ (τ11.1 163 (Int32.toNatClampNeg x3)) = (τ11.1 162 (Int32.toNatClampNeg x3))) (am_ite (x1 = (nI 0)) (R_Mod_form0 d K 111 [.ref 153, .null, .int x2, .null, .int (nI 0)] [] τ11) (w_Mod_n  τ11 (fun r19 τ19 => (am_ite (x3 = r19) (R_Mod_form0 d K 28 [.ref 153, .int x1, .int x2, .null, .null] [] (am_upI τ19 153 26 ((τ19.1 153 26) + (nI 1)))) (vp_in x3 512 ∧ (vp_in x3 512 ∧ (am_ite ((τ19.1 163 (Int32.toNatClampNeg x3)) ≤ (τ19.1 162 (Int32.toNatClampNeg x3))) (R_Mod_form0 d K 111 [.ref 153, .null, .int x2, .null, .int (nI 0)] [] τ19) (R_Mod_form0 d K 28 [.ref 153, .int x1, .int x2, .null, .null] [] (am_upI τ19 153 26 ((τ19.1 153 26) + (nI 1))))))))))) (R_Mod_form0 d K 45 [.ref 153, .int x1, .int x2, .int (x3 + nI 1), .null] [] τ11))))))))) : R_Mod_form0 d K 45 [.ref 153, .int x1, .int x2, .int x3, .null] [] σ := by
  refine r_iload_n d_Mod_form0_45 rfl ?_
  refine r_if2 78 (x1 = (nI 0)) d_Mod_form0_46 (by decide) rfl (fun c6 => ?_) (fun c6 => ?_)
  · have h := h.1 c6
    refine r_iload_n d_Mod_form0_78 rfl ?_
    refine r_if2 108 (x1 = (nI 0)) d_Mod_form0_79 (by decide) rfl (fun c7 => ?_) (fun c7 => ?_)
    · have h := h.1 c7
      refine r_iconst (nI 0) d_Mod_form0_108 (by decide) ?_
      refine r_istore (vs' := [.ref 153, .int x1, .int x2, .int x3, .int (nI 0)]) d_Mod_form0_109 rfl rfl ?_
      exact am_weak (vs := [.ref 153, .null, .int x2, .null, .int (nI 0)]) ⟨Or.inl rfl, Or.inr ⟨rfl, rfl⟩, Or.inl rfl, Or.inr ⟨rfl, rfl⟩, Or.inl rfl, trivial⟩ h
    · have h := h.2 c7
      refine r_iload_n d_Mod_form0_82 rfl ?_
      refine r_aload_n d_Mod_form0_83 rfl ?_
      refine r_virtI [] [.int x3] d_Mod_form0_84 v_Mod_93 rfl rfl cn_153 rfl (t_Mod_n h) (fun r8 τ8 h => ?_)
      refine r_icmp2 142 (x3 = r8) d_Mod_form0_87 (by decide) rfl (fun c9 => ?_) (fun c9 => ?_)
      · have h := h.1 c9
        refine r_aload_n d_Mod_form0_142 rfl ?_
        refine r_dup d_Mod_form0_143 rfl ?_
        refine r_getI d_Mod_form0_144 f_Mod_140 kd_153 rfl ?_
        refine r_iconst (nI 1) d_Mod_form0_147 (by decide) ?_
        refine r_iadd d_Mod_form0_148 ?_
        refine r_putI d_Mod_form0_149 f_Mod_140 kd_153 rfl ?_
        refine r_goto 28 d_Mod_form0_152 (by decide) ?_
        exact am_weak (vs := [.ref 153, .int x1, .int x2, .null, .null]) ⟨Or.inl rfl, Or.inl rfl, Or.inl rfl, Or.inr ⟨rfl, rfl⟩, Or.inl rfl, trivial⟩ h
      · have h := h.2 c9
        refine r_aload_n d_Mod_form0_90 rfl ?_
        refine r_getR d_Mod_form0_91 f_Mod_44 kd_153 rfl lk_153_21 ?_
        refine r_iload_n d_Mod_form0_94 rfl ?_
        refine r_iald d_Mod_form0_95 ce_163 ⟨h.1, ?_⟩
        have h := h.2
        refine r_aload_n d_Mod_form0_96 rfl ?_
        refine r_getR d_Mod_form0_97 f_Mod_41 kd_153 rfl lk_153_20 ?_
        refine r_iload_n d_Mod_form0_100 rfl ?_
        refine r_iald d_Mod_form0_101 ce_162 ⟨h.1, ?_⟩
        have h := h.2
        refine r_icmp2 108 ((τ8.1 163 (Int32.toNatClampNeg x3)) ≤ (τ8.1 162 (Int32.toNatClampNeg x3))) d_Mod_form0_102 (by decide) rfl (fun c10 => ?_) (fun c10 => ?_)
        · have h := h.1 c10
          refine r_iconst (nI 0) d_Mod_form0_108 (by decide) ?_
          refine r_istore (vs' := [.ref 153, .int x1, .int x2, .int x3, .int (nI 0)]) d_Mod_form0_109 rfl rfl ?_
          exact am_weak (vs := [.ref 153, .null, .int x2, .null, .int (nI 0)]) ⟨Or.inl rfl, Or.inr ⟨rfl, rfl⟩, Or.inl rfl, Or.inr ⟨rfl, rfl⟩, Or.inl rfl, trivial⟩ h
        · have h := h.2 c10
          refine r_goto 142 d_Mod_form0_105 (by decide) ?_
          refine r_aload_n d_Mod_form0_142 rfl ?_
          refine r_dup d_Mod_form0_143 rfl ?_
          refine r_getI d_Mod_form0_144 f_Mod_140 kd_153 rfl ?_
          refine r_iconst (nI 1) d_Mod_form0_147 (by decide) ?_
          refine r_iadd d_Mod_form0_148 ?_
          refine r_putI d_Mod_form0_149 f_Mod_140 kd_153 rfl ?_
          refine r_goto 28 d_Mod_form0_152 (by decide) ?_
          exact am_weak (vs := [.ref 153, .int x1, .int x2, .null, .null]) ⟨Or.inl rfl, Or.inl rfl, Or.inl rfl, Or.inr ⟨rfl, rfl⟩, Or.inl rfl, trivial⟩ h
  · have h := h.2 c6
    refine r_iload_n d_Mod_form0_49 rfl ?_
    refine r_aload_n d_Mod_form0_50 rfl ?_
    refine r_virtI [] [.int x3] d_Mod_form0_51 v_Mod_93 rfl rfl cn_153 rfl (t_Mod_n h) (fun r11 τ11 h => ?_)
    refine r_icmp2 78 (r11 ≤ x3) d_Mod_form0_54 (by decide) rfl (fun c12 => ?_) (fun c12 => ?_)
    · have h := h.1 c12
      refine r_iload_n d_Mod_form0_78 rfl ?_
      refine r_if2 108 (x1 = (nI 0)) d_Mod_form0_79 (by decide) rfl (fun c13 => ?_) (fun c13 => ?_)
      · have h := h.1 c13
        refine r_iconst (nI 0) d_Mod_form0_108 (by decide) ?_
        refine r_istore (vs' := [.ref 153, .int x1, .int x2, .int x3, .int (nI 0)]) d_Mod_form0_109 rfl rfl ?_
        exact am_weak (vs := [.ref 153, .null, .int x2, .null, .int (nI 0)]) ⟨Or.inl rfl, Or.inr ⟨rfl, rfl⟩, Or.inl rfl, Or.inr ⟨rfl, rfl⟩, Or.inl rfl, trivial⟩ h
      · have h := h.2 c13
        refine r_iload_n d_Mod_form0_82 rfl ?_
        refine r_aload_n d_Mod_form0_83 rfl ?_
        refine r_virtI [] [.int x3] d_Mod_form0_84 v_Mod_93 rfl rfl cn_153 rfl (t_Mod_n h) (fun r14 τ14 h => ?_)
        refine r_icmp2 142 (x3 = r14) d_Mod_form0_87 (by decide) rfl (fun c15 => ?_) (fun c15 => ?_)
        · have h := h.1 c15
          refine r_aload_n d_Mod_form0_142 rfl ?_
          refine r_dup d_Mod_form0_143 rfl ?_
          refine r_getI d_Mod_form0_144 f_Mod_140 kd_153 rfl ?_
          refine r_iconst (nI 1) d_Mod_form0_147 (by decide) ?_
          refine r_iadd d_Mod_form0_148 ?_
          refine r_putI d_Mod_form0_149 f_Mod_140 kd_153 rfl ?_
          refine r_goto 28 d_Mod_form0_152 (by decide) ?_
          exact am_weak (vs := [.ref 153, .int x1, .int x2, .null, .null]) ⟨Or.inl rfl, Or.inl rfl, Or.inl rfl, Or.inr ⟨rfl, rfl⟩, Or.inl rfl, trivial⟩ h
        · have h := h.2 c15
          refine r_aload_n d_Mod_form0_90 rfl ?_
          refine r_getR d_Mod_form0_91 f_Mod_44 kd_153 rfl lk_153_21 ?_
          refine r_iload_n d_Mod_form0_94 rfl ?_
          refine r_iald d_Mod_form0_95 ce_163 ⟨h.1, ?_⟩
          have h := h.2
          refine r_aload_n d_Mod_form0_96 rfl ?_
          refine r_getR d_Mod_form0_97 f_Mod_41 kd_153 rfl lk_153_20 ?_
          refine r_iload_n d_Mod_form0_100 rfl ?_
          refine r_iald d_Mod_form0_101 ce_162 ⟨h.1, ?_⟩
          have h := h.2
          refine r_icmp2 108 ((τ14.1 163 (Int32.toNatClampNeg x3)) ≤ (τ14.1 162 (Int32.toNatClampNeg x3))) d_Mod_form0_102 (by decide) rfl (fun c16 => ?_) (fun c16 => ?_)
          · have h := h.1 c16
            refine r_iconst (nI 0) d_Mod_form0_108 (by decide) ?_
            refine r_istore (vs' := [.ref 153, .int x1, .int x2, .int x3, .int (nI 0)]) d_Mod_form0_109 rfl rfl ?_
            exact am_weak (vs := [.ref 153, .null, .int x2, .null, .int (nI 0)]) ⟨Or.inl rfl, Or.inr ⟨rfl, rfl⟩, Or.inl rfl, Or.inr ⟨rfl, rfl⟩, Or.inl rfl, trivial⟩ h
          · have h := h.2 c16
            refine r_goto 142 d_Mod_form0_105 (by decide) ?_
            refine r_aload_n d_Mod_form0_142 rfl ?_
            refine r_dup d_Mod_form0_143 rfl ?_
            refine r_getI d_Mod_form0_144 f_Mod_140 kd_153 rfl ?_
            refine r_iconst (nI 1) d_Mod_form0_147 (by decide) ?_
            refine r_iadd d_Mod_form0_148 ?_
            refine r_putI d_Mod_form0_149 f_Mod_140 kd_153 rfl ?_
            refine r_goto 28 d_Mod_form0_152 (by decide) ?_
            exact am_weak (vs := [.ref 153, .int x1, .int x2, .null, .null]) ⟨Or.inl rfl, Or.inl rfl, Or.inl rfl, Or.inr ⟨rfl, rfl⟩, Or.inl rfl, trivial⟩ h
    · have h := h.2 c12
      refine r_aload_n d_Mod_form0_57 rfl ?_
      refine r_getR d_Mod_form0_58 f_Mod_44 kd_153 rfl lk_153_21 ?_
      refine r_iload_n d_Mod_form0_61 rfl ?_
      refine r_iald d_Mod_form0_62 ce_163 ⟨h.1, ?_⟩
      have h := h.2
      refine r_aload_n d_Mod_form0_63 rfl ?_
      refine r_getR d_Mod_form0_64 f_Mod_41 kd_153 rfl lk_153_20 ?_
      refine r_iload_n d_Mod_form0_67 rfl ?_
      refine r_iald d_Mod_form0_68 ce_162 ⟨h.1, ?_⟩
      have h := h.2
      refine r_icmp2 78 (¬ (τ11.1 163 (Int32.toNatClampNeg x3)) = (τ11.1 162 (Int32.toNatClampNeg x3))) d_Mod_form0_69 (by decide) rfl (fun c17 => ?_) (fun c17 => ?_)
      · have h := h.1 c17
        refine r_iload_n d_Mod_form0_78 rfl ?_
        refine r_if2 108 (x1 = (nI 0)) d_Mod_form0_79 (by decide) rfl (fun c18 => ?_) (fun c18 => ?_)
        · have h := h.1 c18
          refine r_iconst (nI 0) d_Mod_form0_108 (by decide) ?_
          refine r_istore (vs' := [.ref 153, .int x1, .int x2, .int x3, .int (nI 0)]) d_Mod_form0_109 rfl rfl ?_
          exact am_weak (vs := [.ref 153, .null, .int x2, .null, .int (nI 0)]) ⟨Or.inl rfl, Or.inr ⟨rfl, rfl⟩, Or.inl rfl, Or.inr ⟨rfl, rfl⟩, Or.inl rfl, trivial⟩ h
        · have h := h.2 c18
          refine r_iload_n d_Mod_form0_82 rfl ?_
          refine r_aload_n d_Mod_form0_83 rfl ?_
          refine r_virtI [] [.int x3] d_Mod_form0_84 v_Mod_93 rfl rfl cn_153 rfl (t_Mod_n h) (fun r19 τ19 h => ?_)
          refine r_icmp2 142 (x3 = r19) d_Mod_form0_87 (by decide) rfl (fun c20 => ?_) (fun c20 => ?_)
          · have h := h.1 c20
            refine r_aload_n d_Mod_form0_142 rfl ?_
            refine r_dup d_Mod_form0_143 rfl ?_
            refine r_getI d_Mod_form0_144 f_Mod_140 kd_153 rfl ?_
            refine r_iconst (nI 1) d_Mod_form0_147 (by decide) ?_
            refine r_iadd d_Mod_form0_148 ?_
            refine r_putI d_Mod_form0_149 f_Mod_140 kd_153 rfl ?_
            refine r_goto 28 d_Mod_form0_152 (by decide) ?_
            exact am_weak (vs := [.ref 153, .int x1, .int x2, .null, .null]) ⟨Or.inl rfl, Or.inl rfl, Or.inl rfl, Or.inr ⟨rfl, rfl⟩, Or.inl rfl, trivial⟩ h
          · have h := h.2 c20
            refine r_aload_n d_Mod_form0_90 rfl ?_
            refine r_getR d_Mod_form0_91 f_Mod_44 kd_153 rfl lk_153_21 ?_
            refine r_iload_n d_Mod_form0_94 rfl ?_
            refine r_iald d_Mod_form0_95 ce_163 ⟨h.1, ?_⟩
            have h := h.2
            refine r_aload_n d_Mod_form0_96 rfl ?_
            refine r_getR d_Mod_form0_97 f_Mod_41 kd_153 rfl lk_153_20 ?_
            refine r_iload_n d_Mod_form0_100 rfl ?_
            refine r_iald d_Mod_form0_101 ce_162 ⟨h.1, ?_⟩
            have h := h.2
            refine r_icmp2 108 ((τ19.1 163 (Int32.toNatClampNeg x3)) ≤ (τ19.1 162 (Int32.toNatClampNeg x3))) d_Mod_form0_102 (by decide) rfl (fun c21 => ?_) (fun c21 => ?_)
            · have h := h.1 c21
              refine r_iconst (nI 0) d_Mod_form0_108 (by decide) ?_
              refine r_istore (vs' := [.ref 153, .int x1, .int x2, .int x3, .int (nI 0)]) d_Mod_form0_109 rfl rfl ?_
              exact am_weak (vs := [.ref 153, .null, .int x2, .null, .int (nI 0)]) ⟨Or.inl rfl, Or.inr ⟨rfl, rfl⟩, Or.inl rfl, Or.inr ⟨rfl, rfl⟩, Or.inl rfl, trivial⟩ h
            · have h := h.2 c21
              refine r_goto 142 d_Mod_form0_105 (by decide) ?_
              refine r_aload_n d_Mod_form0_142 rfl ?_
              refine r_dup d_Mod_form0_143 rfl ?_
              refine r_getI d_Mod_form0_144 f_Mod_140 kd_153 rfl ?_
              refine r_iconst (nI 1) d_Mod_form0_147 (by decide) ?_
              refine r_iadd d_Mod_form0_148 ?_
              refine r_putI d_Mod_form0_149 f_Mod_140 kd_153 rfl ?_
              refine r_goto 28 d_Mod_form0_152 (by decide) ?_
              exact am_weak (vs := [.ref 153, .int x1, .int x2, .null, .null]) ⟨Or.inl rfl, Or.inl rfl, Or.inl rfl, Or.inr ⟨rfl, rfl⟩, Or.inl rfl, trivial⟩ h
      · have h := h.2 c17
        refine r_inc1 (vs' := [.ref 153, .int x1, .int x2, .int (x3 + nI 1), .null]) d_Mod_form0_72 rfl rfl rfl ?_
        refine r_goto 45 d_Mod_form0_75 (by decide) ?_
        exact h
theorem l_Mod_form0_111 {d : Nat}  {x2 : Int32} {x4 : Int32}  {σ : am_S} {K : am_S → Prop} (h : (w_Mod_n  σ (fun r22 τ22 => (am_ite (r22 ≤ x4) (R_Mod_form0 d K 28 [.ref 153, .int (nI 1), .int x2, .null, .null] [] (am_upI τ22 153 26 ((τ22.1 153 26) + (nI 1)))) (vp_in x4 512 ∧ (vp_in x4 512 ∧ R_Mod_form0 d K 111 [.ref 153, .null, .int x2, .null, .int (x4 + nI 1)] [] (am_upI τ22 162 (Int32.toNatClampNeg x4) (τ22.1 163 (Int32.toNatClampNeg x4))))))))) : R_Mod_form0 d K 111 [.ref 153, .null, .int x2, .null, .int x4] [] σ := by
  refine r_iload d_Mod_form0_111 rfl ?_
  refine r_aload_n d_Mod_form0_113 rfl ?_
  refine r_virtI [] [.int x4] d_Mod_form0_114 v_Mod_93 rfl rfl cn_153 rfl (t_Mod_n h) (fun r22 τ22 h => ?_)
  refine r_icmp2 140 (r22 ≤ x4) d_Mod_form0_117 (by decide) rfl (fun c23 => ?_) (fun c23 => ?_)
  · have h := h.1 c23
    refine r_iconst (nI 1) d_Mod_form0_140 (by decide) ?_
    refine r_istore_n (vs' := [.ref 153, .int (nI 1), .int x2, .null, .int x4]) d_Mod_form0_141 rfl rfl ?_
    refine r_aload_n d_Mod_form0_142 rfl ?_
    refine r_dup d_Mod_form0_143 rfl ?_
    refine r_getI d_Mod_form0_144 f_Mod_140 kd_153 rfl ?_
    refine r_iconst (nI 1) d_Mod_form0_147 (by decide) ?_
    refine r_iadd d_Mod_form0_148 ?_
    refine r_putI d_Mod_form0_149 f_Mod_140 kd_153 rfl ?_
    refine r_goto 28 d_Mod_form0_152 (by decide) ?_
    exact am_weak (vs := [.ref 153, .int (nI 1), .int x2, .null, .null]) ⟨Or.inl rfl, Or.inl rfl, Or.inl rfl, Or.inl rfl, Or.inr ⟨rfl, rfl⟩, trivial⟩ h
  · have h := h.2 c23
    refine r_aload_n d_Mod_form0_120 rfl ?_
    refine r_getR d_Mod_form0_121 f_Mod_41 kd_153 rfl lk_153_20 ?_
    refine r_iload d_Mod_form0_124 rfl ?_
    refine r_aload_n d_Mod_form0_126 rfl ?_
    refine r_getR d_Mod_form0_127 f_Mod_44 kd_153 rfl lk_153_21 ?_
    refine r_iload d_Mod_form0_130 rfl ?_
    refine r_iald d_Mod_form0_132 ce_163 ⟨h.1, ?_⟩
    have h := h.2
    refine r_iast d_Mod_form0_133 ce_162 ⟨h.1, ?_⟩
    have h := h.2
    refine r_inc1 (vs' := [.ref 153, .null, .int x2, .null, .int (x4 + nI 1)]) d_Mod_form0_134 rfl rfl rfl ?_
    refine r_goto 111 d_Mod_form0_137 (by decide) ?_
    exact h
def w_Mod_form (x1 : Int32) (σ : am_S) (K : Int32 → am_S → Prop) : Prop := (w_Mod_isStand x1 (am_upI σ 153 18 (nI 0)) (fun r1 τ1 => (am_ite (¬ r1 = (nI 0)) (w_Mod_form0  τ1 (fun τ3 => (vp_in x1 512 ∧ K (τ3.1 162 (Int32.toNatClampNeg x1)) τ3))) (w_Mod_no (nI 1) τ1 (fun r4 τ4 => K r4 τ4)))))
theorem t_Mod_form {d : Nat} {x1 : Int32}  {σ : am_S} {K : Int32 → am_S → Prop} (h : w_Mod_form x1 σ K) : am_run (d + 6) y_Mod_form [.ref 153, .int x1] σ (am_Ri K) := by
  unfold w_Mod_form at h
  refine am_begin (vs := [.ref 153, .int x1]) c_Mod_form (by decide +kernel) rfl rfl rfl rfl ?_
  refine r_aload_n d_Mod_form_0 rfl ?_
  refine r_iconst (nI 0) d_Mod_form_1 (by decide) ?_
  refine r_putI d_Mod_form_2 f_Mod_62 kd_153 rfl ?_
  refine r_aload_n d_Mod_form_5 rfl ?_
  refine r_iload_n d_Mod_form_6 rfl ?_
  refine r_virtI [.int x1] [] d_Mod_form_7 v_Mod_133 rfl rfl cn_153 rfl (t_Mod_isStand h) (fun r1 τ1 h => ?_)
  refine r_if2 19 (¬ r1 = (nI 0)) d_Mod_form_10 (by decide) rfl (fun c2 => ?_) (fun c2 => ?_)
  · have h := h.1 c2
    refine r_aload_n d_Mod_form_19 rfl ?_
    refine r_virtV [] [] d_Mod_form_20 v_Mod_152 rfl rfl cn_153 rfl (t_Mod_form0 h) (fun τ3 h => ?_)
    refine r_aload_n d_Mod_form_23 rfl ?_
    refine r_getR d_Mod_form_24 f_Mod_41 kd_153 rfl lk_153_20 ?_
    refine r_iload_n d_Mod_form_27 rfl ?_
    refine r_iald d_Mod_form_28 ce_162 ⟨h.1, ?_⟩
    have h := h.2
    exact r_iret d_Mod_form_29 h
  · have h := h.2 c2
    refine r_aload_n d_Mod_form_13 rfl ?_
    refine r_iconst (nI 1) d_Mod_form_14 (by decide) ?_
    refine r_virtI [.int (nI 1)] [] d_Mod_form_15 v_Mod_75 rfl rfl cn_153 rfl (t_Mod_no h) (fun r4 τ4 h => ?_)
    exact r_iret d_Mod_form_18 h
abbrev R_Mod_keptForm (d : Nat) (K : am_S → Prop) (pc : Nat) (vs st : List Value) (σ : am_S) : Prop := am_r (am_run (d + 5)) "WheelDiscModel" none prog_13_method_44_code (am_Rv K) pc vs st σ
def w_Mod_keptForm  (σ : am_S) (K : am_S → Prop) : Prop := ∀ d : Nat, am_run (d + 6) y_Mod_keptForm [.ref 153] σ (am_Rv K)
theorem t_Mod_keptForm {d : Nat}   {σ : am_S} {K : am_S → Prop} (h : w_Mod_keptForm  σ K) : am_run (d + 6) y_Mod_keptForm [.ref 153] σ (am_Rv K) := h d
theorem e_Mod_keptForm   {σ : am_S} {K : am_S → Prop} (h : ∀ d : Nat, (w_Mod_form0  σ (fun τ1 => R_Mod_keptForm d K 6 [.ref 153, .int (nI 0)] [] τ1))) : w_Mod_keptForm  σ K := by
  intro d
  have h := h d
  refine am_begin (vs := [.ref 153, .null]) c_Mod_keptForm (by decide +kernel) rfl rfl rfl rfl ?_
  refine r_aload_n d_Mod_keptForm_0 rfl ?_
  refine r_virtV [] [] d_Mod_keptForm_1 v_Mod_152 rfl rfl cn_153 rfl (t_Mod_form0 h) (fun τ1 h => ?_)
  refine r_iconst (nI 0) d_Mod_keptForm_4 (by decide) ?_
  refine r_istore_n (vs' := [.ref 153, .int (nI 0)]) d_Mod_keptForm_5 rfl rfl ?_
  exact h
theorem l_Mod_keptForm_6 {d : Nat}  {x1 : Int32}  {σ : am_S} {K : am_S → Prop} (h : (w_Mod_n  σ (fun r2 τ2 => (am_ite (r2 ≤ x1) (K τ2) (vp_in x1 512 ∧ (vp_in x1 512 ∧ R_Mod_keptForm d K 6 [.ref 153, .int (x1 + nI 1)] [] (am_upI τ2 167 (Int32.toNatClampNeg x1) (τ2.1 162 (Int32.toNatClampNeg x1))))))))) : R_Mod_keptForm d K 6 [.ref 153, .int x1] [] σ := by
  refine r_iload_n d_Mod_keptForm_6 rfl ?_
  refine r_aload_n d_Mod_keptForm_7 rfl ?_
  refine r_virtI [] [.int x1] d_Mod_keptForm_8 v_Mod_93 rfl rfl cn_153 rfl (t_Mod_n h) (fun r2 τ2 h => ?_)
  refine r_icmp2 32 (r2 ≤ x1) d_Mod_keptForm_11 (by decide) rfl (fun c3 => ?_) (fun c3 => ?_)
  · have h := h.1 c3
    exact r_vret d_Mod_keptForm_32 h
  · have h := h.2 c3
    refine r_aload_n d_Mod_keptForm_14 rfl ?_
    refine r_getR d_Mod_keptForm_15 f_Mod_56 kd_153 rfl lk_153_27 ?_
    refine r_iload_n d_Mod_keptForm_18 rfl ?_
    refine r_aload_n d_Mod_keptForm_19 rfl ?_
    refine r_getR d_Mod_keptForm_20 f_Mod_41 kd_153 rfl lk_153_20 ?_
    refine r_iload_n d_Mod_keptForm_23 rfl ?_
    refine r_iald d_Mod_keptForm_24 ce_162 ⟨h.1, ?_⟩
    have h := h.2
    refine r_iast d_Mod_keptForm_25 ce_167 ⟨h.1, ?_⟩
    have h := h.2
    refine r_inc1 (vs' := [.ref 153, .int (x1 + nI 1)]) d_Mod_keptForm_26 rfl rfl rfl ?_
    refine r_goto 6 d_Mod_keptForm_29 (by decide) ?_
    exact h
def w_Mod_keep  (σ : am_S) (K : Int32 → am_S → Prop) : Prop := (w_Mod_copy (nI 0) (nI 1) (am_upI σ 153 18 (nI 0)) (fun τ1 => (w_Mod_keptForm  (am_upI τ1 153 6 (nI 1)) (fun τ2 => K (nI 1) τ2))))
theorem t_Mod_keep {d : Nat}   {σ : am_S} {K : Int32 → am_S → Prop} (h : w_Mod_keep  σ K) : am_run (d + 7) y_Mod_keep [.ref 153] σ (am_Ri K) := by
  unfold w_Mod_keep at h
  refine am_begin (vs := [.ref 153]) c_Mod_keep (by decide +kernel) rfl rfl rfl rfl ?_
  refine r_aload_n d_Mod_keep_0 rfl ?_
  refine r_iconst (nI 0) d_Mod_keep_1 (by decide) ?_
  refine r_putI d_Mod_keep_2 f_Mod_62 kd_153 rfl ?_
  refine r_aload_n d_Mod_keep_5 rfl ?_
  refine r_iconst (nI 0) d_Mod_keep_6 (by decide) ?_
  refine r_iconst (nI 1) d_Mod_keep_7 (by decide) ?_
  refine r_virtV [.int (nI 0), .int (nI 1)] [] d_Mod_keep_8 v_Mod_71 rfl rfl cn_153 rfl (t_Mod_copy h) (fun τ1 h => ?_)
  refine r_aload_n d_Mod_keep_11 rfl ?_
  refine r_iconst (nI 1) d_Mod_keep_12 (by decide) ?_
  refine r_putZ d_Mod_keep_13 f_Mod_155 kd_153 rfl ⟨Or.inr rfl, ?_⟩
  refine r_aload_n d_Mod_keep_16 rfl ?_
  refine r_virtV [] [] d_Mod_keep_17 v_Mod_158 rfl rfl cn_153 rfl (t_Mod_keptForm h) (fun τ2 h => ?_)
  refine r_iconst (nI 1) d_Mod_keep_20 (by decide) ?_
  exact r_zret1 d_Mod_keep_21 h
abbrev R_Mod_same (d : Nat) (K : Int32 → am_S → Prop) (pc : Nat) (vs st : List Value) (σ : am_S) : Prop := am_r (am_run (d + 5)) "WheelDiscModel" (some .boolean) prog_13_method_45_code (am_Ri K) pc vs st σ
def w_Mod_same  (σ : am_S) (K : Int32 → am_S → Prop) : Prop := ∀ d : Nat, am_run (d + 6) y_Mod_same [.ref 153] σ (am_Ri K)
theorem t_Mod_same {d : Nat}   {σ : am_S} {K : Int32 → am_S → Prop} (h : w_Mod_same  σ K) : am_run (d + 6) y_Mod_same [.ref 153] σ (am_Ri K) := h d
theorem e_Mod_same   {σ : am_S} {K : Int32 → am_S → Prop} (h : ∀ d : Nat, (am_ite (¬ (σ.1 153 6) = (nI 0)) (am_ite (¬ (σ.1 154 3) = (σ.1 154 0)) (K (nI 0) (am_upI σ 153 18 (nI 0))) (am_ite ((σ.1 154 5) = (σ.1 154 2)) (w_Mod_form0  (am_upI σ 153 18 (nI 0)) (fun τ4 => R_Mod_same d K 60 [.ref 153, .int (nI 1), .int (nI 0)] [] τ4)) (K (nI 0) (am_upI σ 153 18 (nI 0))))) (w_Mod_no (nI 2) (am_upI σ 153 18 (nI 0)) (fun r5 τ5 => K (nI 0) τ5)))) : w_Mod_same  σ K := by
  intro d
  have h := h d
  refine am_begin (vs := [.ref 153, .null, .null]) c_Mod_same (by decide +kernel) rfl rfl rfl rfl ?_
  refine r_aload_n d_Mod_same_0 rfl ?_
  refine r_iconst (nI 0) d_Mod_same_1 (by decide) ?_
  refine r_putI d_Mod_same_2 f_Mod_62 kd_153 rfl ?_
  refine r_aload_n d_Mod_same_5 rfl ?_
  refine r_getI d_Mod_same_6 f_Mod_155 kd_153 rfl ?_
  refine r_if2 20 (¬ (σ.1 153 6) = (nI 0)) d_Mod_same_9 (by decide) rfl (fun c1 => ?_) (fun c1 => ?_)
  · have h := h.1 c1
    refine r_aload_n d_Mod_same_20 rfl ?_
    refine r_getR d_Mod_same_21 f_Mod_9 kd_153 rfl lk_153_0 ?_
    refine r_iconst (nI 3) d_Mod_same_24 (by decide) ?_
    refine r_iald d_Mod_same_25 ce_154 ⟨pk_in 3 96 (by decide), ?_⟩
    refine r_aload_n d_Mod_same_26 rfl ?_
    refine r_getR d_Mod_same_27 f_Mod_9 kd_153 rfl lk_153_0 ?_
    refine r_iconst (nI 0) d_Mod_same_30 (by decide) ?_
    refine r_iald d_Mod_same_31 ce_154 ⟨pk_in 0 96 (by decide), ?_⟩
    refine r_icmp2 50 (¬ (σ.1 154 3) = (σ.1 154 0)) d_Mod_same_32 (by decide) rfl (fun c2 => ?_) (fun c2 => ?_)
    · have h := h.1 c2
      refine r_iconst (nI 0) d_Mod_same_50 (by decide) ?_
      exact r_zret0 d_Mod_same_51 h
    · have h := h.2 c2
      refine r_aload_n d_Mod_same_35 rfl ?_
      refine r_getR d_Mod_same_36 f_Mod_9 kd_153 rfl lk_153_0 ?_
      refine r_iconst (nI 5) d_Mod_same_39 (by decide) ?_
      refine r_iald d_Mod_same_40 ce_154 ⟨pk_in 5 96 (by decide), ?_⟩
      refine r_aload_n d_Mod_same_41 rfl ?_
      refine r_getR d_Mod_same_42 f_Mod_9 kd_153 rfl lk_153_0 ?_
      refine r_iconst (nI 2) d_Mod_same_45 (by decide) ?_
      refine r_iald d_Mod_same_46 ce_154 ⟨pk_in 2 96 (by decide), ?_⟩
      refine r_icmp2 52 ((σ.1 154 5) = (σ.1 154 2)) d_Mod_same_47 (by decide) rfl (fun c3 => ?_) (fun c3 => ?_)
      · have h := h.1 c3
        refine r_aload_n d_Mod_same_52 rfl ?_
        refine r_virtV [] [] d_Mod_same_53 v_Mod_152 rfl rfl cn_153 rfl (t_Mod_form0 h) (fun τ4 h => ?_)
        refine r_iconst (nI 1) d_Mod_same_56 (by decide) ?_
        refine r_istore_n (vs' := [.ref 153, .int (nI 1), .null]) d_Mod_same_57 rfl rfl ?_
        refine r_iconst (nI 0) d_Mod_same_58 (by decide) ?_
        refine r_istore_n (vs' := [.ref 153, .int (nI 1), .int (nI 0)]) d_Mod_same_59 rfl rfl ?_
        exact h
      · have h := h.2 c3
        refine r_iconst (nI 0) d_Mod_same_50 (by decide) ?_
        exact r_zret0 d_Mod_same_51 h
  · have h := h.2 c1
    refine r_aload_n d_Mod_same_12 rfl ?_
    refine r_iconst (nI 2) d_Mod_same_13 (by decide) ?_
    refine r_virtI [.int (nI 2)] [] d_Mod_same_14 v_Mod_75 rfl rfl cn_153 rfl (t_Mod_no h) (fun r5 τ5 h => ?_)
    refine r_pop d_Mod_same_17 rfl ?_
    refine r_iconst (nI 0) d_Mod_same_18 (by decide) ?_
    exact r_zret0 d_Mod_same_19 h
theorem l_Mod_same_60 {d : Nat}  {x1 : Int32} {x2 : Int32}  {σ : am_S} {K : Int32 → am_S → Prop} (h : (w_Mod_n  σ (fun r6 τ6 => (am_ite (r6 ≤ x2) ((x1 = nI 0 ∨ x1 = nI 1) ∧ K x1 τ6) (am_ite (x1 = (nI 0)) (R_Mod_same d K 60 [.ref 153, .int (nI 0), .int (x2 + nI 1)] [] τ6) (vp_in x2 512 ∧ (vp_in x2 512 ∧ (am_ite (¬ (τ6.1 162 (Int32.toNatClampNeg x2)) = (τ6.1 167 (Int32.toNatClampNeg x2))) (R_Mod_same d K 60 [.ref 153, .int (nI 0), .int (x2 + nI 1)] [] τ6) (R_Mod_same d K 60 [.ref 153, .int (nI 1), .int (x2 + nI 1)] [] τ6))))))))) : R_Mod_same d K 60 [.ref 153, .int x1, .int x2] [] σ := by
  refine r_iload_n d_Mod_same_60 rfl ?_
  refine r_aload_n d_Mod_same_61 rfl ?_
  refine r_virtI [] [.int x2] d_Mod_same_62 v_Mod_93 rfl rfl cn_153 rfl (t_Mod_n h) (fun r6 τ6 h => ?_)
  refine r_icmp2 99 (r6 ≤ x2) d_Mod_same_65 (by decide) rfl (fun c7 => ?_) (fun c7 => ?_)
  · have h := h.1 c7
    refine r_iload_n d_Mod_same_99 rfl ?_
    exact r_zret d_Mod_same_100 h
  · have h := h.2 c7
    refine r_iload_n d_Mod_same_68 rfl ?_
    refine r_if2 91 (x1 = (nI 0)) d_Mod_same_69 (by decide) rfl (fun c8 => ?_) (fun c8 => ?_)
    · have h := h.1 c8
      refine r_iconst (nI 0) d_Mod_same_91 (by decide) ?_
      refine r_istore_n (vs' := [.ref 153, .int (nI 0), .int x2]) d_Mod_same_92 rfl rfl ?_
      refine r_inc1 (vs' := [.ref 153, .int (nI 0), .int (x2 + nI 1)]) d_Mod_same_93 rfl rfl rfl ?_
      refine r_goto 60 d_Mod_same_96 (by decide) ?_
      exact h
    · have h := h.2 c8
      refine r_aload_n d_Mod_same_72 rfl ?_
      refine r_getR d_Mod_same_73 f_Mod_41 kd_153 rfl lk_153_20 ?_
      refine r_iload_n d_Mod_same_76 rfl ?_
      refine r_iald d_Mod_same_77 ce_162 ⟨h.1, ?_⟩
      have h := h.2
      refine r_aload_n d_Mod_same_78 rfl ?_
      refine r_getR d_Mod_same_79 f_Mod_56 kd_153 rfl lk_153_27 ?_
      refine r_iload_n d_Mod_same_82 rfl ?_
      refine r_iald d_Mod_same_83 ce_167 ⟨h.1, ?_⟩
      have h := h.2
      refine r_icmp2 91 (¬ (τ6.1 162 (Int32.toNatClampNeg x2)) = (τ6.1 167 (Int32.toNatClampNeg x2))) d_Mod_same_84 (by decide) rfl (fun c9 => ?_) (fun c9 => ?_)
      · have h := h.1 c9
        refine r_iconst (nI 0) d_Mod_same_91 (by decide) ?_
        refine r_istore_n (vs' := [.ref 153, .int (nI 0), .int x2]) d_Mod_same_92 rfl rfl ?_
        refine r_inc1 (vs' := [.ref 153, .int (nI 0), .int (x2 + nI 1)]) d_Mod_same_93 rfl rfl rfl ?_
        refine r_goto 60 d_Mod_same_96 (by decide) ?_
        exact h
      · have h := h.2 c9
        refine r_iconst (nI 1) d_Mod_same_87 (by decide) ?_
        refine r_goto 92 d_Mod_same_88 (by decide) ?_
        refine r_istore_n (vs' := [.ref 153, .int (nI 1), .int x2]) d_Mod_same_92 rfl rfl ?_
        refine r_inc1 (vs' := [.ref 153, .int (nI 1), .int (x2 + nI 1)]) d_Mod_same_93 rfl rfl rfl ?_
        refine r_goto 60 d_Mod_same_96 (by decide) ?_
        exact h
abbrev R_Mod_gray (d : Nat) (K : Int32 → am_S → Prop) (pc : Nat) (vs st : List Value) (σ : am_S) : Prop := am_r (am_run (d + 2)) "WheelDiscModel" (some .boolean) prog_13_method_46_code (am_Ri K) pc vs st σ
def w_Mod_gray (x1 : Int32) (x2 : Int32) (σ : am_S) (K : Int32 → am_S → Prop) : Prop := ∀ d : Nat, am_run (d + 3) y_Mod_gray [.ref 153, .int x1, .int x2] σ (am_Ri K)
theorem t_Mod_gray {d : Nat} {x1 : Int32} {x2 : Int32}  {σ : am_S} {K : Int32 → am_S → Prop} (h : w_Mod_gray x1 x2 σ K) : am_run (d + 3) y_Mod_gray [.ref 153, .int x1, .int x2] σ (am_Ri K) := h d
theorem e_Mod_gray {x1 : Int32} {x2 : Int32}  {σ : am_S} {K : Int32 → am_S → Prop} (h : ∀ d : Nat, (am_ite (¬ (x1 - x1 / (nI 2) * (nI 2)) = (nI 0)) (w_Mod_no (nI 1) (am_upI σ 153 18 (nI 0)) (fun r2 τ2 => K (nI 0) τ2)) (am_ite (x1 < (nI 4)) (w_Mod_no (nI 1) (am_upI σ 153 18 (nI 0)) (fun r4 τ4 => K (nI 0) τ4)) (am_ite ((nI 512) < x1) (w_Mod_no (nI 1) (am_upI σ 153 18 (nI 0)) (fun r6 τ6 => K (nI 0) τ6)) (am_ite (x2 < (nI 2)) (w_Mod_no (nI 1) (am_upI σ 153 18 (nI 0)) (fun r8 τ8 => K (nI 0) τ8)) (am_ite ((nI 10) < x2) (w_Mod_no (nI 1) (am_upI σ 153 18 (nI 0)) (fun r10 τ10 => K (nI 0) τ10)) (am_ite (x1 ≤ ((nI 1) <<< (x2 &&& 31))) (w_Mod_change  (am_upI σ 153 18 (nI 0)) (fun τ12 => (w_Mod_begin x1 τ12 (fun τ13 => R_Mod_gray d K 60 [.ref 153, .int x1, .int x2, .int (nI 0), .null, .null, .null, .null] [] τ13)))) (w_Mod_no (nI 1) (am_upI σ 153 18 (nI 0)) (fun r14 τ14 => K (nI 0) τ14))))))))) : w_Mod_gray x1 x2 σ K := by
  intro d
  have h := h d
  refine am_begin (vs := [.ref 153, .int x1, .int x2, .null, .null, .null, .null, .null]) c_Mod_gray (by decide +kernel) rfl rfl rfl rfl ?_
  refine r_aload_n d_Mod_gray_0 rfl ?_
  refine r_iconst (nI 0) d_Mod_gray_1 (by decide) ?_
  refine r_putI d_Mod_gray_2 f_Mod_62 kd_153 rfl ?_
  refine r_iload_n d_Mod_gray_5 rfl ?_
  refine r_iconst (nI 2) d_Mod_gray_6 (by decide) ?_
  refine r_irem d_Mod_gray_7 ⟨by decide, ?_⟩
  refine r_if2 41 (¬ (x1 - x1 / (nI 2) * (nI 2)) = (nI 0)) d_Mod_gray_8 (by decide) rfl (fun c1 => ?_) (fun c1 => ?_)
  · have h := h.1 c1
    refine r_aload_n d_Mod_gray_41 rfl ?_
    refine r_iconst (nI 1) d_Mod_gray_42 (by decide) ?_
    refine r_virtI [.int (nI 1)] [] d_Mod_gray_43 v_Mod_75 rfl rfl cn_153 rfl (t_Mod_no h) (fun r2 τ2 h => ?_)
    refine r_pop d_Mod_gray_46 rfl ?_
    refine r_iconst (nI 0) d_Mod_gray_47 (by decide) ?_
    exact r_zret0 d_Mod_gray_48 h
  · have h := h.2 c1
    refine r_iload_n d_Mod_gray_11 rfl ?_
    refine r_iconst (nI 4) d_Mod_gray_12 (by decide) ?_
    refine r_icmp2 41 (x1 < (nI 4)) d_Mod_gray_13 (by decide) rfl (fun c3 => ?_) (fun c3 => ?_)
    · have h := h.1 c3
      refine r_aload_n d_Mod_gray_41 rfl ?_
      refine r_iconst (nI 1) d_Mod_gray_42 (by decide) ?_
      refine r_virtI [.int (nI 1)] [] d_Mod_gray_43 v_Mod_75 rfl rfl cn_153 rfl (t_Mod_no h) (fun r4 τ4 h => ?_)
      refine r_pop d_Mod_gray_46 rfl ?_
      refine r_iconst (nI 0) d_Mod_gray_47 (by decide) ?_
      exact r_zret0 d_Mod_gray_48 h
    · have h := h.2 c3
      refine r_iload_n d_Mod_gray_16 rfl ?_
      refine r_sipush (nI 512) d_Mod_gray_17 (by decide) ?_
      refine r_icmp2 41 ((nI 512) < x1) d_Mod_gray_20 (by decide) rfl (fun c5 => ?_) (fun c5 => ?_)
      · have h := h.1 c5
        refine r_aload_n d_Mod_gray_41 rfl ?_
        refine r_iconst (nI 1) d_Mod_gray_42 (by decide) ?_
        refine r_virtI [.int (nI 1)] [] d_Mod_gray_43 v_Mod_75 rfl rfl cn_153 rfl (t_Mod_no h) (fun r6 τ6 h => ?_)
        refine r_pop d_Mod_gray_46 rfl ?_
        refine r_iconst (nI 0) d_Mod_gray_47 (by decide) ?_
        exact r_zret0 d_Mod_gray_48 h
      · have h := h.2 c5
        refine r_iload_n d_Mod_gray_23 rfl ?_
        refine r_iconst (nI 2) d_Mod_gray_24 (by decide) ?_
        refine r_icmp2 41 (x2 < (nI 2)) d_Mod_gray_25 (by decide) rfl (fun c7 => ?_) (fun c7 => ?_)
        · have h := h.1 c7
          refine r_aload_n d_Mod_gray_41 rfl ?_
          refine r_iconst (nI 1) d_Mod_gray_42 (by decide) ?_
          refine r_virtI [.int (nI 1)] [] d_Mod_gray_43 v_Mod_75 rfl rfl cn_153 rfl (t_Mod_no h) (fun r8 τ8 h => ?_)
          refine r_pop d_Mod_gray_46 rfl ?_
          refine r_iconst (nI 0) d_Mod_gray_47 (by decide) ?_
          exact r_zret0 d_Mod_gray_48 h
        · have h := h.2 c7
          refine r_iload_n d_Mod_gray_28 rfl ?_
          refine r_bipush (nI 10) d_Mod_gray_29 (by decide) ?_
          refine r_icmp2 41 ((nI 10) < x2) d_Mod_gray_31 (by decide) rfl (fun c9 => ?_) (fun c9 => ?_)
          · have h := h.1 c9
            refine r_aload_n d_Mod_gray_41 rfl ?_
            refine r_iconst (nI 1) d_Mod_gray_42 (by decide) ?_
            refine r_virtI [.int (nI 1)] [] d_Mod_gray_43 v_Mod_75 rfl rfl cn_153 rfl (t_Mod_no h) (fun r10 τ10 h => ?_)
            refine r_pop d_Mod_gray_46 rfl ?_
            refine r_iconst (nI 0) d_Mod_gray_47 (by decide) ?_
            exact r_zret0 d_Mod_gray_48 h
          · have h := h.2 c9
            refine r_iconst (nI 1) d_Mod_gray_34 (by decide) ?_
            refine r_iload_n d_Mod_gray_35 rfl ?_
            refine r_ishl d_Mod_gray_36 ?_
            refine r_iload_n d_Mod_gray_37 rfl ?_
            refine r_icmp2 49 (x1 ≤ ((nI 1) <<< (x2 &&& 31))) d_Mod_gray_38 (by decide) rfl (fun c11 => ?_) (fun c11 => ?_)
            · have h := h.1 c11
              refine r_aload_n d_Mod_gray_49 rfl ?_
              refine r_virtV [] [] d_Mod_gray_50 v_Mod_82 rfl rfl cn_153 rfl (t_Mod_change h) (fun τ12 h => ?_)
              refine r_aload_n d_Mod_gray_53 rfl ?_
              refine r_iload_n d_Mod_gray_54 rfl ?_
              refine r_virtV [.int x1] [] d_Mod_gray_55 v_Mod_85 rfl rfl cn_153 rfl (t_Mod_begin h) (fun τ13 h => ?_)
              refine r_iconst (nI 0) d_Mod_gray_58 (by decide) ?_
              refine r_istore_n (vs' := [.ref 153, .int x1, .int x2, .int (nI 0), .null, .null, .null, .null]) d_Mod_gray_59 rfl rfl ?_
              exact h
            · have h := h.2 c11
              refine r_aload_n d_Mod_gray_41 rfl ?_
              refine r_iconst (nI 1) d_Mod_gray_42 (by decide) ?_
              refine r_virtI [.int (nI 1)] [] d_Mod_gray_43 v_Mod_75 rfl rfl cn_153 rfl (t_Mod_no h) (fun r14 τ14 h => ?_)
              refine r_pop d_Mod_gray_46 rfl ?_
              refine r_iconst (nI 0) d_Mod_gray_47 (by decide) ?_
              exact r_zret0 d_Mod_gray_48 h
theorem l_Mod_gray_60 {d : Nat}  {x1 : Int32} {x2 : Int32} {x3 : Int32}  {σ : am_S} {K : Int32 → am_S → Prop} (h : (am_ite (x1 ≤ ((nI 1) <<< (x3 &&& 31))) (R_Mod_gray d K 76 [.ref 153, .int x1, .int x2, .int x3, .int (nI 0), .null, .null, .null] [] σ) (R_Mod_gray d K 60 [.ref 153, .int x1, .int x2, .int (x3 + nI 1), .null, .null, .null, .null] [] σ))) : R_Mod_gray d K 60 [.ref 153, .int x1, .int x2, .int x3, .null, .null, .null, .null] [] σ := by
  refine r_iconst (nI 1) d_Mod_gray_60 (by decide) ?_
  refine r_iload_n d_Mod_gray_61 rfl ?_
  refine r_ishl d_Mod_gray_62 ?_
  refine r_iload_n d_Mod_gray_63 rfl ?_
  refine r_icmp2 73 (x1 ≤ ((nI 1) <<< (x3 &&& 31))) d_Mod_gray_64 (by decide) rfl (fun c15 => ?_) (fun c15 => ?_)
  · have h := h.1 c15
    refine r_iconst (nI 0) d_Mod_gray_73 (by decide) ?_
    refine r_istore (vs' := [.ref 153, .int x1, .int x2, .int x3, .int (nI 0), .null, .null, .null]) d_Mod_gray_74 rfl rfl ?_
    exact h
  · have h := h.2 c15
    refine r_inc1 (vs' := [.ref 153, .int x1, .int x2, .int (x3 + nI 1), .null, .null, .null, .null]) d_Mod_gray_67 rfl rfl rfl ?_
    refine r_goto 60 d_Mod_gray_70 (by decide) ?_
    exact h
theorem l_Mod_gray_76 {d : Nat}  {x1 : Int32} {x2 : Int32} {x3 : Int32} {x4 : Int32}  {σ : am_S} {K : Int32 → am_S → Prop} (h : (am_ite (x1 ≤ x4) (vp_in (nI 1) 96 ∧ (vp_in (nI 2) 96 ∧ R_Mod_gray d K 175 [.ref 153, .null, .int x2, .null, .int (nI 0), .null, .null, .null] [] (am_upI (am_upI σ 154 1 x2) 154 2 x2))) (R_Mod_gray d K 106 [.ref 153, .int x1, .int x2, .int x3, .int x4, .null, .int ((((((nI 1) <<< (x3 &&& 31)) - x1) / (nI 2)) + x4) ^^^ ((((((nI 1) <<< (x3 &&& 31)) - x1) / (nI 2)) + x4) >>> ((nI 1) &&& 31))), .int (nI 0)] [] σ))) : R_Mod_gray d K 76 [.ref 153, .int x1, .int x2, .int x3, .int x4, .null, .null, .null] [] σ := by
  refine r_iload d_Mod_gray_76 rfl ?_
  refine r_iload_n d_Mod_gray_78 rfl ?_
  refine r_icmp2 158 (x1 ≤ x4) d_Mod_gray_79 (by decide) rfl (fun c16 => ?_) (fun c16 => ?_)
  · have h := h.1 c16
    refine r_aload_n d_Mod_gray_158 rfl ?_
    refine r_getR d_Mod_gray_159 f_Mod_9 kd_153 rfl lk_153_0 ?_
    refine r_iconst (nI 1) d_Mod_gray_162 (by decide) ?_
    refine r_iload_n d_Mod_gray_163 rfl ?_
    refine r_iast d_Mod_gray_164 ce_154 ⟨h.1, ?_⟩
    have h := h.2
    refine r_aload_n d_Mod_gray_165 rfl ?_
    refine r_getR d_Mod_gray_166 f_Mod_9 kd_153 rfl lk_153_0 ?_
    refine r_iconst (nI 2) d_Mod_gray_169 (by decide) ?_
    refine r_iload_n d_Mod_gray_170 rfl ?_
    refine r_iast d_Mod_gray_171 ce_154 ⟨h.1, ?_⟩
    have h := h.2
    refine r_iconst (nI 0) d_Mod_gray_172 (by decide) ?_
    refine r_istore (vs' := [.ref 153, .int x1, .int x2, .int x3, .int (nI 0), .null, .null, .null]) d_Mod_gray_173 rfl rfl ?_
    exact am_weak (vs := [.ref 153, .null, .int x2, .null, .int (nI 0), .null, .null, .null]) ⟨Or.inl rfl, Or.inr ⟨rfl, rfl⟩, Or.inl rfl, Or.inr ⟨rfl, rfl⟩, Or.inl rfl, Or.inl rfl, Or.inl rfl, Or.inl rfl, trivial⟩ h
  · have h := h.2 c16
    refine r_iconst (nI 1) d_Mod_gray_82 (by decide) ?_
    refine r_iload_n d_Mod_gray_83 rfl ?_
    refine r_ishl d_Mod_gray_84 ?_
    refine r_iload_n d_Mod_gray_85 rfl ?_
    refine r_isub d_Mod_gray_86 ?_
    refine r_iconst (nI 2) d_Mod_gray_87 (by decide) ?_
    refine r_idiv d_Mod_gray_88 ⟨by decide, ?_⟩
    refine r_iload d_Mod_gray_89 rfl ?_
    refine r_iadd d_Mod_gray_91 ?_
    refine r_istore (vs' := [.ref 153, .int x1, .int x2, .int x3, .int x4, .int (((((nI 1) <<< (x3 &&& 31)) - x1) / (nI 2)) + x4), .null, .null]) d_Mod_gray_92 rfl rfl ?_
    refine r_iload d_Mod_gray_94 rfl ?_
    refine r_iload d_Mod_gray_96 rfl ?_
    refine r_iconst (nI 1) d_Mod_gray_98 (by decide) ?_
    refine r_ishr d_Mod_gray_99 ?_
    refine r_ixor d_Mod_gray_100 ?_
    refine r_istore (vs' := [.ref 153, .int x1, .int x2, .int x3, .int x4, .int (((((nI 1) <<< (x3 &&& 31)) - x1) / (nI 2)) + x4), .int ((((((nI 1) <<< (x3 &&& 31)) - x1) / (nI 2)) + x4) ^^^ ((((((nI 1) <<< (x3 &&& 31)) - x1) / (nI 2)) + x4) >>> ((nI 1) &&& 31))), .null]) d_Mod_gray_101 rfl rfl ?_
    refine r_iconst (nI 0) d_Mod_gray_103 (by decide) ?_
    refine r_istore (vs' := [.ref 153, .int x1, .int x2, .int x3, .int x4, .int (((((nI 1) <<< (x3 &&& 31)) - x1) / (nI 2)) + x4), .int ((((((nI 1) <<< (x3 &&& 31)) - x1) / (nI 2)) + x4) ^^^ ((((((nI 1) <<< (x3 &&& 31)) - x1) / (nI 2)) + x4) >>> ((nI 1) &&& 31))), .int (nI 0)]) d_Mod_gray_104 rfl rfl ?_
    exact am_weak (vs := [.ref 153, .int x1, .int x2, .int x3, .int x4, .null, .int ((((((nI 1) <<< (x3 &&& 31)) - x1) / (nI 2)) + x4) ^^^ ((((((nI 1) <<< (x3 &&& 31)) - x1) / (nI 2)) + x4) >>> ((nI 1) &&& 31))), .int (nI 0)]) ⟨Or.inl rfl, Or.inl rfl, Or.inl rfl, Or.inl rfl, Or.inl rfl, Or.inr ⟨rfl, rfl⟩, Or.inl rfl, Or.inl rfl, trivial⟩ h
theorem l_Mod_gray_175 {d : Nat}  {x2 : Int32} {x4 : Int32}  {σ : am_S} {K : Int32 → am_S → Prop} (h : (am_ite (x2 ≤ x4) (K (nI 1) σ) (vp_in x4 320 ∧ (vp_in x4 320 ∧ R_Mod_gray d K 175 [.ref 153, .null, .int x2, .null, .int (x4 + nI 1), .null, .null, .null] [] (am_upI (am_upI σ 155 (Int32.toNatClampNeg x4) x4) 156 (Int32.toNatClampNeg x4) (nI 0)))))) : R_Mod_gray d K 175 [.ref 153, .null, .int x2, .null, .int x4, .null, .null, .null] [] σ := by
  refine r_iload d_Mod_gray_175 rfl ?_
  refine r_iload_n d_Mod_gray_177 rfl ?_
  refine r_icmp2 204 (x2 ≤ x4) d_Mod_gray_178 (by decide) rfl (fun c17 => ?_) (fun c17 => ?_)
  · have h := h.1 c17
    refine r_iconst (nI 1) d_Mod_gray_204 (by decide) ?_
    exact r_zret1 d_Mod_gray_205 h
  · have h := h.2 c17
    refine r_aload_n d_Mod_gray_181 rfl ?_
    refine r_getR d_Mod_gray_182 f_Mod_13 kd_153 rfl lk_153_1 ?_
    refine r_iload d_Mod_gray_185 rfl ?_
    refine r_iload d_Mod_gray_187 rfl ?_
    refine r_iast d_Mod_gray_189 ce_155 ⟨h.1, ?_⟩
    have h := h.2
    refine r_aload_n d_Mod_gray_190 rfl ?_
    refine r_getR d_Mod_gray_191 f_Mod_16 kd_153 rfl lk_153_2 ?_
    refine r_iload d_Mod_gray_194 rfl ?_
    refine r_iconst (nI 0) d_Mod_gray_196 (by decide) ?_
    refine r_iast d_Mod_gray_197 ce_156 ⟨h.1, ?_⟩
    have h := h.2
    refine r_inc1 (vs' := [.ref 153, .null, .int x2, .null, .int (x4 + nI 1), .null, .null, .null]) d_Mod_gray_198 rfl rfl rfl ?_
    refine r_goto 175 d_Mod_gray_201 (by decide) ?_
    exact h
theorem l_Mod_gray_106 {d : Nat}  {x1 : Int32} {x2 : Int32} {x3 : Int32} {x4 : Int32} {x6 : Int32} {x7 : Int32}  {σ : am_S} {K : Int32 → am_S → Prop} (h : (am_ite (x2 ≤ x7) (R_Mod_gray d K 76 [.ref 153, .int x1, .int x2, .int x3, .int (x4 + nI 1), .null, .null, .null] [] σ) (am_ite (¬ ((x6 >>> (((x2 - (nI 1)) - x7) &&& 31)) &&& (nI 1)) = (nI 1)) (vp_in (((nI 512) * x7) + x4) 163840 ∧ R_Mod_gray d K 106 [.ref 153, .int x1, .int x2, .int x3, .int x4, .null, .int x6, .int (x7 + nI 1)] [] (am_upI σ 157 (Int32.toNatClampNeg (((nI 512) * x7) + x4)) (nI 0))) (vp_in (((nI 512) * x7) + x4) 163840 ∧ R_Mod_gray d K 106 [.ref 153, .int x1, .int x2, .int x3, .int x4, .null, .int x6, .int (x7 + nI 1)] [] (am_upI σ 157 (Int32.toNatClampNeg (((nI 512) * x7) + x4)) (nI 1)))))) : R_Mod_gray d K 106 [.ref 153, .int x1, .int x2, .int x3, .int x4, .null, .int x6, .int x7] [] σ := by
  refine r_iload d_Mod_gray_106 rfl ?_
  refine r_iload_n d_Mod_gray_108 rfl ?_
  refine r_icmp2 152 (x2 ≤ x7) d_Mod_gray_109 (by decide) rfl (fun c18 => ?_) (fun c18 => ?_)
  · have h := h.1 c18
    refine r_inc1 (vs' := [.ref 153, .int x1, .int x2, .int x3, .int (x4 + nI 1), .null, .int x6, .int x7]) d_Mod_gray_152 rfl rfl rfl ?_
    refine r_goto 76 d_Mod_gray_155 (by decide) ?_
    exact am_weak (vs := [.ref 153, .int x1, .int x2, .int x3, .int (x4 + nI 1), .null, .null, .null]) ⟨Or.inl rfl, Or.inl rfl, Or.inl rfl, Or.inl rfl, Or.inl rfl, Or.inl rfl, Or.inr ⟨rfl, rfl⟩, Or.inr ⟨rfl, rfl⟩, trivial⟩ h
  · have h := h.2 c18
    refine r_aload_n d_Mod_gray_112 rfl ?_
    refine r_getR d_Mod_gray_113 f_Mod_20 kd_153 rfl lk_153_3 ?_
    refine r_sipush (nI 512) d_Mod_gray_116 (by decide) ?_
    refine r_iload d_Mod_gray_119 rfl ?_
    refine r_imul d_Mod_gray_121 ?_
    refine r_iload d_Mod_gray_122 rfl ?_
    refine r_iadd d_Mod_gray_124 ?_
    refine r_iload d_Mod_gray_125 rfl ?_
    refine r_iload_n d_Mod_gray_127 rfl ?_
    refine r_iconst (nI 1) d_Mod_gray_128 (by decide) ?_
    refine r_isub d_Mod_gray_129 ?_
    refine r_iload d_Mod_gray_130 rfl ?_
    refine r_isub d_Mod_gray_132 ?_
    refine r_ishr d_Mod_gray_133 ?_
    refine r_iconst (nI 1) d_Mod_gray_134 (by decide) ?_
    refine r_iand d_Mod_gray_135 ?_
    refine r_iconst (nI 1) d_Mod_gray_136 (by decide) ?_
    refine r_icmp2 144 (¬ ((x6 >>> (((x2 - (nI 1)) - x7) &&& 31)) &&& (nI 1)) = (nI 1)) d_Mod_gray_137 (by decide) rfl (fun c19 => ?_) (fun c19 => ?_)
    · have h := h.1 c19
      refine r_iconst (nI 0) d_Mod_gray_144 (by decide) ?_
      refine r_zast d_Mod_gray_145 ce_157 ⟨h.1, Or.inl rfl, ?_⟩
      have h := h.2
      refine r_inc1 (vs' := [.ref 153, .int x1, .int x2, .int x3, .int x4, .null, .int x6, .int (x7 + nI 1)]) d_Mod_gray_146 rfl rfl rfl ?_
      refine r_goto 106 d_Mod_gray_149 (by decide) ?_
      exact h
    · have h := h.2 c19
      refine r_iconst (nI 1) d_Mod_gray_140 (by decide) ?_
      refine r_goto 145 d_Mod_gray_141 (by decide) ?_
      refine r_zast d_Mod_gray_145 ce_157 ⟨h.1, Or.inr rfl, ?_⟩
      have h := h.2
      refine r_inc1 (vs' := [.ref 153, .int x1, .int x2, .int x3, .int x4, .null, .int x6, .int (x7 + nI 1)]) d_Mod_gray_146 rfl rfl rfl ?_
      refine r_goto 106 d_Mod_gray_149 (by decide) ?_
      exact h
abbrev R_Mod_string (d : Nat) (K : am_S → Prop) (pc : Nat) (vs st : List Value) (σ : am_S) : Prop := am_r (am_run d) "WheelDiscModel" none prog_13_method_47_code (am_Rv K) pc vs st σ
/-- with d calls open at most -/
def u_Mod_string (d : Nat) (x1 x2 x3 : Int32) (σ : am_S) (K : am_S → Prop) : Prop := am_run d y_Mod_string [.ref 153, .int x1, .int x2, .int x3] σ (am_Rv K)
def w_Mod_string (x1 x2 x3 : Int32) (σ : am_S) (K : am_S → Prop) : Prop := ∀ d : Nat, u_Mod_string (d + 14) x1 x2 x3 σ K
theorem t_Mod_string {d : Nat} {x1 x2 x3 : Int32} {σ : am_S} {K : am_S → Prop} (h : w_Mod_string x1 x2 x3 σ K) : am_run (d + 14) y_Mod_string [.ref 153, .int x1, .int x2, .int x3] σ (am_Rv K) := h d
abbrev R_Mod_chain (d : Nat) (K : Int32 → am_S → Prop) (pc : Nat) (vs st : List Value) (σ : am_S) : Prop := am_r (am_run (d + 14)) "WheelDiscModel" (some .boolean) prog_13_method_48_code (am_Ri K) pc vs st σ
def w_Mod_chain (x1 : Int32) (x2 : Int32) (σ : am_S) (K : Int32 → am_S → Prop) : Prop := ∀ d : Nat, am_run (d + 15) y_Mod_chain [.ref 153, .int x1, .int x2] σ (am_Ri K)
theorem t_Mod_chain {d : Nat} {x1 : Int32} {x2 : Int32}  {σ : am_S} {K : Int32 → am_S → Prop} (h : w_Mod_chain x1 x2 σ K) : am_run (d + 15) y_Mod_chain [.ref 153, .int x1, .int x2] σ (am_Ri K) := h d
theorem e_Mod_chain {x1 : Int32} {x2 : Int32}  {σ : am_S} {K : Int32 → am_S → Prop} (h : ∀ d : Nat, (am_ite (x1 < (nI 1)) (w_Mod_no (nI 1) (am_upI σ 153 18 (nI 0)) (fun r2 τ2 => K (nI 0) τ2)) (am_ite ((nI 9) < x1) (w_Mod_no (nI 1) (am_upI σ 153 18 (nI 0)) (fun r4 τ4 => K (nI 0) τ4)) (am_ite (x2 < (nI 0)) (w_Mod_no (nI 1) (am_upI σ 153 18 (nI 0)) (fun r6 τ6 => K (nI 0) τ6)) (am_ite (x2 < ((nI 1) <<< (x1 &&& 31))) (w_Mod_change  (am_upI σ 153 18 (nI 0)) (fun τ8 => (w_Mod_begin ((nI 1) <<< (x1 &&& 31)) τ8 (fun τ9 => (vp_in (nI 0) 16 ∧ (w_Mod_string (nI 1) (nI 1) x1 (am_upI (am_upI τ9 168 0 (nI 0)) 153 29 (nI 0)) (fun τ10 => (vp_in (nI 1) 96 ∧ (vp_in (nI 2) 96 ∧ R_Mod_chain d K 81 [.ref 153, .int x1, .int x2, .int (nI 0)] [] (am_upI (am_upI τ10 154 1 (nI 1)) 154 2 x1)))))))))) (w_Mod_no (nI 1) (am_upI σ 153 18 (nI 0)) (fun r11 τ11 => K (nI 0) τ11))))))) : w_Mod_chain x1 x2 σ K := by
  intro d
  have h := h d
  refine am_begin (vs := [.ref 153, .int x1, .int x2, .null]) c_Mod_chain (by decide +kernel) rfl rfl rfl rfl ?_
  refine r_aload_n d_Mod_chain_0 rfl ?_
  refine r_iconst (nI 0) d_Mod_chain_1 (by decide) ?_
  refine r_putI d_Mod_chain_2 f_Mod_62 kd_153 rfl ?_
  refine r_iload_n d_Mod_chain_5 rfl ?_
  refine r_iconst (nI 1) d_Mod_chain_6 (by decide) ?_
  refine r_icmp2 27 (x1 < (nI 1)) d_Mod_chain_7 (by decide) rfl (fun c1 => ?_) (fun c1 => ?_)
  · have h := h.1 c1
    refine r_aload_n d_Mod_chain_27 rfl ?_
    refine r_iconst (nI 1) d_Mod_chain_28 (by decide) ?_
    refine r_virtI [.int (nI 1)] [] d_Mod_chain_29 v_Mod_75 rfl rfl cn_153 rfl (t_Mod_no h) (fun r2 τ2 h => ?_)
    refine r_pop d_Mod_chain_32 rfl ?_
    refine r_iconst (nI 0) d_Mod_chain_33 (by decide) ?_
    exact r_zret0 d_Mod_chain_34 h
  · have h := h.2 c1
    refine r_iload_n d_Mod_chain_10 rfl ?_
    refine r_bipush (nI 9) d_Mod_chain_11 (by decide) ?_
    refine r_icmp2 27 ((nI 9) < x1) d_Mod_chain_13 (by decide) rfl (fun c3 => ?_) (fun c3 => ?_)
    · have h := h.1 c3
      refine r_aload_n d_Mod_chain_27 rfl ?_
      refine r_iconst (nI 1) d_Mod_chain_28 (by decide) ?_
      refine r_virtI [.int (nI 1)] [] d_Mod_chain_29 v_Mod_75 rfl rfl cn_153 rfl (t_Mod_no h) (fun r4 τ4 h => ?_)
      refine r_pop d_Mod_chain_32 rfl ?_
      refine r_iconst (nI 0) d_Mod_chain_33 (by decide) ?_
      exact r_zret0 d_Mod_chain_34 h
    · have h := h.2 c3
      refine r_iload_n d_Mod_chain_16 rfl ?_
      refine r_if2 27 (x2 < (nI 0)) d_Mod_chain_17 (by decide) rfl (fun c5 => ?_) (fun c5 => ?_)
      · have h := h.1 c5
        refine r_aload_n d_Mod_chain_27 rfl ?_
        refine r_iconst (nI 1) d_Mod_chain_28 (by decide) ?_
        refine r_virtI [.int (nI 1)] [] d_Mod_chain_29 v_Mod_75 rfl rfl cn_153 rfl (t_Mod_no h) (fun r6 τ6 h => ?_)
        refine r_pop d_Mod_chain_32 rfl ?_
        refine r_iconst (nI 0) d_Mod_chain_33 (by decide) ?_
        exact r_zret0 d_Mod_chain_34 h
      · have h := h.2 c5
        refine r_iload_n d_Mod_chain_20 rfl ?_
        refine r_iconst (nI 1) d_Mod_chain_21 (by decide) ?_
        refine r_iload_n d_Mod_chain_22 rfl ?_
        refine r_ishl d_Mod_chain_23 ?_
        refine r_icmp2 35 (x2 < ((nI 1) <<< (x1 &&& 31))) d_Mod_chain_24 (by decide) rfl (fun c7 => ?_) (fun c7 => ?_)
        · have h := h.1 c7
          refine r_aload_n d_Mod_chain_35 rfl ?_
          refine r_virtV [] [] d_Mod_chain_36 v_Mod_82 rfl rfl cn_153 rfl (t_Mod_change h) (fun τ8 h => ?_)
          refine r_aload_n d_Mod_chain_39 rfl ?_
          refine r_iconst (nI 1) d_Mod_chain_40 (by decide) ?_
          refine r_iload_n d_Mod_chain_41 rfl ?_
          refine r_ishl d_Mod_chain_42 ?_
          refine r_virtV [.int ((nI 1) <<< (x1 &&& 31))] [] d_Mod_chain_43 v_Mod_85 rfl rfl cn_153 rfl (t_Mod_begin h) (fun τ9 h => ?_)
          refine r_aload_n d_Mod_chain_46 rfl ?_
          refine r_getR d_Mod_chain_47 f_Mod_59 kd_153 rfl lk_153_28 ?_
          refine r_iconst (nI 0) d_Mod_chain_50 (by decide) ?_
          refine r_iconst (nI 0) d_Mod_chain_51 (by decide) ?_
          refine r_iast d_Mod_chain_52 ce_168 ⟨h.1, ?_⟩
          have h := h.2
          refine r_aload_n d_Mod_chain_53 rfl ?_
          refine r_iconst (nI 0) d_Mod_chain_54 (by decide) ?_
          refine r_putI d_Mod_chain_55 f_Mod_161 kd_153 rfl ?_
          refine r_aload_n d_Mod_chain_58 rfl ?_
          refine r_iconst (nI 1) d_Mod_chain_59 (by decide) ?_
          refine r_iconst (nI 1) d_Mod_chain_60 (by decide) ?_
          refine r_iload_n d_Mod_chain_61 rfl ?_
          refine r_virtV [.int (nI 1), .int (nI 1), .int x1] [] d_Mod_chain_62 v_Mod_164 rfl rfl cn_153 rfl (t_Mod_string h) (fun τ10 h => ?_)
          refine r_aload_n d_Mod_chain_65 rfl ?_
          refine r_getR d_Mod_chain_66 f_Mod_9 kd_153 rfl lk_153_0 ?_
          refine r_iconst (nI 1) d_Mod_chain_69 (by decide) ?_
          refine r_iconst (nI 1) d_Mod_chain_70 (by decide) ?_
          refine r_iast d_Mod_chain_71 ce_154 ⟨h.1, ?_⟩
          have h := h.2
          refine r_aload_n d_Mod_chain_72 rfl ?_
          refine r_getR d_Mod_chain_73 f_Mod_9 kd_153 rfl lk_153_0 ?_
          refine r_iconst (nI 2) d_Mod_chain_76 (by decide) ?_
          refine r_iload_n d_Mod_chain_77 rfl ?_
          refine r_iast d_Mod_chain_78 ce_154 ⟨h.1, ?_⟩
          have h := h.2
          refine r_iconst (nI 0) d_Mod_chain_79 (by decide) ?_
          refine r_istore_n (vs' := [.ref 153, .int x1, .int x2, .int (nI 0)]) d_Mod_chain_80 rfl rfl ?_
          exact h
        · have h := h.2 c7
          refine r_aload_n d_Mod_chain_27 rfl ?_
          refine r_iconst (nI 1) d_Mod_chain_28 (by decide) ?_
          refine r_virtI [.int (nI 1)] [] d_Mod_chain_29 v_Mod_75 rfl rfl cn_153 rfl (t_Mod_no h) (fun r11 τ11 h => ?_)
          refine r_pop d_Mod_chain_32 rfl ?_
          refine r_iconst (nI 0) d_Mod_chain_33 (by decide) ?_
          exact r_zret0 d_Mod_chain_34 h
theorem l_Mod_chain_81 {d : Nat}  {x1 : Int32} {x2 : Int32} {x3 : Int32}  {σ : am_S} {K : Int32 → am_S → Prop} (h : (am_ite (x1 ≤ x3) (R_Mod_chain d K 108 [.ref 153, .null, .int x2, .int (nI 0)] [] σ) (vp_in x3 320 ∧ (vp_in x3 320 ∧ R_Mod_chain d K 81 [.ref 153, .int x1, .int x2, .int (x3 + nI 1)] [] (am_upI (am_upI σ 155 (Int32.toNatClampNeg x3) (nI 0)) 156 (Int32.toNatClampNeg x3) x3))))) : R_Mod_chain d K 81 [.ref 153, .int x1, .int x2, .int x3] [] σ := by
  refine r_iload_n d_Mod_chain_81 rfl ?_
  refine r_iload_n d_Mod_chain_82 rfl ?_
  refine r_icmp2 106 (x1 ≤ x3) d_Mod_chain_83 (by decide) rfl (fun c12 => ?_) (fun c12 => ?_)
  · have h := h.1 c12
    refine r_iconst (nI 0) d_Mod_chain_106 (by decide) ?_
    refine r_istore_n (vs' := [.ref 153, .int x1, .int x2, .int (nI 0)]) d_Mod_chain_107 rfl rfl ?_
    exact am_weak (vs := [.ref 153, .null, .int x2, .int (nI 0)]) ⟨Or.inl rfl, Or.inr ⟨rfl, rfl⟩, Or.inl rfl, Or.inl rfl, trivial⟩ h
  · have h := h.2 c12
    refine r_aload_n d_Mod_chain_86 rfl ?_
    refine r_getR d_Mod_chain_87 f_Mod_13 kd_153 rfl lk_153_1 ?_
    refine r_iload_n d_Mod_chain_90 rfl ?_
    refine r_iconst (nI 0) d_Mod_chain_91 (by decide) ?_
    refine r_iast d_Mod_chain_92 ce_155 ⟨h.1, ?_⟩
    have h := h.2
    refine r_aload_n d_Mod_chain_93 rfl ?_
    refine r_getR d_Mod_chain_94 f_Mod_16 kd_153 rfl lk_153_2 ?_
    refine r_iload_n d_Mod_chain_97 rfl ?_
    refine r_iload_n d_Mod_chain_98 rfl ?_
    refine r_iast d_Mod_chain_99 ce_156 ⟨h.1, ?_⟩
    have h := h.2
    refine r_inc1 (vs' := [.ref 153, .int x1, .int x2, .int (x3 + nI 1)]) d_Mod_chain_100 rfl rfl rfl ?_
    refine r_goto 81 d_Mod_chain_103 (by decide) ?_
    exact h
theorem l_Mod_chain_108 {d : Nat}  {x2 : Int32} {x3 : Int32}  {σ : am_S} {K : Int32 → am_S → Prop} (h : (w_Mod_wordAt x3 σ (fun r13 τ13 => (am_ite (r13 = x2) (w_Mod_turnBy x3 τ13 (fun τ15 => K (nI 1) τ15)) (R_Mod_chain d K 108 [.ref 153, .null, .int x2, .int (x3 + nI 1)] [] τ13))))) : R_Mod_chain d K 108 [.ref 153, .null, .int x2, .int x3] [] σ := by
  refine r_aload_n d_Mod_chain_108 rfl ?_
  refine r_iload_n d_Mod_chain_109 rfl ?_
  refine r_virtI [.int x3] [] d_Mod_chain_110 v_Mod_106 rfl rfl cn_153 rfl (t_Mod_wordAt h) (fun r13 τ13 h => ?_)
  refine r_iload_n d_Mod_chain_113 rfl ?_
  refine r_icmp2 123 (r13 = x2) d_Mod_chain_114 (by decide) rfl (fun c14 => ?_) (fun c14 => ?_)
  · have h := h.1 c14
    refine r_aload_n d_Mod_chain_123 rfl ?_
    refine r_iload_n d_Mod_chain_124 rfl ?_
    refine r_virtV [.int x3] [] d_Mod_chain_125 v_Mod_99 rfl rfl cn_153 rfl (t_Mod_turnBy h) (fun τ15 h => ?_)
    refine r_iconst (nI 1) d_Mod_chain_128 (by decide) ?_
    exact r_zret1 d_Mod_chain_129 h
  · have h := h.2 c14
    refine r_inc1 (vs' := [.ref 153, .null, .int x2, .int (x3 + nI 1)]) d_Mod_chain_117 rfl rfl rfl ?_
    refine r_goto 108 d_Mod_chain_120 (by decide) ?_
    exact h
def w_Mod_bitOf (x1 : Int32) (x2 : Int32) (σ : am_S) (K : Int32 → am_S → Prop) : Prop := (am_ite (¬ ((x1 >>> ((((σ.1 153 14) - (nI 1)) - x2) &&& 31)) &&& (nI 1)) = (nI 1)) (K (nI 0) σ) (K (nI 1) σ))
theorem t_Mod_bitOf {d : Nat} {x1 : Int32} {x2 : Int32}  {σ : am_S} {K : Int32 → am_S → Prop} (h : w_Mod_bitOf x1 x2 σ K) : am_run (d + 1) y_Mod_bitOf [.ref 153, .int x1, .int x2] σ (am_Ri K) := by
  unfold w_Mod_bitOf at h
  refine am_begin (vs := [.ref 153, .int x1, .int x2]) c_Mod_bitOf (by decide +kernel) rfl rfl rfl rfl ?_
  refine r_iload_n d_Mod_bitOf_0 rfl ?_
  refine r_aload_n d_Mod_bitOf_1 rfl ?_
  refine r_getI d_Mod_bitOf_2 f_Mod_168 kd_153 rfl ?_
  refine r_iconst (nI 1) d_Mod_bitOf_5 (by decide) ?_
  refine r_isub d_Mod_bitOf_6 ?_
  refine r_iload_n d_Mod_bitOf_7 rfl ?_
  refine r_isub d_Mod_bitOf_8 ?_
  refine r_ishr d_Mod_bitOf_9 ?_
  refine r_iconst (nI 1) d_Mod_bitOf_10 (by decide) ?_
  refine r_iand d_Mod_bitOf_11 ?_
  refine r_iconst (nI 1) d_Mod_bitOf_12 (by decide) ?_
  refine r_icmp2 20 (¬ ((x1 >>> ((((σ.1 153 14) - (nI 1)) - x2) &&& 31)) &&& (nI 1)) = (nI 1)) d_Mod_bitOf_13 (by decide) rfl (fun c1 => ?_) (fun c1 => ?_)
  · have h := h.1 c1
    refine r_iconst (nI 0) d_Mod_bitOf_20 (by decide) ?_
    exact r_zret0 d_Mod_bitOf_21 h
  · have h := h.2 c1
    refine r_iconst (nI 1) d_Mod_bitOf_16 (by decide) ?_
    refine r_goto 21 d_Mod_bitOf_17 (by decide) ?_
    exact r_zret1 d_Mod_bitOf_21 h
abbrev R_Mod_searchWord (d : Nat) (K : Int32 → am_S → Prop) (pc : Nat) (vs st : List Value) (σ : am_S) : Prop := am_r (am_run (d + 1)) "WheelDiscModel" (some .int) prog_13_method_50_code (am_Ri K) pc vs st σ
def w_Mod_searchWord (x1 : Int32) (x2 : Int32) (σ : am_S) (K : Int32 → am_S → Prop) : Prop := ∀ d : Nat, am_run (d + 2) y_Mod_searchWord [.ref 153, .int x1, .int x2] σ (am_Ri K)
theorem t_Mod_searchWord {d : Nat} {x1 : Int32} {x2 : Int32}  {σ : am_S} {K : Int32 → am_S → Prop} (h : w_Mod_searchWord x1 x2 σ K) : am_run (d + 2) y_Mod_searchWord [.ref 153, .int x1, .int x2] σ (am_Ri K) := h d
theorem e_Mod_searchWord {x1 : Int32} {x2 : Int32}  {σ : am_S} {K : Int32 → am_S → Prop} (h : ∀ d : Nat, R_Mod_searchWord d K 5 [.ref 153, .int x1, .int x2, .int (nI 0), .int (nI 0)] [] σ) : w_Mod_searchWord x1 x2 σ K := by
  intro d
  have h := h d
  refine am_begin (vs := [.ref 153, .int x1, .int x2, .null, .null]) c_Mod_searchWord (by decide +kernel) rfl rfl rfl rfl ?_
  refine r_iconst (nI 0) d_Mod_searchWord_0 (by decide) ?_
  refine r_istore_n (vs' := [.ref 153, .int x1, .int x2, .int (nI 0), .null]) d_Mod_searchWord_1 rfl rfl ?_
  refine r_iconst (nI 0) d_Mod_searchWord_2 (by decide) ?_
  refine r_istore (vs' := [.ref 153, .int x1, .int x2, .int (nI 0), .int (nI 0)]) d_Mod_searchWord_3 rfl rfl ?_
  exact h
theorem l_Mod_searchWord_5 {d : Nat}  {x1 : Int32} {x2 : Int32} {x3 : Int32} {x4 : Int32}  {σ : am_S} {K : Int32 → am_S → Prop} (h : (am_ite ((σ.1 153 15) ≤ x4) (K x3 σ) (¬ (σ.1 153 15) = nI 0 ∧ (¬ (σ.1 153 14) = nI 0 ∧ (w_Mod_bitOf x1 ((x2 + (x4 * ((σ.1 153 14) / (σ.1 153 15)))) - (x2 + (x4 * ((σ.1 153 14) / (σ.1 153 15)))) / (σ.1 153 14) * (σ.1 153 14)) σ (fun r2 τ2 => (am_ite (r2 = (nI 0)) (R_Mod_searchWord d K 5 [.ref 153, .int x1, .int x2, .int (((nI 2) * x3) + (nI 0)), .int (x4 + nI 1)] [] τ2) (R_Mod_searchWord d K 5 [.ref 153, .int x1, .int x2, .int (((nI 2) * x3) + (nI 1)), .int (x4 + nI 1)] [] τ2)))))))) : R_Mod_searchWord d K 5 [.ref 153, .int x1, .int x2, .int x3, .int x4] [] σ := by
  refine r_iload d_Mod_searchWord_5 rfl ?_
  refine r_aload_n d_Mod_searchWord_7 rfl ?_
  refine r_getI d_Mod_searchWord_8 f_Mod_171 kd_153 rfl ?_
  refine r_icmp2 57 ((σ.1 153 15) ≤ x4) d_Mod_searchWord_11 (by decide) rfl (fun c1 => ?_) (fun c1 => ?_)
  · have h := h.1 c1
    refine r_iload_n d_Mod_searchWord_57 rfl ?_
    exact r_iret d_Mod_searchWord_58 h
  · have h := h.2 c1
    refine r_iconst (nI 2) d_Mod_searchWord_14 (by decide) ?_
    refine r_iload_n d_Mod_searchWord_15 rfl ?_
    refine r_imul d_Mod_searchWord_16 ?_
    refine r_aload_n d_Mod_searchWord_17 rfl ?_
    refine r_iload_n d_Mod_searchWord_18 rfl ?_
    refine r_iload_n d_Mod_searchWord_19 rfl ?_
    refine r_iload d_Mod_searchWord_20 rfl ?_
    refine r_aload_n d_Mod_searchWord_22 rfl ?_
    refine r_getI d_Mod_searchWord_23 f_Mod_168 kd_153 rfl ?_
    refine r_aload_n d_Mod_searchWord_26 rfl ?_
    refine r_getI d_Mod_searchWord_27 f_Mod_171 kd_153 rfl ?_
    refine r_idiv d_Mod_searchWord_30 ⟨h.1, ?_⟩
    have h := h.2
    refine r_imul d_Mod_searchWord_31 ?_
    refine r_iadd d_Mod_searchWord_32 ?_
    refine r_aload_n d_Mod_searchWord_33 rfl ?_
    refine r_getI d_Mod_searchWord_34 f_Mod_168 kd_153 rfl ?_
    refine r_irem d_Mod_searchWord_37 ⟨h.1, ?_⟩
    have h := h.2
    refine r_virtI [.int x1, .int ((x2 + (x4 * ((σ.1 153 14) / (σ.1 153 15)))) - (x2 + (x4 * ((σ.1 153 14) / (σ.1 153 15)))) / (σ.1 153 14) * (σ.1 153 14))] [.int ((nI 2) * x3)] d_Mod_searchWord_38 v_Mod_174 rfl rfl cn_153 rfl (t_Mod_bitOf h) (fun r2 τ2 h => ?_)
    refine r_if2 48 (r2 = (nI 0)) d_Mod_searchWord_41 (by decide) rfl (fun c3 => ?_) (fun c3 => ?_)
    · have h := h.1 c3
      refine r_iconst (nI 0) d_Mod_searchWord_48 (by decide) ?_
      refine r_iadd d_Mod_searchWord_49 ?_
      refine r_istore_n (vs' := [.ref 153, .int x1, .int x2, .int (((nI 2) * x3) + (nI 0)), .int x4]) d_Mod_searchWord_50 rfl rfl ?_
      refine r_inc1 (vs' := [.ref 153, .int x1, .int x2, .int (((nI 2) * x3) + (nI 0)), .int (x4 + nI 1)]) d_Mod_searchWord_51 rfl rfl rfl ?_
      refine r_goto 5 d_Mod_searchWord_54 (by decide) ?_
      exact h
    · have h := h.2 c3
      refine r_iconst (nI 1) d_Mod_searchWord_44 (by decide) ?_
      refine r_goto 49 d_Mod_searchWord_45 (by decide) ?_
      refine r_iadd d_Mod_searchWord_49 ?_
      refine r_istore_n (vs' := [.ref 153, .int x1, .int x2, .int (((nI 2) * x3) + (nI 1)), .int x4]) d_Mod_searchWord_50 rfl rfl ?_
      refine r_inc1 (vs' := [.ref 153, .int x1, .int x2, .int (((nI 2) * x3) + (nI 1)), .int (x4 + nI 1)]) d_Mod_searchWord_51 rfl rfl rfl ?_
      refine r_goto 5 d_Mod_searchWord_54 (by decide) ?_
      exact h
