def w_WD_where (x1 : Int32) (σ : am_S) (K : Int32 → am_S → Prop) : Prop := (w_WD_lookedAt  σ (fun τ1 => (w_View_standsWith x1 τ1 (fun r2 τ2 => (w_WD_accept r2 τ2 (fun r3 τ3 => K r3 τ3))))))
theorem t_WD_where {d : Nat} {x1 : Int32}  {σ : am_S} {K : Int32 → am_S → Prop} (h : w_WD_where x1 σ K) : am_run (d + 6) y_WD_where [.ref 0, .int x1] σ (am_Ri K) := by
  unfold w_WD_where at h
  refine am_begin (vs := [.ref 0, .int x1]) c_WD_where (by decide +kernel) rfl rfl rfl rfl ?_
  refine r_aload_n d_WD_where_0 rfl ?_
  refine r_aload_n d_WD_where_1 rfl ?_
  refine r_virtR [] [.ref 0] d_WD_where_2 v_WD_187 rfl rfl cn_0 rfl (t_WD_lookedAt h) (fun τ1 h => ?_)
  refine r_iload_n d_WD_where_5 rfl ?_
  refine r_virtI [.int x1] [.ref 0] d_WD_where_6 v_WD_213 rfl rfl cn_9 rfl (t_View_standsWith h) (fun r2 τ2 h => ?_)
  refine r_virtI [.int r2] [] d_WD_where_9 v_WD_91 rfl rfl cn_0 rfl (t_WD_accept h) (fun r3 τ3 h => ?_)
  exact r_iret d_WD_where_12 h
abbrev R_View_standWith (d : Nat) (K : Int32 → am_S → Prop) (pc : Nat) (vs st : List Value) (σ : am_S) : Prop := am_r (am_run (d + 0)) "WheelDisc$View" (some .int) prog_10_method_12_code (am_Ri K) pc vs st σ
def w_View_standWith (x1 : Int32) (x2 : Int32) (σ : am_S) (K : Int32 → am_S → Prop) : Prop := ∀ d : Nat, am_run (d + 1) y_View_standWith [.ref 9, .int x1, .int x2] σ (am_Ri K)
theorem t_View_standWith {d : Nat} {x1 : Int32} {x2 : Int32}  {σ : am_S} {K : Int32 → am_S → Prop} (h : w_View_standWith x1 x2 σ K) : am_run (d + 1) y_View_standWith [.ref 9, .int x1, .int x2] σ (am_Ri K) := h d
theorem e_View_standWith {x1 : Int32} {x2 : Int32}  {σ : am_S} {K : Int32 → am_S → Prop} (h : ∀ d : Nat, R_View_standWith d K 5 [.ref 9, .int x1, .int x2, .int (nI 0), .int (nI 0)] [] σ) : w_View_standWith x1 x2 σ K := by
  intro d
  have h := h d
  refine am_begin (vs := [.ref 9, .int x1, .int x2, .null, .null]) c_View_standWith (by decide +kernel) rfl rfl rfl rfl ?_
  refine r_iconst (nI 0) d_View_standWith_0 (by decide) ?_
  refine r_istore_n (vs' := [.ref 9, .int x1, .int x2, .int (nI 0), .null]) d_View_standWith_1 rfl rfl ?_
  refine r_iconst (nI 0) d_View_standWith_2 (by decide) ?_
  refine r_istore (vs' := [.ref 9, .int x1, .int x2, .int (nI 0), .int (nI 0)]) d_View_standWith_3 rfl rfl ?_
  exact h
theorem l_View_standWith_5 {d : Nat}  {x1 : Int32} {x2 : Int32} {x3 : Int32} {x4 : Int32}  {σ : am_S} {K : Int32 → am_S → Prop} (h : (am_ite ((σ.1 9 2) ≤ x4) (K (-1) σ) (vp_in x4 512 ∧ (am_ite (¬ (σ.1 10 (Int32.toNatClampNeg x4)) = x1) (R_View_standWith d K 5 [.ref 9, .int x1, .int x2, .int x3, .int (x4 + nI 1)] [] σ) (am_ite (¬ x3 = x2) (R_View_standWith d K 5 [.ref 9, .int x1, .int x2, .int (x3 + nI 1), .int (x4 + nI 1)] [] σ) (K x4 σ)))))) : R_View_standWith d K 5 [.ref 9, .int x1, .int x2, .int x3, .int x4] [] σ := by
  refine r_iload d_View_standWith_5 rfl ?_
  refine r_aload_n d_View_standWith_7 rfl ?_
  refine r_getI d_View_standWith_8 f_View_22 kd_9 rfl ?_
  refine r_icmp2 42 ((σ.1 9 2) ≤ x4) d_View_standWith_11 (by decide) rfl (fun c1 => ?_) (fun c1 => ?_)
  · have h := h.1 c1
    refine r_iconst (-1) d_View_standWith_42 (by decide) ?_
    exact r_iret d_View_standWith_43 h
  · have h := h.2 c1
    refine r_aload_n d_View_standWith_14 rfl ?_
    refine r_getR d_View_standWith_15 f_View_9 kd_9 rfl lk_9_0 ?_
    refine r_iload d_View_standWith_18 rfl ?_
    refine r_iald d_View_standWith_20 ce_10 ⟨h.1, ?_⟩
    have h := h.2
    refine r_iload_n d_View_standWith_21 rfl ?_
    refine r_icmp2 36 (¬ (σ.1 10 (Int32.toNatClampNeg x4)) = x1) d_View_standWith_22 (by decide) rfl (fun c2 => ?_) (fun c2 => ?_)
    · have h := h.1 c2
      refine r_inc1 (vs' := [.ref 9, .int x1, .int x2, .int x3, .int (x4 + nI 1)]) d_View_standWith_36 rfl rfl rfl ?_
      refine r_goto 5 d_View_standWith_39 (by decide) ?_
      exact h
    · have h := h.2 c2
      refine r_iload_n d_View_standWith_25 rfl ?_
      refine r_iload_n d_View_standWith_26 rfl ?_
      refine r_icmp2 33 (¬ x3 = x2) d_View_standWith_27 (by decide) rfl (fun c3 => ?_) (fun c3 => ?_)
      · have h := h.1 c3
        refine r_inc1 (vs' := [.ref 9, .int x1, .int x2, .int (x3 + nI 1), .int x4]) d_View_standWith_33 rfl rfl rfl ?_
        refine r_inc1 (vs' := [.ref 9, .int x1, .int x2, .int (x3 + nI 1), .int (x4 + nI 1)]) d_View_standWith_36 rfl rfl rfl ?_
        refine r_goto 5 d_View_standWith_39 (by decide) ?_
        exact h
      · have h := h.2 c3
        refine r_iload d_View_standWith_30 rfl ?_
        exact r_iret d_View_standWith_32 h
def w_WD_at (x1 : Int32) (x2 : Int32) (σ : am_S) (K : Int32 → am_S → Prop) : Prop := (w_WD_lookedAt  σ (fun τ1 => (w_View_standWith x1 x2 τ1 (fun r2 τ2 => (am_ite (¬ r2 = (-1)) (w_WD_accept r2 τ2 (fun r4 τ4 => K r4 τ4)) (w_WD_refuse (nI 1) τ2 (fun r5 τ5 => K r5 τ5)))))))
theorem t_WD_at {d : Nat} {x1 : Int32} {x2 : Int32}  {σ : am_S} {K : Int32 → am_S → Prop} (h : w_WD_at x1 x2 σ K) : am_run (d + 6) y_WD_at [.ref 0, .int x1, .int x2] σ (am_Ri K) := by
  unfold w_WD_at at h
  refine am_begin (vs := [.ref 0, .int x1, .int x2, .null]) c_WD_at (by decide +kernel) rfl rfl rfl rfl ?_
  refine r_aload_n d_WD_at_0 rfl ?_
  refine r_virtR [] [] d_WD_at_1 v_WD_187 rfl rfl cn_0 rfl (t_WD_lookedAt h) (fun τ1 h => ?_)
  refine r_iload_n d_WD_at_4 rfl ?_
  refine r_iload_n d_WD_at_5 rfl ?_
  refine r_virtI [.int x1, .int x2] [] d_WD_at_6 v_WD_216 rfl rfl cn_9 rfl (t_View_standWith h) (fun r2 τ2 h => ?_)
  refine r_istore_n (vs' := [.ref 0, .int x1, .int x2, .int r2]) d_WD_at_9 rfl rfl ?_
  refine r_iload_n d_WD_at_10 rfl ?_
  refine r_iconst (-1) d_WD_at_11 (by decide) ?_
  refine r_icmp2 23 (¬ r2 = (-1)) d_WD_at_12 (by decide) rfl (fun c3 => ?_) (fun c3 => ?_)
  · have h := h.1 c3
    refine r_aload_n d_WD_at_23 rfl ?_
    refine r_iload_n d_WD_at_24 rfl ?_
    refine r_virtI [.int r2] [] d_WD_at_25 v_WD_91 rfl rfl cn_0 rfl (t_WD_accept h) (fun r4 τ4 h => ?_)
    exact r_iret d_WD_at_28 h
  · have h := h.2 c3
    refine r_aload_n d_WD_at_15 rfl ?_
    refine r_iconst (nI 1) d_WD_at_16 (by decide) ?_
    refine r_virtI [.int (nI 1)] [] d_WD_at_17 v_WD_95 rfl rfl cn_0 rfl (t_WD_refuse h) (fun r5 τ5 h => ?_)
    refine r_goto 28 d_WD_at_20 (by decide) ?_
    exact r_iret d_WD_at_28 h
def w_View_waysBehind (x1 : Int32) (σ : am_S) (K : Int32 → am_S → Prop) : Prop := (w_View_unlikeBehind x1 σ (fun r1 τ1 => (w_Int_bitCount r1 τ1 (fun r2 τ2 => K ((nI 1) <<< (r2 &&& 31)) τ2))))
theorem t_View_waysBehind {d : Nat} {x1 : Int32}  {σ : am_S} {K : Int32 → am_S → Prop} (h : w_View_waysBehind x1 σ K) : am_run (d + 3) y_View_waysBehind [.ref 9, .int x1] σ (am_Ri K) := by
  unfold w_View_waysBehind at h
  refine am_begin (vs := [.ref 9, .int x1]) c_View_waysBehind (by decide +kernel) rfl rfl rfl rfl ?_
  refine r_iconst (nI 1) d_View_waysBehind_0 (by decide) ?_
  refine r_aload_n d_View_waysBehind_1 rfl ?_
  refine r_iload_n d_View_waysBehind_2 rfl ?_
  refine r_virtI [.int x1] [.int (nI 1)] d_View_waysBehind_3 v_View_69 rfl rfl cn_9 rfl (t_View_unlikeBehind h) (fun r1 τ1 h => ?_)
  refine r_statI [.int r1] [.int (nI 1)] d_View_waysBehind_6 s_View_72 rfl rfl rfl (t_Int_bitCount h) (fun r2 τ2 h => ?_)
  refine r_ishl d_View_waysBehind_9 ?_
  exact r_iret d_View_waysBehind_10 h
def w_WD_edge (x1 : Int32) (σ : am_S) (K : Int32 → am_S → Prop) : Prop := (w_Disc_hasSector x1 σ (fun r1 τ1 => (am_ite (¬ r1 = (nI 0)) (w_WD_lookedAt  τ1 (fun τ3 => (w_View_waysBehind x1 τ3 (fun r4 τ4 => (w_WD_accept r4 τ4 (fun r5 τ5 => K r5 τ5)))))) (w_WD_refuse (nI 1) τ1 (fun r6 τ6 => K r6 τ6)))))
theorem t_WD_edge {d : Nat} {x1 : Int32}  {σ : am_S} {K : Int32 → am_S → Prop} (h : w_WD_edge x1 σ K) : am_run (d + 6) y_WD_edge [.ref 0, .int x1] σ (am_Ri K) := by
  unfold w_WD_edge at h
  refine am_begin (vs := [.ref 0, .int x1]) c_WD_edge (by decide +kernel) rfl rfl rfl rfl ?_
  refine r_aload_n d_WD_edge_0 rfl ?_
  refine r_getR d_WD_edge_1 f_WD_19 kd_0 rfl lk_0_1 ?_
  refine r_iload_n d_WD_edge_4 rfl ?_
  refine r_virtI [.int x1] [] d_WD_edge_5 v_WD_146 rfl rfl cn_3 rfl (t_Disc_hasSector h) (fun r1 τ1 h => ?_)
  refine r_if2 17 (¬ r1 = (nI 0)) d_WD_edge_8 (by decide) rfl (fun c2 => ?_) (fun c2 => ?_)
  · have h := h.1 c2
    refine r_aload_n d_WD_edge_17 rfl ?_
    refine r_aload_n d_WD_edge_18 rfl ?_
    refine r_virtR [] [.ref 0] d_WD_edge_19 v_WD_187 rfl rfl cn_0 rfl (t_WD_lookedAt h) (fun τ3 h => ?_)
    refine r_iload_n d_WD_edge_22 rfl ?_
    refine r_virtI [.int x1] [.ref 0] d_WD_edge_23 v_WD_219 rfl rfl cn_9 rfl (t_View_waysBehind h) (fun r4 τ4 h => ?_)
    refine r_virtI [.int r4] [] d_WD_edge_26 v_WD_91 rfl rfl cn_0 rfl (t_WD_accept h) (fun r5 τ5 h => ?_)
    exact r_iret d_WD_edge_29 h
  · have h := h.2 c2
    refine r_aload_n d_WD_edge_11 rfl ?_
    refine r_iconst (nI 1) d_WD_edge_12 (by decide) ?_
    refine r_virtI [.int (nI 1)] [] d_WD_edge_13 v_WD_95 rfl rfl cn_0 rfl (t_WD_refuse h) (fun r6 τ6 h => ?_)
    exact r_iret d_WD_edge_16 h
abbrev R_View_wayBehind (d : Nat) (K : Int32 → am_S → Prop) (pc : Nat) (vs st : List Value) (σ : am_S) : Prop := am_r (am_run (d + 2)) "WheelDisc$View" (some .int) prog_10_method_14_code (am_Ri K) pc vs st σ
def w_View_wayBehind (x1 : Int32) (x2 : Int32) (σ : am_S) (K : Int32 → am_S → Prop) : Prop := ∀ d : Nat, am_run (d + 3) y_View_wayBehind [.ref 9, .int x1, .int x2] σ (am_Ri K)
theorem t_View_wayBehind {d : Nat} {x1 : Int32} {x2 : Int32}  {σ : am_S} {K : Int32 → am_S → Prop} (h : w_View_wayBehind x1 x2 σ K) : am_run (d + 3) y_View_wayBehind [.ref 9, .int x1, .int x2] σ (am_Ri K) := h d
theorem e_View_wayBehind {x1 : Int32} {x2 : Int32}  {σ : am_S} {K : Int32 → am_S → Prop} (h : ∀ d : Nat, (w_View_unlikeBehind x1 σ (fun r1 τ1 => (vp_in x1 512 ∧ R_View_wayBehind d K 24 [.ref 9, .null, .null, .int r1, .int ((τ1.1 10 (Int32.toNatClampNeg x1)) &&& (r1 ^^^ (-1))), .int x2, .int (nI 0)] [] τ1)))) : w_View_wayBehind x1 x2 σ K := by
  intro d
  have h := h d
  refine am_begin (vs := [.ref 9, .int x1, .int x2, .null, .null, .null, .null]) c_View_wayBehind (by decide +kernel) rfl rfl rfl rfl ?_
  refine r_aload_n d_View_wayBehind_0 rfl ?_
  refine r_iload_n d_View_wayBehind_1 rfl ?_
  refine r_virtI [.int x1] [] d_View_wayBehind_2 v_View_69 rfl rfl cn_9 rfl (t_View_unlikeBehind h) (fun r1 τ1 h => ?_)
  refine r_istore_n (vs' := [.ref 9, .int x1, .int x2, .int r1, .null, .null, .null]) d_View_wayBehind_5 rfl rfl ?_
  refine r_aload_n d_View_wayBehind_6 rfl ?_
  refine r_getR d_View_wayBehind_7 f_View_9 kd_9 rfl lk_9_0 ?_
  refine r_iload_n d_View_wayBehind_10 rfl ?_
  refine r_iald d_View_wayBehind_11 ce_10 ⟨h.1, ?_⟩
  have h := h.2
  refine r_iload_n d_View_wayBehind_12 rfl ?_
  refine r_iconst (-1) d_View_wayBehind_13 (by decide) ?_
  refine r_ixor d_View_wayBehind_14 ?_
  refine r_iand d_View_wayBehind_15 ?_
  refine r_istore (vs' := [.ref 9, .int x1, .int x2, .int r1, .int ((τ1.1 10 (Int32.toNatClampNeg x1)) &&& (r1 ^^^ (-1))), .null, .null]) d_View_wayBehind_16 rfl rfl ?_
  refine r_iload_n d_View_wayBehind_18 rfl ?_
  refine r_istore (vs' := [.ref 9, .int x1, .int x2, .int r1, .int ((τ1.1 10 (Int32.toNatClampNeg x1)) &&& (r1 ^^^ (-1))), .int x2, .null]) d_View_wayBehind_19 rfl rfl ?_
  refine r_iconst (nI 0) d_View_wayBehind_21 (by decide) ?_
  refine r_istore (vs' := [.ref 9, .int x1, .int x2, .int r1, .int ((τ1.1 10 (Int32.toNatClampNeg x1)) &&& (r1 ^^^ (-1))), .int x2, .int (nI 0)]) d_View_wayBehind_22 rfl rfl ?_
  exact am_weak (vs := [.ref 9, .null, .null, .int r1, .int ((τ1.1 10 (Int32.toNatClampNeg x1)) &&& (r1 ^^^ (-1))), .int x2, .int (nI 0)]) ⟨Or.inl rfl, Or.inr ⟨rfl, rfl⟩, Or.inr ⟨rfl, rfl⟩, Or.inl rfl, Or.inl rfl, Or.inl rfl, Or.inl rfl, trivial⟩ h
theorem l_View_wayBehind_24 {d : Nat}  {x3 : Int32} {x4 : Int32} {x5 : Int32} {x6 : Int32}  {σ : am_S} {K : Int32 → am_S → Prop} (h : (am_ite ((σ.1 9 3) ≤ x6) (K x4 σ) (am_ite (((x3 >>> (x6 &&& 31)) &&& (nI 1)) = (nI 0)) (R_View_wayBehind d K 24 [.ref 9, .null, .null, .int x3, .int x4, .int x5, .int (x6 + nI 1)] [] σ) (R_View_wayBehind d K 24 [.ref 9, .null, .null, .int x3, .int (x4 ||| ((x5 &&& (nI 1)) <<< (x6 &&& 31))), .int (x5 >>> ((nI 1) &&& 31)), .int (x6 + nI 1)] [] σ)))) : R_View_wayBehind d K 24 [.ref 9, .null, .null, .int x3, .int x4, .int x5, .int x6] [] σ := by
  refine r_iload d_View_wayBehind_24 rfl ?_
  refine r_aload_n d_View_wayBehind_26 rfl ?_
  refine r_getI d_View_wayBehind_27 f_View_26 kd_9 rfl ?_
  refine r_icmp2 66 ((σ.1 9 3) ≤ x6) d_View_wayBehind_30 (by decide) rfl (fun c2 => ?_) (fun c2 => ?_)
  · have h := h.1 c2
    refine r_iload d_View_wayBehind_66 rfl ?_
    exact r_iret d_View_wayBehind_68 h
  · have h := h.2 c2
    refine r_iload_n d_View_wayBehind_33 rfl ?_
    refine r_iload d_View_wayBehind_34 rfl ?_
    refine r_ishr d_View_wayBehind_36 ?_
    refine r_iconst (nI 1) d_View_wayBehind_37 (by decide) ?_
    refine r_iand d_View_wayBehind_38 ?_
    refine r_if2 60 (((x3 >>> (x6 &&& 31)) &&& (nI 1)) = (nI 0)) d_View_wayBehind_39 (by decide) rfl (fun c3 => ?_) (fun c3 => ?_)
    · have h := h.1 c3
      refine r_inc1 (vs' := [.ref 9, .null, .null, .int x3, .int x4, .int x5, .int (x6 + nI 1)]) d_View_wayBehind_60 rfl rfl rfl ?_
      refine r_goto 24 d_View_wayBehind_63 (by decide) ?_
      exact h
    · have h := h.2 c3
      refine r_iload d_View_wayBehind_42 rfl ?_
      refine r_iload d_View_wayBehind_44 rfl ?_
      refine r_iconst (nI 1) d_View_wayBehind_46 (by decide) ?_
      refine r_iand d_View_wayBehind_47 ?_
      refine r_iload d_View_wayBehind_48 rfl ?_
      refine r_ishl d_View_wayBehind_50 ?_
      refine r_ior d_View_wayBehind_51 ?_
      refine r_istore (vs' := [.ref 9, .null, .null, .int x3, .int (x4 ||| ((x5 &&& (nI 1)) <<< (x6 &&& 31))), .int x5, .int x6]) d_View_wayBehind_52 rfl rfl ?_
      refine r_iload d_View_wayBehind_54 rfl ?_
      refine r_iconst (nI 1) d_View_wayBehind_56 (by decide) ?_
      refine r_ishr d_View_wayBehind_57 ?_
      refine r_istore (vs' := [.ref 9, .null, .null, .int x3, .int (x4 ||| ((x5 &&& (nI 1)) <<< (x6 &&& 31))), .int (x5 >>> ((nI 1) &&& 31)), .int x6]) d_View_wayBehind_58 rfl rfl ?_
      refine r_inc1 (vs' := [.ref 9, .null, .null, .int x3, .int (x4 ||| ((x5 &&& (nI 1)) <<< (x6 &&& 31))), .int (x5 >>> ((nI 1) &&& 31)), .int (x6 + nI 1)]) d_View_wayBehind_60 rfl rfl rfl ?_
      refine r_goto 24 d_View_wayBehind_63 (by decide) ?_
      exact h
def w_WD_way (x1 : Int32) (x2 : Int32) (σ : am_S) (K : Int32 → am_S → Prop) : Prop := (w_Disc_hasSector x1 σ (fun r1 τ1 => (am_ite (r1 = (nI 0)) (w_WD_refuse (nI 1) τ1 (fun r3 τ3 => K r3 τ3)) (am_ite (x2 < (nI 0)) (w_WD_refuse (nI 1) τ1 (fun r5 τ5 => K r5 τ5)) (w_WD_lookedAt  τ1 (fun τ6 => (w_View_waysBehind x1 τ6 (fun r7 τ7 => (am_ite (x2 < r7) (w_WD_lookedAt  τ7 (fun τ9 => (w_View_wayBehind x1 x2 τ9 (fun r10 τ10 => (w_WD_accept r10 τ10 (fun r11 τ11 => K r11 τ11)))))) (w_WD_refuse (nI 1) τ7 (fun r12 τ12 => K r12 τ12)))))))))))
theorem t_WD_way {d : Nat} {x1 : Int32} {x2 : Int32}  {σ : am_S} {K : Int32 → am_S → Prop} (h : w_WD_way x1 x2 σ K) : am_run (d + 6) y_WD_way [.ref 0, .int x1, .int x2] σ (am_Ri K) := by
  unfold w_WD_way at h
  refine am_begin (vs := [.ref 0, .int x1, .int x2]) c_WD_way (by decide +kernel) rfl rfl rfl rfl ?_
  refine r_aload_n d_WD_way_0 rfl ?_
  refine r_getR d_WD_way_1 f_WD_19 kd_0 rfl lk_0_1 ?_
  refine r_iload_n d_WD_way_4 rfl ?_
  refine r_virtI [.int x1] [] d_WD_way_5 v_WD_146 rfl rfl cn_3 rfl (t_Disc_hasSector h) (fun r1 τ1 h => ?_)
  refine r_if2 27 (r1 = (nI 0)) d_WD_way_8 (by decide) rfl (fun c2 => ?_) (fun c2 => ?_)
  · have h := h.1 c2
    refine r_aload_n d_WD_way_27 rfl ?_
    refine r_iconst (nI 1) d_WD_way_28 (by decide) ?_
    refine r_virtI [.int (nI 1)] [] d_WD_way_29 v_WD_95 rfl rfl cn_0 rfl (t_WD_refuse h) (fun r3 τ3 h => ?_)
    exact r_iret d_WD_way_32 h
  · have h := h.2 c2
    refine r_iload_n d_WD_way_11 rfl ?_
    refine r_if2 27 (x2 < (nI 0)) d_WD_way_12 (by decide) rfl (fun c4 => ?_) (fun c4 => ?_)
    · have h := h.1 c4
      refine r_aload_n d_WD_way_27 rfl ?_
      refine r_iconst (nI 1) d_WD_way_28 (by decide) ?_
      refine r_virtI [.int (nI 1)] [] d_WD_way_29 v_WD_95 rfl rfl cn_0 rfl (t_WD_refuse h) (fun r5 τ5 h => ?_)
      exact r_iret d_WD_way_32 h
    · have h := h.2 c4
      refine r_iload_n d_WD_way_15 rfl ?_
      refine r_aload_n d_WD_way_16 rfl ?_
      refine r_virtR [] [.int x2] d_WD_way_17 v_WD_187 rfl rfl cn_0 rfl (t_WD_lookedAt h) (fun τ6 h => ?_)
      refine r_iload_n d_WD_way_20 rfl ?_
      refine r_virtI [.int x1] [.int x2] d_WD_way_21 v_WD_219 rfl rfl cn_9 rfl (t_View_waysBehind h) (fun r7 τ7 h => ?_)
      refine r_icmp2 33 (x2 < r7) d_WD_way_24 (by decide) rfl (fun c8 => ?_) (fun c8 => ?_)
      · have h := h.1 c8
        refine r_aload_n d_WD_way_33 rfl ?_
        refine r_aload_n d_WD_way_34 rfl ?_
        refine r_virtR [] [.ref 0] d_WD_way_35 v_WD_187 rfl rfl cn_0 rfl (t_WD_lookedAt h) (fun τ9 h => ?_)
        refine r_iload_n d_WD_way_38 rfl ?_
        refine r_iload_n d_WD_way_39 rfl ?_
        refine r_virtI [.int x1, .int x2] [.ref 0] d_WD_way_40 v_WD_222 rfl rfl cn_9 rfl (t_View_wayBehind h) (fun r10 τ10 h => ?_)
        refine r_virtI [.int r10] [] d_WD_way_43 v_WD_91 rfl rfl cn_0 rfl (t_WD_accept h) (fun r11 τ11 h => ?_)
        exact r_iret d_WD_way_46 h
      · have h := h.2 c8
        refine r_aload_n d_WD_way_27 rfl ?_
        refine r_iconst (nI 1) d_WD_way_28 (by decide) ?_
        refine r_virtI [.int (nI 1)] [] d_WD_way_29 v_WD_95 rfl rfl cn_0 rfl (t_WD_refuse h) (fun r12 τ12 h => ?_)
        exact r_iret d_WD_way_32 h
abbrev R_View_twoAreMarkedApartBy (d : Nat) (K : Int32 → am_S → Prop) (pc : Nat) (vs st : List Value) (σ : am_S) : Prop := am_r (am_run (d + 2)) "WheelDisc$View" (some .boolean) prog_10_method_16_code (am_Ri K) pc vs st σ
def w_View_twoAreMarkedApartBy (x1 : Int32) (σ : am_S) (K : Int32 → am_S → Prop) : Prop := ∀ d : Nat, am_run (d + 3) y_View_twoAreMarkedApartBy [.ref 9, .int x1] σ (am_Ri K)
theorem t_View_twoAreMarkedApartBy {d : Nat} {x1 : Int32}  {σ : am_S} {K : Int32 → am_S → Prop} (h : w_View_twoAreMarkedApartBy x1 σ K) : am_run (d + 3) y_View_twoAreMarkedApartBy [.ref 9, .int x1] σ (am_Ri K) := h d
theorem e_View_twoAreMarkedApartBy {x1 : Int32}  {σ : am_S} {K : Int32 → am_S → Prop} (h : ∀ d : Nat, R_View_twoAreMarkedApartBy d K 2 [.ref 9, .int x1, .int (nI 0)] [] σ) : w_View_twoAreMarkedApartBy x1 σ K := by
  intro d
  have h := h d
  refine am_begin (vs := [.ref 9, .int x1, .null]) c_View_twoAreMarkedApartBy (by decide +kernel) rfl rfl rfl rfl ?_
  refine r_iconst (nI 0) d_View_twoAreMarkedApartBy_0 (by decide) ?_
  refine r_istore_n (vs' := [.ref 9, .int x1, .int (nI 0)]) d_View_twoAreMarkedApartBy_1 rfl rfl ?_
  exact h
theorem l_View_twoAreMarkedApartBy_2 {d : Nat}  {x1 : Int32} {x2 : Int32}  {σ : am_S} {K : Int32 → am_S → Prop} (h : (am_ite ((σ.1 9 2) ≤ x2) (K (nI 0) σ) (vp_in x2 512 ∧ (w_Marks_has_11 ((σ.1 10 (Int32.toNatClampNeg x2)) ^^^ x1) σ (fun r2 τ2 => (am_ite (r2 = (nI 0)) (R_View_twoAreMarkedApartBy d K 2 [.ref 9, .int x1, .int (x2 + nI 1)] [] τ2) (K (nI 1) τ2))))))) : R_View_twoAreMarkedApartBy d K 2 [.ref 9, .int x1, .int x2] [] σ := by
  refine r_iload_n d_View_twoAreMarkedApartBy_2 rfl ?_
  refine r_aload_n d_View_twoAreMarkedApartBy_3 rfl ?_
  refine r_getI d_View_twoAreMarkedApartBy_4 f_View_22 kd_9 rfl ?_
  refine r_icmp2 36 ((σ.1 9 2) ≤ x2) d_View_twoAreMarkedApartBy_7 (by decide) rfl (fun c1 => ?_) (fun c1 => ?_)
  · have h := h.1 c1
    refine r_iconst (nI 0) d_View_twoAreMarkedApartBy_36 (by decide) ?_
    exact r_zret0 d_View_twoAreMarkedApartBy_37 h
  · have h := h.2 c1
    refine r_aload_n d_View_twoAreMarkedApartBy_10 rfl ?_
    refine r_getR d_View_twoAreMarkedApartBy_11 f_View_18 kd_9 rfl lk_9_1 ?_
    refine r_aload_n d_View_twoAreMarkedApartBy_14 rfl ?_
    refine r_getR d_View_twoAreMarkedApartBy_15 f_View_9 kd_9 rfl lk_9_0 ?_
    refine r_iload_n d_View_twoAreMarkedApartBy_18 rfl ?_
    refine r_iald d_View_twoAreMarkedApartBy_19 ce_10 ⟨h.1, ?_⟩
    have h := h.2
    refine r_iload_n d_View_twoAreMarkedApartBy_20 rfl ?_
    refine r_ixor d_View_twoAreMarkedApartBy_21 ?_
    refine r_virtI [.int ((σ.1 10 (Int32.toNatClampNeg x2)) ^^^ x1)] [] d_View_twoAreMarkedApartBy_22 v_View_62 rfl rfl cn_11 rfl (t_Marks_has_11 h) (fun r2 τ2 h => ?_)
    refine r_if2 30 (r2 = (nI 0)) d_View_twoAreMarkedApartBy_25 (by decide) rfl (fun c3 => ?_) (fun c3 => ?_)
    · have h := h.1 c3
      refine r_inc1 (vs' := [.ref 9, .int x1, .int (x2 + nI 1)]) d_View_twoAreMarkedApartBy_30 rfl rfl rfl ?_
      refine r_goto 2 d_View_twoAreMarkedApartBy_33 (by decide) ?_
      exact h
    · have h := h.2 c3
      refine r_iconst (nI 1) d_View_twoAreMarkedApartBy_28 (by decide) ?_
      exact r_zret1 d_View_twoAreMarkedApartBy_29 h
abbrev R_View_leastUnlike (d : Nat) (K : Int32 → am_S → Prop) (pc : Nat) (vs st : List Value) (σ : am_S) : Prop := am_r (am_run (d + 3)) "WheelDisc$View" (some .int) prog_10_method_15_code (am_Ri K) pc vs st σ
def w_View_leastUnlike  (σ : am_S) (K : Int32 → am_S → Prop) : Prop := ∀ d : Nat, am_run (d + 4) y_View_leastUnlike [.ref 9] σ (am_Ri K)
theorem t_View_leastUnlike {d : Nat}   {σ : am_S} {K : Int32 → am_S → Prop} (h : w_View_leastUnlike  σ K) : am_run (d + 4) y_View_leastUnlike [.ref 9] σ (am_Ri K) := h d
theorem e_View_leastUnlike   {σ : am_S} {K : Int32 → am_S → Prop} (h : ∀ d : Nat, (am_ite (¬ (σ.1 9 2) = (nI 1)) (w_View_allReaders  σ (fun r2 τ2 => (w_View_allUnlike r2 τ2 (fun r3 τ3 => (am_ite (¬ r3 = (nI 0)) (R_View_leastUnlike d K 25 [.ref 9, .int (nI 1), .null] [] τ3) (K (nI 0) τ3)))))) (K (-1) σ))) : w_View_leastUnlike  σ K := by
  intro d
  have h := h d
  refine am_begin (vs := [.ref 9, .null, .null]) c_View_leastUnlike (by decide +kernel) rfl rfl rfl rfl ?_
  refine r_aload_n d_View_leastUnlike_0 rfl ?_
  refine r_getI d_View_leastUnlike_1 f_View_22 kd_9 rfl ?_
  refine r_iconst (nI 1) d_View_leastUnlike_4 (by decide) ?_
  refine r_icmp2 10 (¬ (σ.1 9 2) = (nI 1)) d_View_leastUnlike_5 (by decide) rfl (fun c1 => ?_) (fun c1 => ?_)
  · have h := h.1 c1
    refine r_aload_n d_View_leastUnlike_10 rfl ?_
    refine r_aload_n d_View_leastUnlike_11 rfl ?_
    refine r_virtI [] [.ref 9] d_View_leastUnlike_12 v_View_41 rfl rfl cn_9 rfl (t_View_allReaders h) (fun r2 τ2 h => ?_)
    refine r_virtI [.int r2] [] d_View_leastUnlike_15 v_View_45 rfl rfl cn_9 rfl (t_View_allUnlike h) (fun r3 τ3 h => ?_)
    refine r_if2 23 (¬ r3 = (nI 0)) d_View_leastUnlike_18 (by decide) rfl (fun c4 => ?_) (fun c4 => ?_)
    · have h := h.1 c4
      refine r_iconst (nI 1) d_View_leastUnlike_23 (by decide) ?_
      refine r_istore_n (vs' := [.ref 9, .int (nI 1), .null]) d_View_leastUnlike_24 rfl rfl ?_
      exact h
    · have h := h.2 c4
      refine r_iconst (nI 0) d_View_leastUnlike_21 (by decide) ?_
      exact r_iret d_View_leastUnlike_22 h
  · have h := h.2 c1
    refine r_iconst (-1) d_View_leastUnlike_8 (by decide) ?_
    exact r_iret d_View_leastUnlike_9 h
theorem l_View_leastUnlike_25 {d : Nat}  {x1 : Int32}  {σ : am_S} {K : Int32 → am_S → Prop} (h : (am_ite ((σ.1 9 3) ≤ x1) (K (σ.1 9 3) σ) (R_View_leastUnlike d K 35 [.ref 9, .int x1, .int (nI 1)] [] σ))) : R_View_leastUnlike d K 25 [.ref 9, .int x1, .null] [] σ := by
  refine r_iload_n d_View_leastUnlike_25 rfl ?_
  refine r_aload_n d_View_leastUnlike_26 rfl ?_
  refine r_getI d_View_leastUnlike_27 f_View_26 kd_9 rfl ?_
  refine r_icmp2 73 ((σ.1 9 3) ≤ x1) d_View_leastUnlike_30 (by decide) rfl (fun c5 => ?_) (fun c5 => ?_)
  · have h := h.1 c5
    refine r_aload_n d_View_leastUnlike_73 rfl ?_
    refine r_getI d_View_leastUnlike_74 f_View_26 kd_9 rfl ?_
    exact r_iret d_View_leastUnlike_77 h
  · have h := h.2 c5
    refine r_iconst (nI 1) d_View_leastUnlike_33 (by decide) ?_
    refine r_istore_n (vs' := [.ref 9, .int x1, .int (nI 1)]) d_View_leastUnlike_34 rfl rfl ?_
    exact h
theorem l_View_leastUnlike_35 {d : Nat}  {x1 : Int32} {x2 : Int32}  {σ : am_S} {K : Int32 → am_S → Prop} (h : (w_View_allReaders  σ (fun r6 τ6 => (am_ite (r6 < x2) (R_View_leastUnlike d K 25 [.ref 9, .int (x1 + nI 1), .null] [] τ6) (w_Int_bitCount x2 τ6 (fun r8 τ8 => (am_ite (¬ r8 = x1) (R_View_leastUnlike d K 35 [.ref 9, .int x1, .int (x2 + nI 1)] [] τ8) (w_View_twoAreMarkedApartBy x2 τ8 (fun r10 τ10 => (am_ite (r10 = (nI 0)) (R_View_leastUnlike d K 35 [.ref 9, .int x1, .int (x2 + nI 1)] [] τ10) (K x1 τ10))))))))))) : R_View_leastUnlike d K 35 [.ref 9, .int x1, .int x2] [] σ := by
  refine r_iload_n d_View_leastUnlike_35 rfl ?_
  refine r_aload_n d_View_leastUnlike_36 rfl ?_
  refine r_virtI [] [.int x2] d_View_leastUnlike_37 v_View_41 rfl rfl cn_9 rfl (t_View_allReaders h) (fun r6 τ6 h => ?_)
  refine r_icmp2 67 (r6 < x2) d_View_leastUnlike_40 (by decide) rfl (fun c7 => ?_) (fun c7 => ?_)
  · have h := h.1 c7
    refine r_inc1 (vs' := [.ref 9, .int (x1 + nI 1), .int x2]) d_View_leastUnlike_67 rfl rfl rfl ?_
    refine r_goto 25 d_View_leastUnlike_70 (by decide) ?_
    exact am_weak (vs := [.ref 9, .int (x1 + nI 1), .null]) ⟨Or.inl rfl, Or.inl rfl, Or.inr ⟨rfl, rfl⟩, trivial⟩ h
  · have h := h.2 c7
    refine r_iload_n d_View_leastUnlike_43 rfl ?_
    refine r_statI [.int x2] [] d_View_leastUnlike_44 s_View_72 rfl rfl rfl (t_Int_bitCount h) (fun r8 τ8 h => ?_)
    refine r_iload_n d_View_leastUnlike_47 rfl ?_
    refine r_icmp2 61 (¬ r8 = x1) d_View_leastUnlike_48 (by decide) rfl (fun c9 => ?_) (fun c9 => ?_)
    · have h := h.1 c9
      refine r_inc1 (vs' := [.ref 9, .int x1, .int (x2 + nI 1)]) d_View_leastUnlike_61 rfl rfl rfl ?_
      refine r_goto 35 d_View_leastUnlike_64 (by decide) ?_
      exact h
    · have h := h.2 c9
      refine r_aload_n d_View_leastUnlike_51 rfl ?_
      refine r_iload_n d_View_leastUnlike_52 rfl ?_
      refine r_virtI [.int x2] [] d_View_leastUnlike_53 v_View_91 rfl rfl cn_9 rfl (t_View_twoAreMarkedApartBy h) (fun r10 τ10 h => ?_)
      refine r_if2 61 (r10 = (nI 0)) d_View_leastUnlike_56 (by decide) rfl (fun c11 => ?_) (fun c11 => ?_)
      · have h := h.1 c11
        refine r_inc1 (vs' := [.ref 9, .int x1, .int (x2 + nI 1)]) d_View_leastUnlike_61 rfl rfl rfl ?_
        refine r_goto 35 d_View_leastUnlike_64 (by decide) ?_
        exact h
      · have h := h.2 c11
        refine r_iload_n d_View_leastUnlike_59 rfl ?_
        exact r_iret d_View_leastUnlike_60 h
def w_WD_fewest  (σ : am_S) (K : Int32 → am_S → Prop) : Prop := (w_WD_lookedAt  σ (fun τ1 => (w_View_leastUnlike  τ1 (fun r2 τ2 => (w_WD_accept r2 τ2 (fun r3 τ3 => K r3 τ3))))))
theorem t_WD_fewest {d : Nat}   {σ : am_S} {K : Int32 → am_S → Prop} (h : w_WD_fewest  σ K) : am_run (d + 6) y_WD_fewest [.ref 0] σ (am_Ri K) := by
  unfold w_WD_fewest at h
  refine am_begin (vs := [.ref 0]) c_WD_fewest (by decide +kernel) rfl rfl rfl rfl ?_
  refine r_aload_n d_WD_fewest_0 rfl ?_
  refine r_aload_n d_WD_fewest_1 rfl ?_
  refine r_virtR [] [.ref 0] d_WD_fewest_2 v_WD_187 rfl rfl cn_0 rfl (t_WD_lookedAt h) (fun τ1 h => ?_)
  refine r_virtI [] [.ref 0] d_WD_fewest_5 v_WD_225 rfl rfl cn_9 rfl (t_View_leastUnlike h) (fun r2 τ2 h => ?_)
  refine r_virtI [.int r2] [] d_WD_fewest_8 v_WD_91 rfl rfl cn_0 rfl (t_WD_accept h) (fun r3 τ3 h => ?_)
  exact r_iret d_WD_fewest_11 h
abbrev R_View_sparedAlone (d : Nat) (K : Int32 → am_S → Prop) (pc : Nat) (vs st : List Value) (σ : am_S) : Prop := am_r (am_run (d + 3)) "WheelDisc$View" (some .int) prog_10_method_17_code (am_Ri K) pc vs st σ
def w_View_sparedAlone  (σ : am_S) (K : Int32 → am_S → Prop) : Prop := ∀ d : Nat, am_run (d + 4) y_View_sparedAlone [.ref 9] σ (am_Ri K)
theorem t_View_sparedAlone {d : Nat}   {σ : am_S} {K : Int32 → am_S → Prop} (h : w_View_sparedAlone  σ K) : am_run (d + 4) y_View_sparedAlone [.ref 9] σ (am_Ri K) := h d
theorem e_View_sparedAlone   {σ : am_S} {K : Int32 → am_S → Prop} (h : ∀ d : Nat, R_View_sparedAlone d K 4 [.ref 9, .int (nI 0), .int (nI 0)] [] σ) : w_View_sparedAlone  σ K := by
  intro d
  have h := h d
  refine am_begin (vs := [.ref 9, .null, .null]) c_View_sparedAlone (by decide +kernel) rfl rfl rfl rfl ?_
  refine r_iconst (nI 0) d_View_sparedAlone_0 (by decide) ?_
  refine r_istore_n (vs' := [.ref 9, .int (nI 0), .null]) d_View_sparedAlone_1 rfl rfl ?_
  refine r_iconst (nI 0) d_View_sparedAlone_2 (by decide) ?_
  refine r_istore_n (vs' := [.ref 9, .int (nI 0), .int (nI 0)]) d_View_sparedAlone_3 rfl rfl ?_
  exact h
theorem l_View_sparedAlone_4 {d : Nat}  {x1 : Int32} {x2 : Int32}  {σ : am_S} {K : Int32 → am_S → Prop} (h : (am_ite ((σ.1 9 3) ≤ x2) (K x1 σ) (w_View_allReaders  σ (fun r2 τ2 => (w_View_allUnlike (r2 &&& (((nI 1) <<< (x2 &&& 31)) ^^^ (-1))) τ2 (fun r3 τ3 => (am_ite (r3 = (nI 0)) (R_View_sparedAlone d K 4 [.ref 9, .int x1, .int (x2 + nI 1)] [] τ3) (R_View_sparedAlone d K 4 [.ref 9, .int (x1 ||| ((nI 1) <<< (x2 &&& 31))), .int (x2 + nI 1)] [] τ3)))))))) : R_View_sparedAlone d K 4 [.ref 9, .int x1, .int x2] [] σ := by
  refine r_iload_n d_View_sparedAlone_4 rfl ?_
  refine r_aload_n d_View_sparedAlone_5 rfl ?_
  refine r_getI d_View_sparedAlone_6 f_View_26 kd_9 rfl ?_
  refine r_icmp2 41 ((σ.1 9 3) ≤ x2) d_View_sparedAlone_9 (by decide) rfl (fun c1 => ?_) (fun c1 => ?_)
  · have h := h.1 c1
    refine r_iload_n d_View_sparedAlone_41 rfl ?_
    exact r_iret d_View_sparedAlone_42 h
  · have h := h.2 c1
    refine r_aload_n d_View_sparedAlone_12 rfl ?_
    refine r_aload_n d_View_sparedAlone_13 rfl ?_
    refine r_virtI [] [.ref 9] d_View_sparedAlone_14 v_View_41 rfl rfl cn_9 rfl (t_View_allReaders h) (fun r2 τ2 h => ?_)
    refine r_iconst (nI 1) d_View_sparedAlone_17 (by decide) ?_
    refine r_iload_n d_View_sparedAlone_18 rfl ?_
    refine r_ishl d_View_sparedAlone_19 ?_
    refine r_iconst (-1) d_View_sparedAlone_20 (by decide) ?_
    refine r_ixor d_View_sparedAlone_21 ?_
    refine r_iand d_View_sparedAlone_22 ?_
    refine r_virtI [.int (r2 &&& (((nI 1) <<< (x2 &&& 31)) ^^^ (-1)))] [] d_View_sparedAlone_23 v_View_45 rfl rfl cn_9 rfl (t_View_allUnlike h) (fun r3 τ3 h => ?_)
    refine r_if2 35 (r3 = (nI 0)) d_View_sparedAlone_26 (by decide) rfl (fun c4 => ?_) (fun c4 => ?_)
    · have h := h.1 c4
      refine r_inc1 (vs' := [.ref 9, .int x1, .int (x2 + nI 1)]) d_View_sparedAlone_35 rfl rfl rfl ?_
      refine r_goto 4 d_View_sparedAlone_38 (by decide) ?_
      exact h
    · have h := h.2 c4
      refine r_iload_n d_View_sparedAlone_29 rfl ?_
      refine r_iconst (nI 1) d_View_sparedAlone_30 (by decide) ?_
      refine r_iload_n d_View_sparedAlone_31 rfl ?_
      refine r_ishl d_View_sparedAlone_32 ?_
      refine r_ior d_View_sparedAlone_33 ?_
      refine r_istore_n (vs' := [.ref 9, .int (x1 ||| ((nI 1) <<< (x2 &&& 31))), .int x2]) d_View_sparedAlone_34 rfl rfl ?_
      refine r_inc1 (vs' := [.ref 9, .int (x1 ||| ((nI 1) <<< (x2 &&& 31))), .int (x2 + nI 1)]) d_View_sparedAlone_35 rfl rfl rfl ?_
      refine r_goto 4 d_View_sparedAlone_38 (by decide) ?_
      exact h
def w_WD_blind  (σ : am_S) (K : Int32 → am_S → Prop) : Prop := (w_WD_lookedAt  σ (fun τ1 => (w_View_sparedAlone  τ1 (fun r2 τ2 => (w_WD_accept r2 τ2 (fun r3 τ3 => K r3 τ3))))))
theorem t_WD_blind {d : Nat}   {σ : am_S} {K : Int32 → am_S → Prop} (h : w_WD_blind  σ K) : am_run (d + 6) y_WD_blind [.ref 0] σ (am_Ri K) := by
  unfold w_WD_blind at h
  refine am_begin (vs := [.ref 0]) c_WD_blind (by decide +kernel) rfl rfl rfl rfl ?_
  refine r_aload_n d_WD_blind_0 rfl ?_
  refine r_aload_n d_WD_blind_1 rfl ?_
  refine r_virtR [] [.ref 0] d_WD_blind_2 v_WD_187 rfl rfl cn_0 rfl (t_WD_lookedAt h) (fun τ1 h => ?_)
  refine r_virtI [] [.ref 0] d_WD_blind_5 v_WD_228 rfl rfl cn_9 rfl (t_View_sparedAlone h) (fun r2 τ2 h => ?_)
  refine r_virtI [.int r2] [] d_WD_blind_8 v_WD_91 rfl rfl cn_0 rfl (t_WD_accept h) (fun r3 τ3 h => ?_)
  exact r_iret d_WD_blind_11 h
abbrev R_View_sparedTogether (d : Nat) (K : Int32 → am_S → Prop) (pc : Nat) (vs st : List Value) (σ : am_S) : Prop := am_r (am_run (d + 3)) "WheelDisc$View" (some .int) prog_10_method_18_code (am_Ri K) pc vs st σ
def w_View_sparedTogether  (σ : am_S) (K : Int32 → am_S → Prop) : Prop := ∀ d : Nat, am_run (d + 4) y_View_sparedTogether [.ref 9] σ (am_Ri K)
theorem t_View_sparedTogether {d : Nat}   {σ : am_S} {K : Int32 → am_S → Prop} (h : w_View_sparedTogether  σ K) : am_run (d + 4) y_View_sparedTogether [.ref 9] σ (am_Ri K) := h d
theorem e_View_sparedTogether   {σ : am_S} {K : Int32 → am_S → Prop} (h : ∀ d : Nat, R_View_sparedTogether d K 4 [.ref 9, .int (nI 0), .int (nI 0), .null] [] σ) : w_View_sparedTogether  σ K := by
  intro d
  have h := h d
  refine am_begin (vs := [.ref 9, .null, .null, .null]) c_View_sparedTogether (by decide +kernel) rfl rfl rfl rfl ?_
  refine r_iconst (nI 0) d_View_sparedTogether_0 (by decide) ?_
  refine r_istore_n (vs' := [.ref 9, .int (nI 0), .null, .null]) d_View_sparedTogether_1 rfl rfl ?_
  refine r_iconst (nI 0) d_View_sparedTogether_2 (by decide) ?_
  refine r_istore_n (vs' := [.ref 9, .int (nI 0), .int (nI 0), .null]) d_View_sparedTogether_3 rfl rfl ?_
  exact h
theorem l_View_sparedTogether_4 {d : Nat}  {x1 : Int32} {x2 : Int32}  {σ : am_S} {K : Int32 → am_S → Prop} (h : (am_ite ((σ.1 9 3) ≤ x2) (K x1 σ) (w_View_allReaders  σ (fun r2 τ2 => (w_View_allUnlike (r2 &&& ((x1 ||| ((nI 1) <<< (x2 &&& 31))) ^^^ (-1))) τ2 (fun r3 τ3 => (am_ite (r3 = (nI 0)) (R_View_sparedTogether d K 4 [.ref 9, .int x1, .int (x2 + nI 1), .null] [] τ3) (R_View_sparedTogether d K 4 [.ref 9, .int (x1 ||| ((nI 1) <<< (x2 &&& 31))), .int (x2 + nI 1), .null] [] τ3)))))))) : R_View_sparedTogether d K 4 [.ref 9, .int x1, .int x2, .null] [] σ := by
  refine r_iload_n d_View_sparedTogether_4 rfl ?_
  refine r_aload_n d_View_sparedTogether_5 rfl ?_
  refine r_getI d_View_sparedTogether_6 f_View_26 kd_9 rfl ?_
  refine r_icmp2 41 ((σ.1 9 3) ≤ x2) d_View_sparedTogether_9 (by decide) rfl (fun c1 => ?_) (fun c1 => ?_)
  · have h := h.1 c1
    refine r_iload_n d_View_sparedTogether_41 rfl ?_
    exact r_iret d_View_sparedTogether_42 h
  · have h := h.2 c1
    refine r_iload_n d_View_sparedTogether_12 rfl ?_
    refine r_iconst (nI 1) d_View_sparedTogether_13 (by decide) ?_
    refine r_iload_n d_View_sparedTogether_14 rfl ?_
    refine r_ishl d_View_sparedTogether_15 ?_
    refine r_ior d_View_sparedTogether_16 ?_
    refine r_istore_n (vs' := [.ref 9, .int x1, .int x2, .int (x1 ||| ((nI 1) <<< (x2 &&& 31)))]) d_View_sparedTogether_17 rfl rfl ?_
    refine r_aload_n d_View_sparedTogether_18 rfl ?_
    refine r_aload_n d_View_sparedTogether_19 rfl ?_
    refine r_virtI [] [.ref 9] d_View_sparedTogether_20 v_View_41 rfl rfl cn_9 rfl (t_View_allReaders h) (fun r2 τ2 h => ?_)
    refine r_iload_n d_View_sparedTogether_23 rfl ?_
    refine r_iconst (-1) d_View_sparedTogether_24 (by decide) ?_
    refine r_ixor d_View_sparedTogether_25 ?_
    refine r_iand d_View_sparedTogether_26 ?_
    refine r_virtI [.int (r2 &&& ((x1 ||| ((nI 1) <<< (x2 &&& 31))) ^^^ (-1)))] [] d_View_sparedTogether_27 v_View_45 rfl rfl cn_9 rfl (t_View_allUnlike h) (fun r3 τ3 h => ?_)
    refine r_if2 35 (r3 = (nI 0)) d_View_sparedTogether_30 (by decide) rfl (fun c4 => ?_) (fun c4 => ?_)
    · have h := h.1 c4
      refine r_inc1 (vs' := [.ref 9, .int x1, .int (x2 + nI 1), .int (x1 ||| ((nI 1) <<< (x2 &&& 31)))]) d_View_sparedTogether_35 rfl rfl rfl ?_
      refine r_goto 4 d_View_sparedTogether_38 (by decide) ?_
      exact am_weak (vs := [.ref 9, .int x1, .int (x2 + nI 1), .null]) ⟨Or.inl rfl, Or.inl rfl, Or.inl rfl, Or.inr ⟨rfl, rfl⟩, trivial⟩ h
    · have h := h.2 c4
      refine r_iload_n d_View_sparedTogether_33 rfl ?_
      refine r_istore_n (vs' := [.ref 9, .int (x1 ||| ((nI 1) <<< (x2 &&& 31))), .int x2, .int (x1 ||| ((nI 1) <<< (x2 &&& 31)))]) d_View_sparedTogether_34 rfl rfl ?_
      refine r_inc1 (vs' := [.ref 9, .int (x1 ||| ((nI 1) <<< (x2 &&& 31))), .int (x2 + nI 1), .int (x1 ||| ((nI 1) <<< (x2 &&& 31)))]) d_View_sparedTogether_35 rfl rfl rfl ?_
      refine r_goto 4 d_View_sparedTogether_38 (by decide) ?_
      exact am_weak (vs := [.ref 9, .int (x1 ||| ((nI 1) <<< (x2 &&& 31))), .int (x2 + nI 1), .null]) ⟨Or.inl rfl, Or.inl rfl, Or.inl rfl, Or.inr ⟨rfl, rfl⟩, trivial⟩ h
def w_WD_spare  (σ : am_S) (K : Int32 → am_S → Prop) : Prop := (w_WD_lookedAt  σ (fun τ1 => (w_View_sparedTogether  τ1 (fun r2 τ2 => (w_WD_accept r2 τ2 (fun r3 τ3 => K r3 τ3))))))
theorem t_WD_spare {d : Nat}   {σ : am_S} {K : Int32 → am_S → Prop} (h : w_WD_spare  σ K) : am_run (d + 6) y_WD_spare [.ref 0] σ (am_Ri K) := by
  unfold w_WD_spare at h
  refine am_begin (vs := [.ref 0]) c_WD_spare (by decide +kernel) rfl rfl rfl rfl ?_
  refine r_aload_n d_WD_spare_0 rfl ?_
  refine r_aload_n d_WD_spare_1 rfl ?_
  refine r_virtR [] [.ref 0] d_WD_spare_2 v_WD_187 rfl rfl cn_0 rfl (t_WD_lookedAt h) (fun τ1 h => ?_)
  refine r_virtI [] [.ref 0] d_WD_spare_5 v_WD_231 rfl rfl cn_9 rfl (t_View_sparedTogether h) (fun r2 τ2 h => ?_)
  refine r_virtI [.int r2] [] d_WD_spare_8 v_WD_91 rfl rfl cn_0 rfl (t_WD_accept h) (fun r3 τ3 h => ?_)
  exact r_iret d_WD_spare_11 h
abbrev R_Arr_fillI (d : Nat) (K : am_S → Prop) (pc : Nat) (vs st : List Value) (σ : am_S) : Prop := am_r (am_run (d + 0)) "java/util/Arrays" none prog_17_method_103_code (am_Rv K) pc vs st σ
def w_Arr_fillI {k nk : Nat} (x1 : Int32) (σ : am_S) (K : am_S → Prop) : Prop := ∀ d : Nat, am_run (d + 1) y_Arr_fillI [.ref k, .int x1] σ (am_Rv K)
theorem t_Arr_fillI {d : Nat} {k nk : Nat} {x1 : Int32} (hk : am_cell k = (11, nk)) {σ : am_S} {K : am_S → Prop} (h : w_Arr_fillI (k := k) (nk := nk) x1 σ K) : am_run (d + 1) y_Arr_fillI [.ref k, .int x1] σ (am_Rv K) := h d
theorem e_Arr_fillI {k nk : Nat} {x1 : Int32} (hk : am_cell k = (11, nk)) {σ : am_S} {K : am_S → Prop} (h : ∀ d : Nat, R_Arr_fillI d K 5 [.ref k, .int x1, .int (nI 0), .int (nI nk)] [] σ) : w_Arr_fillI (k := k) (nk := nk) x1 σ K := by
  intro d
  have h := h d
  refine am_begin (vs := [.ref k, .int x1, .null, .null]) c_Arr_fillI (by decide +kernel) rfl rfl rfl rfl ?_
  refine r_iconst (nI 0) d_Arr_fillI_0 (by decide) ?_
  refine r_istore_n (vs' := [.ref k, .int x1, .int (nI 0), .null]) d_Arr_fillI_1 rfl rfl ?_
  refine r_aload_n d_Arr_fillI_2 rfl ?_
  refine r_alen d_Arr_fillI_3 hk rfl ?_
  refine r_istore_n (vs' := [.ref k, .int x1, .int (nI 0), .int (nI nk)]) d_Arr_fillI_4 rfl rfl ?_
  exact h
theorem l_Arr_fillI_5 {d : Nat} {k nk : Nat} {x1 : Int32} {x2 : Int32} {x3 : Int32} (hk : am_cell k = (11, nk)) {σ : am_S} {K : am_S → Prop} (h : (am_ite (x3 ≤ x2) (K σ) (vp_in x2 nk ∧ R_Arr_fillI d K 5 [.ref k, .int x1, .int (x2 + nI 1), .int x3] [] (am_upI σ k (Int32.toNatClampNeg x2) x1)))) : R_Arr_fillI d K 5 [.ref k, .int x1, .int x2, .int x3] [] σ := by
  refine r_iload_n d_Arr_fillI_5 rfl ?_
  refine r_iload_n d_Arr_fillI_6 rfl ?_
  refine r_icmp2 20 (x3 ≤ x2) d_Arr_fillI_7 (by decide) rfl (fun c1 => ?_) (fun c1 => ?_)
  · have h := h.1 c1
    exact r_vret d_Arr_fillI_20 h
  · have h := h.2 c1
    refine r_aload_n d_Arr_fillI_10 rfl ?_
    refine r_iload_n d_Arr_fillI_11 rfl ?_
    refine r_iload_n d_Arr_fillI_12 rfl ?_
    refine r_iast d_Arr_fillI_13 hk ⟨h.1, ?_⟩
    have h := h.2
    refine r_inc1 (vs' := [.ref k, .int x1, .int (x2 + nI 1), .int x3]) d_Arr_fillI_14 rfl rfl rfl ?_
    refine r_goto 5 d_Arr_fillI_17 (by decide) ?_
    exact h
abbrev R_Form_beginOrder (d : Nat) (K : am_S → Prop) (pc : Nat) (vs st : List Value) (σ : am_S) : Prop := am_r (am_run (d + 0)) "WheelDisc$Form" none prog_4_method_7_code (am_Rv K) pc vs st σ
def w_Form_beginOrder  (σ : am_S) (K : am_S → Prop) : Prop := ∀ d : Nat, am_run (d + 1) y_Form_beginOrder [.ref 13] σ (am_Rv K)
theorem t_Form_beginOrder {d : Nat}   {σ : am_S} {K : am_S → Prop} (h : w_Form_beginOrder  σ K) : am_run (d + 1) y_Form_beginOrder [.ref 13] σ (am_Rv K) := h d
theorem e_Form_beginOrder   {σ : am_S} {K : am_S → Prop} (h : ∀ d : Nat, R_Form_beginOrder d K 2 [.ref 13, .int (nI 0)] [] σ) : w_Form_beginOrder  σ K := by
  intro d
  have h := h d
  refine am_begin (vs := [.ref 13, .null]) c_Form_beginOrder (by decide +kernel) rfl rfl rfl rfl ?_
  refine r_iconst (nI 0) d_Form_beginOrder_0 (by decide) ?_
  refine r_istore_n (vs' := [.ref 13, .int (nI 0)]) d_Form_beginOrder_1 rfl rfl ?_
  exact h
theorem l_Form_beginOrder_2 {d : Nat}  {x1 : Int32}  {σ : am_S} {K : am_S → Prop} (h : (am_ite ((σ.1 13 4) ≤ x1) (K σ) (vp_in x1 10 ∧ (vp_in x1 10 ∧ R_Form_beginOrder d K 2 [.ref 13, .int (x1 + nI 1)] [] (am_upI (am_upI σ 15 (Int32.toNatClampNeg x1) x1) 16 (Int32.toNatClampNeg x1) (nI 0)))))) : R_Form_beginOrder d K 2 [.ref 13, .int x1] [] σ := by
  refine r_iload_n d_Form_beginOrder_2 rfl ?_
  refine r_aload_n d_Form_beginOrder_3 rfl ?_
  refine r_getI d_Form_beginOrder_4 f_Form_26 kd_13 rfl ?_
  refine r_icmp2 30 ((σ.1 13 4) ≤ x1) d_Form_beginOrder_7 (by decide) rfl (fun c1 => ?_) (fun c1 => ?_)
  · have h := h.1 c1
    exact r_vret d_Form_beginOrder_30 h
  · have h := h.2 c1
    refine r_aload_n d_Form_beginOrder_10 rfl ?_
    refine r_getR d_Form_beginOrder_11 f_Form_15 kd_13 rfl lk_13_1 ?_
    refine r_iload_n d_Form_beginOrder_14 rfl ?_
    refine r_iload_n d_Form_beginOrder_15 rfl ?_
    refine r_iast d_Form_beginOrder_16 ce_15 ⟨h.1, ?_⟩
    have h := h.2
    refine r_aload_n d_Form_beginOrder_17 rfl ?_
    refine r_getR d_Form_beginOrder_18 f_Form_18 kd_13 rfl lk_13_2 ?_
    refine r_iload_n d_Form_beginOrder_21 rfl ?_
    refine r_iconst (nI 0) d_Form_beginOrder_22 (by decide) ?_
    refine r_zast d_Form_beginOrder_23 ce_16 ⟨h.1, Or.inl rfl, ?_⟩
    have h := h.2
    refine r_inc1 (vs' := [.ref 13, .int (x1 + nI 1)]) d_Form_beginOrder_24 rfl rfl rfl ?_
    refine r_goto 2 d_Form_beginOrder_27 (by decide) ?_
    exact h
def w_Form_bitOf (x1 : Int32) (x2 : Int32) (σ : am_S) (K : Int32 → am_S → Prop) : Prop := (vp_in x2 10 ∧ K ((x1 >>> ((σ.1 15 (Int32.toNatClampNeg x2)) &&& 31)) &&& (nI 1)) σ)
theorem t_Form_bitOf {d : Nat} {x1 : Int32} {x2 : Int32}  {σ : am_S} {K : Int32 → am_S → Prop} (h : w_Form_bitOf x1 x2 σ K) : am_run (d + 1) y_Form_bitOf [.ref 13, .int x1, .int x2] σ (am_Ri K) := by
  unfold w_Form_bitOf at h
  refine am_begin (vs := [.ref 13, .int x1, .int x2]) c_Form_bitOf (by decide +kernel) rfl rfl rfl rfl ?_
  refine r_iload_n d_Form_bitOf_0 rfl ?_
  refine r_aload_n d_Form_bitOf_1 rfl ?_
  refine r_getR d_Form_bitOf_2 f_Form_15 kd_13 rfl lk_13_1 ?_
  refine r_iload_n d_Form_bitOf_5 rfl ?_
  refine r_iald d_Form_bitOf_6 ce_15 ⟨h.1, ?_⟩
  have h := h.2
  refine r_ishr d_Form_bitOf_7 ?_
  refine r_iconst (nI 1) d_Form_bitOf_8 (by decide) ?_
  refine r_iand d_Form_bitOf_9 ?_
  exact r_iret d_Form_bitOf_10 h
abbrev R_Form_refineOrder (d : Nat) (K : am_S → Prop) (pc : Nat) (vs st : List Value) (σ : am_S) : Prop := am_r (am_run (d + 1)) "WheelDisc$Form" none prog_4_method_8_code (am_Rv K) pc vs st σ
def w_Form_refineOrder (x1 : Int32) (σ : am_S) (K : am_S → Prop) : Prop := ∀ d : Nat, am_run (d + 2) y_Form_refineOrder [.ref 13, .int x1] σ (am_Rv K)
theorem t_Form_refineOrder {d : Nat} {x1 : Int32}  {σ : am_S} {K : am_S → Prop} (h : w_Form_refineOrder x1 σ K) : am_run (d + 2) y_Form_refineOrder [.ref 13, .int x1] σ (am_Rv K) := h d
theorem e_Form_refineOrder {x1 : Int32}  {σ : am_S} {K : am_S → Prop} (h : ∀ d : Nat, R_Form_refineOrder d K 2 [.ref 13, .int x1, .int (nI 1), .null, .null] [] σ) : w_Form_refineOrder x1 σ K := by
  intro d
  have h := h d
  refine am_begin (vs := [.ref 13, .int x1, .null, .null, .null]) c_Form_refineOrder (by decide +kernel) rfl rfl rfl rfl ?_
  refine r_iconst (nI 1) d_Form_refineOrder_0 (by decide) ?_
  refine r_istore_n (vs' := [.ref 13, .int x1, .int (nI 1), .null, .null]) d_Form_refineOrder_1 rfl rfl ?_
  exact h
theorem l_Form_refineOrder_2 {d : Nat}  {x1 : Int32} {x2 : Int32}  {σ : am_S} {K : am_S → Prop} (h : (am_ite ((σ.1 13 4) ≤ x2) (R_Form_refineOrder d K 88 [.ref 13, .int x1, .int (nI 1), .null, .null] [] σ) (R_Form_refineOrder d K 12 [.ref 13, .int x1, .int x2, .int x2, .null] [] σ))) : R_Form_refineOrder d K 2 [.ref 13, .int x1, .int x2, .null, .null] [] σ := by
  refine r_iload_n d_Form_refineOrder_2 rfl ?_
  refine r_aload_n d_Form_refineOrder_3 rfl ?_
  refine r_getI d_Form_refineOrder_4 f_Form_26 kd_13 rfl ?_
  refine r_icmp2 86 ((σ.1 13 4) ≤ x2) d_Form_refineOrder_7 (by decide) rfl (fun c1 => ?_) (fun c1 => ?_)
  · have h := h.1 c1
    refine r_iconst (nI 1) d_Form_refineOrder_86 (by decide) ?_
    refine r_istore_n (vs' := [.ref 13, .int x1, .int (nI 1), .null, .null]) d_Form_refineOrder_87 rfl rfl ?_
    exact h
  · have h := h.2 c1
    refine r_iload_n d_Form_refineOrder_10 rfl ?_
    refine r_istore_n (vs' := [.ref 13, .int x1, .int x2, .int x2, .null]) d_Form_refineOrder_11 rfl rfl ?_
    exact h
theorem l_Form_refineOrder_88 {d : Nat}  {x1 : Int32} {x2 : Int32}  {σ : am_S} {K : am_S → Prop} (h : (am_ite ((σ.1 13 4) ≤ x2) (K σ) (w_Form_bitOf x1 (x2 - (nI 1)) σ (fun r3 τ3 => (w_Form_bitOf x1 x2 τ3 (fun r4 τ4 => (am_ite (r3 = r4) (R_Form_refineOrder d K 88 [.ref 13, .int x1, .int (x2 + nI 1), .null, .null] [] τ4) (vp_in x2 10 ∧ R_Form_refineOrder d K 88 [.ref 13, .int x1, .int (x2 + nI 1), .null, .null] [] (am_upI τ4 16 (Int32.toNatClampNeg x2) (nI 1)))))))))) : R_Form_refineOrder d K 88 [.ref 13, .int x1, .int x2, .null, .null] [] σ := by
  refine r_iload_n d_Form_refineOrder_88 rfl ?_
  refine r_aload_n d_Form_refineOrder_89 rfl ?_
  refine r_getI d_Form_refineOrder_90 f_Form_26 kd_13 rfl ?_
  refine r_icmp2 126 ((σ.1 13 4) ≤ x2) d_Form_refineOrder_93 (by decide) rfl (fun c2 => ?_) (fun c2 => ?_)
  · have h := h.1 c2
    exact r_vret d_Form_refineOrder_126 h
  · have h := h.2 c2
    refine r_aload_n d_Form_refineOrder_96 rfl ?_
    refine r_iload_n d_Form_refineOrder_97 rfl ?_
    refine r_iload_n d_Form_refineOrder_98 rfl ?_
    refine r_iconst (nI 1) d_Form_refineOrder_99 (by decide) ?_
    refine r_isub d_Form_refineOrder_100 ?_
    refine r_virtI [.int x1, .int (x2 - (nI 1))] [] d_Form_refineOrder_101 v_Form_74 rfl rfl cn_13 rfl (t_Form_bitOf h) (fun r3 τ3 h => ?_)
    refine r_aload_n d_Form_refineOrder_104 rfl ?_
    refine r_iload_n d_Form_refineOrder_105 rfl ?_
    refine r_iload_n d_Form_refineOrder_106 rfl ?_
    refine r_virtI [.int x1, .int x2] [.int r3] d_Form_refineOrder_107 v_Form_74 rfl rfl cn_13 rfl (t_Form_bitOf h) (fun r4 τ4 h => ?_)
    refine r_icmp2 120 (r3 = r4) d_Form_refineOrder_110 (by decide) rfl (fun c5 => ?_) (fun c5 => ?_)
    · have h := h.1 c5
      refine r_inc1 (vs' := [.ref 13, .int x1, .int (x2 + nI 1), .null, .null]) d_Form_refineOrder_120 rfl rfl rfl ?_
      refine r_goto 88 d_Form_refineOrder_123 (by decide) ?_
      exact h
    · have h := h.2 c5
      refine r_aload_n d_Form_refineOrder_113 rfl ?_
      refine r_getR d_Form_refineOrder_114 f_Form_18 kd_13 rfl lk_13_2 ?_
      refine r_iload_n d_Form_refineOrder_117 rfl ?_
      refine r_iconst (nI 1) d_Form_refineOrder_118 (by decide) ?_
      refine r_zast d_Form_refineOrder_119 ce_16 ⟨h.1, Or.inr rfl, ?_⟩
      have h := h.2
      refine r_inc1 (vs' := [.ref 13, .int x1, .int (x2 + nI 1), .null, .null]) d_Form_refineOrder_120 rfl rfl rfl ?_
      refine r_goto 88 d_Form_refineOrder_123 (by decide) ?_
      exact h
theorem l_Form_refineOrder_12 {d : Nat}  {x1 : Int32} {x2 : Int32} {x3 : Int32}  {σ : am_S} {K : am_S → Prop} (h : (am_ite (x3 ≤ (nI 0)) (R_Form_refineOrder d K 2 [.ref 13, .int x1, .int (x2 + nI 1), .null, .null] [] σ) (vp_in x3 10 ∧ (am_ite (¬ (σ.1 16 (Int32.toNatClampNeg x3)) = (nI 0)) (R_Form_refineOrder d K 2 [.ref 13, .int x1, .int (x2 + nI 1), .null, .null] [] σ) (w_Form_bitOf x1 x3 σ (fun r8 τ8 => (w_Form_bitOf x1 (x3 - (nI 1)) τ8 (fun r9 τ9 => (am_ite (r9 ≤ r8) (R_Form_refineOrder d K 2 [.ref 13, .int x1, .int (x2 + nI 1), .null, .null] [] τ9) (vp_in x3 10 ∧ (vp_in (x3 - (nI 1)) 10 ∧ (vp_in x3 10 ∧ (vp_in (x3 - (nI 1)) 10 ∧ R_Form_refineOrder d K 12 [.ref 13, .int x1, .int x2, .int (x3 - nI 1), .null] [] (am_upI (am_upI τ9 15 (Int32.toNatClampNeg x3) (τ9.1 15 (Int32.toNatClampNeg (x3 - (nI 1))))) 15 (Int32.toNatClampNeg (x3 - (nI 1))) (τ9.1 15 (Int32.toNatClampNeg x3)))))))))))))))) : R_Form_refineOrder d K 12 [.ref 13, .int x1, .int x2, .int x3, .null] [] σ := by
  refine r_iload_n d_Form_refineOrder_12 rfl ?_
  refine r_if2 80 (x3 ≤ (nI 0)) d_Form_refineOrder_13 (by decide) rfl (fun c6 => ?_) (fun c6 => ?_)
  · have h := h.1 c6
    refine r_inc1 (vs' := [.ref 13, .int x1, .int (x2 + nI 1), .int x3, .null]) d_Form_refineOrder_80 rfl rfl rfl ?_
    refine r_goto 2 d_Form_refineOrder_83 (by decide) ?_
    exact am_weak (vs := [.ref 13, .int x1, .int (x2 + nI 1), .null, .null]) ⟨Or.inl rfl, Or.inl rfl, Or.inl rfl, Or.inr ⟨rfl, rfl⟩, Or.inl rfl, trivial⟩ h
  · have h := h.2 c6
    refine r_aload_n d_Form_refineOrder_16 rfl ?_
    refine r_getR d_Form_refineOrder_17 f_Form_18 kd_13 rfl lk_13_2 ?_
    refine r_iload_n d_Form_refineOrder_20 rfl ?_
    refine r_zald d_Form_refineOrder_21 ce_16 ⟨h.1, ?_⟩
    have h := h.2
    refine r_if2 80 (¬ (σ.1 16 (Int32.toNatClampNeg x3)) = (nI 0)) d_Form_refineOrder_22 (by decide) rfl (fun c7 => ?_) (fun c7 => ?_)
    · have h := h.1 c7
      refine r_inc1 (vs' := [.ref 13, .int x1, .int (x2 + nI 1), .int x3, .null]) d_Form_refineOrder_80 rfl rfl rfl ?_
      refine r_goto 2 d_Form_refineOrder_83 (by decide) ?_
      exact am_weak (vs := [.ref 13, .int x1, .int (x2 + nI 1), .null, .null]) ⟨Or.inl rfl, Or.inl rfl, Or.inl rfl, Or.inr ⟨rfl, rfl⟩, Or.inl rfl, trivial⟩ h
    · have h := h.2 c7
      refine r_aload_n d_Form_refineOrder_25 rfl ?_
      refine r_iload_n d_Form_refineOrder_26 rfl ?_
      refine r_iload_n d_Form_refineOrder_27 rfl ?_
      refine r_virtI [.int x1, .int x3] [] d_Form_refineOrder_28 v_Form_74 rfl rfl cn_13 rfl (t_Form_bitOf h) (fun r8 τ8 h => ?_)
      refine r_aload_n d_Form_refineOrder_31 rfl ?_
      refine r_iload_n d_Form_refineOrder_32 rfl ?_
      refine r_iload_n d_Form_refineOrder_33 rfl ?_
      refine r_iconst (nI 1) d_Form_refineOrder_34 (by decide) ?_
      refine r_isub d_Form_refineOrder_35 ?_
      refine r_virtI [.int x1, .int (x3 - (nI 1))] [.int r8] d_Form_refineOrder_36 v_Form_74 rfl rfl cn_13 rfl (t_Form_bitOf h) (fun r9 τ9 h => ?_)
      refine r_icmp2 80 (r9 ≤ r8) d_Form_refineOrder_39 (by decide) rfl (fun c10 => ?_) (fun c10 => ?_)
      · have h := h.1 c10
        refine r_inc1 (vs' := [.ref 13, .int x1, .int (x2 + nI 1), .int x3, .null]) d_Form_refineOrder_80 rfl rfl rfl ?_
        refine r_goto 2 d_Form_refineOrder_83 (by decide) ?_
        exact am_weak (vs := [.ref 13, .int x1, .int (x2 + nI 1), .null, .null]) ⟨Or.inl rfl, Or.inl rfl, Or.inl rfl, Or.inr ⟨rfl, rfl⟩, Or.inl rfl, trivial⟩ h
      · have h := h.2 c10
        refine r_aload_n d_Form_refineOrder_42 rfl ?_
        refine r_getR d_Form_refineOrder_43 f_Form_15 kd_13 rfl lk_13_1 ?_
        refine r_iload_n d_Form_refineOrder_46 rfl ?_
        refine r_iald d_Form_refineOrder_47 ce_15 ⟨h.1, ?_⟩
        have h := h.2
        refine r_istore (vs' := [.ref 13, .int x1, .int x2, .int x3, .int (τ9.1 15 (Int32.toNatClampNeg x3))]) d_Form_refineOrder_48 rfl rfl ?_
        refine r_aload_n d_Form_refineOrder_50 rfl ?_
        refine r_getR d_Form_refineOrder_51 f_Form_15 kd_13 rfl lk_13_1 ?_
        refine r_iload_n d_Form_refineOrder_54 rfl ?_
        refine r_aload_n d_Form_refineOrder_55 rfl ?_
        refine r_getR d_Form_refineOrder_56 f_Form_15 kd_13 rfl lk_13_1 ?_
        refine r_iload_n d_Form_refineOrder_59 rfl ?_
        refine r_iconst (nI 1) d_Form_refineOrder_60 (by decide) ?_
        refine r_isub d_Form_refineOrder_61 ?_
        refine r_iald d_Form_refineOrder_62 ce_15 ⟨h.1, ?_⟩
        have h := h.2
        refine r_iast d_Form_refineOrder_63 ce_15 ⟨h.1, ?_⟩
        have h := h.2
        refine r_aload_n d_Form_refineOrder_64 rfl ?_
        refine r_getR d_Form_refineOrder_65 f_Form_15 kd_13 rfl lk_13_1 ?_
        refine r_iload_n d_Form_refineOrder_68 rfl ?_
        refine r_iconst (nI 1) d_Form_refineOrder_69 (by decide) ?_
        refine r_isub d_Form_refineOrder_70 ?_
        refine r_iload d_Form_refineOrder_71 rfl ?_
        refine r_iast d_Form_refineOrder_73 ce_15 ⟨h.1, ?_⟩
        have h := h.2
        refine r_dec1 (vs' := [.ref 13, .int x1, .int x2, .int (x3 - nI 1), .int (τ9.1 15 (Int32.toNatClampNeg x3))]) d_Form_refineOrder_74 rfl rfl rfl ?_
        refine r_goto 12 d_Form_refineOrder_77 (by decide) ?_
        exact am_weak (vs := [.ref 13, .int x1, .int x2, .int (x3 - nI 1), .null]) ⟨Or.inl rfl, Or.inl rfl, Or.inl rfl, Or.inl rfl, Or.inr ⟨rfl, rfl⟩, trivial⟩ h
abbrev R_Form_inOrder (d : Nat) (K : Int32 → am_S → Prop) (pc : Nat) (vs st : List Value) (σ : am_S) : Prop := am_r (am_run (d + 1)) "WheelDisc$Form" (some .int) prog_4_method_10_code (am_Ri K) pc vs st σ
def w_Form_inOrder (x1 : Int32) (σ : am_S) (K : Int32 → am_S → Prop) : Prop := ∀ d : Nat, am_run (d + 2) y_Form_inOrder [.ref 13, .int x1] σ (am_Ri K)
theorem t_Form_inOrder {d : Nat} {x1 : Int32}  {σ : am_S} {K : Int32 → am_S → Prop} (h : w_Form_inOrder x1 σ K) : am_run (d + 2) y_Form_inOrder [.ref 13, .int x1] σ (am_Ri K) := h d
theorem e_Form_inOrder {x1 : Int32}  {σ : am_S} {K : Int32 → am_S → Prop} (h : ∀ d : Nat, R_Form_inOrder d K 4 [.ref 13, .int x1, .int (nI 0), .int (nI 0)] [] σ) : w_Form_inOrder x1 σ K := by
  intro d
  have h := h d
  refine am_begin (vs := [.ref 13, .int x1, .null, .null]) c_Form_inOrder (by decide +kernel) rfl rfl rfl rfl ?_
  refine r_iconst (nI 0) d_Form_inOrder_0 (by decide) ?_
  refine r_istore_n (vs' := [.ref 13, .int x1, .int (nI 0), .null]) d_Form_inOrder_1 rfl rfl ?_
  refine r_iconst (nI 0) d_Form_inOrder_2 (by decide) ?_
  refine r_istore_n (vs' := [.ref 13, .int x1, .int (nI 0), .int (nI 0)]) d_Form_inOrder_3 rfl rfl ?_
  exact h
theorem l_Form_inOrder_4 {d : Nat}  {x1 : Int32} {x2 : Int32} {x3 : Int32}  {σ : am_S} {K : Int32 → am_S → Prop} (h : (am_ite ((σ.1 13 4) ≤ x3) (K x2 σ) (w_Form_bitOf x1 x3 σ (fun r2 τ2 => R_Form_inOrder d K 4 [.ref 13, .int x1, .int ((x2 <<< ((nI 1) &&& 31)) ||| r2), .int (x3 + nI 1)] [] τ2)))) : R_Form_inOrder d K 4 [.ref 13, .int x1, .int x2, .int x3] [] σ := by
  refine r_iload_n d_Form_inOrder_4 rfl ?_
  refine r_aload_n d_Form_inOrder_5 rfl ?_
  refine r_getI d_Form_inOrder_6 f_Form_26 kd_13 rfl ?_
  refine r_icmp2 29 ((σ.1 13 4) ≤ x3) d_Form_inOrder_9 (by decide) rfl (fun c1 => ?_) (fun c1 => ?_)
  · have h := h.1 c1
    refine r_iload_n d_Form_inOrder_29 rfl ?_
    exact r_iret d_Form_inOrder_30 h
  · have h := h.2 c1
    refine r_iload_n d_Form_inOrder_12 rfl ?_
    refine r_iconst (nI 1) d_Form_inOrder_13 (by decide) ?_
    refine r_ishl d_Form_inOrder_14 ?_
    refine r_aload_n d_Form_inOrder_15 rfl ?_
    refine r_iload_n d_Form_inOrder_16 rfl ?_
    refine r_iload_n d_Form_inOrder_17 rfl ?_
    refine r_virtI [.int x1, .int x3] [.int (x2 <<< ((nI 1) &&& 31))] d_Form_inOrder_18 v_Form_74 rfl rfl cn_13 rfl (t_Form_bitOf h) (fun r2 τ2 h => ?_)
    refine r_ior d_Form_inOrder_21 ?_
    refine r_istore_n (vs' := [.ref 13, .int x1, .int ((x2 <<< ((nI 1) &&& 31)) ||| r2), .int x3]) d_Form_inOrder_22 rfl rfl ?_
    refine r_inc1 (vs' := [.ref 13, .int x1, .int ((x2 <<< ((nI 1) &&& 31)) ||| r2), .int (x3 + nI 1)]) d_Form_inOrder_23 rfl rfl rfl ?_
    refine r_goto 4 d_Form_inOrder_26 (by decide) ?_
    exact h
abbrev R_Form_isLeastAgain (d : Nat) (K : Int32 → am_S → Prop) (pc : Nat) (vs st : List Value) (σ : am_S) : Prop := am_r (am_run (d + 2)) "WheelDisc$Form" (some .boolean) prog_4_method_6_code (am_Ri K) pc vs st σ
def w_Form_isLeastAgain (x2 : Int32) (x3 : Int32) (σ : am_S) (K : Int32 → am_S → Prop) : Prop := ∀ d : Nat, am_run (d + 3) y_Form_isLeastAgain [.ref 13, .ref 10, .int x2, .int x3] σ (am_Ri K)
theorem t_Form_isLeastAgain {d : Nat} {x2 : Int32} {x3 : Int32}  {σ : am_S} {K : Int32 → am_S → Prop} (h : w_Form_isLeastAgain x2 x3 σ K) : am_run (d + 3) y_Form_isLeastAgain [.ref 13, .ref 10, .int x2, .int x3] σ (am_Ri K) := h d
theorem e_Form_isLeastAgain {x2 : Int32} {x3 : Int32}  {σ : am_S} {K : Int32 → am_S → Prop} (h : ∀ d : Nat, (w_Form_beginOrder  σ (fun τ1 => R_Form_isLeastAgain d K 19 [.ref 13, .ref 10, .null, .int x3, .int (nI 0), .int (-1), .int (nI 0), .int x2, .int (nI 0)] [] τ1))) : w_Form_isLeastAgain x2 x3 σ K := by
  intro d
  have h := h d
  refine am_begin (vs := [.ref 13, .ref 10, .int x2, .int x3, .null, .null, .null, .null, .null]) c_Form_isLeastAgain (by decide +kernel) rfl rfl rfl rfl ?_
  refine r_aload_n d_Form_isLeastAgain_0 rfl ?_
  refine r_virtV [] [] d_Form_isLeastAgain_1 v_Form_59 rfl rfl cn_13 rfl (t_Form_beginOrder h) (fun τ1 h => ?_)
  refine r_iconst (nI 0) d_Form_isLeastAgain_4 (by decide) ?_
  refine r_istore (vs' := [.ref 13, .ref 10, .int x2, .int x3, .int (nI 0), .null, .null, .null, .null]) d_Form_isLeastAgain_5 rfl rfl ?_
  refine r_iconst (-1) d_Form_isLeastAgain_7 (by decide) ?_
  refine r_istore (vs' := [.ref 13, .ref 10, .int x2, .int x3, .int (nI 0), .int (-1), .null, .null, .null]) d_Form_isLeastAgain_8 rfl rfl ?_
  refine r_iconst (nI 0) d_Form_isLeastAgain_10 (by decide) ?_
  refine r_istore (vs' := [.ref 13, .ref 10, .int x2, .int x3, .int (nI 0), .int (-1), .int (nI 0), .null, .null]) d_Form_isLeastAgain_11 rfl rfl ?_
  refine r_iload_n d_Form_isLeastAgain_13 rfl ?_
  refine r_istore (vs' := [.ref 13, .ref 10, .int x2, .int x3, .int (nI 0), .int (-1), .int (nI 0), .int x2, .null]) d_Form_isLeastAgain_14 rfl rfl ?_
  refine r_iconst (nI 0) d_Form_isLeastAgain_16 (by decide) ?_
  refine r_istore (vs' := [.ref 13, .ref 10, .int x2, .int x3, .int (nI 0), .int (-1), .int (nI 0), .int x2, .int (nI 0)]) d_Form_isLeastAgain_17 rfl rfl ?_
  exact am_weak (vs := [.ref 13, .ref 10, .null, .int x3, .int (nI 0), .int (-1), .int (nI 0), .int x2, .int (nI 0)]) ⟨Or.inl rfl, Or.inl rfl, Or.inr ⟨rfl, rfl⟩, Or.inl rfl, Or.inl rfl, Or.inl rfl, Or.inl rfl, Or.inl rfl, Or.inl rfl, trivial⟩ h
theorem l_Form_isLeastAgain_19 {d : Nat}  {x3 : Int32} {x4 : Int32} {x5 : Int32} {x6 : Int32} {x7 : Int32} {x8 : Int32}  {σ : am_S} {K : Int32 → am_S → Prop} (h : (am_ite ((σ.1 13 3) ≤ x8) (am_ite (¬ x4 = (nI 0)) (K (nI 0) σ) (K (nI 1) σ)) (vp_in x7 512 ∧ (am_ite ((σ.1 10 (Int32.toNatClampNeg x7)) = x5) (am_ite (¬ x4 = (nI 0)) (am_ite (¬ x4 = (nI 0)) (vp_in x8 512 ∧ (w_WD_stepRound x7 x3 (σ.1 13 3) (am_upI σ 14 (Int32.toNatClampNeg x8) x6) (fun r7 τ7 => R_Form_isLeastAgain d K 19 [.ref 13, .ref 10, .null, .int x3, .int (nI 1), .int x5, .int x6, .int r7, .int (x8 + nI 1)] [] τ7))) (vp_in x8 512 ∧ (am_ite ((σ.1 14 (Int32.toNatClampNeg x8)) ≤ x6) (vp_in x8 512 ∧ (w_WD_stepRound x7 x3 (σ.1 13 3) (am_upI σ 14 (Int32.toNatClampNeg x8) x6) (fun r9 τ9 => R_Form_isLeastAgain d K 19 [.ref 13, .ref 10, .null, .int x3, .int (nI 0), .int x5, .int x6, .int r9, .int (x8 + nI 1)] [] τ9))) (vp_in x8 512 ∧ (w_WD_stepRound x7 x3 (σ.1 13 3) (am_upI σ 14 (Int32.toNatClampNeg x8) x6) (fun r10 τ10 => R_Form_isLeastAgain d K 19 [.ref 13, .ref 10, .null, .int x3, .int (nI 1), .int x5, .int x6, .int r10, .int (x8 + nI 1)] [] τ10)))))) (vp_in x8 512 ∧ (am_ite (x6 ≤ (σ.1 14 (Int32.toNatClampNeg x8))) (am_ite (¬ x4 = (nI 0)) (vp_in x8 512 ∧ (w_WD_stepRound x7 x3 (σ.1 13 3) (am_upI σ 14 (Int32.toNatClampNeg x8) x6) (fun r13 τ13 => R_Form_isLeastAgain d K 19 [.ref 13, .ref 10, .null, .int x3, .int (nI 1), .int x5, .int x6, .int r13, .int (x8 + nI 1)] [] τ13))) (vp_in x8 512 ∧ (am_ite ((σ.1 14 (Int32.toNatClampNeg x8)) ≤ x6) (vp_in x8 512 ∧ (w_WD_stepRound x7 x3 (σ.1 13 3) (am_upI σ 14 (Int32.toNatClampNeg x8) x6) (fun r15 τ15 => R_Form_isLeastAgain d K 19 [.ref 13, .ref 10, .null, .int x3, .int (nI 0), .int x5, .int x6, .int r15, .int (x8 + nI 1)] [] τ15))) (vp_in x8 512 ∧ (w_WD_stepRound x7 x3 (σ.1 13 3) (am_upI σ 14 (Int32.toNatClampNeg x8) x6) (fun r16 τ16 => R_Form_isLeastAgain d K 19 [.ref 13, .ref 10, .null, .int x3, .int (nI 1), .int x5, .int x6, .int r16, .int (x8 + nI 1)] [] τ16)))))) (K (nI 0) σ)))) (vp_in x7 512 ∧ (w_Form_refineOrder (σ.1 10 (Int32.toNatClampNeg x7)) σ (fun τ17 => (w_Form_inOrder (σ.1 10 (Int32.toNatClampNeg x7)) τ17 (fun r18 τ18 => (am_ite (¬ x4 = (nI 0)) (am_ite (¬ x4 = (nI 0)) (vp_in x8 512 ∧ (w_WD_stepRound x7 x3 (τ18.1 13 3) (am_upI τ18 14 (Int32.toNatClampNeg x8) r18) (fun r21 τ21 => R_Form_isLeastAgain d K 19 [.ref 13, .ref 10, .null, .int x3, .int (nI 1), .int (σ.1 10 (Int32.toNatClampNeg x7)), .int r18, .int r21, .int (x8 + nI 1)] [] τ21))) (vp_in x8 512 ∧ (am_ite ((τ18.1 14 (Int32.toNatClampNeg x8)) ≤ r18) (vp_in x8 512 ∧ (w_WD_stepRound x7 x3 (τ18.1 13 3) (am_upI τ18 14 (Int32.toNatClampNeg x8) r18) (fun r23 τ23 => R_Form_isLeastAgain d K 19 [.ref 13, .ref 10, .null, .int x3, .int (nI 0), .int (σ.1 10 (Int32.toNatClampNeg x7)), .int r18, .int r23, .int (x8 + nI 1)] [] τ23))) (vp_in x8 512 ∧ (w_WD_stepRound x7 x3 (τ18.1 13 3) (am_upI τ18 14 (Int32.toNatClampNeg x8) r18) (fun r24 τ24 => R_Form_isLeastAgain d K 19 [.ref 13, .ref 10, .null, .int x3, .int (nI 1), .int (σ.1 10 (Int32.toNatClampNeg x7)), .int r18, .int r24, .int (x8 + nI 1)] [] τ24)))))) (vp_in x8 512 ∧ (am_ite (r18 ≤ (τ18.1 14 (Int32.toNatClampNeg x8))) (am_ite (¬ x4 = (nI 0)) (vp_in x8 512 ∧ (w_WD_stepRound x7 x3 (τ18.1 13 3) (am_upI τ18 14 (Int32.toNatClampNeg x8) r18) (fun r27 τ27 => R_Form_isLeastAgain d K 19 [.ref 13, .ref 10, .null, .int x3, .int (nI 1), .int (σ.1 10 (Int32.toNatClampNeg x7)), .int r18, .int r27, .int (x8 + nI 1)] [] τ27))) (vp_in x8 512 ∧ (am_ite ((τ18.1 14 (Int32.toNatClampNeg x8)) ≤ r18) (vp_in x8 512 ∧ (w_WD_stepRound x7 x3 (τ18.1 13 3) (am_upI τ18 14 (Int32.toNatClampNeg x8) r18) (fun r29 τ29 => R_Form_isLeastAgain d K 19 [.ref 13, .ref 10, .null, .int x3, .int (nI 0), .int (σ.1 10 (Int32.toNatClampNeg x7)), .int r18, .int r29, .int (x8 + nI 1)] [] τ29))) (vp_in x8 512 ∧ (w_WD_stepRound x7 x3 (τ18.1 13 3) (am_upI τ18 14 (Int32.toNatClampNeg x8) r18) (fun r30 τ30 => R_Form_isLeastAgain d K 19 [.ref 13, .ref 10, .null, .int x3, .int (nI 1), .int (σ.1 10 (Int32.toNatClampNeg x7)), .int r18, .int r30, .int (x8 + nI 1)] [] τ30)))))) (K (nI 0) τ18))))))))))))) : R_Form_isLeastAgain d K 19 [.ref 13, .ref 10, .null, .int x3, .int x4, .int x5, .int x6, .int x7, .int x8] [] σ := by
  refine r_iload d_Form_isLeastAgain_19 rfl ?_
  refine r_aload_n d_Form_isLeastAgain_21 rfl ?_
  refine r_getI d_Form_isLeastAgain_22 f_Form_22 kd_13 rfl ?_
  refine r_icmp2 127 ((σ.1 13 3) ≤ x8) d_Form_isLeastAgain_25 (by decide) rfl (fun c2 => ?_) (fun c2 => ?_)
  · have h := h.1 c2
    refine r_iload d_Form_isLeastAgain_127 rfl ?_
    refine r_if2 136 (¬ x4 = (nI 0)) d_Form_isLeastAgain_129 (by decide) rfl (fun c3 => ?_) (fun c3 => ?_)
    · have h := h.1 c3
      refine r_iconst (nI 0) d_Form_isLeastAgain_136 (by decide) ?_
      exact r_zret0 d_Form_isLeastAgain_137 h
    · have h := h.2 c3
      refine r_iconst (nI 1) d_Form_isLeastAgain_132 (by decide) ?_
      refine r_goto 137 d_Form_isLeastAgain_133 (by decide) ?_
      exact r_zret1 d_Form_isLeastAgain_137 h
  · have h := h.2 c2
    refine r_aload_n d_Form_isLeastAgain_28 rfl ?_
    refine r_iload d_Form_isLeastAgain_29 rfl ?_
    refine r_iald d_Form_isLeastAgain_31 ce_10 ⟨h.1, ?_⟩
    have h := h.2
    refine r_iload d_Form_isLeastAgain_32 rfl ?_
    refine r_icmp2 57 ((σ.1 10 (Int32.toNatClampNeg x7)) = x5) d_Form_isLeastAgain_34 (by decide) rfl (fun c4 => ?_) (fun c4 => ?_)
    · have h := h.1 c4
      refine r_iload d_Form_isLeastAgain_57 rfl ?_
      refine r_if2 76 (¬ x4 = (nI 0)) d_Form_isLeastAgain_59 (by decide) rfl (fun c5 => ?_) (fun c5 => ?_)
      · have h := h.1 c5
        refine r_iload d_Form_isLeastAgain_76 rfl ?_
        refine r_if2 93 (¬ x4 = (nI 0)) d_Form_isLeastAgain_78 (by decide) rfl (fun c6 => ?_) (fun c6 => ?_)
        · have h := h.1 c6
          refine r_iconst (nI 1) d_Form_isLeastAgain_93 (by decide) ?_
          refine r_goto 98 d_Form_isLeastAgain_94 (by decide) ?_
          refine r_istore (vs' := [.ref 13, .ref 10, .null, .int x3, .int (nI 1), .int x5, .int x6, .int x7, .int x8]) d_Form_isLeastAgain_98 rfl rfl ?_
          refine r_aload_n d_Form_isLeastAgain_100 rfl ?_
          refine r_getR d_Form_isLeastAgain_101 f_Form_9 kd_13 rfl lk_13_0 ?_
          refine r_iload d_Form_isLeastAgain_104 rfl ?_
          refine r_iload d_Form_isLeastAgain_106 rfl ?_
          refine r_iast d_Form_isLeastAgain_108 ce_14 ⟨h.1, ?_⟩
          have h := h.2
          refine r_iload d_Form_isLeastAgain_109 rfl ?_
          refine r_iload_n d_Form_isLeastAgain_111 rfl ?_
          refine r_aload_n d_Form_isLeastAgain_112 rfl ?_
          refine r_getI d_Form_isLeastAgain_113 f_Form_22 kd_13 rfl ?_
          refine r_statI [.int x7, .int x3, .int (σ.1 13 3)] [] d_Form_isLeastAgain_116 s_Form_70 rfl rfl rfl (t_WD_stepRound h) (fun r7 τ7 h => ?_)
          refine r_istore (vs' := [.ref 13, .ref 10, .null, .int x3, .int (nI 1), .int x5, .int x6, .int r7, .int x8]) d_Form_isLeastAgain_119 rfl rfl ?_
          refine r_inc1 (vs' := [.ref 13, .ref 10, .null, .int x3, .int (nI 1), .int x5, .int x6, .int r7, .int (x8 + nI 1)]) d_Form_isLeastAgain_121 rfl rfl rfl ?_
          refine r_goto 19 d_Form_isLeastAgain_124 (by decide) ?_
          exact h
        · have h := h.2 c6
          refine r_iload d_Form_isLeastAgain_81 rfl ?_
          refine r_aload_n d_Form_isLeastAgain_83 rfl ?_
          refine r_getR d_Form_isLeastAgain_84 f_Form_9 kd_13 rfl lk_13_0 ?_
          refine r_iload d_Form_isLeastAgain_87 rfl ?_
          refine r_iald d_Form_isLeastAgain_89 ce_14 ⟨h.1, ?_⟩
          have h := h.2
          refine r_icmp2 97 ((σ.1 14 (Int32.toNatClampNeg x8)) ≤ x6) d_Form_isLeastAgain_90 (by decide) rfl (fun c8 => ?_) (fun c8 => ?_)
          · have h := h.1 c8
            refine r_iconst (nI 0) d_Form_isLeastAgain_97 (by decide) ?_
            refine r_istore (vs' := [.ref 13, .ref 10, .null, .int x3, .int (nI 0), .int x5, .int x6, .int x7, .int x8]) d_Form_isLeastAgain_98 rfl rfl ?_
            refine r_aload_n d_Form_isLeastAgain_100 rfl ?_
            refine r_getR d_Form_isLeastAgain_101 f_Form_9 kd_13 rfl lk_13_0 ?_
            refine r_iload d_Form_isLeastAgain_104 rfl ?_
            refine r_iload d_Form_isLeastAgain_106 rfl ?_
            refine r_iast d_Form_isLeastAgain_108 ce_14 ⟨h.1, ?_⟩
            have h := h.2
            refine r_iload d_Form_isLeastAgain_109 rfl ?_
            refine r_iload_n d_Form_isLeastAgain_111 rfl ?_
            refine r_aload_n d_Form_isLeastAgain_112 rfl ?_
            refine r_getI d_Form_isLeastAgain_113 f_Form_22 kd_13 rfl ?_
            refine r_statI [.int x7, .int x3, .int (σ.1 13 3)] [] d_Form_isLeastAgain_116 s_Form_70 rfl rfl rfl (t_WD_stepRound h) (fun r9 τ9 h => ?_)
            refine r_istore (vs' := [.ref 13, .ref 10, .null, .int x3, .int (nI 0), .int x5, .int x6, .int r9, .int x8]) d_Form_isLeastAgain_119 rfl rfl ?_
            refine r_inc1 (vs' := [.ref 13, .ref 10, .null, .int x3, .int (nI 0), .int x5, .int x6, .int r9, .int (x8 + nI 1)]) d_Form_isLeastAgain_121 rfl rfl rfl ?_
            refine r_goto 19 d_Form_isLeastAgain_124 (by decide) ?_
            exact h
          · have h := h.2 c8
            refine r_iconst (nI 1) d_Form_isLeastAgain_93 (by decide) ?_
            refine r_goto 98 d_Form_isLeastAgain_94 (by decide) ?_
            refine r_istore (vs' := [.ref 13, .ref 10, .null, .int x3, .int (nI 1), .int x5, .int x6, .int x7, .int x8]) d_Form_isLeastAgain_98 rfl rfl ?_
            refine r_aload_n d_Form_isLeastAgain_100 rfl ?_
            refine r_getR d_Form_isLeastAgain_101 f_Form_9 kd_13 rfl lk_13_0 ?_
            refine r_iload d_Form_isLeastAgain_104 rfl ?_
            refine r_iload d_Form_isLeastAgain_106 rfl ?_
            refine r_iast d_Form_isLeastAgain_108 ce_14 ⟨h.1, ?_⟩
            have h := h.2
            refine r_iload d_Form_isLeastAgain_109 rfl ?_
            refine r_iload_n d_Form_isLeastAgain_111 rfl ?_
            refine r_aload_n d_Form_isLeastAgain_112 rfl ?_
            refine r_getI d_Form_isLeastAgain_113 f_Form_22 kd_13 rfl ?_
            refine r_statI [.int x7, .int x3, .int (σ.1 13 3)] [] d_Form_isLeastAgain_116 s_Form_70 rfl rfl rfl (t_WD_stepRound h) (fun r10 τ10 h => ?_)
            refine r_istore (vs' := [.ref 13, .ref 10, .null, .int x3, .int (nI 1), .int x5, .int x6, .int r10, .int x8]) d_Form_isLeastAgain_119 rfl rfl ?_
            refine r_inc1 (vs' := [.ref 13, .ref 10, .null, .int x3, .int (nI 1), .int x5, .int x6, .int r10, .int (x8 + nI 1)]) d_Form_isLeastAgain_121 rfl rfl rfl ?_
            refine r_goto 19 d_Form_isLeastAgain_124 (by decide) ?_
            exact h
      · have h := h.2 c5
        refine r_iload d_Form_isLeastAgain_62 rfl ?_
        refine r_aload_n d_Form_isLeastAgain_64 rfl ?_
        refine r_getR d_Form_isLeastAgain_65 f_Form_9 kd_13 rfl lk_13_0 ?_
        refine r_iload d_Form_isLeastAgain_68 rfl ?_
        refine r_iald d_Form_isLeastAgain_70 ce_14 ⟨h.1, ?_⟩
        have h := h.2
        refine r_icmp2 76 (x6 ≤ (σ.1 14 (Int32.toNatClampNeg x8))) d_Form_isLeastAgain_71 (by decide) rfl (fun c11 => ?_) (fun c11 => ?_)
        · have h := h.1 c11
          refine r_iload d_Form_isLeastAgain_76 rfl ?_
          refine r_if2 93 (¬ x4 = (nI 0)) d_Form_isLeastAgain_78 (by decide) rfl (fun c12 => ?_) (fun c12 => ?_)
          · have h := h.1 c12
            refine r_iconst (nI 1) d_Form_isLeastAgain_93 (by decide) ?_
            refine r_goto 98 d_Form_isLeastAgain_94 (by decide) ?_
            refine r_istore (vs' := [.ref 13, .ref 10, .null, .int x3, .int (nI 1), .int x5, .int x6, .int x7, .int x8]) d_Form_isLeastAgain_98 rfl rfl ?_
            refine r_aload_n d_Form_isLeastAgain_100 rfl ?_
            refine r_getR d_Form_isLeastAgain_101 f_Form_9 kd_13 rfl lk_13_0 ?_
            refine r_iload d_Form_isLeastAgain_104 rfl ?_
            refine r_iload d_Form_isLeastAgain_106 rfl ?_
            refine r_iast d_Form_isLeastAgain_108 ce_14 ⟨h.1, ?_⟩
            have h := h.2
            refine r_iload d_Form_isLeastAgain_109 rfl ?_
            refine r_iload_n d_Form_isLeastAgain_111 rfl ?_
            refine r_aload_n d_Form_isLeastAgain_112 rfl ?_
            refine r_getI d_Form_isLeastAgain_113 f_Form_22 kd_13 rfl ?_
            refine r_statI [.int x7, .int x3, .int (σ.1 13 3)] [] d_Form_isLeastAgain_116 s_Form_70 rfl rfl rfl (t_WD_stepRound h) (fun r13 τ13 h => ?_)
            refine r_istore (vs' := [.ref 13, .ref 10, .null, .int x3, .int (nI 1), .int x5, .int x6, .int r13, .int x8]) d_Form_isLeastAgain_119 rfl rfl ?_
            refine r_inc1 (vs' := [.ref 13, .ref 10, .null, .int x3, .int (nI 1), .int x5, .int x6, .int r13, .int (x8 + nI 1)]) d_Form_isLeastAgain_121 rfl rfl rfl ?_
            refine r_goto 19 d_Form_isLeastAgain_124 (by decide) ?_
            exact h
          · have h := h.2 c12
            refine r_iload d_Form_isLeastAgain_81 rfl ?_
            refine r_aload_n d_Form_isLeastAgain_83 rfl ?_
            refine r_getR d_Form_isLeastAgain_84 f_Form_9 kd_13 rfl lk_13_0 ?_
            refine r_iload d_Form_isLeastAgain_87 rfl ?_
            refine r_iald d_Form_isLeastAgain_89 ce_14 ⟨h.1, ?_⟩
            have h := h.2
            refine r_icmp2 97 ((σ.1 14 (Int32.toNatClampNeg x8)) ≤ x6) d_Form_isLeastAgain_90 (by decide) rfl (fun c14 => ?_) (fun c14 => ?_)
            · have h := h.1 c14
              refine r_iconst (nI 0) d_Form_isLeastAgain_97 (by decide) ?_
              refine r_istore (vs' := [.ref 13, .ref 10, .null, .int x3, .int (nI 0), .int x5, .int x6, .int x7, .int x8]) d_Form_isLeastAgain_98 rfl rfl ?_
              refine r_aload_n d_Form_isLeastAgain_100 rfl ?_
              refine r_getR d_Form_isLeastAgain_101 f_Form_9 kd_13 rfl lk_13_0 ?_
              refine r_iload d_Form_isLeastAgain_104 rfl ?_
              refine r_iload d_Form_isLeastAgain_106 rfl ?_
              refine r_iast d_Form_isLeastAgain_108 ce_14 ⟨h.1, ?_⟩
              have h := h.2
              refine r_iload d_Form_isLeastAgain_109 rfl ?_
              refine r_iload_n d_Form_isLeastAgain_111 rfl ?_
              refine r_aload_n d_Form_isLeastAgain_112 rfl ?_
              refine r_getI d_Form_isLeastAgain_113 f_Form_22 kd_13 rfl ?_
              refine r_statI [.int x7, .int x3, .int (σ.1 13 3)] [] d_Form_isLeastAgain_116 s_Form_70 rfl rfl rfl (t_WD_stepRound h) (fun r15 τ15 h => ?_)
              refine r_istore (vs' := [.ref 13, .ref 10, .null, .int x3, .int (nI 0), .int x5, .int x6, .int r15, .int x8]) d_Form_isLeastAgain_119 rfl rfl ?_
              refine r_inc1 (vs' := [.ref 13, .ref 10, .null, .int x3, .int (nI 0), .int x5, .int x6, .int r15, .int (x8 + nI 1)]) d_Form_isLeastAgain_121 rfl rfl rfl ?_
              refine r_goto 19 d_Form_isLeastAgain_124 (by decide) ?_
              exact h
            · have h := h.2 c14
              refine r_iconst (nI 1) d_Form_isLeastAgain_93 (by decide) ?_
              refine r_goto 98 d_Form_isLeastAgain_94 (by decide) ?_
              refine r_istore (vs' := [.ref 13, .ref 10, .null, .int x3, .int (nI 1), .int x5, .int x6, .int x7, .int x8]) d_Form_isLeastAgain_98 rfl rfl ?_
              refine r_aload_n d_Form_isLeastAgain_100 rfl ?_
              refine r_getR d_Form_isLeastAgain_101 f_Form_9 kd_13 rfl lk_13_0 ?_
              refine r_iload d_Form_isLeastAgain_104 rfl ?_
              refine r_iload d_Form_isLeastAgain_106 rfl ?_
              refine r_iast d_Form_isLeastAgain_108 ce_14 ⟨h.1, ?_⟩
              have h := h.2
              refine r_iload d_Form_isLeastAgain_109 rfl ?_
              refine r_iload_n d_Form_isLeastAgain_111 rfl ?_
              refine r_aload_n d_Form_isLeastAgain_112 rfl ?_
              refine r_getI d_Form_isLeastAgain_113 f_Form_22 kd_13 rfl ?_
              refine r_statI [.int x7, .int x3, .int (σ.1 13 3)] [] d_Form_isLeastAgain_116 s_Form_70 rfl rfl rfl (t_WD_stepRound h) (fun r16 τ16 h => ?_)
              refine r_istore (vs' := [.ref 13, .ref 10, .null, .int x3, .int (nI 1), .int x5, .int x6, .int r16, .int x8]) d_Form_isLeastAgain_119 rfl rfl ?_
              refine r_inc1 (vs' := [.ref 13, .ref 10, .null, .int x3, .int (nI 1), .int x5, .int x6, .int r16, .int (x8 + nI 1)]) d_Form_isLeastAgain_121 rfl rfl rfl ?_
              refine r_goto 19 d_Form_isLeastAgain_124 (by decide) ?_
              exact h
        · have h := h.2 c11
          refine r_iconst (nI 0) d_Form_isLeastAgain_74 (by decide) ?_
          exact r_zret0 d_Form_isLeastAgain_75 h
    · have h := h.2 c4
      refine r_aload_n d_Form_isLeastAgain_37 rfl ?_
      refine r_iload d_Form_isLeastAgain_38 rfl ?_
      refine r_iald d_Form_isLeastAgain_40 ce_10 ⟨h.1, ?_⟩
      have h := h.2
      refine r_istore (vs' := [.ref 13, .ref 10, .null, .int x3, .int x4, .int (σ.1 10 (Int32.toNatClampNeg x7)), .int x6, .int x7, .int x8]) d_Form_isLeastAgain_41 rfl rfl ?_
      refine r_aload_n d_Form_isLeastAgain_43 rfl ?_
      refine r_iload d_Form_isLeastAgain_44 rfl ?_
      refine r_virtV [.int (σ.1 10 (Int32.toNatClampNeg x7))] [] d_Form_isLeastAgain_46 v_Form_62 rfl rfl cn_13 rfl (t_Form_refineOrder h) (fun τ17 h => ?_)
      refine r_aload_n d_Form_isLeastAgain_49 rfl ?_
      refine r_iload d_Form_isLeastAgain_50 rfl ?_
      refine r_virtI [.int (σ.1 10 (Int32.toNatClampNeg x7))] [] d_Form_isLeastAgain_52 v_Form_66 rfl rfl cn_13 rfl (t_Form_inOrder h) (fun r18 τ18 h => ?_)
      refine r_istore (vs' := [.ref 13, .ref 10, .null, .int x3, .int x4, .int (σ.1 10 (Int32.toNatClampNeg x7)), .int r18, .int x7, .int x8]) d_Form_isLeastAgain_55 rfl rfl ?_
      refine r_iload d_Form_isLeastAgain_57 rfl ?_
      refine r_if2 76 (¬ x4 = (nI 0)) d_Form_isLeastAgain_59 (by decide) rfl (fun c19 => ?_) (fun c19 => ?_)
      · have h := h.1 c19
        refine r_iload d_Form_isLeastAgain_76 rfl ?_
        refine r_if2 93 (¬ x4 = (nI 0)) d_Form_isLeastAgain_78 (by decide) rfl (fun c20 => ?_) (fun c20 => ?_)
        · have h := h.1 c20
          refine r_iconst (nI 1) d_Form_isLeastAgain_93 (by decide) ?_
          refine r_goto 98 d_Form_isLeastAgain_94 (by decide) ?_
          refine r_istore (vs' := [.ref 13, .ref 10, .null, .int x3, .int (nI 1), .int (σ.1 10 (Int32.toNatClampNeg x7)), .int r18, .int x7, .int x8]) d_Form_isLeastAgain_98 rfl rfl ?_
          refine r_aload_n d_Form_isLeastAgain_100 rfl ?_
          refine r_getR d_Form_isLeastAgain_101 f_Form_9 kd_13 rfl lk_13_0 ?_
          refine r_iload d_Form_isLeastAgain_104 rfl ?_
          refine r_iload d_Form_isLeastAgain_106 rfl ?_
          refine r_iast d_Form_isLeastAgain_108 ce_14 ⟨h.1, ?_⟩
          have h := h.2
          refine r_iload d_Form_isLeastAgain_109 rfl ?_
          refine r_iload_n d_Form_isLeastAgain_111 rfl ?_
          refine r_aload_n d_Form_isLeastAgain_112 rfl ?_
          refine r_getI d_Form_isLeastAgain_113 f_Form_22 kd_13 rfl ?_
          refine r_statI [.int x7, .int x3, .int (τ18.1 13 3)] [] d_Form_isLeastAgain_116 s_Form_70 rfl rfl rfl (t_WD_stepRound h) (fun r21 τ21 h => ?_)
          refine r_istore (vs' := [.ref 13, .ref 10, .null, .int x3, .int (nI 1), .int (σ.1 10 (Int32.toNatClampNeg x7)), .int r18, .int r21, .int x8]) d_Form_isLeastAgain_119 rfl rfl ?_
          refine r_inc1 (vs' := [.ref 13, .ref 10, .null, .int x3, .int (nI 1), .int (σ.1 10 (Int32.toNatClampNeg x7)), .int r18, .int r21, .int (x8 + nI 1)]) d_Form_isLeastAgain_121 rfl rfl rfl ?_
          refine r_goto 19 d_Form_isLeastAgain_124 (by decide) ?_
          exact h
        · have h := h.2 c20
          refine r_iload d_Form_isLeastAgain_81 rfl ?_
          refine r_aload_n d_Form_isLeastAgain_83 rfl ?_
          refine r_getR d_Form_isLeastAgain_84 f_Form_9 kd_13 rfl lk_13_0 ?_
          refine r_iload d_Form_isLeastAgain_87 rfl ?_
          refine r_iald d_Form_isLeastAgain_89 ce_14 ⟨h.1, ?_⟩
          have h := h.2
          refine r_icmp2 97 ((τ18.1 14 (Int32.toNatClampNeg x8)) ≤ r18) d_Form_isLeastAgain_90 (by decide) rfl (fun c22 => ?_) (fun c22 => ?_)
          · have h := h.1 c22
            refine r_iconst (nI 0) d_Form_isLeastAgain_97 (by decide) ?_
            refine r_istore (vs' := [.ref 13, .ref 10, .null, .int x3, .int (nI 0), .int (σ.1 10 (Int32.toNatClampNeg x7)), .int r18, .int x7, .int x8]) d_Form_isLeastAgain_98 rfl rfl ?_
            refine r_aload_n d_Form_isLeastAgain_100 rfl ?_
            refine r_getR d_Form_isLeastAgain_101 f_Form_9 kd_13 rfl lk_13_0 ?_
            refine r_iload d_Form_isLeastAgain_104 rfl ?_
            refine r_iload d_Form_isLeastAgain_106 rfl ?_
            refine r_iast d_Form_isLeastAgain_108 ce_14 ⟨h.1, ?_⟩
            have h := h.2
            refine r_iload d_Form_isLeastAgain_109 rfl ?_
            refine r_iload_n d_Form_isLeastAgain_111 rfl ?_
            refine r_aload_n d_Form_isLeastAgain_112 rfl ?_
            refine r_getI d_Form_isLeastAgain_113 f_Form_22 kd_13 rfl ?_
            refine r_statI [.int x7, .int x3, .int (τ18.1 13 3)] [] d_Form_isLeastAgain_116 s_Form_70 rfl rfl rfl (t_WD_stepRound h) (fun r23 τ23 h => ?_)
            refine r_istore (vs' := [.ref 13, .ref 10, .null, .int x3, .int (nI 0), .int (σ.1 10 (Int32.toNatClampNeg x7)), .int r18, .int r23, .int x8]) d_Form_isLeastAgain_119 rfl rfl ?_
            refine r_inc1 (vs' := [.ref 13, .ref 10, .null, .int x3, .int (nI 0), .int (σ.1 10 (Int32.toNatClampNeg x7)), .int r18, .int r23, .int (x8 + nI 1)]) d_Form_isLeastAgain_121 rfl rfl rfl ?_
            refine r_goto 19 d_Form_isLeastAgain_124 (by decide) ?_
            exact h
          · have h := h.2 c22
            refine r_iconst (nI 1) d_Form_isLeastAgain_93 (by decide) ?_
            refine r_goto 98 d_Form_isLeastAgain_94 (by decide) ?_
            refine r_istore (vs' := [.ref 13, .ref 10, .null, .int x3, .int (nI 1), .int (σ.1 10 (Int32.toNatClampNeg x7)), .int r18, .int x7, .int x8]) d_Form_isLeastAgain_98 rfl rfl ?_
            refine r_aload_n d_Form_isLeastAgain_100 rfl ?_
            refine r_getR d_Form_isLeastAgain_101 f_Form_9 kd_13 rfl lk_13_0 ?_
            refine r_iload d_Form_isLeastAgain_104 rfl ?_
            refine r_iload d_Form_isLeastAgain_106 rfl ?_
            refine r_iast d_Form_isLeastAgain_108 ce_14 ⟨h.1, ?_⟩
            have h := h.2
            refine r_iload d_Form_isLeastAgain_109 rfl ?_
            refine r_iload_n d_Form_isLeastAgain_111 rfl ?_
            refine r_aload_n d_Form_isLeastAgain_112 rfl ?_
            refine r_getI d_Form_isLeastAgain_113 f_Form_22 kd_13 rfl ?_
            refine r_statI [.int x7, .int x3, .int (τ18.1 13 3)] [] d_Form_isLeastAgain_116 s_Form_70 rfl rfl rfl (t_WD_stepRound h) (fun r24 τ24 h => ?_)
            refine r_istore (vs' := [.ref 13, .ref 10, .null, .int x3, .int (nI 1), .int (σ.1 10 (Int32.toNatClampNeg x7)), .int r18, .int r24, .int x8]) d_Form_isLeastAgain_119 rfl rfl ?_
            refine r_inc1 (vs' := [.ref 13, .ref 10, .null, .int x3, .int (nI 1), .int (σ.1 10 (Int32.toNatClampNeg x7)), .int r18, .int r24, .int (x8 + nI 1)]) d_Form_isLeastAgain_121 rfl rfl rfl ?_
            refine r_goto 19 d_Form_isLeastAgain_124 (by decide) ?_
            exact h
      · have h := h.2 c19
        refine r_iload d_Form_isLeastAgain_62 rfl ?_
        refine r_aload_n d_Form_isLeastAgain_64 rfl ?_
        refine r_getR d_Form_isLeastAgain_65 f_Form_9 kd_13 rfl lk_13_0 ?_
        refine r_iload d_Form_isLeastAgain_68 rfl ?_
        refine r_iald d_Form_isLeastAgain_70 ce_14 ⟨h.1, ?_⟩
        have h := h.2
        refine r_icmp2 76 (r18 ≤ (τ18.1 14 (Int32.toNatClampNeg x8))) d_Form_isLeastAgain_71 (by decide) rfl (fun c25 => ?_) (fun c25 => ?_)
        · have h := h.1 c25
          refine r_iload d_Form_isLeastAgain_76 rfl ?_
          refine r_if2 93 (¬ x4 = (nI 0)) d_Form_isLeastAgain_78 (by decide) rfl (fun c26 => ?_) (fun c26 => ?_)
          · have h := h.1 c26
            refine r_iconst (nI 1) d_Form_isLeastAgain_93 (by decide) ?_
            refine r_goto 98 d_Form_isLeastAgain_94 (by decide) ?_
            refine r_istore (vs' := [.ref 13, .ref 10, .null, .int x3, .int (nI 1), .int (σ.1 10 (Int32.toNatClampNeg x7)), .int r18, .int x7, .int x8]) d_Form_isLeastAgain_98 rfl rfl ?_
            refine r_aload_n d_Form_isLeastAgain_100 rfl ?_
            refine r_getR d_Form_isLeastAgain_101 f_Form_9 kd_13 rfl lk_13_0 ?_
            refine r_iload d_Form_isLeastAgain_104 rfl ?_
            refine r_iload d_Form_isLeastAgain_106 rfl ?_
            refine r_iast d_Form_isLeastAgain_108 ce_14 ⟨h.1, ?_⟩
            have h := h.2
            refine r_iload d_Form_isLeastAgain_109 rfl ?_
            refine r_iload_n d_Form_isLeastAgain_111 rfl ?_
            refine r_aload_n d_Form_isLeastAgain_112 rfl ?_
            refine r_getI d_Form_isLeastAgain_113 f_Form_22 kd_13 rfl ?_
            refine r_statI [.int x7, .int x3, .int (τ18.1 13 3)] [] d_Form_isLeastAgain_116 s_Form_70 rfl rfl rfl (t_WD_stepRound h) (fun r27 τ27 h => ?_)
            refine r_istore (vs' := [.ref 13, .ref 10, .null, .int x3, .int (nI 1), .int (σ.1 10 (Int32.toNatClampNeg x7)), .int r18, .int r27, .int x8]) d_Form_isLeastAgain_119 rfl rfl ?_
            refine r_inc1 (vs' := [.ref 13, .ref 10, .null, .int x3, .int (nI 1), .int (σ.1 10 (Int32.toNatClampNeg x7)), .int r18, .int r27, .int (x8 + nI 1)]) d_Form_isLeastAgain_121 rfl rfl rfl ?_
            refine r_goto 19 d_Form_isLeastAgain_124 (by decide) ?_
            exact h
          · have h := h.2 c26
            refine r_iload d_Form_isLeastAgain_81 rfl ?_
            refine r_aload_n d_Form_isLeastAgain_83 rfl ?_
            refine r_getR d_Form_isLeastAgain_84 f_Form_9 kd_13 rfl lk_13_0 ?_
            refine r_iload d_Form_isLeastAgain_87 rfl ?_
            refine r_iald d_Form_isLeastAgain_89 ce_14 ⟨h.1, ?_⟩
            have h := h.2
            refine r_icmp2 97 ((τ18.1 14 (Int32.toNatClampNeg x8)) ≤ r18) d_Form_isLeastAgain_90 (by decide) rfl (fun c28 => ?_) (fun c28 => ?_)
            · have h := h.1 c28
              refine r_iconst (nI 0) d_Form_isLeastAgain_97 (by decide) ?_
              refine r_istore (vs' := [.ref 13, .ref 10, .null, .int x3, .int (nI 0), .int (σ.1 10 (Int32.toNatClampNeg x7)), .int r18, .int x7, .int x8]) d_Form_isLeastAgain_98 rfl rfl ?_
              refine r_aload_n d_Form_isLeastAgain_100 rfl ?_
              refine r_getR d_Form_isLeastAgain_101 f_Form_9 kd_13 rfl lk_13_0 ?_
              refine r_iload d_Form_isLeastAgain_104 rfl ?_
              refine r_iload d_Form_isLeastAgain_106 rfl ?_
              refine r_iast d_Form_isLeastAgain_108 ce_14 ⟨h.1, ?_⟩
              have h := h.2
              refine r_iload d_Form_isLeastAgain_109 rfl ?_
              refine r_iload_n d_Form_isLeastAgain_111 rfl ?_
              refine r_aload_n d_Form_isLeastAgain_112 rfl ?_
              refine r_getI d_Form_isLeastAgain_113 f_Form_22 kd_13 rfl ?_
              refine r_statI [.int x7, .int x3, .int (τ18.1 13 3)] [] d_Form_isLeastAgain_116 s_Form_70 rfl rfl rfl (t_WD_stepRound h) (fun r29 τ29 h => ?_)
              refine r_istore (vs' := [.ref 13, .ref 10, .null, .int x3, .int (nI 0), .int (σ.1 10 (Int32.toNatClampNeg x7)), .int r18, .int r29, .int x8]) d_Form_isLeastAgain_119 rfl rfl ?_
              refine r_inc1 (vs' := [.ref 13, .ref 10, .null, .int x3, .int (nI 0), .int (σ.1 10 (Int32.toNatClampNeg x7)), .int r18, .int r29, .int (x8 + nI 1)]) d_Form_isLeastAgain_121 rfl rfl rfl ?_
              refine r_goto 19 d_Form_isLeastAgain_124 (by decide) ?_
              exact h
            · have h := h.2 c28
              refine r_iconst (nI 1) d_Form_isLeastAgain_93 (by decide) ?_
              refine r_goto 98 d_Form_isLeastAgain_94 (by decide) ?_
              refine r_istore (vs' := [.ref 13, .ref 10, .null, .int x3, .int (nI 1), .int (σ.1 10 (Int32.toNatClampNeg x7)), .int r18, .int x7, .int x8]) d_Form_isLeastAgain_98 rfl rfl ?_
              refine r_aload_n d_Form_isLeastAgain_100 rfl ?_
              refine r_getR d_Form_isLeastAgain_101 f_Form_9 kd_13 rfl lk_13_0 ?_
              refine r_iload d_Form_isLeastAgain_104 rfl ?_
              refine r_iload d_Form_isLeastAgain_106 rfl ?_
              refine r_iast d_Form_isLeastAgain_108 ce_14 ⟨h.1, ?_⟩
              have h := h.2
              refine r_iload d_Form_isLeastAgain_109 rfl ?_
              refine r_iload_n d_Form_isLeastAgain_111 rfl ?_
              refine r_aload_n d_Form_isLeastAgain_112 rfl ?_
              refine r_getI d_Form_isLeastAgain_113 f_Form_22 kd_13 rfl ?_
              refine r_statI [.int x7, .int x3, .int (τ18.1 13 3)] [] d_Form_isLeastAgain_116 s_Form_70 rfl rfl rfl (t_WD_stepRound h) (fun r30 τ30 h => ?_)
              refine r_istore (vs' := [.ref 13, .ref 10, .null, .int x3, .int (nI 1), .int (σ.1 10 (Int32.toNatClampNeg x7)), .int r18, .int r30, .int x8]) d_Form_isLeastAgain_119 rfl rfl ?_
              refine r_inc1 (vs' := [.ref 13, .ref 10, .null, .int x3, .int (nI 1), .int (σ.1 10 (Int32.toNatClampNeg x7)), .int r18, .int r30, .int (x8 + nI 1)]) d_Form_isLeastAgain_121 rfl rfl rfl ?_
              refine r_goto 19 d_Form_isLeastAgain_124 (by decide) ?_
              exact h
        · have h := h.2 c25
          refine r_iconst (nI 0) d_Form_isLeastAgain_74 (by decide) ?_
          exact r_zret0 d_Form_isLeastAgain_75 h
abbrev R_Form_tryAllStarts (d : Nat) (K : am_S → Prop) (pc : Nat) (vs st : List Value) (σ : am_S) : Prop := am_r (am_run (d + 3)) "WheelDisc$Form" none prog_4_method_5_code (am_Rv K) pc vs st σ
def w_Form_tryAllStarts (x2 : Int32) (σ : am_S) (K : am_S → Prop) : Prop := ∀ d : Nat, am_run (d + 4) y_Form_tryAllStarts [.ref 13, .ref 10, .int x2] σ (am_Rv K)
theorem t_Form_tryAllStarts {d : Nat} {x2 : Int32}  {σ : am_S} {K : am_S → Prop} (h : w_Form_tryAllStarts x2 σ K) : am_run (d + 4) y_Form_tryAllStarts [.ref 13, .ref 10, .int x2] σ (am_Rv K) := h d
theorem e_Form_tryAllStarts {x2 : Int32}  {σ : am_S} {K : am_S → Prop} (h : ∀ d : Nat, R_Form_tryAllStarts d K 2 [.ref 13, .ref 10, .int x2, .int (nI 0)] [] σ) : w_Form_tryAllStarts x2 σ K := by
  intro d
  have h := h d
  refine am_begin (vs := [.ref 13, .ref 10, .int x2, .null]) c_Form_tryAllStarts (by decide +kernel) rfl rfl rfl rfl ?_
  refine r_iconst (nI 0) d_Form_tryAllStarts_0 (by decide) ?_
  refine r_istore_n (vs' := [.ref 13, .ref 10, .int x2, .int (nI 0)]) d_Form_tryAllStarts_1 rfl rfl ?_
  exact h
theorem l_Form_tryAllStarts_2 {d : Nat}  {x2 : Int32} {x3 : Int32}  {σ : am_S} {K : am_S → Prop} (h : (am_ite ((σ.1 13 3) ≤ x3) (K σ) (w_Form_isLeastAgain x3 x2 σ (fun r2 τ2 => (am_ite (r2 = (nI 0)) (R_Form_tryAllStarts d K 2 [.ref 13, .ref 10, .int x2, .int (x3 + nI 1)] [] τ2) (K τ2)))))) : R_Form_tryAllStarts d K 2 [.ref 13, .ref 10, .int x2, .int x3] [] σ := by
  refine r_iload_n d_Form_tryAllStarts_2 rfl ?_
  refine r_aload_n d_Form_tryAllStarts_3 rfl ?_
  refine r_getI d_Form_tryAllStarts_4 f_Form_22 kd_13 rfl ?_
  refine r_icmp2 27 ((σ.1 13 3) ≤ x3) d_Form_tryAllStarts_7 (by decide) rfl (fun c1 => ?_) (fun c1 => ?_)
  · have h := h.1 c1
    exact r_vret d_Form_tryAllStarts_27 h
  · have h := h.2 c1
    refine r_aload_n d_Form_tryAllStarts_10 rfl ?_
    refine r_aload_n d_Form_tryAllStarts_11 rfl ?_
    refine r_iload_n d_Form_tryAllStarts_12 rfl ?_
    refine r_iload_n d_Form_tryAllStarts_13 rfl ?_
    refine r_virtI [.ref 10, .int x3, .int x2] [] d_Form_tryAllStarts_14 v_Form_55 rfl rfl cn_13 rfl (t_Form_isLeastAgain h) (fun r2 τ2 h => ?_)
    refine r_if2 21 (r2 = (nI 0)) d_Form_tryAllStarts_17 (by decide) rfl (fun c3 => ?_) (fun c3 => ?_)
    · have h := h.1 c3
      refine r_inc1 (vs' := [.ref 13, .ref 10, .int x2, .int (x3 + nI 1)]) d_Form_tryAllStarts_21 rfl rfl rfl ?_
      refine r_goto 2 d_Form_tryAllStarts_24 (by decide) ?_
      exact h
    · have h := h.2 c3
      exact r_vret d_Form_tryAllStarts_20 h
def w_Form_find  (σ : am_S) (K : am_S → Prop) : Prop := (am_ite (¬ (σ.1 13 5) = (nI 0)) (w_Arr_fillI (k := 14) (nk := 512) (nI 1024) (am_upI (am_upI σ 13 3 (σ.1 9 2)) 13 4 (σ.1 9 3)) (fun τ2 => (w_Form_tryAllStarts (nI 1) τ2 (fun τ3 => (w_Form_tryAllStarts (-1) τ3 (fun τ4 => K (am_upI τ4 13 5 (nI 0)))))))) (K σ))
theorem t_Form_find {d : Nat}   {σ : am_S} {K : am_S → Prop} (h : w_Form_find  σ K) : am_run (d + 5) y_Form_find [.ref 13, .ref 9] σ (am_Rv K) := by
  unfold w_Form_find at h
  refine am_begin (vs := [.ref 13, .ref 9]) c_Form_find (by decide +kernel) rfl rfl rfl rfl ?_
  refine r_aload_n d_Form_find_0 rfl ?_
  refine r_getI d_Form_find_1 f_Form_29 kd_13 rfl ?_
  refine r_if2 8 (¬ (σ.1 13 5) = (nI 0)) d_Form_find_4 (by decide) rfl (fun c1 => ?_) (fun c1 => ?_)
  · have h := h.1 c1
    refine r_aload_n d_Form_find_8 rfl ?_
    refine r_aload_n d_Form_find_9 rfl ?_
    refine r_getI d_Form_find_10 f_Form_39 kd_9 rfl ?_
    refine r_putI d_Form_find_13 f_Form_22 kd_13 rfl ?_
    refine r_aload_n d_Form_find_16 rfl ?_
    refine r_aload_n d_Form_find_17 rfl ?_
    refine r_getI d_Form_find_18 f_Form_42 kd_9 rfl ?_
    refine r_putI d_Form_find_21 f_Form_26 kd_13 rfl ?_
    refine r_aload_n d_Form_find_24 rfl ?_
    refine r_getR d_Form_find_25 f_Form_9 kd_13 rfl lk_13_0 ?_
    refine r_sipush (nI 1024) d_Form_find_28 (by decide) ?_
    refine r_statV [.ref 14, .int (nI 1024)] [] d_Form_find_31 s_Form_43 rfl rfl rfl (t_Arr_fillI ce_14 h) (fun τ2 h => ?_)
    refine r_aload_n d_Form_find_34 rfl ?_
    refine r_aload_n d_Form_find_35 rfl ?_
    refine r_getR d_Form_find_36 f_Form_49 kd_9 rfl lk_9_0 ?_
    refine r_iconst (nI 1) d_Form_find_39 (by decide) ?_
    refine r_virtV [.ref 10, .int (nI 1)] [] d_Form_find_40 v_Form_52 rfl rfl cn_13 rfl (t_Form_tryAllStarts h) (fun τ3 h => ?_)
    refine r_aload_n d_Form_find_43 rfl ?_
    refine r_aload_n d_Form_find_44 rfl ?_
    refine r_getR d_Form_find_45 f_Form_49 kd_9 rfl lk_9_0 ?_
    refine r_iconst (-1) d_Form_find_48 (by decide) ?_
    refine r_virtV [.ref 10, .int (-1)] [] d_Form_find_49 v_Form_52 rfl rfl cn_13 rfl (t_Form_tryAllStarts h) (fun τ4 h => ?_)
    refine r_aload_n d_Form_find_52 rfl ?_
    refine r_iconst (nI 0) d_Form_find_53 (by decide) ?_
    refine r_putZ d_Form_find_54 f_Form_29 kd_13 rfl ⟨Or.inl rfl, ?_⟩
    exact r_vret d_Form_find_57 h
  · have h := h.2 c1
    exact r_vret d_Form_find_7 h
def w_WD_formed  (σ : am_S) (K : am_S → Prop) : Prop := (w_WD_lookedAt  σ (fun τ1 => (w_Form_find  τ1 (fun τ2 => K τ2))))
theorem t_WD_formed {d : Nat}   {σ : am_S} {K : am_S → Prop} (h : w_WD_formed  σ K) : am_run (d + 6) y_WD_formed [.ref 0] σ (am_Rr 13 K) := by
  unfold w_WD_formed at h
  refine am_begin (vs := [.ref 0]) c_WD_formed (by decide +kernel) rfl rfl rfl rfl ?_
  refine r_aload_n d_WD_formed_0 rfl ?_
  refine r_getR d_WD_formed_1 f_WD_40 kd_0 rfl lk_0_4 ?_
  refine r_aload_n d_WD_formed_4 rfl ?_
  refine r_virtR [] [.ref 13] d_WD_formed_5 v_WD_187 rfl rfl cn_0 rfl (t_WD_lookedAt h) (fun τ1 h => ?_)
  refine r_virtV [.ref 9] [] d_WD_formed_8 v_WD_321 rfl rfl cn_13 rfl (t_Form_find h) (fun τ2 h => ?_)
  refine r_aload_n d_WD_formed_11 rfl ?_
  refine r_getR d_WD_formed_12 f_WD_40 kd_0 rfl lk_0_4 ?_
  exact r_aret d_WD_formed_15 h
