def w_WD_refuse (x1 : Int32) (σ : am_S) (K : Int32 → am_S → Prop) : Prop := K (-1) (am_upI σ 0 12 x1)
theorem t_WD_refuse {d : Nat} {x1 : Int32}  {σ : am_S} {K : Int32 → am_S → Prop} (h : w_WD_refuse x1 σ K) : am_run (d + 1) y_WD_refuse [.ref 0, .int x1] σ (am_Ri K) := by
  unfold w_WD_refuse at h
  refine am_begin (vs := [.ref 0, .int x1]) c_WD_refuse (by decide +kernel) rfl rfl rfl rfl ?_
  refine r_aload_n d_WD_refuse_0 rfl ?_
  refine r_iload_n d_WD_refuse_1 rfl ?_
  refine r_putI d_WD_refuse_2 f_WD_83 kd_0 rfl ?_
  refine r_iconst (-1) d_WD_refuse_5 (by decide) ?_
  exact r_iret d_WD_refuse_6 h
abbrev R_Arr_fillJ (d : Nat) (K : am_S → Prop) (pc : Nat) (vs st : List Value) (σ : am_S) : Prop := am_r (am_run (d + 0)) "java/util/Arrays" none prog_17_method_101_code (am_Rv K) pc vs st σ
def w_Arr_fillJ {k nk : Nat} (x1 : Int64) (σ : am_S) (K : am_S → Prop) : Prop := ∀ d : Nat, am_run (d + 1) y_Arr_fillJ [.ref k, .long x1] σ (am_Rv K)
theorem t_Arr_fillJ {d : Nat} {k nk : Nat} {x1 : Int64} (hk : am_cell k = (12, nk)) {σ : am_S} {K : am_S → Prop} (h : w_Arr_fillJ (k := k) (nk := nk) x1 σ K) : am_run (d + 1) y_Arr_fillJ [.ref k, .long x1] σ (am_Rv K) := h d
theorem e_Arr_fillJ {k nk : Nat} {x1 : Int64} (hk : am_cell k = (12, nk)) {σ : am_S} {K : am_S → Prop} (h : ∀ d : Nat, R_Arr_fillJ d K 6 [.ref k, .long x1, .null, .int (nI 0), .int (nI nk)] [] σ) : w_Arr_fillJ (k := k) (nk := nk) x1 σ K := by
  intro d
  have h := h d
  refine am_begin (vs := [.ref k, .long x1, .null, .null, .null]) c_Arr_fillJ (by decide +kernel) rfl rfl rfl rfl ?_
  refine r_iconst (nI 0) d_Arr_fillJ_0 (by decide) ?_
  refine r_istore_n (vs' := [.ref k, .long x1, .null, .int (nI 0), .null]) d_Arr_fillJ_1 rfl rfl ?_
  refine r_aload_n d_Arr_fillJ_2 rfl ?_
  refine r_alen d_Arr_fillJ_3 hk rfl ?_
  refine r_istore (vs' := [.ref k, .long x1, .null, .int (nI 0), .int (nI nk)]) d_Arr_fillJ_4 rfl rfl ?_
  exact h
theorem l_Arr_fillJ_6 {d : Nat} {k nk : Nat} {x1 : Int64} {x3 : Int32} {x4 : Int32} (hk : am_cell k = (12, nk)) {σ : am_S} {K : am_S → Prop} (h : (am_ite (x4 ≤ x3) (K σ) (vp_in x3 nk ∧ R_Arr_fillJ d K 6 [.ref k, .long x1, .null, .int (x3 + nI 1), .int x4] [] (am_upJ σ k (Int32.toNatClampNeg x3) x1)))) : R_Arr_fillJ d K 6 [.ref k, .long x1, .null, .int x3, .int x4] [] σ := by
  refine r_iload_n d_Arr_fillJ_6 rfl ?_
  refine r_iload d_Arr_fillJ_7 rfl ?_
  refine r_icmp2 22 (x4 ≤ x3) d_Arr_fillJ_9 (by decide) rfl (fun c1 => ?_) (fun c1 => ?_)
  · have h := h.1 c1
    exact r_vret d_Arr_fillJ_22 h
  · have h := h.2 c1
    refine r_aload_n d_Arr_fillJ_12 rfl ?_
    refine r_iload_n d_Arr_fillJ_13 rfl ?_
    refine r_lload_n d_Arr_fillJ_14 rfl ?_
    refine r_last d_Arr_fillJ_15 hk ⟨h.1, ?_⟩
    have h := h.2
    refine r_inc1 (vs' := [.ref k, .long x1, .null, .int (x3 + nI 1), .int x4]) d_Arr_fillJ_16 rfl rfl rfl ?_
    refine r_goto 6 d_Arr_fillJ_19 (by decide) ?_
    exact h
def w_Rim_become (x1 : Int32) (x2 : Int32) (σ : am_S) (K : am_S → Prop) : Prop := (w_Arr_fillJ (k := 2) (nk := 64) (0) (am_upI (am_upI σ 1 1 x1) 1 2 x2) (fun τ1 => K τ1))
theorem t_Rim_become {d : Nat} {x1 : Int32} {x2 : Int32}  {σ : am_S} {K : am_S → Prop} (h : w_Rim_become x1 x2 σ K) : am_run (d + 2) y_Rim_become [.ref 1, .int x1, .int x2] σ (am_Rv K) := by
  unfold w_Rim_become at h
  refine am_begin (vs := [.ref 1, .int x1, .int x2]) c_Rim_become (by decide +kernel) rfl rfl rfl rfl ?_
  refine r_aload_n d_Rim_become_0 rfl ?_
  refine r_iload_n d_Rim_become_1 rfl ?_
  refine r_putI d_Rim_become_2 f_Rim_13 kd_1 rfl ?_
  refine r_aload_n d_Rim_become_5 rfl ?_
  refine r_iload_n d_Rim_become_6 rfl ?_
  refine r_putI d_Rim_become_7 f_Rim_17 kd_1 rfl ?_
  refine r_aload_n d_Rim_become_10 rfl ?_
  refine r_getR d_Rim_become_11 f_Rim_9 kd_1 rfl lk_1_0 ?_
  refine r_lconst (0) d_Rim_become_14 (by decide) ?_
  refine r_statV [.ref 2, .long (0)] [] d_Rim_become_15 s_Rim_20 rfl rfl rfl (t_Arr_fillJ ce_2 h) (fun τ1 h => ?_)
  exact r_vret d_Rim_become_18 h
def w_WD_accept (x1 : Int32) (σ : am_S) (K : Int32 → am_S → Prop) : Prop := K x1 (am_upI σ 0 12 (nI 0))
theorem t_WD_accept {d : Nat} {x1 : Int32}  {σ : am_S} {K : Int32 → am_S → Prop} (h : w_WD_accept x1 σ K) : am_run (d + 1) y_WD_accept [.ref 0, .int x1] σ (am_Ri K) := by
  unfold w_WD_accept at h
  refine am_begin (vs := [.ref 0, .int x1]) c_WD_accept (by decide +kernel) rfl rfl rfl rfl ?_
  refine r_aload_n d_WD_accept_0 rfl ?_
  refine r_iconst (nI 0) d_WD_accept_1 (by decide) ?_
  refine r_putI d_WD_accept_2 f_WD_83 kd_0 rfl ?_
  refine r_iload_n d_WD_accept_5 rfl ?_
  exact r_iret d_WD_accept_6 h
def w_WD_rim (x1 : Int32) (x2 : Int32) (σ : am_S) (K : Int32 → am_S → Prop) : Prop := (am_ite (¬ x1 = (nI 3)) (am_ite (x1 < (nI 0)) (w_WD_refuse (nI 1) σ (fun r3 τ3 => K r3 τ3)) (am_ite ((nI 2) < x1) (w_WD_refuse (nI 1) σ (fun r5 τ5 => K r5 τ5)) (am_ite (x2 ≤ (nI 64)) (am_ite ((nI 0) ≤ x2) (w_Rim_become x1 x2 σ (fun τ8 => (w_WD_accept x2 τ8 (fun r9 τ9 => K r9 τ9)))) (w_WD_refuse (nI 3) σ (fun r10 τ10 => K r10 τ10))) (w_WD_refuse (nI 1) σ (fun r11 τ11 => K r11 τ11))))) (w_Rim_become (nI 3) (nI 0) σ (fun τ12 => (w_WD_accept (nI 0) τ12 (fun r13 τ13 => K r13 τ13)))))
theorem t_WD_rim {d : Nat} {x1 : Int32} {x2 : Int32}  {σ : am_S} {K : Int32 → am_S → Prop} (h : w_WD_rim x1 x2 σ K) : am_run (d + 3) y_WD_rim [.ref 0, .int x1, .int x2] σ (am_Ri K) := by
  unfold w_WD_rim at h
  refine am_begin (vs := [.ref 0, .int x1, .int x2]) c_WD_rim (by decide +kernel) rfl rfl rfl rfl ?_
  refine r_iload_n d_WD_rim_0 rfl ?_
  refine r_iconst (nI 3) d_WD_rim_1 (by decide) ?_
  refine r_icmp2 20 (¬ x1 = (nI 3)) d_WD_rim_2 (by decide) rfl (fun c1 => ?_) (fun c1 => ?_)
  · have h := h.1 c1
    refine r_iload_n d_WD_rim_20 rfl ?_
    refine r_if2 35 (x1 < (nI 0)) d_WD_rim_21 (by decide) rfl (fun c2 => ?_) (fun c2 => ?_)
    · have h := h.1 c2
      refine r_aload_n d_WD_rim_35 rfl ?_
      refine r_iconst (nI 1) d_WD_rim_36 (by decide) ?_
      refine r_virtI [.int (nI 1)] [] d_WD_rim_37 v_WD_95 rfl rfl cn_0 rfl (t_WD_refuse h) (fun r3 τ3 h => ?_)
      exact r_iret d_WD_rim_40 h
    · have h := h.2 c2
      refine r_iload_n d_WD_rim_24 rfl ?_
      refine r_iconst (nI 2) d_WD_rim_25 (by decide) ?_
      refine r_icmp2 35 ((nI 2) < x1) d_WD_rim_26 (by decide) rfl (fun c4 => ?_) (fun c4 => ?_)
      · have h := h.1 c4
        refine r_aload_n d_WD_rim_35 rfl ?_
        refine r_iconst (nI 1) d_WD_rim_36 (by decide) ?_
        refine r_virtI [.int (nI 1)] [] d_WD_rim_37 v_WD_95 rfl rfl cn_0 rfl (t_WD_refuse h) (fun r5 τ5 h => ?_)
        exact r_iret d_WD_rim_40 h
      · have h := h.2 c4
        refine r_iload_n d_WD_rim_29 rfl ?_
        refine r_bipush (nI 64) d_WD_rim_30 (by decide) ?_
        refine r_icmp2 41 (x2 ≤ (nI 64)) d_WD_rim_32 (by decide) rfl (fun c6 => ?_) (fun c6 => ?_)
        · have h := h.1 c6
          refine r_iload_n d_WD_rim_41 rfl ?_
          refine r_if2 51 ((nI 0) ≤ x2) d_WD_rim_42 (by decide) rfl (fun c7 => ?_) (fun c7 => ?_)
          · have h := h.1 c7
            refine r_aload_n d_WD_rim_51 rfl ?_
            refine r_getR d_WD_rim_52 f_WD_10 kd_0 rfl lk_0_0 ?_
            refine r_iload_n d_WD_rim_55 rfl ?_
            refine r_iload_n d_WD_rim_56 rfl ?_
            refine r_virtV [.int x1, .int x2] [] d_WD_rim_57 v_WD_87 rfl rfl cn_1 rfl (t_Rim_become h) (fun τ8 h => ?_)
            refine r_aload_n d_WD_rim_60 rfl ?_
            refine r_iload_n d_WD_rim_61 rfl ?_
            refine r_virtI [.int x2] [] d_WD_rim_62 v_WD_91 rfl rfl cn_0 rfl (t_WD_accept h) (fun r9 τ9 h => ?_)
            exact r_iret d_WD_rim_65 h
          · have h := h.2 c7
            refine r_aload_n d_WD_rim_45 rfl ?_
            refine r_iconst (nI 3) d_WD_rim_46 (by decide) ?_
            refine r_virtI [.int (nI 3)] [] d_WD_rim_47 v_WD_95 rfl rfl cn_0 rfl (t_WD_refuse h) (fun r10 τ10 h => ?_)
            exact r_iret d_WD_rim_50 h
        · have h := h.2 c6
          refine r_aload_n d_WD_rim_35 rfl ?_
          refine r_iconst (nI 1) d_WD_rim_36 (by decide) ?_
          refine r_virtI [.int (nI 1)] [] d_WD_rim_37 v_WD_95 rfl rfl cn_0 rfl (t_WD_refuse h) (fun r11 τ11 h => ?_)
          exact r_iret d_WD_rim_40 h
  · have h := h.2 c1
    refine r_aload_n d_WD_rim_5 rfl ?_
    refine r_getR d_WD_rim_6 f_WD_10 kd_0 rfl lk_0_0 ?_
    refine r_iconst (nI 3) d_WD_rim_9 (by decide) ?_
    refine r_iconst (nI 0) d_WD_rim_10 (by decide) ?_
    refine r_virtV [.int (nI 3), .int (nI 0)] [] d_WD_rim_11 v_WD_87 rfl rfl cn_1 rfl (t_Rim_become h) (fun τ12 h => ?_)
    refine r_aload_n d_WD_rim_14 rfl ?_
    refine r_iconst (nI 0) d_WD_rim_15 (by decide) ?_
    refine r_virtI [.int (nI 0)] [] d_WD_rim_16 v_WD_91 rfl rfl cn_0 rfl (t_WD_accept h) (fun r13 τ13 h => ?_)
    exact r_iret d_WD_rim_19 h
def w_Rim_hasRow  (σ : am_S) (K : Int32 → am_S → Prop) : Prop := (am_ite ((σ.1 1 1) = (-1)) (K (nI 0) σ) (am_ite ((σ.1 1 1) = (nI 3)) (K (nI 0) σ) (K (nI 1) σ)))
theorem t_Rim_hasRow {d : Nat}   {σ : am_S} {K : Int32 → am_S → Prop} (h : w_Rim_hasRow  σ K) : am_run (d + 1) y_Rim_hasRow [.ref 1] σ (am_Ri K) := by
  unfold w_Rim_hasRow at h
  refine am_begin (vs := [.ref 1]) c_Rim_hasRow (by decide +kernel) rfl rfl rfl rfl ?_
  refine r_aload_n d_Rim_hasRow_0 rfl ?_
  refine r_getI d_Rim_hasRow_1 f_Rim_13 kd_1 rfl ?_
  refine r_iconst (-1) d_Rim_hasRow_4 (by decide) ?_
  refine r_icmp2 20 ((σ.1 1 1) = (-1)) d_Rim_hasRow_5 (by decide) rfl (fun c1 => ?_) (fun c1 => ?_)
  · have h := h.1 c1
    refine r_iconst (nI 0) d_Rim_hasRow_20 (by decide) ?_
    exact r_zret0 d_Rim_hasRow_21 h
  · have h := h.2 c1
    refine r_aload_n d_Rim_hasRow_8 rfl ?_
    refine r_getI d_Rim_hasRow_9 f_Rim_13 kd_1 rfl ?_
    refine r_iconst (nI 3) d_Rim_hasRow_12 (by decide) ?_
    refine r_icmp2 20 ((σ.1 1 1) = (nI 3)) d_Rim_hasRow_13 (by decide) rfl (fun c2 => ?_) (fun c2 => ?_)
    · have h := h.1 c2
      refine r_iconst (nI 0) d_Rim_hasRow_20 (by decide) ?_
      exact r_zret0 d_Rim_hasRow_21 h
    · have h := h.2 c2
      refine r_iconst (nI 1) d_Rim_hasRow_16 (by decide) ?_
      refine r_goto 21 d_Rim_hasRow_17 (by decide) ?_
      exact r_zret1 d_Rim_hasRow_21 h
def w_WD_deny (x1 : Int32) (σ : am_S) (K : Int32 → am_S → Prop) : Prop := K (nI 0) (am_upI σ 0 12 x1)
theorem t_WD_deny {d : Nat} {x1 : Int32}  {σ : am_S} {K : Int32 → am_S → Prop} (h : w_WD_deny x1 σ K) : am_run (d + 1) y_WD_deny [.ref 0, .int x1] σ (am_Ri K) := by
  unfold w_WD_deny at h
  refine am_begin (vs := [.ref 0, .int x1]) c_WD_deny (by decide +kernel) rfl rfl rfl rfl ?_
  refine r_aload_n d_WD_deny_0 rfl ?_
  refine r_iload_n d_WD_deny_1 rfl ?_
  refine r_putI d_WD_deny_2 f_WD_83 kd_0 rfl ?_
  refine r_iconst (nI 0) d_WD_deny_5 (by decide) ?_
  exact r_zret0 d_WD_deny_6 h
def w_WD_grant (x1 : Int32) (σ : am_S) (K : Int32 → am_S → Prop) : Prop := ((x1 = nI 0 ∨ x1 = nI 1) ∧ K x1 (am_upI σ 0 12 (nI 0)))
theorem t_WD_grant {d : Nat} {x1 : Int32}  {σ : am_S} {K : Int32 → am_S → Prop} (h : w_WD_grant x1 σ K) : am_run (d + 1) y_WD_grant [.ref 0, .int x1] σ (am_Ri K) := by
  unfold w_WD_grant at h
  refine am_begin (vs := [.ref 0, .int x1]) c_WD_grant (by decide +kernel) rfl rfl rfl rfl ?_
  refine r_aload_n d_WD_grant_0 rfl ?_
  refine r_iconst (nI 0) d_WD_grant_1 (by decide) ?_
  refine r_putI d_WD_grant_2 f_WD_83 kd_0 rfl ?_
  refine r_iload_n d_WD_grant_5 rfl ?_
  exact r_zret d_WD_grant_6 h
def w_WD_entry (x1 : Int32) (x2 : Int64) (σ : am_S) (K : Int32 → am_S → Prop) : Prop := (w_Rim_hasRow  σ (fun r1 τ1 => (am_ite (¬ r1 = (nI 0)) (am_ite (x1 < (nI 0)) (w_WD_deny (nI 1) τ1 (fun r4 τ4 => ((r4 = nI 0 ∨ r4 = nI 1) ∧ K r4 τ4))) (am_ite (x1 < (τ1.1 1 2)) (vp_in x1 64 ∧ (w_WD_grant (nI 1) (am_upJ τ1 2 (Int32.toNatClampNeg x1) x2) (fun r6 τ6 => ((r6 = nI 0 ∨ r6 = nI 1) ∧ K r6 τ6)))) (w_WD_deny (nI 1) τ1 (fun r7 τ7 => ((r7 = nI 0 ∨ r7 = nI 1) ∧ K r7 τ7))))) (w_WD_deny (nI 2) τ1 (fun r8 τ8 => ((r8 = nI 0 ∨ r8 = nI 1) ∧ K r8 τ8))))))
theorem t_WD_entry {d : Nat} {x1 : Int32} {x2 : Int64}  {σ : am_S} {K : Int32 → am_S → Prop} (h : w_WD_entry x1 x2 σ K) : am_run (d + 2) y_WD_entry [.ref 0, .int x1, .long x2] σ (am_Ri K) := by
  unfold w_WD_entry at h
  refine am_begin (vs := [.ref 0, .int x1, .long x2, .null]) c_WD_entry (by decide +kernel) rfl rfl rfl rfl ?_
  refine r_aload_n d_WD_entry_0 rfl ?_
  refine r_getR d_WD_entry_1 f_WD_10 kd_0 rfl lk_0_0 ?_
  refine r_virtI [] [] d_WD_entry_4 v_WD_98 rfl rfl cn_1 rfl (t_Rim_hasRow h) (fun r1 τ1 h => ?_)
  refine r_if2 16 (¬ r1 = (nI 0)) d_WD_entry_7 (by decide) rfl (fun c2 => ?_) (fun c2 => ?_)
  · have h := h.1 c2
    refine r_iload_n d_WD_entry_16 rfl ?_
    refine r_if2 31 (x1 < (nI 0)) d_WD_entry_17 (by decide) rfl (fun c3 => ?_) (fun c3 => ?_)
    · have h := h.1 c3
      refine r_aload_n d_WD_entry_31 rfl ?_
      refine r_iconst (nI 1) d_WD_entry_32 (by decide) ?_
      refine r_virtI [.int (nI 1)] [] d_WD_entry_33 v_WD_102 rfl rfl cn_0 rfl (t_WD_deny h) (fun r4 τ4 h => ?_)
      exact r_zret d_WD_entry_36 h
    · have h := h.2 c3
      refine r_iload_n d_WD_entry_20 rfl ?_
      refine r_aload_n d_WD_entry_21 rfl ?_
      refine r_getR d_WD_entry_22 f_WD_10 kd_0 rfl lk_0_0 ?_
      refine r_getI d_WD_entry_25 f_WD_106 kd_1 rfl ?_
      refine r_icmp2 37 (x1 < (τ1.1 1 2)) d_WD_entry_28 (by decide) rfl (fun c5 => ?_) (fun c5 => ?_)
      · have h := h.1 c5
        refine r_aload_n d_WD_entry_37 rfl ?_
        refine r_getR d_WD_entry_38 f_WD_10 kd_0 rfl lk_0_0 ?_
        refine r_getR d_WD_entry_41 f_WD_109 kd_1 rfl lk_1_0 ?_
        refine r_iload_n d_WD_entry_44 rfl ?_
        refine r_lload_n d_WD_entry_45 rfl ?_
        refine r_last d_WD_entry_46 ce_2 ⟨h.1, ?_⟩
        have h := h.2
        refine r_aload_n d_WD_entry_47 rfl ?_
        refine r_iconst (nI 1) d_WD_entry_48 (by decide) ?_
        refine r_virtI [.int (nI 1)] [] d_WD_entry_49 v_WD_112 rfl rfl cn_0 rfl (t_WD_grant h) (fun r6 τ6 h => ?_)
        exact r_zret d_WD_entry_52 h
      · have h := h.2 c5
        refine r_aload_n d_WD_entry_31 rfl ?_
        refine r_iconst (nI 1) d_WD_entry_32 (by decide) ?_
        refine r_virtI [.int (nI 1)] [] d_WD_entry_33 v_WD_102 rfl rfl cn_0 rfl (t_WD_deny h) (fun r7 τ7 h => ?_)
        exact r_zret d_WD_entry_36 h
  · have h := h.2 c2
    refine r_aload_n d_WD_entry_10 rfl ?_
    refine r_iconst (nI 2) d_WD_entry_11 (by decide) ?_
    refine r_virtI [.int (nI 2)] [] d_WD_entry_12 v_WD_102 rfl rfl cn_0 rfl (t_WD_deny h) (fun r8 τ8 h => ?_)
    exact r_zret d_WD_entry_15 h
def w_Disc_become {a : Nat} {b : Nat} (σ : am_S) (K : am_S → Prop) : Prop := K (am_cpI (am_cpI (am_cpJ (am_upI (am_upI (am_upI σ a 3 (σ.1 b 3)) a 4 ((am_upI σ a 3 (σ.1 b 3)).1 b 4)) a 5 ((am_upI (am_upI σ a 3 (σ.1 b 3)) a 4 ((am_upI σ a 3 (σ.1 b 3)).1 b 4)).1 b 5)) (b + 1) (a + 1) 0 0 80) (b + 2) (a + 2) 0 0 10) (b + 3) (a + 3) 0 0 10)
theorem t_Disc_become {d : Nat} {a : Nat} {b : Nat} (ha : am_isD a) (hb : am_isD b) {σ : am_S} {K : am_S → Prop} (h : w_Disc_become (a := a) (b := b)  σ K) : am_run (d + 1) y_Disc_become [.ref a, .ref b] σ (am_Rv K) := by
  unfold w_Disc_become at h
  refine am_begin (vs := [.ref a, .ref b]) c_Disc_become (by decide +kernel) rfl rfl rfl rfl ?_
  refine r_aload_n d_Disc_become_0 rfl ?_
  refine r_aload_n d_Disc_become_1 rfl ?_
  refine r_getI d_Disc_become_2 f_Disc_22 hb.kind rfl ?_
  refine r_putI d_Disc_become_5 f_Disc_22 ha.kind rfl ?_
  refine r_aload_n d_Disc_become_8 rfl ?_
  refine r_aload_n d_Disc_become_9 rfl ?_
  refine r_getI d_Disc_become_10 f_Disc_26 hb.kind rfl ?_
  refine r_putI d_Disc_become_13 f_Disc_26 ha.kind rfl ?_
  refine r_aload_n d_Disc_become_16 rfl ?_
  refine r_aload_n d_Disc_become_17 rfl ?_
  refine r_getI d_Disc_become_18 f_Disc_29 hb.kind rfl ?_
  refine r_putI d_Disc_become_21 f_Disc_29 ha.kind rfl ?_
  refine r_aload_n d_Disc_become_24 rfl ?_
  refine r_getR d_Disc_become_25 f_Disc_11 hb.kind rfl (hb.link 0) ?_
  refine r_iconst (nI 0) d_Disc_become_28 (by decide) ?_
  refine r_aload_n d_Disc_become_29 rfl ?_
  refine r_getR d_Disc_become_30 f_Disc_11 ha.kind rfl (ha.link 0) ?_
  refine r_iconst (nI 0) d_Disc_become_33 (by decide) ?_
  refine r_aload_n d_Disc_become_34 rfl ?_
  refine r_getR d_Disc_become_35 f_Disc_11 ha.kind rfl (ha.link 0) ?_
  refine r_alen d_Disc_become_38 ha.c1 rfl ?_
  refine r_cpJ (t := 0) d_Disc_become_39 a_Disc_38 hb.c1 ha.c1 rfl ⟨by decide, ?_⟩
  refine r_aload_n d_Disc_become_42 rfl ?_
  refine r_getR d_Disc_become_43 f_Disc_15 hb.kind rfl (hb.link 1) ?_
  refine r_iconst (nI 0) d_Disc_become_46 (by decide) ?_
  refine r_aload_n d_Disc_become_47 rfl ?_
  refine r_getR d_Disc_become_48 f_Disc_15 ha.kind rfl (ha.link 1) ?_
  refine r_iconst (nI 0) d_Disc_become_51 (by decide) ?_
  refine r_bipush (nI 10) d_Disc_become_52 (by decide) ?_
  refine r_cpI (t := 0) d_Disc_become_54 a_Disc_38 hb.c2 ha.c2 rfl ⟨by decide, ?_⟩
  refine r_aload_n d_Disc_become_57 rfl ?_
  refine r_getR d_Disc_become_58 f_Disc_19 hb.kind rfl (hb.link 2) ?_
  refine r_iconst (nI 0) d_Disc_become_61 (by decide) ?_
  refine r_aload_n d_Disc_become_62 rfl ?_
  refine r_getR d_Disc_become_63 f_Disc_19 ha.kind rfl (ha.link 2) ?_
  refine r_iconst (nI 0) d_Disc_become_66 (by decide) ?_
  refine r_bipush (nI 10) d_Disc_become_67 (by decide) ?_
  refine r_cpI (t := 0) d_Disc_become_69 a_Disc_38 hb.c3 ha.c3 rfl ⟨by decide, ?_⟩
  exact r_vret d_Disc_become_72 h
def w_WD_stepRound (x0 : Int32) (x1 : Int32) (x2 : Int32) (σ : am_S) (K : Int32 → am_S → Prop) : Prop := (am_ite ((x0 + x1) < x2) (am_ite ((nI 0) ≤ (x0 + x1)) (K (x0 + x1) σ) (K (x2 - (nI 1)) σ)) (K (nI 0) σ))
theorem t_WD_stepRound {d : Nat} {x0 : Int32} {x1 : Int32} {x2 : Int32}  {σ : am_S} {K : Int32 → am_S → Prop} (h : w_WD_stepRound x0 x1 x2 σ K) : am_run (d + 1) y_WD_stepRound [.int x0, .int x1, .int x2] σ (am_Ri K) := by
  unfold w_WD_stepRound at h
  refine am_begin (vs := [.int x0, .int x1, .int x2, .null]) c_WD_stepRound (by decide +kernel) rfl rfl rfl rfl ?_
  refine r_iload_n d_WD_stepRound_0 rfl ?_
  refine r_iload_n d_WD_stepRound_1 rfl ?_
  refine r_iadd d_WD_stepRound_2 ?_
  refine r_istore_n (vs' := [.int x0, .int x1, .int x2, .int (x0 + x1)]) d_WD_stepRound_3 rfl rfl ?_
  refine r_iload_n d_WD_stepRound_4 rfl ?_
  refine r_iload_n d_WD_stepRound_5 rfl ?_
  refine r_icmp2 11 ((x0 + x1) < x2) d_WD_stepRound_6 (by decide) rfl (fun c1 => ?_) (fun c1 => ?_)
  · have h := h.1 c1
    refine r_iload_n d_WD_stepRound_11 rfl ?_
    refine r_if2 21 ((nI 0) ≤ (x0 + x1)) d_WD_stepRound_12 (by decide) rfl (fun c2 => ?_) (fun c2 => ?_)
    · have h := h.1 c2
      refine r_iload_n d_WD_stepRound_21 rfl ?_
      exact r_iret d_WD_stepRound_22 h
    · have h := h.2 c2
      refine r_iload_n d_WD_stepRound_15 rfl ?_
      refine r_iconst (nI 1) d_WD_stepRound_16 (by decide) ?_
      refine r_isub d_WD_stepRound_17 ?_
      refine r_goto 22 d_WD_stepRound_18 (by decide) ?_
      exact r_iret d_WD_stepRound_22 h
  · have h := h.2 c1
    refine r_iconst (nI 0) d_WD_stepRound_9 (by decide) ?_
    exact r_iret d_WD_stepRound_10 h
def w_Hist_remember  (σ : am_S) (K : am_S → Prop) : Prop := (vp_in (σ.1 7 1) 30 ∧ (w_Disc_become (a := (33 + 4 * (Int32.toNatClampNeg (σ.1 7 1)))) (b := 3)  σ (fun τ2 => (w_WD_stepRound (τ2.1 7 1) (nI 1) (nI 30) τ2 (fun r3 τ3 => (am_ite ((nI 30) ≤ (τ3.1 7 2)) (K (am_upI τ3 7 1 r3)) (K (am_upI (am_upI τ3 7 1 r3) 7 2 ((τ3.1 7 2) + (nI 1))))))))))
theorem t_Hist_remember {d : Nat}   {σ : am_S} {K : am_S → Prop} (h : w_Hist_remember  σ K) : am_run (d + 2) y_Hist_remember [.ref 7, .ref 3] σ (am_Rv K) := by
  unfold w_Hist_remember at h
  refine am_begin (vs := [.ref 7, .ref 3]) c_Hist_remember (by decide +kernel) rfl rfl rfl rfl ?_
  refine r_aload_n d_Hist_remember_0 rfl ?_
  refine r_getR d_Hist_remember_1 f_Hist_11 kd_7 rfl lk_7_0 ?_
  refine r_aload_n d_Hist_remember_4 rfl ?_
  refine r_getI d_Hist_remember_5 f_Hist_15 kd_7 rfl ?_
  refine r_aald d_Hist_remember_8 ⟨h.1, ?_⟩
  have hr1 := h.1
  have h := h.2
  refine r_aload_n d_Hist_remember_9 rfl ?_
  refine r_virtV [.ref 3] [] d_Hist_remember_10 v_Hist_23 rfl rfl (am_isD_ring hr1).cn rfl (t_Disc_become (am_isD_ring hr1) am_isD_3 h) (fun τ2 h => ?_)
  refine r_aload_n d_Hist_remember_13 rfl ?_
  refine r_aload_n d_Hist_remember_14 rfl ?_
  refine r_getI d_Hist_remember_15 f_Hist_15 kd_7 rfl ?_
  refine r_iconst (nI 1) d_Hist_remember_18 (by decide) ?_
  refine r_bipush (nI 30) d_Hist_remember_19 (by decide) ?_
  refine r_statI [.int (τ2.1 7 1), .int (nI 1), .int (nI 30)] [.ref 7] d_Hist_remember_21 s_Hist_27 rfl rfl rfl (t_WD_stepRound h) (fun r3 τ3 h => ?_)
  refine r_putI d_Hist_remember_24 f_Hist_15 kd_7 rfl ?_
  refine r_aload_n d_Hist_remember_27 rfl ?_
  refine r_getI d_Hist_remember_28 f_Hist_19 kd_7 rfl ?_
  refine r_bipush (nI 30) d_Hist_remember_31 (by decide) ?_
  refine r_icmp2 46 ((nI 30) ≤ (τ3.1 7 2)) d_Hist_remember_33 (by decide) rfl (fun c4 => ?_) (fun c4 => ?_)
  · have h := h.1 c4
    exact r_vret d_Hist_remember_46 h
  · have h := h.2 c4
    refine r_aload_n d_Hist_remember_36 rfl ?_
    refine r_dup d_Hist_remember_37 rfl ?_
    refine r_getI d_Hist_remember_38 f_Hist_19 kd_7 rfl ?_
    refine r_iconst (nI 1) d_Hist_remember_41 (by decide) ?_
    refine r_iadd d_Hist_remember_42 ?_
    refine r_putI d_Hist_remember_43 f_Hist_19 kd_7 rfl ?_
    exact r_vret d_Hist_remember_46 h
def w_Drive_unfollow  (σ : am_S) (K : am_S → Prop) : Prop := K (am_upI (am_upI σ 22 6 (nI 0)) 22 7 (-1))
theorem t_Drive_unfollow {d : Nat}   {σ : am_S} {K : am_S → Prop} (h : w_Drive_unfollow  σ K) : am_run (d + 1) y_Drive_unfollow [.ref 22] σ (am_Rv K) := by
  unfold w_Drive_unfollow at h
  refine am_begin (vs := [.ref 22]) c_Drive_unfollow (by decide +kernel) rfl rfl rfl rfl ?_
  refine r_aload_n d_Drive_unfollow_0 rfl ?_
  refine r_iconst (nI 0) d_Drive_unfollow_1 (by decide) ?_
  refine r_putI d_Drive_unfollow_2 f_Drive_32 kd_22 rfl ?_
  refine r_aload_n d_Drive_unfollow_5 rfl ?_
  refine r_iconst (-1) d_Drive_unfollow_6 (by decide) ?_
  refine r_putI d_Drive_unfollow_7 f_Drive_35 kd_22 rfl ?_
  exact r_vret d_Drive_unfollow_10 h
def w_WD_outdate  (σ : am_S) (K : am_S → Prop) : Prop := (w_Drive_unfollow  (am_upI (am_upI σ 9 4 (nI 1)) 13 5 (nI 1)) (fun τ1 => K τ1))
theorem t_WD_outdate {d : Nat}   {σ : am_S} {K : am_S → Prop} (h : w_WD_outdate  σ K) : am_run (d + 2) y_WD_outdate [.ref 0] σ (am_Rv K) := by
  unfold w_WD_outdate at h
  refine am_begin (vs := [.ref 0]) c_WD_outdate (by decide +kernel) rfl rfl rfl rfl ?_
  refine r_aload_n d_WD_outdate_0 rfl ?_
  refine r_getR d_WD_outdate_1 f_WD_33 kd_0 rfl lk_0_3 ?_
  refine r_iconst (nI 1) d_WD_outdate_4 (by decide) ?_
  refine r_putZ d_WD_outdate_5 f_WD_311 kd_9 rfl ⟨Or.inr rfl, ?_⟩
  refine r_aload_n d_WD_outdate_8 rfl ?_
  refine r_getR d_WD_outdate_9 f_WD_40 kd_0 rfl lk_0_4 ?_
  refine r_iconst (nI 1) d_WD_outdate_12 (by decide) ?_
  refine r_putZ d_WD_outdate_13 f_WD_314 kd_13 rfl ⟨Or.inr rfl, ?_⟩
  refine r_aload_n d_WD_outdate_16 rfl ?_
  refine r_getR d_WD_outdate_17 f_WD_57 kd_0 rfl lk_0_7 ?_
  refine r_virtV [] [] d_WD_outdate_20 v_WD_315 rfl rfl cn_22 rfl (t_Drive_unfollow h) (fun τ1 h => ?_)
  exact r_vret d_WD_outdate_23 h
def w_WD_beginChange  (σ : am_S) (K : am_S → Prop) : Prop := (w_Hist_remember  σ (fun τ1 => (w_WD_outdate  τ1 (fun τ2 => K τ2))))
theorem t_WD_beginChange {d : Nat}   {σ : am_S} {K : am_S → Prop} (h : w_WD_beginChange  σ K) : am_run (d + 3) y_WD_beginChange [.ref 0] σ (am_Rv K) := by
  unfold w_WD_beginChange at h
  refine am_begin (vs := [.ref 0]) c_WD_beginChange (by decide +kernel) rfl rfl rfl rfl ?_
  refine r_aload_n d_WD_beginChange_0 rfl ?_
  refine r_getR d_WD_beginChange_1 f_WD_26 kd_0 rfl lk_0_2 ?_
  refine r_aload_n d_WD_beginChange_4 rfl ?_
  refine r_getR d_WD_beginChange_5 f_WD_19 kd_0 rfl lk_0_1 ?_
  refine r_virtV [.ref 3] [] d_WD_beginChange_8 v_WD_308 rfl rfl cn_7 rfl (t_Hist_remember h) (fun τ1 h => ?_)
  refine r_aload_n d_WD_beginChange_11 rfl ?_
  refine r_virtV [] [] d_WD_beginChange_12 v_WD_184 rfl rfl cn_0 rfl (t_WD_outdate h) (fun τ2 h => ?_)
  exact r_vret d_WD_beginChange_15 h
def w_Disc_empty (x1 : Int32) (σ : am_S) (K : am_S → Prop) : Prop := (w_Arr_fillJ (k := 4) (nk := 80) (0) (am_upI (am_upI (am_upI σ 3 3 x1) 3 4 (nI 0)) 3 5 (nI 0)) (fun τ1 => K τ1))
theorem t_Disc_empty {d : Nat} {x1 : Int32}  {σ : am_S} {K : am_S → Prop} (h : w_Disc_empty x1 σ K) : am_run (d + 2) y_Disc_empty [.ref 3, .int x1] σ (am_Rv K) := by
  unfold w_Disc_empty at h
  refine am_begin (vs := [.ref 3, .int x1]) c_Disc_empty (by decide +kernel) rfl rfl rfl rfl ?_
  refine r_aload_n d_Disc_empty_0 rfl ?_
  refine r_iload_n d_Disc_empty_1 rfl ?_
  refine r_putI d_Disc_empty_2 f_Disc_22 kd_3 rfl ?_
  refine r_aload_n d_Disc_empty_5 rfl ?_
  refine r_iconst (nI 0) d_Disc_empty_6 (by decide) ?_
  refine r_putI d_Disc_empty_7 f_Disc_26 kd_3 rfl ?_
  refine r_aload_n d_Disc_empty_10 rfl ?_
  refine r_iconst (nI 0) d_Disc_empty_11 (by decide) ?_
  refine r_putI d_Disc_empty_12 f_Disc_29 kd_3 rfl ?_
  refine r_aload_n d_Disc_empty_15 rfl ?_
  refine r_getR d_Disc_empty_16 f_Disc_11 kd_3 rfl lk_3_0 ?_
  refine r_lconst (0) d_Disc_empty_19 (by decide) ?_
  refine r_statV [.ref 4, .long (0)] [] d_Disc_empty_20 s_Disc_32 rfl rfl rfl (t_Arr_fillJ ce_4 h) (fun τ1 h => ?_)
  exact r_vret d_Disc_empty_23 h
def w_WD_disc (x1 : Int32) (σ : am_S) (K : Int32 → am_S → Prop) : Prop := (am_ite (x1 < (nI 1)) (w_WD_deny (nI 1) σ (fun r2 τ2 => ((r2 = nI 0 ∨ r2 = nI 1) ∧ K r2 τ2))) (am_ite (x1 ≤ (nI 512)) (w_WD_beginChange  σ (fun τ4 => (w_Disc_empty x1 τ4 (fun τ5 => (w_WD_grant (nI 1) τ5 (fun r6 τ6 => ((r6 = nI 0 ∨ r6 = nI 1) ∧ K r6 τ6))))))) (w_WD_deny (nI 1) σ (fun r7 τ7 => ((r7 = nI 0 ∨ r7 = nI 1) ∧ K r7 τ7)))))
theorem t_WD_disc {d : Nat} {x1 : Int32}  {σ : am_S} {K : Int32 → am_S → Prop} (h : w_WD_disc x1 σ K) : am_run (d + 4) y_WD_disc [.ref 0, .int x1] σ (am_Ri K) := by
  unfold w_WD_disc at h
  refine am_begin (vs := [.ref 0, .int x1]) c_WD_disc (by decide +kernel) rfl rfl rfl rfl ?_
  refine r_iload_n d_WD_disc_0 rfl ?_
  refine r_iconst (nI 1) d_WD_disc_1 (by decide) ?_
  refine r_icmp2 12 (x1 < (nI 1)) d_WD_disc_2 (by decide) rfl (fun c1 => ?_) (fun c1 => ?_)
  · have h := h.1 c1
    refine r_aload_n d_WD_disc_12 rfl ?_
    refine r_iconst (nI 1) d_WD_disc_13 (by decide) ?_
    refine r_virtI [.int (nI 1)] [] d_WD_disc_14 v_WD_102 rfl rfl cn_0 rfl (t_WD_deny h) (fun r2 τ2 h => ?_)
    exact r_zret d_WD_disc_17 h
  · have h := h.2 c1
    refine r_iload_n d_WD_disc_5 rfl ?_
    refine r_sipush (nI 512) d_WD_disc_6 (by decide) ?_
    refine r_icmp2 18 (x1 ≤ (nI 512)) d_WD_disc_9 (by decide) rfl (fun c3 => ?_) (fun c3 => ?_)
    · have h := h.1 c3
      refine r_aload_n d_WD_disc_18 rfl ?_
      refine r_virtV [] [] d_WD_disc_19 v_WD_116 rfl rfl cn_0 rfl (t_WD_beginChange h) (fun τ4 h => ?_)
      refine r_aload_n d_WD_disc_22 rfl ?_
      refine r_getR d_WD_disc_23 f_WD_19 kd_0 rfl lk_0_1 ?_
      refine r_iload_n d_WD_disc_26 rfl ?_
      refine r_virtV [.int x1] [] d_WD_disc_27 v_WD_119 rfl rfl cn_3 rfl (t_Disc_empty h) (fun τ5 h => ?_)
      refine r_aload_n d_WD_disc_30 rfl ?_
      refine r_iconst (nI 1) d_WD_disc_31 (by decide) ?_
      refine r_virtI [.int (nI 1)] [] d_WD_disc_32 v_WD_112 rfl rfl cn_0 rfl (t_WD_grant h) (fun r6 τ6 h => ?_)
      exact r_zret d_WD_disc_35 h
    · have h := h.2 c3
      refine r_aload_n d_WD_disc_12 rfl ?_
      refine r_iconst (nI 1) d_WD_disc_13 (by decide) ?_
      refine r_virtI [.int (nI 1)] [] d_WD_disc_14 v_WD_102 rfl rfl cn_0 rfl (t_WD_deny h) (fun r7 τ7 h => ?_)
      exact r_zret d_WD_disc_17 h
def w_Rim_isThere  (σ : am_S) (K : Int32 → am_S → Prop) : Prop := (am_ite ((σ.1 1 1) = (-1)) (K (nI 0) σ) (K (nI 1) σ))
theorem t_Rim_isThere {d : Nat}   {σ : am_S} {K : Int32 → am_S → Prop} (h : w_Rim_isThere  σ K) : am_run (d + 1) y_Rim_isThere [.ref 1] σ (am_Ri K) := by
  unfold w_Rim_isThere at h
  refine am_begin (vs := [.ref 1]) c_Rim_isThere (by decide +kernel) rfl rfl rfl rfl ?_
  refine r_aload_n d_Rim_isThere_0 rfl ?_
  refine r_getI d_Rim_isThere_1 f_Rim_13 kd_1 rfl ?_
  refine r_iconst (-1) d_Rim_isThere_4 (by decide) ?_
  refine r_icmp2 12 ((σ.1 1 1) = (-1)) d_Rim_isThere_5 (by decide) rfl (fun c1 => ?_) (fun c1 => ?_)
  · have h := h.1 c1
    refine r_iconst (nI 0) d_Rim_isThere_12 (by decide) ?_
    exact r_zret0 d_Rim_isThere_13 h
  · have h := h.2 c1
    refine r_iconst (nI 1) d_Rim_isThere_8 (by decide) ?_
    refine r_goto 13 d_Rim_isThere_9 (by decide) ?_
    exact r_zret1 d_Rim_isThere_13 h
def w_Disc_addDarkTrack  (σ : am_S) (K : Int32 → am_S → Prop) : Prop := K (((σ.1 3 4) + (nI 1)) - (nI 1)) (am_upI σ 3 4 ((σ.1 3 4) + (nI 1)))
theorem t_Disc_addDarkTrack {d : Nat}   {σ : am_S} {K : Int32 → am_S → Prop} (h : w_Disc_addDarkTrack  σ K) : am_run (d + 1) y_Disc_addDarkTrack [.ref 3] σ (am_Ri K) := by
  unfold w_Disc_addDarkTrack at h
  refine am_begin (vs := [.ref 3]) c_Disc_addDarkTrack (by decide +kernel) rfl rfl rfl rfl ?_
  refine r_aload_n d_Disc_addDarkTrack_0 rfl ?_
  refine r_dup d_Disc_addDarkTrack_1 rfl ?_
  refine r_getI d_Disc_addDarkTrack_2 f_Disc_26 kd_3 rfl ?_
  refine r_iconst (nI 1) d_Disc_addDarkTrack_5 (by decide) ?_
  refine r_iadd d_Disc_addDarkTrack_6 ?_
  refine r_putI d_Disc_addDarkTrack_7 f_Disc_26 kd_3 rfl ?_
  refine r_aload_n d_Disc_addDarkTrack_10 rfl ?_
  refine r_getI d_Disc_addDarkTrack_11 f_Disc_26 kd_3 rfl ?_
  refine r_iconst (nI 1) d_Disc_addDarkTrack_14 (by decide) ?_
  refine r_isub d_Disc_addDarkTrack_15 ?_
  exact r_iret d_Disc_addDarkTrack_16 h
def w_Rim_isLight (x1 : Int32) (σ : am_S) (K : Int32 → am_S → Prop) : Prop := (w_Rim_hasRow  σ (fun r1 τ1 => (am_ite (¬ r1 = (nI 0)) (am_ite (¬ (τ1.1 1 1) = (nI 0)) (am_ite (¬ (τ1.1 1 1) = (nI 1)) (am_ite ((τ1.1 1 2) ≤ (x1 >>> ((nI 6) &&& 31))) (K (nI 0) τ1) (vp_in (x1 >>> ((nI 6) &&& 31)) 64 ∧ (am_ite ((lg_cmp ((am_lushr (τ1.2 2 (Int32.toNatClampNeg (x1 >>> ((nI 6) &&& 31)))) (x1 &&& (((nI 1) <<< ((nI 6) &&& 31)) - (nI 1)))) &&& (1)) (0)) = (nI 0)) (K (nI 0) τ1) (K (nI 1) τ1)))) (am_ite ((τ1.1 1 2) ≤ (x1 >>> ((nI 4) &&& 31))) (K (nI 0) τ1) (vp_in (x1 >>> ((nI 4) &&& 31)) 64 ∧ (am_ite ((lg_cmp ((am_lushr (τ1.2 2 (Int32.toNatClampNeg (x1 >>> ((nI 4) &&& 31)))) (x1 &&& (((nI 1) <<< ((nI 4) &&& 31)) - (nI 1)))) &&& (1)) (0)) = (nI 0)) (K (nI 0) τ1) (K (nI 1) τ1))))) (am_ite ((τ1.1 1 2) ≤ (x1 >>> ((nI 3) &&& 31))) (K (nI 0) τ1) (vp_in (x1 >>> ((nI 3) &&& 31)) 64 ∧ (am_ite ((lg_cmp ((am_lushr (τ1.2 2 (Int32.toNatClampNeg (x1 >>> ((nI 3) &&& 31)))) (x1 &&& (((nI 1) <<< ((nI 3) &&& 31)) - (nI 1)))) &&& (1)) (0)) = (nI 0)) (K (nI 0) τ1) (K (nI 1) τ1))))) (K (nI 0) τ1))))
theorem t_Rim_isLight {d : Nat} {x1 : Int32}  {σ : am_S} {K : Int32 → am_S → Prop} (h : w_Rim_isLight x1 σ K) : am_run (d + 2) y_Rim_isLight [.ref 1, .int x1] σ (am_Ri K) := by
  unfold w_Rim_isLight at h
  refine am_begin (vs := [.ref 1, .int x1, .null, .null, .null]) c_Rim_isLight (by decide +kernel) rfl rfl rfl rfl ?_
  refine r_aload_n d_Rim_isLight_0 rfl ?_
  refine r_virtI [] [] d_Rim_isLight_1 v_Rim_26 rfl rfl cn_1 rfl (t_Rim_hasRow h) (fun r1 τ1 h => ?_)
  refine r_if2 9 (¬ r1 = (nI 0)) d_Rim_isLight_4 (by decide) rfl (fun c2 => ?_) (fun c2 => ?_)
  · have h := h.1 c2
    refine r_aload_n d_Rim_isLight_9 rfl ?_
    refine r_getI d_Rim_isLight_10 f_Rim_13 kd_1 rfl ?_
    refine r_if2 20 (¬ (τ1.1 1 1) = (nI 0)) d_Rim_isLight_13 (by decide) rfl (fun c3 => ?_) (fun c3 => ?_)
    · have h := h.1 c3
      refine r_aload_n d_Rim_isLight_20 rfl ?_
      refine r_getI d_Rim_isLight_21 f_Rim_13 kd_1 rfl ?_
      refine r_iconst (nI 1) d_Rim_isLight_24 (by decide) ?_
      refine r_icmp2 32 (¬ (τ1.1 1 1) = (nI 1)) d_Rim_isLight_25 (by decide) rfl (fun c4 => ?_) (fun c4 => ?_)
      · have h := h.1 c4
        refine r_bipush (nI 6) d_Rim_isLight_32 (by decide) ?_
        refine r_istore_n (vs' := [.ref 1, .int x1, .int (nI 6), .null, .null]) d_Rim_isLight_34 rfl rfl ?_
        refine r_iload_n d_Rim_isLight_35 rfl ?_
        refine r_iload_n d_Rim_isLight_36 rfl ?_
        refine r_ishr d_Rim_isLight_37 ?_
        refine r_istore_n (vs' := [.ref 1, .int x1, .int (nI 6), .int (x1 >>> ((nI 6) &&& 31)), .null]) d_Rim_isLight_38 rfl rfl ?_
        refine r_iload_n d_Rim_isLight_39 rfl ?_
        refine r_iconst (nI 1) d_Rim_isLight_40 (by decide) ?_
        refine r_iload_n d_Rim_isLight_41 rfl ?_
        refine r_ishl d_Rim_isLight_42 ?_
        refine r_iconst (nI 1) d_Rim_isLight_43 (by decide) ?_
        refine r_isub d_Rim_isLight_44 ?_
        refine r_iand d_Rim_isLight_45 ?_
        refine r_istore (vs' := [.ref 1, .int x1, .int (nI 6), .int (x1 >>> ((nI 6) &&& 31)), .int (x1 &&& (((nI 1) <<< ((nI 6) &&& 31)) - (nI 1)))]) d_Rim_isLight_46 rfl rfl ?_
        refine r_iload_n d_Rim_isLight_48 rfl ?_
        refine r_aload_n d_Rim_isLight_49 rfl ?_
        refine r_getI d_Rim_isLight_50 f_Rim_17 kd_1 rfl ?_
        refine r_icmp2 76 ((τ1.1 1 2) ≤ (x1 >>> ((nI 6) &&& 31))) d_Rim_isLight_53 (by decide) rfl (fun c5 => ?_) (fun c5 => ?_)
        · have h := h.1 c5
          refine r_iconst (nI 0) d_Rim_isLight_76 (by decide) ?_
          exact r_zret0 d_Rim_isLight_77 h
        · have h := h.2 c5
          refine r_aload_n d_Rim_isLight_56 rfl ?_
          refine r_getR d_Rim_isLight_57 f_Rim_9 kd_1 rfl lk_1_0 ?_
          refine r_iload_n d_Rim_isLight_60 rfl ?_
          refine r_lald d_Rim_isLight_61 ce_2 ⟨h.1, ?_⟩
          have h := h.2
          refine r_iload d_Rim_isLight_62 rfl ?_
          refine r_lushr d_Rim_isLight_64 ?_
          refine r_lconst (1) d_Rim_isLight_65 (by decide) ?_
          refine r_land d_Rim_isLight_66 ?_
          refine r_lconst (0) d_Rim_isLight_67 (by decide) ?_
          refine r_lcmp d_Rim_isLight_68 ?_
          refine r_if2 76 ((lg_cmp ((am_lushr (τ1.2 2 (Int32.toNatClampNeg (x1 >>> ((nI 6) &&& 31)))) (x1 &&& (((nI 1) <<< ((nI 6) &&& 31)) - (nI 1)))) &&& (1)) (0)) = (nI 0)) d_Rim_isLight_69 (by decide) rfl (fun c6 => ?_) (fun c6 => ?_)
          · have h := h.1 c6
            refine r_iconst (nI 0) d_Rim_isLight_76 (by decide) ?_
            exact r_zret0 d_Rim_isLight_77 h
          · have h := h.2 c6
            refine r_iconst (nI 1) d_Rim_isLight_72 (by decide) ?_
            refine r_goto 77 d_Rim_isLight_73 (by decide) ?_
            exact r_zret1 d_Rim_isLight_77 h
      · have h := h.2 c4
        refine r_iconst (nI 4) d_Rim_isLight_28 (by decide) ?_
        refine r_goto 34 d_Rim_isLight_29 (by decide) ?_
        refine r_istore_n (vs' := [.ref 1, .int x1, .int (nI 4), .null, .null]) d_Rim_isLight_34 rfl rfl ?_
        refine r_iload_n d_Rim_isLight_35 rfl ?_
        refine r_iload_n d_Rim_isLight_36 rfl ?_
        refine r_ishr d_Rim_isLight_37 ?_
        refine r_istore_n (vs' := [.ref 1, .int x1, .int (nI 4), .int (x1 >>> ((nI 4) &&& 31)), .null]) d_Rim_isLight_38 rfl rfl ?_
        refine r_iload_n d_Rim_isLight_39 rfl ?_
        refine r_iconst (nI 1) d_Rim_isLight_40 (by decide) ?_
        refine r_iload_n d_Rim_isLight_41 rfl ?_
        refine r_ishl d_Rim_isLight_42 ?_
        refine r_iconst (nI 1) d_Rim_isLight_43 (by decide) ?_
        refine r_isub d_Rim_isLight_44 ?_
        refine r_iand d_Rim_isLight_45 ?_
        refine r_istore (vs' := [.ref 1, .int x1, .int (nI 4), .int (x1 >>> ((nI 4) &&& 31)), .int (x1 &&& (((nI 1) <<< ((nI 4) &&& 31)) - (nI 1)))]) d_Rim_isLight_46 rfl rfl ?_
        refine r_iload_n d_Rim_isLight_48 rfl ?_
        refine r_aload_n d_Rim_isLight_49 rfl ?_
        refine r_getI d_Rim_isLight_50 f_Rim_17 kd_1 rfl ?_
        refine r_icmp2 76 ((τ1.1 1 2) ≤ (x1 >>> ((nI 4) &&& 31))) d_Rim_isLight_53 (by decide) rfl (fun c7 => ?_) (fun c7 => ?_)
        · have h := h.1 c7
          refine r_iconst (nI 0) d_Rim_isLight_76 (by decide) ?_
          exact r_zret0 d_Rim_isLight_77 h
        · have h := h.2 c7
          refine r_aload_n d_Rim_isLight_56 rfl ?_
          refine r_getR d_Rim_isLight_57 f_Rim_9 kd_1 rfl lk_1_0 ?_
          refine r_iload_n d_Rim_isLight_60 rfl ?_
          refine r_lald d_Rim_isLight_61 ce_2 ⟨h.1, ?_⟩
          have h := h.2
          refine r_iload d_Rim_isLight_62 rfl ?_
          refine r_lushr d_Rim_isLight_64 ?_
          refine r_lconst (1) d_Rim_isLight_65 (by decide) ?_
          refine r_land d_Rim_isLight_66 ?_
          refine r_lconst (0) d_Rim_isLight_67 (by decide) ?_
          refine r_lcmp d_Rim_isLight_68 ?_
          refine r_if2 76 ((lg_cmp ((am_lushr (τ1.2 2 (Int32.toNatClampNeg (x1 >>> ((nI 4) &&& 31)))) (x1 &&& (((nI 1) <<< ((nI 4) &&& 31)) - (nI 1)))) &&& (1)) (0)) = (nI 0)) d_Rim_isLight_69 (by decide) rfl (fun c8 => ?_) (fun c8 => ?_)
          · have h := h.1 c8
            refine r_iconst (nI 0) d_Rim_isLight_76 (by decide) ?_
            exact r_zret0 d_Rim_isLight_77 h
          · have h := h.2 c8
            refine r_iconst (nI 1) d_Rim_isLight_72 (by decide) ?_
            refine r_goto 77 d_Rim_isLight_73 (by decide) ?_
            exact r_zret1 d_Rim_isLight_77 h
    · have h := h.2 c3
      refine r_iconst (nI 3) d_Rim_isLight_16 (by decide) ?_
      refine r_goto 34 d_Rim_isLight_17 (by decide) ?_
      refine r_istore_n (vs' := [.ref 1, .int x1, .int (nI 3), .null, .null]) d_Rim_isLight_34 rfl rfl ?_
      refine r_iload_n d_Rim_isLight_35 rfl ?_
      refine r_iload_n d_Rim_isLight_36 rfl ?_
      refine r_ishr d_Rim_isLight_37 ?_
      refine r_istore_n (vs' := [.ref 1, .int x1, .int (nI 3), .int (x1 >>> ((nI 3) &&& 31)), .null]) d_Rim_isLight_38 rfl rfl ?_
      refine r_iload_n d_Rim_isLight_39 rfl ?_
      refine r_iconst (nI 1) d_Rim_isLight_40 (by decide) ?_
      refine r_iload_n d_Rim_isLight_41 rfl ?_
      refine r_ishl d_Rim_isLight_42 ?_
      refine r_iconst (nI 1) d_Rim_isLight_43 (by decide) ?_
      refine r_isub d_Rim_isLight_44 ?_
      refine r_iand d_Rim_isLight_45 ?_
      refine r_istore (vs' := [.ref 1, .int x1, .int (nI 3), .int (x1 >>> ((nI 3) &&& 31)), .int (x1 &&& (((nI 1) <<< ((nI 3) &&& 31)) - (nI 1)))]) d_Rim_isLight_46 rfl rfl ?_
      refine r_iload_n d_Rim_isLight_48 rfl ?_
      refine r_aload_n d_Rim_isLight_49 rfl ?_
      refine r_getI d_Rim_isLight_50 f_Rim_17 kd_1 rfl ?_
      refine r_icmp2 76 ((τ1.1 1 2) ≤ (x1 >>> ((nI 3) &&& 31))) d_Rim_isLight_53 (by decide) rfl (fun c9 => ?_) (fun c9 => ?_)
      · have h := h.1 c9
        refine r_iconst (nI 0) d_Rim_isLight_76 (by decide) ?_
        exact r_zret0 d_Rim_isLight_77 h
      · have h := h.2 c9
        refine r_aload_n d_Rim_isLight_56 rfl ?_
        refine r_getR d_Rim_isLight_57 f_Rim_9 kd_1 rfl lk_1_0 ?_
        refine r_iload_n d_Rim_isLight_60 rfl ?_
        refine r_lald d_Rim_isLight_61 ce_2 ⟨h.1, ?_⟩
        have h := h.2
        refine r_iload d_Rim_isLight_62 rfl ?_
        refine r_lushr d_Rim_isLight_64 ?_
        refine r_lconst (1) d_Rim_isLight_65 (by decide) ?_
        refine r_land d_Rim_isLight_66 ?_
        refine r_lconst (0) d_Rim_isLight_67 (by decide) ?_
        refine r_lcmp d_Rim_isLight_68 ?_
        refine r_if2 76 ((lg_cmp ((am_lushr (τ1.2 2 (Int32.toNatClampNeg (x1 >>> ((nI 3) &&& 31)))) (x1 &&& (((nI 1) <<< ((nI 3) &&& 31)) - (nI 1)))) &&& (1)) (0)) = (nI 0)) d_Rim_isLight_69 (by decide) rfl (fun c10 => ?_) (fun c10 => ?_)
        · have h := h.1 c10
          refine r_iconst (nI 0) d_Rim_isLight_76 (by decide) ?_
          exact r_zret0 d_Rim_isLight_77 h
        · have h := h.2 c10
          refine r_iconst (nI 1) d_Rim_isLight_72 (by decide) ?_
          refine r_goto 77 d_Rim_isLight_73 (by decide) ?_
          exact r_zret1 d_Rim_isLight_77 h
  · have h := h.2 c2
    refine r_iconst (nI 0) d_Rim_isLight_7 (by decide) ?_
    exact r_zret0 d_Rim_isLight_8 h
def w_Disc_setLight (x1 : Int32) (x2 : Int32) (x3 : Int32) (σ : am_S) (K : am_S → Prop) : Prop := (am_ite (x3 = (nI 0)) (vp_in ((x1 * (nI 8)) + (x2 >>> ((nI 6) &&& 31))) 80 ∧ (vp_in ((x1 * (nI 8)) + (x2 >>> ((nI 6) &&& 31))) 80 ∧ K (am_upJ σ 4 (Int32.toNatClampNeg ((x1 * (nI 8)) + (x2 >>> ((nI 6) &&& 31)))) ((σ.2 4 (Int32.toNatClampNeg ((x1 * (nI 8)) + (x2 >>> ((nI 6) &&& 31))))) &&& (((1) <<< (Int32.toInt64 (x2 &&& (nI 63)) &&& 63)) ^^^ (-1)))))) (vp_in ((x1 * (nI 8)) + (x2 >>> ((nI 6) &&& 31))) 80 ∧ (vp_in ((x1 * (nI 8)) + (x2 >>> ((nI 6) &&& 31))) 80 ∧ K (am_upJ σ 4 (Int32.toNatClampNeg ((x1 * (nI 8)) + (x2 >>> ((nI 6) &&& 31)))) ((σ.2 4 (Int32.toNatClampNeg ((x1 * (nI 8)) + (x2 >>> ((nI 6) &&& 31))))) ||| ((1) <<< (Int32.toInt64 (x2 &&& (nI 63)) &&& 63)))))))
theorem t_Disc_setLight {d : Nat} {x1 : Int32} {x2 : Int32} {x3 : Int32}  {σ : am_S} {K : am_S → Prop} (h : w_Disc_setLight x1 x2 x3 σ K) : am_run (d + 1) y_Disc_setLight [.ref 3, .int x1, .int x2, .int x3] σ (am_Rv K) := by
  unfold w_Disc_setLight at h
  refine am_begin (vs := [.ref 3, .int x1, .int x2, .int x3, .null, .null, .null]) c_Disc_setLight (by decide +kernel) rfl rfl rfl rfl ?_
  refine r_iload_n d_Disc_setLight_0 rfl ?_
  refine r_bipush (nI 8) d_Disc_setLight_1 (by decide) ?_
  refine r_imul d_Disc_setLight_3 ?_
  refine r_iload_n d_Disc_setLight_4 rfl ?_
  refine r_bipush (nI 6) d_Disc_setLight_5 (by decide) ?_
  refine r_ishr d_Disc_setLight_7 ?_
  refine r_iadd d_Disc_setLight_8 ?_
  refine r_istore (vs' := [.ref 3, .int x1, .int x2, .int x3, .int ((x1 * (nI 8)) + (x2 >>> ((nI 6) &&& 31))), .null, .null]) d_Disc_setLight_9 rfl rfl ?_
  refine r_lconst (1) d_Disc_setLight_11 (by decide) ?_
  refine r_iload_n d_Disc_setLight_12 rfl ?_
  refine r_bipush (nI 63) d_Disc_setLight_13 (by decide) ?_
  refine r_iand d_Disc_setLight_15 ?_
  refine r_lshl d_Disc_setLight_16 ?_
  refine r_lstore (vs' := [.ref 3, .int x1, .int x2, .int x3, .int ((x1 * (nI 8)) + (x2 >>> ((nI 6) &&& 31))), .long ((1) <<< (Int32.toInt64 (x2 &&& (nI 63)) &&& 63)), .null]) d_Disc_setLight_17 rfl rfl ?_
  refine r_aload_n d_Disc_setLight_19 rfl ?_
  refine r_getR d_Disc_setLight_20 f_Disc_11 kd_3 rfl lk_3_0 ?_
  refine r_iload d_Disc_setLight_23 rfl ?_
  refine r_iload_n d_Disc_setLight_25 rfl ?_
  refine r_if2 42 (x3 = (nI 0)) d_Disc_setLight_26 (by decide) rfl (fun c1 => ?_) (fun c1 => ?_)
  · have h := h.1 c1
    refine r_aload_n d_Disc_setLight_42 rfl ?_
    refine r_getR d_Disc_setLight_43 f_Disc_11 kd_3 rfl lk_3_0 ?_
    refine r_iload d_Disc_setLight_46 rfl ?_
    refine r_lald d_Disc_setLight_48 ce_4 ⟨h.1, ?_⟩
    have h := h.2
    refine r_lload d_Disc_setLight_49 rfl ?_
    refine r_ldc2_w (-1) d_Disc_setLight_51 k_Disc_48 ?_
    refine r_lxor d_Disc_setLight_54 ?_
    refine r_land d_Disc_setLight_55 ?_
    refine r_last d_Disc_setLight_56 ce_4 ⟨h.1, ?_⟩
    have h := h.2
    exact r_vret d_Disc_setLight_57 h
  · have h := h.2 c1
    refine r_aload_n d_Disc_setLight_29 rfl ?_
    refine r_getR d_Disc_setLight_30 f_Disc_11 kd_3 rfl lk_3_0 ?_
    refine r_iload d_Disc_setLight_33 rfl ?_
    refine r_lald d_Disc_setLight_35 ce_4 ⟨h.1, ?_⟩
    have h := h.2
    refine r_lload d_Disc_setLight_36 rfl ?_
    refine r_lor d_Disc_setLight_38 ?_
    refine r_goto 56 d_Disc_setLight_39 (by decide) ?_
    refine r_last d_Disc_setLight_56 ce_4 ⟨h.1, ?_⟩
    have h := h.2
    exact r_vret d_Disc_setLight_57 h
abbrev R_WD_track (d : Nat) (K : Int32 → am_S → Prop) (pc : Nat) (vs st : List Value) (σ : am_S) : Prop := am_r (am_run (d + 3)) "WheelDisc" (some .int) prog_1_method_5_code (am_Ri K) pc vs st σ
def w_WD_track  (σ : am_S) (K : Int32 → am_S → Prop) : Prop := ∀ d : Nat, am_run (d + 4) y_WD_track [.ref 0] σ (am_Ri K)
theorem t_WD_track {d : Nat}   {σ : am_S} {K : Int32 → am_S → Prop} (h : w_WD_track  σ K) : am_run (d + 4) y_WD_track [.ref 0] σ (am_Ri K) := h d
theorem e_WD_track   {σ : am_S} {K : Int32 → am_S → Prop} (h : ∀ d : Nat, (w_Rim_isThere  σ (fun r1 τ1 => (am_ite (¬ r1 = (nI 0)) (am_ite ((τ1.1 3 4) < (nI 10)) (w_WD_beginChange  τ1 (fun τ4 => (w_Disc_addDarkTrack  τ4 (fun r5 τ5 => R_WD_track d K 48 [.ref 0, .int r5, .int (nI 0)] [] τ5)))) (w_WD_refuse (nI 4) τ1 (fun r6 τ6 => K r6 τ6))) (w_WD_refuse (nI 2) τ1 (fun r7 τ7 => K r7 τ7)))))) : w_WD_track  σ K := by
  intro d
  have h := h d
  refine am_begin (vs := [.ref 0, .null, .null]) c_WD_track (by decide +kernel) rfl rfl rfl rfl ?_
  refine r_aload_n d_WD_track_0 rfl ?_
  refine r_getR d_WD_track_1 f_WD_10 kd_0 rfl lk_0_0 ?_
  refine r_virtI [] [] d_WD_track_4 v_WD_123 rfl rfl cn_1 rfl (t_Rim_isThere h) (fun r1 τ1 h => ?_)
  refine r_if2 16 (¬ r1 = (nI 0)) d_WD_track_7 (by decide) rfl (fun c2 => ?_) (fun c2 => ?_)
  · have h := h.1 c2
    refine r_aload_n d_WD_track_16 rfl ?_
    refine r_getR d_WD_track_17 f_WD_19 kd_0 rfl lk_0_1 ?_
    refine r_getI d_WD_track_20 f_WD_126 kd_3 rfl ?_
    refine r_bipush (nI 10) d_WD_track_23 (by decide) ?_
    refine r_icmp2 34 ((τ1.1 3 4) < (nI 10)) d_WD_track_25 (by decide) rfl (fun c3 => ?_) (fun c3 => ?_)
    · have h := h.1 c3
      refine r_aload_n d_WD_track_34 rfl ?_
      refine r_virtV [] [] d_WD_track_35 v_WD_116 rfl rfl cn_0 rfl (t_WD_beginChange h) (fun τ4 h => ?_)
      refine r_aload_n d_WD_track_38 rfl ?_
      refine r_getR d_WD_track_39 f_WD_19 kd_0 rfl lk_0_1 ?_
      refine r_virtI [] [] d_WD_track_42 v_WD_129 rfl rfl cn_3 rfl (t_Disc_addDarkTrack h) (fun r5 τ5 h => ?_)
      refine r_istore_n (vs' := [.ref 0, .int r5, .null]) d_WD_track_45 rfl rfl ?_
      refine r_iconst (nI 0) d_WD_track_46 (by decide) ?_
      refine r_istore_n (vs' := [.ref 0, .int r5, .int (nI 0)]) d_WD_track_47 rfl rfl ?_
      exact h
    · have h := h.2 c3
      refine r_aload_n d_WD_track_28 rfl ?_
      refine r_iconst (nI 4) d_WD_track_29 (by decide) ?_
      refine r_virtI [.int (nI 4)] [] d_WD_track_30 v_WD_95 rfl rfl cn_0 rfl (t_WD_refuse h) (fun r6 τ6 h => ?_)
      exact r_iret d_WD_track_33 h
  · have h := h.2 c2
    refine r_aload_n d_WD_track_10 rfl ?_
    refine r_iconst (nI 2) d_WD_track_11 (by decide) ?_
    refine r_virtI [.int (nI 2)] [] d_WD_track_12 v_WD_95 rfl rfl cn_0 rfl (t_WD_refuse h) (fun r7 τ7 h => ?_)
    exact r_iret d_WD_track_15 h
theorem l_WD_track_48 {d : Nat}  {x1 : Int32} {x2 : Int32}  {σ : am_S} {K : Int32 → am_S → Prop} (h : (am_ite ((σ.1 3 3) ≤ x2) (w_Rim_become (-1) (nI 0) σ (fun τ9 => (w_WD_accept x1 τ9 (fun r10 τ10 => K r10 τ10)))) (w_Rim_isLight x2 σ (fun r11 τ11 => (w_Disc_setLight x1 x2 r11 τ11 (fun τ12 => R_WD_track d K 48 [.ref 0, .int x1, .int (x2 + nI 1)] [] τ12)))))) : R_WD_track d K 48 [.ref 0, .int x1, .int x2] [] σ := by
  refine r_iload_n d_WD_track_48 rfl ?_
  refine r_aload_n d_WD_track_49 rfl ?_
  refine r_getR d_WD_track_50 f_WD_19 kd_0 rfl lk_0_1 ?_
  refine r_getI d_WD_track_53 f_WD_133 kd_3 rfl ?_
  refine r_icmp2 82 ((σ.1 3 3) ≤ x2) d_WD_track_56 (by decide) rfl (fun c8 => ?_) (fun c8 => ?_)
  · have h := h.1 c8
    refine r_aload_n d_WD_track_82 rfl ?_
    refine r_getR d_WD_track_83 f_WD_10 kd_0 rfl lk_0_0 ?_
    refine r_iconst (-1) d_WD_track_86 (by decide) ?_
    refine r_iconst (nI 0) d_WD_track_87 (by decide) ?_
    refine r_virtV [.int (-1), .int (nI 0)] [] d_WD_track_88 v_WD_87 rfl rfl cn_1 rfl (t_Rim_become h) (fun τ9 h => ?_)
    refine r_aload_n d_WD_track_91 rfl ?_
    refine r_iload_n d_WD_track_92 rfl ?_
    refine r_virtI [.int x1] [] d_WD_track_93 v_WD_91 rfl rfl cn_0 rfl (t_WD_accept h) (fun r10 τ10 h => ?_)
    exact r_iret d_WD_track_96 h
  · have h := h.2 c8
    refine r_aload_n d_WD_track_59 rfl ?_
    refine r_getR d_WD_track_60 f_WD_19 kd_0 rfl lk_0_1 ?_
    refine r_iload_n d_WD_track_63 rfl ?_
    refine r_iload_n d_WD_track_64 rfl ?_
    refine r_aload_n d_WD_track_65 rfl ?_
    refine r_getR d_WD_track_66 f_WD_10 kd_0 rfl lk_0_0 ?_
    refine r_iload_n d_WD_track_69 rfl ?_
    refine r_virtI [.int x2] [.int x2, .int x1, .ref 3] d_WD_track_70 v_WD_136 rfl rfl cn_1 rfl (t_Rim_isLight h) (fun r11 τ11 h => ?_)
    refine r_virtV [.int x1, .int x2, .int r11] [] d_WD_track_73 v_WD_139 rfl rfl cn_3 rfl (t_Disc_setLight h) (fun τ12 h => ?_)
    refine r_inc1 (vs' := [.ref 0, .int x1, .int (x2 + nI 1)]) d_WD_track_76 rfl rfl rfl ?_
    refine r_goto 48 d_WD_track_79 (by decide) ?_
    exact h
def w_Disc_hasTrack (x1 : Int32) (σ : am_S) (K : Int32 → am_S → Prop) : Prop := (am_ite (x1 < (nI 0)) (K (nI 0) σ) (am_ite ((σ.1 3 4) ≤ x1) (K (nI 0) σ) (K (nI 1) σ)))
theorem t_Disc_hasTrack {d : Nat} {x1 : Int32}  {σ : am_S} {K : Int32 → am_S → Prop} (h : w_Disc_hasTrack x1 σ K) : am_run (d + 1) y_Disc_hasTrack [.ref 3, .int x1] σ (am_Ri K) := by
  unfold w_Disc_hasTrack at h
  refine am_begin (vs := [.ref 3, .int x1]) c_Disc_hasTrack (by decide +kernel) rfl rfl rfl rfl ?_
  refine r_iload_n d_Disc_hasTrack_0 rfl ?_
  refine r_if2 16 (x1 < (nI 0)) d_Disc_hasTrack_1 (by decide) rfl (fun c1 => ?_) (fun c1 => ?_)
  · have h := h.1 c1
    refine r_iconst (nI 0) d_Disc_hasTrack_16 (by decide) ?_
    exact r_zret0 d_Disc_hasTrack_17 h
  · have h := h.2 c1
    refine r_iload_n d_Disc_hasTrack_4 rfl ?_
    refine r_aload_n d_Disc_hasTrack_5 rfl ?_
    refine r_getI d_Disc_hasTrack_6 f_Disc_26 kd_3 rfl ?_
    refine r_icmp2 16 ((σ.1 3 4) ≤ x1) d_Disc_hasTrack_9 (by decide) rfl (fun c2 => ?_) (fun c2 => ?_)
    · have h := h.1 c2
      refine r_iconst (nI 0) d_Disc_hasTrack_16 (by decide) ?_
      exact r_zret0 d_Disc_hasTrack_17 h
    · have h := h.2 c2
      refine r_iconst (nI 1) d_Disc_hasTrack_12 (by decide) ?_
      refine r_goto 17 d_Disc_hasTrack_13 (by decide) ?_
      exact r_zret1 d_Disc_hasTrack_17 h
def w_Disc_hasSector (x1 : Int32) (σ : am_S) (K : Int32 → am_S → Prop) : Prop := (am_ite (x1 < (nI 0)) (K (nI 0) σ) (am_ite ((σ.1 3 3) ≤ x1) (K (nI 0) σ) (K (nI 1) σ)))
theorem t_Disc_hasSector {d : Nat} {x1 : Int32}  {σ : am_S} {K : Int32 → am_S → Prop} (h : w_Disc_hasSector x1 σ K) : am_run (d + 1) y_Disc_hasSector [.ref 3, .int x1] σ (am_Ri K) := by
  unfold w_Disc_hasSector at h
  refine am_begin (vs := [.ref 3, .int x1]) c_Disc_hasSector (by decide +kernel) rfl rfl rfl rfl ?_
  refine r_iload_n d_Disc_hasSector_0 rfl ?_
  refine r_if2 16 (x1 < (nI 0)) d_Disc_hasSector_1 (by decide) rfl (fun c1 => ?_) (fun c1 => ?_)
  · have h := h.1 c1
    refine r_iconst (nI 0) d_Disc_hasSector_16 (by decide) ?_
    exact r_zret0 d_Disc_hasSector_17 h
  · have h := h.2 c1
    refine r_iload_n d_Disc_hasSector_4 rfl ?_
    refine r_aload_n d_Disc_hasSector_5 rfl ?_
    refine r_getI d_Disc_hasSector_6 f_Disc_22 kd_3 rfl ?_
    refine r_icmp2 16 ((σ.1 3 3) ≤ x1) d_Disc_hasSector_9 (by decide) rfl (fun c2 => ?_) (fun c2 => ?_)
    · have h := h.1 c2
      refine r_iconst (nI 0) d_Disc_hasSector_16 (by decide) ?_
      exact r_zret0 d_Disc_hasSector_17 h
    · have h := h.2 c2
      refine r_iconst (nI 1) d_Disc_hasSector_12 (by decide) ?_
      refine r_goto 17 d_Disc_hasSector_13 (by decide) ?_
      exact r_zret1 d_Disc_hasSector_17 h
def w_WD_isSet {k nk : Nat} (x1 : Int32) (x2 : Int32) (σ : am_S) (K : Int32 → am_S → Prop) : Prop := (vp_in (x1 + (x2 >>> ((nI 6) &&& 31))) nk ∧ (am_ite ((lg_cmp ((am_lushr (σ.2 k (Int32.toNatClampNeg (x1 + (x2 >>> ((nI 6) &&& 31))))) (x2 &&& (nI 63))) &&& (1)) (0)) = (nI 0)) (K (nI 0) σ) (K (nI 1) σ)))
theorem t_WD_isSet {d : Nat} {k nk : Nat} {x1 : Int32} {x2 : Int32} (hk : am_cell k = (12, nk)) {σ : am_S} {K : Int32 → am_S → Prop} (h : w_WD_isSet (k := k) (nk := nk) x1 x2 σ K) : am_run (d + 1) y_WD_isSet [.ref k, .int x1, .int x2] σ (am_Ri K) := by
  unfold w_WD_isSet at h
  refine am_begin (vs := [.ref k, .int x1, .int x2]) c_WD_isSet (by decide +kernel) rfl rfl rfl rfl ?_
  refine r_aload_n d_WD_isSet_0 rfl ?_
  refine r_iload_n d_WD_isSet_1 rfl ?_
  refine r_iload_n d_WD_isSet_2 rfl ?_
  refine r_bipush (nI 6) d_WD_isSet_3 (by decide) ?_
  refine r_ishr d_WD_isSet_5 ?_
  refine r_iadd d_WD_isSet_6 ?_
  refine r_lald d_WD_isSet_7 hk ⟨h.1, ?_⟩
  have h := h.2
  refine r_iload_n d_WD_isSet_8 rfl ?_
  refine r_bipush (nI 63) d_WD_isSet_9 (by decide) ?_
  refine r_iand d_WD_isSet_11 ?_
  refine r_lushr d_WD_isSet_12 ?_
  refine r_lconst (1) d_WD_isSet_13 (by decide) ?_
  refine r_land d_WD_isSet_14 ?_
  refine r_lconst (0) d_WD_isSet_15 (by decide) ?_
  refine r_lcmp d_WD_isSet_16 ?_
  refine r_if2 24 ((lg_cmp ((am_lushr (σ.2 k (Int32.toNatClampNeg (x1 + (x2 >>> ((nI 6) &&& 31))))) (x2 &&& (nI 63))) &&& (1)) (0)) = (nI 0)) d_WD_isSet_17 (by decide) rfl (fun c1 => ?_) (fun c1 => ?_)
  · have h := h.1 c1
    refine r_iconst (nI 0) d_WD_isSet_24 (by decide) ?_
    exact r_zret0 d_WD_isSet_25 h
  · have h := h.2 c1
    refine r_iconst (nI 1) d_WD_isSet_20 (by decide) ?_
    refine r_goto 25 d_WD_isSet_21 (by decide) ?_
    exact r_zret1 d_WD_isSet_25 h
def w_Disc_isLight (x1 : Int32) (x2 : Int32) (σ : am_S) (K : Int32 → am_S → Prop) : Prop := (w_WD_isSet (k := 4) (nk := 80) (x1 * (nI 8)) x2 σ (fun r1 τ1 => ((r1 = nI 0 ∨ r1 = nI 1) ∧ K r1 τ1)))
theorem t_Disc_isLight {d : Nat} {x1 : Int32} {x2 : Int32}  {σ : am_S} {K : Int32 → am_S → Prop} (h : w_Disc_isLight x1 x2 σ K) : am_run (d + 2) y_Disc_isLight [.ref 3, .int x1, .int x2] σ (am_Ri K) := by
  unfold w_Disc_isLight at h
  refine am_begin (vs := [.ref 3, .int x1, .int x2]) c_Disc_isLight (by decide +kernel) rfl rfl rfl rfl ?_
  refine r_aload_n d_Disc_isLight_0 rfl ?_
  refine r_getR d_Disc_isLight_1 f_Disc_11 kd_3 rfl lk_3_0 ?_
  refine r_iload_n d_Disc_isLight_4 rfl ?_
  refine r_bipush (nI 8) d_Disc_isLight_5 (by decide) ?_
  refine r_imul d_Disc_isLight_7 ?_
  refine r_iload_n d_Disc_isLight_8 rfl ?_
  refine r_statI [.ref 4, .int (x1 * (nI 8)), .int x2] [] d_Disc_isLight_9 s_Disc_44 rfl rfl rfl (t_WD_isSet ce_4 h) (fun r1 τ1 h => ?_)
  exact r_zret d_Disc_isLight_12 h
def w_WD_light (x1 : Int32) (x2 : Int32) (x3 : Int32) (σ : am_S) (K : Int32 → am_S → Prop) : Prop := (w_Disc_hasTrack x1 σ (fun r1 τ1 => (am_ite (r1 = (nI 0)) (w_WD_refuse (nI 1) τ1 (fun r3 τ3 => K r3 τ3)) (w_Disc_hasSector x2 τ1 (fun r4 τ4 => (am_ite (¬ r4 = (nI 0)) (w_WD_beginChange  τ4 (fun τ6 => (w_Disc_isLight x1 x2 τ6 (fun r7 τ7 => (w_Disc_setLight x1 x2 x3 τ7 (fun τ8 => (am_ite (r7 = (nI 0)) (w_WD_accept (nI 0) τ8 (fun r10 τ10 => K r10 τ10)) (w_WD_accept (nI 1) τ8 (fun r11 τ11 => K r11 τ11))))))))) (w_WD_refuse (nI 1) τ4 (fun r12 τ12 => K r12 τ12))))))))
theorem t_WD_light {d : Nat} {x1 : Int32} {x2 : Int32} {x3 : Int32}  {σ : am_S} {K : Int32 → am_S → Prop} (h : w_WD_light x1 x2 x3 σ K) : am_run (d + 4) y_WD_light [.ref 0, .int x1, .int x2, .int x3] σ (am_Ri K) := by
  unfold w_WD_light at h
  refine am_begin (vs := [.ref 0, .int x1, .int x2, .int x3, .null]) c_WD_light (by decide +kernel) rfl rfl rfl rfl ?_
  refine r_aload_n d_WD_light_0 rfl ?_
  refine r_getR d_WD_light_1 f_WD_19 kd_0 rfl lk_0_1 ?_
  refine r_iload_n d_WD_light_4 rfl ?_
  refine r_virtI [.int x1] [] d_WD_light_5 v_WD_143 rfl rfl cn_3 rfl (t_Disc_hasTrack h) (fun r1 τ1 h => ?_)
  refine r_if2 22 (r1 = (nI 0)) d_WD_light_8 (by decide) rfl (fun c2 => ?_) (fun c2 => ?_)
  · have h := h.1 c2
    refine r_aload_n d_WD_light_22 rfl ?_
    refine r_iconst (nI 1) d_WD_light_23 (by decide) ?_
    refine r_virtI [.int (nI 1)] [] d_WD_light_24 v_WD_95 rfl rfl cn_0 rfl (t_WD_refuse h) (fun r3 τ3 h => ?_)
    exact r_iret d_WD_light_27 h
  · have h := h.2 c2
    refine r_aload_n d_WD_light_11 rfl ?_
    refine r_getR d_WD_light_12 f_WD_19 kd_0 rfl lk_0_1 ?_
    refine r_iload_n d_WD_light_15 rfl ?_
    refine r_virtI [.int x2] [] d_WD_light_16 v_WD_146 rfl rfl cn_3 rfl (t_Disc_hasSector h) (fun r4 τ4 h => ?_)
    refine r_if2 28 (¬ r4 = (nI 0)) d_WD_light_19 (by decide) rfl (fun c5 => ?_) (fun c5 => ?_)
    · have h := h.1 c5
      refine r_aload_n d_WD_light_28 rfl ?_
      refine r_virtV [] [] d_WD_light_29 v_WD_116 rfl rfl cn_0 rfl (t_WD_beginChange h) (fun τ6 h => ?_)
      refine r_aload_n d_WD_light_32 rfl ?_
      refine r_getR d_WD_light_33 f_WD_19 kd_0 rfl lk_0_1 ?_
      refine r_iload_n d_WD_light_36 rfl ?_
      refine r_iload_n d_WD_light_37 rfl ?_
      refine r_virtI [.int x1, .int x2] [] d_WD_light_38 v_WD_149 rfl rfl cn_3 rfl (t_Disc_isLight h) (fun r7 τ7 h => ?_)
      refine r_istore (vs' := [.ref 0, .int x1, .int x2, .int x3, .int r7]) d_WD_light_41 rfl rfl ?_
      refine r_aload_n d_WD_light_43 rfl ?_
      refine r_getR d_WD_light_44 f_WD_19 kd_0 rfl lk_0_1 ?_
      refine r_iload_n d_WD_light_47 rfl ?_
      refine r_iload_n d_WD_light_48 rfl ?_
      refine r_iload_n d_WD_light_49 rfl ?_
      refine r_virtV [.int x1, .int x2, .int x3] [] d_WD_light_50 v_WD_139 rfl rfl cn_3 rfl (t_Disc_setLight h) (fun τ8 h => ?_)
      refine r_aload_n d_WD_light_53 rfl ?_
      refine r_iload d_WD_light_54 rfl ?_
      refine r_if2 63 (r7 = (nI 0)) d_WD_light_56 (by decide) rfl (fun c9 => ?_) (fun c9 => ?_)
      · have h := h.1 c9
        refine r_iconst (nI 0) d_WD_light_63 (by decide) ?_
        refine r_virtI [.int (nI 0)] [] d_WD_light_64 v_WD_91 rfl rfl cn_0 rfl (t_WD_accept h) (fun r10 τ10 h => ?_)
        exact r_iret d_WD_light_67 h
      · have h := h.2 c9
        refine r_iconst (nI 1) d_WD_light_59 (by decide) ?_
        refine r_goto 64 d_WD_light_60 (by decide) ?_
        refine r_virtI [.int (nI 1)] [] d_WD_light_64 v_WD_91 rfl rfl cn_0 rfl (t_WD_accept h) (fun r11 τ11 h => ?_)
        exact r_iret d_WD_light_67 h
    · have h := h.2 c5
      refine r_aload_n d_WD_light_22 rfl ?_
      refine r_iconst (nI 1) d_WD_light_23 (by decide) ?_
      refine r_virtI [.int (nI 1)] [] d_WD_light_24 v_WD_95 rfl rfl cn_0 rfl (t_WD_refuse h) (fun r12 τ12 h => ?_)
      exact r_iret d_WD_light_27 h
def w_Disc_addReader (x1 : Int32) (x2 : Int32) (σ : am_S) (K : Int32 → am_S → Prop) : Prop := (vp_in (σ.1 3 5) 10 ∧ (vp_in (σ.1 3 5) 10 ∧ K (((σ.1 3 5) + (nI 1)) - (nI 1)) (am_upI (am_upI (am_upI σ 5 (Int32.toNatClampNeg (σ.1 3 5)) x1) 6 (Int32.toNatClampNeg (σ.1 3 5)) x2) 3 5 ((σ.1 3 5) + (nI 1)))))
theorem t_Disc_addReader {d : Nat} {x1 : Int32} {x2 : Int32}  {σ : am_S} {K : Int32 → am_S → Prop} (h : w_Disc_addReader x1 x2 σ K) : am_run (d + 1) y_Disc_addReader [.ref 3, .int x1, .int x2] σ (am_Ri K) := by
  unfold w_Disc_addReader at h
  refine am_begin (vs := [.ref 3, .int x1, .int x2]) c_Disc_addReader (by decide +kernel) rfl rfl rfl rfl ?_
  refine r_aload_n d_Disc_addReader_0 rfl ?_
  refine r_getR d_Disc_addReader_1 f_Disc_15 kd_3 rfl lk_3_1 ?_
  refine r_aload_n d_Disc_addReader_4 rfl ?_
  refine r_getI d_Disc_addReader_5 f_Disc_29 kd_3 rfl ?_
  refine r_iload_n d_Disc_addReader_8 rfl ?_
  refine r_iast d_Disc_addReader_9 ce_5 ⟨h.1, ?_⟩
  have h := h.2
  refine r_aload_n d_Disc_addReader_10 rfl ?_
  refine r_getR d_Disc_addReader_11 f_Disc_19 kd_3 rfl lk_3_2 ?_
  refine r_aload_n d_Disc_addReader_14 rfl ?_
  refine r_getI d_Disc_addReader_15 f_Disc_29 kd_3 rfl ?_
  refine r_iload_n d_Disc_addReader_18 rfl ?_
  refine r_iast d_Disc_addReader_19 ce_6 ⟨h.1, ?_⟩
  have h := h.2
  refine r_aload_n d_Disc_addReader_20 rfl ?_
  refine r_dup d_Disc_addReader_21 rfl ?_
  refine r_getI d_Disc_addReader_22 f_Disc_29 kd_3 rfl ?_
  refine r_iconst (nI 1) d_Disc_addReader_25 (by decide) ?_
  refine r_iadd d_Disc_addReader_26 ?_
  refine r_putI d_Disc_addReader_27 f_Disc_29 kd_3 rfl ?_
  refine r_aload_n d_Disc_addReader_30 rfl ?_
  refine r_getI d_Disc_addReader_31 f_Disc_29 kd_3 rfl ?_
  refine r_iconst (nI 1) d_Disc_addReader_34 (by decide) ?_
  refine r_isub d_Disc_addReader_35 ?_
  exact r_iret d_Disc_addReader_36 h
def w_WD_reader (x1 : Int32) (x2 : Int32) (σ : am_S) (K : Int32 → am_S → Prop) : Prop := (w_Disc_hasTrack x1 σ (fun r1 τ1 => (am_ite (r1 = (nI 0)) (w_WD_refuse (nI 1) τ1 (fun r3 τ3 => K r3 τ3)) (w_Disc_hasSector x2 τ1 (fun r4 τ4 => (am_ite (¬ r4 = (nI 0)) (am_ite ((τ4.1 3 5) < (nI 10)) (w_WD_beginChange  τ4 (fun τ7 => (w_Disc_addReader x1 x2 τ7 (fun r8 τ8 => (w_WD_accept r8 τ8 (fun r9 τ9 => K r9 τ9)))))) (w_WD_refuse (nI 4) τ4 (fun r10 τ10 => K r10 τ10))) (w_WD_refuse (nI 1) τ4 (fun r11 τ11 => K r11 τ11))))))))
theorem t_WD_reader {d : Nat} {x1 : Int32} {x2 : Int32}  {σ : am_S} {K : Int32 → am_S → Prop} (h : w_WD_reader x1 x2 σ K) : am_run (d + 4) y_WD_reader [.ref 0, .int x1, .int x2] σ (am_Ri K) := by
  unfold w_WD_reader at h
  refine am_begin (vs := [.ref 0, .int x1, .int x2]) c_WD_reader (by decide +kernel) rfl rfl rfl rfl ?_
  refine r_aload_n d_WD_reader_0 rfl ?_
  refine r_getR d_WD_reader_1 f_WD_19 kd_0 rfl lk_0_1 ?_
  refine r_iload_n d_WD_reader_4 rfl ?_
  refine r_virtI [.int x1] [] d_WD_reader_5 v_WD_143 rfl rfl cn_3 rfl (t_Disc_hasTrack h) (fun r1 τ1 h => ?_)
  refine r_if2 22 (r1 = (nI 0)) d_WD_reader_8 (by decide) rfl (fun c2 => ?_) (fun c2 => ?_)
  · have h := h.1 c2
    refine r_aload_n d_WD_reader_22 rfl ?_
    refine r_iconst (nI 1) d_WD_reader_23 (by decide) ?_
    refine r_virtI [.int (nI 1)] [] d_WD_reader_24 v_WD_95 rfl rfl cn_0 rfl (t_WD_refuse h) (fun r3 τ3 h => ?_)
    exact r_iret d_WD_reader_27 h
  · have h := h.2 c2
    refine r_aload_n d_WD_reader_11 rfl ?_
    refine r_getR d_WD_reader_12 f_WD_19 kd_0 rfl lk_0_1 ?_
    refine r_iload_n d_WD_reader_15 rfl ?_
    refine r_virtI [.int x2] [] d_WD_reader_16 v_WD_146 rfl rfl cn_3 rfl (t_Disc_hasSector h) (fun r4 τ4 h => ?_)
    refine r_if2 28 (¬ r4 = (nI 0)) d_WD_reader_19 (by decide) rfl (fun c5 => ?_) (fun c5 => ?_)
    · have h := h.1 c5
      refine r_aload_n d_WD_reader_28 rfl ?_
      refine r_getR d_WD_reader_29 f_WD_19 kd_0 rfl lk_0_1 ?_
      refine r_getI d_WD_reader_32 f_WD_152 kd_3 rfl ?_
      refine r_bipush (nI 10) d_WD_reader_35 (by decide) ?_
      refine r_icmp2 46 ((τ4.1 3 5) < (nI 10)) d_WD_reader_37 (by decide) rfl (fun c6 => ?_) (fun c6 => ?_)
      · have h := h.1 c6
        refine r_aload_n d_WD_reader_46 rfl ?_
        refine r_virtV [] [] d_WD_reader_47 v_WD_116 rfl rfl cn_0 rfl (t_WD_beginChange h) (fun τ7 h => ?_)
        refine r_aload_n d_WD_reader_50 rfl ?_
        refine r_aload_n d_WD_reader_51 rfl ?_
        refine r_getR d_WD_reader_52 f_WD_19 kd_0 rfl lk_0_1 ?_
        refine r_iload_n d_WD_reader_55 rfl ?_
        refine r_iload_n d_WD_reader_56 rfl ?_
        refine r_virtI [.int x1, .int x2] [.ref 0] d_WD_reader_57 v_WD_155 rfl rfl cn_3 rfl (t_Disc_addReader h) (fun r8 τ8 h => ?_)
        refine r_virtI [.int r8] [] d_WD_reader_60 v_WD_91 rfl rfl cn_0 rfl (t_WD_accept h) (fun r9 τ9 h => ?_)
        exact r_iret d_WD_reader_63 h
      · have h := h.2 c6
        refine r_aload_n d_WD_reader_40 rfl ?_
        refine r_iconst (nI 4) d_WD_reader_41 (by decide) ?_
        refine r_virtI [.int (nI 4)] [] d_WD_reader_42 v_WD_95 rfl rfl cn_0 rfl (t_WD_refuse h) (fun r10 τ10 h => ?_)
        exact r_iret d_WD_reader_45 h
    · have h := h.2 c5
      refine r_aload_n d_WD_reader_22 rfl ?_
      refine r_iconst (nI 1) d_WD_reader_23 (by decide) ?_
      refine r_virtI [.int (nI 1)] [] d_WD_reader_24 v_WD_95 rfl rfl cn_0 rfl (t_WD_refuse h) (fun r11 τ11 h => ?_)
      exact r_iret d_WD_reader_27 h
def w_Disc_hasReader (x1 : Int32) (σ : am_S) (K : Int32 → am_S → Prop) : Prop := (am_ite (x1 < (nI 0)) (K (nI 0) σ) (am_ite ((σ.1 3 5) ≤ x1) (K (nI 0) σ) (K (nI 1) σ)))
theorem t_Disc_hasReader {d : Nat} {x1 : Int32}  {σ : am_S} {K : Int32 → am_S → Prop} (h : w_Disc_hasReader x1 σ K) : am_run (d + 1) y_Disc_hasReader [.ref 3, .int x1] σ (am_Ri K) := by
  unfold w_Disc_hasReader at h
  refine am_begin (vs := [.ref 3, .int x1]) c_Disc_hasReader (by decide +kernel) rfl rfl rfl rfl ?_
  refine r_iload_n d_Disc_hasReader_0 rfl ?_
  refine r_if2 16 (x1 < (nI 0)) d_Disc_hasReader_1 (by decide) rfl (fun c1 => ?_) (fun c1 => ?_)
  · have h := h.1 c1
    refine r_iconst (nI 0) d_Disc_hasReader_16 (by decide) ?_
    exact r_zret0 d_Disc_hasReader_17 h
  · have h := h.2 c1
    refine r_iload_n d_Disc_hasReader_4 rfl ?_
    refine r_aload_n d_Disc_hasReader_5 rfl ?_
    refine r_getI d_Disc_hasReader_6 f_Disc_29 kd_3 rfl ?_
    refine r_icmp2 16 ((σ.1 3 5) ≤ x1) d_Disc_hasReader_9 (by decide) rfl (fun c2 => ?_) (fun c2 => ?_)
    · have h := h.1 c2
      refine r_iconst (nI 0) d_Disc_hasReader_16 (by decide) ?_
      exact r_zret0 d_Disc_hasReader_17 h
    · have h := h.2 c2
      refine r_iconst (nI 1) d_Disc_hasReader_12 (by decide) ?_
      refine r_goto 17 d_Disc_hasReader_13 (by decide) ?_
      exact r_zret1 d_Disc_hasReader_17 h
abbrev R_Disc_removeReader (d : Nat) (K : am_S → Prop) (pc : Nat) (vs st : List Value) (σ : am_S) : Prop := am_r (am_run (d + 0)) "WheelDisc$Disc" none prog_2_method_11_code (am_Rv K) pc vs st σ
def w_Disc_removeReader (x1 : Int32) (σ : am_S) (K : am_S → Prop) : Prop := ∀ d : Nat, am_run (d + 1) y_Disc_removeReader [.ref 3, .int x1] σ (am_Rv K)
theorem t_Disc_removeReader {d : Nat} {x1 : Int32}  {σ : am_S} {K : am_S → Prop} (h : w_Disc_removeReader x1 σ K) : am_run (d + 1) y_Disc_removeReader [.ref 3, .int x1] σ (am_Rv K) := h d
theorem e_Disc_removeReader {x1 : Int32}  {σ : am_S} {K : am_S → Prop} (h : ∀ d : Nat, R_Disc_removeReader d K 2 [.ref 3, .null, .int x1] [] σ) : w_Disc_removeReader x1 σ K := by
  intro d
  have h := h d
  refine am_begin (vs := [.ref 3, .int x1, .null]) c_Disc_removeReader (by decide +kernel) rfl rfl rfl rfl ?_
  refine r_iload_n d_Disc_removeReader_0 rfl ?_
  refine r_istore_n (vs' := [.ref 3, .int x1, .int x1]) d_Disc_removeReader_1 rfl rfl ?_
  exact am_weak (vs := [.ref 3, .null, .int x1]) ⟨Or.inl rfl, Or.inr ⟨rfl, rfl⟩, Or.inl rfl, trivial⟩ h
theorem l_Disc_removeReader_2 {d : Nat}  {x2 : Int32}  {σ : am_S} {K : am_S → Prop} (h : (am_ite ((σ.1 3 5) ≤ (x2 + (nI 1))) (K (am_upI σ 3 5 ((σ.1 3 5) - (nI 1)))) (vp_in (x2 + (nI 1)) 10 ∧ (vp_in x2 10 ∧ (vp_in (x2 + (nI 1)) 10 ∧ (vp_in x2 10 ∧ R_Disc_removeReader d K 2 [.ref 3, .null, .int (x2 + nI 1)] [] (am_upI (am_upI σ 5 (Int32.toNatClampNeg x2) (σ.1 5 (Int32.toNatClampNeg (x2 + (nI 1))))) 6 (Int32.toNatClampNeg x2) (σ.1 6 (Int32.toNatClampNeg (x2 + (nI 1))))))))))) : R_Disc_removeReader d K 2 [.ref 3, .null, .int x2] [] σ := by
  refine r_iload_n d_Disc_removeReader_2 rfl ?_
  refine r_iconst (nI 1) d_Disc_removeReader_3 (by decide) ?_
  refine r_iadd d_Disc_removeReader_4 ?_
  refine r_aload_n d_Disc_removeReader_5 rfl ?_
  refine r_getI d_Disc_removeReader_6 f_Disc_29 kd_3 rfl ?_
  refine r_icmp2 46 ((σ.1 3 5) ≤ (x2 + (nI 1))) d_Disc_removeReader_9 (by decide) rfl (fun c1 => ?_) (fun c1 => ?_)
  · have h := h.1 c1
    refine r_aload_n d_Disc_removeReader_46 rfl ?_
    refine r_dup d_Disc_removeReader_47 rfl ?_
    refine r_getI d_Disc_removeReader_48 f_Disc_29 kd_3 rfl ?_
    refine r_iconst (nI 1) d_Disc_removeReader_51 (by decide) ?_
    refine r_isub d_Disc_removeReader_52 ?_
    refine r_putI d_Disc_removeReader_53 f_Disc_29 kd_3 rfl ?_
    exact r_vret d_Disc_removeReader_56 h
  · have h := h.2 c1
    refine r_aload_n d_Disc_removeReader_12 rfl ?_
    refine r_getR d_Disc_removeReader_13 f_Disc_15 kd_3 rfl lk_3_1 ?_
    refine r_iload_n d_Disc_removeReader_16 rfl ?_
    refine r_aload_n d_Disc_removeReader_17 rfl ?_
    refine r_getR d_Disc_removeReader_18 f_Disc_15 kd_3 rfl lk_3_1 ?_
    refine r_iload_n d_Disc_removeReader_21 rfl ?_
    refine r_iconst (nI 1) d_Disc_removeReader_22 (by decide) ?_
    refine r_iadd d_Disc_removeReader_23 ?_
    refine r_iald d_Disc_removeReader_24 ce_5 ⟨h.1, ?_⟩
    have h := h.2
    refine r_iast d_Disc_removeReader_25 ce_5 ⟨h.1, ?_⟩
    have h := h.2
    refine r_aload_n d_Disc_removeReader_26 rfl ?_
    refine r_getR d_Disc_removeReader_27 f_Disc_19 kd_3 rfl lk_3_2 ?_
    refine r_iload_n d_Disc_removeReader_30 rfl ?_
    refine r_aload_n d_Disc_removeReader_31 rfl ?_
    refine r_getR d_Disc_removeReader_32 f_Disc_19 kd_3 rfl lk_3_2 ?_
    refine r_iload_n d_Disc_removeReader_35 rfl ?_
    refine r_iconst (nI 1) d_Disc_removeReader_36 (by decide) ?_
    refine r_iadd d_Disc_removeReader_37 ?_
    refine r_iald d_Disc_removeReader_38 ce_6 ⟨h.1, ?_⟩
    have h := h.2
    refine r_iast d_Disc_removeReader_39 ce_6 ⟨h.1, ?_⟩
    have h := h.2
    refine r_inc1 (vs' := [.ref 3, .null, .int (x2 + nI 1)]) d_Disc_removeReader_40 rfl rfl rfl ?_
    refine r_goto 2 d_Disc_removeReader_43 (by decide) ?_
    exact h
def w_WD_lift (x1 : Int32) (σ : am_S) (K : Int32 → am_S → Prop) : Prop := (w_Disc_hasReader x1 σ (fun r1 τ1 => (am_ite (¬ r1 = (nI 0)) (w_WD_beginChange  τ1 (fun τ3 => (w_Disc_removeReader x1 τ3 (fun τ4 => (w_WD_accept (τ4.1 3 5) τ4 (fun r5 τ5 => K r5 τ5)))))) (w_WD_refuse (nI 1) τ1 (fun r6 τ6 => K r6 τ6)))))
theorem t_WD_lift {d : Nat} {x1 : Int32}  {σ : am_S} {K : Int32 → am_S → Prop} (h : w_WD_lift x1 σ K) : am_run (d + 4) y_WD_lift [.ref 0, .int x1] σ (am_Ri K) := by
  unfold w_WD_lift at h
  refine am_begin (vs := [.ref 0, .int x1]) c_WD_lift (by decide +kernel) rfl rfl rfl rfl ?_
  refine r_aload_n d_WD_lift_0 rfl ?_
  refine r_getR d_WD_lift_1 f_WD_19 kd_0 rfl lk_0_1 ?_
  refine r_iload_n d_WD_lift_4 rfl ?_
  refine r_virtI [.int x1] [] d_WD_lift_5 v_WD_159 rfl rfl cn_3 rfl (t_Disc_hasReader h) (fun r1 τ1 h => ?_)
  refine r_if2 17 (¬ r1 = (nI 0)) d_WD_lift_8 (by decide) rfl (fun c2 => ?_) (fun c2 => ?_)
  · have h := h.1 c2
    refine r_aload_n d_WD_lift_17 rfl ?_
    refine r_virtV [] [] d_WD_lift_18 v_WD_116 rfl rfl cn_0 rfl (t_WD_beginChange h) (fun τ3 h => ?_)
    refine r_aload_n d_WD_lift_21 rfl ?_
    refine r_getR d_WD_lift_22 f_WD_19 kd_0 rfl lk_0_1 ?_
    refine r_iload_n d_WD_lift_25 rfl ?_
    refine r_virtV [.int x1] [] d_WD_lift_26 v_WD_162 rfl rfl cn_3 rfl (t_Disc_removeReader h) (fun τ4 h => ?_)
    refine r_aload_n d_WD_lift_29 rfl ?_
    refine r_aload_n d_WD_lift_30 rfl ?_
    refine r_getR d_WD_lift_31 f_WD_19 kd_0 rfl lk_0_1 ?_
    refine r_getI d_WD_lift_34 f_WD_152 kd_3 rfl ?_
    refine r_virtI [.int (τ4.1 3 5)] [] d_WD_lift_37 v_WD_91 rfl rfl cn_0 rfl (t_WD_accept h) (fun r5 τ5 h => ?_)
    exact r_iret d_WD_lift_40 h
  · have h := h.2 c2
    refine r_aload_n d_WD_lift_11 rfl ?_
    refine r_iconst (nI 1) d_WD_lift_12 (by decide) ?_
    refine r_virtI [.int (nI 1)] [] d_WD_lift_13 v_WD_95 rfl rfl cn_0 rfl (t_WD_refuse h) (fun r6 τ6 h => ?_)
    exact r_iret d_WD_lift_16 h
def w_Math_floorMod (x0 : Int32) (x1 : Int32) (σ : am_S) (K : Int32 → am_S → Prop) : Prop := (¬ x1 = nI 0 ∧ (am_ite ((nI 0) ≤ (x0 ^^^ x1)) (K (x0 - x0 / x1 * x1) σ) (am_ite ((x0 - x0 / x1 * x1) = (nI 0)) (K (x0 - x0 / x1 * x1) σ) (K ((x0 - x0 / x1 * x1) + x1) σ))))
theorem t_Math_floorMod {d : Nat} {x0 : Int32} {x1 : Int32}  {σ : am_S} {K : Int32 → am_S → Prop} (h : w_Math_floorMod x0 x1 σ K) : am_run (d + 1) y_Math_floorMod [.int x0, .int x1] σ (am_Ri K) := by
  unfold w_Math_floorMod at h
  refine am_begin (vs := [.int x0, .int x1, .null]) c_Math_floorMod (by decide +kernel) rfl rfl rfl rfl ?_
  refine r_iload_n d_Math_floorMod_0 rfl ?_
  refine r_iload_n d_Math_floorMod_1 rfl ?_
  refine r_irem d_Math_floorMod_2 ⟨h.1, ?_⟩
  have h := h.2
  refine r_istore_n (vs' := [.int x0, .int x1, .int (x0 - x0 / x1 * x1)]) d_Math_floorMod_3 rfl rfl ?_
  refine r_iload_n d_Math_floorMod_4 rfl ?_
  refine r_iload_n d_Math_floorMod_5 rfl ?_
  refine r_ixor d_Math_floorMod_6 ?_
  refine r_if2 18 ((nI 0) ≤ (x0 ^^^ x1)) d_Math_floorMod_7 (by decide) rfl (fun c1 => ?_) (fun c1 => ?_)
  · have h := h.1 c1
    refine r_iload_n d_Math_floorMod_18 rfl ?_
    exact r_iret d_Math_floorMod_19 h
  · have h := h.2 c1
    refine r_iload_n d_Math_floorMod_10 rfl ?_
    refine r_if2 18 ((x0 - x0 / x1 * x1) = (nI 0)) d_Math_floorMod_11 (by decide) rfl (fun c2 => ?_) (fun c2 => ?_)
    · have h := h.1 c2
      refine r_iload_n d_Math_floorMod_18 rfl ?_
      exact r_iret d_Math_floorMod_19 h
    · have h := h.2 c2
      refine r_iload_n d_Math_floorMod_14 rfl ?_
      refine r_iload_n d_Math_floorMod_15 rfl ?_
      refine r_iadd d_Math_floorMod_16 ?_
      exact r_iret d_Math_floorMod_17 h
def w_Disc_standRound (x1 : Int32) (σ : am_S) (K : Int32 → am_S → Prop) : Prop := (am_ite ((nI 1) ≤ (σ.1 3 3)) (w_Math_floorMod x1 (σ.1 3 3) σ (fun r2 τ2 => K r2 τ2)) (K (nI 0) σ))
theorem t_Disc_standRound {d : Nat} {x1 : Int32}  {σ : am_S} {K : Int32 → am_S → Prop} (h : w_Disc_standRound x1 σ K) : am_run (d + 2) y_Disc_standRound [.ref 3, .int x1] σ (am_Ri K) := by
  unfold w_Disc_standRound at h
  refine am_begin (vs := [.ref 3, .int x1]) c_Disc_standRound (by decide +kernel) rfl rfl rfl rfl ?_
  refine r_aload_n d_Disc_standRound_0 rfl ?_
  refine r_getI d_Disc_standRound_1 f_Disc_22 kd_3 rfl ?_
  refine r_iconst (nI 1) d_Disc_standRound_4 (by decide) ?_
  refine r_icmp2 12 ((nI 1) ≤ (σ.1 3 3)) d_Disc_standRound_5 (by decide) rfl (fun c1 => ?_) (fun c1 => ?_)
  · have h := h.1 c1
    refine r_iload_n d_Disc_standRound_12 rfl ?_
    refine r_aload_n d_Disc_standRound_13 rfl ?_
    refine r_getI d_Disc_standRound_14 f_Disc_22 kd_3 rfl ?_
    refine r_statI [.int x1, .int (σ.1 3 3)] [] d_Disc_standRound_17 s_Disc_50 rfl rfl rfl (t_Math_floorMod h) (fun r2 τ2 h => ?_)
    exact r_iret d_Disc_standRound_20 h
  · have h := h.2 c1
    refine r_iconst (nI 0) d_Disc_standRound_8 (by decide) ?_
    refine r_goto 20 d_Disc_standRound_9 (by decide) ?_
    exact r_iret d_Disc_standRound_20 h
abbrev R_Disc_layTracksAnew (d : Nat) (K : am_S → Prop) (pc : Nat) (vs st : List Value) (σ : am_S) : Prop := am_r (am_run (d + 1)) "WheelDisc$Disc" none prog_2_method_16_code (am_Rv K) pc vs st σ
def w_Disc_layTracksAnew (x1 : Int32) (x2 : Int32) (σ : am_S) (K : am_S → Prop) : Prop := ∀ d : Nat, am_run (d + 2) y_Disc_layTracksAnew [.ref 3, .int x1, .int x2, .ref 32] σ (am_Rv K)
theorem t_Disc_layTracksAnew {d : Nat} {x1 : Int32} {x2 : Int32}  {σ : am_S} {K : am_S → Prop} (h : w_Disc_layTracksAnew x1 x2 σ K) : am_run (d + 2) y_Disc_layTracksAnew [.ref 3, .int x1, .int x2, .ref 32] σ (am_Rv K) := h d
theorem e_Disc_layTracksAnew {x1 : Int32} {x2 : Int32}  {σ : am_S} {K : am_S → Prop} (h : ∀ d : Nat, R_Disc_layTracksAnew d K 3 [.ref 3, .int x1, .int x2, .ref 32, .int (nI 0), .null, .null] [] σ) : w_Disc_layTracksAnew x1 x2 σ K := by
  intro d
  have h := h d
  refine am_begin (vs := [.ref 3, .int x1, .int x2, .ref 32, .null, .null, .null]) c_Disc_layTracksAnew (by decide +kernel) rfl rfl rfl rfl ?_
  refine r_iconst (nI 0) d_Disc_layTracksAnew_0 (by decide) ?_
  refine r_istore (vs' := [.ref 3, .int x1, .int x2, .ref 32, .int (nI 0), .null, .null]) d_Disc_layTracksAnew_1 rfl rfl ?_
  exact h
theorem l_Disc_layTracksAnew_3 {d : Nat}  {x1 : Int32} {x2 : Int32} {x4 : Int32}  {σ : am_S} {K : am_S → Prop} (h : (am_ite ((σ.1 3 4) ≤ x4) (K σ) ((¬ (x4 * (nI 8)) < 0 ∧ ¬ (nI 0) < 0 ∧ ¬ (nI 8) < 0 ∧ (Int32.toNatClampNeg (x4 * (nI 8))) + (Int32.toNatClampNeg (nI 8)) ≤ 80 ∧ (Int32.toNatClampNeg (nI 0)) + (Int32.toNatClampNeg (nI 8)) ≤ 8) ∧ R_Disc_layTracksAnew d K 34 [.ref 3, .int x1, .int x2, .ref 32, .int x4, .int x1, .int (nI 0)] [] (am_cpJ σ 4 32 (Int32.toNatClampNeg (x4 * (nI 8))) 0 8)))) : R_Disc_layTracksAnew d K 3 [.ref 3, .int x1, .int x2, .ref 32, .int x4, .null, .null] [] σ := by
  refine r_iload d_Disc_layTracksAnew_3 rfl ?_
  refine r_aload_n d_Disc_layTracksAnew_5 rfl ?_
  refine r_getI d_Disc_layTracksAnew_6 f_Disc_26 kd_3 rfl ?_
  refine r_icmp2 82 ((σ.1 3 4) ≤ x4) d_Disc_layTracksAnew_9 (by decide) rfl (fun c1 => ?_) (fun c1 => ?_)
  · have h := h.1 c1
    exact r_vret d_Disc_layTracksAnew_82 h
  · have h := h.2 c1
    refine r_aload_n d_Disc_layTracksAnew_12 rfl ?_
    refine r_getR d_Disc_layTracksAnew_13 f_Disc_11 kd_3 rfl lk_3_0 ?_
    refine r_iload d_Disc_layTracksAnew_16 rfl ?_
    refine r_bipush (nI 8) d_Disc_layTracksAnew_18 (by decide) ?_
    refine r_imul d_Disc_layTracksAnew_20 ?_
    refine r_aload_n d_Disc_layTracksAnew_21 rfl ?_
    refine r_iconst (nI 0) d_Disc_layTracksAnew_22 (by decide) ?_
    refine r_bipush (nI 8) d_Disc_layTracksAnew_23 (by decide) ?_
    refine r_cpJ (t := 0) d_Disc_layTracksAnew_25 a_Disc_38 ce_4 ce_32 rfl ⟨h.1, ?_⟩
    have h := h.2
    refine r_iload_n d_Disc_layTracksAnew_28 rfl ?_
    refine r_istore (vs' := [.ref 3, .int x1, .int x2, .ref 32, .int x4, .int x1, .null]) d_Disc_layTracksAnew_29 rfl rfl ?_
    refine r_iconst (nI 0) d_Disc_layTracksAnew_31 (by decide) ?_
    refine r_istore (vs' := [.ref 3, .int x1, .int x2, .ref 32, .int x4, .int x1, .int (nI 0)]) d_Disc_layTracksAnew_32 rfl rfl ?_
    exact h
theorem l_Disc_layTracksAnew_34 {d : Nat}  {x1 : Int32} {x2 : Int32} {x4 : Int32} {x5 : Int32} {x6 : Int32}  {σ : am_S} {K : am_S → Prop} (h : (am_ite ((σ.1 3 3) ≤ x6) (R_Disc_layTracksAnew d K 3 [.ref 3, .int x1, .int x2, .ref 32, .int (x4 + nI 1), .null, .null] [] σ) (w_WD_isSet (k := 32) (nk := 8) (nI 0) x5 σ (fun r3 τ3 => (w_Disc_setLight x4 x6 r3 τ3 (fun τ4 => (w_WD_stepRound x5 x2 (τ4.1 3 3) τ4 (fun r5 τ5 => R_Disc_layTracksAnew d K 34 [.ref 3, .int x1, .int x2, .ref 32, .int x4, .int r5, .int (x6 + nI 1)] [] τ5)))))))) : R_Disc_layTracksAnew d K 34 [.ref 3, .int x1, .int x2, .ref 32, .int x4, .int x5, .int x6] [] σ := by
  refine r_iload d_Disc_layTracksAnew_34 rfl ?_
  refine r_aload_n d_Disc_layTracksAnew_36 rfl ?_
  refine r_getI d_Disc_layTracksAnew_37 f_Disc_22 kd_3 rfl ?_
  refine r_icmp2 76 ((σ.1 3 3) ≤ x6) d_Disc_layTracksAnew_40 (by decide) rfl (fun c2 => ?_) (fun c2 => ?_)
  · have h := h.1 c2
    refine r_inc1 (vs' := [.ref 3, .int x1, .int x2, .ref 32, .int (x4 + nI 1), .int x5, .int x6]) d_Disc_layTracksAnew_76 rfl rfl rfl ?_
    refine r_goto 3 d_Disc_layTracksAnew_79 (by decide) ?_
    exact am_weak (vs := [.ref 3, .int x1, .int x2, .ref 32, .int (x4 + nI 1), .null, .null]) ⟨Or.inl rfl, Or.inl rfl, Or.inl rfl, Or.inl rfl, Or.inl rfl, Or.inr ⟨rfl, rfl⟩, Or.inr ⟨rfl, rfl⟩, trivial⟩ h
  · have h := h.2 c2
    refine r_aload_n d_Disc_layTracksAnew_43 rfl ?_
    refine r_iload d_Disc_layTracksAnew_44 rfl ?_
    refine r_iload d_Disc_layTracksAnew_46 rfl ?_
    refine r_aload_n d_Disc_layTracksAnew_48 rfl ?_
    refine r_iconst (nI 0) d_Disc_layTracksAnew_49 (by decide) ?_
    refine r_iload d_Disc_layTracksAnew_50 rfl ?_
    refine r_statI [.ref 32, .int (nI 0), .int x5] [.int x6, .int x4, .ref 3] d_Disc_layTracksAnew_52 s_Disc_44 rfl rfl rfl (t_WD_isSet ce_32 h) (fun r3 τ3 h => ?_)
    refine r_virtV [.int x4, .int x6, .int r3] [] d_Disc_layTracksAnew_55 v_Disc_60 rfl rfl cn_3 rfl (t_Disc_setLight h) (fun τ4 h => ?_)
    refine r_iload d_Disc_layTracksAnew_58 rfl ?_
    refine r_iload_n d_Disc_layTracksAnew_60 rfl ?_
    refine r_aload_n d_Disc_layTracksAnew_61 rfl ?_
    refine r_getI d_Disc_layTracksAnew_62 f_Disc_22 kd_3 rfl ?_
    refine r_statI [.int x5, .int x2, .int (τ4.1 3 3)] [] d_Disc_layTracksAnew_65 s_Disc_64 rfl rfl rfl (t_WD_stepRound h) (fun r5 τ5 h => ?_)
    refine r_istore (vs' := [.ref 3, .int x1, .int x2, .ref 32, .int x4, .int r5, .int x6]) d_Disc_layTracksAnew_68 rfl rfl ?_
    refine r_inc1 (vs' := [.ref 3, .int x1, .int x2, .ref 32, .int x4, .int r5, .int (x6 + nI 1)]) d_Disc_layTracksAnew_70 rfl rfl rfl ?_
    refine r_goto 34 d_Disc_layTracksAnew_73 (by decide) ?_
    exact h
