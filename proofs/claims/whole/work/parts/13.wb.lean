def w_Disc_turnBy (x1 : Int32) (σ : am_S) (K : am_S → Prop) : Prop := (w_Disc_layTracksAnew x1 (nI 1) σ (fun τ1 => K τ1))
theorem t_Disc_turnBy {d : Nat} {x1 : Int32}  {σ : am_S} {K : am_S → Prop} (h : w_Disc_turnBy x1 σ K) : am_run (d + 3) y_Disc_turnBy [.ref 3, .int x1, .ref 32] σ (am_Rv K) := by
  unfold w_Disc_turnBy at h
  refine am_begin (vs := [.ref 3, .int x1, .ref 32]) c_Disc_turnBy (by decide +kernel) rfl rfl rfl rfl ?_
  refine r_aload_n d_Disc_turnBy_0 rfl ?_
  refine r_iload_n d_Disc_turnBy_1 rfl ?_
  refine r_iconst (nI 1) d_Disc_turnBy_2 (by decide) ?_
  refine r_aload_n d_Disc_turnBy_3 rfl ?_
  refine r_virtV [.int x1, .int (nI 1), .ref 32] [] d_Disc_turnBy_4 v_Disc_56 rfl rfl cn_3 rfl (t_Disc_layTracksAnew h) (fun τ1 h => ?_)
  exact r_vret d_Disc_turnBy_7 h
def w_WD_turn (x1 : Int32) (σ : am_S) (K : Int32 → am_S → Prop) : Prop := (w_WD_beginChange  σ (fun τ1 => (w_Disc_standRound x1 τ1 (fun r2 τ2 => (w_Disc_turnBy r2 τ2 (fun τ3 => (w_WD_grant (nI 1) τ3 (fun r4 τ4 => ((r4 = nI 0 ∨ r4 = nI 1) ∧ K r4 τ4)))))))))
theorem t_WD_turn {d : Nat} {x1 : Int32}  {σ : am_S} {K : Int32 → am_S → Prop} (h : w_WD_turn x1 σ K) : am_run (d + 4) y_WD_turn [.ref 0, .int x1] σ (am_Ri K) := by
  unfold w_WD_turn at h
  refine am_begin (vs := [.ref 0, .int x1]) c_WD_turn (by decide +kernel) rfl rfl rfl rfl ?_
  refine r_aload_n d_WD_turn_0 rfl ?_
  refine r_virtV [] [] d_WD_turn_1 v_WD_116 rfl rfl cn_0 rfl (t_WD_beginChange h) (fun τ1 h => ?_)
  refine r_aload_n d_WD_turn_4 rfl ?_
  refine r_getR d_WD_turn_5 f_WD_19 kd_0 rfl lk_0_1 ?_
  refine r_aload_n d_WD_turn_8 rfl ?_
  refine r_getR d_WD_turn_9 f_WD_19 kd_0 rfl lk_0_1 ?_
  refine r_iload_n d_WD_turn_12 rfl ?_
  refine r_virtI [.int x1] [.ref 3] d_WD_turn_13 v_WD_165 rfl rfl cn_3 rfl (t_Disc_standRound h) (fun r2 τ2 h => ?_)
  refine r_aload_n d_WD_turn_16 rfl ?_
  refine r_getR d_WD_turn_17 f_WD_75 kd_0 rfl lk_0_10 ?_
  refine r_virtV [.int r2, .ref 32] [] d_WD_turn_20 v_WD_168 rfl rfl cn_3 rfl (t_Disc_turnBy h) (fun τ3 h => ?_)
  refine r_aload_n d_WD_turn_23 rfl ?_
  refine r_iconst (nI 1) d_WD_turn_24 (by decide) ?_
  refine r_virtI [.int (nI 1)] [] d_WD_turn_25 v_WD_112 rfl rfl cn_0 rfl (t_WD_grant h) (fun r4 τ4 h => ?_)
  exact r_zret d_WD_turn_28 h
abbrev R_Disc_mirrorAll (d : Nat) (K : am_S → Prop) (pc : Nat) (vs st : List Value) (σ : am_S) : Prop := am_r (am_run (d + 2)) "WheelDisc$Disc" none prog_2_method_15_code (am_Rv K) pc vs st σ
def w_Disc_mirrorAll  (σ : am_S) (K : am_S → Prop) : Prop := ∀ d : Nat, am_run (d + 3) y_Disc_mirrorAll [.ref 3, .ref 32] σ (am_Rv K)
theorem t_Disc_mirrorAll {d : Nat}   {σ : am_S} {K : am_S → Prop} (h : w_Disc_mirrorAll  σ K) : am_run (d + 3) y_Disc_mirrorAll [.ref 3, .ref 32] σ (am_Rv K) := h d
theorem e_Disc_mirrorAll   {σ : am_S} {K : am_S → Prop} (h : ∀ d : Nat, (w_Disc_layTracksAnew ((σ.1 3 3) - (nI 1)) (-1) σ (fun τ1 => R_Disc_mirrorAll d K 14 [.ref 3, .null, .int (nI 0)] [] τ1))) : w_Disc_mirrorAll  σ K := by
  intro d
  have h := h d
  refine am_begin (vs := [.ref 3, .ref 32, .null]) c_Disc_mirrorAll (by decide +kernel) rfl rfl rfl rfl ?_
  refine r_aload_n d_Disc_mirrorAll_0 rfl ?_
  refine r_aload_n d_Disc_mirrorAll_1 rfl ?_
  refine r_getI d_Disc_mirrorAll_2 f_Disc_22 kd_3 rfl ?_
  refine r_iconst (nI 1) d_Disc_mirrorAll_5 (by decide) ?_
  refine r_isub d_Disc_mirrorAll_6 ?_
  refine r_iconst (-1) d_Disc_mirrorAll_7 (by decide) ?_
  refine r_aload_n d_Disc_mirrorAll_8 rfl ?_
  refine r_virtV [.int ((σ.1 3 3) - (nI 1)), .int (-1), .ref 32] [] d_Disc_mirrorAll_9 v_Disc_56 rfl rfl cn_3 rfl (t_Disc_layTracksAnew h) (fun τ1 h => ?_)
  refine r_iconst (nI 0) d_Disc_mirrorAll_12 (by decide) ?_
  refine r_istore_n (vs' := [.ref 3, .ref 32, .int (nI 0)]) d_Disc_mirrorAll_13 rfl rfl ?_
  exact am_weak (vs := [.ref 3, .null, .int (nI 0)]) ⟨Or.inl rfl, Or.inr ⟨rfl, rfl⟩, Or.inl rfl, trivial⟩ h
theorem l_Disc_mirrorAll_14 {d : Nat}  {x2 : Int32}  {σ : am_S} {K : am_S → Prop} (h : (am_ite ((σ.1 3 5) ≤ x2) (K σ) (vp_in x2 10 ∧ (am_ite (¬ (σ.1 6 (Int32.toNatClampNeg x2)) = (nI 0)) (vp_in x2 10 ∧ (vp_in x2 10 ∧ R_Disc_mirrorAll d K 14 [.ref 3, .null, .int (x2 + nI 1)] [] (am_upI σ 6 (Int32.toNatClampNeg x2) ((σ.1 3 3) - (σ.1 6 (Int32.toNatClampNeg x2)))))) (vp_in x2 10 ∧ R_Disc_mirrorAll d K 14 [.ref 3, .null, .int (x2 + nI 1)] [] (am_upI σ 6 (Int32.toNatClampNeg x2) (nI 0))))))) : R_Disc_mirrorAll d K 14 [.ref 3, .null, .int x2] [] σ := by
  refine r_iload_n d_Disc_mirrorAll_14 rfl ?_
  refine r_aload_n d_Disc_mirrorAll_15 rfl ?_
  refine r_getI d_Disc_mirrorAll_16 f_Disc_29 kd_3 rfl ?_
  refine r_icmp2 58 ((σ.1 3 5) ≤ x2) d_Disc_mirrorAll_19 (by decide) rfl (fun c2 => ?_) (fun c2 => ?_)
  · have h := h.1 c2
    exact r_vret d_Disc_mirrorAll_58 h
  · have h := h.2 c2
    refine r_aload_n d_Disc_mirrorAll_22 rfl ?_
    refine r_getR d_Disc_mirrorAll_23 f_Disc_19 kd_3 rfl lk_3_2 ?_
    refine r_iload_n d_Disc_mirrorAll_26 rfl ?_
    refine r_aload_n d_Disc_mirrorAll_27 rfl ?_
    refine r_getR d_Disc_mirrorAll_28 f_Disc_19 kd_3 rfl lk_3_2 ?_
    refine r_iload_n d_Disc_mirrorAll_31 rfl ?_
    refine r_iald d_Disc_mirrorAll_32 ce_6 ⟨h.1, ?_⟩
    have h := h.2
    refine r_if2 40 (¬ (σ.1 6 (Int32.toNatClampNeg x2)) = (nI 0)) d_Disc_mirrorAll_33 (by decide) rfl (fun c3 => ?_) (fun c3 => ?_)
    · have h := h.1 c3
      refine r_aload_n d_Disc_mirrorAll_40 rfl ?_
      refine r_getI d_Disc_mirrorAll_41 f_Disc_22 kd_3 rfl ?_
      refine r_aload_n d_Disc_mirrorAll_44 rfl ?_
      refine r_getR d_Disc_mirrorAll_45 f_Disc_19 kd_3 rfl lk_3_2 ?_
      refine r_iload_n d_Disc_mirrorAll_48 rfl ?_
      refine r_iald d_Disc_mirrorAll_49 ce_6 ⟨h.1, ?_⟩
      have h := h.2
      refine r_isub d_Disc_mirrorAll_50 ?_
      refine r_iast d_Disc_mirrorAll_51 ce_6 ⟨h.1, ?_⟩
      have h := h.2
      refine r_inc1 (vs' := [.ref 3, .null, .int (x2 + nI 1)]) d_Disc_mirrorAll_52 rfl rfl rfl ?_
      refine r_goto 14 d_Disc_mirrorAll_55 (by decide) ?_
      exact h
    · have h := h.2 c3
      refine r_iconst (nI 0) d_Disc_mirrorAll_36 (by decide) ?_
      refine r_goto 51 d_Disc_mirrorAll_37 (by decide) ?_
      refine r_iast d_Disc_mirrorAll_51 ce_6 ⟨h.1, ?_⟩
      have h := h.2
      refine r_inc1 (vs' := [.ref 3, .null, .int (x2 + nI 1)]) d_Disc_mirrorAll_52 rfl rfl rfl ?_
      refine r_goto 14 d_Disc_mirrorAll_55 (by decide) ?_
      exact h
def w_WD_mirror  (σ : am_S) (K : Int32 → am_S → Prop) : Prop := (w_WD_beginChange  σ (fun τ1 => (w_Disc_mirrorAll  τ1 (fun τ2 => (w_WD_grant (nI 1) τ2 (fun r3 τ3 => ((r3 = nI 0 ∨ r3 = nI 1) ∧ K r3 τ3)))))))
theorem t_WD_mirror {d : Nat}   {σ : am_S} {K : Int32 → am_S → Prop} (h : w_WD_mirror  σ K) : am_run (d + 4) y_WD_mirror [.ref 0] σ (am_Ri K) := by
  unfold w_WD_mirror at h
  refine am_begin (vs := [.ref 0]) c_WD_mirror (by decide +kernel) rfl rfl rfl rfl ?_
  refine r_aload_n d_WD_mirror_0 rfl ?_
  refine r_virtV [] [] d_WD_mirror_1 v_WD_116 rfl rfl cn_0 rfl (t_WD_beginChange h) (fun τ1 h => ?_)
  refine r_aload_n d_WD_mirror_4 rfl ?_
  refine r_getR d_WD_mirror_5 f_WD_19 kd_0 rfl lk_0_1 ?_
  refine r_aload_n d_WD_mirror_8 rfl ?_
  refine r_getR d_WD_mirror_9 f_WD_75 kd_0 rfl lk_0_10 ?_
  refine r_virtV [.ref 32] [] d_WD_mirror_12 v_WD_172 rfl rfl cn_3 rfl (t_Disc_mirrorAll h) (fun τ2 h => ?_)
  refine r_aload_n d_WD_mirror_15 rfl ?_
  refine r_iconst (nI 1) d_WD_mirror_16 (by decide) ?_
  refine r_virtI [.int (nI 1)] [] d_WD_mirror_17 v_WD_112 rfl rfl cn_0 rfl (t_WD_grant h) (fun r3 τ3 h => ?_)
  exact r_zret d_WD_mirror_20 h
def w_Disc_swapReaders (x1 : Int32) (x2 : Int32) (σ : am_S) (K : am_S → Prop) : Prop := (vp_in x1 10 ∧ (vp_in x2 10 ∧ (vp_in x1 10 ∧ (vp_in x2 10 ∧ (vp_in x1 10 ∧ (vp_in x2 10 ∧ (vp_in x1 10 ∧ (vp_in x2 10 ∧ K (am_upI (am_upI (am_upI (am_upI σ 5 (Int32.toNatClampNeg x1) (σ.1 5 (Int32.toNatClampNeg x2))) 5 (Int32.toNatClampNeg x2) (σ.1 5 (Int32.toNatClampNeg x1))) 6 (Int32.toNatClampNeg x1) (σ.1 6 (Int32.toNatClampNeg x2))) 6 (Int32.toNatClampNeg x2) (σ.1 6 (Int32.toNatClampNeg x1)))))))))))
theorem t_Disc_swapReaders {d : Nat} {x1 : Int32} {x2 : Int32}  {σ : am_S} {K : am_S → Prop} (h : w_Disc_swapReaders x1 x2 σ K) : am_run (d + 1) y_Disc_swapReaders [.ref 3, .int x1, .int x2] σ (am_Rv K) := by
  unfold w_Disc_swapReaders at h
  refine am_begin (vs := [.ref 3, .int x1, .int x2, .null, .null]) c_Disc_swapReaders (by decide +kernel) rfl rfl rfl rfl ?_
  refine r_aload_n d_Disc_swapReaders_0 rfl ?_
  refine r_getR d_Disc_swapReaders_1 f_Disc_15 kd_3 rfl lk_3_1 ?_
  refine r_iload_n d_Disc_swapReaders_4 rfl ?_
  refine r_iald d_Disc_swapReaders_5 ce_5 ⟨h.1, ?_⟩
  have h := h.2
  refine r_istore_n (vs' := [.ref 3, .int x1, .int x2, .int (σ.1 5 (Int32.toNatClampNeg x1)), .null]) d_Disc_swapReaders_6 rfl rfl ?_
  refine r_aload_n d_Disc_swapReaders_7 rfl ?_
  refine r_getR d_Disc_swapReaders_8 f_Disc_15 kd_3 rfl lk_3_1 ?_
  refine r_iload_n d_Disc_swapReaders_11 rfl ?_
  refine r_aload_n d_Disc_swapReaders_12 rfl ?_
  refine r_getR d_Disc_swapReaders_13 f_Disc_15 kd_3 rfl lk_3_1 ?_
  refine r_iload_n d_Disc_swapReaders_16 rfl ?_
  refine r_iald d_Disc_swapReaders_17 ce_5 ⟨h.1, ?_⟩
  have h := h.2
  refine r_iast d_Disc_swapReaders_18 ce_5 ⟨h.1, ?_⟩
  have h := h.2
  refine r_aload_n d_Disc_swapReaders_19 rfl ?_
  refine r_getR d_Disc_swapReaders_20 f_Disc_15 kd_3 rfl lk_3_1 ?_
  refine r_iload_n d_Disc_swapReaders_23 rfl ?_
  refine r_iload_n d_Disc_swapReaders_24 rfl ?_
  refine r_iast d_Disc_swapReaders_25 ce_5 ⟨h.1, ?_⟩
  have h := h.2
  refine r_aload_n d_Disc_swapReaders_26 rfl ?_
  refine r_getR d_Disc_swapReaders_27 f_Disc_19 kd_3 rfl lk_3_2 ?_
  refine r_iload_n d_Disc_swapReaders_30 rfl ?_
  refine r_iald d_Disc_swapReaders_31 ce_6 ⟨h.1, ?_⟩
  have h := h.2
  refine r_istore (vs' := [.ref 3, .int x1, .int x2, .int (σ.1 5 (Int32.toNatClampNeg x1)), .int (σ.1 6 (Int32.toNatClampNeg x1))]) d_Disc_swapReaders_32 rfl rfl ?_
  refine r_aload_n d_Disc_swapReaders_34 rfl ?_
  refine r_getR d_Disc_swapReaders_35 f_Disc_19 kd_3 rfl lk_3_2 ?_
  refine r_iload_n d_Disc_swapReaders_38 rfl ?_
  refine r_aload_n d_Disc_swapReaders_39 rfl ?_
  refine r_getR d_Disc_swapReaders_40 f_Disc_19 kd_3 rfl lk_3_2 ?_
  refine r_iload_n d_Disc_swapReaders_43 rfl ?_
  refine r_iald d_Disc_swapReaders_44 ce_6 ⟨h.1, ?_⟩
  have h := h.2
  refine r_iast d_Disc_swapReaders_45 ce_6 ⟨h.1, ?_⟩
  have h := h.2
  refine r_aload_n d_Disc_swapReaders_46 rfl ?_
  refine r_getR d_Disc_swapReaders_47 f_Disc_19 kd_3 rfl lk_3_2 ?_
  refine r_iload_n d_Disc_swapReaders_50 rfl ?_
  refine r_iload d_Disc_swapReaders_51 rfl ?_
  refine r_iast d_Disc_swapReaders_53 ce_6 ⟨h.1, ?_⟩
  have h := h.2
  exact r_vret d_Disc_swapReaders_54 h
def w_WD_swap (x1 : Int32) (x2 : Int32) (σ : am_S) (K : Int32 → am_S → Prop) : Prop := (w_Disc_hasReader x1 σ (fun r1 τ1 => (am_ite (r1 = (nI 0)) (w_WD_deny (nI 1) τ1 (fun r3 τ3 => ((r3 = nI 0 ∨ r3 = nI 1) ∧ K r3 τ3))) (w_Disc_hasReader x2 τ1 (fun r4 τ4 => (am_ite (¬ r4 = (nI 0)) (w_WD_beginChange  τ4 (fun τ6 => (w_Disc_swapReaders x1 x2 τ6 (fun τ7 => (w_WD_grant (nI 1) τ7 (fun r8 τ8 => ((r8 = nI 0 ∨ r8 = nI 1) ∧ K r8 τ8))))))) (w_WD_deny (nI 1) τ4 (fun r9 τ9 => ((r9 = nI 0 ∨ r9 = nI 1) ∧ K r9 τ9)))))))))
theorem t_WD_swap {d : Nat} {x1 : Int32} {x2 : Int32}  {σ : am_S} {K : Int32 → am_S → Prop} (h : w_WD_swap x1 x2 σ K) : am_run (d + 4) y_WD_swap [.ref 0, .int x1, .int x2] σ (am_Ri K) := by
  unfold w_WD_swap at h
  refine am_begin (vs := [.ref 0, .int x1, .int x2]) c_WD_swap (by decide +kernel) rfl rfl rfl rfl ?_
  refine r_aload_n d_WD_swap_0 rfl ?_
  refine r_getR d_WD_swap_1 f_WD_19 kd_0 rfl lk_0_1 ?_
  refine r_iload_n d_WD_swap_4 rfl ?_
  refine r_virtI [.int x1] [] d_WD_swap_5 v_WD_159 rfl rfl cn_3 rfl (t_Disc_hasReader h) (fun r1 τ1 h => ?_)
  refine r_if2 22 (r1 = (nI 0)) d_WD_swap_8 (by decide) rfl (fun c2 => ?_) (fun c2 => ?_)
  · have h := h.1 c2
    refine r_aload_n d_WD_swap_22 rfl ?_
    refine r_iconst (nI 1) d_WD_swap_23 (by decide) ?_
    refine r_virtI [.int (nI 1)] [] d_WD_swap_24 v_WD_102 rfl rfl cn_0 rfl (t_WD_deny h) (fun r3 τ3 h => ?_)
    exact r_zret d_WD_swap_27 h
  · have h := h.2 c2
    refine r_aload_n d_WD_swap_11 rfl ?_
    refine r_getR d_WD_swap_12 f_WD_19 kd_0 rfl lk_0_1 ?_
    refine r_iload_n d_WD_swap_15 rfl ?_
    refine r_virtI [.int x2] [] d_WD_swap_16 v_WD_159 rfl rfl cn_3 rfl (t_Disc_hasReader h) (fun r4 τ4 h => ?_)
    refine r_if2 28 (¬ r4 = (nI 0)) d_WD_swap_19 (by decide) rfl (fun c5 => ?_) (fun c5 => ?_)
    · have h := h.1 c5
      refine r_aload_n d_WD_swap_28 rfl ?_
      refine r_virtV [] [] d_WD_swap_29 v_WD_116 rfl rfl cn_0 rfl (t_WD_beginChange h) (fun τ6 h => ?_)
      refine r_aload_n d_WD_swap_32 rfl ?_
      refine r_getR d_WD_swap_33 f_WD_19 kd_0 rfl lk_0_1 ?_
      refine r_iload_n d_WD_swap_36 rfl ?_
      refine r_iload_n d_WD_swap_37 rfl ?_
      refine r_virtV [.int x1, .int x2] [] d_WD_swap_38 v_WD_176 rfl rfl cn_3 rfl (t_Disc_swapReaders h) (fun τ7 h => ?_)
      refine r_aload_n d_WD_swap_41 rfl ?_
      refine r_iconst (nI 1) d_WD_swap_42 (by decide) ?_
      refine r_virtI [.int (nI 1)] [] d_WD_swap_43 v_WD_112 rfl rfl cn_0 rfl (t_WD_grant h) (fun r8 τ8 h => ?_)
      exact r_zret d_WD_swap_46 h
    · have h := h.2 c5
      refine r_aload_n d_WD_swap_22 rfl ?_
      refine r_iconst (nI 1) d_WD_swap_23 (by decide) ?_
      refine r_virtI [.int (nI 1)] [] d_WD_swap_24 v_WD_102 rfl rfl cn_0 rfl (t_WD_deny h) (fun r9 τ9 h => ?_)
      exact r_zret d_WD_swap_27 h
def w_Hist_takeBack  (σ : am_S) (K : am_S → Prop) : Prop := (am_ite (¬ (σ.1 7 2) = (nI 0)) (w_WD_stepRound (σ.1 7 1) (-1) (nI 30) σ (fun r2 τ2 => (vp_in r2 30 ∧ (w_Disc_become (a := 3) (b := (33 + 4 * (Int32.toNatClampNeg r2)))  (am_upI (am_upI τ2 7 1 r2) 7 2 ((τ2.1 7 2) - (nI 1))) (fun τ4 => K τ4))))) (K σ))
theorem t_Hist_takeBack {d : Nat}   {σ : am_S} {K : am_S → Prop} (h : w_Hist_takeBack  σ K) : am_run (d + 2) y_Hist_takeBack [.ref 7, .ref 3] σ (am_Rv K) := by
  unfold w_Hist_takeBack at h
  refine am_begin (vs := [.ref 7, .ref 3]) c_Hist_takeBack (by decide +kernel) rfl rfl rfl rfl ?_
  refine r_aload_n d_Hist_takeBack_0 rfl ?_
  refine r_getI d_Hist_takeBack_1 f_Hist_19 kd_7 rfl ?_
  refine r_if2 8 (¬ (σ.1 7 2) = (nI 0)) d_Hist_takeBack_4 (by decide) rfl (fun c1 => ?_) (fun c1 => ?_)
  · have h := h.1 c1
    refine r_aload_n d_Hist_takeBack_8 rfl ?_
    refine r_aload_n d_Hist_takeBack_9 rfl ?_
    refine r_getI d_Hist_takeBack_10 f_Hist_15 kd_7 rfl ?_
    refine r_iconst (-1) d_Hist_takeBack_13 (by decide) ?_
    refine r_bipush (nI 30) d_Hist_takeBack_14 (by decide) ?_
    refine r_statI [.int (σ.1 7 1), .int (-1), .int (nI 30)] [.ref 7] d_Hist_takeBack_16 s_Hist_27 rfl rfl rfl (t_WD_stepRound h) (fun r2 τ2 h => ?_)
    refine r_putI d_Hist_takeBack_19 f_Hist_15 kd_7 rfl ?_
    refine r_aload_n d_Hist_takeBack_22 rfl ?_
    refine r_dup d_Hist_takeBack_23 rfl ?_
    refine r_getI d_Hist_takeBack_24 f_Hist_19 kd_7 rfl ?_
    refine r_iconst (nI 1) d_Hist_takeBack_27 (by decide) ?_
    refine r_isub d_Hist_takeBack_28 ?_
    refine r_putI d_Hist_takeBack_29 f_Hist_19 kd_7 rfl ?_
    refine r_aload_n d_Hist_takeBack_32 rfl ?_
    refine r_aload_n d_Hist_takeBack_33 rfl ?_
    refine r_getR d_Hist_takeBack_34 f_Hist_11 kd_7 rfl lk_7_0 ?_
    refine r_aload_n d_Hist_takeBack_37 rfl ?_
    refine r_getI d_Hist_takeBack_38 f_Hist_15 kd_7 rfl ?_
    refine r_aald d_Hist_takeBack_41 ⟨h.1, ?_⟩
    have hr3 := h.1
    have h := h.2
    refine r_virtV [.ref (33 + 4 * (Int32.toNatClampNeg r2))] [] d_Hist_takeBack_42 v_Hist_23 rfl rfl cn_3 rfl (t_Disc_become am_isD_3 (am_isD_ring hr3) h) (fun τ4 h => ?_)
    exact r_vret d_Hist_takeBack_45 h
  · have h := h.2 c1
    exact r_vret d_Hist_takeBack_7 h
def w_WD_undo  (σ : am_S) (K : Int32 → am_S → Prop) : Prop := (am_ite (¬ (σ.1 7 2) = (nI 0)) (w_Hist_takeBack  σ (fun τ2 => (w_WD_outdate  τ2 (fun τ3 => (w_WD_accept (τ3.1 7 2) τ3 (fun r4 τ4 => K r4 τ4)))))) (w_WD_refuse (nI 2) σ (fun r5 τ5 => K r5 τ5)))
theorem t_WD_undo {d : Nat}   {σ : am_S} {K : Int32 → am_S → Prop} (h : w_WD_undo  σ K) : am_run (d + 3) y_WD_undo [.ref 0] σ (am_Ri K) := by
  unfold w_WD_undo at h
  refine am_begin (vs := [.ref 0]) c_WD_undo (by decide +kernel) rfl rfl rfl rfl ?_
  refine r_aload_n d_WD_undo_0 rfl ?_
  refine r_getR d_WD_undo_1 f_WD_26 kd_0 rfl lk_0_2 ?_
  refine r_getI d_WD_undo_4 f_WD_179 kd_7 rfl ?_
  refine r_if2 16 (¬ (σ.1 7 2) = (nI 0)) d_WD_undo_7 (by decide) rfl (fun c1 => ?_) (fun c1 => ?_)
  · have h := h.1 c1
    refine r_aload_n d_WD_undo_16 rfl ?_
    refine r_getR d_WD_undo_17 f_WD_26 kd_0 rfl lk_0_2 ?_
    refine r_aload_n d_WD_undo_20 rfl ?_
    refine r_getR d_WD_undo_21 f_WD_19 kd_0 rfl lk_0_1 ?_
    refine r_virtV [.ref 3] [] d_WD_undo_24 v_WD_180 rfl rfl cn_7 rfl (t_Hist_takeBack h) (fun τ2 h => ?_)
    refine r_aload_n d_WD_undo_27 rfl ?_
    refine r_virtV [] [] d_WD_undo_28 v_WD_184 rfl rfl cn_0 rfl (t_WD_outdate h) (fun τ3 h => ?_)
    refine r_aload_n d_WD_undo_31 rfl ?_
    refine r_aload_n d_WD_undo_32 rfl ?_
    refine r_getR d_WD_undo_33 f_WD_26 kd_0 rfl lk_0_2 ?_
    refine r_getI d_WD_undo_36 f_WD_179 kd_7 rfl ?_
    refine r_virtI [.int (τ3.1 7 2)] [] d_WD_undo_39 v_WD_91 rfl rfl cn_0 rfl (t_WD_accept h) (fun r4 τ4 h => ?_)
    exact r_iret d_WD_undo_42 h
  · have h := h.2 c1
    refine r_aload_n d_WD_undo_10 rfl ?_
    refine r_iconst (nI 2) d_WD_undo_11 (by decide) ?_
    refine r_virtI [.int (nI 2)] [] d_WD_undo_12 v_WD_95 rfl rfl cn_0 rfl (t_WD_refuse h) (fun r5 τ5 h => ?_)
    exact r_iret d_WD_undo_15 h
abbrev R_Disc_wordOf (d : Nat) (K : Int32 → am_S → Prop) (pc : Nat) (vs st : List Value) (σ : am_S) : Prop := am_r (am_run (d + 2)) "WheelDisc$Disc" (some .int) prog_2_method_17_code (am_Ri K) pc vs st σ
def w_Disc_wordOf (x1 : Int32) (σ : am_S) (K : Int32 → am_S → Prop) : Prop := ∀ d : Nat, am_run (d + 3) y_Disc_wordOf [.ref 3, .int x1] σ (am_Ri K)
theorem t_Disc_wordOf {d : Nat} {x1 : Int32}  {σ : am_S} {K : Int32 → am_S → Prop} (h : w_Disc_wordOf x1 σ K) : am_run (d + 3) y_Disc_wordOf [.ref 3, .int x1] σ (am_Ri K) := h d
theorem e_Disc_wordOf {x1 : Int32}  {σ : am_S} {K : Int32 → am_S → Prop} (h : ∀ d : Nat, R_Disc_wordOf d K 4 [.ref 3, .int x1, .int (nI 0), .int (nI 0), .null] [] σ) : w_Disc_wordOf x1 σ K := by
  intro d
  have h := h d
  refine am_begin (vs := [.ref 3, .int x1, .null, .null, .null]) c_Disc_wordOf (by decide +kernel) rfl rfl rfl rfl ?_
  refine r_iconst (nI 0) d_Disc_wordOf_0 (by decide) ?_
  refine r_istore_n (vs' := [.ref 3, .int x1, .int (nI 0), .null, .null]) d_Disc_wordOf_1 rfl rfl ?_
  refine r_iconst (nI 0) d_Disc_wordOf_2 (by decide) ?_
  refine r_istore_n (vs' := [.ref 3, .int x1, .int (nI 0), .int (nI 0), .null]) d_Disc_wordOf_3 rfl rfl ?_
  exact h
theorem l_Disc_wordOf_4 {d : Nat}  {x1 : Int32} {x2 : Int32} {x3 : Int32}  {σ : am_S} {K : Int32 → am_S → Prop} (h : (am_ite ((σ.1 3 5) ≤ x3) (K x2 σ) (vp_in x3 10 ∧ (am_ite ((x1 + (σ.1 6 (Int32.toNatClampNeg x3))) < (σ.1 3 3)) (vp_in x3 10 ∧ (w_Disc_isLight (σ.1 5 (Int32.toNatClampNeg x3)) (x1 + (σ.1 6 (Int32.toNatClampNeg x3))) σ (fun r3 τ3 => (am_ite (r3 = (nI 0)) (R_Disc_wordOf d K 4 [.ref 3, .int x1, .int ((x2 <<< ((nI 1) &&& 31)) ||| (nI 0)), .int (x3 + nI 1), .null] [] τ3) (R_Disc_wordOf d K 4 [.ref 3, .int x1, .int ((x2 <<< ((nI 1) &&& 31)) ||| (nI 1)), .int (x3 + nI 1), .null] [] τ3))))) (vp_in x3 10 ∧ (w_Disc_isLight (σ.1 5 (Int32.toNatClampNeg x3)) ((x1 + (σ.1 6 (Int32.toNatClampNeg x3))) - (σ.1 3 3)) σ (fun r5 τ5 => (am_ite (r5 = (nI 0)) (R_Disc_wordOf d K 4 [.ref 3, .int x1, .int ((x2 <<< ((nI 1) &&& 31)) ||| (nI 0)), .int (x3 + nI 1), .null] [] τ5) (R_Disc_wordOf d K 4 [.ref 3, .int x1, .int ((x2 <<< ((nI 1) &&& 31)) ||| (nI 1)), .int (x3 + nI 1), .null] [] τ5))))))))) : R_Disc_wordOf d K 4 [.ref 3, .int x1, .int x2, .int x3, .null] [] σ := by
  refine r_iload_n d_Disc_wordOf_4 rfl ?_
  refine r_aload_n d_Disc_wordOf_5 rfl ?_
  refine r_getI d_Disc_wordOf_6 f_Disc_29 kd_3 rfl ?_
  refine r_icmp2 71 ((σ.1 3 5) ≤ x3) d_Disc_wordOf_9 (by decide) rfl (fun c1 => ?_) (fun c1 => ?_)
  · have h := h.1 c1
    refine r_iload_n d_Disc_wordOf_71 rfl ?_
    exact r_iret d_Disc_wordOf_72 h
  · have h := h.2 c1
    refine r_iload_n d_Disc_wordOf_12 rfl ?_
    refine r_aload_n d_Disc_wordOf_13 rfl ?_
    refine r_getR d_Disc_wordOf_14 f_Disc_19 kd_3 rfl lk_3_2 ?_
    refine r_iload_n d_Disc_wordOf_17 rfl ?_
    refine r_iald d_Disc_wordOf_18 ce_6 ⟨h.1, ?_⟩
    have h := h.2
    refine r_iadd d_Disc_wordOf_19 ?_
    refine r_istore (vs' := [.ref 3, .int x1, .int x2, .int x3, .int (x1 + (σ.1 6 (Int32.toNatClampNeg x3)))]) d_Disc_wordOf_20 rfl rfl ?_
    refine r_iload d_Disc_wordOf_22 rfl ?_
    refine r_aload_n d_Disc_wordOf_24 rfl ?_
    refine r_getI d_Disc_wordOf_25 f_Disc_22 kd_3 rfl ?_
    refine r_icmp2 40 ((x1 + (σ.1 6 (Int32.toNatClampNeg x3))) < (σ.1 3 3)) d_Disc_wordOf_28 (by decide) rfl (fun c2 => ?_) (fun c2 => ?_)
    · have h := h.1 c2
      refine r_iload_n d_Disc_wordOf_40 rfl ?_
      refine r_iconst (nI 1) d_Disc_wordOf_41 (by decide) ?_
      refine r_ishl d_Disc_wordOf_42 ?_
      refine r_aload_n d_Disc_wordOf_43 rfl ?_
      refine r_aload_n d_Disc_wordOf_44 rfl ?_
      refine r_getR d_Disc_wordOf_45 f_Disc_15 kd_3 rfl lk_3_1 ?_
      refine r_iload_n d_Disc_wordOf_48 rfl ?_
      refine r_iald d_Disc_wordOf_49 ce_5 ⟨h.1, ?_⟩
      have h := h.2
      refine r_iload d_Disc_wordOf_50 rfl ?_
      refine r_virtI [.int (σ.1 5 (Int32.toNatClampNeg x3)), .int (x1 + (σ.1 6 (Int32.toNatClampNeg x3)))] [.int (x2 <<< ((nI 1) &&& 31))] d_Disc_wordOf_52 v_Disc_68 rfl rfl cn_3 rfl (t_Disc_isLight h) (fun r3 τ3 h => ?_)
      refine r_if2 62 (r3 = (nI 0)) d_Disc_wordOf_55 (by decide) rfl (fun c4 => ?_) (fun c4 => ?_)
      · have h := h.1 c4
        refine r_iconst (nI 0) d_Disc_wordOf_62 (by decide) ?_
        refine r_ior d_Disc_wordOf_63 ?_
        refine r_istore_n (vs' := [.ref 3, .int x1, .int ((x2 <<< ((nI 1) &&& 31)) ||| (nI 0)), .int x3, .int (x1 + (σ.1 6 (Int32.toNatClampNeg x3)))]) d_Disc_wordOf_64 rfl rfl ?_
        refine r_inc1 (vs' := [.ref 3, .int x1, .int ((x2 <<< ((nI 1) &&& 31)) ||| (nI 0)), .int (x3 + nI 1), .int (x1 + (σ.1 6 (Int32.toNatClampNeg x3)))]) d_Disc_wordOf_65 rfl rfl rfl ?_
        refine r_goto 4 d_Disc_wordOf_68 (by decide) ?_
        exact am_weak (vs := [.ref 3, .int x1, .int ((x2 <<< ((nI 1) &&& 31)) ||| (nI 0)), .int (x3 + nI 1), .null]) ⟨Or.inl rfl, Or.inl rfl, Or.inl rfl, Or.inl rfl, Or.inr ⟨rfl, rfl⟩, trivial⟩ h
      · have h := h.2 c4
        refine r_iconst (nI 1) d_Disc_wordOf_58 (by decide) ?_
        refine r_goto 63 d_Disc_wordOf_59 (by decide) ?_
        refine r_ior d_Disc_wordOf_63 ?_
        refine r_istore_n (vs' := [.ref 3, .int x1, .int ((x2 <<< ((nI 1) &&& 31)) ||| (nI 1)), .int x3, .int (x1 + (σ.1 6 (Int32.toNatClampNeg x3)))]) d_Disc_wordOf_64 rfl rfl ?_
        refine r_inc1 (vs' := [.ref 3, .int x1, .int ((x2 <<< ((nI 1) &&& 31)) ||| (nI 1)), .int (x3 + nI 1), .int (x1 + (σ.1 6 (Int32.toNatClampNeg x3)))]) d_Disc_wordOf_65 rfl rfl rfl ?_
        refine r_goto 4 d_Disc_wordOf_68 (by decide) ?_
        exact am_weak (vs := [.ref 3, .int x1, .int ((x2 <<< ((nI 1) &&& 31)) ||| (nI 1)), .int (x3 + nI 1), .null]) ⟨Or.inl rfl, Or.inl rfl, Or.inl rfl, Or.inl rfl, Or.inr ⟨rfl, rfl⟩, trivial⟩ h
    · have h := h.2 c2
      refine r_iload d_Disc_wordOf_31 rfl ?_
      refine r_aload_n d_Disc_wordOf_33 rfl ?_
      refine r_getI d_Disc_wordOf_34 f_Disc_22 kd_3 rfl ?_
      refine r_isub d_Disc_wordOf_37 ?_
      refine r_istore (vs' := [.ref 3, .int x1, .int x2, .int x3, .int ((x1 + (σ.1 6 (Int32.toNatClampNeg x3))) - (σ.1 3 3))]) d_Disc_wordOf_38 rfl rfl ?_
      refine r_iload_n d_Disc_wordOf_40 rfl ?_
      refine r_iconst (nI 1) d_Disc_wordOf_41 (by decide) ?_
      refine r_ishl d_Disc_wordOf_42 ?_
      refine r_aload_n d_Disc_wordOf_43 rfl ?_
      refine r_aload_n d_Disc_wordOf_44 rfl ?_
      refine r_getR d_Disc_wordOf_45 f_Disc_15 kd_3 rfl lk_3_1 ?_
      refine r_iload_n d_Disc_wordOf_48 rfl ?_
      refine r_iald d_Disc_wordOf_49 ce_5 ⟨h.1, ?_⟩
      have h := h.2
      refine r_iload d_Disc_wordOf_50 rfl ?_
      refine r_virtI [.int (σ.1 5 (Int32.toNatClampNeg x3)), .int ((x1 + (σ.1 6 (Int32.toNatClampNeg x3))) - (σ.1 3 3))] [.int (x2 <<< ((nI 1) &&& 31))] d_Disc_wordOf_52 v_Disc_68 rfl rfl cn_3 rfl (t_Disc_isLight h) (fun r5 τ5 h => ?_)
      refine r_if2 62 (r5 = (nI 0)) d_Disc_wordOf_55 (by decide) rfl (fun c6 => ?_) (fun c6 => ?_)
      · have h := h.1 c6
        refine r_iconst (nI 0) d_Disc_wordOf_62 (by decide) ?_
        refine r_ior d_Disc_wordOf_63 ?_
        refine r_istore_n (vs' := [.ref 3, .int x1, .int ((x2 <<< ((nI 1) &&& 31)) ||| (nI 0)), .int x3, .int ((x1 + (σ.1 6 (Int32.toNatClampNeg x3))) - (σ.1 3 3))]) d_Disc_wordOf_64 rfl rfl ?_
        refine r_inc1 (vs' := [.ref 3, .int x1, .int ((x2 <<< ((nI 1) &&& 31)) ||| (nI 0)), .int (x3 + nI 1), .int ((x1 + (σ.1 6 (Int32.toNatClampNeg x3))) - (σ.1 3 3))]) d_Disc_wordOf_65 rfl rfl rfl ?_
        refine r_goto 4 d_Disc_wordOf_68 (by decide) ?_
        exact am_weak (vs := [.ref 3, .int x1, .int ((x2 <<< ((nI 1) &&& 31)) ||| (nI 0)), .int (x3 + nI 1), .null]) ⟨Or.inl rfl, Or.inl rfl, Or.inl rfl, Or.inl rfl, Or.inr ⟨rfl, rfl⟩, trivial⟩ h
      · have h := h.2 c6
        refine r_iconst (nI 1) d_Disc_wordOf_58 (by decide) ?_
        refine r_goto 63 d_Disc_wordOf_59 (by decide) ?_
        refine r_ior d_Disc_wordOf_63 ?_
        refine r_istore_n (vs' := [.ref 3, .int x1, .int ((x2 <<< ((nI 1) &&& 31)) ||| (nI 1)), .int x3, .int ((x1 + (σ.1 6 (Int32.toNatClampNeg x3))) - (σ.1 3 3))]) d_Disc_wordOf_64 rfl rfl ?_
        refine r_inc1 (vs' := [.ref 3, .int x1, .int ((x2 <<< ((nI 1) &&& 31)) ||| (nI 1)), .int (x3 + nI 1), .int ((x1 + (σ.1 6 (Int32.toNatClampNeg x3))) - (σ.1 3 3))]) d_Disc_wordOf_65 rfl rfl rfl ?_
        refine r_goto 4 d_Disc_wordOf_68 (by decide) ?_
        exact am_weak (vs := [.ref 3, .int x1, .int ((x2 <<< ((nI 1) &&& 31)) ||| (nI 1)), .int (x3 + nI 1), .null]) ⟨Or.inl rfl, Or.inl rfl, Or.inl rfl, Or.inl rfl, Or.inr ⟨rfl, rfl⟩, trivial⟩ h
abbrev R_View_look (d : Nat) (K : am_S → Prop) (pc : Nat) (vs st : List Value) (σ : am_S) : Prop := am_r (am_run (d + 3)) "WheelDisc$View" none prog_10_method_2_code (am_Rv K) pc vs st σ
def w_View_look  (σ : am_S) (K : am_S → Prop) : Prop := ∀ d : Nat, am_run (d + 4) y_View_look [.ref 9, .ref 3] σ (am_Rv K)
theorem t_View_look {d : Nat}   {σ : am_S} {K : am_S → Prop} (h : w_View_look  σ K) : am_run (d + 4) y_View_look [.ref 9, .ref 3] σ (am_Rv K) := h d
theorem e_View_look   {σ : am_S} {K : am_S → Prop} (h : ∀ d : Nat, (am_ite (¬ (σ.1 9 4) = (nI 0)) (R_View_look d K 26 [.ref 9, .ref 3, .int (nI 0)] [] (am_upI (am_upI σ 9 2 (σ.1 3 3)) 9 3 (σ.1 3 5))) (K σ))) : w_View_look  σ K := by
  intro d
  have h := h d
  refine am_begin (vs := [.ref 9, .ref 3, .null]) c_View_look (by decide +kernel) rfl rfl rfl rfl ?_
  refine r_aload_n d_View_look_0 rfl ?_
  refine r_getI d_View_look_1 f_View_29 kd_9 rfl ?_
  refine r_if2 8 (¬ (σ.1 9 4) = (nI 0)) d_View_look_4 (by decide) rfl (fun c1 => ?_) (fun c1 => ?_)
  · have h := h.1 c1
    refine r_aload_n d_View_look_8 rfl ?_
    refine r_aload_n d_View_look_9 rfl ?_
    refine r_getI d_View_look_10 f_View_33 kd_3 rfl ?_
    refine r_putI d_View_look_13 f_View_22 kd_9 rfl ?_
    refine r_aload_n d_View_look_16 rfl ?_
    refine r_aload_n d_View_look_17 rfl ?_
    refine r_getI d_View_look_18 f_View_36 kd_3 rfl ?_
    refine r_putI d_View_look_21 f_View_26 kd_9 rfl ?_
    refine r_iconst (nI 0) d_View_look_24 (by decide) ?_
    refine r_istore_n (vs' := [.ref 9, .ref 3, .int (nI 0)]) d_View_look_25 rfl rfl ?_
    exact h
  · have h := h.2 c1
    exact r_vret d_View_look_7 h
theorem l_View_look_26 {d : Nat}  {x2 : Int32}  {σ : am_S} {K : am_S → Prop} (h : (am_ite ((σ.1 9 2) ≤ x2) (K (am_upI σ 9 4 (nI 0))) (w_Disc_wordOf x2 σ (fun r3 τ3 => (vp_in x2 512 ∧ R_View_look d K 26 [.ref 9, .ref 3, .int (x2 + nI 1)] [] (am_upI τ3 10 (Int32.toNatClampNeg x2) r3)))))) : R_View_look d K 26 [.ref 9, .ref 3, .int x2] [] σ := by
  refine r_iload_n d_View_look_26 rfl ?_
  refine r_aload_n d_View_look_27 rfl ?_
  refine r_getI d_View_look_28 f_View_22 kd_9 rfl ?_
  refine r_icmp2 51 ((σ.1 9 2) ≤ x2) d_View_look_31 (by decide) rfl (fun c2 => ?_) (fun c2 => ?_)
  · have h := h.1 c2
    refine r_aload_n d_View_look_51 rfl ?_
    refine r_iconst (nI 0) d_View_look_52 (by decide) ?_
    refine r_putZ d_View_look_53 f_View_29 kd_9 rfl ⟨Or.inl rfl, ?_⟩
    exact r_vret d_View_look_56 h
  · have h := h.2 c2
    refine r_aload_n d_View_look_34 rfl ?_
    refine r_getR d_View_look_35 f_View_9 kd_9 rfl lk_9_0 ?_
    refine r_iload_n d_View_look_38 rfl ?_
    refine r_aload_n d_View_look_39 rfl ?_
    refine r_iload_n d_View_look_40 rfl ?_
    refine r_virtI [.int x2] [.int x2, .ref 10] d_View_look_41 v_View_37 rfl rfl cn_3 rfl (t_Disc_wordOf h) (fun r3 τ3 h => ?_)
    refine r_iast d_View_look_44 ce_10 ⟨h.1, ?_⟩
    have h := h.2
    refine r_inc1 (vs' := [.ref 9, .ref 3, .int (x2 + nI 1)]) d_View_look_45 rfl rfl rfl ?_
    refine r_goto 26 d_View_look_48 (by decide) ?_
    exact h
def w_WD_lookedAt  (σ : am_S) (K : am_S → Prop) : Prop := (w_View_look  σ (fun τ1 => K τ1))
theorem t_WD_lookedAt {d : Nat}   {σ : am_S} {K : am_S → Prop} (h : w_WD_lookedAt  σ K) : am_run (d + 5) y_WD_lookedAt [.ref 0] σ (am_Rr 9 K) := by
  unfold w_WD_lookedAt at h
  refine am_begin (vs := [.ref 0]) c_WD_lookedAt (by decide +kernel) rfl rfl rfl rfl ?_
  refine r_aload_n d_WD_lookedAt_0 rfl ?_
  refine r_getR d_WD_lookedAt_1 f_WD_33 kd_0 rfl lk_0_3 ?_
  refine r_aload_n d_WD_lookedAt_4 rfl ?_
  refine r_getR d_WD_lookedAt_5 f_WD_19 kd_0 rfl lk_0_1 ?_
  refine r_virtV [.ref 3] [] d_WD_lookedAt_8 v_WD_318 rfl rfl cn_9 rfl (t_View_look h) (fun τ1 h => ?_)
  refine r_aload_n d_WD_lookedAt_11 rfl ?_
  refine r_getR d_WD_lookedAt_12 f_WD_33 kd_0 rfl lk_0_3 ?_
  exact r_aret d_WD_lookedAt_15 h
def w_View_allReaders  (σ : am_S) (K : Int32 → am_S → Prop) : Prop := K (((nI 1) <<< ((σ.1 9 3) &&& 31)) - (nI 1)) σ
theorem t_View_allReaders {d : Nat}   {σ : am_S} {K : Int32 → am_S → Prop} (h : w_View_allReaders  σ K) : am_run (d + 1) y_View_allReaders [.ref 9] σ (am_Ri K) := by
  unfold w_View_allReaders at h
  refine am_begin (vs := [.ref 9]) c_View_allReaders (by decide +kernel) rfl rfl rfl rfl ?_
  refine r_iconst (nI 1) d_View_allReaders_0 (by decide) ?_
  refine r_aload_n d_View_allReaders_1 rfl ?_
  refine r_getI d_View_allReaders_2 f_View_26 kd_9 rfl ?_
  refine r_ishl d_View_allReaders_5 ?_
  refine r_iconst (nI 1) d_View_allReaders_6 (by decide) ?_
  refine r_isub d_View_allReaders_7 ?_
  exact r_iret d_View_allReaders_8 h
def w_Marks_wipe_11  (σ : am_S) (K : am_S → Prop) : Prop := (w_Arr_fillJ (k := 12) (nk := 16) (0) σ (fun τ1 => K τ1))
theorem t_Marks_wipe_11 {d : Nat}   {σ : am_S} {K : am_S → Prop} (h : w_Marks_wipe_11  σ K) : am_run (d + 2) y_Marks_wipe [.ref 11] σ (am_Rv K) := by
  unfold w_Marks_wipe_11 at h
  refine am_begin (vs := [.ref 11]) c_Marks_wipe (by decide +kernel) rfl rfl rfl rfl ?_
  refine r_aload_n d_Marks_wipe_0 rfl ?_
  refine r_getR d_Marks_wipe_1 f_Marks_9 kd_11 rfl lk_11_0 ?_
  refine r_lconst (0) d_Marks_wipe_4 (by decide) ?_
  refine r_statV [.ref 12, .long (0)] [] d_Marks_wipe_5 s_Marks_15 rfl rfl rfl (t_Arr_fillJ ce_12 h) (fun τ1 h => ?_)
  exact r_vret d_Marks_wipe_8 h
def w_Marks_has_11 (x1 : Int32) (σ : am_S) (K : Int32 → am_S → Prop) : Prop := (w_WD_isSet (k := 12) (nk := 16) (nI 0) x1 σ (fun r1 τ1 => ((r1 = nI 0 ∨ r1 = nI 1) ∧ K r1 τ1)))
theorem t_Marks_has_11 {d : Nat} {x1 : Int32}  {σ : am_S} {K : Int32 → am_S → Prop} (h : w_Marks_has_11 x1 σ K) : am_run (d + 2) y_Marks_has [.ref 11, .int x1] σ (am_Ri K) := by
  unfold w_Marks_has_11 at h
  refine am_begin (vs := [.ref 11, .int x1]) c_Marks_has (by decide +kernel) rfl rfl rfl rfl ?_
  refine r_aload_n d_Marks_has_0 rfl ?_
  refine r_getR d_Marks_has_1 f_Marks_9 kd_11 rfl lk_11_0 ?_
  refine r_iconst (nI 0) d_Marks_has_4 (by decide) ?_
  refine r_iload_n d_Marks_has_5 rfl ?_
  refine r_statI [.ref 12, .int (nI 0), .int x1] [] d_Marks_has_6 s_Marks_21 rfl rfl rfl (t_WD_isSet ce_12 h) (fun r1 τ1 h => ?_)
  exact r_zret d_Marks_has_9 h
def w_Marks_add_11 (x1 : Int32) (σ : am_S) (K : am_S → Prop) : Prop := (vp_in (x1 >>> ((nI 6) &&& 31)) 16 ∧ (vp_in (x1 >>> ((nI 6) &&& 31)) 16 ∧ K (am_upJ σ 12 (Int32.toNatClampNeg (x1 >>> ((nI 6) &&& 31))) ((σ.2 12 (Int32.toNatClampNeg (x1 >>> ((nI 6) &&& 31)))) ||| ((1) <<< (Int32.toInt64 (x1 &&& (nI 63)) &&& 63))))))
theorem t_Marks_add_11 {d : Nat} {x1 : Int32}  {σ : am_S} {K : am_S → Prop} (h : w_Marks_add_11 x1 σ K) : am_run (d + 1) y_Marks_add [.ref 11, .int x1] σ (am_Rv K) := by
  unfold w_Marks_add_11 at h
  refine am_begin (vs := [.ref 11, .int x1]) c_Marks_add (by decide +kernel) rfl rfl rfl rfl ?_
  refine r_aload_n d_Marks_add_0 rfl ?_
  refine r_getR d_Marks_add_1 f_Marks_9 kd_11 rfl lk_11_0 ?_
  refine r_iload_n d_Marks_add_4 rfl ?_
  refine r_bipush (nI 6) d_Marks_add_5 (by decide) ?_
  refine r_ishr d_Marks_add_7 ?_
  refine r_dup2 d_Marks_add_8 rfl rfl ?_
  refine r_lald d_Marks_add_9 ce_12 ⟨h.1, ?_⟩
  have h := h.2
  refine r_lconst (1) d_Marks_add_10 (by decide) ?_
  refine r_iload_n d_Marks_add_11 rfl ?_
  refine r_bipush (nI 63) d_Marks_add_12 (by decide) ?_
  refine r_iand d_Marks_add_14 ?_
  refine r_lshl d_Marks_add_15 ?_
  refine r_lor d_Marks_add_16 ?_
  refine r_last d_Marks_add_17 ce_12 ⟨h.1, ?_⟩
  have h := h.2
  exact r_vret d_Marks_add_18 h
abbrev R_View_allUnlike (d : Nat) (K : Int32 → am_S → Prop) (pc : Nat) (vs st : List Value) (σ : am_S) : Prop := am_r (am_run (d + 2)) "WheelDisc$View" (some .boolean) prog_10_method_5_code (am_Ri K) pc vs st σ
def w_View_allUnlike (x1 : Int32) (σ : am_S) (K : Int32 → am_S → Prop) : Prop := ∀ d : Nat, am_run (d + 3) y_View_allUnlike [.ref 9, .int x1] σ (am_Ri K)
theorem t_View_allUnlike {d : Nat} {x1 : Int32}  {σ : am_S} {K : Int32 → am_S → Prop} (h : w_View_allUnlike x1 σ K) : am_run (d + 3) y_View_allUnlike [.ref 9, .int x1] σ (am_Ri K) := h d
theorem e_View_allUnlike {x1 : Int32}  {σ : am_S} {K : Int32 → am_S → Prop} (h : ∀ d : Nat, (w_Marks_wipe_11  σ (fun τ1 => R_View_allUnlike d K 9 [.ref 9, .int x1, .int (nI 0), .null] [] τ1))) : w_View_allUnlike x1 σ K := by
  intro d
  have h := h d
  refine am_begin (vs := [.ref 9, .int x1, .null, .null]) c_View_allUnlike (by decide +kernel) rfl rfl rfl rfl ?_
  refine r_aload_n d_View_allUnlike_0 rfl ?_
  refine r_getR d_View_allUnlike_1 f_View_18 kd_9 rfl lk_9_1 ?_
  refine r_virtV [] [] d_View_allUnlike_4 v_View_59 rfl rfl cn_11 rfl (t_Marks_wipe_11 h) (fun τ1 h => ?_)
  refine r_iconst (nI 0) d_View_allUnlike_7 (by decide) ?_
  refine r_istore_n (vs' := [.ref 9, .int x1, .int (nI 0), .null]) d_View_allUnlike_8 rfl rfl ?_
  exact h
theorem l_View_allUnlike_9 {d : Nat}  {x1 : Int32} {x2 : Int32}  {σ : am_S} {K : Int32 → am_S → Prop} (h : (am_ite ((σ.1 9 2) ≤ x2) (K (nI 1) σ) (vp_in x2 512 ∧ (w_Marks_has_11 ((σ.1 10 (Int32.toNatClampNeg x2)) &&& x1) σ (fun r3 τ3 => (am_ite (r3 = (nI 0)) (w_Marks_add_11 ((σ.1 10 (Int32.toNatClampNeg x2)) &&& x1) τ3 (fun τ5 => R_View_allUnlike d K 9 [.ref 9, .int x1, .int (x2 + nI 1), .null] [] τ5)) (K (nI 0) τ3))))))) : R_View_allUnlike d K 9 [.ref 9, .int x1, .int x2, .null] [] σ := by
  refine r_iload_n d_View_allUnlike_9 rfl ?_
  refine r_aload_n d_View_allUnlike_10 rfl ?_
  refine r_getI d_View_allUnlike_11 f_View_22 kd_9 rfl ?_
  refine r_icmp2 53 ((σ.1 9 2) ≤ x2) d_View_allUnlike_14 (by decide) rfl (fun c2 => ?_) (fun c2 => ?_)
  · have h := h.1 c2
    refine r_iconst (nI 1) d_View_allUnlike_53 (by decide) ?_
    exact r_zret1 d_View_allUnlike_54 h
  · have h := h.2 c2
    refine r_aload_n d_View_allUnlike_17 rfl ?_
    refine r_getR d_View_allUnlike_18 f_View_9 kd_9 rfl lk_9_0 ?_
    refine r_iload_n d_View_allUnlike_21 rfl ?_
    refine r_iald d_View_allUnlike_22 ce_10 ⟨h.1, ?_⟩
    have h := h.2
    refine r_iload_n d_View_allUnlike_23 rfl ?_
    refine r_iand d_View_allUnlike_24 ?_
    refine r_istore_n (vs' := [.ref 9, .int x1, .int x2, .int ((σ.1 10 (Int32.toNatClampNeg x2)) &&& x1)]) d_View_allUnlike_25 rfl rfl ?_
    refine r_aload_n d_View_allUnlike_26 rfl ?_
    refine r_getR d_View_allUnlike_27 f_View_18 kd_9 rfl lk_9_1 ?_
    refine r_iload_n d_View_allUnlike_30 rfl ?_
    refine r_virtI [.int ((σ.1 10 (Int32.toNatClampNeg x2)) &&& x1)] [] d_View_allUnlike_31 v_View_62 rfl rfl cn_11 rfl (t_Marks_has_11 h) (fun r3 τ3 h => ?_)
    refine r_if2 39 (r3 = (nI 0)) d_View_allUnlike_34 (by decide) rfl (fun c4 => ?_) (fun c4 => ?_)
    · have h := h.1 c4
      refine r_aload_n d_View_allUnlike_39 rfl ?_
      refine r_getR d_View_allUnlike_40 f_View_18 kd_9 rfl lk_9_1 ?_
      refine r_iload_n d_View_allUnlike_43 rfl ?_
      refine r_virtV [.int ((σ.1 10 (Int32.toNatClampNeg x2)) &&& x1)] [] d_View_allUnlike_44 v_View_65 rfl rfl cn_11 rfl (t_Marks_add_11 h) (fun τ5 h => ?_)
      refine r_inc1 (vs' := [.ref 9, .int x1, .int (x2 + nI 1), .int ((σ.1 10 (Int32.toNatClampNeg x2)) &&& x1)]) d_View_allUnlike_47 rfl rfl rfl ?_
      refine r_goto 9 d_View_allUnlike_50 (by decide) ?_
      exact am_weak (vs := [.ref 9, .int x1, .int (x2 + nI 1), .null]) ⟨Or.inl rfl, Or.inl rfl, Or.inl rfl, Or.inr ⟨rfl, rfl⟩, trivial⟩ h
    · have h := h.2 c4
      refine r_iconst (nI 0) d_View_allUnlike_37 (by decide) ?_
      exact r_zret0 d_View_allUnlike_38 h
def w_View_unlikeBehind (x1 : Int32) (σ : am_S) (K : Int32 → am_S → Prop) : Prop := (vp_in x1 512 ∧ (w_WD_stepRound x1 (nI 1) (σ.1 9 2) σ (fun r1 τ1 => (vp_in r1 512 ∧ K ((σ.1 10 (Int32.toNatClampNeg x1)) ^^^ (τ1.1 10 (Int32.toNatClampNeg r1))) τ1))))
theorem t_View_unlikeBehind {d : Nat} {x1 : Int32}  {σ : am_S} {K : Int32 → am_S → Prop} (h : w_View_unlikeBehind x1 σ K) : am_run (d + 2) y_View_unlikeBehind [.ref 9, .int x1] σ (am_Ri K) := by
  unfold w_View_unlikeBehind at h
  refine am_begin (vs := [.ref 9, .int x1]) c_View_unlikeBehind (by decide +kernel) rfl rfl rfl rfl ?_
  refine r_aload_n d_View_unlikeBehind_0 rfl ?_
  refine r_getR d_View_unlikeBehind_1 f_View_9 kd_9 rfl lk_9_0 ?_
  refine r_iload_n d_View_unlikeBehind_4 rfl ?_
  refine r_iald d_View_unlikeBehind_5 ce_10 ⟨h.1, ?_⟩
  have h := h.2
  refine r_aload_n d_View_unlikeBehind_6 rfl ?_
  refine r_getR d_View_unlikeBehind_7 f_View_9 kd_9 rfl lk_9_0 ?_
  refine r_iload_n d_View_unlikeBehind_10 rfl ?_
  refine r_iconst (nI 1) d_View_unlikeBehind_11 (by decide) ?_
  refine r_aload_n d_View_unlikeBehind_12 rfl ?_
  refine r_getI d_View_unlikeBehind_13 f_View_22 kd_9 rfl ?_
  refine r_statI [.int x1, .int (nI 1), .int (σ.1 9 2)] [.ref 10, .int (σ.1 10 (Int32.toNatClampNeg x1))] d_View_unlikeBehind_16 s_View_77 rfl rfl rfl (t_WD_stepRound h) (fun r1 τ1 h => ?_)
  refine r_iald d_View_unlikeBehind_19 ce_10 ⟨h.1, ?_⟩
  have h := h.2
  refine r_ixor d_View_unlikeBehind_20 ?_
  exact r_iret d_View_unlikeBehind_21 h
def w_Int_bitCount (x0 : Int32) (σ : am_S) (K : Int32 → am_S → Prop) : Prop := K ((((((((x0 - ((am_ushr x0 (nI 1)) &&& (nI 1431655765))) &&& (nI 858993459)) + ((am_ushr (x0 - ((am_ushr x0 (nI 1)) &&& (nI 1431655765))) (nI 2)) &&& (nI 858993459))) + (am_ushr (((x0 - ((am_ushr x0 (nI 1)) &&& (nI 1431655765))) &&& (nI 858993459)) + ((am_ushr (x0 - ((am_ushr x0 (nI 1)) &&& (nI 1431655765))) (nI 2)) &&& (nI 858993459))) (nI 4))) &&& (nI 252645135)) + (am_ushr (((((x0 - ((am_ushr x0 (nI 1)) &&& (nI 1431655765))) &&& (nI 858993459)) + ((am_ushr (x0 - ((am_ushr x0 (nI 1)) &&& (nI 1431655765))) (nI 2)) &&& (nI 858993459))) + (am_ushr (((x0 - ((am_ushr x0 (nI 1)) &&& (nI 1431655765))) &&& (nI 858993459)) + ((am_ushr (x0 - ((am_ushr x0 (nI 1)) &&& (nI 1431655765))) (nI 2)) &&& (nI 858993459))) (nI 4))) &&& (nI 252645135)) (nI 8))) + (am_ushr ((((((x0 - ((am_ushr x0 (nI 1)) &&& (nI 1431655765))) &&& (nI 858993459)) + ((am_ushr (x0 - ((am_ushr x0 (nI 1)) &&& (nI 1431655765))) (nI 2)) &&& (nI 858993459))) + (am_ushr (((x0 - ((am_ushr x0 (nI 1)) &&& (nI 1431655765))) &&& (nI 858993459)) + ((am_ushr (x0 - ((am_ushr x0 (nI 1)) &&& (nI 1431655765))) (nI 2)) &&& (nI 858993459))) (nI 4))) &&& (nI 252645135)) + (am_ushr (((((x0 - ((am_ushr x0 (nI 1)) &&& (nI 1431655765))) &&& (nI 858993459)) + ((am_ushr (x0 - ((am_ushr x0 (nI 1)) &&& (nI 1431655765))) (nI 2)) &&& (nI 858993459))) + (am_ushr (((x0 - ((am_ushr x0 (nI 1)) &&& (nI 1431655765))) &&& (nI 858993459)) + ((am_ushr (x0 - ((am_ushr x0 (nI 1)) &&& (nI 1431655765))) (nI 2)) &&& (nI 858993459))) (nI 4))) &&& (nI 252645135)) (nI 8))) (nI 16))) &&& (nI 63)) σ
theorem t_Int_bitCount {d : Nat} {x0 : Int32}  {σ : am_S} {K : Int32 → am_S → Prop} (h : w_Int_bitCount x0 σ K) : am_run (d + 1) y_Int_bitCount [.int x0] σ (am_Ri K) := by
  unfold w_Int_bitCount at h
  refine am_begin (vs := [.int x0]) c_Int_bitCount (by decide +kernel) rfl rfl rfl rfl ?_
  refine r_iload_n d_Int_bitCount_0 rfl ?_
  refine r_iload_n d_Int_bitCount_1 rfl ?_
  refine r_iconst (nI 1) d_Int_bitCount_2 (by decide) ?_
  refine r_iushr d_Int_bitCount_3 ?_
  refine r_ldc_w (nI 1431655765) d_Int_bitCount_4 k_Int_265 ?_
  refine r_iand d_Int_bitCount_7 ?_
  refine r_isub d_Int_bitCount_8 ?_
  refine r_istore_n (vs' := [.int (x0 - ((am_ushr x0 (nI 1)) &&& (nI 1431655765)))]) d_Int_bitCount_9 rfl rfl ?_
  refine r_iload_n d_Int_bitCount_10 rfl ?_
  refine r_ldc_w (nI 858993459) d_Int_bitCount_11 k_Int_266 ?_
  refine r_iand d_Int_bitCount_14 ?_
  refine r_iload_n d_Int_bitCount_15 rfl ?_
  refine r_iconst (nI 2) d_Int_bitCount_16 (by decide) ?_
  refine r_iushr d_Int_bitCount_17 ?_
  refine r_ldc_w (nI 858993459) d_Int_bitCount_18 k_Int_266 ?_
  refine r_iand d_Int_bitCount_21 ?_
  refine r_iadd d_Int_bitCount_22 ?_
  refine r_istore_n (vs' := [.int (((x0 - ((am_ushr x0 (nI 1)) &&& (nI 1431655765))) &&& (nI 858993459)) + ((am_ushr (x0 - ((am_ushr x0 (nI 1)) &&& (nI 1431655765))) (nI 2)) &&& (nI 858993459)))]) d_Int_bitCount_23 rfl rfl ?_
  refine r_iload_n d_Int_bitCount_24 rfl ?_
  refine r_iload_n d_Int_bitCount_25 rfl ?_
  refine r_iconst (nI 4) d_Int_bitCount_26 (by decide) ?_
  refine r_iushr d_Int_bitCount_27 ?_
  refine r_iadd d_Int_bitCount_28 ?_
  refine r_ldc_w (nI 252645135) d_Int_bitCount_29 k_Int_267 ?_
  refine r_iand d_Int_bitCount_32 ?_
  refine r_istore_n (vs' := [.int (((((x0 - ((am_ushr x0 (nI 1)) &&& (nI 1431655765))) &&& (nI 858993459)) + ((am_ushr (x0 - ((am_ushr x0 (nI 1)) &&& (nI 1431655765))) (nI 2)) &&& (nI 858993459))) + (am_ushr (((x0 - ((am_ushr x0 (nI 1)) &&& (nI 1431655765))) &&& (nI 858993459)) + ((am_ushr (x0 - ((am_ushr x0 (nI 1)) &&& (nI 1431655765))) (nI 2)) &&& (nI 858993459))) (nI 4))) &&& (nI 252645135))]) d_Int_bitCount_33 rfl rfl ?_
  refine r_iload_n d_Int_bitCount_34 rfl ?_
  refine r_iload_n d_Int_bitCount_35 rfl ?_
  refine r_bipush (nI 8) d_Int_bitCount_36 (by decide) ?_
  refine r_iushr d_Int_bitCount_38 ?_
  refine r_iadd d_Int_bitCount_39 ?_
  refine r_istore_n (vs' := [.int ((((((x0 - ((am_ushr x0 (nI 1)) &&& (nI 1431655765))) &&& (nI 858993459)) + ((am_ushr (x0 - ((am_ushr x0 (nI 1)) &&& (nI 1431655765))) (nI 2)) &&& (nI 858993459))) + (am_ushr (((x0 - ((am_ushr x0 (nI 1)) &&& (nI 1431655765))) &&& (nI 858993459)) + ((am_ushr (x0 - ((am_ushr x0 (nI 1)) &&& (nI 1431655765))) (nI 2)) &&& (nI 858993459))) (nI 4))) &&& (nI 252645135)) + (am_ushr (((((x0 - ((am_ushr x0 (nI 1)) &&& (nI 1431655765))) &&& (nI 858993459)) + ((am_ushr (x0 - ((am_ushr x0 (nI 1)) &&& (nI 1431655765))) (nI 2)) &&& (nI 858993459))) + (am_ushr (((x0 - ((am_ushr x0 (nI 1)) &&& (nI 1431655765))) &&& (nI 858993459)) + ((am_ushr (x0 - ((am_ushr x0 (nI 1)) &&& (nI 1431655765))) (nI 2)) &&& (nI 858993459))) (nI 4))) &&& (nI 252645135)) (nI 8)))]) d_Int_bitCount_40 rfl rfl ?_
  refine r_iload_n d_Int_bitCount_41 rfl ?_
  refine r_iload_n d_Int_bitCount_42 rfl ?_
  refine r_bipush (nI 16) d_Int_bitCount_43 (by decide) ?_
  refine r_iushr d_Int_bitCount_45 ?_
  refine r_iadd d_Int_bitCount_46 ?_
  refine r_istore_n (vs' := [.int (((((((x0 - ((am_ushr x0 (nI 1)) &&& (nI 1431655765))) &&& (nI 858993459)) + ((am_ushr (x0 - ((am_ushr x0 (nI 1)) &&& (nI 1431655765))) (nI 2)) &&& (nI 858993459))) + (am_ushr (((x0 - ((am_ushr x0 (nI 1)) &&& (nI 1431655765))) &&& (nI 858993459)) + ((am_ushr (x0 - ((am_ushr x0 (nI 1)) &&& (nI 1431655765))) (nI 2)) &&& (nI 858993459))) (nI 4))) &&& (nI 252645135)) + (am_ushr (((((x0 - ((am_ushr x0 (nI 1)) &&& (nI 1431655765))) &&& (nI 858993459)) + ((am_ushr (x0 - ((am_ushr x0 (nI 1)) &&& (nI 1431655765))) (nI 2)) &&& (nI 858993459))) + (am_ushr (((x0 - ((am_ushr x0 (nI 1)) &&& (nI 1431655765))) &&& (nI 858993459)) + ((am_ushr (x0 - ((am_ushr x0 (nI 1)) &&& (nI 1431655765))) (nI 2)) &&& (nI 858993459))) (nI 4))) &&& (nI 252645135)) (nI 8))) + (am_ushr ((((((x0 - ((am_ushr x0 (nI 1)) &&& (nI 1431655765))) &&& (nI 858993459)) + ((am_ushr (x0 - ((am_ushr x0 (nI 1)) &&& (nI 1431655765))) (nI 2)) &&& (nI 858993459))) + (am_ushr (((x0 - ((am_ushr x0 (nI 1)) &&& (nI 1431655765))) &&& (nI 858993459)) + ((am_ushr (x0 - ((am_ushr x0 (nI 1)) &&& (nI 1431655765))) (nI 2)) &&& (nI 858993459))) (nI 4))) &&& (nI 252645135)) + (am_ushr (((((x0 - ((am_ushr x0 (nI 1)) &&& (nI 1431655765))) &&& (nI 858993459)) + ((am_ushr (x0 - ((am_ushr x0 (nI 1)) &&& (nI 1431655765))) (nI 2)) &&& (nI 858993459))) + (am_ushr (((x0 - ((am_ushr x0 (nI 1)) &&& (nI 1431655765))) &&& (nI 858993459)) + ((am_ushr (x0 - ((am_ushr x0 (nI 1)) &&& (nI 1431655765))) (nI 2)) &&& (nI 858993459))) (nI 4))) &&& (nI 252645135)) (nI 8))) (nI 16)))]) d_Int_bitCount_47 rfl rfl ?_
  refine r_iload_n d_Int_bitCount_48 rfl ?_
  refine r_bipush (nI 63) d_Int_bitCount_49 (by decide) ?_
  refine r_iand d_Int_bitCount_51 ?_
  exact r_iret d_Int_bitCount_52 h
abbrev R_View_stepsAreSingle (d : Nat) (K : Int32 → am_S → Prop) (pc : Nat) (vs st : List Value) (σ : am_S) : Prop := am_r (am_run (d + 2)) "WheelDisc$View" (some .boolean) prog_10_method_6_code (am_Ri K) pc vs st σ
def w_View_stepsAreSingle  (σ : am_S) (K : Int32 → am_S → Prop) : Prop := ∀ d : Nat, am_run (d + 3) y_View_stepsAreSingle [.ref 9] σ (am_Ri K)
theorem t_View_stepsAreSingle {d : Nat}   {σ : am_S} {K : Int32 → am_S → Prop} (h : w_View_stepsAreSingle  σ K) : am_run (d + 3) y_View_stepsAreSingle [.ref 9] σ (am_Ri K) := h d
theorem e_View_stepsAreSingle   {σ : am_S} {K : Int32 → am_S → Prop} (h : ∀ d : Nat, R_View_stepsAreSingle d K 2 [.ref 9, .int (nI 0)] [] σ) : w_View_stepsAreSingle  σ K := by
  intro d
  have h := h d
  refine am_begin (vs := [.ref 9, .null]) c_View_stepsAreSingle (by decide +kernel) rfl rfl rfl rfl ?_
  refine r_iconst (nI 0) d_View_stepsAreSingle_0 (by decide) ?_
  refine r_istore_n (vs' := [.ref 9, .int (nI 0)]) d_View_stepsAreSingle_1 rfl rfl ?_
  exact h
theorem l_View_stepsAreSingle_2 {d : Nat}  {x1 : Int32}  {σ : am_S} {K : Int32 → am_S → Prop} (h : (am_ite ((σ.1 9 2) ≤ x1) (K (nI 1) σ) (w_View_unlikeBehind x1 σ (fun r2 τ2 => (w_Int_bitCount r2 τ2 (fun r3 τ3 => (am_ite (r3 = (nI 1)) (R_View_stepsAreSingle d K 2 [.ref 9, .int (x1 + nI 1)] [] τ3) (K (nI 0) τ3)))))))) : R_View_stepsAreSingle d K 2 [.ref 9, .int x1] [] σ := by
  refine r_iload_n d_View_stepsAreSingle_2 rfl ?_
  refine r_aload_n d_View_stepsAreSingle_3 rfl ?_
  refine r_getI d_View_stepsAreSingle_4 f_View_22 kd_9 rfl ?_
  refine r_icmp2 30 ((σ.1 9 2) ≤ x1) d_View_stepsAreSingle_7 (by decide) rfl (fun c1 => ?_) (fun c1 => ?_)
  · have h := h.1 c1
    refine r_iconst (nI 1) d_View_stepsAreSingle_30 (by decide) ?_
    exact r_zret1 d_View_stepsAreSingle_31 h
  · have h := h.2 c1
    refine r_aload_n d_View_stepsAreSingle_10 rfl ?_
    refine r_iload_n d_View_stepsAreSingle_11 rfl ?_
    refine r_virtI [.int x1] [] d_View_stepsAreSingle_12 v_View_69 rfl rfl cn_9 rfl (t_View_unlikeBehind h) (fun r2 τ2 h => ?_)
    refine r_statI [.int r2] [] d_View_stepsAreSingle_15 s_View_72 rfl rfl rfl (t_Int_bitCount h) (fun r3 τ3 h => ?_)
    refine r_iconst (nI 1) d_View_stepsAreSingle_18 (by decide) ?_
    refine r_icmp2 24 (r3 = (nI 1)) d_View_stepsAreSingle_19 (by decide) rfl (fun c4 => ?_) (fun c4 => ?_)
    · have h := h.1 c4
      refine r_inc1 (vs' := [.ref 9, .int (x1 + nI 1)]) d_View_stepsAreSingle_24 rfl rfl rfl ?_
      refine r_goto 2 d_View_stepsAreSingle_27 (by decide) ?_
      exact h
    · have h := h.2 c4
      refine r_iconst (nI 0) d_View_stepsAreSingle_22 (by decide) ?_
      exact r_zret0 d_View_stepsAreSingle_23 h
abbrev R_Disc_placesFollowOneAnother (d : Nat) (K : Int32 → am_S → Prop) (pc : Nat) (vs st : List Value) (σ : am_S) : Prop := am_r (am_run (d + 1)) "WheelDisc$Disc" (some .boolean) prog_2_method_18_code (am_Ri K) pc vs st σ
def w_Disc_placesFollowOneAnother  (σ : am_S) (K : Int32 → am_S → Prop) : Prop := ∀ d : Nat, am_run (d + 2) y_Disc_placesFollowOneAnother [.ref 3] σ (am_Ri K)
theorem t_Disc_placesFollowOneAnother {d : Nat}   {σ : am_S} {K : Int32 → am_S → Prop} (h : w_Disc_placesFollowOneAnother  σ K) : am_run (d + 2) y_Disc_placesFollowOneAnother [.ref 3] σ (am_Ri K) := h d
theorem e_Disc_placesFollowOneAnother   {σ : am_S} {K : Int32 → am_S → Prop} (h : ∀ d : Nat, R_Disc_placesFollowOneAnother d K 2 [.ref 3, .int (nI 1)] [] σ) : w_Disc_placesFollowOneAnother  σ K := by
  intro d
  have h := h d
  refine am_begin (vs := [.ref 3, .null]) c_Disc_placesFollowOneAnother (by decide +kernel) rfl rfl rfl rfl ?_
  refine r_iconst (nI 1) d_Disc_placesFollowOneAnother_0 (by decide) ?_
  refine r_istore_n (vs' := [.ref 3, .int (nI 1)]) d_Disc_placesFollowOneAnother_1 rfl rfl ?_
  exact h
theorem l_Disc_placesFollowOneAnother_2 {d : Nat}  {x1 : Int32}  {σ : am_S} {K : Int32 → am_S → Prop} (h : (am_ite ((σ.1 3 5) ≤ x1) (K (nI 1) σ) (vp_in x1 10 ∧ (vp_in (x1 - (nI 1)) 10 ∧ (w_WD_stepRound (σ.1 6 (Int32.toNatClampNeg (x1 - (nI 1)))) (nI 1) (σ.1 3 3) σ (fun r2 τ2 => (am_ite ((σ.1 6 (Int32.toNatClampNeg x1)) = r2) (R_Disc_placesFollowOneAnother d K 2 [.ref 3, .int (x1 + nI 1)] [] τ2) (K (nI 0) τ2)))))))) : R_Disc_placesFollowOneAnother d K 2 [.ref 3, .int x1] [] σ := by
  refine r_iload_n d_Disc_placesFollowOneAnother_2 rfl ?_
  refine r_aload_n d_Disc_placesFollowOneAnother_3 rfl ?_
  refine r_getI d_Disc_placesFollowOneAnother_4 f_Disc_29 kd_3 rfl ?_
  refine r_icmp2 43 ((σ.1 3 5) ≤ x1) d_Disc_placesFollowOneAnother_7 (by decide) rfl (fun c1 => ?_) (fun c1 => ?_)
  · have h := h.1 c1
    refine r_iconst (nI 1) d_Disc_placesFollowOneAnother_43 (by decide) ?_
    exact r_zret1 d_Disc_placesFollowOneAnother_44 h
  · have h := h.2 c1
    refine r_aload_n d_Disc_placesFollowOneAnother_10 rfl ?_
    refine r_getR d_Disc_placesFollowOneAnother_11 f_Disc_19 kd_3 rfl lk_3_2 ?_
    refine r_iload_n d_Disc_placesFollowOneAnother_14 rfl ?_
    refine r_iald d_Disc_placesFollowOneAnother_15 ce_6 ⟨h.1, ?_⟩
    have h := h.2
    refine r_aload_n d_Disc_placesFollowOneAnother_16 rfl ?_
    refine r_getR d_Disc_placesFollowOneAnother_17 f_Disc_19 kd_3 rfl lk_3_2 ?_
    refine r_iload_n d_Disc_placesFollowOneAnother_20 rfl ?_
    refine r_iconst (nI 1) d_Disc_placesFollowOneAnother_21 (by decide) ?_
    refine r_isub d_Disc_placesFollowOneAnother_22 ?_
    refine r_iald d_Disc_placesFollowOneAnother_23 ce_6 ⟨h.1, ?_⟩
    have h := h.2
    refine r_iconst (nI 1) d_Disc_placesFollowOneAnother_24 (by decide) ?_
    refine r_aload_n d_Disc_placesFollowOneAnother_25 rfl ?_
    refine r_getI d_Disc_placesFollowOneAnother_26 f_Disc_22 kd_3 rfl ?_
    refine r_statI [.int (σ.1 6 (Int32.toNatClampNeg (x1 - (nI 1)))), .int (nI 1), .int (σ.1 3 3)] [.int (σ.1 6 (Int32.toNatClampNeg x1))] d_Disc_placesFollowOneAnother_29 s_Disc_64 rfl rfl rfl (t_WD_stepRound h) (fun r2 τ2 h => ?_)
    refine r_icmp2 37 ((σ.1 6 (Int32.toNatClampNeg x1)) = r2) d_Disc_placesFollowOneAnother_32 (by decide) rfl (fun c3 => ?_) (fun c3 => ?_)
    · have h := h.1 c3
      refine r_inc1 (vs' := [.ref 3, .int (x1 + nI 1)]) d_Disc_placesFollowOneAnother_37 rfl rfl rfl ?_
      refine r_goto 2 d_Disc_placesFollowOneAnother_40 (by decide) ?_
      exact h
    · have h := h.2 c3
      refine r_iconst (nI 0) d_Disc_placesFollowOneAnother_35 (by decide) ?_
      exact r_zret0 d_Disc_placesFollowOneAnother_36 h
def w_View_kindOf  (σ : am_S) (K : Int32 → am_S → Prop) : Prop := (w_View_allReaders  σ (fun r1 τ1 => (w_View_allUnlike r1 τ1 (fun r2 τ2 => (am_ite (¬ r2 = (nI 0)) (w_View_stepsAreSingle  τ2 (fun r4 τ4 => (am_ite (¬ (τ4.1 3 4) = (nI 1)) (am_ite (¬ (τ4.1 3 4) = (nI 1)) (am_ite (r4 = (nI 0)) (K (nI 1) τ4) (K (nI 2) τ4)) (w_Disc_placesFollowOneAnother  τ4 (fun r8 τ8 => (am_ite (r8 = (nI 0)) (am_ite (r4 = (nI 0)) (K (nI 1) τ8) (K (nI 2) τ8)) (K (nI 4) τ8))))) (am_ite (r4 = (nI 0)) (am_ite (¬ (τ4.1 3 4) = (nI 1)) (am_ite (r4 = (nI 0)) (K (nI 1) τ4) (K (nI 2) τ4)) (w_Disc_placesFollowOneAnother  τ4 (fun r14 τ14 => (am_ite (r14 = (nI 0)) (am_ite (r4 = (nI 0)) (K (nI 1) τ14) (K (nI 2) τ14)) (K (nI 4) τ14))))) (K (nI 3) τ4))))) (K (nI 0) τ2))))))
theorem t_View_kindOf {d : Nat}   {σ : am_S} {K : Int32 → am_S → Prop} (h : w_View_kindOf  σ K) : am_run (d + 4) y_View_kindOf [.ref 9, .ref 3] σ (am_Ri K) := by
  unfold w_View_kindOf at h
  refine am_begin (vs := [.ref 9, .ref 3, .null]) c_View_kindOf (by decide +kernel) rfl rfl rfl rfl ?_
  refine r_aload_n d_View_kindOf_0 rfl ?_
  refine r_aload_n d_View_kindOf_1 rfl ?_
  refine r_virtI [] [.ref 9] d_View_kindOf_2 v_View_41 rfl rfl cn_9 rfl (t_View_allReaders h) (fun r1 τ1 h => ?_)
  refine r_virtI [.int r1] [] d_View_kindOf_5 v_View_45 rfl rfl cn_9 rfl (t_View_allUnlike h) (fun r2 τ2 h => ?_)
  refine r_if2 13 (¬ r2 = (nI 0)) d_View_kindOf_8 (by decide) rfl (fun c3 => ?_) (fun c3 => ?_)
  · have h := h.1 c3
    refine r_aload_n d_View_kindOf_13 rfl ?_
    refine r_virtI [] [] d_View_kindOf_14 v_View_49 rfl rfl cn_9 rfl (t_View_stepsAreSingle h) (fun r4 τ4 h => ?_)
    refine r_istore_n (vs' := [.ref 9, .ref 3, .int r4]) d_View_kindOf_17 rfl rfl ?_
    refine r_aload_n d_View_kindOf_18 rfl ?_
    refine r_getI d_View_kindOf_19 f_View_53 kd_3 rfl ?_
    refine r_iconst (nI 1) d_View_kindOf_22 (by decide) ?_
    refine r_icmp2 32 (¬ (τ4.1 3 4) = (nI 1)) d_View_kindOf_23 (by decide) rfl (fun c5 => ?_) (fun c5 => ?_)
    · have h := h.1 c5
      refine r_aload_n d_View_kindOf_32 rfl ?_
      refine r_getI d_View_kindOf_33 f_View_53 kd_3 rfl ?_
      refine r_iconst (nI 1) d_View_kindOf_36 (by decide) ?_
      refine r_icmp2 49 (¬ (τ4.1 3 4) = (nI 1)) d_View_kindOf_37 (by decide) rfl (fun c6 => ?_) (fun c6 => ?_)
      · have h := h.1 c6
        refine r_iload_n d_View_kindOf_49 rfl ?_
        refine r_if2 57 (r4 = (nI 0)) d_View_kindOf_50 (by decide) rfl (fun c7 => ?_) (fun c7 => ?_)
        · have h := h.1 c7
          refine r_iconst (nI 1) d_View_kindOf_57 (by decide) ?_
          exact r_iret d_View_kindOf_58 h
        · have h := h.2 c7
          refine r_iconst (nI 2) d_View_kindOf_53 (by decide) ?_
          refine r_goto 58 d_View_kindOf_54 (by decide) ?_
          exact r_iret d_View_kindOf_58 h
      · have h := h.2 c6
        refine r_aload_n d_View_kindOf_40 rfl ?_
        refine r_virtI [] [] d_View_kindOf_41 v_View_56 rfl rfl cn_3 rfl (t_Disc_placesFollowOneAnother h) (fun r8 τ8 h => ?_)
        refine r_if2 49 (r8 = (nI 0)) d_View_kindOf_44 (by decide) rfl (fun c9 => ?_) (fun c9 => ?_)
        · have h := h.1 c9
          refine r_iload_n d_View_kindOf_49 rfl ?_
          refine r_if2 57 (r4 = (nI 0)) d_View_kindOf_50 (by decide) rfl (fun c10 => ?_) (fun c10 => ?_)
          · have h := h.1 c10
            refine r_iconst (nI 1) d_View_kindOf_57 (by decide) ?_
            exact r_iret d_View_kindOf_58 h
          · have h := h.2 c10
            refine r_iconst (nI 2) d_View_kindOf_53 (by decide) ?_
            refine r_goto 58 d_View_kindOf_54 (by decide) ?_
            exact r_iret d_View_kindOf_58 h
        · have h := h.2 c9
          refine r_iconst (nI 4) d_View_kindOf_47 (by decide) ?_
          exact r_iret d_View_kindOf_48 h
    · have h := h.2 c5
      refine r_iload_n d_View_kindOf_26 rfl ?_
      refine r_if2 32 (r4 = (nI 0)) d_View_kindOf_27 (by decide) rfl (fun c11 => ?_) (fun c11 => ?_)
      · have h := h.1 c11
        refine r_aload_n d_View_kindOf_32 rfl ?_
        refine r_getI d_View_kindOf_33 f_View_53 kd_3 rfl ?_
        refine r_iconst (nI 1) d_View_kindOf_36 (by decide) ?_
        refine r_icmp2 49 (¬ (τ4.1 3 4) = (nI 1)) d_View_kindOf_37 (by decide) rfl (fun c12 => ?_) (fun c12 => ?_)
        · have h := h.1 c12
          refine r_iload_n d_View_kindOf_49 rfl ?_
          refine r_if2 57 (r4 = (nI 0)) d_View_kindOf_50 (by decide) rfl (fun c13 => ?_) (fun c13 => ?_)
          · have h := h.1 c13
            refine r_iconst (nI 1) d_View_kindOf_57 (by decide) ?_
            exact r_iret d_View_kindOf_58 h
          · have h := h.2 c13
            refine r_iconst (nI 2) d_View_kindOf_53 (by decide) ?_
            refine r_goto 58 d_View_kindOf_54 (by decide) ?_
            exact r_iret d_View_kindOf_58 h
        · have h := h.2 c12
          refine r_aload_n d_View_kindOf_40 rfl ?_
          refine r_virtI [] [] d_View_kindOf_41 v_View_56 rfl rfl cn_3 rfl (t_Disc_placesFollowOneAnother h) (fun r14 τ14 h => ?_)
          refine r_if2 49 (r14 = (nI 0)) d_View_kindOf_44 (by decide) rfl (fun c15 => ?_) (fun c15 => ?_)
          · have h := h.1 c15
            refine r_iload_n d_View_kindOf_49 rfl ?_
            refine r_if2 57 (r4 = (nI 0)) d_View_kindOf_50 (by decide) rfl (fun c16 => ?_) (fun c16 => ?_)
            · have h := h.1 c16
              refine r_iconst (nI 1) d_View_kindOf_57 (by decide) ?_
              exact r_iret d_View_kindOf_58 h
            · have h := h.2 c16
              refine r_iconst (nI 2) d_View_kindOf_53 (by decide) ?_
              refine r_goto 58 d_View_kindOf_54 (by decide) ?_
              exact r_iret d_View_kindOf_58 h
          · have h := h.2 c15
            refine r_iconst (nI 4) d_View_kindOf_47 (by decide) ?_
            exact r_iret d_View_kindOf_48 h
      · have h := h.2 c11
        refine r_iconst (nI 3) d_View_kindOf_30 (by decide) ?_
        exact r_iret d_View_kindOf_31 h
  · have h := h.2 c3
    refine r_iconst (nI 0) d_View_kindOf_11 (by decide) ?_
    exact r_iret d_View_kindOf_12 h
def w_WD_count (x1 : Int32) (σ : am_S) (K : Int32 → am_S → Prop) : Prop := (am_ite (x1 = nI 0) (w_WD_accept (σ.1 3 3) σ (fun r2 τ2 => K r2 τ2)) (am_ite (x1 = nI 1) (w_WD_accept (σ.1 3 4) σ (fun r3 τ3 => K r3 τ3)) (am_ite (x1 = nI 2) (w_WD_accept (σ.1 3 5) σ (fun r4 τ4 => K r4 τ4)) (am_ite (x1 = nI 3) (w_WD_lookedAt  σ (fun τ5 => (w_View_kindOf  τ5 (fun r6 τ6 => (w_WD_accept r6 τ6 (fun r7 τ7 => K r7 τ7)))))) (am_ite (x1 = nI 4) (w_WD_accept (σ.1 7 2) σ (fun r8 τ8 => K r8 τ8)) (am_ite (x1 = nI 5) (w_WD_accept (σ.1 22 5) σ (fun r9 τ9 => K r9 τ9)) (am_ite (x1 = nI 6) (w_WD_accept (σ.1 28 1) σ (fun r10 τ10 => K r10 τ10)) (am_ite (x1 = nI 7) (w_Rim_isThere  σ (fun r11 τ11 => (am_ite (r11 = (nI 0)) (w_WD_accept (-1) τ11 (fun r13 τ13 => K r13 τ13)) (w_WD_accept (τ11.1 1 2) τ11 (fun r14 τ14 => K r14 τ14))))) (w_WD_refuse (nI 1) σ (fun r15 τ15 => K r15 τ15))))))))))
theorem t_WD_count {d : Nat} {x1 : Int32}  {σ : am_S} {K : Int32 → am_S → Prop} (h : w_WD_count x1 σ K) : am_run (d + 6) y_WD_count [.ref 0, .int x1] σ (am_Ri K) := by
  unfold w_WD_count at h
  refine am_begin (vs := [.ref 0, .int x1]) c_WD_count (by decide +kernel) rfl rfl rfl rfl ?_
  refine r_iload_n d_WD_count_0 rfl ?_
  by_cases c1_0 : x1 = nI 0
  · have h := h.1 c1_0
    refine r_tabIn 48 47 d_WD_count_1 (by rw [c1_0]; decide) (by rw [c1_0]; decide) (by rw [c1_0]; rfl) (by decide) ?_
    refine r_aload_n d_WD_count_48 rfl ?_
    refine r_aload_n d_WD_count_49 rfl ?_
    refine r_getR d_WD_count_50 f_WD_19 kd_0 rfl lk_0_1 ?_
    refine r_getI d_WD_count_53 f_WD_133 kd_3 rfl ?_
    refine r_virtI [.int (σ.1 3 3)] [] d_WD_count_56 v_WD_91 rfl rfl cn_0 rfl (t_WD_accept h) (fun r2 τ2 h => ?_)
    exact r_iret d_WD_count_59 h
  have h := h.2 c1_0
  by_cases c1_1 : x1 = nI 1
  · have h := h.1 c1_1
    refine r_tabIn 60 59 d_WD_count_1 (by rw [c1_1]; decide) (by rw [c1_1]; decide) (by rw [c1_1]; rfl) (by decide) ?_
    refine r_aload_n d_WD_count_60 rfl ?_
    refine r_aload_n d_WD_count_61 rfl ?_
    refine r_getR d_WD_count_62 f_WD_19 kd_0 rfl lk_0_1 ?_
    refine r_getI d_WD_count_65 f_WD_126 kd_3 rfl ?_
    refine r_virtI [.int (σ.1 3 4)] [] d_WD_count_68 v_WD_91 rfl rfl cn_0 rfl (t_WD_accept h) (fun r3 τ3 h => ?_)
    exact r_iret d_WD_count_71 h
  have h := h.2 c1_1
  by_cases c1_2 : x1 = nI 2
  · have h := h.1 c1_2
    refine r_tabIn 72 71 d_WD_count_1 (by rw [c1_2]; decide) (by rw [c1_2]; decide) (by rw [c1_2]; rfl) (by decide) ?_
    refine r_aload_n d_WD_count_72 rfl ?_
    refine r_aload_n d_WD_count_73 rfl ?_
    refine r_getR d_WD_count_74 f_WD_19 kd_0 rfl lk_0_1 ?_
    refine r_getI d_WD_count_77 f_WD_152 kd_3 rfl ?_
    refine r_virtI [.int (σ.1 3 5)] [] d_WD_count_80 v_WD_91 rfl rfl cn_0 rfl (t_WD_accept h) (fun r4 τ4 h => ?_)
    exact r_iret d_WD_count_83 h
  have h := h.2 c1_2
  by_cases c1_3 : x1 = nI 3
  · have h := h.1 c1_3
    refine r_tabIn 84 83 d_WD_count_1 (by rw [c1_3]; decide) (by rw [c1_3]; decide) (by rw [c1_3]; rfl) (by decide) ?_
    refine r_aload_n d_WD_count_84 rfl ?_
    refine r_aload_n d_WD_count_85 rfl ?_
    refine r_virtR [] [.ref 0] d_WD_count_86 v_WD_187 rfl rfl cn_0 rfl (t_WD_lookedAt h) (fun τ5 h => ?_)
    refine r_aload_n d_WD_count_89 rfl ?_
    refine r_getR d_WD_count_90 f_WD_19 kd_0 rfl lk_0_1 ?_
    refine r_virtI [.ref 3] [.ref 0] d_WD_count_93 v_WD_191 rfl rfl cn_9 rfl (t_View_kindOf h) (fun r6 τ6 h => ?_)
    refine r_virtI [.int r6] [] d_WD_count_96 v_WD_91 rfl rfl cn_0 rfl (t_WD_accept h) (fun r7 τ7 h => ?_)
    exact r_iret d_WD_count_99 h
  have h := h.2 c1_3
  by_cases c1_4 : x1 = nI 4
  · have h := h.1 c1_4
    refine r_tabIn 100 99 d_WD_count_1 (by rw [c1_4]; decide) (by rw [c1_4]; decide) (by rw [c1_4]; rfl) (by decide) ?_
    refine r_aload_n d_WD_count_100 rfl ?_
    refine r_aload_n d_WD_count_101 rfl ?_
    refine r_getR d_WD_count_102 f_WD_26 kd_0 rfl lk_0_2 ?_
    refine r_getI d_WD_count_105 f_WD_179 kd_7 rfl ?_
    refine r_virtI [.int (σ.1 7 2)] [] d_WD_count_108 v_WD_91 rfl rfl cn_0 rfl (t_WD_accept h) (fun r8 τ8 h => ?_)
    exact r_iret d_WD_count_111 h
  have h := h.2 c1_4
  by_cases c1_5 : x1 = nI 5
  · have h := h.1 c1_5
    refine r_tabIn 112 111 d_WD_count_1 (by rw [c1_5]; decide) (by rw [c1_5]; decide) (by rw [c1_5]; rfl) (by decide) ?_
    refine r_aload_n d_WD_count_112 rfl ?_
    refine r_aload_n d_WD_count_113 rfl ?_
    refine r_getR d_WD_count_114 f_WD_57 kd_0 rfl lk_0_7 ?_
    refine r_getI d_WD_count_117 f_WD_195 kd_22 rfl ?_
    refine r_virtI [.int (σ.1 22 5)] [] d_WD_count_120 v_WD_91 rfl rfl cn_0 rfl (t_WD_accept h) (fun r9 τ9 h => ?_)
    exact r_iret d_WD_count_123 h
  have h := h.2 c1_5
  by_cases c1_6 : x1 = nI 6
  · have h := h.1 c1_6
    refine r_tabIn 124 123 d_WD_count_1 (by rw [c1_6]; decide) (by rw [c1_6]; decide) (by rw [c1_6]; rfl) (by decide) ?_
    refine r_aload_n d_WD_count_124 rfl ?_
    refine r_aload_n d_WD_count_125 rfl ?_
    refine r_getR d_WD_count_126 f_WD_64 kd_0 rfl lk_0_8 ?_
    refine r_getI d_WD_count_129 f_WD_196 kd_28 rfl ?_
    refine r_virtI [.int (σ.1 28 1)] [] d_WD_count_132 v_WD_91 rfl rfl cn_0 rfl (t_WD_accept h) (fun r10 τ10 h => ?_)
    exact r_iret d_WD_count_135 h
  have h := h.2 c1_6
  by_cases c1_7 : x1 = nI 7
  · have h := h.1 c1_7
    refine r_tabIn 136 135 d_WD_count_1 (by rw [c1_7]; decide) (by rw [c1_7]; decide) (by rw [c1_7]; rfl) (by decide) ?_
    refine r_aload_n d_WD_count_136 rfl ?_
    refine r_aload_n d_WD_count_137 rfl ?_
    refine r_getR d_WD_count_138 f_WD_10 kd_0 rfl lk_0_0 ?_
    refine r_virtI [] [.ref 0] d_WD_count_141 v_WD_123 rfl rfl cn_1 rfl (t_Rim_isThere h) (fun r11 τ11 h => ?_)
    refine r_if2 157 (r11 = (nI 0)) d_WD_count_144 (by decide) rfl (fun c12 => ?_) (fun c12 => ?_)
    · have h := h.1 c12
      refine r_iconst (-1) d_WD_count_157 (by decide) ?_
      refine r_virtI [.int (-1)] [] d_WD_count_158 v_WD_91 rfl rfl cn_0 rfl (t_WD_accept h) (fun r13 τ13 h => ?_)
      exact r_iret d_WD_count_161 h
    · have h := h.2 c12
      refine r_aload_n d_WD_count_147 rfl ?_
      refine r_getR d_WD_count_148 f_WD_10 kd_0 rfl lk_0_0 ?_
      refine r_getI d_WD_count_151 f_WD_106 kd_1 rfl ?_
      refine r_goto 158 d_WD_count_154 (by decide) ?_
      refine r_virtI [.int (τ11.1 1 2)] [] d_WD_count_158 v_WD_91 rfl rfl cn_0 rfl (t_WD_accept h) (fun r14 τ14 h => ?_)
      exact r_iret d_WD_count_161 h
  have h := h.2 c1_7
  refine r_tabOut 162 d_WD_count_1 (am_tab0 7 (by decide) (fun j hj => by rcases (show j = 0 ∨ j = 1 ∨ j = 2 ∨ j = 3 ∨ j = 4 ∨ j = 5 ∨ j = 6 ∨ j = 7 by omega) with rfl | rfl | rfl | rfl | rfl | rfl | rfl | rfl <;> assumption)) (by decide) ?_
  refine r_aload_n d_WD_count_162 rfl ?_
  refine r_iconst (nI 1) d_WD_count_163 (by decide) ?_
  refine r_virtI [.int (nI 1)] [] d_WD_count_164 v_WD_95 rfl rfl cn_0 rfl (t_WD_refuse h) (fun r15 τ15 h => ?_)
  exact r_iret d_WD_count_167 h
def w_WD_word (x1 : Int32) (σ : am_S) (K : Int32 → am_S → Prop) : Prop := (w_Disc_hasSector x1 σ (fun r1 τ1 => (am_ite (¬ r1 = (nI 0)) (w_WD_lookedAt  τ1 (fun τ3 => (vp_in x1 512 ∧ (w_WD_accept (τ3.1 10 (Int32.toNatClampNeg x1)) τ3 (fun r4 τ4 => K r4 τ4))))) (w_WD_refuse (nI 1) τ1 (fun r5 τ5 => K r5 τ5)))))
theorem t_WD_word {d : Nat} {x1 : Int32}  {σ : am_S} {K : Int32 → am_S → Prop} (h : w_WD_word x1 σ K) : am_run (d + 6) y_WD_word [.ref 0, .int x1] σ (am_Ri K) := by
  unfold w_WD_word at h
  refine am_begin (vs := [.ref 0, .int x1]) c_WD_word (by decide +kernel) rfl rfl rfl rfl ?_
  refine r_aload_n d_WD_word_0 rfl ?_
  refine r_getR d_WD_word_1 f_WD_19 kd_0 rfl lk_0_1 ?_
  refine r_iload_n d_WD_word_4 rfl ?_
  refine r_virtI [.int x1] [] d_WD_word_5 v_WD_146 rfl rfl cn_3 rfl (t_Disc_hasSector h) (fun r1 τ1 h => ?_)
  refine r_if2 17 (¬ r1 = (nI 0)) d_WD_word_8 (by decide) rfl (fun c2 => ?_) (fun c2 => ?_)
  · have h := h.1 c2
    refine r_aload_n d_WD_word_17 rfl ?_
    refine r_aload_n d_WD_word_18 rfl ?_
    refine r_virtR [] [.ref 0] d_WD_word_19 v_WD_187 rfl rfl cn_0 rfl (t_WD_lookedAt h) (fun τ3 h => ?_)
    refine r_getR d_WD_word_22 f_WD_197 kd_9 rfl lk_9_0 ?_
    refine r_iload_n d_WD_word_25 rfl ?_
    refine r_iald d_WD_word_26 ce_10 ⟨h.1, ?_⟩
    have h := h.2
    refine r_virtI [.int (τ3.1 10 (Int32.toNatClampNeg x1))] [] d_WD_word_27 v_WD_91 rfl rfl cn_0 rfl (t_WD_accept h) (fun r4 τ4 h => ?_)
    exact r_iret d_WD_word_30 h
  · have h := h.2 c2
    refine r_aload_n d_WD_word_11 rfl ?_
    refine r_iconst (nI 1) d_WD_word_12 (by decide) ?_
    refine r_virtI [.int (nI 1)] [] d_WD_word_13 v_WD_95 rfl rfl cn_0 rfl (t_WD_refuse h) (fun r5 τ5 h => ?_)
    exact r_iret d_WD_word_16 h
def w_View_changesBehind (x1 : Int32) (x2 : Int32) (σ : am_S) (K : Int32 → am_S → Prop) : Prop := (w_View_unlikeBehind x1 σ (fun r1 τ1 => (am_ite (((r1 >>> ((((τ1.1 9 3) - (nI 1)) - x2) &&& 31)) &&& (nI 1)) = (nI 0)) (K (nI 0) τ1) (K (nI 1) τ1))))
theorem t_View_changesBehind {d : Nat} {x1 : Int32} {x2 : Int32}  {σ : am_S} {K : Int32 → am_S → Prop} (h : w_View_changesBehind x1 x2 σ K) : am_run (d + 3) y_View_changesBehind [.ref 9, .int x1, .int x2] σ (am_Ri K) := by
  unfold w_View_changesBehind at h
  refine am_begin (vs := [.ref 9, .int x1, .int x2]) c_View_changesBehind (by decide +kernel) rfl rfl rfl rfl ?_
  refine r_aload_n d_View_changesBehind_0 rfl ?_
  refine r_iload_n d_View_changesBehind_1 rfl ?_
  refine r_virtI [.int x1] [] d_View_changesBehind_2 v_View_69 rfl rfl cn_9 rfl (t_View_unlikeBehind h) (fun r1 τ1 h => ?_)
  refine r_aload_n d_View_changesBehind_5 rfl ?_
  refine r_getI d_View_changesBehind_6 f_View_26 kd_9 rfl ?_
  refine r_iconst (nI 1) d_View_changesBehind_9 (by decide) ?_
  refine r_isub d_View_changesBehind_10 ?_
  refine r_iload_n d_View_changesBehind_11 rfl ?_
  refine r_isub d_View_changesBehind_12 ?_
  refine r_ishr d_View_changesBehind_13 ?_
  refine r_iconst (nI 1) d_View_changesBehind_14 (by decide) ?_
  refine r_iand d_View_changesBehind_15 ?_
  refine r_if2 23 (((r1 >>> ((((τ1.1 9 3) - (nI 1)) - x2) &&& 31)) &&& (nI 1)) = (nI 0)) d_View_changesBehind_16 (by decide) rfl (fun c2 => ?_) (fun c2 => ?_)
  · have h := h.1 c2
    refine r_iconst (nI 0) d_View_changesBehind_23 (by decide) ?_
    exact r_zret0 d_View_changesBehind_24 h
  · have h := h.2 c2
    refine r_iconst (nI 1) d_View_changesBehind_19 (by decide) ?_
    refine r_goto 24 d_View_changesBehind_20 (by decide) ?_
    exact r_zret1 d_View_changesBehind_24 h
abbrev R_View_changesOf (d : Nat) (K : Int32 → am_S → Prop) (pc : Nat) (vs st : List Value) (σ : am_S) : Prop := am_r (am_run (d + 3)) "WheelDisc$View" (some .int) prog_10_method_9_code (am_Ri K) pc vs st σ
def w_View_changesOf (x1 : Int32) (σ : am_S) (K : Int32 → am_S → Prop) : Prop := ∀ d : Nat, am_run (d + 4) y_View_changesOf [.ref 9, .int x1] σ (am_Ri K)
theorem t_View_changesOf {d : Nat} {x1 : Int32}  {σ : am_S} {K : Int32 → am_S → Prop} (h : w_View_changesOf x1 σ K) : am_run (d + 4) y_View_changesOf [.ref 9, .int x1] σ (am_Ri K) := h d
theorem e_View_changesOf {x1 : Int32}  {σ : am_S} {K : Int32 → am_S → Prop} (h : ∀ d : Nat, R_View_changesOf d K 4 [.ref 9, .int x1, .int (nI 0), .int (nI 0)] [] σ) : w_View_changesOf x1 σ K := by
  intro d
  have h := h d
  refine am_begin (vs := [.ref 9, .int x1, .null, .null]) c_View_changesOf (by decide +kernel) rfl rfl rfl rfl ?_
  refine r_iconst (nI 0) d_View_changesOf_0 (by decide) ?_
  refine r_istore_n (vs' := [.ref 9, .int x1, .int (nI 0), .null]) d_View_changesOf_1 rfl rfl ?_
  refine r_iconst (nI 0) d_View_changesOf_2 (by decide) ?_
  refine r_istore_n (vs' := [.ref 9, .int x1, .int (nI 0), .int (nI 0)]) d_View_changesOf_3 rfl rfl ?_
  exact h
theorem l_View_changesOf_4 {d : Nat}  {x1 : Int32} {x2 : Int32} {x3 : Int32}  {σ : am_S} {K : Int32 → am_S → Prop} (h : (am_ite ((σ.1 9 2) ≤ x3) (K x2 σ) (w_View_changesBehind x3 x1 σ (fun r2 τ2 => (am_ite (r2 = (nI 0)) (R_View_changesOf d K 4 [.ref 9, .int x1, .int x2, .int (x3 + nI 1)] [] τ2) (R_View_changesOf d K 4 [.ref 9, .int x1, .int (x2 + nI 1), .int (x3 + nI 1)] [] τ2)))))) : R_View_changesOf d K 4 [.ref 9, .int x1, .int x2, .int x3] [] σ := by
  refine r_iload_n d_View_changesOf_4 rfl ?_
  refine r_aload_n d_View_changesOf_5 rfl ?_
  refine r_getI d_View_changesOf_6 f_View_22 kd_9 rfl ?_
  refine r_icmp2 30 ((σ.1 9 2) ≤ x3) d_View_changesOf_9 (by decide) rfl (fun c1 => ?_) (fun c1 => ?_)
  · have h := h.1 c1
    refine r_iload_n d_View_changesOf_30 rfl ?_
    exact r_iret d_View_changesOf_31 h
  · have h := h.2 c1
    refine r_aload_n d_View_changesOf_12 rfl ?_
    refine r_iload_n d_View_changesOf_13 rfl ?_
    refine r_iload_n d_View_changesOf_14 rfl ?_
    refine r_virtI [.int x3, .int x1] [] d_View_changesOf_15 v_View_81 rfl rfl cn_9 rfl (t_View_changesBehind h) (fun r2 τ2 h => ?_)
    refine r_if2 24 (r2 = (nI 0)) d_View_changesOf_18 (by decide) rfl (fun c3 => ?_) (fun c3 => ?_)
    · have h := h.1 c3
      refine r_inc1 (vs' := [.ref 9, .int x1, .int x2, .int (x3 + nI 1)]) d_View_changesOf_24 rfl rfl rfl ?_
      refine r_goto 4 d_View_changesOf_27 (by decide) ?_
      exact h
    · have h := h.2 c3
      refine r_inc1 (vs' := [.ref 9, .int x1, .int (x2 + nI 1), .int x3]) d_View_changesOf_21 rfl rfl rfl ?_
      refine r_inc1 (vs' := [.ref 9, .int x1, .int (x2 + nI 1), .int (x3 + nI 1)]) d_View_changesOf_24 rfl rfl rfl ?_
      refine r_goto 4 d_View_changesOf_27 (by decide) ?_
      exact h
def w_Math_min (x0 : Int32) (x1 : Int32) (σ : am_S) (K : Int32 → am_S → Prop) : Prop := (am_ite (x1 < x0) (K x1 σ) (K x0 σ))
theorem t_Math_min {d : Nat} {x0 : Int32} {x1 : Int32}  {σ : am_S} {K : Int32 → am_S → Prop} (h : w_Math_min x0 x1 σ K) : am_run (d + 1) y_Math_min [.int x0, .int x1] σ (am_Ri K) := by
  unfold w_Math_min at h
  refine am_begin (vs := [.int x0, .int x1]) c_Math_min (by decide +kernel) rfl rfl rfl rfl ?_
  refine r_iload_n d_Math_min_0 rfl ?_
  refine r_iload_n d_Math_min_1 rfl ?_
  refine r_icmp2 9 (x1 < x0) d_Math_min_2 (by decide) rfl (fun c1 => ?_) (fun c1 => ?_)
  · have h := h.1 c1
    refine r_iload_n d_Math_min_9 rfl ?_
    exact r_iret d_Math_min_10 h
  · have h := h.2 c1
    refine r_iload_n d_Math_min_5 rfl ?_
    refine r_goto 10 d_Math_min_6 (by decide) ?_
    exact r_iret d_Math_min_10 h
abbrev R_View_shortestStretchOf (d : Nat) (K : Int32 → am_S → Prop) (pc : Nat) (vs st : List Value) (σ : am_S) : Prop := am_r (am_run (d + 3)) "WheelDisc$View" (some .int) prog_10_method_10_code (am_Ri K) pc vs st σ
def w_View_shortestStretchOf (x1 : Int32) (σ : am_S) (K : Int32 → am_S → Prop) : Prop := ∀ d : Nat, am_run (d + 4) y_View_shortestStretchOf [.ref 9, .int x1] σ (am_Ri K)
theorem t_View_shortestStretchOf {d : Nat} {x1 : Int32}  {σ : am_S} {K : Int32 → am_S → Prop} (h : w_View_shortestStretchOf x1 σ K) : am_run (d + 4) y_View_shortestStretchOf [.ref 9, .int x1] σ (am_Ri K) := h d
theorem e_View_shortestStretchOf {x1 : Int32}  {σ : am_S} {K : Int32 → am_S → Prop} (h : ∀ d : Nat, R_View_shortestStretchOf d K 13 [.ref 9, .int x1, .int (σ.1 9 2), .int (-1), .int (-1), .int (nI 0)] [] σ) : w_View_shortestStretchOf x1 σ K := by
  intro d
  have h := h d
  refine am_begin (vs := [.ref 9, .int x1, .null, .null, .null, .null]) c_View_shortestStretchOf (by decide +kernel) rfl rfl rfl rfl ?_
  refine r_aload_n d_View_shortestStretchOf_0 rfl ?_
  refine r_getI d_View_shortestStretchOf_1 f_View_22 kd_9 rfl ?_
  refine r_istore_n (vs' := [.ref 9, .int x1, .int (σ.1 9 2), .null, .null, .null]) d_View_shortestStretchOf_4 rfl rfl ?_
  refine r_iconst (-1) d_View_shortestStretchOf_5 (by decide) ?_
  refine r_istore_n (vs' := [.ref 9, .int x1, .int (σ.1 9 2), .int (-1), .null, .null]) d_View_shortestStretchOf_6 rfl rfl ?_
  refine r_iconst (-1) d_View_shortestStretchOf_7 (by decide) ?_
  refine r_istore (vs' := [.ref 9, .int x1, .int (σ.1 9 2), .int (-1), .int (-1), .null]) d_View_shortestStretchOf_8 rfl rfl ?_
  refine r_iconst (nI 0) d_View_shortestStretchOf_10 (by decide) ?_
  refine r_istore (vs' := [.ref 9, .int x1, .int (σ.1 9 2), .int (-1), .int (-1), .int (nI 0)]) d_View_shortestStretchOf_11 rfl rfl ?_
  exact h
theorem l_View_shortestStretchOf_13 {d : Nat}  {x1 : Int32} {x2 : Int32} {x3 : Int32} {x4 : Int32} {x5 : Int32}  {σ : am_S} {K : Int32 → am_S → Prop} (h : (am_ite ((σ.1 9 2) ≤ x5) (am_ite (¬ x3 = (-1)) (w_Math_min x2 ((x3 + (σ.1 9 2)) - x4) σ (fun r3 τ3 => K r3 τ3)) (K (σ.1 9 2) σ)) (w_View_changesBehind x5 x1 σ (fun r4 τ4 => (am_ite (r4 = (nI 0)) (R_View_shortestStretchOf d K 13 [.ref 9, .int x1, .int x2, .int x3, .int x4, .int (x5 + nI 1)] [] τ4) (am_ite (¬ x3 = (-1)) (w_Math_min x2 (x5 - x4) τ4 (fun r7 τ7 => R_View_shortestStretchOf d K 13 [.ref 9, .int x1, .int r7, .int x3, .int x5, .int (x5 + nI 1)] [] τ7)) (R_View_shortestStretchOf d K 13 [.ref 9, .int x1, .int x2, .int x5, .int x5, .int (x5 + nI 1)] [] τ4))))))) : R_View_shortestStretchOf d K 13 [.ref 9, .int x1, .int x2, .int x3, .int x4, .int x5] [] σ := by
  refine r_iload d_View_shortestStretchOf_13 rfl ?_
  refine r_aload_n d_View_shortestStretchOf_15 rfl ?_
  refine r_getI d_View_shortestStretchOf_16 f_View_22 kd_9 rfl ?_
  refine r_icmp2 63 ((σ.1 9 2) ≤ x5) d_View_shortestStretchOf_19 (by decide) rfl (fun c1 => ?_) (fun c1 => ?_)
  · have h := h.1 c1
    refine r_iload_n d_View_shortestStretchOf_63 rfl ?_
    refine r_iconst (-1) d_View_shortestStretchOf_64 (by decide) ?_
    refine r_icmp2 75 (¬ x3 = (-1)) d_View_shortestStretchOf_65 (by decide) rfl (fun c2 => ?_) (fun c2 => ?_)
    · have h := h.1 c2
      refine r_iload_n d_View_shortestStretchOf_75 rfl ?_
      refine r_iload_n d_View_shortestStretchOf_76 rfl ?_
      refine r_aload_n d_View_shortestStretchOf_77 rfl ?_
      refine r_getI d_View_shortestStretchOf_78 f_View_22 kd_9 rfl ?_
      refine r_iadd d_View_shortestStretchOf_81 ?_
      refine r_iload d_View_shortestStretchOf_82 rfl ?_
      refine r_isub d_View_shortestStretchOf_84 ?_
      refine r_statI [.int x2, .int ((x3 + (σ.1 9 2)) - x4)] [] d_View_shortestStretchOf_85 s_View_85 rfl rfl rfl (t_Math_min h) (fun r3 τ3 h => ?_)
      exact r_iret d_View_shortestStretchOf_88 h
    · have h := h.2 c2
      refine r_aload_n d_View_shortestStretchOf_68 rfl ?_
      refine r_getI d_View_shortestStretchOf_69 f_View_22 kd_9 rfl ?_
      refine r_goto 88 d_View_shortestStretchOf_72 (by decide) ?_
      exact r_iret d_View_shortestStretchOf_88 h
  · have h := h.2 c1
    refine r_aload_n d_View_shortestStretchOf_22 rfl ?_
    refine r_iload d_View_shortestStretchOf_23 rfl ?_
    refine r_iload_n d_View_shortestStretchOf_25 rfl ?_
    refine r_virtI [.int x5, .int x1] [] d_View_shortestStretchOf_26 v_View_81 rfl rfl cn_9 rfl (t_View_changesBehind h) (fun r4 τ4 h => ?_)
    refine r_if2 57 (r4 = (nI 0)) d_View_shortestStretchOf_29 (by decide) rfl (fun c5 => ?_) (fun c5 => ?_)
    · have h := h.1 c5
      refine r_inc1 (vs' := [.ref 9, .int x1, .int x2, .int x3, .int x4, .int (x5 + nI 1)]) d_View_shortestStretchOf_57 rfl rfl rfl ?_
      refine r_goto 13 d_View_shortestStretchOf_60 (by decide) ?_
      exact h
    · have h := h.2 c5
      refine r_iload_n d_View_shortestStretchOf_32 rfl ?_
      refine r_iconst (-1) d_View_shortestStretchOf_33 (by decide) ?_
      refine r_icmp2 43 (¬ x3 = (-1)) d_View_shortestStretchOf_34 (by decide) rfl (fun c6 => ?_) (fun c6 => ?_)
      · have h := h.1 c6
        refine r_iload_n d_View_shortestStretchOf_43 rfl ?_
        refine r_iload d_View_shortestStretchOf_44 rfl ?_
        refine r_iload d_View_shortestStretchOf_46 rfl ?_
        refine r_isub d_View_shortestStretchOf_48 ?_
        refine r_statI [.int x2, .int (x5 - x4)] [] d_View_shortestStretchOf_49 s_View_85 rfl rfl rfl (t_Math_min h) (fun r7 τ7 h => ?_)
        refine r_istore_n (vs' := [.ref 9, .int x1, .int r7, .int x3, .int x4, .int x5]) d_View_shortestStretchOf_52 rfl rfl ?_
        refine r_iload d_View_shortestStretchOf_53 rfl ?_
        refine r_istore (vs' := [.ref 9, .int x1, .int r7, .int x3, .int x5, .int x5]) d_View_shortestStretchOf_55 rfl rfl ?_
        refine r_inc1 (vs' := [.ref 9, .int x1, .int r7, .int x3, .int x5, .int (x5 + nI 1)]) d_View_shortestStretchOf_57 rfl rfl rfl ?_
        refine r_goto 13 d_View_shortestStretchOf_60 (by decide) ?_
        exact h
      · have h := h.2 c6
        refine r_iload d_View_shortestStretchOf_37 rfl ?_
        refine r_istore_n (vs' := [.ref 9, .int x1, .int x2, .int x5, .int x4, .int x5]) d_View_shortestStretchOf_39 rfl rfl ?_
        refine r_goto 53 d_View_shortestStretchOf_40 (by decide) ?_
        refine r_iload d_View_shortestStretchOf_53 rfl ?_
        refine r_istore (vs' := [.ref 9, .int x1, .int x2, .int x5, .int x5, .int x5]) d_View_shortestStretchOf_55 rfl rfl ?_
        refine r_inc1 (vs' := [.ref 9, .int x1, .int x2, .int x5, .int x5, .int (x5 + nI 1)]) d_View_shortestStretchOf_57 rfl rfl rfl ?_
        refine r_goto 13 d_View_shortestStretchOf_60 (by decide) ?_
        exact h
def w_WD_seen (x1 : Int32) (x2 : Int32) (σ : am_S) (K : Int32 → am_S → Prop) : Prop := (w_Disc_hasReader x1 σ (fun r1 τ1 => (am_ite (¬ r1 = (nI 0)) (am_ite (x2 = nI 0) (vp_in x1 10 ∧ (w_WD_accept (τ1.1 5 (Int32.toNatClampNeg x1)) τ1 (fun r4 τ4 => K r4 τ4))) (am_ite (x2 = nI 1) (vp_in x1 10 ∧ (w_WD_accept (τ1.1 6 (Int32.toNatClampNeg x1)) τ1 (fun r5 τ5 => K r5 τ5))) (am_ite (x2 = nI 2) (w_WD_lookedAt  τ1 (fun τ6 => (w_View_changesOf x1 τ6 (fun r7 τ7 => (w_WD_accept r7 τ7 (fun r8 τ8 => K r8 τ8)))))) (am_ite (x2 = nI 3) (w_WD_lookedAt  τ1 (fun τ9 => (w_View_shortestStretchOf x1 τ9 (fun r10 τ10 => (w_WD_accept r10 τ10 (fun r11 τ11 => K r11 τ11)))))) (w_WD_refuse (nI 1) τ1 (fun r12 τ12 => K r12 τ12)))))) (w_WD_refuse (nI 1) τ1 (fun r13 τ13 => K r13 τ13)))))
theorem t_WD_seen {d : Nat} {x1 : Int32} {x2 : Int32}  {σ : am_S} {K : Int32 → am_S → Prop} (h : w_WD_seen x1 x2 σ K) : am_run (d + 6) y_WD_seen [.ref 0, .int x1, .int x2] σ (am_Ri K) := by
  unfold w_WD_seen at h
  refine am_begin (vs := [.ref 0, .int x1, .int x2]) c_WD_seen (by decide +kernel) rfl rfl rfl rfl ?_
  refine r_aload_n d_WD_seen_0 rfl ?_
  refine r_getR d_WD_seen_1 f_WD_19 kd_0 rfl lk_0_1 ?_
  refine r_iload_n d_WD_seen_4 rfl ?_
  refine r_virtI [.int x1] [] d_WD_seen_5 v_WD_159 rfl rfl cn_3 rfl (t_Disc_hasReader h) (fun r1 τ1 h => ?_)
  refine r_if2 17 (¬ r1 = (nI 0)) d_WD_seen_8 (by decide) rfl (fun c2 => ?_) (fun c2 => ?_)
  · have h := h.1 c2
    refine r_iload_n d_WD_seen_17 rfl ?_
    by_cases c3_0 : x2 = nI 0
    · have h := h.1 c3_0
      refine r_tabIn 48 30 d_WD_seen_18 (by rw [c3_0]; decide) (by rw [c3_0]; decide) (by rw [c3_0]; rfl) (by decide) ?_
      refine r_aload_n d_WD_seen_48 rfl ?_
      refine r_aload_n d_WD_seen_49 rfl ?_
      refine r_getR d_WD_seen_50 f_WD_19 kd_0 rfl lk_0_1 ?_
      refine r_getR d_WD_seen_53 f_WD_201 kd_3 rfl lk_3_1 ?_
      refine r_iload_n d_WD_seen_56 rfl ?_
      refine r_iald d_WD_seen_57 ce_5 ⟨h.1, ?_⟩
      have h := h.2
      refine r_virtI [.int (τ1.1 5 (Int32.toNatClampNeg x1))] [] d_WD_seen_58 v_WD_91 rfl rfl cn_0 rfl (t_WD_accept h) (fun r4 τ4 h => ?_)
      exact r_iret d_WD_seen_61 h
    have h := h.2 c3_0
    by_cases c3_1 : x2 = nI 1
    · have h := h.1 c3_1
      refine r_tabIn 62 44 d_WD_seen_18 (by rw [c3_1]; decide) (by rw [c3_1]; decide) (by rw [c3_1]; rfl) (by decide) ?_
      refine r_aload_n d_WD_seen_62 rfl ?_
      refine r_aload_n d_WD_seen_63 rfl ?_
      refine r_getR d_WD_seen_64 f_WD_19 kd_0 rfl lk_0_1 ?_
      refine r_getR d_WD_seen_67 f_WD_204 kd_3 rfl lk_3_2 ?_
      refine r_iload_n d_WD_seen_70 rfl ?_
      refine r_iald d_WD_seen_71 ce_6 ⟨h.1, ?_⟩
      have h := h.2
      refine r_virtI [.int (τ1.1 6 (Int32.toNatClampNeg x1))] [] d_WD_seen_72 v_WD_91 rfl rfl cn_0 rfl (t_WD_accept h) (fun r5 τ5 h => ?_)
      exact r_iret d_WD_seen_75 h
    have h := h.2 c3_1
    by_cases c3_2 : x2 = nI 2
    · have h := h.1 c3_2
      refine r_tabIn 76 58 d_WD_seen_18 (by rw [c3_2]; decide) (by rw [c3_2]; decide) (by rw [c3_2]; rfl) (by decide) ?_
      refine r_aload_n d_WD_seen_76 rfl ?_
      refine r_aload_n d_WD_seen_77 rfl ?_
      refine r_virtR [] [.ref 0] d_WD_seen_78 v_WD_187 rfl rfl cn_0 rfl (t_WD_lookedAt h) (fun τ6 h => ?_)
      refine r_iload_n d_WD_seen_81 rfl ?_
      refine r_virtI [.int x1] [.ref 0] d_WD_seen_82 v_WD_207 rfl rfl cn_9 rfl (t_View_changesOf h) (fun r7 τ7 h => ?_)
      refine r_virtI [.int r7] [] d_WD_seen_85 v_WD_91 rfl rfl cn_0 rfl (t_WD_accept h) (fun r8 τ8 h => ?_)
      exact r_iret d_WD_seen_88 h
    have h := h.2 c3_2
    by_cases c3_3 : x2 = nI 3
    · have h := h.1 c3_3
      refine r_tabIn 89 71 d_WD_seen_18 (by rw [c3_3]; decide) (by rw [c3_3]; decide) (by rw [c3_3]; rfl) (by decide) ?_
      refine r_aload_n d_WD_seen_89 rfl ?_
      refine r_aload_n d_WD_seen_90 rfl ?_
      refine r_virtR [] [.ref 0] d_WD_seen_91 v_WD_187 rfl rfl cn_0 rfl (t_WD_lookedAt h) (fun τ9 h => ?_)
      refine r_iload_n d_WD_seen_94 rfl ?_
      refine r_virtI [.int x1] [.ref 0] d_WD_seen_95 v_WD_210 rfl rfl cn_9 rfl (t_View_shortestStretchOf h) (fun r10 τ10 h => ?_)
      refine r_virtI [.int r10] [] d_WD_seen_98 v_WD_91 rfl rfl cn_0 rfl (t_WD_accept h) (fun r11 τ11 h => ?_)
      exact r_iret d_WD_seen_101 h
    have h := h.2 c3_3
    refine r_tabOut 102 d_WD_seen_18 (am_tab0 3 (by decide) (fun j hj => by rcases (show j = 0 ∨ j = 1 ∨ j = 2 ∨ j = 3 by omega) with rfl | rfl | rfl | rfl <;> assumption)) (by decide) ?_
    refine r_aload_n d_WD_seen_102 rfl ?_
    refine r_iconst (nI 1) d_WD_seen_103 (by decide) ?_
    refine r_virtI [.int (nI 1)] [] d_WD_seen_104 v_WD_95 rfl rfl cn_0 rfl (t_WD_refuse h) (fun r12 τ12 h => ?_)
    exact r_iret d_WD_seen_107 h
  · have h := h.2 c2
    refine r_aload_n d_WD_seen_11 rfl ?_
    refine r_iconst (nI 1) d_WD_seen_12 (by decide) ?_
    refine r_virtI [.int (nI 1)] [] d_WD_seen_13 v_WD_95 rfl rfl cn_0 rfl (t_WD_refuse h) (fun r13 τ13 h => ?_)
    exact r_iret d_WD_seen_16 h
abbrev R_View_standsWith (d : Nat) (K : Int32 → am_S → Prop) (pc : Nat) (vs st : List Value) (σ : am_S) : Prop := am_r (am_run (d + 0)) "WheelDisc$View" (some .int) prog_10_method_11_code (am_Ri K) pc vs st σ
def w_View_standsWith (x1 : Int32) (σ : am_S) (K : Int32 → am_S → Prop) : Prop := ∀ d : Nat, am_run (d + 1) y_View_standsWith [.ref 9, .int x1] σ (am_Ri K)
theorem t_View_standsWith {d : Nat} {x1 : Int32}  {σ : am_S} {K : Int32 → am_S → Prop} (h : w_View_standsWith x1 σ K) : am_run (d + 1) y_View_standsWith [.ref 9, .int x1] σ (am_Ri K) := h d
theorem e_View_standsWith {x1 : Int32}  {σ : am_S} {K : Int32 → am_S → Prop} (h : ∀ d : Nat, R_View_standsWith d K 4 [.ref 9, .int x1, .int (nI 0), .int (nI 0)] [] σ) : w_View_standsWith x1 σ K := by
  intro d
  have h := h d
  refine am_begin (vs := [.ref 9, .int x1, .null, .null]) c_View_standsWith (by decide +kernel) rfl rfl rfl rfl ?_
  refine r_iconst (nI 0) d_View_standsWith_0 (by decide) ?_
  refine r_istore_n (vs' := [.ref 9, .int x1, .int (nI 0), .null]) d_View_standsWith_1 rfl rfl ?_
  refine r_iconst (nI 0) d_View_standsWith_2 (by decide) ?_
  refine r_istore_n (vs' := [.ref 9, .int x1, .int (nI 0), .int (nI 0)]) d_View_standsWith_3 rfl rfl ?_
  exact h
theorem l_View_standsWith_4 {d : Nat}  {x1 : Int32} {x2 : Int32} {x3 : Int32}  {σ : am_S} {K : Int32 → am_S → Prop} (h : (am_ite ((σ.1 9 2) ≤ x3) (K x2 σ) (vp_in x3 512 ∧ (am_ite (¬ (σ.1 10 (Int32.toNatClampNeg x3)) = x1) (R_View_standsWith d K 4 [.ref 9, .int x1, .int x2, .int (x3 + nI 1)] [] σ) (R_View_standsWith d K 4 [.ref 9, .int x1, .int (x2 + nI 1), .int (x3 + nI 1)] [] σ))))) : R_View_standsWith d K 4 [.ref 9, .int x1, .int x2, .int x3] [] σ := by
  refine r_iload_n d_View_standsWith_4 rfl ?_
  refine r_aload_n d_View_standsWith_5 rfl ?_
  refine r_getI d_View_standsWith_6 f_View_22 kd_9 rfl ?_
  refine r_icmp2 31 ((σ.1 9 2) ≤ x3) d_View_standsWith_9 (by decide) rfl (fun c1 => ?_) (fun c1 => ?_)
  · have h := h.1 c1
    refine r_iload_n d_View_standsWith_31 rfl ?_
    exact r_iret d_View_standsWith_32 h
  · have h := h.2 c1
    refine r_aload_n d_View_standsWith_12 rfl ?_
    refine r_getR d_View_standsWith_13 f_View_9 kd_9 rfl lk_9_0 ?_
    refine r_iload_n d_View_standsWith_16 rfl ?_
    refine r_iald d_View_standsWith_17 ce_10 ⟨h.1, ?_⟩
    have h := h.2
    refine r_iload_n d_View_standsWith_18 rfl ?_
    refine r_icmp2 25 (¬ (σ.1 10 (Int32.toNatClampNeg x3)) = x1) d_View_standsWith_19 (by decide) rfl (fun c2 => ?_) (fun c2 => ?_)
    · have h := h.1 c2
      refine r_inc1 (vs' := [.ref 9, .int x1, .int x2, .int (x3 + nI 1)]) d_View_standsWith_25 rfl rfl rfl ?_
      refine r_goto 4 d_View_standsWith_28 (by decide) ?_
      exact h
    · have h := h.2 c2
      refine r_inc1 (vs' := [.ref 9, .int x1, .int (x2 + nI 1), .int x3]) d_View_standsWith_22 rfl rfl rfl ?_
      refine r_inc1 (vs' := [.ref 9, .int x1, .int (x2 + nI 1), .int (x3 + nI 1)]) d_View_standsWith_25 rfl rfl rfl ?_
      refine r_goto 4 d_View_standsWith_28 (by decide) ?_
      exact h
