/-! THE LAW: its loop -/
theorem J.scr {θ σ : am_S} (h : J θ σ) : σ.1 1000 = θ.1 1000 ∧ σ.1 1001 = θ.1 1001 := ⟨(h.2 1000 (by omega)).1, (h.2 1001 (by omega)).1⟩
theorem law_round {d : Nat} {θ σ : am_S} {K : Int32 → am_S → Prop} {L i : Nat} (hL : L ≤ 2048) (hθ : θ.1 1001 0 = nI L) (hJ : J θ σ) (hi : i + 4 ≤ L) (nx : ∀ τ, J θ τ → R_Law d K 18 (lvs (nI i + nI 4)) [] τ) : ∀ x : Int32, R_Law d K 32 (lvs (nI i)) [.int x] σ := by
  have e : (σ.1 1001 0).toNatClampNeg = L := by rw [hJ.scr.2, hθ, nI_clamp (by omega)]
  have hv : ∀ j, j < 4 → vp_in (nI i + nI j) (σ.1 1001 0).toNatClampNeg := fun j hj => by
    rw [e, nI_add]
    exact pk_in (i + j) L (by omega)
  have nx2 : ∀ τ, J θ τ → R_Law d K 1157 (lvs (nI i)) [] τ := fun τ hJ => l_Law_1157 (nx τ hJ)
  intro x
  by_cases c0 : x = nI 0
  · refine r_tabIn 204 172 d_Law_32 (by rw [c0]; decide) (by rw [c0]; decide) (by rw [c0]; rfl) (by decide) (lc_0 (hv 1 (by decide)) (hv 2 (by decide)) (hv 3 (by decide)) (x_rim hJ (fun v τ hJ => am_ite_t rfl (nx2 τ hJ))))
  by_cases c1 : x = nI 1
  · refine r_tabIn 237 205 d_Law_32 (by rw [c1]; decide) (by rw [c1]; decide) (by rw [c1]; rfl) (by decide) (lc_1 (hv 1 (by decide)) (hv 2 (by decide)) (hv 3 (by decide)) (x_entry hJ (fun v τ hJ => am_ite_t rfl (nx2 τ hJ))))
  by_cases c2 : x = nI 2
  · refine r_tabIn 300 268 d_Law_32 (by rw [c2]; decide) (by rw [c2]; decide) (by rw [c2]; rfl) (by decide) (lc_2 (hv 1 (by decide)) (hv 2 (by decide)) (hv 3 (by decide)) (x_disc hJ (fun v τ hJ => am_ite_t rfl (nx2 τ hJ))))
  by_cases c3 : x = nI 3
  · refine r_tabIn 323 291 d_Law_32 (by rw [c3]; decide) (by rw [c3]; decide) (by rw [c3]; rfl) (by decide) (lc_3 (hv 1 (by decide)) (hv 2 (by decide)) (hv 3 (by decide)) (x_track hJ (fun v τ hJ => am_ite_t rfl (nx2 τ hJ))))
  by_cases c4 : x = nI 4
  · refine r_tabIn 336 304 d_Law_32 (by rw [c4]; decide) (by rw [c4]; decide) (by rw [c4]; rfl) (by decide) (lc_4 (hv 1 (by decide)) (hv 2 (by decide)) (hv 3 (by decide)) (fun b => x_light hJ (fun v τ hJ => am_ite_t rfl (nx2 τ hJ))))
  by_cases c5 : x = nI 5
  · refine r_tabIn 395 363 d_Law_32 (by rw [c5]; decide) (by rw [c5]; decide) (by rw [c5]; rfl) (by decide) (lc_5 (hv 1 (by decide)) (hv 2 (by decide)) (hv 3 (by decide)) (x_reader hJ (fun v τ hJ => am_ite_t rfl (nx2 τ hJ))))
  by_cases c6 : x = nI 6
  · refine r_tabIn 428 396 d_Law_32 (by rw [c6]; decide) (by rw [c6]; decide) (by rw [c6]; rfl) (by decide) (lc_6 (hv 1 (by decide)) (hv 2 (by decide)) (hv 3 (by decide)) (x_lift hJ (fun v τ hJ => am_ite_t rfl (nx2 τ hJ))))
  by_cases c7 : x = nI 7
  · refine r_tabIn 451 419 d_Law_32 (by rw [c7]; decide) (by rw [c7]; decide) (by rw [c7]; rfl) (by decide) (lc_7 (hv 1 (by decide)) (hv 2 (by decide)) (hv 3 (by decide)) (x_turn hJ (fun v τ hJ => am_ite_t rfl (nx2 τ hJ))))
  by_cases c8 : x = nI 8
  · refine r_tabIn 474 442 d_Law_32 (by rw [c8]; decide) (by rw [c8]; decide) (by rw [c8]; rfl) (by decide) (lc_8 (hv 1 (by decide)) (hv 2 (by decide)) (hv 3 (by decide)) (x_mirror hJ (fun v τ hJ => am_ite_t rfl (nx2 τ hJ))))
  by_cases c9 : x = nI 9
  · refine r_tabIn 487 455 d_Law_32 (by rw [c9]; decide) (by rw [c9]; decide) (by rw [c9]; rfl) (by decide) (lc_9 (hv 1 (by decide)) (hv 2 (by decide)) (hv 3 (by decide)) (x_swap hJ (fun v τ hJ => am_ite_t rfl (nx2 τ hJ))))
  by_cases c10 : x = nI 10
  · refine r_tabIn 520 488 d_Law_32 (by rw [c10]; decide) (by rw [c10]; decide) (by rw [c10]; rfl) (by decide) (lc_10 (hv 1 (by decide)) (hv 2 (by decide)) (hv 3 (by decide)) (x_undo hJ (fun v τ hJ => am_ite_t rfl (nx2 τ hJ))))
  by_cases c11 : x = nI 11
  · refine r_tabIn 533 501 d_Law_32 (by rw [c11]; decide) (by rw [c11]; decide) (by rw [c11]; rfl) (by decide) (lc_11 (hv 1 (by decide)) (hv 2 (by decide)) (hv 3 (by decide)) (x_count hJ (fun v τ hJ => am_ite_t rfl (nx2 τ hJ))))
  by_cases c12 : x = nI 12
  · refine r_tabIn 556 524 d_Law_32 (by rw [c12]; decide) (by rw [c12]; decide) (by rw [c12]; rfl) (by decide) (lc_12 (hv 1 (by decide)) (hv 2 (by decide)) (hv 3 (by decide)) (x_word hJ (fun v τ hJ => am_ite_t rfl (nx2 τ hJ))))
  by_cases c13 : x = nI 13
  · refine r_tabIn 579 547 d_Law_32 (by rw [c13]; decide) (by rw [c13]; decide) (by rw [c13]; rfl) (by decide) (lc_13 (hv 1 (by decide)) (hv 2 (by decide)) (hv 3 (by decide)) (x_seen hJ (fun v τ hJ => am_ite_t rfl (nx2 τ hJ))))
  by_cases c14 : x = nI 14
  · refine r_tabIn 612 580 d_Law_32 (by rw [c14]; decide) (by rw [c14]; decide) (by rw [c14]; rfl) (by decide) (lc_14 (hv 1 (by decide)) (hv 2 (by decide)) (hv 3 (by decide)) (x_where hJ (fun v τ hJ => am_ite_t rfl (nx2 τ hJ))))
  by_cases c15 : x = nI 15
  · refine r_tabIn 635 603 d_Law_32 (by rw [c15]; decide) (by rw [c15]; decide) (by rw [c15]; rfl) (by decide) (lc_15 (hv 1 (by decide)) (hv 2 (by decide)) (hv 3 (by decide)) (x_at hJ (fun v τ hJ => am_ite_t rfl (nx2 τ hJ))))
  by_cases c16 : x = nI 16
  · refine r_tabIn 668 636 d_Law_32 (by rw [c16]; decide) (by rw [c16]; decide) (by rw [c16]; rfl) (by decide) (lc_16 (hv 1 (by decide)) (hv 2 (by decide)) (hv 3 (by decide)) (x_edge hJ (fun v τ hJ => am_ite_t rfl (nx2 τ hJ))))
  by_cases c17 : x = nI 17
  · refine r_tabIn 691 659 d_Law_32 (by rw [c17]; decide) (by rw [c17]; decide) (by rw [c17]; rfl) (by decide) (lc_17 (hv 1 (by decide)) (hv 2 (by decide)) (hv 3 (by decide)) (x_way hJ (fun v τ hJ => am_ite_t rfl (nx2 τ hJ))))
  by_cases c18 : x = nI 18
  · refine r_tabIn 724 692 d_Law_32 (by rw [c18]; decide) (by rw [c18]; decide) (by rw [c18]; rfl) (by decide) (lc_18 (hv 1 (by decide)) (hv 2 (by decide)) (hv 3 (by decide)) (x_fewest hJ (fun v τ hJ => am_ite_t rfl (nx2 τ hJ))))
  by_cases c19 : x = nI 19
  · refine r_tabIn 737 705 d_Law_32 (by rw [c19]; decide) (by rw [c19]; decide) (by rw [c19]; rfl) (by decide) (lc_19 (hv 1 (by decide)) (hv 2 (by decide)) (hv 3 (by decide)) (x_blind hJ (fun v τ hJ => am_ite_t rfl (nx2 τ hJ))))
  by_cases c20 : x = nI 20
  · refine r_tabIn 750 718 d_Law_32 (by rw [c20]; decide) (by rw [c20]; decide) (by rw [c20]; rfl) (by decide) (lc_20 (hv 1 (by decide)) (hv 2 (by decide)) (hv 3 (by decide)) (x_spare hJ (fun v τ hJ => am_ite_t rfl (nx2 τ hJ))))
  by_cases c21 : x = nI 21
  · refine r_tabIn 763 731 d_Law_32 (by rw [c21]; decide) (by rw [c21]; decide) (by rw [c21]; rfl) (by decide) (lc_21 (hv 1 (by decide)) (hv 2 (by decide)) (hv 3 (by decide)) (x_form hJ (fun v τ hJ => am_ite_t rfl (nx2 τ hJ))))
  by_cases c22 : x = nI 22
  · refine r_tabIn 786 754 d_Law_32 (by rw [c22]; decide) (by rw [c22]; decide) (by rw [c22]; rfl) (by decide) (lc_22 (hv 1 (by decide)) (hv 2 (by decide)) (hv 3 (by decide)) (x_keep hJ (fun v τ hJ => am_ite_t rfl (nx2 τ hJ))))
  by_cases c23 : x = nI 23
  · refine r_tabIn 799 767 d_Law_32 (by rw [c23]; decide) (by rw [c23]; decide) (by rw [c23]; rfl) (by decide) (lc_23 (hv 1 (by decide)) (hv 2 (by decide)) (hv 3 (by decide)) (x_same hJ (fun v τ hJ => am_ite_t rfl (nx2 τ hJ))))
  by_cases c24 : x = nI 24
  · refine r_tabIn 812 780 d_Law_32 (by rw [c24]; decide) (by rw [c24]; decide) (by rw [c24]; rfl) (by decide) (lc_24 (hv 1 (by decide)) (hv 2 (by decide)) (hv 3 (by decide)) (x_gray hJ (fun v τ hJ => am_ite_t rfl (nx2 τ hJ))))
  by_cases c25 : x = nI 25
  · refine r_tabIn 845 813 d_Law_32 (by rw [c25]; decide) (by rw [c25]; decide) (by rw [c25]; rfl) (by decide) (lc_25 (hv 1 (by decide)) (hv 2 (by decide)) (hv 3 (by decide)) (x_chain hJ (fun v τ hJ => am_ite_t rfl (nx2 τ hJ))))
  by_cases c26 : x = nI 26
  · refine r_tabIn 878 846 d_Law_32 (by rw [c26]; decide) (by rw [c26]; decide) (by rw [c26]; rfl) (by decide) (lc_26 (hv 1 (by decide)) (hv 2 (by decide)) (hv 3 (by decide)) (x_single hJ (fun v τ hJ => am_ite_t rfl (nx2 τ hJ))))
  by_cases c27 : x = nI 27
  · refine r_tabIn 921 889 d_Law_32 (by rw [c27]; decide) (by rw [c27]; decide) (by rw [c27]; rfl) (by decide) (lc_27 (hv 1 (by decide)) (hv 2 (by decide)) (hv 3 (by decide)) (x_go hJ (fun v τ hJ => am_ite_t rfl (nx2 τ hJ))))
  by_cases c28 : x = nI 28
  · refine r_tabIn 944 912 d_Law_32 (by rw [c28]; decide) (by rw [c28]; decide) (by rw [c28]; rfl) (by decide) (lc_28 (hv 1 (by decide)) (hv 2 (by decide)) (hv 3 (by decide)) (x_drive hJ (fun v τ hJ => am_ite_t rfl (nx2 τ hJ))))
  by_cases c29 : x = nI 29
  · refine r_tabIn 967 935 d_Law_32 (by rw [c29]; decide) (by rw [c29]; decide) (by rw [c29]; rfl) (by decide) (lc_29 (hv 1 (by decide)) (hv 2 (by decide)) (hv 3 (by decide)) (x_halt hJ (fun v τ hJ => am_ite_t rfl (nx2 τ hJ))))
  by_cases c30 : x = nI 30
  · refine r_tabIn 980 948 d_Law_32 (by rw [c30]; decide) (by rw [c30]; decide) (by rw [c30]; rfl) (by decide) (lc_30 (hv 1 (by decide)) (hv 2 (by decide)) (hv 3 (by decide)) (x_slip hJ (fun v τ hJ => am_ite_t rfl (nx2 τ hJ))))
  by_cases c31 : x = nI 31
  · refine r_tabIn 993 961 d_Law_32 (by rw [c31]; decide) (by rw [c31]; decide) (by rw [c31]; rfl) (by decide) (lc_31 (hv 1 (by decide)) (hv 2 (by decide)) (hv 3 (by decide)) (x_stands hJ (fun v τ hJ => am_ite_t rfl (nx2 τ hJ))))
  by_cases c32 : x = nI 32
  · refine r_tabIn 1016 984 d_Law_32 (by rw [c32]; decide) (by rw [c32]; decide) (by rw [c32]; rfl) (by decide) (lc_32 (hv 1 (by decide)) (hv 2 (by decide)) (hv 3 (by decide)) (x_stand hJ (fun v τ hJ => am_ite_t rfl (nx2 τ hJ))))
  by_cases c33 : x = nI 33
  · refine r_tabIn 1039 1007 d_Law_32 (by rw [c33]; decide) (by rw [c33]; decide) (by rw [c33]; rfl) (by decide) (lc_33 (hv 1 (by decide)) (hv 2 (by decide)) (hv 3 (by decide)) (x_mend hJ (fun v τ hJ => am_ite_t rfl (nx2 τ hJ))))
  by_cases c34 : x = nI 34
  · refine r_tabIn 1052 1020 d_Law_32 (by rw [c34]; decide) (by rw [c34]; decide) (by rw [c34]; rfl) (by decide) (lc_34 (hv 1 (by decide)) (hv 2 (by decide)) (hv 3 (by decide)) (x_tell hJ (fun v τ hJ => am_ite_t rfl (nx2 τ hJ))))
  by_cases c35 : x = nI 35
  · refine r_tabIn 1075 1043 d_Law_32 (by rw [c35]; decide) (by rw [c35]; decide) (by rw [c35]; rfl) (by decide) (lc_35 (hv 1 (by decide)) (hv 2 (by decide)) (hv 3 (by decide)) (x_forge hJ (fun v τ hJ => am_ite_t rfl (nx2 τ hJ))))
  by_cases c36 : x = nI 36
  · refine r_tabIn 1108 1076 d_Law_32 (by rw [c36]; decide) (by rw [c36]; decide) (by rw [c36]; rfl) (by decide) (lc_36 (hv 1 (by decide)) (hv 2 (by decide)) (hv 3 (by decide)) (x_check hJ (fun v τ hJ => am_ite_t rfl (nx2 τ hJ))))
  by_cases c37 : x = nI 37
  · refine r_tabIn 1131 1099 d_Law_32 (by rw [c37]; decide) (by rw [c37]; decide) (by rw [c37]; rfl) (by decide) (lc_37 (hv 1 (by decide)) (hv 2 (by decide)) (hv 3 (by decide)) (x_clear hJ (fun v τ hJ => am_ite_t rfl (nx2 τ hJ))))
  by_cases c38 : x = nI 38
  · refine r_tabIn 1144 1112 d_Law_32 (by rw [c38]; decide) (by rw [c38]; decide) (by rw [c38]; rfl) (by decide) (lc_38 (hv 1 (by decide)) (hv 2 (by decide)) (hv 3 (by decide)) (x_fault hJ (fun v τ hJ => am_ite_t rfl (nx2 τ hJ))))
  exact r_tabOut 1157 d_Law_32 (am_tab0 38 (by decide) (fun j hj => by rcases (show j = 0 ∨ j = 1 ∨ j = 2 ∨ j = 3 ∨ j = 4 ∨ j = 5 ∨ j = 6 ∨ j = 7 ∨ j = 8 ∨ j = 9 ∨ j = 10 ∨ j = 11 ∨ j = 12 ∨ j = 13 ∨ j = 14 ∨ j = 15 ∨ j = 16 ∨ j = 17 ∨ j = 18 ∨ j = 19 ∨ j = 20 ∨ j = 21 ∨ j = 22 ∨ j = 23 ∨ j = 24 ∨ j = 25 ∨ j = 26 ∨ j = 27 ∨ j = 28 ∨ j = 29 ∨ j = 30 ∨ j = 31 ∨ j = 32 ∨ j = 33 ∨ j = 34 ∨ j = 35 ∨ j = 36 ∨ j = 37 ∨ j = 38 by omega) with rfl | rfl | rfl | rfl | rfl | rfl | rfl | rfl | rfl | rfl | rfl | rfl | rfl | rfl | rfl | rfl | rfl | rfl | rfl | rfl | rfl | rfl | rfl | rfl | rfl | rfl | rfl | rfl | rfl | rfl | rfl | rfl | rfl | rfl | rfl | rfl | rfl | rfl | rfl <;> assumption)) (by decide) (nx2 σ hJ)
theorem law_loop {d : Nat} {θ : am_S} {K : Int32 → am_S → Prop} {L : Nat} (hL : L ≤ 2048) (hθ : θ.1 1001 0 = nI L) (hK : ∀ τ, K (nI 1) τ) : ∀ q i (σ : am_S), L ≤ i + q → i ≤ 4096 → J θ σ → R_Law d K 18 (lvs (nI i)) [] σ := by
  intro q
  induction q with
  | zero =>
    intro i σ hq hi hJ
    refine r_iload_n d_Law_18 rfl (r_aload_n d_Law_19 rfl (r_slen d_Law_20 (r_iconst (nI 4) d_Law_21 (by decide) (r_isub d_Law_22 ?_))))
    rw [hJ.scr.2, hθ]
    refine r_icmp2 1163 (nI L - nI 4 < nI i) d_Law_23 (by decide) rfl (fun _ => r_iconst (nI 1) d_Law_1163 (by decide) (r_zret1 d_Law_1164 (hK σ))) (fun c => absurd ?_ c)
    rw [Int32.lt_iff_toInt_lt, pk_sub_toInt (by omega) (by omega), nI_toInt (by omega)]
    omega
  | succ q ih =>
    intro i σ hq hi hJ
    refine r_iload_n d_Law_18 rfl (r_aload_n d_Law_19 rfl (r_slen d_Law_20 (r_iconst (nI 4) d_Law_21 (by decide) (r_isub d_Law_22 ?_))))
    rw [hJ.scr.2, hθ]
    refine r_icmp2 1163 (nI L - nI 4 < nI i) d_Law_23 (by decide) rfl (fun _ => r_iconst (nI 1) d_Law_1163 (by decide) (r_zret1 d_Law_1164 (hK σ))) (fun c => ?_)
    have hi4 : i + 4 ≤ L := by
      rw [Int32.lt_iff_toInt_lt, pk_sub_toInt (by omega) (by omega), nI_toInt (by omega)] at c
      omega
    refine r_aload_n d_Law_26 rfl (r_iload_n d_Law_27 rfl (r_scr d_Law_28 ⟨?_, r_bipush (nI 63) d_Law_29 (by decide) (r_iand d_Law_31 ?_)⟩))
    · rw [hJ.scr.2, hθ, nI_clamp (by omega)]
      exact pk_in i L (by omega)
    · refine law_round hL hθ hJ hi4 (fun τ hJ => ?_) _
      rw [nI_add]
      exact ih (i + 4) τ (by omega) (by omega) hJ
