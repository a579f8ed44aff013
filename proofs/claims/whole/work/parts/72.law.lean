/-! THE LAW: each of its cases -/
/-- the script stays -/
def am_kp (c σ : am_S) : Prop := σ.1 1000 = c.1 1000 ∧ σ.1 1001 = c.1 1001
theorem am_kp_up {c σ : am_S} {k i : Nat} {v : Int32} (h : am_kp c σ) (hk : k < 169) : am_kp c (am_upI σ k i v) := ⟨by rw [(am_upI_ne σ i v (show (1000 : Nat) ≠ k by omega)).1]; exact h.1, by rw [(am_upI_ne σ i v (show (1001 : Nat) ≠ k by omega)).1]; exact h.2⟩
theorem am_kp_cp {c σ : am_S} {a b sp dp n : Nat} (h : am_kp c σ) (hk : b < 169) : am_kp c (am_cpI σ a b sp dp n) := ⟨by rw [(am_cpI_ne σ (show (1000 : Nat) ≠ b by omega)).1]; exact h.1, by rw [(am_cpI_ne σ (show (1001 : Nat) ≠ b by omega)).1]; exact h.2⟩
theorem am_isF_lt {own : String} {idx k i : Nat} (h : am_isF own idx (am_kind k) i) : k < 169 := by
  obtain ⟨q, hq, _⟩ := h
  exact am_kind_lt (by have := (List.getElem?_eq_some_iff.mp hq).1; have : am_kind k < 11 := this; omega)
theorem am_copy_keep {c : am_S} {st : List Value} {σ : am_S} {k : List Value → am_S → Prop} (hs : am_kp c σ) (h : am_copy st σ k) : am_copy st σ (fun st τ => k st τ ∧ am_kp c τ) := by
  unfold am_copy at h ⊢
  split at h
  · obtain ⟨g1, g2, g3, g4, g5, g6, g7, h⟩ := h
    refine ⟨g1, g2, g3, g4, g5, g6, g7, ?_⟩
    rcases h with ⟨a, h⟩ | ⟨a, h⟩
    · exact Or.inl ⟨a, h, am_kp_cp hs (am_kind_lt (by rw [← g7]; rcases a with a | a; omega; omega))⟩
    · exact Or.inr ⟨a, h, hs⟩
  · exact absurd h id
theorem am_x_keep {c : am_S} {C : am_C} {own : String} {ret : Option FieldType} {i : Instr} {len pc : Nat} {vs st : List Value} {σ : am_S} {K : am_K} {Q : am_Q} (hm : am_mon C) (hC : ∀ y As σ Q, am_kp c σ → C y As σ Q → C y As σ (fun r τ => Q r τ ∧ am_kp c τ)) (hs : am_kp c σ) (h : am_x C own ret i len pc vs st σ K Q) : am_x C own ret i len pc vs st σ (fun pc vs st τ => K pc vs st τ ∧ am_kp c τ) (fun r τ => Q r τ ∧ am_kp c τ) := by
  unfold am_x at h ⊢
  split at h
  all_goals first
    | exact ⟨h.1, h.2, hs⟩
    | exact ⟨h.1, h.2.1, h.2.2, hs⟩
    | exact ⟨h.1, h.2.1, h.2.2.1, h.2.2.2, hs⟩
    | exact ⟨h.1, h.2.1, h.2.2, am_kp_up hs (am_kind_lt (by have := h.2.1.1; omega))⟩
    | exact ⟨h.1, h.2.1, h.2.2.1, h.2.2.2, am_kp_up hs (am_kind_lt (by have := h.2.1.1; omega))⟩
    | (obtain ⟨a, v, b, d, h⟩ := h; exact ⟨a, v, b, d, h, am_kp_up hs (am_isF_lt b)⟩)
    | (obtain ⟨a, v, b, h⟩ := h; exact ⟨a, v, b, h, hs⟩)
    | (obtain ⟨a, b, v, d, h⟩ := h; exact ⟨a, b, v, d, h, hs⟩)
    | (obtain ⟨a, ⟨b, d, h⟩ | ⟨b, h⟩⟩ := h
       · exact ⟨a, Or.inl ⟨b, d, h, hs⟩⟩
       · exact ⟨a, Or.inr ⟨b, h, hs⟩⟩)
    | (obtain ⟨a, t, b, h1, h2⟩ := h; exact ⟨a, t, b, fun z => ⟨h1 z, hs⟩, fun z => ⟨h2 z, hs⟩⟩)
    | (obtain ⟨t, h, b⟩ := h; exact ⟨t, ⟨h, hs⟩, b⟩)
    | (obtain ⟨a, y, As, k, rest, b, d, e, f, h⟩ := h; exact ⟨a, y, As, k, rest, b, d, e, f, hm _ _ _ _ _ (fun r τ z => z) (hC _ _ _ _ hs h)⟩)
    | (obtain ⟨a, ⟨y, As, rest, b, d, e, h⟩ | ⟨b, h⟩⟩ := h
       · exact ⟨a, Or.inl ⟨y, As, rest, b, d, e, hm _ _ _ _ _ (fun r τ z => z) (hC _ _ _ _ hs h)⟩⟩
       · exact ⟨a, Or.inr ⟨b, am_copy_keep hs h⟩⟩)
    | exact absurd h id
theorem am_keep (c : am_S) : ∀ d y As σ Q, am_kp c σ → am_run d y As σ Q → am_run d y As σ (fun r τ => Q r τ ∧ am_kp c τ) := by
  intro d
  induction d with
  | zero => intro y As σ Q _ h; exact absurd h id
  | succ d ih =>
    intro y As σ Q hs h
    obtain ⟨cc, maxL, ret, h1, h2, h3, h4, h5, h⟩ := h
    refine ⟨cc, maxL, ret, h1, h2, h3, h4, h5, ?_⟩
    exact h (fun pc vs st σ => am_kp c σ → am_r (am_run d) y.cls ret cc (fun r τ => Q r τ ∧ am_kp c τ) pc vs st σ) (fun pc vs st σ ⟨i, len, hd, hx⟩ hs => am_in (am_run_mon d) hd (am_x_mono (am_run_mon d) (fun _ _ _ _ z => z.1 z.2) (fun _ _ z => z) (am_x_keep (am_run_mon d) ih hs hx))) hs
section LAWR
variable {d : Nat} {own : String} {ret : Option FieldType} {cc : ByteArray} {Q : am_Q} {pc : Nat} {vs st : List Value} {σ : am_S}
theorem r_virtK {idx k n : Nat} {y : MethodName} (As rest : List Value) {k1 : Int32 → am_S → Prop} (hd : decode cc pc = .ok (.invokevirtual idx, 3)) (hV : am_isV own idx y n) (hst : st = As.reverse ++ .ref k :: rest) (hn : As.length = n) (hk : am_cn k = y.cls) (hr : Nat.ble (rest.map fun v => v.category).sum 8 = true) (hM : am_run d y (.ref k :: As) σ (am_Ri k1)) (kk : ∀ x τ, k1 x τ → am_kp σ τ → am_r (am_run d) own ret cc Q (pc + 3) vs (.int x :: rest) τ) : am_r (am_run d) own ret cc Q pc vs st σ :=
  r_virt As rest hd hV hst hn hk hr (am_keep σ d _ _ _ _ ⟨rfl, rfl⟩ hM) (fun r τ ⟨⟨x, hx, hk⟩, hz⟩ => by subst hx; exact kk x τ hk hz)
theorem r_scrK {c : am_S} {i : Int32} (hd : decode cc pc = .ok (.iaload, 1)) (hs : am_kp c σ) (hv : vp_in i (c.1 1001 0).toNatClampNeg) (kk : am_r (am_run d) own ret cc Q (pc + 1) vs (.int (c.1 1000 i.toNatClampNeg) :: st) σ) : am_r (am_run d) own ret cc Q pc vs (.int i :: .ref 1000 :: st) σ := r_scr hd (by rw [hs.1, hs.2]; exact ⟨hv, kk⟩)
end LAWR
abbrev R_Law (d : Nat) (K : Int32 → am_S → Prop) (pc : Nat) (vs st : List Value) (σ : am_S) : Prop := am_r (am_run (d + 20)) "WheelDiscLaw" (some .boolean) code (am_Ri K) pc vs st σ
abbrev lvs (x3 : Int32) : List Value := [.ref 1000, .ref 0, .ref 153, .int x3]
theorem l_Law_1157 {d : Nat} {x3 : Int32} {σ : am_S} {K : Int32 → am_S → Prop} (h : R_Law d K 18 (lvs (x3 + nI 4)) [] σ) : R_Law d K 1157 (lvs x3) [] σ := r_iinc d_Law_1157 rfl rfl rfl rfl (r_goto 18 d_Law_1160 (by decide) h)
theorem v_Law_13 : am_isV "WheelDiscLaw" 13 y_WD_rim 2 := ⟨am_mem 353 (by decide +kernel) rfl, am_mem 354 (by decide +kernel) rfl, am_mem 355 (by decide +kernel) rfl, am_mem 62 (by decide +kernel) rfl, by decide, by decide, by decide +kernel⟩
theorem v_Law_17 : am_isV "WheelDiscLaw" 17 y_Mod_rim 2 := ⟨am_mem 1032 (by decide +kernel) rfl, am_mem 1033 (by decide +kernel) rfl, am_mem 1034 (by decide +kernel) rfl, am_mem 72 (by decide +kernel) rfl, by decide, by decide, by decide +kernel⟩
theorem k_Law_18 : Cond.constantLong "WheelDiscLaw" 18 (4294967295) ∈ am_T := am_mem 1299 (by decide +kernel) rfl
theorem v_Law_20 : am_isV "WheelDiscLaw" 20 y_WD_entry 2 := ⟨am_mem 372 (by decide +kernel) rfl, am_mem 373 (by decide +kernel) rfl, am_mem 374 (by decide +kernel) rfl, am_mem 62 (by decide +kernel) rfl, by decide, by decide, by decide +kernel⟩
theorem v_Law_24 : am_isV "WheelDiscLaw" 24 y_Mod_entry 2 := ⟨am_mem 1040 (by decide +kernel) rfl, am_mem 1041 (by decide +kernel) rfl, am_mem 1042 (by decide +kernel) rfl, am_mem 72 (by decide +kernel) rfl, by decide, by decide, by decide +kernel⟩
theorem v_Law_25 : am_isV "WheelDiscLaw" 25 y_WD_disc 1 := ⟨am_mem 388 (by decide +kernel) rfl, am_mem 389 (by decide +kernel) rfl, am_mem 390 (by decide +kernel) rfl, am_mem 62 (by decide +kernel) rfl, by decide, by decide, by decide +kernel⟩
theorem v_Law_29 : am_isV "WheelDiscLaw" 29 y_Mod_disc 1 := ⟨am_mem 1044 (by decide +kernel) rfl, am_mem 1045 (by decide +kernel) rfl, am_mem 1046 (by decide +kernel) rfl, am_mem 72 (by decide +kernel) rfl, by decide, by decide, by decide +kernel⟩
theorem v_Law_30 : am_isV "WheelDiscLaw" 30 y_WD_track 0 := ⟨am_mem 423 (by decide +kernel) rfl, am_mem 424 (by decide +kernel) rfl, am_mem 425 (by decide +kernel) rfl, am_mem 62 (by decide +kernel) rfl, by decide, by decide, by decide +kernel⟩
theorem v_Law_34 : am_isV "WheelDiscLaw" 34 y_Mod_track 0 := ⟨am_mem 1060 (by decide +kernel) rfl, am_mem 1061 (by decide +kernel) rfl, am_mem 1062 (by decide +kernel) rfl, am_mem 72 (by decide +kernel) rfl, by decide, by decide, by decide +kernel⟩
theorem v_Law_35 : am_isV "WheelDiscLaw" 35 y_WD_light 3 := ⟨am_mem 445 (by decide +kernel) rfl, am_mem 446 (by decide +kernel) rfl, am_mem 447 (by decide +kernel) rfl, am_mem 62 (by decide +kernel) rfl, by decide, by decide, by decide +kernel⟩
theorem v_Law_39 : am_isV "WheelDiscLaw" 39 y_Mod_light 3 := ⟨am_mem 1072 (by decide +kernel) rfl, am_mem 1073 (by decide +kernel) rfl, am_mem 1074 (by decide +kernel) rfl, am_mem 72 (by decide +kernel) rfl, by decide, by decide, by decide +kernel⟩
theorem v_Law_40 : am_isV "WheelDiscLaw" 40 y_WD_reader 2 := ⟨am_mem 464 (by decide +kernel) rfl, am_mem 465 (by decide +kernel) rfl, am_mem 466 (by decide +kernel) rfl, am_mem 62 (by decide +kernel) rfl, by decide, by decide, by decide +kernel⟩
theorem v_Law_43 : am_isV "WheelDiscLaw" 43 y_Mod_reader 2 := ⟨am_mem 1076 (by decide +kernel) rfl, am_mem 1077 (by decide +kernel) rfl, am_mem 1078 (by decide +kernel) rfl, am_mem 72 (by decide +kernel) rfl, by decide, by decide, by decide +kernel⟩
theorem v_Law_44 : am_isV "WheelDiscLaw" 44 y_WD_lift 1 := ⟨am_mem 472 (by decide +kernel) rfl, am_mem 473 (by decide +kernel) rfl, am_mem 474 (by decide +kernel) rfl, am_mem 62 (by decide +kernel) rfl, by decide, by decide, by decide +kernel⟩
theorem v_Law_48 : am_isV "WheelDiscLaw" 48 y_Mod_lift 1 := ⟨am_mem 1084 (by decide +kernel) rfl, am_mem 1085 (by decide +kernel) rfl, am_mem 1086 (by decide +kernel) rfl, am_mem 72 (by decide +kernel) rfl, by decide, by decide, by decide +kernel⟩
theorem v_Law_49 : am_isV "WheelDiscLaw" 49 y_WD_turn 1 := ⟨am_mem 484 (by decide +kernel) rfl, am_mem 485 (by decide +kernel) rfl, am_mem 486 (by decide +kernel) rfl, am_mem 62 (by decide +kernel) rfl, by decide, by decide, by decide +kernel⟩
theorem v_Law_52 : am_isV "WheelDiscLaw" 52 y_Mod_turn 1 := ⟨am_mem 1088 (by decide +kernel) rfl, am_mem 1089 (by decide +kernel) rfl, am_mem 1090 (by decide +kernel) rfl, am_mem 72 (by decide +kernel) rfl, by decide, by decide, by decide +kernel⟩
theorem v_Law_53 : am_isV "WheelDiscLaw" 53 y_WD_mirror 0 := ⟨am_mem 505 (by decide +kernel) rfl, am_mem 506 (by decide +kernel) rfl, am_mem 507 (by decide +kernel) rfl, am_mem 62 (by decide +kernel) rfl, by decide, by decide, by decide +kernel⟩
theorem v_Law_57 : am_isV "WheelDiscLaw" 57 y_Mod_mirror 0 := ⟨am_mem 1096 (by decide +kernel) rfl, am_mem 1097 (by decide +kernel) rfl, am_mem 1098 (by decide +kernel) rfl, am_mem 72 (by decide +kernel) rfl, by decide, by decide, by decide +kernel⟩
theorem v_Law_58 : am_isV "WheelDiscLaw" 58 y_WD_swap 2 := ⟨am_mem 513 (by decide +kernel) rfl, am_mem 514 (by decide +kernel) rfl, am_mem 515 (by decide +kernel) rfl, am_mem 62 (by decide +kernel) rfl, by decide, by decide, by decide +kernel⟩
theorem v_Law_62 : am_isV "WheelDiscLaw" 62 y_Mod_swap 2 := ⟨am_mem 1100 (by decide +kernel) rfl, am_mem 1101 (by decide +kernel) rfl, am_mem 1102 (by decide +kernel) rfl, am_mem 72 (by decide +kernel) rfl, by decide, by decide, by decide +kernel⟩
theorem v_Law_63 : am_isV "WheelDiscLaw" 63 y_WD_undo 0 := ⟨am_mem 521 (by decide +kernel) rfl, am_mem 522 (by decide +kernel) rfl, am_mem 523 (by decide +kernel) rfl, am_mem 62 (by decide +kernel) rfl, by decide, by decide, by decide +kernel⟩
theorem v_Law_66 : am_isV "WheelDiscLaw" 66 y_Mod_undo 0 := ⟨am_mem 1104 (by decide +kernel) rfl, am_mem 1105 (by decide +kernel) rfl, am_mem 1106 (by decide +kernel) rfl, am_mem 72 (by decide +kernel) rfl, by decide, by decide, by decide +kernel⟩
theorem v_Law_67 : am_isV "WheelDiscLaw" 67 y_WD_count 1 := ⟨am_mem 529 (by decide +kernel) rfl, am_mem 530 (by decide +kernel) rfl, am_mem 531 (by decide +kernel) rfl, am_mem 62 (by decide +kernel) rfl, by decide, by decide, by decide +kernel⟩
theorem v_Law_70 : am_isV "WheelDiscLaw" 70 y_Mod_count 1 := ⟨am_mem 1108 (by decide +kernel) rfl, am_mem 1109 (by decide +kernel) rfl, am_mem 1110 (by decide +kernel) rfl, am_mem 72 (by decide +kernel) rfl, by decide, by decide, by decide +kernel⟩
theorem v_Law_71 : am_isV "WheelDiscLaw" 71 y_WD_word 1 := ⟨am_mem 591 (by decide +kernel) rfl, am_mem 592 (by decide +kernel) rfl, am_mem 593 (by decide +kernel) rfl, am_mem 62 (by decide +kernel) rfl, by decide, by decide, by decide +kernel⟩
theorem v_Law_74 : am_isV "WheelDiscLaw" 74 y_Mod_word 1 := ⟨am_mem 1137 (by decide +kernel) rfl, am_mem 1138 (by decide +kernel) rfl, am_mem 1139 (by decide +kernel) rfl, am_mem 72 (by decide +kernel) rfl, by decide, by decide, by decide +kernel⟩
theorem v_Law_75 : am_isV "WheelDiscLaw" 75 y_WD_seen 2 := ⟨am_mem 595 (by decide +kernel) rfl, am_mem 596 (by decide +kernel) rfl, am_mem 597 (by decide +kernel) rfl, am_mem 62 (by decide +kernel) rfl, by decide, by decide, by decide +kernel⟩
theorem v_Law_78 : am_isV "WheelDiscLaw" 78 y_Mod_seen 2 := ⟨am_mem 1145 (by decide +kernel) rfl, am_mem 1146 (by decide +kernel) rfl, am_mem 1147 (by decide +kernel) rfl, am_mem 72 (by decide +kernel) rfl, by decide, by decide, by decide +kernel⟩
theorem v_Law_79 : am_isV "WheelDiscLaw" 79 y_WD_where 1 := ⟨am_mem 614 (by decide +kernel) rfl, am_mem 615 (by decide +kernel) rfl, am_mem 616 (by decide +kernel) rfl, am_mem 62 (by decide +kernel) rfl, by decide, by decide, by decide +kernel⟩
theorem v_Law_82 : am_isV "WheelDiscLaw" 82 y_Mod_where 1 := ⟨am_mem 1149 (by decide +kernel) rfl, am_mem 1150 (by decide +kernel) rfl, am_mem 1151 (by decide +kernel) rfl, am_mem 72 (by decide +kernel) rfl, by decide, by decide, by decide +kernel⟩
theorem v_Law_83 : am_isV "WheelDiscLaw" 83 y_WD_at 2 := ⟨am_mem 622 (by decide +kernel) rfl, am_mem 623 (by decide +kernel) rfl, am_mem 624 (by decide +kernel) rfl, am_mem 62 (by decide +kernel) rfl, by decide, by decide, by decide +kernel⟩
theorem v_Law_86 : am_isV "WheelDiscLaw" 86 y_Mod_at 2 := ⟨am_mem 1153 (by decide +kernel) rfl, am_mem 1154 (by decide +kernel) rfl, am_mem 1155 (by decide +kernel) rfl, am_mem 72 (by decide +kernel) rfl, by decide, by decide, by decide +kernel⟩
theorem v_Law_87 : am_isV "WheelDiscLaw" 87 y_WD_edge 1 := ⟨am_mem 630 (by decide +kernel) rfl, am_mem 631 (by decide +kernel) rfl, am_mem 632 (by decide +kernel) rfl, am_mem 62 (by decide +kernel) rfl, by decide, by decide, by decide +kernel⟩
theorem v_Law_90 : am_isV "WheelDiscLaw" 90 y_Mod_edge 1 := ⟨am_mem 1157 (by decide +kernel) rfl, am_mem 1158 (by decide +kernel) rfl, am_mem 1159 (by decide +kernel) rfl, am_mem 72 (by decide +kernel) rfl, by decide, by decide, by decide +kernel⟩
theorem v_Law_91 : am_isV "WheelDiscLaw" 91 y_WD_way 2 := ⟨am_mem 638 (by decide +kernel) rfl, am_mem 639 (by decide +kernel) rfl, am_mem 640 (by decide +kernel) rfl, am_mem 62 (by decide +kernel) rfl, by decide, by decide, by decide +kernel⟩
theorem v_Law_94 : am_isV "WheelDiscLaw" 94 y_Mod_way 2 := ⟨am_mem 1161 (by decide +kernel) rfl, am_mem 1162 (by decide +kernel) rfl, am_mem 1163 (by decide +kernel) rfl, am_mem 72 (by decide +kernel) rfl, by decide, by decide, by decide +kernel⟩
theorem v_Law_95 : am_isV "WheelDiscLaw" 95 y_WD_fewest 0 := ⟨am_mem 646 (by decide +kernel) rfl, am_mem 647 (by decide +kernel) rfl, am_mem 648 (by decide +kernel) rfl, am_mem 62 (by decide +kernel) rfl, by decide, by decide, by decide +kernel⟩
theorem v_Law_98 : am_isV "WheelDiscLaw" 98 y_Mod_fewest 0 := ⟨am_mem 1165 (by decide +kernel) rfl, am_mem 1166 (by decide +kernel) rfl, am_mem 1167 (by decide +kernel) rfl, am_mem 72 (by decide +kernel) rfl, by decide, by decide, by decide +kernel⟩
theorem v_Law_99 : am_isV "WheelDiscLaw" 99 y_WD_blind 0 := ⟨am_mem 658 (by decide +kernel) rfl, am_mem 659 (by decide +kernel) rfl, am_mem 660 (by decide +kernel) rfl, am_mem 62 (by decide +kernel) rfl, by decide, by decide, by decide +kernel⟩
theorem v_Law_102 : am_isV "WheelDiscLaw" 102 y_Mod_blind 0 := ⟨am_mem 1169 (by decide +kernel) rfl, am_mem 1170 (by decide +kernel) rfl, am_mem 1171 (by decide +kernel) rfl, am_mem 72 (by decide +kernel) rfl, by decide, by decide, by decide +kernel⟩
theorem v_Law_103 : am_isV "WheelDiscLaw" 103 y_WD_spare 0 := ⟨am_mem 666 (by decide +kernel) rfl, am_mem 667 (by decide +kernel) rfl, am_mem 668 (by decide +kernel) rfl, am_mem 62 (by decide +kernel) rfl, by decide, by decide, by decide +kernel⟩
theorem v_Law_106 : am_isV "WheelDiscLaw" 106 y_Mod_spare 0 := ⟨am_mem 1173 (by decide +kernel) rfl, am_mem 1174 (by decide +kernel) rfl, am_mem 1175 (by decide +kernel) rfl, am_mem 72 (by decide +kernel) rfl, by decide, by decide, by decide +kernel⟩
theorem v_Law_107 : am_isV "WheelDiscLaw" 107 y_WD_form 1 := ⟨am_mem 674 (by decide +kernel) rfl, am_mem 675 (by decide +kernel) rfl, am_mem 676 (by decide +kernel) rfl, am_mem 62 (by decide +kernel) rfl, by decide, by decide, by decide +kernel⟩
theorem v_Law_110 : am_isV "WheelDiscLaw" 110 y_Mod_form 1 := ⟨am_mem 1177 (by decide +kernel) rfl, am_mem 1178 (by decide +kernel) rfl, am_mem 1179 (by decide +kernel) rfl, am_mem 72 (by decide +kernel) rfl, by decide, by decide, by decide +kernel⟩
theorem v_Law_111 : am_isV "WheelDiscLaw" 111 y_WD_keep 0 := ⟨am_mem 714 (by decide +kernel) rfl, am_mem 715 (by decide +kernel) rfl, am_mem 716 (by decide +kernel) rfl, am_mem 62 (by decide +kernel) rfl, by decide, by decide, by decide +kernel⟩
theorem v_Law_114 : am_isV "WheelDiscLaw" 114 y_Mod_keep 0 := ⟨am_mem 1197 (by decide +kernel) rfl, am_mem 1198 (by decide +kernel) rfl, am_mem 1199 (by decide +kernel) rfl, am_mem 72 (by decide +kernel) rfl, by decide, by decide, by decide +kernel⟩
theorem v_Law_115 : am_isV "WheelDiscLaw" 115 y_WD_same 0 := ⟨am_mem 723 (by decide +kernel) rfl, am_mem 724 (by decide +kernel) rfl, am_mem 725 (by decide +kernel) rfl, am_mem 62 (by decide +kernel) rfl, by decide, by decide, by decide +kernel⟩
theorem v_Law_118 : am_isV "WheelDiscLaw" 118 y_Mod_same 0 := ⟨am_mem 1205 (by decide +kernel) rfl, am_mem 1206 (by decide +kernel) rfl, am_mem 1207 (by decide +kernel) rfl, am_mem 72 (by decide +kernel) rfl, by decide, by decide, by decide +kernel⟩
theorem v_Law_119 : am_isV "WheelDiscLaw" 119 y_WD_gray 2 := ⟨am_mem 731 (by decide +kernel) rfl, am_mem 732 (by decide +kernel) rfl, am_mem 733 (by decide +kernel) rfl, am_mem 62 (by decide +kernel) rfl, by decide, by decide, by decide +kernel⟩
theorem v_Law_122 : am_isV "WheelDiscLaw" 122 y_Mod_gray 2 := ⟨am_mem 1209 (by decide +kernel) rfl, am_mem 1210 (by decide +kernel) rfl, am_mem 1211 (by decide +kernel) rfl, am_mem 72 (by decide +kernel) rfl, by decide, by decide, by decide +kernel⟩
theorem v_Law_123 : am_isV "WheelDiscLaw" 123 y_WD_chain 2 := ⟨am_mem 742 (by decide +kernel) rfl, am_mem 743 (by decide +kernel) rfl, am_mem 744 (by decide +kernel) rfl, am_mem 62 (by decide +kernel) rfl, by decide, by decide, by decide +kernel⟩
theorem v_Law_126 : am_isV "WheelDiscLaw" 126 y_Mod_chain 2 := ⟨am_mem 1213 (by decide +kernel) rfl, am_mem 1214 (by decide +kernel) rfl, am_mem 1215 (by decide +kernel) rfl, am_mem 72 (by decide +kernel) rfl, by decide, by decide, by decide +kernel⟩
theorem v_Law_127 : am_isV "WheelDiscLaw" 127 y_WD_single 3 := ⟨am_mem 752 (by decide +kernel) rfl, am_mem 753 (by decide +kernel) rfl, am_mem 754 (by decide +kernel) rfl, am_mem 62 (by decide +kernel) rfl, by decide, by decide, by decide +kernel⟩
theorem v_Law_131 : am_isV "WheelDiscLaw" 131 y_Mod_single 3 := ⟨am_mem 1221 (by decide +kernel) rfl, am_mem 1222 (by decide +kernel) rfl, am_mem 1223 (by decide +kernel) rfl, am_mem 72 (by decide +kernel) rfl, by decide, by decide, by decide +kernel⟩
theorem v_Law_132 : am_isV "WheelDiscLaw" 132 y_WD_go 1 := ⟨am_mem 815 (by decide +kernel) rfl, am_mem 816 (by decide +kernel) rfl, am_mem 817 (by decide +kernel) rfl, am_mem 62 (by decide +kernel) rfl, by decide, by decide, by decide +kernel⟩
theorem v_Law_135 : am_isV "WheelDiscLaw" 135 y_Mod_go 1 := ⟨am_mem 1243 (by decide +kernel) rfl, am_mem 1244 (by decide +kernel) rfl, am_mem 1245 (by decide +kernel) rfl, am_mem 72 (by decide +kernel) rfl, by decide, by decide, by decide +kernel⟩
theorem v_Law_136 : am_isV "WheelDiscLaw" 136 y_WD_drive 1 := ⟨am_mem 819 (by decide +kernel) rfl, am_mem 820 (by decide +kernel) rfl, am_mem 821 (by decide +kernel) rfl, am_mem 62 (by decide +kernel) rfl, by decide, by decide, by decide +kernel⟩
theorem v_Law_139 : am_isV "WheelDiscLaw" 139 y_Mod_drive 1 := ⟨am_mem 1247 (by decide +kernel) rfl, am_mem 1248 (by decide +kernel) rfl, am_mem 1249 (by decide +kernel) rfl, am_mem 72 (by decide +kernel) rfl, by decide, by decide, by decide +kernel⟩
theorem v_Law_140 : am_isV "WheelDiscLaw" 140 y_WD_halt 0 := ⟨am_mem 827 (by decide +kernel) rfl, am_mem 828 (by decide +kernel) rfl, am_mem 829 (by decide +kernel) rfl, am_mem 62 (by decide +kernel) rfl, by decide, by decide, by decide +kernel⟩
theorem v_Law_143 : am_isV "WheelDiscLaw" 143 y_Mod_halt 0 := ⟨am_mem 1251 (by decide +kernel) rfl, am_mem 1252 (by decide +kernel) rfl, am_mem 1253 (by decide +kernel) rfl, am_mem 72 (by decide +kernel) rfl, by decide, by decide, by decide +kernel⟩
theorem v_Law_144 : am_isV "WheelDiscLaw" 144 y_WD_slip 0 := ⟨am_mem 836 (by decide +kernel) rfl, am_mem 837 (by decide +kernel) rfl, am_mem 838 (by decide +kernel) rfl, am_mem 62 (by decide +kernel) rfl, by decide, by decide, by decide +kernel⟩
theorem v_Law_147 : am_isV "WheelDiscLaw" 147 y_Mod_slip 0 := ⟨am_mem 1255 (by decide +kernel) rfl, am_mem 1256 (by decide +kernel) rfl, am_mem 1257 (by decide +kernel) rfl, am_mem 72 (by decide +kernel) rfl, by decide, by decide, by decide +kernel⟩
theorem v_Law_148 : am_isV "WheelDiscLaw" 148 y_WD_stands 1 := ⟨am_mem 861 (by decide +kernel) rfl, am_mem 862 (by decide +kernel) rfl, am_mem 863 (by decide +kernel) rfl, am_mem 62 (by decide +kernel) rfl, by decide, by decide, by decide +kernel⟩
theorem v_Law_151 : am_isV "WheelDiscLaw" 151 y_Mod_stands 1 := ⟨am_mem 1263 (by decide +kernel) rfl, am_mem 1264 (by decide +kernel) rfl, am_mem 1265 (by decide +kernel) rfl, am_mem 72 (by decide +kernel) rfl, by decide, by decide, by decide +kernel⟩
theorem v_Law_152 : am_isV "WheelDiscLaw" 152 y_WD_stand 1 := ⟨am_mem 869 (by decide +kernel) rfl, am_mem 870 (by decide +kernel) rfl, am_mem 871 (by decide +kernel) rfl, am_mem 62 (by decide +kernel) rfl, by decide, by decide, by decide +kernel⟩
theorem v_Law_155 : am_isV "WheelDiscLaw" 155 y_Mod_stand 1 := ⟨am_mem 1267 (by decide +kernel) rfl, am_mem 1268 (by decide +kernel) rfl, am_mem 1269 (by decide +kernel) rfl, am_mem 72 (by decide +kernel) rfl, by decide, by decide, by decide +kernel⟩
theorem v_Law_156 : am_isV "WheelDiscLaw" 156 y_WD_mend 0 := ⟨am_mem 873 (by decide +kernel) rfl, am_mem 874 (by decide +kernel) rfl, am_mem 875 (by decide +kernel) rfl, am_mem 62 (by decide +kernel) rfl, by decide, by decide, by decide +kernel⟩
theorem v_Law_159 : am_isV "WheelDiscLaw" 159 y_Mod_mend 0 := ⟨am_mem 1275 (by decide +kernel) rfl, am_mem 1276 (by decide +kernel) rfl, am_mem 1277 (by decide +kernel) rfl, am_mem 72 (by decide +kernel) rfl, by decide, by decide, by decide +kernel⟩
theorem v_Law_160 : am_isV "WheelDiscLaw" 160 y_WD_tell 1 := ⟨am_mem 889 (by decide +kernel) rfl, am_mem 890 (by decide +kernel) rfl, am_mem 891 (by decide +kernel) rfl, am_mem 62 (by decide +kernel) rfl, by decide, by decide, by decide +kernel⟩
theorem v_Law_163 : am_isV "WheelDiscLaw" 163 y_Mod_tell 1 := ⟨am_mem 1279 (by decide +kernel) rfl, am_mem 1280 (by decide +kernel) rfl, am_mem 1281 (by decide +kernel) rfl, am_mem 72 (by decide +kernel) rfl, by decide, by decide, by decide +kernel⟩
theorem v_Law_164 : am_isV "WheelDiscLaw" 164 y_WD_forge 2 := ⟨am_mem 897 (by decide +kernel) rfl, am_mem 898 (by decide +kernel) rfl, am_mem 899 (by decide +kernel) rfl, am_mem 62 (by decide +kernel) rfl, by decide, by decide, by decide +kernel⟩
theorem v_Law_167 : am_isV "WheelDiscLaw" 167 y_Mod_forge 2 := ⟨am_mem 1283 (by decide +kernel) rfl, am_mem 1284 (by decide +kernel) rfl, am_mem 1285 (by decide +kernel) rfl, am_mem 72 (by decide +kernel) rfl, by decide, by decide, by decide +kernel⟩
theorem v_Law_168 : am_isV "WheelDiscLaw" 168 y_WD_check 1 := ⟨am_mem 905 (by decide +kernel) rfl, am_mem 906 (by decide +kernel) rfl, am_mem 907 (by decide +kernel) rfl, am_mem 62 (by decide +kernel) rfl, by decide, by decide, by decide +kernel⟩
theorem v_Law_171 : am_isV "WheelDiscLaw" 171 y_Mod_check 1 := ⟨am_mem 1287 (by decide +kernel) rfl, am_mem 1288 (by decide +kernel) rfl, am_mem 1289 (by decide +kernel) rfl, am_mem 72 (by decide +kernel) rfl, by decide, by decide, by decide +kernel⟩
theorem v_Law_172 : am_isV "WheelDiscLaw" 172 y_WD_clear 0 := ⟨am_mem 923 (by decide +kernel) rfl, am_mem 924 (by decide +kernel) rfl, am_mem 925 (by decide +kernel) rfl, am_mem 62 (by decide +kernel) rfl, by decide, by decide, by decide +kernel⟩
theorem v_Law_175 : am_isV "WheelDiscLaw" 175 y_Mod_clear 0 := ⟨am_mem 1291 (by decide +kernel) rfl, am_mem 1292 (by decide +kernel) rfl, am_mem 1293 (by decide +kernel) rfl, am_mem 72 (by decide +kernel) rfl, by decide, by decide, by decide +kernel⟩
theorem v_Law_176 : am_isV "WheelDiscLaw" 176 y_WD_fault 0 := ⟨am_mem 927 (by decide +kernel) rfl, am_mem 928 (by decide +kernel) rfl, am_mem 929 (by decide +kernel) rfl, am_mem 62 (by decide +kernel) rfl, by decide, by decide, by decide +kernel⟩
theorem v_Law_179 : am_isV "WheelDiscLaw" 179 y_Mod_fault 0 := ⟨am_mem 1295 (by decide +kernel) rfl, am_mem 1296 (by decide +kernel) rfl, am_mem 1297 (by decide +kernel) rfl, am_mem 72 (by decide +kernel) rfl, by decide, by decide, by decide +kernel⟩
theorem lc_0 {d : Nat} {x3 : Int32} {σ : am_S} {K : Int32 → am_S → Prop} (hv1 : vp_in (x3 + nI 1) (σ.1 1001 0).toNatClampNeg) (hv2 : vp_in (x3 + nI 2) (σ.1 1001 0).toNatClampNeg) (hv3 : vp_in (x3 + nI 3) (σ.1 1001 0).toNatClampNeg) (h : w_WD_rim (σ.1 1000 (Int32.toNatClampNeg (x3 + nI 1))) (σ.1 1000 (Int32.toNatClampNeg (x3 + nI 2))) σ (fun r τ => w_Mod_rim (σ.1 1000 (Int32.toNatClampNeg (x3 + nI 1))) (σ.1 1000 (Int32.toNatClampNeg (x3 + nI 2))) τ (fun r2 τ2 => am_ite (r = r2) (R_Law d K 1157 (lvs x3) [] τ2) (K (nI 0) τ2)))) : R_Law d K 204 (lvs x3) [] σ := by
  refine r_aload_n d_Law_204 rfl ?_
  refine r_aload_n d_Law_205 rfl ?_
  refine r_iload_n d_Law_206 rfl ?_
  refine r_iconst (nI 1) d_Law_207 (by decide) ?_
  refine r_iadd d_Law_208 ?_
  refine r_scrK d_Law_209 ⟨rfl, rfl⟩ hv1 ?_
  refine r_aload_n d_Law_210 rfl ?_
  refine r_iload_n d_Law_211 rfl ?_
  refine r_iconst (nI 2) d_Law_212 (by decide) ?_
  refine r_iadd d_Law_213 ?_
  refine r_scrK d_Law_214 ⟨rfl, rfl⟩ hv2 ?_
  refine r_virtK [.int (σ.1 1000 (Int32.toNatClampNeg (x3 + nI 1))), .int (σ.1 1000 (Int32.toNatClampNeg (x3 + nI 2)))] [] d_Law_215 v_Law_13 rfl rfl cn_0 rfl (t_WD_rim h) (fun r1 τ1 h z1 => ?_)
  refine r_aload_n d_Law_218 rfl ?_
  refine r_aload_n d_Law_219 rfl ?_
  refine r_iload_n d_Law_220 rfl ?_
  refine r_iconst (nI 1) d_Law_221 (by decide) ?_
  refine r_iadd d_Law_222 ?_
  refine r_scrK d_Law_223 z1 hv1 ?_
  refine r_aload_n d_Law_224 rfl ?_
  refine r_iload_n d_Law_225 rfl ?_
  refine r_iconst (nI 2) d_Law_226 (by decide) ?_
  refine r_iadd d_Law_227 ?_
  refine r_scrK d_Law_228 z1 hv2 ?_
  refine r_virtK [.int (σ.1 1000 (Int32.toNatClampNeg (x3 + nI 1))), .int (σ.1 1000 (Int32.toNatClampNeg (x3 + nI 2)))] [.int r1] d_Law_229 v_Law_17 rfl rfl cn_153 rfl (t_Mod_rim h) (fun r2 τ2 h z2 => ?_)
  refine r_icmp2 1157 (r1 = r2) d_Law_232 (by decide) rfl (fun c => h.1 c) (fun c => ?_)
  refine r_iconst (nI 0) d_Law_235 (by decide) ?_
  exact r_zret0 d_Law_236 (h.2 c)
theorem lc_1 {d : Nat} {x3 : Int32} {σ : am_S} {K : Int32 → am_S → Prop} (hv1 : vp_in (x3 + nI 1) (σ.1 1001 0).toNatClampNeg) (hv2 : vp_in (x3 + nI 2) (σ.1 1001 0).toNatClampNeg) (hv3 : vp_in (x3 + nI 3) (σ.1 1001 0).toNatClampNeg) (h : w_WD_entry (σ.1 1000 (Int32.toNatClampNeg (x3 + nI 1))) (((Int32.toInt64 (σ.1 1000 (Int32.toNatClampNeg (x3 + nI 2)))) <<< (Int32.toInt64 (nI 32) &&& 63)) ||| ((Int32.toInt64 (σ.1 1000 (Int32.toNatClampNeg (x3 + nI 3)))) &&& (4294967295))) σ (fun r τ => w_Mod_entry (σ.1 1000 (Int32.toNatClampNeg (x3 + nI 1))) (((Int32.toInt64 (σ.1 1000 (Int32.toNatClampNeg (x3 + nI 2)))) <<< (Int32.toInt64 (nI 32) &&& 63)) ||| ((Int32.toInt64 (σ.1 1000 (Int32.toNatClampNeg (x3 + nI 3)))) &&& (4294967295))) τ (fun r2 τ2 => am_ite (r = r2) (R_Law d K 1157 (lvs x3) [] τ2) (K (nI 0) τ2)))) : R_Law d K 237 (lvs x3) [] σ := by
  refine r_aload_n d_Law_237 rfl ?_
  refine r_aload_n d_Law_238 rfl ?_
  refine r_iload_n d_Law_239 rfl ?_
  refine r_iconst (nI 1) d_Law_240 (by decide) ?_
  refine r_iadd d_Law_241 ?_
  refine r_scrK d_Law_242 ⟨rfl, rfl⟩ hv1 ?_
  refine r_aload_n d_Law_243 rfl ?_
  refine r_iload_n d_Law_244 rfl ?_
  refine r_iconst (nI 2) d_Law_245 (by decide) ?_
  refine r_iadd d_Law_246 ?_
  refine r_scrK d_Law_247 ⟨rfl, rfl⟩ hv2 ?_
  refine r_i2l d_Law_248 ?_
  refine r_bipush (nI 32) d_Law_249 (by decide) ?_
  refine r_lshl d_Law_251 ?_
  refine r_aload_n d_Law_252 rfl ?_
  refine r_iload_n d_Law_253 rfl ?_
  refine r_iconst (nI 3) d_Law_254 (by decide) ?_
  refine r_iadd d_Law_255 ?_
  refine r_scrK d_Law_256 ⟨rfl, rfl⟩ hv3 ?_
  refine r_i2l d_Law_257 ?_
  refine r_ldc2_w (4294967295) d_Law_258 k_Law_18 ?_
  refine r_land d_Law_261 ?_
  refine r_lor d_Law_262 ?_
  refine r_virtK [.int (σ.1 1000 (Int32.toNatClampNeg (x3 + nI 1))), .long (((Int32.toInt64 (σ.1 1000 (Int32.toNatClampNeg (x3 + nI 2)))) <<< (Int32.toInt64 (nI 32) &&& 63)) ||| ((Int32.toInt64 (σ.1 1000 (Int32.toNatClampNeg (x3 + nI 3)))) &&& (4294967295)))] [] d_Law_263 v_Law_20 rfl rfl cn_0 rfl (t_WD_entry h) (fun r1 τ1 h z1 => ?_)
  refine r_aload_n d_Law_266 rfl ?_
  refine r_aload_n d_Law_267 rfl ?_
  refine r_iload_n d_Law_268 rfl ?_
  refine r_iconst (nI 1) d_Law_269 (by decide) ?_
  refine r_iadd d_Law_270 ?_
  refine r_scrK d_Law_271 z1 hv1 ?_
  refine r_aload_n d_Law_272 rfl ?_
  refine r_iload_n d_Law_273 rfl ?_
  refine r_iconst (nI 2) d_Law_274 (by decide) ?_
  refine r_iadd d_Law_275 ?_
  refine r_scrK d_Law_276 z1 hv2 ?_
  refine r_i2l d_Law_277 ?_
  refine r_bipush (nI 32) d_Law_278 (by decide) ?_
  refine r_lshl d_Law_280 ?_
  refine r_aload_n d_Law_281 rfl ?_
  refine r_iload_n d_Law_282 rfl ?_
  refine r_iconst (nI 3) d_Law_283 (by decide) ?_
  refine r_iadd d_Law_284 ?_
  refine r_scrK d_Law_285 z1 hv3 ?_
  refine r_i2l d_Law_286 ?_
  refine r_ldc2_w (4294967295) d_Law_287 k_Law_18 ?_
  refine r_land d_Law_290 ?_
  refine r_lor d_Law_291 ?_
  refine r_virtK [.int (σ.1 1000 (Int32.toNatClampNeg (x3 + nI 1))), .long (((Int32.toInt64 (σ.1 1000 (Int32.toNatClampNeg (x3 + nI 2)))) <<< (Int32.toInt64 (nI 32) &&& 63)) ||| ((Int32.toInt64 (σ.1 1000 (Int32.toNatClampNeg (x3 + nI 3)))) &&& (4294967295)))] [.int r1] d_Law_292 v_Law_24 rfl rfl cn_153 rfl (t_Mod_entry h) (fun r2 τ2 h z2 => ?_)
  refine r_icmp2 1157 (r1 = r2) d_Law_295 (by decide) rfl (fun c => h.1 c) (fun c => ?_)
  refine r_iconst (nI 0) d_Law_298 (by decide) ?_
  exact r_zret0 d_Law_299 (h.2 c)
theorem lc_2 {d : Nat} {x3 : Int32} {σ : am_S} {K : Int32 → am_S → Prop} (hv1 : vp_in (x3 + nI 1) (σ.1 1001 0).toNatClampNeg) (hv2 : vp_in (x3 + nI 2) (σ.1 1001 0).toNatClampNeg) (hv3 : vp_in (x3 + nI 3) (σ.1 1001 0).toNatClampNeg) (h : w_WD_disc (σ.1 1000 (Int32.toNatClampNeg (x3 + nI 1))) σ (fun r τ => w_Mod_disc (σ.1 1000 (Int32.toNatClampNeg (x3 + nI 1))) τ (fun r2 τ2 => am_ite (r = r2) (R_Law d K 1157 (lvs x3) [] τ2) (K (nI 0) τ2)))) : R_Law d K 300 (lvs x3) [] σ := by
  refine r_aload_n d_Law_300 rfl ?_
  refine r_aload_n d_Law_301 rfl ?_
  refine r_iload_n d_Law_302 rfl ?_
  refine r_iconst (nI 1) d_Law_303 (by decide) ?_
  refine r_iadd d_Law_304 ?_
  refine r_scrK d_Law_305 ⟨rfl, rfl⟩ hv1 ?_
  refine r_virtK [.int (σ.1 1000 (Int32.toNatClampNeg (x3 + nI 1)))] [] d_Law_306 v_Law_25 rfl rfl cn_0 rfl (t_WD_disc h) (fun r1 τ1 h z1 => ?_)
  refine r_aload_n d_Law_309 rfl ?_
  refine r_aload_n d_Law_310 rfl ?_
  refine r_iload_n d_Law_311 rfl ?_
  refine r_iconst (nI 1) d_Law_312 (by decide) ?_
  refine r_iadd d_Law_313 ?_
  refine r_scrK d_Law_314 z1 hv1 ?_
  refine r_virtK [.int (σ.1 1000 (Int32.toNatClampNeg (x3 + nI 1)))] [.int r1] d_Law_315 v_Law_29 rfl rfl cn_153 rfl (t_Mod_disc h) (fun r2 τ2 h z2 => ?_)
  refine r_icmp2 1157 (r1 = r2) d_Law_318 (by decide) rfl (fun c => h.1 c) (fun c => ?_)
  refine r_iconst (nI 0) d_Law_321 (by decide) ?_
  exact r_zret0 d_Law_322 (h.2 c)
theorem lc_3 {d : Nat} {x3 : Int32} {σ : am_S} {K : Int32 → am_S → Prop} (hv1 : vp_in (x3 + nI 1) (σ.1 1001 0).toNatClampNeg) (hv2 : vp_in (x3 + nI 2) (σ.1 1001 0).toNatClampNeg) (hv3 : vp_in (x3 + nI 3) (σ.1 1001 0).toNatClampNeg) (h : w_WD_track  σ (fun r τ => w_Mod_track  τ (fun r2 τ2 => am_ite (r = r2) (R_Law d K 1157 (lvs x3) [] τ2) (K (nI 0) τ2)))) : R_Law d K 323 (lvs x3) [] σ := by
  refine r_aload_n d_Law_323 rfl ?_
  refine r_virtK [] [] d_Law_324 v_Law_30 rfl rfl cn_0 rfl (t_WD_track h) (fun r1 τ1 h z1 => ?_)
  refine r_aload_n d_Law_327 rfl ?_
  refine r_virtK [] [.int r1] d_Law_328 v_Law_34 rfl rfl cn_153 rfl (t_Mod_track h) (fun r2 τ2 h z2 => ?_)
  refine r_icmp2 1157 (r1 = r2) d_Law_331 (by decide) rfl (fun c => h.1 c) (fun c => ?_)
  refine r_iconst (nI 0) d_Law_334 (by decide) ?_
  exact r_zret0 d_Law_335 (h.2 c)
theorem lc_5 {d : Nat} {x3 : Int32} {σ : am_S} {K : Int32 → am_S → Prop} (hv1 : vp_in (x3 + nI 1) (σ.1 1001 0).toNatClampNeg) (hv2 : vp_in (x3 + nI 2) (σ.1 1001 0).toNatClampNeg) (hv3 : vp_in (x3 + nI 3) (σ.1 1001 0).toNatClampNeg) (h : w_WD_reader (σ.1 1000 (Int32.toNatClampNeg (x3 + nI 1))) (σ.1 1000 (Int32.toNatClampNeg (x3 + nI 2))) σ (fun r τ => w_Mod_reader (σ.1 1000 (Int32.toNatClampNeg (x3 + nI 1))) (σ.1 1000 (Int32.toNatClampNeg (x3 + nI 2))) τ (fun r2 τ2 => am_ite (r = r2) (R_Law d K 1157 (lvs x3) [] τ2) (K (nI 0) τ2)))) : R_Law d K 395 (lvs x3) [] σ := by
  refine r_aload_n d_Law_395 rfl ?_
  refine r_aload_n d_Law_396 rfl ?_
  refine r_iload_n d_Law_397 rfl ?_
  refine r_iconst (nI 1) d_Law_398 (by decide) ?_
  refine r_iadd d_Law_399 ?_
  refine r_scrK d_Law_400 ⟨rfl, rfl⟩ hv1 ?_
  refine r_aload_n d_Law_401 rfl ?_
  refine r_iload_n d_Law_402 rfl ?_
  refine r_iconst (nI 2) d_Law_403 (by decide) ?_
  refine r_iadd d_Law_404 ?_
  refine r_scrK d_Law_405 ⟨rfl, rfl⟩ hv2 ?_
  refine r_virtK [.int (σ.1 1000 (Int32.toNatClampNeg (x3 + nI 1))), .int (σ.1 1000 (Int32.toNatClampNeg (x3 + nI 2)))] [] d_Law_406 v_Law_40 rfl rfl cn_0 rfl (t_WD_reader h) (fun r1 τ1 h z1 => ?_)
  refine r_aload_n d_Law_409 rfl ?_
  refine r_aload_n d_Law_410 rfl ?_
  refine r_iload_n d_Law_411 rfl ?_
  refine r_iconst (nI 1) d_Law_412 (by decide) ?_
  refine r_iadd d_Law_413 ?_
  refine r_scrK d_Law_414 z1 hv1 ?_
  refine r_aload_n d_Law_415 rfl ?_
  refine r_iload_n d_Law_416 rfl ?_
  refine r_iconst (nI 2) d_Law_417 (by decide) ?_
  refine r_iadd d_Law_418 ?_
  refine r_scrK d_Law_419 z1 hv2 ?_
  refine r_virtK [.int (σ.1 1000 (Int32.toNatClampNeg (x3 + nI 1))), .int (σ.1 1000 (Int32.toNatClampNeg (x3 + nI 2)))] [.int r1] d_Law_420 v_Law_43 rfl rfl cn_153 rfl (t_Mod_reader h) (fun r2 τ2 h z2 => ?_)
  refine r_icmp2 1157 (r1 = r2) d_Law_423 (by decide) rfl (fun c => h.1 c) (fun c => ?_)
  refine r_iconst (nI 0) d_Law_426 (by decide) ?_
  exact r_zret0 d_Law_427 (h.2 c)
theorem lc_6 {d : Nat} {x3 : Int32} {σ : am_S} {K : Int32 → am_S → Prop} (hv1 : vp_in (x3 + nI 1) (σ.1 1001 0).toNatClampNeg) (hv2 : vp_in (x3 + nI 2) (σ.1 1001 0).toNatClampNeg) (hv3 : vp_in (x3 + nI 3) (σ.1 1001 0).toNatClampNeg) (h : w_WD_lift (σ.1 1000 (Int32.toNatClampNeg (x3 + nI 1))) σ (fun r τ => w_Mod_lift (σ.1 1000 (Int32.toNatClampNeg (x3 + nI 1))) τ (fun r2 τ2 => am_ite (r = r2) (R_Law d K 1157 (lvs x3) [] τ2) (K (nI 0) τ2)))) : R_Law d K 428 (lvs x3) [] σ := by
  refine r_aload_n d_Law_428 rfl ?_
  refine r_aload_n d_Law_429 rfl ?_
  refine r_iload_n d_Law_430 rfl ?_
  refine r_iconst (nI 1) d_Law_431 (by decide) ?_
  refine r_iadd d_Law_432 ?_
  refine r_scrK d_Law_433 ⟨rfl, rfl⟩ hv1 ?_
  refine r_virtK [.int (σ.1 1000 (Int32.toNatClampNeg (x3 + nI 1)))] [] d_Law_434 v_Law_44 rfl rfl cn_0 rfl (t_WD_lift h) (fun r1 τ1 h z1 => ?_)
  refine r_aload_n d_Law_437 rfl ?_
  refine r_aload_n d_Law_438 rfl ?_
  refine r_iload_n d_Law_439 rfl ?_
  refine r_iconst (nI 1) d_Law_440 (by decide) ?_
  refine r_iadd d_Law_441 ?_
  refine r_scrK d_Law_442 z1 hv1 ?_
  refine r_virtK [.int (σ.1 1000 (Int32.toNatClampNeg (x3 + nI 1)))] [.int r1] d_Law_443 v_Law_48 rfl rfl cn_153 rfl (t_Mod_lift h) (fun r2 τ2 h z2 => ?_)
  refine r_icmp2 1157 (r1 = r2) d_Law_446 (by decide) rfl (fun c => h.1 c) (fun c => ?_)
  refine r_iconst (nI 0) d_Law_449 (by decide) ?_
  exact r_zret0 d_Law_450 (h.2 c)
theorem lc_7 {d : Nat} {x3 : Int32} {σ : am_S} {K : Int32 → am_S → Prop} (hv1 : vp_in (x3 + nI 1) (σ.1 1001 0).toNatClampNeg) (hv2 : vp_in (x3 + nI 2) (σ.1 1001 0).toNatClampNeg) (hv3 : vp_in (x3 + nI 3) (σ.1 1001 0).toNatClampNeg) (h : w_WD_turn (σ.1 1000 (Int32.toNatClampNeg (x3 + nI 1))) σ (fun r τ => w_Mod_turn (σ.1 1000 (Int32.toNatClampNeg (x3 + nI 1))) τ (fun r2 τ2 => am_ite (r = r2) (R_Law d K 1157 (lvs x3) [] τ2) (K (nI 0) τ2)))) : R_Law d K 451 (lvs x3) [] σ := by
  refine r_aload_n d_Law_451 rfl ?_
  refine r_aload_n d_Law_452 rfl ?_
  refine r_iload_n d_Law_453 rfl ?_
  refine r_iconst (nI 1) d_Law_454 (by decide) ?_
  refine r_iadd d_Law_455 ?_
  refine r_scrK d_Law_456 ⟨rfl, rfl⟩ hv1 ?_
  refine r_virtK [.int (σ.1 1000 (Int32.toNatClampNeg (x3 + nI 1)))] [] d_Law_457 v_Law_49 rfl rfl cn_0 rfl (t_WD_turn h) (fun r1 τ1 h z1 => ?_)
  refine r_aload_n d_Law_460 rfl ?_
  refine r_aload_n d_Law_461 rfl ?_
  refine r_iload_n d_Law_462 rfl ?_
  refine r_iconst (nI 1) d_Law_463 (by decide) ?_
  refine r_iadd d_Law_464 ?_
  refine r_scrK d_Law_465 z1 hv1 ?_
  refine r_virtK [.int (σ.1 1000 (Int32.toNatClampNeg (x3 + nI 1)))] [.int r1] d_Law_466 v_Law_52 rfl rfl cn_153 rfl (t_Mod_turn h) (fun r2 τ2 h z2 => ?_)
  refine r_icmp2 1157 (r1 = r2) d_Law_469 (by decide) rfl (fun c => h.1 c) (fun c => ?_)
  refine r_iconst (nI 0) d_Law_472 (by decide) ?_
  exact r_zret0 d_Law_473 (h.2 c)
theorem lc_8 {d : Nat} {x3 : Int32} {σ : am_S} {K : Int32 → am_S → Prop} (hv1 : vp_in (x3 + nI 1) (σ.1 1001 0).toNatClampNeg) (hv2 : vp_in (x3 + nI 2) (σ.1 1001 0).toNatClampNeg) (hv3 : vp_in (x3 + nI 3) (σ.1 1001 0).toNatClampNeg) (h : w_WD_mirror  σ (fun r τ => w_Mod_mirror  τ (fun r2 τ2 => am_ite (r = r2) (R_Law d K 1157 (lvs x3) [] τ2) (K (nI 0) τ2)))) : R_Law d K 474 (lvs x3) [] σ := by
  refine r_aload_n d_Law_474 rfl ?_
  refine r_virtK [] [] d_Law_475 v_Law_53 rfl rfl cn_0 rfl (t_WD_mirror h) (fun r1 τ1 h z1 => ?_)
  refine r_aload_n d_Law_478 rfl ?_
  refine r_virtK [] [.int r1] d_Law_479 v_Law_57 rfl rfl cn_153 rfl (t_Mod_mirror h) (fun r2 τ2 h z2 => ?_)
  refine r_icmp2 1157 (r1 = r2) d_Law_482 (by decide) rfl (fun c => h.1 c) (fun c => ?_)
  refine r_iconst (nI 0) d_Law_485 (by decide) ?_
  exact r_zret0 d_Law_486 (h.2 c)
theorem lc_9 {d : Nat} {x3 : Int32} {σ : am_S} {K : Int32 → am_S → Prop} (hv1 : vp_in (x3 + nI 1) (σ.1 1001 0).toNatClampNeg) (hv2 : vp_in (x3 + nI 2) (σ.1 1001 0).toNatClampNeg) (hv3 : vp_in (x3 + nI 3) (σ.1 1001 0).toNatClampNeg) (h : w_WD_swap (σ.1 1000 (Int32.toNatClampNeg (x3 + nI 1))) (σ.1 1000 (Int32.toNatClampNeg (x3 + nI 2))) σ (fun r τ => w_Mod_swap (σ.1 1000 (Int32.toNatClampNeg (x3 + nI 1))) (σ.1 1000 (Int32.toNatClampNeg (x3 + nI 2))) τ (fun r2 τ2 => am_ite (r = r2) (R_Law d K 1157 (lvs x3) [] τ2) (K (nI 0) τ2)))) : R_Law d K 487 (lvs x3) [] σ := by
  refine r_aload_n d_Law_487 rfl ?_
  refine r_aload_n d_Law_488 rfl ?_
  refine r_iload_n d_Law_489 rfl ?_
  refine r_iconst (nI 1) d_Law_490 (by decide) ?_
  refine r_iadd d_Law_491 ?_
  refine r_scrK d_Law_492 ⟨rfl, rfl⟩ hv1 ?_
  refine r_aload_n d_Law_493 rfl ?_
  refine r_iload_n d_Law_494 rfl ?_
  refine r_iconst (nI 2) d_Law_495 (by decide) ?_
  refine r_iadd d_Law_496 ?_
  refine r_scrK d_Law_497 ⟨rfl, rfl⟩ hv2 ?_
  refine r_virtK [.int (σ.1 1000 (Int32.toNatClampNeg (x3 + nI 1))), .int (σ.1 1000 (Int32.toNatClampNeg (x3 + nI 2)))] [] d_Law_498 v_Law_58 rfl rfl cn_0 rfl (t_WD_swap h) (fun r1 τ1 h z1 => ?_)
  refine r_aload_n d_Law_501 rfl ?_
  refine r_aload_n d_Law_502 rfl ?_
  refine r_iload_n d_Law_503 rfl ?_
  refine r_iconst (nI 1) d_Law_504 (by decide) ?_
  refine r_iadd d_Law_505 ?_
  refine r_scrK d_Law_506 z1 hv1 ?_
  refine r_aload_n d_Law_507 rfl ?_
  refine r_iload_n d_Law_508 rfl ?_
  refine r_iconst (nI 2) d_Law_509 (by decide) ?_
  refine r_iadd d_Law_510 ?_
  refine r_scrK d_Law_511 z1 hv2 ?_
  refine r_virtK [.int (σ.1 1000 (Int32.toNatClampNeg (x3 + nI 1))), .int (σ.1 1000 (Int32.toNatClampNeg (x3 + nI 2)))] [.int r1] d_Law_512 v_Law_62 rfl rfl cn_153 rfl (t_Mod_swap h) (fun r2 τ2 h z2 => ?_)
  refine r_icmp2 1157 (r1 = r2) d_Law_515 (by decide) rfl (fun c => h.1 c) (fun c => ?_)
  refine r_iconst (nI 0) d_Law_518 (by decide) ?_
  exact r_zret0 d_Law_519 (h.2 c)
theorem lc_10 {d : Nat} {x3 : Int32} {σ : am_S} {K : Int32 → am_S → Prop} (hv1 : vp_in (x3 + nI 1) (σ.1 1001 0).toNatClampNeg) (hv2 : vp_in (x3 + nI 2) (σ.1 1001 0).toNatClampNeg) (hv3 : vp_in (x3 + nI 3) (σ.1 1001 0).toNatClampNeg) (h : w_WD_undo  σ (fun r τ => w_Mod_undo  τ (fun r2 τ2 => am_ite (r = r2) (R_Law d K 1157 (lvs x3) [] τ2) (K (nI 0) τ2)))) : R_Law d K 520 (lvs x3) [] σ := by
  refine r_aload_n d_Law_520 rfl ?_
  refine r_virtK [] [] d_Law_521 v_Law_63 rfl rfl cn_0 rfl (t_WD_undo h) (fun r1 τ1 h z1 => ?_)
  refine r_aload_n d_Law_524 rfl ?_
  refine r_virtK [] [.int r1] d_Law_525 v_Law_66 rfl rfl cn_153 rfl (t_Mod_undo h) (fun r2 τ2 h z2 => ?_)
  refine r_icmp2 1157 (r1 = r2) d_Law_528 (by decide) rfl (fun c => h.1 c) (fun c => ?_)
  refine r_iconst (nI 0) d_Law_531 (by decide) ?_
  exact r_zret0 d_Law_532 (h.2 c)
theorem lc_11 {d : Nat} {x3 : Int32} {σ : am_S} {K : Int32 → am_S → Prop} (hv1 : vp_in (x3 + nI 1) (σ.1 1001 0).toNatClampNeg) (hv2 : vp_in (x3 + nI 2) (σ.1 1001 0).toNatClampNeg) (hv3 : vp_in (x3 + nI 3) (σ.1 1001 0).toNatClampNeg) (h : w_WD_count (σ.1 1000 (Int32.toNatClampNeg (x3 + nI 1))) σ (fun r τ => w_Mod_count (σ.1 1000 (Int32.toNatClampNeg (x3 + nI 1))) τ (fun r2 τ2 => am_ite (r = r2) (R_Law d K 1157 (lvs x3) [] τ2) (K (nI 0) τ2)))) : R_Law d K 533 (lvs x3) [] σ := by
  refine r_aload_n d_Law_533 rfl ?_
  refine r_aload_n d_Law_534 rfl ?_
  refine r_iload_n d_Law_535 rfl ?_
  refine r_iconst (nI 1) d_Law_536 (by decide) ?_
  refine r_iadd d_Law_537 ?_
  refine r_scrK d_Law_538 ⟨rfl, rfl⟩ hv1 ?_
  refine r_virtK [.int (σ.1 1000 (Int32.toNatClampNeg (x3 + nI 1)))] [] d_Law_539 v_Law_67 rfl rfl cn_0 rfl (t_WD_count h) (fun r1 τ1 h z1 => ?_)
  refine r_aload_n d_Law_542 rfl ?_
  refine r_aload_n d_Law_543 rfl ?_
  refine r_iload_n d_Law_544 rfl ?_
  refine r_iconst (nI 1) d_Law_545 (by decide) ?_
  refine r_iadd d_Law_546 ?_
  refine r_scrK d_Law_547 z1 hv1 ?_
  refine r_virtK [.int (σ.1 1000 (Int32.toNatClampNeg (x3 + nI 1)))] [.int r1] d_Law_548 v_Law_70 rfl rfl cn_153 rfl (t_Mod_count h) (fun r2 τ2 h z2 => ?_)
  refine r_icmp2 1157 (r1 = r2) d_Law_551 (by decide) rfl (fun c => h.1 c) (fun c => ?_)
  refine r_iconst (nI 0) d_Law_554 (by decide) ?_
  exact r_zret0 d_Law_555 (h.2 c)
theorem lc_12 {d : Nat} {x3 : Int32} {σ : am_S} {K : Int32 → am_S → Prop} (hv1 : vp_in (x3 + nI 1) (σ.1 1001 0).toNatClampNeg) (hv2 : vp_in (x3 + nI 2) (σ.1 1001 0).toNatClampNeg) (hv3 : vp_in (x3 + nI 3) (σ.1 1001 0).toNatClampNeg) (h : w_WD_word (σ.1 1000 (Int32.toNatClampNeg (x3 + nI 1))) σ (fun r τ => w_Mod_word (σ.1 1000 (Int32.toNatClampNeg (x3 + nI 1))) τ (fun r2 τ2 => am_ite (r = r2) (R_Law d K 1157 (lvs x3) [] τ2) (K (nI 0) τ2)))) : R_Law d K 556 (lvs x3) [] σ := by
  refine r_aload_n d_Law_556 rfl ?_
  refine r_aload_n d_Law_557 rfl ?_
  refine r_iload_n d_Law_558 rfl ?_
  refine r_iconst (nI 1) d_Law_559 (by decide) ?_
  refine r_iadd d_Law_560 ?_
  refine r_scrK d_Law_561 ⟨rfl, rfl⟩ hv1 ?_
  refine r_virtK [.int (σ.1 1000 (Int32.toNatClampNeg (x3 + nI 1)))] [] d_Law_562 v_Law_71 rfl rfl cn_0 rfl (t_WD_word h) (fun r1 τ1 h z1 => ?_)
  refine r_aload_n d_Law_565 rfl ?_
  refine r_aload_n d_Law_566 rfl ?_
  refine r_iload_n d_Law_567 rfl ?_
  refine r_iconst (nI 1) d_Law_568 (by decide) ?_
  refine r_iadd d_Law_569 ?_
  refine r_scrK d_Law_570 z1 hv1 ?_
  refine r_virtK [.int (σ.1 1000 (Int32.toNatClampNeg (x3 + nI 1)))] [.int r1] d_Law_571 v_Law_74 rfl rfl cn_153 rfl (t_Mod_word h) (fun r2 τ2 h z2 => ?_)
  refine r_icmp2 1157 (r1 = r2) d_Law_574 (by decide) rfl (fun c => h.1 c) (fun c => ?_)
  refine r_iconst (nI 0) d_Law_577 (by decide) ?_
  exact r_zret0 d_Law_578 (h.2 c)
theorem lc_13 {d : Nat} {x3 : Int32} {σ : am_S} {K : Int32 → am_S → Prop} (hv1 : vp_in (x3 + nI 1) (σ.1 1001 0).toNatClampNeg) (hv2 : vp_in (x3 + nI 2) (σ.1 1001 0).toNatClampNeg) (hv3 : vp_in (x3 + nI 3) (σ.1 1001 0).toNatClampNeg) (h : w_WD_seen (σ.1 1000 (Int32.toNatClampNeg (x3 + nI 1))) (σ.1 1000 (Int32.toNatClampNeg (x3 + nI 2))) σ (fun r τ => w_Mod_seen (σ.1 1000 (Int32.toNatClampNeg (x3 + nI 1))) (σ.1 1000 (Int32.toNatClampNeg (x3 + nI 2))) τ (fun r2 τ2 => am_ite (r = r2) (R_Law d K 1157 (lvs x3) [] τ2) (K (nI 0) τ2)))) : R_Law d K 579 (lvs x3) [] σ := by
  refine r_aload_n d_Law_579 rfl ?_
  refine r_aload_n d_Law_580 rfl ?_
  refine r_iload_n d_Law_581 rfl ?_
  refine r_iconst (nI 1) d_Law_582 (by decide) ?_
  refine r_iadd d_Law_583 ?_
  refine r_scrK d_Law_584 ⟨rfl, rfl⟩ hv1 ?_
  refine r_aload_n d_Law_585 rfl ?_
  refine r_iload_n d_Law_586 rfl ?_
  refine r_iconst (nI 2) d_Law_587 (by decide) ?_
  refine r_iadd d_Law_588 ?_
  refine r_scrK d_Law_589 ⟨rfl, rfl⟩ hv2 ?_
  refine r_virtK [.int (σ.1 1000 (Int32.toNatClampNeg (x3 + nI 1))), .int (σ.1 1000 (Int32.toNatClampNeg (x3 + nI 2)))] [] d_Law_590 v_Law_75 rfl rfl cn_0 rfl (t_WD_seen h) (fun r1 τ1 h z1 => ?_)
  refine r_aload_n d_Law_593 rfl ?_
  refine r_aload_n d_Law_594 rfl ?_
  refine r_iload_n d_Law_595 rfl ?_
  refine r_iconst (nI 1) d_Law_596 (by decide) ?_
  refine r_iadd d_Law_597 ?_
  refine r_scrK d_Law_598 z1 hv1 ?_
  refine r_aload_n d_Law_599 rfl ?_
  refine r_iload_n d_Law_600 rfl ?_
  refine r_iconst (nI 2) d_Law_601 (by decide) ?_
  refine r_iadd d_Law_602 ?_
  refine r_scrK d_Law_603 z1 hv2 ?_
  refine r_virtK [.int (σ.1 1000 (Int32.toNatClampNeg (x3 + nI 1))), .int (σ.1 1000 (Int32.toNatClampNeg (x3 + nI 2)))] [.int r1] d_Law_604 v_Law_78 rfl rfl cn_153 rfl (t_Mod_seen h) (fun r2 τ2 h z2 => ?_)
  refine r_icmp2 1157 (r1 = r2) d_Law_607 (by decide) rfl (fun c => h.1 c) (fun c => ?_)
  refine r_iconst (nI 0) d_Law_610 (by decide) ?_
  exact r_zret0 d_Law_611 (h.2 c)
theorem lc_14 {d : Nat} {x3 : Int32} {σ : am_S} {K : Int32 → am_S → Prop} (hv1 : vp_in (x3 + nI 1) (σ.1 1001 0).toNatClampNeg) (hv2 : vp_in (x3 + nI 2) (σ.1 1001 0).toNatClampNeg) (hv3 : vp_in (x3 + nI 3) (σ.1 1001 0).toNatClampNeg) (h : w_WD_where (σ.1 1000 (Int32.toNatClampNeg (x3 + nI 1))) σ (fun r τ => w_Mod_where (σ.1 1000 (Int32.toNatClampNeg (x3 + nI 1))) τ (fun r2 τ2 => am_ite (r = r2) (R_Law d K 1157 (lvs x3) [] τ2) (K (nI 0) τ2)))) : R_Law d K 612 (lvs x3) [] σ := by
  refine r_aload_n d_Law_612 rfl ?_
  refine r_aload_n d_Law_613 rfl ?_
  refine r_iload_n d_Law_614 rfl ?_
  refine r_iconst (nI 1) d_Law_615 (by decide) ?_
  refine r_iadd d_Law_616 ?_
  refine r_scrK d_Law_617 ⟨rfl, rfl⟩ hv1 ?_
  refine r_virtK [.int (σ.1 1000 (Int32.toNatClampNeg (x3 + nI 1)))] [] d_Law_618 v_Law_79 rfl rfl cn_0 rfl (t_WD_where h) (fun r1 τ1 h z1 => ?_)
  refine r_aload_n d_Law_621 rfl ?_
  refine r_aload_n d_Law_622 rfl ?_
  refine r_iload_n d_Law_623 rfl ?_
  refine r_iconst (nI 1) d_Law_624 (by decide) ?_
  refine r_iadd d_Law_625 ?_
  refine r_scrK d_Law_626 z1 hv1 ?_
  refine r_virtK [.int (σ.1 1000 (Int32.toNatClampNeg (x3 + nI 1)))] [.int r1] d_Law_627 v_Law_82 rfl rfl cn_153 rfl (t_Mod_where h) (fun r2 τ2 h z2 => ?_)
  refine r_icmp2 1157 (r1 = r2) d_Law_630 (by decide) rfl (fun c => h.1 c) (fun c => ?_)
  refine r_iconst (nI 0) d_Law_633 (by decide) ?_
  exact r_zret0 d_Law_634 (h.2 c)
theorem lc_15 {d : Nat} {x3 : Int32} {σ : am_S} {K : Int32 → am_S → Prop} (hv1 : vp_in (x3 + nI 1) (σ.1 1001 0).toNatClampNeg) (hv2 : vp_in (x3 + nI 2) (σ.1 1001 0).toNatClampNeg) (hv3 : vp_in (x3 + nI 3) (σ.1 1001 0).toNatClampNeg) (h : w_WD_at (σ.1 1000 (Int32.toNatClampNeg (x3 + nI 1))) (σ.1 1000 (Int32.toNatClampNeg (x3 + nI 2))) σ (fun r τ => w_Mod_at (σ.1 1000 (Int32.toNatClampNeg (x3 + nI 1))) (σ.1 1000 (Int32.toNatClampNeg (x3 + nI 2))) τ (fun r2 τ2 => am_ite (r = r2) (R_Law d K 1157 (lvs x3) [] τ2) (K (nI 0) τ2)))) : R_Law d K 635 (lvs x3) [] σ := by
  refine r_aload_n d_Law_635 rfl ?_
  refine r_aload_n d_Law_636 rfl ?_
  refine r_iload_n d_Law_637 rfl ?_
  refine r_iconst (nI 1) d_Law_638 (by decide) ?_
  refine r_iadd d_Law_639 ?_
  refine r_scrK d_Law_640 ⟨rfl, rfl⟩ hv1 ?_
  refine r_aload_n d_Law_641 rfl ?_
  refine r_iload_n d_Law_642 rfl ?_
  refine r_iconst (nI 2) d_Law_643 (by decide) ?_
  refine r_iadd d_Law_644 ?_
  refine r_scrK d_Law_645 ⟨rfl, rfl⟩ hv2 ?_
  refine r_virtK [.int (σ.1 1000 (Int32.toNatClampNeg (x3 + nI 1))), .int (σ.1 1000 (Int32.toNatClampNeg (x3 + nI 2)))] [] d_Law_646 v_Law_83 rfl rfl cn_0 rfl (t_WD_at h) (fun r1 τ1 h z1 => ?_)
  refine r_aload_n d_Law_649 rfl ?_
  refine r_aload_n d_Law_650 rfl ?_
  refine r_iload_n d_Law_651 rfl ?_
  refine r_iconst (nI 1) d_Law_652 (by decide) ?_
  refine r_iadd d_Law_653 ?_
  refine r_scrK d_Law_654 z1 hv1 ?_
  refine r_aload_n d_Law_655 rfl ?_
  refine r_iload_n d_Law_656 rfl ?_
  refine r_iconst (nI 2) d_Law_657 (by decide) ?_
  refine r_iadd d_Law_658 ?_
  refine r_scrK d_Law_659 z1 hv2 ?_
  refine r_virtK [.int (σ.1 1000 (Int32.toNatClampNeg (x3 + nI 1))), .int (σ.1 1000 (Int32.toNatClampNeg (x3 + nI 2)))] [.int r1] d_Law_660 v_Law_86 rfl rfl cn_153 rfl (t_Mod_at h) (fun r2 τ2 h z2 => ?_)
  refine r_icmp2 1157 (r1 = r2) d_Law_663 (by decide) rfl (fun c => h.1 c) (fun c => ?_)
  refine r_iconst (nI 0) d_Law_666 (by decide) ?_
  exact r_zret0 d_Law_667 (h.2 c)
theorem lc_16 {d : Nat} {x3 : Int32} {σ : am_S} {K : Int32 → am_S → Prop} (hv1 : vp_in (x3 + nI 1) (σ.1 1001 0).toNatClampNeg) (hv2 : vp_in (x3 + nI 2) (σ.1 1001 0).toNatClampNeg) (hv3 : vp_in (x3 + nI 3) (σ.1 1001 0).toNatClampNeg) (h : w_WD_edge (σ.1 1000 (Int32.toNatClampNeg (x3 + nI 1))) σ (fun r τ => w_Mod_edge (σ.1 1000 (Int32.toNatClampNeg (x3 + nI 1))) τ (fun r2 τ2 => am_ite (r = r2) (R_Law d K 1157 (lvs x3) [] τ2) (K (nI 0) τ2)))) : R_Law d K 668 (lvs x3) [] σ := by
  refine r_aload_n d_Law_668 rfl ?_
  refine r_aload_n d_Law_669 rfl ?_
  refine r_iload_n d_Law_670 rfl ?_
  refine r_iconst (nI 1) d_Law_671 (by decide) ?_
  refine r_iadd d_Law_672 ?_
  refine r_scrK d_Law_673 ⟨rfl, rfl⟩ hv1 ?_
  refine r_virtK [.int (σ.1 1000 (Int32.toNatClampNeg (x3 + nI 1)))] [] d_Law_674 v_Law_87 rfl rfl cn_0 rfl (t_WD_edge h) (fun r1 τ1 h z1 => ?_)
  refine r_aload_n d_Law_677 rfl ?_
  refine r_aload_n d_Law_678 rfl ?_
  refine r_iload_n d_Law_679 rfl ?_
  refine r_iconst (nI 1) d_Law_680 (by decide) ?_
  refine r_iadd d_Law_681 ?_
  refine r_scrK d_Law_682 z1 hv1 ?_
  refine r_virtK [.int (σ.1 1000 (Int32.toNatClampNeg (x3 + nI 1)))] [.int r1] d_Law_683 v_Law_90 rfl rfl cn_153 rfl (t_Mod_edge h) (fun r2 τ2 h z2 => ?_)
  refine r_icmp2 1157 (r1 = r2) d_Law_686 (by decide) rfl (fun c => h.1 c) (fun c => ?_)
  refine r_iconst (nI 0) d_Law_689 (by decide) ?_
  exact r_zret0 d_Law_690 (h.2 c)
theorem lc_17 {d : Nat} {x3 : Int32} {σ : am_S} {K : Int32 → am_S → Prop} (hv1 : vp_in (x3 + nI 1) (σ.1 1001 0).toNatClampNeg) (hv2 : vp_in (x3 + nI 2) (σ.1 1001 0).toNatClampNeg) (hv3 : vp_in (x3 + nI 3) (σ.1 1001 0).toNatClampNeg) (h : w_WD_way (σ.1 1000 (Int32.toNatClampNeg (x3 + nI 1))) (σ.1 1000 (Int32.toNatClampNeg (x3 + nI 2))) σ (fun r τ => w_Mod_way (σ.1 1000 (Int32.toNatClampNeg (x3 + nI 1))) (σ.1 1000 (Int32.toNatClampNeg (x3 + nI 2))) τ (fun r2 τ2 => am_ite (r = r2) (R_Law d K 1157 (lvs x3) [] τ2) (K (nI 0) τ2)))) : R_Law d K 691 (lvs x3) [] σ := by
  refine r_aload_n d_Law_691 rfl ?_
  refine r_aload_n d_Law_692 rfl ?_
  refine r_iload_n d_Law_693 rfl ?_
  refine r_iconst (nI 1) d_Law_694 (by decide) ?_
  refine r_iadd d_Law_695 ?_
  refine r_scrK d_Law_696 ⟨rfl, rfl⟩ hv1 ?_
  refine r_aload_n d_Law_697 rfl ?_
  refine r_iload_n d_Law_698 rfl ?_
  refine r_iconst (nI 2) d_Law_699 (by decide) ?_
  refine r_iadd d_Law_700 ?_
  refine r_scrK d_Law_701 ⟨rfl, rfl⟩ hv2 ?_
  refine r_virtK [.int (σ.1 1000 (Int32.toNatClampNeg (x3 + nI 1))), .int (σ.1 1000 (Int32.toNatClampNeg (x3 + nI 2)))] [] d_Law_702 v_Law_91 rfl rfl cn_0 rfl (t_WD_way h) (fun r1 τ1 h z1 => ?_)
  refine r_aload_n d_Law_705 rfl ?_
  refine r_aload_n d_Law_706 rfl ?_
  refine r_iload_n d_Law_707 rfl ?_
  refine r_iconst (nI 1) d_Law_708 (by decide) ?_
  refine r_iadd d_Law_709 ?_
  refine r_scrK d_Law_710 z1 hv1 ?_
  refine r_aload_n d_Law_711 rfl ?_
  refine r_iload_n d_Law_712 rfl ?_
  refine r_iconst (nI 2) d_Law_713 (by decide) ?_
  refine r_iadd d_Law_714 ?_
  refine r_scrK d_Law_715 z1 hv2 ?_
  refine r_virtK [.int (σ.1 1000 (Int32.toNatClampNeg (x3 + nI 1))), .int (σ.1 1000 (Int32.toNatClampNeg (x3 + nI 2)))] [.int r1] d_Law_716 v_Law_94 rfl rfl cn_153 rfl (t_Mod_way h) (fun r2 τ2 h z2 => ?_)
  refine r_icmp2 1157 (r1 = r2) d_Law_719 (by decide) rfl (fun c => h.1 c) (fun c => ?_)
  refine r_iconst (nI 0) d_Law_722 (by decide) ?_
  exact r_zret0 d_Law_723 (h.2 c)
theorem lc_18 {d : Nat} {x3 : Int32} {σ : am_S} {K : Int32 → am_S → Prop} (hv1 : vp_in (x3 + nI 1) (σ.1 1001 0).toNatClampNeg) (hv2 : vp_in (x3 + nI 2) (σ.1 1001 0).toNatClampNeg) (hv3 : vp_in (x3 + nI 3) (σ.1 1001 0).toNatClampNeg) (h : w_WD_fewest  σ (fun r τ => w_Mod_fewest  τ (fun r2 τ2 => am_ite (r = r2) (R_Law d K 1157 (lvs x3) [] τ2) (K (nI 0) τ2)))) : R_Law d K 724 (lvs x3) [] σ := by
  refine r_aload_n d_Law_724 rfl ?_
  refine r_virtK [] [] d_Law_725 v_Law_95 rfl rfl cn_0 rfl (t_WD_fewest h) (fun r1 τ1 h z1 => ?_)
  refine r_aload_n d_Law_728 rfl ?_
  refine r_virtK [] [.int r1] d_Law_729 v_Law_98 rfl rfl cn_153 rfl (t_Mod_fewest h) (fun r2 τ2 h z2 => ?_)
  refine r_icmp2 1157 (r1 = r2) d_Law_732 (by decide) rfl (fun c => h.1 c) (fun c => ?_)
  refine r_iconst (nI 0) d_Law_735 (by decide) ?_
  exact r_zret0 d_Law_736 (h.2 c)
theorem lc_19 {d : Nat} {x3 : Int32} {σ : am_S} {K : Int32 → am_S → Prop} (hv1 : vp_in (x3 + nI 1) (σ.1 1001 0).toNatClampNeg) (hv2 : vp_in (x3 + nI 2) (σ.1 1001 0).toNatClampNeg) (hv3 : vp_in (x3 + nI 3) (σ.1 1001 0).toNatClampNeg) (h : w_WD_blind  σ (fun r τ => w_Mod_blind  τ (fun r2 τ2 => am_ite (r = r2) (R_Law d K 1157 (lvs x3) [] τ2) (K (nI 0) τ2)))) : R_Law d K 737 (lvs x3) [] σ := by
  refine r_aload_n d_Law_737 rfl ?_
  refine r_virtK [] [] d_Law_738 v_Law_99 rfl rfl cn_0 rfl (t_WD_blind h) (fun r1 τ1 h z1 => ?_)
  refine r_aload_n d_Law_741 rfl ?_
  refine r_virtK [] [.int r1] d_Law_742 v_Law_102 rfl rfl cn_153 rfl (t_Mod_blind h) (fun r2 τ2 h z2 => ?_)
  refine r_icmp2 1157 (r1 = r2) d_Law_745 (by decide) rfl (fun c => h.1 c) (fun c => ?_)
  refine r_iconst (nI 0) d_Law_748 (by decide) ?_
  exact r_zret0 d_Law_749 (h.2 c)
theorem lc_20 {d : Nat} {x3 : Int32} {σ : am_S} {K : Int32 → am_S → Prop} (hv1 : vp_in (x3 + nI 1) (σ.1 1001 0).toNatClampNeg) (hv2 : vp_in (x3 + nI 2) (σ.1 1001 0).toNatClampNeg) (hv3 : vp_in (x3 + nI 3) (σ.1 1001 0).toNatClampNeg) (h : w_WD_spare  σ (fun r τ => w_Mod_spare  τ (fun r2 τ2 => am_ite (r = r2) (R_Law d K 1157 (lvs x3) [] τ2) (K (nI 0) τ2)))) : R_Law d K 750 (lvs x3) [] σ := by
  refine r_aload_n d_Law_750 rfl ?_
  refine r_virtK [] [] d_Law_751 v_Law_103 rfl rfl cn_0 rfl (t_WD_spare h) (fun r1 τ1 h z1 => ?_)
  refine r_aload_n d_Law_754 rfl ?_
  refine r_virtK [] [.int r1] d_Law_755 v_Law_106 rfl rfl cn_153 rfl (t_Mod_spare h) (fun r2 τ2 h z2 => ?_)
  refine r_icmp2 1157 (r1 = r2) d_Law_758 (by decide) rfl (fun c => h.1 c) (fun c => ?_)
  refine r_iconst (nI 0) d_Law_761 (by decide) ?_
  exact r_zret0 d_Law_762 (h.2 c)
theorem lc_21 {d : Nat} {x3 : Int32} {σ : am_S} {K : Int32 → am_S → Prop} (hv1 : vp_in (x3 + nI 1) (σ.1 1001 0).toNatClampNeg) (hv2 : vp_in (x3 + nI 2) (σ.1 1001 0).toNatClampNeg) (hv3 : vp_in (x3 + nI 3) (σ.1 1001 0).toNatClampNeg) (h : w_WD_form (σ.1 1000 (Int32.toNatClampNeg (x3 + nI 1))) σ (fun r τ => w_Mod_form (σ.1 1000 (Int32.toNatClampNeg (x3 + nI 1))) τ (fun r2 τ2 => am_ite (r = r2) (R_Law d K 1157 (lvs x3) [] τ2) (K (nI 0) τ2)))) : R_Law d K 763 (lvs x3) [] σ := by
  refine r_aload_n d_Law_763 rfl ?_
  refine r_aload_n d_Law_764 rfl ?_
  refine r_iload_n d_Law_765 rfl ?_
  refine r_iconst (nI 1) d_Law_766 (by decide) ?_
  refine r_iadd d_Law_767 ?_
  refine r_scrK d_Law_768 ⟨rfl, rfl⟩ hv1 ?_
  refine r_virtK [.int (σ.1 1000 (Int32.toNatClampNeg (x3 + nI 1)))] [] d_Law_769 v_Law_107 rfl rfl cn_0 rfl (t_WD_form h) (fun r1 τ1 h z1 => ?_)
  refine r_aload_n d_Law_772 rfl ?_
  refine r_aload_n d_Law_773 rfl ?_
  refine r_iload_n d_Law_774 rfl ?_
  refine r_iconst (nI 1) d_Law_775 (by decide) ?_
  refine r_iadd d_Law_776 ?_
  refine r_scrK d_Law_777 z1 hv1 ?_
  refine r_virtK [.int (σ.1 1000 (Int32.toNatClampNeg (x3 + nI 1)))] [.int r1] d_Law_778 v_Law_110 rfl rfl cn_153 rfl (t_Mod_form h) (fun r2 τ2 h z2 => ?_)
  refine r_icmp2 1157 (r1 = r2) d_Law_781 (by decide) rfl (fun c => h.1 c) (fun c => ?_)
  refine r_iconst (nI 0) d_Law_784 (by decide) ?_
  exact r_zret0 d_Law_785 (h.2 c)
theorem lc_22 {d : Nat} {x3 : Int32} {σ : am_S} {K : Int32 → am_S → Prop} (hv1 : vp_in (x3 + nI 1) (σ.1 1001 0).toNatClampNeg) (hv2 : vp_in (x3 + nI 2) (σ.1 1001 0).toNatClampNeg) (hv3 : vp_in (x3 + nI 3) (σ.1 1001 0).toNatClampNeg) (h : w_WD_keep  σ (fun r τ => w_Mod_keep  τ (fun r2 τ2 => am_ite (r = r2) (R_Law d K 1157 (lvs x3) [] τ2) (K (nI 0) τ2)))) : R_Law d K 786 (lvs x3) [] σ := by
  refine r_aload_n d_Law_786 rfl ?_
  refine r_virtK [] [] d_Law_787 v_Law_111 rfl rfl cn_0 rfl (t_WD_keep h) (fun r1 τ1 h z1 => ?_)
  refine r_aload_n d_Law_790 rfl ?_
  refine r_virtK [] [.int r1] d_Law_791 v_Law_114 rfl rfl cn_153 rfl (t_Mod_keep h) (fun r2 τ2 h z2 => ?_)
  refine r_icmp2 1157 (r1 = r2) d_Law_794 (by decide) rfl (fun c => h.1 c) (fun c => ?_)
  refine r_iconst (nI 0) d_Law_797 (by decide) ?_
  exact r_zret0 d_Law_798 (h.2 c)
theorem lc_23 {d : Nat} {x3 : Int32} {σ : am_S} {K : Int32 → am_S → Prop} (hv1 : vp_in (x3 + nI 1) (σ.1 1001 0).toNatClampNeg) (hv2 : vp_in (x3 + nI 2) (σ.1 1001 0).toNatClampNeg) (hv3 : vp_in (x3 + nI 3) (σ.1 1001 0).toNatClampNeg) (h : w_WD_same  σ (fun r τ => w_Mod_same  τ (fun r2 τ2 => am_ite (r = r2) (R_Law d K 1157 (lvs x3) [] τ2) (K (nI 0) τ2)))) : R_Law d K 799 (lvs x3) [] σ := by
  refine r_aload_n d_Law_799 rfl ?_
  refine r_virtK [] [] d_Law_800 v_Law_115 rfl rfl cn_0 rfl (t_WD_same h) (fun r1 τ1 h z1 => ?_)
  refine r_aload_n d_Law_803 rfl ?_
  refine r_virtK [] [.int r1] d_Law_804 v_Law_118 rfl rfl cn_153 rfl (t_Mod_same h) (fun r2 τ2 h z2 => ?_)
  refine r_icmp2 1157 (r1 = r2) d_Law_807 (by decide) rfl (fun c => h.1 c) (fun c => ?_)
  refine r_iconst (nI 0) d_Law_810 (by decide) ?_
  exact r_zret0 d_Law_811 (h.2 c)
theorem lc_24 {d : Nat} {x3 : Int32} {σ : am_S} {K : Int32 → am_S → Prop} (hv1 : vp_in (x3 + nI 1) (σ.1 1001 0).toNatClampNeg) (hv2 : vp_in (x3 + nI 2) (σ.1 1001 0).toNatClampNeg) (hv3 : vp_in (x3 + nI 3) (σ.1 1001 0).toNatClampNeg) (h : w_WD_gray (σ.1 1000 (Int32.toNatClampNeg (x3 + nI 1))) (σ.1 1000 (Int32.toNatClampNeg (x3 + nI 2))) σ (fun r τ => w_Mod_gray (σ.1 1000 (Int32.toNatClampNeg (x3 + nI 1))) (σ.1 1000 (Int32.toNatClampNeg (x3 + nI 2))) τ (fun r2 τ2 => am_ite (r = r2) (R_Law d K 1157 (lvs x3) [] τ2) (K (nI 0) τ2)))) : R_Law d K 812 (lvs x3) [] σ := by
  refine r_aload_n d_Law_812 rfl ?_
  refine r_aload_n d_Law_813 rfl ?_
  refine r_iload_n d_Law_814 rfl ?_
  refine r_iconst (nI 1) d_Law_815 (by decide) ?_
  refine r_iadd d_Law_816 ?_
  refine r_scrK d_Law_817 ⟨rfl, rfl⟩ hv1 ?_
  refine r_aload_n d_Law_818 rfl ?_
  refine r_iload_n d_Law_819 rfl ?_
  refine r_iconst (nI 2) d_Law_820 (by decide) ?_
  refine r_iadd d_Law_821 ?_
  refine r_scrK d_Law_822 ⟨rfl, rfl⟩ hv2 ?_
  refine r_virtK [.int (σ.1 1000 (Int32.toNatClampNeg (x3 + nI 1))), .int (σ.1 1000 (Int32.toNatClampNeg (x3 + nI 2)))] [] d_Law_823 v_Law_119 rfl rfl cn_0 rfl (t_WD_gray h) (fun r1 τ1 h z1 => ?_)
  refine r_aload_n d_Law_826 rfl ?_
  refine r_aload_n d_Law_827 rfl ?_
  refine r_iload_n d_Law_828 rfl ?_
  refine r_iconst (nI 1) d_Law_829 (by decide) ?_
  refine r_iadd d_Law_830 ?_
  refine r_scrK d_Law_831 z1 hv1 ?_
  refine r_aload_n d_Law_832 rfl ?_
  refine r_iload_n d_Law_833 rfl ?_
  refine r_iconst (nI 2) d_Law_834 (by decide) ?_
  refine r_iadd d_Law_835 ?_
  refine r_scrK d_Law_836 z1 hv2 ?_
  refine r_virtK [.int (σ.1 1000 (Int32.toNatClampNeg (x3 + nI 1))), .int (σ.1 1000 (Int32.toNatClampNeg (x3 + nI 2)))] [.int r1] d_Law_837 v_Law_122 rfl rfl cn_153 rfl (t_Mod_gray h) (fun r2 τ2 h z2 => ?_)
  refine r_icmp2 1157 (r1 = r2) d_Law_840 (by decide) rfl (fun c => h.1 c) (fun c => ?_)
  refine r_iconst (nI 0) d_Law_843 (by decide) ?_
  exact r_zret0 d_Law_844 (h.2 c)
theorem lc_25 {d : Nat} {x3 : Int32} {σ : am_S} {K : Int32 → am_S → Prop} (hv1 : vp_in (x3 + nI 1) (σ.1 1001 0).toNatClampNeg) (hv2 : vp_in (x3 + nI 2) (σ.1 1001 0).toNatClampNeg) (hv3 : vp_in (x3 + nI 3) (σ.1 1001 0).toNatClampNeg) (h : w_WD_chain (σ.1 1000 (Int32.toNatClampNeg (x3 + nI 1))) (σ.1 1000 (Int32.toNatClampNeg (x3 + nI 2))) σ (fun r τ => w_Mod_chain (σ.1 1000 (Int32.toNatClampNeg (x3 + nI 1))) (σ.1 1000 (Int32.toNatClampNeg (x3 + nI 2))) τ (fun r2 τ2 => am_ite (r = r2) (R_Law d K 1157 (lvs x3) [] τ2) (K (nI 0) τ2)))) : R_Law d K 845 (lvs x3) [] σ := by
  refine r_aload_n d_Law_845 rfl ?_
  refine r_aload_n d_Law_846 rfl ?_
  refine r_iload_n d_Law_847 rfl ?_
  refine r_iconst (nI 1) d_Law_848 (by decide) ?_
  refine r_iadd d_Law_849 ?_
  refine r_scrK d_Law_850 ⟨rfl, rfl⟩ hv1 ?_
  refine r_aload_n d_Law_851 rfl ?_
  refine r_iload_n d_Law_852 rfl ?_
  refine r_iconst (nI 2) d_Law_853 (by decide) ?_
  refine r_iadd d_Law_854 ?_
  refine r_scrK d_Law_855 ⟨rfl, rfl⟩ hv2 ?_
  refine r_virtK [.int (σ.1 1000 (Int32.toNatClampNeg (x3 + nI 1))), .int (σ.1 1000 (Int32.toNatClampNeg (x3 + nI 2)))] [] d_Law_856 v_Law_123 rfl rfl cn_0 rfl (t_WD_chain h) (fun r1 τ1 h z1 => ?_)
  refine r_aload_n d_Law_859 rfl ?_
  refine r_aload_n d_Law_860 rfl ?_
  refine r_iload_n d_Law_861 rfl ?_
  refine r_iconst (nI 1) d_Law_862 (by decide) ?_
  refine r_iadd d_Law_863 ?_
  refine r_scrK d_Law_864 z1 hv1 ?_
  refine r_aload_n d_Law_865 rfl ?_
  refine r_iload_n d_Law_866 rfl ?_
  refine r_iconst (nI 2) d_Law_867 (by decide) ?_
  refine r_iadd d_Law_868 ?_
  refine r_scrK d_Law_869 z1 hv2 ?_
  refine r_virtK [.int (σ.1 1000 (Int32.toNatClampNeg (x3 + nI 1))), .int (σ.1 1000 (Int32.toNatClampNeg (x3 + nI 2)))] [.int r1] d_Law_870 v_Law_126 rfl rfl cn_153 rfl (t_Mod_chain h) (fun r2 τ2 h z2 => ?_)
  refine r_icmp2 1157 (r1 = r2) d_Law_873 (by decide) rfl (fun c => h.1 c) (fun c => ?_)
  refine r_iconst (nI 0) d_Law_876 (by decide) ?_
  exact r_zret0 d_Law_877 (h.2 c)
theorem lc_26 {d : Nat} {x3 : Int32} {σ : am_S} {K : Int32 → am_S → Prop} (hv1 : vp_in (x3 + nI 1) (σ.1 1001 0).toNatClampNeg) (hv2 : vp_in (x3 + nI 2) (σ.1 1001 0).toNatClampNeg) (hv3 : vp_in (x3 + nI 3) (σ.1 1001 0).toNatClampNeg) (h : w_WD_single (σ.1 1000 (Int32.toNatClampNeg (x3 + nI 1))) (σ.1 1000 (Int32.toNatClampNeg (x3 + nI 2))) (σ.1 1000 (Int32.toNatClampNeg (x3 + nI 3))) σ (fun r τ => w_Mod_single (σ.1 1000 (Int32.toNatClampNeg (x3 + nI 1))) (σ.1 1000 (Int32.toNatClampNeg (x3 + nI 2))) (σ.1 1000 (Int32.toNatClampNeg (x3 + nI 3))) τ (fun r2 τ2 => am_ite (r = r2) (R_Law d K 1157 (lvs x3) [] τ2) (K (nI 0) τ2)))) : R_Law d K 878 (lvs x3) [] σ := by
  refine r_aload_n d_Law_878 rfl ?_
  refine r_aload_n d_Law_879 rfl ?_
  refine r_iload_n d_Law_880 rfl ?_
  refine r_iconst (nI 1) d_Law_881 (by decide) ?_
  refine r_iadd d_Law_882 ?_
  refine r_scrK d_Law_883 ⟨rfl, rfl⟩ hv1 ?_
  refine r_aload_n d_Law_884 rfl ?_
  refine r_iload_n d_Law_885 rfl ?_
  refine r_iconst (nI 2) d_Law_886 (by decide) ?_
  refine r_iadd d_Law_887 ?_
  refine r_scrK d_Law_888 ⟨rfl, rfl⟩ hv2 ?_
  refine r_aload_n d_Law_889 rfl ?_
  refine r_iload_n d_Law_890 rfl ?_
  refine r_iconst (nI 3) d_Law_891 (by decide) ?_
  refine r_iadd d_Law_892 ?_
  refine r_scrK d_Law_893 ⟨rfl, rfl⟩ hv3 ?_
  refine r_virtK [.int (σ.1 1000 (Int32.toNatClampNeg (x3 + nI 1))), .int (σ.1 1000 (Int32.toNatClampNeg (x3 + nI 2))), .int (σ.1 1000 (Int32.toNatClampNeg (x3 + nI 3)))] [] d_Law_894 v_Law_127 rfl rfl cn_0 rfl (t_WD_single h) (fun r1 τ1 h z1 => ?_)
  refine r_aload_n d_Law_897 rfl ?_
  refine r_aload_n d_Law_898 rfl ?_
  refine r_iload_n d_Law_899 rfl ?_
  refine r_iconst (nI 1) d_Law_900 (by decide) ?_
  refine r_iadd d_Law_901 ?_
  refine r_scrK d_Law_902 z1 hv1 ?_
  refine r_aload_n d_Law_903 rfl ?_
  refine r_iload_n d_Law_904 rfl ?_
  refine r_iconst (nI 2) d_Law_905 (by decide) ?_
  refine r_iadd d_Law_906 ?_
  refine r_scrK d_Law_907 z1 hv2 ?_
  refine r_aload_n d_Law_908 rfl ?_
  refine r_iload_n d_Law_909 rfl ?_
  refine r_iconst (nI 3) d_Law_910 (by decide) ?_
  refine r_iadd d_Law_911 ?_
  refine r_scrK d_Law_912 z1 hv3 ?_
  refine r_virtK [.int (σ.1 1000 (Int32.toNatClampNeg (x3 + nI 1))), .int (σ.1 1000 (Int32.toNatClampNeg (x3 + nI 2))), .int (σ.1 1000 (Int32.toNatClampNeg (x3 + nI 3)))] [.int r1] d_Law_913 v_Law_131 rfl rfl cn_153 rfl (t_Mod_single h) (fun r2 τ2 h z2 => ?_)
  refine r_icmp2 1157 (r1 = r2) d_Law_916 (by decide) rfl (fun c => h.1 c) (fun c => ?_)
  refine r_iconst (nI 0) d_Law_919 (by decide) ?_
  exact r_zret0 d_Law_920 (h.2 c)
theorem lc_27 {d : Nat} {x3 : Int32} {σ : am_S} {K : Int32 → am_S → Prop} (hv1 : vp_in (x3 + nI 1) (σ.1 1001 0).toNatClampNeg) (hv2 : vp_in (x3 + nI 2) (σ.1 1001 0).toNatClampNeg) (hv3 : vp_in (x3 + nI 3) (σ.1 1001 0).toNatClampNeg) (h : w_WD_go (σ.1 1000 (Int32.toNatClampNeg (x3 + nI 1))) σ (fun r τ => w_Mod_go (σ.1 1000 (Int32.toNatClampNeg (x3 + nI 1))) τ (fun r2 τ2 => am_ite (r = r2) (R_Law d K 1157 (lvs x3) [] τ2) (K (nI 0) τ2)))) : R_Law d K 921 (lvs x3) [] σ := by
  refine r_aload_n d_Law_921 rfl ?_
  refine r_aload_n d_Law_922 rfl ?_
  refine r_iload_n d_Law_923 rfl ?_
  refine r_iconst (nI 1) d_Law_924 (by decide) ?_
  refine r_iadd d_Law_925 ?_
  refine r_scrK d_Law_926 ⟨rfl, rfl⟩ hv1 ?_
  refine r_virtK [.int (σ.1 1000 (Int32.toNatClampNeg (x3 + nI 1)))] [] d_Law_927 v_Law_132 rfl rfl cn_0 rfl (t_WD_go h) (fun r1 τ1 h z1 => ?_)
  refine r_aload_n d_Law_930 rfl ?_
  refine r_aload_n d_Law_931 rfl ?_
  refine r_iload_n d_Law_932 rfl ?_
  refine r_iconst (nI 1) d_Law_933 (by decide) ?_
  refine r_iadd d_Law_934 ?_
  refine r_scrK d_Law_935 z1 hv1 ?_
  refine r_virtK [.int (σ.1 1000 (Int32.toNatClampNeg (x3 + nI 1)))] [.int r1] d_Law_936 v_Law_135 rfl rfl cn_153 rfl (t_Mod_go h) (fun r2 τ2 h z2 => ?_)
  refine r_icmp2 1157 (r1 = r2) d_Law_939 (by decide) rfl (fun c => h.1 c) (fun c => ?_)
  refine r_iconst (nI 0) d_Law_942 (by decide) ?_
  exact r_zret0 d_Law_943 (h.2 c)
theorem lc_28 {d : Nat} {x3 : Int32} {σ : am_S} {K : Int32 → am_S → Prop} (hv1 : vp_in (x3 + nI 1) (σ.1 1001 0).toNatClampNeg) (hv2 : vp_in (x3 + nI 2) (σ.1 1001 0).toNatClampNeg) (hv3 : vp_in (x3 + nI 3) (σ.1 1001 0).toNatClampNeg) (h : w_WD_drive (σ.1 1000 (Int32.toNatClampNeg (x3 + nI 1))) σ (fun r τ => w_Mod_drive (σ.1 1000 (Int32.toNatClampNeg (x3 + nI 1))) τ (fun r2 τ2 => am_ite (r = r2) (R_Law d K 1157 (lvs x3) [] τ2) (K (nI 0) τ2)))) : R_Law d K 944 (lvs x3) [] σ := by
  refine r_aload_n d_Law_944 rfl ?_
  refine r_aload_n d_Law_945 rfl ?_
  refine r_iload_n d_Law_946 rfl ?_
  refine r_iconst (nI 1) d_Law_947 (by decide) ?_
  refine r_iadd d_Law_948 ?_
  refine r_scrK d_Law_949 ⟨rfl, rfl⟩ hv1 ?_
  refine r_virtK [.int (σ.1 1000 (Int32.toNatClampNeg (x3 + nI 1)))] [] d_Law_950 v_Law_136 rfl rfl cn_0 rfl (t_WD_drive h) (fun r1 τ1 h z1 => ?_)
  refine r_aload_n d_Law_953 rfl ?_
  refine r_aload_n d_Law_954 rfl ?_
  refine r_iload_n d_Law_955 rfl ?_
  refine r_iconst (nI 1) d_Law_956 (by decide) ?_
  refine r_iadd d_Law_957 ?_
  refine r_scrK d_Law_958 z1 hv1 ?_
  refine r_virtK [.int (σ.1 1000 (Int32.toNatClampNeg (x3 + nI 1)))] [.int r1] d_Law_959 v_Law_139 rfl rfl cn_153 rfl (t_Mod_drive h) (fun r2 τ2 h z2 => ?_)
  refine r_icmp2 1157 (r1 = r2) d_Law_962 (by decide) rfl (fun c => h.1 c) (fun c => ?_)
  refine r_iconst (nI 0) d_Law_965 (by decide) ?_
  exact r_zret0 d_Law_966 (h.2 c)
theorem lc_29 {d : Nat} {x3 : Int32} {σ : am_S} {K : Int32 → am_S → Prop} (hv1 : vp_in (x3 + nI 1) (σ.1 1001 0).toNatClampNeg) (hv2 : vp_in (x3 + nI 2) (σ.1 1001 0).toNatClampNeg) (hv3 : vp_in (x3 + nI 3) (σ.1 1001 0).toNatClampNeg) (h : w_WD_halt  σ (fun r τ => w_Mod_halt  τ (fun r2 τ2 => am_ite (r = r2) (R_Law d K 1157 (lvs x3) [] τ2) (K (nI 0) τ2)))) : R_Law d K 967 (lvs x3) [] σ := by
  refine r_aload_n d_Law_967 rfl ?_
  refine r_virtK [] [] d_Law_968 v_Law_140 rfl rfl cn_0 rfl (t_WD_halt h) (fun r1 τ1 h z1 => ?_)
  refine r_aload_n d_Law_971 rfl ?_
  refine r_virtK [] [.int r1] d_Law_972 v_Law_143 rfl rfl cn_153 rfl (t_Mod_halt h) (fun r2 τ2 h z2 => ?_)
  refine r_icmp2 1157 (r1 = r2) d_Law_975 (by decide) rfl (fun c => h.1 c) (fun c => ?_)
  refine r_iconst (nI 0) d_Law_978 (by decide) ?_
  exact r_zret0 d_Law_979 (h.2 c)
theorem lc_30 {d : Nat} {x3 : Int32} {σ : am_S} {K : Int32 → am_S → Prop} (hv1 : vp_in (x3 + nI 1) (σ.1 1001 0).toNatClampNeg) (hv2 : vp_in (x3 + nI 2) (σ.1 1001 0).toNatClampNeg) (hv3 : vp_in (x3 + nI 3) (σ.1 1001 0).toNatClampNeg) (h : w_WD_slip  σ (fun r τ => w_Mod_slip  τ (fun r2 τ2 => am_ite (r = r2) (R_Law d K 1157 (lvs x3) [] τ2) (K (nI 0) τ2)))) : R_Law d K 980 (lvs x3) [] σ := by
  refine r_aload_n d_Law_980 rfl ?_
  refine r_virtK [] [] d_Law_981 v_Law_144 rfl rfl cn_0 rfl (t_WD_slip h) (fun r1 τ1 h z1 => ?_)
  refine r_aload_n d_Law_984 rfl ?_
  refine r_virtK [] [.int r1] d_Law_985 v_Law_147 rfl rfl cn_153 rfl (t_Mod_slip h) (fun r2 τ2 h z2 => ?_)
  refine r_icmp2 1157 (r1 = r2) d_Law_988 (by decide) rfl (fun c => h.1 c) (fun c => ?_)
  refine r_iconst (nI 0) d_Law_991 (by decide) ?_
  exact r_zret0 d_Law_992 (h.2 c)
theorem lc_31 {d : Nat} {x3 : Int32} {σ : am_S} {K : Int32 → am_S → Prop} (hv1 : vp_in (x3 + nI 1) (σ.1 1001 0).toNatClampNeg) (hv2 : vp_in (x3 + nI 2) (σ.1 1001 0).toNatClampNeg) (hv3 : vp_in (x3 + nI 3) (σ.1 1001 0).toNatClampNeg) (h : w_WD_stands (σ.1 1000 (Int32.toNatClampNeg (x3 + nI 1))) σ (fun r τ => w_Mod_stands (σ.1 1000 (Int32.toNatClampNeg (x3 + nI 1))) τ (fun r2 τ2 => am_ite (r = r2) (R_Law d K 1157 (lvs x3) [] τ2) (K (nI 0) τ2)))) : R_Law d K 993 (lvs x3) [] σ := by
  refine r_aload_n d_Law_993 rfl ?_
  refine r_aload_n d_Law_994 rfl ?_
  refine r_iload_n d_Law_995 rfl ?_
  refine r_iconst (nI 1) d_Law_996 (by decide) ?_
  refine r_iadd d_Law_997 ?_
  refine r_scrK d_Law_998 ⟨rfl, rfl⟩ hv1 ?_
  refine r_virtK [.int (σ.1 1000 (Int32.toNatClampNeg (x3 + nI 1)))] [] d_Law_999 v_Law_148 rfl rfl cn_0 rfl (t_WD_stands h) (fun r1 τ1 h z1 => ?_)
  refine r_aload_n d_Law_1002 rfl ?_
  refine r_aload_n d_Law_1003 rfl ?_
  refine r_iload_n d_Law_1004 rfl ?_
  refine r_iconst (nI 1) d_Law_1005 (by decide) ?_
  refine r_iadd d_Law_1006 ?_
  refine r_scrK d_Law_1007 z1 hv1 ?_
  refine r_virtK [.int (σ.1 1000 (Int32.toNatClampNeg (x3 + nI 1)))] [.int r1] d_Law_1008 v_Law_151 rfl rfl cn_153 rfl (t_Mod_stands h) (fun r2 τ2 h z2 => ?_)
  refine r_icmp2 1157 (r1 = r2) d_Law_1011 (by decide) rfl (fun c => h.1 c) (fun c => ?_)
  refine r_iconst (nI 0) d_Law_1014 (by decide) ?_
  exact r_zret0 d_Law_1015 (h.2 c)
theorem lc_32 {d : Nat} {x3 : Int32} {σ : am_S} {K : Int32 → am_S → Prop} (hv1 : vp_in (x3 + nI 1) (σ.1 1001 0).toNatClampNeg) (hv2 : vp_in (x3 + nI 2) (σ.1 1001 0).toNatClampNeg) (hv3 : vp_in (x3 + nI 3) (σ.1 1001 0).toNatClampNeg) (h : w_WD_stand (σ.1 1000 (Int32.toNatClampNeg (x3 + nI 1))) σ (fun r τ => w_Mod_stand (σ.1 1000 (Int32.toNatClampNeg (x3 + nI 1))) τ (fun r2 τ2 => am_ite (r = r2) (R_Law d K 1157 (lvs x3) [] τ2) (K (nI 0) τ2)))) : R_Law d K 1016 (lvs x3) [] σ := by
  refine r_aload_n d_Law_1016 rfl ?_
  refine r_aload_n d_Law_1017 rfl ?_
  refine r_iload_n d_Law_1018 rfl ?_
  refine r_iconst (nI 1) d_Law_1019 (by decide) ?_
  refine r_iadd d_Law_1020 ?_
  refine r_scrK d_Law_1021 ⟨rfl, rfl⟩ hv1 ?_
  refine r_virtK [.int (σ.1 1000 (Int32.toNatClampNeg (x3 + nI 1)))] [] d_Law_1022 v_Law_152 rfl rfl cn_0 rfl (t_WD_stand h) (fun r1 τ1 h z1 => ?_)
  refine r_aload_n d_Law_1025 rfl ?_
  refine r_aload_n d_Law_1026 rfl ?_
  refine r_iload_n d_Law_1027 rfl ?_
  refine r_iconst (nI 1) d_Law_1028 (by decide) ?_
  refine r_iadd d_Law_1029 ?_
  refine r_scrK d_Law_1030 z1 hv1 ?_
  refine r_virtK [.int (σ.1 1000 (Int32.toNatClampNeg (x3 + nI 1)))] [.int r1] d_Law_1031 v_Law_155 rfl rfl cn_153 rfl (t_Mod_stand h) (fun r2 τ2 h z2 => ?_)
  refine r_icmp2 1157 (r1 = r2) d_Law_1034 (by decide) rfl (fun c => h.1 c) (fun c => ?_)
  refine r_iconst (nI 0) d_Law_1037 (by decide) ?_
  exact r_zret0 d_Law_1038 (h.2 c)
theorem lc_33 {d : Nat} {x3 : Int32} {σ : am_S} {K : Int32 → am_S → Prop} (hv1 : vp_in (x3 + nI 1) (σ.1 1001 0).toNatClampNeg) (hv2 : vp_in (x3 + nI 2) (σ.1 1001 0).toNatClampNeg) (hv3 : vp_in (x3 + nI 3) (σ.1 1001 0).toNatClampNeg) (h : w_WD_mend  σ (fun r τ => w_Mod_mend  τ (fun r2 τ2 => am_ite (r = r2) (R_Law d K 1157 (lvs x3) [] τ2) (K (nI 0) τ2)))) : R_Law d K 1039 (lvs x3) [] σ := by
  refine r_aload_n d_Law_1039 rfl ?_
  refine r_virtK [] [] d_Law_1040 v_Law_156 rfl rfl cn_0 rfl (t_WD_mend h) (fun r1 τ1 h z1 => ?_)
  refine r_aload_n d_Law_1043 rfl ?_
  refine r_virtK [] [.int r1] d_Law_1044 v_Law_159 rfl rfl cn_153 rfl (t_Mod_mend h) (fun r2 τ2 h z2 => ?_)
  refine r_icmp2 1157 (r1 = r2) d_Law_1047 (by decide) rfl (fun c => h.1 c) (fun c => ?_)
  refine r_iconst (nI 0) d_Law_1050 (by decide) ?_
  exact r_zret0 d_Law_1051 (h.2 c)
theorem lc_34 {d : Nat} {x3 : Int32} {σ : am_S} {K : Int32 → am_S → Prop} (hv1 : vp_in (x3 + nI 1) (σ.1 1001 0).toNatClampNeg) (hv2 : vp_in (x3 + nI 2) (σ.1 1001 0).toNatClampNeg) (hv3 : vp_in (x3 + nI 3) (σ.1 1001 0).toNatClampNeg) (h : w_WD_tell (σ.1 1000 (Int32.toNatClampNeg (x3 + nI 1))) σ (fun r τ => w_Mod_tell (σ.1 1000 (Int32.toNatClampNeg (x3 + nI 1))) τ (fun r2 τ2 => am_ite (r = r2) (R_Law d K 1157 (lvs x3) [] τ2) (K (nI 0) τ2)))) : R_Law d K 1052 (lvs x3) [] σ := by
  refine r_aload_n d_Law_1052 rfl ?_
  refine r_aload_n d_Law_1053 rfl ?_
  refine r_iload_n d_Law_1054 rfl ?_
  refine r_iconst (nI 1) d_Law_1055 (by decide) ?_
  refine r_iadd d_Law_1056 ?_
  refine r_scrK d_Law_1057 ⟨rfl, rfl⟩ hv1 ?_
  refine r_virtK [.int (σ.1 1000 (Int32.toNatClampNeg (x3 + nI 1)))] [] d_Law_1058 v_Law_160 rfl rfl cn_0 rfl (t_WD_tell h) (fun r1 τ1 h z1 => ?_)
  refine r_aload_n d_Law_1061 rfl ?_
  refine r_aload_n d_Law_1062 rfl ?_
  refine r_iload_n d_Law_1063 rfl ?_
  refine r_iconst (nI 1) d_Law_1064 (by decide) ?_
  refine r_iadd d_Law_1065 ?_
  refine r_scrK d_Law_1066 z1 hv1 ?_
  refine r_virtK [.int (σ.1 1000 (Int32.toNatClampNeg (x3 + nI 1)))] [.int r1] d_Law_1067 v_Law_163 rfl rfl cn_153 rfl (t_Mod_tell h) (fun r2 τ2 h z2 => ?_)
  refine r_icmp2 1157 (r1 = r2) d_Law_1070 (by decide) rfl (fun c => h.1 c) (fun c => ?_)
  refine r_iconst (nI 0) d_Law_1073 (by decide) ?_
  exact r_zret0 d_Law_1074 (h.2 c)
theorem lc_35 {d : Nat} {x3 : Int32} {σ : am_S} {K : Int32 → am_S → Prop} (hv1 : vp_in (x3 + nI 1) (σ.1 1001 0).toNatClampNeg) (hv2 : vp_in (x3 + nI 2) (σ.1 1001 0).toNatClampNeg) (hv3 : vp_in (x3 + nI 3) (σ.1 1001 0).toNatClampNeg) (h : w_WD_forge (σ.1 1000 (Int32.toNatClampNeg (x3 + nI 1))) (σ.1 1000 (Int32.toNatClampNeg (x3 + nI 2))) σ (fun r τ => w_Mod_forge (σ.1 1000 (Int32.toNatClampNeg (x3 + nI 1))) (σ.1 1000 (Int32.toNatClampNeg (x3 + nI 2))) τ (fun r2 τ2 => am_ite (r = r2) (R_Law d K 1157 (lvs x3) [] τ2) (K (nI 0) τ2)))) : R_Law d K 1075 (lvs x3) [] σ := by
  refine r_aload_n d_Law_1075 rfl ?_
  refine r_aload_n d_Law_1076 rfl ?_
  refine r_iload_n d_Law_1077 rfl ?_
  refine r_iconst (nI 1) d_Law_1078 (by decide) ?_
  refine r_iadd d_Law_1079 ?_
  refine r_scrK d_Law_1080 ⟨rfl, rfl⟩ hv1 ?_
  refine r_aload_n d_Law_1081 rfl ?_
  refine r_iload_n d_Law_1082 rfl ?_
  refine r_iconst (nI 2) d_Law_1083 (by decide) ?_
  refine r_iadd d_Law_1084 ?_
  refine r_scrK d_Law_1085 ⟨rfl, rfl⟩ hv2 ?_
  refine r_virtK [.int (σ.1 1000 (Int32.toNatClampNeg (x3 + nI 1))), .int (σ.1 1000 (Int32.toNatClampNeg (x3 + nI 2)))] [] d_Law_1086 v_Law_164 rfl rfl cn_0 rfl (t_WD_forge h) (fun r1 τ1 h z1 => ?_)
  refine r_aload_n d_Law_1089 rfl ?_
  refine r_aload_n d_Law_1090 rfl ?_
  refine r_iload_n d_Law_1091 rfl ?_
  refine r_iconst (nI 1) d_Law_1092 (by decide) ?_
  refine r_iadd d_Law_1093 ?_
  refine r_scrK d_Law_1094 z1 hv1 ?_
  refine r_aload_n d_Law_1095 rfl ?_
  refine r_iload_n d_Law_1096 rfl ?_
  refine r_iconst (nI 2) d_Law_1097 (by decide) ?_
  refine r_iadd d_Law_1098 ?_
  refine r_scrK d_Law_1099 z1 hv2 ?_
  refine r_virtK [.int (σ.1 1000 (Int32.toNatClampNeg (x3 + nI 1))), .int (σ.1 1000 (Int32.toNatClampNeg (x3 + nI 2)))] [.int r1] d_Law_1100 v_Law_167 rfl rfl cn_153 rfl (t_Mod_forge h) (fun r2 τ2 h z2 => ?_)
  refine r_icmp2 1157 (r1 = r2) d_Law_1103 (by decide) rfl (fun c => h.1 c) (fun c => ?_)
  refine r_iconst (nI 0) d_Law_1106 (by decide) ?_
  exact r_zret0 d_Law_1107 (h.2 c)
theorem lc_36 {d : Nat} {x3 : Int32} {σ : am_S} {K : Int32 → am_S → Prop} (hv1 : vp_in (x3 + nI 1) (σ.1 1001 0).toNatClampNeg) (hv2 : vp_in (x3 + nI 2) (σ.1 1001 0).toNatClampNeg) (hv3 : vp_in (x3 + nI 3) (σ.1 1001 0).toNatClampNeg) (h : w_WD_check (σ.1 1000 (Int32.toNatClampNeg (x3 + nI 1))) σ (fun r τ => w_Mod_check (σ.1 1000 (Int32.toNatClampNeg (x3 + nI 1))) τ (fun r2 τ2 => am_ite (r = r2) (R_Law d K 1157 (lvs x3) [] τ2) (K (nI 0) τ2)))) : R_Law d K 1108 (lvs x3) [] σ := by
  refine r_aload_n d_Law_1108 rfl ?_
  refine r_aload_n d_Law_1109 rfl ?_
  refine r_iload_n d_Law_1110 rfl ?_
  refine r_iconst (nI 1) d_Law_1111 (by decide) ?_
  refine r_iadd d_Law_1112 ?_
  refine r_scrK d_Law_1113 ⟨rfl, rfl⟩ hv1 ?_
  refine r_virtK [.int (σ.1 1000 (Int32.toNatClampNeg (x3 + nI 1)))] [] d_Law_1114 v_Law_168 rfl rfl cn_0 rfl (t_WD_check h) (fun r1 τ1 h z1 => ?_)
  refine r_aload_n d_Law_1117 rfl ?_
  refine r_aload_n d_Law_1118 rfl ?_
  refine r_iload_n d_Law_1119 rfl ?_
  refine r_iconst (nI 1) d_Law_1120 (by decide) ?_
  refine r_iadd d_Law_1121 ?_
  refine r_scrK d_Law_1122 z1 hv1 ?_
  refine r_virtK [.int (σ.1 1000 (Int32.toNatClampNeg (x3 + nI 1)))] [.int r1] d_Law_1123 v_Law_171 rfl rfl cn_153 rfl (t_Mod_check h) (fun r2 τ2 h z2 => ?_)
  refine r_icmp2 1157 (r1 = r2) d_Law_1126 (by decide) rfl (fun c => h.1 c) (fun c => ?_)
  refine r_iconst (nI 0) d_Law_1129 (by decide) ?_
  exact r_zret0 d_Law_1130 (h.2 c)
theorem lc_37 {d : Nat} {x3 : Int32} {σ : am_S} {K : Int32 → am_S → Prop} (hv1 : vp_in (x3 + nI 1) (σ.1 1001 0).toNatClampNeg) (hv2 : vp_in (x3 + nI 2) (σ.1 1001 0).toNatClampNeg) (hv3 : vp_in (x3 + nI 3) (σ.1 1001 0).toNatClampNeg) (h : w_WD_clear  σ (fun r τ => w_Mod_clear  τ (fun r2 τ2 => am_ite (r = r2) (R_Law d K 1157 (lvs x3) [] τ2) (K (nI 0) τ2)))) : R_Law d K 1131 (lvs x3) [] σ := by
  refine r_aload_n d_Law_1131 rfl ?_
  refine r_virtK [] [] d_Law_1132 v_Law_172 rfl rfl cn_0 rfl (t_WD_clear h) (fun r1 τ1 h z1 => ?_)
  refine r_aload_n d_Law_1135 rfl ?_
  refine r_virtK [] [.int r1] d_Law_1136 v_Law_175 rfl rfl cn_153 rfl (t_Mod_clear h) (fun r2 τ2 h z2 => ?_)
  refine r_icmp2 1157 (r1 = r2) d_Law_1139 (by decide) rfl (fun c => h.1 c) (fun c => ?_)
  refine r_iconst (nI 0) d_Law_1142 (by decide) ?_
  exact r_zret0 d_Law_1143 (h.2 c)
theorem lc_38 {d : Nat} {x3 : Int32} {σ : am_S} {K : Int32 → am_S → Prop} (hv1 : vp_in (x3 + nI 1) (σ.1 1001 0).toNatClampNeg) (hv2 : vp_in (x3 + nI 2) (σ.1 1001 0).toNatClampNeg) (hv3 : vp_in (x3 + nI 3) (σ.1 1001 0).toNatClampNeg) (h : w_WD_fault  σ (fun r τ => w_Mod_fault  τ (fun r2 τ2 => am_ite (r = r2) (R_Law d K 1157 (lvs x3) [] τ2) (K (nI 0) τ2)))) : R_Law d K 1144 (lvs x3) [] σ := by
  refine r_aload_n d_Law_1144 rfl ?_
  refine r_virtK [] [] d_Law_1145 v_Law_176 rfl rfl cn_0 rfl (t_WD_fault h) (fun r1 τ1 h z1 => ?_)
  refine r_aload_n d_Law_1148 rfl ?_
  refine r_virtK [] [.int r1] d_Law_1149 v_Law_179 rfl rfl cn_153 rfl (t_Mod_fault h) (fun r2 τ2 h z2 => ?_)
  refine r_icmp2 1157 (r1 = r2) d_Law_1152 (by decide) rfl (fun c => h.1 c) (fun c => ?_)
  refine r_iconst (nI 0) d_Law_1155 (by decide) ?_
  exact r_zret0 d_Law_1156 (h.2 c)
theorem lc_4 {d : Nat} {x3 : Int32} {σ : am_S} {K : Int32 → am_S → Prop} (hv1 : vp_in (x3 + nI 1) (σ.1 1001 0).toNatClampNeg) (hv2 : vp_in (x3 + nI 2) (σ.1 1001 0).toNatClampNeg) (hv3 : vp_in (x3 + nI 3) (σ.1 1001 0).toNatClampNeg) (h : ∀ b : Bool, w_WD_light (σ.1 1000 (Int32.toNatClampNeg (x3 + nI 1))) (σ.1 1000 (Int32.toNatClampNeg (x3 + nI 2))) (bI b) σ (fun r τ => w_Mod_light (σ.1 1000 (Int32.toNatClampNeg (x3 + nI 1))) (σ.1 1000 (Int32.toNatClampNeg (x3 + nI 2))) (bI b) τ (fun r2 τ2 => am_ite (r = r2) (R_Law d K 1157 (lvs x3) [] τ2) (K (nI 0) τ2)))) : R_Law d K 336 (lvs x3) [] σ := by
  refine r_aload_n d_Law_336 rfl ?_
  refine r_aload_n d_Law_337 rfl ?_
  refine r_iload_n d_Law_338 rfl ?_
  refine r_iconst (nI 1) d_Law_339 (by decide) ?_
  refine r_iadd d_Law_340 ?_
  refine r_scrK d_Law_341 ⟨rfl, rfl⟩ hv1 ?_
  refine r_aload_n d_Law_342 rfl ?_
  refine r_iload_n d_Law_343 rfl ?_
  refine r_iconst (nI 2) d_Law_344 (by decide) ?_
  refine r_iadd d_Law_345 ?_
  refine r_scrK d_Law_346 ⟨rfl, rfl⟩ hv2 ?_
  refine r_aload_n d_Law_347 rfl ?_
  refine r_iload_n d_Law_348 rfl ?_
  refine r_iconst (nI 3) d_Law_349 (by decide) ?_
  refine r_iadd d_Law_350 ?_
  refine r_scrK d_Law_351 ⟨rfl, rfl⟩ hv3 ?_
  refine r_if2 359 ((σ.1 1000 (Int32.toNatClampNeg (x3 + nI 3))) = nI 0) d_Law_352 (by decide) rfl (fun c352 => ?_) (fun c352 => ?_)
  · refine r_iconst (nI 0) d_Law_359 (by decide) ?_
    refine r_virtK [.int (σ.1 1000 (Int32.toNatClampNeg (x3 + nI 1))), .int (σ.1 1000 (Int32.toNatClampNeg (x3 + nI 2))), .int (nI 0)] [] d_Law_360 v_Law_35 rfl rfl cn_0 rfl (t_WD_light (h false)) (fun r1 τ1 h z1 => ?_)
    refine r_aload_n d_Law_363 rfl ?_
    refine r_aload_n d_Law_364 rfl ?_
    refine r_iload_n d_Law_365 rfl ?_
    refine r_iconst (nI 1) d_Law_366 (by decide) ?_
    refine r_iadd d_Law_367 ?_
    refine r_scrK d_Law_368 z1 hv1 ?_
    refine r_aload_n d_Law_369 rfl ?_
    refine r_iload_n d_Law_370 rfl ?_
    refine r_iconst (nI 2) d_Law_371 (by decide) ?_
    refine r_iadd d_Law_372 ?_
    refine r_scrK d_Law_373 z1 hv2 ?_
    refine r_aload_n d_Law_374 rfl ?_
    refine r_iload_n d_Law_375 rfl ?_
    refine r_iconst (nI 3) d_Law_376 (by decide) ?_
    refine r_iadd d_Law_377 ?_
    refine r_scrK d_Law_378 z1 hv3 ?_
    refine r_if2 386 ((σ.1 1000 (Int32.toNatClampNeg (x3 + nI 3))) = nI 0) d_Law_379 (by decide) rfl (fun _ => ?_) (fun c => absurd c352 c)
    refine r_iconst (nI 0) d_Law_386 (by decide) ?_
    refine r_virtK [.int (σ.1 1000 (Int32.toNatClampNeg (x3 + nI 1))), .int (σ.1 1000 (Int32.toNatClampNeg (x3 + nI 2))), .int (nI 0)] [.int r1] d_Law_387 v_Law_39 rfl rfl cn_153 rfl (t_Mod_light h) (fun r2 τ2 h z2 => ?_)
    refine r_icmp2 1157 (r1 = r2) d_Law_390 (by decide) rfl (fun c => h.1 c) (fun c => ?_)
    refine r_iconst (nI 0) d_Law_393 (by decide) ?_
    exact r_zret0 d_Law_394 (h.2 c)
  · refine r_iconst (nI 1) d_Law_355 (by decide) ?_
    refine r_goto 360 d_Law_356 (by decide) ?_
    refine r_virtK [.int (σ.1 1000 (Int32.toNatClampNeg (x3 + nI 1))), .int (σ.1 1000 (Int32.toNatClampNeg (x3 + nI 2))), .int (nI 1)] [] d_Law_360 v_Law_35 rfl rfl cn_0 rfl (t_WD_light (h true)) (fun r1 τ1 h z1 => ?_)
    refine r_aload_n d_Law_363 rfl ?_
    refine r_aload_n d_Law_364 rfl ?_
    refine r_iload_n d_Law_365 rfl ?_
    refine r_iconst (nI 1) d_Law_366 (by decide) ?_
    refine r_iadd d_Law_367 ?_
    refine r_scrK d_Law_368 z1 hv1 ?_
    refine r_aload_n d_Law_369 rfl ?_
    refine r_iload_n d_Law_370 rfl ?_
    refine r_iconst (nI 2) d_Law_371 (by decide) ?_
    refine r_iadd d_Law_372 ?_
    refine r_scrK d_Law_373 z1 hv2 ?_
    refine r_aload_n d_Law_374 rfl ?_
    refine r_iload_n d_Law_375 rfl ?_
    refine r_iconst (nI 3) d_Law_376 (by decide) ?_
    refine r_iadd d_Law_377 ?_
    refine r_scrK d_Law_378 z1 hv3 ?_
    refine r_if2 386 ((σ.1 1000 (Int32.toNatClampNeg (x3 + nI 3))) = nI 0) d_Law_379 (by decide) rfl (fun c => absurd c c352) (fun _ => ?_)
    refine r_iconst (nI 1) d_Law_382 (by decide) ?_
    refine r_goto 387 d_Law_383 (by decide) ?_
    refine r_virtK [.int (σ.1 1000 (Int32.toNatClampNeg (x3 + nI 1))), .int (σ.1 1000 (Int32.toNatClampNeg (x3 + nI 2))), .int (nI 1)] [.int r1] d_Law_387 v_Law_39 rfl rfl cn_153 rfl (t_Mod_light h) (fun r2 τ2 h z2 => ?_)
    refine r_icmp2 1157 (r1 = r2) d_Law_390 (by decide) rfl (fun c => h.1 c) (fun c => ?_)
    refine r_iconst (nI 0) d_Law_393 (by decide) ?_
    exact r_zret0 d_Law_394 (h.2 c)
