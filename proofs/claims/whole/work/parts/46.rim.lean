/-! RIMS -/
theorem cS.rim {σ τ : am_S} {S : sp_S} {R : Option (Nat × Nat × (Nat → Int64))} (h : cS σ S) (he : am_eq (fun k => k = 1 ∨ k = 2) σ τ) (hR : cRim τ R) : cS τ (sR S R) := by
  obtain ⟨h1, h2, h3, h4, h5, h6, h7, h8, h9, h10⟩ := h
  exact ⟨by rw [(he 0 (by decide)).1]; exact h1, hR, ⟨h3.1.kept he (by decide) (by decide) (by decide) (by decide), h3.2⟩, h4.kept he (by decide) (fun k a b => by omega), h5.kept he (by decide) (by decide) (by decide), h6.kept he (by decide) (by decide), h7.kept he (by decide) (by decide), h8.kept he (fun k a b => by omega), h9.kept he (by decide) (by decide), h10.kept he (by decide)⟩
theorem cB.rim {σ τ : am_S} {S : sp_S} {R : Option (Nat × Nat × (Nat → Int64))} (h : cB σ S) (he : am_eq (fun k => k = 1 ∨ k = 2) σ τ) (hR : cRim τ R) : cB τ (sR S R) := by
  obtain ⟨h1, h2, h3, h4, ⟨h5, h6, h7, h8⟩, h9, h10, h11⟩ := h
  exact ⟨hR, ⟨h2.1.kept he (by decide) (by decide) (by decide) (by decide), h2.2⟩, h3.kept he (by decide) (fun k a b => by omega), h4.kept he (by decide) (by decide) (by decide), ⟨by rw [(he 9 (by decide)).1]; exact h5, by rw [(he 13 (by decide)).1]; exact h6, by rw [(he 22 (by decide)).1]; exact h7, by rw [(he 22 (by decide)).1]; exact h8⟩, h9.kept he (by decide) (by decide), h10.kept he (by decide) (by decide), h11.kept he (by decide)⟩
theorem mS.rim {σ τ : am_S} {S : sp_S} {R : Option (Nat × Nat × (Nat → Int64))} (h : mS σ S) (he : am_eq (fun k => k = 153 ∨ k = 158) σ τ) (hf : fEq (fun i => i = 7 ∨ i = 8) σ τ) (hR : mRim τ R) : mS τ (sR S R) := by
  obtain ⟨h1, h2, h3, h4, h5, h6, h7, h8⟩ := h
  have hs : ∀ j, sEq σ τ j := fun j => sEq.of he (by decide) (by decide) (by decide) (by decide)
  exact ⟨by rw [hf 18 (by decide)]; exact h1, hR, ⟨h3.1.slot h3.2.2.2.2.1 (hs 0), h3.2⟩, h4.kept (P := fun _ => True) (fun j _ _ => hs j) hf (by decide) (by decide), h5.kept he hf (hs 1) (by decide) (by decide), h6.kept he hf (by decide) (by decide), h7.kept he hf (by decide) (by decide), h8.kept hf (fun i a b => by omega)⟩
theorem m_rimL {d : Nat} {σ : am_S} {K : Int32 → am_S → Prop} (h : K (σ.1 153 8) (fJ σ 158 64 0)) : R_Mod_rim d K 67 [.ref 153, .null, .null, .int (nI 0)] [] σ := by
  have L : ∀ q k, k + q = 64 → R_Mod_rim d K 67 [.ref 153, .null, .null, .int (nI k)] [] (fJ σ 158 k 0) := by
    intro q
    induction q with
    | zero =>
      intro k hk
      have : k = 64 := by omega
      subst this
      exact l_Mod_rim_67 (am_ite_t (nI_le (Nat.le_refl _) (by decide)) h)
    | succ q ih =>
      intro k hk
      refine l_Mod_rim_67 (pk_le 64 k (fun z => absurd z (by omega)) (fun _ => ⟨pk_in k 64 (by omega), ?_⟩))
      rw [nI_clamp (by omega), nI_add, fJ_step]
      exact ih (k + 1) (by omega)
  have := L 64 0 (by omega)
  rw [fJ_0] at this
  exact this
theorem x_rimOk {k m : Nat} {θ σ : am_S} {K : Int32 → Int32 → am_S → Prop} (hJ : J θ σ) (h : ∀ v τ, J θ τ → K v v τ) (hk : k ≤ 3) (hm3 : m ≤ 64) (hm0 : k = 3 → m = 0) : w_Rim_become (nI k) (nI m) σ (fun τ8 => (w_WD_accept (nI m) τ8 (fun r9 τ9 => ∀ d, R_Mod_rim d (K r9) 67 [.ref 153, .null, .null, .int (nI 0)] [] (am_upI (am_upI (am_upI τ9 153 18 (nI 0)) 153 7 (nI k)) 153 8 (nI m))))) := by
  obtain ⟨⟨S, hc, hm⟩, he⟩ := hJ
  refine s_fillJ rfl (by decide) (fun d => m_rimL ?_)
  have e1 : am_eq (fun k => k = 1 ∨ k = 2) σ (fJ (am_upI (am_upI σ 1 1 (nI k)) 1 2 (nI m)) 2 64 0) := ((am_eq.upI (Or.inl rfl)).tr (am_eq.upI (Or.inl rfl))).tr (fJ_eq (Or.inr rfl))
  have hc2 := hc.rim (R := some (k, m, fun _ => 0)) e1 ⟨rfl, hk, rfl, hm3, hm0, fun i hi => by
    show (if 2 = 2 ∧ i < 64 then (0 : Int64) else _) = 0
    rw [if_pos ⟨rfl, hi⟩]⟩
  have e3 : am_eq (fun k => k < 153) σ (am_upI (fJ (am_upI (am_upI σ 1 1 (nI k)) 1 2 (nI m)) 2 64 0) 0 12 (nI 0)) := (e1.mono (fun k hk => by omega)).tr c0_e
  have hm2 := (hm.cls e3).fault (nI 0)
  generalize hω : am_upI (fJ (am_upI (am_upI σ 1 1 (nI k)) 1 2 (nI m)) 2 64 0) 0 12 (nI 0) = ω at hm2 e3 ⊢
  have e5 : am_eq (fun k => k = 153 ∨ k = 158) (am_upI ω 153 18 (nI 0)) (fJ (am_upI (am_upI (am_upI ω 153 18 (nI 0)) 153 7 (nI k)) 153 8 (nI m)) 158 64 0) := ((am_eq.upI (Or.inl rfl)).tr (am_eq.upI (Or.inl rfl))).tr (fJ_eq (Or.inr rfl))
  have e6 : fEq (fun i => i = 7 ∨ i = 8) (am_upI ω 153 18 (nI 0)) (fJ (am_upI (am_upI (am_upI ω 153 18 (nI 0)) 153 7 (nI k)) 153 8 (nI m)) 158 64 0) := ((fEq.up (Or.inl rfl)).tr (fEq.up (Or.inr rfl))).tr (fEq.of (fJ_eq (P := fun k => k = 158) rfl) (by decide))
  refine h (nI m) _ (J_end he (hc2.fault (nI 0)) (by rw [hω]; exact e3) (hm2.rim (R := some (k, m, fun _ => 0)) e5 e6 ⟨rfl, rfl, fun i hi => ?_⟩) (by rw [hω]; exact f0_e.tr (e5.mono (fun k hk => by omega))))
  show (if 158 = 158 ∧ i < 64 then (0 : Int64) else _) = 0
  rw [if_pos ⟨rfl, hi⟩]
theorem x_rim {x y : Int32} {θ σ : am_S} {K : Int32 → Int32 → am_S → Prop} (hJ : J θ σ) (h : ∀ v τ, J θ τ → K v v τ) : w_WD_rim x y σ (fun v τ => w_Mod_rim x y τ (K v)) := by
  obtain ⟨⟨S, hc, hm⟩, he⟩ := id hJ
  constructor
  · intro n3
    constructor
    · intro z
      exact e_Mod_rim (fun d => am_ite_t z (h _ _ (J_no he hc hm)))
    · intro z
      constructor
      · intro z2
        refine e_Mod_rim (fun d => am_ite_f z (am_ite_t ?_ (h _ _ (J_no he hc hm))))
        rw [i_gt (by decide)] at z2 ⊢
        have : x.toInt ≠ 3 := fun q => n3 (Int32.toInt_inj.mp (by rw [q, nI_toInt (by decide)]; rfl))
        omega
      · intro z2
        obtain ⟨k, k1, k2, rfl⟩ := i_of (b := 2) (by decide) z (by rw [i_le (by decide)]; rw [i_gt (by decide)] at z2; omega)
        have c1 : ¬ nI 3 < nI k := nI_nlt (by omega) (by decide)
        have c2 : ¬ nI 3 ≤ nI k := nI_ge (by omega) (by decide)
        constructor
        · intro z3
          constructor
          · intro z4
            obtain ⟨m, m1, m2, rfl⟩ := i_of (x := y) (a := 0) (b := 64) (by decide) (by rw [i_lt (by decide)]; rw [i_ge (by decide)] at z4; omega) z3
            have q := x_rimOk hJ h (k := k) (m := m) (by omega) m2 (by omega)
            have mono : ∀ {X Y : am_S → Prop}, (∀ τ, X τ → Y τ) → w_Rim_become (nI k) (nI m) σ X → w_Rim_become (nI k) (nI m) σ Y := fun f g d => am_run_mon _ _ _ _ _ _ (fun r τ hh => ⟨hh.1, f τ hh.2⟩) (g d)
            refine mono (fun τ hh => ?_) q
            exact e_Mod_rim (fun d => am_ite_f z (am_ite_f c1 (am_ite_f c2 (am_ite_t z3 (am_ite_f c2 (am_ite_t z4 (am_ite_t n3 (hh d))))))))
          · intro z4
            exact e_Mod_rim (fun d => am_ite_f z (am_ite_f c1 (am_ite_f c2 (am_ite_t z3 (am_ite_f c2 (am_ite_f z4 (h _ _ (J_no he hc hm))))))))
        · intro z3
          exact e_Mod_rim (fun d => am_ite_f z (am_ite_f c1 (am_ite_f c2 (am_ite_f z3 (h _ _ (J_no he hc hm))))))
  · intro z
    have e3 : x = nI 3 := Classical.not_not.mp z
    subst e3
    have q := x_rimOk hJ h (k := 3) (m := 0) (by omega) (by omega) (by omega)
    have mono : ∀ {X Y : am_S → Prop}, (∀ τ, X τ → Y τ) → w_Rim_become (nI 3) (nI 0) σ X → w_Rim_become (nI 3) (nI 0) σ Y := fun f g d => am_run_mon _ _ _ _ _ _ (fun r τ hh => ⟨hh.1, f τ hh.2⟩) (g d)
    refine mono (fun τ hh => ?_) q
    exact e_Mod_rim (fun d => am_ite_f (by decide) (am_ite_f (by decide) (am_ite_t (by decide) (am_ite_t (by decide) (am_ite_f (by simp) (hh d))))))
theorem x_entry {x : Int32} {v : Int64} {θ σ : am_S} {K : Int32 → Int32 → am_S → Prop} (hJ : J θ σ) (h : ∀ v τ, J θ τ → K v v τ) : w_WD_entry x v σ (fun r τ => w_Mod_entry x v τ (K r)) := by
  obtain ⟨⟨S, hc, hm⟩, he⟩ := id hJ
  have hR := hc.2.1
  have hM := hm.2.1
  unfold w_WD_entry w_Rim_hasRow
  cases hr : sr S with
  | none =>
    rw [hr] at hR hM
    refine am_ite_t hR (am_ite_f (by simp) ⟨Or.inl rfl, am_ite_t hM (h _ _ (J_no he hc hm))⟩)
  | some R =>
    obtain ⟨k, m, e⟩ := R
    rw [hr] at hR hM
    obtain ⟨r1, r2, r3, r4, r5, r6⟩ := hR
    obtain ⟨s1, s2, s3⟩ := hM
    dsimp only
    rw [r1, r3]
    refine am_ite_f (ne1 (by omega)) ?_
    by_cases e3 : k = 3
    · subst e3
      refine am_ite_t rfl (am_ite_f (by simp) ⟨Or.inl rfl, ?_⟩)
      show am_ite _ _ _
      rw [show (am_upI σ 0 12 (nI 2)).1 153 7 = nI 3 from s1]
      exact am_ite_f (by decide) (am_ite_f (by simp) (h _ _ (J_no he hc hm)))
    · have n3 : ¬ nI k = nI 3 := fun z => e3 ((nI_eq (by omega) (by decide)).mp z)
      refine am_ite_f n3 (am_ite_t (by decide) ?_)
      have go : ∀ (w : Int32) (τ : am_S) (KK : Int32 → am_S → Prop), am_eq (fun k => k < 153) σ τ → am_ite (x < nI 0) (KK (nI 0) (am_upI (am_upI τ 153 18 (nI 0)) 153 18 (nI 1))) (am_ite (x < nI m) (vp_in x 64 ∧ KK (nI 1) (am_upJ (am_upI τ 153 18 (nI 0)) 158 (Int32.toNatClampNeg x) v)) (KK (nI 0) (am_upI (am_upI τ 153 18 (nI 0)) 153 18 (nI 1)))) → w_Mod_entry x v τ KK := by
        intro w τ KK e5 g
        show am_ite _ _ _
        rw [show τ.1 153 7 = nI k by rw [(e5 153 (by decide)).1]; exact s1, show τ.1 153 8 = nI m by rw [(e5 153 (by decide)).1]; exact s2]
        exact am_ite_f (ne1 (by omega)) (am_ite_t n3 g)
      constructor
      · intro z
        exact ⟨Or.inl rfl, go 0 _ _ c0_e (am_ite_t z (h _ _ (J_no he hc hm)))⟩
      · intro z
        constructor
        · intro z2
          rcases pk_ix x (show m < 2 ^ 31 by omega) with g | g | ⟨i, g1, rfl⟩
          · exact absurd g z
          · rw [i_lt (by omega)] at z2
            rw [i_ge (by omega)] at g
            omega
          · have iv : vp_in (nI i) 64 := pk_in i 64 (by omega)
            refine ⟨iv, Or.inr rfl, Or.inr rfl, ?_⟩
            have e1 : am_eq (fun k => k = 1 ∨ k = 2) σ (am_upJ σ 2 (Int32.toNatClampNeg (nI i)) v) := am_eq.upJ (Or.inr rfl)
            have e3' : am_eq (fun k => k < 153) σ (am_upI (am_upJ σ 2 (Int32.toNatClampNeg (nI i)) v) 0 12 (nI 0)) := (e1.mono (fun k hk => by omega)).tr c0_e
            refine go 0 _ _ e3' (am_ite_f z (am_ite_t z2 ⟨iv, ?_⟩))
            have ci : Int32.toNatClampNeg (nI i) = i := nI_clamp (by omega)
            rw [ci] at e1 e3' ⊢
            have hc2 := hc.rim (R := some (k, m, fun j => if j = i then v else e j)) e1 ⟨r1, r2, r3, r4, r5, fun j hj => by
              rw [u_J]
              by_cases q : j = i
              · rw [if_pos ⟨rfl, q⟩]; exact (if_pos q).symm
              · rw [if_neg (fun z => q z.2), r6 j hj]; exact (if_neg q).symm⟩
            have hm2 := (hm.cls e3').fault (nI 0)
            generalize hω : am_upI (am_upJ σ 2 i v) 0 12 (nI 0) = ω at hm2 e3' ⊢
            have e5 : am_eq (fun k => k = 153 ∨ k = 158) (am_upI ω 153 18 (nI 0)) (am_upJ (am_upI ω 153 18 (nI 0)) 158 i v) := am_eq.upJ (Or.inr rfl)
            have h158 : (am_upI ω 153 18 (nI 0)).2 158 = σ.2 158 := (e3' 158 (by decide)).2
            have h153 : ω.1 153 = σ.1 153 := (e3' 153 (by decide)).1
            refine h (nI 1) _ (J_end he (hc2.fault (nI 0)) (by rw [hω]; exact e3') (hm2.rim (R := some (k, m, fun j => if j = i then v else e j)) e5 (fun i _ => rfl) ⟨?_, ?_, fun j hj => ?_⟩) (by rw [hω]; exact f0_e.tr (e5.mono (fun k hk => by omega))))
            · show (am_upI ω 153 18 (nI 0)).1 153 7 = nI k
              rw [u_In _ _ (by omega), h153]; exact s1
            · show (am_upI ω 153 18 (nI 0)).1 153 8 = nI m
              rw [u_In _ _ (by omega), h153]; exact s2
            · rw [u_J, h158]
              by_cases q : j = i
              · rw [if_pos ⟨rfl, q⟩]; exact (if_pos q).symm
              · rw [if_neg (fun z => q z.2), s3 j hj]; exact (if_neg q).symm
        · intro z2
          exact ⟨Or.inl rfl, go 0 _ _ c0_e (am_ite_f z (am_ite_f z2 (h _ _ (J_no he hc hm))))⟩
