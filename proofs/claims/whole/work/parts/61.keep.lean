/-! KEEP, SAME -/
theorem cS.kp {σ τ : am_S} {S : sp_S} {k : Option (Nat × Nat × (Nat → Nat))} (h : cS σ S) (he : am_eq (fun k => k = 0 ∨ k = 17 ∨ k = 18) σ τ) (h0 : τ.1 0 12 = σ.1 0 12) (hk : cKp τ k) : cS τ (sK S k) := by
  obtain ⟨h1, h2, h3, h4, h5, h6, h7, h8, h9, h10⟩ := h
  exact ⟨by rw [h0]; exact h1, h2.kept he (by decide) (by decide), ⟨h3.1.kept he (by decide) (by decide) (by decide) (by decide), h3.2⟩, h4.kept he (by decide) (fun k a b => by omega), hk, h6.kept he (by decide) (by decide), h7.kept he (by decide) (by decide), h8.kept he (fun k a b => by omega), h9.kept he (by decide) (by decide), h10.kept he (by decide)⟩
theorem mS.kp {σ τ : am_S} {S : sp_S} {k : Option (Nat × Nat × (Nat → Nat))} (h : mS σ S) (he : am_eq (fun k => 153 ≤ k ∧ k ≤ 157 ∨ 161 ≤ k ∧ k ≤ 168) σ τ) (hf : fEq (fun i => i = 6 ∨ 25 ≤ i) σ τ) (hs : ∀ j, j ≠ 1 → sEq σ τ j) (hk : mKp τ k) : mS τ (sK S k) := by
  obtain ⟨h1, h2, h3, h4, h5, h6, h7, h8⟩ := h
  exact ⟨by rw [hf 18 (by decide)]; exact h1, h2.kept he hf (by decide) (by decide) (by decide), ⟨h3.1.slot h3.2.2.2.2.1 (hs 0 (by decide)), h3.2⟩, h4.kept (P := fun _ => True) (fun j a b => hs j (by omega)) hf (by decide) (by decide), hk, h6.kept he hf (by decide) (by decide), h7.kept he hf (by decide) (by decide), h8.kept hf (fun i a b => by omega)⟩
theorem x_keep {θ σ : am_S} {K : Int32 → Int32 → am_S → Prop} (hJ : J θ σ) (h : ∀ v τ, J θ τ → K v v τ) : w_WD_keep σ (fun r τ => w_Mod_keep τ (K r)) := by
  obtain ⟨⟨S, hc, hm⟩, he⟩ := hJ
  have hok := hc.2.2.1.2
  have k1 := hok.1
  have k2 := hok.2.1
  have k4 := hok.2.2.2.1
  unfold w_WD_keep
  refine g_formed ⟨⟨hc, hm⟩, he⟩ (fun τ hJ hF => ?_)
  unfold w_Form_become
  rw [hF.2.1, hF.2.2.1, nI_clamp (show dn (sd S) < 2 ^ 31 by omega), nI_clamp (show 0 < 2 ^ 31 by decide)]
  refine ⟨⟨by decide, by decide, nI_pos (by omega), by omega, by omega⟩, ?_⟩
  unfold w_WD_grant
  dsimp only
  generalize hρ : am_upI (am_cpI (am_upI (am_upI τ 17 3 (nI (dn (sd S)))) 17 4 (nI (dr (sd S)))) 14 18 0 0 (dn (sd S))) 0 11 (nI 1) = ρ
  have he1 : am_eq (fun k => k = 0 ∨ k = 17 ∨ k = 18) τ ρ := by
    rw [← hρ]
    exact (((am_eq.upI (by decide)).tr (am_eq.upI (by decide))).tr (am_eq.cpI (by decide))).tr (am_eq.upI (by decide))
  have e12 : ρ.1 0 12 = τ.1 0 12 := by
    rw [← hρ]
    rfl
  have hk : cKp ρ (some (dn (sd S), dr (sd S), frF (sd S))) := by
    rw [← hρ]
    refine ⟨rfl, rfl, rfl, k2, k4, fun i hi => ⟨?_, fr_lt k1 k4 i⟩⟩
    rw [u_In _ _ (by omega)]
    rw [cpI_at, if_pos ⟨rfl, hi⟩, u_In _ _ (by omega), u_In _ _ (by omega)]
    exact hF.2.2.2 i hi
  have hc2 := hJ.1.1.kp he1 e12 hk
  refine ⟨Or.inr rfl, Or.inr rfl, ?_⟩
  unfold w_Mod_keep
  have hc3 := hc2.fault (nI 0)
  have hm3 : mS (am_upI (am_upI ρ 0 12 (nI 0)) 153 18 (nI 0)) (sF S (nI 0)) := ((hJ.1.2.cls (τ := ρ) (he1.mono (fun k hk => by omega))).cls (τ := am_upI ρ 0 12 (nI 0)) c0_e).fault (nI 0)
  have hD3 : mD (am_upI (am_upI ρ 0 12 (nI 0)) 153 18 (nI 0)) 0 (sd S) := hm3.2.2.1.1
  refine s_copy (j1 := 0) (j2 := 1) (D := sd S) (by decide) (by decide) (by decide) k4 hD3 (fun υ hD1 hs he2 => ?_)
  have heu : am_eq (fun k => k = 153) υ (am_upI υ 153 6 (nI 1)) := am_eq.upI rfl
  have hsu : ∀ j, sEq υ (am_upI υ 153 6 (nI 1)) j := fun j => sEq.of heu (by decide) (by decide) (by decide) (by decide)
  have hD4 : mD (am_upI υ 153 6 (nI 1)) 0 (sd S) := (hD3.slot k4 (hs 0 (by decide))).slot k4 (hsu 0)
  refine m_keptForm hok hD4 (fun φ he3 hf3 h167 => ?_)
  have hs3 : ∀ j, sEq (am_upI υ 153 6 (nI 1)) φ j := fun j => sEq.of he3 (by decide) (by decide) (by decide) (by decide)
  have hD5 : mD φ 1 (sd S) := (hD1.slot k4 (hsu 1)).slot k4 (hs3 1)
  have hm4 : mS φ (sK (sF S (nI 0)) (some (dn (sd S), dr (sd S), frF (sd S)))) := hm3.kp ((he2.mono (fun k hk => by omega)).tr ((heu.mono (fun k hk => by omega)).tr (he3.mono (fun k hk => by omega)))) ((fEq.of he2 (by decide)).tr ((fEq.up (Or.inl rfl)).tr (hf3.mono (fun i hi => Or.inr hi)))) (fun j hj => ((hs j hj).tr (hsu j)).tr (hs3 j)) ⟨?_, hD5.1.1, hD5.1.2.2, h167⟩
  · refine h _ _ (J_end (hJ.2.tr (he1.mono (fun k hk => by omega))) hc3 c0_e hm4 ?_)
    exact ((am_eq.upI (by decide)).tr (he2.mono (fun k hk => by omega))).tr ((heu.mono (fun k hk => by omega)).tr (he3.mono (fun k hk => by omega)))
  · rw [hf3 6 (by unfold scF; decide), u_Is]
theorem s_isLike {n r n' r' : Nat} {u w : Nat → Nat} {σ : am_S} {K : Int32 → am_S → Prop} (hn : n ≤ 512) (hn' : n' ≤ 512) (hr : r ≤ 10) (hr' : r' ≤ 10) (h1 : σ.1 13 3 = nI n) (h2 : σ.1 13 4 = nI r) (h3 : σ.1 17 3 = nI n') (h4 : σ.1 17 4 = nI r') (hu : ∀ i, i < n → σ.1 14 i = nI (u i) ∧ u i < 1024) (hw : ∀ i, i < n' → σ.1 18 i = nI (w i) ∧ w i < 1024) (h : ∀ v : Bool, (v = true ↔ n = n' ∧ r = r' ∧ ∀ i, i < n → u i = w i) → K (bI v) σ) : w_Form_isLike σ K := by
  refine e_Form_isLike (fun d => ?_)
  rw [h1, h2, h3, h4]
  refine ⟨fun z => h false ⟨fun q => (by cases q), fun q => absurd (by rw [q.1]) z⟩, fun z => ?_⟩
  have en : n = n' := (nI_eq (by omega) (by omega)).mp (Classical.not_not.mp z)
  refine ⟨fun z2 => ?_, fun z2 => h false ⟨fun q => (by cases q), fun q => absurd (by rw [q.2.1]) z2⟩⟩
  have er : r = r' := (nI_eq (by omega) (by omega)).mp z2
  have L : ∀ q i, i + q = n → (∀ j, j < i → u j = w j) → R_Form_isLike d K 26 [.ref 13, .ref 17, .int (nI i)] [] σ := by
    intro q
    induction q with
    | zero =>
      intro i hi he
      refine l_Form_isLike_26 ?_
      rw [h1]
      exact pk_le n i (fun _ => h true ⟨fun _ => ⟨en, er, fun j hj => he j (by omega)⟩, fun _ => rfl⟩) (fun z => absurd z (by omega))
    | succ q ih =>
      intro i hi he
      have a := hu i (by omega)
      have b := hw i (by omega)
      refine l_Form_isLike_26 ?_
      rw [h1, nI_clamp (by omega), a.1, b.1, nI_add]
      refine pk_le n i (fun z => absurd z (by omega)) (fun _ => ⟨pk_in i 512 (by omega), pk_in i 512 (by omega), pk_eq (u i) (w i) (fun e => ih (i + 1) (by omega) (fun j hj => ?_)) (fun e => h false ⟨fun q => (by cases q), fun q => absurd (q.2.2 i (by omega)) e⟩)⟩)
      by_cases c : j = i
      · rw [c]; exact e
      · exact he j (by omega)
  exact L n 0 (by omega) (fun j hj => by omega)
theorem m_sameL {d : Nat} {D : sp_D} {u w : Nat → Nat} {σ : am_S} {K : Int32 → am_S → Prop} (hok : d_ok D) (hD : mD σ 0 D) (hu : ∀ i, i < dn D → σ.1 162 i = nI (u i) ∧ u i < 1024) (hw : ∀ i, i < dn D → σ.1 167 i = nI (w i) ∧ w i < 1024) (h : ∀ v : Bool, (v = true ↔ ∀ i, i < dn D → u i = w i) → K (bI v) σ) : R_Mod_same d K 60 [.ref 153, .int (nI 1), .int (nI 0)] [] σ := by
  have k2 := hok.2.1
  have L : ∀ q i (v : Bool), i + q = dn D → (v = true ↔ ∀ j, j < i → u j = w j) → R_Mod_same d K 60 [.ref 153, .int (bI v), .int (nI i)] [] σ := by
    intro q
    induction q with
    | zero =>
      intro i v hi hv
      have : i = dn D := by omega
      subst this
      exact l_Mod_same_60 (m_n hD (pk_le (dn D) (dn D) (fun _ => ⟨bI_01 _, h v hv⟩) (fun z => absurd z (by omega))))
    | succ q ih =>
      intro i v hi hv
      have a := hu i (by omega)
      have b := hw i (by omega)
      refine l_Mod_same_60 (m_n hD (pk_le (dn D) i (fun z => absurd z (by omega)) (fun _ => ?_)))
      rw [nI_clamp (by omega), a.1, b.1, nI_add]
      cases v with
      | false =>
        refine am_ite_t rfl (ih (i + 1) false (by omega) ⟨fun z => (by cases z), fun z => hv.mpr (fun j hj => z j (by omega))⟩)
      | true =>
        refine am_ite_f (by decide) ⟨pk_in i 512 (by omega), pk_in i 512 (by omega), fun z => ?_, fun z => ?_⟩
        · have ne : u i ≠ w i := fun e => z (by rw [e])
          exact ih (i + 1) false (by omega) ⟨fun z => (by cases z), fun z => absurd (z i (by omega)) ne⟩
        · have e : u i = w i := (nI_eq (by omega) (by omega)).mp (Classical.not_not.mp z)
          refine ih (i + 1) true (by omega) ⟨fun _ j hj => ?_, fun _ => rfl⟩
          by_cases c : j = i
          · rw [c]; exact e
          · exact hv.mp rfl j (by omega)
  exact L (dn D) 0 true (by omega) ⟨fun _ j hj => by omega, fun _ => rfl⟩
theorem x_same {θ σ : am_S} {K : Int32 → Int32 → am_S → Prop} (hJ : J θ σ) (h : ∀ v τ, J θ τ → K v v τ) : w_WD_same σ (fun r τ => w_Mod_same τ (K r)) := by
  obtain ⟨⟨S, hc, hm⟩, he⟩ := hJ
  have hok := hc.2.2.1.2
  have k1 := hok.1
  have k2 := hok.2.1
  have k4 := hok.2.2.2.1
  have hJc : Jc θ S σ := ⟨⟨hc, hm⟩, he⟩
  unfold w_WD_same
  have hk := hc.2.2.2.2.1
  have hmk := hm.2.2.2.2.1
  cases hs : sk S with
  | none =>
    rw [hs] at hk hmk
    have hk' : σ.1 0 11 = nI 0 := hk
    have hmk' : σ.1 153 6 = nI 0 := hmk
    rw [hk']
    refine am_ite_f (fun z => z rfl) ⟨Or.inl rfl, e_Mod_same (fun d => ?_)⟩
    rw [show (am_upI σ 0 12 (nI 2)).1 153 6 = σ.1 153 6 from rfl, hmk']
    exact am_ite_f (fun z => z rfl) (h _ _ hJc.no)
  | some p =>
    obtain ⟨n', r', w⟩ := p
    rw [hs] at hk
    have hk' : σ.1 0 11 = nI 1 := hk.1
    rw [hk']
    refine am_ite_t (by decide) (g_formed hJc (fun τ hJ hF => ?_))
    have hk2 := hJ.1.1.2.2.2.2.1
    have hmk2 := hJ.1.2.2.2.2.2.1
    rw [hs] at hk2 hmk2
    obtain ⟨a1, a2, a3, a4, a5, a6⟩ := hk2
    obtain ⟨b1, b2, b3, b4⟩ := hmk2
    have md : mD (am_upI τ 0 12 (nI 0)) 0 (sd S) := hJ.md
    refine s_isLike k2 a4 k4 a5 hF.2.1 hF.2.2.1 a2 a3 (fun i hi => ⟨hF.2.2.2 i hi, fr_lt k1 k4 i⟩) a6 (fun v hv => ?_)
    show (bI v = nI 0 ∨ bI v = nI 1) ∧ (bI v = nI 0 ∨ bI v = nI 1) ∧ w_Mod_same (am_upI τ 0 12 (nI 0)) (K (bI v))
    refine ⟨bI_01 v, bI_01 v, e_Mod_same (fun d => ?_)⟩
    rw [show (am_upI τ 0 12 (nI 0)).1 153 6 = nI 1 from b1, show (am_upI τ 0 12 (nI 0)).1 154 3 = nI n' from b2, show (am_upI τ 0 12 (nI 0)).1 154 5 = nI r' from b3, show (am_upI τ 0 12 (nI 0)).1 154 0 = nI (dn (sd S)) from md.1.1, show (am_upI τ 0 12 (nI 0)).1 154 2 = nI (dr (sd S)) from md.1.2.2]
    have no : ¬ (dn (sd S) = n' ∧ dr (sd S) = r') → v = false := fun z => by
      cases v with
      | false => rfl
      | true => exact absurd ⟨(hv.mp rfl).1, (hv.mp rfl).2.1⟩ z
    refine am_ite_t (by decide) ⟨fun z => ?_, fun z => ⟨fun z2 => ?_, fun z2 => ?_⟩⟩
    · rw [no (fun q => z (by rw [q.1]))]
      exact h _ _ (hJ.ok am_eq.rf)
    · have en : n' = dn (sd S) := (nI_eq (by omega) (by omega)).mp (Classical.not_not.mp z)
      have er : r' = dr (sd S) := (nI_eq (by omega) (by omega)).mp z2
      refine m_form0 hok (md.f0 k4) (fun υ he2 hf2 h2 => m_sameL (u := frF (sd S)) (w := w) hok ?_ (fun i hi => ⟨h2 i hi, fr_lt k1 k4 i⟩) (fun i hi => ⟨?_, (a6 i (by omega)).2⟩) (fun v2 hv2 => ?_))
      · exact (md.f0 k4).slot k4 (sEq.of he2 (by decide) (by decide) (by decide) (by decide))
      · rw [(he2 167 (by decide)).1]
        exact b4 i (by omega)
      · have : v = v2 := by
          cases v with
          | true => exact (hv2.mpr (hv.mp rfl).2.2).symm
          | false =>
            cases v2 with
            | false => rfl
            | true => exact absurd (hv.mpr ⟨en.symm, er.symm, hv2.mp rfl⟩) (by decide)
        rw [this]
        exact h _ _ (hJ.okf he2 hf2)
    · rw [no (fun q => z2 (by rw [q.2]))]
      exact h _ _ (hJ.ok am_eq.rf)
