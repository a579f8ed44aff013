/-! THE FORM: the least row of the reference -/
def fS (σ : am_S) (m : Bool) (f : Nat) (τ : am_S) : Prop := am_eq (fun k => k = 153 ∨ 162 ≤ k ∧ k ≤ 164) σ τ ∧ fEq scF σ τ ∧ τ.1 153 25 = bI m ∧ τ.1 153 26 = nI f
theorem fS.md {σ τ : am_S} {m : Bool} {f : Nat} {D : sp_D} (h : fS σ m f τ) (hok : d_ok D) (hD : mD σ 0 D) : mD τ 0 D := hD.slot hok.2.2.2.1 (sEq.of h.1 (by decide) (by decide) (by decide) (by decide))
theorem fS.inc {σ τ : am_S} {m : Bool} {f : Nat} (h : fS σ m f τ) : fS σ m (f + 1) (am_upI τ 153 26 (τ.1 153 26 + nI 1)) := by
  obtain ⟨h1, h2, h3, h4⟩ := h
  rw [h4, nI_add]
  exact ⟨h1.tr (am_eq.upI (Or.inl rfl)), h2.tr (fEq.up (show 25 ≤ 26 by decide)), by rw [u_In _ _ (by decide)]; exact h3, u_Is _ _ _ _⟩
theorem fS.cell {σ τ υ : am_S} {m : Bool} {f : Nat} (h : fS σ m f τ) (he : am_eq (fun k => 162 ≤ k ∧ k ≤ 164) τ υ) : fS σ m f υ := by
  obtain ⟨h1, h2, h3, h4⟩ := h
  exact ⟨h1.tr (he.mono (fun k hk => Or.inr hk)), h2.tr (fEq.of he (by decide)), by rw [(he 153 (by decide)).1]; exact h3, by rw [(he 153 (by decide)).1]; exact h4⟩
theorem fm_copy {d f : Nat} {m : Bool} {D : sp_D} {σ : am_S} {K : am_S → Prop} {w : Nat → Nat} (hok : d_ok D) (hD : mD σ 0 D) (nx : ∀ τ, fS σ m (f + 1) τ → (∀ j, j < dn D → τ.1 162 j = nI (w j)) → R_Mod_form0 d K 28 [.ref 153, .int (nI 1), .int (bI m), .null, .null] [] τ) : ∀ q i (τ : am_S), i + q = dn D → fS σ m f τ → (∀ j, j < dn D → τ.1 163 j = nI (w j)) → (∀ j, j < i → τ.1 162 j = nI (w j)) → R_Mod_form0 d K 111 [.ref 153, .null, .int (bI m), .null, .int (nI i)] [] τ := by
  have k2 := hok.2.1
  intro q
  induction q with
  | zero =>
    intro i τ hi hS h3 h2
    refine l_Mod_form0_111 (m_n (hS.md hok hD) (pk_le (dn D) i (fun _ => nx _ hS.inc (fun j hj => ?_)) (fun z => absurd z (by omega))))
    rw [u_In _ _ (by omega)]
    exact h2 j (by omega)
  | succ q ih =>
    intro i τ hi hS h3 h2
    refine l_Mod_form0_111 (m_n (hS.md hok hD) (pk_le (dn D) i (fun z => absurd z (by omega)) (fun _ => ⟨pk_in i 512 (by omega), pk_in i 512 (by omega), ?_⟩)))
    rw [nI_add, nI_clamp (by omega)]
    refine ih (i + 1) _ (by omega) (hS.cell (am_eq.upI (by decide))) (fun j hj => ?_) (fun j hj => ?_)
    · rw [u_In _ _ (by omega)]
      exact h3 j hj
    · by_cases e : j = i
      · rw [e, u_Is]
        exact h3 i (by omega)
      · rw [u_In _ _ (by omega)]
        exact h2 j (by omega)
theorem fm_comp {d f : Nat} {m : Bool} {D : sp_D} {σ : am_S} {K : am_S → Prop} {w b : Nat → Nat} (hok : d_ok D) (hD : mD σ 0 D) (hw : ∀ i, w i < 2048) (hb : ∀ i, b i < 2048) (nx : ∀ τ, fS σ m (f + 1) τ → (∀ j, j < dn D → τ.1 162 j = nI ((if ltF w b (dn D) 0 = true then w else b) j)) → R_Mod_form0 d K 28 [.ref 153, .int (nI 1), .int (bI m), .null, .null] [] τ) : ∀ q i (τ : am_S), i + q = dn D → fS σ m f τ → (∀ j, j < dn D → τ.1 163 j = nI (w j)) → (∀ j, j < dn D → τ.1 162 j = nI (b j)) → (∀ j, j < i → w j = b j) → R_Mod_form0 d K 45 [.ref 153, .int (nI 1), .int (bI m), .int (nI i), .null] [] τ := by
  have k2 := hok.2.1
  intro q
  induction q with
  | zero =>
    intro i τ hi hS h3 h2 heq
    have hin : i = dn D := by omega
    have md := hS.md hok hD
    refine l_Mod_form0_45 (am_ite_f (by decide) (m_n md (pk_le (dn D) i (fun _ => am_ite_f (by decide) (m_n md (pk_eq i (dn D) (fun _ => nx _ hS.inc (fun j hj => ?_)) (fun z => absurd hin z)))) (fun z => absurd z (by omega)))))
    rw [u_In _ _ (by omega), h2 j hj, if_neg (fun z => ?_)]
    obtain ⟨j', _, a2, _, a4⟩ := (ltF_ex _ _).mp z
    rw [heq j' (by omega)] at a4
    omega
  | succ q ih =>
    intro i τ hi hS h3 h2 heq
    have hi' : i < dn D := by omega
    have md := hS.md hok hD
    have bw := hw i
    have bb := hb i
    refine l_Mod_form0_45 (am_ite_f (by decide) (m_n md (pk_le (dn D) i (fun z => absurd z (by omega)) (fun _ => ⟨pk_in i 512 (by omega), pk_in i 512 (by omega), ?_⟩))))
    rw [nI_add i 1, nI_clamp (show i < 2 ^ 31 by omega), h3 i hi', h2 i hi']
    refine ⟨fun z => am_ite_f (by decide) (m_n md (pk_eq i (dn D) (fun z => absurd z (by omega)) (fun _ => ⟨pk_in i 512 (by omega), pk_in i 512 (by omega), ?_⟩))), fun z => ?_⟩
    · have ne : w i ≠ b i := fun y => z (by rw [y])
      rw [h3 i hi', h2 i hi']
      refine pk_le (w i) (b i) (fun le => ?_) (fun lt => nx _ hS.inc (fun j hj => ?_))
      · refine fm_copy (w := w) hok hD (fun υ hS2 h4 => nx υ hS2 (fun j hj => ?_)) (dn D) 0 τ (by omega) hS h3 (fun j hj => by omega)
        rw [if_pos ((ltF_ex _ _).mpr ⟨i, Nat.zero_le _, by omega, fun j' _ h6 => heq j' h6, by omega⟩)]
        exact h4 j hj
      · rw [u_In _ _ (by omega), h2 j hj, if_neg (fun z => ?_)]
        obtain ⟨j', _, a2, a3, a4⟩ := (ltF_ex _ _).mp z
        by_cases c1 : j' < i
        · rw [heq j' c1] at a4; omega
        · by_cases c2 : j' = i
          · rw [c2] at a4; omega
          · have := a3 i (Nat.zero_le _) (by omega)
            omega
    · have eq : w i = b i := (nI_eq (by omega) (by omega)).mp (Classical.not_not.mp z)
      refine ih (i + 1) τ (by omega) hS h3 h2 (fun j hj => ?_)
      by_cases e : j = i
      · rw [e]; exact eq
      · exact heq j (by omega)
theorem fm_pass {d : Nat} {m : Bool} {D : sp_D} {σ : am_S} {K : am_S → Prop} {b : Nat → Nat} (hok : d_ok D) (hD : mD σ 0 D) (hb : ∀ i, b i < 2048) (nx : ∀ τ, fS σ m (dn D) τ → (∀ j, j < dn D → τ.1 162 j = nI (miF D m b (dn D) j)) → R_Mod_form0 d K 4 [.ref 153, .int (nI 1), .int (bI m + nI 1), .null, .null] [] τ) : ∀ q f (τ : am_S), f + q = dn D → fS σ m f τ → (∀ j, j < dn D → τ.1 162 j = nI (miF D m b f j)) → R_Mod_form0 d K 28 [.ref 153, .int (nI 1), .int (bI m), .null, .null] [] τ := by
  have k2 := hok.2.1
  have k4 := hok.2.2.2.1
  intro q
  induction q with
  | zero =>
    intro f τ hf hS h2
    have : f = dn D := by omega
    subst this
    have md := hS.md hok hD
    refine l_Mod_form0_28 (m_n md ?_)
    rw [hS.2.2.2]
    exact pk_le (dn D) (dn D) (fun _ => nx τ hS h2) (fun z => absurd z (by omega))
  | succ q ih =>
    intro f τ hf hS h2
    have md := hS.md hok hD
    refine l_Mod_form0_28 (m_n md ?_)
    rw [hS.2.2.2]
    refine pk_le (dn D) f (fun z => absurd z (by omega)) (fun _ => m_rowOf hok md hS.2.2.1 hS.2.2.2 (by omega) (fun υ he h3 => ?_))
    have hS2 : fS σ m f υ := hS.cell (he.mono (fun k hk => by omega))
    refine fm_comp hok hD (fun i => by have := roF_lt k4 m f i; omega) (miF_lt k4 m hb f) (fun τ2 hS3 h4 => ?_) (dn D) 0 υ (by omega) hS2 h3 (fun j hj => by rw [(he 162 (by decide)).1]; exact h2 j hj) (fun j hj => by omega)
    exact ih (f + 1) τ2 (by omega) hS3 h4
theorem m_form0 {D : sp_D} {σ : am_S} {K : am_S → Prop} (hok : d_ok D) (hD : mD σ 0 D) (h : ∀ τ, am_eq (fun k => k = 153 ∨ 162 ≤ k ∧ k ≤ 164) σ τ → fEq scF σ τ → (∀ j, j < dn D → τ.1 162 j = nI (frF D j)) → K τ) : w_Mod_form0 σ K := by
  have k1 := hok.1
  have k2 := hok.2.1
  have k4 := hok.2.2.2.1
  have hR : ∀ i, roF D false 0 i < 2048 := fun i => by have := roF_lt k4 false 0 i; omega
  refine e_Mod_form0 (fun d => ?_)
  have beg : ∀ (τ : am_S) (m : Bool), am_eq (fun k => k = 153 ∨ 162 ≤ k ∧ k ≤ 164) σ τ → fEq scF σ τ → fS σ m 0 (am_upI (am_upI τ 153 25 (bI m)) 153 26 (nI 0)) := fun τ m h1 h2 => ⟨(h1.tr (am_eq.upI (Or.inl rfl))).tr (am_eq.upI (Or.inl rfl)), (h2.tr (fEq.up (show 25 ≤ 25 by decide))).tr (fEq.up (show 25 ≤ 26 by decide)), by rw [u_In _ _ (by decide), u_Is], u_Is _ _ _ _⟩
  have T : ∀ τ, fS σ false (dn D) τ → (∀ j, j < dn D → τ.1 162 j = nI (miF D false (roF D false 0) (dn D) j)) → R_Mod_form0 d K 4 [.ref 153, .int (nI 1), .int (bI false + nI 1), .null, .null] [] τ := by
    intro τ hS h2
    refine l_Mod_form0_4 (am_ite_f (by decide) (am_ite_f (fun z => z rfl) ?_))
    refine fm_pass (m := true) hok hD (miF_lt k4 false hR (dn D)) (fun υ hS2 h3 => ?_) (dn D) 0 _ (by omega) (beg τ true hS.1 hS.2.1) (fun j hj => ?_)
    · exact l_Mod_form0_4 (am_ite_t (by decide) (h υ hS2.1 hS2.2.1 h3))
    · rw [u_In _ _ (by omega), u_In _ _ (by omega)]
      exact h2 j hj
  refine l_Mod_form0_4 (am_ite_f (by decide) (am_ite_t (by decide) ?_))
  have hS := beg σ false am_eq.rf fEq.rf
  have md := hS.md hok hD
  refine l_Mod_form0_28 (m_n md ?_)
  refine pk_le (dn D) 0 (fun z => absurd z (by omega)) (fun _ => m_rowOf hok md hS.2.2.1 hS.2.2.2 (by omega) (fun υ he h3 => ?_)) rfl hS.2.2.2
  have hS2 := hS.cell (υ := υ) (he.mono (fun k hk => by omega))
  refine l_Mod_form0_45 (am_ite_t rfl (am_ite_t rfl ?_))
  refine fm_copy hok hD (fun τ2 hS3 h4 => ?_) (dn D) 0 υ (by omega) hS2 h3 (fun j hj => by omega)
  refine fm_pass (m := false) hok hD hR T (dn D - 1) 1 τ2 (by omega) hS3 (fun j hj => ?_)
  have e2 : miF D false (roF D false 0) 1 = roF D false 0 := by
    rcases miF_step k4 false hR 0 with ⟨_, h2⟩ | ⟨_, h2⟩
    · exact h2
    · exact h2
  rw [e2]
  exact h4 j hj
/-! FORM, KEEP, SAME -/
theorem Jc.okf {θ σ υ : am_S} {S : sp_S} (h : Jc θ S σ) (he : am_eq (fun k => k = 153 ∨ 162 ≤ k ∧ k ≤ 164) (f0 (am_upI σ 0 12 (nI 0))) υ) (hf : fEq scF (f0 (am_upI σ 0 12 (nI 0))) υ) : J θ υ := by
  refine J_end h.2 (h.1.1.fault (nI 0)) c0_e (((h.1.2.cls (τ := am_upI σ 0 12 (nI 0)) c0_e).fault (nI 0)).scr (he.mono (fun k hk => by rcases hk with hk | hk; exact Or.inl hk; exact Or.inr (Or.inl (by omega)))) hf) (f0_e.tr (he.mono (fun k hk => by omega)))
theorem x_form {x : Int32} {θ σ : am_S} {K : Int32 → Int32 → am_S → Prop} (hJ : J θ σ) (h : ∀ v τ, J θ τ → K v v τ) : w_WD_form x σ (fun r τ => w_Mod_form x τ (K r)) := by
  obtain ⟨⟨S, hc, hm⟩, he⟩ := hJ
  have hok := hc.2.2.1.2
  have k2 := hok.2.1
  have k4 := hok.2.2.2.1
  have hJc : Jc θ S σ := ⟨⟨hc, hm⟩, he⟩
  have out : ∀ s, s < dn (sd S) → ¬ (nI s < nI 0 ∨ nI (dn (sd S)) ≤ nI s) := fun s hs z => by
    rcases z with z | z
    · exact absurd z (nI_nlt (Nat.zero_le _) (by omega))
    · exact absurd z (nI_ge hs (by omega))
  refine g_hasSector hc.2.2.1.1 hok (fun z => am_ite_f (by simp) ?_) (fun s hs hx => am_ite_t (by decide) ?_)
  · show w_Mod_form x (am_upI σ 0 12 (nI 1)) (K (-1))
    unfold w_Mod_form
    exact m_isStand (hJc.md.f0 k4) hok (fun _ => am_ite_f (fun z => z rfl) (h _ _ hJc.no)) (fun s hs hx => absurd (hx ▸ z) (out s hs))
  · subst hx
    refine g_formed hJc (fun τ hJ hF => ⟨pk_in s 512 (by omega), ?_⟩)
    show w_Mod_form (nI s) (am_upI τ 0 12 (nI 0)) (K (τ.1 14 (Int32.toNatClampNeg (nI s))))
    unfold w_Mod_form
    refine m_isStand (hJ.md.f0 k4) hok (fun z => absurd z (out s hs)) (fun s' hs' e => am_ite_t (by decide) (m_form0 hok (hJ.md.f0 k4) (fun υ he2 hf2 h2 => ⟨pk_in s 512 (by omega), ?_⟩)))
    rw [nI_clamp (by omega), hF.2.2.2 s hs, h2 s hs]
    exact h _ _ (hJ.okf he2 hf2)
def sK (S : sp_S) (k : Option (Nat × Nat × (Nat → Nat))) : sp_S := (S.1, S.2.1, S.2.2.1, S.2.2.2.1, k, S.2.2.2.2.2)
theorem m_keptForm {D : sp_D} {σ : am_S} {K : am_S → Prop} (hok : d_ok D) (hD : mD σ 0 D) (h : ∀ τ, am_eq (fun k => k = 153 ∨ 162 ≤ k ∧ k ≤ 164 ∨ k = 167) σ τ → fEq scF σ τ → (∀ j, j < dn D → τ.1 167 j = nI (frF D j)) → K τ) : w_Mod_keptForm σ K := by
  have k2 := hok.2.1
  refine e_Mod_keptForm (fun d => m_form0 hok hD (fun ρ he hf h2 => ?_))
  have L : ∀ q i (τ : am_S), i + q = dn D → am_eq (fun k => k = 167) ρ τ → (∀ j, j < i → τ.1 167 j = nI (frF D j)) → R_Mod_keptForm d K 6 [.ref 153, .int (nI i)] [] τ := by
    intro q
    induction q with
    | zero =>
      intro i τ hi he2 h3
      have heA : am_eq (fun k => k = 153 ∨ 162 ≤ k ∧ k ≤ 164 ∨ k = 167) σ τ := (he.mono (fun k hk => by omega)).tr (he2.mono (fun k hk => by omega))
      exact l_Mod_keptForm_6 (m_n (hD.slot hok.2.2.2.1 (sEq.of heA (by decide) (by decide) (by decide) (by decide))) (pk_le (dn D) i (fun _ => h τ heA (hf.tr (fEq.of he2 (by decide))) (fun j hj => h3 j (by omega))) (fun z => absurd z (by omega))))
    | succ q ih =>
      intro i τ hi he2 h3
      have heA : am_eq (fun k => k = 153 ∨ 162 ≤ k ∧ k ≤ 164 ∨ k = 167) σ τ := (he.mono (fun k hk => by omega)).tr (he2.mono (fun k hk => by omega))
      refine l_Mod_keptForm_6 (m_n (hD.slot hok.2.2.2.1 (sEq.of heA (by decide) (by decide) (by decide) (by decide))) (pk_le (dn D) i (fun z => absurd z (by omega)) (fun _ => ⟨pk_in i 512 (by omega), pk_in i 512 (by omega), ?_⟩)))
      rw [nI_add, nI_clamp (by omega)]
      refine ih (i + 1) _ (by omega) (he2.tr (am_eq.upI rfl)) (fun j hj => ?_)
      by_cases e : j = i
      · rw [e, u_Is, (he2 162 (by decide)).1]
        exact h2 i (by omega)
      · rw [u_In _ _ (by omega)]
        exact h3 j (by omega)
  exact L (dn D) 0 ρ (by omega) am_eq.rf (fun j hj => by omega)
