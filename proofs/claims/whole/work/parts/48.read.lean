/-! CALLS OF BOTH: what is seen -/
def Jc (θ : am_S) (S : sp_S) (σ : am_S) : Prop := (cS σ S ∧ mS σ S) ∧ am_eq (fun k => k < 169) θ σ
theorem Jc.keep {θ σ τ : am_S} {S : sp_S} (h : Jc θ S σ) (he : am_eq scr σ τ) : Jc θ S τ := ⟨⟨h.1.1.keepScr he, h.1.2.cls (he.mono (fun k hk => by unfold scr at hk; omega))⟩, h.2.tr (he.mono (fun k hk => by unfold scr at hk; omega))⟩
theorem Jc.ok {θ σ υ : am_S} {S : sp_S} (h : Jc θ S σ) (he : am_eq (fun k => k = 161) (f0 (am_upI σ 0 12 (nI 0))) υ) : J θ υ := by
  refine J_end h.2 (h.1.1.fault (nI 0)) c0_e (((h.1.2.cls (τ := am_upI σ 0 12 (nI 0)) c0_e).fault (nI 0)).scr (he.mono (fun k hk => Or.inr (Or.inl (by omega)))) (fEq.of he (by decide))) (f0_e.tr (he.mono (fun k hk => by omega)))
theorem Jc.no {θ σ : am_S} {S : sp_S} {f : Int32} (h : Jc θ S σ) : J θ (am_upI (am_upI (am_upI σ 0 12 f) 153 18 (nI 0)) 153 18 f) := J_no h.2 h.1.1 h.1.2
theorem Jc.md {θ σ : am_S} {S : sp_S} {f : Int32} (h : Jc θ S σ) : mD (am_upI σ 0 12 f) 0 (sd S) := (h.1.2.cls (τ := am_upI σ 0 12 f) c0_e).2.2.1.1
theorem g_look {θ σ : am_S} {S : sp_S} {K : am_S → Prop} (hJ : Jc θ S σ) (h : ∀ τ, Jc θ S τ → vW τ (dn (sd S)) (dr (sd S)) (wdD (sd S)) → K τ) : w_WD_lookedAt σ K := by
  obtain ⟨h1, h2, h3, h4, h5, h6, h7, h8, h9, h10⟩ := hJ.1.1
  refine s_look h3.1 h3.2 h6 (fun τ e1 hW he => h τ ⟨⟨⟨?_, h2.kept he (by decide) (by decide), ⟨h3.1.kept he (by decide) (by decide) (by decide) (by decide), h3.2⟩, h4.kept he (by decide) (fun k a b => by omega), h5.kept he (by decide) (by decide) (by decide), Or.inr ⟨e1, hW⟩, h7.kept he (by decide) (by decide), h8.kept he (fun k a b => by omega), h9.kept he (by decide) (by decide), h10.kept he (by decide)⟩, hJ.1.2.cls (he.mono (fun k hk => by omega))⟩, hJ.2.tr (he.mono (fun k hk => by omega))⟩ hW)
  rw [(he 0 (by decide)).1]
  exact h1
theorem sc12 {σ τ : am_S} (he : am_eq (fun k => k = 12) σ τ) : am_eq scr σ τ := he.mono (fun k hk => Or.inl hk)
theorem x_where {x : Int32} {θ σ : am_S} {K : Int32 → Int32 → am_S → Prop} (hJ : J θ σ) (h : ∀ v τ, J θ τ → K v v τ) : w_WD_where x σ (fun r τ => w_Mod_where x τ (K r)) := by
  obtain ⟨⟨S, hc, hm⟩, he⟩ := hJ
  exact g_look ⟨⟨hc, hm⟩, he⟩ (fun τ hJ hW => s_standsWith hW (m_where hJ.md hc.2.2.1.2 (h _ _ (hJ.ok am_eq.rf))))
theorem x_at {x y : Int32} {θ σ : am_S} {K : Int32 → Int32 → am_S → Prop} (hJ : J θ σ) (h : ∀ v τ, J θ τ → K v v τ) : w_WD_at x y σ (fun r τ => w_Mod_at x y τ (K r)) := by
  obtain ⟨⟨S, hc, hm⟩, he⟩ := hJ
  refine g_look ⟨⟨hc, hm⟩, he⟩ (fun τ hJ hW => s_standWith hW ⟨fun z => m_at hJ.md hc.2.2.1.2 (fun q => absurd q z) (fun _ => h _ _ (hJ.ok am_eq.rf)), fun z => ?_⟩)
  have z' := Classical.not_not.mp z
  exact m_at hJ.md hc.2.2.1.2 (fun _ => h _ _ hJ.no) (fun q => absurd z' q)
theorem x_edge {x : Int32} {θ σ : am_S} {K : Int32 → Int32 → am_S → Prop} (hJ : J θ σ) (h : ∀ v τ, J θ τ → K v v τ) : w_WD_edge x σ (fun r τ => w_Mod_edge x τ (K r)) := by
  obtain ⟨⟨S, hc, hm⟩, he⟩ := hJ
  have hok := hc.2.2.1.2
  have k2 := hok.2.1
  have hJc : Jc θ S σ := ⟨⟨hc, hm⟩, he⟩
  refine g_hasSector hc.2.2.1.1 hok (fun z => am_ite_f (by simp) (m_edge hJc.md hok (fun _ => h _ _ hJc.no) (fun s hs hx => ?_))) (fun s hs hx => am_ite_t (by decide) ?_)
  · subst hx
    rcases z with z | z
    · exact absurd z (nI_nlt (Nat.zero_le _) (by omega))
    · exact absurd z (nI_ge hs (by omega))
  · subst hx
    refine g_look hJc (fun τ hJ hW => s_waysBehind hW hs (m_edge hJ.md hok (fun z => ?_) (fun s' hs' e => ?_)))
    · rcases z with z | z
      · exact absurd z (nI_nlt (Nat.zero_le _) (by omega))
      · exact absurd z (nI_ge hs (by omega))
    · have : s' = s := ((nI_eq (by omega) (by omega)).mp e).symm
      subst this
      exact h _ _ (hJ.ok am_eq.rf)
theorem x_way {x i : Int32} {θ σ : am_S} {K : Int32 → Int32 → am_S → Prop} (hJ : J θ σ) (h : ∀ v τ, J θ τ → K v v τ) : w_WD_way x i σ (fun r τ => w_Mod_way x i τ (K r)) := by
  obtain ⟨⟨S, hc, hm⟩, he⟩ := hJ
  have hok := hc.2.2.1.2
  have k2 := hok.2.1
  have hJc : Jc θ S σ := ⟨⟨hc, hm⟩, he⟩
  have out : ∀ s, s < dn (sd S) → ¬ (nI s < nI 0 ∨ nI (dn (sd S)) ≤ nI s) := fun s hs z => by
    rcases z with z | z
    · exact absurd z (nI_nlt (Nat.zero_le _) (by omega))
    · exact absurd z (nI_ge hs (by omega))
  have same : ∀ s s', s < dn (sd S) → s' < dn (sd S) → nI s = nI s' → s' = s := fun s s' hs hs' e => ((nI_eq (by omega) (by omega)).mp e).symm
  refine g_hasSector hc.2.2.1.1 hok (fun z => am_ite_t rfl (m_way hJc.md hok (fun _ => h _ _ hJc.no) (fun s hs hx _ => absurd (hx ▸ z) (out s hs)) (fun s hs hx _ _ => absurd (hx ▸ z) (out s hs)))) (fun s hs hx => am_ite_f (by decide) ⟨fun z => ?_, fun z => ?_⟩)
  · subst hx
    exact m_way hJc.md hok (fun q => absurd q (out s hs)) (fun s' hs' e _ => h _ _ hJc.no) (fun s' hs' e q => absurd z q)
  · subst hx
    refine g_look hJc (fun τ hJ hW => s_waysBehind hW hs ⟨fun z2 => g_look hJ (fun τ2 hJ2 hW2 => s_wayBehind hW2 hs (m_way hJ2.md hok (fun q => absurd q (out s hs)) (fun s' hs' e q => ?_) (fun s' hs' e _ _ => ?_))), fun z2 => m_way hJ.md hok (fun q => absurd q (out s hs)) (fun s' hs' e _ => h _ _ hJ.no) (fun s' hs' e _ q => ?_)⟩)
    · have := same s s' hs hs' e
      subst this
      rcases q with q | q
      · exact absurd q z
      · exact absurd z2 (Int32.not_lt.mpr q)
    · have := same s s' hs hs' e
      subst this
      exact h _ _ (hJ2.ok am_eq.rf)
    · have := same s s' hs hs' e
      subst this
      exact absurd q z2
theorem x_fewest {θ σ : am_S} {K : Int32 → Int32 → am_S → Prop} (hJ : J θ σ) (h : ∀ v τ, J θ τ → K v v τ) : w_WD_fewest σ (fun r τ => w_Mod_fewest τ (K r)) := by
  obtain ⟨⟨S, hc, hm⟩, he⟩ := hJ
  have hok := hc.2.2.1.2
  refine g_look ⟨⟨hc, hm⟩, he⟩ (fun τ hJ hW => s_leastUnlike hW (fun e1 => ?_) (fun v τ2 e1 hv _ e2 => ?_))
  · exact m_fewest hJ.md hok (fun _ => h _ _ (hJ.ok am_eq.rf)) (fun _ _ z => absurd e1 z)
  · have hJ2 := hJ.keep (sc12 e2)
    refine m_fewest hJ2.md hok (fun z => absurd z e1) (fun v' υ _ hv' e3 => ?_)
    rw [isMin_uniq hv hv']
    exact h _ _ (hJ2.ok e3)
theorem x_blind {θ σ : am_S} {K : Int32 → Int32 → am_S → Prop} (hJ : J θ σ) (h : ∀ v τ, J θ τ → K v v τ) : w_WD_blind σ (fun r τ => w_Mod_blind τ (K r)) := by
  obtain ⟨⟨S, hc, hm⟩, he⟩ := hJ
  have hok := hc.2.2.1.2
  refine g_look ⟨⟨hc, hm⟩, he⟩ (fun τ hJ hW => s_sparedAlone hW (fun τ2 e2 => ?_))
  have hJ2 := hJ.keep (sc12 e2)
  exact m_blind hJ2.md hok (fun υ e3 => h _ _ (hJ2.ok e3))
theorem x_spare {θ σ : am_S} {K : Int32 → Int32 → am_S → Prop} (hJ : J θ σ) (h : ∀ v τ, J θ τ → K v v τ) : w_WD_spare σ (fun r τ => w_Mod_spare τ (K r)) := by
  obtain ⟨⟨S, hc, hm⟩, he⟩ := hJ
  have hok := hc.2.2.1.2
  refine g_look ⟨⟨hc, hm⟩, he⟩ (fun τ hJ hW => s_sparedTogether hW (fun τ2 e2 => ?_))
  have hJ2 := hJ.keep (sc12 e2)
  exact m_spare hJ2.md hok (fun υ e3 => h _ _ (hJ2.ok e3))
theorem x_word {x : Int32} {θ σ : am_S} {K : Int32 → Int32 → am_S → Prop} (hJ : J θ σ) (h : ∀ v τ, J θ τ → K v v τ) : w_WD_word x σ (fun r τ => w_Mod_word x τ (K r)) := by
  obtain ⟨⟨S, hc, hm⟩, he⟩ := hJ
  have hok := hc.2.2.1.2
  have k2 := hok.2.1
  have k4 := hok.2.2.2.1
  have hJc : Jc θ S σ := ⟨⟨hc, hm⟩, he⟩
  have out : ∀ s, s < dn (sd S) → ¬ (nI s < nI 0 ∨ nI (dn (sd S)) ≤ nI s) := fun s hs z => by
    rcases z with z | z
    · exact absurd z (nI_nlt (Nat.zero_le _) (by omega))
    · exact absurd z (nI_ge hs (by omega))
  refine g_hasSector hc.2.2.1.1 hok (fun z => am_ite_f (by simp) ?_) (fun s hs hx => am_ite_t (by decide) ?_)
  · show w_Mod_word x (am_upI σ 0 12 (nI 1)) (K (-1))
    unfold w_Mod_word
    exact m_isStand (hJc.md.f0 k4) hok (fun _ => am_ite_t rfl (h _ _ hJc.no)) (fun s hs hx => absurd (hx ▸ z) (out s hs))
  · subst hx
    refine g_look hJc (fun τ hJ hW => ⟨pk_in s 512 (by omega), ?_⟩)
    show w_Mod_word (nI s) (am_upI τ 0 12 (nI 0)) (K (τ.1 10 (Int32.toNatClampNeg (nI s))))
    unfold w_Mod_word
    refine m_isStand (hJ.md.f0 k4) hok (fun z => absurd z (out s hs)) (fun s' hs' e => am_ite_f (by decide) (s_wordAt (hJ.md.f0 k4) hok (by omega) ?_))
    rw [nI_clamp (by omega), hW.2.2.1 s hs]
    exact h _ _ (hJ.ok am_eq.rf)
theorem x_count {x : Int32} {θ σ : am_S} {K : Int32 → Int32 → am_S → Prop} (hJ : J θ σ) (h : ∀ v τ, J θ τ → K v v τ) : w_WD_count x σ (fun r τ => w_Mod_count x τ (K r)) := by
  obtain ⟨⟨S, hc, hm⟩, he⟩ := hJ
  have hok := hc.2.2.1.2
  have hJc : Jc θ S σ := ⟨⟨hc, hm⟩, he⟩
  have ok : ∀ v w : Int32, v = w → K v w (f0 (am_upI σ 0 12 (nI 0))) := fun v w e => by
    subst e
    exact h _ _ (hJc.ok am_eq.rf)
  obtain ⟨h1, h2, h3, h4, h5, h6, h7, h8, h9, h10⟩ := hc
  obtain ⟨m1, m2, m3, m4, m5, m6, m7, m8⟩ := hm
  obtain ⟨nx, a1, a2, a3, a4, a5⟩ := h4
  obtain ⟨fp, b1, b2, b3, b4, b5⟩ := m4
  refine ⟨fun z0 => ?_, fun z0 => ⟨fun z1 => ?_, fun z1 => ⟨fun z2 => ?_, fun z2 => ⟨fun z3 => ?_, fun z3 => ⟨fun z4 => ?_, fun z4 => ⟨fun z5 => ?_, fun z5 => ⟨fun z6 => ?_, fun z6 => ⟨fun z7 => ?_, fun z7 => ?_⟩⟩⟩⟩⟩⟩⟩⟩
  · subst z0
    exact am_ite_t rfl ⟨pk_in 0 96 (by decide), ok _ _ (h3.1.1.trans m3.1.1.1.symm)⟩
  · subst z1
    exact am_ite_f z0 (am_ite_t rfl ⟨pk_in 1 96 (by decide), ok _ _ (h3.1.2.1.trans m3.1.1.2.1.symm)⟩)
  · subst z2
    exact am_ite_f z0 (am_ite_f z1 (am_ite_t rfl ⟨pk_in 2 96 (by decide), ok _ _ (h3.1.2.2.1.trans m3.1.1.2.2.symm)⟩))
  · refine g_look hJc (fun τ hJ hW => s_kindOf hJ.1.1.2.2.1.1 hok hW (fun τ2 e2 => ?_))
    have hJ2 := hJ.keep (sc12 e2)
    exact am_ite_f z0 (am_ite_f z1 (am_ite_f z2 (am_ite_t z3 (s_kind (hJ2.md.f0 hok.2.2.2.1) hok (fun υ e3 => h _ _ (hJ2.ok e3))))))
  · exact am_ite_f z0 (am_ite_f z1 (am_ite_f z2 (am_ite_f z3 (am_ite_t z4 (ok _ _ (a3.trans b2.symm))))))
  · exact am_ite_f z0 (am_ite_f z1 (am_ite_f z2 (am_ite_f z3 (am_ite_f z4 (am_ite_t z5 (ok _ _ (h8.1.1.trans m6.1.symm)))))))
  · exact am_ite_f z0 (am_ite_f z1 (am_ite_f z2 (am_ite_f z3 (am_ite_f z4 (am_ite_f z5 (am_ite_t z6 (ok _ _ (h9.1.trans m7.1.symm))))))))
  · have go : ∀ (v : Int32), am_ite (¬ (σ.1 153 7) = (-1)) (K v (σ.1 153 8) (f0 (am_upI σ 0 12 (nI 0)))) (K v (-1) (f0 (am_upI σ 0 12 (nI 0)))) → w_Mod_count x (am_upI σ 0 12 (nI 0)) (K v) := fun v g => am_ite_f z0 (am_ite_f z1 (am_ite_f z2 (am_ite_f z3 (am_ite_f z4 (am_ite_f z5 (am_ite_f z6 (am_ite_t z7 g)))))))
    unfold w_Rim_isThere
    cases hr : sr S with
    | none =>
      rw [hr] at h2 m2
      exact am_ite_t h2 (am_ite_t rfl (go _ (am_ite_f (fun z => z m2) (ok _ _ rfl))))
    | some R =>
      obtain ⟨k, m, e⟩ := R
      rw [hr] at h2 m2
      obtain ⟨r1, r2, r3, r4, r5, r6⟩ := h2
      obtain ⟨s1, s2, s3⟩ := m2
      have q1 : ¬ σ.1 1 1 = -1 := by rw [r1]; exact ne1 (by omega)
      have q2 : ¬ σ.1 153 7 = -1 := by rw [s1]; exact ne1 (by omega)
      exact am_ite_f q1 (am_ite_f (by decide) (go _ (am_ite_t q2 (ok _ _ (r3.trans s2.symm)))))
  · exact am_ite_f z0 (am_ite_f z1 (am_ite_f z2 (am_ite_f z3 (am_ite_f z4 (am_ite_f z5 (am_ite_f z6 (am_ite_f z7 (h _ _ hJc.no))))))))
