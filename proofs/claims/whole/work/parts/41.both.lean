/-! THE REFERENCE'S STATE, and both together -/
def mRim (σ : am_S) (R : Option (Nat × Nat × (Nat → Int64))) : Prop := match R with
  | none => σ.1 153 7 = -1
  | some (k, m, e) => σ.1 153 7 = nI k ∧ σ.1 153 8 = nI m ∧ ∀ i, i < 64 → σ.2 158 i = e i
def mKp (σ : am_S) (R : Option (Nat × Nat × (Nat → Nat))) : Prop := match R with
  | none => σ.1 153 6 = nI 0
  | some (n, r, w) => σ.1 153 6 = nI 1 ∧ σ.1 154 3 = nI n ∧ σ.1 154 5 = nI r ∧ ∀ i, i < n → σ.1 167 i = nI (w i)
def mDv (σ : am_S) (v : Nat × (Nat → Int32)) : Prop := σ.1 153 11 = nI v.1 ∧ ∀ k, k < v.1 → σ.1 159 k = v.2 k
def mLi (σ : am_S) (v : Nat × (Nat → Int32)) : Prop := σ.1 153 13 = nI v.1 ∧ ∀ k, k < v.1 → σ.1 160 k = v.2 k
def mQs (σ : am_S) (q : Option (Nat × Nat × Nat) × Nat) : Prop := σ.1 153 17 = nI q.2 ∧ match q.1 with
  | none => σ.1 153 14 = nI 0
  | some (n, r, a) => σ.1 153 14 = nI n ∧ σ.1 153 15 = nI r ∧ σ.1 153 16 = nI a
def mS (σ : am_S) (S : sp_S) : Prop := σ.1 153 18 = sf S ∧ mRim σ (sr S) ∧ (mD σ 0 (sd S) ∧ d_ok (sd S)) ∧ mH σ (sp S) ∧ mKp σ (sk S) ∧ mDv σ (sv S) ∧ mLi σ (sli S) ∧ mQs σ (sq S)
theorem mRim.kept {P Q : Nat → Prop} {σ τ : am_S} {R : Option (Nat × Nat × (Nat → Int64))} (h : mRim σ R) (he : am_eq P σ τ) (hf : fEq Q σ τ) (h1 : ¬ P 158) (h7 : ¬ Q 7) (h8 : ¬ Q 8) : mRim τ R := by
  unfold mRim
  rw [hf 7 h7, hf 8 h8, (he 158 h1).2]
  exact h
theorem mKp.kept {P Q : Nat → Prop} {σ τ : am_S} {R : Option (Nat × Nat × (Nat → Nat))} (h : mKp σ R) (he : am_eq P σ τ) (hf : fEq Q σ τ) (hs : sEq σ τ 1) (h1 : ¬ P 167) (h7 : ¬ Q 6) : mKp τ R := by
  unfold mKp
  have e3 : τ.1 154 3 = σ.1 154 3 := hs.1 0 (by decide)
  have e5 : τ.1 154 5 = σ.1 154 5 := hs.1 2 (by decide)
  rw [hf 6 h7, (he 167 h1).1, e3, e5]
  exact h
theorem mDv.kept {P Q : Nat → Prop} {σ τ : am_S} {v : Nat × (Nat → Int32)} (h : mDv σ v) (he : am_eq P σ τ) (hf : fEq Q σ τ) (h1 : ¬ P 159) (h7 : ¬ Q 11) : mDv τ v := by
  unfold mDv
  rw [hf 11 h7, (he 159 h1).1]
  exact h
theorem mLi.kept {P Q : Nat → Prop} {σ τ : am_S} {v : Nat × (Nat → Int32)} (h : mLi σ v) (he : am_eq P σ τ) (hf : fEq Q σ τ) (h1 : ¬ P 160) (h7 : ¬ Q 13) : mLi τ v := by
  unfold mLi
  rw [hf 13 h7, (he 160 h1).1]
  exact h
theorem mQs.kept {Q : Nat → Prop} {σ τ : am_S} {q : Option (Nat × Nat × Nat) × Nat} (h : mQs σ q) (hf : fEq Q σ τ) (h7 : ∀ i, 14 ≤ i → i ≤ 17 → ¬ Q i) : mQs τ q := by
  unfold mQs
  rw [hf 14 (h7 14 (by decide) (by decide)), hf 15 (h7 15 (by decide) (by decide)), hf 16 (h7 16 (by decide) (by decide)), hf 17 (h7 17 (by decide) (by decide))]
  exact h
/-- what a call of the reference may change, its disc apart -/
def scM (k : Nat) : Prop := 161 ≤ k ∧ k ≤ 166 ∨ k = 168
def scF (i : Nat) : Prop := 25 ≤ i
theorem mS.disc {σ τ : am_S} {S : sp_S} {D : sp_D} (h : mS σ S) (he : am_eq (fun k => 153 ≤ k ∧ k ≤ 157 ∨ scM k) σ τ) (hf : fEq scF σ τ) (hs : ∀ j, j ≠ 0 → sEq σ τ j) (hD : mD τ 0 D) (hok : d_ok D) : mS τ (sD S D) := by
  obtain ⟨h1, h2, h3, h4, h5, h6, h7, h8⟩ := h
  have n : ∀ k, ¬ (153 ≤ k ∧ k ≤ 157) → ¬ (161 ≤ k ∧ k ≤ 166 ∨ k = 168) → ¬ (153 ≤ k ∧ k ≤ 157 ∨ scM k) := fun k a b c => by rcases c with c | c; exact a c; exact b c
  have nf : ∀ i, i < 25 → ¬ scF i := fun i hi z => absurd hi (Nat.not_lt.mpr z)
  exact ⟨by rw [hf 18 (nf _ (by decide))]; exact h1, h2.kept he hf (n _ (by decide) (by decide)) (nf _ (by decide)) (nf _ (by decide)), ⟨hD, hok⟩, h4.kept (P := fun _ => True) (fun j a b => hs j (by omega)) hf (nf _ (by decide)) (nf _ (by decide)), h5.kept he hf (hs 1 (by decide)) (n _ (by decide) (by decide)) (nf _ (by decide)), h6.kept he hf (n _ (by decide) (by decide)) (nf _ (by decide)), h7.kept he hf (n _ (by decide) (by decide)) (nf _ (by decide)), h8.kept hf (fun i a b => nf i (by omega))⟩
theorem mS.scr {σ τ : am_S} {S : sp_S} (h : mS σ S) (he : am_eq (fun k => k = 153 ∨ scM k) σ τ) (hf : fEq scF σ τ) : mS τ S := by
  have n : ∀ k, ¬ (k = 153) → ¬ (161 ≤ k ∧ k ≤ 166 ∨ k = 168) → ¬ (k = 153 ∨ scM k) := fun k a b c => by rcases c with c | c; exact a c; exact b c
  have hs : ∀ j, sEq σ τ j := fun j => sEq.of he (n _ (by decide) (by decide)) (n _ (by decide) (by decide)) (n _ (by decide) (by decide)) (n _ (by decide) (by decide))
  exact h.disc (D := sd S) (he.mono (fun k hk => by rcases hk with hk | hk; exact Or.inl (by omega); exact Or.inr hk)) hf (fun j _ => hs j) (h.2.2.1.1.slot h.2.2.1.2.2.2.2.1 (hs 0)) h.2.2.1.2
theorem mS.fault {σ : am_S} {S : sp_S} (h : mS σ S) (f : Int32) : mS (am_upI σ 153 18 f) (sF S f) := by
  obtain ⟨h1, h2, h3, h4, h5, h6, h7, h8⟩ := h
  have he : am_eq (fun k => k = 153) σ (am_upI σ 153 18 f) := am_eq.upI rfl
  have hf : fEq (fun i => i = 18) σ (am_upI σ 153 18 f) := fEq.up rfl
  have hs : ∀ j, sEq σ (am_upI σ 153 18 f) j := fun j => sEq.of he (by decide) (by decide) (by decide) (by decide)
  exact ⟨u_Is _ _ _ _, h2.kept he hf (by decide) (by decide) (by decide), ⟨h3.1.slot h3.2.2.2.2.1 (hs 0), h3.2⟩, h4.kept (P := fun _ => True) (fun j _ _ => hs j) hf (by decide) (by decide), h5.kept he hf (hs 1) (by decide) (by decide), h6.kept he hf (by decide) (by decide), h7.kept he hf (by decide) (by decide), h8.kept hf (fun i a b => by omega)⟩
theorem mS.cls {σ τ : am_S} {S : sp_S} (h : mS σ S) (he : am_eq (fun k => k < 153) σ τ) : mS τ S := by
  unfold mS mRim mD mH mD mKp mDv mLi mQs
  rw [(he 153 (by decide)).1, (he 154 (by decide)).1, (he 155 (by decide)).1, (he 156 (by decide)).1, (he 157 (by decide)).1, (he 158 (by decide)).2, (he 159 (by decide)).1, (he 160 (by decide)).1, (he 167 (by decide)).1]
  exact h
theorem cS.mod {σ τ : am_S} {S : sp_S} (h : cS σ S) (he : am_eq (fun k => 153 ≤ k ∧ k < 169) σ τ) : cS τ S := by
  obtain ⟨h1, h2, h3, h4, h5, h6, h7, h8, h9, h10⟩ := h
  exact ⟨by rw [(he 0 (by decide)).1]; exact h1, h2.kept he (by decide) (by decide), ⟨h3.1.kept he (by decide) (by decide) (by decide) (by decide), h3.2⟩, h4.kept he (by decide) (fun k a b => by omega), h5.kept he (by decide) (by decide) (by decide), h6.kept he (by decide) (by decide), h7.kept he (by decide) (by decide), h8.kept he (fun k a b => by omega), h9.kept he (by decide) (by decide), h10.kept he (by decide)⟩
/-- between two calls -/
def J (θ σ : am_S) : Prop := (∃ S, cS σ S ∧ mS σ S) ∧ am_eq (fun k => k < 169) θ σ
theorem J_end {θ σ τ υ : am_S} {S : sp_S} (he : am_eq (fun k => k < 169) θ σ) (hc : cS τ S) (h1 : am_eq (fun k => k < 153) σ τ) (hm : mS υ S) (h2 : am_eq (fun k => 153 ≤ k ∧ k < 169) τ υ) : J θ υ := ⟨⟨S, hc.mod h2, hm⟩, (he.tr (h1.mono (fun k hk => by omega))).tr (h2.mono (fun k hk => by omega))⟩
theorem f0_e {σ : am_S} {v : Int32} : am_eq (fun k => 153 ≤ k ∧ k < 169) σ (am_upI σ 153 18 v) := am_eq.upI (by decide)
theorem c0_e {σ : am_S} {v : Int32} : am_eq (fun k => k < 153) σ (am_upI σ 0 12 v) := am_eq.upI (by decide)
/-- refused by both -/
theorem J_no {θ σ : am_S} {S : sp_S} {f : Int32} (he : am_eq (fun k => k < 169) θ σ) (hc : cS σ S) (hm : mS σ S) : J θ (am_upI (am_upI (am_upI σ 0 12 f) 153 18 (nI 0)) 153 18 f) := J_end he (hc.fault f) c0_e (((hm.cls c0_e).fault (nI 0)).fault f) (f0_e.tr f0_e)
theorem g_change {σ : am_S} {S : sp_S} {K : am_S → Prop} (hS : mS σ S) (h : ∀ τ, mS τ (sP S ((sd S :: sp S).take 30)) → am_eq (fun k => 153 ≤ k ∧ k < 169) σ τ → K τ) : w_Mod_change σ K := by
  obtain ⟨h1, h2, h3, h4, h5, h6, h7, h8⟩ := hS
  refine s_change h3.2 h3.1 h4 (fun τ hD hH hs1 hf he => h τ ⟨?_, h2.kept he hf (by decide) (by decide) (by decide), ⟨hD, h3.2⟩, hH, h5.kept he hf hs1 (by decide) (by decide), h6.kept he hf (by decide) (by decide), h7.kept he hf (by decide) (by decide), h8.kept hf (fun i a b => by omega)⟩ (he.mono (fun k hk => by omega)))
  rw [hf 18 (by decide)]
  exact h1
