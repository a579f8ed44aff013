/-! A DISC as numbers: sectors, tracks, readers, lights, the track and the place of a reader -/
abbrev sp_D : Type := Nat × Nat × Nat × (Nat → Nat → Bool) × (Nat → Nat) × (Nat → Nat)
abbrev dn (D : sp_D) : Nat := D.1
abbrev dt (D : sp_D) : Nat := D.2.1
abbrev dr (D : sp_D) : Nat := D.2.2.1
abbrev dl (D : sp_D) : Nat → Nat → Bool := D.2.2.2.1
abbrev dk (D : sp_D) : Nat → Nat := D.2.2.2.2.1
abbrev dp (D : sp_D) : Nat → Nat := D.2.2.2.2.2
def d_ok (D : sp_D) : Prop := 1 ≤ dn D ∧ dn D ≤ 512 ∧ dt D ≤ 10 ∧ dr D ≤ 10 ∧ (∀ r, r < dr D → dk D r < dt D ∧ dp D r < dn D) ∧ ∀ t s, dt D ≤ t ∨ dn D ≤ s → dl D t s = false
/-- the Disc at the cells k .. k + 3 -/
def cD (σ : am_S) (k : Nat) (D : sp_D) : Prop := σ.1 k 3 = nI (dn D) ∧ σ.1 k 4 = nI (dt D) ∧ σ.1 k 5 = nI (dr D) ∧ (∀ r, r < dr D → σ.1 (k + 2) r = nI (dk D r) ∧ σ.1 (k + 3) r = nI (dp D r)) ∧ ∀ t s, t < 10 → s < 512 → lit σ (k + 1) t s = dl D t s
theorem cD.kept {P : Nat → Prop} {σ τ : am_S} {k : Nat} {D : sp_D} (h : cD σ k D) (he : am_eq P σ τ) (h0 : ¬ P k) (h1 : ¬ P (k + 1)) (h2 : ¬ P (k + 2)) (h3 : ¬ P (k + 3)) : cD τ k D := by
  unfold cD lit
  rw [(he k h0).1, (he _ h1).2, (he _ h2).1, (he _ h3).1]
  exact h
def dE (n : Nat) : sp_D := (n, 0, 0, fun _ _ => false, fun _ => 0, fun _ => 0)
theorem dE_ok {n : Nat} (h1 : 1 ≤ n) (h2 : n ≤ 512) : d_ok (dE n) := ⟨h1, h2, Nat.zero_le _, Nat.zero_le _, fun r h => absurd h (Nat.not_lt_zero r), fun _ _ _ => rfl⟩
theorem s_empty {n : Nat} {σ : am_S} {K : am_S → Prop} (h : ∀ τ, cD τ 3 (dE n) → am_eq (fun k => k = 3 ∨ k = 4) σ τ → K τ) : w_Disc_empty (nI n) σ K := by
  unfold w_Disc_empty
  refine s_fillJ ce_4 (by decide) (h _ ⟨rfl, rfl, rfl, fun r hr => absurd hr (Nat.not_lt_zero r), fun t s ht hs => ?_⟩ ?_)
  · unfold lit fJ
    dsimp only
    rw [if_pos ⟨rfl, by omega⟩, lbit_0]
    rfl
  · exact ((am_eq.upI (Or.inl rfl)).tr ((am_eq.upI (Or.inl rfl)).tr (am_eq.upI (Or.inl rfl)))).tr (fJ_eq (Or.inr rfl))
theorem cpI_at (σ : am_S) (a b n k i : Nat) : (am_cpI σ a b 0 0 n).1 k i = if k = b ∧ i < n then σ.1 a i else σ.1 k i := by
  unfold am_cpI va_cpy
  dsimp only
  by_cases h : k = b
  · subst h
    by_cases h2 : i < n
    · simp [h2]
    · simp [h2]
  · simp [h]
theorem cpJ_at (σ : am_S) (a b n k i : Nat) : (am_cpJ σ a b 0 0 n).2 k i = if k = b ∧ i < n then σ.2 a i else σ.2 k i := by
  unfold am_cpJ va_cpy
  dsimp only
  by_cases h : k = b
  · subst h
    by_cases h2 : i < n
    · simp [h2]
    · simp [h2]
  · simp [h]
theorem cpI_2 (σ : am_S) (a b n : Nat) : (am_cpI σ a b 0 0 n).2 = σ.2 := rfl
theorem cpJ_1 (σ : am_S) (a b n : Nat) : (am_cpJ σ a b 0 0 n).1 = σ.1 := rfl
theorem s_become {a b : Nat} {D : sp_D} {σ : am_S} {K : am_S → Prop} (hab : a + 4 ≤ b ∨ b + 4 ≤ a) (hr : dr D ≤ 10) (hD : cD σ b D) (h : ∀ τ, cD τ a D → am_eq (fun k => a ≤ k ∧ k < a + 4) σ τ → K τ) : w_Disc_become (a := a) (b := b) σ K := by
  unfold w_Disc_become
  obtain ⟨h1, h2, h3, h4, h5⟩ := hD
  refine h _ ⟨?_, ?_, ?_, fun r hr => ⟨?_, ?_⟩, fun t s ht hs => ?_⟩ ?_
  · rw [cpI_at, if_neg (by omega), cpI_at, if_neg (by omega), cpJ_1, u_In _ _ (by omega), u_In _ _ (by omega), u_Is]
    exact h1
  · rw [cpI_at, if_neg (by omega), cpI_at, if_neg (by omega), cpJ_1, u_In _ _ (by omega), u_Is, u_In _ _ (by omega)]
    exact h2
  · rw [cpI_at, if_neg (by omega), cpI_at, if_neg (by omega), cpJ_1, u_Is, u_In _ _ (by omega), u_In _ _ (by omega)]
    exact h3
  · rw [cpI_at, if_neg (by omega), cpI_at, if_pos (by omega), cpJ_1, u_In _ _ (by omega), u_In _ _ (by omega), u_In _ _ (by omega)]
    exact (h4 r (by omega)).1
  · rw [cpI_at, if_pos (by omega), cpI_at, if_neg (by omega), cpJ_1, u_In _ _ (by omega), u_In _ _ (by omega), u_In _ _ (by omega)]
    exact (h4 r (by omega)).2
  · unfold lit
    rw [cpI_2, cpI_2, cpJ_at, if_pos (by omega)]
    exact h5 t s ht hs
  · have e0 : a ≤ a ∧ a < a + 4 := by omega
    have e1 : a ≤ a + 1 ∧ a + 1 < a + 4 := by omega
    have e2 : a ≤ a + 2 ∧ a + 2 < a + 4 := by omega
    have e3 : a ≤ a + 3 ∧ a + 3 < a + 4 := by omega
    exact ((((((am_eq.upI e0).tr (am_eq.upI e0)).tr (am_eq.upI e0)).tr (am_eq.cpJ e1)).tr (am_eq.cpI e2)).tr (am_eq.cpI e3))
/-! THE HISTORY: the discs ahead of the latest changes, the latest first -/
def cH (σ : am_S) (Ds : List sp_D) : Prop := ∃ nx, nx < 30 ∧ σ.1 7 1 = nI nx ∧ σ.1 7 2 = nI Ds.length ∧ Ds.length ≤ 30 ∧ ∀ i D, Ds[i]? = some D → cD σ (33 + 4 * ((nx + 29 - i) % 30)) D ∧ d_ok D
theorem cH.kept {P : Nat → Prop} {σ τ : am_S} {Ds : List sp_D} (h : cH σ Ds) (he : am_eq P σ τ) (h7 : ¬ P 7) (hr : ∀ k, 33 ≤ k → k < 153 → ¬ P k) : cH τ Ds := by
  obtain ⟨nx, h1, h2, h3, h4, h5⟩ := h
  refine ⟨nx, h1, by rw [(he 7 h7).1]; exact h2, by rw [(he 7 h7).1]; exact h3, h4, fun i D hD => ?_⟩
  obtain ⟨g1, g2⟩ := h5 i D hD
  have hm : (nx + 29 - i) % 30 < 30 := Nat.mod_lt _ (by decide)
  exact ⟨g1.kept he (hr _ (by omega) (by omega)) (hr _ (by omega) (by omega)) (hr _ (by omega) (by omega)) (hr _ (by omega) (by omega)), g2⟩
theorem s_remember {D : sp_D} {Ds : List sp_D} {σ : am_S} {K : am_S → Prop} (hok : d_ok D) (hD : cD σ 3 D) (hH : cH σ Ds) (h : ∀ τ, cH τ ((D :: Ds).take 30) → am_eq (fun k => k = 7 ∨ 33 ≤ k ∧ k < 153) σ τ → K τ) : w_Hist_remember σ K := by
  unfold w_Hist_remember
  obtain ⟨nx, h1, h2, h3, h4, h5⟩ := hH
  rw [h2]
  refine ⟨pk_in nx 30 h1, ?_⟩
  rw [nI_clamp (by omega)]
  refine s_become (D := D) (by omega) hok.2.2.2.1 hD (fun τ hDτ he => ?_)
  have e7 := (he 7 (by omega)).1
  rw [e7, h2]
  refine s_stepUp (by decide) h1 ?_
  have fin : ∀ τ' : am_S, am_eq (fun k => k = 7) τ τ' → τ'.1 7 1 = nI ((nx + 1) % 30) → τ'.1 7 2 = nI ((D :: Ds).take 30).length → K τ' := by
    intro τ' he' g1 g2
    refine h τ' ⟨(nx + 1) % 30, Nat.mod_lt _ (by decide), g1, g2, by simp; omega, fun i D' hD' => ?_⟩ ?_
    · have hi : i < 30 := by
        have := (List.getElem?_eq_some_iff.mp hD').1
        simp at this
        omega
      cases i with
      | zero =>
        have e : D' = D := by simpa using hD'.symm
        subst e
        rw [show ((nx + 1) % 30 + 29 - 0) % 30 = nx by omega]
        exact ⟨hDτ.kept he' (by omega) (by omega) (by omega) (by omega), hok⟩
      | succ i =>
        have hD2 : Ds[i]? = some D' := by
          rw [List.getElem?_take] at hD'
          rw [if_pos hi] at hD'
          simpa using hD'
        obtain ⟨q1, q2⟩ := h5 i D' hD2
        rw [show ((nx + 1) % 30 + 29 - (i + 1)) % 30 = (nx + 29 - i) % 30 by omega]
        have hm : (nx + 29 - i) % 30 ≠ nx := by omega
        have hm2 : (nx + 29 - i) % 30 < 30 := Nat.mod_lt _ (by decide)
        exact ⟨(q1.kept he (by omega) (by omega) (by omega) (by omega)).kept he' (by omega) (by omega) (by omega) (by omega), q2⟩
    · exact (he.mono (fun k hk => Or.inr (by omega))).tr (he'.mono (fun k hk => Or.inl hk))
  rw [e7, h3]
  refine pk_le 30 Ds.length (fun g => ?_) (fun g => ?_)
  · refine fin _ (am_eq.upI rfl) (u_Is _ _ _ _) ?_
    rw [u_In _ _ (by omega), e7, h3]
    congr 1
    simp
    omega
  · refine fin _ (am_eq.tr (P := fun k => k = 7) (am_eq.upI rfl) (am_eq.upI rfl)) ?_ ?_
    · rw [u_In _ _ (by omega)]
      exact u_Is _ _ _ _
    · rw [u_Is, nI_add]
      congr 1
      simp
      omega
theorem s_takeBack {D : sp_D} {Ds : List sp_D} {σ : am_S} {K : am_S → Prop} (hH : cH σ (D :: Ds)) (h : ∀ τ, cD τ 3 D → d_ok D → cH τ Ds → am_eq (fun k => k = 7 ∨ 3 ≤ k ∧ k < 7) σ τ → K τ) : w_Hist_takeBack σ K := by
  unfold w_Hist_takeBack
  obtain ⟨nx, h1, h2, h3, h4, h5⟩ := hH
  have hlen : (D :: Ds).length = Ds.length + 1 := rfl
  rw [h2, h3]
  refine am_ite_t (nI_ne0 (by omega) (by omega)) (s_stepDown (by decide) h1 ?_)
  rw [show (nx + 30 - 1) % 30 = (nx + 29) % 30 by omega, nI_clamp (by omega)]
  obtain ⟨g1, g2⟩ := h5 0 D rfl
  rw [show (nx + 29 - 0) % 30 = (nx + 29) % 30 by omega] at g1
  have hm : (nx + 29) % 30 < 30 := Nat.mod_lt _ (by decide)
  refine ⟨pk_in ((nx + 29) % 30) 30 hm, ?_⟩
  have hu : am_eq (fun k => k = 7) σ (am_upI (am_upI σ 7 1 (nI ((nx + 29) % 30))) 7 2 (σ.1 7 2 - nI 1)) := am_eq.tr (P := fun k => k = 7) (am_eq.upI rfl) (am_eq.upI rfl)
  have k7 : ∀ k, 7 < k → ¬ (fun k : Nat => k = 7) k := fun k h e => by
    have e' : k = 7 := e
    omega
  have g1' := cD.kept g1 hu (k7 (33 + 4 * ((nx + 29) % 30)) (by omega)) (k7 (33 + 4 * ((nx + 29) % 30) + 1) (by omega)) (k7 (33 + 4 * ((nx + 29) % 30) + 2) (by omega)) (k7 (33 + 4 * ((nx + 29) % 30) + 3) (by omega))
  refine s_become (D := D) (by omega) g2.2.2.2.1 g1' (fun τ hDτ he => ?_)
  have he2 := (hu.mono (P' := fun k => k = 7 ∨ 3 ≤ k ∧ k < 7) (fun k hk => Or.inl hk)).tr (he.mono (fun k hk => Or.inr (by omega)))
  refine h τ hDτ g2 ⟨(nx + 29) % 30, hm, ?_, ?_, by omega, fun i D' hD' => ?_⟩ he2
  · rw [(he 7 (by omega)).1, u_In _ _ (by omega), u_Is]
  · rw [(he 7 (by omega)).1, u_Is, h3, hlen, pk_sub (by omega)]
    rfl
  · have hi : i < Ds.length := (List.getElem?_eq_some_iff.mp hD').1
    obtain ⟨q1, q2⟩ := h5 (i + 1) D' (by simpa using hD')
    rw [show (nx + 29 - (i + 1)) % 30 = ((nx + 29) % 30 + 29 - i) % 30 by omega] at q1
    have hm3 : ((nx + 29) % 30 + 29 - i) % 30 < 30 := Nat.mod_lt _ (by decide)
    exact ⟨q1.kept he2 (by omega) (by omega) (by omega) (by omega), q2⟩
