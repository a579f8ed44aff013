/-- the reference's history -/
def mH (σ : am_S) (Ds : List sp_D) : Prop := ∃ fp, fp < 30 ∧ σ.1 153 4 = nI Ds.length ∧ σ.1 153 5 = nI fp ∧ Ds.length ≤ 30 ∧ ∀ i D, Ds[i]? = some D → mD σ (2 + (fp + Ds.length - 1 - i) % 30) D ∧ d_ok D
/-- the fields of the reference but those of Q stay -/
def fEq (Q : Nat → Prop) (σ τ : am_S) : Prop := ∀ i, ¬ Q i → τ.1 153 i = σ.1 153 i
theorem fEq.rf {Q : Nat → Prop} {σ : am_S} : fEq Q σ σ := fun _ _ => rfl
theorem fEq.tr {Q : Nat → Prop} {σ τ υ : am_S} (h1 : fEq Q σ τ) (h2 : fEq Q τ υ) : fEq Q σ υ := fun i hi => (h2 i hi).trans (h1 i hi)
theorem fEq.mono {Q Q' : Nat → Prop} {σ τ : am_S} (h : fEq Q σ τ) (hq : ∀ i, Q i → Q' i) : fEq Q' σ τ := fun i hi => h i (fun z => hi (hq i z))
theorem fEq.up {Q : Nat → Prop} {σ : am_S} {i : Nat} {v : Int32} (h : Q i) : fEq Q σ (am_upI σ 153 i v) := fun j hj => u_In _ _ (Or.inr (fun e => hj (e ▸ h)))
theorem fEq.of {P Q : Nat → Prop} {σ τ : am_S} (he : am_eq P σ τ) (h : ¬ P 153) : fEq Q σ τ := fun i _ => by rw [(he 153 h).1]
theorem mH.kept {P Q : Nat → Prop} {σ τ : am_S} {Ds : List sp_D} (h : mH σ Ds) (hs : ∀ j, 2 ≤ j → j < 32 → sEq σ τ j) (hf : fEq Q σ τ) (h4 : ¬ Q 4) (h5 : ¬ Q 5) : mH τ Ds := by
  obtain ⟨fp, g1, g2, g3, g4, g5⟩ := h
  refine ⟨fp, g1, by rw [hf 4 h4]; exact g2, by rw [hf 5 h5]; exact g3, g4, fun i D hD => ?_⟩
  obtain ⟨q1, q2⟩ := g5 i D hD
  have hm : (fp + Ds.length - 1 - i) % 30 < 30 := Nat.mod_lt _ (by decide)
  exact ⟨q1.slot q2.2.2.2.1 (hs _ (by omega) (by omega)), q2⟩
theorem s_change {D : sp_D} {Ds : List sp_D} {σ : am_S} {K : am_S → Prop} (hok : d_ok D) (hD : mD σ 0 D) (hH : mH σ Ds) (h : ∀ τ, mD τ 0 D → mH τ ((D :: Ds).take 30) → sEq σ τ 1 → fEq (fun i => i = 4 ∨ i = 5) σ τ → am_eq (fun k => 153 ≤ k ∧ k ≤ 157) σ τ → K τ) : w_Mod_change σ K := by
  obtain ⟨fp, g1, g2, g3, g4, g5⟩ := hH
  unfold w_Mod_change
  rw [g2, g3]
  have go : ∀ (τ0 : am_S) (fp' len' : Nat), fp' < 30 → am_eq (fun k => k = 153) σ τ0 → fEq (fun i => i = 4 ∨ i = 5) σ τ0 → τ0.1 153 4 = nI len' → τ0.1 153 5 = nI fp' → len' = ((D :: Ds).take 30).length → (∀ i, i + 1 < len' → (fp' + len' - 1 - (i + 1)) % 30 = (fp + Ds.length - 1 - i) % 30 ∧ (fp' + len' - 1) % 30 ≠ (fp + Ds.length - 1 - i) % 30) → w_Mod_copy (nI 0) (nI (2 + (fp' + len' - 1) % 30)) τ0 (fun τ => K τ) := by
    intro τ0 fp' len' hfp he0 hf0 e4 e5 hl hidx
    have hm : (fp' + len' - 1) % 30 < 30 := Nat.mod_lt _ (by decide)
    have s0 : ∀ j, sEq σ τ0 j := fun j => sEq.of he0 (by omega) (by omega) (by omega) (by omega)
    refine s_copy (by decide) (by omega) (by omega) hok.2.2.2.1 (hD.slot hok.2.2.2.1 (s0 0)) (fun τ hDτ hs he => ?_)
    refine h τ ((hD.slot hok.2.2.2.1 (s0 0)).slot hok.2.2.2.1 (hs 0 (by omega))) ⟨fp', hfp, ?_, ?_, by simp; omega, fun i D' hD' => ?_⟩ ((s0 1).tr (hs 1 (by omega))) (hf0.tr (fEq.of he (by omega))) ((he0.mono (fun k hk => by omega)).tr (he.mono (fun k hk => by omega)))
    · rw [(he 153 (by omega)).1, e4, hl]
    · rw [(he 153 (by omega)).1, e5]
    · rw [← hl]
      have hi : i < len' := by
        have := (List.getElem?_eq_some_iff.mp hD').1
        omega
      cases i with
      | zero =>
        have e : D' = D := by simpa using hD'.symm
        subst e
        exact ⟨hDτ, hok⟩
      | succ i =>
        obtain ⟨z1, z2⟩ := hidx i hi
        have hD2 : Ds[i]? = some D' := by
          rw [List.getElem?_take] at hD'
          split at hD'
          · simpa using hD'
          · cases hD'
        obtain ⟨q1, q2⟩ := g5 i D' hD2
        rw [z1]
        exact ⟨(q1.slot q2.2.2.2.1 (s0 _)).slot q2.2.2.2.1 (hs _ (by omega)), q2⟩
  by_cases e : Ds.length = 30
  · refine am_ite_f (by rw [e]; simp) ?_
    rw [nI_add, pk_rem (by omega) (by decide) (by decide), nI_add, pk_sub (by omega), pk_rem (by omega) (by decide) (by decide), nI_add]
    refine go _ ((fp + 1) % 30) Ds.length (Nat.mod_lt _ (by decide)) (am_eq.upI rfl) (fEq.up (Or.inr rfl)) ?_ (u_Is _ _ _ _) (by simp; omega) (fun i hi => by omega)
    rw [u_In _ _ (by omega)]
    exact g2
  · refine am_ite_t (fun z => e ((nI_eq (by omega) (by decide)).mp z)) ?_
    rw [nI_add, nI_add, pk_sub (by omega), pk_rem (by omega) (by decide) (by decide), nI_add]
    refine go _ fp (Ds.length + 1) g1 (am_eq.upI rfl) (fEq.up (Or.inl rfl)) (u_Is _ _ _ _) ?_ (by simp; omega) (fun i hi => by omega)
    rw [u_In _ _ (by omega)]
    exact g3
theorem s_begin {n : Nat} {σ : am_S} {K : am_S → Prop} (h : ∀ τ, mD τ 0 (dE n) → (∀ j, j ≠ 0 → sEq σ τ j) → am_eq (fun k => k = 154 ∨ k = 157) σ τ → K τ) : w_Mod_begin (nI n) σ K := by
  refine e_Mod_begin (fun d => ⟨pk_in 0 96 (by decide), pk_in 1 96 (by decide), pk_in 2 96 (by decide), ?_⟩)
  have L : ∀ q k, k + q = 5120 → R_Mod_begin d K 23 [.ref 153, .null, .int (nI k)] [] (fI (am_upI (am_upI (am_upI σ 154 0 (nI n)) 154 1 (nI 0)) 154 2 (nI 0)) 157 k (nI 0)) := by
    intro q
    induction q with
    | zero =>
      intro k hk
      have : k = 5120 := by omega
      subst this
      refine l_Mod_begin_23 (am_ite_t (nI_le (Nat.le_refl _) (by decide)) (h _ ⟨⟨?_, ?_, ?_⟩, fun r hr => absurd hr (Nat.not_lt_zero r), fun t s ht hs => ?_⟩ (fun j hj => ⟨fun i hi => ?_, fun i hi => ⟨rfl, rfl⟩, fun x hx => ?_⟩) ?_))
      · rfl
      · rfl
      · rfl
      · show (if (157 : Nat) = 157 ∧ 5120 * 0 + (512 * t + s) < 5120 then nI 0 else _) = _
        rw [if_pos ⟨rfl, by omega⟩]
        rfl
      · rw [(fI_eq (P := fun k => k = 157) rfl 154 (by decide)).1, u_In _ _ (by omega), u_In _ _ (by omega), u_In _ _ (by omega)]
      · show (if (157 : Nat) = 157 ∧ 5120 * j + x < 5120 then nI 0 else _) = _
        rw [if_neg (by omega)]
        rfl
      · exact (((am_eq.upI (Or.inl rfl)).tr (am_eq.upI (Or.inl rfl))).tr (am_eq.upI (Or.inl rfl))).tr (fI_eq (Or.inr rfl))
    | succ q ih =>
      intro k hk
      refine l_Mod_begin_23 ?_
      rw [nI_clamp (by omega), nI_add, fI_step]
      exact pk_le 5120 k (fun z => absurd z (by omega)) (fun _ => ⟨pk_in k 163840 (by omega), ih (k + 1) (by omega)⟩)
  have := L 5120 0 (by omega)
  rw [fI_0] at this
  exact this
theorem s_sees {D : sp_D} {r s : Nat} {σ : am_S} {K : Int32 → am_S → Prop} (hD : mD σ 0 D) (hok : d_ok D) (hr : r < dr D) (hs : s < 2 ^ 20) (h : K (bI (dl D (dk D r) ((s + dp D r) % dn D))) σ) : w_Mod_sees (nI r) (nI s) σ K := by
  obtain ⟨⟨g1, g2, g3⟩, g4, g5⟩ := hD
  obtain ⟨k1, k2, k3, k4, k5, k6⟩ := hok
  obtain ⟨a1, a2⟩ := g4 r hr
  obtain ⟨b1, b2⟩ := k5 r hr
  rw [Nat.mul_zero, Nat.zero_add] at a1 a2
  unfold w_Mod_sees w_Mod_n
  dsimp only
  have i1 : vp_in (nI r) 320 := pk_in r 320 (by omega)
  have e1 : σ.1 154 0 = nI (dn D) := g1
  rw [nI_clamp (by omega), a1, a2, e1, nI_add, pk_rem (by omega) (by omega) (by omega), pk_mul, nI_add]
  have hm : (s + dp D r) % dn D < dn D := Nat.mod_lt _ k1
  rw [nI_clamp (by omega)]
  have hb := g5 (dk D r) ((s + dp D r) % dn D) (by omega) (by omega)
  rw [Nat.mul_zero, Nat.zero_add] at hb
  rw [hb]
  exact ⟨i1, i1, nI_ne0 (by omega) (by omega), pk_in (512 * dk D r + (s + dp D r) % dn D) 163840 (by omega), bI_01 _, h⟩
theorem s_wordAt {D : sp_D} {s : Nat} {σ : am_S} {K : Int32 → am_S → Prop} (hD : mD σ 0 D) (hok : d_ok D) (hs : s < 2 ^ 20) (h : K (nI (wdD D s)) σ) : w_Mod_wordAt (nI s) σ K := by
  refine e_Mod_wordAt (fun d => ?_)
  obtain ⟨⟨g1, g2, g3⟩, g4, g5⟩ := id hD
  have e3 : σ.1 154 2 = nI (dr D) := g3
  have k4 := hok.2.2.2.1
  have L : ∀ q r, r + q = dr D → R_Mod_wordAt d K 4 [.ref 153, .int (nI s), .int (nI (wd D s r)), .int (nI r)] [] σ := by
    intro q
    induction q with
    | zero =>
      intro r hr
      refine l_Mod_wordAt_4 ?_
      unfold w_Mod_readers
      dsimp only
      rw [e3]
      refine pk_le (dr D) r (fun _ => ?_) (fun z => absurd z (by omega))
      have : r = dr D := by omega
      subst this
      exact h
    | succ q ih =>
      intro r hr
      refine l_Mod_wordAt_4 ?_
      unfold w_Mod_readers
      dsimp only
      rw [e3]
      refine pk_le (dr D) r (fun z => absurd z (by omega)) (fun _ => s_sees hD hok (by omega) hs ?_)
      have ih' := ih (r + 1) (by omega)
      rw [pk_mul, nI_add, nI_add, nI_add]
      unfold wd at ih'
      cases hb : dl D (dk D r) ((s + dp D r) % dn D) with
      | false => rw [hb] at ih'; exact am_ite_t rfl ih'
      | true => rw [hb] at ih'; exact am_ite_f (by decide) ih'
  exact L (dr D) 0 (by omega)
/-- the reference's row of words -/
def mW (σ : am_S) (n : Nat) (W : Nat → Nat) : Prop := ∀ s, s < n → σ.1 161 s = nI (W s)
theorem s_read {D : sp_D} {σ : am_S} {K : am_S → Prop} (hD : mD σ 0 D) (hok : d_ok D) (h : ∀ τ, mW τ (dn D) (wdD D) → am_eq (fun k => k = 161) σ τ → K τ) : w_Mod_read σ K := by
  refine e_Mod_read (fun d => ?_)
  have k2 := hok.2.1
  have L : ∀ q s (τ : am_S), s + q = dn D → am_eq (fun k => k = 161) σ τ → (∀ s', s' < s → τ.1 161 s' = nI (wdD D s')) → R_Mod_read d K 2 [.ref 153, .int (nI s)] [] τ := by
    intro q
    induction q with
    | zero =>
      intro s τ hs he hw
      refine l_Mod_read_2 ?_
      unfold w_Mod_n
      dsimp only
      rw [(he 154 (by omega)).1, show σ.1 154 0 = nI (dn D) from hD.1.1]
      exact pk_le (dn D) s (fun _ => h τ (fun s' hs' => hw s' (by omega)) he) (fun z => absurd z (by omega))
    | succ q ih =>
      intro s τ hs he hw
      refine l_Mod_read_2 ?_
      unfold w_Mod_n
      dsimp only
      rw [(he 154 (by omega)).1, show σ.1 154 0 = nI (dn D) from hD.1.1]
      refine pk_le (dn D) s (fun z => absurd z (by omega)) (fun _ => s_wordAt (hD.slot hok.2.2.2.1 (sEq.of he (by omega) (by omega) (by omega) (by omega))) hok (by omega) ⟨pk_in s 512 (by omega), ?_⟩)
      rw [nI_clamp (by omega), nI_add]
      refine ih (s + 1) _ (by omega) (he.tr (am_eq.upI rfl)) (fun s' hs' => ?_)
      rw [u_I]
      by_cases e : s' = s
      · subst e
        rw [if_pos ⟨rfl, rfl⟩]
      · rw [if_neg (fun z => e z.2)]
        exact hw s' (by omega)
  exact L (dn D) 0 σ (by omega) am_eq.rf (fun s' hs' => absurd hs' (Nat.not_lt_zero s'))
