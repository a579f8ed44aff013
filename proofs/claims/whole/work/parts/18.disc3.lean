/-- the tracks laid anew: sector s is what g s was -/
def dLay (D : sp_D) (g : Nat → Nat) : sp_D := (dn D, dt D, dr D, fun t s => if t < dt D ∧ s < dn D then dl D t (g s) else false, dk D, dp D)
theorem dLay_ok {D : sp_D} {g : Nat → Nat} (h : d_ok D) : d_ok (dLay D g) := ⟨h.1, h.2.1, h.2.2.1, h.2.2.2.1, h.2.2.2.2.1, fun t s hts => by
  show (if t < dt D ∧ s < dn D then dl D t (g s) else false) = false
  have hts' : dt D ≤ t ∨ dn D ≤ s := hts
  rw [if_neg (by omega)]⟩
theorem s_lay {D : sp_D} {g : Nat → Nat} {x1 x2 : Int32} {σ : am_S} {K : am_S → Prop} (hD : cD σ 3 D) (hok : d_ok D) (hg0 : x1 = nI (g 0)) (hgl : ∀ s, s < dn D → g s < dn D) (hgs : ∀ (s : Nat) (τ : am_S) (K : Int32 → am_S → Prop), s < dn D → K (nI (g (s + 1))) τ → w_WD_stepRound (nI (g s)) x2 (nI (dn D)) τ K)
    (h : ∀ τ, cD τ 3 (dLay D g) → am_eq (fun k => k = 4 ∨ k = 32) σ τ → K τ) : w_Disc_layTracksAnew x1 x2 σ K := by
  subst hg0
  refine e_Disc_layTracksAnew (fun d => ?_)
  obtain ⟨h1, h2, h3, h4, h5⟩ := hD
  obtain ⟨k1, k2, k3, k4, k5, k6⟩ := hok
  have L : ∀ m t (τ : am_S), t + m = dt D → am_eq (fun k => k = 4 ∨ k = 32) σ τ → (∀ t' s', t' < 10 → s' < 512 → lit τ 4 t' s' = if t' < t then dl (dLay D g) t' s' else dl D t' s') → R_Disc_layTracksAnew d K 3 [.ref 3, .int (nI (g 0)), .int x2, .ref 32, .int (nI t), .null, .null] [] τ := by
    intro m
    induction m with
    | zero =>
      intro t τ ht he hl
      refine l_Disc_layTracksAnew_3 ?_
      rw [(he 3 (by omega)).1, h2]
      refine pk_le (dt D) t (fun _ => ?_) (fun z => absurd z (by omega))
      refine h τ ⟨by rw [(he 3 (by omega)).1]; exact h1, by rw [(he 3 (by omega)).1]; exact h2, by rw [(he 3 (by omega)).1]; exact h3, fun r hr => ⟨by rw [(he 5 (by omega)).1]; exact (h4 r hr).1, by rw [(he 6 (by omega)).1]; exact (h4 r hr).2⟩, fun t' s' ht' hs' => ?_⟩ he
      rw [hl t' s' ht' hs']
      by_cases e : t' < t
      · rw [if_pos e]
      · rw [if_neg e]
        show dl D t' s' = if t' < dt D ∧ s' < dn D then dl D t' (g s') else false
        rw [if_neg (by omega)]
        exact k6 t' s' (by omega)
    | succ m ih =>
      intro t τ ht he hl
      refine l_Disc_layTracksAnew_3 ?_
      rw [(he 3 (by omega)).1, h2, pk_mul, Nat.mul_comm]
      refine pk_le (dt D) t (fun z => absurd z (by omega)) (fun _ => ⟨⟨nI_pos (by omega), by decide, by decide, ?_, by decide⟩, ?_⟩)
      · rw [nI_clamp (by omega), nI_clamp (by decide)]
        omega
      · rw [nI_clamp (by omega)]
        have M : ∀ m2 s (υ : am_S), s + m2 = dn D → am_eq (fun k => k = 4 ∨ k = 32) σ υ → (∀ i, i < 512 → lbit (υ.2 32 (i / 64)) (i % 64) = dl D t i) → (∀ t' s', t' < 10 → s' < 512 → lit υ 4 t' s' = if t' < t then dl (dLay D g) t' s' else if t' = t ∧ s' < s then dl D t (g s') else dl D t' s') → R_Disc_layTracksAnew d K 34 [.ref 3, .int (nI (g 0)), .int x2, .ref 32, .int (nI t), .int (nI (g s)), .int (nI s)] [] υ := by
          intro m2
          induction m2 with
          | zero =>
            intro s υ hs he2 ho hl2
            refine l_Disc_layTracksAnew_34 ?_
            rw [(he2 3 (by omega)).1, h1]
            refine pk_le (dn D) s (fun _ => ?_) (fun z => absurd z (by omega))
            rw [nI_add]
            refine ih (t + 1) υ (by omega) he2 (fun t' s' ht' hs' => ?_)
            rw [hl2 t' s' ht' hs']
            by_cases e : t' < t
            · rw [if_pos e, if_pos (by omega)]
            · rw [if_neg e]
              by_cases e2 : t' = t
              · subst e2
                rw [if_pos (show t' < t' + 1 by omega)]
                show _ = if t' < dt D ∧ s' < dn D then dl D t' (g s') else false
                by_cases e3 : s' < dn D
                · rw [if_pos (by omega), if_pos (by omega)]
                · rw [if_neg (by omega), if_neg (by omega)]
                  exact k6 t' s' (by omega)
              · rw [if_neg (by omega), if_neg (by omega)]
          | succ m2 ih2 =>
            intro s υ hs he2 ho hl2
            refine l_Disc_layTracksAnew_34 ?_
            rw [(he2 3 (by omega)).1, h1]
            refine pk_le (dn D) s (fun z => absurd z (by omega)) (fun _ => ?_)
            have hgs' := hgl s (by omega)
            refine s_isSet (by omega) (by omega) (by decide) ?_
            rw [Nat.zero_add, ho (g s) (by omega)]
            refine s_setLight (by omega) (by omega) ?_
            rw [sl_1, (he2 3 (by omega)).1, h1]
            refine hgs s _ _ (by omega) ?_
            rw [nI_add]
            refine ih2 (s + 1) _ (by omega) (he2.tr (sl_eq (Or.inl rfl))) (fun i hi => ?_) (fun t' s' ht' hs' => ?_)
            · show lbit ((am_upJ υ 4 _ _).2 32 (i / 64)) (i % 64) = _
              rw [u_Jn _ _ (by omega)]
              exact ho i hi
            · rw [sl_lit (by omega) hs', hl2 t' s' ht' hs']
              by_cases e : t' = t ∧ s' = s
              · obtain ⟨rfl, rfl⟩ := e
                rw [if_pos ⟨rfl, rfl⟩, if_neg (by omega), if_pos (by omega)]
              · rw [if_neg e]
                by_cases e1 : t' < t
                · rw [if_pos e1, if_pos e1]
                · rw [if_neg e1, if_neg e1]
                  by_cases e2 : t' = t ∧ s' < s
                  · rw [if_pos e2, if_pos (by omega)]
                  · rw [if_neg e2, if_neg (by omega)]
        refine M (dn D) 0 _ (by omega) (he.tr (am_eq.cpJ (Or.inr rfl))) (fun i hi => ?_) (fun t' s' ht' hs' => ?_)
        · rw [am_cpJ_row, pk_cpy_in (by omega) (by omega), Nat.sub_zero]
          have := hl t i (by omega) hi
          rw [if_neg (by omega)] at this
          exact this
        · show lit (am_cpJ τ 4 32 (8 * t) 0 8) 4 t' s' = _
          unfold lit
          rw [(am_cpJ_ne τ (show (4 : Nat) ≠ 32 by decide)).2]
          have := hl t' s' ht' hs'
          unfold lit at this
          rw [this]
          by_cases e1 : t' < t
          · rw [if_pos e1, if_pos e1]
          · rw [if_neg e1, if_neg e1, if_neg (by omega)]
  refine L (dt D) 0 σ (by omega) am_eq.rf (fun t' s' ht' hs' => ?_)
  rw [if_neg (by omega)]
  exact h5 t' s' ht' hs'
theorem s_turnBy {D : sp_D} {k : Nat} {σ : am_S} {K : am_S → Prop} (hD : cD σ 3 D) (hok : d_ok D) (hk : k < dn D) (h : ∀ τ, cD τ 3 (dLay D (fun s => (k + s) % dn D)) → am_eq (fun k => k = 4 ∨ k = 32) σ τ → K τ) : w_Disc_turnBy (nI k) σ K := by
  unfold w_Disc_turnBy
  refine s_lay hD hok (g := fun s => (k + s) % dn D) ?_ (fun s _ => Nat.mod_lt _ (by omega)) (fun s τ K hs hK => ?_) h
  · show nI k = nI ((k + 0) % dn D)
    rw [Nat.add_zero, Nat.mod_eq_of_lt hk]
  · have h2 := hok.2.1
    refine s_stepUp (by omega) (Nat.mod_lt _ (by omega)) ?_
    rw [Nat.mod_add_mod]
    exact hK
def dMir (D : sp_D) : sp_D := (dn D, dt D, dr D, fun t s => if t < dt D ∧ s < dn D then dl D t (dn D - 1 - s) else false, dk D, fun r => (dn D - dp D r) % dn D)
theorem dMir_ok {D : sp_D} (h : d_ok D) : d_ok (dMir D) := ⟨h.1, h.2.1, h.2.2.1, h.2.2.2.1, fun r hr => ⟨(h.2.2.2.2.1 r hr).1, Nat.mod_lt _ h.1⟩, fun t s hts => by
  show (if t < dt D ∧ s < dn D then dl D t (dn D - 1 - s) else false) = false
  have hts' : dt D ≤ t ∨ dn D ≤ s := hts
  rw [if_neg (by omega)]⟩
theorem s_mirrorAll {D : sp_D} {σ : am_S} {K : am_S → Prop} (hD : cD σ 3 D) (hok : d_ok D) (h : ∀ τ, cD τ 3 (dMir D) → am_eq (fun k => k = 4 ∨ k = 32 ∨ k = 6) σ τ → K τ) : w_Disc_mirrorAll σ K := by
  refine e_Disc_mirrorAll (fun d => ?_)
  have k1 := hok.1
  have k2 := hok.2.1
  have k4 := hok.2.2.2.1
  have k5 := hok.2.2.2.2.1
  rw [hD.1, pk_sub k1]
  have hg : ∀ s, s < dn D → (2 * dn D - 1 - s) % dn D = dn D - 1 - s := fun s hs => by
    rw [show 2 * dn D - 1 - s = (dn D - 1 - s) + dn D by omega, Nat.add_mod_right]
    exact Nat.mod_eq_of_lt (by omega)
  refine s_lay hD hok (g := fun s => (2 * dn D - 1 - s) % dn D) ?_ (fun s _ => Nat.mod_lt _ k1) (fun s τ K hs hK => ?_) (fun τ hDτ he => ?_)
  · show nI (dn D - 1) = nI ((2 * dn D - 1 - 0) % dn D)
    rw [hg 0 k1]
    rfl
  · rw [hg s hs]
    refine s_stepDown (by omega) (by omega) ?_
    have hK' : K (nI ((2 * dn D - 1 - (s + 1)) % dn D)) τ := hK
    rw [show dn D - 1 - s + dn D - 1 = 2 * dn D - 1 - (s + 1) by omega]
    exact hK'
  · obtain ⟨h1, h2, h3, h4, h5⟩ := hDτ
    have L : ∀ m j (υ : am_S), j + m = dr D → am_eq (fun k => k = 6) τ υ → υ.2 = τ.2 → (∀ r, r < dr D → υ.1 6 r = nI (if r < j then (dn D - dp D r) % dn D else dp D r)) → R_Disc_mirrorAll d K 14 [.ref 3, .null, .int (nI j)] [] υ := by
      intro m
      induction m with
      | zero =>
        intro j υ hj hu hu2 hv
        refine l_Disc_mirrorAll_14 ?_
        rw [(hu 3 (by omega)).1, h3]
        refine pk_le (dr D) j (fun _ => ?_) (fun z => absurd z (by show ¬ j < dr D; omega))
        refine h υ ⟨by rw [(hu 3 (by omega)).1]; exact h1, by rw [(hu 3 (by omega)).1]; exact h2, by rw [(hu 3 (by omega)).1]; exact h3, fun r hr => ⟨by rw [(hu 5 (by omega)).1]; exact (h4 r hr).1, ?_⟩, fun t s ht hs => ?_⟩ ((he.mono (fun k hk => by omega)).tr (hu.mono (fun k hk => by omega)))
        · have hr' : r < dr D := hr
          have := hv r hr'
          rw [if_pos (by omega)] at this
          exact this
        · have h55 := h5 t s ht hs
          have e9 : dl (dLay D (fun s => (2 * dn D - 1 - s) % dn D)) t s = dl (dMir D) t s := by
            show (if t < dt D ∧ s < dn D then dl D t ((2 * dn D - 1 - s) % dn D) else false) = if t < dt D ∧ s < dn D then dl D t (dn D - 1 - s) else false
            by_cases e : t < dt D ∧ s < dn D
            · rw [if_pos e, if_pos e, hg s e.2]
            · rw [if_neg e, if_neg e]
          rw [← e9]
          unfold lit at h55 ⊢
          rw [hu2]
          exact h55
      | succ m ih =>
        intro j υ hj hu hu2 hv
        refine l_Disc_mirrorAll_14 ?_
        have hin : vp_in (nI j) 10 := pk_in j 10 (by omega)
        have hvj := hv j (by omega)
        rw [if_neg (by omega)] at hvj
        have hpj := (k5 j (by omega)).2
        rw [(hu 3 (by omega)).1, h3, h1, nI_clamp (by omega), hvj]
        refine pk_le (dr D) j (fun z => absurd z (by show ¬ dr D ≤ j; omega)) (fun _ => ⟨hin, ?_⟩)
        have fin : ∀ v, v = nI ((dn D - dp D j) % dn D) → R_Disc_mirrorAll d K 14 [.ref 3, .null, .int (nI j + nI 1)] [] (am_upI υ 6 j v) := by
          intro v hv2
          rw [nI_add]
          refine ih (j + 1) _ (by omega) (hu.tr (am_eq.upI rfl)) hu2 (fun r hr => ?_)
          rw [u_I]
          by_cases e : r = j
          · subst e
            rw [if_pos ⟨rfl, rfl⟩, if_pos (by omega), hv2]
          · rw [if_neg (fun z => e z.2), hv r hr]
            by_cases e2 : r < j
            · rw [if_pos e2, if_pos (by omega)]
            · rw [if_neg e2, if_neg (by omega)]
        by_cases e0 : dp D j = 0
        · refine am_ite_f (by rw [e0]; simp) ⟨hin, fin _ ?_⟩
          rw [e0, Nat.sub_zero, Nat.mod_self]
        · refine am_ite_t (nI_ne0 (by omega) (by omega)) ⟨hin, hin, fin _ ?_⟩
          show nI (dn D) - nI (dp D j) = _
          rw [pk_sub (by omega), Nat.mod_eq_of_lt (by omega)]
    refine L (dr D) 0 τ (by omega) am_eq.rf rfl (fun r hr => ?_)
    rw [if_neg (by omega)]
    exact (h4 r hr).2
