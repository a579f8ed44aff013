/-! SINGLE, GO -/
theorem x_go {x : Int32} {θ σ : am_S} {K : Int32 → Int32 → am_S → Prop} (hJ : J θ σ) (h : ∀ v τ, J θ τ → K v v τ) : w_WD_go x σ (fun r τ => w_Mod_go x τ (K r)) := by
  obtain ⟨⟨S, hc, hm⟩, he⟩ := hJ
  have hno : ∀ f, K (-1) (-1) (am_upI (am_upI (am_upI σ 0 12 f) 153 18 (nI 0)) 153 18 f) := fun f => h (-1) _ (J_no (f := f) he hc hm)
  have hcq := hc.2.2.2.2.2.2.2.2.2
  have hmq := hm.2.2.2.2.2.2.2
  refine ⟨fun z1 => am_ite_f (fun z => z rfl) ?_, fun z1 => ⟨fun z2 => am_ite_f (fun z => z rfl) ?_, fun z2 => am_ite_t (by decide) ?_⟩⟩
  · show w_Mod_go x (am_upI σ 0 12 (nI 1)) (K (-1))
    exact am_ite_t z1 (hno _)
  · show w_Mod_go x (am_upI σ 0 12 (nI 1)) (K (-1))
    exact am_ite_f z1 (am_ite_f (Int32.not_le.mpr z2) (hno _))
  · obtain ⟨st, _, hst, rfl⟩ := i_of (a := 0) (b := 2000000) (by decide) z1 (Int32.not_lt.mp z2)
    have z2' := Int32.not_lt.mp z2
    obtain ⟨q, hq⟩ : ∃ q, (sq S).2 = q := ⟨_, rfl⟩
    cases ho : (sq S).1 with
    | none =>
      have hs : sq S = (none, q) := Prod.ext ho hq
      rw [hs] at hcq hmq
      have e8 : σ.1 21 8 = nI 0 := hcq.2.2
      have e14 : σ.1 153 14 = nI 0 := hmq.2
      rw [e8]
      refine am_ite_f (fun z => z rfl) ?_
      show w_Mod_go (nI st) (am_upI σ 0 12 (nI 2)) (K (-1))
      refine am_ite_f z1 (am_ite_t z2' ?_)
      rw [show (am_upI σ 0 12 (nI 2)).1 153 14 = nI 0 from e14]
      exact am_ite_f (fun z => z rfl) (hno _)
    | some p =>
      obtain ⟨n, r, a⟩ := p
      have hs : sq S = (some (n, r, a), q) := Prod.ext ho hq
      rw [hs] at hcq hmq
      have e8 : σ.1 21 8 = nI 1 := hcq.2.2.1
      have e7 : σ.1 21 7 = nI q := hcq.1
      have hq4 : q ≤ 4000000 := hcq.2.1
      have e14 : σ.1 153 14 = nI n := hmq.2.1
      have e17 : σ.1 153 17 = nI q := hmq.1
      have bn : 2 ≤ n ∧ n ≤ 20 := ⟨hcq.2.2.2.2.2.2.2.2.1.1, hcq.2.2.2.2.2.2.2.2.1.2.1⟩
      rw [e8]
      refine am_ite_t (by decide) ?_
      unfold w_Search_affords
      rw [e7, pk_sub hq4]
      refine pk_lt (4000000 - q) st (fun z => am_ite_f (fun z => z rfl) ?_) (fun z => am_ite_t (by decide) ?_)
      · show w_Mod_go (nI st) (am_upI σ 0 12 (nI 4)) (K (-1))
        refine am_ite_f z1 (am_ite_t z2' ?_)
        rw [show (am_upI σ 0 12 (nI 4)).1 153 14 = nI n from e14, show (am_upI σ 0 12 (nI 4)).1 153 17 = nI q from e17, nI_add]
        exact am_ite_t (nI_ne0 (by omega) (by omega)) (pk_le (q + st) 4000000 (fun y => absurd y (by omega)) (fun _ => hno _))
      · refine g_search (W := fun τ K' => w_Mod_go (nI st) τ K') hc hs hst (by omega) he (fun τ K' e3 hK => ?_) h
        have e14' : τ.1 153 14 = nI n := by rw [(e3 153 (by decide)).1]; exact e14
        have e17' : τ.1 153 17 = nI q := by rw [(e3 153 (by decide)).1]; exact e17
        refine am_ite_f z1 (am_ite_t z2' ?_)
        rw [e14', e17', nI_add]
        exact am_ite_t (nI_ne0 (by omega) (by omega)) (pk_le (q + st) 4000000 (fun _ => hK _ ((hm.cls e3).fault (nI 0)) f0_e) (fun y => absurd y (by omega)))
theorem s_fits {n r : Nat} {σ : am_S} {K : Int32 → am_S → Prop} (b1 : 2 ≤ n) (b2 : n ≤ 20) (b3 : 2 ≤ r) (b4 : r ≤ 5) (b5 : n % r = 0) (h : K (nI 1) σ) : w_Search_fits (nI n) (nI r) σ K := by
  unfold w_Search_fits
  refine pk_lt n 2 (fun z => absurd z (by omega)) (fun _ => pk_lt 20 n (fun z => absurd z (by omega)) (fun _ => pk_lt r 2 (fun z => absurd z (by omega)) (fun _ => pk_lt 5 r (fun z => absurd z (by omega)) (fun _ => ⟨nI_ne0 (by omega) (by omega), ?_⟩))))
  rw [pk_rem (by omega) (by omega) (by omega), b5]
  exact am_ite_f (fun z => z rfl) h
theorem x_single {x y s : Int32} {θ σ : am_S} {K : Int32 → Int32 → am_S → Prop} (hJ : J θ σ) (h : ∀ v τ, J θ τ → K v v τ) : w_WD_single x y s σ (fun r τ => w_Mod_single x y s τ (K r)) := by
  obtain ⟨⟨S, hc, hm⟩, he⟩ := hJ
  have hno : ∀ f, K (-1) (-1) (am_upI (am_upI (am_upI σ 0 12 f) 153 18 (nI 0)) 153 18 f) := fun f => h (-1) _ (J_no (f := f) he hc hm)
  have hcq := hc.2.2.2.2.2.2.2.2.2
  have hmq := hm.2.2.2.2.2.2.2
  obtain ⟨q, hq⟩ : ∃ q, (sq S).2 = q := ⟨_, rfl⟩
  have e7 : σ.1 21 7 = nI q := by rw [← hq]; exact hcq.1
  have hq4 : q ≤ 4000000 := by rw [← hq]; exact hcq.2.1
  have e17 : σ.1 153 17 = nI q := by rw [← hq]; exact hmq.1
  refine ⟨fun z1 => am_ite_t rfl ?_, fun z1 => ⟨fun z2 => am_ite_t rfl ?_, fun z2 => ⟨fun z3 => am_ite_t rfl ?_, fun z3 => ⟨fun z4 => am_ite_t rfl ?_, fun z4 => ?_⟩⟩⟩⟩
  · exact am_ite_t z1 (hno _)
  · exact am_ite_f z1 (am_ite_t z2 (hno _))
  · exact am_ite_f z1 (am_ite_f z2 (am_ite_t z3 (hno _)))
  · exact am_ite_f z1 (am_ite_f z2 (am_ite_f z3 (am_ite_t z4 (hno _))))
  · obtain ⟨n, b1, b2, rfl⟩ := i_of (by decide) z1 (Int32.not_lt.mp z2)
    obtain ⟨r, b3, b4, rfl⟩ := i_of (by decide) z3 (Int32.not_lt.mp z4)
    have r0 : ¬ nI r = nI 0 := nI_ne0 (by omega) (by omega)
    refine ⟨r0, fun z5 => am_ite_t rfl ?_, fun z5 => am_ite_f (by decide) ⟨fun z6 => am_ite_f (fun z => z rfl) ?_, fun z6 => ⟨fun z7 => am_ite_f (fun z => z rfl) ?_, fun z7 => am_ite_t (by decide) ?_⟩⟩⟩
    · exact am_ite_f z1 (am_ite_f z2 (am_ite_f z3 (am_ite_f z4 ⟨r0, am_ite_t z5 (hno _)⟩)))
    · exact am_ite_f z1 (am_ite_f z2 (am_ite_f z3 (am_ite_f z4 ⟨r0, am_ite_f z5 (am_ite_t z6 (hno _))⟩)))
    · exact am_ite_f z1 (am_ite_f z2 (am_ite_f z3 (am_ite_f z4 ⟨r0, am_ite_f z5 (am_ite_f z6 (am_ite_f (Int32.not_le.mpr z7) (hno _)))⟩)))
    · have z7' := Int32.not_lt.mp z7
      obtain ⟨st, _, hst, rfl⟩ := i_of (a := 0) (b := 2000000) (by decide) z6 z7'
      have b5 : n % r = 0 := by
        have z5' := Classical.not_not.mp z5
        rw [pk_rem (by omega) (by omega) (by omega)] at z5'
        have : n % r ≤ n := Nat.mod_le _ _
        exact (nI_eq (by omega) (by omega)).mp z5'
      unfold w_Search_affords
      rw [e7, pk_sub hq4]
      refine pk_lt (4000000 - q) st (fun z => am_ite_f (fun z => z rfl) ?_) (fun z => am_ite_t (by decide) ?_)
      · refine am_ite_f z1 (am_ite_f z2 (am_ite_f z3 (am_ite_f z4 ⟨r0, am_ite_f z5 (am_ite_f z6 (am_ite_t z7' ?_))⟩)))
        rw [show (am_upI σ 0 12 (nI 4)).1 153 17 = nI q from e17, nI_add]
        exact pk_le (q + st) 4000000 (fun y => absurd y (by omega)) (fun _ => hno _)
      · unfold w_Search_begin
        refine s_fits b1 b2 b3 b4 b5 (am_ite_t (by decide) ⟨r0, ?_⟩)
        rw [pk_div (by omega) (by omega) (by omega), q_1shl n (by omega)]
        generalize hρ : am_upI (am_upI (am_upI (am_upI (am_upI (am_upI (am_upI σ 21 0 (nI n)) 21 1 (nI r)) 21 2 (nI (n / r))) 21 3 (nI (2 ^ n))) 21 4 (nI 0)) 21 5 (nI 0)) 21 8 (nI 1) = ρ
        have eρ : am_eq (fun k => k = 21) σ ρ := by
          rw [← hρ]
          have u : ∀ (τ : am_S) i v, am_eq (fun k => k = 21) σ τ → am_eq (fun k => k = 21) σ (am_upI τ 21 i v) := fun τ i v e => e.tr (am_eq.upI rfl)
          exact u _ _ _ (u _ _ _ (u _ _ _ (u _ _ _ (u _ _ _ (u _ _ _ (u _ _ _ am_eq.rf))))))
        have hqρ : cQs ρ (some (n, r, 0), q) := by
          rw [← hρ]
          exact ⟨e7, hq4, rfl, rfl, rfl, rfl, rfl, rfl, ⟨b1, b2, b3, b4, b5, Nat.zero_le _⟩, 0, rfl, Nat.zero_le _, Nat.le_refl _, fun _ k _ => Nat.zero_le _, fun y _ y2 => absurd y2 (Nat.not_lt_zero y)⟩
        have hc1 := hc.qs eρ hqρ
        refine g_search (S := sQ S (some (n, r, 0), q)) (W := fun τ K' => w_Mod_single (nI n) (nI r) (nI st) τ K') hc1 rfl hst (by omega) (he.tr (eρ.mono (fun k hk => by omega))) (fun τ K' e3 hK => ?_) h
        have e3' : am_eq (fun k => k < 153) σ τ := (eρ.mono (fun k hk => by omega)).tr e3
        have e17' : τ.1 153 17 = nI q := by rw [(e3' 153 (by decide)).1]; exact e17
        refine am_ite_f z1 (am_ite_f z2 (am_ite_f z3 (am_ite_f z4 ⟨r0, am_ite_f z5 (am_ite_f z6 (am_ite_t z7' ?_))⟩)))
        rw [e17', nI_add]
        refine pk_le (q + st) 4000000 (fun _ => hK _ ?_ ?_) (fun y => absurd y (by omega))
        · have hm1 := (hm.cls e3').fault (nI 0)
          refine hm1.qs (q := (some (n, r, 0), q)) ?_ ?_ ⟨?_, rfl, rfl, rfl⟩
          · exact ((am_eq.upI (Or.inl rfl)).tr (am_eq.upI (Or.inl rfl))).tr (am_eq.upI (Or.inl rfl))
          · exact ((fEq.up (by decide)).tr (fEq.up (by decide))).tr (fEq.up (by decide))
          · exact e17'
        · exact ((f0_e.tr (am_eq.upI (by decide))).tr (am_eq.upI (by decide))).tr (am_eq.upI (by decide))
