theorem q_sm : ∀ k, k < 64 → (((nI k).toInt64 &&& 63).toBitVec.smod 64).toNat = k := by decide +kernel
theorem q_lbit1 {x : Int64} {j : Nat} (hj : j < 64) : ((x >>> ((nI j).toInt64 &&& 63)) &&& 1) = 1 ↔ lbit x j = true := by
  have e : (x >>> ((nI j).toInt64 &&& 63)).toBitVec = x.toBitVec.sshiftRight j := by
    show x.toBitVec.sshiftRight' (((nI j).toInt64 &&& 63).toBitVec.smod 64) = _
    rw [BitVec.sshiftRight', q_sm j hj]
  rw [← Int64.toBitVec_inj, Int64.toBitVec_and, e]
  show x.toBitVec.sshiftRight j &&& 1#64 = 1#64 ↔ _
  constructor
  · intro h
    have t : (x.toBitVec.sshiftRight j &&& 1#64).getLsbD 0 = (1#64).getLsbD 0 := by rw [h]
    rw [BitVec.getLsbD_and, BitVec.getLsbD_sshiftRight, if_pos (show j + 0 < 64 from hj)] at t
    unfold lbit
    simpa using t
  · intro h
    apply BitVec.eq_of_getLsbD_eq
    intro i hi
    unfold lbit at h
    cases i with
    | zero => simp [h, BitVec.getLsbD_sshiftRight, hj]
    | succ i => simp
/-- what the rim tells of a sector -/
def rmW (k : Nat) : Nat := if k = 0 then 8 else if k = 1 then 16 else 64
def rmB (R : Nat × Nat × (Nat → Int64)) (s : Nat) : Bool := decide (s / rmW R.1 < R.2.1) && lbit (R.2.2 (s / rmW R.1)) (s % rmW R.1)
theorem q_ma (a : Nat) (ha : a ≤ 6) {s : Nat} (hs : s < 2 ^ 31) : nI s &&& ((nI 1 <<< (nI a &&& 31)) - nI 1) = nI (s % 2 ^ a) := by
  rw [q_all a (by omega)]
  refine pk_andN (by omega) a ?_
  exact (by decide +kernel : ∀ a, a ≤ 6 → (nI (2 ^ a - 1)).toBitVec.toNat = 2 ^ a - 1) a ha
theorem s_rimLight {R : Nat × Nat × (Nat → Int64)} {s : Nat} {σ : am_S} {K : Int32 → am_S → Prop} (hR : cRim σ (some R)) (hs : s < 512) (h : K (bI (rmB R s)) σ) : w_Rim_isLight (nI s) σ K := by
  obtain ⟨k, m, e⟩ := R
  obtain ⟨r1, r2, r3, r4, r5, r6⟩ := hR
  have r1' : σ.1 1 1 = nI k := r1
  have r3' : σ.1 1 2 = nI m := r3
  have A : ∀ a, a ≤ 6 → rmW k = 2 ^ a → am_ite (nI m ≤ (nI s >>> ((nI a) &&& 31))) (K (nI 0) σ) (vp_in (nI s >>> ((nI a) &&& 31)) 64 ∧ (am_ite ((lg_cmp ((am_lushr (σ.2 2 (Int32.toNatClampNeg (nI s >>> ((nI a) &&& 31)))) (nI s &&& (((nI 1) <<< ((nI a) &&& 31)) - (nI 1)))) &&& (1)) (0)) = (nI 0)) (K (nI 0) σ) (K (nI 1) σ))) := by
    intro a ha hw
    have hp : 2 ^ a ≤ 64 := Nat.pow_le_pow_right (n := 2) (by decide) ha
    have hp0 : 0 < 2 ^ a := Nat.two_pow_pos a
    have hd : s / 2 ^ a ≤ s := Nat.div_le_self _ _
    have hm : s % 2 ^ a < 2 ^ a := Nat.mod_lt _ hp0
    unfold rmB at h
    dsimp only at h
    rw [hw] at h
    rw [q_shr a (by omega) (by omega), q_ma a ha (by omega), nI_clamp (show s / 2 ^ a < 2 ^ 31 by omega)]
    refine pk_le m (s / 2 ^ a) (fun z => ?_) (fun z => ?_)
    · rw [decide_eq_false (by omega), Bool.false_and] at h
      exact h
    · rw [decide_eq_true z, Bool.true_and, ← r6 _ (by omega)] at h
      refine ⟨pk_in (s / 2 ^ a) 64 (by omega), ?_⟩
      cases hb : lbit (σ.2 2 (s / 2 ^ a)) (s % 2 ^ a) with
      | false =>
        rw [hb] at h
        exact am_ite_t (q_cmp0.mpr ((q_lbit0 (by omega)).mpr hb)) h
      | true =>
        rw [hb] at h
        refine am_ite_f (fun z => ?_) h
        have := (q_lbit0 (by omega)).mp (q_cmp0.mp z)
        rw [hb] at this
        cases this
  unfold w_Rim_isLight w_Rim_hasRow
  dsimp only
  rw [r1', r3']
  refine am_ite_f (ne1 (by omega)) ?_
  by_cases e3 : k = 3
  · subst e3
    refine am_ite_t rfl (am_ite_f (by simp) ?_)
    have m0 : m = 0 := r5 rfl
    subst m0
    unfold rmB at h
    dsimp only at h
    rw [decide_eq_false (Nat.not_lt_zero _), Bool.false_and] at h
    exact h
  · refine am_ite_f (fun z => e3 ((nI_eq (by omega) (by decide)).mp z)) (am_ite_t (by decide) ?_)
    by_cases k0 : k = 0
    · subst k0
      exact am_ite_f (by simp) (A 3 (by decide) rfl)
    · refine am_ite_t (fun z => k0 ((nI_eq (by omega) (by decide)).mp z)) ?_
      by_cases k1 : k = 1
      · subst k1
        exact am_ite_f (by simp) (A 4 (by decide) rfl)
      · refine am_ite_t (fun z => k1 ((nI_eq (by omega) (by decide)).mp z)) (A 6 (by decide) ?_)
        unfold rmW
        rw [if_neg k0, if_neg k1]
def dTs (D : sp_D) (R : Nat × Nat × (Nat → Int64)) (j : Nat) : sp_D := (dn D, dt D + 1, dr D, fun t' s' => if t' = dt D ∧ s' < j then rmB R s' else dl D t' s', dk D, dp D)
theorem dTs_ok {D : sp_D} {R : Nat × Nat × (Nat → Int64)} (h : d_ok D) (ht : dt D < 10) : d_ok (dTs D R (dn D)) := ⟨h.1, h.2.1, ht, h.2.2.2.1, fun r hr => ⟨Nat.lt_succ_of_lt (h.2.2.2.2.1 r hr).1, (h.2.2.2.2.1 r hr).2⟩, fun t s hts => by
  show (if t = dt D ∧ s < dn D then rmB R s else dl D t s) = false
  have hts2 : dt D + 1 ≤ t ∨ dn D ≤ s := hts
  rw [if_neg (by omega)]
  exact h.2.2.2.2.2 t s (by omega)⟩
theorem x_track {θ σ : am_S} {K : Int32 → Int32 → am_S → Prop} (hJ : J θ σ) (h : ∀ v τ, J θ τ → K v v τ) : w_WD_track σ (fun r τ => w_Mod_track τ (K r)) := by
  obtain ⟨⟨S, hc, hm⟩, he⟩ := id hJ
  have hR := hc.2.1
  have hM := hm.2.1
  have hok := hc.2.2.1.2
  have hD := hc.2.2.1.1
  have k1 := hok.1
  have k2 := hok.2.1
  have k3 := hok.2.2.1
  have et : σ.1 154 1 = nI (dt (sd S)) := hm.2.2.1.1.1.2.1
  refine e_WD_track (fun d => ?_)
  unfold w_Rim_isThere
  cases hr : sr S with
  | none =>
    rw [hr] at hR hM
    exact am_ite_t hR (am_ite_f (by simp) (e_Mod_track (fun d => am_ite_f (fun z => z hM) (h _ _ (J_no he hc hm)))))
  | some R =>
    obtain ⟨k, m, e⟩ := R
    rw [hr] at hR hM
    obtain ⟨r1, r2, r3, r4, r5, r6⟩ := id hR
    obtain ⟨s1, s2, s3⟩ := id hM
    dsimp only
    rw [r1, hD.2.1]
    refine am_ite_f (ne1 (by omega)) (am_ite_t (by decide) ?_)
    have mk1 : ∀ (τ : am_S), am_eq (fun k => k < 153) σ τ → ¬ τ.1 153 7 = -1 := fun τ e5 => by
      rw [show τ.1 153 7 = nI k by rw [(e5 153 (by decide)).1]; exact s1]
      exact ne1 (by omega)
    refine pk_lt (dt (sd S)) 10 (fun ht => ?_) (fun ht => ?_)
    · refine s_beginChange hc (fun τ hB e1 => ?_)
      have hDb : cD τ 3 (sd S) := hB.2.1.1
      refine s_addDarkTrack hDb ht (fun υ hD2 e2 => ?_)
      have hRb : cRim υ (some (k, m, e)) := by
        have := hB.1
        rw [show sr (sP S ((sd S :: sp S).take 30)) = some (k, m, e) from hr] at this
        exact this.kept e2 (by decide) (by decide)
      have fin : ∀ ω : am_S, cD ω 3 (dTs (sd S) (k, m, e) (dn (sd S))) → am_eq (fun c => c = 4) υ ω → w_Rim_become (-1) (nI 0) ω (fun τ9 => (w_WD_accept (nI (dt (sd S))) τ9 (fun r10 τ10 => w_Mod_track τ10 (K r10)))) := by
        intro ω hDw e3
        refine s_fillJ rfl (by decide) ?_
        have e4 : am_eq (fun k => k = 1 ∨ k = 2) ω (fJ (am_upI (am_upI ω 1 1 (-1)) 1 2 (nI 0)) 2 64 0) := ((am_eq.upI (Or.inl rfl)).tr (am_eq.upI (Or.inl rfl))).tr (fJ_eq (Or.inr rfl))
        have hok2 := dTs_ok (R := (k, m, e)) hok ht
        have hB2 := hB.disc (τ := ω) (D := dTs (sd S) (k, m, e) (dn (sd S))) ((e2.mono (fun k hk => Or.inl (by omega))).tr (e3.mono (fun k hk => Or.inl (by omega)))) hDw hok2
        have hc2 := (hB2.rim (R := none) e4 rfl).end (nI 0)
        have e5 : am_eq (fun k => k < 153) σ (am_upI (fJ (am_upI (am_upI ω 1 1 (-1)) 1 2 (nI 0)) 2 64 0) 0 12 (nI 0)) := (((e1.tr (e2.mono (fun k hk => by omega))).tr (e3.mono (fun k hk => by omega))).tr (e4.mono (fun k hk => by omega))).tr c0_e
        refine e_Mod_track (fun d => am_ite_t (mk1 _ e5) ?_)
        rw [show (am_upI (fJ (am_upI (am_upI ω 1 1 (-1)) 1 2 (nI 0)) 2 64 0) 0 12 (nI 0)).1 154 1 = nI (dt (sd S)) by rw [(e5 154 (by decide)).1]; exact et]
        refine am_ite_t (fun z => absurd ((nI_eq (by omega) (by decide)).mp z) (by omega)) (g_change ((hm.cls e5).fault (nI 0)) (fun τ' hm' e6 => ?_))
        have hDm : mD τ' 0 (sd S) := hm'.2.2.1.1
        have hRm : mRim τ' (some (k, m, e)) := by
          have := hm'.2.1
          rw [show sr (sP (sF S (nI 0)) ((sd (sF S (nI 0)) :: sp (sF S (nI 0))).take 30)) = some (k, m, e) from hr] at this
          exact this
        obtain ⟨m1, m2, m3⟩ := hRm
        rw [show τ'.1 154 1 = nI (dt (sd S)) from hDm.1.2.1]
        have L : ∀ q j (ρ : am_S), j + q = 512 → am_eq (fun c => c = 157) τ' ρ → mL τ' ρ (dl (dTs (sd S) (k, m, e) (min j (dn (sd S))))) → R_Mod_track d (K (nI (dt (sd S)))) 49 [.ref 153, .int (nI (dt (sd S))), .int (nI j), .null] [] ρ := by
          intro q
          induction q with
          | zero =>
            intro j ρ hj e7 hl
            refine l_Mod_track_49 (pk_le 512 j (fun _ => ⟨pk_in 1 96 (by decide), ?_⟩) (fun z => absurd z (by omega)))
            rw [show ρ.1 154 1 = nI (dt (sd S)) by rw [(e7 154 (by decide)).1]; exact hDm.1.2.1, nI_add]
            have e8 : am_eq (fun c => c = 154 ∨ c = 157) τ' (am_upI ρ 154 1 (nI (dt (sd S) + 1))) := (e7.mono (fun c hc => by omega)).tr (am_eq.upI (Or.inl rfl))
            rw [Nat.min_eq_right (by omega)] at hl
            have hm2 := hm'.disc (D := dTs (sd S) (k, m, e) (dn (sd S))) (e8.mono (fun c hc => Or.inl (by omega))) (fEq.of e8 (by decide)) (fun j' hj' => ⟨fun i hi => by rw [u_In _ _ (by omega), (e7 154 (by decide)).1], fun i hi => ⟨by rw [(e8 155 (by decide)).1], by rw [(e8 156 (by decide)).1]⟩, fun x hx => by rw [u_In _ _ (by omega)]; exact hl.2 _ (by omega)⟩) ⟨⟨by rw [u_In _ _ (by omega), (e7 154 (by decide)).1]; exact hDm.1.1, rfl, by rw [u_In _ _ (by omega), (e7 154 (by decide)).1]; exact hDm.1.2.2⟩, fun r hr' => ⟨by rw [(e8 155 (by decide)).1]; exact (hDm.2.1 r hr').1, by rw [(e8 156 (by decide)).1]; exact (hDm.2.1 r hr').2⟩, fun t' s' ht' hs' => by rw [Nat.mul_zero, Nat.zero_add, u_In _ _ (by omega)]; exact hl.1 t' s' ht' hs'⟩ hok2
            have e9 : am_eq (fun c => c = 153 ∨ c = 158) (am_upI ρ 154 1 (nI (dt (sd S) + 1))) (am_upI (am_upI ρ 154 1 (nI (dt (sd S) + 1))) 153 7 (-1)) := am_eq.upI (Or.inl rfl)
            exact h _ _ (J_end he hc2 e5 (hm2.rim (R := none) e9 (fEq.up (Or.inl rfl)) rfl) (((f0_e.tr e6).tr (e8.mono (fun c hc => by omega))).tr (e9.mono (fun c hc => by omega))))
          | succ q ih =>
            intro j ρ hj e7 hl
            have hw : ∀ KK : Int32 → am_S → Prop, KK (nI (rmW k)) ρ → w_Mod_wide ρ KK := by
              intro KK hK
              unfold w_Mod_wide
              rw [(e7 153 (by decide)).1, m1]
              unfold rmW at hK
              by_cases k0 : k = 0
              · rw [if_pos k0] at hK
                subst k0
                exact am_ite_f (by simp) hK
              · rw [if_neg k0] at hK
                refine am_ite_t (fun z => k0 ((nI_eq (by omega) (by decide)).mp z)) ?_
                by_cases k1 : k = 1
                · rw [if_pos k1] at hK
                  subst k1
                  exact am_ite_f (by simp) hK
                · rw [if_neg k1] at hK
                  exact am_ite_t (fun z => k1 ((nI_eq (by omega) (by decide)).mp z)) hK
            have w8 : 8 ≤ rmW k := by unfold rmW; split; omega; split; omega; omega
            have w64 : rmW k ≤ 64 := by unfold rmW; split; omega; split; omega; omega
            have hdv : j / rmW k ≤ j := Nat.div_le_self _ _
            have hdm : j % rmW k < rmW k := Nat.mod_lt _ (by omega)
            have d64 : j / rmW k < 64 := by
              refine Nat.div_lt_of_lt_mul ?_
              have := Nat.mul_le_mul_right 64 w8
              omega
            have go : ∀ b : Bool, (j < dn (sd S) → b = rmB (k, m, e) j) → (dn (sd S) ≤ j → b = false) → vp_in (nI (512 * dt (sd S) + j)) 163840 ∧ R_Mod_track d (K (nI (dt (sd S)))) 49 [.ref 153, .int (nI (dt (sd S))), .int (nI (j + 1)), .null] [] (am_upI ρ 157 (512 * dt (sd S) + j) (bI b)) := by
              intro b hb1 hb2
              refine ⟨pk_in (512 * dt (sd S) + j) 163840 (by omega), ih (j + 1) _ (by omega) (e7.tr (am_eq.upI rfl)) ((hl.up (by omega) (by omega)).congr (fun t' s' ht' hs' => ?_))⟩
              show (if t' = dt (sd S) ∧ s' = j then b else if t' = dt (sd S) ∧ s' < min j (dn (sd S)) then rmB (k, m, e) s' else dl (sd S) t' s') = if t' = dt (sd S) ∧ s' < min (j + 1) (dn (sd S)) then rmB (k, m, e) s' else dl (sd S) t' s'
              by_cases q1 : t' = dt (sd S) ∧ s' = j
              · obtain ⟨rfl, rfl⟩ := q1
                rw [if_pos ⟨rfl, rfl⟩]
                by_cases q2 : s' < dn (sd S)
                · rw [if_pos (by omega)]
                  exact hb1 q2
                · rw [if_neg (by omega), hok.2.2.2.2.2 _ _ (by omega)]
                  exact hb2 (by omega)
              · rw [if_neg q1]
                by_cases q2 : t' = dt (sd S) ∧ s' < min j (dn (sd S))
                · rw [if_pos q2, if_pos (by omega)]
                · rw [if_neg q2, if_neg (by omega)]
            refine l_Mod_track_49 ?_
            rw [pk_mul, nI_add (512 * dt (sd S)) j, nI_clamp (show 512 * dt (sd S) + j < 2 ^ 31 by omega), nI_add j 1]
            refine pk_le 512 j (fun z => absurd z (by omega)) (fun _ => hw _ ⟨nI_ne0 (by omega) (by omega), ?_⟩)
            unfold w_Mod_n
            dsimp only
            rw [show ρ.1 154 0 = nI (dn (sd S)) by rw [(e7 154 (by decide)).1]; exact hDm.1.1, show ρ.1 153 8 = nI m by rw [(e7 153 (by decide)).1]; exact m2, pk_div (by omega) (by omega) (by omega), nI_clamp (show j / rmW k < 2 ^ 31 by omega)]
            refine pk_le (dn (sd S)) j (fun z => go false (fun z2 => absurd z2 (by omega)) (fun _ => rfl)) (fun z => pk_le m (j / rmW k) (fun z2 => go false (fun _ => ?_) (fun _ => rfl)) (fun z2 => ⟨pk_in (j / rmW k) 64 d64, hw _ ⟨nI_ne0 (by omega) (by omega), ?_⟩⟩))
            · unfold rmB
              rw [decide_eq_false (by dsimp only; omega), Bool.false_and]
            · rw [pk_rem (by omega) (by omega) (by omega), show ρ.2 158 (j / rmW k) = e (j / rmW k) by rw [(e7 158 (by decide)).2]; exact m3 _ d64]
              have hb : rmB (k, m, e) j = lbit (e (j / rmW k)) (j % rmW k) := by
                unfold rmB
                rw [decide_eq_true (by dsimp only; omega), Bool.true_and]
              constructor
              · intro q0
                refine go false (fun _ => ?_) (fun _ => rfl)
                rw [hb]
                cases hv : lbit (e (j / rmW k)) (j % rmW k) with
                | false => rfl
                | true => exact absurd ((lg_cmp_eq _ _).mpr ((q_lbit1 (by omega)).mpr hv)) q0
              · intro q0
                refine go true (fun _ => ?_) (fun z3 => absurd z3 (by omega))
                rw [hb]
                exact ((q_lbit1 (by omega)).mp ((lg_cmp_eq _ _).mp (Classical.not_not.mp q0))).symm
        refine L 512 0 τ' (by omega) am_eq.rf ((mL_of hDm).congr (fun t' s' _ _ => ?_))
        show _ = if t' = dt (sd S) ∧ s' < min 0 (dn (sd S)) then rmB (k, m, e) s' else dl (sd S) t' s'
        rw [if_neg (by omega)]
      have L : ∀ q s (ω : am_S), s + q = dn (sd S) → cD ω 3 (dTs (sd S) (k, m, e) s) → am_eq (fun c => c = 4) υ ω → R_WD_track d (fun r τ => w_Mod_track τ (K r)) 48 [.ref 0, .int (nI (dt (sd S))), .int (nI s)] [] ω := by
        intro q
        induction q with
        | zero =>
          intro s ω hs hDw e3
          refine l_WD_track_48 ?_
          rw [hDw.1]
          refine pk_le (dn (sd S)) s (fun _ => ?_) (fun z => absurd z (by omega))
          have : s = dn (sd S) := by omega
          subst this
          exact fin ω hDw e3
        | succ q ih =>
          intro s ω hs hDw e3
          refine l_WD_track_48 ?_
          rw [hDw.1]
          refine pk_le (dn (sd S)) s (fun z => absurd z (by omega)) (fun _ => s_rimLight (hRb.kept e3 (by decide) (by decide)) (by omega) (s_setLight (by omega) (by omega) ?_))
          rw [nI_add]
          refine ih (s + 1) _ (by omega) ⟨hDw.1, hDw.2.1, hDw.2.2.1, hDw.2.2.2.1, fun t' s' ht' hs' => ?_⟩ (e3.tr (sl_eq rfl))
          rw [sl_lit (by omega) hs', hDw.2.2.2.2 t' s' ht' hs']
          show (if t' = dt (sd S) ∧ s' = s then rmB (k, m, e) s else if t' = dt (sd S) ∧ s' < s then rmB (k, m, e) s' else dl (sd S) t' s') = if t' = dt (sd S) ∧ s' < s + 1 then rmB (k, m, e) s' else dl (sd S) t' s'
          by_cases q1 : t' = dt (sd S) ∧ s' = s
          · rw [if_pos q1, if_pos (by omega), q1.2]
          · rw [if_neg q1]
            by_cases q2 : t' = dt (sd S) ∧ s' < s
            · rw [if_pos q2, if_pos (by omega)]
            · rw [if_neg q2, if_neg (by omega)]
      refine L (dn (sd S)) 0 υ (by omega) ⟨hD2.1, hD2.2.1, hD2.2.2.1, hD2.2.2.2.1, fun t' s' ht' hs' => ?_⟩ am_eq.rf
      rw [hD2.2.2.2.2 t' s' ht' hs']
      show dl (sd S) t' s' = if t' = dt (sd S) ∧ s' < 0 then rmB (k, m, e) s' else dl (sd S) t' s'
      rw [if_neg (by omega)]
    · refine e_Mod_track (fun d => am_ite_t (mk1 _ c0_e) ?_)
      rw [show (am_upI σ 0 12 (nI 4)).1 154 1 = nI (dt (sd S)) from et]
      exact am_ite_f (by rw [show dt (sd S) = 10 by omega]; simp) (h _ _ (J_no he hc hm))
