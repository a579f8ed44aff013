/-! THE REFERENCE FOLLOWS A DRIVE -/
theorem q_m1lt {k j : Nat} (hk : k < 2 ^ 30) (hj : j < 2 ^ 30) : nI k - nI 1 < nI j ↔ k ≤ j := by
  rw [Int32.lt_iff_toInt_lt, pk_sub_toInt hk (by decide), nI_toInt (by omega)]
  omega
def mF (σ : am_S) (W : Nat → Nat) (n : Nat) (w : Nat → Int32) (k : Nat) : Prop := σ.1 153 30 = slT (fun j => ctB (rcB W n w j) n) k ∧ ∀ j, j + 1 = k → ∀ s, s < n → σ.1 165 s = bI (rcB W n w j s)
def ctF (W : Nat → Nat) (n : Nat) (w : Nat → Int32) : Nat → Nat
  | 0 => 0
  | k + 1 => ctB (rcB W n w k) n
def fwC (c : Nat) : Prop := c = 153 ∨ c = 161 ∨ c = 165 ∨ c = 166
theorem m_follow {D : sp_D} {k m : Nat} {w : Nat → Int32} {x : Int32} {σ : am_S} {K : Int32 → am_S → Prop} (hx : x = nI k - nI 1) (hD : mD σ 0 D) (hok : d_ok D) (hv : mDv σ (m, w)) (hm5 : m ≤ 2000) (hk : k ≤ m) (h : ∀ τ, mF τ (wdD D) (dn D) w k → mW τ (dn D) (wdD D) → am_eq fwC σ τ → fEq (fun i => i = 30) σ τ → K (nI (ctF (wdD D) (dn D) w k)) τ) : w_Mod_follow x σ K := by
  subst hx
  obtain ⟨k1, k2, k3, k4, k5, k6⟩ := id hok
  generalize hWe : wdD D = W at h
  generalize hne : dn D = n at *
  have hv2 : ∀ j, j < m → σ.1 159 j = w j := hv.2
  refine e_Mod_follow (fun d => s_read hD hok (fun τ0 hW0 e0 => ?_))
  rw [hne, hWe] at hW0
  have hn : ∀ (τ : am_S), am_eq fwC σ τ → τ.1 154 0 = nI n := fun τ e => by
    rw [(e 154 (by unfold fwC; omega)).1, ← hne]
    exact hD.1.1
  have L : ∀ q j (τ : am_S), j + q = k → mF τ W n w j → mW τ n W → am_eq fwC σ τ → fEq (fun i => i = 30) σ τ → R_Mod_follow d K 13 [.ref 153, .int (nI k - nI 1), .int (nI (ctF W n w j)), .int (nI j), .null, .null] [] τ := by
    intro q
    induction q with
    | zero =>
      intro j τ hj hF hW he hf
      have : j = k := by omega
      subst this
      exact l_Mod_follow_13 (am_ite_t ((q_m1lt (by omega) (by omega)).mpr (Nat.le_refl _)) (h τ hF hW he hf))
    | succ q ih =>
      intro j τ hj hF hW he hf
      refine l_Mod_follow_13 (am_ite_f (fun z => ?_) ?_)
      · have := (q_m1lt (by omega) (by omega)).mp z
        omega
      have eC : ∀ {υ : am_S}, am_eq (fun c => c = 166) τ υ → am_eq fwC σ υ := fun e => he.tr (e.mono (fun c hc => Or.inr (Or.inr (Or.inr hc))))
      have C : ∀ q2 s (υ : am_S), s + q2 = n → am_eq fwC σ υ → fEq (fun i => i = 30) σ υ → mW υ n W → υ.1 153 30 = slT (fun j => ctB (rcB W n w j) n) j → (∀ s', s' < n → υ.1 166 s' = bI (rcB W n w j s')) → (∀ s', s' < s → υ.1 165 s' = bI (rcB W n w j s')) → R_Mod_follow d K 152 [.ref 153, .int (nI k - nI 1), .int (nI (ctB (rcB W n w j) n)), .int (nI j), .int (nI s), .null] [] υ := by
        intro q2
        induction q2 with
        | zero =>
          intro s υ hs he2 hf2 hW2 hsl ht hnw
          refine l_Mod_follow_152 ?_
          unfold w_Mod_n
          dsimp only
          rw [hn υ he2, hsl, nI_add j 1]
          refine pk_le n s (fun _ => ?_) (fun z => absurd z (by omega))
          have hct := ctB_le (rcB W n w j) n
          have stay : slT (fun j => ctB (rcB W n w j) n) (j + 1) = slT (fun j => ctB (rcB W n w j) n) j → R_Mod_follow d K 13 [.ref 153, .int (nI k - nI 1), .int (nI (ctB (rcB W n w j) n)), .int (nI (j + 1)), .null, .null] [] υ := fun e => by
            refine ih (j + 1) υ (by omega) ⟨hsl.trans e.symm, fun j' hj' s' hs' => ?_⟩ hW2 he2 hf2
            have : j' = j := by omega
            subst this
            exact hnw s' (by omega)
          constructor
          · intro z
            refine stay ?_
            show (if _ ∧ _ then _ else _) = _
            rw [if_neg]
            rintro ⟨_, e2⟩
            have e3 : ctB (rcB W n w j) n = 0 := e2
            rw [e3] at z
            exact z rfl
          · intro z
            have z0 : ctB (rcB W n w j) n = 0 := (nI_eq (by omega) (by decide)).mp (Classical.not_not.mp z)
            constructor
            · intro z2
              refine stay ?_
              show (if _ ∧ _ then _ else _) = _
              rw [if_neg (fun e => z2 e.1)]
            · intro z2
              refine ih (j + 1) _ (by omega) ⟨?_, fun j' hj' s' hs' => ?_⟩ (fun s' hs' => by rw [u_In _ _ (by omega)]; exact hW2 s' hs') (he2.tr (am_eq.upI (Or.inl rfl))) (hf2.tr (fEq.up rfl))
              · rw [u_Is]
                show _ = if _ ∧ _ then _ else _
                rw [if_pos ⟨Classical.not_not.mp z2, z0⟩]
              · have : j' = j := by omega
                subst this
                rw [u_In _ _ (by omega)]
                exact hnw s' (by omega)
        | succ q2 ih2 =>
          intro s υ hs he2 hf2 hW2 hsl ht hnw
          refine l_Mod_follow_152 ?_
          unfold w_Mod_n
          dsimp only
          rw [hn υ he2, nI_clamp (by omega), ht s (by omega), nI_add s 1]
          refine pk_le n s (fun z => absurd z (by omega)) (fun _ => ⟨pk_in s 512 (by omega), pk_in s 512 (by omega), bI_01 _, ih2 (s + 1) _ (by omega) (he2.tr (am_eq.upI (Or.inr (Or.inr (Or.inl rfl))))) (hf2.tr (fEq.of (P := fun c => c = 165) (am_eq.upI rfl) (by decide))) (fun s' hs' => by rw [u_In _ _ (by omega)]; exact hW2 s' hs') hsl (fun s' hs' => by rw [u_In _ _ (by omega)]; exact ht s' hs') (fun s' hs' => ?_)⟩)
          rw [u_I]
          by_cases e : s' = s
          · rw [if_pos ⟨rfl, e⟩, e]
          · rw [if_neg (fun z => e z.2)]
            exact hnw s' (by omega)
      have M : ∀ q2 s (υ : am_S), s + q2 = n → am_eq (fun c => c = 166) τ υ → (∀ s', s' < s → υ.1 166 s' = bI (rcB W n w j s')) → R_Mod_follow d K 23 [.ref 153, .int (nI k - nI 1), .int (nI (ctB (rcB W n w j) s)), .int (nI j), .int (nI s), .null] [] υ := by
        intro q2
        induction q2 with
        | zero =>
          intro s υ hs he2 ht
          have : s = n := by omega
          subst this
          refine l_Mod_follow_23 ?_
          unfold w_Mod_n
          dsimp only
          rw [hn υ (eC he2)]
          refine pk_le s s (fun _ => ?_) (fun z => absurd z (by omega))
          exact C s 0 υ (by omega) (eC he2) (hf.tr (fEq.of he2 (by decide))) (fun s' hs' => by rw [(he2 161 (by decide)).1]; exact hW s' hs') (by rw [(he2 153 (by decide)).1]; exact hF.1) ht (fun s' hs' => absurd hs' (Nat.not_lt_zero s'))
        | succ q2 ih2 =>
          intro s υ hs he2 ht
          have hup : (s + 1) % n < n := Nat.mod_lt _ (by omega)
          have hdn : (s + n - 1) % n < n := Nat.mod_lt _ (by omega)
          have e161 : υ.1 161 s = nI (W s) := by rw [(he2 161 (by decide)).1]; exact hW s (by omega)
          have e159 : υ.1 159 j = w j := by rw [(he2 159 (by decide)).1, (he 159 (by unfold fwC; omega)).1]; exact hv2 j (by omega)
          have iv : vp_in (nI s) 512 := pk_in s 512 (by omega)
          have jv : vp_in (nI j) 2000 := pk_in j 2000 (by omega)
          have F : ∀ b : Bool, b = rcB W n w j s → (vp_in (nI s) 512 ∧ (vp_in (nI s) 512 ∧ (am_ite (((am_upI υ 166 s (bI b)).1 166 s) = (nI 0)) (R_Mod_follow d K 23 [.ref 153, .int (nI k - nI 1), .int (nI (ctB (rcB W n w j) s) + (nI 0)), .int (nI j), .int (nI (s + 1)), .null] [] (am_upI υ 166 s (bI b))) (R_Mod_follow d K 23 [.ref 153, .int (nI k - nI 1), .int (nI (ctB (rcB W n w j) s) + (nI 1)), .int (nI j), .int (nI (s + 1)), .null] [] (am_upI υ 166 s (bI b)))))) := by
            intro b hb
            refine ⟨iv, iv, ?_⟩
            rw [u_Is, nI_add, nI_add]
            have ih' := ih2 (s + 1) (am_upI υ 166 s (bI b)) (by omega) (he2.tr (am_eq.upI rfl)) (fun s' hs' => by
              rw [u_I]
              by_cases e : s' = s
              · rw [if_pos ⟨rfl, e⟩, e, hb]
              · rw [if_neg (fun z => e z.2)]
                exact ht s' (by omega))
            have ec : ctB (rcB W n w j) (s + 1) = ctB (rcB W n w j) s + (rcB W n w j s).toNat := rfl
            rw [ec, ← hb] at ih'
            cases b with
            | false => exact am_ite_t rfl ih'
            | true => exact am_ite_f (by decide) ih'
          have E : (nI (W s) = w j → rcB W n w j s = true) → (vp_in (nI s) 512 ∧ (vp_in (nI j) 2000 ∧ (am_ite (¬ nI (W s) = w j) (vp_in (nI s) 512 ∧ (vp_in (nI s) 512 ∧ (am_ite (((am_upI υ 166 s (nI 0)).1 166 s) = (nI 0)) (R_Mod_follow d K 23 [.ref 153, .int (nI k - nI 1), .int (nI (ctB (rcB W n w j) s) + (nI 0)), .int (nI j), .int (nI (s + 1)), .null] [] (am_upI υ 166 s (nI 0))) (R_Mod_follow d K 23 [.ref 153, .int (nI k - nI 1), .int (nI (ctB (rcB W n w j) s) + (nI 1)), .int (nI j), .int (nI (s + 1)), .null] [] (am_upI υ 166 s (nI 0)))))) (vp_in (nI s) 512 ∧ (vp_in (nI s) 512 ∧ (am_ite (((am_upI υ 166 s (nI 1)).1 166 s) = (nI 0)) (R_Mod_follow d K 23 [.ref 153, .int (nI k - nI 1), .int (nI (ctB (rcB W n w j) s) + (nI 0)), .int (nI j), .int (nI (s + 1)), .null] [] (am_upI υ 166 s (nI 1))) (R_Mod_follow d K 23 [.ref 153, .int (nI k - nI 1), .int (nI (ctB (rcB W n w j) s) + (nI 1)), .int (nI j), .int (nI (s + 1)), .null] [] (am_upI υ 166 s (nI 1))))))))) := by
            intro hE
            refine ⟨iv, jv, fun z => F false ?_, fun z => F true (hE (Classical.not_not.mp z)).symm⟩
            cases j with
            | zero => exact (decide_eq_false z).symm
            | succ j =>
              unfold rcB
              rw [decide_eq_false z, Bool.false_and]
          refine l_Mod_follow_23 ?_
          unfold w_Mod_n
          dsimp only
          rw [hn υ (eC he2), nI_add s 1, nI_add s n, pk_sub (show 1 ≤ s + n by omega), pk_rem (by omega) (by omega) (by omega), pk_rem (by omega) (by omega) (by omega), nI_clamp (show s < 2 ^ 31 by omega), nI_clamp (show j < 2 ^ 31 by omega), nI_clamp (show (s + 1) % n < 2 ^ 31 by omega), nI_clamp (show (s + n - 1) % n < 2 ^ 31 by omega), e161, e159]
          refine pk_le n s (fun z => absurd z (by omega)) (fun _ => pk_eq j 0 (fun e => E (fun q => ?_)) (fun e => ?_))
          · subst e
            exact decide_eq_true q
          · obtain ⟨i, rfl⟩ : ∃ i, j = i + 1 := ⟨j - 1, by omega⟩
            have hP : ∀ s', s' < n → υ.1 165 s' = bI (rcB W n w i s') := fun s' hs' => by
              rw [(he2 165 (by decide)).1]
              exact hF.2 i rfl s' hs'
            have n0 : ¬ nI n = nI 0 := nI_ne0 (by omega) (by omega)
            rw [hP s (by omega), hP _ hup, hP _ hdn]
            have er : rcB W n w (i + 1) s = (decide (nI (W s) = w (i + 1)) && (rcB W n w i s || (rcB W n w i ((s + n - 1) % n) || rcB W n w i ((s + 1) % n)))) := rfl
            cases h1 : rcB W n w i s with
            | true =>
              refine ⟨iv, am_ite_t (by decide) (E (fun q => ?_))⟩
              rw [er, h1, decide_eq_true q, Bool.true_or, Bool.and_self]
            | false =>
              refine ⟨iv, am_ite_f (fun z => z rfl) ⟨n0, pk_in ((s + 1) % n) 512 (by omega), ?_⟩⟩
              cases h2 : rcB W n w i ((s + 1) % n) with
              | true =>
                refine am_ite_t (by decide) (E (fun q => ?_))
                rw [er, h2, decide_eq_true q, Bool.or_true, Bool.or_true, Bool.and_self]
              | false =>
                refine am_ite_f (fun z => z rfl) ⟨n0, pk_in ((s + n - 1) % n) 512 (by omega), ?_⟩
                cases h3 : rcB W n w i ((s + n - 1) % n) with
                | true =>
                  refine am_ite_f (by decide) (E (fun q => ?_))
                  rw [er, h3, decide_eq_true q, Bool.true_or, Bool.or_true, Bool.and_self]
                | false =>
                  refine am_ite_t rfl (F false ?_)
                  rw [er, h1, h2, h3, Bool.or_false, Bool.or_false, Bool.and_false]
      exact M n 0 τ (by omega) am_eq.rf (fun s' hs' => absurd hs' (Nat.not_lt_zero s'))
  refine L k 0 _ (by omega) ⟨u_Is _ _ _ _, fun j hj => by omega⟩ (fun s' hs' => by rw [u_In _ _ (by omega)]; exact hW0 s' hs') ((e0.mono (fun c hc => Or.inr (Or.inl hc))).tr (am_eq.upI (Or.inl rfl))) ((fEq.of e0 (by decide)).tr (fEq.up rfl))
theorem lsT_found (P : Nat → Bool) : ∀ n s, s < n → n < 2 ^ 31 → P s = true → (∀ s', s' < s → P s' = false) → lsT P n = nI s := by
  intro n
  induction n with
  | zero => intro s hs; omega
  | succ n ih =>
    intro s hs hn hP hall
    have A : ∀ m, m ≤ s → lsT P m = -1 := by
      intro m
      induction m with
      | zero => intro _; rfl
      | succ m ihm =>
        intro hm
        unfold lsT
        rw [ihm (by omega), if_neg (fun z => by rw [hall m (by omega)] at z; exact absurd z.2 (by decide))]
    unfold lsT
    by_cases e : s = n
    · subst e
      rw [if_pos ⟨A s (Nat.le_refl _), hP⟩]
    · rw [ih s (by omega) (by omega) hP hall, if_neg (fun z => ne1 (by omega) z.1)]
theorem lsT_none (P : Nat → Bool) : ∀ n, (∀ s', s' < n → P s' = false) → lsT P n = -1 := by
  intro n
  induction n with
  | zero => intro _; rfl
  | succ n ih =>
    intro hall
    unfold lsT
    rw [ih (fun s' hs' => hall s' (by omega)), if_neg (fun z => by rw [hall n (by omega)] at z; exact absurd z.2 (by decide))]
theorem m_leastStand {D : sp_D} {P : Nat → Bool} {σ : am_S} {K : Int32 → am_S → Prop} (hD : mD σ 0 D) (hok : d_ok D) (hP : ∀ s, s < dn D → σ.1 165 s = bI (P s)) (h : K (lsT P (dn D)) σ) : w_Mod_leastStand σ K := by
  have k2 := hok.2.1
  refine e_Mod_leastStand (fun d => ?_)
  have L : ∀ q s, s + q = dn D → (∀ s', s' < s → P s' = false) → R_Mod_leastStand d K 2 [.ref 153, .int (nI s)] [] σ := by
    intro q
    induction q with
    | zero =>
      intro s hs hall
      refine l_Mod_leastStand_2 (m_n hD (pk_le (dn D) s (fun _ => ?_) (fun z => absurd z (by omega))))
      rw [lsT_none P (dn D) (fun s' hs' => hall s' (by omega))] at h
      exact h
    | succ q ih =>
      intro s hs hall
      refine l_Mod_leastStand_2 (m_n hD (pk_le (dn D) s (fun z => absurd z (by omega)) (fun _ => ⟨pk_in s 512 (by omega), ?_⟩)))
      rw [nI_clamp (by omega), hP s (by omega), nI_add]
      cases hb : P s with
      | true =>
        rw [lsT_found P (dn D) s (by omega) (by omega) hb hall] at h
        exact am_ite_f (by decide) h
      | false =>
        refine am_ite_t rfl (ih (s + 1) (by omega) (fun s' hs' => ?_))
        by_cases e : s' = s
        · rw [e, hb]
        · exact hall s' (by omega)
  exact L (dn D) 0 (by omega) (fun s' hs' => absurd hs' (Nat.not_lt_zero s'))
