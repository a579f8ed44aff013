/-- what reader rd sees at stand s -/
def sb (D : sp_D) (rd s : Nat) : Bool := dl D (dk D rd) ((s + dp D rd) % dn D)
theorem tb_2 (x : Nat) (b : Bool) (i : Nat) : (2 * x + b.toNat).testBit i = if i = 0 then b else x.testBit (i - 1) := by
  cases i with
  | zero =>
    rw [if_pos rfl, Nat.testBit_zero]
    cases b
    · show decide ((2 * x + 0) % 2 = 1) = false
      exact decide_eq_false (by omega)
    · show decide ((2 * x + 1) % 2 = 1) = true
      exact decide_eq_true (by omega)
  | succ i =>
    rw [if_neg (by omega), Nat.testBit_succ, Nat.add_sub_cancel]
    congr 1
    cases b
    · show (2 * x + 0) / 2 = x
      omega
    · show (2 * x + 1) / 2 = x
      omega
theorem wd_bit (D : sp_D) (s rd : Nat) : ∀ r, rd < r → (wd D s r).testBit (r - 1 - rd) = sb D rd s := by
  intro r
  induction r with
  | zero => intro h; omega
  | succ r ih =>
    intro h
    unfold wd
    rw [tb_2]
    by_cases e : rd = r
    · subst e
      rw [if_pos (by omega)]
      rfl
    · rw [if_neg (by omega), show r + 1 - 1 - rd - 1 = r - 1 - rd by omega]
      exact ih (by omega)
theorem chW_sb {D : sp_D} {rd s : Nat} (h : rd < dr D) : chW (wdD D) (dn D) (dr D) rd s = (sb D rd s ^^ sb D rd ((s + 1) % dn D)) := by
  unfold chW xb wdD
  rw [Nat.testBit_xor, wd_bit D s rd _ h, wd_bit D _ rd _ h]
theorem ct_turn (P : Nat → Bool) (n : Nat) (hn : 0 < n) : ctB (fun s => P ((s + n - 1) % n)) n = ctB P n := by
  have A : ∀ k, k + 1 ≤ n → ctB (fun s => P ((s + n - 1) % n)) (k + 1) = (P (n - 1)).toNat + ctB P k := by
    intro k
    induction k with
    | zero =>
      intro _
      unfold ctB
      simp only [Nat.zero_add, ctB]
      rw [Nat.mod_eq_of_lt (by omega)]
      cases P (n - 1) <;> rfl
    | succ k ih =>
      intro hk
      conv => lhs; unfold ctB
      conv => rhs; unfold ctB
      rw [ih (by omega), show (k + 1 + n - 1) % n = k by rw [show k + 1 + n - 1 = k + n by omega, Nat.add_mod_right, Nat.mod_eq_of_lt (by omega)]]
      cases P k
      · rfl
      · show _ + 1 = _ + (_ + 1)
        omega
  obtain ⟨m, rfl⟩ : ∃ m, n = m + 1 := ⟨n - 1, by omega⟩
  rw [A m (Nat.le_refl _), Nat.add_sub_cancel]
  conv => rhs; unfold ctB
  cases P m
  · show 0 + _ = _
    rw [Nat.zero_add]; rfl
  · show 1 + _ = _ + 1
    omega
theorem m_seenL {D : sp_D} {rd d : Nat} {x2 : Int32} {σ : am_S} {K : Int32 → am_S → Prop} (hD : mD σ 0 D) (hok : d_ok D) (hrd : rd < dr D) (h : ∀ v, isSt (chW (wdD D) (dn D) (dr D) rd) (dn D) v → am_ite (¬ x2 = nI 2) (K (nI v) σ) (K (nI (ctB (chW (wdD D) (dn D) (dr D) rd) (dn D))) σ)) : R_Mod_seen d K 66 [.ref 153, .int (nI rd), .int x2, .int (nI 0), .int (nI (dn D)), .int (nI 0), .null] [] σ := by
  obtain ⟨k1, k2, k3, k4, k5, k6⟩ := id hok
  generalize hP : chW (wdD D) (dn D) (dr D) rd = P at h
  have pe : ∀ s, P s = (sb D rd s ^^ sb D rd ((s + 1) % dn D)) := fun s => by rw [← hP]; exact chW_sb hrd
  have hm : ∀ s, s % dn D < dn D := fun s => Nat.mod_lt _ k1
  have m1 : ∀ a, (a % dn D + 1) % dn D = (a + 1) % dn D := fun a => Nat.mod_add_mod _ _ _
  have q1 : ∀ s, s < dn D → P ((s + dn D - 1) % dn D) = (sb D rd ((s + dn D - 1) % dn D) ^^ sb D rd s) := fun s hs => by
    rw [pe, m1, show s + dn D - 1 + 1 = s + dn D by omega, Nat.add_mod_right, Nat.mod_eq_of_lt hs]
  have q2 : ∀ s j, 1 ≤ j → ((s + dn D - 1) % dn D + j) % dn D = (s + j - 1) % dn D := fun s j hj => by
    rw [Nat.mod_add_mod, show s + dn D - 1 + j = s + j - 1 + dn D by omega, Nat.add_mod_right]
  have q3 : ∀ s j, 1 ≤ j → P (((s + dn D - 1) % dn D + j) % dn D) = (sb D rd ((s + j - 1) % dn D) ^^ sb D rd ((s + j) % dn D)) := fun s j hj => by
    rw [q2 s j hj, pe, m1, show s + j - 1 + 1 = s + j by omega]
  have Inv : Nat → Nat → Prop := fun _ _ => True
  have L : ∀ q s v, s + q = dn D → v ≤ dn D → ((∀ s', s' < s → P ((s' + dn D - 1) % dn D) = false) ∧ v = dn D ∨ (∃ s', s' < s ∧ P ((s' + dn D - 1) % dn D) = true ∧ gpB P (dn D) ((s' + dn D - 1) % dn D) v) ∧ ∀ s', s' < s → P ((s' + dn D - 1) % dn D) = true → ∀ u, gpB P (dn D) ((s' + dn D - 1) % dn D) u → v ≤ u) → R_Mod_seen d K 66 [.ref 153, .int (nI rd), .int x2, .int (nI (ctB (fun s => P ((s + dn D - 1) % dn D)) s)), .int (nI v), .int (nI s), .null] [] σ := by
    intro q
    induction q with
    | zero =>
      intro s v hs hv hi
      have : s = dn D := by omega
      subst this
      refine l_Mod_seen_66 (m_n hD (pk_le (dn D) (dn D) (fun _ => ?_) (fun z => absurd z (by omega))))
      rw [ct_turn P (dn D) k1]
      refine h v ?_
      have back : ∀ p, p < dn D → ∃ s', s' < dn D ∧ (s' + dn D - 1) % dn D = p := fun p hp => by
        by_cases e : p + 1 < dn D
        · exact ⟨p + 1, e, by rw [show p + 1 + dn D - 1 = p + dn D by omega, Nat.add_mod_right, Nat.mod_eq_of_lt hp]⟩
        · exact ⟨0, by omega, by rw [show 0 + dn D - 1 = p by omega, Nat.mod_eq_of_lt hp]⟩
      rcases hi with ⟨i1, i2⟩ | ⟨⟨s', i1, i2, i3⟩, i4⟩
      · refine Or.inl ⟨fun p hp => ?_, i2⟩
        obtain ⟨s', h1, h2⟩ := back p hp
        rw [← h2]
        exact i1 s' h1
      · refine Or.inr ⟨⟨_, hm _, i2, i3⟩, fun p hp hpt u hu => ?_⟩
        obtain ⟨s', h1, h2⟩ := back p hp
        rw [← h2] at hpt hu
        exact i4 s' h1 hpt u hu
    | succ q ih =>
      intro s v hs hv hi
      have hms := hm (s + dn D - 1)
      refine l_Mod_seen_66 (m_n hD (pk_le (dn D) s (fun z => absurd z (by omega)) (fun _ => s_sees hD hok hrd (by omega) (m_n hD (m_n hD ⟨nI_ne0 (by omega) (by omega), ?_⟩)))))
      rw [nI_add s (dn D), pk_sub (show 1 ≤ s + dn D by omega), pk_rem (by omega) (by omega) (by omega)]
      refine s_sees hD hok hrd (by omega) ?_
      show am_ite (¬ bI (sb D rd s) = bI (sb D rd ((s + dn D - 1) % dn D))) _ _
      have ih1 := ih (s + 1)
      have ec : ctB (fun s => P ((s + dn D - 1) % dn D)) (s + 1) = ctB (fun s => P ((s + dn D - 1) % dn D)) s + (P ((s + dn D - 1) % dn D)).toNat := rfl
      have qs := q1 s (by omega)
      by_cases e : sb D rd ((s + dn D - 1) % dn D) = sb D rd s
      · rw [e, Bool.xor_self] at qs
        refine am_ite_f (by rw [e]; simp) ?_
        rw [nI_add]
        have := ih1 v (by omega) hv ?_
        · rw [ec, qs] at this
          exact this
        · rcases hi with ⟨i1, i2⟩ | ⟨⟨s', i1, i2, i3⟩, i4⟩
          · refine Or.inl ⟨fun s' hs' => ?_, i2⟩
            by_cases e2 : s' = s
            · subst e2; exact qs
            · exact i1 s' (by omega)
          · refine Or.inr ⟨⟨s', by omega, i2, i3⟩, fun s2 hs2 ht u hu => ?_⟩
            by_cases e2 : s2 = s
            · subst e2; rw [qs] at ht; cases ht
            · exact i4 s2 (by omega) ht u hu
      · have qt : P ((s + dn D - 1) % dn D) = true := by
          rw [qs]
          cases h1 : sb D rd ((s + dn D - 1) % dn D) <;> cases h2 : sb D rd s <;> first | rfl | (rw [h1, h2] at e; exact absurd rfl e)
        refine am_ite_t (fun z => e ?_) ?_
        · cases h1 : sb D rd ((s + dn D - 1) % dn D) <;> cases h2 : sb D rd s <;> first | rfl | (rw [h1, h2] at z; exact absurd z (by decide))
        rw [nI_add]
        have W : ∀ q2 u, u + q2 + 1 = dn D → 1 ≤ u → (∀ j, j < u → sb D rd ((s + j) % dn D) = sb D rd s) → R_Mod_seen d K 113 [.ref 153, .int (nI rd), .int x2, .int (nI (ctB (fun s => P ((s + dn D - 1) % dn D)) s + 1)), .int (nI v), .int (nI s), .int (nI u)] [] σ := by
          have out : ∀ u, 1 ≤ u → u + 1 ≤ dn D → (∀ j, j < u → sb D rd ((s + j) % dn D) = sb D rd s) → ¬ sb D rd ((s + u) % dn D) = sb D rd s → am_ite (nI v ≤ nI u) (R_Mod_seen d K 66 [.ref 153, .int (nI rd), .int x2, .int (nI (ctB (fun s => P ((s + dn D - 1) % dn D)) s + 1)), .int (nI v), .int (nI s + nI 1), .null] [] σ) (R_Mod_seen d K 66 [.ref 153, .int (nI rd), .int x2, .int (nI (ctB (fun s => P ((s + dn D - 1) % dn D)) s + 1)), .int (nI u), .int (nI s + nI 1), .null] [] σ) := by
            intro u hu1 hu2 hall hne
            have gp : gpB P (dn D) ((s + dn D - 1) % dn D) u := by
              refine ⟨hu1, by omega, ?_, fun j hj1 hj2 => ?_⟩
              · rw [q3 s u hu1, show s + u - 1 = s + (u - 1) by omega, hall (u - 1) (by omega)]
                cases h1 : sb D rd ((s + u) % dn D) <;> cases h2 : sb D rd s <;> first | rfl | (rw [h1, h2] at hne; exact absurd rfl hne)
              · rw [q3 s j hj1, show s + j - 1 = s + (j - 1) by omega, hall (j - 1) (by omega), hall j hj2, Bool.xor_self]
            rw [nI_add]
            refine pk_le v u (fun z => ?_) (fun z => ?_)
            · have := ih1 v (by omega) hv ?_
              · rw [ec, qt] at this
                exact this
              · rcases hi with ⟨i1, i2⟩ | ⟨⟨s', i1, i2, i3⟩, i4⟩
                · exfalso
                  omega
                · refine Or.inr ⟨⟨s', by omega, i2, i3⟩, fun s2 hs2 ht u2 hu2 => ?_⟩
                  by_cases e2 : s2 = s
                  · subst e2
                    rw [gpB_uniq hu2 gp]
                    exact z
                  · exact i4 s2 (by omega) ht u2 hu2
            · have := ih1 u (by omega) (by omega) ?_
              · rw [ec, qt] at this
                exact this
              · refine Or.inr ⟨⟨s, by omega, qt, gp⟩, fun s2 hs2 ht u2 hu2 => ?_⟩
                by_cases e2 : s2 = s
                · subst e2
                  rw [gpB_uniq hu2 gp]
                  exact Nat.le_refl _
                · rcases hi with ⟨i1, i2⟩ | ⟨⟨s', i1, i2, i3⟩, i4⟩
                  · have := i1 s2 (by omega)
                    rw [ht] at this
                    cases this
                  · have := i4 s2 (by omega) ht u2 hu2
                    omega
          intro q2
          induction q2 with
          | zero =>
            intro u hu hu1 hall
            have hmu := hm (s + u)
            refine l_Mod_seen_113 (m_n hD ⟨nI_ne0 (by omega) (by omega), ?_⟩)
            rw [nI_add s u, pk_rem (by omega) (by omega) (by omega)]
            refine s_sees hD hok hrd (by omega) (s_sees hD hok hrd (by omega) ?_)
            show am_ite (¬ bI (sb D rd ((s + u) % dn D)) = bI (sb D rd s)) _ _
            have hne : ¬ sb D rd ((s + u) % dn D) = sb D rd s := by
              rw [show s + u = s + dn D - 1 by omega]
              exact e
            refine am_ite_t (fun z => hne ?_) (out u hu1 (by omega) hall hne)
            cases h1 : sb D rd ((s + u) % dn D) <;> cases h2 : sb D rd s <;> first | rfl | (rw [h1, h2] at z; exact absurd z (by decide))
          | succ q2 ih2 =>
            intro u hu hu1 hall
            have hmu := hm (s + u)
            refine l_Mod_seen_113 (m_n hD ⟨nI_ne0 (by omega) (by omega), ?_⟩)
            rw [nI_add s u, pk_rem (by omega) (by omega) (by omega)]
            refine s_sees hD hok hrd (by omega) (s_sees hD hok hrd (by omega) ?_)
            show am_ite (¬ bI (sb D rd ((s + u) % dn D)) = bI (sb D rd s)) _ _
            by_cases hne : sb D rd ((s + u) % dn D) = sb D rd s
            · refine am_ite_f (by rw [hne]; simp) ?_
              rw [nI_add]
              refine ih2 (u + 1) (by omega) (by omega) (fun j hj => ?_)
              by_cases e2 : j = u
              · subst e2; exact hne
              · exact hall j (by omega)
            · refine am_ite_t (fun z => hne ?_) (out u hu1 (by omega) hall hne)
              cases h1 : sb D rd ((s + u) % dn D) <;> cases h2 : sb D rd s <;> first | rfl | (rw [h1, h2] at z; exact absurd z (by decide))
        by_cases n2 : 2 ≤ dn D
        · refine W (dn D - 2) 1 (by omega) (Nat.le_refl _) (fun j hj => ?_)
          have : j = 0 := by omega
          subst this
          rw [Nat.add_zero, Nat.mod_eq_of_lt (by omega)]
        · exfalso
          apply e
          have : dn D = 1 := by omega
          have s0 : s = 0 := by omega
          subst s0
          rw [this]
  exact L (dn D) 0 (dn D) (by omega) (Nat.le_refl _) (Or.inl ⟨fun s' hs' => absurd hs' (Nat.not_lt_zero s'), rfl⟩)
theorem x_seen {x y : Int32} {θ σ : am_S} {K : Int32 → Int32 → am_S → Prop} (hJ : J θ σ) (h : ∀ v τ, J θ τ → K v v τ) : w_WD_seen x y σ (fun r τ => w_Mod_seen x y τ (K r)) := by
  obtain ⟨⟨S, hc, hm⟩, he⟩ := hJ
  have hok := hc.2.2.1.2
  have k2 := hok.2.1
  have k4 := hok.2.2.2.1
  have hJc : Jc θ S σ := ⟨⟨hc, hm⟩, he⟩
  have mr : ∀ (τ : am_S), Jc θ S τ → ∀ f : Int32, (am_upI (am_upI τ 0 12 f) 153 18 (nI 0)).1 154 2 = nI (dr (sd S)) := fun τ hJ f => (hJ.md (f := f)).1.2.2
  refine g_hasReader hc.2.2.1.1 hok (fun z => am_ite_f (by simp) (e_Mod_seen (fun d => ?_))) (fun rd hrd hx => am_ite_t (by decide) ?_)
  · unfold w_Mod_readers
    dsimp only
    rw [mr σ hJc]
    exact no_le z (h _ _ hJc.no)
  · subst hx
    have go : ∀ (τ : am_S) (v f : Int32), Jc θ S τ → (∀ d, am_ite (y < (nI 0)) (K v (-1) (am_upI (am_upI (am_upI τ 0 12 f) 153 18 (nI 0)) 153 18 (nI 1))) (am_ite (y ≤ (nI 3)) (am_ite (¬ y = (nI 0)) (am_ite (¬ y = (nI 1)) (R_Mod_seen d (K v) 66 [.ref 153, .int (nI rd), .int y, .int (nI 0), .int (nI (dn (sd S))), .int (nI 0), .null] [] (f0 (am_upI τ 0 12 f))) (K v (nI (dp (sd S) rd)) (f0 (am_upI τ 0 12 f)))) (K v (nI (dk (sd S) rd)) (f0 (am_upI τ 0 12 f)))) (K v (-1) (am_upI (am_upI (am_upI τ 0 12 f) 153 18 (nI 0)) 153 18 (nI 1))))) → w_Mod_seen (nI rd) y (am_upI τ 0 12 f) (K v) := by
      intro τ v f hJ g
      refine e_Mod_seen (fun d => ?_)
      unfold w_Mod_readers w_Mod_n
      dsimp only
      rw [mr τ hJ, show (am_upI (am_upI τ 0 12 f) 153 18 (nI 0)).1 154 0 = nI (dn (sd S)) from (hJ.md (f := f)).1.1]
      have i1 : vp_in (nI rd) 320 := pk_in rd 320 (by omega)
      have q := (hJ.md (f := f)).2.1 rd hrd
      rw [Nat.mul_zero, Nat.zero_add] at q
      rw [nI_clamp (by omega), show (am_upI (am_upI τ 0 12 f) 153 18 (nI 0)).1 155 rd = nI (dk (sd S) rd) from q.1, show (am_upI (am_upI τ 0 12 f) 153 18 (nI 0)).1 156 rd = nI (dp (sd S) rd) from q.2]
      have g2 := g d
      refine ya_le hrd (by omega) ⟨fun z => g2.1 z, fun z => ⟨fun z2 => ⟨fun z3 => ⟨fun z4 => ((g2.2 z).1 z2).1 z3 |>.1 z4, fun z4 => ⟨i1, ((g2.2 z).1 z2).1 z3 |>.2 z4⟩⟩, fun z3 => ⟨i1, ((g2.2 z).1 z2).2 z3⟩⟩, fun z2 => (g2.2 z).2 z2⟩⟩
    have i1 : vp_in (nI rd) 10 := pk_in rd 10 (by omega)
    have qd := hc.2.2.1.1.2.2.2.1 rd hrd
    refine ⟨fun z0 => ⟨i1, go σ _ _ hJc (fun d => ?_)⟩, fun z0 => ⟨fun z1 => ⟨i1, go σ _ _ hJc (fun d => ?_)⟩, fun z1 => ⟨fun z2 => ?_, fun z2 => ⟨fun z3 => ?_, fun z3 => go σ _ _ hJc (fun d => ?_)⟩⟩⟩⟩
    · subst z0
      refine am_ite_f (by decide) (am_ite_t (by decide) (am_ite_f (by simp) ?_))
      rw [nI_clamp (by omega), qd.1]
      exact h _ _ (hJc.ok am_eq.rf)
    · subst z1
      refine am_ite_f (by decide) (am_ite_t (by decide) (am_ite_t (by decide) (am_ite_f (by simp) ?_)))
      rw [nI_clamp (by omega), qd.2]
      exact h _ _ (hJc.ok am_eq.rf)
    · subst z2
      refine g_look hJc (fun τ hJ hW => s_changesOf hW hrd (go τ _ _ hJ (fun d => am_ite_f (by decide) (am_ite_t (by decide) (am_ite_t (by decide) (am_ite_t (by decide) (m_seenL (hJ.md.f0 k4) hok hrd (fun v hv => am_ite_f (by simp) ?_))))))))
      exact h _ _ (hJ.ok am_eq.rf)
    · subst z3
      refine g_look hJc (fun τ hJ hW => s_shortest hW hrd (fun v hv _ => go τ _ _ hJ (fun d => am_ite_f (by decide) (am_ite_t (by decide) (am_ite_t (by decide) (am_ite_t (by decide) (m_seenL (hJ.md.f0 k4) hok hrd (fun v' hv' => am_ite_t (by decide) ?_))))))))
      rw [isSt_uniq hv hv']
      exact h _ _ (hJ.ok am_eq.rf)
    · refine ⟨fun _ => h _ _ hJc.no, fun z => am_ite_f (fun z4 => ?_) (h _ _ hJc.no)⟩
      obtain ⟨n, n1, n2, rfl⟩ := i_of (by decide) z z4
      have : n = 0 ∨ n = 1 ∨ n = 2 ∨ n = 3 := by omega
      rcases this with rfl | rfl | rfl | rfl
      · exact z0 rfl
      · exact z1 rfl
      · exact z2 rfl
      · exact z3 rfl
