/-- how many bits of a word of ten are 1 -/
def pcN (x : Nat) : Nat := ((List.range 10).filter (fun i => x.testBit i)).length
theorem bc_pc : ∀ x, x < 1024 → bc (nI x) = nI (pcN x) := by decide +kernel
theorem pc_pos : ∀ x, x < 1024 → x ≠ 0 → 1 ≤ pcN x := by decide +kernel
theorem pc_0 : pcN 0 = 0 := by decide +kernel
theorem pc_le0 : ∀ r, r ≤ 10 → ∀ x, x < 1024 → x < 2 ^ r → pcN x ≤ r := by decide +kernel
theorem pc_le {r x : Nat} (hr : r ≤ 10) (hx : x < 2 ^ r) : pcN x ≤ r := pc_le0 r hr x (Nat.lt_of_lt_of_le hx (p2_10 hr)) hx
/-- the least number of readers in which two stands are unlike -/
def isMin (W : Nat → Nat) (n v : Nat) : Prop := (∃ a b, a < b ∧ b < n ∧ pcN (W a ^^^ W b) = v) ∧ ∀ a b, a < b → b < n → v ≤ pcN (W a ^^^ W b)
theorem isMin_uniq {W : Nat → Nat} {n v v' : Nat} (h : isMin W n v) (h' : isMin W n v') : v = v' := by
  obtain ⟨⟨a, b, h1, h2, h3⟩, h4⟩ := h
  obtain ⟨⟨a', b', h1', h2', h3'⟩, h4'⟩ := h'
  have := h4 a' b' h1' h2'
  have := h4' a b h1 h2
  omega
theorem s_twoAreMarked {n r x : Nat} {W : Nat → Nat} {σ : am_S} {K : Int32 → am_S → Prop} (hW : vW σ n r W) (hx : x < 2 ^ r) (h : K (bI (decide (∃ s, s < n ∧ mk σ 12 (W s ^^^ x) = true))) σ) : w_View_twoAreMarkedApartBy (nI x) σ K := by
  refine e_View_twoAreMarkedApartBy (fun d => ?_)
  obtain ⟨h1, h2, h3, h4, h5, h6, h7⟩ := id hW
  have L : ∀ q s, s + q = n → (∀ s', s' < s → mk σ 12 (W s' ^^^ x) = false) → R_View_twoAreMarkedApartBy d K 2 [.ref 9, .int (nI x), .int (nI s)] [] σ := by
    intro q
    induction q with
    | zero =>
      intro s hs ha
      refine l_View_twoAreMarkedApartBy_2 ?_
      rw [h1]
      refine pk_le n s (fun _ => ?_) (fun z => absurd z (by omega))
      rw [decide_eq_false (by rintro ⟨s', g1, g2⟩; rw [ha s' (by omega)] at g2; cases g2)] at h
      exact h
    | succ q ih =>
      intro s hs ha
      refine l_View_twoAreMarkedApartBy_2 ?_
      rw [h1, nI_clamp (by omega), h3 s (by omega), q_xor]
      refine pk_le n s (fun z => absurd z (by omega)) (fun _ => ⟨pk_in s 512 (by omega), ?_⟩)
      have hl : W s ^^^ x < 1024 := Nat.lt_of_lt_of_le (Nat.xor_lt_two_pow (h7 s) hx) (p2_10 h6)
      refine s_has hl ?_
      cases hb : mk σ 12 (W s ^^^ x) with
      | false =>
        refine am_ite_t rfl ?_
        rw [nI_add]
        refine ih (s + 1) (by omega) (fun s' hs' => ?_)
        by_cases e : s' = s
        · subst e; exact hb
        · exact ha s' (by omega)
      | true =>
        refine am_ite_f (by decide) ?_
        rw [decide_eq_true ⟨s, by omega, hb⟩] at h
        exact h
  exact L n 0 (by omega) (fun s' hs' => absurd hs' (Nat.not_lt_zero s'))
theorem xor0 {a b : Nat} (h : a ^^^ b = 0) : a = b := by
  have e : a ^^^ (a ^^^ b) = b := by rw [← Nat.xor_assoc, Nat.xor_self, Nat.zero_xor]
  rw [h, Nat.xor_zero] at e
  exact e
theorem and_all {w r : Nat} (h : w < 2 ^ r) : w &&& (2 ^ r - 1) = w := by
  rw [Nat.and_two_pow_sub_one_eq_mod, Nat.mod_eq_of_lt h]
theorem s_leastUnlike {n r : Nat} {W : Nat → Nat} {σ : am_S} {K : Int32 → am_S → Prop} (hW : vW σ n r W) (h1n : n = 1 → K (-1) σ) (h : ∀ v τ, n ≠ 1 → isMin W n v → v ≤ 10 → am_eq (fun k => k = 12) σ τ → K (nI v) τ) : w_View_leastUnlike σ K := by
  refine e_View_leastUnlike (fun d => ?_)
  obtain ⟨h1, h2, h3, h4, h5, h6, h7⟩ := id hW
  rw [h1]
  by_cases e1 : n = 1
  · rw [e1]
    exact am_ite_f (by simp) (h1n e1)
  · refine am_ite_t (fun z => e1 ((nI_eq (by omega) (by decide)).mp z)) ?_
    unfold w_View_allReaders
    dsimp only
    rw [h2, q_all r h6]
    refine s_allUnlike hW (fun τ he hmk => ?_)
    cases ha : aU W (2 ^ r - 1) n with
    | false =>
      refine am_ite_f (by decide) (h 0 τ e1 ?_ (by decide) he)
      have : ¬ ∀ a b, a < b → b < n → W a &&& (2 ^ r - 1) ≠ W b &&& (2 ^ r - 1) := fun z => by
        rw [← aU_iff, ha] at z
        cases z
      refine ⟨?_, fun _ _ _ _ => Nat.zero_le _⟩
      apply Classical.byContradiction
      intro hno
      apply this
      intro a b hab hb heq
      rw [and_all (h7 a), and_all (h7 b)] at heq
      exact hno ⟨a, b, hab, hb, by rw [heq, Nat.xor_self, pc_0]⟩
    | true =>
      refine am_ite_t (by decide) ?_
      have hmk := hmk ha
      have hne : ∀ a b, a < b → b < n → W a ≠ W b := fun a b hab hb e => by
        have := (aU_iff W _ n).mp ha a b hab hb
        rw [e] at this
        exact this rfl
      have hW' := hW.kept he (by omega) (by omega)
      have hx : ∀ a b, W a ^^^ W b < 2 ^ r := fun a b => Nat.xor_lt_two_pow (h7 a) (h7 b)
      have hp10 := p2_10 h6
      have hx0 : ∀ a b, a < b → b < n → 1 ≤ pcN (W a ^^^ W b) := fun a b hab hb => pc_pos _ (Nat.lt_of_lt_of_le (hx a b) hp10) (fun z => hne a b hab hb (xor0 z))
      have hr0 : r ≠ 0 := fun z => by
        subst z
        have := hne 0 1 (by omega) (by omega)
        have := h7 0
        have := h7 1
        omega
      have L : ∀ q v, v + q = r → 1 ≤ v → (∀ a b, a < b → b < n → v ≤ pcN (W a ^^^ W b)) → R_View_leastUnlike d K 25 [.ref 9, .int (nI v), .null] [] τ := by
        intro q
        induction q with
        | zero =>
          intro v hv hv1 hall
          refine l_View_leastUnlike_25 ?_
          rw [hW'.2.1]
          refine pk_le r v (fun _ => ?_) (fun z => absurd z (by omega))
          have hvr : v = r := by omega
          subst hvr
          refine h v τ e1 ⟨⟨0, 1, by omega, by omega, ?_⟩, hall⟩ h6 he
          have := hall 0 1 (by omega) (by omega)
          have := pc_le h6 (hx 0 1)
          omega
        | succ q ih =>
          intro v hv hv1 hall
          refine l_View_leastUnlike_25 ?_
          rw [hW'.2.1]
          refine pk_le r v (fun z => absurd z (by omega)) (fun _ => ?_)
          have M : ∀ q2 x, x + q2 = 2 ^ r → 1 ≤ x → (∀ a b, a < b → b < n → W a ^^^ W b < x → pcN (W a ^^^ W b) ≠ v) → R_View_leastUnlike d K 35 [.ref 9, .int (nI v), .int (nI x)] [] τ := by
            intro q2
            induction q2 with
            | zero =>
              intro x hx2 hx1 hno
              refine l_View_leastUnlike_35 ?_
              unfold w_View_allReaders
              dsimp only
              rw [hW'.2.1, q_all r h6, nI_add]
              refine pk_lt (2 ^ r - 1) x (fun _ => ?_) (fun z => absurd z (by omega))
              refine ih (v + 1) (by omega) (by omega) (fun a b hab hb => ?_)
              have g1 := hall a b hab hb
              have g2 := hno a b hab hb (by have := hx a b; omega)
              omega
            | succ q2 ih2 =>
              intro x hx2 hx1 hno
              refine l_View_leastUnlike_35 ?_
              unfold w_View_allReaders
              dsimp only
              rw [hW'.2.1, q_all r h6, nI_add]
              refine pk_lt (2 ^ r - 1) x (fun z => absurd z (by omega)) (fun _ => s_bitCount ?_)
              rw [bc_pc x (by omega)]
              have hpx := pc_le h6 (show x < 2 ^ r by omega)
              constructor
              · intro hc
                rw [nI_add]
                refine ih2 (x + 1) (by omega) (by omega) (fun a b hab hb hlt => ?_)
                by_cases e : W a ^^^ W b = x
                · rw [e]
                  exact fun z => hc (by rw [z])
                · exact hno a b hab hb (by omega)
              · intro hc
                have hc := (nI_eq (by omega) (by omega)).mp (Classical.not_not.mp hc)
                refine s_twoAreMarked hW' (by omega) ?_
                by_cases hex : ∃ s, s < n ∧ mk τ 12 (W s ^^^ x) = true
                · rw [decide_eq_true hex]
                  refine am_ite_f (by decide) (h v τ e1 ⟨?_, hall⟩ (by omega) he)
                  obtain ⟨s, hs, hm⟩ := hex
                  obtain ⟨s', hs', e⟩ := (hmk _ (Nat.lt_of_lt_of_le (Nat.xor_lt_two_pow (h7 s) (show x < 2 ^ r by omega)) hp10)).mp hm
                  rw [and_all (h7 s')] at e
                  have hxx : W s' ^^^ W s = x := by rw [e, Nat.xor_comm (W s) x, Nat.xor_assoc, Nat.xor_self, Nat.xor_zero]
                  rcases Nat.lt_trichotomy s s' with g | g | g
                  · exact ⟨s, s', g, hs', by rw [Nat.xor_comm, hxx]; exact hc⟩
                  · subst g
                    rw [Nat.xor_self] at hxx
                    omega
                  · exact ⟨s', s, g, hs, by rw [hxx]; exact hc⟩
                · rw [decide_eq_false hex, nI_add]
                  refine am_ite_t rfl (ih2 (x + 1) (by omega) (by omega) (fun a b hab hb hlt => ?_))
                  by_cases e : W a ^^^ W b = x
                  · exfalso
                    apply hex
                    refine ⟨a, by omega, (hmk _ (Nat.lt_of_lt_of_le (Nat.xor_lt_two_pow (h7 a) (show x < 2 ^ r by omega)) hp10)).mpr ⟨b, hb, ?_⟩⟩
                    rw [and_all (h7 b), ← e, ← Nat.xor_assoc, Nat.xor_self, Nat.zero_xor]
                  · exact hno a b hab hb (by omega)
          have h2r : 1 ≤ 2 ^ r := Nat.one_le_two_pow
          exact M (2 ^ r - 1) 1 (by omega) (Nat.le_refl _) (fun a b hab hb hlt => by
            have := hx0 a b hab hb
            have e : W a ^^^ W b = 0 := by omega
            rw [e, pc_0] at this
            omega)
      exact L (r - 1) 1 (by omega) (Nat.le_refl _) hx0
