/-- how many of the first n -/
def ctB (P : Nat → Bool) : Nat → Nat
  | 0 => 0
  | s + 1 => ctB P s + (P s).toNat
theorem q_tb {x k : Nat} (hx : x < 2 ^ 31) (hk : k < 32) : (nI x >>> (nI k &&& 31)) &&& nI 1 = bI (x.testBit k) := by
  rw [q_shr k hk hx, q_and, Nat.testBit_eq_decide_div_mod_eq, Nat.and_one_is_mod]
  have h : x / 2 ^ k % 2 = 0 ∨ x / 2 ^ k % 2 = 1 := by omega
  rcases h with h | h
  · rw [h]; rfl
  · rw [h]; rfl
/-- whether a reader sees another one behind a stand -/
def chW (W : Nat → Nat) (n r rd s : Nat) : Bool := (xb W n s).testBit (r - 1 - rd)
theorem s_changesBehind {n r rd s : Nat} {W : Nat → Nat} {σ : am_S} {K : Int32 → am_S → Prop} (hW : vW σ n r W) (hs : s < n) (hr : rd < r) (h : K (bI (chW W n r rd s)) σ) : w_View_changesBehind (nI s) (nI rd) σ K := by
  unfold w_View_changesBehind
  obtain ⟨h1, h2, h3, h4, h5, h6, h7⟩ := id hW
  refine s_unlikeBehind hW hs ?_
  have hl : xb W n s < 1024 := Nat.lt_of_lt_of_le (xb_lt h7 s) (p2_10 h6)
  rw [h2, pk_sub (by omega), pk_sub (by omega), q_tb (by omega) (by omega)]
  unfold chW at h
  cases hb : (xb W n s).testBit (r - 1 - rd) with
  | false => rw [hb] at h; exact am_ite_t rfl h
  | true => rw [hb] at h; exact am_ite_f (by decide) h
theorem s_changesOf {n r rd : Nat} {W : Nat → Nat} {σ : am_S} {K : Int32 → am_S → Prop} (hW : vW σ n r W) (hr : rd < r) (h : K (nI (ctB (chW W n r rd) n)) σ) : w_View_changesOf (nI rd) σ K := by
  refine e_View_changesOf (fun d => ?_)
  obtain ⟨h1, h2, h3, h4, h5, h6, h7⟩ := id hW
  have L : ∀ q s, s + q = n → R_View_changesOf d K 4 [.ref 9, .int (nI rd), .int (nI (ctB (chW W n r rd) s)), .int (nI s)] [] σ := by
    intro q
    induction q with
    | zero =>
      intro s hs
      refine l_View_changesOf_4 ?_
      rw [h1]
      refine pk_le n s (fun _ => ?_) (fun z => absurd z (by omega))
      have : s = n := by omega
      subst this
      exact h
    | succ q ih =>
      intro s hs
      refine l_View_changesOf_4 ?_
      rw [h1]
      refine pk_le n s (fun z => absurd z (by omega)) (fun _ => s_changesBehind hW (by omega) hr ?_)
      have ih' := ih (s + 1) (by omega)
      unfold ctB at ih'
      rw [nI_add, nI_add]
      cases hb : chW W n r rd s with
      | false => rw [hb] at ih'; exact am_ite_t rfl ih'
      | true => rw [hb] at ih'; exact am_ite_f (by decide) ih'
  exact L n 0 (by omega)
/-- behind the change at p the next one comes u stands later -/
def gpB (P : Nat → Bool) (n p u : Nat) : Prop := 1 ≤ u ∧ u ≤ n ∧ P ((p + u) % n) = true ∧ ∀ j, 1 ≤ j → j < u → P ((p + j) % n) = false
theorem gpB_uniq {P : Nat → Bool} {n p u u' : Nat} (h : gpB P n p u) (h' : gpB P n p u') : u = u' := by
  rcases Nat.lt_trichotomy u u' with g | g | g
  · have := h'.2.2.2 u h.1 g
    rw [h.2.2.1] at this
    cases this
  · exact g
  · have := h.2.2.2 u' h'.1 g
    rw [h'.2.2.1] at this
    cases this
/-- the shortest stretch -/
def isSt (P : Nat → Bool) (n v : Nat) : Prop := (∀ p, p < n → P p = false) ∧ v = n ∨ (∃ p, p < n ∧ P p = true ∧ gpB P n p v) ∧ ∀ p, p < n → P p = true → ∀ u, gpB P n p u → v ≤ u
theorem isSt_uniq {P : Nat → Bool} {n v v' : Nat} (h : isSt P n v) (h' : isSt P n v') : v = v' := by
  rcases h with ⟨h1, h2⟩ | ⟨⟨p, g1, g2, g3⟩, g4⟩
  · rcases h' with ⟨h1', h2'⟩ | ⟨⟨p', g1', g2', g3'⟩, g4'⟩
    · omega
    · rw [h1 p' g1'] at g2'; cases g2'
  · rcases h' with ⟨h1', h2'⟩ | ⟨⟨p', g1', g2', g3'⟩, g4'⟩
    · rw [h1' p g1] at g2; cases g2
    · have := g4 p' g1' g2' v' g3'
      have := g4' p g1 g2 v g3
      omega
theorem s_min {a b : Nat} {σ : am_S} {K : Int32 → am_S → Prop} (ha : a < 2 ^ 31) (hb : b < 2 ^ 31) (h : K (nI (min a b)) σ) : w_Math_min (nI a) (nI b) σ K := by
  unfold w_Math_min
  refine pk_lt b a (fun g => ?_) (fun g => ?_)
  · rw [Nat.min_eq_right (by omega)] at h; exact h
  · rw [Nat.min_eq_left g] at h; exact h
theorem s_shortest {n r rd : Nat} {W : Nat → Nat} {σ : am_S} {K : Int32 → am_S → Prop} (hW : vW σ n r W) (hr : rd < r) (h : ∀ v, isSt (chW W n r rd) n v → v ≤ n → K (nI v) σ) : w_View_shortestStretchOf (nI rd) σ K := by
  refine e_View_shortestStretchOf (fun d => ?_)
  obtain ⟨h1, h2, h3, h4, h5, h6, h7⟩ := id hW
  rw [h1]
  generalize hP : chW W n r rd = P at h
  have B : ∀ q s F Lt v, s + q = n → F ≤ Lt → Lt < s → P F = true → P Lt = true → (∀ p, p < F → P p = false) → (∀ p, Lt < p → p < s → P p = false) → v ≤ n → (v = n ∨ ∃ p, p < n ∧ P p = true ∧ gpB P n p v) → (∀ p, p < Lt → P p = true → ∀ u, gpB P n p u → v ≤ u) → R_View_shortestStretchOf d K 13 [.ref 9, .int (nI rd), .int (nI v), .int (nI F), .int (nI Lt), .int (nI s)] [] σ := by
    intro q
    induction q with
    | zero =>
      intro s F Lt v hs hF hL pF pL bF bL hv hex hall
      have hsn : s = n := by omega
      subst hsn
      refine l_View_shortestStretchOf_13 ?_
      rw [h1, nI_add, pk_sub (by omega)]
      refine am_ite_t (nI_le (Nat.le_refl _) (by omega)) (am_ite_t ?_ (s_min (by omega) (by omega) (h _ ?_ (by omega))))
      · intro z
        have := congrArg Int32.toInt z
        rw [nI_toInt (by omega), show (-1 : Int32).toInt = -1 by decide] at this
        omega
      · have gL : gpB P s Lt (F + s - Lt) := by
          refine ⟨by omega, by omega, ?_, fun j hj1 hj2 => ?_⟩
          · rw [show Lt + (F + s - Lt) = F + s by omega, Nat.add_mod_right, Nat.mod_eq_of_lt (by omega)]
            exact pF
          · by_cases e : Lt + j < s
            · rw [Nat.mod_eq_of_lt e]
              exact bL _ (by omega) e
            · rw [show Lt + j = (Lt + j - s) + s by omega, Nat.add_mod_right, Nat.mod_eq_of_lt (by omega)]
              exact bF _ (by omega)
        refine Or.inr ⟨?_, fun p hp hPp u hu => ?_⟩
        · by_cases e : v < F + s - Lt
          · rw [Nat.min_eq_left (by omega)]
            rcases hex with hex | hex
            · omega
            · exact hex
          · rw [Nat.min_eq_right (by omega)]
            exact ⟨Lt, hL, pL, gL⟩
        · rcases Nat.lt_trichotomy p Lt with g | g | g
          · have := hall p g hPp u hu
            omega
          · subst g
            have := gpB_uniq hu gL
            omega
          · rw [bL p g hp] at hPp; cases hPp
    | succ q ih =>
      intro s F Lt v hs hF hL pF pL bF bL hv hex hall
      refine l_View_shortestStretchOf_13 ?_
      rw [h1]
      refine pk_le n s (fun z => absurd z (by omega)) (fun _ => s_changesBehind hW (by omega) hr ?_)
      rw [hP, nI_add]
      cases hb : P s with
      | false =>
        refine am_ite_t rfl (ih (s + 1) F Lt v (by omega) hF (by omega) pF pL bF (fun p g1 g2 => ?_) hv hex hall)
        by_cases e : p = s
        · subst e; exact hb
        · exact bL p g1 (by omega)
      | true =>
        have gL : gpB P n Lt (s - Lt) := by
          refine ⟨by omega, by omega, ?_, fun j hj1 hj2 => ?_⟩
          · rw [show Lt + (s - Lt) = s by omega, Nat.mod_eq_of_lt (by omega)]
            exact hb
          · rw [Nat.mod_eq_of_lt (by omega)]
            exact bL _ (by omega) (by omega)
        refine am_ite_f (by decide) (am_ite_t ?_ ?_)
        · intro z
          have := congrArg Int32.toInt z
          rw [nI_toInt (by omega), show (-1 : Int32).toInt = -1 by decide] at this
          omega
        · rw [pk_sub (by omega)]
          refine s_min (by omega) (by omega) (ih (s + 1) F s (min v (s - Lt)) (by omega) (by omega) (by omega) pF hb bF (fun p g1 g2 => by omega) (by omega) ?_ (fun p hp hPp u hu => ?_))
          · by_cases e : v < s - Lt
            · rw [Nat.min_eq_left (by omega)]
              exact hex
            · rw [Nat.min_eq_right (by omega)]
              exact Or.inr ⟨Lt, by omega, pL, gL⟩
          · rcases Nat.lt_trichotomy p Lt with g | g | g
            · have := hall p g hPp u hu
              omega
            · subst g
              have := gpB_uniq hu gL
              omega
            · rw [bL p g hp] at hPp; cases hPp
  have A : ∀ q s, s + q = n → (∀ p, p < s → P p = false) → R_View_shortestStretchOf d K 13 [.ref 9, .int (nI rd), .int (nI n), .int (-1), .int (-1), .int (nI s)] [] σ := by
    intro q
    induction q with
    | zero =>
      intro s hs ha
      refine l_View_shortestStretchOf_13 ?_
      rw [h1]
      refine am_ite_t (nI_le (by omega) (by omega)) (am_ite_f (by simp) (h n (Or.inl ⟨fun p hp => ha p (by omega), rfl⟩) (Nat.le_refl _)))
    | succ q ih =>
      intro s hs ha
      refine l_View_shortestStretchOf_13 ?_
      rw [h1]
      refine pk_le n s (fun z => absurd z (by omega)) (fun _ => s_changesBehind hW (by omega) hr ?_)
      rw [hP, nI_add]
      cases hb : P s with
      | false =>
        refine am_ite_t rfl (ih (s + 1) (by omega) (fun p hp => ?_))
        by_cases e : p = s
        · subst e; exact hb
        · exact ha p (by omega)
      | true =>
        refine am_ite_f (by decide) (am_ite_f (by simp) (B q (s + 1) s s n (by omega) (Nat.le_refl _) (by omega) hb hb ha (fun p g1 g2 => by omega) (Nat.le_refl _) (Or.inl rfl) (fun p hp hPp => ?_)))
        rw [ha p hp] at hPp
        cases hPp
  exact A n 0 (by omega) (fun p hp => absurd hp (Nat.not_lt_zero p))
