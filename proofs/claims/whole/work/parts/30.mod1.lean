/-! THE REFERENCE: discs in slots of its rows -/
def mD (σ : am_S) (j : Nat) (D : sp_D) : Prop := (σ.1 154 (3 * j) = nI (dn D) ∧ σ.1 154 (3 * j + 1) = nI (dt D) ∧ σ.1 154 (3 * j + 2) = nI (dr D)) ∧ (∀ r, r < dr D → σ.1 155 (10 * j + r) = nI (dk D r) ∧ σ.1 156 (10 * j + r) = nI (dp D r)) ∧ ∀ t s, t < 10 → s < 512 → σ.1 157 (5120 * j + (512 * t + s)) = bI (dl D t s)
/-- a slot is as it was -/
def sEq (σ τ : am_S) (j : Nat) : Prop := (∀ i, i < 3 → τ.1 154 (3 * j + i) = σ.1 154 (3 * j + i)) ∧ (∀ i, i < 10 → τ.1 155 (10 * j + i) = σ.1 155 (10 * j + i) ∧ τ.1 156 (10 * j + i) = σ.1 156 (10 * j + i)) ∧ ∀ x, x < 5120 → τ.1 157 (5120 * j + x) = σ.1 157 (5120 * j + x)
theorem sEq.rf {σ : am_S} {j : Nat} : sEq σ σ j := ⟨fun _ _ => rfl, fun _ _ => ⟨rfl, rfl⟩, fun _ _ => rfl⟩
theorem sEq.tr {σ τ υ : am_S} {j : Nat} (h1 : sEq σ τ j) (h2 : sEq τ υ j) : sEq σ υ j := ⟨fun i hi => (h2.1 i hi).trans (h1.1 i hi), fun i hi => ⟨(h2.2.1 i hi).1.trans (h1.2.1 i hi).1, (h2.2.1 i hi).2.trans (h1.2.1 i hi).2⟩, fun x hx => (h2.2.2 x hx).trans (h1.2.2 x hx)⟩
theorem sEq.of {P : Nat → Prop} {σ τ : am_S} {j : Nat} (he : am_eq P σ τ) (h1 : ¬ P 154) (h2 : ¬ P 155) (h3 : ¬ P 156) (h4 : ¬ P 157) : sEq σ τ j := by
  refine ⟨fun i _ => ?_, fun i _ => ⟨?_, ?_⟩, fun x _ => ?_⟩
  · rw [(he 154 h1).1]
  · rw [(he 155 h2).1]
  · rw [(he 156 h3).1]
  · rw [(he 157 h4).1]
theorem mD.slot {σ τ : am_S} {j : Nat} {D : sp_D} (h : mD σ j D) (hr : dr D ≤ 10) (he : sEq σ τ j) : mD τ j D := by
  obtain ⟨⟨h1, h2, h3⟩, h4, h5⟩ := h
  refine ⟨⟨(he.1 0 (by decide)).trans h1, (he.1 1 (by decide)).trans h2, (he.1 2 (by decide)).trans h3⟩, fun r hr' => ⟨((he.2.1 r (by omega)).1).trans (h4 r hr').1, ((he.2.1 r (by omega)).2).trans (h4 r hr').2⟩, fun t s ht hs => (he.2.2 _ (by omega)).trans (h5 t s ht hs)⟩
/-- n of a row, from a on, laid from b on -/
def cpR (σ : am_S) (c a b n : Nat) : am_S := (fun k i => if k = c ∧ b ≤ i ∧ i < b + n then σ.1 c (a + (i - b)) else σ.1 k i, σ.2)
theorem cpR_at (σ : am_S) (c a b n k i : Nat) : (cpR σ c a b n).1 k i = if k = c ∧ b ≤ i ∧ i < b + n then σ.1 c (a + (i - b)) else σ.1 k i := rfl
theorem cpR_in {σ : am_S} {c a b n i : Nat} (h1 : b ≤ i) (h2 : i < b + n) : (cpR σ c a b n).1 c i = σ.1 c (a + (i - b)) := by rw [cpR_at, if_pos ⟨rfl, h1, h2⟩]
theorem cpR_out {σ : am_S} {c a b n k i : Nat} (h : k ≠ c ∨ i < b ∨ b + n ≤ i) : (cpR σ c a b n).1 k i = σ.1 k i := by
  rw [cpR_at, if_neg]
  rintro ⟨h1, h2, h3⟩
  omega
theorem cpR_0 (σ : am_S) (c a b : Nat) : cpR σ c a b 0 = σ := by
  refine Prod.ext ?_ rfl
  funext k i
  show (if k = c ∧ b ≤ i ∧ i < b + 0 then σ.1 c (a + (i - b)) else σ.1 k i) = σ.1 k i
  rw [if_neg (by omega)]
theorem cpR_step {σ : am_S} {c a b n : Nat} {v : Int32} (hv : v = σ.1 c (a + n)) : am_upI (cpR σ c a b n) c (b + n) v = cpR σ c a b (n + 1) := by
  subst hv
  refine Prod.ext ?_ rfl
  funext k i
  rw [u_I, cpR_at, cpR_at]
  by_cases h : k = c ∧ i = b + n
  · obtain ⟨rfl, rfl⟩ := h
    rw [if_pos ⟨rfl, rfl⟩, if_pos ⟨rfl, by omega, by omega⟩, Nat.add_sub_cancel_left]
  · rw [if_neg h]
    by_cases h2 : k = c ∧ b ≤ i ∧ i < b + n
    · rw [if_pos h2, if_pos ⟨h2.1, h2.2.1, by omega⟩]
    · rw [if_neg h2, if_neg]
      rintro ⟨g1, g2, g3⟩
      by_cases g4 : i = b + n
      · exact h ⟨g1, g4⟩
      · exact h2 ⟨g1, g2, by omega⟩
theorem cpR_up {σ : am_S} {c c' a b n i : Nat} {v : Int32} (h : c ≠ c') : am_upI (cpR σ c' a b n) c i v = cpR (am_upI σ c i v) c' a b n := by
  refine Prod.ext ?_ rfl
  funext k j
  show (if k = c ∧ j = i then v else if k = c' ∧ b ≤ j ∧ j < b + n then σ.1 c' (a + (j - b)) else σ.1 k j) = if k = c' ∧ b ≤ j ∧ j < b + n then (if c' = c ∧ a + (j - b) = i then v else σ.1 c' (a + (j - b))) else if k = c ∧ j = i then v else σ.1 k j
  by_cases z : k = c'
  · subst z
    have n1 : ∀ x, ¬ (k = c ∧ x = i) := fun x y => h y.1.symm
    rw [if_neg (n1 j), if_neg (n1 _)]
    by_cases z2 : k = k ∧ b ≤ j ∧ j < b + n
    · rw [if_pos z2, if_pos z2]
    · rw [if_neg z2, if_neg z2, if_neg (n1 j)]
  · have n2 : ¬ (k = c' ∧ b ≤ j ∧ j < b + n) := fun y => z y.1
    rw [if_neg n2, if_neg n2]
theorem cpR_eq {P : Nat → Prop} {σ : am_S} {c a b n : Nat} (h : P c) : am_eq P σ (cpR σ c a b n) := fun k hk => ⟨by
  funext i
  exact cpR_out (Or.inl (fun e => hk (e ▸ h))), rfl⟩
theorem s_copy {j1 j2 : Nat} {D : sp_D} {σ : am_S} {K : am_S → Prop} (h1 : j1 < 32) (h2 : j2 < 32) (hne : j1 ≠ j2) (hr : dr D ≤ 10) (hD : mD σ j1 D) (h : ∀ τ, mD τ j2 D → (∀ j, j ≠ j2 → sEq σ τ j) → am_eq (fun k => 154 ≤ k ∧ k ≤ 157) σ τ → K τ) : w_Mod_copy (nI j1) (nI j2) σ K := by
  refine e_Mod_copy (fun d => ?_)
  obtain ⟨⟨g1, g2, g3⟩, g4, g5⟩ := hD
  have fin : K (cpR (cpR (cpR (cpR σ 154 (3 * j1) (3 * j2) 3) 155 (10 * j1) (10 * j2) 10) 156 (10 * j1) (10 * j2) 10) 157 (5120 * j1) (5120 * j2) 5120) := by
    refine h _ ⟨⟨?_, ?_, ?_⟩, fun r hr' => ⟨?_, ?_⟩, fun t s ht hs => ?_⟩ (fun j hj => ⟨fun i hi => ?_, fun i hi => ⟨?_, ?_⟩, fun x hx => ?_⟩) ?_
    · rw [cpR_out (by omega), cpR_out (by omega), cpR_out (by omega), cpR_in (by omega) (by omega), Nat.sub_self]; exact g1
    · rw [cpR_out (by omega), cpR_out (by omega), cpR_out (by omega), cpR_in (by omega) (by omega), Nat.add_sub_cancel_left]; exact g2
    · rw [cpR_out (by omega), cpR_out (by omega), cpR_out (by omega), cpR_in (by omega) (by omega), Nat.add_sub_cancel_left]; exact g3
    · rw [cpR_out (by omega), cpR_out (by omega), cpR_in (by omega) (by omega), cpR_out (by omega), Nat.add_sub_cancel_left]; exact (g4 r hr').1
    · rw [cpR_out (by omega), cpR_in (by omega) (by omega), cpR_out (by omega), cpR_out (by omega), Nat.add_sub_cancel_left]; exact (g4 r hr').2
    · rw [cpR_in (by omega) (by omega), cpR_out (by omega), cpR_out (by omega), cpR_out (by omega), Nat.add_sub_cancel_left]; exact g5 t s ht hs
    · rw [cpR_out (by omega), cpR_out (by omega), cpR_out (by omega), cpR_out (by omega)]
    · rw [cpR_out (by omega), cpR_out (by omega), cpR_out (by omega), cpR_out (by omega)]
    · rw [cpR_out (by omega), cpR_out (by omega), cpR_out (by omega), cpR_out (by omega)]
    · rw [cpR_out (by omega), cpR_out (by omega), cpR_out (by omega), cpR_out (by omega)]
    · exact (((cpR_eq (by decide)).tr (cpR_eq (by decide))).tr (cpR_eq (by decide))).tr (cpR_eq (by decide))
  have L3 : ∀ q k, k + q = 5120 → R_Mod_copy d K 93 [.ref 153, .int (nI j1), .int (nI j2), .int (nI k)] [] (cpR (cpR (cpR (cpR σ 154 (3 * j1) (3 * j2) 3) 155 (10 * j1) (10 * j2) 10) 156 (10 * j1) (10 * j2) 10) 157 (5120 * j1) (5120 * j2) k) := by
    intro q
    induction q with
    | zero =>
      intro k hk
      have : k = 5120 := by omega
      subst this
      exact l_Mod_copy_93 (am_ite_t (nI_le (Nat.le_refl _) (by decide)) fin)
    | succ q ih =>
      intro k hk
      refine l_Mod_copy_93 ?_
      rw [pk_mul, pk_mul, nI_add, nI_add, nI_add]
      rw [nI_clamp (show 5120 * j1 + k < 2 ^ 31 by omega), nI_clamp (show 5120 * j2 + k < 2 ^ 31 by omega)]
      have hv : (cpR (cpR (cpR (cpR σ 154 (3 * j1) (3 * j2) 3) 155 (10 * j1) (10 * j2) 10) 156 (10 * j1) (10 * j2) 10) 157 (5120 * j1) (5120 * j2) k).1 157 (5120 * j1 + k) = (cpR (cpR (cpR σ 154 (3 * j1) (3 * j2) 3) 155 (10 * j1) (10 * j2) 10) 156 (10 * j1) (10 * j2) 10).1 157 (5120 * j1 + k) := cpR_out (by omega)
      have hv2 : (cpR (cpR (cpR (cpR σ 154 (3 * j1) (3 * j2) 3) 155 (10 * j1) (10 * j2) 10) 156 (10 * j1) (10 * j2) 10) 157 (5120 * j1) (5120 * j2) k).1 157 (5120 * j1 + k) = σ.1 157 (5120 * j1 + k) := by
        rw [hv, cpR_out (by omega), cpR_out (by omega), cpR_out (by omega)]
      refine pk_le 5120 k (fun z => absurd z (by omega)) (fun _ => ⟨pk_in (5120 * j1 + k) 163840 (by omega), pk_in (5120 * j2 + k) 163840 (by omega), ?_, ?_⟩)
      · rw [hv2]
        have := g5 (k / 512) (k % 512) (by omega) (Nat.mod_lt _ (by decide))
        rw [show 512 * (k / 512) + k % 512 = k by omega] at this
        rw [this]
        exact bI_01 _
      · rw [cpR_step hv]
        exact ih (k + 1) (by omega)
  have L2 : ∀ q k, k + q = 10 → R_Mod_copy d K 35 [.ref 153, .int (nI j1), .int (nI j2), .int (nI k)] [] (cpR (cpR (cpR σ 154 (3 * j1) (3 * j2) 3) 155 (10 * j1) (10 * j2) k) 156 (10 * j1) (10 * j2) k) := by
    intro q
    induction q with
    | zero =>
      intro k hk
      have : k = 10 := by omega
      subst this
      refine l_Mod_copy_35 (am_ite_t (nI_le (Nat.le_refl _) (by decide)) ?_)
      have := L3 5120 0 (by omega)
      rw [cpR_0] at this
      exact this
    | succ q ih =>
      intro k hk
      refine l_Mod_copy_35 ?_
      rw [pk_mul, pk_mul, nI_add, nI_add, nI_add]
      rw [nI_clamp (show 10 * j1 + k < 2 ^ 31 by omega), nI_clamp (show 10 * j2 + k < 2 ^ 31 by omega)]
      have i1 : vp_in (nI (10 * j1 + k)) 320 := pk_in (10 * j1 + k) 320 (by omega)
      have i2 : vp_in (nI (10 * j2 + k)) 320 := pk_in (10 * j2 + k) 320 (by omega)
      refine pk_le 10 k (fun z => absurd z (by omega)) (fun _ => ⟨i1, i2, i1, i2, ?_⟩)
      have e : ∀ v1 v2, v1 = (cpR σ 154 (3 * j1) (3 * j2) 3).1 155 (10 * j1 + k) → v2 = (cpR σ 154 (3 * j1) (3 * j2) 3).1 156 (10 * j1 + k) → am_upI (am_upI (cpR (cpR (cpR σ 154 (3 * j1) (3 * j2) 3) 155 (10 * j1) (10 * j2) k) 156 (10 * j1) (10 * j2) k) 155 (10 * j2 + k) v1) 156 (10 * j2 + k) v2 = cpR (cpR (cpR σ 154 (3 * j1) (3 * j2) 3) 155 (10 * j1) (10 * j2) (k + 1)) 156 (10 * j1) (10 * j2) (k + 1) := by
        intro v1 v2 e1 e2
        rw [cpR_up (show (155 : Nat) ≠ 156 by decide), cpR_step e1]
        refine cpR_step ?_
        rw [cpR_out (by omega)]
        exact e2
      rw [e _ _ (by rw [cpR_out (by omega), cpR_out (by omega)]) (by rw [cpR_out (by omega), cpR_out (by omega)])]
      exact ih (k + 1) (by omega)
  have L1 : ∀ q k, k + q = 3 → R_Mod_copy d K 2 [.ref 153, .int (nI j1), .int (nI j2), .int (nI k)] [] (cpR σ 154 (3 * j1) (3 * j2) k) := by
    intro q
    induction q with
    | zero =>
      intro k hk
      have : k = 3 := by omega
      subst this
      refine l_Mod_copy_2 (am_ite_t (nI_le (Nat.le_refl _) (by decide)) ?_)
      have := L2 10 0 (by omega)
      rw [cpR_0, cpR_0] at this
      exact this
    | succ q ih =>
      intro k hk
      refine l_Mod_copy_2 ?_
      rw [pk_mul, pk_mul, nI_add, nI_add, nI_add]
      rw [nI_clamp (show 3 * j1 + k < 2 ^ 31 by omega), nI_clamp (show 3 * j2 + k < 2 ^ 31 by omega)]
      refine pk_le 3 k (fun z => absurd z (by omega)) (fun _ => ⟨pk_in (3 * j1 + k) 96 (by omega), pk_in (3 * j2 + k) 96 (by omega), ?_⟩)
      rw [cpR_step (cpR_out (by omega))]
      exact ih (k + 1) (by omega)
  have := L1 3 0 (by omega)
  rw [cpR_0] at this
  exact this
