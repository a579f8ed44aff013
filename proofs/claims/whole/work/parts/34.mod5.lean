/-- the lights of the reference's disc, t and s at 512 t + s; what lies behind stays -/
def mL (σ τ : am_S) (F : Nat → Nat → Bool) : Prop := (∀ t s, t < 10 → s < 512 → τ.1 157 (512 * t + s) = bI (F t s)) ∧ ∀ x, 5120 ≤ x → τ.1 157 x = σ.1 157 x
theorem mL.up {σ τ : am_S} {F : Nat → Nat → Bool} {t s : Nat} {b : Bool} (h : mL σ τ F) (ht : t < 10) (hs : s < 512) : mL σ (am_upI τ 157 (512 * t + s) (bI b)) (fun t' s' => if t' = t ∧ s' = s then b else F t' s') := by
  refine ⟨fun t' s' ht' hs' => ?_, fun x hx => ?_⟩
  · rw [u_I]
    by_cases e : t' = t ∧ s' = s
    · obtain ⟨rfl, rfl⟩ := e
      rw [if_pos ⟨rfl, rfl⟩]
      show _ = bI (if t' = t' ∧ s' = s' then b else F t' s')
      rw [if_pos ⟨rfl, rfl⟩]
    · rw [if_neg (by omega)]
      show _ = bI (if t' = t ∧ s' = s then b else F t' s')
      rw [if_neg e]
      exact h.1 t' s' ht' hs'
  · rw [u_In _ _ (by omega)]
    exact h.2 x hx
theorem mL.congr {σ τ : am_S} {F G : Nat → Nat → Bool} (h : mL σ τ F) (hg : ∀ t s, t < 10 → s < 512 → F t s = G t s) : mL σ τ G := ⟨fun t s ht hs => by rw [h.1 t s ht hs, hg t s ht hs], h.2⟩
theorem mL.kept {P : Nat → Prop} {σ τ υ : am_S} {F : Nat → Nat → Bool} (h : mL σ τ F) (he : am_eq P τ υ) (hp : ¬ P 157) : mL σ υ F := by
  unfold mL
  rw [(he 157 hp).1]
  exact h
theorem mL_of {σ : am_S} {D : sp_D} (h : mD σ 0 D) : mL σ σ (dl D) := ⟨fun t s ht hs => by
  have := h.2.2 t s ht hs
  rw [Nat.mul_zero, Nat.zero_add] at this
  exact this, fun _ _ => rfl⟩
theorem mL.sEq {σ τ : am_S} {F : Nat → Nat → Bool} (h : mL σ τ F) (he : am_eq (fun k => 157 ≤ k) σ τ) {j : Nat} (hj : j ≠ 0) : sEq σ τ j := by
  refine ⟨fun i _ => ?_, fun i _ => ⟨?_, ?_⟩, fun x _ => h.2 _ (by omega)⟩
  · rw [(he 154 (by omega)).1]
  · rw [(he 155 (by omega)).1]
  · rw [(he 156 (by omega)).1]
theorem m_turnBy {D : sp_D} {k : Nat} {σ : am_S} {K : am_S → Prop} (hD : mD σ 0 D) (hok : d_ok D) (hk : k < dn D) (h : ∀ τ, mD τ 0 (dLay D (fun s => (k + s) % dn D)) → (∀ j, j ≠ 0 → sEq σ τ j) → am_eq (fun c => c = 157 ∨ c = 165) σ τ → K τ) : w_Mod_turnBy (nI k) σ K := by
  refine e_Mod_turnBy (fun d => ?_)
  obtain ⟨k1, k2, k3, k4, k5, k6⟩ := id hok
  obtain ⟨⟨g1, g2, g3⟩, g4, g5⟩ := id hD
  have e0 : σ.1 154 0 = nI (dn D) := g1
  have e1 : σ.1 154 1 = nI (dt D) := g2
  have hm : ∀ s, (k + s) % dn D < dn D := fun s => Nat.mod_lt _ k1
  have n0 : ∀ (τ : am_S) (KK : Int32 → am_S → Prop), am_eq (fun c => c = 157 ∨ c = 165) σ τ → KK (nI (dn D)) τ → w_Mod_n τ KK := fun τ KK he hK => by
    unfold w_Mod_n
    rw [(he 154 (by omega)).1, e0]
    exact hK
  have L : ∀ q t (τ : am_S), t + q = dt D → am_eq (fun c => c = 157 ∨ c = 165) σ τ → mL σ τ (fun t' s' => if t' < t then dl (dLay D (fun s => (k + s) % dn D)) t' s' else dl D t' s') → R_Mod_turnBy d K 2 [.ref 153, .int (nI k), .int (nI t), .null] [] τ := by
    intro q
    induction q with
    | zero =>
      intro t τ ht he hl
      refine l_Mod_turnBy_2 ?_
      rw [(he 154 (by omega)).1, e1]
      refine pk_le (dt D) t (fun _ => ?_) (fun z => absurd z (by omega))
      refine h τ ⟨⟨by rw [(he 154 (by omega)).1]; exact g1, by rw [(he 154 (by omega)).1]; exact g2, by rw [(he 154 (by omega)).1]; exact g3⟩, fun r hr => ⟨by rw [(he 155 (by omega)).1]; exact (g4 r hr).1, by rw [(he 156 (by omega)).1]; exact (g4 r hr).2⟩, fun t' s' ht' hs' => ?_⟩ (fun j hj => hl.sEq (he.mono (fun c hc => by omega)) hj) he
      rw [Nat.mul_zero, Nat.zero_add, hl.1 t' s' ht' hs']
      dsimp only
      by_cases e : t' < t
      · rw [if_pos e]
      · rw [if_neg e]
        show bI (dl D t' s') = bI (if t' < dt D ∧ s' < dn D then _ else false)
        rw [if_neg (by omega), k6 t' s' (by omega)]
    | succ q ih =>
      intro t τ ht he hl
      refine l_Mod_turnBy_2 ?_
      rw [(he 154 (by omega)).1, e1]
      refine pk_le (dt D) t (fun z => absurd z (by omega)) (fun _ => ?_)
      have M2 : ∀ q2 i (υ : am_S), i + q2 = dn D → am_eq (fun c => c = 157 ∨ c = 165) σ υ → (∀ i', i' < dn D → υ.1 165 i' = bI (dl D t ((k + i') % dn D))) → mL σ υ (fun t' s' => if t' < t then dl (dLay D (fun s => (k + s) % dn D)) t' s' else if t' = t ∧ s' < i then dl D t ((k + s') % dn D) else dl D t' s') → R_Mod_turnBy d K 55 [.ref 153, .int (nI k), .int (nI t), .int (nI i)] [] υ := by
        intro q2
        induction q2 with
        | zero =>
          intro i υ hi he2 hn2 hl2
          refine l_Mod_turnBy_55 (n0 υ _ he2 (pk_le (dn D) i (fun _ => ?_) (fun z => absurd z (by omega))))
          rw [nI_add]
          refine ih (t + 1) υ (by omega) he2 (hl2.congr (fun t' s' ht' hs' => ?_))
          by_cases e : t' < t
          · rw [if_pos e, if_pos (by omega)]
          · rw [if_neg e]
            by_cases e2 : t' = t
            · subst e2
              rw [if_pos (show t' < t' + 1 by omega)]
              show _ = if t' < dt D ∧ s' < dn D then dl D t' ((k + s') % dn D) else false
              by_cases e3 : s' < dn D
              · rw [if_pos (by omega), if_pos (by omega)]
              · rw [if_neg (by omega), if_neg (by omega)]
                exact k6 t' s' (by omega)
            · rw [if_neg (by omega), if_neg (by omega)]
        | succ q2 ih2 =>
          intro i υ hi he2 hn2 hl2
          refine l_Mod_turnBy_55 (n0 υ _ he2 ?_)
          rw [pk_mul, nI_add (512 * t) i, nI_clamp (show i < 2 ^ 31 by omega), nI_clamp (show 512 * t + i < 2 ^ 31 by omega), hn2 i (by omega)]
          refine pk_le (dn D) i (fun z => absurd z (by omega)) (fun _ => ⟨pk_in i 512 (by omega), pk_in (512 * t + i) 163840 (by omega), bI_01 _, ?_⟩)
          rw [nI_add]
          refine ih2 (i + 1) _ (by omega) (he2.tr (am_eq.upI (Or.inl rfl))) (fun i' hi' => by rw [u_In _ _ (by omega)]; exact hn2 i' hi') ((hl2.up (by omega) (by omega)).congr (fun t' s' ht' hs' => ?_))
          by_cases e : t' = t ∧ s' = i
          · obtain ⟨rfl, rfl⟩ := e
            rw [if_pos ⟨rfl, rfl⟩, if_neg (by omega), if_pos (by omega)]
          · rw [if_neg e]
            by_cases e1 : t' < t
            · rw [if_pos e1, if_pos e1]
            · rw [if_neg e1, if_neg e1]
              by_cases e2 : t' = t ∧ s' < i
              · rw [if_pos e2, if_pos (by omega)]
              · rw [if_neg e2, if_neg (by omega)]
      have M1 : ∀ q2 i (υ : am_S), i + q2 = dn D → am_eq (fun c => c = 157 ∨ c = 165) σ υ → (∀ i', i' < i → υ.1 165 i' = bI (dl D t ((k + i') % dn D))) → mL σ υ (fun t' s' => if t' < t then dl (dLay D (fun s => (k + s) % dn D)) t' s' else dl D t' s') → R_Mod_turnBy d K 14 [.ref 153, .int (nI k), .int (nI t), .int (nI i)] [] υ := by
        intro q2
        induction q2 with
        | zero =>
          intro i υ hi he2 hn2 hl2
          refine l_Mod_turnBy_14 (n0 υ _ he2 (pk_le (dn D) i (fun _ => ?_) (fun z => absurd z (by omega))))
          refine M2 (dn D) 0 υ (by omega) he2 (fun i' hi' => hn2 i' (by omega)) (hl2.congr (fun t' s' ht' hs' => ?_))
          by_cases e : t' < t
          · rw [if_pos e, if_pos e]
          · rw [if_neg e, if_neg e, if_neg (by omega)]
        | succ q2 ih2 =>
          intro i υ hi he2 hn2 hl2
          refine l_Mod_turnBy_14 (n0 υ _ he2 (pk_le (dn D) i (fun z => absurd z (by omega)) (fun _ => n0 υ _ he2 ⟨nI_ne0 (by omega) (by omega), ?_⟩)))
          have hmi := hm i
          have hv : υ.1 157 (512 * t + (k + i) % dn D) = bI (dl D t ((k + i) % dn D)) := by
            have := hl2.1 t ((k + i) % dn D) (by omega) (by omega)
            dsimp only at this
            rw [if_neg (Nat.lt_irrefl t)] at this
            exact this
          rw [pk_mul, nI_add i k, pk_rem (by omega) (by omega) (by omega), Nat.add_comm i k, nI_add (512 * t), nI_clamp (show 512 * t + (k + i) % dn D < 2 ^ 31 by omega), nI_clamp (show i < 2 ^ 31 by omega), hv]
          refine ⟨pk_in (512 * t + (k + i) % dn D) 163840 (by omega), pk_in i 512 (by omega), bI_01 _, ?_⟩
          rw [nI_add]
          refine ih2 (i + 1) _ (by omega) (he2.tr (am_eq.upI (Or.inr rfl))) (fun i' hi' => ?_) (hl2.kept (P := fun c => c = 165) (am_eq.upI rfl) (by decide))
          rw [u_I]
          by_cases e : i' = i
          · subst e
            rw [if_pos ⟨rfl, rfl⟩]
          · rw [if_neg (fun z => e z.2)]
            exact hn2 i' (by omega)
      exact M1 (dn D) 0 τ (by omega) he (fun i' hi' => absurd hi' (Nat.not_lt_zero i')) hl
  refine L (dt D) 0 σ (by omega) am_eq.rf ((mL_of hD).congr (fun t' s' _ _ => ?_))
  rw [if_neg (by omega)]
