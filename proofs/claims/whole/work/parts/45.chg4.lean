theorem m_mirrorL {D : sp_D} {d : Nat} {σ : am_S} {K : Int32 → am_S → Prop} (hD : mD σ 0 D) (hok : d_ok D) (h : ∀ τ, mD τ 0 (dMir D) → (∀ j, j ≠ 0 → sEq σ τ j) → am_eq (fun c => c = 156 ∨ c = 157 ∨ c = 165) σ τ → K (nI 1) τ) : R_Mod_mirror d K 11 [.ref 153, .int (nI 0), .null] [] σ := by
  obtain ⟨k1, k2, k3, k4, k5, k6⟩ := id hok
  obtain ⟨⟨g1, g2, g3⟩, g4, g5⟩ := id hD
  have e0 : σ.1 154 0 = nI (dn D) := g1
  have e1 : σ.1 154 1 = nI (dt D) := g2
  have e2 : σ.1 154 2 = nI (dr D) := g3
  have n0 : ∀ (τ : am_S) (KK : Int32 → am_S → Prop), am_eq (fun c => c = 156 ∨ c = 157 ∨ c = 165) σ τ → KK (nI (dn D)) τ → w_Mod_n τ KK := fun τ KK he hK => by
    unfold w_Mod_n
    rw [(he 154 (by omega)).1, e0]
    exact hK
  have P : ∀ q k (τ : am_S), k + q = dr D → am_eq (fun c => c = 156 ∨ c = 157 ∨ c = 165) σ τ → mL σ τ (dl (dMir D)) → (∀ r, τ.1 156 r = if r < k then nI ((dn D - dp D r) % dn D) else σ.1 156 r) → R_Mod_mirror d K 104 [.ref 153, .int (nI k), .null] [] τ := by
    intro q
    induction q with
    | zero =>
      intro k τ hk he hl hp
      refine l_Mod_mirror_104 ?_
      unfold w_Mod_readers
      dsimp only
      rw [(he 154 (by omega)).1, e2]
      refine pk_le (dr D) k (fun _ => ?_) (fun z => absurd z (by omega))
      refine h τ ⟨⟨by rw [(he 154 (by omega)).1]; exact g1, by rw [(he 154 (by omega)).1]; exact g2, by rw [(he 154 (by omega)).1]; exact g3⟩, fun r hr => ⟨by rw [(he 155 (by omega)).1]; exact (g4 r hr).1, ?_⟩, fun t' s' ht' hs' => ?_⟩ (fun j hj => ⟨fun i hi => ?_, fun i hi => ⟨?_, ?_⟩, fun x hx => ?_⟩) he
      · have hr2 : r < dr D := hr
        rw [Nat.mul_zero, Nat.zero_add, hp r, if_pos (by omega)]
        rfl
      · rw [Nat.mul_zero, Nat.zero_add]
        exact hl.1 t' s' ht' hs'
      · rw [(he 154 (by omega)).1]
      · rw [(he 155 (by omega)).1]
      · rw [hp, if_neg (by omega)]
      · exact hl.2 _ (by omega)
    | succ q ih =>
      intro k τ hk he hl hp
      refine l_Mod_mirror_104 ?_
      have b2 := k5 k (by omega)
      have hv : τ.1 156 k = nI (dp D k) := by
        have := (g4 k (by omega)).2
        rw [Nat.mul_zero, Nat.zero_add] at this
        rw [hp, if_neg (by omega), this]
      unfold w_Mod_readers w_Mod_n
      dsimp only
      rw [(he 154 (by omega)).1, e2, e0, nI_clamp (show k < 2 ^ 31 by omega), hv, pk_sub (by omega), pk_rem (by omega) (by omega) (by omega)]
      have i1 : vp_in (nI k) 320 := pk_in k 320 (by omega)
      refine pk_le (dr D) k (fun z => absurd z (by omega)) (fun _ => ⟨i1, nI_ne0 (by omega) (by omega), i1, ?_⟩)
      rw [nI_add]
      refine ih (k + 1) _ (by omega) (he.tr (am_eq.upI (Or.inl rfl))) (hl.kept (P := fun c => c = 156) (am_eq.upI rfl) (by decide)) (fun r => ?_)
      rw [u_I]
      by_cases e : r = k
      · subst e
        rw [if_pos ⟨rfl, rfl⟩, if_pos (by omega)]
      · rw [if_neg (fun z => e z.2), hp]
        by_cases e3 : r < k
        · rw [if_pos e3, if_pos (by omega)]
        · rw [if_neg e3, if_neg (by omega)]
  have L : ∀ q t (τ : am_S), t + q = dt D → am_eq (fun c => c = 157 ∨ c = 165) σ τ → mL σ τ (fun t' s' => if t' < t then dl (dMir D) t' s' else dl D t' s') → R_Mod_mirror d K 11 [.ref 153, .int (nI t), .null] [] τ := by
    intro q
    induction q with
    | zero =>
      intro t τ ht he hl
      refine l_Mod_mirror_11 ?_
      rw [(he 154 (by omega)).1, e1]
      refine pk_le (dt D) t (fun _ => ?_) (fun z => absurd z (by omega))
      refine P (dr D) 0 τ (by omega) (he.mono (fun c hc => by omega)) (hl.congr (fun t' s' ht' hs' => ?_)) (fun r => ?_)
      · by_cases e : t' < t
        · rw [if_pos e]
        · rw [if_neg e]
          show dl D t' s' = (if t' < dt D ∧ s' < dn D then _ else false)
          rw [if_neg (by omega), k6 t' s' (by omega)]
      · rw [if_neg (by omega), (he 156 (by omega)).1]
    | succ q ih =>
      intro t τ ht he hl
      refine l_Mod_mirror_11 ?_
      rw [(he 154 (by omega)).1, e1]
      refine pk_le (dt D) t (fun z => absurd z (by omega)) (fun _ => ?_)
      have M2 : ∀ q2 i (υ : am_S), i + q2 = dn D → am_eq (fun c => c = 157 ∨ c = 165) σ υ → (∀ i', i' < dn D → υ.1 165 i' = bI (dl D t (dn D - 1 - i'))) → mL σ υ (fun t' s' => if t' < t then dl (dMir D) t' s' else if t' = t ∧ s' < i then dl D t (dn D - 1 - s') else dl D t' s') → R_Mod_mirror d K 64 [.ref 153, .int (nI t), .int (nI i)] [] υ := by
        intro q2
        induction q2 with
        | zero =>
          intro i υ hi he2 hn2 hl2
          refine l_Mod_mirror_64 (n0 υ _ (he2.mono (fun c hc => by omega)) (pk_le (dn D) i (fun _ => ?_) (fun z => absurd z (by omega))))
          rw [nI_add]
          refine ih (t + 1) υ (by omega) he2 (hl2.congr (fun t' s' ht' hs' => ?_))
          by_cases e : t' < t
          · rw [if_pos e, if_pos (by omega)]
          · rw [if_neg e]
            by_cases e2 : t' = t
            · subst e2
              rw [if_pos (show t' < t' + 1 by omega)]
              show _ = if t' < dt D ∧ s' < dn D then dl D t' (dn D - 1 - s') else false
              by_cases e3 : s' < dn D
              · rw [if_pos (by omega), if_pos (by omega)]
              · rw [if_neg (by omega), if_neg (by omega)]
                exact k6 t' s' (by omega)
            · rw [if_neg (by omega), if_neg (by omega)]
        | succ q2 ih2 =>
          intro i υ hi he2 hn2 hl2
          refine l_Mod_mirror_64 (n0 υ _ (he2.mono (fun c hc => by omega)) ?_)
          rw [pk_mul, nI_add (512 * t) i, nI_clamp (show i < 2 ^ 31 by omega), nI_clamp (show 512 * t + i < 2 ^ 31 by omega), hn2 i (by omega)]
          refine pk_le (dn D) i (fun z => absurd z (by omega)) (fun _ => ⟨pk_in i 512 (by omega), pk_in (512 * t + i) 163840 (by omega), bI_01 _, ?_⟩)
          rw [nI_add]
          refine ih2 (i + 1) _ (by omega) (he2.tr (am_eq.upI (Or.inl rfl))) (fun i' hi' => by rw [u_In _ _ (by omega)]; exact hn2 i' hi') ((hl2.up (by omega) (by omega)).congr (fun t' s' ht' hs' => ?_))
          by_cases e : t' = t ∧ s' = i
          · obtain ⟨rfl, rfl⟩ := e
            rw [if_pos ⟨rfl, rfl⟩, if_neg (by omega), if_pos (by omega)]
          · rw [if_neg e]
            by_cases e1 : t' < t
            · rw [if_pos e1, if_pos e1]
            · rw [if_neg e1, if_neg e1]
              by_cases e2 : t' = t ∧ s' < i
              · rw [if_pos e2, if_pos (by omega)]
              · rw [if_neg e2, if_neg (by omega)]
      have M1 : ∀ q2 i (υ : am_S), i + q2 = dn D → am_eq (fun c => c = 157 ∨ c = 165) σ υ → (∀ i', i' < i → υ.1 165 i' = bI (dl D t (dn D - 1 - i'))) → mL σ υ (fun t' s' => if t' < t then dl (dMir D) t' s' else dl D t' s') → R_Mod_mirror d K 23 [.ref 153, .int (nI t), .int (nI i)] [] υ := by
        intro q2
        induction q2 with
        | zero =>
          intro i υ hi he2 hn2 hl2
          refine l_Mod_mirror_23 (n0 υ _ (he2.mono (fun c hc => by omega)) (pk_le (dn D) i (fun _ => ?_) (fun z => absurd z (by omega))))
          refine M2 (dn D) 0 υ (by omega) he2 (fun i' hi' => hn2 i' (by omega)) (hl2.congr (fun t' s' ht' hs' => ?_))
          by_cases e : t' < t
          · rw [if_pos e, if_pos e]
          · rw [if_neg e, if_neg e, if_neg (by omega)]
        | succ q2 ih2 =>
          intro i υ hi he2 hn2 hl2
          refine l_Mod_mirror_23 (n0 υ _ (he2.mono (fun c hc => by omega)) (pk_le (dn D) i (fun z => absurd z (by omega)) (fun _ => n0 υ _ (he2.mono (fun c hc => by omega)) ?_)))
          have hv : υ.1 157 (512 * t + dn D - 1 - i) = bI (dl D t (dn D - 1 - i)) := by
            have := hl2.1 t (dn D - 1 - i) (by omega) (by omega)
            dsimp only at this
            rw [if_neg (Nat.lt_irrefl t)] at this
            rw [show 512 * t + dn D - 1 - i = 512 * t + (dn D - 1 - i) by omega]
            exact this
          rw [pk_mul, nI_add (512 * t) (dn D), pk_sub (show 1 ≤ 512 * t + dn D by omega), pk_sub (by omega), nI_clamp (show 512 * t + dn D - 1 - i < 2 ^ 31 by omega), nI_clamp (show i < 2 ^ 31 by omega), hv]
          refine ⟨pk_in (512 * t + dn D - 1 - i) 163840 (by omega), pk_in i 512 (by omega), bI_01 _, ?_⟩
          rw [nI_add]
          refine ih2 (i + 1) _ (by omega) (he2.tr (am_eq.upI (Or.inr rfl))) (fun i' hi' => ?_) (hl2.kept (P := fun c => c = 165) (am_eq.upI rfl) (by decide))
          rw [u_I]
          by_cases e : i' = i
          · subst e
            rw [if_pos ⟨rfl, rfl⟩]
          · rw [if_neg (fun z => e z.2)]
            exact hn2 i' (by omega)
      exact M1 (dn D) 0 τ (by omega) he (fun i' hi' => absurd hi' (Nat.not_lt_zero i')) hl
  refine L (dt D) 0 σ (by omega) am_eq.rf ((mL_of hD).congr (fun t' s' _ _ => ?_))
  rw [if_neg (by omega)]
theorem x_mirror {θ σ : am_S} {K : Int32 → Int32 → am_S → Prop} (hJ : J θ σ) (h : ∀ v τ, J θ τ → K v v τ) : w_WD_mirror σ (fun v τ => w_Mod_mirror τ (K v)) := by
  obtain ⟨⟨S, hc, hm⟩, he⟩ := hJ
  have hok := hc.2.2.1.2
  refine s_beginChange hc (fun τ hB e1 => ?_)
  have hDb : cD τ 3 (sd S) := hB.2.1.1
  refine s_mirrorAll hDb hok (fun υ hD2 e2 => ⟨Or.inr rfl, Or.inr rfl, ?_⟩)
  have e3 : am_eq (fun k => k < 153) σ (am_upI υ 0 12 (nI 0)) := (e1.tr (e2.mono (fun k hk => by omega))).tr c0_e
  have hc2 := (hB.disc (e2.mono (fun k hk => by rcases hk with hk | hk | hk; exact Or.inl (by omega); exact Or.inr (Or.inr (Or.inr (Or.inr (Or.inr (Or.inr hk))))); exact Or.inl (by omega))) hD2 (dMir_ok hok)).end (nI 0)
  refine e_Mod_mirror (fun d => g_change ((hm.cls e3).fault (nI 0)) (fun τ' hm' e4 => ?_))
  have hDm : mD τ' 0 (sd S) := hm'.2.2.1.1
  exact m_mirrorL hDm hok (fun υ' hD' hs' e5 => h _ _ (J_end he hc2 e3 (hm'.disc (e5.mono (fun k hk => by rcases hk with hk | hk | hk; exact Or.inl (by omega); exact Or.inl (by omega); exact Or.inr (Or.inl (by omega)))) (fEq.of e5 (by decide)) hs' hD' (dMir_ok hok)) ((f0_e.tr e4).tr (e5.mono (fun k hk => by omega)))))
