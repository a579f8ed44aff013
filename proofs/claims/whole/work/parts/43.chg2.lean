theorem dRd_ok {D : sp_D} {t p : Nat} (h : d_ok D) (ht : t < dt D) (hp : p < dn D) (hr : dr D < 10) : d_ok (dRd D t p) := ⟨h.1, h.2.1, h.2.2.1, hr, fun r hr' => by
  show (if r = dr D then t else dk D r) < dt D ∧ (if r = dr D then p else dp D r) < dn D
  have hr2 : r < dr D + 1 := hr'
  by_cases e : r = dr D
  · rw [if_pos e, if_pos e]
    exact ⟨ht, hp⟩
  · rw [if_neg e, if_neg e]
    exact h.2.2.2.2.1 r (by omega), h.2.2.2.2.2⟩
theorem x_reader {x y : Int32} {θ σ : am_S} {K : Int32 → Int32 → am_S → Prop} (hJ : J θ σ) (h : ∀ v τ, J θ τ → K v v τ) : w_WD_reader x y σ (fun v τ => w_Mod_reader x y τ (K v)) := by
  obtain ⟨⟨S, hc, hm⟩, he⟩ := hJ
  have hok := hc.2.2.1.2
  have hD := hc.2.2.1.1
  have k2 := hok.2.1
  have k3 := hok.2.2.1
  have k4 := hok.2.2.2.1
  have e154 : ∀ f : Int32, (am_upI σ 0 12 f).1 154 = σ.1 154 := fun f => rfl
  have en : σ.1 154 0 = nI (dn (sd S)) := hm.2.2.1.1.1.1
  have et : σ.1 154 1 = nI (dt (sd S)) := hm.2.2.1.1.1.2.1
  have er : σ.1 154 2 = nI (dr (sd S)) := hm.2.2.1.1.1.2.2
  refine g_hasTrack hD hok (fun z => am_ite_t rfl ?_) (fun t ht hx => am_ite_f (by decide) (g_hasSector hD hok (fun z => am_ite_f (by simp) ?_) (fun s hs hy => am_ite_t (by decide) ?_)))
  · show w_Mod_reader x y (am_upI σ 0 12 (nI 1)) (K (-1))
    unfold w_Mod_reader
    rw [e154, et]
    exact no_le z (h _ _ (J_no he hc hm))
  · subst hx
    show w_Mod_reader (nI t) y (am_upI σ 0 12 (nI 1)) (K (-1))
    unfold w_Mod_reader w_Mod_n
    dsimp only
    rw [e154, et, show (am_upI (am_upI σ 0 12 (nI 1)) 153 18 (nI 0)).1 154 0 = nI (dn (sd S)) from en]
    exact ya_le ht (by omega) (no_lt (by omega) z (h _ _ (J_no he hc hm)))
  · subst hx hy
    have go : ∀ (v : Int32) (τ : am_S), am_eq (fun k => k < 153) σ τ → (dr (sd S) = 10 → K v (-1) (am_upI (am_upI τ 153 18 (nI 0)) 153 18 (nI 4))) → (dr (sd S) ≠ 10 → w_Mod_change (am_upI τ 153 18 (nI 0)) (fun τ11 => (vp_in (τ11.1 154 2) 320 ∧ (vp_in (τ11.1 154 2) 320 ∧ (vp_in (nI 2) 96 ∧ K v (((τ11.1 154 2) + (nI 1)) - (nI 1)) (am_upI (am_upI (am_upI τ11 155 (Int32.toNatClampNeg (τ11.1 154 2)) (nI t)) 156 (Int32.toNatClampNeg (τ11.1 154 2)) (nI s)) 154 2 ((τ11.1 154 2) + (nI 1)))))))) → w_Mod_reader (nI t) (nI s) τ (K v) := by
      intro v τ e3 h10 hn10
      unfold w_Mod_reader w_Mod_n w_Mod_readers
      dsimp only
      rw [show τ.1 154 1 = nI (dt (sd S)) by rw [(e3 154 (by decide)).1]; exact et, show (am_upI τ 153 18 (nI 0)).1 154 0 = nI (dn (sd S)) by rw [u_In _ _ (by omega), (e3 154 (by decide)).1]; exact en, show (am_upI τ 153 18 (nI 0)).1 154 2 = nI (dr (sd S)) by rw [u_In _ _ (by omega), (e3 154 (by decide)).1]; exact er]
      refine ya_le ht (by omega) (ya_lt hs (by omega) ?_)
      by_cases e : dr (sd S) = 10
      · exact am_ite_f (by rw [e]; simp) (h10 e)
      · exact am_ite_t (fun z => e ((nI_eq (by omega) (by decide)).mp z)) (hn10 e)
    rw [hD.2.2.1]
    refine pk_lt (dr (sd S)) 10 (fun hr => ?_) (fun hr => ?_)
    · refine s_beginChange hc (fun τ hB e1 => s_addReader hB.2.1.1 hr (fun υ hD2 e2 => ?_))
      have e3 : am_eq (fun k => k < 153) σ (am_upI υ 0 12 (nI 0)) := (e1.tr (e2.mono (fun k hk => by omega))).tr c0_e
      have hok2 := dRd_ok hok ht hs hr
      have hc2 := (hB.disc (e2.mono (fun k hk => Or.inl (by omega))) hD2 hok2).end (nI 0)
      refine go (nI (dr (sd S))) _ e3 (fun z => absurd z (by omega)) (fun _ => g_change ((hm.cls e3).fault (nI 0)) (fun τ' hm' e4 => ?_))
      have hDm := hm'.2.2.1.1
      have er' : τ'.1 154 2 = nI (dr (sd S)) := hDm.1.2.2
      rw [er', nI_clamp (by omega), nI_add, pk_sub (by omega), Nat.add_sub_cancel]
      have e5 : am_eq (fun k => 154 ≤ k ∧ k ≤ 156) τ' (am_upI (am_upI (am_upI τ' 155 (dr (sd S)) (nI t)) 156 (dr (sd S)) (nI s)) 154 2 (nI (dr (sd S) + 1))) := ((am_eq.upI (by decide)).tr (am_eq.upI (by decide))).tr (am_eq.upI (by decide))
      refine ⟨pk_in (dr (sd S)) 320 (by omega), pk_in (dr (sd S)) 320 (by omega), pk_in 2 96 (by decide), h _ _ (J_end he hc2 e3 (hm'.disc (D := dRd (sd S) t s) (e5.mono (fun k hk => Or.inl (by omega))) (fEq.of e5 (by decide)) (fun j hj => ⟨fun i hi => ?_, fun i hi => ⟨?_, ?_⟩, fun x hx => rfl⟩) ⟨⟨?_, ?_, ?_⟩, fun r hr' => ?_, fun t' s' ht' hs' => ?_⟩ hok2) ((f0_e.tr e4).tr (e5.mono (fun k hk => by omega))))⟩
      · rw [u_In _ _ (by omega), u_In _ _ (by omega), u_In _ _ (by omega)]
      · rw [u_In _ _ (by omega), u_In _ _ (by omega), u_In _ _ (by omega)]
      · rw [u_In _ _ (by omega), u_In _ _ (by omega), u_In _ _ (by omega)]
      · exact hDm.1.1
      · exact hDm.1.2.1
      · rfl
      · rw [Nat.mul_zero, Nat.zero_add]
        have hr2 : r < dr (sd S) + 1 := hr'
        have q := hDm.2.1 r
        rw [Nat.mul_zero, Nat.zero_add] at q
        show _ = nI (if r = dr (sd S) then t else dk (sd S) r) ∧ _ = nI (if r = dr (sd S) then s else dp (sd S) r)
        by_cases e : r = dr (sd S)
        · rw [if_pos e, if_pos e, e]
          exact ⟨by rw [u_In _ _ (by omega), u_In _ _ (by omega), u_Is], by rw [u_In _ _ (by omega), u_Is]⟩
        · rw [if_neg e, if_neg e, u_In _ _ (by omega), u_In _ _ (by omega), u_In _ _ (by omega), u_In _ _ (by omega), u_In _ _ (by omega), u_In _ _ (by omega)]
          exact q (show r < dr (sd S) by omega)
      · exact hDm.2.2 t' s' ht' hs'
    · exact go (-1) _ c0_e (fun _ => h _ _ (J_no he hc hm)) (fun z => absurd z (by omega))
theorem dLf_ok {D : sp_D} {i : Nat} (h : d_ok D) (hi : i < dr D) : d_ok (dLf D i) := ⟨h.1, h.2.1, h.2.2.1, Nat.le_trans (Nat.sub_le _ _) h.2.2.2.1, fun r hr' => by
  show (if r < i then dk D r else dk D (r + 1)) < dt D ∧ (if r < i then dp D r else dp D (r + 1)) < dn D
  have hr2 : r < dr D - 1 := hr'
  by_cases e : r < i
  · rw [if_pos e, if_pos e]
    exact h.2.2.2.2.1 r (by omega)
  · rw [if_neg e, if_neg e]
    exact h.2.2.2.2.1 (r + 1) (by omega), h.2.2.2.2.2⟩
theorem x_lift {x : Int32} {θ σ : am_S} {K : Int32 → Int32 → am_S → Prop} (hJ : J θ σ) (h : ∀ v τ, J θ τ → K v v τ) : w_WD_lift x σ (fun v τ => w_Mod_lift x τ (K v)) := by
  obtain ⟨⟨S, hc, hm⟩, he⟩ := hJ
  have hok := hc.2.2.1.2
  have hD := hc.2.2.1.1
  have k4 := hok.2.2.2.1
  have er : σ.1 154 2 = nI (dr (sd S)) := hm.2.2.1.1.1.2.2
  refine g_hasReader hD hok (fun z => am_ite_f (by simp) ?_) (fun i hi hx => am_ite_t (by decide) ?_)
  · refine e_Mod_lift (fun d => ?_)
    unfold w_Mod_readers
    dsimp only
    rw [show (am_upI (am_upI σ 0 12 (nI 1)) 153 18 (nI 0)).1 154 2 = nI (dr (sd S)) from er]
    exact no_lt (by omega) z (h _ _ (J_no he hc hm))
  · subst hx
    refine s_beginChange hc (fun τ hB e1 => s_removeReader hB.2.1.1 k4 hi (fun υ hD2 e2 => ?_))
    have e3 : am_eq (fun k => k < 153) σ (am_upI υ 0 12 (nI 0)) := (e1.tr (e2.mono (fun k hk => by omega))).tr c0_e
    have hok2 := dLf_ok hok hi
    have hc2 := (hB.disc (e2.mono (fun k hk => Or.inl (by omega))) hD2 hok2).end (nI 0)
    rw [hD2.2.2.1]
    refine e_Mod_lift (fun d => ?_)
    unfold w_Mod_readers
    dsimp only
    rw [show (am_upI (am_upI υ 0 12 (nI 0)) 153 18 (nI 0)).1 154 2 = nI (dr (sd S)) by rw [u_In _ _ (by omega), (e3 154 (by decide)).1]; exact er]
    refine ya_lt hi (by omega) (g_change ((hm.cls e3).fault (nI 0)) (fun τ' hm' e4 => ?_))
    have hDm := hm'.2.2.1.1
    have er' : τ'.1 154 2 = nI (dr (sd S)) := hDm.1.2.2
    have L : ∀ q k (ω : am_S), k + q + 1 = dr (sd S) → i ≤ k → am_eq (fun c => c = 155 ∨ c = 156) τ' ω → (∀ r, ω.1 155 r = (if r < i ∨ k ≤ r then τ'.1 155 r else τ'.1 155 (r + 1)) ∧ ω.1 156 r = (if r < i ∨ k ≤ r then τ'.1 156 r else τ'.1 156 (r + 1))) → R_Mod_lift d (K (nI (dr (dLf (sd S) i)))) 29 [.ref 153, .null, .int (nI k)] [] ω := by
      intro q
      induction q with
      | zero =>
        intro k ω hk hik e5 hw
        refine l_Mod_lift_29 ?_
        unfold w_Mod_readers
        dsimp only
        rw [show ω.1 154 2 = nI (dr (sd S)) by rw [(e5 154 (by decide)).1]; exact er', nI_add k 1]
        refine pk_le (dr (sd S)) (k + 1) (fun _ => ⟨pk_in 2 96 (by decide), ?_⟩) (fun z => absurd z (by omega))
        rw [pk_sub (by omega)]
        have e6 : am_eq (fun c => 154 ≤ c ∧ c ≤ 156) τ' (am_upI ω 154 2 (nI (dr (sd S) - 1))) := (e5.mono (fun c hc => by omega)).tr (am_eq.upI (by decide))
        have q5 : ∀ r, ω.1 157 r = τ'.1 157 r := fun r => by rw [(e5 157 (by decide)).1]
        refine h _ _ (J_end he hc2 e3 (hm'.disc (D := dLf (sd S) i) (e6.mono (fun k hk => Or.inl (by omega))) (fEq.of e6 (by decide)) (fun j hj => ⟨fun i2 hi2 => ?_, fun i2 hi2 => ⟨?_, ?_⟩, fun x hx => ?_⟩) ⟨⟨?_, ?_, ?_⟩, fun r hr' => ?_, fun t' s' ht' hs' => ?_⟩ hok2) ((f0_e.tr e4).tr (e6.mono (fun k hk => by omega))))
        · rw [u_In _ _ (by omega), (e5 154 (by decide)).1]
        · rw [u_In _ _ (by omega)]
          rw [(hw _).1, if_pos (by omega)]
        · rw [u_In _ _ (by omega)]
          rw [(hw _).2, if_pos (by omega)]
        · rw [u_In _ _ (by omega)]; exact q5 _
        · rw [u_In _ _ (by omega), (e5 154 (by decide)).1]; exact hDm.1.1
        · rw [u_In _ _ (by omega), (e5 154 (by decide)).1]; exact hDm.1.2.1
        · rfl
        · have hr2 : r < dr (sd S) - 1 := hr'
          rw [Nat.mul_zero, Nat.zero_add, u_In _ _ (by omega), u_In _ _ (by omega), (hw r).1, (hw r).2]
          have q1 := hDm.2.1 r (show r < dr (sd S) by omega)
          have q2 := hDm.2.1 (r + 1) (show r + 1 < dr (sd S) by omega)
          rw [Nat.mul_zero, Nat.zero_add] at q1 q2
          show _ = nI (if r < i then dk (sd S) r else dk (sd S) (r + 1)) ∧ _ = nI (if r < i then dp (sd S) r else dp (sd S) (r + 1))
          by_cases e : r < i
          · have g : r < i ∨ k ≤ r := Or.inl e
            rw [if_pos g, if_pos g, if_pos e, if_pos e]
            exact q1
          · have g : ¬ (r < i ∨ k ≤ r) := by omega
            rw [if_neg g, if_neg g, if_neg e, if_neg e]
            exact q2
        · rw [u_In _ _ (by omega), q5]; exact hDm.2.2 t' s' ht' hs'
      | succ q ih =>
        intro k ω hk hik e5 hw
        refine l_Mod_lift_29 ?_
        unfold w_Mod_readers
        dsimp only
        rw [show ω.1 154 2 = nI (dr (sd S)) by rw [(e5 154 (by decide)).1]; exact er', nI_add k 1, nI_clamp (show k < 2 ^ 31 by omega), nI_clamp (show k + 1 < 2 ^ 31 by omega)]
        refine pk_le (dr (sd S)) (k + 1) (fun z => absurd z (by omega)) (fun _ => ⟨pk_in (k + 1) 320 (by omega), pk_in k 320 (by omega), pk_in (k + 1) 320 (by omega), pk_in k 320 (by omega), ?_⟩)
        refine ih (k + 1) _ (by omega) (by omega) (e5.tr ((am_eq.upI (Or.inl rfl)).tr (am_eq.upI (Or.inr rfl)))) (fun r => ?_)
        have a1 : ω.1 155 (k + 1) = τ'.1 155 (k + 1) := by rw [(hw (k + 1)).1, if_pos (by omega)]
        have a2 : ω.1 156 (k + 1) = τ'.1 156 (k + 1) := by rw [(hw (k + 1)).2, if_pos (by omega)]
        rw [a1, a2]
        by_cases e : r = k
        · subst e
          have g : ¬ (r < i ∨ r + 1 ≤ r) := by omega
          rw [if_neg g, if_neg g, u_Is, u_In _ _ (by omega), u_Is]
          exact ⟨rfl, rfl⟩
        · rw [u_In _ _ (by omega), u_In _ _ (by omega), u_In _ _ (by omega), u_In _ _ (by omega), (hw r).1, (hw r).2]
          by_cases e2 : r < i ∨ k ≤ r
          · have g : r < i ∨ k + 1 ≤ r := by omega
            rw [if_pos e2, if_pos e2, if_pos g, if_pos g]
            exact ⟨rfl, rfl⟩
          · have g : ¬ (r < i ∨ k + 1 ≤ r) := by omega
            rw [if_neg e2, if_neg e2, if_neg g, if_neg g]
            exact ⟨rfl, rfl⟩
    refine L (dr (sd S) - 1 - i) i τ' (by omega) (Nat.le_refl _) am_eq.rf (fun r => ?_)
    have g : r < i ∨ i ≤ r := by omega
    rw [if_pos g, if_pos g]
    exact ⟨rfl, rfl⟩
