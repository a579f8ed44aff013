theorem dSw_ok {D : sp_D} {a b : Nat} (h : d_ok D) (ha : a < dr D) (hb : b < dr D) : d_ok (dSw D a b) := ⟨h.1, h.2.1, h.2.2.1, h.2.2.2.1, fun r hr' => by
  show (if r = b then dk D a else if r = a then dk D b else dk D r) < dt D ∧ (if r = b then dp D a else if r = a then dp D b else dp D r) < dn D
  by_cases e : r = b
  · rw [if_pos e, if_pos e]
    exact h.2.2.2.2.1 a ha
  · rw [if_neg e, if_neg e]
    by_cases e2 : r = a
    · rw [if_pos e2, if_pos e2]
      exact h.2.2.2.2.1 b hb
    · rw [if_neg e2, if_neg e2]
      exact h.2.2.2.2.1 r hr', h.2.2.2.2.2⟩
theorem x_swap {x y : Int32} {θ σ : am_S} {K : Int32 → Int32 → am_S → Prop} (hJ : J θ σ) (h : ∀ v τ, J θ τ → K v v τ) : w_WD_swap x y σ (fun v τ => w_Mod_swap x y τ (K v)) := by
  obtain ⟨⟨S, hc, hm⟩, he⟩ := hJ
  have hok := hc.2.2.1.2
  have hD := hc.2.2.1.1
  have k4 := hok.2.2.2.1
  have er : σ.1 154 2 = nI (dr (sd S)) := hm.2.2.1.1.1.2.2
  refine g_hasReader hD hok (fun z => am_ite_t rfl ⟨Or.inl rfl, ?_⟩) (fun a ha hx => am_ite_f (by decide) (g_hasReader hD hok (fun z => am_ite_f (by simp) ⟨Or.inl rfl, ?_⟩) (fun b hb hy => am_ite_t (by decide) ?_)))
  · unfold w_Mod_swap w_Mod_readers
    dsimp only
    rw [show (am_upI (am_upI σ 0 12 (nI 1)) 153 18 (nI 0)).1 154 2 = nI (dr (sd S)) from er]
    exact no_le z (h _ _ (J_no he hc hm))
  · subst hx
    unfold w_Mod_swap w_Mod_readers
    dsimp only
    rw [show (am_upI (am_upI σ 0 12 (nI 1)) 153 18 (nI 0)).1 154 2 = nI (dr (sd S)) from er]
    exact ya_le ha (by omega) (no_lt (by omega) z (h _ _ (J_no he hc hm)))
  · subst hx hy
    refine s_beginChange hc (fun τ hB e1 => s_swapReaders hB.2.1.1 k4 ha hb (fun υ hD2 e2 => ⟨Or.inr rfl, Or.inr rfl, ?_⟩))
    have e3 : am_eq (fun k => k < 153) σ (am_upI υ 0 12 (nI 0)) := (e1.tr (e2.mono (fun k hk => by omega))).tr c0_e
    have hok2 := dSw_ok hok ha hb
    have hc2 := (hB.disc (e2.mono (fun k hk => Or.inl (by omega))) hD2 hok2).end (nI 0)
    unfold w_Mod_swap w_Mod_readers
    dsimp only
    rw [show (am_upI (am_upI υ 0 12 (nI 0)) 153 18 (nI 0)).1 154 2 = nI (dr (sd S)) by rw [u_In _ _ (by omega), (e3 154 (by decide)).1]; exact er]
    refine ya_le ha (by omega) (ya_lt hb (by omega) (g_change ((hm.cls e3).fault (nI 0)) (fun τ' hm' e4 => ?_)))
    have hDm : mD τ' 0 (sd S) := hm'.2.2.1.1
    have i1 : vp_in (nI a) 320 := pk_in a 320 (by omega)
    have i2 : vp_in (nI b) 320 := pk_in b 320 (by omega)
    refine ⟨i1, i1, i2, i1, i2, i1, i2, i2, ?_⟩
    rw [nI_clamp (show a < 2 ^ 31 by omega), nI_clamp (show b < 2 ^ 31 by omega)]
    have q1 := hDm.2.1 a ha
    have q2 := hDm.2.1 b hb
    rw [Nat.mul_zero, Nat.zero_add] at q1 q2
    rw [q1.1, q1.2, q2.1, q2.2]
    have e5 : am_eq (fun k => k = 155 ∨ k = 156) τ' (am_upI (am_upI (am_upI (am_upI τ' 155 a (nI (dk (sd S) b))) 156 a (nI (dp (sd S) b))) 155 b (nI (dk (sd S) a))) 156 b (nI (dp (sd S) a))) := (((am_eq.upI (Or.inl rfl)).tr (am_eq.upI (Or.inr rfl))).tr (am_eq.upI (Or.inl rfl))).tr (am_eq.upI (Or.inr rfl))
    refine h _ _ (J_end he hc2 e3 (hm'.disc (D := dSw (sd S) a b) (e5.mono (fun k hk => Or.inl (by omega))) (fEq.of e5 (by decide)) (fun j hj => ⟨fun i hi => rfl, fun i hi => ⟨?_, ?_⟩, fun x hx => rfl⟩) ⟨?_, fun r hr' => ⟨?_, ?_⟩, ?_⟩ hok2) ((f0_e.tr e4).tr (e5.mono (fun k hk => by omega))))
    · rw [u_In _ _ (by omega), u_In _ _ (by omega), u_In _ _ (by omega), u_In _ _ (by omega)]
    · rw [u_In _ _ (by omega), u_In _ _ (by omega), u_In _ _ (by omega), u_In _ _ (by omega)]
    · exact hDm.1
    · rw [Nat.mul_zero, Nat.zero_add]
      show _ = nI (if r = b then dk (sd S) a else if r = a then dk (sd S) b else dk (sd S) r)
      have q := hDm.2.1 r hr'
      rw [Nat.mul_zero, Nat.zero_add] at q
      rw [u_In _ _ (by omega), u_I]
      by_cases e : r = b
      · rw [if_pos ⟨rfl, e⟩, if_pos e]
      · rw [if_neg (fun z => e z.2), if_neg e, u_In _ _ (by omega), u_I]
        by_cases e2 : r = a
        · rw [if_pos ⟨rfl, e2⟩, if_pos e2]
        · rw [if_neg (fun z => e2 z.2), if_neg e2]
          exact q.1
    · rw [Nat.mul_zero, Nat.zero_add]
      show _ = nI (if r = b then dp (sd S) a else if r = a then dp (sd S) b else dp (sd S) r)
      have q := hDm.2.1 r hr'
      rw [Nat.mul_zero, Nat.zero_add] at q
      rw [u_I]
      by_cases e : r = b
      · rw [if_pos ⟨rfl, e⟩, if_pos e]
      · rw [if_neg (fun z => e z.2), if_neg e, u_In _ _ (by omega), u_I]
        by_cases e2 : r = a
        · rw [if_pos ⟨rfl, e2⟩, if_pos e2]
        · rw [if_neg (fun z => e2 z.2), if_neg e2, u_In _ _ (by omega)]
          exact q.2
    · exact hDm.2.2
/-- the rest of x by n as the reference takes it: within 0 .. n - 1, or less than 0 -/
theorem rem_cases (x : Int32) {n : Nat} (h0 : 0 < n) (hn : n < 2 ^ 30) : ∃ k, k < n ∧ ((nI 0 ≤ x - x / nI n * nI n ∧ x - x / nI n * nI n = nI k ∧ (nI 0 ≤ x ∨ k = 0)) ∨ (¬ nI 0 ≤ x - x / nI n * nI n ∧ x - x / nI n * nI n + nI n = nI k ∧ ¬ nI 0 ≤ x)) := by
  have hr := rem_toInt x (nI n)
  rw [nI_toInt (by omega)] at hr
  obtain ⟨b1, b2⟩ := tmod_bounds (a := x.toInt) (M := (n : Int)) (by omega)
  rw [i_ge (by decide), i_ge (by decide)]
  generalize x - x / nI n * nI n = y at hr ⊢
  by_cases e : 0 ≤ y.toInt
  · refine ⟨y.toInt.toNat, by omega, Or.inl ⟨e, ?_, ?_⟩⟩
    · exact Int32.toInt_inj.mp (by rw [nI_toInt (by omega)]; omega)
    · by_cases e2 : 0 ≤ x.toInt
      · exact Or.inl e2
      · have e3 := Int.tmod_nonneg (a := -x.toInt) (n : Int) (by omega)
        rw [Int.neg_tmod] at e3
        exact Or.inr (by omega)
  · refine ⟨(y.toInt + n).toNat, by omega, Or.inr ⟨e, ?_, fun e2 => ?_⟩⟩
    · refine Int32.toInt_inj.mp ?_
      rw [Int32.toInt_add, nI_toInt (by omega), nI_toInt (by omega), Int.bmod_eq_of_le (by omega) (by omega)]
      omega
    · have := Int.tmod_nonneg (n : Int) e2
      omega
theorem xor_ge (x : Int32) {n : Nat} (hn : n < 2 ^ 31) : nI 0 ≤ (x ^^^ nI n) ↔ nI 0 ≤ x := by
  have m0 : (nI n).toBitVec.msb = false := by
    rw [BitVec.msb_eq_toInt]
    exact decide_eq_false (fun z => by
      have := nI_toInt hn
      rw [Int32.toInt] at this
      omega)
  have mx : ∀ y : Int32, nI 0 ≤ y ↔ y.toBitVec.msb = false := fun y => by
    rw [i_ge (by decide), BitVec.msb_eq_toInt, decide_eq_false_iff_not, Int32.toInt]
    omega
  rw [mx, mx, Int32.toBitVec_xor, BitVec.msb_xor, m0, Bool.xor_false]
theorem x_turn {x : Int32} {θ σ : am_S} {K : Int32 → Int32 → am_S → Prop} (hJ : J θ σ) (h : ∀ v τ, J θ τ → K v v τ) : w_WD_turn x σ (fun v τ => w_Mod_turn x τ (K v)) := by
  obtain ⟨⟨S, hc, hm⟩, he⟩ := hJ
  have hok := hc.2.2.1.2
  have k1 := hok.1
  have k2 := hok.2.1
  refine s_beginChange hc (fun τ hB e1 => ?_)
  have hDb : cD τ 3 (sd S) := hB.2.1.1
  have n0 : ¬ nI (dn (sd S)) = nI 0 := nI_ne0 (by omega) (by omega)
  unfold w_Disc_standRound
  rw [hDb.1]
  refine am_ite_t (nI_le (show 1 ≤ dn (sd S) by omega) (by omega)) ?_
  obtain ⟨k, hk, hcase⟩ := rem_cases x (n := dn (sd S)) (by omega) (by omega)
  have go : w_Disc_turnBy (nI k) τ (fun τ3 => w_WD_grant (nI 1) τ3 (fun r4 τ4 => ((r4 = nI 0 ∨ r4 = nI 1) ∧ w_Mod_turn x τ4 (K r4)))) := by
    refine s_turnBy hDb hok hk (fun υ hD2 e2 => ⟨Or.inr rfl, Or.inr rfl, ?_⟩)
    have e3 : am_eq (fun k => k < 153) σ (am_upI υ 0 12 (nI 0)) := (e1.tr (e2.mono (fun k hk => by omega))).tr c0_e
    have hc2 := (hB.disc (e2.mono (fun k hk => by rcases hk with hk | hk; exact Or.inl (by omega); exact Or.inr (Or.inr (Or.inr (Or.inr (Or.inr (Or.inr hk))))))) hD2 (dLay_ok hok)).end (nI 0)
    refine g_change ((hm.cls e3).fault (nI 0)) (fun τ' hm' e4 => ?_)
    have hDm : mD τ' 0 (sd S) := hm'.2.2.1.1
    have tb : w_Mod_turnBy (nI k) τ' (fun τ4 => K (nI 1) (nI 1) τ4) := m_turnBy hDm hok hk (fun υ' hD' hs' e5 => h _ _ (J_end he hc2 e3 (hm'.disc (e5.mono (fun k hk => by rcases hk with hk | hk; exact Or.inl (by omega); exact Or.inr (Or.inl (by omega)))) (fEq.of e5 (by decide)) hs' hD' (dLay_ok hok)) ((f0_e.tr e4).tr (e5.mono (fun k hk => by omega)))))
    refine m_n hDm ⟨n0, ?_⟩
    rcases hcase with ⟨c1, c2, c3⟩ | ⟨c1, c2, c3⟩
    · refine am_ite_t c1 ?_
      rw [c2]
      exact tb
    · refine am_ite_f c1 (m_n hDm ?_)
      rw [c2]
      exact tb
  refine ⟨n0, ?_⟩
  rw [xor_ge x (by omega)]
  rcases hcase with ⟨c1, c2, c3⟩ | ⟨c1, c2, c3⟩
  · rw [c2]
    refine ⟨fun _ => go, fun z => ?_⟩
    rcases c3 with c3 | c3
    · exact absurd c3 z
    · subst c3
      exact am_ite_t rfl go
  · refine am_ite_f c3 (am_ite_f (fun z => c1 ?_) ?_)
    · rw [z]
      exact nI_le (Nat.le_refl _) (by decide)
    · rw [c2]
      exact go
theorem x_undo {θ σ : am_S} {K : Int32 → Int32 → am_S → Prop} (hJ : J θ σ) (h : ∀ v τ, J θ τ → K v v τ) : w_WD_undo σ (fun v τ => w_Mod_undo τ (K v)) := by
  obtain ⟨⟨S, hc, hm⟩, he⟩ := hJ
  obtain ⟨h1, h2, h3, h4, h5, h6, h7, h8, h9, h10⟩ := id hc
  obtain ⟨nx, a1, a2, a3, a4, a5⟩ := id h4
  obtain ⟨fp, b1, b2, b3, b4, b5⟩ := id hm.2.2.2.1
  unfold w_WD_undo
  rw [a3]
  cases hS : sp S with
  | nil =>
    rw [hS] at b2
    refine am_ite_f (by simp) ?_
    show w_Mod_undo (am_upI σ 0 12 (nI 2)) (K (-1))
    unfold w_Mod_undo
    rw [show (am_upI σ 0 12 (nI 2)).1 153 4 = nI 0 from b2]
    exact am_ite_f (by simp) (h _ _ (J_no he hc hm))
  | cons D Ds =>
    rw [hS] at h4 a3 a4 a5 b2 b4 b5
    have hl : (D :: Ds).length = Ds.length + 1 := rfl
    rw [hl] at a3 a4 b2 b4 b5 ⊢
    refine am_ite_t (nI_ne0 (by omega) (by omega)) (s_takeBack h4 (fun τ hD hok hH e1 => s_outdate (fun υ e9 e13 e226 e227 e225 e2 => ?_)))
    have hB : cB υ (sD (sP S Ds) D) := by
      refine ⟨(h2.kept e1 (by omega) (by omega)).kept e2 (by omega) (by omega), ⟨hD.kept e2 (by omega) (by omega) (by omega) (by omega), hok⟩, hH.kept e2 (by omega) (fun k a b => by omega), (h5.kept e1 (by omega) (by omega) (by omega)).kept e2 (by omega) (by omega) (by omega), ⟨e9, e13, e226, e227⟩, ⟨?_, h8.1.2.1, fun k hk => ?_⟩, (h9.kept e1 (by omega) (by omega)).kept e2 (by omega) (by omega), (h10.kept e1 (by omega)).kept e2 (by omega)⟩
      · rw [e225, (e1 22 (by omega)).1]
        exact h8.1.1
      · rw [(e2 23 (by omega)).1, (e1 23 (by omega)).1]
        exact h8.1.2.2 k hk
    have hc2 := hB.end (nI 0)
    have e3 : am_eq (fun k => k < 153) σ (am_upI υ 0 12 (nI 0)) := ((e1.mono (fun k hk => by omega)).tr (e2.mono (fun k hk => by omega))).tr c0_e
    have hl2 : υ.1 7 2 = nI Ds.length := by
      obtain ⟨_, _, _, q, _⟩ := hB.2.2.1
      exact q
    show w_Mod_undo (am_upI υ 0 12 (nI 0)) (K (υ.1 7 2))
    rw [hl2]
    unfold w_Mod_undo
    rw [(e3 153 (by decide)).1, b2, b3]
    refine am_ite_t (nI_ne0 (by omega) (by omega)) ?_
    rw [pk_sub (by omega), nI_add, pk_rem (by omega) (by decide) (by decide), nI_add]
    have hm0 := (hm.cls e3).fault (nI 0)
    have e4 : am_eq (fun k => k = 153) (am_upI (am_upI υ 0 12 (nI 0)) 153 18 (nI 0)) (am_upI (am_upI (am_upI υ 0 12 (nI 0)) 153 18 (nI 0)) 153 4 (nI (Ds.length + 1 - 1))) := am_eq.upI rfl
    generalize hω : am_upI (am_upI υ 0 12 (nI 0)) 153 18 (nI 0) = ω at hm0 e4 ⊢
    have e4' : fEq (fun i => i = 4) ω (am_upI ω 153 4 (nI (Ds.length + 1 - 1))) := fEq.up rfl
    generalize hω2 : am_upI ω 153 4 (nI (Ds.length + 1 - 1)) = ω2 at e4 e4' ⊢
    have s0 : ∀ j, sEq ω ω2 j := fun j => sEq.of e4 (by omega) (by omega) (by omega) (by omega)
    obtain ⟨c1, c2, c3, c4, c5, c6, c7, c8⟩ := hm0
    obtain ⟨fp', d1, d2, d3, d4, d5⟩ := c4
    have efp : fp' = fp := by
      have q : ω.1 153 5 = nI fp := by
        rw [← hω, u_In _ _ (by omega), (e3 153 (by decide)).1]
        exact b3
      rw [q] at d3
      exact ((nI_eq (by omega) (by omega)).mp d3).symm
    subst efp
    have d5' := d5
    rw [show sp (sF S (nI 0)) = D :: Ds from hS, hl] at d5'
    have hm9 : (fp' + Ds.length) % 30 < 30 := Nat.mod_lt _ (by decide)
    have hD0 := (d5' 0 D rfl).1
    rw [show fp' + (Ds.length + 1) - 1 - 0 = fp' + Ds.length by omega] at hD0
    refine s_copy (D := D) (by omega) (by decide) (by omega) hok.2.2.2.1 (hD0.slot hok.2.2.2.1 (s0 _)) (fun τ' hDτ hs e5 => ?_)
    have ef : fEq (fun i => i = 4) ω τ' := e4'.tr (fEq.of e5 (by decide))
    have ee : am_eq (fun k => 153 ≤ k ∧ k ≤ 157) ω τ' := (e4.mono (fun k hk => by omega)).tr (e5.mono (fun k hk => by omega))
    have hs2 : ∀ j, j ≠ 0 → sEq ω τ' j := fun j hj => (s0 j).tr (hs j hj)
    have l4 : τ'.1 153 4 = nI Ds.length := by
      rw [(e5 153 (by decide)).1, ← hω2, u_Is, Nat.add_sub_cancel]
    rw [l4]
    refine h _ _ (J_end (S := sF (sD (sP S Ds) D) (nI 0)) he hc2 e3 ⟨?_, c2.kept ee ef (by decide) (by decide) (by decide), ⟨hDτ, hok⟩, ⟨fp', d1, l4, ?_, ?_, fun i D' hD' => ?_⟩, c5.kept ee ef (hs2 1 (by decide)) (by decide) (by decide), c6.kept ee ef (by decide) (by decide), c7.kept ee ef (by decide) (by decide), c8.kept ef (fun i a b => by omega)⟩ ?_)
    · rw [ef 18 (by decide)]
      exact c1
    · rw [ef 5 (by decide)]
      exact d3
    · show Ds.length ≤ 30
      omega
    · have q := d5' (i + 1) D' hD'
      rw [show fp' + (Ds.length + 1) - 1 - (i + 1) = fp' + Ds.length - 1 - i by omega] at q
      have hm8 : (fp' + Ds.length - 1 - i) % 30 < 30 := Nat.mod_lt _ (by decide)
      exact ⟨q.1.slot q.2.2.2.2.1 (hs2 _ (by omega)), q.2⟩
    · rw [← hω] at ee
      exact f0_e.tr (ee.mono (fun k hk => by omega))
