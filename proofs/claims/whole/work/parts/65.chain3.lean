/-! CHAINS: the reference strings them -/
theorem gd_l {l l' : List Bool} {i : Nat} (h : i < l.length) : (l ++ l').getD i false = l.getD i false := by
  rw [List.getD_eq_getElem?_getD, List.getD_eq_getElem?_getD, List.getElem?_append_left h]
theorem gd_r {l l' : List Bool} {i : Nat} (h : l.length ≤ i) : (l ++ l').getD i false = l'.getD (i - l.length) false := by
  rw [List.getD_eq_getElem?_getD, List.getD_eq_getElem?_getD, List.getElem?_append_right h]
theorem gd_m {n i : Nat} {f : Nat → Bool} (h : i < n) : ((List.range n).map f).getD i false = f i := by
  rw [List.getD_eq_getElem?_getD, List.getElem?_map, List.getElem?_range h]
  rfl
theorem tb_t {l t : Nat} (h : l < 2 ^ t) : (l + 2 ^ t).testBit t = true := by
  rw [Nat.add_comm, Nat.testBit_two_pow_add_eq, Nat.testBit_lt_two_pow h]
  rfl
theorem tb_l {l t i : Nat} (h : i < t) : (l + 2 ^ t).testBit i = l.testBit i := by
  rw [Nat.add_comm, Nat.testBit_two_pow_add_gt h]
theorem m_string {r : Nat} (hr1 : 1 ≤ r) (hr : r ≤ 9) : ∀ q t p l s (σ : am_S) (K : am_S → Prop) (d : Nat), t + q = r + 1 → 1 ≤ p → p ≤ t → l < 2 ^ t → (∀ i, i < t → σ.1 168 i = bI (l.testBit i)) → σ.1 153 29 = nI s → s + (outL r q t p l).length ≤ 512 → (∀ τ, am_eq (fun k => k = 153 ∨ k = 157 ∨ k = 168) σ τ → fEq scF σ τ → τ.1 153 29 = nI (s + (outL r q t p l).length) → (∀ i, i < t → τ.1 168 i = σ.1 168 i) → (∀ x, τ.1 157 x = if s ≤ x ∧ x < s + (outL r q t p l).length then bI ((outL r q t p l).getD (x - s) false) else σ.1 157 x) → K τ) → u_Mod_string (d + q + 1) (nI t) (nI p) (nI r) σ K := by
  intro q
  induction q with
  | zero =>
    intro t p l s σ K d ht hp hpt hl hL h29 hlen h
    refine e_Mod_string (pk_le t r (fun z => absurd z (by omega)) (fun _ => ⟨nI_ne0 (by omega) (by omega), ?_⟩))
    rw [pk_rem (by omega) (by omega) (by omega)]
    have hmd : r % p ≤ r := Nat.mod_le _ _
    refine pk_eq (r % p) 0 (fun z => ?_) (fun z => ?_)
    · have eo : outL r 0 t p l = (List.range p).map (fun k => l.testBit (k + 1)) := by
        show (if r % p = 0 then _ else _) = _
        rw [if_pos z]
      rw [eo] at hlen h
      have ln : ((List.range p).map (fun k => l.testBit (k + 1))).length = p := by rw [List.length_map, List.length_range]
      rw [ln] at hlen h
      have hpr : p ≤ r := Nat.le_of_dvd (by omega) (Nat.dvd_of_mod_eq_zero z)
      have L : ∀ q2 k (τ : am_S), k + q2 = p → am_eq (fun k => k = 153 ∨ k = 157) σ τ → fEq scF σ τ → τ.1 153 29 = nI (s + k) → (∀ x, τ.1 157 x = if s ≤ x ∧ x < s + k then bI (l.testBit (x - s + 1)) else σ.1 157 x) → R_Mod_string (d + 0) K 15 [.ref 153, .null, .int (nI p), .null, .int (nI (k + 1))] [] τ := by
        intro q2
        induction q2 with
        | zero =>
          intro k τ hk he hf h29' hx
          have : k = p := by omega
          subst this
          refine l_Mod_string_15 (pk_lt k (k + 1) (fun _ => h τ (he.mono (fun k hk => by omega)) hf h29' (fun i hi => by rw [(he 168 (by decide)).1]) (fun x => ?_)) (fun z => absurd z (by omega)))
          rw [hx x]
          by_cases e : s ≤ x ∧ x < s + k
          · rw [if_pos e, if_pos e, gd_m (by omega)]
          · rw [if_neg e, if_neg e]
        | succ q2 ih2 =>
          intro k τ hk he hf h29' hx
          refine l_Mod_string_15 (pk_lt p (k + 1) (fun z => absurd z (by omega)) (fun _ => ⟨pk_in (k + 1) 16 (by omega), ?_⟩))
          rw [nI_clamp (show k + 1 < 2 ^ 31 by omega), (he 168 (by decide)).1, h29', nI_clamp (show s + k < 2 ^ 31 by omega), nI_add (k + 1) 1, nI_add (s + k) 1]
          have nx : ∀ b : Bool, b = l.testBit (k + 1) → R_Mod_string (d + 0) K 15 [.ref 153, .null, .int (nI p), .null, .int (nI (k + 1 + 1))] [] (am_upI (am_upI τ 157 (s + k) (bI b)) 153 29 (nI (s + k + 1))) := by
            intro b hb
            refine ih2 (k + 1) _ (by omega) ((he.tr (am_eq.upI (Or.inr rfl))).tr (am_eq.upI (Or.inl rfl))) ((hf.tr (fEq.of (am_eq.upI (P := fun k => k = 157) rfl) (by decide))).tr (fEq.up (show 25 ≤ 29 by decide))) (u_Is _ _ _ _) (fun x => ?_)
            rw [u_In _ _ (by omega)]
            by_cases e : x = s + k
            · rw [e, u_Is, if_pos (by omega), hb, show s + k - s + 1 = k + 1 by omega]
            · rw [u_In _ _ (by omega), hx x]
              by_cases e2 : s ≤ x ∧ x < s + k
              · rw [if_pos e2, if_pos (by omega)]
              · rw [if_neg e2, if_neg (by omega)]
          rw [hL (k + 1) (by omega)]
          cases hb : l.testBit (k + 1) with
          | false => exact am_ite_t (by decide) ⟨pk_in (s + k) 163840 (by omega), nx false hb.symm⟩
          | true => exact am_ite_f (fun z => z rfl) ⟨pk_in (s + k) 163840 (by omega), nx true hb.symm⟩
      exact L p 0 σ (by omega) am_eq.rf fEq.rf h29 (fun x => by rw [if_neg (by omega)])
    · have eo : outL r 0 t p l = [] := by
        show (if r % p = 0 then _ else _) = _
        rw [if_neg z]
      rw [eo] at h
      exact h σ am_eq.rf fEq.rf h29 (fun i hi => rfl) (fun x => by rw [if_neg (by rw [List.length_nil]; omega)])
  | succ q ih =>
    intro t p l s σ K d ht hp hpt hl hL h29 hlen h
    have hl2 : l < 2 ^ (t + 1) := by rw [Nat.pow_succ]; omega
    have hl3 : l + 2 ^ t < 2 ^ (t + 1) := by rw [Nat.pow_succ]; omega
    have ln1 : ∀ (b : Bool), l.testBit (t - p) = b → ∀ i, i < t + 1 → (am_upI σ 168 t (bI b)).1 168 i = bI ((if b = true then l + 2 ^ t else l).testBit i) := by
      intro b hb i hi
      by_cases e : i = t
      · rw [e, u_Is]
        cases b with
        | true => rw [if_pos rfl, tb_t hl]
        | false => rw [if_neg (by decide), Nat.testBit_lt_two_pow hl]
      · rw [u_In _ _ (by omega), hL i (by omega)]
        cases b with
        | true => rw [if_pos rfl, tb_l (by omega)]
        | false => rw [if_neg (by decide)]
    refine e_Mod_string (pk_le t r (fun _ => ?_) (fun z => absurd z (by omega)))
    rw [pk_sub hpt, nI_clamp (show t - p < 2 ^ 31 by omega), nI_clamp (show t < 2 ^ 31 by omega), hL (t - p) (by omega), nI_add t 1]
    refine ⟨pk_in (t - p) 16 (by omega), pk_in t 16 (by omega), ?_⟩
    cases hb : l.testBit (t - p) with
    | true =>
      have eo : outL r (q + 1) t p l = outL r q (t + 1) p (l + 2 ^ t) := by
        show (if l.testBit (t - p) = true then _ else _) = _
        rw [if_pos hb]
      rw [eo] at hlen h
      refine ih (t + 1) p (l + 2 ^ t) s _ _ d (by omega) hp (by omega) hl3 (ln1 true hb) (by rw [u_In _ _ (by omega)]; exact h29) hlen (fun τ he hf h29' h168 hx => ⟨pk_in (t - p) 16 (by omega), ?_⟩)
      rw [h168 (t - p) (by omega), u_In _ _ (by omega), hL (t - p) (by omega), hb]
      refine l_Mod_string_98 (am_ite_t (by decide) ?_)
      refine h τ ((am_eq.upI (Or.inr (Or.inr rfl))).tr he) ((fEq.of (am_eq.upI (P := fun k => k = 168) rfl) (by decide)).tr hf) h29' (fun i hi => by rw [h168 i (by omega), u_In _ _ (by omega)]) (fun x => ?_)
      rw [hx x, u_In _ _ (by omega)]
    | false =>
      have eo : outL r (q + 1) t p l = outL r q (t + 1) p l ++ outL r q (t + 1) t (l + 2 ^ t) := by
        show (if l.testBit (t - p) = true then _ else _) = _
        rw [if_neg (by rw [hb]; decide)]
      rw [eo] at hlen h
      rw [List.length_append] at hlen h
      generalize hA : outL r q (t + 1) p l = A at hlen h
      generalize hB : outL r q (t + 1) t (l + 2 ^ t) = B at hlen h
      have := ih (t + 1) p l s (am_upI σ 168 t (bI false)) (fun τ2 => vp_in (nI (t - p)) 16 ∧ R_Mod_string (d + q + 1) K 98 [.ref 153, .int (nI t), .null, .int (nI r), .int (τ2.1 168 (t - p) + nI 1)] [] τ2) d (by omega) hp (by omega) hl2 (ln1 false hb) (by rw [u_In _ _ (by omega)]; exact h29)
      rw [hA] at this
      refine this (by omega) (fun τ he hf h29' h168 hx => ⟨pk_in (t - p) 16 (by omega), ?_⟩)
      rw [h168 (t - p) (by omega), u_In _ _ (by omega), hL (t - p) (by omega), hb]
      refine l_Mod_string_98 (am_ite_f (by decide) ⟨pk_in t 16 (by omega), ?_⟩)
      rw [nI_clamp (show t < 2 ^ 31 by omega), nI_add t 1]
      have g168 : ∀ i, i < t + 1 → (am_upI τ 168 t (nI 0 + nI 1)).1 168 i = bI ((l + 2 ^ t).testBit i) := by
        intro i hi
        by_cases e : i = t
        · rw [e, u_Is, tb_t hl]
          rfl
        · rw [u_In _ _ (by omega), h168 i (by omega), u_In _ _ (by omega), hL i (by omega), tb_l (by omega)]
      have th2 := ih (t + 1) t (l + 2 ^ t) (s + A.length) (am_upI τ 168 t (nI 0 + nI 1)) (fun τ5 => R_Mod_string (d + q + 1) K 98 [.ref 153, .int (nI t), .null, .int (nI r), .int (nI 0 + nI 1 + nI 1)] [] τ5) d (by omega) (by omega) (by omega) hl3 g168 (by rw [u_In _ _ (by omega)]; exact h29')
      rw [hB] at th2
      refine th2 (by omega) (fun υ he2 hf2 h29'' h168' hx' => ?_)
      refine l_Mod_string_98 (am_ite_t (by decide) ?_)
      refine h υ (((am_eq.upI (Or.inr (Or.inr rfl))).tr he).tr ((am_eq.upI (Or.inr (Or.inr rfl))).tr he2)) (((fEq.of (am_eq.upI (P := fun k => k = 168) rfl) (by decide)).tr hf).tr ((fEq.of (am_eq.upI (P := fun k => k = 168) rfl) (by decide)).tr hf2)) (by rw [h29'', Nat.add_assoc]) (fun i hi => by rw [h168' i (by omega), u_In _ _ (by omega), h168 i (by omega), u_In _ _ (by omega)]) (fun x => ?_)
      rw [hx' x]
      by_cases e : s + A.length ≤ x ∧ x < s + A.length + B.length
      · rw [if_pos e, if_pos (by omega), gd_r (by omega), show x - (s + A.length) = x - s - A.length by omega]
      · rw [if_neg e, u_In _ _ (by omega), hx x]
        by_cases e2 : s ≤ x ∧ x < s + A.length
        · rw [if_pos e2, if_pos (by omega), gd_l (by omega)]
        · rw [if_neg e2, if_neg (by omega), u_In _ _ (by omega)]
theorem dl_ch {r x : Nat} (h : x < 2 ^ r) : dl (dCh r) 0 x = chB r x := by
  show (if 0 = 0 ∧ x < 2 ^ r then chB r x else false) = chB r x
  rw [if_pos ⟨rfl, h⟩]
theorem wd_ch (r a : Nat) : wdD (dCh r) a = chV r a := by
  have A : ∀ j, wd (dCh r) a j = woA (fun k => chB r ((a + k) % 2 ^ r)) j := by
    intro j
    induction j with
    | zero => rfl
    | succ j ih =>
      show 2 * wd (dCh r) a j + (dl (dCh r) 0 ((a + j) % 2 ^ r)).toNat = 2 * woA _ j + (chB r ((a + j) % 2 ^ r)).toNat
      rw [ih, dl_ch (Nat.mod_lt _ (Nat.two_pow_pos r))]
  exact A r
theorem m_chain {r w d : Nat} {σ : am_S} {K : Int32 → am_S → Prop} (hr1 : 1 ≤ r) (hr9 : r ≤ 9) (hw : w < 2 ^ r) (hD : mD σ 0 (dE (2 ^ r))) (h : ∀ τ, mD τ 0 (dLay (dCh r) (fun s => (chA r w + s) % 2 ^ r)) → (∀ j, j ≠ 0 → sEq σ τ j) → am_eq (fun k => 153 ≤ k ∧ k ≤ 157 ∨ k = 165 ∨ k = 168) σ τ → fEq scF σ τ → K (nI 1) τ) : w_Mod_string (nI 1) (nI 1) (nI r) (am_upI (am_upI σ 168 0 (nI 0)) 153 29 (nI 0)) (fun τ10 => (vp_in (nI 1) 96 ∧ (vp_in (nI 2) 96 ∧ R_Mod_chain d K 81 [.ref 153, .int (nI r), .int (nI w), .int (nI 0)] [] (am_upI (am_upI τ10 154 1 (nI 1)) 154 2 (nI r))))) := by
  have hp9 := p2_512 hr9
  have hok := dCh_ok hr9
  obtain ⟨hwA, hwP⟩ := ch_w hr1 hr9 hw
  have hA : chA r w < 2 ^ r := Nat.mod_lt _ (Nat.two_pow_pos r)
  have oe := ch_o hr1 hr9
  have ol : (outL r r 1 1 0).length = 2 ^ r := by rw [oe, List.length_map, List.length_range]
  intro d2
  have := m_string hr1 hr9 r 1 1 0 0 (am_upI (am_upI σ 168 0 (nI 0)) 153 29 (nI 0)) (fun τ10 => (vp_in (nI 1) 96 ∧ (vp_in (nI 2) 96 ∧ R_Mod_chain d K 81 [.ref 153, .int (nI r), .int (nI w), .int (nI 0)] [] (am_upI (am_upI τ10 154 1 (nI 1)) 154 2 (nI r))))) (d2 + 13 - r) (by omega) (by decide) (by decide) (by decide) (fun i hi => by rw [show i = 0 by omega]; rfl) (u_Is _ _ _ _)
  rw [show d2 + 13 - r + r + 1 = d2 + 14 by omega, ol, Nat.zero_add] at this
  refine this hp9 (fun τ he hf h29 _ hx => ⟨pk_in 1 96 (by decide), pk_in 2 96 (by decide), ?_⟩)
  have he' : am_eq (fun k => k = 153 ∨ k = 157 ∨ k = 168) σ τ := ((am_eq.upI (Or.inr (Or.inr rfl))).tr (am_eq.upI (Or.inl rfl))).tr he
  have hf' : fEq scF σ τ := ((fEq.of (am_eq.upI (P := fun k => k = 168) rfl) (by decide)).tr (fEq.up (show 25 ≤ 29 by decide))).tr hf
  generalize hρ : am_upI (am_upI τ 154 1 (nI 1)) 154 2 (nI r) = ρ
  have heρ : am_eq (fun k => 153 ≤ k ∧ k ≤ 154 ∨ k = 157 ∨ k = 168) σ ρ := by
    rw [← hρ]
    exact ((he'.mono (fun k hk => by omega)).tr (am_eq.upI (Or.inl (by decide)))).tr (am_eq.upI (Or.inl (by decide)))
  have hfρ : fEq scF σ ρ := by
    rw [← hρ]
    exact (hf'.tr (fEq.of (am_eq.upI (P := fun k => k = 154) rfl) (by decide))).tr (fEq.of (am_eq.upI (P := fun k => k = 154) rfl) (by decide))
  have h154 : ρ.1 154 0 = nI (2 ^ r) ∧ ρ.1 154 1 = nI 1 ∧ ρ.1 154 2 = nI r ∧ ∀ i, 3 ≤ i → ρ.1 154 i = σ.1 154 i := by
    rw [← hρ]
    refine ⟨?_, ?_, u_Is _ _ _ _, fun i hi => ?_⟩
    · rw [u_In _ _ (by decide), u_In _ _ (by decide), (he' 154 (by decide)).1]
      exact hD.1.1
    · rw [u_In _ _ (by decide), u_Is]
    · rw [u_In _ _ (by omega), u_In _ _ (by omega), (he' 154 (by decide)).1]
  have h157 : ∀ x, ρ.1 157 x = if x < 2 ^ r then bI (chB r x) else σ.1 157 x := by
    intro x
    rw [← hρ, u_In _ _ (by omega), u_In _ _ (by omega), hx x]
    by_cases e : x < 2 ^ r
    · rw [if_pos ⟨Nat.zero_le _, e⟩, if_pos e, oe, Nat.sub_zero, gd_m e]
    · rw [if_neg (by omega), if_neg e, u_In _ _ (by omega), u_In _ _ (by omega)]
  -- the stand of the word
  have fnd : ∀ q a (υ : am_S), a + q = chA r w → mD υ 0 (dCh r) → (∀ j, j ≠ 0 → sEq σ υ j) → am_eq (fun k => 153 ≤ k ∧ k ≤ 157 ∨ k = 168) σ υ → fEq scF σ υ → R_Mod_chain d K 108 [.ref 153, .null, .int (nI w), .int (nI a)] [] υ := by
    intro q
    induction q with
    | zero =>
      intro a υ ha hDu hs he3 hf3
      refine l_Mod_chain_108 (s_wordAt hDu hok (by omega) ?_)
      rw [wd_ch, show a = chA r w by omega, hwA]
      refine am_ite_t rfl (m_turnBy hDu hok hA (fun φ hD4 hs4 he4 => h φ hD4 (fun j hj => (hs j hj).tr (hs4 j hj)) ((he3.mono (fun k hk => by omega)).tr (he4.mono (fun k hk => by omega))) (hf3.tr (fEq.of he4 (by decide)))))
    | succ q ih =>
      intro a υ ha hDu hs he3 hf3
      refine l_Mod_chain_108 (s_wordAt hDu hok (by omega) ?_)
      rw [wd_ch, nI_add]
      have hv : chV r a < 2 ^ r := woA_lt _ r
      refine pk_eq (chV r a) w (fun z => absurd (ch_one hr1 hr9 (by omega) z) (by omega)) (fun _ => ih (a + 1) υ (by omega) hDu hs he3 hf3)
  -- the readers
  have Rd : ∀ q j (υ : am_S), j + q = r → am_eq (fun k => k = 155 ∨ k = 156) ρ υ → (∀ i, j ≤ i → υ.1 155 i = σ.1 155 i ∧ υ.1 156 i = σ.1 156 i) → (∀ i, i < j → υ.1 155 i = nI 0 ∧ υ.1 156 i = nI i) → R_Mod_chain d K 81 [.ref 153, .int (nI r), .int (nI w), .int (nI j)] [] υ := by
    intro q
    induction q with
    | zero =>
      intro j υ hj he3 ho hi
      have : j = r := by omega
      subst this
      have e154 : υ.1 154 = ρ.1 154 := (he3 154 (by decide)).1
      have e157 : υ.1 157 = ρ.1 157 := (he3 157 (by decide)).1
      refine l_Mod_chain_81 (pk_le j j (fun _ => fnd (chA j w) 0 υ (by omega) ⟨⟨?_, ?_, ?_⟩, fun t ht => ?_, fun t' s' ht' hs' => ?_⟩ (fun j' hj' => ⟨fun i hi' => ?_, fun i hi' => ho _ (by omega), fun x hx => ?_⟩) ((heρ.mono (fun k hk => by omega)).tr (he3.mono (fun k hk => by omega))) (hfρ.tr (fEq.of he3 (by decide)))) (fun z => absurd z (by omega)))
      · rw [e154]; exact h154.1
      · rw [e154]; exact h154.2.1
      · rw [e154]; exact h154.2.2.1
      · rw [Nat.mul_zero, Nat.zero_add]
        exact hi t ht
      · rw [Nat.mul_zero, Nat.zero_add, e157, h157]
        show _ = bI (if t' = 0 ∧ s' < 2 ^ j then chB j s' else false)
        by_cases e : t' = 0 ∧ s' < 2 ^ j
        · rw [if_pos e, if_pos (by omega), show 512 * t' + s' = s' by omega]
        · rw [if_neg e]
          rw [if_neg (by omega)]
          have := hD.2.2 t' s' ht' hs'
          rw [Nat.mul_zero, Nat.zero_add] at this
          exact this
      · rw [e154]; exact h154.2.2.2 _ (by omega)
      · rw [e157, h157, if_neg (by omega)]
    | succ q ih =>
      intro j υ hj he3 ho hi
      refine l_Mod_chain_81 (pk_le r j (fun z => absurd z (by omega)) (fun _ => ⟨pk_in j 320 (by omega), pk_in j 320 (by omega), ?_⟩))
      rw [nI_add, nI_clamp (by omega)]
      refine ih (j + 1) _ (by omega) (he3.tr ((am_eq.upI (Or.inl rfl)).tr (am_eq.upI (Or.inr rfl)))) (fun i hi' => ?_) (fun i hi' => ?_)
      · rw [u_In _ _ (by omega), u_In _ _ (by omega), u_In _ _ (by omega), u_In _ _ (by omega)]
        exact ho i (by omega)
      · by_cases e : i = j
        · subst e
          exact ⟨by rw [u_In _ _ (by omega), u_Is], by rw [u_Is]⟩
        · rw [u_In _ _ (by omega), u_In _ _ (by omega), u_In _ _ (by omega), u_In _ _ (by omega)]
          exact hi i (by omega)
  exact Rd r 0 ρ (by omega) am_eq.rf (fun i _ => by rw [(heρ 155 (by decide)).1, (heρ 156 (by decide)).1]; exact ⟨rfl, rfl⟩) (fun i hi => by omega)
theorem x_chain {x y : Int32} {θ σ : am_S} {K : Int32 → Int32 → am_S → Prop} (hJ : J θ σ) (h : ∀ v τ, J θ τ → K v v τ) : w_WD_chain x y σ (fun r τ => w_Mod_chain x y τ (K r)) := by
  obtain ⟨⟨S, hc, hm⟩, he⟩ := hJ
  have hno := h (nI 0) _ (J_no (f := nI 1) he hc hm)
  refine ⟨fun z1 => ⟨Or.inl rfl, e_Mod_chain (fun d => am_ite_t z1 hno)⟩, fun z1 => ⟨fun z2 => ⟨Or.inl rfl, e_Mod_chain (fun d => am_ite_f z1 (am_ite_t z2 hno))⟩, fun z2 => ⟨fun z3 => ⟨Or.inl rfl, e_Mod_chain (fun d => am_ite_f z1 (am_ite_f z2 (am_ite_t z3 hno)))⟩, fun z3 => ⟨fun z4 => ?_, fun z4 => ⟨Or.inl rfl, e_Mod_chain (fun d => am_ite_f z1 (am_ite_f z2 (am_ite_f z3 (am_ite_f z4 hno))))⟩⟩⟩⟩⟩
  obtain ⟨r, r1, r2, rfl⟩ := i_of (by decide) z1 (Int32.not_lt.mp z2)
  have hp9 := p2_512 r2
  have z4' := z4
  rw [q_1shl r (by omega)] at z4'
  obtain ⟨w, _, w2, rfl⟩ := i_of (x := y) (a := 0) (b := 2 ^ r) (by omega) z3 (Int32.le_of_lt z4')
  have hw : w < 2 ^ r := (nI_ltI (by omega) (by omega)).mp z4'
  have hok := dCh_ok r2
  have hA : chA r w < 2 ^ r := Nat.mod_lt _ (Nat.two_pow_pos r)
  refine s_beginChange hc (fun τ hB e1 => s_makeChain r1 r2 hw (fun υ hD2 e2 => s_turnBy hD2 hok hA (fun φ hD3 e3 => ⟨Or.inr rfl, Or.inr rfl, ?_⟩)))
  have e4 : am_eq (fun k => k < 153) σ (am_upI φ 0 12 (nI 0)) := ((e1.tr (e2.mono (fun k hk => by omega))).tr (e3.mono (fun k hk => by omega))).tr c0_e
  have hc2 := (hB.disc (D := dLay (dCh r) (fun s => (chA r w + s) % dn (dCh r))) ((e2.mono (fun k hk => by rcases hk with hk | hk; exact Or.inl hk; exact Or.inr (Or.inr (Or.inr (Or.inr (Or.inr (Or.inl hk))))))).tr (e3.mono (fun k hk => by rcases hk with hk | hk; exact Or.inl (by omega); exact Or.inr (Or.inr (Or.inr (Or.inr (Or.inr (Or.inr hk)))))))) hD3 (dLay_ok hok)).end (nI 0)
  refine e_Mod_chain (fun d => am_ite_f z1 (am_ite_f z2 (am_ite_f z3 (am_ite_t z4 ?_))))
  rw [q_1shl r (by omega)]
  refine g_change ((hm.cls e4).fault (nI 0)) (fun τ' hm' e5 => s_begin (fun υ' hD' hs' e6 => ⟨pk_in 0 16 (by decide), m_chain r1 r2 hw hD' (fun ω hDw hsw e7 hf7 => ?_)⟩))
  exact h _ _ (J_end he hc2 e4 (hm'.disc ((e6.mono (fun k hk => Or.inl (by omega))).tr (e7.mono (fun k hk => by unfold scM; omega))) ((fEq.of e6 (by decide)).tr hf7) (fun j hj => (hs' j hj).tr (hsw j hj)) hDw (dLay_ok hok)) (((f0_e.tr e5).tr (e6.mono (fun k hk => by omega))).tr (e7.mono (fun k hk => by omega))))
