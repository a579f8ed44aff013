/-! GRAY -/
def gwN (F i : Nat) : Nat := (F + i) ^^^ (F + i) / 2
def dG0 (n j : Nat) : sp_D := (n, j, j, fun _ _ => false, fun r => r, fun _ => 0)
/-- s whole stands, and j readers of the next one -/
def dGl (n r F s j : Nat) : sp_D := (n, r, r, fun t' s' => if t' < r ∧ (s' < s ∨ s' = s ∧ t' < j) then (gwN F s').testBit (r - 1 - t') else false, fun t => t, fun _ => 0)
theorem dGl_ok {n r F : Nat} (h1 : 1 ≤ n) (h2 : n ≤ 512) (hr : r ≤ 10) : d_ok (dGl n r F n 0) := ⟨h1, h2, hr, hr, fun t ht => ⟨ht, h1⟩, fun t s hts => by
  show (if t < r ∧ (s < n ∨ s = n ∧ t < 0) then (gwN F s).testBit (r - 1 - t) else false) = false
  have hts2 : r ≤ t ∨ n ≤ s := hts
  rw [if_neg (by omega)]⟩
theorem gw_lt {F i : Nat} (h : F + i < 512) : gwN F i < 1024 := by
  unfold gwN
  exact Nat.xor_lt_two_pow (n := 10) (by omega) (by omega)
theorem s_makeGray {n r E : Nat} {σ : am_S} {K : am_S → Prop} (h4 : 4 ≤ n) (h5 : n ≤ 512) (hr0 : 1 ≤ r) (hr : r ≤ 10) (hE : n ≤ 2 ^ E) (hE2 : ∀ e, e < E → 2 ^ e < n) (hE9 : E ≤ 9) (hE3 : 2 ≤ E) (h : ∀ τ, cD τ 3 (dGl n r ((2 ^ E - n) / 2) n 0) → am_eq (fun k => 3 ≤ k ∧ k ≤ 6) σ τ → K τ) : w_Maker_makeGray (nI n) (nI r) σ K := by
  have hp9 : 2 ^ E ≤ 2 ^ 9 := Nat.pow_le_pow_right (n := 2) (by decide) hE9
  generalize hFe : (2 ^ E - n) / 2 = F at h
  have hF : F + n ≤ 512 := by omega
  refine e_Maker_makeGray (fun d => ?_)
  -- the stands
  have S : ∀ q s (τ : am_S), s + q = n → am_eq (fun k => 3 ≤ k ∧ k ≤ 6) σ τ → cD τ 3 (dGl n r F s 0) → R_Maker_makeGray d K 61 [.ref 3, .int (nI n), .int (nI r), .null, .int (nI F), .int (nI s), .null, .null] [] τ := by
    intro q
    induction q with
    | zero =>
      intro s τ hs he hD
      have : s = n := by omega
      subst this
      exact l_Maker_makeGray_61 (pk_le s s (fun _ => h τ hD he) (fun z => absurd z (by omega)))
    | succ q ih =>
      intro s τ hs he hD
      refine l_Maker_makeGray_61 (pk_le n s (fun z => absurd z (by omega)) (fun _ => ?_))
      rw [nI_add F s, q_shr 1 (by decide) (by omega), q_xor]
      have hg : gwN F s < 1024 := gw_lt (by omega)
      show R_Maker_makeGray d K 85 [.ref 3, .int (nI n), .int (nI r), .null, .int (nI F), .int (nI s), .int (nI (gwN F s)), .int (nI 0)] [] τ
      have T : ∀ q2 j (υ : am_S), j + q2 = r → am_eq (fun k => 3 ≤ k ∧ k ≤ 6) σ υ → cD υ 3 (dGl n r F s j) → R_Maker_makeGray d K 85 [.ref 3, .int (nI n), .int (nI r), .null, .int (nI F), .int (nI s), .int (nI (gwN F s)), .int (nI j)] [] υ := by
        intro q2
        induction q2 with
        | zero =>
          intro j υ hj he2 hD2
          refine l_Maker_makeGray_85 (pk_le r j (fun _ => ?_) (fun z => absurd z (by omega)))
          rw [nI_add]
          refine ih (s + 1) υ (by omega) he2 ⟨hD2.1, hD2.2.1, hD2.2.2.1, hD2.2.2.2.1, fun t' s' ht' hs' => ?_⟩
          rw [hD2.2.2.2.2 t' s' ht' hs']
          show (if t' < r ∧ (s' < s ∨ s' = s ∧ t' < j) then _ else false) = if t' < r ∧ (s' < s + 1 ∨ s' = s + 1 ∧ t' < 0) then _ else false
          by_cases e : t' < r ∧ s' < s + 1
          · rw [if_pos (by omega), if_pos (by omega)]
          · rw [if_neg (by omega), if_neg (by omega)]
        | succ q2 ih2 =>
          intro j υ hj he2 hD2
          refine l_Maker_makeGray_85 ?_
          rw [pk_sub (show 1 ≤ r by omega), pk_sub (show j ≤ r - 1 by omega), q_tb (by omega) (by omega), nI_add j 1]
          have nx : ∀ b : Bool, b = (gwN F s).testBit (r - 1 - j) → w_Disc_setLight (nI j) (nI s) (bI b) υ (fun τ11 => R_Maker_makeGray d K 85 [.ref 3, .int (nI n), .int (nI r), .null, .int (nI F), .int (nI s), .int (nI (gwN F s)), .int (nI (j + 1))] [] τ11) := by
            intro b hb
            refine s_setLight (by omega) (by omega) (ih2 (j + 1) _ (by omega) (he2.tr (sl_eq (by decide))) ⟨hD2.1, hD2.2.1, hD2.2.2.1, hD2.2.2.2.1, fun t' s' ht' hs' => ?_⟩)
            rw [sl_lit (by omega) hs', hD2.2.2.2.2 t' s' ht' hs']
            show (if t' = j ∧ s' = s then b else if t' < r ∧ (s' < s ∨ s' = s ∧ t' < j) then _ else false) = if t' < r ∧ (s' < s ∨ s' = s ∧ t' < j + 1) then _ else false
            by_cases e : t' = j ∧ s' = s
            · rw [if_pos e, if_pos (by omega), e.1, e.2, hb]
            · rw [if_neg e]
              by_cases e2 : t' < r ∧ (s' < s ∨ s' = s ∧ t' < j)
              · rw [if_pos e2, if_pos (by omega)]
              · rw [if_neg e2, if_neg (by omega)]
          refine pk_le r j (fun z => absurd z (by omega)) (fun _ => ?_)
          cases hb : (gwN F s).testBit (r - 1 - j) with
          | false => exact am_ite_t rfl (nx false hb.symm)
          | true => exact am_ite_f (by decide) (nx true hb.symm)
      exact T r 0 τ (by omega) he hD
  -- the readers
  have Rd : ∀ q j (τ : am_S), j + q = r → am_eq (fun k => 3 ≤ k ∧ k ≤ 6) σ τ → cD τ 3 (dG0 n j) → R_Maker_makeGray d K 29 [.ref 3, .int (nI n), .int (nI r), .int (nI (2 ^ E)), .int (nI j), .null, .null, .null] [] τ := by
    intro q
    induction q with
    | zero =>
      intro j τ hj he hD
      have : j = r := by omega
      subst this
      refine l_Maker_makeGray_29 (pk_le j j (fun _ => ?_) (fun z => absurd z (by omega)))
      rw [pk_sub hE, pk_div (by omega) (by decide) (by decide), hFe]
      refine S n 0 τ (by omega) he ⟨hD.1, hD.2.1, hD.2.2.1, hD.2.2.2.1, fun t' s' ht' hs' => ?_⟩
      rw [hD.2.2.2.2 t' s' ht' hs']
      show false = if t' < j ∧ (s' < 0 ∨ s' = 0 ∧ t' < 0) then _ else false
      rw [if_neg (by omega)]
    | succ q ih =>
      intro j τ hj he hD
      refine l_Maker_makeGray_29 (pk_le r j (fun z => absurd z (by omega)) (fun _ => s_addDarkTrack hD (show j < 10 by omega) (fun τ2 hD2 e2 => s_addReader hD2 (show j < 10 by omega) (fun τ3 hD3 e3 => ?_))))
      rw [nI_add]
      refine ih (j + 1) τ3 (by omega) ((he.tr (e2.mono (fun k hk => by omega))).tr (e3.mono (fun k hk => by omega))) ⟨hD3.1, hD3.2.1, hD3.2.2.1, fun t ht => ?_, hD3.2.2.2.2⟩
      have q := hD3.2.2.2.1 t ht
      have a1 : dk (dRd (dTr (dG0 n j)) j 0) t = t := by
        show (if t = j then j else t) = t
        by_cases e : t = j
        · rw [if_pos e, e]
        · rw [if_neg e]
      have a2 : dp (dRd (dTr (dG0 n j)) j 0) t = 0 := by
        show (if t = j then 0 else 0) = 0
        split <;> rfl
      exact ⟨q.1.trans (by rw [show dk (dG0 n (j + 1)) t = t from rfl]; exact congrArg nI a1), q.2.trans (congrArg nI a2)⟩
  have A : ∀ q e, e + q = E → 2 ≤ e → R_Maker_makeGray d K 2 [.ref 3, .int (nI n), .int (nI r), .int (nI (2 ^ e)), .null, .null, .null, .null] [] σ := by
    intro q
    induction q with
    | zero =>
      intro e he h2
      have : e = E := by omega
      subst this
      refine l_Maker_makeGray_2 (pk_le n (2 ^ e) (fun _ => s_empty (fun τ hD e1 => Rd r 0 τ (by omega) (e1.mono (fun k hk => by omega)) ⟨hD.1, hD.2.1, hD.2.2.1, fun t ht => absurd ht (Nat.not_lt_zero t), hD.2.2.2.2⟩)) (fun z => absurd z (by omega)))
    | succ q ih =>
      intro e he h2
      have h3 := hE2 e (by omega)
      refine l_Maker_makeGray_2 (pk_le n (2 ^ e) (fun z => absurd z (by omega)) (fun _ => pk_le 512 (2 ^ e) (fun z => absurd z (by omega)) (fun _ => ?_)))
      rw [pk_mul, ← Nat.pow_succ]
      exact ih (e + 1) (by omega) (by omega)
  exact A (E - 2) 2 (by omega) (Nat.le_refl _)
theorem m_grayL {n r E d : Nat} {σ : am_S} {K : Int32 → am_S → Prop} (h4 : 4 ≤ n) (h5 : n ≤ 512) (hr0 : 1 ≤ r) (hr : r ≤ 10) (hE : n ≤ 2 ^ E) (hE2 : ∀ e, e < E → 2 ^ e < n) (hE9 : E ≤ 9) (hD : mD σ 0 (dE n)) (h : ∀ τ, mD τ 0 (dGl n r ((2 ^ E - n) / 2) n 0) → (∀ j, j ≠ 0 → sEq σ τ j) → am_eq (fun k => 154 ≤ k ∧ k ≤ 157) σ τ → K (nI 1) τ) : R_Mod_gray d K 60 [.ref 153, .int (nI n), .int (nI r), .int (nI 0), .null, .null, .null, .null] [] σ := by
  have hp9 : 2 ^ E ≤ 2 ^ 9 := Nat.pow_le_pow_right (n := 2) (by decide) hE9
  generalize hFe : (2 ^ E - n) / 2 = F at h
  have hF : F + n ≤ 512 := by omega
  -- the readers
  have Rd : ∀ q j (ρ τ : am_S), j + q = r → am_eq (fun k => k = 154 ∨ k = 157) σ ρ → (∀ i, 3 ≤ i → ρ.1 154 i = σ.1 154 i) → (ρ.1 154 0 = nI n ∧ ρ.1 154 1 = nI r ∧ ρ.1 154 2 = nI r) → mL σ ρ (dl (dGl n r F n 0)) → am_eq (fun k => k = 155 ∨ k = 156) ρ τ → (∀ i, j ≤ i → τ.1 155 i = σ.1 155 i ∧ τ.1 156 i = σ.1 156 i) → (∀ i, i < j → τ.1 155 i = nI i ∧ τ.1 156 i = nI 0) → R_Mod_gray d K 175 [.ref 153, .null, .int (nI r), .null, .int (nI j), .null, .null, .null] [] τ := by
    intro q
    induction q with
    | zero =>
      intro j ρ τ hj e1 h154 hsz hl e2 ho hi
      have : j = r := by omega
      subst this
      have e157 : τ.1 157 = ρ.1 157 := (e2 157 (by decide)).1
      have e154 : τ.1 154 = ρ.1 154 := (e2 154 (by decide)).1
      refine l_Mod_gray_175 (pk_le j j (fun _ => h τ ⟨⟨by rw [e154]; exact hsz.1, by rw [e154]; exact hsz.2.1, by rw [e154]; exact hsz.2.2⟩, fun t ht => ?_, fun t' s' ht' hs' => ?_⟩ (fun j' hj' => ⟨fun i hi' => ?_, fun i hi' => ?_, fun x hx => ?_⟩) ((e1.mono (fun k hk => by omega)).tr (e2.mono (fun k hk => by omega)))) (fun z => absurd z (by omega)))
      · rw [Nat.mul_zero, Nat.zero_add]
        exact hi t ht
      · rw [Nat.mul_zero, Nat.zero_add, e157]
        exact hl.1 t' s' ht' hs'
      · rw [e154]; exact h154 _ (by omega)
      · exact ho _ (by omega)
      · rw [e157]; exact hl.2 _ (by omega)
    | succ q ih =>
      intro j ρ τ hj e1 h154 hsz hl e2 ho hi
      refine l_Mod_gray_175 (pk_le r j (fun z => absurd z (by omega)) (fun _ => ⟨pk_in j 320 (by omega), pk_in j 320 (by omega), ?_⟩))
      rw [nI_add, nI_clamp (by omega)]
      refine ih (j + 1) ρ _ (by omega) e1 h154 hsz hl (e2.tr ((am_eq.upI (Or.inl rfl)).tr (am_eq.upI (Or.inr rfl)))) (fun i hi' => ?_) (fun i hi' => ?_)
      · rw [u_In _ _ (by omega), u_In _ _ (by omega), u_In _ _ (by omega), u_In _ _ (by omega)]
        exact ho i (by omega)
      · by_cases e : i = j
        · subst e
          exact ⟨by rw [u_In _ _ (by omega), u_Is], by rw [u_Is]⟩
        · rw [u_In _ _ (by omega), u_In _ _ (by omega), u_In _ _ (by omega), u_In _ _ (by omega)]
          exact hi i (by omega)
  -- the stands
  have S : ∀ q s (τ : am_S), s + q = n → am_eq (fun k => k = 157) σ τ → mL σ τ (dl (dGl n r F s 0)) → R_Mod_gray d K 76 [.ref 153, .int (nI n), .int (nI r), .int (nI E), .int (nI s), .null, .null, .null] [] τ := by
    intro q
    induction q with
    | zero =>
      intro s τ hs he hl
      have : s = n := by omega
      subst this
      refine l_Mod_gray_76 (pk_le s s (fun _ => ⟨pk_in 1 96 (by decide), pk_in 2 96 (by decide), ?_⟩) (fun z => absurd z (by omega)))
      have e2 : am_eq (fun k => k = 154 ∨ k = 157) σ (am_upI (am_upI τ 154 1 (nI r)) 154 2 (nI r)) := (((he.mono (fun k hk => Or.inr hk) : am_eq (fun k => k = 154 ∨ k = 157) σ τ)).tr (am_eq.upI (Or.inl rfl))).tr (am_eq.upI (Or.inl rfl))
      refine Rd r 0 _ _ (by omega) e2 (fun i hi => ?_) ⟨?_, rfl, rfl⟩ ?_ am_eq.rf (fun i _ => ⟨by rw [(e2 155 (by decide)).1], by rw [(e2 156 (by decide)).1]⟩) (fun i hi => absurd hi (Nat.not_lt_zero i))
      · rw [u_In _ _ (by omega), u_In _ _ (by omega), (he 154 (by decide)).1]
      · rw [u_In _ _ (by omega), u_In _ _ (by omega), (he 154 (by decide)).1]
        exact hD.1.1
      · exact hl
    | succ q ih =>
      intro s τ hs he hl
      have hE31 : 2 ^ E - n ≤ 512 := by omega
      refine l_Mod_gray_76 (pk_le n s (fun z => absurd z (by omega)) (fun _ => ?_))
      rw [q_1shl E (by omega), pk_sub hE, pk_div (by omega) (by decide) (by decide), hFe, nI_add F s, q_shr 1 (by decide) (by omega), q_xor]
      have hg : gwN F s < 1024 := gw_lt (by omega)
      show R_Mod_gray d K 106 [.ref 153, .int (nI n), .int (nI r), .int (nI E), .int (nI s), .null, .int (nI (gwN F s)), .int (nI 0)] [] τ
      have T : ∀ q2 j (υ : am_S), j + q2 = r → am_eq (fun k => k = 157) σ υ → mL σ υ (dl (dGl n r F s j)) → R_Mod_gray d K 106 [.ref 153, .int (nI n), .int (nI r), .int (nI E), .int (nI s), .null, .int (nI (gwN F s)), .int (nI j)] [] υ := by
        intro q2
        induction q2 with
        | zero =>
          intro j υ hj he2 hl2
          refine l_Mod_gray_106 (pk_le r j (fun _ => ?_) (fun z => absurd z (by omega)))
          rw [nI_add]
          refine ih (s + 1) υ (by omega) he2 (hl2.congr (fun t' s' ht' hs' => ?_))
          show (if t' < r ∧ (s' < s ∨ s' = s ∧ t' < j) then _ else false) = if t' < r ∧ (s' < s + 1 ∨ s' = s + 1 ∧ t' < 0) then _ else false
          by_cases e : t' < r ∧ s' < s + 1
          · rw [if_pos (by omega), if_pos (by omega)]
          · rw [if_neg (by omega), if_neg (by omega)]
        | succ q2 ih2 =>
          intro j υ hj he2 hl2
          refine l_Mod_gray_106 ?_
          rw [pk_sub (show 1 ≤ r by omega), pk_sub (show j ≤ r - 1 by omega), q_tb (by omega) (by omega), nI_add j 1, pk_mul, nI_add (512 * j) s, nI_clamp (show 512 * j + s < 2 ^ 31 by omega)]
          have nx : ∀ b : Bool, b = (gwN F s).testBit (r - 1 - j) → (vp_in (nI (512 * j + s)) 163840 ∧ R_Mod_gray d K 106 [.ref 153, .int (nI n), .int (nI r), .int (nI E), .int (nI s), .null, .int (nI (gwN F s)), .int (nI (j + 1))] [] (am_upI υ 157 (512 * j + s) (bI b))) := by
            intro b hb
            refine ⟨pk_in (512 * j + s) 163840 (by omega), ih2 (j + 1) _ (by omega) (he2.tr (am_eq.upI rfl)) ((hl2.up (by omega) (by omega)).congr (fun t' s' ht' hs' => ?_))⟩
            show (if t' = j ∧ s' = s then b else if t' < r ∧ (s' < s ∨ s' = s ∧ t' < j) then _ else false) = if t' < r ∧ (s' < s ∨ s' = s ∧ t' < j + 1) then _ else false
            by_cases e : t' = j ∧ s' = s
            · rw [if_pos e, if_pos (by omega), e.1, e.2, hb]
            · rw [if_neg e]
              by_cases e2 : t' < r ∧ (s' < s ∨ s' = s ∧ t' < j)
              · rw [if_pos e2, if_pos (by omega)]
              · rw [if_neg e2, if_neg (by omega)]
          refine pk_le r j (fun z => absurd z (by omega)) (fun _ => ?_)
          cases hb : (gwN F s).testBit (r - 1 - j) with
          | false => exact am_ite_t (by decide) (nx false hb.symm)
          | true => exact am_ite_f (fun z => z rfl) (nx true hb.symm)
      exact T r 0 τ (by omega) he hl
  have A : ∀ q e, e + q = E → R_Mod_gray d K 60 [.ref 153, .int (nI n), .int (nI r), .int (nI e), .null, .null, .null, .null] [] σ := by
    intro q
    induction q with
    | zero =>
      intro e he
      have : e = E := by omega
      subst this
      refine l_Mod_gray_60 ?_
      rw [q_1shl e (by omega)]
      refine pk_le n (2 ^ e) (fun _ => S n 0 σ (by omega) am_eq.rf ((mL_of hD).congr (fun t' s' _ _ => ?_))) (fun z => absurd z (by omega))
      show false = if t' < r ∧ (s' < 0 ∨ s' = 0 ∧ t' < 0) then _ else false
      rw [if_neg (by omega)]
    | succ q ih =>
      intro e he
      have h3 := hE2 e (by omega)
      refine l_Mod_gray_60 ?_
      rw [q_1shl e (by omega), nI_add]
      exact pk_le n (2 ^ e) (fun z => absurd z (by omega)) (fun _ => ih (e + 1) (by omega))
  exact A E 0 (by omega)
theorem x_gray {x y : Int32} {θ σ : am_S} {K : Int32 → Int32 → am_S → Prop} (hJ : J θ σ) (h : ∀ v τ, J θ τ → K v v τ) : w_WD_gray x y σ (fun r τ => w_Mod_gray x y τ (K r)) := by
  obtain ⟨⟨S, hc, hm⟩, he⟩ := hJ
  have hno := h (nI 0) _ (J_no (f := nI 1) he hc hm)
  refine ⟨fun z1 => ⟨Or.inl rfl, e_Mod_gray (fun d => ?_)⟩, fun z1 => ⟨fun z2 => ⟨Or.inl rfl, e_Mod_gray (fun d => ?_)⟩, fun z2 => ⟨fun z3 => ⟨fun z4 => ⟨Or.inl rfl, e_Mod_gray (fun d => ?_)⟩, fun z4 => ⟨fun z5 => ⟨Or.inl rfl, e_Mod_gray (fun d => ?_)⟩, fun z5 => ⟨fun z6 => ?_, fun z6 => ⟨Or.inl rfl, e_Mod_gray (fun d => ?_)⟩⟩⟩⟩, fun z3 => ⟨Or.inl rfl, e_Mod_gray (fun d => ?_)⟩⟩⟩⟩
  · exact ⟨fun _ => hno, fun _ => am_ite_t z1 hno⟩
  · exact ⟨fun _ => hno, fun _ => am_ite_f z1 (am_ite_t z2 hno)⟩
  · exact ⟨fun _ => hno, fun _ => am_ite_f z1 (am_ite_f z2 (am_ite_t z4 hno))⟩
  · exact ⟨fun _ => hno, fun _ => am_ite_f z1 (am_ite_f z2 (am_ite_f z4 (am_ite_t z5 hno)))⟩
  · have z2' := Int32.not_lt.mp z2
    have z5' := Int32.not_lt.mp z5
    obtain ⟨n, n1, n2, rfl⟩ := i_of (by decide) z1 z2'
    obtain ⟨r, r1, r2, rfl⟩ := i_of (by decide) z4 z5'
    have ex : ∃ E, n ≤ 2 ^ E := ⟨9, n2⟩
    obtain ⟨E, hE, hE2⟩ := pk_least (fun E => n ≤ 2 ^ E) ex
    have hE2' : ∀ e, e < E → 2 ^ e < n := fun e q => Nat.lt_of_not_le (hE2 e q)
    have hE9 : E ≤ 9 := Nat.le_of_not_lt (fun q => by have := hE2' 9 q; omega)
    have hE3 : 2 ≤ E := Nat.le_of_not_lt (fun q => by
      have : E = 0 ∨ E = 1 := by omega
      rcases this with rfl | rfl <;> omega)
    refine s_beginChange hc (fun τ hB e1 => s_makeGray n1 n2 (by omega) r2 hE hE2' hE9 hE3 (fun υ hD2 e2 => ⟨Or.inr rfl, Or.inr rfl, ?_⟩))
    have hok := dGl_ok (n := n) (r := r) (F := (2 ^ E - n) / 2) (by omega) n2 r2
    have e3 : am_eq (fun k => k < 153) σ (am_upI υ 0 12 (nI 0)) := (e1.tr (e2.mono (fun k hk => by omega))).tr c0_e
    have hc2 := (hB.disc (e2.mono (fun k hk => Or.inl hk)) hD2 hok).end (nI 0)
    refine e_Mod_gray (fun d => am_ite_f (fun q => q z3) (am_ite_f z1 (am_ite_f z2 (am_ite_f z4 (am_ite_f z5 (am_ite_t z6 ?_))))))
    refine g_change ((hm.cls e3).fault (nI 0)) (fun τ' hm' e4 => s_begin (fun υ' hD' hs' e5 => m_grayL n1 n2 (by omega) r2 hE hE2' hE9 hD' (fun ω hDw hsw e6 => ?_)))
    exact h _ _ (J_end he hc2 e3 (hm'.disc (((e5.mono (fun k hk => by omega)).tr e6).mono (fun k hk => Or.inl (by omega))) ((fEq.of e5 (by decide)).tr (fEq.of e6 (by decide))) (fun j hj => (hs' j hj).tr (hsw j hj)) hDw hok) (((f0_e.tr e4).tr (e5.mono (fun k hk => by omega))).tr (e6.mono (fun k hk => by omega))))
  · exact ⟨fun _ => hno, fun _ => am_ite_f z1 (am_ite_f z2 (am_ite_f z4 (am_ite_f z5 (am_ite_f z6 hno))))⟩
  · exact am_ite_t z3 hno
