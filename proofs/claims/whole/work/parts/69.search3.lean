/-! THE SEARCH: the reference goes on; both -/
def sQ (S : sp_S) (q : Option (Nat × Nat × Nat) × Nat) : sp_S := (S.1, S.2.1, S.2.2.1, S.2.2.2.1, S.2.2.2.2.1, S.2.2.2.2.2.1, S.2.2.2.2.2.2.1, q)
theorem cS.qs {σ τ : am_S} {S : sp_S} {q : Option (Nat × Nat × Nat) × Nat} (h : cS σ S) (he : am_eq (fun k => k = 21) σ τ) (hq : cQs τ q) : cS τ (sQ S q) := by
  obtain ⟨h1, h2, h3, h4, h5, h6, h7, h8, h9, h10⟩ := h
  exact ⟨by rw [(he 0 (by decide)).1]; exact h1, h2.kept he (by decide) (by decide), ⟨h3.1.kept he (by decide) (by decide) (by decide) (by decide), h3.2⟩, h4.kept he (by decide) (fun k a b => by omega), h5.kept he (by decide) (by decide) (by decide), h6.kept he (by decide) (by decide), h7.kept he (by decide) (by decide), h8.kept he (fun k a b => by omega), h9.kept he (by decide) (by decide), hq⟩
theorem mS.qs {σ τ : am_S} {S : sp_S} {q : Option (Nat × Nat × Nat) × Nat} (h : mS σ S) (he : am_eq (fun k => k = 153 ∨ k = 161) σ τ) (hf : fEq (fun i => 14 ≤ i ∧ i ≤ 17) σ τ) (hq : mQs τ q) : mS τ (sQ S q) := by
  obtain ⟨h1, h2, h3, h4, h5, h6, h7, h8⟩ := h
  have hs : ∀ j, sEq σ τ j := fun j => sEq.of he (by decide) (by decide) (by decide) (by decide)
  exact ⟨by rw [hf 18 (by decide)]; exact h1, h2.kept he hf (by decide) (by decide) (by decide), ⟨h3.1.slot h3.2.2.2.2.1 (hs 0), h3.2⟩, h4.kept (P := fun _ => True) (fun j _ _ => hs j) hf (by decide) (by decide), h5.kept he hf (hs 1) (by decide) (by decide), h6.kept he hf (by decide) (by decide), h7.kept he hf (by decide) (by decide), hq⟩
theorem m_lay {n r x d : Nat} {σ : am_S} {K : Int32 → am_S → Prop} (h0 : σ.1 153 14 = nI n) (h1 : σ.1 153 15 = nI r) (hn : 2 ≤ n) (hn2 : n ≤ 20) (hr : 2 ≤ r) (hr2 : r ≤ 5) (hx : x < 2 ^ n) (hD : mD σ 0 (dE n)) (h : ∀ τ, mD τ 0 (dSg n r x n r) → (∀ j, j ≠ 0 → sEq σ τ j) → am_eq (fun k => 154 ≤ k ∧ k ≤ 157) σ τ → K (nI 1) τ) : R_Mod_search d K 71 [.ref 153, .null, .null, .int (nI x), .int (nI 0)] [] σ := by
  -- the readers
  have Rd : ∀ q j (ρ τ : am_S), j + q = r → am_eq (fun k => k = 154 ∨ k = 157) σ ρ → (∀ i, 3 ≤ i → ρ.1 154 i = σ.1 154 i) → (ρ.1 154 0 = nI n ∧ ρ.1 154 1 = nI 1 ∧ ρ.1 154 2 = nI r) → mL σ ρ (dl (dSg n r x n r)) → am_eq (fun k => k = 155 ∨ k = 156) ρ τ → (∀ i, j ≤ i → τ.1 155 i = σ.1 155 i ∧ τ.1 156 i = σ.1 156 i) → (∀ i, i < j → τ.1 155 i = nI 0 ∧ τ.1 156 i = nI (i * (n / r))) → R_Mod_search d K 120 [.ref 153, .null, .null, .null, .int (nI j)] [] τ := by
    intro q
    induction q with
    | zero =>
      intro j ρ τ hj e1 h154 hsz hl e2 ho hi
      have : j = r := by omega
      subst this
      have e153 : τ.1 153 = σ.1 153 := by rw [(e2 153 (by decide)).1, (e1 153 (by decide)).1]
      have e157 : τ.1 157 = ρ.1 157 := (e2 157 (by decide)).1
      have e154 : τ.1 154 = ρ.1 154 := (e2 154 (by decide)).1
      refine l_Mod_search_120 ?_
      rw [e153, h1]
      refine pk_le j j (fun _ => h τ ⟨⟨by rw [e154]; exact hsz.1, by rw [e154]; exact hsz.2.1, by rw [e154]; exact hsz.2.2⟩, fun t ht => ?_, fun t' s' ht' hs' => ?_⟩ (fun j' hj' => ⟨fun i hi' => ?_, fun i hi' => ?_, fun y hy => ?_⟩) ((e1.mono (fun k hk => by omega)).tr (e2.mono (fun k hk => by omega)))) (fun z => absurd z (by omega))
      · rw [Nat.mul_zero, Nat.zero_add]
        exact hi t ht
      · rw [Nat.mul_zero, Nat.zero_add, e157]
        exact hl.1 t' s' ht' hs'
      · rw [e154]; exact h154 _ (by omega)
      · exact ho _ (by omega)
      · rw [e157]; exact hl.2 _ (by omega)
    | succ q ih =>
      intro j ρ τ hj e1 h154 hsz hl e2 ho hi
      have e153 : τ.1 153 = σ.1 153 := by rw [(e2 153 (by decide)).1, (e1 153 (by decide)).1]
      refine l_Mod_search_120 ?_
      rw [e153, h1, h0, pk_div (by omega) (by omega) (by omega), pk_mul, nI_add, nI_clamp (by omega)]
      refine pk_le r j (fun z => absurd z (by omega)) (fun _ => ⟨pk_in j 320 (by omega), nI_ne0 (by omega) (by omega), pk_in j 320 (by omega), ?_⟩)
      refine ih (j + 1) ρ _ (by omega) e1 h154 hsz hl (e2.tr ((am_eq.upI (Or.inl rfl)).tr (am_eq.upI (Or.inr rfl)))) (fun i hi' => ?_) (fun i hi' => ?_)
      · rw [u_In _ _ (by omega), u_In _ _ (by omega), u_In _ _ (by omega), u_In _ _ (by omega)]
        exact ho i (by omega)
      · by_cases e : i = j
        · subst e
          exact ⟨by rw [u_In _ _ (by omega), u_Is], by rw [u_Is]⟩
        · rw [u_In _ _ (by omega), u_In _ _ (by omega), u_In _ _ (by omega), u_In _ _ (by omega)]
          exact hi i (by omega)
  -- the lights
  have Li : ∀ q s (τ : am_S), s + q = n → am_eq (fun k => k = 157) σ τ → mL σ τ (dl (dSg n r x s r)) → R_Mod_search d K 71 [.ref 153, .null, .null, .int (nI x), .int (nI s)] [] τ := by
    intro q
    induction q with
    | zero =>
      intro s τ hs he hl
      have : s = n := by omega
      subst this
      have e153 : τ.1 153 = σ.1 153 := (he 153 (by decide)).1
      have e154 : τ.1 154 = σ.1 154 := (he 154 (by decide)).1
      refine l_Mod_search_71 ?_
      rw [e153, h0, h1]
      refine pk_le s s (fun _ => ⟨pk_in 1 96 (by decide), pk_in 2 96 (by decide), ?_⟩) (fun z => absurd z (by omega))
      have eR : am_eq (fun k => k = 154 ∨ k = 157) σ (am_upI (am_upI τ 154 1 (nI 1)) 154 2 (nI r)) := by
        have eA : am_eq (fun k => k = 154 ∨ k = 157) σ τ := he.mono (fun k hk => Or.inr hk)
        exact (eA.tr (am_eq.upI (Or.inl rfl))).tr (am_eq.upI (Or.inl rfl))
      refine Rd r 0 _ _ (by omega) eR (fun i hi => ?_) ⟨?_, ?_, u_Is _ _ _ _⟩ (hl.kept ((am_eq.upI (P := fun k => k = 154) rfl).tr (am_eq.upI rfl)) (by decide)) am_eq.rf (fun i _ => ?_) (fun i hi => by omega)
      · rw [u_In _ _ (by omega), u_In _ _ (by omega), e154]
      · rw [u_In _ _ (by decide), u_In _ _ (by decide), e154]
        exact hD.1.1
      · rw [u_In _ _ (by decide), u_Is]
      · rw [u_In _ _ (by omega), u_In _ _ (by omega), u_In _ _ (by omega), u_In _ _ (by omega), (he 155 (by decide)).1, (he 156 (by decide)).1]
        exact ⟨rfl, rfl⟩
    | succ q ih =>
      intro s τ hs he hl
      have e153 : τ.1 153 = σ.1 153 := (he 153 (by decide)).1
      refine l_Mod_search_71 ?_
      rw [e153, h0]
      refine pk_le n s (fun z => absurd z (by omega)) (fun _ => m_bitOf (by rw [e153]; exact h0) hn2 hx (by omega) ⟨pk_in s 163840 (by omega), bI_01 _, ?_⟩)
      rw [nI_add, nI_clamp (by omega)]
      have up := hl.up (t := 0) (s := s) (b := bt n x s) (by decide) (by omega)
      rw [Nat.mul_zero, Nat.zero_add] at up
      refine ih (s + 1) _ (by omega) (he.tr (am_eq.upI rfl)) (up.congr (fun t' s' ht' hs' => ?_))
      show (if t' = 0 ∧ s' = s then bt n x s else if t' = 0 ∧ s' < s then bt n x s' else false) = if t' = 0 ∧ s' < s + 1 then bt n x s' else false
      by_cases e : t' = 0 ∧ s' = s
      · rw [if_pos e, if_pos (by omega), e.2]
      · rw [if_neg e]
        by_cases e2 : t' = 0 ∧ s' < s
        · rw [if_pos e2, if_pos (by omega)]
        · rw [if_neg e2, if_neg (by omega)]
  refine Li n 0 σ (by omega) am_eq.rf ((mL_of hD).congr (fun t s ht hs => ?_))
  show false = if t = 0 ∧ s < 0 then bt n x s else false
  rw [if_neg (by omega)]
theorem m_search {n r a q st : Nat} {σ : am_S} {S : sp_S} {K : Int32 → am_S → Prop} (hm : mS σ S) (hq : sq S = (some (n, r, a), q)) (b1 : 2 ≤ n) (b2 : n ≤ 20) (b3 : 2 ≤ r) (b4 : r ≤ 5) (b5 : n % r = 0) (b6 : a ≤ 2 ^ n) (hst : st ≤ 2000000) (hqs : q + st ≤ 4000000) (h1 : ∀ x τ, a ≤ x → x < a + st → x < 2 ^ n → fnd n r x → (∀ y, a ≤ y → y < x → ¬ fnd n r y) → mS τ (sD (sP (sQ S (some (n, r, x + 1), q + st)) ((sd S :: sp S).take 30)) (dSg n r x n r)) → am_eq (fun k => 153 ≤ k ∧ k < 169) σ τ → K (nI 1) τ) (h2 : ∀ τ, a + st < 2 ^ n → (∀ y, a ≤ y → y < a + st → ¬ fnd n r y) → mS τ (sQ S (some (n, r, a + st), q + st)) → am_eq (fun k => 153 ≤ k ∧ k < 169) σ τ → K (-2) τ) (h3 : ∀ τ, 2 ^ n ≤ a + st → (∀ y, a ≤ y → y < 2 ^ n → ¬ fnd n r y) → mS τ (sQ S (none, q + st)) → am_eq (fun k => 153 ≤ k ∧ k < 169) σ τ → K (nI 0) τ) : w_Mod_search (nI st) σ K := by
  have hp := p2_20 b2
  have hmq := hm.2.2.2.2.2.2.2
  rw [hq] at hmq
  obtain ⟨g17, g14, g15, g16⟩ := hmq
  have g17' : σ.1 153 17 = nI q := g17
  refine e_Mod_search (fun d => ?_)
  rw [g17', nI_add]
  have L : ∀ f k (τ : am_S), k + f = st → a + k ≤ 2 ^ n → am_eq (fun k => k = 153 ∨ k = 161) σ τ → fEq (fun i => 14 ≤ i ∧ i ≤ 17) σ τ → τ.1 153 14 = nI n → τ.1 153 15 = nI r → τ.1 153 16 = nI (a + k) → τ.1 153 17 = nI (q + st) → (∀ y, a ≤ y → y < a + k → ¬ fnd n r y) → R_Mod_search d K 12 [.ref 153, .int (nI st), .int (nI k), .null, .null] [] τ := by
    intro f
    have fin : ∀ k (τ : am_S), (k = st ∨ k ≤ st ∧ 2 ^ n ≤ a + k) → a + k ≤ 2 ^ n → am_eq (fun k => k = 153 ∨ k = 161) σ τ → fEq (fun i => 14 ≤ i ∧ i ≤ 17) σ τ → τ.1 153 14 = nI n → τ.1 153 15 = nI r → τ.1 153 16 = nI (a + k) → τ.1 153 17 = nI (q + st) → (∀ y, a ≤ y → y < a + k → ¬ fnd n r y) → am_ite (nI (2 ^ n) ≤ nI (a + k)) (K (nI 0) (am_upI τ 153 14 (nI 0))) (K (-2) τ) := by
      intro k τ hk hak he hf e14 e15 e16 e17 hno
      refine pk_le (2 ^ n) (a + k) (fun z => ?_) (fun z => ?_)
      · refine h3 _ (by omega) (fun y y1 y2 => hno y y1 (by omega)) (hm.qs (he.tr (am_eq.upI (Or.inl rfl))) (hf.tr (fEq.up (by decide))) ⟨?_, u_Is _ _ _ _⟩) ((he.mono (fun k hk => by omega)).tr (am_eq.upI (by decide)))
        rw [u_In _ _ (by decide)]
        exact e17
      · have ek : k = st := by omega
        subst ek
        exact h2 τ z hno (hm.qs he hf ⟨e17, e14, e15, e16⟩) (he.mono (fun k hk => by omega))
    induction f with
    | zero =>
      intro k τ hk hak he hf e14 e15 e16 e17 hno
      refine l_Mod_search_12 ?_
      rw [e14, e16, q_1shl n (by omega)]
      exact pk_le st k (fun _ => fin k τ (by omega) hak he hf e14 e15 e16 e17 hno) (fun z => absurd z (by omega))
    | succ f ih =>
      intro k τ hk hak he hf e14 e15 e16 e17 hno
      refine l_Mod_search_12 ?_
      rw [e14, e16, q_1shl n (by omega), nI_add (a + k) 1, nI_add k 1]
      refine pk_le st k (fun z => absurd z (by omega)) (fun _ => pk_le (2 ^ n) (a + k) (fun z => ?_) (fun z => ?_))
      · exact fin k τ (by omega) hak he hf e14 e15 e16 e17 hno
      · have he2 : am_eq (fun k => k = 153 ∨ k = 161) σ (am_upI τ 153 16 (nI (a + k + 1))) := he.tr (am_eq.upI (Or.inl rfl))
        have hf2 : fEq (fun i => 14 ≤ i ∧ i ≤ 17) σ (am_upI τ 153 16 (nI (a + k + 1))) := hf.tr (fEq.up (by decide))
        have f14 : (am_upI τ 153 16 (nI (a + k + 1))).1 153 14 = nI n := by rw [u_In _ _ (by decide)]; exact e14
        have f15 : (am_upI τ 153 16 (nI (a + k + 1))).1 153 15 = nI r := by rw [u_In _ _ (by decide)]; exact e15
        have f16 : (am_upI τ 153 16 (nI (a + k + 1))).1 153 16 = nI (a + k + 1) := u_Is _ _ _ _
        have f17 : (am_upI τ 153 16 (nI (a + k + 1))).1 153 17 = nI (q + st) := by rw [u_In _ _ (by decide)]; exact e17
        refine m_isFound f14 f15 b1 b2 b3 b4 z (fun v υ hv he3 => ?_)
        have e153 : υ.1 153 = (am_upI τ 153 16 (nI (a + k + 1))).1 153 := (he3 153 (by decide)).1
        have he4 : am_eq (fun k => k = 153 ∨ k = 161) σ υ := he2.tr (he3.mono (fun k hk => Or.inr hk))
        have hf4 : fEq (fun i => 14 ≤ i ∧ i ≤ 17) σ υ := hf2.tr (fEq.of he3 (by decide))
        cases v with
        | true =>
          have ok := hv.mp rfl
          have hm2 := hm.qs (q := (some (n, r, a + k + 1), q + st)) he4 hf4 ⟨by rw [e153]; exact f17, by rw [e153]; exact f14, by rw [e153]; exact f15, by rw [e153]; exact f16⟩
          refine am_ite_t (by decide) (g_change hm2 (fun φ hm3 e5 => ?_))
          have hmq3 : mQs φ (some (n, r, a + k + 1), q + st) := hm3.2.2.2.2.2.2.2
          have p14 : φ.1 153 14 = nI n := hmq3.2.1
          have p15 : φ.1 153 15 = nI r := hmq3.2.2.1
          rw [p14]
          refine s_begin (fun ψ hD hs e6 => m_lay ?_ ?_ b1 b2 b3 b4 z hD (fun ω hDw hsw e7 => ?_))
          · rw [(e6 153 (by decide)).1]; exact p14
          · rw [(e6 153 (by decide)).1]; exact p15
          · refine h1 (a + k) ω (by omega) (by omega) z ok hno (hm3.disc (((e6.mono (fun k hk => by omega)).tr e7).mono (fun k hk => Or.inl (by omega))) ((fEq.of e6 (by decide)).tr (fEq.of e7 (by decide))) (fun j hj => (hs j hj).tr (hsw j hj)) hDw (dSg_ok b1 b2 b3 b4 b5)) ?_
            exact (((he4.mono (fun k hk => by omega)).tr e5).tr (e6.mono (fun k hk => by omega))).tr (e7.mono (fun k hk => by omega))
        | false =>
          refine am_ite_f (fun w => w rfl) (ih (k + 1) υ (by omega) (by omega) he4 hf4 ?_ ?_ ?_ ?_ (fun y y1 y2 => ?_))
          · rw [e153]; exact f14
          · rw [e153]; exact f15
          · rw [e153]; exact f16
          · rw [e153]; exact f17
          · by_cases e : y = a + k
            · intro w
              rw [e] at w
              exact absurd (hv.mpr w) (by decide)
            · exact hno y y1 (by omega)
  exact L st 0 _ (by omega) (by omega) (am_eq.upI (Or.inl rfl)) (fEq.up (by decide)) (by rw [u_In _ _ (by decide)]; exact g14) (by rw [u_In _ _ (by decide)]; exact g15) (by rw [u_In _ _ (by decide)]; exact g16) (u_Is _ _ _ _) (fun y y1 y2 => by omega)
theorem s_beginChange2 {σ : am_S} {S : sp_S} {K : am_S → Prop} (hS : cS σ S) (h : ∀ τ, cB τ (sP S ((sd S :: sp S).take 30)) → am_eq (fun k => k < 153) σ τ → τ.1 21 = σ.1 21 → K τ) : w_WD_beginChange σ K := by
  unfold w_WD_beginChange
  obtain ⟨h1, h2, h3, h4, h5, h6, h7, h8, h9, h10⟩ := hS
  refine s_remember h3.2 h3.1 h4 (fun τ hH he => s_outdate (fun υ e9 e13 e226 e227 e225 he2 => ?_))
  refine h υ ⟨(h2.kept he (by omega) (by omega)).kept he2 (by omega) (by omega), ⟨(h3.1.kept he (by omega) (by omega) (by omega) (by omega)).kept he2 (by omega) (by omega) (by omega) (by omega), h3.2⟩, hH.kept he2 (by omega) (fun k a b => by omega), (h5.kept he (by omega) (by omega) (by omega)).kept he2 (by omega) (by omega) (by omega), ⟨e9, e13, e226, e227⟩, ⟨?_, h8.1.2.1, fun k hk => ?_⟩, (h9.kept he (by omega) (by omega)).kept he2 (by omega) (by omega), (h10.kept he (by omega)).kept he2 (by omega)⟩ ((he.mono (fun k hk => by omega)).tr (he2.mono (fun k hk => by omega))) ?_
  · rw [e225, (he 22 (by omega)).1]
    exact h8.1.1
  · rw [(he2 23 (by omega)).1, (he 23 (by omega)).1]
    exact h8.1.2.2 k hk
  · rw [(he2 21 (by omega)).1, (he 21 (by omega)).1]
/-- both go on -/
theorem g_search {n r a q st : Nat} {θ σ : am_S} {S : sp_S} {K : Int32 → Int32 → am_S → Prop} (W : am_S → (Int32 → am_S → Prop) → Prop) (hc : cS σ S) (hq : sq S = (some (n, r, a), q)) (hst : st ≤ 2000000) (hqs : q + st ≤ 4000000) (he : am_eq (fun k => k < 169) θ σ) (hW : ∀ (τ : am_S) (K' : Int32 → am_S → Prop), am_eq (fun k => k < 153) σ τ → (∀ υ, mS υ (sF S (nI 0)) → am_eq (fun k => 153 ≤ k ∧ k < 169) τ υ → w_Mod_search (nI st) υ K') → W τ K') (h : ∀ v τ, J θ τ → K v v τ) : w_WD_searchOn (nI st) σ (fun r9 τ9 => w_WD_accept r9 τ9 (fun r10 τ10 => W τ10 (K r10))) := by
  unfold w_WD_searchOn
  have hcq := hc.2.2.2.2.2.2.2.2.2
  rw [hq] at hcq
  have hcq' := hcq
  obtain ⟨_, _, _, _, _, _, _, _, ⟨b1, b2, b3, b4, b5, b6⟩, _⟩ := hcq
  refine s_advance hcq' hst hqs (fun x τ x1 x2 x3 x4 x5 x6 x7 x8 => ?_) (fun τ x1 x2 x3 x4 => ?_) (fun τ x1 x2 x3 x4 => ?_)
  · have hc1 := hc.qs x8 x6
    refine am_ite_f (fun z => z rfl) (s_beginChange2 hc1 (fun υ hB e1 e21 => ?_))
    have hq2 : cQs υ (some (n, r, x + 1), q + st) := hB.2.2.2.2.2.2.2
    obtain ⟨_, _, _, y0, y1, y2, y3, _, _, _⟩ := hq2
    refine s_layFound ⟨y0, y1, y2, y3, b1, b2, b3, b4, b5⟩ (by rw [e21]; exact x7) x3 (fun φ hD e2 => ?_)
    have hok := dSg_ok (x := x) b1 b2 b3 b4 b5
    have hc2 := (hB.disc (e2.mono (fun k hk => Or.inl hk)) hD hok).end (nI 0)
    show W (am_upI φ 0 12 (nI 0)) (K (nI 1))
    have e3 : am_eq (fun k => k < 153) σ (am_upI φ 0 12 (nI 0)) := (((x8.mono (fun k hk => by omega)).tr e1).tr (e2.mono (fun k hk => by omega))).tr c0_e
    refine hW _ _ e3 (fun ψ hm e4 => m_search hm hq b1 b2 b3 b4 b5 b6 hst hqs (fun x' ω z1 z2 z3 z4 z5 hm5 e5 => ?_) (fun ω z1 z2 _ _ => absurd x4 (z2 x x1 (by omega))) (fun ω z1 z2 _ _ => absurd x4 (z2 x x1 x3)))
    have ex : x' = x := by
      rcases Nat.lt_trichotomy x' x with c | c | c
      · exact absurd z4 (x5 x' z1 c)
      · exact c
      · exact absurd x4 (z5 x x1 c)
    subst ex
    exact h _ _ (J_end he hc2 e3 hm5 (e4.tr e5))
  · have hc2 := (hc.qs x4 x3).fault (nI 0)
    refine am_ite_t (by decide) ?_
    show W (am_upI τ 0 12 (nI 0)) (K (-2))
    have e3 : am_eq (fun k => k < 153) σ (am_upI τ 0 12 (nI 0)) := (x4.mono (fun k hk => by omega)).tr c0_e
    refine hW _ _ e3 (fun υ hm e4 => m_search hm hq b1 b2 b3 b4 b5 b6 hst hqs (fun x φ z1 z2 z3 z4 z5 _ _ => absurd z4 (x2 x z1 z2)) (fun φ z1 z2 hm5 e5 => ?_) (fun φ z1 z2 hm5 e5 => absurd x1 (by omega)))
    exact h _ _ (J_end he hc2 e3 hm5 (e4.tr e5))
  · have hc2 := (hc.qs x4 x3).fault (nI 0)
    refine am_ite_t (by decide) ?_
    show W (am_upI τ 0 12 (nI 0)) (K (nI 0))
    have e3 : am_eq (fun k => k < 153) σ (am_upI τ 0 12 (nI 0)) := (x4.mono (fun k hk => by omega)).tr c0_e
    refine hW _ _ e3 (fun υ hm e4 => m_search hm hq b1 b2 b3 b4 b5 b6 hst hqs (fun x φ z1 z2 z3 z4 z5 _ _ => absurd z4 (x2 x z1 z3)) (fun φ z1 z2 hm5 e5 => absurd x1 (by omega)) (fun φ z1 z2 hm5 e5 => ?_))
    exact h _ _ (J_end he hc2 e3 hm5 (e4.tr e5))
