/-! LISTS -/
def sL (S : sp_S) (v : Nat × (Nat → Int32)) : sp_S := (S.1, S.2.1, S.2.2.1, S.2.2.2.1, S.2.2.2.2.1, S.2.2.2.2.2.1, v, S.2.2.2.2.2.2.2)
theorem cS.list {σ τ : am_S} {S : sp_S} {v : Nat × (Nat → Int32)} (h : cS σ S) (he : am_eq (fun k => k = 28 ∨ k = 29) σ τ) (hR : cLi τ v) : cS τ (sL S v) := by
  obtain ⟨h1, h2, h3, h4, h5, h6, h7, h8, h9, h10⟩ := h
  exact ⟨by rw [(he 0 (by decide)).1]; exact h1, h2.kept he (by decide) (by decide), ⟨h3.1.kept he (by decide) (by decide) (by decide) (by decide), h3.2⟩, h4.kept he (by decide) (fun k a b => by omega), h5.kept he (by decide) (by decide) (by decide), h6.kept he (by decide) (by decide), h7.kept he (by decide) (by decide), h8.kept he (fun k a b => by omega), hR, h10.kept he (by decide)⟩
theorem mS.list {σ τ : am_S} {S : sp_S} {v : Nat × (Nat → Int32)} (h : mS σ S) (he : am_eq (fun k => k = 153 ∨ k = 160) σ τ) (hf : fEq (fun i => i = 13) σ τ) (hR : mLi τ v) : mS τ (sL S v) := by
  obtain ⟨h1, h2, h3, h4, h5, h6, h7, h8⟩ := h
  have hs : ∀ j, sEq σ τ j := fun j => sEq.of he (by decide) (by decide) (by decide) (by decide)
  exact ⟨by rw [hf 18 (by decide)]; exact h1, h2.kept he hf (by decide) (by decide) (by decide), ⟨h3.1.slot h3.2.2.2.2.1 (hs 0), h3.2⟩, h4.kept (P := fun _ => True) (fun j _ _ => hs j) hf (by decide) (by decide), h5.kept he hf (hs 1) (by decide) (by decide), h6.kept he hf (by decide) (by decide), hR, h8.kept hf (fun i a b => by omega)⟩
theorem x_list {θ σ τ υ : am_S} {S : sp_S} {v : Nat × (Nat → Int32)} (hJ : Jc θ S σ) (e1 : am_eq (fun k => k = 28 ∨ k = 29) σ τ) (h1 : cLi τ v) (e2 : am_eq (fun k => k = 153 ∨ k = 160) (f0 (am_upI τ 0 12 (nI 0))) υ) (hf : fEq (fun i => i = 13) (f0 (am_upI τ 0 12 (nI 0))) υ) (h2 : mLi υ v) : J θ υ := by
  have e3 : am_eq (fun k => k < 153) σ (am_upI τ 0 12 (nI 0)) := (e1.mono (fun k hk => by omega)).tr c0_e
  exact J_end hJ.2 ((hJ.1.1.list e1 h1).fault (nI 0)) e3 (((hJ.1.2.cls e3).fault (nI 0)).list e2 hf h2) (f0_e.tr (e2.mono (fun k hk => by omega)))
theorem x_tell {x : Int32} {θ σ : am_S} {K : Int32 → Int32 → am_S → Prop} (hJ : J θ σ) (h : ∀ v τ, J θ τ → K v v τ) : w_WD_tell x σ (fun r τ => w_Mod_tell x τ (K r)) := by
  obtain ⟨⟨S, hc, hm⟩, he⟩ := hJ
  have hJc : Jc θ S σ := ⟨⟨hc, hm⟩, he⟩
  obtain ⟨c1, c2, c3⟩ := hc.2.2.2.2.2.2.2.2.1
  obtain ⟨m1, m2⟩ := hm.2.2.2.2.2.2.1
  have m2' : ∀ k, k < (sli S).1 → σ.1 160 k = (sli S).2 k := m2
  have m1' : σ.1 153 13 = nI (sli S).1 := m1
  unfold w_WD_tell
  rw [c1]
  refine pk_lt (sli S).1 512 (fun hl => ?_) (fun hl => ?_)
  · unfold w_WL_add
    rw [c1, nI_clamp (by omega), nI_add]
    refine ⟨pk_in (sli S).1 512 hl, ?_⟩
    generalize hτ : am_upI (am_upI σ 29 (sli S).1 x) 28 1 (nI ((sli S).1 + 1)) = τ
    have e1 : am_eq (fun k => k = 28 ∨ k = 29) σ τ := by
      rw [← hτ]
      exact (am_eq.upI (Or.inr rfl)).tr (am_eq.upI (Or.inl rfl))
    have hl1 : τ.1 28 1 = nI ((sli S).1 + 1) := by rw [← hτ, u_Is]
    show w_Mod_tell x (am_upI τ 0 12 (nI 0)) (K (τ.1 28 1))
    rw [hl1]
    unfold w_Mod_tell
    rw [show (am_upI τ 0 12 (nI 0)).1 153 13 = nI (sli S).1 by rw [u_In _ _ (by omega), (e1 153 (by decide)).1]; exact m1]
    rw [nI_clamp (by omega), nI_add]
    refine am_ite_t (fun z => absurd ((nI_eq (by omega) (by decide)).mp z) (by omega)) ⟨pk_in (sli S).1 512 hl, h _ _ (x_list (v := ((sli S).1 + 1, fun j => if j = (sli S).1 then x else (sli S).2 j)) hJc e1 ⟨hl1, hl, fun k hk => ?_⟩ ((am_eq.upI (Or.inr rfl)).tr (am_eq.upI (Or.inl rfl))) ((fEq.of (P := fun k => k = 160) (am_eq.upI rfl) (by decide)).tr (fEq.up rfl)) ⟨u_Is _ _ _ _, fun k hk => ?_⟩)⟩
    · have hk2 : k < (sli S).1 + 1 := hk
      rw [← hτ, u_In _ _ (by omega), u_I]
      by_cases e : k = (sli S).1
      · rw [if_pos ⟨rfl, e⟩]; exact (if_pos e).symm
      · rw [if_neg (fun z => e z.2), c3 k (by omega)]; exact (if_neg e).symm
    · have hk2 : k < (sli S).1 + 1 := hk
      rw [u_In _ _ (by omega), u_I]
      by_cases e : k = (sli S).1
      · rw [if_pos ⟨rfl, e⟩]; exact (if_pos e).symm
      · rw [if_neg (fun z => e z.2), u_In _ _ (by omega), u_In _ _ (by omega), (e1 160 (by decide)).1, m2' k (by omega)]; exact (if_neg e).symm
  · show w_Mod_tell x (am_upI σ 0 12 (nI 4)) (K (-1))
    unfold w_Mod_tell
    rw [show (am_upI σ 0 12 (nI 4)).1 153 13 = nI (sli S).1 from m1]
    exact am_ite_f (by rw [show (sli S).1 = 512 by omega]; simp) (h _ _ hJc.no)
theorem x_clear {θ σ : am_S} {K : Int32 → Int32 → am_S → Prop} (hJ : J θ σ) (h : ∀ v τ, J θ τ → K v v τ) : w_WD_clear σ (fun r τ => w_Mod_clear τ (K r)) := by
  obtain ⟨⟨S, hc, hm⟩, he⟩ := hJ
  have hJc : Jc θ S σ := ⟨⟨hc, hm⟩, he⟩
  obtain ⟨c1, c2, c3⟩ := hc.2.2.2.2.2.2.2.2.1
  obtain ⟨m1, m2⟩ := hm.2.2.2.2.2.2.1
  show w_Mod_clear (am_upI (am_upI σ 28 1 (nI 0)) 0 12 (nI 0)) (K (σ.1 28 1))
  unfold w_Mod_clear
  rw [show (am_upI (am_upI σ 28 1 (nI 0)) 0 12 (nI 0)).1 153 13 = nI (sli S).1 from m1, c1]
  exact h _ _ (x_list (v := (0, fun _ => 0)) hJc (am_eq.upI (Or.inl rfl)) ⟨u_Is _ _ _ _, Nat.zero_le _, fun k hk => absurd hk (Nat.not_lt_zero k)⟩ (am_eq.upI (Or.inl rfl)) (fEq.up rfl) ⟨u_Is _ _ _ _, fun k hk => absurd hk (Nat.not_lt_zero k)⟩)
theorem x_fault {θ σ : am_S} {K : Int32 → Int32 → am_S → Prop} (hJ : J θ σ) (h : ∀ v τ, J θ τ → K v v τ) : w_WD_fault σ (fun r τ => w_Mod_fault τ (K r)) := by
  obtain ⟨⟨S, hc, hm⟩, he⟩ := id hJ
  unfold w_WD_fault w_Mod_fault
  dsimp only
  rw [hc.1, hm.1]
  exact h _ _ hJ
theorem x_forge {x y : Int32} {θ σ : am_S} {K : Int32 → Int32 → am_S → Prop} (hJ : J θ σ) (h : ∀ v τ, J θ τ → K v v τ) : w_WD_forge x y σ (fun r τ => w_Mod_forge x y τ (K r)) := by
  obtain ⟨⟨S, hc, hm⟩, he⟩ := hJ
  have hJc : Jc θ S σ := ⟨⟨hc, hm⟩, he⟩
  obtain ⟨c1, c2, c3⟩ := hc.2.2.2.2.2.2.2.2.1
  obtain ⟨m1, m2⟩ := hm.2.2.2.2.2.2.1
  have m2' : ∀ k, k < (sli S).1 → σ.1 160 k = (sli S).2 k := m2
  have m1' : σ.1 153 13 = nI (sli S).1 := m1
  unfold w_WD_forge w_WL_has
  rw [c1]
  have bad : ∀ A : Prop, (x < nI 0 ∨ nI (sli S).1 ≤ x) → w_Mod_forge x y (am_upI σ 0 12 (nI 1)) (K (nI 0)) := fun A z => by
    unfold w_Mod_forge
    rw [show (am_upI σ 0 12 (nI 1)).1 153 13 = nI (sli S).1 from m1]
    exact no_le z (h _ _ hJc.no)
  refine ⟨fun z => am_ite_t rfl ⟨Or.inl rfl, bad True (Or.inl z)⟩, fun z => ⟨fun z2 => am_ite_t rfl ⟨Or.inl rfl, bad True (Or.inr z2)⟩, fun z2 => am_ite_f (by decide) ?_⟩⟩
  rcases pk_ix x (show (sli S).1 < 2 ^ 31 by omega) with g | g | ⟨i, g1, rfl⟩
  · exact absurd g z
  · exact absurd g z2
  have go : ∀ (τ : am_S) (f : Int32) (v : Int32), am_eq (fun k => k = 28 ∨ k = 29) σ τ → am_ite (y < (nI 0)) (K v (nI 0) (am_upI (am_upI (am_upI τ 0 12 f) 153 18 (nI 0)) 153 18 (nI 1))) (am_ite (y ≤ (nI 31)) (K v (nI 1) (am_upI (f0 (am_upI τ 0 12 f)) 160 i ((sli S).2 i ^^^ ((nI 1) <<< (y &&& 31))))) (K v (nI 0) (am_upI (am_upI (am_upI τ 0 12 f) 153 18 (nI 0)) 153 18 (nI 1)))) → w_Mod_forge (nI i) y (am_upI τ 0 12 f) (K v) := by
    intro τ f v e1 g
    unfold w_Mod_forge
    rw [show (am_upI τ 0 12 f).1 153 13 = nI (sli S).1 by rw [u_In _ _ (by omega), (e1 153 (by decide)).1]; exact m1, nI_clamp (by omega), show (am_upI τ 0 12 f).1 160 i = (sli S).2 i by rw [u_In _ _ (by omega), (e1 160 (by decide)).1]; exact m2 i g1]
    have iv : vp_in (nI i) 512 := pk_in i 512 (by omega)
    exact ya_le g1 (by omega) ⟨fun q => g.1 q, fun q => ⟨fun q2 => ⟨iv, iv, (g.2 q).1 q2⟩, fun q2 => (g.2 q).2 q2⟩⟩
  have iv : vp_in (nI i) 512 := pk_in i 512 (by omega)
  refine ⟨fun q => ⟨Or.inl rfl, go σ _ _ am_eq.rf (am_ite_t q (h _ _ hJc.no))⟩, fun q => ⟨fun q2 => ⟨iv, iv, Or.inr rfl, Or.inr rfl, ?_⟩, fun q2 => ⟨Or.inl rfl, go σ _ _ am_eq.rf (am_ite_f q (am_ite_f q2 (h _ _ hJc.no)))⟩⟩⟩
  dsimp only
  rw [nI_clamp (by omega), c3 i g1]
  have e1 : am_eq (fun k => k = 28 ∨ k = 29) σ (am_upI σ 29 i ((sli S).2 i ^^^ ((nI 1) <<< (y &&& 31)))) := am_eq.upI (Or.inr rfl)
  refine go _ _ _ e1 (am_ite_f q (am_ite_t q2 (h _ _ (x_list (v := ((sli S).1, fun j => if j = i then ((sli S).2 i ^^^ ((nI 1) <<< (y &&& 31))) else (sli S).2 j)) hJc e1 ⟨c1, c2, fun k hk => ?_⟩ (am_eq.upI (Or.inr rfl)) (fEq.of (P := fun k => k = 160) (am_eq.upI rfl) (by decide)) ⟨m1, fun k hk => ?_⟩))))
  · have hk2 : k < (sli S).1 := hk
    rw [u_I]
    by_cases e : k = i
    · rw [if_pos ⟨rfl, e⟩]; exact (if_pos e).symm
    · rw [if_neg (fun z => e z.2), c3 k hk2]; exact (if_neg e).symm
  · have hk2 : k < (sli S).1 := hk
    rw [u_I]
    by_cases e : k = i
    · rw [if_pos ⟨rfl, e⟩]; exact (if_pos e).symm
    · rw [if_neg (fun z => e z.2)]
      exact (m2' k hk2).trans (if_neg e).symm
/-- one of q places from j on holds x -/
def lkL (w : Nat → Int32) (x : Int32) : Nat → Nat → Bool
  | 0, _ => false
  | q + 1, j => if w j = x then true else lkL w x q (j + 1)
/-- the first wrong place of a list -/
def fwL (w : Nat → Int32) (m : Nat) (two : Bool) : Nat → Nat → Int32
  | 0, _ => -1
  | q + 1, i => if lkL w (w i) i 0 = true then nI i else if two = true ∧ ¬ bc (w i ^^^ w ((i + m - 1) % m)) = nI 1 then nI i else fwL w m two q (i + 1)
theorem s_likeOne {m i : Nat} {w : Nat → Int32} {σ : am_S} {K : Int32 → am_S → Prop} (hL : cLi σ (m, w)) (hi : i < m) (h : K (bI (lkL w (w i) i 0)) σ) : w_WL_isLikeOneAhead (nI i) σ K := by
  refine e_WL_isLikeOneAhead (fun d => ?_)
  obtain ⟨c1, c2, c3⟩ := hL
  have c2' : m ≤ 512 := c2
  have L : ∀ q j, j + q = i → K (bI (lkL w (w i) q j)) σ → R_WL_isLikeOneAhead d K 2 [.ref 28, .int (nI i), .int (nI j)] [] σ := by
    intro q
    induction q with
    | zero =>
      intro j hj hk
      exact l_WL_isLikeOneAhead_2 (pk_le i j (fun _ => hk) (fun z => absurd z (by omega)))
    | succ q ih =>
      intro j hj hk
      refine l_WL_isLikeOneAhead_2 ?_
      rw [nI_clamp (show j < 2 ^ 31 by omega), nI_clamp (show i < 2 ^ 31 by omega), c3 j (show j < m by omega), c3 i hi]
      refine pk_le i j (fun z => absurd z (by omega)) (fun _ => ⟨pk_in j 512 (by omega), pk_in i 512 (by omega), ?_⟩)
      unfold lkL at hk
      rw [nI_add]
      constructor
      · intro z
        rw [if_neg z] at hk
        exact ih (j + 1) (by omega) hk
      · intro z
        rw [if_pos (Classical.not_not.mp z)] at hk
        exact hk
  exact L i 0 (by omega) h
theorem s_firstWrong {m : Nat} {two : Bool} {w : Nat → Int32} {σ : am_S} {K : Int32 → am_S → Prop} (hL : cLi σ (m, w)) (h : K (fwL w m two m 0) σ) : w_WL_firstWrong (bI two) σ K := by
  refine e_WL_firstWrong (fun d => ?_)
  obtain ⟨c1, c2, c3⟩ := id hL
  have c1' : σ.1 28 1 = nI m := c1
  have c2' : m ≤ 512 := c2
  have L : ∀ q i, i + q = m → K (fwL w m two q i) σ → R_WL_firstWrong d K 2 [.ref 28, .int (bI two), .int (nI i)] [] σ := by
    intro q
    induction q with
    | zero =>
      intro i hi hk
      refine l_WL_firstWrong_2 ?_
      rw [c1']
      exact pk_le m i (fun _ => hk) (fun z => absurd z (by omega))
    | succ q ih =>
      intro i hi hk
      refine l_WL_firstWrong_2 ?_
      rw [c1']
      refine pk_le m i (fun z => absurd z (by omega)) (fun _ => s_likeOne hL (by omega) ?_)
      unfold fwL at hk
      rw [nI_add]
      have hm : (i + m - 1) % m < m := Nat.mod_lt _ (by omega)
      cases hl : lkL w (w i) i 0 with
      | true =>
        rw [hl, if_pos rfl] at hk
        exact am_ite_t (by decide) hk
      | false =>
        rw [hl, if_neg (by decide)] at hk
        refine am_ite_f (fun z => z rfl) ?_
        cases two with
        | false =>
          rw [if_neg (fun z => by simp at z)] at hk
          exact am_ite_t rfl (ih (i + 1) (by omega) hk)
        | true =>
          refine am_ite_f (by decide) ?_
          unfold w_WL_isSingleStep
          rw [c1', nI_clamp (show i < 2 ^ 31 by omega), c3 i (show i < m by omega)]
          refine ⟨pk_in i 512 (by omega), s_stepDown (by omega) (by omega) ⟨pk_in ((i + m - 1) % m) 512 (by omega), s_bitCount ?_⟩⟩
          rw [nI_clamp (show (i + m - 1) % m < 2 ^ 31 by omega), c3 _ (show (i + m - 1) % m < m from hm)]
          constructor
          · intro z
            rw [if_pos ⟨rfl, z⟩] at hk
            exact am_ite_f (by simp) hk
          · intro z
            rw [if_neg (fun q => z q.2)] at hk
            exact am_ite_t (by decide) (ih (i + 1) (by omega) hk)
  exact L m 0 (by omega) h
theorem bc_0 (x : Int32) : ¬ bc (x ^^^ x) = nI 1 := by
  rw [Int32.xor_self]
  decide +kernel
theorem m_checkL {m d : Nat} {two : Bool} {x : Int32} {w : Nat → Int32} {σ : am_S} {K : Int32 → am_S → Prop} (hx : x = nI 2 ↔ two = true) (hL : mLi σ (m, w)) (hm5 : m ≤ 512) (h : K (fwL w m two m 0) σ) : R_Mod_check d K 36 [.ref 153, .int x, .int (nI 0), .null] [] σ := by
  obtain ⟨c1, c3⟩ := id hL
  have c1' : σ.1 153 13 = nI m := c1
  have L : ∀ q i, i + q = m → K (fwL w m two q i) σ → R_Mod_check d K 36 [.ref 153, .int x, .int (nI i), .null] [] σ := by
    intro q
    induction q with
    | zero =>
      intro i hi hk
      refine l_Mod_check_36 ?_
      rw [c1']
      exact pk_le m i (fun _ => hk) (fun z => absurd z (by omega))
    | succ q ih =>
      intro i hi hk
      refine l_Mod_check_36 ?_
      rw [c1']
      refine pk_le m i (fun z => absurd z (by omega)) (fun _ => ?_)
      have hm : (i + m - 1) % m < m := Nat.mod_lt _ (by omega)
      unfold fwL at hk
      generalize hB : lkL w (w i) i 0 = B at hk
      have M : ∀ q2 j, j + q2 = i → B = lkL w (w i) q2 j → R_Mod_check d K 46 [.ref 153, .int x, .int (nI i), .int (nI j)] [] σ := by
        intro q2
        induction q2 with
        | zero =>
          intro j hj he
          refine l_Mod_check_46 (pk_le i j (fun _ => ?_) (fun z => absurd z (by omega)))
          rw [he, show lkL w (w i) 0 j = false from rfl, if_neg (by decide)] at hk
          rw [nI_add i 1, c1']
          constructor
          · intro z
            have : two = false := by
              cases two
              · rfl
              · exact absurd (hx.mpr rfl) z
            rw [if_neg (fun z => by rw [this] at z; exact absurd z.1 (by decide))] at hk
            exact ih (i + 1) (by omega) hk
          · intro z
            have t : two = true := hx.mp (Classical.not_not.mp z)
            refine pk_eq m 1 (fun e => ?_) (fun e => ?_)
            · subst e
              have i0 : i = 0 := by omega
              subst i0
              rw [if_pos ⟨t, by rw [show (0 + 1 - 1) % 1 = 0 from rfl]; exact bc_0 _⟩] at hk
              exact hk
            · rw [nI_add i m, pk_sub (by omega), pk_rem (by omega) (by omega) (by omega), nI_clamp (show i < 2 ^ 31 by omega), nI_clamp (show (i + m - 1) % m < 2 ^ 31 by omega), c3 i (show i < m by omega), c3 _ (show (i + m - 1) % m < m from hm)]
              refine ⟨pk_in i 512 (by omega), nI_ne0 (by omega) (by omega), pk_in ((i + m - 1) % m) 512 (by omega), s_bitCount ⟨fun z2 => ?_, fun z2 => ?_⟩⟩
              · rw [if_neg (fun q => q.2 z2)] at hk
                exact ih (i + 1) (by omega) hk
              · rw [if_pos ⟨t, z2⟩] at hk
                exact hk
        | succ q2 ih2 =>
          intro j hj he
          refine l_Mod_check_46 ?_
          rw [nI_clamp (show j < 2 ^ 31 by omega), nI_clamp (show i < 2 ^ 31 by omega), c3 j (show j < m by omega), c3 i (show i < m by omega)]
          refine pk_le i j (fun z => absurd z (by omega)) (fun _ => ⟨pk_in j 512 (by omega), pk_in i 512 (by omega), ?_⟩)
          unfold lkL at he
          rw [nI_add j 1]
          constructor
          · intro z
            rw [if_neg z] at he
            exact ih2 (j + 1) (by omega) he
          · intro z
            rw [if_pos (Classical.not_not.mp z)] at he
            rw [he, if_pos rfl] at hk
            exact hk
      exact M i 0 (by omega) hB.symm
  exact L m 0 (by omega) h
theorem x_check {x : Int32} {θ σ : am_S} {K : Int32 → Int32 → am_S → Prop} (hJ : J θ σ) (h : ∀ v τ, J θ τ → K v v τ) : w_WD_check x σ (fun r τ => w_Mod_check x τ (K r)) := by
  obtain ⟨⟨S, hc, hm⟩, he⟩ := hJ
  have hJc : Jc θ S σ := ⟨⟨hc, hm⟩, he⟩
  have hL := hc.2.2.2.2.2.2.2.2.1
  obtain ⟨c1, c2, c3⟩ := id hL
  obtain ⟨m1, m2⟩ := hm.2.2.2.2.2.2.1
  unfold w_WD_check
  rw [c1]
  have mL : mLi (f0 (am_upI σ 0 12 (nI 0))) (sli S) := ((hm.cls (τ := am_upI σ 0 12 (nI 0)) c0_e).fault (nI 0)).2.2.2.2.2.2.1
  have go : ∀ two : Bool, (x = nI 2 ↔ two = true) → ¬ x < nI 1 → x ≤ nI 2 → am_ite (¬ nI (sli S).1 = nI 0) (w_WL_firstWrong (bI two) σ (fun r4 τ4 => w_WD_accept r4 τ4 (fun r5 τ5 => w_Mod_check x τ5 (K r5)))) (w_WD_refuse (nI 2) σ (fun r8 τ8 => w_Mod_check x τ8 (K r8))) := by
    intro two hx q1 q2
    constructor
    · intro z
      refine s_firstWrong (two := two) (m := (sli S).1) (w := (sli S).2) hL (e_Mod_check (fun d => am_ite_f q1 (am_ite_t q2 ?_)))
      rw [show (am_upI σ 0 12 (nI 0)).1 153 13 = nI (sli S).1 from m1]
      exact am_ite_t z (m_checkL hx mL c2 (h _ _ (hJc.ok am_eq.rf)))
    · intro z
      refine e_Mod_check (fun d => am_ite_f q1 (am_ite_t q2 ?_))
      rw [show (am_upI σ 0 12 (nI 2)).1 153 13 = nI (sli S).1 from m1]
      exact am_ite_f z (h _ _ hJc.no)
  constructor
  · intro z
    subst z
    have g := go false (by decide) (by decide) (by decide)
    exact ⟨fun q => am_ite_t (by decide) (g.1 q), fun q => g.2 q⟩
  · intro z
    constructor
    · intro z2
      subst z2
      have g := go true (by decide) (by decide) (by decide)
      exact ⟨fun q => am_ite_f (by simp) (g.1 q), fun q => g.2 q⟩
    · intro z2
      refine e_Mod_check (fun d => ⟨fun _ => h _ _ hJc.no, fun q1 => am_ite_f (fun q2 => ?_) (h _ _ hJc.no)⟩)
      obtain ⟨n, n1, n2, rfl⟩ := i_of (by decide) q1 q2
      have : n = 1 ∨ n = 2 := by omega
      rcases this with rfl | rfl
      · exact z rfl
      · exact z2 rfl
