/-! THE FORM: the reference finds it -/
theorem m_standOf {D : sp_D} {m : Bool} {f i : Nat} {σ : am_S} {K : Int32 → am_S → Prop} (hok : d_ok D) (hD : mD σ 0 D) (h25 : σ.1 153 25 = bI m) (h26 : σ.1 153 26 = nI f) (hf : f ≤ 512) (hi : i ≤ dn D) (h : K (nI (stF D m f i)) σ) : w_Mod_standOf (nI i) σ K := by
  have k1 := hok.1
  have k2 := hok.2.1
  unfold w_Mod_standOf
  rw [h25, h26]
  cases m with
  | false =>
    refine am_ite_t rfl (m_n hD ⟨nI_ne0 (by omega) (by omega), ?_⟩)
    rw [nI_add, pk_rem (by omega) (by omega) (by omega)]
    exact h
  | true =>
    refine am_ite_f (by decide) (m_n hD (m_n hD ⟨nI_ne0 (by omega) (by omega), ?_⟩))
    rw [nI_add, pk_sub (by omega), pk_rem (by omega) (by omega) (by omega)]
    exact h
theorem ky_less {D : sp_D} {m : Bool} {f i a b : Nat} (hi : i < dn D) (h : kyF D m f (i + 1) a < kyF D m f (i + 1) b) : kyF D m f (dn D) a < kyF D m f (dn D) b := by
  have e : ∀ k, kyF D m f (dn D) k / 2 ^ (dn D - 1 - i) = kyF D m f (i + 1) k := fun k => by
    have := kyF_div D m f k (dn D - 1 - i) (i + 1)
    rw [show i + 1 + (dn D - 1 - i) = dn D by omega] at this
    exact this
  rw [← e a, ← e b] at h
  exact Nat.lt_of_not_le (fun z => absurd (Nat.div_le_div_right (c := 2 ^ (dn D - 1 - i)) z) (by omega))
theorem m_isAhead {D : sp_D} {m : Bool} {f a b : Nat} {σ : am_S} {K : Int32 → am_S → Prop} (hok : d_ok D) (hD : mD σ 0 D) (h25 : σ.1 153 25 = bI m) (h26 : σ.1 153 26 = nI f) (hf : f ≤ 512) (ha : a < dr D) (hb : b < dr D) (h : K (bI (decide (kyF D m f (dn D) a < kyF D m f (dn D) b))) σ) : w_Mod_isAhead (nI a) (nI b) σ K := by
  have k1 := hok.1
  have k2 := hok.2.1
  have k4 := hok.2.2.2.1
  refine e_Mod_isAhead (fun d => ?_)
  have L : ∀ q i, i + q = dn D → kyF D m f i a = kyF D m f i b → R_Mod_isAhead d K 2 [.ref 153, .int (nI a), .int (nI b), .int (nI i), .null, .null] [] σ := by
    intro q
    induction q with
    | zero =>
      intro i hi e
      have : i = dn D := by omega
      subst this
      refine l_Mod_isAhead_2 (m_n hD (pk_le (dn D) (dn D) (fun _ => ?_) (fun z => absurd z (by omega))))
      rw [e, decide_eq_false (Nat.lt_irrefl _)] at h
      exact h
    | succ q ih =>
      intro i hi e
      have st := st_lt (D := D) m f i k1
      refine l_Mod_isAhead_2 (m_n hD (pk_le (dn D) i (fun z => absurd z (by omega)) (fun _ => m_standOf hok hD h25 h26 hf (by omega) (s_sees hD hok ha (by omega) (m_standOf hok hD h25 h26 hf (by omega) (s_sees hD hok hb (by omega) ?_))))))
      show am_ite (bI (clF D m f a i) = bI (clF D m f b i)) _ _
      have sa : kyF D m f (i + 1) a = 2 * kyF D m f i a + (clF D m f a i).toNat := rfl
      have sb' : kyF D m f (i + 1) b = 2 * kyF D m f i b + (clF D m f b i).toNat := rfl
      refine ⟨fun z => ?_, fun z => ⟨bI_01 _, ?_⟩⟩
      · rw [nI_add]
        refine ih (i + 1) (by omega) ?_
        rw [sa, sb', e, bI_inj z]
      · have ne : clF D m f a i ≠ clF D m f b i := fun y => z (by rw [y])
        show K (bI (clF D m f b i)) σ
        cases hbb : clF D m f b i with
        | true =>
          have haa : clF D m f a i = false := by
            cases haa : clF D m f a i with
            | false => rfl
            | true => exact absurd (haa.trans hbb.symm) ne
          rw [haa] at sa
          rw [hbb] at sb'
          have := ky_less (D := D) (m := m) (f := f) (a := a) (b := b) (show i < dn D by omega) (by rw [sa, sb', e]; exact Nat.lt_succ_self _)
          rw [decide_eq_true this] at h
          exact h
        | false =>
          have haa : clF D m f a i = true := by
            cases haa : clF D m f a i with
            | true => rfl
            | false => exact absurd (haa.trans hbb.symm) ne
          rw [haa] at sa
          rw [hbb] at sb'
          have := ky_less (D := D) (m := m) (f := f) (a := b) (b := a) (show i < dn D by omega) (by rw [sa, sb', e]; exact Nat.lt_succ_self _)
          rw [decide_eq_false (by omega)] at h
          exact h
  exact L (dn D) 0 (by omega) rfl
/-- k is put in at p -/
def inN (π : Nat → Nat) (k p x : Nat) : Nat := if x < p then π x else if x = p then k else π (x - 1)
theorem arr_in {k p : Nat} {π : Nat → Nat} (h : isArr k π) (hp : p ≤ k) : isArr (k + 1) (inN π k p) := by
  refine ⟨fun x hx => ?_, fun x y hx hy e => ?_⟩
  · unfold inN
    split
    · have := h.1 x (by omega); omega
    · split
      · omega
      · have := h.1 (x - 1) (by omega); omega
  · unfold inN at e
    have hb : ∀ z, z < k → π z ≠ k := fun z hz q => by have := h.1 z hz; omega
    by_cases x1 : x < p
    · rw [if_pos x1] at e
      by_cases y1 : y < p
      · rw [if_pos y1] at e
        exact h.2 x y (by omega) (by omega) e
      · rw [if_neg y1] at e
        by_cases y2 : y = p
        · rw [if_pos y2] at e
          exact absurd e (hb x (by omega))
        · rw [if_neg y2] at e
          have := h.2 x (y - 1) (by omega) (by omega) e
          omega
    · rw [if_neg x1] at e
      by_cases x2 : x = p
      · rw [if_pos x2] at e
        by_cases y1 : y < p
        · rw [if_pos y1] at e
          exact absurd e.symm (hb y (by omega))
        · rw [if_neg y1] at e
          by_cases y2 : y = p
          · omega
          · rw [if_neg y2] at e
            exact absurd e.symm (hb (y - 1) (by omega))
      · rw [if_neg x2] at e
        by_cases y1 : y < p
        · rw [if_pos y1] at e
          have := h.2 (x - 1) y (by omega) (by omega) e
          omega
        · rw [if_neg y1] at e
          by_cases y2 : y = p
          · rw [if_pos y2] at e
            exact absurd e (hb (x - 1) (by omega))
          · rw [if_neg y2] at e
            have := h.2 (x - 1) (y - 1) (by omega) (by omega) e
            omega
theorem m_rowOf {D : sp_D} {m : Bool} {f : Nat} {σ : am_S} {K : am_S → Prop} (hok : d_ok D) (hD : mD σ 0 D) (h25 : σ.1 153 25 = bI m) (h26 : σ.1 153 26 = nI f) (hf : f ≤ 512) (h : ∀ τ, am_eq (fun k => 163 ≤ k ∧ k ≤ 164) σ τ → (∀ j, j < dn D → τ.1 163 j = nI (roF D m f j)) → K τ) : w_Mod_rowOf σ K := by
  have k1 := hok.1
  have k2 := hok.2.1
  have k4 := hok.2.2.2.1
  refine e_Mod_rowOf (fun d => ?_)
  have md : ∀ τ, am_eq (fun k => 163 ≤ k ∧ k ≤ 164) σ τ → mD τ 0 D ∧ τ.1 153 25 = bI m ∧ τ.1 153 26 = nI f := fun τ he => ⟨hD.slot k4 (sEq.of he (by decide) (by decide) (by decide) (by decide)), by rw [(he 153 (by decide)).1]; exact h25, by rw [(he 153 (by decide)).1]; exact h26⟩
  -- the words
  have W : ∀ (π : Nat → Nat) (ρ : am_S), isArr (dr D) π → (∀ x, x + 1 < dr D → kyF D m f (dn D) (π x) ≤ kyF D m f (dn D) (π (x + 1))) → am_eq (fun k => 163 ≤ k ∧ k ≤ 164) σ ρ → (∀ x, x < dr D → ρ.1 164 x = nI (π x)) → ∀ q i (τ : am_S), i + q = dn D → am_eq (fun k => k = 163) ρ τ → (∀ j, j < i → τ.1 163 j = nI (roF D m f j)) → R_Mod_rowOf d K 67 [.ref 153, .int (nI i), .null, .null] [] τ := by
    intro π ρ hA hs heρ h164 q
    induction q with
    | zero =>
      intro i τ hi he hR
      have : i = dn D := by omega
      subst this
      have he' : am_eq (fun k => 163 ≤ k ∧ k ≤ 164) σ τ := heρ.tr (he.mono (fun k hk => by omega))
      exact l_Mod_rowOf_67 (m_n (md τ he').1 (pk_le (dn D) (dn D) (fun _ => h τ he' hR) (fun z => absurd z (by omega))))
    | succ q ih =>
      intro i τ hi he hR
      have he' : am_eq (fun k => 163 ≤ k ∧ k ≤ 164) σ τ := heρ.tr (he.mono (fun k hk => by omega))
      obtain ⟨g1, g2, g3⟩ := md τ he'
      have st := st_lt (D := D) m f i k1
      have e164 : τ.1 164 = ρ.1 164 := (he 164 (by decide)).1
      have ro : roF D m f i = woA (fun p => clF D m f (π p) i) (dr D) := roF_arr (by omega) hA (fun x hx => by
        have e : ∀ k, kyF D m f (dn D) k / 2 ^ (dn D - 1 - i) = kyF D m f (i + 1) k := fun k => by
          have := kyF_div D m f k (dn D - 1 - i) (i + 1)
          rw [show i + 1 + (dn D - 1 - i) = dn D by omega] at this
          exact this
        rw [← e, ← e]
        exact Nat.div_le_div_right (hs x hx))
      have I : ∀ q2 x, x + q2 = dr D → R_Mod_rowOf d K 79 [.ref 153, .int (nI i), .int (nI (woA (fun p => clF D m f (π p) i) x)), .int (nI x)] [] τ := by
        intro q2
        induction q2 with
        | zero =>
          intro x hx
          have : x = dr D := by omega
          subst this
          refine l_Mod_rowOf_79 (m_r g1 (pk_le (dr D) (dr D) (fun _ => ⟨pk_in i 512 (by omega), ?_⟩) (fun z => absurd z (by omega))))
          rw [nI_add, nI_clamp (by omega), ← ro]
          refine ih (i + 1) _ (by omega) (he.tr (am_eq.upI rfl)) (fun j hj => ?_)
          by_cases e : j = i
          · rw [e, u_Is]
          · rw [u_In _ _ (by omega)]
            exact hR j (by omega)
        | succ q2 ih2 =>
          intro x hx
          have hπ := hA.1 x (by omega)
          refine l_Mod_rowOf_79 (m_r g1 (pk_le (dr D) x (fun z => absurd z (by omega)) (fun _ => ⟨pk_in x 10 (by omega), m_standOf hok g1 g2 g3 hf (by omega) ?_⟩)))
          rw [nI_clamp (by omega), e164, h164 x (by omega), pk_mul, nI_add, nI_add, nI_add]
          refine s_sees g1 hok hπ (by omega) ?_
          have nx := ih2 (x + 1) (by omega)
          show am_ite (bI (clF D m f (π x) i) = nI 0) _ _
          unfold woA at nx
          cases hc : clF D m f (π x) i with
          | false =>
            rw [hc] at nx
            exact am_ite_t rfl nx
          | true =>
            rw [hc] at nx
            exact am_ite_f (by decide) nx
      refine l_Mod_rowOf_67 (m_n g1 (pk_le (dn D) i (fun z => absurd z (by omega)) (fun _ => ?_)))
      exact I (dr D) 0 (by omega)
  -- the order
  have O : ∀ q k (π : Nat → Nat) (τ : am_S), k + q = dr D → isArr k π → (∀ x, x + 1 < k → kyF D m f (dn D) (π x) ≤ kyF D m f (dn D) (π (x + 1))) → am_eq (fun k => k = 164) σ τ → (∀ x, x < k → τ.1 164 x = nI (π x)) → R_Mod_rowOf d K 2 [.ref 153, .int (nI k), .null, .null] [] τ := by
    intro q
    induction q with
    | zero =>
      intro k π τ hk hA hs he h164
      have : k = dr D := by omega
      subst this
      have he' : am_eq (fun k => 163 ≤ k ∧ k ≤ 164) σ τ := he.mono (fun k hk => by omega)
      exact l_Mod_rowOf_2 (m_r (md τ he').1 (pk_le (dr D) (dr D) (fun _ => W π τ hA hs he' h164 (dn D) 0 τ (by omega) am_eq.rf (fun j hj => by omega)) (fun z => absurd z (by omega))))
    | succ q ih =>
      intro k π τ hk hA hs he h164
      have he' : am_eq (fun k => 163 ≤ k ∧ k ≤ 164) σ τ := he.mono (fun k hk => by omega)
      have I : ∀ p (υ : am_S), p ≤ k → am_eq (fun k => k = 164) σ υ → (∀ x, x < p → υ.1 164 x = nI (π x)) → (∀ x, p < x → x ≤ k → υ.1 164 x = nI (π (x - 1))) → (∀ x, p ≤ x → x < k → kyF D m f (dn D) k < kyF D m f (dn D) (π x)) → R_Mod_rowOf d K 12 [.ref 153, .int (nI k), .int (nI p), .null] [] υ := by
        intro p
        have fin : ∀ p (υ : am_S), p ≤ k → am_eq (fun k => k = 164) σ υ → (∀ x, x < p → υ.1 164 x = nI (π x)) → (∀ x, p < x → x ≤ k → υ.1 164 x = nI (π (x - 1))) → (∀ x, p ≤ x → x < k → kyF D m f (dn D) k < kyF D m f (dn D) (π x)) → (∀ x, x + 1 = p → kyF D m f (dn D) (π x) ≤ kyF D m f (dn D) k) → R_Mod_rowOf d K 2 [.ref 153, .int (nI (k + 1)), .null, .null] [] (am_upI υ 164 p (nI k)) := by
          intro p υ hp he2 c1 c2 c3 c4
          refine ih (k + 1) (inN π k p) _ (by omega) (arr_in hA hp) (fun x hx => ?_) (he2.tr (am_eq.upI rfl)) (fun x hx => ?_)
          · unfold inN
            by_cases x1 : x + 1 < p
            · rw [if_pos (by omega), if_pos x1]
              exact hs x (by omega)
            · rw [if_neg (show ¬ x + 1 < p by omega)]
              by_cases x2 : x + 1 = p
              · rw [if_pos (by omega), if_pos x2]
                exact c4 x x2
              · rw [if_neg (show ¬ x < p by omega), if_neg x2]
                by_cases x3 : x = p
                · rw [if_pos x3, Nat.add_sub_cancel]
                  exact Nat.le_of_lt (c3 x (by omega) (by omega))
                · rw [if_neg x3, Nat.add_sub_cancel]
                  have := hs (x - 1) (by omega)
                  rw [show x - 1 + 1 = x by omega] at this
                  exact this
          · unfold inN
            by_cases x1 : x < p
            · rw [if_pos x1, u_In _ _ (by omega)]
              exact c1 x x1
            · rw [if_neg x1]
              by_cases x2 : x = p
              · rw [if_pos x2, x2, u_Is]
              · rw [if_neg x2, u_In _ _ (by omega)]
                exact c2 x (by omega) (by omega)
        induction p with
        | zero =>
          intro υ hp he2 c1 c2 c3
          refine l_Mod_rowOf_12 (pk_le 0 0 (fun _ => ⟨pk_in 0 10 (by omega), ?_⟩) (fun z => absurd z (by omega)))
          rw [nI_add, nI_clamp (by omega)]
          exact fin 0 υ (by omega) he2 c1 c2 c3 (fun x hx => by omega)
        | succ p ihp =>
          intro υ hp he2 c1 c2 c3
          have he2' : am_eq (fun k => 163 ≤ k ∧ k ≤ 164) σ υ := he2.mono (fun k hk => by omega)
          obtain ⟨g1, g2, g3⟩ := md υ he2'
          have hπ := hA.1 p (by omega)
          refine l_Mod_rowOf_12 (pk_le (p + 1) 0 (fun z => absurd z (by omega)) (fun _ => ?_))
          rw [pk_sub (show 1 ≤ p + 1 by omega), Nat.add_sub_cancel, nI_clamp (show p < 2 ^ 31 by omega), nI_clamp (show p + 1 < 2 ^ 31 by omega), c1 p (by omega), nI_add]
          refine ⟨pk_in p 10 (by omega), m_isAhead hok g1 g2 g3 hf (by omega) (by omega) ?_⟩
          by_cases hl : kyF D m f (dn D) k < kyF D m f (dn D) (π p)
          · rw [decide_eq_true hl]
            refine am_ite_f (by decide) ⟨pk_in p 10 (by omega), pk_in (p + 1) 10 (by omega), ihp _ (by omega) (he2.tr (am_eq.upI rfl)) (fun x hx => ?_) (fun x hx hxk => ?_) (fun x hx hxk => ?_)⟩
            · rw [u_In _ _ (by omega)]
              exact c1 x (by omega)
            · by_cases x1 : x = p + 1
              · rw [x1, u_Is, Nat.add_sub_cancel]
                exact c1 p (by omega)
              · rw [u_In _ _ (by omega)]
                exact c2 x (by omega) hxk
            · by_cases x1 : x = p
              · rw [x1]; exact hl
              · exact c3 x (by omega) hxk
          · rw [decide_eq_false hl]
            refine am_ite_t rfl ⟨pk_in (p + 1) 10 (by omega), fin (p + 1) υ hp he2 c1 c2 c3 (fun x hx => ?_)⟩
            rw [show x = p by omega]
            omega
      refine l_Mod_rowOf_2 (m_r (md τ he').1 (pk_le (dr D) k (fun z => absurd z (by omega)) (fun _ => I k τ (Nat.le_refl _) he h164 (fun x h1 h2 => by omega) (fun x h1 h2 => by omega))))
  exact O (dr D) 0 (fun x => x) σ (by omega) ⟨fun p hp => hp, fun p q _ _ e => e⟩ (fun x hx => by omega) am_eq.rf (fun x hx => by omega)
