/-- no fault -/
def f0 (σ : am_S) : am_S := am_upI σ 153 18 (nI 0)
theorem f0_eq (σ : am_S) : am_eq (fun k => k = 153) σ (f0 σ) := am_eq.upI rfl
theorem mD.f0 {σ : am_S} {j : Nat} {D : sp_D} (h : mD σ j D) (hr : dr D ≤ 10) : mD (f0 σ) j D := h.slot hr (sEq.of (f0_eq σ) (by omega) (by omega) (by omega) (by omega))
theorem m_n {D : sp_D} {σ : am_S} {K : Int32 → am_S → Prop} (hD : mD σ 0 D) (h : K (nI (dn D)) σ) : w_Mod_n σ K := by
  unfold w_Mod_n
  rw [show σ.1 154 0 = nI (dn D) from hD.1.1]
  exact h
theorem m_r {D : sp_D} {σ : am_S} {K : Int32 → am_S → Prop} (hD : mD σ 0 D) (h : K (nI (dr D)) σ) : w_Mod_readers σ K := by
  unfold w_Mod_readers
  rw [show σ.1 154 2 = nI (dr D) from hD.1.2.2]
  exact h
theorem m_where {D : sp_D} {w : Int32} {σ : am_S} {K : Int32 → am_S → Prop} (hD : mD σ 0 D) (hok : d_ok D) (h : K (nI (cnW (wdD D) w (dn D))) (f0 σ)) : w_Mod_where w σ K := by
  refine e_Mod_where (fun d => ?_)
  have hD' := hD.f0 hok.2.2.2.1
  have k2 := hok.2.1
  have L : ∀ q s, s + q = dn D → R_Mod_where d K 9 [.ref 153, .int w, .int (nI (cnW (wdD D) w s)), .int (nI s)] [] (f0 σ) := by
    intro q
    induction q with
    | zero =>
      intro s hs
      refine l_Mod_where_9 (m_n hD' (pk_le (dn D) s (fun _ => ?_) (fun z => absurd z (by omega))))
      have : s = dn D := by omega
      subst this
      exact h
    | succ q ih =>
      intro s hs
      refine l_Mod_where_9 (m_n hD' (pk_le (dn D) s (fun z => absurd z (by omega)) (fun _ => s_wordAt hD' hok (by omega) ?_)))
      have ih' := ih (s + 1) (by omega)
      unfold cnW at ih'
      rw [nI_add, nI_add]
      constructor
      · intro z
        rw [if_neg z] at ih'
        exact ih'
      · intro z
        rw [if_pos (Classical.not_not.mp z)] at ih'
        exact ih'
  exact L (dn D) 0 (by omega)
theorem m_at {D : sp_D} {w i : Int32} {σ : am_S} {K : Int32 → am_S → Prop} (hD : mD σ 0 D) (hok : d_ok D) (h1 : fnW (wdD D) w i (dn D) 0 0 = -1 → K (-1) (am_upI (f0 σ) 153 18 (nI 1))) (h2 : fnW (wdD D) w i (dn D) 0 0 ≠ -1 → K (fnW (wdD D) w i (dn D) 0 0) (f0 σ)) : w_Mod_at w i σ K := by
  refine e_Mod_at (fun d => ?_)
  have hD' := hD.f0 hok.2.2.2.1
  have k2 := hok.2.1
  generalize hA : fnW (wdD D) w i (dn D) 0 0 = A at h1 h2
  have L : ∀ q s k, s + q = dn D → fnW (wdD D) w i q s k = A → R_Mod_at d K 10 [.ref 153, .int w, .int i, .int (nI k), .int (nI s)] [] (f0 σ) := by
    intro q
    induction q with
    | zero =>
      intro s k hs he
      refine l_Mod_at_10 (m_n hD' (pk_le (dn D) s (fun _ => ?_) (fun z => absurd z (by omega))))
      exact h1 (he.symm.trans rfl)
    | succ q ih =>
      intro s k hs he
      refine l_Mod_at_10 (m_n hD' (pk_le (dn D) s (fun z => absurd z (by omega)) (fun _ => s_wordAt hD' hok (by omega) ?_)))
      unfold fnW at he
      rw [nI_add, nI_add]
      constructor
      · intro z
        rw [if_pos z] at he
        constructor
        · intro z2
          rw [if_neg z2] at he
          exact ih (s + 1) (k + 1) (by omega) he
        · intro z2
          rw [if_pos (Classical.not_not.mp z2)] at he
          have := h2 (by rw [← he]; exact ne1 (by omega))
          rw [← he] at this
          exact this
      · intro z
        rw [if_neg z] at he
        exact ih (s + 1) k (by omega) he
  exact L (dn D) 0 0 (by omega) hA
theorem m_isStand {D : sp_D} {x : Int32} {σ : am_S} {K : Int32 → am_S → Prop} (hD : mD σ 0 D) (hok : d_ok D) (h0 : (x < nI 0 ∨ nI (dn D) ≤ x) → K (nI 0) σ) (h1 : ∀ s, s < dn D → x = nI s → K (nI 1) σ) : w_Mod_isStand x σ K := by
  unfold w_Mod_isStand
  have k2 := hok.2.1
  constructor
  · intro z
    exact h0 (Or.inl z)
  · intro z
    refine m_n hD ⟨fun z2 => h0 (Or.inr z2), fun z2 => ?_⟩
    rcases pk_ix x (show dn D < 2 ^ 31 by omega) with g | g | ⟨s, g1, g2⟩
    · exact absurd g z
    · exact absurd g z2
    · exact h1 s g1 g2
theorem m_edge {D : sp_D} {x : Int32} {σ : am_S} {K : Int32 → am_S → Prop} (hD : mD σ 0 D) (hok : d_ok D) (h0 : (x < nI 0 ∨ nI (dn D) ≤ x) → K (-1) (am_upI (f0 σ) 153 18 (nI 1))) (h1 : ∀ s, s < dn D → x = nI s → K (nI 1 <<< (bc (nI (xb (wdD D) (dn D) s)) &&& 31)) (f0 σ)) : w_Mod_edge x σ K := by
  unfold w_Mod_edge
  have hD' := hD.f0 hok.2.2.2.1
  have k1 := hok.1
  have k2 := hok.2.1
  refine m_isStand hD' hok (fun z => am_ite_f (by simp) (h0 z)) (fun s hs hx => am_ite_t (by decide) ?_)
  subst hx
  have hm : (s + 1) % dn D < dn D := Nat.mod_lt _ k1
  refine s_wordAt hD' hok (by omega) (m_n hD' ⟨nI_ne0 (by omega) (by omega), ?_⟩)
  rw [nI_add, pk_rem (by omega) (by omega) (by omega)]
  refine s_wordAt hD' hok (by omega) (s_bitCount ?_)
  rw [q_xor]
  exact h1 s hs rfl
theorem wyW_more (x : Nat) (hx : x < 2 ^ 31) (q2 : Nat) : ∀ (q1 b : Nat) (w l : Int32), b + q1 + q2 ≤ 31 → (∀ j, b + q1 ≤ j → x.testBit j = false) → wyW (nI x) (q1 + q2) b w l = wyW (nI x) q1 b w l := by
  intro q1
  induction q1 with
  | zero =>
    induction q2 with
    | zero => intro b w l _ _; rfl
    | succ q2 ih =>
      intro b w l hb hz
      show wyW (nI x) (0 + q2 + 1) b w l = w
      unfold wyW
      rw [q_tb hx (by omega), hz b (by omega), if_pos (show bI false = nI 0 from rfl)]
      exact ih (b + 1) w l (by omega) (fun j hj => hz j (by omega))
  | succ q1 ih =>
    intro b w l hb hz
    rw [show q1 + 1 + q2 = q1 + q2 + 1 by omega]
    conv => lhs; unfold wyW
    conv => rhs; unfold wyW
    rw [ih (b + 1) w l (by omega) (fun j hj => hz j (by omega)), ih (b + 1) _ _ (by omega) (fun j hj => hz j (by omega))]
theorem m_way {D : sp_D} {x i : Int32} {σ : am_S} {K : Int32 → am_S → Prop} (hD : mD σ 0 D) (hok : d_ok D) (h0 : (x < nI 0 ∨ nI (dn D) ≤ x) → K (-1) (am_upI (f0 σ) 153 18 (nI 1)))
    (h1 : ∀ s, s < dn D → x = nI s → (i < nI 0 ∨ (nI 1 <<< (bc (nI (xb (wdD D) (dn D) s)) &&& 31)) ≤ i) → K (-1) (am_upI (f0 σ) 153 18 (nI 1)))
    (h2 : ∀ s, s < dn D → x = nI s → ¬ i < nI 0 → i < (nI 1 <<< (bc (nI (xb (wdD D) (dn D) s)) &&& 31)) → K (wyW (nI (xb (wdD D) (dn D) s)) (dr D) 0 (nI (wdD D s) &&& (nI (xb (wdD D) (dn D) s) ^^^ (-1))) i) (f0 σ)) : w_Mod_way x i σ K := by
  refine e_Mod_way (fun d => ?_)
  have hD' := hD.f0 hok.2.2.2.1
  have k1 := hok.1
  have k2 := hok.2.1
  have k4 := hok.2.2.2.1
  refine m_isStand hD' hok (fun z => am_ite_f (by simp) (h0 z)) (fun s hs hx => am_ite_t (by decide) ?_)
  subst hx
  have hm : (s + 1) % dn D < dn D := Nat.mod_lt _ k1
  refine s_wordAt hD' hok (by omega) (m_n hD' ⟨nI_ne0 (by omega) (by omega), ?_⟩)
  rw [nI_add, pk_rem (by omega) (by omega) (by omega)]
  refine s_wordAt hD' hok (by omega) ?_
  rw [q_xor]
  have hxl : xb (wdD D) (dn D) s < 2 ^ dr D := xb_lt (fun s => wd_lt D s _) s
  have hp := p2_10 k4
  constructor
  · intro z
    exact h1 s hs rfl (Or.inl z)
  · intro z
    refine s_bitCount ⟨fun z2 => ?_, fun z2 => h1 s hs rfl (Or.inr (Int32.not_lt.mp z2))⟩
    have h2' := h2 s hs rfl z z2
    have L : ∀ q b w l, b + q = 10 → K (wyW (nI (xb (wdD D) (dn D) s)) q b w l) (f0 σ) → R_Mod_way d K 76 [.null, .null, .null, .null, .int (nI (xb (wdD D) (dn D) s)), .int w, .int l, .int (nI b)] [] (f0 σ) := by
      intro q
      induction q with
      | zero =>
        intro b w l hb hk
        exact l_Mod_way_76 (pk_le 10 b (fun _ => hk) (fun z => absurd z (by omega)))
      | succ q ih =>
        intro b w l hb hk
        refine l_Mod_way_76 (pk_le 10 b (fun z => absurd z (by omega)) (fun _ => ?_))
        unfold wyW at hk
        rw [nI_add]
        constructor
        · intro hc
          rw [if_neg hc] at hk
          exact ih (b + 1) _ _ (by omega) hk
        · intro hc
          rw [if_pos (Classical.not_not.mp hc)] at hk
          exact ih (b + 1) w l (by omega) hk
    refine L 10 0 _ i (by omega) ?_
    rw [show 10 = dr D + (10 - dr D) by omega, wyW_more _ (by omega) (10 - dr D) (dr D) 0 _ _ (by omega) (fun j hj => Nat.testBit_lt_two_pow (Nat.lt_of_lt_of_le hxl (Nat.pow_le_pow_right (by decide) (by omega))))]
    exact h2'
theorem anN_sub (x a c : Nat) : (x &&& a) &&& anN a c = x &&& anN a c := by
  unfold anN
  rw [Nat.and_assoc, ← Nat.and_assoc a a, Nat.and_self]
theorem aU_sub {W : Nat → Nat} {n m c : Nat} (h : aU W m n = false) : aU W (anN m c) n = false := by
  rw [← Bool.not_eq_true] at h ⊢
  rw [aU_iff] at h ⊢
  intro z
  apply h
  intro a b hab hb e
  apply z a b hab hb
  rw [← anN_sub (W a), ← anN_sub (W b), e]
theorem blW_0 {W : Nat → Nat} {n r : Nat} (h : aU W (2 ^ r - 1) n = false) : ∀ b, blW W n r b = 0
  | 0 => rfl
  | b + 1 => by
    unfold blW
    rw [aU_sub h, if_neg (by decide)]
    exact blW_0 h b
theorem spW_0 {W : Nat → Nat} {n r : Nat} (h : aU W (2 ^ r - 1) n = false) : ∀ b, spW W n r b = 0
  | 0 => rfl
  | b + 1 => by
    unfold spW
    rw [aU_sub h, if_neg (by decide)]
    exact spW_0 h b
theorem anN_or {a c e : Nat} (hc : c < 2 ^ 32) (he : e < 2 ^ 32) : anN (anN a c) e = anN a (c ||| e) := by
  unfold anN
  apply Nat.eq_of_testBit_eq
  intro i
  have hM : (4294967295 : Nat).testBit i = decide (i < 32) := Nat.testBit_two_pow_sub_one 32 i
  simp only [Nat.testBit_and, Nat.testBit_xor, Nat.testBit_or, hM]
  by_cases hi : i < 32
  · cases a.testBit i <;> cases c.testBit i <;> cases e.testBit i <;> simp [hi]
  · have h1 : c.testBit i = false := Nat.testBit_lt_two_pow (Nat.lt_of_lt_of_le hc (Nat.pow_le_pow_right (by decide) (by omega)))
    have h2 : e.testBit i = false := Nat.testBit_lt_two_pow (Nat.lt_of_lt_of_le he (Nat.pow_le_pow_right (by decide) (by omega)))
    simp [h1, h2, hi]
theorem spW_lt {W : Nat → Nat} {n r : Nat} : ∀ b, spW W n r b < 2 ^ b
  | 0 => by simp [spW]
  | b + 1 => by
    have h := spW_lt (W := W) (n := n) (r := r) b
    have hp : 2 ^ (b + 1) = 2 * 2 ^ b := by rw [Nat.pow_succ, Nat.mul_comm]
    unfold spW
    split
    · exact Nat.or_lt_two_pow (by omega) (by omega)
    · omega
theorem m_blind {D : sp_D} {σ : am_S} {K : Int32 → am_S → Prop} (hD : mD σ 0 D) (hok : d_ok D) (h : ∀ τ, am_eq (fun k => k = 161) (f0 σ) τ → K (nI (blW (wdD D) (dn D) (dr D) (dr D))) τ) : w_Mod_blind σ K := by
  refine e_Mod_blind (fun d => ?_)
  have k2 := hok.2.1
  have k4 := hok.2.2.2.1
  have hD' := hD.f0 k4
  refine s_read hD' hok (fun τ hw he => ?_)
  have hDτ := hD'.slot k4 (sEq.of he (by omega) (by omega) (by omega) (by omega))
  have h' := h τ he
  unfold w_Mod_all
  refine m_r hDτ ?_
  rw [q_all _ k4]
  refine s_isTrue k2 (wdD_lt hok) hDτ.1.1 hw ?_
  cases ha : aU (wdD D) (2 ^ dr D - 1) (dn D) with
  | false =>
    refine am_ite_f (by decide) ?_
    rw [blW_0 ha] at h'
    exact h'
  | true =>
    refine am_ite_t (by decide) ?_
    have L : ∀ q b, b + q = dr D → R_Mod_blind d K 26 [.ref 153, .int (nI (blW (wdD D) (dn D) (dr D) b)), .int (nI b)] [] τ := by
      intro q
      induction q with
      | zero =>
        intro b hb
        refine l_Mod_blind_26 (m_r hDτ (pk_le (dr D) b (fun _ => ?_) (fun z => absurd z (by omega))))
        have : b = dr D := by omega
        subst this
        exact h'
      | succ q ih =>
        intro b hb
        refine l_Mod_blind_26 (m_r hDτ (pk_le (dr D) b (fun z => absurd z (by omega)) (fun _ => ?_)))
        unfold w_Mod_all
        refine m_r hDτ ?_
        rw [q_all _ k4]
        dsimp only
        rw [q_1shl b (by omega), q_an, q_or, nI_add]
        refine s_isTrue k2 (wdD_lt hok) hDτ.1.1 hw ?_
        have ih' := ih (b + 1) (by omega)
        unfold blW at ih'
        cases hc : aU (wdD D) (anN (2 ^ dr D - 1) (2 ^ b)) (dn D) with
        | false => rw [hc, if_neg (by decide)] at ih'; exact am_ite_t rfl ih'
        | true => rw [hc, if_pos rfl] at ih'; exact am_ite_f (by decide) ih'
    exact L (dr D) 0 (by omega)
theorem m_spare {D : sp_D} {σ : am_S} {K : Int32 → am_S → Prop} (hD : mD σ 0 D) (hok : d_ok D) (h : ∀ τ, am_eq (fun k => k = 161) (f0 σ) τ → K (nI (spW (wdD D) (dn D) (dr D) (dr D))) τ) : w_Mod_spare σ K := by
  refine e_Mod_spare (fun d => ?_)
  have k2 := hok.2.1
  have k4 := hok.2.2.2.1
  have hD' := hD.f0 k4
  refine s_read hD' hok (fun τ hw he => ?_)
  have hDτ := hD'.slot k4 (sEq.of he (by omega) (by omega) (by omega) (by omega))
  have h' := h τ he
  unfold w_Mod_all
  refine m_r hDτ ?_
  rw [q_all _ k4]
  refine s_isTrue k2 (wdD_lt hok) hDτ.1.1 hw ?_
  cases ha : aU (wdD D) (2 ^ dr D - 1) (dn D) with
  | false =>
    refine am_ite_f (by decide) ?_
    rw [spW_0 ha] at h'
    exact h'
  | true =>
    refine am_ite_t (by decide) ?_
    have L : ∀ q b, b + q = dr D → R_Mod_spare d K 26 [.ref 153, .int (nI (spW (wdD D) (dn D) (dr D) b)), .int (nI b)] [] τ := by
      intro q
      induction q with
      | zero =>
        intro b hb
        refine l_Mod_spare_26 (m_r hDτ (pk_le (dr D) b (fun _ => ?_) (fun z => absurd z (by omega))))
        have : b = dr D := by omega
        subst this
        exact h'
      | succ q ih =>
        intro b hb
        refine l_Mod_spare_26 (m_r hDτ (pk_le (dr D) b (fun z => absurd z (by omega)) (fun _ => ?_)))
        unfold w_Mod_all
        refine m_r hDτ ?_
        have hsp := spW_lt (W := wdD D) (n := dn D) (r := dr D) b
        have hb2 : 2 ^ b < 2 ^ 32 := Nat.pow_lt_pow_right (by decide) (by omega)
        rw [q_all _ k4]
        dsimp only
        rw [q_1shl b (by omega), q_an, q_an, q_or, nI_add, anN_or (by omega) hb2]
        refine s_isTrue k2 (wdD_lt hok) hDτ.1.1 hw ?_
        have ih' := ih (b + 1) (by omega)
        unfold spW at ih'
        cases hc : aU (wdD D) (anN (2 ^ dr D - 1) (spW (wdD D) (dn D) (dr D) b ||| 2 ^ b)) (dn D) with
        | false => rw [hc, if_neg (by decide)] at ih'; exact am_ite_t rfl ih'
        | true => rw [hc, if_pos rfl] at ih'; exact am_ite_f (by decide) ih'
    exact L (dr D) 0 (by omega)
theorem m_fewest {D : sp_D} {σ : am_S} {K : Int32 → am_S → Prop} (hD : mD σ 0 D) (hok : d_ok D) (h1 : dn D = 1 → K (-1) (f0 σ)) (h : ∀ v τ, dn D ≠ 1 → isMin (wdD D) (dn D) v → am_eq (fun k => k = 161) (f0 σ) τ → K (nI v) τ) : w_Mod_fewest σ K := by
  refine e_Mod_fewest (fun d => ?_)
  have k1 := hok.1
  have k2 := hok.2.1
  have k4 := hok.2.2.2.1
  have hD' := hD.f0 k4
  refine m_n hD' ?_
  by_cases e1 : dn D = 1
  · rw [e1]
    exact am_ite_f (by simp) (h1 e1)
  · refine am_ite_t (fun z => e1 ((nI_eq (by omega) (by decide)).mp z)) (s_read hD' hok (fun τ hw he => ?_))
    have hDτ := hD'.slot k4 (sEq.of he (by omega) (by omega) (by omega) (by omega))
    have hx : ∀ a b, wdD D a ^^^ wdD D b < 1024 := fun a b => Nat.lt_of_lt_of_le (Nat.xor_lt_two_pow (wd_lt D a _) (wd_lt D b _)) (p2_10 k4)
    have hpc : ∀ a b, pcN (wdD D a ^^^ wdD D b) ≤ 10 := fun a b => pc_le (Nat.le_refl _) (hx a b)
    have L : ∀ q a v, a + q = dn D → v ≤ 99 → (v = 99 ∧ a = 0 ∨ ∃ a' b', a' < b' ∧ b' < dn D ∧ pcN (wdD D a' ^^^ wdD D b') = v) → (∀ a' b', a' < a → a' < b' → b' < dn D → v ≤ pcN (wdD D a' ^^^ wdD D b')) → R_Mod_fewest d K 24 [.ref 153, .int (nI v), .int (nI a), .null, .null] [] τ := by
      intro q
      induction q with
      | zero =>
        intro a v ha hv hex hall
        refine l_Mod_fewest_24 (m_n hDτ (pk_le (dn D) a (fun _ => ?_) (fun z => absurd z (by omega))))
        refine h v τ e1 ⟨?_, fun a' b' g1 g2 => hall a' b' (by omega) g1 g2⟩ he
        rcases hex with hex | hex
        · omega
        · exact hex
      | succ q ih =>
        intro a v ha hv hex hall
        refine l_Mod_fewest_24 (m_n hDτ (pk_le (dn D) a (fun z => absurd z (by omega)) (fun _ => ?_)))
        rw [nI_add]
        have M : ∀ q2 b v, b + q2 = dn D → a < b → v ≤ 99 → (v = 99 ∧ a = 0 ∧ b = 1 ∨ ∃ a' b', a' < b' ∧ b' < dn D ∧ pcN (wdD D a' ^^^ wdD D b') = v) → (∀ a' b', a' < a → a' < b' → b' < dn D → v ≤ pcN (wdD D a' ^^^ wdD D b')) → (∀ b', a < b' → b' < b → v ≤ pcN (wdD D a ^^^ wdD D b')) → R_Mod_fewest d K 36 [.ref 153, .int (nI v), .int (nI a), .int (nI b), .null] [] τ := by
          intro q2
          induction q2 with
          | zero =>
            intro b v hb hab hv hex hall hall2
            refine l_Mod_fewest_36 (m_n hDτ (pk_le (dn D) b (fun _ => ?_) (fun z => absurd z (by omega))))
            rw [nI_add]
            refine ih (a + 1) v (by omega) hv ?_ (fun a' b' g1 g2 g3 => ?_)
            · rcases hex with hex | hex
              · omega
              · exact Or.inr hex
            · by_cases e : a' = a
              · subst e; exact hall2 b' g2 (by omega)
              · exact hall a' b' (by omega) g2 g3
          | succ q2 ih2 =>
            intro b v hb hab hv hex hall hall2
            refine l_Mod_fewest_36 (m_n hDτ ?_)
            rw [nI_clamp (show a < 2 ^ 31 by omega), nI_clamp (show b < 2 ^ 31 by omega), hw a (by omega), hw b (by omega), q_xor, nI_add]
            refine pk_le (dn D) b (fun z => absurd z (by omega)) (fun _ => ⟨pk_in a 512 (by omega), pk_in b 512 (by omega), s_bitCount ?_⟩)
            have hp := hpc a b
            rw [bc_pc _ (hx a b)]
            refine pk_le v (pcN (wdD D a ^^^ wdD D b)) (fun z => ?_) (fun z => ?_)
            · rw [nI_add]
              refine ih2 (b + 1) v (by omega) (by omega) hv ?_ hall (fun b' g1 g2 => ?_)
              · rcases hex with hex | hex
                · omega
                · exact Or.inr hex
              · by_cases e : b' = b
                · subst e; exact z
                · exact hall2 b' g1 (by omega)
            · rw [nI_add]
              refine ih2 (b + 1) _ (by omega) (by omega) (by omega) (Or.inr ⟨a, b, hab, by omega, rfl⟩) (fun a' b' g1 g2 g3 => ?_) (fun b' g1 g2 => ?_)
              · have := hall a' b' g1 g2 g3
                omega
              · by_cases e : b' = b
                · subst e; exact Nat.le_refl _
                · have := hall2 b' g1 (by omega)
                  omega
        refine M (dn D - (a + 1)) (a + 1) v (by omega) (by omega) hv ?_ hall (fun b' g1 g2 => by omega)
        rcases hex with hex | hex
        · exact Or.inl ⟨hex.1, hex.2, by omega⟩
        · exact Or.inr hex
    exact L (dn D) 0 99 (by omega) (Nat.le_refl _) (Or.inl ⟨rfl, rfl⟩) (fun a' _ g => absurd g (Nat.not_lt_zero a'))
