theorem s_isTrue {n m : Nat} {W : Nat → Nat} {σ : am_S} {K : Int32 → am_S → Prop} (hn : n ≤ 512) (hW : ∀ s, W s < 1024) (h0 : σ.1 154 0 = nI n) (hw : mW σ n W) (h : K (bI (aU W m n)) σ) : w_Mod_isTrue (nI m) σ K := by
  refine e_Mod_isTrue (fun d => ?_)
  have hlt : ∀ s, W s &&& m < 2 ^ 31 := fun s => Nat.lt_of_le_of_lt Nat.and_le_left (by have := hW s; omega)
  have L : ∀ q a, a + q = n → (∀ a' b', a' < a → a' < b' → b' < n → W a' &&& m ≠ W b' &&& m) → R_Mod_isTrue d K 2 [.ref 153, .int (nI m), .int (nI a), .null] [] σ := by
    intro q
    induction q with
    | zero =>
      intro a ha hall
      refine l_Mod_isTrue_2 ?_
      unfold w_Mod_n
      dsimp only
      rw [h0]
      refine pk_le n a (fun _ => ?_) (fun z => absurd z (by omega))
      rw [(aU_iff W m n).mpr (fun a' b' g1 g2 => hall a' b' (by omega) g1 g2)] at h
      exact h
    | succ q ih =>
      intro a ha hall
      refine l_Mod_isTrue_2 ?_
      unfold w_Mod_n
      dsimp only
      rw [h0, nI_add]
      refine pk_le n a (fun z => absurd z (by omega)) (fun _ => ?_)
      have M : ∀ q2 b, b + q2 = n → a < b → (∀ b', a < b' → b' < b → W a &&& m ≠ W b' &&& m) → R_Mod_isTrue d K 14 [.ref 153, .int (nI m), .int (nI a), .int (nI b)] [] σ := by
        intro q2
        induction q2 with
        | zero =>
          intro b hb hab hall2
          refine l_Mod_isTrue_14 ?_
          unfold w_Mod_n
          dsimp only
          rw [h0, nI_add]
          refine pk_le n b (fun _ => ih (a + 1) (by omega) (fun a' b' g1 g2 g3 => ?_)) (fun z => absurd z (by omega))
          by_cases e : a' = a
          · subst e; exact hall2 b' g2 (by omega)
          · exact hall a' b' (by omega) g2 g3
        | succ q2 ih2 =>
          intro b hb hab hall2
          refine l_Mod_isTrue_14 ?_
          unfold w_Mod_n
          dsimp only
          rw [h0, nI_clamp (show a < 2 ^ 31 by omega), nI_clamp (show b < 2 ^ 31 by omega), hw a (by omega), hw b (by omega), q_and, q_and]
          refine pk_le n b (fun z => absurd z (by omega)) (fun _ => ⟨pk_in a 512 (by omega), pk_in b 512 (by omega), ?_⟩)
          constructor
          · intro z
            rw [nI_add b 1]
            refine ih2 (b + 1) (by omega) (by omega) (fun b' g1 g2 => ?_)
            by_cases e : b' = b
            · subst e; exact fun y => z (by rw [y])
            · exact hall2 b' g1 (by omega)
          · intro z
            have z := (nI_eq (hlt a) (hlt b)).mp (Classical.not_not.mp z)
            have hf : aU W m n = false := by
              rw [← Bool.not_eq_true, aU_iff]
              exact fun y => y a b hab (by omega) z
            rw [hf] at h
            exact h
      by_cases e : a + 1 ≤ n
      · exact M (n - (a + 1)) (a + 1) (by omega) (by omega) (fun b' g1 g2 => by omega)
      · omega
  exact L n 0 (by omega) (fun a' _ g => absurd g (Nat.not_lt_zero a'))
theorem wdD_lt {D : sp_D} (hok : d_ok D) (s : Nat) : wdD D s < 1024 := Nat.lt_of_lt_of_le (wd_lt D s _) (p2_10 hok.2.2.2.1)
theorem sgB_1 {W : Nat → Nat} {n : Nat} (h : n = 1) : sgB W n = false := by
  subst h
  refine allB_f (s := 0) (by decide) (decide_eq_false ?_)
  unfold xb
  rw [show (0 + 1) % 1 = 0 from rfl, Nat.xor_self]
  decide +kernel
theorem allB_s (n : Nat) (P : Nat → Bool) : allB (n + 1) P = (allB n P && P n) := by
  unfold allB
  rw [List.range_succ, List.all_append]
  simp
theorem s_kind {D : sp_D} {σ : am_S} {K : Int32 → am_S → Prop} (hD : mD σ 0 D) (hok : d_ok D) (h : ∀ τ, am_eq (fun k => k = 161) σ τ → K (nI (kdD D)) τ) : w_Mod_kind σ K := by
  refine e_Mod_kind (fun d => ?_)
  obtain ⟨k1, k2, k3, k4, k5, k6⟩ := id hok
  refine s_read hD hok (fun τ hw he => ?_)
  have hDτ := hD.slot k4 (sEq.of he (by omega) (by omega) (by omega) (by omega))
  obtain ⟨⟨g1, g2, g3⟩, g4, g5⟩ := id hDτ
  have e0 : τ.1 154 0 = nI (dn D) := g1
  have e1 : τ.1 154 1 = nI (dt D) := g2
  have e2 : τ.1 154 2 = nI (dr D) := g3
  have h' := h τ he
  unfold w_Mod_all w_Mod_readers
  dsimp only
  rw [e2, q_all _ k4]
  refine s_isTrue k2 (wdD_lt hok) e0 hw ?_
  unfold kdD at h'
  cases ha : aU (wdD D) (2 ^ dr D - 1) (dn D) with
  | false =>
    refine am_ite_f (by decide) ?_
    rw [if_pos ha] at h'
    exact h'
  | true =>
    refine am_ite_t (by decide) ?_
    rw [if_neg (by rw [ha]; decide)] at h'
    have P2 : ∀ q k, 1 ≤ k → (k + q = dr D ∨ dr D = 0 ∧ q = 0 ∧ k = 1) → (dt D = 1 → sgB (wdD D) (dn D) = false) → R_Mod_kind d K 118 [.ref 153, .int (bI (sgB (wdD D) (dn D))), .int (bI (decide (dt D = 1) && allB k (fun r => decide (r = 0) || decide (dp D r = (dp D (r - 1) + 1) % dn D)))), .int (nI k)] [] τ := by
      intro q
      induction q with
      | zero =>
        intro k hk1 hk hns
        refine l_Mod_kind_118 ?_
        unfold w_Mod_readers
        dsimp only
        rw [e2]
        refine am_ite_t ?_ ?_
        · rcases hk with hk | hk
          · exact nI_le (by omega) (by omega)
          · rw [hk.1, hk.2.2]
            exact nI_le (by decide) (by decide)
        · have hpf : allB k (fun r => decide (r = 0) || decide (dp D r = (dp D (r - 1) + 1) % dn D)) = pfB D := by
            rcases hk with hk | hk
            · rw [show k = dr D by omega]
              rfl
            · unfold pfB
              rw [hk.1, hk.2.2]
              rfl
          rw [hpf]
          rw [if_neg (fun z => by rw [hns z.1] at z; exact absurd z.2 (by decide))] at h'
          by_cases c : dt D = 1 ∧ pfB D = true
          · rw [if_pos c] at h'
            rw [decide_eq_true c.1, c.2]
            exact am_ite_f (by decide) h'
          · rw [if_neg c] at h'
            have hcf : (decide (dt D = 1) && pfB D) = false := by
              cases hp : pfB D with
              | false => rw [Bool.and_false]
              | true => rw [decide_eq_false (fun z => c ⟨z, hp⟩), Bool.false_and]
            rw [hcf]
            refine am_ite_t rfl ?_
            cases hs : sgB (wdD D) (dn D) with
            | false => rw [hs, if_neg (by decide)] at h'; exact am_ite_t rfl h'
            | true => rw [hs, if_pos rfl] at h'; exact am_ite_f (by decide) h'
      | succ q ih =>
        intro k hk1 hk hns
        have hk : k + (q + 1) = dr D := by omega
        have ih' := ih (k + 1) (by omega) (by omega) hns
        rw [allB_s] at ih'
        refine l_Mod_kind_118 ?_
        unfold w_Mod_readers w_Mod_n
        dsimp only
        rw [e2, e0]
        refine pk_le (dr D) k (fun z => absurd z (by omega)) (fun _ => ?_)
        have q1 := g4 k (by omega)
        have q2 := g4 (k - 1) (by omega)
        rw [Nat.mul_zero, Nat.zero_add] at q1 q2
        have r1 := (k5 k (by omega)).2
        have r2 := (k5 (k - 1) (by omega)).2
        have hm : (dp D (k - 1) + 1) % dn D < dn D := Nat.mod_lt _ k1
        rw [nI_clamp (show k < 2 ^ 31 by omega), pk_sub hk1, nI_clamp (show k - 1 < 2 ^ 31 by omega), q1.2, q2.2, nI_add (dp D (k - 1)) 1, pk_rem (by omega) (by omega) (by omega), nI_add]
        cases hb : (decide (dt D = 1) && allB k (fun r => decide (r = 0) || decide (dp D r = (dp D (r - 1) + 1) % dn D))) with
        | false =>
          rw [← Bool.and_assoc, hb, Bool.false_and] at ih'
          exact am_ite_t rfl ih'
        | true =>
          rw [← Bool.and_assoc, hb, Bool.true_and, decide_eq_false (show ¬ k = 0 by omega), Bool.false_or] at ih'
          refine am_ite_f (by decide) ⟨pk_in k 320 (by omega), pk_in (k - 1) 320 (by omega), nI_ne0 (by omega) (by omega), ?_⟩
          constructor
          · intro z
            rw [decide_eq_false (fun y => z (by rw [y]))] at ih'
            exact ih'
          · intro z
            rw [decide_eq_true ((nI_eq (by omega) (by omega)).mp (Classical.not_not.mp z))] at ih'
            exact ih'
    have start2 : (dt D = 1 → sgB (wdD D) (dn D) = false) → am_ite (¬ nI (dt D) = nI 1) (R_Mod_kind d K 118 [.ref 153, .int (bI (sgB (wdD D) (dn D))), .int (nI 0), .int (nI 1)] [] τ) (R_Mod_kind d K 118 [.ref 153, .int (bI (sgB (wdD D) (dn D))), .int (nI 1), .int (nI 1)] [] τ) := by
      intro hns
      have p := P2 (dr D - 1) 1 (Nat.le_refl _) (by omega) hns
      rw [show allB 1 (fun r => decide (r = 0) || decide (dp D r = (dp D (r - 1) + 1) % dn D)) = true from rfl, Bool.and_true] at p
      constructor
      · intro z
        rw [decide_eq_false (fun y => z (by rw [y]))] at p
        exact p
      · intro z
        rw [decide_eq_true ((nI_eq (by omega) (by decide)).mp (Classical.not_not.mp z))] at p
        exact p
    have P1 : ∀ q s, s + q = dn D → R_Mod_kind d K 33 [.ref 153, .int (bI (decide (1 < dn D) && allB s (fun s => decide (bc (nI (xb (wdD D) (dn D) s)) = nI 1)))), .int (nI s), .null] [] τ := by
      intro q
      induction q with
      | zero =>
        intro s hs
        have hsn : s = dn D := by omega
        have hsg : (decide (1 < dn D) && allB s (fun s => decide (bc (nI (xb (wdD D) (dn D) s)) = nI 1))) = sgB (wdD D) (dn D) := by
          rw [hsn]
          by_cases c : 1 < dn D
          · rw [decide_eq_true c, Bool.true_and]
            rfl
          · rw [decide_eq_false c, Bool.false_and, sgB_1 (by omega)]
        rw [hsg]
        refine l_Mod_kind_33 ?_
        unfold w_Mod_n
        dsimp only
        rw [e0, e1]
        refine am_ite_t (nI_le (by omega) (by omega)) ?_
        cases hs2 : sgB (wdD D) (dn D) with
        | false =>
          have := start2 (fun _ => hs2)
          rw [hs2] at this
          exact am_ite_t rfl this
        | true =>
          refine am_ite_f (by decide) ?_
          constructor
          · intro z
            have := start2 (fun y => absurd (by rw [y]) z)
            rw [hs2] at this
            exact this
          · intro z
            rw [if_pos ⟨(nI_eq (by omega) (by decide)).mp (Classical.not_not.mp z), hs2⟩] at h'
            exact h'
      | succ q ih =>
        intro s hs
        have ih' := ih (s + 1) (by omega)
        rw [allB_s] at ih'
        refine l_Mod_kind_33 ?_
        unfold w_Mod_n
        dsimp only
        have hm : (s + 1) % dn D < dn D := Nat.mod_lt _ k1
        rw [e0, nI_clamp (show s < 2 ^ 31 by omega), hw s (by omega), nI_add, pk_rem (by omega) (by omega) (by omega), nI_clamp (show (s + 1) % dn D < 2 ^ 31 by omega), hw _ hm, q_xor]
        refine pk_le (dn D) s (fun z => absurd z (by omega)) (fun _ => ?_)
        cases hb : (decide (1 < dn D) && allB s (fun s => decide (bc (nI (xb (wdD D) (dn D) s)) = nI 1))) with
        | false =>
          rw [← Bool.and_assoc, hb, Bool.false_and] at ih'
          exact am_ite_t rfl ih'
        | true =>
          rw [← Bool.and_assoc, hb, Bool.true_and] at ih'
          refine am_ite_f (by decide) ⟨pk_in s 512 (by omega), nI_ne0 (by omega) (by omega), pk_in ((s + 1) % dn D) 512 (by omega), s_bitCount ?_⟩
          constructor
          · intro z
            have z : ¬ bc (nI (xb (wdD D) (dn D) s)) = nI 1 := z
            rw [decide_eq_false z] at ih'
            exact ih'
          · intro z
            have z : ¬ ¬ bc (nI (xb (wdD D) (dn D) s)) = nI 1 := z
            rw [decide_eq_true (Classical.not_not.mp z)] at ih'
            exact ih'
    have p := P1 (dn D) 0 (by omega)
    rw [show allB 0 (fun s => decide (bc (nI (xb (wdD D) (dn D) s)) = nI 1)) = true from rfl, Bool.and_true] at p
    unfold w_Mod_n
    dsimp only
    rw [e0]
    refine pk_le (dn D) 1 (fun z => ?_) (fun z => ?_)
    · rw [decide_eq_false (by omega)] at p
      exact p
    · rw [decide_eq_true (by omega)] at p
      exact p
