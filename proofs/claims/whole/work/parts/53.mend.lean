/-! MEND -/
theorem slT_cases (c : Nat → Nat) : ∀ k, k < 2 ^ 31 → slT c k = -1 ∨ ∃ a, a < k ∧ slT c k = nI a ∧ c a = 0 ∧ ∀ j, j < a → c j ≠ 0 := by
  have A : ∀ k, k < 2 ^ 31 → (slT c k = -1 ∧ ∀ j, j < k → c j ≠ 0) ∨ ∃ a, a < k ∧ slT c k = nI a ∧ c a = 0 ∧ ∀ j, j < a → c j ≠ 0 := by
    intro k
    induction k with
    | zero => intro _; exact Or.inl ⟨rfl, fun j hj => absurd hj (Nat.not_lt_zero j)⟩
    | succ k ih =>
      intro hk
      rcases ih (by omega) with ⟨i1, i2⟩ | ⟨a, a1, a2, a3, a4⟩
      · by_cases e : c k = 0
        · refine Or.inr ⟨k, by omega, ?_, e, i2⟩
          unfold slT
          rw [if_pos ⟨i1, e⟩]
        · refine Or.inl ⟨?_, fun j hj => ?_⟩
          · unfold slT
            rw [if_neg (fun z => e z.2), i1]
          · by_cases e2 : j = k
            · rw [e2]; exact e
            · exact i2 j (by omega)
      · refine Or.inr ⟨a, by omega, ?_, a3, a4⟩
        unfold slT
        rw [if_neg (fun z => by rw [a2] at z; exact ne1 (by omega) z.1), a2]
  intro k hk
  rcases A k hk with ⟨i1, _⟩ | i
  · exact Or.inl i1
  · exact Or.inr i
theorem lsT_some (P : Nat → Bool) : ∀ n, n < 2 ^ 31 → ctB P n ≠ 0 → ∃ f, f < n ∧ lsT P n = nI f := by
  intro n
  induction n with
  | zero => intro _ h; exact absurd rfl h
  | succ n ih =>
    intro hn h
    by_cases e : ctB P n = 0
    · have hP : P n = true := by
        cases hb : P n
        · exact absurd (show ctB P n + (P n).toNat = 0 by rw [e, hb]; rfl) h
        · rfl
      have A : ∀ m, ctB P m = 0 → ∀ s', s' < m → P s' = false := by
        intro m
        induction m with
        | zero => intro _ s' hs'; omega
        | succ m ihm =>
          intro hz s' hs'
          have hz2 : ctB P m + (P m).toNat = 0 := hz
          by_cases e2 : s' = m
          · rw [e2]
            cases hb : P m
            · rfl
            · rw [hb] at hz2; have : true.toNat = 1 := rfl; omega
          · exact ihm (by omega) s' (by omega)
      exact ⟨n, by omega, lsT_found P (n + 1) n (by omega) hn hP (A n e)⟩
    · obtain ⟨f, f1, f2⟩ := ih (by omega) e
      refine ⟨f, by omega, ?_⟩
      unfold lsT
      rw [f2, if_neg (fun z => ne1 (by omega) z.1)]
def wyR (n f s : Nat) : Nat := min (if f ≤ s then s - f else f - s) (n - if f ≤ s then s - f else f - s)
def mdS (B : Nat → Int32) (V : Nat → Nat) : Nat → Nat
  | 0 => 0
  | s + 1 => if B (s + 1) < B (mdS B V s) ∨ B (s + 1) = B (mdS B V s) ∧ V (s + 1) < V (mdS B V s) then s + 1 else mdS B V s
theorem mdS_le (B : Nat → Int32) (V : Nat → Nat) : ∀ s, mdS B V s ≤ s
  | 0 => Nat.le_refl _
  | s + 1 => by
    have := mdS_le B V s
    unfold mdS
    split <;> omega
theorem s_wayRound {n f s : Nat} {σ : am_S} {K : Int32 → am_S → Prop} (hn : n ≤ 512) (hf : f < n) (hs : s < n) (h : K (nI (wyR n f s)) σ) : w_Drive_wayRound (nI s) (nI f) (nI n) σ K := by
  unfold w_Drive_wayRound w_Math_abs
  unfold wyR at h
  by_cases e : f ≤ s
  · rw [if_pos e] at h
    rw [pk_sub e]
    refine am_ite_t (nI_le (Nat.zero_le _) (by omega)) ?_
    dsimp only
    rw [pk_sub (by omega)]
    exact s_min (by omega) (by omega) h
  · rw [if_neg e] at h
    refine am_ite_f (fun z => ?_) ?_
    · have := pk_sneg (a := s) (b := f) (by omega) (by omega)
      exact absurd this (Int32.not_lt.mpr z)
    · dsimp only
      rw [Int32.neg_sub, pk_sub (by omega), pk_sub (by omega)]
      exact s_min (by omega) (by omega) h
theorem bc_le (x : Int32) : ∃ j, j < 64 ∧ bc x = nI j := by
  unfold bc
  exact pk_andE _ 6 (by decide)
theorem s_mended {n r m a f : Nat} {W : Nat → Nat} {w : Nat → Int32} {σ : am_S} {K : Int32 → am_S → Prop} (hW : vW σ n r W) (hw : cW σ w m) (ha : a < m) (hf : f < n) (h7 : σ.1 22 7 = nI a) (h0 : a = 0 → f = 0) (h1 : a ≠ 0 → σ.1 25 (a - 1) = nI f) (h : K (nI (mdS (fun s => bc (nI (W s) ^^^ w a)) (wyR n f) (n - 1))) σ) : w_Drive_mendedStand σ K := by
  obtain ⟨v1, v2, v3, v4, v5, v6, v7⟩ := hW
  obtain ⟨w1, w2, w3⟩ := hw
  refine e_Drive_mendedStand (fun d => ?_)
  rw [h7]
  refine am_ite_t (ne1 (by omega)) ?_
  have L : ∀ q s, s + q + 1 = n → R_Drive_mendedStand d K 38 [.ref 22, .ref 9, .int (nI f), .int (nI (mdS (fun s => bc (nI (W s) ^^^ w a)) (wyR n f) s)), .int (nI (s + 1)), .null, .null, .null] [] σ := by
    intro q
    induction q with
    | zero =>
      intro s hs
      refine l_Drive_mendedStand_38 ?_
      rw [v1]
      refine pk_le n (s + 1) (fun _ => ?_) (fun z => absurd z (by omega))
      rw [show n - 1 = s by omega] at h
      exact h
    | succ q ih =>
      intro s hs
      refine l_Drive_mendedStand_38 ?_
      have hb := mdS_le (fun s => bc (nI (W s) ^^^ w a)) (wyR n f) s
      have ih' := ih (s + 1) (by omega)
      unfold mdS at ih'
      generalize mdS (fun s => bc (nI (W s) ^^^ w a)) (wyR n f) s = b at hb ih' ⊢
      rw [v1, h7, nI_clamp (show s + 1 < 2 ^ 31 by omega), nI_clamp (show a < 2 ^ 31 by omega), v3 (s + 1) (by omega), w3 a ha, nI_add (s + 1) 1]
      have av : vp_in (nI a) 2000 := pk_in a 2000 (by omega)
      refine pk_le n (s + 1) (fun z => absurd z (by omega)) (fun _ => ⟨pk_in (s + 1) 512 (by omega), av, s_bitCount ⟨pk_in b 512 (by omega), ?_⟩⟩)
      rw [h7]
      refine ⟨av, s_bitCount ?_⟩
      rw [nI_clamp (show b < 2 ^ 31 by omega), nI_clamp (show a < 2 ^ 31 by omega), v3 b (by omega), w3 a ha, v1]
      refine s_wayRound v5 hf (by omega) ?_
      rw [v1]
      refine s_wayRound v5 hf (by omega) ?_
      have l1 : wyR n f b ≤ 512 := by unfold wyR; omega
      have l2 : wyR n f (s + 1) ≤ 512 := by unfold wyR; omega
      refine pk_le (wyR n f b) (wyR n f (s + 1)) (fun z => ?_) (fun z => ?_)
      · refine ⟨fun z2 => ?_, fun z2 => ⟨fun z3 => ?_, fun z3 => ?_⟩⟩
        · rw [if_pos (Or.inl z2)] at ih'
          exact ih'
        · rw [if_neg (fun q => by rcases q with q | q; exact z2 q; exact z3 q.1)] at ih'
          exact ih'
        · rw [if_neg (fun q => by rcases q with q | q; exact z2 q; omega)] at ih'
          exact ih'
      · refine ⟨fun z2 => ?_, fun z2 => ⟨fun z3 => ?_, fun z3 => ?_⟩⟩
        · rw [if_pos (Or.inl z2)] at ih'
          exact ih'
        · rw [if_neg (fun q => by rcases q with q | q; exact z2 q; exact z3 q.1)] at ih'
          exact ih'
        · rw [if_pos (Or.inr ⟨Classical.not_not.mp z3, z⟩)] at ih'
          exact ih'
  refine pk_eq a 0 (fun e => ?_) (fun e => ?_) |> fun (q : (nI a = nI 0 → _) ∧ (¬ nI a = nI 0 → _)) => ⟨q.2, fun z => q.1 (Classical.not_not.mp z)⟩
  · have := h0 e
    subst this
    exact L (n - 1) 0 (by omega)
  · rw [pk_sub (by omega), nI_clamp (by omega), h1 e]
    exact ⟨pk_in (a - 1) 2000 (by omega), L (n - 1) 0 (by omega)⟩
theorem m_mendL {D : sp_D} {d m a f : Nat} {w : Nat → Int32} {σ : am_S} {K : Int32 → am_S → Prop} (hD : mD σ 0 D) (hok : d_ok D) (hW : mW σ (dn D) (wdD D)) (hv : mDv σ (m, w)) (hm5 : m ≤ 2000) (ha : a < m) (hf : f < dn D) (h : K (nI (mdS (fun s => bc (nI (wdD D s) ^^^ w a)) (wyR (dn D) f) (dn D - 1))) σ) : R_Mod_mend d K 62 [.ref 153, .int (nI a), .int (nI f), .int (-1), .int (nI 99), .int (nI 0), .int (nI 0), .null, .null] [] σ := by
  have k2 := hok.2.1
  have av : vp_in (nI a) 2000 := pk_in a 2000 (by omega)
  have hva : σ.1 159 a = w a := hv.2 a ha
  have n0 : ∀ KK : Int32 → am_S → Prop, KK (nI (dn D)) σ → w_Mod_n σ KK := fun KK hK => m_n hD hK
  -- one stand: what is taken over, by its bits and its way
  have T : ∀ (s : Nat) (x3 x4 x5 : Int32), s < dn D →
      ((¬ x4 < bc (nI (wdD D s) ^^^ w a)) → (bc (nI (wdD D s) ^^^ w a) = x4 → nI (wyR (dn D) f s) < x5) → R_Mod_mend d K 62 [.ref 153, .int (nI a), .int (nI f), .int (nI s), .int (bc (nI (wdD D s) ^^^ w a)), .int (nI (wyR (dn D) f s)), .int (nI (s + 1)), .null, .null] [] σ) →
      ((x4 < bc (nI (wdD D s) ^^^ w a)) ∨ (bc (nI (wdD D s) ^^^ w a) = x4 ∧ ¬ nI (wyR (dn D) f s) < x5) → R_Mod_mend d K 62 [.ref 153, .int (nI a), .int (nI f), .int x3, .int x4, .int x5, .int (nI (s + 1)), .null, .null] [] σ) →
      R_Mod_mend d K 62 [.ref 153, .int (nI a), .int (nI f), .int x3, .int x4, .int x5, .int (nI s), .null, .null] [] σ := by
    intro s x3 x4 x5 hs hA hB
    refine l_Mod_mend_62 (n0 _ ?_)
    rw [nI_clamp (show s < 2 ^ 31 by omega), nI_clamp (show a < 2 ^ 31 by omega), hW s hs, hva, nI_add s 1]
    refine pk_le (dn D) s (fun z => absurd z (by omega)) (fun _ => ⟨pk_in s 512 (by omega), av, s_bitCount ?_⟩)
    have E : ∀ v, wyR (dn D) f s = v → am_ite (x4 < bc (nI (wdD D s) ^^^ w a)) (R_Mod_mend d K 62 [.ref 153, .int (nI a), .int (nI f), .int x3, .int x4, .int x5, .int (nI (s + 1)), .null, .null] [] σ) (am_ite (¬ bc (nI (wdD D s) ^^^ w a) = x4) (R_Mod_mend d K 62 [.ref 153, .int (nI a), .int (nI f), .int (nI s), .int (bc (nI (wdD D s) ^^^ w a)), .int (nI v), .int (nI (s + 1)), .null, .null] [] σ) (am_ite (nI v < x5) (R_Mod_mend d K 62 [.ref 153, .int (nI a), .int (nI f), .int (nI s), .int (bc (nI (wdD D s) ^^^ w a)), .int (nI v), .int (nI (s + 1)), .null, .null] [] σ) (R_Mod_mend d K 62 [.ref 153, .int (nI a), .int (nI f), .int x3, .int x4, .int x5, .int (nI (s + 1)), .null, .null] [] σ))) := by
      intro v hv
      subst hv
      exact ⟨fun z => hB (Or.inl z), fun z => ⟨fun z2 => hA z (fun q => absurd q z2), fun z2 => ⟨fun z3 => hA z (fun _ => z3), fun z3 => hB (Or.inr ⟨Classical.not_not.mp z2, z3⟩)⟩⟩⟩
    refine pk_le f s (fun z => n0 _ ?_) (fun z => n0 _ ?_)
    · rw [pk_sub z, pk_sub (show s - f ≤ dn D by omega)]
      refine pk_le (s - f) (dn D - (s - f)) (fun z2 => E _ ?_) (fun z2 => n0 _ ?_)
      · unfold wyR
        rw [if_pos z]
        omega
      · rw [pk_sub (show s - f ≤ dn D by omega)]
        refine E _ ?_
        unfold wyR
        rw [if_pos z]
        omega
    · rw [pk_sub (show s ≤ f by omega), pk_sub (show f - s ≤ dn D by omega)]
      refine pk_le (f - s) (dn D - (f - s)) (fun z2 => E _ ?_) (fun z2 => n0 _ ?_)
      · unfold wyR
        rw [if_neg (by omega)]
        omega
      · rw [pk_sub (show f - s ≤ dn D by omega)]
        refine E _ ?_
        unfold wyR
        rw [if_neg (by omega)]
        omega
  have wl : ∀ s, wyR (dn D) f s ≤ 512 := fun s => by unfold wyR; omega
  have L : ∀ q s, s + q + 1 = dn D → R_Mod_mend d K 62 [.ref 153, .int (nI a), .int (nI f), .int (nI (mdS (fun s => bc (nI (wdD D s) ^^^ w a)) (wyR (dn D) f) s)), .int (bc (nI (wdD D (mdS (fun s => bc (nI (wdD D s) ^^^ w a)) (wyR (dn D) f) s)) ^^^ w a)), .int (nI (wyR (dn D) f (mdS (fun s => bc (nI (wdD D s) ^^^ w a)) (wyR (dn D) f) s))), .int (nI (s + 1)), .null, .null] [] σ := by
    intro q
    induction q with
    | zero =>
      intro s hs
      refine l_Mod_mend_62 (n0 _ (pk_le (dn D) (s + 1) (fun _ => ?_) (fun z => absurd z (by omega))))
      rw [show dn D - 1 = s by omega] at h
      exact h
    | succ q ih =>
      intro s hs
      have ih' := ih (s + 1) (by omega)
      unfold mdS at ih'
      generalize mdS (fun s => bc (nI (wdD D s) ^^^ w a)) (wyR (dn D) f) s = b at ih' ⊢
      refine T (s + 1) _ _ _ (by omega) (fun z1 z2 => ?_) (fun z => ?_)
      · rw [if_pos] at ih'
        · exact ih'
        · by_cases e : bc (nI (wdD D (s + 1)) ^^^ w a) = bc (nI (wdD D b) ^^^ w a)
          · exact Or.inr ⟨e, (nI_ltI (Nat.lt_of_le_of_lt (wl _) (by decide)) (Nat.lt_of_le_of_lt (wl _) (by decide))).mp (z2 e)⟩
          · exact Or.inl (Int32.lt_of_le_of_ne (Int32.not_lt.mp z1) e)
      · rw [if_neg] at ih'
        · exact ih'
        · rintro (q1 | ⟨q1, q2⟩)
          · rcases z with z | z
            · exact Int32.lt_asymm q1 z
            · rw [z.1] at q1
              exact Int32.lt_irrefl q1
          · rcases z with z | z
            · rw [q1] at z
              exact Int32.lt_irrefl z
            · exact z.2 (nI_lt q2 (Nat.lt_of_le_of_lt (wl _) (by decide)))
  refine T 0 _ _ _ (by omega) (fun z1 z2 => ?_) (fun z => ?_)
  · exact L (dn D - 1) 0 (by omega)
  · exfalso
    obtain ⟨j, j1, j2⟩ := bc_le (nI (wdD D 0) ^^^ w a)
    rw [j2] at z
    rcases z with z | z
    · have := (nI_ltI (by decide) (by omega)).mp z
      omega
    · have := (nI_eq (by omega) (by decide)).mp z.1
      omega
theorem g_lookE {θ σ : am_S} {S : sp_S} {K : am_S → Prop} (hJ : Jc θ S σ) (h : ∀ τ, Jc θ S τ → vW τ (dn (sd S)) (dr (sd S)) (wdD (sd S)) → am_eq (fun k => k = 9 ∨ k = 10) σ τ → K τ) : w_WD_lookedAt σ K := by
  obtain ⟨h1, h2, h3, h4, h5, h6, h7, h8, h9, h10⟩ := hJ.1.1
  refine s_look h3.1 h3.2 h6 (fun τ e1 hW he => h τ ⟨⟨⟨?_, h2.kept he (by decide) (by decide), ⟨h3.1.kept he (by decide) (by decide) (by decide) (by decide), h3.2⟩, h4.kept he (by decide) (fun k a b => by omega), h5.kept he (by decide) (by decide) (by decide), Or.inr ⟨e1, hW⟩, h7.kept he (by decide) (by decide), h8.kept he (fun k a b => by omega), h9.kept he (by decide) (by decide), h10.kept he (by decide)⟩, hJ.1.2.cls (he.mono (fun k hk => by omega))⟩, hJ.2.tr (he.mono (fun k hk => by omega))⟩ hW he)
  rw [(he 0 (by decide)).1]
  exact h1
theorem x_mend {θ σ : am_S} {K : Int32 → Int32 → am_S → Prop} (hJ : J θ σ) (h : ∀ v τ, J θ τ → K v v τ) : w_WD_mend σ (fun r τ => w_Mod_mend τ (K r)) := by
  obtain ⟨⟨S, hc, hm⟩, he⟩ := hJ
  have hok := hc.2.2.1.2
  have k2 := hok.2.1
  have k4 := hok.2.2.2.1
  have c2 := hc.2.2.2.2.2.2.2.1.1.2.1
  refine g_follow ⟨⟨hc, hm⟩, he⟩ (fun τ1 hJ1 hF1 hW1 => g_lookE hJ1 (fun τ hJ hW eL => ?_))
  have hF : cF τ (wdD (sd S)) (dn (sd S)) (sv S).2 (sv S).1 := hF1.kept eL (by decide) (by decide) (by decide) (by decide)
  have hw : cW τ (sv S).2 (sv S).1 := hJ.1.1.2.2.2.2.2.2.2.1.1
  have first : ∀ (KK : Int32 → am_S → Prop), (∀ υ, mF υ (wdD (sd S)) (dn (sd S)) (sv S).2 (sv S).1 → mW υ (dn (sd S)) (wdD (sd S)) → am_eq fwC (f0 (am_upI τ 0 12 (nI 0))) υ → fEq (fun i => i = 30) (f0 (am_upI τ 0 12 (nI 0))) υ → KK (nI (ctF (wdD (sd S)) (dn (sd S)) (sv S).2 (sv S).1)) υ) → w_Mod_follow ((am_upI τ 0 12 (nI 0)).1 153 11 - nI 1) (am_upI (am_upI τ 0 12 (nI 0)) 153 18 (nI 0)) KK := by
    intro KK hK
    rw [hJ.d11]
    exact m_follow (m := (sv S).1) (w := (sv S).2) rfl (hJ.md.f0 k4) hok hJ.dv c2 (Nat.le_refl _) hK
  rcases slT_cases (fun j => ctB (rcB (wdD (sd S)) (dn (sd S)) (sv S).2 j) (dn (sd S))) (sv S).1 (by omega) with e | ⟨a, a1, a2, a3, a4⟩
  · refine e_Drive_mendedStand (fun d => ?_)
    rw [hF.1, e]
    refine am_ite_f (fun z => z rfl) (e_Mod_mend (fun d => first _ (fun υ hF2 _ e1 hf => am_ite_f (fun z => z (hF2.1.trans e)) (h _ _ (hJ.fol e1 hf)))))
  · obtain ⟨f, f1, f2, f3⟩ : ∃ f, f < dn (sd S) ∧ (a = 0 → f = 0) ∧ (a ≠ 0 → lsT (rcB (wdD (sd S)) (dn (sd S)) (sv S).2 (a - 1)) (dn (sd S)) = nI f) := by
      by_cases e : a = 0
      · exact ⟨0, hok.1, fun _ => rfl, fun z => absurd e z⟩
      · obtain ⟨f, g1, g2⟩ := lsT_some (rcB (wdD (sd S)) (dn (sd S)) (sv S).2 (a - 1)) (dn (sd S)) (by omega) (a4 (a - 1) (by omega))
        exact ⟨f, g1, fun z => absurd z e, fun _ => g2⟩
    refine s_mended hW hw a1 f1 (hF.1.trans a2) f2 (fun e => ((hF.2.1 (a - 1) (by omega)).2).trans (f3 e)) (e_Mod_mend (fun d => first _ (fun υ hF2 hWm e1 hf => ?_)))
    have hDm : ∀ {υ : am_S}, am_eq fwC (f0 (am_upI τ 0 12 (nI 0))) υ → mD υ 0 (sd S) := fun e => (hJ.md.f0 k4).slot k4 (sEq.of e (by unfold fwC; omega) (by unfold fwC; omega) (by unfold fwC; omega) (by unfold fwC; omega))
    have hDv : ∀ {υ : am_S}, am_eq fwC (f0 (am_upI τ 0 12 (nI 0))) υ → fEq (fun i => i = 30) (f0 (am_upI τ 0 12 (nI 0))) υ → mDv υ (sv S) := fun e q => hJ.dv.kept e q (by unfold fwC; omega) (by decide)
    have e30 : υ.1 153 30 = nI a := hF2.1.trans a2
    rw [e30]
    refine am_ite_t (ne1 (by omega)) (pk_le a 0 (fun z => ?_) (fun z => ?_))
    · have a0 : a = 0 := by omega
      have := f2 a0
      subst this
      exact m_mendL (m := (sv S).1) (w := (sv S).2) (hDm e1) hok hWm (hDv e1 hf) c2 a1 f1 (h _ _ (hJ.fol e1 hf))
    · refine m_follow (k := a) (m := (sv S).1) (w := (sv S).2) rfl (hDm e1) hok (hDv e1 hf) c2 (by omega) (fun υ2 hF3 hWm2 e2 hf2 => ?_)
      have e3 := e1.tr e2
      have hf3 := hf.tr hf2
      refine m_leastStand (hDm e3) hok (fun s hs => hF3.2 (a - 1) (by omega) s hs) ?_
      rw [f3 (by omega)]
      exact m_mendL (m := (sv S).1) (w := (sv S).2) (hDm e3) hok hWm2 (hDv e3 hf3) c2 a1 f1 (h _ _ (hJ.fol e3 hf3))
