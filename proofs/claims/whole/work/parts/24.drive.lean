/-! DRIVES: where the wheel can stand behind word k -/
def rcB (W : Nat → Nat) (n : Nat) (w : Nat → Int32) : Nat → Nat → Bool
  | 0, s => decide (nI (W s) = w 0)
  | k + 1, s => decide (nI (W s) = w (k + 1)) && (rcB W n w k s || (rcB W n w k ((s + n - 1) % n) || rcB W n w k ((s + 1) % n)))
/-- the least of the first s that is so -/
def lsT (P : Nat → Bool) : Nat → Int32
  | 0 => -1
  | s + 1 => if lsT P s = -1 ∧ P s = true then nI s else lsT P s
/-- the first of the first k that is 0 -/
def slT (c : Nat → Nat) : Nat → Int32
  | 0 => -1
  | k + 1 => if slT c k = -1 ∧ c k = 0 then nI k else slT c k
theorem ctB_le (P : Nat → Bool) : ∀ n, ctB P n ≤ n
  | 0 => Nat.le_refl _
  | n + 1 => by
    have h := ctB_le P n
    have h2 : (P n).toNat ≤ 1 := Bool.toNat_le _
    unfold ctB
    omega
theorem s_near {P : Nat → Bool} {n s : Nat} {σ : am_S} {K : Int32 → am_S → Prop} (hn : n ≤ 512) (hs : s < n) (hP : ∀ s', s' < n → σ.1 26 s' = bI (P s')) (h : K (bI (P s || (P ((s + n - 1) % n) || P ((s + 1) % n)))) σ) : w_Drive_isNearReached (nI s) (nI n) σ K := by
  unfold w_Drive_isNearReached
  have m1 : (s + n - 1) % n < n := Nat.mod_lt _ (by omega)
  have m2 : (s + 1) % n < n := Nat.mod_lt _ (by omega)
  refine ⟨pk_in s 512 (by omega), ?_⟩
  rw [nI_clamp (by omega), hP s hs]
  cases h1 : P s with
  | true => rw [h1] at h; exact am_ite_t (by decide) h
  | false =>
    rw [h1, Bool.false_or] at h
    refine am_ite_f (by decide) (s_stepDown (by omega) hs ⟨pk_in ((s + n - 1) % n) 512 (by omega), ?_⟩)
    rw [nI_clamp (by omega), hP _ m1]
    cases h2 : P ((s + n - 1) % n) with
    | true => rw [h2] at h; exact am_ite_t (by decide) h
    | false =>
      rw [h2, Bool.false_or] at h
      refine am_ite_f (by decide) (s_stepUp (by omega) hs ⟨pk_in ((s + 1) % n) 512 (by omega), ?_⟩)
      rw [nI_clamp (by omega), hP _ m2]
      cases h3 : P ((s + 1) % n) with
      | true => rw [h3] at h; exact am_ite_f (by decide) h
      | false => rw [h3] at h; exact am_ite_t rfl h
/-- the DRIVE's words -/
def cW (σ : am_S) (w : Nat → Int32) (m : Nat) : Prop := σ.1 22 5 = nI m ∧ m ≤ 2000 ∧ ∀ k, k < m → σ.1 23 k = w k
/-- how far the drive is followed on the words W -/
def cF (σ : am_S) (W : Nat → Nat) (n : Nat) (w : Nat → Int32) (f : Nat) : Prop := σ.1 22 7 = slT (fun k => ctB (rcB W n w k) n) f ∧ (∀ k, k < f → σ.1 24 k = nI (ctB (rcB W n w k) n) ∧ σ.1 25 k = lsT (rcB W n w k) n) ∧ ∀ k, k + 1 = f → ∀ s, s < n → σ.1 26 s = bI (rcB W n w k s)
theorem ne1 {n : Nat} (h : n < 2 ^ 31) : ¬ nI n = -1 := by
  intro z
  have := congrArg Int32.toInt z
  rw [nI_toInt h, show (-1 : Int32).toInt = -1 by decide] at this
  omega
/-- the row of the next STANDS becomes the row of STANDS -/
theorem s_takeNext {n : Nat} {P : Nat → Bool} {σ : am_S} {K : am_S → Prop} (hn : n ≤ 512) (hP : ∀ i, i < n → σ.1 27 i = bI (P i)) (h : ∀ τ, (∀ i, i < n → τ.1 26 i = σ.1 27 i) → am_eq (fun c => c = 26) σ τ → K τ) : w_Drive_takeNext (nI n) σ K := by
  refine e_Drive_takeNext (fun d => ?_)
  have L : ∀ q i (τ : am_S), i + q = n → am_eq (fun c => c = 26) σ τ → (∀ j, j < i → τ.1 26 j = σ.1 27 j) → R_Drive_takeNext d K 2 [.ref 22, .int (nI n), .int (nI i)] [] τ := by
    intro q
    induction q with
    | zero =>
      intro i τ hi he hr
      have : i = n := by omega
      subst this
      exact l_Drive_takeNext_2 (am_ite_t (nI_le (Nat.le_refl _) (by omega)) (h τ hr he))
    | succ q ih =>
      intro i τ hi he hr
      refine l_Drive_takeNext_2 ?_
      have hin : vp_in (nI i) 512 := pk_in i 512 (by omega)
      rw [nI_clamp (show i < 2 ^ 31 by omega), (he 27 (by omega)).1, nI_add]
      refine pk_le n i (fun z => absurd z (by omega)) (fun _ => ⟨hin, hin, ?_, ?_⟩)
      · rw [hP i (by omega)]
        exact bI_01 _
      · refine ih (i + 1) _ (by omega) (he.tr (am_eq.upI rfl)) (fun j hj => ?_)
        rw [u_I]
        by_cases e : j = i
        · subst e
          rw [if_pos ⟨rfl, rfl⟩]
        · rw [if_neg (fun z => e z.2)]
          exact hr j (by omega)
  exact L n 0 σ (by omega) am_eq.rf (fun j hj => absurd hj (Nat.not_lt_zero j))
theorem s_followWord {n r m k : Nat} {W : Nat → Nat} {w : Nat → Int32} {σ : am_S} {K : am_S → Prop} (hW : vW σ n r W) (hw : cW σ w m) (hk : k < m) (hF : cF σ W n w k) (h : ∀ τ, cF τ W n w (k + 1) → am_eq (fun c => 22 ≤ c ∧ c ≤ 27) σ τ → (∀ i, i ≠ 7 → τ.1 22 i = σ.1 22 i) → τ.1 23 = σ.1 23 → K τ) : w_Drive_followWord (nI k) σ K := by
  refine e_Drive_followWord (fun d => ?_)
  obtain ⟨h1, h2, h3, h4, h5, h6, h7⟩ := id hW
  obtain ⟨w1, w2, w3⟩ := hw
  obtain ⟨f1, f2, f3⟩ := hF
  have hk2 : vp_in (nI k) 2000 := pk_in k 2000 (by omega)
  have L : ∀ q s (τ : am_S), s + q = n → am_eq (fun c => c = 27) σ τ → (∀ s', s' < s → τ.1 27 s' = bI (rcB W n w k s')) → R_Drive_followWord d K 8 [.ref 22, .ref 9, .int (nI k), .int (nI (ctB (rcB W n w k) s)), .int (lsT (rcB W n w k) s), .int (nI s), .null] [] τ := by
    intro q
    induction q with
    | zero =>
      intro s τ hs he hr
      have hsn : s = n := by omega
      subst hsn
      refine l_Drive_followWord_8 ?_
      rw [(he 9 (by omega)).1, h1, nI_clamp (show k < 2 ^ 31 by omega)]
      have hc : ctB (rcB W s w k) s ≤ s := ctB_le _ _
      refine am_ite_t (nI_le (Nat.le_refl _) (by omega)) (s_takeNext (P := rcB W s w k) h5 hr (fun υ hu eu => ⟨hk2, hk2, ?_⟩))
      rw [(eu 22 (by omega)).1, (he 22 (by omega)).1, f1]
      · have common : ∀ (v : Int32) (τ' : am_S), τ'.1 22 7 = v → (∀ i, i ≠ 7 → τ'.1 22 i = τ.1 22 i) → τ'.1 23 = τ.1 23 → (∀ i, τ'.1 24 i = if i = k then nI (ctB (rcB W s w k) s) else τ.1 24 i) → (∀ i, τ'.1 25 i = if i = k then lsT (rcB W s w k) s else τ.1 25 i) → (∀ i, i < s → τ'.1 26 i = τ.1 27 i) → am_eq (fun c => 22 ≤ c ∧ c ≤ 26) τ τ' → v = slT (fun k => ctB (rcB W s w k) s) (k + 1) → K τ' := by
          intro v τ' e7 e22 e23 e24 e25 e26 he' hv
          refine h τ' ⟨by rw [e7, hv], fun j hj => ?_, fun j hj s' hs' => ?_⟩ ((he.mono (fun c hc => by omega)).tr (he'.mono (fun c hc => by omega))) (fun i hi => by rw [e22 i hi, (he 22 (by omega)).1]) (by rw [e23, (he 23 (by omega)).1])
          · rw [e24, e25]
            by_cases e : j = k
            · subst e
              rw [if_pos rfl, if_pos rfl]
              exact ⟨rfl, rfl⟩
            · rw [if_neg e, if_neg e, (he 24 (by omega)).1, (he 25 (by omega)).1]
              exact f2 j (by omega)
          · have : j = k := by omega
            subst this
            rw [e26 s' hs']
            exact hr s' hs'
        have cE : am_eq (fun c => 22 ≤ c ∧ c ≤ 26) τ (am_upI (am_upI υ 24 k (nI (ctB (rcB W s w k) s))) 25 k (lsT (rcB W s w k) s)) := ((eu.mono (fun c hc => by omega)).tr (am_eq.upI (by decide))).tr (am_eq.upI (by decide))
        have r24 : ∀ i, (am_upI (am_upI υ 24 k (nI (ctB (rcB W s w k) s))) 25 k (lsT (rcB W s w k) s)).1 24 i = if i = k then nI (ctB (rcB W s w k) s) else τ.1 24 i := fun i => by
          rw [u_In _ _ (by omega), u_I]
          by_cases e : i = k
          · rw [if_pos ⟨rfl, e⟩, if_pos e]
          · rw [if_neg (fun z => e z.2), if_neg e, (eu 24 (by omega)).1]
        have r25 : ∀ i, (am_upI (am_upI υ 24 k (nI (ctB (rcB W s w k) s))) 25 k (lsT (rcB W s w k) s)).1 25 i = if i = k then lsT (rcB W s w k) s else τ.1 25 i := fun i => by
          rw [u_I]
          by_cases e : i = k
          · rw [if_pos ⟨rfl, e⟩, if_pos e]
          · rw [if_neg (fun z => e z.2), if_neg e, u_In _ _ (by omega), (eu 25 (by omega)).1]
        have r22 : ∀ i, (am_upI (am_upI υ 24 k (nI (ctB (rcB W s w k) s))) 25 k (lsT (rcB W s w k) s)).1 22 i = τ.1 22 i := fun i => by
          rw [u_In _ _ (by omega), u_In _ _ (by omega), (eu 22 (by omega)).1]
        have r23 : (am_upI (am_upI υ 24 k (nI (ctB (rcB W s w k) s))) 25 k (lsT (rcB W s w k) s)).1 23 = τ.1 23 := by
          funext i
          rw [u_In _ _ (by omega), u_In _ _ (by omega), (eu 23 (by omega)).1]
        have r26 : ∀ i, i < s → (am_upI (am_upI υ 24 k (nI (ctB (rcB W s w k) s))) 25 k (lsT (rcB W s w k) s)).1 26 i = τ.1 27 i := fun i hi => by
          rw [u_In _ _ (by omega), u_In _ _ (by omega)]
          exact hu i hi
        by_cases e0 : ctB (rcB W s w k) s = 0
        · refine am_ite_f (by rw [e0]; simp) ?_
          by_cases e1 : slT (fun k => ctB (rcB W s w k) s) k = -1
          · refine am_ite_f (by rw [e1]; simp) ?_
            refine common (nI k) _ (u_Is _ _ _ _) (fun i hi => by rw [u_In _ _ (by omega)]; exact r22 i) (by funext i; rw [u_In _ _ (by omega), r23]) (fun i => by rw [u_In _ _ (by omega)]; exact r24 i) (fun i => by rw [u_In _ _ (by omega)]; exact r25 i) (fun i hi => by rw [u_In _ _ (by omega)]; exact r26 i hi) (cE.tr (am_eq.upI (by decide))) ?_
            unfold slT
            rw [if_pos ⟨e1, e0⟩]
          · refine am_ite_t e1 ?_
            refine common _ _ ((r22 7).trans ((congrFun (he 22 (by omega)).1 7).trans f1)) (fun i _ => r22 i) r23 r24 r25 r26 cE ?_
            conv => rhs; unfold slT
            rw [if_neg (fun z => e1 z.1)]
        · refine am_ite_t (nI_ne0 (by omega) (by omega)) ?_
          refine common _ _ ((r22 7).trans ((congrFun (he 22 (by omega)).1 7).trans f1)) (fun i _ => r22 i) r23 r24 r25 r26 cE ?_
          conv => rhs; unfold slT
          rw [if_neg (fun z => e0 z.2)]
    | succ q ih =>
      intro s τ hs he hr
      refine l_Drive_followWord_8 ?_
      have hin : vp_in (nI s) 512 := pk_in s 512 (by omega)
      rw [(he 9 (by omega)).1, h1, nI_clamp (show s < 2 ^ 31 by omega), nI_clamp (show k < 2 ^ 31 by omega), (he 10 (by omega)).1, h3 s (by omega), (he 23 (by omega)).1, w3 k hk]
      refine pk_le n s (fun z => absurd z (by omega)) (fun _ => ⟨hin, hk2, ?_⟩)
      have next : ∀ b : Bool, b = rcB W n w k s → ∀ c l, c = nI (ctB (rcB W n w k) (s + 1)) → l = lsT (rcB W n w k) (s + 1) → R_Drive_followWord d K 8 [.ref 22, .ref 9, .int (nI k), .int c, .int l, .int (nI s + nI 1), .null] [] (am_upI τ 27 s (bI b)) := by
        intro b hb c l hc hl
        rw [hc, hl, nI_add]
        refine ih (s + 1) _ (by omega) (he.tr (am_eq.upI rfl)) (fun s' hs' => ?_)
        rw [u_I]
        by_cases e : s' = s
        · subst e
          rw [if_pos ⟨rfl, rfl⟩, hb]
        · rw [if_neg (fun z => e z.2)]
          exact hr s' (by omega)
      have no : rcB W n w k s = false → R_Drive_followWord d K 8 [.ref 22, .ref 9, .int (nI k), .int (nI (ctB (rcB W n w k) s)), .int (lsT (rcB W n w k) s), .int (nI s + nI 1), .null] [] (am_upI τ 27 s (nI 0)) := fun hb => by
        refine next false hb.symm _ _ ?_ ?_
        · conv => rhs; unfold ctB
          rw [hb]
          rfl
        · conv => rhs; unfold lsT
          rw [if_neg (fun z => by rw [hb] at z; exact absurd z.2 (by decide))]
      have yes : rcB W n w k s = true → am_ite (¬ lsT (rcB W n w k) s = -1) (R_Drive_followWord d K 8 [.ref 22, .ref 9, .int (nI k), .int (nI (ctB (rcB W n w k) s) + nI 1), .int (lsT (rcB W n w k) s), .int (nI s + nI 1), .null] [] (am_upI τ 27 s (nI 1))) (R_Drive_followWord d K 8 [.ref 22, .ref 9, .int (nI k), .int (nI (ctB (rcB W n w k) s) + nI 1), .int (nI s), .int (nI s + nI 1), .null] [] (am_upI τ 27 s (nI 1))) := fun hb => by
        have hc : nI (ctB (rcB W n w k) s) + nI 1 = nI (ctB (rcB W n w k) (s + 1)) := by
          rw [nI_add]
          conv => rhs; unfold ctB
          rw [hb]
          rfl
        constructor
        · intro z
          refine next true hb.symm _ _ hc ?_
          conv => rhs; unfold lsT
          rw [if_neg (fun y => z y.1)]
        · intro z
          refine next true hb.symm _ _ hc ?_
          conv => rhs; unfold lsT
          rw [if_pos ⟨Classical.not_not.mp z, hb⟩]
      constructor
      · intro z
        refine ⟨hin, no ?_⟩
        cases k with
        | zero => unfold rcB; exact decide_eq_false z
        | succ k => unfold rcB; rw [decide_eq_false z, Bool.false_and]
      · intro z
        have z := Classical.not_not.mp z
        cases k with
        | zero =>
          refine am_ite_t rfl ⟨hin, yes ?_⟩
          unfold rcB
          exact decide_eq_true z
        | succ k =>
          refine am_ite_f (nI_ne0 (by omega) (by omega)) ?_
          refine s_near (P := rcB W n w k) h5 (by omega) (fun s' hs' => by rw [(he 26 (by omega)).1]; exact f3 k rfl s' hs') ?_
          have hb : rcB W n w (k + 1) s = (rcB W n w k s || (rcB W n w k ((s + n - 1) % n) || rcB W n w k ((s + 1) % n))) := by
            conv => lhs; unfold rcB
            rw [decide_eq_true z, Bool.true_and]
          rw [← hb]
          cases hc : rcB W n w (k + 1) s with
          | false => exact am_ite_t rfl ⟨hin, no hc⟩
          | true => exact am_ite_f (by decide) ⟨hin, yes hc⟩
  exact L n 0 σ (by omega) am_eq.rf (fun s' hs' => absurd hs' (Nat.not_lt_zero s'))
theorem s_follow {n r m f : Nat} {W : Nat → Nat} {w : Nat → Int32} {σ : am_S} {K : am_S → Prop} (hW : vW σ n r W) (hw : cW σ w m) (hf : f ≤ m) (hf6 : σ.1 22 6 = nI f) (hF : cF σ W n w f) (h : ∀ τ, cF τ W n w m → cW τ w m → τ.1 22 6 = nI m → am_eq (fun c => 22 ≤ c ∧ c ≤ 27) σ τ → K τ) : w_Drive_follow σ K := by
  refine e_Drive_follow (fun d => ?_)
  rw [hf6]
  have L : ∀ q k (τ : am_S), k + q = m → am_eq (fun c => 22 ≤ c ∧ c ≤ 27) σ τ → cW τ w m → cF τ W n w k → R_Drive_follow d K 5 [.ref 22, .ref 9, .int (nI k)] [] τ := by
    intro q
    induction q with
    | zero =>
      intro k τ hk he hw' hF'
      have : k = m := by omega
      subst this
      refine l_Drive_follow_5 ?_
      obtain ⟨w1, w2, w3⟩ := hw'
      rw [w1]
      refine am_ite_t (nI_le (Nat.le_refl _) (by omega)) (h _ ⟨?_, ?_, ?_⟩ ⟨?_, w2, w3⟩ (u_Is _ _ _ _) (he.tr (am_eq.upI (by decide))))
      · rw [u_In _ _ (by omega)]; exact hF'.1
      · exact hF'.2.1
      · exact hF'.2.2
      · rw [u_In _ _ (by omega)]; exact w1
    | succ q ih =>
      intro k τ hk he hw' hF'
      refine l_Drive_follow_5 ?_
      rw [hw'.1]
      have w2 := hw'.2.1
      refine pk_le m k (fun z => absurd z (by omega)) (fun _ => s_followWord (hW.kept he (by omega) (by omega)) hw' (by omega) hF' (fun τ' hF2 he' e22 e23 => ?_))
      rw [nI_add]
      refine ih (k + 1) τ' (by omega) (he.tr he') ⟨by rw [e22 5 (by decide)]; exact hw'.1, w2, fun j hj => by rw [e23]; exact hw'.2.2 j hj⟩ hF2
  exact L (m - f) f σ (by omega) am_eq.rf hw hF
