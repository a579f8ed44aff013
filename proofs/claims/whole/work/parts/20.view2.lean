/-- all of the first n -/
def allB (n : Nat) (P : Nat → Bool) : Bool := (List.range n).all P
theorem allB_iff {n : Nat} {P : Nat → Bool} : allB n P = true ↔ ∀ s, s < n → P s = true := by
  unfold allB
  rw [List.all_eq_true]
  exact ⟨fun h s hs => h s (List.mem_range.mpr hs), fun h s hs => h s (List.mem_range.mp hs)⟩
theorem allB_f {n s : Nat} {P : Nat → Bool} (hs : s < n) (h : P s = false) : allB n P = false := by
  rw [← Bool.not_eq_true, allB_iff]
  intro z
  rw [z s hs] at h
  cases h
/-- in which readers a stand and the next one are unlike -/
def xb (W : Nat → Nat) (n s : Nat) : Nat := W s ^^^ W ((s + 1) % n)
theorem xb_lt {W : Nat → Nat} {n r : Nat} (h : ∀ s, W s < 2 ^ r) (s : Nat) : xb W n s < 2 ^ r := Nat.xor_lt_two_pow (h s) (h _)
theorem s_unlikeBehind {n r s : Nat} {W : Nat → Nat} {σ : am_S} {K : Int32 → am_S → Prop} (hW : vW σ n r W) (hs : s < n) (h : K (nI (xb W n s)) σ) : w_View_unlikeBehind (nI s) σ K := by
  obtain ⟨h1, h2, h3, h4, h5, h6, h7⟩ := hW
  unfold w_View_unlikeBehind
  refine ⟨pk_in s 512 (by omega), ?_⟩
  rw [h1, nI_clamp (by omega), h3 s hs]
  have hm : (s + 1) % n < n := Nat.mod_lt _ h4
  refine s_stepUp (by omega) hs ⟨pk_in ((s + 1) % n) 512 (by omega), ?_⟩
  rw [nI_clamp (by omega), h3 _ hm, q_xor]
  exact h
def sgB (W : Nat → Nat) (n : Nat) : Bool := allB n (fun s => decide (bc (nI (xb W n s)) = nI 1))
theorem s_stepsAreSingle {n r : Nat} {W : Nat → Nat} {σ : am_S} {K : Int32 → am_S → Prop} (hW : vW σ n r W) (h : K (bI (sgB W n)) σ) : w_View_stepsAreSingle σ K := by
  refine e_View_stepsAreSingle (fun d => ?_)
  obtain ⟨h1, h2, h3, h4, h5, h6, h7⟩ := id hW
  have L : ∀ q s, s + q = n → (∀ s', s' < s → decide (bc (nI (xb W n s')) = nI 1) = true) → R_View_stepsAreSingle d K 2 [.ref 9, .int (nI s)] [] σ := by
    intro q
    induction q with
    | zero =>
      intro s hs ha
      refine l_View_stepsAreSingle_2 ?_
      rw [h1]
      refine pk_le n s (fun _ => ?_) (fun z => absurd z (by omega))
      have e : sgB W n = true := allB_iff.mpr (fun s' hs' => ha s' (by omega))
      rw [e] at h
      exact h
    | succ q ih =>
      intro s hs ha
      refine l_View_stepsAreSingle_2 ?_
      rw [h1]
      refine pk_le n s (fun z => absurd z (by omega)) (fun _ => ?_)
      refine s_unlikeBehind hW (by omega) (s_bitCount ?_)
      constructor
      · intro hc
        rw [nI_add]
        refine ih (s + 1) (by omega) (fun s' hs' => ?_)
        by_cases e : s' = s
        · subst e; exact decide_eq_true hc
        · exact ha s' (by omega)
      · intro hc
        have e : sgB W n = false := allB_f (s := s) (by omega) (decide_eq_false hc)
        rw [e] at h
        exact h
  exact L n 0 (by omega) (fun s' hs' => absurd hs' (Nat.not_lt_zero s'))
def pfB (D : sp_D) : Bool := allB (dr D) (fun r => decide (r = 0) || decide (dp D r = (dp D (r - 1) + 1) % dn D))
theorem s_placesFollow {D : sp_D} {σ : am_S} {K : Int32 → am_S → Prop} (hD : cD σ 3 D) (hok : d_ok D) (h : K (bI (pfB D)) σ) : w_Disc_placesFollowOneAnother σ K := by
  refine e_Disc_placesFollowOneAnother (fun d => ?_)
  obtain ⟨h1, h2, h3, h4, h5⟩ := hD
  obtain ⟨k1, k2, k3, k4, k5, k6⟩ := hok
  have L : ∀ q r, 1 ≤ r → (r + q = dr D ∨ dr D = 0 ∧ q = 0 ∧ r = 1) → (∀ r', r' < r → (decide (r' = 0) || decide (dp D r' = (dp D (r' - 1) + 1) % dn D)) = true) → R_Disc_placesFollowOneAnother d K 2 [.ref 3, .int (nI r)] [] σ := by
    intro q
    induction q with
    | zero =>
      intro r hr1 hr ha
      refine l_Disc_placesFollowOneAnother_2 ?_
      rw [h3]
      refine am_ite_t ?_ ?_
      · rcases hr with hr | hr
        · exact nI_le (by omega) (by omega)
        · rw [hr.1, hr.2.2]
          exact nI_le (by omega) (by omega)
      · have e : pfB D = true := allB_iff.mpr (fun r' hr' => ha r' (by omega))
        rw [e] at h
        exact h
    | succ q ih =>
      intro r hr1 hr ha
      have hr : r + (q + 1) = dr D := by omega
      refine l_Disc_placesFollowOneAnother_2 ?_
      rw [h3, h1, nI_clamp (by omega), (h4 r (by omega)).2, pk_sub hr1, nI_clamp (by omega), (h4 (r - 1) (by omega)).2]
      refine pk_le (dr D) r (fun z => absurd z (by omega)) (fun _ => ⟨pk_in r 10 (by omega), pk_in (r - 1) 10 (by omega), ?_⟩)
      have q1 := (k5 r (by omega)).2
      have q2 := (k5 (r - 1) (by omega)).2
      refine s_stepUp (by omega) q2 ?_
      have hm : (dp D (r - 1) + 1) % dn D < dn D := Nat.mod_lt _ k1
      refine pk_eq (dp D r) ((dp D (r - 1) + 1) % dn D) (fun z => ?_) (fun z => ?_)
      · rw [nI_add]
        refine ih (r + 1) (by omega) (by omega) (fun r' hr' => ?_)
        by_cases e : r' = r
        · subst e
          rw [decide_eq_true z, Bool.or_true]
        · exact ha r' (by omega)
      · have e : pfB D = false := allB_f (s := r) (by omega) (by rw [decide_eq_false (by omega), decide_eq_false z]; rfl)
        rw [e] at h
        exact h
  refine L (dr D - 1) 1 (by decide) (by omega) (fun r' hr' => ?_)
  rw [decide_eq_true (by omega), Bool.true_or]
/-- all readers, as bits -/
theorem q_all : ∀ r, r ≤ 10 → (nI 1 <<< (nI r &&& 31)) - nI 1 = nI (2 ^ r - 1) := by decide +kernel
theorem q_1shl : ∀ b, b < 31 → nI 1 <<< (nI b &&& 31) = nI (2 ^ b) := by decide +kernel
def kdD (D : sp_D) : Nat := if aU (wdD D) (2 ^ dr D - 1) (dn D) = false then 0 else if dt D = 1 ∧ sgB (wdD D) (dn D) = true then 3 else if dt D = 1 ∧ pfB D = true then 4 else if sgB (wdD D) (dn D) = true then 2 else 1
theorem s_kindOf {D : sp_D} {σ : am_S} {K : Int32 → am_S → Prop} (hD : cD σ 3 D) (hok : d_ok D) (hW : vW σ (dn D) (dr D) (wdD D)) (h : ∀ τ, am_eq (fun k => k = 12) σ τ → K (nI (kdD D)) τ) : w_View_kindOf σ K := by
  unfold w_View_kindOf w_View_allReaders
  rw [hW.2.1, q_all _ hok.2.2.2.1]
  refine s_allUnlike hW (fun τ he _ => ?_)
  have hW' := hW.kept he (by omega) (by omega)
  have hD' := hD.kept he (by omega) (by omega) (by omega) (by omega)
  have h' := h τ he
  have k3 := hok.2.2.1
  unfold kdD at h'
  cases ha : aU (wdD D) (2 ^ dr D - 1) (dn D) with
  | false =>
    refine am_ite_f (by decide) ?_
    rw [if_pos ha] at h'
    exact h'
  | true =>
    refine am_ite_t (by decide) ?_
    rw [if_neg (by rw [ha]; decide)] at h'
    refine s_stepsAreSingle hW' ?_
    rw [hD'.2.1]
    have one : ∀ (b : Bool) (υ : am_S), υ = τ → K (nI (if dt D = 1 ∧ sgB (wdD D) (dn D) = true then 3 else if dt D = 1 ∧ pfB D = true then 4 else if sgB (wdD D) (dn D) = true then 2 else 1)) υ → b = sgB (wdD D) (dn D) → (dt D = 1 → b = true → False) → (¬ dt D = 1 ∨ pfB D = false) → am_ite (bI b = nI 0) (K (nI 1) υ) (K (nI 2) υ) := by
      intro b υ _ hk hb hn hp
      subst hb
      rw [if_neg (fun z => hn z.1 z.2), if_neg (fun z => by rcases hp with p | p; exact p z.1; rw [z.2] at p; cases p)] at hk
      cases hs : sgB (wdD D) (dn D) with
      | false => rw [hs, if_neg (by decide)] at hk; exact am_ite_t rfl hk
      | true => rw [hs, if_pos rfl] at hk; exact am_ite_f (by decide) hk
    by_cases e : dt D = 1
    · refine am_ite_f (by rw [e]; simp) ?_
      cases hs : sgB (wdD D) (dn D) with
      | true =>
        refine am_ite_f (by decide) ?_
        rw [if_pos ⟨e, hs⟩] at h'
        exact h'
      | false =>
        refine am_ite_t rfl (am_ite_f (by rw [e]; simp) (s_placesFollow hD' hok ?_))
        cases hp : pfB D with
        | true =>
          refine am_ite_f (by decide) ?_
          rw [if_neg (fun z => by rw [hs] at z; exact absurd z.2 (by decide)), if_pos ⟨e, hp⟩] at h'
          exact h'
        | false =>
          refine am_ite_t rfl ?_
          have := one false τ rfl h' hs.symm (fun _ z => by cases z) (Or.inr hp)
          exact this
    · have en : ¬ nI (dt D) = nI 1 := fun z => e ((nI_eq (by omega) (by decide)).mp z)
      refine am_ite_t en (am_ite_t en (one _ τ rfl h' rfl (fun z => absurd z e) (Or.inl e)))
