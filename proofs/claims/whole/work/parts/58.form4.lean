/-! THE FORM: the class finds it -/
def dirI (m : Bool) : Int32 := if m = true then -1 else nI 1
theorem s_stepM {D : sp_D} {m : Bool} {f i : Nat} {σ : am_S} {K : Int32 → am_S → Prop} (h1 : 1 ≤ dn D) (h2 : dn D ≤ 512) (hi : i < dn D) (h : K (nI (stF D m f (i + 1))) σ) : w_WD_stepRound (nI (stF D m f i)) (dirI m) (nI (dn D)) σ K := by
  cases m with
  | false =>
    have e : stF D false f (i + 1) = (stF D false f i + 1) % dn D := by
      unfold stF
      rw [if_neg (by decide), if_neg (by decide), Nat.mod_add_mod, Nat.add_assoc]
    rw [e] at h
    refine s_stepUp (by omega) ?_ h
    unfold stF
    rw [if_neg (by decide)]
    exact Nat.mod_lt _ (by omega)
  | true =>
    have e : stF D true f (i + 1) = (stF D true f i + dn D - 1) % dn D := by
      unfold stF
      rw [if_pos rfl, if_pos rfl, Nat.add_sub_assoc h1, Nat.mod_add_mod, show f + dn D - i + (dn D - 1) = f + dn D - (i + 1) + dn D by omega, Nat.add_mod_right]
    rw [e] at h
    refine s_stepDown (by omega) ?_ h
    unfold stF
    rw [if_pos rfl]
    exact Nat.mod_lt _ (by omega)
theorem st_lt {D : sp_D} (m : Bool) (f i : Nat) (h1 : 1 ≤ dn D) : stF D m f i < dn D := by
  unfold stF
  split <;> exact Nat.mod_lt _ (by omega)
theorem st_0 {D : sp_D} (m : Bool) {f : Nat} (hf : f < dn D) : stF D m f 0 = f := by
  unfold stF
  split
  · rw [Nat.sub_zero, Nat.add_mod_right, Nat.mod_eq_of_lt hf]
  · rw [Nat.add_zero, Nat.mod_eq_of_lt hf]
theorem wd_cl {D : sp_D} (m : Bool) (f i : Nat) {b : Nat} (hb : b < dr D) : (wdD D (stF D m f i)).testBit b = clF D m f (dr D - 1 - b) i := by
  have := wd_bit D (stF D m f i) (dr D - 1 - b) (dr D) (by omega)
  rw [show dr D - 1 - (dr D - 1 - b) = b by omega] at this
  exact this
theorem arr_rev {r : Nat} {β : Nat → Nat} (h : isArr r β) : isArr r (fun p => r - 1 - β p) := by
  refine ⟨fun p hp => ?_, fun p q hp hq e => ?_⟩
  · show r - 1 - β p < r
    omega
  · have e' : r - 1 - β p = r - 1 - β q := e
    have h1 := h.1 p hp
    have h2 := h.1 q hq
    exact h.2 p q hp hq (by omega)
/-- the keys by the bits -/
def kB (D : sp_D) (m : Bool) (f i : Nat) (b : Nat) : Nat := kyF D m f i (dr D - 1 - b)
theorem kB_s {D : sp_D} (m : Bool) (f i : Nat) {b : Nat} (hb : b < dr D) : kB D m f (i + 1) b = 2 * kB D m f i b + ((wdD D (stF D m f i)).testBit b).toNat := by
  rw [wd_cl m f i hb]
  rfl
theorem ro_ord {D : sp_D} {m : Bool} {f i : Nat} {β : Nat → Nat} {σ : am_S} (hi : i < dn D) (h : cO σ (dr D) β (fun p => kB D m f (i + 1) (β p))) : roF D m f i = woA (fun p => (wdD D (stF D m f i)).testBit (β p)) (dr D) := by
  rw [roF_arr hi (arr_rev h.1) (fun p hp => h.2.2.1 p hp)]
  exact woA_congr _ (fun p hp => (wd_cl m f i (h.1.1 p hp)).symm)
theorem cO.congr {σ : am_S} {r : Nat} {β A A' : Nat → Nat} (h : cO σ r β A) (e : ∀ p, p < r → A p = A' p) : cO σ r β A' := by
  obtain ⟨h1, h2, h3, h4⟩ := h
  refine ⟨h1, h2, fun p hp => ?_, fun p hp => ?_⟩
  · rw [← e p (by omega), ← e (p + 1) hp]; exact h3 p hp
  · rw [← e p (by omega), ← e (p + 1) hp]; exact h4 p hp
theorem cO.cells {σ τ : am_S} {r : Nat} {β A : Nat → Nat} (h : cO σ r β A) (e1 : τ.1 15 = σ.1 15) (e2 : τ.1 16 = σ.1 16) : cO τ r β A := by
  unfold cO
  rw [e1, e2]
  exact h
theorem cO.again {D : sp_D} {m : Bool} {f i : Nat} {β : Nat → Nat} {σ : am_S} (h : cO σ (dr D) β (fun p => kB D m f (i + 1) (β p))) (e : wdD D (stF D m f i) = wdD D (stF D m f (i + 1))) : cO σ (dr D) β (fun p => kB D m f (i + 1 + 1) (β p)) := by
  have k : ∀ p, p < dr D → kB D m f (i + 1 + 1) (β p) = 2 * kB D m f (i + 1) (β p) + kB D m f (i + 1) (β p) % 2 := fun p hp => by
    have hb := h.1.1 p hp
    rw [kB_s m f (i + 1) hb, ← e]
    have := kB_s m f i hb
    have c := toN_le ((wdD D (stF D m f i)).testBit (β p))
    omega
  obtain ⟨h1, h2, h3, h4⟩ := h
  refine ⟨h1, h2, fun p hp => ?_, fun p hp => ?_⟩
  · have a := h3 p hp
    dsimp only at a ⊢
    rw [k p (by omega), k (p + 1) hp]
    omega
  · have a := h4 p hp
    dsimp only at a ⊢
    rw [a]
    refine congrArg (fun b : Bool => bI b) (decide_eq_decide.mpr ?_)
    show kB D m f (i + 1) (β p) ≠ kB D m f (i + 1) (β (p + 1)) ↔ kB D m f (i + 1 + 1) (β p) ≠ kB D m f (i + 1 + 1) (β (p + 1))
    rw [k p (by omega), k (p + 1) hp]
    omega
theorem ltF_ex {a b : Nat → Nat} : ∀ q i, ltF a b q i = true ↔ ∃ j, i ≤ j ∧ j < i + q ∧ (∀ j', i ≤ j' → j' < j → a j' = b j') ∧ a j < b j := by
  intro q
  induction q with
  | zero =>
    intro i
    unfold ltF
    constructor
    · intro z; cases z
    · rintro ⟨j, h1, h2, _⟩; omega
  | succ q ih =>
    intro i
    unfold ltF
    by_cases e : a i = b i
    · rw [if_pos e, ih (i + 1)]
      constructor
      · rintro ⟨j, h1, h2, h3, h4⟩
        refine ⟨j, by omega, by omega, fun j' h5 h6 => ?_, h4⟩
        by_cases e2 : j' = i
        · rw [e2]; exact e
        · exact h3 j' (by omega) h6
      · rintro ⟨j, h1, h2, h3, h4⟩
        have : j ≠ i := fun z => by rw [z] at h4; omega
        exact ⟨j, by omega, by omega, fun j' h5 h6 => h3 j' (by omega) h6, h4⟩
    · rw [if_neg e]
      constructor
      · intro z
        exact ⟨i, Nat.le_refl _, by omega, fun j' h5 h6 => by omega, of_decide_eq_true z⟩
      · rintro ⟨j, h1, h2, h3, h4⟩
        by_cases e2 : j = i
        · rw [e2] at h4; exact decide_eq_true h4
        · exact absurd (h3 i (Nat.le_refl _) (by omega)) e
def laS (d : Nat) (K : Int32 → am_S → Prop) (x3 x4 x5 o x7 x8 : Int32) (τ : am_S) : Prop := vp_in x8 512 ∧ (w_WD_stepRound x7 x3 (τ.1 13 3) (am_upI τ 14 (Int32.toNatClampNeg x8) o) (fun r7 τ7 => R_Form_isLeastAgain d K 19 [.ref 13, .ref 10, .null, .int x3, .int x4, .int x5, .int o, .int r7, .int (x8 + nI 1)] [] τ7))
def laT (d : Nat) (K : Int32 → am_S → Prop) (x3 x4 x5 o x7 x8 : Int32) (τ : am_S) : Prop := am_ite (¬ x4 = (nI 0)) (am_ite (¬ x4 = (nI 0)) (laS d K x3 (nI 1) x5 o x7 x8 τ) (vp_in x8 512 ∧ (am_ite ((τ.1 14 (Int32.toNatClampNeg x8)) ≤ o) (laS d K x3 (nI 0) x5 o x7 x8 τ) (laS d K x3 (nI 1) x5 o x7 x8 τ)))) (vp_in x8 512 ∧ (am_ite (o ≤ (τ.1 14 (Int32.toNatClampNeg x8))) (am_ite (¬ x4 = (nI 0)) (laS d K x3 (nI 1) x5 o x7 x8 τ) (vp_in x8 512 ∧ (am_ite ((τ.1 14 (Int32.toNatClampNeg x8)) ≤ o) (laS d K x3 (nI 0) x5 o x7 x8 τ) (laS d K x3 (nI 1) x5 o x7 x8 τ)))) (K (nI 0) τ)))
theorem s_isLeastAgain {D : sp_D} {m : Bool} {f : Nat} {b : Nat → Nat} {σ : am_S} {K : Int32 → am_S → Prop} (hok : d_ok D) (hf : f < dn D) (hW : ∀ s, s < dn D → σ.1 10 s = nI (wdD D s)) (h133 : σ.1 13 3 = nI (dn D)) (h134 : σ.1 13 4 = nI (dr D)) (hb : ∀ i, b i < 2048) (hrow : ∀ j, j < dn D → σ.1 14 j = nI (b j)) (h : ∀ (v : Bool) τ, am_eq (fun k => 14 ≤ k ∧ k ≤ 16) σ τ → (∀ j, j < dn D → τ.1 14 j = nI ((if ltF (roF D m f) b (dn D) 0 = true then roF D m f else b) j)) → (v = true → ∀ j, j < dn D → roF D m f j = b j) → K (bI v) τ) : w_Form_isLeastAgain (nI f) (dirI m) σ K := by
  have k1 := hok.1
  have k2 := hok.2.1
  have k4 := hok.2.2.2.1
  refine e_Form_isLeastAgain (fun d => s_beginOrder k4 h134 (fun τ0 hO0 he0 => ?_))
  have L : ∀ q i (l : Bool) (x5 x6 : Int32) (β : Nat → Nat) (τ : am_S), i + q = dn D → am_eq (fun k => 14 ≤ k ∧ k ≤ 16) σ τ → cO τ (dr D) β (fun p => kB D m f i (β p)) → (∀ j, j < dn D → τ.1 14 j = nI (if j < i then roF D m f j else b j)) → (l = true → ∃ j, j < i ∧ (∀ j', j' < j → roF D m f j' = b j') ∧ roF D m f j < b j) → (l = false → ∀ j, j < i → roF D m f j = b j) → (i = 0 → x5 = -1) → (∀ i', i = i' + 1 → x5 = nI (wdD D (stF D m f i')) ∧ x6 = nI (roF D m f i')) → R_Form_isLeastAgain d K 19 [.ref 13, .ref 10, .null, .int (dirI m), .int (bI l), .int x5, .int x6, .int (nI (stF D m f i)), .int (nI i)] [] τ := by
    intro q
    induction q with
    | zero =>
      intro i l x5 x6 β τ hi he hO hR hl1 hl0 h50 h51
      have hin : i = dn D := by omega
      refine l_Form_isLeastAgain_19 ?_
      rw [(he 13 (by decide)).1, h133]
      refine pk_le (dn D) i (fun _ => ?_) (fun z => absurd z (by omega))
      cases l with
      | true =>
        obtain ⟨j, hj, hj1, hj2⟩ := hl1 rfl
        refine am_ite_t (by decide) (h false τ he (fun j2 hj3 => ?_) (fun z => by cases z))
        rw [if_pos ((ltF_ex _ _).mpr ⟨j, Nat.zero_le _, by omega, fun j' _ h6 => hj1 j' h6, hj2⟩), hR j2 hj3, if_pos (by omega)]
      | false =>
        have eq := hl0 rfl
        refine am_ite_f (fun z => z rfl) (h true τ he (fun j hj => ?_) (fun _ j hj => eq j (by omega)))
        rw [if_neg (fun z => ?_), hR j hj, if_pos (by omega), eq j (by omega)]
        obtain ⟨j', _, h2, _, h4⟩ := (ltF_ex _ _).mp z
        rw [eq j' (by omega)] at h4
        omega
    | succ q ih =>
      intro i l x5 x6 β τ hi he hO hR hl1 hl0 h50 h51
      have hi' : i < dn D := by omega
      have hst := st_lt (D := D) m f i k1
      have hro := roF_lt k4 m f i
      have hbi := hb i
      have hwl := wdD_lt hok (stF D m f i)
      have T : ∀ (β : Nat → Nat) (υ : am_S), am_eq (fun k => 15 ≤ k ∧ k ≤ 16) τ υ → cO υ (dr D) β (fun p => kB D m f (i + 1) (β p)) → laT d K (dirI m) (bI l) (nI (wdD D (stF D m f i))) (nI (roF D m f i)) (nI (stF D m f i)) (nI i) υ := by
        intro β υ he2 hO2
        have e14 : υ.1 14 = τ.1 14 := (he2 14 (by decide)).1
        have heυ : am_eq (fun k => 14 ≤ k ∧ k ≤ 16) σ υ := he.tr (he2.mono (fun k hk => by omega))
        have hRi : υ.1 14 i = nI (b i) := by rw [e14, hR i hi', if_neg (by omega)]
        have go : ∀ l' : Bool, (l' = true → ∃ j, j < i + 1 ∧ (∀ j', j' < j → roF D m f j' = b j') ∧ roF D m f j < b j) → (l' = false → ∀ j, j < i + 1 → roF D m f j = b j) → laS d K (dirI m) (bI l') (nI (wdD D (stF D m f i))) (nI (roF D m f i)) (nI (stF D m f i)) (nI i) υ := by
          intro l' h1 h0
          refine ⟨pk_in i 512 (by omega), ?_⟩
          rw [(heυ 13 (by decide)).1, h133, nI_add, nI_clamp (by omega)]
          refine s_stepM k1 k2 hi' (ih (i + 1) l' _ _ β _ (by omega) (heυ.tr (am_eq.upI (by decide))) (hO2.cells (by rw [(am_eq.upI (P := fun k => k = 14) rfl 15 (by decide)).1]) (by rw [(am_eq.upI (P := fun k => k = 14) rfl 16 (by decide)).1])) (fun j hj => ?_) h1 h0 (fun z => by omega) (fun i' e => ?_))
          · by_cases e : j = i
            · rw [e, u_Is, if_pos (by omega)]
            · rw [u_In _ _ (by omega), e14, hR j hj]
              by_cases e2 : j < i
              · rw [if_pos e2, if_pos (by omega)]
              · rw [if_neg e2, if_neg (by omega)]
          · rw [show i' = i by omega]
            exact ⟨rfl, rfl⟩
        cases l with
        | true =>
          obtain ⟨j, hj, hj1, hj2⟩ := hl1 rfl
          exact am_ite_t (by decide) (am_ite_t (by decide) (go true (fun _ => ⟨j, by omega, hj1, hj2⟩) (fun z => by cases z)))
        | false =>
          have eq := hl0 rfl
          refine am_ite_f (fun z => z rfl) ⟨pk_in i 512 (by omega), ?_⟩
          rw [nI_clamp (by omega), hRi]
          refine pk_le (roF D m f i) (b i) (fun le => am_ite_f (fun z => z rfl) ⟨pk_in i 512 (by omega), ?_⟩) (fun gt => ?_)
          · refine pk_le (b i) (roF D m f i) (fun le2 => go false (fun z => by cases z) (fun _ j hj => ?_)) (fun lt => go true (fun _ => ⟨i, by omega, eq, lt⟩) (fun z => by cases z))
            by_cases e : j = i
            · rw [e]; omega
            · exact eq j (by omega)
          · refine h false υ heυ (fun j hj => ?_) (fun z => by cases z)
            rw [if_neg (fun z => ?_), e14, hR j hj]
            · by_cases e2 : j < i
              · rw [if_pos e2, eq j e2]
              · rw [if_neg e2]
            · obtain ⟨j', _, h2, h3, h4⟩ := (ltF_ex _ _).mp z
              by_cases c1 : j' < i
              · rw [eq j' c1] at h4; omega
              · by_cases c2 : j' = i
                · rw [c2] at h4; omega
                · have := h3 i (Nat.zero_le _) (by omega)
                  omega
      refine l_Form_isLeastAgain_19 ?_
      show am_ite (τ.1 13 3 ≤ nI i) _ (vp_in (nI (stF D m f i)) 512 ∧ am_ite (τ.1 10 (Int32.toNatClampNeg (nI (stF D m f i))) = x5) (laT d K (dirI m) (bI l) x5 x6 (nI (stF D m f i)) (nI i) τ) (vp_in (nI (stF D m f i)) 512 ∧ w_Form_refineOrder (τ.1 10 (Int32.toNatClampNeg (nI (stF D m f i)))) τ (fun τ17 => w_Form_inOrder (τ.1 10 (Int32.toNatClampNeg (nI (stF D m f i)))) τ17 (fun r18 τ18 => laT d K (dirI m) (bI l) (τ.1 10 (Int32.toNatClampNeg (nI (stF D m f i)))) r18 (nI (stF D m f i)) (nI i) τ18))))
      rw [(he 13 (by decide)).1, h133, nI_clamp (show stF D m f i < 2 ^ 31 by omega), (he 10 (by decide)).1, hW _ hst]
      refine pk_le (dn D) i (fun z => absurd z (by omega)) (fun _ => ⟨pk_in (stF D m f i) 512 (by omega), fun z => ?_, fun z => ⟨pk_in (stF D m f i) 512 (by omega), ?_⟩⟩)
      · match i, h50, h51, hO, T, z, hi', hwl with
        | 0, h50, _, _, _, z, _, hwl =>
          rw [h50 rfl] at z
          have := congrArg Int32.toInt z
          rw [nI_toInt (by omega), show (-1 : Int32).toInt = -1 by decide] at this
          omega
        | i' + 1, _, h51, hO, T, z, hi', hwl =>
          obtain ⟨a1, a2⟩ := h51 i' rfl
          rw [a1] at z
          have hwl' := wdD_lt hok (stF D m f i')
          have ew : wdD D (stF D m f i') = wdD D (stF D m f (i' + 1)) := ((nI_eq (by omega) (by omega)).mp z).symm
          have hO2 := hO.again ew
          have er : roF D m f (i' + 1) = roF D m f i' := by
            rw [ro_ord hi' hO2, ro_ord (by omega) hO, ew]
          have t := T β τ am_eq.rf hO2
          rw [er, ← ew] at t
          rw [a1, a2]
          exact t
      · refine s_refine (a := kB D m f i) k4 (by rw [(he 13 (by decide)).1, h134]) hwl hO (fun p _ => rfl) (fun β' υ hO2 ha he2 => ?_)
        have hO3 : cO υ (dr D) β' (fun p => kB D m f (i + 1) (β' p)) := hO2.congr (fun p hp => by
          rw [kB_s m f i (hO2.1.1 p hp), ha p hp]
          rfl)
        refine s_inOrder k4 (by rw [(he2 13 (by decide)).1, (he 13 (by decide)).1, h134]) hwl hO3.1 hO3.2.1 ?_
        rw [← ro_ord hi' hO3]
        exact T β' υ (he2.mono (fun k hk => by omega)) hO3
  have e14 : τ0.1 14 = σ.1 14 := (he0 14 (by decide)).1
  have := L (dn D) 0 false (-1) (nI 0) (fun p => p) τ0 (by omega) (he0.mono (fun k hk => by omega)) hO0 (fun j hj => by rw [e14, hrow j hj, if_neg (by omega)]) (fun z => by cases z) (fun _ j hj => by omega) (fun _ => rfl) (fun i' e => by omega)
  rw [st_0 m hf] at this
  exact this
theorem s_tryAllStarts {D : sp_D} {m : Bool} {b : Nat → Nat} {σ : am_S} {K : am_S → Prop} (hok : d_ok D) (hW : ∀ s, s < dn D → σ.1 10 s = nI (wdD D s)) (h133 : σ.1 13 3 = nI (dn D)) (h134 : σ.1 13 4 = nI (dr D)) (hb : ∀ i, b i < 2048) (hrow : ∀ j, j < dn D → σ.1 14 j = nI (b j)) (hex : ∀ f, f < dn D → (∀ i, i < dn D → roF D m f i = miF D m b f i) → miF D m b (dn D) = miF D m b f) (h : ∀ τ, am_eq (fun k => 14 ≤ k ∧ k ≤ 16) σ τ → (∀ j, j < dn D → τ.1 14 j = nI (miF D m b (dn D) j)) → K τ) : w_Form_tryAllStarts (dirI m) σ K := by
  have k2 := hok.2.1
  refine e_Form_tryAllStarts (fun d => ?_)
  have L : ∀ q f (τ : am_S), f + q = dn D → am_eq (fun k => 14 ≤ k ∧ k ≤ 16) σ τ → (∀ j, j < dn D → τ.1 14 j = nI (miF D m b f j)) → R_Form_tryAllStarts d K 2 [.ref 13, .ref 10, .int (dirI m), .int (nI f)] [] τ := by
    intro q
    induction q with
    | zero =>
      intro f τ hf he hR
      have : f = dn D := by omega
      subst this
      refine l_Form_tryAllStarts_2 ?_
      rw [(he 13 (by decide)).1, h133]
      exact pk_le (dn D) (dn D) (fun _ => h τ he hR) (fun z => absurd z (by omega))
    | succ q ih =>
      intro f τ hf he hR
      refine l_Form_tryAllStarts_2 ?_
      rw [(he 13 (by decide)).1, h133, nI_add]
      refine pk_le (dn D) f (fun z => absurd z (by omega)) (fun _ => ?_)
      refine s_isLeastAgain hok (by omega) (fun s hs => by rw [(he 10 (by decide)).1]; exact hW s hs) (by rw [(he 13 (by decide)).1]; exact h133) (by rw [(he 13 (by decide)).1]; exact h134) (miF_lt hok.2.2.2.1 m hb f) hR (fun v υ he2 hR2 hv => ?_)
      cases v with
      | false =>
        refine am_ite_t rfl (ih (f + 1) υ (by omega) (he.tr he2) (fun j hj => ?_))
        exact hR2 j hj
      | true =>
        have eq := hv rfl
        refine am_ite_f (by decide) (h υ (he.tr he2) (fun j hj => ?_))
        rw [hR2 j hj, hex f (by omega) eq]
        split
        · rw [eq j hj]
        · rfl
  exact L (dn D) 0 σ (by omega) am_eq.rf hrow
theorem s_find {D : sp_D} {σ : am_S} {K : am_S → Prop} (hok : d_ok D) (hV : vW σ (dn D) (dr D) (wdD D)) (hF : cFm σ D) (h : ∀ τ, τ.1 13 5 = nI 0 ∧ τ.1 13 3 = nI (dn D) ∧ τ.1 13 4 = nI (dr D) ∧ (∀ i, i < dn D → τ.1 14 i = nI (frF D i)) → am_eq (fun k => 13 ≤ k ∧ k ≤ 16) σ τ → K τ) : w_Form_find σ K := by
  unfold w_Form_find
  rcases hF with e | hF
  · rw [e]
    refine am_ite_t (by decide) (s_fillI (by rfl) (by decide) ?_)
    generalize hρ : fI (am_upI (am_upI σ 13 3 (σ.1 9 2)) 13 4 (σ.1 9 3)) 14 512 (nI 1024) = ρ
    have k1 := hok.1
    have k2 := hok.2.1
    have k4 := hok.2.2.2.1
    have he : am_eq (fun k => 13 ≤ k ∧ k ≤ 16) σ ρ := by
      rw [← hρ]
      exact ((am_eq.upI (by decide)).tr (am_eq.upI (by decide))).tr (fI_eq (by decide))
    have h3 : ρ.1 13 3 = nI (dn D) := by
      rw [← hρ]
      exact hV.1
    have h4 : ρ.1 13 4 = nI (dr D) := by
      rw [← hρ]
      exact hV.2.1
    have hr : ∀ j, j < dn D → ρ.1 14 j = nI (toF j) := fun j hj => by
      rw [← hρ]
      show (if 14 = 14 ∧ j < 512 then nI 1024 else _) = nI 1024
      rw [if_pos ⟨rfl, by omega⟩]
    have hw : ∀ s, s < dn D → ρ.1 10 s = nI (wdD D s) := fun s hs => by
      rw [(he 10 (by decide)).1]
      exact hV.2.2.1 s hs
    refine s_tryAllStarts (m := false) hok hw h3 h4 toF_lt hr (fun f hf => ex_f k1 k4 hf) (fun τ he2 hr2 => ?_)
    refine s_tryAllStarts (m := true) hok (fun s hs => by rw [(he2 10 (by decide)).1]; exact hw s hs) (by rw [(he2 13 (by decide)).1]; exact h3) (by rw [(he2 13 (by decide)).1]; exact h4) (miF_lt k4 false toF_lt _) hr2 (fun f hf => ex_t k1 k4 hf) (fun υ he3 hr3 => ?_)
    have e13 : υ.1 13 = ρ.1 13 := by rw [(he3 13 (by decide)).1, (he2 13 (by decide)).1]
    refine h _ ⟨u_Is _ _ _ _, ?_, ?_, fun i hi => ?_⟩ (((he.tr (he2.mono (fun k hk => by omega))).tr (he3.mono (fun k hk => by omega))).tr (am_eq.upI (by decide)))
    · rw [u_In _ _ (by decide), e13]; exact h3
    · rw [u_In _ _ (by decide), e13]; exact h4
    · rw [u_In _ _ (by omega), hr3 i hi, fr_top k1 k4]
  · rw [hF.1]
    exact am_ite_f (fun z => z rfl) (h σ hF am_eq.rf)
theorem g_formed {θ σ : am_S} {S : sp_S} {K : am_S → Prop} (hJ : Jc θ S σ) (h : ∀ τ, Jc θ S τ → τ.1 13 5 = nI 0 ∧ τ.1 13 3 = nI (dn (sd S)) ∧ τ.1 13 4 = nI (dr (sd S)) ∧ (∀ i, i < dn (sd S) → τ.1 14 i = nI (frF (sd S) i)) → K τ) : w_WD_formed σ K := by
  unfold w_WD_formed
  refine g_look hJ (fun τ hJ2 hW => ?_)
  obtain ⟨h1, h2, h3, h4, h5, h6, h7, h8, h9, h10⟩ := hJ2.1.1
  refine s_find h3.2 hW h7 (fun υ hF he => h υ ⟨⟨⟨?_, h2.kept he (by omega) (by omega), ⟨h3.1.kept he (by omega) (by omega) (by omega) (by omega), h3.2⟩, h4.kept he (by omega) (fun k a b => by omega), h5.kept he (by omega) (by omega) (by omega), h6.kept he (by omega) (by omega), Or.inr hF, h8.kept he (fun k a b => by omega), h9.kept he (by omega) (by omega), h10.kept he (by omega)⟩, hJ2.1.2.cls (he.mono (fun k hk => by omega))⟩, hJ2.2.tr (he.mono (fun k hk => by omega))⟩ hF)
  rw [(he 0 (by omega)).1]
  exact h1
