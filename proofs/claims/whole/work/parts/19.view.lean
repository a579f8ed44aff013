/-- the WORD of a STAND, of the first r readers -/
def wd (D : sp_D) (s : Nat) : Nat → Nat
  | 0 => 0
  | r + 1 => 2 * wd D s r + (dl D (dk D r) ((s + dp D r) % dn D)).toNat
theorem wd_lt (D : sp_D) (s : Nat) : ∀ r, wd D s r < 2 ^ r
  | 0 => by simp [wd]
  | r + 1 => by
    have h := wd_lt D s r
    have h2 : (dl D (dk D r) ((s + dp D r) % dn D)).toNat ≤ 1 := Bool.toNat_le _
    unfold wd
    rw [Nat.pow_succ]
    omega
theorem p2_10 {r : Nat} (h : r ≤ 10) : 2 ^ r ≤ 1024 := Nat.pow_le_pow_right (n := 2) (by decide) h
theorem s_wordOf {D : sp_D} {s : Nat} {σ : am_S} {K : Int32 → am_S → Prop} (hD : cD σ 3 D) (hok : d_ok D) (hs : s < dn D) (h : K (nI (wd D s (dr D))) σ) : w_Disc_wordOf (nI s) σ K := by
  refine e_Disc_wordOf (fun d => ?_)
  obtain ⟨h1, h2, h3, h4, h5⟩ := hD
  obtain ⟨k1, k2, k3, k4, k5, k6⟩ := hok
  have L : ∀ m r, r + m = dr D → R_Disc_wordOf d K 4 [.ref 3, .int (nI s), .int (nI (wd D s r)), .int (nI r), .null] [] σ := by
    intro m
    induction m with
    | zero =>
      intro r hr
      refine l_Disc_wordOf_4 ?_
      rw [h3]
      refine pk_le (dr D) r (fun _ => ?_) (fun z => absurd z (by omega))
      have : r = dr D := by omega
      subst this
      exact h
    | succ m ih =>
      intro r hr
      refine l_Disc_wordOf_4 ?_
      obtain ⟨g1, g2⟩ := h4 r (by omega)
      obtain ⟨q1, q2⟩ := k5 r (by omega)
      have hin : vp_in (nI r) 10 := pk_in r 10 (by omega)
      rw [h3, h1, nI_clamp (by omega), g2, nI_add, g1]
      refine pk_le (dr D) r (fun z => absurd z (by omega)) (fun _ => ⟨hin, ?_⟩)
      have hw := wd_lt D s r
      have hp := p2_10 (show r ≤ 10 by omega)
      have next : ∀ b : Bool, b = dl D (dk D r) ((s + dp D r) % dn D) → am_ite (bI b = nI 0) (R_Disc_wordOf d K 4 [.ref 3, .int (nI s), .int ((nI (wd D s r) <<< (nI 1 &&& 31)) ||| nI 0), .int (nI r + nI 1), .null] [] σ) (R_Disc_wordOf d K 4 [.ref 3, .int (nI s), .int ((nI (wd D s r) <<< (nI 1 &&& 31)) ||| nI 1), .int (nI r + nI 1), .null] [] σ) := by
        intro b hb
        have ih' := ih (r + 1) (by omega)
        rw [q_shl 1 (by decide) (by omega), nI_add, q_or, q_or]
        have e : nI (wd D s (r + 1)) = nI (wd D s r * 2 ^ 1 ||| b.toNat) := by
          rw [q_bit2, hb]
          rfl
        rw [e] at ih'
        cases b with
        | false => exact am_ite_t rfl ih'
        | true => exact am_ite_f (by decide) ih'
      have hm : (s + dp D r) % dn D < dn D := Nat.mod_lt _ k1
      refine pk_lt (s + dp D r) (dn D) (fun z => ⟨hin, ?_⟩) (fun z => ⟨hin, ?_⟩)
      · refine s_isLight (by omega) (by omega) ?_
        rw [h5 _ _ (by omega) (by omega)]
        exact next _ (by rw [Nat.mod_eq_of_lt z])
      · rw [pk_sub z]
        refine s_isLight (by omega) (by omega) ?_
        rw [h5 _ _ (by omega) (by omega)]
        refine next _ ?_
        rw [Nat.mod_eq_sub_mod z, Nat.mod_eq_of_lt (by omega)]
  exact L (dr D) 0 (by omega)
/-- the VIEW holds the words W of n stands, of r readers -/
def vW (σ : am_S) (n r : Nat) (W : Nat → Nat) : Prop := σ.1 9 2 = nI n ∧ σ.1 9 3 = nI r ∧ (∀ s, s < n → σ.1 10 s = nI (W s)) ∧ 1 ≤ n ∧ n ≤ 512 ∧ r ≤ 10 ∧ ∀ s, W s < 2 ^ r
theorem vW.kept {P : Nat → Prop} {σ τ : am_S} {n r : Nat} {W : Nat → Nat} (h : vW σ n r W) (he : am_eq P σ τ) (h9 : ¬ P 9) (h10 : ¬ P 10) : vW τ n r W := by
  unfold vW
  rw [(he 9 h9).1, (he 10 h10).1]
  exact h
/-- the WORDS of a disc -/
def wdD (D : sp_D) (s : Nat) : Nat := wd D s (dr D)
/-- the VIEW is out of date, or as the disc is -/
def cV (σ : am_S) (D : sp_D) : Prop := σ.1 9 4 = nI 1 ∨ σ.1 9 4 = nI 0 ∧ vW σ (dn D) (dr D) (wdD D)
theorem s_look {D : sp_D} {σ : am_S} {K : am_S → Prop} (hD : cD σ 3 D) (hok : d_ok D) (hV : cV σ D) (h : ∀ τ, τ.1 9 4 = nI 0 → vW τ (dn D) (dr D) (wdD D) → am_eq (fun k => k = 9 ∨ k = 10) σ τ → K τ) : w_View_look σ K := by
  refine e_View_look (fun d => ?_)
  rcases hV with hV | ⟨hV, hW⟩
  · refine am_ite_t (by rw [hV]; decide) ?_
    have L : ∀ m s (τ : am_S), s + m = dn D → am_eq (fun k => k = 9 ∨ k = 10) σ τ → τ.1 9 2 = nI (dn D) → τ.1 9 3 = nI (dr D) → (∀ s', s' < s → τ.1 10 s' = nI (wdD D s')) → R_View_look d K 26 [.ref 9, .ref 3, .int (nI s)] [] τ := by
      intro m
      induction m with
      | zero =>
        intro s τ hs he g1 g2 g3
        refine l_View_look_26 ?_
        rw [g1]
        have k2 := hok.2.1
        refine pk_le (dn D) s (fun _ => ?_) (fun z => absurd z (by omega))
        refine h _ (u_Is _ _ _ _) ⟨?_, ?_, fun s' hs' => ?_, hok.1, hok.2.1, hok.2.2.2.1, fun s' => wd_lt D s' _⟩ (he.tr (am_eq.upI (Or.inl rfl)))
        · rw [u_In _ _ (by omega)]; exact g1
        · rw [u_In _ _ (by omega)]; exact g2
        · rw [u_In _ _ (by omega)]; exact g3 s' (by omega)
      | succ m ih =>
        intro s τ hs he g1 g2 g3
        refine l_View_look_26 ?_
        rw [g1]
        have k2 := hok.2.1
        refine pk_le (dn D) s (fun z => absurd z (by omega)) (fun _ => ?_)
        refine s_wordOf (hD.kept he (by omega) (by omega) (by omega) (by omega)) hok (by omega) ⟨pk_in s 512 (by omega), ?_⟩
        rw [nI_clamp (by omega), nI_add]
        refine ih (s + 1) _ (by omega) (he.tr (am_eq.upI (Or.inr rfl))) ?_ ?_ (fun s' hs' => ?_)
        · rw [u_In _ _ (by omega)]; exact g1
        · rw [u_In _ _ (by omega)]; exact g2
        · rw [u_I]
          by_cases e : s' = s
          · subst e
            rw [if_pos ⟨rfl, rfl⟩]
            rfl
          · rw [if_neg (fun z => e z.2)]
            exact g3 s' (by omega)
    refine L (dn D) 0 _ (by omega) ((am_eq.upI (Or.inl rfl)).tr (am_eq.upI (Or.inl rfl))) ?_ ?_ (fun s' hs' => absurd hs' (Nat.not_lt_zero s'))
    · rw [u_In _ _ (by omega), u_Is]; exact hD.1
    · rw [u_Is]; exact hD.2.2.1
  · exact am_ite_f (by rw [hV]; simp) (h σ hV hW am_eq.rf)
/-! the marks of the view: a set of words -/
def mk (σ : am_S) (k w : Nat) : Bool := lbit (σ.2 k (w / 64)) (w % 64)
theorem s_has {w : Nat} {σ : am_S} {K : Int32 → am_S → Prop} (hw : w < 1024) (h : K (bI (mk σ 12 w)) σ) : w_Marks_has_11 (nI w) σ K := by
  unfold w_Marks_has_11
  refine s_isSet (by omega) (by omega) (by decide) ⟨bI_01 _, ?_⟩
  rw [Nat.zero_add]
  exact h
theorem s_add {w : Nat} {σ : am_S} {K : am_S → Prop} (hw : w < 1024) (h : ∀ τ, (∀ w', w' < 1024 → mk τ 12 w' = if w' = w then true else mk σ 12 w') → am_eq (fun k => k = 12) σ τ → K τ) : w_Marks_add_11 (nI w) σ K := by
  unfold w_Marks_add_11
  rw [q_shr 6 (by decide) (show w < 2 ^ 31 by omega), q_and63 (show w < 2 ^ 31 by omega), show 2 ^ 6 = 64 from rfl, nI_clamp (by omega)]
  refine ⟨pk_in (w / 64) 16 (by omega), pk_in (w / 64) 16 (by omega), h _ (fun w' hw' => ?_) (am_eq.upJ rfl)⟩
  unfold mk
  rw [u_J]
  by_cases e : w' / 64 = w / 64
  · rw [if_pos ⟨rfl, e⟩, lbit_or (Nat.mod_lt _ (by decide)) (Nat.mod_lt _ (by decide)), e]
    by_cases e2 : w' % 64 = w % 64
    · rw [if_pos e2, if_pos (by omega)]
    · rw [if_neg e2, if_neg (by omega)]
  · rw [if_neg (fun z => e z.2), if_neg (by omega)]
theorem s_wipe {σ : am_S} {K : am_S → Prop} (h : ∀ τ, (∀ w, w < 1024 → mk τ 12 w = false) → am_eq (fun k => k = 12) σ τ → K τ) : w_Marks_wipe_11 σ K := by
  unfold w_Marks_wipe_11
  refine s_fillJ ce_12 (by decide) (h _ (fun w hw => ?_) (fJ_eq rfl))
  unfold mk fJ
  dsimp only
  rw [if_pos ⟨rfl, by omega⟩, lbit_0]
/-- no two of the first n words are alike under a mask -/
def aU (W : Nat → Nat) (m : Nat) : Nat → Bool
  | 0 => true
  | n + 1 => aU W m n && (List.range n).all (fun a => !(W a &&& m == W n &&& m))
theorem aU_iff (W : Nat → Nat) (m : Nat) : ∀ n, aU W m n = true ↔ ∀ a b, a < b → b < n → W a &&& m ≠ W b &&& m
  | 0 => by simp [aU]
  | n + 1 => by
    have ih := aU_iff W m n
    unfold aU
    rw [Bool.and_eq_true, ih, List.all_eq_true]
    constructor
    · rintro ⟨h1, h2⟩ a b hab hb
      by_cases e : b = n
      · subst e
        have := h2 a (List.mem_range.mpr hab)
        simpa using this
      · exact h1 a b hab (by omega)
    · intro h
      refine ⟨fun a b hab hb => h a b hab (by omega), fun a ha => ?_⟩
      have := h a n (List.mem_range.mp ha) (by omega)
      simpa using this
theorem s_allUnlike {n r m : Nat} {W : Nat → Nat} {σ : am_S} {K : Int32 → am_S → Prop} (hW : vW σ n r W) (h : ∀ τ, am_eq (fun k => k = 12) σ τ → (aU W m n = true → ∀ w, w < 1024 → (mk τ 12 w = true ↔ ∃ s, s < n ∧ W s &&& m = w)) → K (bI (aU W m n)) τ) : w_View_allUnlike (nI m) σ K := by
  refine e_View_allUnlike (fun d => ?_)
  refine s_wipe (fun τ0 hm0 he0 => ?_)
  obtain ⟨h1, h2, h3, h4, h5, h6, h7⟩ := id hW
  have hlt : ∀ s, W s &&& m < 1024 := fun s => Nat.lt_of_le_of_lt Nat.and_le_left (Nat.lt_of_lt_of_le (h7 s) (p2_10 h6))
  have L : ∀ q s (τ : am_S), s + q = n → am_eq (fun k => k = 12) σ τ → aU W m s = true → (∀ w, w < 1024 → (mk τ 12 w = true ↔ ∃ s', s' < s ∧ W s' &&& m = w)) → R_View_allUnlike d K 9 [.ref 9, .int (nI m), .int (nI s), .null] [] τ := by
    intro q
    induction q with
    | zero =>
      intro s τ hs he ha hmk
      refine l_View_allUnlike_9 ?_
      rw [(he 9 (by omega)).1, h1]
      refine pk_le n s (fun _ => ?_) (fun z => absurd z (by omega))
      have : s = n := by omega
      subst this
      have := h τ he (fun _ => hmk)
      rw [ha] at this
      exact this
    | succ q ih =>
      intro s τ hs he ha hmk
      refine l_View_allUnlike_9 ?_
      rw [(he 9 (by omega)).1, h1, (he 10 (by omega)).1, nI_clamp (by omega), h3 s (by omega), q_and]
      refine pk_le n s (fun z => absurd z (by omega)) (fun _ => ⟨pk_in s 512 (by omega), ?_⟩)
      refine s_has (hlt s) ?_
      cases hb : mk τ 12 (W s &&& m) with
      | true =>
        refine am_ite_f (by decide) ?_
        obtain ⟨s', hs', e⟩ := (hmk _ (hlt s)).mp hb
        have hf : aU W m n = false := by
          rw [← Bool.not_eq_true, aU_iff]
          intro z
          exact z s' s hs' (by omega) e
        have := h τ he (fun z => by rw [hf] at z; cases z)
        rw [hf] at this
        exact this
      | false =>
        refine am_ite_t rfl (s_add (hlt s) (fun τ' hmk' he' => ?_))
        rw [nI_add]
        refine ih (s + 1) τ' (by omega) (he.tr he') ?_ (fun w hw => ?_)
        · rw [aU_iff]
          intro a b hab hbs
          by_cases e : b = s
          · subst e
            intro z
            have := (hmk _ (hlt b)).mpr ⟨a, hab, z⟩
            rw [hb] at this
            cases this
          · exact (aU_iff W m s).mp ha a b hab (by omega)
        · rw [hmk' w hw]
          by_cases e : w = W s &&& m
          · rw [if_pos e]
            exact ⟨fun _ => ⟨s, by omega, e.symm⟩, fun _ => rfl⟩
          · rw [if_neg e, hmk w hw]
            constructor
            · rintro ⟨s', g1, g2⟩
              exact ⟨s', by omega, g2⟩
            · rintro ⟨s', g1, g2⟩
              refine ⟨s', ?_, g2⟩
              by_cases e2 : s' = s
              · subst e2; exact absurd g2.symm e
              · omega
  refine L n 0 τ0 (by omega) he0 rfl (fun w hw => ?_)
  rw [hm0 w hw]
  exact ⟨fun z => absurd z (by decide), fun ⟨s', g1, _⟩ => absurd g1 (Nat.not_lt_zero s')⟩
