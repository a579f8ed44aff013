def dTr (D : sp_D) : sp_D := (dn D, dt D + 1, dr D, dl D, dk D, dp D)
theorem s_addDarkTrack {D : sp_D} {σ : am_S} {K : Int32 → am_S → Prop} (hD : cD σ 3 D) (ht : dt D < 10) (h : ∀ τ, cD τ 3 (dTr D) → am_eq (fun k => k = 3) σ τ → K (nI (dt D)) τ) : w_Disc_addDarkTrack σ K := by
  unfold w_Disc_addDarkTrack
  obtain ⟨h1, h2, h3, h4, h5⟩ := hD
  rw [h2, nI_add, pk_sub (by omega)]
  exact h _ ⟨h1, u_Is _ _ _ _, h3, h4, h5⟩ (am_eq.upI rfl)
def dRd (D : sp_D) (t p : Nat) : sp_D := (dn D, dt D, dr D + 1, dl D, fun r => if r = dr D then t else dk D r, fun r => if r = dr D then p else dp D r)
theorem s_addReader {D : sp_D} {t p : Nat} {σ : am_S} {K : Int32 → am_S → Prop} (hD : cD σ 3 D) (hr : dr D < 10) (h : ∀ τ, cD τ 3 (dRd D t p) → am_eq (fun k => k = 3 ∨ k = 5 ∨ k = 6) σ τ → K (nI (dr D)) τ) : w_Disc_addReader (nI t) (nI p) σ K := by
  unfold w_Disc_addReader
  obtain ⟨h1, h2, h3, h4, h5⟩ := hD
  rw [h3]
  refine ⟨pk_in (dr D) 10 hr, pk_in (dr D) 10 hr, ?_⟩
  rw [nI_clamp (by omega), nI_add, pk_sub (by omega)]
  refine h _ ⟨h1, h2, u_Is _ _ _ _, fun r hr' => ⟨?_, ?_⟩, h5⟩ ((am_eq.upI (Or.inr (Or.inl rfl))).tr ((am_eq.upI (Or.inr (Or.inr rfl))).tr (am_eq.upI (Or.inl rfl))))
  · rw [u_In _ _ (by omega), u_In _ _ (by omega), u_I]
    by_cases e : r = dr D
    · rw [if_pos ⟨rfl, e⟩]
      show nI t = nI (if r = dr D then t else dk D r)
      rw [if_pos e]
    · rw [if_neg (fun z => e z.2)]
      show _ = nI (if r = dr D then t else dk D r)
      rw [if_neg e]
      have hr'' : r < dr D + 1 := hr'
      exact (h4 r (by omega)).1
  · rw [u_In _ _ (by omega), u_I]
    by_cases e : r = dr D
    · rw [if_pos ⟨rfl, e⟩]
      show nI p = nI (if r = dr D then p else dp D r)
      rw [if_pos e]
    · rw [if_neg (fun z => e z.2), u_In _ _ (by omega)]
      show _ = nI (if r = dr D then p else dp D r)
      rw [if_neg e]
      have hr'' : r < dr D + 1 := hr'
      exact (h4 r (by omega)).2
def dLf (D : sp_D) (i : Nat) : sp_D := (dn D, dt D, dr D - 1, dl D, fun r => if r < i then dk D r else dk D (r + 1), fun r => if r < i then dp D r else dp D (r + 1))
theorem s_removeReader {D : sp_D} {i : Nat} {σ : am_S} {K : am_S → Prop} (hD : cD σ 3 D) (hr : dr D ≤ 10) (hi : i < dr D) (h : ∀ τ, cD τ 3 (dLf D i) → am_eq (fun k => k = 3 ∨ k = 5 ∨ k = 6) σ τ → K τ) : w_Disc_removeReader (nI i) σ K := by
  refine e_Disc_removeReader (fun d => ?_)
  obtain ⟨h1, h2, h3, h4, h5⟩ := hD
  have L : ∀ m j (τ : am_S), j + m + 1 = dr D → i ≤ j → am_eq (fun k => k = 5 ∨ k = 6) σ τ → τ.2 = σ.2 → (∀ r, r < dr D → τ.1 5 r = nI (if i ≤ r ∧ r < j then dk D (r + 1) else dk D r) ∧ τ.1 6 r = nI (if i ≤ r ∧ r < j then dp D (r + 1) else dp D r)) → R_Disc_removeReader d K 2 [.ref 3, .null, .int (nI j)] [] τ := by
    intro m
    induction m with
    | zero =>
      intro j τ hj hij he he2 hv
      refine l_Disc_removeReader_2 ?_
      rw [(he 3 (by omega)).1, h3, nI_add]
      refine pk_le (dr D) (j + 1) (fun _ => ?_) (fun g => absurd g (by omega))
      refine h _ ⟨?_, ?_, ?_, fun r hr' => ?_, fun t s ht hs => ?_⟩ ((he.mono (fun k hk => Or.inr hk)).tr (am_eq.upI (Or.inl rfl)))
      · rw [u_In _ _ (by omega), (he 3 (by omega)).1]; exact h1
      · rw [u_In _ _ (by omega), (he 3 (by omega)).1]; exact h2
      · rw [u_Is, pk_sub (by omega)]; rfl
      · have hr'' : r < dr D - 1 := hr'
        obtain ⟨v1, v2⟩ := hv r (by omega)
        rw [u_In _ _ (by omega), u_In _ _ (by omega), v1, v2]
        refine ⟨congrArg nI ?_, congrArg nI ?_⟩
        · show _ = if r < i then dk D r else dk D (r + 1)
          by_cases e : r < i
          · rw [if_neg (by omega), if_pos e]
          · rw [if_pos (by omega), if_neg e]
        · show _ = if r < i then dp D r else dp D (r + 1)
          by_cases e : r < i
          · rw [if_neg (by omega), if_pos e]
          · rw [if_pos (by omega), if_neg e]
      · have := h5 t s ht hs
        unfold lit at this ⊢
        rw [u_IJ, he2]
        exact this
    | succ m ih =>
      intro j τ hj hij he he2 hv
      refine l_Disc_removeReader_2 ?_
      rw [(he 3 (by omega)).1, h3, nI_add]
      refine pk_le (dr D) (j + 1) (fun g => absurd g (by omega)) (fun _ => ⟨pk_in (j + 1) 10 (by omega), pk_in j 10 (by omega), pk_in (j + 1) 10 (by omega), pk_in j 10 (by omega), ?_⟩)
      rw [nI_clamp (by omega), nI_clamp (by omega)]
      refine ih (j + 1) _ (by omega) (by omega) (he.tr ((am_eq.upI (Or.inl rfl)).tr (am_eq.upI (Or.inr rfl)))) he2 (fun r hr' => ?_)
      obtain ⟨v1, v2⟩ := hv r hr'
      obtain ⟨w1, w2⟩ := hv (j + 1) (by omega)
      rw [if_neg (by omega)] at w1 w2
      refine ⟨?_, ?_⟩
      · rw [u_In _ _ (by omega), u_I]
        by_cases e : r = j
        · subst e
          rw [if_pos ⟨rfl, rfl⟩, if_pos (by omega), w1]
        · rw [if_neg (fun z => e z.2), v1]
          by_cases e2 : i ≤ r ∧ r < j
          · rw [if_pos e2, if_pos (by omega)]
          · rw [if_neg e2, if_neg (by omega)]
      · rw [u_I]
        by_cases e : r = j
        · subst e
          rw [if_pos ⟨rfl, rfl⟩, if_pos (by omega), w2]
        · rw [if_neg (fun z => e z.2), u_In _ _ (by omega), v2]
          by_cases e2 : i ≤ r ∧ r < j
          · rw [if_pos e2, if_pos (by omega)]
          · rw [if_neg e2, if_neg (by omega)]
  refine L (dr D - 1 - i) i σ (by omega) (Nat.le_refl _) am_eq.rf rfl (fun r hr' => ?_)
  rw [if_neg (by omega), if_neg (by omega)]
  exact h4 r hr'
def dSw (D : sp_D) (a b : Nat) : sp_D := (dn D, dt D, dr D, dl D, fun r => if r = b then dk D a else if r = a then dk D b else dk D r, fun r => if r = b then dp D a else if r = a then dp D b else dp D r)
theorem s_swapReaders {D : sp_D} {a b : Nat} {σ : am_S} {K : am_S → Prop} (hD : cD σ 3 D) (hr : dr D ≤ 10) (ha : a < dr D) (hb : b < dr D) (h : ∀ τ, cD τ 3 (dSw D a b) → am_eq (fun k => k = 5 ∨ k = 6) σ τ → K τ) : w_Disc_swapReaders (nI a) (nI b) σ K := by
  unfold w_Disc_swapReaders
  obtain ⟨h1, h2, h3, h4, h5⟩ := hD
  have ia : vp_in (nI a) 10 := pk_in a 10 (by omega)
  have ib : vp_in (nI b) 10 := pk_in b 10 (by omega)
  refine ⟨ia, ib, ia, ib, ia, ib, ia, ib, ?_⟩
  rw [nI_clamp (by omega), nI_clamp (by omega)]
  refine h _ ⟨h1, h2, h3, fun r hr' => ⟨?_, ?_⟩, h5⟩ ((((am_eq.upI (Or.inl rfl)).tr (am_eq.upI (Or.inl rfl))).tr (am_eq.upI (Or.inr rfl))).tr (am_eq.upI (Or.inr rfl)))
  · rw [u_In _ _ (by omega), u_In _ _ (by omega), u_I, u_I]
    show _ = nI (if r = b then dk D a else if r = a then dk D b else dk D r)
    by_cases e1 : r = b
    · rw [if_pos ⟨rfl, e1⟩, if_pos e1]; exact (h4 a ha).1
    · rw [if_neg (fun z => e1 z.2), if_neg e1]
      by_cases e2 : r = a
      · rw [if_pos ⟨rfl, e2⟩, if_pos e2]; exact (h4 b hb).1
      · rw [if_neg (fun z => e2 z.2), if_neg e2]; exact (h4 r hr').1
  · rw [u_I, u_I, u_In _ _ (by omega), u_In _ _ (by omega)]
    show _ = nI (if r = b then dp D a else if r = a then dp D b else dp D r)
    by_cases e1 : r = b
    · rw [if_pos ⟨rfl, e1⟩, if_pos e1]; exact (h4 a ha).2
    · rw [if_neg (fun z => e1 z.2), if_neg e1]
      by_cases e2 : r = a
      · rw [if_pos ⟨rfl, e2⟩, if_pos e2]; exact (h4 b hb).2
      · rw [if_neg (fun z => e2 z.2), if_neg e2]; exact (h4 r hr').2
