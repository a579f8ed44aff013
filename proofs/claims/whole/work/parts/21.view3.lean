/-- how many of the first n words are w -/
def cnW (W : Nat → Nat) (w : Int32) : Nat → Nat
  | 0 => 0
  | s + 1 => cnW W w s + if nI (W s) = w then 1 else 0
theorem cnW_le (W : Nat → Nat) (w : Int32) : ∀ n, cnW W w n ≤ n
  | 0 => Nat.le_refl _
  | n + 1 => by
    have := cnW_le W w n
    unfold cnW
    split <;> omega
theorem s_standsWith {n r : Nat} {w : Int32} {W : Nat → Nat} {σ : am_S} {K : Int32 → am_S → Prop} (hW : vW σ n r W) (h : K (nI (cnW W w n)) σ) : w_View_standsWith w σ K := by
  refine e_View_standsWith (fun d => ?_)
  obtain ⟨h1, h2, h3, h4, h5, h6, h7⟩ := id hW
  have L : ∀ q s, s + q = n → R_View_standsWith d K 4 [.ref 9, .int w, .int (nI (cnW W w s)), .int (nI s)] [] σ := by
    intro q
    induction q with
    | zero =>
      intro s hs
      refine l_View_standsWith_4 ?_
      rw [h1]
      refine pk_le n s (fun _ => ?_) (fun z => absurd z (by omega))
      have : s = n := by omega
      subst this
      exact h
    | succ q ih =>
      intro s hs
      refine l_View_standsWith_4 ?_
      rw [h1, nI_clamp (by omega), h3 s (by omega)]
      refine pk_le n s (fun z => absurd z (by omega)) (fun _ => ⟨pk_in s 512 (by omega), ?_⟩)
      have ih' := ih (s + 1) (by omega)
      unfold cnW at ih'
      rw [nI_add, nI_add]
      constructor
      · intro hc
        rw [if_neg hc] at ih'
        exact ih'
      · intro hc
        rw [if_pos (Classical.not_not.mp hc)] at ih'
        exact ih'
  exact L n 0 (by omega)
/-- the i-th stand with a word, from stand s on, k of them passed -/
def fnW (W : Nat → Nat) (w i : Int32) : Nat → Nat → Nat → Int32
  | 0, _, _ => -1
  | q + 1, s, k => if nI (W s) = w then if nI k = i then nI s else fnW W w i q (s + 1) (k + 1) else fnW W w i q (s + 1) k
theorem s_standWith {n r : Nat} {w i : Int32} {W : Nat → Nat} {σ : am_S} {K : Int32 → am_S → Prop} (hW : vW σ n r W) (h : K (fnW W w i n 0 0) σ) : w_View_standWith w i σ K := by
  refine e_View_standWith (fun d => ?_)
  obtain ⟨h1, h2, h3, h4, h5, h6, h7⟩ := id hW
  have L : ∀ q s k, s + q = n → K (fnW W w i q s k) σ → R_View_standWith d K 5 [.ref 9, .int w, .int i, .int (nI k), .int (nI s)] [] σ := by
    intro q
    induction q with
    | zero =>
      intro s k hs hk
      refine l_View_standWith_5 ?_
      rw [h1]
      exact pk_le n s (fun _ => hk) (fun z => absurd z (by omega))
    | succ q ih =>
      intro s k hs hk
      refine l_View_standWith_5 ?_
      rw [h1, nI_clamp (by omega), h3 s (by omega)]
      refine pk_le n s (fun z => absurd z (by omega)) (fun _ => ⟨pk_in s 512 (by omega), ?_⟩)
      unfold fnW at hk
      rw [nI_add, nI_add]
      constructor
      · intro hc
        rw [if_neg hc] at hk
        exact ih (s + 1) k (by omega) hk
      · intro hc
        rw [if_pos (Classical.not_not.mp hc)] at hk
        constructor
        · intro hc2
          rw [if_neg hc2] at hk
          exact ih (s + 1) (k + 1) (by omega) hk
        · intro hc2
          rw [if_pos (Classical.not_not.mp hc2)] at hk
          exact hk
  exact L n 0 0 (by omega) h
theorem s_waysBehind {n r s : Nat} {W : Nat → Nat} {σ : am_S} {K : Int32 → am_S → Prop} (hW : vW σ n r W) (hs : s < n) (h : K (nI 1 <<< (bc (nI (xb W n s)) &&& 31)) σ) : w_View_waysBehind (nI s) σ K := by
  unfold w_View_waysBehind
  exact s_unlikeBehind hW hs (s_bitCount h)
/-- the bits of 'left' go to the bits of 'e', from bit b on, q of them -/
def wyW (e : Int32) : Nat → Nat → Int32 → Int32 → Int32
  | 0, _, w, _ => w
  | q + 1, b, w, l => if (e >>> (nI b &&& 31)) &&& nI 1 = nI 0 then wyW e q (b + 1) w l else wyW e q (b + 1) (w ||| ((l &&& nI 1) <<< (nI b &&& 31))) (l >>> (nI 1 &&& 31))
theorem s_wayBehind {n r s : Nat} {i : Int32} {W : Nat → Nat} {σ : am_S} {K : Int32 → am_S → Prop} (hW : vW σ n r W) (hs : s < n) (h : K (wyW (nI (xb W n s)) r 0 (nI (W s) &&& (nI (xb W n s) ^^^ (-1))) i) σ) : w_View_wayBehind (nI s) i σ K := by
  refine e_View_wayBehind (fun d => ?_)
  obtain ⟨h1, h2, h3, h4, h5, h6, h7⟩ := id hW
  refine s_unlikeBehind hW hs ⟨pk_in s 512 (by omega), ?_⟩
  rw [nI_clamp (by omega), h3 s hs]
  have L : ∀ q b w l, b + q = r → K (wyW (nI (xb W n s)) q b w l) σ → R_View_wayBehind d K 24 [.ref 9, .null, .null, .int (nI (xb W n s)), .int w, .int l, .int (nI b)] [] σ := by
    intro q
    induction q with
    | zero =>
      intro b w l hb hk
      refine l_View_wayBehind_24 ?_
      rw [h2]
      exact pk_le r b (fun _ => hk) (fun z => absurd z (by omega))
    | succ q ih =>
      intro b w l hb hk
      refine l_View_wayBehind_24 ?_
      rw [h2, nI_add]
      refine pk_le r b (fun z => absurd z (by omega)) (fun _ => ?_)
      unfold wyW at hk
      constructor
      · intro hc
        rw [if_pos hc] at hk
        exact ih (b + 1) w l (by omega) hk
      · intro hc
        rw [if_neg hc] at hk
        exact ih (b + 1) _ _ (by omega) hk
  exact L r 0 _ i (by omega) h
/-- bits of a that are not bits of c (of 32) -/
def anN (a c : Nat) : Nat := a &&& (c ^^^ 4294967295)
theorem q_an (a c : Nat) : nI a &&& (nI c ^^^ (-1)) = nI (anN a c) := by
  rw [show (-1 : Int32) = nI 4294967295 by decide, q_xor, q_and]
  rfl
/-- readers that could be spared, each alone -/
def blW (W : Nat → Nat) (n r : Nat) : Nat → Nat
  | 0 => 0
  | b + 1 => if aU W (anN (2 ^ r - 1) (2 ^ b)) n = true then blW W n r b ||| 2 ^ b else blW W n r b
theorem s_sparedAlone {n r : Nat} {W : Nat → Nat} {σ : am_S} {K : Int32 → am_S → Prop} (hW : vW σ n r W) (h : ∀ τ, am_eq (fun k => k = 12) σ τ → K (nI (blW W n r r)) τ) : w_View_sparedAlone σ K := by
  refine e_View_sparedAlone (fun d => ?_)
  have L : ∀ q b (τ : am_S), b + q = r → am_eq (fun k => k = 12) σ τ → R_View_sparedAlone d K 4 [.ref 9, .int (nI (blW W n r b)), .int (nI b)] [] τ := by
    intro q
    induction q with
    | zero =>
      intro b τ hb he
      obtain ⟨h1, h2, h3, h4, h5, h6, h7⟩ := hW.kept he (by omega) (by omega)
      refine l_View_sparedAlone_4 ?_
      rw [h2]
      refine pk_le r b (fun _ => ?_) (fun z => absurd z (by omega))
      have : b = r := by omega
      subst this
      exact h τ he
    | succ q ih =>
      intro b τ hb he
      have hW' := hW.kept he (by omega) (by omega)
      obtain ⟨h1, h2, h3, h4, h5, h6, h7⟩ := id hW'
      refine l_View_sparedAlone_4 ?_
      unfold w_View_allReaders
      dsimp only
      rw [h2, q_all r h6, q_1shl b (by omega), q_an, q_or, nI_add]
      refine pk_le r b (fun z => absurd z (by omega)) (fun _ => s_allUnlike hW' (fun τ' he' _ => ?_))
      have ih' := ih (b + 1) τ' (by omega) (he.tr he')
      unfold blW at ih'
      cases hc : aU W (anN (2 ^ r - 1) (2 ^ b)) n with
      | false => rw [hc, if_neg (by decide)] at ih'; exact am_ite_t rfl ih'
      | true => rw [hc, if_pos rfl] at ih'; exact am_ite_f (by decide) ih'
  exact L r 0 σ (by omega) am_eq.rf
/-- readers that could be spared together -/
def spW (W : Nat → Nat) (n r : Nat) : Nat → Nat
  | 0 => 0
  | b + 1 => if aU W (anN (2 ^ r - 1) (spW W n r b ||| 2 ^ b)) n = true then spW W n r b ||| 2 ^ b else spW W n r b
theorem s_sparedTogether {n r : Nat} {W : Nat → Nat} {σ : am_S} {K : Int32 → am_S → Prop} (hW : vW σ n r W) (h : ∀ τ, am_eq (fun k => k = 12) σ τ → K (nI (spW W n r r)) τ) : w_View_sparedTogether σ K := by
  refine e_View_sparedTogether (fun d => ?_)
  have L : ∀ q b (τ : am_S), b + q = r → am_eq (fun k => k = 12) σ τ → R_View_sparedTogether d K 4 [.ref 9, .int (nI (spW W n r b)), .int (nI b), .null] [] τ := by
    intro q
    induction q with
    | zero =>
      intro b τ hb he
      obtain ⟨h1, h2, h3, h4, h5, h6, h7⟩ := hW.kept he (by omega) (by omega)
      refine l_View_sparedTogether_4 ?_
      rw [h2]
      refine pk_le r b (fun _ => ?_) (fun z => absurd z (by omega))
      have : b = r := by omega
      subst this
      exact h τ he
    | succ q ih =>
      intro b τ hb he
      have hW' := hW.kept he (by omega) (by omega)
      obtain ⟨h1, h2, h3, h4, h5, h6, h7⟩ := id hW'
      refine l_View_sparedTogether_4 ?_
      unfold w_View_allReaders
      dsimp only
      rw [h2, q_all r h6, q_1shl b (by omega), q_or, q_an, nI_add]
      refine pk_le r b (fun z => absurd z (by omega)) (fun _ => s_allUnlike hW' (fun τ' he' _ => ?_))
      have ih' := ih (b + 1) τ' (by omega) (he.tr he')
      unfold spW at ih'
      cases hc : aU W (anN (2 ^ r - 1) (spW W n r b ||| 2 ^ b)) n with
      | false => rw [hc, if_neg (by decide)] at ih'; exact am_ite_t rfl ih'
      | true => rw [hc, if_pos rfl] at ih'; exact am_ite_f (by decide) ih'
  exact L r 0 σ (by omega) am_eq.rf
