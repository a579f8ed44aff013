/-! LEAVES -/
/-- the first j longs of a row become v -/
def fJ (σ : am_S) (k j : Nat) (v : Int64) : am_S := (σ.1, fun k' i' => if k' = k ∧ i' < j then v else σ.2 k' i')
theorem fJ_0 (σ : am_S) (k : Nat) (v : Int64) : fJ σ k 0 v = σ := by
  unfold fJ
  refine Prod.ext rfl ?_
  funext k' i'
  simp
theorem fJ_step (σ : am_S) (k j : Nat) (v : Int64) : am_upJ (fJ σ k j v) k j v = fJ σ k (j + 1) v := by
  unfold fJ am_upJ
  refine Prod.ext rfl ?_
  funext k' i'
  dsimp only
  by_cases h : k' = k
  · subst h
    by_cases h2 : i' = j
    · subst h2; simp
    · by_cases h3 : i' < j
      · simp [h2, h3]; omega
      · have : ¬ i' < j + 1 := by omega
        simp [h2, h3, this]
  · simp [h]
theorem fJ_eq {P : Nat → Prop} {σ : am_S} {k j : Nat} {v : Int64} (hk : P k) : am_eq P σ (fJ σ k j v) := fun k' hk' => ⟨rfl, by
  funext i
  show (if k' = k ∧ i < j then v else σ.2 k' i) = σ.2 k' i
  rw [if_neg]
  rintro ⟨rfl, -⟩
  exact hk' hk⟩
theorem s_fillJ {k nk : Nat} {v : Int64} {σ : am_S} {K : am_S → Prop} (hk : am_cell k = (12, nk)) (hn : nk < 2 ^ 31) (h : K (fJ σ k nk v)) : w_Arr_fillJ (k := k) (nk := nk) v σ K := by
  refine e_Arr_fillJ hk (fun d => ?_)
  have L : ∀ m j, j + m = nk → R_Arr_fillJ d K 6 [.ref k, .long v, .null, .int (nI j), .int (nI nk)] [] (fJ σ k j v) := by
    intro m
    induction m with
    | zero =>
      intro j hj
      refine l_Arr_fillJ_6 hk (pk_le nk j (fun _ => ?_) (fun h => absurd h (by omega)))
      have : j = nk := by omega
      subst this
      exact h
    | succ m ih =>
      intro j hj
      refine l_Arr_fillJ_6 hk (pk_le nk j (fun h => absurd h (by omega)) (fun _ => ⟨pk_in j nk (by omega), ?_⟩))
      rw [nI_clamp (by omega), nI_add, fJ_step]
      exact ih (j + 1) (by omega)
  have h0 := L nk 0 (by omega)
  rw [fJ_0] at h0
  exact h0
def fI (σ : am_S) (k j : Nat) (v : Int32) : am_S := (fun k' i' => if k' = k ∧ i' < j then v else σ.1 k' i', σ.2)
theorem fI_0 (σ : am_S) (k : Nat) (v : Int32) : fI σ k 0 v = σ := by
  unfold fI
  refine Prod.ext ?_ rfl
  funext k' i'
  simp
theorem fI_step (σ : am_S) (k j : Nat) (v : Int32) : am_upI (fI σ k j v) k j v = fI σ k (j + 1) v := by
  unfold fI am_upI
  refine Prod.ext ?_ rfl
  funext k' i'
  dsimp only
  by_cases h : k' = k
  · subst h
    by_cases h2 : i' = j
    · subst h2; simp
    · by_cases h3 : i' < j
      · simp [h2, h3]; omega
      · have : ¬ i' < j + 1 := by omega
        simp [h2, h3, this]
  · simp [h]
theorem fI_eq {P : Nat → Prop} {σ : am_S} {k j : Nat} {v : Int32} (hk : P k) : am_eq P σ (fI σ k j v) := fun k' hk' => ⟨by
  funext i
  show (if k' = k ∧ i < j then v else σ.1 k' i) = σ.1 k' i
  rw [if_neg]
  rintro ⟨rfl, -⟩
  exact hk' hk, rfl⟩
theorem s_fillI {k nk : Nat} {v : Int32} {σ : am_S} {K : am_S → Prop} (hk : am_cell k = (11, nk)) (hn : nk < 2 ^ 31) (h : K (fI σ k nk v)) : w_Arr_fillI (k := k) (nk := nk) v σ K := by
  refine e_Arr_fillI hk (fun d => ?_)
  have L : ∀ m j, j + m = nk → R_Arr_fillI d K 5 [.ref k, .int v, .int (nI j), .int (nI nk)] [] (fI σ k j v) := by
    intro m
    induction m with
    | zero =>
      intro j hj
      refine l_Arr_fillI_5 hk (pk_le nk j (fun _ => ?_) (fun h => absurd h (by omega)))
      have : j = nk := by omega
      subst this
      exact h
    | succ m ih =>
      intro j hj
      refine l_Arr_fillI_5 hk (pk_le nk j (fun h => absurd h (by omega)) (fun _ => ⟨pk_in j nk (by omega), ?_⟩))
      rw [nI_clamp (by omega), nI_add, fI_step]
      exact ih (j + 1) (by omega)
  have h0 := L nk 0 (by omega)
  rw [fI_0] at h0
  exact h0
theorem s_isSet {k nk f i : Nat} {σ : am_S} {K : Int32 → am_S → Prop} (hi : i < 2 ^ 30) (hf : f + i / 64 < nk) (hn : nk < 2 ^ 30) (h : K (bI (lbit (σ.2 k (f + i / 64)) (i % 64))) σ) : w_WD_isSet (k := k) (nk := nk) (nI f) (nI i) σ K := by
  unfold w_WD_isSet
  rw [q_shr 6 (by decide) (show i < 2 ^ 31 by omega), q_and63 (show i < 2 ^ 31 by omega), nI_add]
  show vp_in (nI (f + i / 64)) nk ∧ _
  refine ⟨pk_in _ nk hf, ?_⟩
  rw [show 2 ^ 6 = 64 from rfl, nI_clamp (by omega)]
  constructor
  · intro hc
    rw [q_cmp0, q_lbit0 (Nat.mod_lt _ (by decide))] at hc
    rw [hc] at h
    exact h
  · intro hc
    rw [q_cmp0, q_lbit0 (Nat.mod_lt _ (by decide))] at hc
    rw [Bool.not_eq_false] at hc
    rw [hc] at h
    exact h
theorem bI_01 (b : Bool) : bI b = nI 0 ∨ bI b = nI 1 := by cases b; exact Or.inl rfl; exact Or.inr rfl
/-- a light of the track t -/
def lit (σ : am_S) (k t s : Nat) : Bool := lbit (σ.2 k (8 * t + s / 64)) (s % 64)
theorem s_isLight {t s : Nat} {σ : am_S} {K : Int32 → am_S → Prop} (ht : t < 10) (hs : s < 512) (h : K (bI (lit σ 4 t s)) σ) : w_Disc_isLight (nI t) (nI s) σ K := by
  unfold w_Disc_isLight
  rw [pk_mul, Nat.mul_comm]
  refine s_isSet (by omega) (by omega) (by decide) ⟨bI_01 _, h⟩
def sl (σ : am_S) (t s : Nat) (b : Bool) : am_S := am_upJ σ 4 (8 * t + s / 64) (setb (σ.2 4 (8 * t + s / 64)) (s % 64) b)
theorem sl_lit {σ : am_S} {t s t' s' : Nat} {b : Bool} (hs : s < 512) (hs' : s' < 512) : lit (sl σ t s b) 4 t' s' = if t' = t ∧ s' = s then b else lit σ 4 t' s' := by
  unfold lit sl
  rw [u_J]
  by_cases h : 8 * t' + s' / 64 = 8 * t + s / 64
  · have ht : t' = t := by omega
    have hd : s' / 64 = s / 64 := by omega
    rw [if_pos ⟨rfl, h⟩, lbit_setb b (Nat.mod_lt _ (by decide)) (Nat.mod_lt _ (by decide)), h]
    by_cases h2 : s' % 64 = s % 64
    · have : s' = s := by omega
      rw [if_pos h2, if_pos ⟨ht, this⟩]
    · rw [if_neg h2, if_neg]
      rintro ⟨-, rfl⟩
      exact h2 rfl
  · rw [if_neg (fun z => h z.2), if_neg]
    rintro ⟨rfl, rfl⟩
    exact h rfl
theorem sl_1 (σ : am_S) (t s : Nat) (b : Bool) : (sl σ t s b).1 = σ.1 := rfl
theorem sl_eq {P : Nat → Prop} {σ : am_S} {t s : Nat} {b : Bool} (h : P 4) : am_eq P σ (sl σ t s b) := am_eq.upJ h
theorem s_setLight {t s : Nat} {b : Bool} {σ : am_S} {K : am_S → Prop} (ht : t < 10) (hs : s < 512) (h : K (sl σ t s b)) : w_Disc_setLight (nI t) (nI s) (bI b) σ K := by
  unfold w_Disc_setLight
  rw [q_shr 6 (by decide) (show s < 2 ^ 31 by omega), q_and63 (show s < 2 ^ 31 by omega), pk_mul, nI_add, show t * 8 + s / 2 ^ 6 = 8 * t + s / 64 by omega, nI_clamp (by omega)]
  have hin : vp_in (nI (8 * t + s / 64)) 80 := pk_in (8 * t + s / 64) 80 (by omega)
  unfold sl setb at h
  cases b with
  | false => exact am_ite_t rfl ⟨hin, hin, h⟩
  | true => exact am_ite_f (by decide) ⟨hin, hin, h⟩
/-- the bits of an int that are 1 -/
def bc (x : Int32) : Int32 := ((((((((x - ((am_ushr x (nI 1)) &&& (nI 1431655765))) &&& (nI 858993459)) + ((am_ushr (x - ((am_ushr x (nI 1)) &&& (nI 1431655765))) (nI 2)) &&& (nI 858993459))) + (am_ushr (((x - ((am_ushr x (nI 1)) &&& (nI 1431655765))) &&& (nI 858993459)) + ((am_ushr (x - ((am_ushr x (nI 1)) &&& (nI 1431655765))) (nI 2)) &&& (nI 858993459))) (nI 4))) &&& (nI 252645135)) + (am_ushr (((((x - ((am_ushr x (nI 1)) &&& (nI 1431655765))) &&& (nI 858993459)) + ((am_ushr (x - ((am_ushr x (nI 1)) &&& (nI 1431655765))) (nI 2)) &&& (nI 858993459))) + (am_ushr (((x - ((am_ushr x (nI 1)) &&& (nI 1431655765))) &&& (nI 858993459)) + ((am_ushr (x - ((am_ushr x (nI 1)) &&& (nI 1431655765))) (nI 2)) &&& (nI 858993459))) (nI 4))) &&& (nI 252645135)) (nI 8))) + (am_ushr ((((((x - ((am_ushr x (nI 1)) &&& (nI 1431655765))) &&& (nI 858993459)) + ((am_ushr (x - ((am_ushr x (nI 1)) &&& (nI 1431655765))) (nI 2)) &&& (nI 858993459))) + (am_ushr (((x - ((am_ushr x (nI 1)) &&& (nI 1431655765))) &&& (nI 858993459)) + ((am_ushr (x - ((am_ushr x (nI 1)) &&& (nI 1431655765))) (nI 2)) &&& (nI 858993459))) (nI 4))) &&& (nI 252645135)) + (am_ushr (((((x - ((am_ushr x (nI 1)) &&& (nI 1431655765))) &&& (nI 858993459)) + ((am_ushr (x - ((am_ushr x (nI 1)) &&& (nI 1431655765))) (nI 2)) &&& (nI 858993459))) + (am_ushr (((x - ((am_ushr x (nI 1)) &&& (nI 1431655765))) &&& (nI 858993459)) + ((am_ushr (x - ((am_ushr x (nI 1)) &&& (nI 1431655765))) (nI 2)) &&& (nI 858993459))) (nI 4))) &&& (nI 252645135)) (nI 8))) (nI 16))) &&& (nI 63))
theorem s_bitCount {x : Int32} {σ : am_S} {K : Int32 → am_S → Prop} (h : K (bc x) σ) : w_Int_bitCount x σ K := h
/-- one step round a ring -/
theorem s_stepUp {p n : Nat} {σ : am_S} {K : Int32 → am_S → Prop} (hn : n < 2 ^ 30) (hp : p < n) (h : K (nI ((p + 1) % n)) σ) : w_WD_stepRound (nI p) (nI 1) (nI n) σ K := by
  unfold w_WD_stepRound
  rw [nI_add]
  refine pk_lt (p + 1) n (fun g => ?_) (fun g => ?_)
  · rw [Nat.mod_eq_of_lt g] at h
    exact pk_le 0 (p + 1) (fun _ => h) (fun g => absurd g (by omega))
  · have : p + 1 = n := by omega
    rw [this, Nat.mod_self] at h
    exact h
theorem s_stepDown {p n : Nat} {σ : am_S} {K : Int32 → am_S → Prop} (hn : n < 2 ^ 30) (hp : p < n) (h : K (nI ((p + n - 1) % n)) σ) : w_WD_stepRound (nI p) (-1) (nI n) σ K := by
  unfold w_WD_stepRound
  rcases Nat.eq_zero_or_pos p with hp0 | hp0
  · subst hp0
    rw [show nI 0 + (-1) = (-1 : Int32) by decide]
    rw [show (0 + n - 1) % n = n - 1 by rw [Nat.zero_add]; exact Nat.mod_eq_of_lt (by omega)] at h
    refine am_ite_t ?_ (am_ite_f (by decide) ?_)
    · rw [Int32.lt_iff_toInt_lt, nI_toInt (by omega), show (-1 : Int32).toInt = -1 by decide]
      omega
    · rw [pk_sub (by omega)]
      exact h
  · rw [q_m1 hp0]
    rw [show (p + n - 1) % n = p - 1 by rw [show p + n - 1 = (p - 1) + n by omega, Nat.add_mod_right]; exact Nat.mod_eq_of_lt (by omega)] at h
    exact pk_lt (p - 1) n (fun _ => pk_le 0 (p - 1) (fun _ => h) (fun g => absurd g (by omega))) (fun g => absurd g (by omega))
