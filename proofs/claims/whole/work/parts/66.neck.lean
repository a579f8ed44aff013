/-! NUMBERS THAT NO TURNING MAKES LESS: the next one -/
theorem lst {P : Nat → Prop} (h : ∃ k, P k) : ∃ k, P k ∧ ∀ j, j < k → ¬ P j := by
  obtain ⟨k, hk⟩ := h
  have A : ∀ k, P k → ∃ k, P k ∧ ∀ j, j < k → ¬ P j := by
    intro k
    induction k using Nat.strongRecOn with
    | _ k ih =>
      intro hk
      by_cases e : ∃ j, j < k ∧ P j
      · obtain ⟨j, h1, h2⟩ := e
        exact ih j h1 h2
      · exact ⟨k, hk, fun j hj z => e ⟨j, hj, z⟩⟩
  exact A k hk
def bt (n x i : Nat) : Bool := x.testBit (n - 1 - i)
theorem woA_tb (β : Nat → Bool) : ∀ m j, (woA β m).testBit j = if j < m then β (m - 1 - j) else false := by
  intro m
  induction m with
  | zero => intro j; unfold woA; rw [Nat.zero_testBit, if_neg (Nat.not_lt_zero j)]
  | succ m ih =>
    intro j
    unfold woA
    rw [tb_2]
    by_cases e : j = 0
    · rw [if_pos e, if_pos (by omega), e]
      rfl
    · rw [if_neg e, ih]
      by_cases e2 : j < m + 1
      · rw [if_pos (by omega), if_pos e2, show m + 1 - 1 - j = m - 1 - (j - 1) by omega]
      · rw [if_neg (by omega), if_neg e2]
theorem wo_bt {n x : Nat} (h : x < 2 ^ n) : woA (bt n x) n = x := by
  refine Nat.eq_of_testBit_eq (fun j => ?_)
  rw [woA_tb]
  by_cases e : j < n
  · rw [if_pos e]
    unfold bt
    rw [show n - 1 - (n - 1 - j) = j by omega]
  · rw [if_neg e, Nat.testBit_lt_two_pow (Nat.lt_of_lt_of_le h (Nat.pow_le_pow_right (n := 2) (by decide) (by omega)))]
theorem bt_wo {β : Nat → Bool} {n i : Nat} (h : i < n) : bt n (woA β n) i = β i := by
  unfold bt
  rw [woA_tb, if_pos (by omega), show n - 1 - (n - 1 - i) = i by omega]
def lx (β β' : Nat → Bool) (n : Nat) : Prop := ∃ j, j < n ∧ (∀ i, i < j → β i = β' i) ∧ β j = false ∧ β' j = true
theorem wo_lt (β β' : Nat → Bool) : ∀ n, woA β n < woA β' n ↔ lx β β' n := by
  intro n
  induction n with
  | zero =>
    unfold woA lx
    exact ⟨fun z => absurd z (Nat.lt_irrefl 0), fun ⟨j, h, _⟩ => absurd h (Nat.not_lt_zero j)⟩
  | succ n ih =>
    have c1 := toN_le (β n)
    have c2 := toN_le (β' n)
    constructor
    · intro h
      unfold woA at h
      by_cases e : woA β n < woA β' n
      · obtain ⟨j, h1, h2, h3, h4⟩ := ih.mp e
        exact ⟨j, by omega, h2, h3, h4⟩
      · have eq : woA β n = woA β' n := by omega
        refine ⟨n, by omega, woA_inj n eq, ?_, ?_⟩
        · cases hb : β n with
          | false => rfl
          | true =>
            rw [hb] at h c1
            have : (true : Bool).toNat = 1 := rfl
            omega
        · cases hb : β' n with
          | true => rfl
          | false =>
            rw [hb] at h c2
            have : (false : Bool).toNat = 0 := rfl
            omega
    · rintro ⟨j, h1, h2, h3, h4⟩
      unfold woA
      by_cases e : j = n
      · subst e
        rw [woA_congr j h2, h3, h4]
        have a : (true : Bool).toNat = 1 := rfl
        have b : (false : Bool).toNat = 0 := rfl
        omega
      · have := ih.mpr ⟨j, by omega, h2, h3, h4⟩
        omega
theorem woA_add (β : Nat → Bool) (a : Nat) : ∀ b, woA β (a + b) = woA β a * 2 ^ b + woA (fun i => β (a + i)) b
  | 0 => by simp [woA]
  | b + 1 => by
    have ih := woA_add β a b
    show 2 * woA β (a + b) + (β (a + b)).toNat = woA β a * 2 ^ (b + 1) + (2 * woA (fun i => β (a + i)) b + (β (a + b)).toNat)
    rw [ih, Nat.pow_succ, ← Nat.mul_assoc]
    omega
theorem woA_cut {β : Nat → Bool} {n k : Nat} (hk : k ≤ n) : woA β n / 2 ^ (n - k) = woA β k ∧ woA β n % 2 ^ (n - k) = woA (fun i => β (k + i)) (n - k) := by
  have := woA_add β k (n - k)
  rw [show k + (n - k) = n by omega] at this
  have l := woA_lt (fun i => β (k + i)) (n - k)
  rw [this]
  constructor
  · rw [Nat.mul_comm, Nat.mul_add_div (Nat.two_pow_pos _), Nat.div_eq_of_lt l, Nat.add_zero]
  · rw [Nat.mul_comm, Nat.mul_add_mod, Nat.mod_eq_of_lt l]
theorem woA_rot {β : Nat → Bool} {n k : Nat} (hk : k < n) : woA β n * 2 ^ k % 2 ^ n + woA β n / 2 ^ (n - k) = woA (fun i => β ((i + k) % n)) n := by
  obtain ⟨c1, c2⟩ := woA_cut (β := β) (n := n) (k := k) (by omega)
  have l := woA_lt (fun i => β (k + i)) (n - k)
  have hp : 2 ^ (n - k) * 2 ^ k = 2 ^ n := by rw [← Nat.pow_add, show n - k + k = n by omega]
  have e1 : woA β n * 2 ^ k % 2 ^ n = woA (fun i => β (k + i)) (n - k) * 2 ^ k := by
    rw [← hp, Nat.mul_mod_mul_right, c2]
  have a := woA_add (fun i => β ((i + k) % n)) (n - k) k
  rw [show n - k + k = n by omega] at a
  rw [e1, c1, a]
  congr 1
  · congr 1
    refine woA_congr _ (fun i hi => ?_)
    show β (k + i) = β ((i + k) % n)
    rw [Nat.mod_eq_of_lt (by omega), Nat.add_comm]
  · refine woA_congr _ (fun i hi => ?_)
    show β i = β ((n - k + i + k) % n)
    rw [show n - k + i + k = i + n by omega, Nat.add_mod_right, Nat.mod_eq_of_lt (by omega)]
theorem nk_b {β : Nat → Bool} {n : Nat} : isNk n (woA β n) ↔ ∀ k, k < n → ¬ lx (fun i => β ((i + k) % n)) β n := by
  unfold isNk
  constructor
  · intro h k hk z
    have := h k hk
    rw [woA_rot hk] at this
    have := (wo_lt _ _ n).mpr z
    omega
  · intro h k hk
    rw [woA_rot hk]
    exact Nat.le_of_not_lt (fun z => h k hk ((wo_lt _ _ n).mp z))
def ly (w : Nat → Bool) (L : Nat) : Prop := ∀ m, 0 < m → m < L → ∃ d, m + d < L ∧ (∀ e, e < d → w (m + e) = w e) ∧ w (m + d) = true ∧ w d = false
def pre (β : Nat → Bool) (n : Nat) : Prop := ∀ m, 0 < m → m < n → ∀ j, m + j < n → (∀ e, e < j → β (m + e) = β e) → β (m + j) = false → β j = true → False
theorem nk_pre {β : Nat → Bool} {n : Nat} (h : isNk n (woA β n)) : pre β n := by
  intro m h0 hm j hj he h1 h2
  refine nk_b.mp h m hm ⟨j, by omega, fun i hi => ?_, ?_, h2⟩
  · show β ((i + m) % n) = β i
    rw [Nat.mod_eq_of_lt (by omega), Nat.add_comm]
    exact he i hi
  · show β ((j + m) % n) = false
    rw [Nat.mod_eq_of_lt (by omega), Nat.add_comm]
    exact h1
/-- the last dark of the first L becomes light -/
def wN (β : Nat → Bool) (L i : Nat) : Bool := if i = L - 1 then true else β i
theorem pre_ly {β : Nat → Bool} {n L : Nat} (h : pre β n) (hL : L ≤ n) (h0 : β (L - 1) = false) : ly (wN β L) L := by
  intro m hm0 hm
  have wn : ∀ i, i < L - 1 → wN β L i = β i := fun i hi => by unfold wN; rw [if_neg (by omega)]
  by_cases e : ∃ e, e < L - 1 - m ∧ β (m + e) ≠ β e
  · obtain ⟨d, ⟨hd, hne⟩, hmin⟩ := lst e
    have eq : ∀ e, e < d → β (m + e) = β e := fun e he => Classical.byContradiction (fun z => hmin e he ⟨by omega, z⟩)
    have b1 : β (m + d) = true := by
      cases hb : β (m + d) with
      | true => rfl
      | false =>
        have : β d = true := by
          cases hc : β d with
          | true => rfl
          | false => exact absurd (hb.trans hc.symm) hne
        exact (h m hm0 (by omega) d (by omega) eq hb this).elim
    have b2 : β d = false := by
      cases hc : β d with
      | false => rfl
      | true => exact absurd (b1.trans hc.symm) hne
    refine ⟨d, by omega, fun e he => ?_, ?_, ?_⟩
    · rw [wn _ (by omega), wn _ (by omega)]
      exact eq e he
    · rw [wn _ (by omega)]; exact b1
    · rw [wn _ (by omega)]; exact b2
  · have eq : ∀ e, e < L - 1 - m → β (m + e) = β e := fun x hx => Classical.byContradiction (fun z => e ⟨x, hx, z⟩)
    refine ⟨L - 1 - m, by omega, fun e he => ?_, ?_, ?_⟩
    · rw [wn _ (by omega), wn _ (by omega)]
      exact eq e he
    · unfold wN
      rw [if_pos (by omega)]
    · rw [wn _ (by omega)]
      cases hc : β (L - 1 - m) with
      | false => rfl
      | true => exact (h m hm0 (by omega) (L - 1 - m) (by omega) eq (by rw [show m + (L - 1 - m) = L - 1 by omega]; exact h0) hc).elim
/-- no shift of a repeated beginning is less -/
theorem ly_no {w : Nat → Bool} {L m j : Nat} (hL : 0 < L) (h : ly w L) (he : ∀ e, e < j → w ((m + e) % L) = w (e % L)) (h1 : w ((m + j) % L) = false) (h2 : w (j % L) = true) : False := by
  have hb : ∀ e, (m + e) % L = (m % L + e) % L := fun e => by rw [Nat.mod_add_mod]
  have hml : m % L < L := Nat.mod_lt _ hL
  by_cases b0 : m % L = 0
  · rw [hb, b0, Nat.zero_add, h2] at h1
    exact absurd h1 (by decide)
  · obtain ⟨d, d1, d2, d3, d4⟩ := h (m % L) (by omega) hml
    have sm : ∀ e, e ≤ d → w ((m + e) % L) = w (m % L + e) ∧ w (e % L) = w e := fun e hed => by
      rw [hb, Nat.mod_eq_of_lt (show m % L + e < L by omega), Nat.mod_eq_of_lt (show e < L by omega)]
      exact ⟨rfl, rfl⟩
    rcases Nat.lt_trichotomy j d with c | c | c
    · rw [(sm j (by omega)).1, d2 j c, ← (sm j (by omega)).2, h2] at h1
      exact absurd h1 (by decide)
    · subst c
      rw [(sm j (by omega)).1, d3] at h1
      exact absurd h1 (by decide)
    · have := he d c
      rw [(sm d (Nat.le_refl _)).1, (sm d (Nat.le_refl _)).2, d3, d4] at this
      exact absurd this (by decide)
theorem ly_pre {w : Nat → Bool} {n L : Nat} (hL : 0 < L) (h : ly w L) : pre (fun i => w (i % L)) n := fun m _ _ j _ he h1 h2 => ly_no (m := m) (j := j) hL h he h1 h2
theorem ly_nk {w : Nat → Bool} {n L : Nat} (hL : 0 < L) (h : ly w L) (hd : n % L = 0) : isNk n (woA (fun i => w (i % L)) n) := by
  refine nk_b.mpr (fun k hk => ?_)
  rintro ⟨j, h1, h2, h3, h4⟩
  have e : ∀ x, x % n % L = x % L := fun x => Nat.mod_mod_of_dvd x (Nat.dvd_of_mod_eq_zero hd)
  refine ly_no (m := k) (j := j) hL h (fun i hi => ?_) ?_ h4
  · have := h2 i hi
    dsimp only at this
    rw [e, Nat.add_comm] at this
    exact this
  · dsimp only at h3
    rw [e, Nat.add_comm] at h3
    exact h3
theorem ly_nnk {w : Nat → Bool} {n L : Nat} (hL : 0 < L) (hLn : L ≤ n) (h : ly w L) (hd : n % L ≠ 0) : ¬ isNk n (woA (fun i => w (i % L)) n) := by
  have hml : n % L < L := Nat.mod_lt _ hL
  have hdm := Nat.div_add_mod n L
  obtain ⟨d, d1, d2, d3, d4⟩ := h (n % L) (by omega) hml
  intro z
  refine nk_b.mp z (L * (n / L)) (by omega) ⟨n % L + d, by omega, fun i hi => ?_, ?_, ?_⟩
  · show w ((i + L * (n / L)) % n % L) = w (i % L)
    by_cases e : i < n % L
    · rw [Nat.mod_eq_of_lt (show i + L * (n / L) < n by omega), Nat.add_mul_mod_self_left]
    · rw [show i + L * (n / L) = i - n % L + n by omega, Nat.add_mod_right, Nat.mod_eq_of_lt (show i - n % L < n by omega), Nat.mod_eq_of_lt (show i - n % L < L by omega), Nat.mod_eq_of_lt (show i < L by omega)]
      have := d2 (i - n % L) (by omega)
      rw [show n % L + (i - n % L) = i by omega] at this
      exact this.symm
  · show w ((n % L + d + L * (n / L)) % n % L) = false
    rw [show n % L + d + L * (n / L) = d + n by omega, Nat.add_mod_right, Nat.mod_eq_of_lt (show d < n by omega), Nat.mod_eq_of_lt (show d < L by omega)]
    exact d4
  · show w ((n % L + d) % L) = true
    rw [Nat.mod_eq_of_lt d1]
    exact d3
/-- nothing between -/
theorem nk_gap {β ζ : Nat → Bool} {n L : Nat} (hL : 0 < L) (h0 : β (L - 1) = false) (h1 : ∀ i, L ≤ i → i < n → β i = true) (hLn : L ≤ n) (g1 : lx β ζ n) (g2 : lx ζ (fun i => wN β L (i % L)) n) : ¬ isNk n (woA ζ n) := by
  obtain ⟨j, a1, a2, a3, a4⟩ := g1
  obtain ⟨j', b1, b2, b3, b4⟩ := g2
  dsimp only at b2 b4
  have wn : ∀ i, i < L - 1 → wN β L (i % L) = β i := fun i hi => by
    rw [Nat.mod_eq_of_lt (by omega)]
    unfold wN
    rw [if_neg (by omega)]
  have wl : wN β L ((L - 1) % L) = true := by
    rw [Nat.mod_eq_of_lt (by omega)]
    unfold wN
    rw [if_pos rfl]
  have hj : j < L := Nat.lt_of_not_le (fun z => by
    rw [h1 j z a1] at a3
    exact absurd a3 (by decide))
  have hjl : j = L - 1 := Classical.byContradiction (fun z => by
    rcases Nat.lt_trichotomy j' j with c | c | c
    · rw [wn j' (by omega), a2 j' c, b3] at b4
      exact absurd b4 (by decide)
    · rw [c, a4] at b3
      exact absurd b3 (by decide)
    · have := b2 j c
      rw [wn j (by omega), a3, a4] at this
      exact absurd this (by decide))
  have zw : ∀ i, i < L → ζ i = wN β L i := fun i hi => by
    by_cases e : i = L - 1
    · unfold wN
      rw [if_pos e, e, ← hjl]
      exact a4
    · unfold wN
      rw [if_neg e, ← a2 i (by omega)]
  have hj' : L ≤ j' := Nat.le_of_not_lt (fun z => by
    rw [zw j' z] at b3
    rw [Nat.mod_eq_of_lt z, b3] at b4
    exact absurd b4 (by decide))
  have hdm := Nat.div_add_mod j' L
  have hml : j' % L < L := Nat.mod_lt _ hL
  intro z
  refine nk_b.mp z (L * (j' / L)) (by omega) ⟨j' % L, by omega, fun i hi => ?_, ?_, ?_⟩
  · show ζ ((i + L * (j' / L)) % n) = ζ i
    rw [Nat.mod_eq_of_lt (by omega), b2 _ (by omega), Nat.add_mul_mod_self_left, Nat.mod_eq_of_lt (by omega), zw i (by omega)]
  · show ζ ((j' % L + L * (j' / L)) % n) = false
    rw [show j' % L + L * (j' / L) = j' by omega, Nat.mod_eq_of_lt b1]
    exact b3
  · rw [zw _ hml]
    exact b4
theorem pre_congr {β β' : Nat → Bool} {n : Nat} (h : pre β n) (e : ∀ i, i < n → β i = β' i) : pre β' n := by
  intro m h0 hm j hj he h1 h2
  refine h m h0 hm j hj (fun x hx => ?_) ?_ ?_
  · rw [e _ (by omega), e _ (by omega)]; exact he x hx
  · rw [e _ (by omega)]; exact h1
  · rw [e _ (by omega)]; exact h2
/-- the row behind a row that ends with t lights -/
def nxN (n x t : Nat) : Nat := woA (fun i => wN (bt n x) (n - t) (i % (n - t))) n
theorem nx_step {n x t : Nat} (hx : x < 2 ^ n) (hp : pre (bt n x) n) (ht : t < n) (h1 : ∀ i, i < t → x.testBit i = true) (h0 : x.testBit t = false) : x < nxN n x t ∧ nxN n x t < 2 ^ n ∧ (∀ y, x < y → y < nxN n x t → ¬ isNk n y) ∧ (n % (n - t) = 0 → isNk n (nxN n x t)) ∧ (n % (n - t) ≠ 0 → ¬ isNk n (nxN n x t) ∧ pre (bt n (nxN n x t)) n) := by
  have b0 : bt n x (n - t - 1) = false := by
    unfold bt
    rw [show n - 1 - (n - t - 1) = t by omega]
    exact h0
  have b1 : ∀ i, n - t ≤ i → i < n → bt n x i = true := fun i hi hin => by
    unfold bt
    exact h1 _ (by omega)
  have hl := pre_ly hp (show n - t ≤ n by omega) b0
  have hlt : woA (bt n x) n < nxN n x t := (wo_lt _ _ n).mpr ⟨n - t - 1, by omega, fun i hi => by
    dsimp only
    rw [Nat.mod_eq_of_lt (by omega)]
    unfold wN
    rw [if_neg (by omega)], b0, by
    dsimp only
    rw [Nat.mod_eq_of_lt (by omega)]
    unfold wN
    rw [if_pos rfl]⟩
  rw [wo_bt hx] at hlt
  have hlt2 : nxN n x t < 2 ^ n := woA_lt _ n
  refine ⟨hlt, hlt2, fun y hy1 hy2 => ?_, fun z => ly_nk (by omega) hl z, fun z => ⟨ly_nnk (by omega) (by omega) hl z, pre_congr (ly_pre (by omega) hl) (fun i hi => by unfold nxN; rw [bt_wo hi])⟩⟩
  have hy : y < 2 ^ n := by omega
  have g1 : lx (bt n x) (bt n y) n := (wo_lt _ _ n).mp (by rw [wo_bt hx, wo_bt hy]; exact hy1)
  have g2 : lx (bt n y) (fun i => wN (bt n x) (n - t) (i % (n - t))) n := (wo_lt _ _ n).mp (by rw [wo_bt hy]; exact hy2)
  have := nk_gap (show 0 < n - t by omega) b0 b1 (by omega) g1 g2
  rw [wo_bt hy] at this
  exact this
/-- the beginning of the row behind -/
theorem nx_begin {n x t : Nat} (hx : x < 2 ^ n) (ht : t < n) (h0 : x.testBit t = false) : x / 2 ^ t % 2 = 0 ∧ x / 2 ^ t + 1 = woA (fun i => wN (bt n x) (n - t) (i % (n - t))) (n - t) := by
  have c := (woA_cut (β := bt n x) (n := n) (k := n - t) (by omega)).1
  rw [show n - (n - t) = t by omega, wo_bt hx] at c
  obtain ⟨m, hm⟩ : ∃ m, n - t = m + 1 := ⟨n - t - 1, by omega⟩
  have b0 : bt n x m = false := by
    unfold bt
    rw [show n - 1 - m = t by omega]
    exact h0
  rw [c, hm]
  have s : woA (bt n x) (m + 1) = 2 * woA (bt n x) m + (bt n x m).toNat := rfl
  rw [b0] at s
  have f0' : (false : Bool).toNat = 0 := rfl
  have t0' : (true : Bool).toNat = 1 := rfl
  refine ⟨by omega, ?_⟩
  have e1 : woA (fun i => wN (bt n x) (m + 1) (i % (m + 1))) m = woA (bt n x) m := woA_congr m (fun i hi => by
    rw [Nat.mod_eq_of_lt (by omega)]
    unfold wN
    rw [if_neg (by omega)])
  have s2 : woA (fun i => wN (bt n x) (m + 1) (i % (m + 1))) (m + 1) = 2 * woA (fun i => wN (bt n x) (m + 1) (i % (m + 1))) m + (wN (bt n x) (m + 1) (m % (m + 1))).toNat := rfl
  rw [e1, Nat.mod_eq_of_lt (show m < m + 1 by omega), show wN (bt n x) (m + 1) m = true by unfold wN; rw [if_pos (by omega)]] at s2
  omega
