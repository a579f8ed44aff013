/-! THE SEARCH: the class -/
def sqN (σ : am_S) (n r : Nat) : Prop := σ.1 21 0 = nI n ∧ σ.1 21 1 = nI r ∧ σ.1 21 2 = nI (n / r) ∧ σ.1 21 3 = nI (2 ^ n) ∧ 2 ≤ n ∧ n ≤ 20 ∧ 2 ≤ r ∧ r ≤ 5 ∧ n % r = 0
theorem p2_20 {n : Nat} (h : n ≤ 20) : 2 ^ n ≤ 1048576 := Nat.pow_le_pow_right (n := 2) (j := 20) (by decide) h
theorem s_lightsAtEnd {n x : Nat} {σ : am_S} {K : Int32 → am_S → Prop} (h0 : σ.1 21 0 = nI n) (hn : n ≤ 20) (hx : x < 2 ^ n) (h : ∀ t, t ≤ n → (∀ i, i < t → x.testBit i = true) → (t < n → x.testBit t = false) → K (nI t) σ) : w_Search_lightsAtEnd (nI x) σ K := by
  have hp := p2_20 hn
  refine e_Search_lightsAtEnd (fun d => ?_)
  have L : ∀ q t, t + q = n → (∀ i, i < t → x.testBit i = true) → R_Search_lightsAtEnd d K 2 [.ref 21, .int (nI x), .int (nI t)] [] σ := by
    intro q
    induction q with
    | zero =>
      intro t ht hi
      refine l_Search_lightsAtEnd_2 ?_
      rw [h0]
      exact pk_le n t (fun _ => h t (by omega) hi (fun z => by omega)) (fun z => absurd z (by omega))
    | succ q ih =>
      intro t ht hi
      refine l_Search_lightsAtEnd_2 ?_
      rw [h0, q_tb (by omega) (by omega), nI_add]
      refine pk_le n t (fun z => absurd z (by omega)) (fun _ => ?_)
      cases hb : x.testBit t with
      | false => exact am_ite_t rfl (h t (by omega) hi (fun _ => hb))
      | true =>
        refine am_ite_f (by decide) (ih (t + 1) (by omega) (fun i hi' => ?_))
        by_cases e : i = t
        · rw [e]; exact hb
        · exact hi i (by omega)
  exact L n 0 (by omega) (fun i hi => by omega)
theorem s_repeated {n L : Nat} {w : Nat → Bool} {σ : am_S} {K : Int32 → am_S → Prop} (h0 : σ.1 21 0 = nI n) (hn : n ≤ 20) (hL : 1 ≤ L) (hLn : L ≤ n) (h : K (nI (woA (fun i => w (i % L)) n)) σ) : w_Search_repeated (nI (woA (fun i => w (i % L)) L)) (nI L) σ K := by
  refine e_Search_repeated (fun d => ?_)
  have A : ∀ q m, m + q = n → L ≤ m → R_Search_repeated d K 5 [.ref 21, .null, .int (nI L), .int (nI (woA (fun i => w (i % L)) m)), .int (nI m)] [] σ := by
    intro q
    induction q with
    | zero =>
      intro m hm hLm
      have : m = n := by omega
      subst this
      refine l_Search_repeated_5 ?_
      rw [h0]
      exact pk_le m m (fun _ => h) (fun z => absurd z (by omega))
    | succ q ih =>
      intro m hm hLm
      have lt := woA_lt (fun i => w (i % L)) m
      have p2 : 2 ^ m ≤ 2 ^ 20 := Nat.pow_le_pow_right (n := 2) (by decide) (by omega)
      refine l_Search_repeated_5 ?_
      rw [h0, pk_sub hL, q_tb (by omega) (by omega), q_shl 1 (by decide) (by omega), q_or, q_bit2, nI_add, woA_tb, if_pos (show L - 1 < m by omega)]
      refine pk_le n m (fun z => absurd z (by omega)) (fun _ => ?_)
      have e : (m - 1 - (L - 1)) % L = m % L := by
        have := Nat.add_mod_right (m - L) L
        rw [show m - L + L = m by omega] at this
        rw [show m - 1 - (L - 1) = m - L by omega]
        exact this.symm
      rw [e]
      exact ih (m + 1) (by omega) (by omega)
  exact A (n - L) L (by omega) (Nat.le_refl _)
theorem s_least {n r x : Nat} {σ : am_S} {K : Int32 → am_S → Prop} (hq : sqN σ n r) (hx : x < 2 ^ n) (hk : isNk n x) (h : ∀ c, x < c → c ≤ 2 ^ n → (c < 2 ^ n → isNk n c) → (∀ y, x < y → y < c → ¬ isNk n y) → K (nI c) σ) : w_Search_leastTurnedBehind (nI x) σ K := by
  obtain ⟨h0, h1, h2, h3, n2, n20, _, _, _⟩ := hq
  have hp := p2_20 n20
  refine e_Search_leastTurnedBehind (fun d => ?_)
  have L : ∀ q y k, 2 ^ n ≤ y + q → k ≤ y → y < 2 ^ n → x ≤ y → pre (bt n y) n → (∀ z, x < z → z ≤ y → ¬ isNk n z) → R_Search_leastTurnedBehind d K 4 [.ref 21, .null, .int (nI y), .int (nI k), .null, .null] [] σ := by
    intro q
    induction q with
    | zero => intro y k hq hk hy; omega
    | succ q ih =>
      intro y k hq hk hy hxy hpre hno
      refine l_Search_leastTurnedBehind_4 ?_
      rw [h3]
      refine pk_le (2 ^ n) k (fun z => absurd z (by omega)) (fun _ => s_lightsAtEnd h0 n20 hy (fun t ht t1 t0 => ?_))
      rw [h0, h3, pk_sub ht]
      refine pk_lt 0 (n - t) (fun hl => ?_) (fun hl => h (2 ^ n) (by omega) (Nat.le_refl _) (fun z => absurd z (Nat.lt_irrefl _)) (fun z z1 z2 => hno z z1 ?_))
      · have htn : t < n := by omega
        obtain ⟨s1, s2, s3, s4, s5⟩ := nx_step hy hpre htn t1 (t0 htn)
        obtain ⟨v1, v2⟩ := nx_begin hy htn (t0 htn)
        rw [q_shr t (by omega) (by omega), q_odd v1, v2]
        refine s_repeated h0 n20 (by omega) (by omega) ⟨nI_ne0 (by omega) (by omega), ?_⟩
        rw [h0, pk_rem (by omega) (by omega) (by omega), nI_add]
        have hmd : n % (n - t) ≤ n := Nat.mod_le _ _
        show am_ite (¬ nI (n % (n - t)) = nI 0) (R_Search_leastTurnedBehind d K 4 [.ref 21, .null, .int (nI (nxN n y t)), .int (nI (k + 1)), .null, .null] [] σ) (K (nI (nxN n y t)) σ)
        have gap : ∀ z, x < z → z < nxN n y t → ¬ isNk n z := fun z z1 z2 => by
          by_cases e : z ≤ y
          · exact hno z z1 e
          · exact s3 z (by omega) z2
        refine ⟨fun z => ?_, fun z => ?_⟩
        · obtain ⟨u1, u2⟩ := s5 (fun e => z (by rw [e]))
          refine ih (nxN n y t) (k + 1) (by omega) (by omega) s2 (by omega) u2 (fun v v1 v2 => ?_)
          by_cases e : v = nxN n y t
          · rw [e]; exact u1
          · exact gap v v1 (by omega)
        · have e : n % (n - t) = 0 := (nI_eq (by omega) (by omega)).mp (Classical.not_not.mp z)
          exact h _ (by omega) (by omega) (fun _ => s4 e) gap
      · have htn : t = n := by omega
        have : y = 2 ^ n - 1 := by
          refine Nat.eq_of_testBit_eq (fun i => ?_)
          rw [Nat.testBit_two_pow_sub_one]
          by_cases e : i < n
          · rw [t1 i (by omega), decide_eq_true e]
          · rw [decide_eq_false e, Nat.testBit_lt_two_pow (Nat.lt_of_lt_of_le hy (Nat.pow_le_pow_right (n := 2) (by decide) (by omega)))]
        omega
  refine L (2 ^ n) x 0 (by omega) (by omega) hx (Nat.le_refl _) (nk_pre (by rw [wo_bt hx]; exact hk)) (fun z z1 z2 => by omega)
/-- the word of a stand, on the disc that a number spells -/
def sgW (n r x s : Nat) : Nat := woA (fun j => bt n x ((s + j * (n / r)) % n)) r
theorem sgW_lt {n r x s : Nat} (h : r ≤ 5) : sgW n r x s < 32 := by
  have := woA_lt (fun j => bt n x ((s + j * (n / r)) % n)) r
  have h2 : 2 ^ r ≤ 2 ^ 5 := Nat.pow_le_pow_right (n := 2) (by decide) h
  unfold sgW
  omega
theorem s_lightOf {n x s : Nat} {σ : am_S} {K : Int32 → am_S → Prop} (h0 : σ.1 21 0 = nI n) (hn : n ≤ 20) (hx : x < 2 ^ n) (hs : s < n) (h : K (bI (bt n x s)) σ) : w_Search_lightOf (nI x) (nI s) σ K := by
  have hp := p2_20 hn
  unfold w_Search_lightOf
  rw [h0, pk_sub (show 1 ≤ n by omega), pk_sub (show s ≤ n - 1 by omega), q_tb (by omega) (by omega)]
  unfold bt at h
  cases hb : x.testBit (n - 1 - s) with
  | false => rw [hb] at h; exact am_ite_t rfl h
  | true => rw [hb] at h; exact am_ite_f (by decide) h
theorem s_sgWord {n r x s : Nat} {σ : am_S} {K : Int32 → am_S → Prop} (hq : sqN σ n r) (hx : x < 2 ^ n) (hs : s < n) (h : K (nI (sgW n r x s)) σ) : w_Search_wordOf (nI x) (nI s) σ K := by
  obtain ⟨h0, h1, h2, h3, n2, n20, r2, r5, _⟩ := hq
  refine e_Search_wordOf (fun d => ?_)
  have hsp : n / r ≤ n := Nat.div_le_self _ _
  have L : ∀ q j, j + q = r → R_Search_wordOf d K 8 [.ref 21, .int (nI x), .null, .int (nI (woA (fun j => bt n x ((s + j * (n / r)) % n)) j)), .int (nI ((s + j * (n / r)) % n)), .int (nI j)] [] σ := by
    intro q
    induction q with
    | zero =>
      intro j hj
      have : j = r := by omega
      subst this
      refine l_Search_wordOf_8 ?_
      rw [h1]
      exact pk_le j j (fun _ => h) (fun z => absurd z (by omega))
    | succ q ih =>
      intro j hj
      have hm : (s + j * (n / r)) % n < n := Nat.mod_lt _ (by omega)
      have lt := woA_lt (fun j => bt n x ((s + j * (n / r)) % n)) j
      have p2 : 2 ^ j ≤ 2 ^ 5 := Nat.pow_le_pow_right (n := 2) (by decide) (by omega)
      have nx := ih (j + 1) (by omega)
      have e2 : (s + (j + 1) * (n / r)) % n = ((s + j * (n / r)) % n + n / r) % n := by
        rw [Nat.mod_add_mod, Nat.add_mul, Nat.one_mul, Nat.add_assoc]
      rw [e2] at nx
      unfold woA at nx
      refine l_Search_wordOf_8 ?_
      rw [h1, nI_add j 1, q_shl 1 (by decide) (by omega)]
      refine pk_le r j (fun z => absurd z (by omega)) (fun _ => s_lightOf h0 n20 hx hm ?_)
      rw [h0, h2, nI_add _ (n / r)]
      have two : ∀ b : Bool, b = bt n x ((s + j * (n / r)) % n) → am_ite (nI ((s + j * (n / r)) % n + n / r) < nI n) (R_Search_wordOf d K 8 [.ref 21, .int (nI x), .null, .int (nI (woA (fun j => bt n x ((s + j * (n / r)) % n)) j * 2 ^ 1) ||| bI b), .int (nI ((s + j * (n / r)) % n + n / r)), .int (nI (j + 1))] [] σ) (R_Search_wordOf d K 8 [.ref 21, .int (nI x), .null, .int (nI (woA (fun j => bt n x ((s + j * (n / r)) % n)) j * 2 ^ 1) ||| bI b), .int (nI ((s + j * (n / r)) % n + n / r) - nI n), .int (nI (j + 1))] [] σ) := by
        intro b hb
        rw [q_or, q_bit2, hb]
        refine pk_lt _ n (fun z => ?_) (fun z => ?_)
        · rw [Nat.mod_eq_of_lt z] at nx
          exact nx
        · rw [pk_sub z]
          have e3 : ((s + j * (n / r)) % n + n / r) % n = (s + j * (n / r)) % n + n / r - n := by
            rw [Nat.mod_eq_sub_mod z, Nat.mod_eq_of_lt (by omega)]
          rw [e3] at nx
          exact nx
      cases hb : bt n x ((s + j * (n / r)) % n) with
      | false => exact am_ite_t rfl (two false hb.symm)
      | true => exact am_ite_f (by decide) (two true hb.symm)
  have := L r 0 (by omega)
  rw [Nat.zero_mul, Nat.add_zero, Nat.mod_eq_of_lt hs] at this
  exact this
/-! a set of words in one int -/
def hB (x : Int32) (w : Nat) : Bool := x.toBitVec.getLsbD w
theorem q_sm32 : ∀ w, w < 32 → (nI w &&& 31).toBitVec.smod 32 = BitVec.ofNat 32 w := by decide +kernel
theorem q_had {x : Int32} {w : Nat} (hw : w < 32) : (x >>> (nI w &&& 31)) &&& nI 1 = bI (hB x w) := by
  have e : (x >>> (nI w &&& 31)).toBitVec = x.toBitVec.sshiftRight w := by
    rw [Int32.toBitVec_shiftRight, q_sm32 w hw]
    show x.toBitVec.sshiftRight (BitVec.ofNat 32 w).toNat = _
    rw [BitVec.toNat_ofNat, Nat.mod_eq_of_lt (by omega)]
  apply Int32.toBitVec_inj.1
  rw [Int32.toBitVec_and, e]
  apply BitVec.eq_of_getLsbD_eq
  intro i hi
  rw [BitVec.getLsbD_and, BitVec.getLsbD_sshiftRight]
  unfold hB
  cases i with
  | zero =>
    have o : (nI 1).toBitVec.getLsbD 0 = true := by decide
    rw [o, Bool.and_true, if_pos (by omega), Nat.add_zero]
    cases x.toBitVec.getLsbD w <;> rfl
  | succ i =>
    have o : (nI 1).toBitVec.getLsbD (i + 1) = false := by
      show (1#32).getLsbD (i + 1) = false
      simp
    rw [o, Bool.and_false]
    cases x.toBitVec.getLsbD w
    · show false = (0#32).getLsbD (i + 1)
      simp
    · show false = (1#32).getLsbD (i + 1)
      simp
theorem q_b1 : ∀ w, w < 32 → (nI 1 <<< (nI w &&& 31)).toBitVec = BitVec.twoPow 32 w := by decide +kernel
theorem q_hor {x : Int32} {w v : Nat} (hw : w < 32) (hv : v < 32) : hB (x ||| (nI 1 <<< (nI w &&& 31))) v = if v = w then true else hB x v := by
  unfold hB
  rw [Int32.toBitVec_or, BitVec.getLsbD_or, q_b1 w hw, BitVec.getLsbD_twoPow]
  by_cases h : v = w
  · subst h; simp [hv]
  · rw [if_neg h]; simp [Ne.symm h]
def okS (n r x : Nat) : Prop := (∀ s, s + 1 < n → bc (nI (sgW n r x (s + 1) ^^^ sgW n r x s)) = nI 1) ∧ bc (nI (sgW n r x 0 ^^^ sgW n r x (n - 1))) = nI 1 ∧ ∀ a b, a < b → b < n → sgW n r x a ≠ sgW n r x b
theorem s_isSingle {n r x : Nat} {σ : am_S} {K : Int32 → am_S → Prop} (hq : sqN σ n r) (hx : x < 2 ^ n) (h : ∀ v : Bool, (v = true ↔ okS n r x) → K (bI v) σ) : w_Search_isSingle (nI x) σ K := by
  have hq' := hq
  obtain ⟨h0, h1, h2, h3, n2, n20, r2, r5, _⟩ := hq'
  have wl : ∀ s, sgW n r x s < 32 := fun s => sgW_lt r5
  have no : ¬ okS n r x → K (nI 0) σ := fun z => h false ⟨fun q => (by cases q), fun q => absurd q z⟩
  refine e_Search_isSingle (fun d => ?_)
  rw [h0, pk_sub (by omega)]
  refine s_sgWord hq hx (by omega) ?_
  have L : ∀ q s (had : Int32) (ah : Nat), s + q = n → ah < 32 → (s = 0 → ah = sgW n r x (n - 1)) → (∀ s', s = s' + 1 → ah = sgW n r x s') → (∀ v, v < 32 → (hB had v = true ↔ ∃ a, a < s ∧ sgW n r x a = v)) → (∀ s', s' + 1 < s → bc (nI (sgW n r x (s' + 1) ^^^ sgW n r x s')) = nI 1) → (0 < s → bc (nI (sgW n r x 0 ^^^ sgW n r x (n - 1))) = nI 1) → (∀ a b, a < b → b < s → sgW n r x a ≠ sgW n r x b) → R_Search_isSingle d K 17 [.ref 21, .int (nI x), .int had, .int (nI ah), .int (nI s), .null] [] σ := by
    intro q
    induction q with
    | zero =>
      intro s had ah hs hah ha0 has hh g1 g2 g3
      have : s = n := by omega
      subst this
      refine l_Search_isSingle_17 ?_
      rw [h0]
      exact pk_le s s (fun _ => h true ⟨fun _ => ⟨g1, g2 (by omega), g3⟩, fun _ => rfl⟩) (fun z => absurd z (by omega))
    | succ q ih =>
      intro s had ah hs hah ha0 has hh g1 g2 g3
      have ws := wl s
      refine l_Search_isSingle_17 ?_
      rw [h0, nI_add s 1]
      refine pk_le n s (fun z => absurd z (by omega)) (fun _ => s_sgWord hq hx (by omega) ?_)
      rw [q_had ws]
      cases hb : hB had (sgW n r x s) with
      | true =>
        refine am_ite_t (by decide) (no (fun z => ?_))
        obtain ⟨a, a1, a2⟩ := (hh _ ws).mp hb
        exact z.2.2 a s a1 (by omega) a2
      | false =>
        refine am_ite_f (fun z => z rfl) (s_bitCount ?_)
        rw [q_xor]
        refine ⟨fun z => ?_, fun z => no (fun y => z ?_)⟩
        · refine ih (s + 1) _ (sgW n r x s) (by omega) ws (fun y => by omega) (fun s' e => by rw [show s' = s by omega]) (fun v hv => ?_) (fun s' hs' => ?_) (fun _ => ?_) (fun a b hab hb' => ?_)
          · rw [q_hor ws hv]
            by_cases e : v = sgW n r x s
            · rw [if_pos e]
              exact ⟨fun _ => ⟨s, by omega, e.symm⟩, fun _ => rfl⟩
            · rw [if_neg e, hh v hv]
              constructor
              · rintro ⟨a, a1, a2⟩
                exact ⟨a, by omega, a2⟩
              · rintro ⟨a, a1, a2⟩
                have : a ≠ s := fun y => e (by rw [← a2, y])
                exact ⟨a, by omega, a2⟩
          · by_cases e : s' + 1 = s
            · rw [← has s' e.symm, e]
              exact z
            · exact g1 s' (by omega)
          · by_cases e : s = 0
            · rw [← ha0 e]
              rw [e] at z
              exact z
            · exact g2 (by omega)
          · by_cases e : b = s
            · intro y
              rw [e] at y
              have := (hh _ ws).mpr ⟨a, by omega, y⟩
              rw [hb] at this
              exact absurd this (by decide)
            · exact g3 a b hab (by omega)
        · by_cases e : s = 0
          · rw [ha0 e, e]
            exact y.2.1
          · have := y.1 (s - 1) (by omega)
            rw [show s - 1 + 1 = s by omega] at this
            rw [has (s - 1) (by omega)]
            exact this
  exact L n 0 (nI 0) _ (by omega) (wl _) (fun _ => rfl) (fun s' e => by omega) (fun v hv => ⟨fun z => by
    have : hB (nI 0) v = false := by
      show (0#32).getLsbD v = false
      simp
    rw [this] at z
    exact absurd z (by decide), fun ⟨a, a1, _⟩ => absurd a1 (Nat.not_lt_zero a)⟩) (fun s' hs' => by omega) (fun z => by omega) (fun a b _ hb => by omega)
