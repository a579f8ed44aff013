/-! THE SEARCH: the class goes on, and lays what it found -/
def fnd (n r x : Nat) : Prop := okS n r x ∧ isNk n x
theorem s_advance {n r a q st : Nat} {σ : am_S} {K : Int32 → am_S → Prop} (hq : cQs σ (some (n, r, a), q)) (hst : st ≤ 2000000) (hqs : q + st ≤ 4000000) (h1 : ∀ x τ, a ≤ x → x < a + st → x < 2 ^ n → fnd n r x → (∀ y, a ≤ y → y < x → ¬ fnd n r y) → cQs τ (some (n, r, x + 1), q + st) → τ.1 21 6 = nI x → am_eq (fun k => k = 21) σ τ → K (nI 1) τ) (h2 : ∀ τ, a + st < 2 ^ n → (∀ y, a ≤ y → y < a + st → ¬ fnd n r y) → cQs τ (some (n, r, a + st), q + st) → am_eq (fun k => k = 21) σ τ → K (-2) τ) (h3 : ∀ τ, 2 ^ n ≤ a + st → (∀ y, a ≤ y → y < 2 ^ n → ¬ fnd n r y) → cQs τ (none, q + st) → am_eq (fun k => k = 21) σ τ → K (nI 0) τ) : w_Search_advance (nI st) σ K := by
  obtain ⟨g7, _, g8, g0, g1, g2, g3, g4, ⟨b1, b2, b3, b4, b5, b6⟩, c, g5, c1, c2, c3, c4⟩ := hq
  have hp := p2_20 b2
  refine e_Search_advance (fun d => ?_)
  rw [g4, g3, g7, nI_add a st, nI_add q st]
  have go : ∀ stop, stop ≤ a + st → stop ≤ 2 ^ n → (stop = a + st ∨ stop = 2 ^ n) → R_Search_advance d K 26 [.ref 21, .int (nI st), .int (nI stop), .int (nI 0), .null] [] (am_upI σ 21 7 (nI (q + st))) := by
    intro stop s1 s2 s3
    have L : ∀ f k c (τ : am_S), k + f = st → am_eq (fun k => k = 21) σ τ → sqN τ n r → τ.1 21 8 = nI 1 → τ.1 21 7 = nI (q + st) → τ.1 21 4 = nI a → τ.1 21 5 = nI c → c ≤ 2 ^ n → a + k ≤ c → (c < 2 ^ n → isNk n c) → (∀ y, a ≤ y → y < c → ¬ fnd n r y) → (∀ y, a ≤ y → stop ≤ y → y < c → ¬ isNk n y) → R_Search_advance d K 26 [.ref 21, .int (nI st), .int (nI stop), .int (nI k), .null] [] τ := by
      intro f
      have fin : ∀ c (τ : am_S), stop ≤ c → am_eq (fun k => k = 21) σ τ → sqN τ n r → τ.1 21 7 = nI (q + st) → τ.1 21 5 = nI c → c ≤ 2 ^ n → a ≤ c → (c < 2 ^ n → isNk n c) → (∀ y, a ≤ y → y < c → ¬ fnd n r y) → (∀ y, a ≤ y → stop ≤ y → y < c → ¬ isNk n y) → am_ite ((τ.1 21 3) ≤ nI stop) (K (nI 0) (am_upI (am_upI τ 21 4 (nI stop)) 21 8 (nI 0))) (K (-2) (am_upI (am_upI τ 21 4 (nI stop)) 21 8 (nI 1))) := by
        intro c τ hsc he hsq e7 e5 hc hac hnk hno hnn
        obtain ⟨q0, q1, q2, q3, _⟩ := hsq
        rw [q3]
        refine pk_le (2 ^ n) stop (fun z => ?_) (fun z => ?_)
        · refine h3 _ (by omega) (fun y y1 y2 => hno y y1 (by omega)) ⟨?_, hqs, u_Is _ _ _ _⟩ ((he.tr (am_eq.upI rfl)).tr (am_eq.upI rfl))
          rw [u_In _ _ (by decide), u_In _ _ (by decide)]
          exact e7
        · have es : stop = a + st := by omega
          subst es
          refine h2 _ z (fun y y1 y2 => hno y y1 (by omega)) ⟨?_, hqs, u_Is _ _ _ _, ?_, ?_, ?_, ?_, ?_, ⟨b1, b2, b3, b4, b5, by omega⟩, c, ?_, hc, hsc, hnk, fun y y1 y2 => hnn y (by omega) y1 y2⟩ ((he.tr (am_eq.upI rfl)).tr (am_eq.upI rfl))
          · rw [u_In _ _ (by decide), u_In _ _ (by decide)]; exact e7
          · rw [u_In _ _ (by decide), u_In _ _ (by decide)]; exact q0
          · rw [u_In _ _ (by decide), u_In _ _ (by decide)]; exact q1
          · rw [u_In _ _ (by decide), u_In _ _ (by decide)]; exact q2
          · rw [u_In _ _ (by decide), u_In _ _ (by decide)]; exact q3
          · rw [u_In _ _ (by decide), u_Is]
          · rw [u_In _ _ (by decide), u_In _ _ (by decide)]; exact e5
      induction f with
      | zero =>
        intro k c τ hk he hsq e8 e7 e4 e5 hc hac hnk hno hnn
        exact l_Search_advance_26 (pk_le st k (fun _ => fin c τ (by omega) he hsq e7 e5 hc (by omega) hnk hno hnn) (fun z => absurd z (by omega)))
      | succ f ih =>
        intro k c τ hk he hsq e8 e7 e4 e5 hc hac hnk hno hnn
        refine l_Search_advance_26 (pk_le st k (fun z => absurd z (by omega)) (fun _ => ?_))
        rw [e5, nI_add c 1, nI_add k 1]
        refine pk_le stop c (fun z => fin c τ z he hsq e7 e5 hc (by omega) hnk hno hnn) (fun z => ?_)
        have hc2 : c < 2 ^ n := by omega
        refine s_least hsq hc2 (hnk hc2) (fun c' l1 l2 l3 l4 => ?_)
        obtain ⟨q0, q1, q2, q3, qr⟩ := hsq
        have hsq2 : sqN (am_upI τ 21 5 (nI c')) n r := ⟨by rw [u_In _ _ (by decide)]; exact q0, by rw [u_In _ _ (by decide)]; exact q1, by rw [u_In _ _ (by decide)]; exact q2, by rw [u_In _ _ (by decide)]; exact q3, qr⟩
        refine s_isSingle hsq2 hc2 (fun v hv => ?_)
        have he2 : am_eq (fun k => k = 21) σ (am_upI τ 21 5 (nI c')) := he.tr (am_eq.upI rfl)
        cases v with
        | false =>
          refine am_ite_t rfl (ih (k + 1) c' _ (by omega) he2 hsq2 ?_ ?_ ?_ (u_Is _ _ _ _) l2 (by omega) l3 (fun y y1 y2 => ?_) (fun y y1 y2 y3 => ?_))
          · rw [u_In _ _ (by decide)]; exact e8
          · rw [u_In _ _ (by decide)]; exact e7
          · rw [u_In _ _ (by decide)]; exact e4
          · by_cases e : y < c
            · exact hno y y1 e
            · by_cases e' : y = c
              · intro w
                rw [e'] at w
                exact absurd (hv.mpr w.1) (by decide)
              · intro w
                exact l4 y (by omega) y2 w.2
          · exact l4 y (by omega) y3
        | true =>
          have ok := hv.mp rfl
          refine am_ite_f (by decide) (h1 c _ (by omega) (by omega) hc2 ⟨ok, hnk hc2⟩ hno ⟨?_, hqs, ?_, ?_, ?_, ?_, ?_, u_Is _ _ _ _, ⟨b1, b2, b3, b4, b5, by omega⟩, c', ?_, l2, by omega, l3, fun y y1 y2 => l4 y (by omega) y2⟩ ?_ ((he2.tr (am_eq.upI rfl)).tr (am_eq.upI rfl)))
          · rw [u_In _ _ (by decide), u_In _ _ (by decide), u_In _ _ (by decide)]; exact e7
          · rw [u_In _ _ (by decide), u_In _ _ (by decide), u_In _ _ (by decide)]; exact e8
          · rw [u_In _ _ (by decide), u_In _ _ (by decide), u_In _ _ (by decide)]; exact q0
          · rw [u_In _ _ (by decide), u_In _ _ (by decide), u_In _ _ (by decide)]; exact q1
          · rw [u_In _ _ (by decide), u_In _ _ (by decide), u_In _ _ (by decide)]; exact q2
          · rw [u_In _ _ (by decide), u_In _ _ (by decide), u_In _ _ (by decide)]; exact q3
          · rw [u_In _ _ (by decide), u_In _ _ (by decide), u_Is]
          · rw [u_In _ _ (by decide), u_Is]
    have e : ∀ i, i ≠ 7 → (am_upI σ 21 7 (nI (q + st))).1 21 i = σ.1 21 i := fun i hi => u_In _ _ (Or.inr hi)
    refine L st 0 c _ (by omega) (am_eq.upI rfl) ⟨?_, ?_, ?_, ?_, b1, b2, b3, b4, b5⟩ ?_ (u_Is _ _ _ _) ?_ ?_ c1 (by omega) c3 (fun y y1 y2 w => c4 y y1 y2 w.2) (fun y y1 _ y2 => c4 y y1 y2)
    · rw [e 0 (by decide)]; exact g0
    · rw [e 1 (by decide)]; exact g1
    · rw [e 2 (by decide)]; exact g2
    · rw [e 3 (by decide)]; exact g3
    · rw [e 8 (by decide)]; exact g8
    · rw [e 4 (by decide)]; exact g4
    · rw [e 5 (by decide)]; exact g5
  refine pk_lt (2 ^ n) (a + st) (fun z => go (2 ^ n) (by omega) (Nat.le_refl _) (Or.inr rfl)) (fun z => go (a + st) (Nat.le_refl _) z (Or.inl rfl))
/-- the disc that a number spells: s lights, j readers -/
def dSg (n r x s j : Nat) : sp_D := (n, 1, j, fun t y => if t = 0 ∧ y < s then bt n x y else false, fun _ => 0, fun k => k * (n / r))
theorem sp_lt {n r k : Nat} (hn : 2 ≤ n) (hr : 2 ≤ r) (hd : n % r = 0) (hk : k < r) : k * (n / r) < n := by
  have h1 : n / r * r = n := Nat.div_mul_cancel (Nat.dvd_of_mod_eq_zero hd)
  have h2 : 0 < n / r := Nat.pos_of_ne_zero (fun z => by rw [z, Nat.zero_mul] at h1; omega)
  have h3 : k * (n / r) < r * (n / r) := Nat.mul_lt_mul_of_pos_right hk h2
  rw [Nat.mul_comm r] at h3
  omega
theorem dSg_ok {n r x : Nat} (hn : 2 ≤ n) (hn2 : n ≤ 20) (hr : 2 ≤ r) (hr2 : r ≤ 5) (hd : n % r = 0) : d_ok (dSg n r x n r) := ⟨by show 1 ≤ n; omega, by show n ≤ 512; omega, by show 1 ≤ 10; decide, by show r ≤ 10; omega, fun k hk => ⟨by show 0 < 1; decide, sp_lt hn hr hd hk⟩, fun t s hts => by
  show (if t = 0 ∧ s < n then bt n x s else false) = false
  have hts2 : 1 ≤ t ∨ n ≤ s := hts
  rw [if_neg (by omega)]⟩
theorem s_layFound {n r x : Nat} {σ : am_S} {K : am_S → Prop} (hq : sqN σ n r) (h6 : σ.1 21 6 = nI x) (hx : x < 2 ^ n) (h : ∀ τ, cD τ 3 (dSg n r x n r) → am_eq (fun k => 3 ≤ k ∧ k ≤ 6) σ τ → K τ) : w_Search_layFound σ K := by
  obtain ⟨h0, h1, h2, h3, n2, n20, r2, r5, hd⟩ := hq
  refine e_Search_layFound (fun d => ?_)
  rw [h0]
  -- the readers
  have Rd : ∀ q j (τ : am_S), j + q = r → am_eq (fun k => 3 ≤ k ∧ k ≤ 6) σ τ → cD τ 3 (dSg n r x n j) → R_Search_layFound d K 46 [.ref 21, .ref 3, .int (nI j)] [] τ := by
    intro q
    induction q with
    | zero =>
      intro j τ hj he hD
      have : j = r := by omega
      subst this
      refine l_Search_layFound_46 ?_
      rw [(he 21 (by omega)).1, h1]
      exact pk_le j j (fun _ => h τ hD he) (fun z => absurd z (by omega))
    | succ q ih =>
      intro j τ hj he hD
      refine l_Search_layFound_46 ?_
      rw [(he 21 (by omega)).1, h1, h2, pk_mul, nI_add]
      refine pk_le r j (fun z => absurd z (by omega)) (fun _ => s_addReader hD (show j < 10 by omega) (fun τ3 hD3 e3 => ?_))
      refine ih (j + 1) τ3 (by omega) (he.tr (e3.mono (fun k hk => by omega))) ⟨hD3.1, hD3.2.1, hD3.2.2.1, fun t ht => ?_, hD3.2.2.2.2⟩
      have q := hD3.2.2.2.1 t ht
      have a1 : (if t = j then 0 else 0) = 0 := by split <;> rfl
      have a2 : (if t = j then j * (n / r) else t * (n / r)) = t * (n / r) := by
        by_cases e : t = j
        · rw [if_pos e, e]
        · rw [if_neg e]
      exact ⟨q.1.trans (congrArg nI a1), q.2.trans (congrArg nI a2)⟩
  -- the lights
  have Li : ∀ q s (τ : am_S), s + q = n → am_eq (fun k => 3 ≤ k ∧ k ≤ 6) σ τ → cD τ 3 (dSg n r x s 0) → R_Search_layFound d K 15 [.ref 21, .ref 3, .int (nI s)] [] τ := by
    intro q
    induction q with
    | zero =>
      intro s τ hs he hD
      have : s = n := by omega
      subst this
      refine l_Search_layFound_15 ?_
      rw [(he 21 (by omega)).1, h0]
      exact pk_le s s (fun _ => Rd r 0 τ (by omega) he hD) (fun z => absurd z (by omega))
    | succ q ih =>
      intro s τ hs he hD
      refine l_Search_layFound_15 ?_
      rw [(he 21 (by omega)).1, h0, h6, nI_add]
      refine pk_le n s (fun z => absurd z (by omega)) (fun _ => s_lightOf (by rw [(he 21 (by omega)).1]; exact h0) n20 hx (by omega) (s_setLight (by decide) (by omega) ?_))
      refine ih (s + 1) _ (by omega) (he.tr (sl_eq (by decide))) ⟨hD.1, hD.2.1, hD.2.2.1, hD.2.2.2.1, fun t' s' ht' hs' => ?_⟩
      rw [sl_lit (by omega) hs', hD.2.2.2.2 t' s' ht' hs']
      show (if t' = 0 ∧ s' = s then bt n x s else if t' = 0 ∧ s' < s then bt n x s' else false) = if t' = 0 ∧ s' < s + 1 then bt n x s' else false
      by_cases e : t' = 0 ∧ s' = s
      · rw [if_pos e, if_pos (by omega), e.2]
      · rw [if_neg e]
        by_cases e2 : t' = 0 ∧ s' < s
        · rw [if_pos e2, if_pos (by omega)]
        · rw [if_neg e2, if_neg (by omega)]
  refine s_empty (fun τ hD e1 => s_addDarkTrack hD (show 0 < 10 by decide) (fun τ2 hD2 e2 => ?_))
  refine Li n 0 τ2 (by omega) ((e1.mono (fun k hk => by omega)).tr (e2.mono (fun k hk => by omega))) ⟨hD2.1, hD2.2.1, hD2.2.2.1, fun t ht => absurd ht (Nat.not_lt_zero t), fun t' s' ht' hs' => ?_⟩
  rw [hD2.2.2.2.2 t' s' ht' hs']
  show false = if t' = 0 ∧ s' < 0 then bt n x s' else false
  rw [if_neg (by omega)]
/-! THE SEARCH: the reference -/
theorem m_bitOf {n x s : Nat} {σ : am_S} {K : Int32 → am_S → Prop} (h0 : σ.1 153 14 = nI n) (hn : n ≤ 20) (hx : x < 2 ^ n) (hs : s < n) (h : K (bI (bt n x s)) σ) : w_Mod_bitOf (nI x) (nI s) σ K := by
  have hp := p2_20 hn
  unfold w_Mod_bitOf
  rw [h0, pk_sub (show 1 ≤ n by omega), pk_sub (show s ≤ n - 1 by omega), q_tb (by omega) (by omega)]
  unfold bt at h
  cases hb : x.testBit (n - 1 - s) with
  | false => rw [hb] at h; exact am_ite_t (by decide) h
  | true => rw [hb] at h; exact am_ite_f (fun z => z rfl) h
theorem m_searchWord {n r x s : Nat} {σ : am_S} {K : Int32 → am_S → Prop} (h0 : σ.1 153 14 = nI n) (h1 : σ.1 153 15 = nI r) (hn : 2 ≤ n) (hn2 : n ≤ 20) (hr : 2 ≤ r) (hr2 : r ≤ 5) (hx : x < 2 ^ n) (hs : s < n) (h : K (nI (sgW n r x s)) σ) : w_Mod_searchWord (nI x) (nI s) σ K := by
  refine e_Mod_searchWord (fun d => ?_)
  have hsp : n / r ≤ n := Nat.div_le_self _ _
  have L : ∀ q j, j + q = r → R_Mod_searchWord d K 5 [.ref 153, .int (nI x), .int (nI s), .int (nI (woA (fun j => bt n x ((s + j * (n / r)) % n)) j)), .int (nI j)] [] σ := by
    intro q
    induction q with
    | zero =>
      intro j hj
      have : j = r := by omega
      subst this
      refine l_Mod_searchWord_5 ?_
      rw [h1]
      exact pk_le j j (fun _ => h) (fun z => absurd z (by omega))
    | succ q ih =>
      intro j hj
      have nx := ih (j + 1) (by omega)
      have hjm : j * (n / r) ≤ 5 * 20 := Nat.mul_le_mul (by omega) (by omega)
      refine l_Mod_searchWord_5 ?_
      rw [h1, h0, pk_div (by omega) (by omega) (by omega), pk_mul, nI_add s, pk_rem (by omega) (by omega) (by omega), nI_add j 1]
      refine pk_le r j (fun z => absurd z (by omega)) (fun _ => ⟨nI_ne0 (by omega) (by omega), nI_ne0 (by omega) (by omega), m_bitOf h0 hn2 hx (Nat.mod_lt _ (by omega)) ?_⟩)
      rw [pk_mul, nI_add _ 0, nI_add _ 1]
      unfold woA at nx
      cases hb : bt n x ((s + j * (n / r)) % n) with
      | false => rw [hb] at nx; exact am_ite_t rfl nx
      | true => rw [hb] at nx; exact am_ite_f (by decide) nx
  exact L r 0 (by omega)
theorem q_shlw {s k : Nat} (hk : k < 32) : nI s <<< (nI k &&& 31) = nI (s * 2 ^ k) := by
  apply Int32.toBitVec_inj.1
  rw [Int32.toBitVec_shiftLeft, q_sm32 k hk]
  apply BitVec.eq_of_toNat_eq
  show ((BitVec.ofNat 32 s) <<< (BitVec.ofNat 32 k).toNat).toNat = (BitVec.ofNat 32 (s * 2 ^ k)).toNat
  rw [BitVec.toNat_shiftLeft, BitVec.toNat_ofNat, BitVec.toNat_ofNat, BitVec.toNat_ofNat, Nat.shiftLeft_eq, Nat.mod_eq_of_lt (show k < 2 ^ 32 by omega), Nat.mod_mul_mod]
theorem q_turned {n x k : Nat} (hn : n ≤ 20) (hx : x < 2 ^ n) (hk0 : 1 ≤ k) (hk : k < n) : ((nI x <<< (nI k &&& 31)) ||| (nI x >>> (nI (n - k) &&& 31))) &&& nI (2 ^ n - 1) = nI (x * 2 ^ k % 2 ^ n + x / 2 ^ (n - k)) := by
  have hp := p2_20 hn
  rw [q_shlw (by omega), q_shr (n - k) (by omega) (by omega), q_or, q_mask]
  have hB : x / 2 ^ (n - k) < 2 ^ k := Nat.div_lt_of_lt_mul (by rw [← Nat.pow_add, show n - k + k = n by omega]; exact hx)
  have e1 : x * 2 ^ k ||| x / 2 ^ (n - k) = x * 2 ^ k + x / 2 ^ (n - k) := by
    rw [Nat.mul_comm x, Nat.two_pow_add_eq_or_of_lt hB]
  have rt := woA_rot (β := bt n x) hk
  rw [wo_bt hx] at rt
  have lt := woA_lt (fun i => bt n x ((i + k) % n)) n
  have hBn : x / 2 ^ (n - k) ≤ x := Nat.div_le_self _ _
  rw [e1, Nat.add_mod, Nat.mod_eq_of_lt (show x / 2 ^ (n - k) < 2 ^ n by omega), Nat.mod_eq_of_lt (by omega)]
theorem m_isFound {n r x : Nat} {σ : am_S} {K : Int32 → am_S → Prop} (h0 : σ.1 153 14 = nI n) (h1 : σ.1 153 15 = nI r) (hn : 2 ≤ n) (hn2 : n ≤ 20) (hr : 2 ≤ r) (hr2 : r ≤ 5) (hx : x < 2 ^ n) (h : ∀ (v : Bool) τ, (v = true ↔ fnd n r x) → am_eq (fun k => k = 161) σ τ → K (bI v) τ) : w_Mod_isFound (nI x) σ K := by
  have hp := p2_20 hn2
  have wl : ∀ s, sgW n r x s < 32 := fun s => sgW_lt hr2
  have no : ∀ τ, ¬ fnd n r x → am_eq (fun k => k = 161) σ τ → K (nI 0) τ := fun τ z he => h false τ ⟨fun q => (by cases q), fun q => absurd q z⟩ he
  refine e_Mod_isFound (fun d => ?_)
  rw [h0]
  -- turned
  have T : ∀ q k (τ : am_S), k + q = n → 1 ≤ k → am_eq (fun k => k = 161) σ τ → okS n r x → (∀ j, j < k → x ≤ x * 2 ^ j % 2 ^ n + x / 2 ^ (n - j)) → R_Mod_isFound d K 132 [.null, .int (nI x), .int (nI n), .int (nI k), .null] [] τ := by
    intro q
    induction q with
    | zero =>
      intro k τ hk hk1 he ok hj
      have : k = n := by omega
      subst this
      exact l_Mod_isFound_132 (pk_le k k (fun _ => h true τ ⟨fun _ => ⟨ok, hj⟩, fun _ => rfl⟩ he) (fun z => absurd z (by omega)))
    | succ q ih =>
      intro k τ hk hk1 he ok hj
      refine l_Mod_isFound_132 (pk_le n k (fun z => absurd z (by omega)) (fun _ => ?_))
      have rt := woA_rot (β := bt n x) (show k < n by omega)
      rw [wo_bt hx] at rt
      have lt := woA_lt (fun i => bt n x ((i + k) % n)) n
      rw [q_1shl n (by omega), pk_sub (show 1 ≤ 2 ^ n by omega), pk_sub (show k ≤ n by omega), q_turned hn2 hx hk1 (by omega), nI_add]
      refine pk_le x _ (fun z => ih (k + 1) τ (by omega) (by omega) he ok (fun j hj' => ?_)) (fun z => no τ (fun y => ?_) he)
      · by_cases e : j = k
        · rw [e]; exact z
        · exact hj j (by omega)
      · have := y.2 k (by omega)
        omega
  -- no two alike
  have U : ∀ (τ : am_S), am_eq (fun k => k = 161) σ τ → (∀ s, s < n → τ.1 161 s = nI (sgW n r x s)) → (∀ s, s + 1 < n → bc (nI (sgW n r x (s + 1) ^^^ sgW n r x s)) = nI 1) → bc (nI (sgW n r x 0 ^^^ sgW n r x (n - 1))) = nI 1 → ∀ q a, a + q = n → (∀ a' b, a' < a → a' < b → b < n → sgW n r x a' ≠ sgW n r x b) → R_Mod_isFound d K 84 [.ref 153, .int (nI x), .int (nI n), .int (nI a), .null] [] τ := by
    intro τ he hw g1 g2 q
    induction q with
    | zero =>
      intro a ha hu
      have : a = n := by omega
      subst this
      refine l_Mod_isFound_84 (pk_le a a (fun _ => T (a - 1) 1 τ (by omega) (Nat.le_refl _) he ⟨g1, g2, fun a' b hab hb => hu a' b (by omega) hab hb⟩ (fun j hj => ?_)) (fun z => absurd z (by omega)))
      rw [show j = 0 by omega, Nat.pow_zero, Nat.mul_one, Nat.mod_eq_of_lt hx]
      exact Nat.le_add_right _ _
    | succ q ih =>
      intro a ha hu
      refine l_Mod_isFound_84 (pk_le n a (fun z => absurd z (by omega)) (fun _ => ?_))
      rw [nI_add]
      have V : ∀ q2 b, b + q2 = n → a < b → (∀ b', a < b' → b' < b → sgW n r x a ≠ sgW n r x b') → R_Mod_isFound d K 94 [.ref 153, .int (nI x), .int (nI n), .int (nI a), .int (nI b)] [] τ := by
        intro q2
        induction q2 with
        | zero =>
          intro b hb hab hu2
          refine l_Mod_isFound_94 (pk_le n b (fun _ => ?_) (fun z => absurd z (by omega)))
          rw [nI_add]
          refine ih (a + 1) (by omega) (fun a' b' h1 h2 h3 => ?_)
          by_cases e : a' = a
          · rw [e]; exact hu2 b' (by omega) (by omega)
          · exact hu a' b' (by omega) h2 h3
        | succ q2 ih2 =>
          intro b hb hab hu2
          refine l_Mod_isFound_94 (pk_le n b (fun z => absurd z (by omega)) (fun _ => ⟨pk_in a 512 (by omega), pk_in b 512 (by omega), ?_⟩))
          rw [nI_clamp (show a < 2 ^ 31 by omega), nI_clamp (show b < 2 ^ 31 by omega), hw a (by omega), hw b (by omega), nI_add]
          refine ⟨fun z => ih2 (b + 1) (by omega) (by omega) (fun b' h1 h2 => ?_), fun z => no τ (fun y => ?_) he⟩
          · by_cases e : b' = b
            · rw [e]; intro y; exact z (by rw [y])
            · exact hu2 b' h1 (by omega)
          · have e := (nI_eq (by have := wl a; omega) (by have := wl b; omega)).mp (Classical.not_not.mp z)
            exact y.1.2.2 a b hab (by omega) e
      exact V (n - (a + 1)) (a + 1) (by omega) (by omega) (fun b' h1 h2 => by omega)
  -- the words
  have L : ∀ q s (τ : am_S), s + q = n → am_eq (fun k => k = 161) σ τ → (∀ s', s' < s → τ.1 161 s' = nI (sgW n r x s')) → (∀ s', s' + 1 < s → bc (nI (sgW n r x (s' + 1) ^^^ sgW n r x s')) = nI 1) → R_Mod_isFound d K 7 [.ref 153, .int (nI x), .int (nI n), .int (nI s), .null] [] τ := by
    intro q
    induction q with
    | zero =>
      intro s τ hs he hw g1
      have : s = n := by omega
      subst this
      refine l_Mod_isFound_7 (pk_le s s (fun _ => ?_) (fun z => absurd z (by omega)))
      rw [pk_sub (by omega), nI_clamp (by omega), hw 0 (by omega), hw (s - 1) (by omega), q_xor]
      refine ⟨pk_in (s - 1) 512 (by omega), s_bitCount ⟨fun z => U τ he hw g1 z s 0 (by omega) (fun a' b h1 => by omega), fun z => no τ (fun y => z y.1.2.1) he⟩⟩
    | succ q ih =>
      intro s τ hs he hw g1
      have e14 : τ.1 153 14 = nI n := by rw [(he 153 (by decide)).1]; exact h0
      have e15 : τ.1 153 15 = nI r := by rw [(he 153 (by decide)).1]; exact h1
      refine l_Mod_isFound_7 (pk_le n s (fun z => absurd z (by omega)) (fun _ => m_searchWord e14 e15 hn hn2 hr hr2 hx (by omega) ⟨pk_in s 512 (by omega), ?_⟩))
      rw [nI_clamp (show s < 2 ^ 31 by omega), nI_add]
      have he2 : am_eq (fun k => k = 161) σ (am_upI τ 161 s (nI (sgW n r x s))) := he.tr (am_eq.upI rfl)
      have hw2 : ∀ s', s' < s + 1 → (am_upI τ 161 s (nI (sgW n r x s))).1 161 s' = nI (sgW n r x s') := fun s' hs' => by
        by_cases e : s' = s
        · rw [e, u_Is]
        · rw [u_In _ _ (by omega)]; exact hw s' (by omega)
      refine pk_le s 0 (fun z => ih (s + 1) _ (by omega) he2 hw2 (fun s' hs' => by omega)) (fun z => ⟨pk_in s 512 (by omega), ?_⟩)
      rw [pk_sub (show 1 ≤ s by omega), nI_clamp (show s - 1 < 2 ^ 31 by omega), hw2 s (by omega), hw2 (s - 1) (by omega), q_xor]
      refine ⟨pk_in (s - 1) 512 (by omega), s_bitCount ⟨fun y => ih (s + 1) _ (by omega) he2 hw2 (fun s' hs' => ?_), fun y => no _ (fun w => y ?_) he2⟩⟩
      · by_cases e : s' + 1 = s
        · rw [e, show s' = s - 1 by omega]; exact y
        · exact g1 s' (by omega)
      · have := w.1.1 (s - 1) (by omega)
        rw [show s - 1 + 1 = s by omega] at this
        exact this
  exact L n 0 σ (by omega) am_eq.rf (fun s' hs' => by omega) (fun s' hs' => by omega)
