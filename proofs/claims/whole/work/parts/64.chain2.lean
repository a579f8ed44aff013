/-! CHAINS: the class makes them -/
theorem s_has30 {w : Nat} {σ : am_S} {K : Int32 → am_S → Prop} (hw : w < 1024) (h : K (bI (mk σ 31 w)) σ) : w_Marks_has_30 (nI w) σ K := by
  unfold w_Marks_has_30
  refine s_isSet (by omega) (by omega) (by decide) ⟨bI_01 _, ?_⟩
  rw [Nat.zero_add]
  exact h
theorem s_add30 {w : Nat} {σ : am_S} {K : am_S → Prop} (hw : w < 1024) (h : ∀ τ, (∀ w', w' < 1024 → mk τ 31 w' = if w' = w then true else mk σ 31 w') → am_eq (fun k => k = 31) σ τ → K τ) : w_Marks_add_30 (nI w) σ K := by
  unfold w_Marks_add_30
  rw [q_shr 6 (by decide) (show w < 2 ^ 31 by omega), q_and63 (show w < 2 ^ 31 by omega), show 2 ^ 6 = 64 from rfl, nI_clamp (by omega)]
  refine ⟨pk_in (w / 64) 16 (by omega), pk_in (w / 64) 16 (by omega), h _ (fun w' hw' => ?_) (am_eq.upJ rfl)⟩
  unfold mk
  rw [u_J]
  by_cases e : w' / 64 = w / 64
  · rw [if_pos ⟨rfl, e⟩, lbit_or (Nat.mod_lt _ (by decide)) (Nat.mod_lt _ (by decide)), e]
    by_cases e2 : w' % 64 = w % 64
    · rw [if_pos e2, if_pos (by omega)]
    · rw [if_neg e2, if_neg (by omega)]
  · rw [if_neg (fun z => e z.2), if_neg (by omega)]
theorem s_wipe30 {σ : am_S} {K : am_S → Prop} (h : ∀ τ, (∀ w, w < 1024 → mk τ 31 w = false) → am_eq (fun k => k = 31) σ τ → K τ) : w_Marks_wipe_30 σ K := by
  unfold w_Marks_wipe_30
  refine s_fillJ ce_31 (by decide) (h _ (fun w hw => ?_) (fJ_eq rfl))
  unfold mk fJ
  dsimp only
  rw [if_pos ⟨rfl, by omega⟩, lbit_0]
theorem q_mask (a r : Nat) : nI a &&& nI (2 ^ r - 1) = nI (a % 2 ^ r) := by rw [q_and, Nat.and_two_pow_sub_one_eq_mod]
theorem q_low : ∀ r, r < 10 → ∀ s, s < r → ((nI s - nI r) + nI 1) &&& nI (2 ^ r - 1) = nI ((s + 2 ^ r + 1 - r) % 2 ^ r) := by decide +kernel
theorem q_back {r s : Nat} (hr : r < 10) (hp : r < 2 ^ r) : ((nI s - nI r) + nI 1) &&& nI (2 ^ r - 1) = nI ((s + 2 ^ r + 1 - r) % 2 ^ r) := by
  by_cases h : s < r
  · exact q_low r hr s h
  · rw [pk_sub (by omega), nI_add, q_mask, show s + 2 ^ r + 1 - r = s - r + 1 + 2 ^ r by omega, Nat.add_mod_right]
theorem q_odd {x : Nat} (h : x % 2 = 0) : nI x ||| nI 1 = nI (x + 1) := by
  rw [q_or]
  have := q_bit2 (x / 2) true
  rw [show x / 2 * 2 ^ 1 = x by omega] at this
  rw [show (1 : Nat) = true.toNat from rfl, this]
  show nI (2 * (x / 2) + 1) = nI (x + 1)
  rw [show 2 * (x / 2) = x by omega]
/-- the chain's disc, its first s lights -/
def dCs (r s : Nat) : sp_D := (2 ^ r, 1, r, fun t x => if t = 0 ∧ x < s then chB r x else false, fun _ => 0, fun k => k)
abbrev dCh (r : Nat) : sp_D := dCs r (2 ^ r)
theorem p2_512 {r : Nat} (h : r ≤ 9) : 2 ^ r ≤ 512 := Nat.pow_le_pow_right (n := 2) (j := 9) (by decide) h
theorem dCh_ok {r : Nat} (h : r ≤ 9) : d_ok (dCh r) := ⟨Nat.two_pow_pos r, p2_512 h, by show 1 ≤ 10; decide, by show r ≤ 10; omega, fun k hk => ⟨by show 0 < 1; decide, Nat.lt_trans hk Nat.lt_two_pow_self⟩, fun t s hts => by
  show (if t = 0 ∧ s < 2 ^ r then chB r s else false) = false
  have hts2 : 1 ≤ t ∨ 2 ^ r ≤ s := hts
  rw [if_neg (by omega)]⟩
theorem s_makeChain {r w : Nat} {σ : am_S} {K : Int32 → am_S → Prop} (hr1 : 1 ≤ r) (hr9 : r ≤ 9) (hw : w < 2 ^ r) (h : ∀ τ, cD τ 3 (dCh r) → am_eq (fun k => 3 ≤ k ∧ k ≤ 6 ∨ k = 31) σ τ → K (nI (chA r w)) τ) : w_Maker_makeChain (nI r) (nI w) σ K := by
  have hp9 := p2_512 hr9
  have hpr : r < 2 ^ r := Nat.lt_two_pow_self
  obtain ⟨hwA, hwP⟩ := ch_w hr1 hr9 hw
  refine e_Maker_makeChain (fun d => ?_)
  rw [q_1shl r (by omega)]
  -- the lights
  have S : ∀ q s l M (x6 : Int32) (τ : am_S), s + q = 2 ^ r → l < 2 ^ r → am_eq (fun k => 3 ≤ k ∧ k ≤ 6 ∨ k = 31) σ τ → cD τ 3 (dCs r s) → (∀ v, v < 1024 → mk τ 31 v = M.testBit v) → allI (okG r) s (grL r q l M) = true → (chP r w < s → x6 = nI (chA r w)) → R_Maker_makeChain d K 55 [.ref 3, .int (nI r), .int (nI w), .ref 30, .int (nI (2 ^ r)), .int (nI l), .int x6, .int (nI s)] [] τ := by
    intro q
    induction q with
    | zero =>
      intro s l M x6 τ hs hl he hD hM hG hx
      have : s = 2 ^ r := by omega
      subst this
      refine l_Maker_makeChain_55 (pk_le (2 ^ r) (2 ^ r) (fun _ => ?_) (fun z => absurd z (by omega)))
      rw [hx hwP]
      exact h τ hD he
    | succ q ih =>
      intro s l M x6 τ hs hl he hD hM hG hx
      unfold grL allI at hG
      rw [Bool.and_eq_true] at hG
      obtain ⟨g1, g2, g3, g4⟩ := okG_e hG.1
      have hG2 := hG.2
      have hm : 2 * l % 2 ^ r < 2 ^ r := Nat.mod_lt _ (by omega)
      have hev : 2 * l % 2 ^ r % 2 = 0 := by
        obtain ⟨c, hc⟩ : ∃ c, r = c + 1 := ⟨r - 1, by omega⟩
        rw [hc, Nat.pow_succ, Nat.mul_comm (2 ^ c) 2, Nat.mul_mod_mul_left]
        omega
      refine l_Maker_makeChain_55 (pk_le (2 ^ r) s (fun z => absurd z (by omega)) (fun _ => ?_))
      rw [q_shl 1 (by decide) (by omega), pk_sub (Nat.two_pow_pos r), q_mask, q_odd (by rw [show l * 2 ^ 1 = 2 * l by omega]; exact hev), show l * 2 ^ 1 = 2 * l by omega, nI_add s 1, q_back (by omega) hpr, q_and _ 1, q_and _ 1, Nat.and_one_is_mod, Nat.and_one_is_mod]
      -- what follows a new word
      have go : ∀ (b : Bool) (y : Nat) (τ9 : am_S), y = grN r l M → b = decide (y % 2 = 1) → am_eq (fun k => k = 31) τ τ9 → (∀ w', w' < 1024 → mk τ9 31 w' = if w' = y then true else mk τ 31 w') → w_Disc_setLight (nI 0) (nI s) (bI b) τ9 (fun τ11 => am_ite (¬ nI y = nI w) (R_Maker_makeChain d K 55 [.ref 3, .int (nI r), .int (nI w), .ref 30, .int (nI (2 ^ r)), .int (nI y), .int x6, .int (nI (s + 1))] [] τ11) (R_Maker_makeChain d K 55 [.ref 3, .int (nI r), .int (nI w), .ref 30, .int (nI (2 ^ r)), .int (nI y), .int (nI ((s + 2 ^ r + 1 - r) % 2 ^ r)), .int (nI (s + 1))] [] τ11)) := by
        intro b y τ9 hy hb he9 hm9
        subst hy
        refine s_setLight (by decide) (by omega) ?_
        have hD9 := hD.kept he9 (by omega) (by omega) (by omega) (by omega)
        have nx : ∀ x6' : Int32, (chP r w < s + 1 → x6' = nI (chA r w)) → R_Maker_makeChain d K 55 [.ref 3, .int (nI r), .int (nI w), .ref 30, .int (nI (2 ^ r)), .int (nI (grN r l M)), .int x6', .int (nI (s + 1))] [] (sl τ9 0 s b) := by
          intro x6' hx'
          refine ih (s + 1) (grN r l M) (M ||| 2 ^ grN r l M) x6' _ (by omega) g4 ((he.tr (he9.mono (fun k hk => Or.inr hk))).tr (sl_eq (Or.inl (by decide)))) ⟨hD9.1, hD9.2.1, hD9.2.2.1, hD9.2.2.2.1, fun t' s' ht' hs' => ?_⟩ (fun v hv => ?_) hG2 hx'
          · rw [sl_lit (by omega) hs', hD9.2.2.2.2 t' s' ht' hs']
            show (if t' = 0 ∧ s' = s then b else if t' = 0 ∧ s' < s then chB r s' else false) = if t' = 0 ∧ s' < s + 1 then chB r s' else false
            by_cases e : t' = 0 ∧ s' = s
            · rw [if_pos e, if_pos (by omega), e.2, g1, hb]
            · rw [if_neg e]
              by_cases e2 : t' = 0 ∧ s' < s
              · rw [if_pos e2, if_pos (by omega)]
              · rw [if_neg e2, if_neg (by omega)]
          · show mk τ9 31 v = _
            rw [hm9 v hv, Nat.testBit_or, Nat.testBit_two_pow, hM v hv]
            by_cases e : v = grN r l M
            · rw [if_pos e, decide_eq_true e.symm, Bool.or_true]
            · rw [if_neg e, decide_eq_false (fun z => e z.symm), Bool.or_false]
        refine ⟨fun z => nx x6 (fun q2 => ?_), fun z => nx _ (fun q2 => ?_)⟩
        · by_cases e : chP r w < s
          · exact hx e
          · have e2 : chP r w = s := by omega
            refine absurd ?_ z
            unfold chA at hwA
            rw [e2, g2] at hwA
            rw [hwA]
        · have e : grN r l M = w := (nI_eq (by omega) (by omega)).mp (Classical.not_not.mp z)
          unfold chA
          rw [e] at g3
          rw [g3]
      refine s_has30 (by omega) ?_
      rw [hM _ (by omega)]
      cases hb : M.testBit (2 * l % 2 ^ r) with
      | false =>
        have hy : grN r l M = 2 * l % 2 ^ r := by
          unfold grN
          rw [if_neg (by rw [hb]; decide)]
        refine am_ite_t rfl (s_add30 (by omega) (fun τ9 hm9 he9 => ?_))
        rw [hev]
        refine am_ite_t rfl ?_
        exact go false _ τ9 hy.symm (by rw [decide_eq_false (by omega)]) he9 hm9
      | true =>
        have hy : grN r l M = 2 * l % 2 ^ r + 1 := by
          unfold grN
          rw [if_pos hb]
        have hm1 : 2 * l % 2 ^ r + 1 < 2 ^ r := by
          rw [← hy]; exact g4
        refine am_ite_f (by decide) (s_add30 (by omega) (fun τ9 hm9 he9 => ?_))
        rw [show (2 * l % 2 ^ r + 1) % 2 = 1 by omega]
        refine am_ite_f (by decide) ?_
        exact go true _ τ9 hy.symm (by rw [decide_eq_true (by omega)]) he9 hm9
  -- the readers
  have Rd : ∀ q j (τ : am_S), j + q = r → am_eq (fun k => 3 ≤ k ∧ k ≤ 6 ∨ k = 31) σ τ → cD τ 3 (2 ^ r, 1, j, fun _ _ => false, fun _ => 0, fun k => k) → R_Maker_makeChain d K 19 [.ref 3, .int (nI r), .int (nI w), .ref 30, .int (nI (2 ^ r)), .int (nI j), .null, .null] [] τ := by
    intro q
    induction q with
    | zero =>
      intro j τ hj he hD
      have : j = r := by omega
      subst this
      refine l_Maker_makeChain_19 (pk_le j j (fun _ => s_wipe30 (fun τ2 hm2 he2 => ?_)) (fun z => absurd z (by omega)))
      rw [pk_sub (Nat.two_pow_pos j)]
      have hD2 := hD.kept he2 (by omega) (by omega) (by omega) (by omega)
      refine S (2 ^ j) 0 (2 ^ j - 1) 0 (nI 0) τ2 (by omega) (by omega) (he.tr (he2.mono (fun k hk => Or.inr hk))) ⟨hD2.1, hD2.2.1, hD2.2.2.1, hD2.2.2.2.1, fun t' s' ht' hs' => ?_⟩ (fun v hv => by rw [hm2 v hv, Nat.zero_testBit]) (ch_g hr1 hr9) (fun z => by omega)
      rw [hD2.2.2.2.2 t' s' ht' hs']
      show false = if t' = 0 ∧ s' < 0 then chB j s' else false
      rw [if_neg (by omega)]
    | succ q ih =>
      intro j τ hj he hD
      refine l_Maker_makeChain_19 (pk_le r j (fun z => absurd z (by omega)) (fun _ => s_addReader hD (show j < 10 by omega) (fun τ3 hD3 e3 => ?_)))
      rw [nI_add]
      refine ih (j + 1) τ3 (by omega) (he.tr (e3.mono (fun k hk => by omega))) ⟨hD3.1, hD3.2.1, hD3.2.2.1, fun t ht => ?_, hD3.2.2.2.2⟩
      have q := hD3.2.2.2.1 t ht
      have a1 : (if t = j then 0 else 0) = 0 := by split <;> rfl
      have a2 : (if t = j then j else t) = t := by
        by_cases e : t = j
        · rw [if_pos e, e]
        · rw [if_neg e]
      exact ⟨q.1.trans (congrArg nI a1), q.2.trans (congrArg nI a2)⟩
  refine s_empty (fun τ hD e1 => s_addDarkTrack hD (show 0 < 10 by decide) (fun τ2 hD2 e2 => ?_))
  exact Rd r 0 τ2 (by omega) ((e1.mono (fun k hk => by omega)).tr (e2.mono (fun k hk => by omega))) ⟨hD2.1, hD2.2.1, hD2.2.2.1, fun t ht => absurd ht (Nat.not_lt_zero t), hD2.2.2.2.2⟩
