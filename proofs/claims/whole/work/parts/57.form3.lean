/-! THE FORM: the order of the readers, as the class keeps it -/
theorem bI_inj {a b : Bool} (h : bI a = bI b) : a = b := by cases a <;> cases b <;> first | rfl | exact absurd h (by decide)
def cO (σ : am_S) (r : Nat) (β A : Nat → Nat) : Prop := isArr r β ∧ (∀ p, p < r → σ.1 15 p = nI (β p)) ∧ (∀ p, p + 1 < r → A p ≤ A (p + 1)) ∧ ∀ p, p + 1 < r → σ.1 16 (p + 1) = bI (decide (A p ≠ A (p + 1)))
def tO (A : Nat → Nat) (w : Nat) (β : Nat → Nat) (x : Nat) : Nat := 2 * A x + (w.testBit (β x)).toNat
def swN (β : Nat → Nat) (q x : Nat) : Nat := if x = q then β (q + 1) else if x = q + 1 then β q else β x
theorem arr_sw {r q : Nat} {β : Nat → Nat} (h : isArr r β) (hq : q + 1 < r) : isArr r (swN β q) := by
  refine ⟨fun p hp => ?_, fun x y hx hy e => ?_⟩
  · unfold swN
    split
    · exact h.1 _ hq
    · split
      · exact h.1 _ (by omega)
      · exact h.1 _ hp
  · unfold swN at e
    split at e <;> split at e <;> (try split at e) <;> (try split at e) <;> first | omega | (have := h.2 _ _ (by omega) (by omega) e; omega)
theorem s_bitOf {w p b : Nat} {σ : am_S} {K : Int32 → am_S → Prop} (hw : w < 1024) (hp : p < 10) (e : σ.1 15 p = nI b) (hb : b < 10) (h : K (bI (w.testBit b)) σ) : w_Form_bitOf (nI w) (nI p) σ K := by
  refine ⟨pk_in p 10 hp, ?_⟩
  rw [nI_clamp (by omega), e, q_tb (by omega) (by omega)]
  exact h
theorem s_refine {r w : Nat} {a A β : Nat → Nat} {σ : am_S} {K : am_S → Prop} (hr : r ≤ 10) (h13 : σ.1 13 4 = nI r) (hw : w < 1024) (hO : cO σ r β A) (ha : ∀ p, p < r → a (β p) = A p) (h : ∀ β' τ, cO τ r β' (tO A w β') → (∀ p, p < r → a (β' p) = A p) → am_eq (fun k => k = 15 ∨ k = 16) σ τ → K τ) : w_Form_refineOrder (nI w) σ K := by
  refine e_Form_refineOrder (fun d => ?_)
  obtain ⟨h1, h2, h3, h4⟩ := hO
  -- the marks
  have M : ∀ q p (β' : Nat → Nat) (τ : am_S), r ≤ p + q → 1 ≤ p → p ≤ 11 → isArr r β' → (∀ x, x < r → a (β' x) = A x) → (∀ x, x + 1 < r → tO A w β' x ≤ tO A w β' (x + 1)) → am_eq (fun k => k = 15 ∨ k = 16) σ τ → (∀ x, x < r → τ.1 15 x = nI (β' x)) → (∀ x, x + 1 < r → τ.1 16 (x + 1) = bI (if x + 1 < p then decide (tO A w β' x ≠ tO A w β' (x + 1)) else decide (A x ≠ A (x + 1)))) → R_Form_refineOrder d K 88 [.ref 13, .int (nI w), .int (nI p), .null, .null] [] τ := by
    intro q
    induction q with
    | zero =>
      intro p β' τ hp hp1 hp2 hA ha' hs he h15 h16
      refine l_Form_refineOrder_88 ?_
      rw [(he 13 (by decide)).1, h13]
      refine pk_le r p (fun _ => h β' τ ⟨hA, h15, hs, fun x hx => ?_⟩ ha' he) (fun z => absurd z (by omega))
      rw [h16 x hx, if_pos (by omega)]
    | succ q ih =>
      intro p β' τ hp hp1 hp2 hA ha' hs he h15 h16
      refine l_Form_refineOrder_88 ?_
      rw [(he 13 (by decide)).1, h13, pk_sub hp1, nI_add]
      refine pk_le r p (fun _ => h β' τ ⟨hA, h15, hs, fun x hx => by rw [h16 x hx, if_pos (by omega)]⟩ ha' he) (fun z => ?_)
      have b1 := hA.1 (p - 1) (by omega)
      have b2 := hA.1 p (by omega)
      refine s_bitOf hw (by omega) (h15 (p - 1) (by omega)) (by omega) (s_bitOf hw (by omega) (h15 p (by omega)) (by omega) ?_)
      by_cases hb : w.testBit (β' (p - 1)) = w.testBit (β' p)
      · refine am_ite_t (by rw [hb]) (ih (p + 1) β' τ (by omega) (by omega) (by omega) hA ha' hs he h15 (fun x hx => ?_))
        rw [h16 x hx]
        by_cases e : x + 1 = p
        · have ex : x = p - 1 := by omega
          rw [if_neg (by omega), if_pos (by omega)]
          refine congrArg (fun b : Bool => bI b) (decide_eq_decide.mpr ?_)
          unfold tO
          rw [e, ex, hb]
          omega
        · by_cases e2 : x + 1 < p
          · rw [if_pos e2, if_pos (by omega)]
          · rw [if_neg e2, if_neg (by omega)]
      · refine am_ite_f (fun z => hb (bI_inj z)) ⟨pk_in p 10 (by omega), ih (p + 1) β' _ (by omega) (by omega) (by omega) hA ha' hs (he.tr (am_eq.upI (Or.inr rfl))) (fun x hx => ?_) (fun x hx => ?_)⟩
        · rw [u_In _ _ (by omega)]
          exact h15 x hx
        · rw [nI_clamp (by omega)]
          by_cases e : x + 1 = p
          · have ex : x = p - 1 := by omega
            rw [e, u_Is, if_pos (by omega)]
            refine congrArg (fun b : Bool => bI b) (a₁ := true) (decide_eq_true ?_).symm
            unfold tO
            rw [ex]
            have c1 := toN_le (w.testBit (β' (p - 1)))
            have c2 := toN_le (w.testBit (β' p))
            have c3 : (w.testBit (β' (p - 1))).toNat ≠ (w.testBit (β' p)).toNat := fun z => hb (toN_inj z)
            omega
          · rw [u_In _ _ (by omega), h16 x hx]
            by_cases e2 : x + 1 < p
            · rw [if_pos e2, if_pos (by omega)]
            · rw [if_neg e2, if_neg (by omega)]
  -- the order
  have O : ∀ m p (β' : Nat → Nat) (τ : am_S), r ≤ p + m → 1 ≤ p → p ≤ 11 → isArr r β' → (∀ x, x < r → a (β' x) = A x) → (∀ x, x + 1 < p → x + 1 < r → tO A w β' x ≤ tO A w β' (x + 1)) → am_eq (fun k => k = 15) σ τ → (∀ x, x < r → τ.1 15 x = nI (β' x)) → R_Form_refineOrder d K 2 [.ref 13, .int (nI w), .int (nI p), .null, .null] [] τ := by
    intro m
    have fin : ∀ p (β' : Nat → Nat) (τ : am_S), r ≤ p → isArr r β' → (∀ x, x < r → a (β' x) = A x) → (∀ x, x + 1 < p → x + 1 < r → tO A w β' x ≤ tO A w β' (x + 1)) → am_eq (fun k => k = 15) σ τ → (∀ x, x < r → τ.1 15 x = nI (β' x)) → R_Form_refineOrder d K 88 [.ref 13, .int (nI w), .int (nI 1), .null, .null] [] τ := by
      intro p β' τ hp hA ha' hs he h15
      refine M r 1 β' τ (by omega) (by omega) (by omega) hA ha' (fun x hx => hs x (by omega) hx) (he.mono (fun k hk => Or.inl hk)) h15 (fun x hx => ?_)
      rw [if_neg (by omega), (he 16 (by decide)).1]
      exact h4 x hx
    induction m with
    | zero =>
      intro p β' τ hp hp1 hp2 hA ha' hs he h15
      refine l_Form_refineOrder_2 ?_
      rw [(he 13 (by decide)).1, h13]
      exact pk_le r p (fun z => fin p β' τ z hA ha' hs he h15) (fun z => absurd z (by omega))
    | succ m ih =>
      intro p β' τ hp hp1 hp2 hA ha' hs he h15
      refine l_Form_refineOrder_2 ?_
      rw [(he 13 (by decide)).1, h13]
      refine pk_le r p (fun z => fin p β' τ z hA ha' hs he h15) (fun z => ?_)
      have I : ∀ q (β' : Nat → Nat) (τ : am_S), q ≤ p → isArr r β' → (∀ x, x < r → a (β' x) = A x) → (∀ x, x + 1 ≤ p → x + 1 ≠ q → tO A w β' x ≤ tO A w β' (x + 1)) → (∀ x, x + 1 = q → q < p → tO A w β' x ≤ tO A w β' (q + 1)) → am_eq (fun k => k = 15) σ τ → (∀ x, x < r → τ.1 15 x = nI (β' x)) → R_Form_refineOrder d K 12 [.ref 13, .int (nI w), .int (nI p), .int (nI q), .null] [] τ := by
        intro q
        induction q with
        | zero =>
          intro β' τ hq hA ha' hs hs2 he h15
          refine l_Form_refineOrder_12 (pk_le 0 0 (fun _ => ?_) (fun z => absurd z (by omega)))
          rw [nI_add]
          exact ih (p + 1) β' τ (by omega) (by omega) (by omega) hA ha' (fun x hx _ => hs x (by omega) (by omega)) he h15
        | succ q ihq =>
          intro β' τ hq hA ha' hs hs2 he h15
          have out : tO A w β' q ≤ tO A w β' (q + 1) → R_Form_refineOrder d K 2 [.ref 13, .int (nI w), .int (nI p + nI 1), .null, .null] [] τ := fun le => by
            rw [nI_add]
            refine ih (p + 1) β' τ (by omega) (by omega) (by omega) hA ha' (fun x hx _ => ?_) he h15
            by_cases e : x = q
            · rw [e]; exact le
            · exact hs x (by omega) (by omega)
          have b1 := hA.1 q (by omega)
          have b2 := hA.1 (q + 1) (by omega)
          have c1 := toN_le (w.testBit (β' q))
          have c2 := toN_le (w.testBit (β' (q + 1)))
          have a3 := h3 q (by omega)
          refine l_Form_refineOrder_12 (pk_le (q + 1) 0 (fun z => absurd z (by omega)) (fun _ => ⟨pk_in (q + 1) 10 (by omega), ?_⟩))
          rw [nI_clamp (show q + 1 < 2 ^ 31 by omega), (he 16 (by decide)).1, h4 q (by omega), pk_sub (show 1 ≤ q + 1 by omega), Nat.add_sub_cancel]
          by_cases e : A q = A (q + 1)
          · refine am_ite_f (fun z => z (by rw [decide_eq_false (fun y => y e)]; rfl)) ?_
            refine s_bitOf hw (by omega) (h15 (q + 1) (by omega)) (by omega) (s_bitOf hw (by omega) (h15 q (by omega)) (by omega) ?_)
            refine pk_le (w.testBit (β' q)).toNat (w.testBit (β' (q + 1))).toNat (fun l => out ?_) (fun l => ⟨pk_in (q + 1) 10 (by omega), pk_in q 10 (by omega), pk_in (q + 1) 10 (by omega), pk_in q 10 (by omega), ?_⟩)
            · unfold tO
              omega
            · rw [nI_clamp (show q < 2 ^ 31 by omega)]
              have t0 : tO A w (swN β' q) q = tO A w β' (q + 1) := by
                unfold tO swN
                rw [if_pos rfl, e]
              have t1 : tO A w (swN β' q) (q + 1) = tO A w β' q := by
                unfold tO swN
                rw [if_neg (by omega), if_pos rfl, e]
              have tn : ∀ x, x ≠ q → x ≠ q + 1 → tO A w (swN β' q) x = tO A w β' x := fun x n1 n2 => by
                unfold tO swN
                rw [if_neg n1, if_neg n2]
              refine ihq (swN β' q) _ (by omega) (arr_sw hA (by omega)) (fun x hx => ?_) (fun x hx hxq => ?_) (fun x hx hq2 => ?_) ((he.tr (am_eq.upI rfl)).tr (am_eq.upI rfl)) (fun x hx => ?_)
              · unfold swN
                split
                · rename_i g
                  rw [g, e]; exact ha' _ (by omega)
                · split
                  · rename_i g
                    rw [g, ← e]; exact ha' _ (by omega)
                  · exact ha' x hx
              · by_cases x1 : x = q
                · rw [x1, t0, t1]
                  unfold tO
                  omega
                · by_cases x2 : x = q + 1
                  · rw [x2, t1, tn (q + 1 + 1) (by omega) (by omega)]
                    exact hs2 q rfl (by omega)
                  · rw [tn x x1 x2, tn (x + 1) (by omega) (by omega)]
                    exact hs x (by omega) (by omega)
              · rw [tn x (by omega) (by omega), t1]
                have := hs x (by omega) (by omega)
                rw [hx] at this
                exact this
              · unfold swN
                by_cases x1 : x = q
                · rw [if_pos x1, x1, u_Is]
                  exact h15 (q + 1) (by omega)
                · by_cases x2 : x = q + 1
                  · rw [if_neg x1, if_pos x2, x2, u_In _ _ (by omega), u_Is]
                    exact h15 q (by omega)
                  · rw [if_neg x1, if_neg x2, u_In _ _ (by omega), u_In _ _ (by omega)]
                    exact h15 x hx
          · refine am_ite_t (by rw [decide_eq_true e]; decide) (out ?_)
            unfold tO
            omega
      exact I p β' τ (Nat.le_refl _) hA ha' (fun x hx hxq => hs x (by omega) (by omega)) (fun x _ hq => by omega) he h15
  exact O r 1 β σ (by omega) (by omega) (by omega) h1 ha (fun x hx => by omega) am_eq.rf h2
theorem s_inOrder {r w : Nat} {β : Nat → Nat} {σ : am_S} {K : Int32 → am_S → Prop} (hr : r ≤ 10) (h13 : σ.1 13 4 = nI r) (hw : w < 1024) (hA : isArr r β) (h15 : ∀ p, p < r → σ.1 15 p = nI (β p)) (h : K (nI (woA (fun p => w.testBit (β p)) r)) σ) : w_Form_inOrder (nI w) σ K := by
  refine e_Form_inOrder (fun d => ?_)
  have L : ∀ q p, p + q = r → R_Form_inOrder d K 4 [.ref 13, .int (nI w), .int (nI (woA (fun p => w.testBit (β p)) p)), .int (nI p)] [] σ := by
    intro q
    induction q with
    | zero =>
      intro p hp
      refine l_Form_inOrder_4 ?_
      rw [h13]
      refine pk_le r p (fun _ => ?_) (fun z => absurd z (by omega))
      rw [show p = r by omega]
      exact h
    | succ q ih =>
      intro p hp
      refine l_Form_inOrder_4 ?_
      rw [h13]
      have b1 := hA.1 p (by omega)
      have lt := woA_lt (fun p => w.testBit (β p)) p
      have p2 : 2 ^ p ≤ 2 ^ 10 := Nat.pow_le_pow_right (n := 2) (by decide) (by omega)
      refine pk_le r p (fun z => absurd z (by omega)) (fun _ => s_bitOf hw (by omega) (h15 p (by omega)) (by omega) ?_)
      rw [q_shl 1 (by decide) (by omega), q_or, q_bit2, nI_add]
      exact ih (p + 1) (by omega)
  exact L r 0 (by omega)
theorem s_beginOrder {r : Nat} {σ : am_S} {K : am_S → Prop} (hr : r ≤ 10) (h13 : σ.1 13 4 = nI r) (h : ∀ τ, cO τ r (fun p => p) (fun _ => 0) → am_eq (fun k => k = 15 ∨ k = 16) σ τ → K τ) : w_Form_beginOrder σ K := by
  refine e_Form_beginOrder (fun d => ?_)
  have L : ∀ q p (τ : am_S), p + q = r → am_eq (fun k => k = 15 ∨ k = 16) σ τ → (∀ x, x < p → τ.1 15 x = nI x ∧ τ.1 16 x = nI 0) → R_Form_beginOrder d K 2 [.ref 13, .int (nI p)] [] τ := by
    intro q
    induction q with
    | zero =>
      intro p τ hp he hx
      refine l_Form_beginOrder_2 ?_
      rw [(he 13 (by decide)).1, h13]
      refine pk_le r p (fun _ => h τ ⟨⟨fun p hp => hp, fun p q _ _ e => e⟩, fun x hx' => (hx x (by omega)).1, fun _ _ => Nat.le_refl _, fun x hx' => ?_⟩ he) (fun z => absurd z (by omega))
      rw [(hx (x + 1) (by omega)).2]
      rfl
    | succ q ih =>
      intro p τ hp he hx
      refine l_Form_beginOrder_2 ?_
      rw [(he 13 (by decide)).1, h13]
      refine pk_le r p (fun z => absurd z (by omega)) (fun _ => ⟨pk_in p 10 (by omega), pk_in p 10 (by omega), ?_⟩)
      rw [nI_add, nI_clamp (by omega)]
      refine ih (p + 1) _ (by omega) (he.tr ((am_eq.upI (Or.inl rfl)).tr (am_eq.upI (Or.inr rfl)))) (fun x hx' => ?_)
      by_cases e : x = p
      · rw [e]
        exact ⟨by rw [u_In _ _ (by omega), u_Is], by rw [u_Is]⟩
      · rw [u_In _ _ (by omega), u_In _ _ (by omega), u_In _ _ (by omega), u_In _ _ (by omega)]
        exact hx x (by omega)
  exact L r 0 σ (by omega) am_eq.rf (fun x hx => by omega)
