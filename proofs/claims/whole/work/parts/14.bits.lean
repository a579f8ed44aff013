/-! NUMBERS AND BITS -/
theorem q_shr (k : Nat) (hk : k < 32) {s : Nat} (h : s < 2 ^ 31) : nI s >>> (nI k &&& 31) = nI (s / 2 ^ k) := pk_shrN h _ k ((by decide +kernel : ∀ n, n < 32 → ((nI n &&& 31).toBitVec.smod 32).toNat = n) k hk)
theorem q_shl (k : Nat) (hk : k < 32) {s : Nat} (h : s * 2 ^ k < 2 ^ 32) : nI s <<< (nI k &&& 31) = nI (s * 2 ^ k) := pk_shlN _ k ((by decide +kernel : ∀ n, n < 32 → ((nI n &&& 31).toBitVec.smod 32).toNat = n) k hk) h
theorem q_and63 {s : Nat} (h : s < 2 ^ 31) : nI s &&& nI 63 = nI (s % 64) := pk_andN (by omega) (m := nI 63) 6 (by decide)
theorem q_and (a b : Nat) : nI a &&& nI b = nI (a &&& b) := by
  apply Int32.toBitVec_inj.1
  show BitVec.ofNat 32 a &&& BitVec.ofNat 32 b = BitVec.ofNat 32 (a &&& b)
  apply BitVec.eq_of_getLsbD_eq
  intro i hi
  simp [hi]
theorem q_or (a b : Nat) : nI a ||| nI b = nI (a ||| b) := by
  apply Int32.toBitVec_inj.1
  show BitVec.ofNat 32 a ||| BitVec.ofNat 32 b = BitVec.ofNat 32 (a ||| b)
  apply BitVec.eq_of_getLsbD_eq
  intro i hi
  simp [hi]
theorem q_xor (a b : Nat) : nI a ^^^ nI b = nI (a ^^^ b) := by
  apply Int32.toBitVec_inj.1
  show BitVec.ofNat 32 a ^^^ BitVec.ofNat 32 b = BitVec.ofNat 32 (a ^^^ b)
  apply BitVec.eq_of_getLsbD_eq
  intro i hi
  simp [hi]
theorem q_m1 {n : Nat} (h : 0 < n) : nI n + (-1) = nI (n - 1) := by
  obtain ⟨m, rfl⟩ : ∃ m, n = m + 1 := ⟨n - 1, by omega⟩
  rw [pk_m1]
  rfl
/-- a boolean as an int -/
abbrev bI (b : Bool) : Int32 := nI b.toNat
theorem q_bit2 (w : Nat) (b : Bool) : w * 2 ^ 1 ||| b.toNat = 2 * w + b.toNat := by
  cases b with
  | false => simp; omega
  | true =>
    show w * 2 ^ 1 ||| 1 = 2 * w + 1
    have := Nat.two_pow_add_eq_or_of_lt (i := 1) (b := 1) (by decide) w
    rw [Nat.mul_comm (2 ^ 1) w] at this
    omega
def lbit (x : Int64) (i : Nat) : Bool := x.toBitVec.getLsbD i
theorem q_cmp0 {x : Int64} : lg_cmp x 0 = nI 0 ↔ x = 0 := by
  unfold lg_cmp
  by_cases h1 : x > 0
  · rw [if_pos h1]
    constructor
    · intro h; exact absurd h (by decide)
    · intro h; subst h; exact absurd h1 (by decide)
  · rw [if_neg h1]
    by_cases h2 : x = 0
    · rw [if_pos h2]; exact ⟨fun _ => h2, fun _ => rfl⟩
    · rw [if_neg h2]
      exact ⟨fun h => absurd h (by decide), fun h => absurd h h2⟩
theorem q_cu : ∀ k, k < 64 → ((nI k).toInt64.toUInt64 &&& Int64.toUInt64 63).toNat = k := by decide +kernel
theorem q_lbit0 {x : Int64} {j : Nat} (hj : j < 64) : (am_lushr x (nI j) &&& 1) = 0 ↔ lbit x j = false := by
  have e : (am_lushr x (nI j)).toBitVec = x.toBitVec >>> j := by
    apply BitVec.eq_of_toNat_eq
    show (x.toUInt64 >>> _).toNat = _
    rw [UInt64.toNat_shiftRight, q_cu j hj, Nat.mod_eq_of_lt hj, BitVec.toNat_ushiftRight]
    rfl
  rw [← Int64.toBitVec_inj, Int64.toBitVec_and, e]
  show x.toBitVec >>> j &&& 1#64 = 0#64 ↔ _
  constructor
  · intro h
    have t := congrArg (fun x => x.getLsbD 0) h
    simpa [lbit] using t
  · intro h
    apply BitVec.eq_of_getLsbD_eq
    intro i hi
    unfold lbit at h
    cases i with
    | zero => simp [h]
    | succ i => simp
theorem q_one : ∀ k, k < 64 → ((1 : Int64) <<< ((nI k).toInt64 &&& 63)).toBitVec = BitVec.twoPow 64 k := by decide +kernel
theorem lbit_or {x : Int64} {i j : Nat} (hi : i < 64) (hj : j < 64) : lbit (x ||| ((1 : Int64) <<< ((nI i).toInt64 &&& 63))) j = if j = i then true else lbit x j := by
  unfold lbit
  rw [Int64.toBitVec_or, BitVec.getLsbD_or, q_one i hi, BitVec.getLsbD_twoPow]
  by_cases h : j = i
  · subst h; simp [hj]
  · rw [if_neg h]; simp [Ne.symm h]
theorem lbit_and {x : Int64} {i j : Nat} (hi : i < 64) (hj : j < 64) : lbit (x &&& (((1 : Int64) <<< ((nI i).toInt64 &&& 63)) ^^^ (-1))) j = if j = i then false else lbit x j := by
  unfold lbit
  have ha : (-1 : Int64).toBitVec = BitVec.allOnes 64 := by decide
  rw [Int64.toBitVec_and, BitVec.getLsbD_and, Int64.toBitVec_xor, BitVec.getLsbD_xor, q_one i hi, BitVec.getLsbD_twoPow, ha, BitVec.getLsbD_allOnes]
  by_cases h : j = i
  · subst h; simp [hj]
  · rw [if_neg h]; simp [Ne.symm h, hj]
theorem lbit_0 (j : Nat) : lbit 0 j = false := by
  show (0#64).getLsbD j = false
  simp
def setb (x : Int64) (i : Nat) (b : Bool) : Int64 := if b then x ||| ((1 : Int64) <<< ((nI i).toInt64 &&& 63)) else x &&& (((1 : Int64) <<< ((nI i).toInt64 &&& 63)) ^^^ (-1))
theorem lbit_setb {x : Int64} {i j : Nat} (b : Bool) (hi : i < 64) (hj : j < 64) : lbit (setb x i b) j = if j = i then b else lbit x j := by
  unfold setb
  cases b
  · rw [if_neg (by decide), lbit_and hi hj]
  · rw [if_pos rfl, lbit_or hi hj]
/-! states that differ in a few places -/
theorem u_I (σ : am_S) (k i : Nat) (v : Int32) (k' i' : Nat) : (am_upI σ k i v).1 k' i' = if k' = k ∧ i' = i then v else σ.1 k' i' := rfl
theorem u_IJ (σ : am_S) (k i : Nat) (v : Int32) : (am_upI σ k i v).2 = σ.2 := rfl
theorem u_J (σ : am_S) (k i : Nat) (v : Int64) (k' i' : Nat) : (am_upJ σ k i v).2 k' i' = if k' = k ∧ i' = i then v else σ.2 k' i' := rfl
theorem u_JI (σ : am_S) (k i : Nat) (v : Int64) : (am_upJ σ k i v).1 = σ.1 := rfl
theorem u_Is (σ : am_S) (k i : Nat) (v : Int32) : (am_upI σ k i v).1 k i = v := by rw [u_I, if_pos ⟨rfl, rfl⟩]
theorem u_Js (σ : am_S) (k i : Nat) (v : Int64) : (am_upJ σ k i v).2 k i = v := by rw [u_J, if_pos ⟨rfl, rfl⟩]
theorem u_In (σ : am_S) {k i : Nat} (v : Int32) {k' i' : Nat} (h : k' ≠ k ∨ i' ≠ i) : (am_upI σ k i v).1 k' i' = σ.1 k' i' := by rw [u_I, if_neg]; rintro ⟨a, b⟩; rcases h with h | h; exact h a; exact h b
theorem u_Jn (σ : am_S) {k i : Nat} (v : Int64) {k' i' : Nat} (h : k' ≠ k ∨ i' ≠ i) : (am_upJ σ k i v).2 k' i' = σ.2 k' i' := by rw [u_J, if_neg]; rintro ⟨a, b⟩; rcases h with h | h; exact h a; exact h b
/-- the same but for the cells of P -/
def am_eq (P : Nat → Prop) (σ τ : am_S) : Prop := ∀ k, ¬ P k → τ.1 k = σ.1 k ∧ τ.2 k = σ.2 k
theorem am_eq.rf {P : Nat → Prop} {σ : am_S} : am_eq P σ σ := fun _ _ => ⟨rfl, rfl⟩
theorem am_eq.tr {P : Nat → Prop} {σ τ υ : am_S} (h1 : am_eq P σ τ) (h2 : am_eq P τ υ) : am_eq P σ υ := fun k hk => ⟨(h2 k hk).1.trans (h1 k hk).1, (h2 k hk).2.trans (h1 k hk).2⟩
theorem am_eq.mono {P P' : Nat → Prop} {σ τ : am_S} (h : am_eq P σ τ) (hp : ∀ k, P k → P' k) : am_eq P' σ τ := fun k hk => h k (fun z => hk (hp k z))
theorem am_eq.upI {P : Nat → Prop} {σ : am_S} {k i : Nat} {v : Int32} (hk : P k) : am_eq P σ (am_upI σ k i v) := fun j hj => am_upI_ne σ i v (fun e => hj (e ▸ hk))
theorem am_eq.upJ {P : Nat → Prop} {σ : am_S} {k i : Nat} {v : Int64} (hk : P k) : am_eq P σ (am_upJ σ k i v) := fun j hj => am_upJ_ne σ i v (fun e => hj (e ▸ hk))
theorem am_eq.cpI {P : Nat → Prop} {σ : am_S} {a b sp dp n : Nat} (hk : P b) : am_eq P σ (am_cpI σ a b sp dp n) := fun j hj => am_cpI_ne σ (fun e => hj (e ▸ hk))
theorem am_eq.cpJ {P : Nat → Prop} {σ : am_S} {a b sp dp n : Nat} (hk : P b) : am_eq P σ (am_cpJ σ a b sp dp n) := fun j hj => am_cpJ_ne σ (fun e => hj (e ▸ hk))
