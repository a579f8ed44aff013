/-! THE FORM: rows by sorted columns -/
def isArr (r : Nat) (π : Nat → Nat) : Prop := (∀ p, p < r → π p < r) ∧ ∀ p q, p < r → q < r → π p = π q → p = q
theorem arr_perm {r : Nat} {π : Nat → Nat} (h : isArr r π) : ((List.range r).map π).Perm (List.range r) := by
  have nd : ((List.range r).map π).Nodup := by
    unfold List.Nodup
    rw [List.pairwise_map]
    refine List.Pairwise.imp_of_mem (fun {a b} ha hb hab e => ?_) (List.pairwise_lt_range (n := r))
    have := h.2 a b (List.mem_range.mp ha) (List.mem_range.mp hb) e
    omega
  rw [List.perm_ext_iff_of_nodup nd List.nodup_range]
  intro a
  constructor
  · intro ha
    obtain ⟨p, hp, rfl⟩ := List.mem_map.mp ha
    exact List.mem_range.mpr (h.1 p (List.mem_range.mp hp))
  · intro ha
    refine Classical.byContradiction (fun hn => ?_)
    have nd2 : (a :: (List.range r).map π).Nodup := List.nodup_cons.mpr ⟨hn, nd⟩
    have hl := nd2.length_le_of_subset (l₂ := List.range r) (fun x hx => by
      rcases List.mem_cons.mp hx with rfl | hx
      · exact ha
      · obtain ⟨p, hp, rfl⟩ := List.mem_map.mp hx
        exact List.mem_range.mpr (h.1 p (List.mem_range.mp hp)))
    simp at hl
    omega
theorem adj_le {r : Nat} {g : Nat → Nat} (h : ∀ p, p + 1 < r → g p ≤ g (p + 1)) : ∀ q p, p ≤ q → q < r → g p ≤ g q := by
  intro q
  induction q with
  | zero =>
    intro p hp _
    rw [show p = 0 by omega]
    exact Nat.le_refl _
  | succ q ih =>
    intro p hp hq
    by_cases e : p = q + 1
    · rw [e]; exact Nat.le_refl _
    · exact Nat.le_trans (ih p (by omega) (by omega)) (h q hq)
theorem range_sorted {r : Nat} {g : Nat → Nat} (h : ∀ p, p + 1 < r → g p ≤ g (p + 1)) : ((List.range r).map g).Pairwise (· ≤ ·) := by
  rw [List.pairwise_map]
  refine List.Pairwise.imp_of_mem (fun {a b} ha hb hab => ?_) (List.pairwise_lt_range (n := r))
  exact adj_le h b a (Nat.le_of_lt hab) (List.mem_range.mp hb)
theorem srN_perm (l : List Nat) : (srN l).Perm l := List.mergeSort_perm l _
theorem srN_sorted (l : List Nat) : (srN l).Pairwise (· ≤ ·) := by
  have := List.pairwise_mergeSort (le := fun (a b : Nat) => decide (a ≤ b)) (fun a b c h1 h2 => by simp at *; omega) (fun a b => by simp; omega) l
  exact this.imp (fun {a b} h => by simpa using h)
theorem srN_congr {l l' : List Nat} (h : l.Perm l') : srN l = srN l' := List.Perm.eq_of_pairwise (le := (· ≤ ·)) (fun a b _ _ h1 h2 => Nat.le_antisymm h1 h2) (srN_sorted l) (srN_sorted l') ((srN_perm l).trans (h.trans (srN_perm l').symm))
def woA (β : Nat → Bool) : Nat → Nat
  | 0 => 0
  | p + 1 => 2 * woA β p + (β p).toNat
theorem wdK_range (g : Nat → Nat) (e r : Nat) : wdK ((List.range r).map g) e = woA (fun p => decide (g p / 2 ^ e % 2 = 1)) r := by
  induction r with
  | zero => rfl
  | succ r ih =>
    unfold wdK at ih ⊢
    rw [List.range_succ, List.map_append, List.foldl_append, ih]
    show 2 * _ + g r / 2 ^ e % 2 = 2 * _ + (decide (g r / 2 ^ e % 2 = 1)).toNat
    have : g r / 2 ^ e % 2 < 2 := Nat.mod_lt _ (by decide)
    have h2 : g r / 2 ^ e % 2 = 0 ∨ g r / 2 ^ e % 2 = 1 := by omega
    rcases h2 with h2 | h2
    · rw [h2]; rfl
    · rw [h2]; rfl
theorem wdK_map (l : List Nat) (e : Nat) : wdK l e = wdK (l.map (· / 2 ^ e)) 0 := by
  unfold wdK
  rw [List.foldl_map]
  congr 1
  funext w x
  rw [Nat.pow_zero, Nat.div_one]
/-- the word of any arrangement that is sorted as far as it matters -/
theorem arr_word {r e : Nat} {κ π : Nat → Nat} (h : isArr r π) (hs : ∀ p, p + 1 < r → κ (π p) / 2 ^ e ≤ κ (π (p + 1)) / 2 ^ e) : wdK (srN ((List.range r).map κ)) e = woA (fun p => decide (κ (π p) / 2 ^ e % 2 = 1)) r := by
  have A : ((List.range r).map (fun p => κ (π p) / 2 ^ e)).Pairwise (· ≤ ·) := range_sorted hs
  have B : ((srN ((List.range r).map κ)).map (· / 2 ^ e)).Pairwise (· ≤ ·) := by
    rw [List.pairwise_map]
    exact (srN_sorted _).imp (fun {a b} hab => Nat.div_le_div_right hab)
  have P : ((List.range r).map (fun p => κ (π p) / 2 ^ e)).Perm ((srN ((List.range r).map κ)).map (· / 2 ^ e)) := by
    have p1 := (arr_perm h).map (fun k => κ k / 2 ^ e)
    rw [List.map_map] at p1
    have p2 := (srN_perm ((List.range r).map κ)).map (· / 2 ^ e)
    rw [List.map_map] at p2
    exact p1.trans p2.symm
  have E := List.Perm.eq_of_pairwise (le := (· ≤ ·)) (fun a b _ _ h1 h2 => Nat.le_antisymm h1 h2) A B P
  rw [wdK_map, ← E, wdK_range]
  congr 1
  funext p
  rw [Nat.pow_zero, Nat.div_one]
theorem kyF_lt (D : sp_D) (m : Bool) (f : Nat) : ∀ i k, kyF D m f i k < 2 ^ i := by
  intro i
  induction i with
  | zero => intro k; unfold kyF; exact Nat.one_pos
  | succ i ih =>
    intro k
    have := ih k
    unfold kyF
    rw [Nat.pow_succ]
    have hb : (clF D m f k i).toNat ≤ 1 := by cases clF D m f k i <;> decide
    omega
theorem kyF_div (D : sp_D) (m : Bool) (f : Nat) (k : Nat) : ∀ e i, kyF D m f (i + e) k / 2 ^ e = kyF D m f i k := by
  intro e
  induction e with
  | zero => intro i; rw [Nat.pow_zero, Nat.div_one, Nat.add_zero]
  | succ e ih =>
    intro i
    rw [Nat.pow_succ, Nat.mul_comm, ← Nat.div_div_eq_div_mul, ← ih i]
    congr 1
    show (2 * kyF D m f (i + e) k + (clF D m f k (i + e)).toNat) / 2 = _
    have hb : (clF D m f k (i + e)).toNat ≤ 1 := by cases clF D m f k (i + e) <;> decide
    omega
theorem kyF_bit (D : sp_D) (m : Bool) (f : Nat) (k i : Nat) : kyF D m f (i + 1) k % 2 = (clF D m f k i).toNat := by
  show (2 * kyF D m f i k + (clF D m f k i).toNat) % 2 = _
  have hb : (clF D m f k i).toNat ≤ 1 := by cases clF D m f k i <;> decide
  omega
/-- the row, by an arrangement of the readers that is sorted as far as place i -/
theorem roF_arr {D : sp_D} {m : Bool} {f i : Nat} {π : Nat → Nat} (hi : i < dn D) (h : isArr (dr D) π) (hs : ∀ p, p + 1 < dr D → kyF D m f (i + 1) (π p) ≤ kyF D m f (i + 1) (π (p + 1))) : roF D m f i = woA (fun p => clF D m f (π p) i) (dr D) := by
  have e : ∀ k, kyF D m f (dn D) k / 2 ^ (dn D - 1 - i) = kyF D m f (i + 1) k := fun k => by
    have := kyF_div D m f k (dn D - 1 - i) (i + 1)
    rw [show i + 1 + (dn D - 1 - i) = dn D by omega] at this
    exact this
  unfold roF ksF
  rw [arr_word h (fun p hp => by rw [e, e]; exact hs p hp)]
  congr 1
  funext p
  rw [e, kyF_bit]
  cases clF D m f (π p) i <;> rfl
theorem woA_lt (β : Nat → Bool) : ∀ r, woA β r < 2 ^ r
  | 0 => by unfold woA; exact Nat.one_pos
  | r + 1 => by
    have := woA_lt β r
    unfold woA
    rw [Nat.pow_succ]
    have hb : (β r).toNat ≤ 1 := by cases β r <;> decide
    omega
