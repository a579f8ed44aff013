/-! THE FORM: rows as numbers, and rows that come again -/
def vlF (a : Nat → Nat) : Nat → Nat → Nat
  | 0, _ => 0
  | q + 1, i => a i * 2048 ^ q + vlF a q (i + 1)
theorem vlF_lt {a : Nat → Nat} (h : ∀ i, a i < 2048) : ∀ q i, vlF a q i < 2048 ^ q := by
  intro q
  induction q with
  | zero => intro i; unfold vlF; exact Nat.one_pos
  | succ q ih =>
    intro i
    unfold vlF
    have h1 := ih (i + 1)
    have h2 : (a i + 1) * 2048 ^ q ≤ 2048 * 2048 ^ q := Nat.mul_le_mul_right _ (h i)
    rw [Nat.add_mul, Nat.one_mul] at h2
    rw [Nat.pow_succ, Nat.mul_comm (2048 ^ q) 2048]
    omega
theorem vl_lt {a b : Nat → Nat} {q i : Nat} (h : a i < b i) (ha : ∀ i, a i < 2048) : vlF a (q + 1) i < vlF b (q + 1) i := by
  unfold vlF
  have h1 := vlF_lt ha q (i + 1)
  have h2 : (a i + 1) * 2048 ^ q ≤ b i * 2048 ^ q := Nat.mul_le_mul_right _ h
  rw [Nat.add_mul, Nat.one_mul] at h2
  omega
theorem ltF_vl {a b : Nat → Nat} (ha : ∀ i, a i < 2048) (hb : ∀ i, b i < 2048) : ∀ q i, ltF a b q i = true ↔ vlF a q i < vlF b q i := by
  intro q
  induction q with
  | zero => intro i; unfold ltF vlF; simp
  | succ q ih =>
    intro i
    unfold ltF
    by_cases e : a i = b i
    · rw [if_pos e, ih (i + 1)]
      show _ ↔ a i * 2048 ^ q + vlF a q (i + 1) < b i * 2048 ^ q + vlF b q (i + 1)
      rw [e]
      omega
    · rw [if_neg e]
      by_cases l : a i < b i
      · have := vl_lt (q := q) l ha
        simp [l, this]
      · have := vl_lt (q := q) (show b i < a i by omega) hb
        simp only [l, decide_false]
        constructor
        · intro z; cases z
        · intro z; omega
theorem vl_congr {a b : Nat → Nat} : ∀ q i, (∀ j, i ≤ j → j < i + q → a j = b j) → vlF a q i = vlF b q i := by
  intro q
  induction q with
  | zero => intro i _; rfl
  | succ q ih =>
    intro i h
    unfold vlF
    rw [h i (Nat.le_refl _) (by omega), ih (i + 1) (fun j h1 h2 => h j (by omega) (by omega))]
theorem wdK_lt (l : List Nat) (e : Nat) : wdK l e < 2 ^ l.length := by
  have A : ∀ (l : List Nat) w c, w < 2 ^ c → l.foldl (fun w x => 2 * w + x / 2 ^ e % 2) w < 2 ^ (c + l.length) := by
    intro l
    induction l with
    | nil => intro w c h; exact h
    | cons x l ih =>
      intro w c h
      have h2 : x / 2 ^ e % 2 < 2 := Nat.mod_lt _ (by decide)
      have := ih (2 * w + x / 2 ^ e % 2) (c + 1) (by rw [Nat.pow_succ]; omega)
      rw [List.length_cons, show c + (l.length + 1) = c + 1 + l.length by omega]
      exact this
  have := A l 0 0 (by decide)
  rw [Nat.zero_add] at this
  exact this
theorem ks_len (D : sp_D) (m : Bool) (f : Nat) : (srN (ksF D m f)).length = dr D := by
  rw [(srN_perm _).length_eq]
  unfold ksF
  rw [List.length_map, List.length_range]
theorem roF_lt {D : sp_D} (hr : dr D ≤ 10) (m : Bool) (f i : Nat) : roF D m f i < 1024 := by
  unfold roF
  have := wdK_lt (srN (ksF D m f)) (dn D - 1 - i)
  rw [ks_len] at this
  have h2 : 2 ^ dr D ≤ 2 ^ 10 := Nat.pow_le_pow_right (n := 2) (by decide) hr
  omega
theorem miF_lt {D : sp_D} (hr : dr D ≤ 10) (m : Bool) {b : Nat → Nat} (hb : ∀ i, b i < 2048) : ∀ f i, miF D m b f i < 2048 := by
  intro f
  induction f with
  | zero => exact hb
  | succ f ih =>
    intro i
    unfold miF
    split
    · have := roF_lt hr m f i; omega
    · exact ih i
theorem miF_step {D : sp_D} (hr : dr D ≤ 10) (m : Bool) {b : Nat → Nat} (hb : ∀ i, b i < 2048) (f : Nat) : vlF (roF D m f) (dn D) 0 < vlF (miF D m b f) (dn D) 0 ∧ miF D m b (f + 1) = roF D m f ∨ vlF (miF D m b f) (dn D) 0 ≤ vlF (roF D m f) (dn D) 0 ∧ miF D m b (f + 1) = miF D m b f := by
  have q := ltF_vl (a := roF D m f) (b := miF D m b f) (fun i => by have := roF_lt hr m f i; omega) (miF_lt hr m hb f) (dn D) 0
  by_cases l : ltF (roF D m f) (miF D m b f) (dn D) 0 = true
  · refine Or.inl ⟨q.mp l, ?_⟩
    show (if _ then _ else _) = _
    rw [if_pos l]
  · refine Or.inr ⟨Nat.not_lt.mp (fun z => l (q.mpr z)), ?_⟩
    show (if _ then _ else _) = _
    rw [if_neg l]
theorem miF_dec {D : sp_D} (hr : dr D ≤ 10) (m : Bool) {b : Nat → Nat} (hb : ∀ i, b i < 2048) (f : Nat) : vlF (miF D m b (f + 1)) (dn D) 0 ≤ vlF (miF D m b f) (dn D) 0 ∧ vlF (miF D m b (f + 1)) (dn D) 0 ≤ vlF (roF D m f) (dn D) 0 := by
  rcases miF_step hr m hb f with ⟨h1, h2⟩ | ⟨h1, h2⟩
  · rw [h2]; omega
  · rw [h2]; omega
theorem miF_le_b {D : sp_D} (hr : dr D ≤ 10) (m : Bool) {b : Nat → Nat} (hb : ∀ i, b i < 2048) : ∀ f, vlF (miF D m b f) (dn D) 0 ≤ vlF b (dn D) 0
  | 0 => Nat.le_refl _
  | f + 1 => Nat.le_trans (miF_dec hr m hb f).1 (miF_le_b hr m hb f)
theorem miF_le {D : sp_D} (hr : dr D ≤ 10) (m : Bool) {b : Nat → Nat} (hb : ∀ i, b i < 2048) : ∀ f g, g < f → vlF (miF D m b f) (dn D) 0 ≤ vlF (roF D m g) (dn D) 0 := by
  intro f
  induction f with
  | zero => intro g hg; omega
  | succ f ih =>
    intro g hg
    have := miF_dec hr m hb f
    by_cases e : g = f
    · rw [e]; exact this.2
    · exact Nat.le_trans this.1 (ih g (by omega))
theorem miF_att {D : sp_D} (hr : dr D ≤ 10) (m : Bool) {b : Nat → Nat} (hb : ∀ i, b i < 2048) : ∀ f, miF D m b f = b ∨ ∃ g, g < f ∧ miF D m b f = roF D m g := by
  intro f
  induction f with
  | zero => exact Or.inl rfl
  | succ f ih =>
    rcases miF_step hr m hb f with ⟨h1, h2⟩ | ⟨h1, h2⟩
    · exact Or.inr ⟨f, by omega, h2⟩
    · rcases ih with ih | ⟨g, hg, ih⟩
      · exact Or.inl (h2.trans ih)
      · exact Or.inr ⟨g, by omega, h2.trans ih⟩
theorem miF_stay {D : sp_D} (hr : dr D ≤ 10) (m : Bool) {b : Nat → Nat} (hb : ∀ i, b i < 2048) {f : Nat} (h : ∀ g, f ≤ g → g < dn D → vlF (miF D m b g) (dn D) 0 ≤ vlF (roF D m g) (dn D) 0) : ∀ q, f + q ≤ dn D → miF D m b (f + q) = miF D m b f := by
  intro q
  induction q with
  | zero => intro _; rfl
  | succ q ih =>
    intro hq
    have i1 := ih (by omega)
    rcases miF_step hr m hb (f + q) with ⟨h1, h2⟩ | ⟨h1, h2⟩
    · exact absurd (h (f + q) (by omega) (by omega)) (by omega)
    · exact h2.trans i1
/-! turned columns -/
theorem kyF_wo (D : sp_D) (m : Bool) (f k : Nat) : ∀ i, kyF D m f i k = woA (clF D m f k) i
  | 0 => rfl
  | i + 1 => by
    unfold kyF woA
    rw [kyF_wo D m f k i]
theorem woA_congr {β β' : Nat → Bool} : ∀ r, (∀ p, p < r → β p = β' p) → woA β r = woA β' r
  | 0, _ => rfl
  | r + 1, h => by
    unfold woA
    rw [woA_congr r (fun p hp => h p (by omega)), h r (by omega)]
theorem toN_inj {a b : Bool} (h : a.toNat = b.toNat) : a = b := by cases a <;> cases b <;> first | rfl | exact absurd h (by decide)
theorem toN_le (a : Bool) : a.toNat ≤ 1 := by cases a <;> decide
theorem woA_inj {β β' : Nat → Bool} : ∀ r, woA β r = woA β' r → ∀ p, p < r → β p = β' p
  | 0, _, p, hp => absurd hp (Nat.not_lt_zero p)
  | r + 1, h, p, hp => by
    unfold woA at h
    have h1 := toN_le (β r)
    have h2 := toN_le (β' r)
    by_cases e : p = r
    · rw [e]
      exact toN_inj (by omega)
    · exact woA_inj r (by omega) p (by omega)
theorem woA_shift (β : Nat → Bool) : ∀ n, woA β (n + 1) = (β 0).toNat * 2 ^ n + woA (fun i => β (i + 1)) n
  | 0 => by
    simp [woA]
  | n + 1 => by
    have ih := woA_shift β n
    show 2 * woA β (n + 1) + (β (n + 1)).toNat = _ + (2 * woA (fun i => β (i + 1)) n + (β (n + 1)).toNat)
    rw [ih, Nat.pow_succ, Nat.mul_add, ← Nat.mul_assoc, Nat.mul_comm 2 _, ← Nat.mul_assoc]
    rw [Nat.mul_assoc, Nat.mul_assoc, Nat.mul_comm 2 (2 ^ n)]
    omega
def rtN (n x : Nat) : Nat := 2 * x + x / 2 ^ (n - 1) - x / 2 ^ (n - 1) * 2 ^ n
theorem woA_rt {β : Nat → Bool} {n : Nat} (hn : 1 ≤ n) (h : β n = β 0) : woA (fun i => β (i + 1)) n = rtN n (woA β n) := by
  obtain ⟨m, rfl⟩ : ∃ m, n = m + 1 := ⟨n - 1, by omega⟩
  have s1 := woA_shift β (m + 1)
  have s0 := woA_shift β m
  have t : woA β (m + 1) / 2 ^ m = (β 0).toNat := by
    rw [s0, Nat.mul_comm, Nat.mul_add_div (Nat.two_pow_pos m), Nat.div_eq_of_lt (woA_lt _ m), Nat.add_zero]
  unfold rtN
  rw [show m + 1 - 1 = m from rfl, t]
  have s2 : woA β (m + 1 + 1) = 2 * woA β (m + 1) + (β (m + 1)).toNat := rfl
  rw [h] at s2
  omega
theorem ks_next {D : sp_D} (hn : 1 ≤ dn D) (f : Nat) : ksF D false (f + 1) = (ksF D false f).map (rtN (dn D)) := by
  unfold ksF
  rw [List.map_map]
  congr 1
  funext k
  show kyF D false (f + 1) (dn D) k = rtN (dn D) (kyF D false f (dn D) k)
  rw [kyF_wo, kyF_wo, ← woA_rt hn]
  · refine woA_congr _ (fun i _ => ?_)
    unfold clF stF
    rw [if_neg (by decide), if_neg (by decide), show f + 1 + i = f + (i + 1) by omega]
  · unfold clF stF
    rw [if_neg (by decide), if_neg (by decide), Nat.add_mod_right, Nat.add_zero]
theorem ks_prev {D : sp_D} (hn : 1 ≤ dn D) (f : Nat) : ksF D true f = (ksF D true (f + 1)).map (rtN (dn D)) := by
  unfold ksF
  rw [List.map_map]
  congr 1
  funext k
  show kyF D true f (dn D) k = rtN (dn D) (kyF D true (f + 1) (dn D) k)
  rw [kyF_wo, kyF_wo, ← woA_rt hn]
  · refine woA_congr _ (fun i _ => ?_)
    unfold clF stF
    rw [if_pos rfl, if_pos rfl, show f + 1 + dn D - (i + 1) = f + dn D - i by omega]
  · unfold clF stF
    rw [if_pos rfl, if_pos rfl, Nat.add_sub_cancel, Nat.sub_zero, Nat.add_mod_right]
theorem ks_mod {D : sp_D} (m : Bool) (f : Nat) : ksF D m (f + dn D) = ksF D m f := by
  unfold ksF
  congr 1
  funext k
  rw [kyF_wo, kyF_wo]
  refine woA_congr _ (fun i hi => ?_)
  unfold clF stF
  cases m with
  | false => rw [if_neg (by decide), if_neg (by decide), show f + dn D + i = f + i + dn D by omega, Nat.add_mod_right]
  | true => rw [if_pos rfl, if_pos rfl, show f + dn D + dn D - i = f + dn D - i + dn D by omega, Nat.add_mod_right]
theorem ks_mods {D : sp_D} (m : Bool) (f : Nat) : ∀ c, ksF D m (f + dn D * c) = ksF D m f
  | 0 => rfl
  | c + 1 => by rw [Nat.mul_succ, ← Nat.add_assoc, ks_mod, ks_mods m f c]
theorem ks_rem {D : sp_D} (m : Bool) (f : Nat) : ksF D m (f % dn D) = ksF D m f := by
  have := ks_mods (D := D) m (f % dn D) (f / dn D)
  rw [Nat.mod_add_div] at this
  exact this.symm
theorem ks_back {D : sp_D} (hn : 1 ≤ dn D) (f : Nat) : ksF D true (f + (dn D - 1)) = (ksF D true f).map (rtN (dn D)) := by
  rw [ks_prev hn, show f + (dn D - 1) + 1 = f + dn D by omega, ks_mod]
theorem pe_ff {D : sp_D} (hn : 1 ≤ dn D) {f g : Nat} (h : (ksF D false f).Perm (ksF D false g)) : ∀ d, (ksF D false (f + d)).Perm (ksF D false (g + d))
  | 0 => h
  | d + 1 => by
    rw [← Nat.add_assoc, ← Nat.add_assoc, ks_next hn, ks_next hn]
    exact (pe_ff hn h d).map _
theorem pe_tj {D : sp_D} (hn : 1 ≤ dn D) {f g : Nat} (h : (ksF D true f).Perm (ksF D true g)) : ∀ j, (ksF D true (f + j * (dn D - 1))).Perm (ksF D true (g + j * (dn D - 1)))
  | 0 => by rw [Nat.zero_mul]; exact h
  | j + 1 => by
    rw [Nat.add_mul, Nat.one_mul, ← Nat.add_assoc, ← Nat.add_assoc, ks_back hn, ks_back hn]
    exact (pe_tj hn h j).map _
theorem tj_e {n d : Nat} (hd : d < n) (f : Nat) : f + (n - d) * (n - 1) = f + d + n * (n - d - 1) := by
  obtain ⟨c, rfl⟩ : ∃ c, n = d + c + 1 := ⟨n - d - 1, by omega⟩
  rw [show d + c + 1 - d = c + 1 by omega, show d + c + 1 - 1 = d + c by omega, show c + 1 - 1 = c by omega, Nat.add_mul, Nat.add_mul, Nat.one_mul, Nat.one_mul, Nat.mul_add, Nat.add_mul]
  have := Nat.mul_comm c d
  omega
theorem pe_tt {D : sp_D} (hn : 1 ≤ dn D) {f g : Nat} (h : (ksF D true f).Perm (ksF D true g)) {d : Nat} (hd : d < dn D) : (ksF D true (f + d)).Perm (ksF D true (g + d)) := by
  have := pe_tj hn h (dn D - d)
  rw [tj_e hd, tj_e hd, ks_mods, ks_mods] at this
  exact this
theorem pe_fj {D : sp_D} (hn : 1 ≤ dn D) {f g : Nat} (h : (ksF D true f).Perm (ksF D false g)) : ∀ j, (ksF D true (f + j * (dn D - 1))).Perm (ksF D false (g + j))
  | 0 => by rw [Nat.zero_mul]; exact h
  | j + 1 => by
    rw [Nat.add_mul, Nat.one_mul, ← Nat.add_assoc, ← Nat.add_assoc, ks_back hn, ks_next hn]
    exact (pe_fj hn h j).map _
theorem pe_tf {D : sp_D} (hn : 1 ≤ dn D) {f g : Nat} (h : (ksF D true f).Perm (ksF D false g)) {d : Nat} (hd : d < dn D) : ∃ g', g' < dn D ∧ (ksF D true (f + d)).Perm (ksF D false g') := by
  have := pe_fj hn h (dn D - d)
  rw [tj_e hd, ks_mods, ← ks_rem false (g + (dn D - d))] at this
  exact ⟨_, Nat.mod_lt _ (by omega), this⟩
theorem pe_row {D : sp_D} {m m' : Bool} {f g : Nat} (h : (ksF D m f).Perm (ksF D m' g)) (i : Nat) : roF D m f i = roF D m' g i := by
  unfold roF
  rw [srN_congr h]
theorem li_range {l : List Nat} {r : Nat} (h : l.length = r) : l = (List.range r).map (fun p => l.getD p 0) := by
  subst h
  refine List.ext_getElem (by simp) (fun i h1 h2 => ?_)
  simp [List.getElem?_eq_getElem h1]
theorem li_gd {l : List Nat} {p : Nat} (h : p < l.length) : l.getD p 0 = l[p] := by
  rw [List.getD_eq_getElem?_getD, List.getElem?_eq_getElem h, Option.getD_some]
theorem row_pe {D : sp_D} {m m' : Bool} {f g : Nat} (h : ∀ i, i < dn D → roF D m f i = roF D m' g i) : (ksF D m f).Perm (ksF D m' g) := by
  have small : ∀ (m : Bool) (f x : Nat), x ∈ srN (ksF D m f) → x < 2 ^ dn D := fun m f x hx => by
    have := (srN_perm _).mem_iff.mp hx
    obtain ⟨k, _, rfl⟩ := List.mem_map.mp this
    exact kyF_lt D m f (dn D) k
  have l1 := ks_len D m f
  have l2 := ks_len D m' g
  have e : srN (ksF D m f) = srN (ksF D m' g) := by
    refine List.ext_getElem (by rw [l1, l2]) (fun p h1 h2 => ?_)
    refine Nat.eq_of_testBit_eq (fun e => ?_)
    by_cases he : e < dn D
    · have q := h (dn D - 1 - e) (by omega)
      unfold roF at q
      rw [show dn D - 1 - (dn D - 1 - e) = e by omega, li_range l1, li_range l2, wdK_range, wdK_range] at q
      have q2 := woA_inj _ q p (by omega)
      rw [li_gd h1, li_gd h2] at q2
      rw [Nat.testBit_eq_decide_div_mod_eq, Nat.testBit_eq_decide_div_mod_eq]
      exact q2
    · have s1 := small m f _ (List.getElem_mem h1)
      have s2 := small m' g _ (List.getElem_mem h2)
      have hp : 2 ^ dn D ≤ 2 ^ e := Nat.pow_le_pow_right (n := 2) (by decide) (by omega)
      rw [Nat.testBit_lt_two_pow (by omega), Nat.testBit_lt_two_pow (by omega)]
  exact ((srN_perm _).symm.trans (by rw [e])).trans (srN_perm _)
theorem pe_vl {D : sp_D} {m m' : Bool} {f g : Nat} (h : (ksF D m f).Perm (ksF D m' g)) : vlF (roF D m f) (dn D) 0 = vlF (roF D m' g) (dn D) 0 := vl_congr _ _ (fun j _ _ => pe_row h j)
/-- above all words -/
def toF : Nat → Nat := fun _ => 1024
theorem toF_lt (i : Nat) : toF i < 2048 := show 1024 < 2048 by decide
theorem ex_f {D : sp_D} (hn : 1 ≤ dn D) (hr : dr D ≤ 10) {f : Nat} (hf : f < dn D) (h : ∀ i, i < dn D → roF D false f i = miF D false toF f i) : miF D false toF (dn D) = miF D false toF f := by
  rcases miF_att hr false toF_lt f with e | ⟨g, hg, e⟩
  · have := h 0 hn
    rw [e] at this
    have h2 := roF_lt hr false f 0
    rw [this] at h2
    exact absurd h2 (by show ¬ 1024 < 1024; decide)
  · rw [e] at h
    have P := row_pe h
    have := miF_stay hr false toF_lt (f := f) (fun h' h1 h2 => by
      have p := pe_vl (pe_ff hn P (h' - f))
      rw [show f + (h' - f) = h' by omega] at p
      rw [p]
      exact miF_le hr false toF_lt h' _ (by omega)) (dn D - f) (by omega)
    rw [show f + (dn D - f) = dn D by omega] at this
    exact this
theorem top_att {D : sp_D} (hn : 1 ≤ dn D) (hr : dr D ≤ 10) : ∃ g, g < dn D ∧ miF D false toF (dn D) = roF D false g := by
  rcases miF_att hr false toF_lt (dn D) with e | e
  · have h1 := miF_le hr false toF_lt (dn D) 0 hn
    rw [e] at h1
    obtain ⟨m, hm⟩ : ∃ m, dn D = m + 1 := ⟨dn D - 1, by omega⟩
    rw [hm] at h1
    have := vl_lt (q := m) (i := 0) (a := roF D false 0) (b := toF) (roF_lt hr false 0 0) (fun i => by have := roF_lt hr false 0 i; omega)
    omega
  · exact e
theorem ex_t {D : sp_D} (hn : 1 ≤ dn D) (hr : dr D ≤ 10) {f : Nat} (hf : f < dn D) (h : ∀ i, i < dn D → roF D true f i = miF D true (miF D false toF (dn D)) f i) : miF D true (miF D false toF (dn D)) (dn D) = miF D true (miF D false toF (dn D)) f := by
  have hb := miF_lt hr false toF_lt (dn D)
  have go : ∀ B : Nat → Nat, (∀ i, B i < 2048) → (∀ h', f ≤ h' → h' < dn D → vlF (miF D true B h') (dn D) 0 ≤ vlF (roF D true h') (dn D) 0) → miF D true B (dn D) = miF D true B f := fun B hB hh => by
    have := miF_stay hr true hB (f := f) hh (dn D - f) (by omega)
    rw [show f + (dn D - f) = dn D by omega] at this
    exact this
  rcases miF_att hr true hb f with e | ⟨g, hg, e⟩
  · obtain ⟨g, hg, e2⟩ := top_att hn hr
    rw [e, e2] at h
    have P := row_pe h
    refine go _ hb (fun h' h1 h2 => ?_)
    obtain ⟨g', hg', p⟩ := pe_tf hn P (d := h' - f) (by omega)
    rw [show f + (h' - f) = h' by omega] at p
    rw [pe_vl p]
    exact Nat.le_trans (miF_le_b hr true hb h') (miF_le hr false toF_lt (dn D) g' hg')
  · rw [e] at h
    have P := row_pe h
    refine go _ hb (fun h' h1 h2 => ?_)
    have p := pe_vl (pe_tt hn P (d := h' - f) (by omega))
    rw [show f + (h' - f) = h' by omega] at p
    rw [p]
    exact miF_le hr true hb h' _ (by omega)
theorem top_fr {D : sp_D} (hn : 1 ≤ dn D) (hr : dr D ≤ 10) : ∀ q, miF D false toF (q + 1) = miF D false (roF D false 0) (q + 1) := by
  have hR : ∀ i, roF D false 0 i < 2048 := fun i => by have := roF_lt hr false 0 i; omega
  intro q
  induction q with
  | zero =>
    obtain ⟨m, hm⟩ : ∃ m, dn D = m + 1 := ⟨dn D - 1, by omega⟩
    have l := vl_lt (q := m) (i := 0) (a := roF D false 0) (b := toF) (roF_lt hr false 0 0) hR
    rw [← hm] at l
    have e1 : miF D false toF 1 = roF D false 0 := by
      rcases miF_step hr false toF_lt 0 with ⟨h1, h2⟩ | ⟨h1, h2⟩
      · exact h2
      · exact absurd h1 (Nat.not_le.mpr l)
    have e2 : miF D false (roF D false 0) 1 = roF D false 0 := by
      rcases miF_step hr false hR 0 with ⟨h1, h2⟩ | ⟨h1, h2⟩
      · exact h2
      · exact h2
    rw [e1, e2]
  | succ q ih =>
    show (if ltF _ (miF D false toF (q + 1)) _ _ = true then _ else miF D false toF (q + 1)) = if ltF _ (miF D false (roF D false 0) (q + 1)) _ _ = true then _ else miF D false (roF D false 0) (q + 1)
    rw [ih]
theorem fr_top {D : sp_D} (hn : 1 ≤ dn D) (hr : dr D ≤ 10) : frF D = miF D true (miF D false toF (dn D)) (dn D) := by
  obtain ⟨m, hm⟩ : ∃ m, dn D = m + 1 := ⟨dn D - 1, by omega⟩
  have := top_fr hn hr m
  rw [← hm] at this
  unfold frF
  rw [this]
theorem fr_lt {D : sp_D} (hn : 1 ≤ dn D) (hr : dr D ≤ 10) (i : Nat) : frF D i < 1024 := by
  have A : ∀ (m : Bool) (b : Nat → Nat), (∀ i, b i < 1024) → ∀ f i, miF D m b f i < 1024 := by
    intro m b hb f
    induction f with
    | zero => exact hb
    | succ f ih =>
      intro i
      unfold miF
      split
      · exact roF_lt hr m f i
      · exact ih i
  exact A true _ (A false _ (roF_lt hr false 0) _) _ i
