/-! THE WORLD: how the cells of the small machine lie in the heap. G: the classes and their slots, the classes of the arrays, the addresses of the cells -/
abbrev am_G : Type := va_G × (Nat → ClassId) × (Nat → Nat)
def am_g (G : am_G) : Value → Value := fun v => match v with
  | .ref k => .ref (G.2.2 k)
  | v => v
def am_E (G : am_G) (σ : am_S) (k : Nat) : va_E :=
  if am_kind k = 11 then .inl (G.2.1 11, am_len k, .inl (σ.1 k))
  else if am_kind k = 12 then .inl (G.2.1 12, am_len k, .inr (.inl (σ.2 k)))
  else if am_kind k = 13 then .inl (G.2.1 13, am_len k, .inl (σ.1 k))
  else if am_kind k = 14 then .inl (G.2.1 14, am_len k, .inr (.inr (.inr (.inr (fun i => some (G.2.2 (am_link k i)))))))
  else .inr (am_kind k, (List.range (am_len k)).map (fun i => am_g G (am_av σ k i)))
def am_ws (G : am_G) (σ : am_S) : va_W := (List.range 169).map (fun k => (G.2.2 k, am_E G σ k))
def am_A (G : am_G) : Nat → Prop := fun q => ∃ k, k < 169 ∧ q = G.2.2 k
def am_tys (G : am_G) : List (ClassId × FieldType) := [(G.2.1 11, .int), (G.2.1 12, .long), (G.2.1 13, .boolean), (G.2.1 14, .object "WheelDisc$Disc")]
theorem am_get (G : am_G) (σ : am_S) {k : Nat} (h : k < 169) : (am_ws G σ)[k]? = some (G.2.2 k, am_E G σ k) := by
  simp [am_ws, h]
theorem am_kind_lt {k : Nat} (h : am_kind k < 15) : k < 169 := by
  rcases Nat.lt_or_ge k 169 with g | g
  · exact g
  · exfalso
    have h1 : am_cell k = (99, 0) := by
      unfold am_cell
      rw [if_neg (by omega), if_neg (by omega)]
      rw [List.getD_eq_getElem?_getD, List.getElem?_eq_none (by show 16 ≤ k - 153; omega)]
      rfl
    unfold am_kind at h
    rw [h1] at h
    omega
theorem am_cn_ok {k : Nat} {C : String} (h : am_cn k = C) (hne : C ≠ "") : ∃ q : vw_C, am_cl[am_kind k]? = some q ∧ q.1 = C ∧ am_kind k < 11 := by
  unfold am_cn at h
  cases hq : am_cl[am_kind k]? with
  | none => rw [hq] at h; exact absurd h.symm hne
  | some q =>
    rw [hq] at h
    exact ⟨q, rfl, h, (List.getElem?_eq_some_iff.mp hq).1⟩
theorem am_lay_ok : ∀ k, k < 33 → ((am_lay.getD k (99, 0)).1 < 11 → am_cl[(am_lay.getD k (99, 0)).1]?.map (fun q => q.2.2) = some (am_lay.getD k (99, 0)).2) := by decide +kernel
theorem am_layR_ok : ∀ k, k < 4 → ((am_layR.getD k (99, 0)).1 < 11 → am_cl[(am_layR.getD k (99, 0)).1]?.map (fun q => q.2.2) = some (am_layR.getD k (99, 0)).2) := by decide +kernel
theorem am_layM_ok : ∀ k, k < 16 → ((am_layM.getD k (99, 0)).1 < 11 → am_cl[(am_layM.getD k (99, 0)).1]?.map (fun q => q.2.2) = some (am_layM.getD k (99, 0)).2) := by decide +kernel
/-- an object has as many slots as its class has fields -/
theorem am_nf {k : Nat} {q : vw_C} (h : am_cl[am_kind k]? = some q) : am_len k = q.2.2 := by
  have h1 : am_kind k < 11 := (List.getElem?_eq_some_iff.mp h).1
  have hk := am_kind_lt (k := k) (by omega)
  have key : am_kind k < 11 → am_cl[am_kind k]?.map (fun q => q.2.2) = some (am_len k) := by
    unfold am_kind am_len am_cell
    split
    · exact am_lay_ok k (by assumption)
    · split
      · exact am_layR_ok ((k - 33) % 4) (Nat.mod_lt _ (by decide))
      · exact am_layM_ok (k - 153) (by omega)
  have h2 := key h1
  rw [h] at h2
  exact (Option.some.inj h2).symm
theorem am_E11 {G : am_G} {σ : am_S} {k : Nat} (h : am_kind k = 11) : am_E G σ k = .inl (G.2.1 11, am_len k, .inl (σ.1 k)) := by unfold am_E; rw [if_pos h]
theorem am_E12 {G : am_G} {σ : am_S} {k : Nat} (h : am_kind k = 12) : am_E G σ k = .inl (G.2.1 12, am_len k, .inr (.inl (σ.2 k))) := by unfold am_E; rw [if_neg (by omega), if_pos h]
theorem am_E13 {G : am_G} {σ : am_S} {k : Nat} (h : am_kind k = 13) : am_E G σ k = .inl (G.2.1 13, am_len k, .inl (σ.1 k)) := by unfold am_E; rw [if_neg (by omega), if_neg (by omega), if_pos h]
theorem am_E14 {G : am_G} {σ : am_S} {k : Nat} (h : am_kind k = 14) : am_E G σ k = .inl (G.2.1 14, am_len k, .inr (.inr (.inr (.inr (fun i => some (G.2.2 (am_link k i))))))) := by unfold am_E; rw [if_neg (by omega), if_neg (by omega), if_neg (by omega), if_pos h]
theorem am_Eo {G : am_G} {σ : am_S} {k : Nat} (h : am_kind k < 11) : am_E G σ k = .inr (am_kind k, (List.range (am_len k)).map (fun i => am_g G (am_av σ k i))) := by unfold am_E; rw [if_neg (by omega), if_neg (by omega), if_neg (by omega), if_neg (by omega)]
/-- a world in which one cell has changed -/
theorem am_ws_set (G : am_G) {σ τ : am_S} {k : Nat} {e : va_E} (he : e = am_E G τ k) (h : ∀ j, j ≠ k → τ.1 j = σ.1 j ∧ τ.2 j = σ.2 j) : (am_ws G σ).set k (G.2.2 k, e) = am_ws G τ := by
  subst he
  apply List.ext_getElem?
  intro j
  rcases Nat.lt_or_ge j 169 with hj | hj
  · rw [am_get G τ hj]
    by_cases hjk : j = k
    · subst hjk
      rw [List.getElem?_set_self (by simp [am_ws]; exact hj)]
    · rw [List.getElem?_set_ne (fun q => hjk q.symm), am_get G σ hj]
      obtain ⟨h1, h2⟩ := h j hjk
      have : am_E G σ j = am_E G τ j := by
        unfold am_E am_av
        rw [h1, h2]
      rw [this]
  · rw [List.getElem?_eq_none (by simp [am_ws]; exact hj), List.getElem?_eq_none (by simp [am_ws]; exact hj)]
theorem am_upI_row (σ : am_S) (k i : Nat) (v : Int32) : (am_upI σ k i v).1 k = upd (σ.1 k) i v := by
  funext j
  simp [am_upI, upd]
theorem am_upI_ne (σ : am_S) {k j : Nat} (i : Nat) (v : Int32) (h : j ≠ k) : (am_upI σ k i v).1 j = σ.1 j ∧ (am_upI σ k i v).2 j = σ.2 j := by
  refine ⟨?_, rfl⟩
  funext q
  simp [am_upI, h]
theorem am_upJ_row (σ : am_S) (k i : Nat) (v : Int64) : (am_upJ σ k i v).2 k = vp_updL (σ.2 k) i v := by
  funext j
  simp [am_upJ, vp_updL]
theorem am_upJ_ne (σ : am_S) {k j : Nat} (i : Nat) (v : Int64) (h : j ≠ k) : (am_upJ σ k i v).1 j = σ.1 j ∧ (am_upJ σ k i v).2 j = σ.2 j := by
  refine ⟨rfl, ?_⟩
  funext q
  simp [am_upJ, h]
theorem am_cpI_row (σ : am_S) (a b sp dp n : Nat) : (am_cpI σ a b sp dp n).1 b = va_cpy (σ.1 a) (σ.1 b) sp dp n := by
  funext j
  simp [am_cpI]
theorem am_cpI_ne (σ : am_S) {a b sp dp n j : Nat} (h : j ≠ b) : (am_cpI σ a b sp dp n).1 j = σ.1 j ∧ (am_cpI σ a b sp dp n).2 j = σ.2 j := by
  refine ⟨?_, rfl⟩
  funext q
  simp [am_cpI, h]
theorem am_cpJ_row (σ : am_S) (a b sp dp n : Nat) : (am_cpJ σ a b sp dp n).2 b = va_cpy (σ.2 a) (σ.2 b) sp dp n := by
  funext j
  simp [am_cpJ]
theorem am_cpJ_ne (σ : am_S) {a b sp dp n j : Nat} (h : j ≠ b) : (am_cpJ σ a b sp dp n).1 j = σ.1 j ∧ (am_cpJ σ a b sp dp n).2 j = σ.2 j := by
  refine ⟨rfl, ?_⟩
  funext q
  simp [am_cpJ, h]
/-- a field that becomes another number -/
theorem am_put_row (G : am_G) (σ : am_S) {k i : Nat} {x : Int32} (hk : am_kind k < 11) (hi : am_fk (am_kind k) i ≠ 2) : (Sum.inr (am_kind k, ((List.range (am_len k)).map (fun j => am_g G (am_av σ k j))).set i (.int x)) : va_E) = am_E G (am_upI σ k i x) k := by
  rw [am_Eo hk]
  congr 2
  apply List.ext_getElem?
  intro j
  by_cases hj : j < am_len k
  · by_cases hji : j = i
    · subst hji
      rw [List.getElem?_set_self (by simpa using hj)]
      simp [hj, am_av, hi, am_upI, am_g]
    · rw [List.getElem?_set_ne (fun q => hji q.symm)]
      simp [hj, am_av, am_upI, hji]
  · rw [List.getElem?_eq_none (by simpa using hj), List.getElem?_eq_none (by simpa using hj)]
/-! the locals -/
def am_al (G : am_G) : Nat → List Value → List (Nat × Value)
  | _, [] => []
  | i, v :: vs => if v = .null then am_al G (i + 1) vs else (i, am_g G v) :: am_al G (i + 1) vs
theorem am_al_mem (G : am_G) : ∀ (vs : List Value) (i : Nat) (q : Nat × Value), q ∈ am_al G i vs ↔ ∃ (j : Nat) (v : Value), vs[j]? = some v ∧ v ≠ .null ∧ q = (i + j, am_g G v) := by
  intro vs
  induction vs with
  | nil => intro i q; simp [am_al]
  | cons w vs ih =>
    intro i q
    unfold am_al
    split
    · rename_i hw
      rw [ih (i + 1) q]
      constructor
      · rintro ⟨j, v, h1, h2, h3⟩
        exact ⟨j + 1, v, by simpa using h1, h2, by rw [h3]; congr 1; omega⟩
      · rintro ⟨j, v, h1, h2, h3⟩
        cases j with
        | zero => simp at h1; exact absurd (h1 ▸ hw) h2
        | succ j => exact ⟨j, v, by simpa using h1, h2, by rw [h3]; congr 1; omega⟩
    · rename_i hw
      rw [List.mem_cons, ih (i + 1) q]
      constructor
      · rintro (h | ⟨j, v, h1, h2, h3⟩)
        · exact ⟨0, w, rfl, hw, by rw [h]; rfl⟩
        · exact ⟨j + 1, v, by simpa using h1, h2, by rw [h3]; congr 1; omega⟩
      · rintro ⟨j, v, h1, h2, h3⟩
        cases j with
        | zero => simp at h1; subst h1; exact Or.inl (by rw [h3]; rfl)
        | succ j => exact Or.inr ⟨j, v, by simpa using h1, h2, by rw [h3]; congr 1; omega⟩
def am_L (G : am_G) (vs : List Value) (ls : Array Slot) (nL : Nat) : Prop := vs.length = nL ∧ lv_has ls nL (am_al G 0 vs)
theorem am_L.at {G : am_G} {vs : List Value} {ls : Array Slot} {nL : Nat} (h : am_L G vs ls nL) {k : Nat} {v : Value} (hv : vs[k]? = some v) (hn : v ≠ .null) : ls[k]? = some (.val (am_g G v)) := by
  have := h.2.2.2 (k, am_g G v) ((am_al_mem G vs 0 _).mpr ⟨k, v, hv, hn, by simp⟩)
  exact this
theorem am_has_sub {ls : Array Slot} {nL : Nat} {l l' : List (Nat × Value)} (h : lv_has ls nL l) (hs : ∀ q ∈ l', q ∈ l) : lv_has ls nL l' := ⟨h.1, h.2.1, fun q hq => h.2.2 q (hs q hq)⟩
theorem am_g_cat (G : am_G) (v : Value) : (am_g G v).category = v.category := by cases v <;> rfl
theorem am_cat2 {v : Value} (h : v.category = 2) (hd : ∀ b, v ≠ .double b) : ∃ x, v = .long x := by
  cases v with
  | long x => exact ⟨x, rfl⟩
  | double b => exact absurd rfl (hd b)
  | _ => simp [Value.category] at h
/-- no double among the locals -/
def am_nd (vs : List Value) : Prop := ∀ (j : Nat) (b : UInt64), vs[j]? ≠ some (.double b)
theorem am_st1_ok {vs : List Value} {i : Nat} (h : am_st1 vs i = true) : i < vs.length ∧ ∀ (j : Nat) (x : Int64), j + 1 = i → vs[j]? ≠ some (.long x) := by
  unfold am_st1 at h
  simp only [Bool.and_eq_true] at h
  refine ⟨by simpa using h.1, fun j x hj hx => ?_⟩
  subst hj
  have h2 := h.2
  simp only [hx] at h2
  cases h2
theorem am_st2_ok {vs : List Value} {i : Nat} (h : am_st2 vs i = true) : i + 1 < vs.length ∧ ∀ (j : Nat) (x : Int64), j + 1 = i → vs[j]? ≠ some (.long x) := by
  unfold am_st2 at h
  simp only [Bool.and_eq_true] at h
  refine ⟨by simpa using h.1, fun j x hj hx => ?_⟩
  subst hj
  have h2 := h.2
  simp only [hx] at h2
  cases h2
theorem am_L.set1 {G : am_G} {vs : List Value} {ls ls' : Array Slot} {nL i : Nat} {v : Value} (h : am_L G vs ls nL) (hd : am_nd vs) (hi : am_st1 vs i = true)
    (h' : lv_has ls' nL ((i, am_g G v) :: (am_al G 0 vs).filter (fun q => !(q.1 == i) && !(q.1 + 1 == i && q.2.category == 2)))) : am_L G (vs.set i v) ls' nL := by
  obtain ⟨hlt, hlong⟩ := am_st1_ok hi
  refine ⟨by simpa using h.1, am_has_sub h' fun q hq => ?_⟩
  obtain ⟨j, w, h1, h2, h3⟩ := (am_al_mem G _ 0 q).mp hq
  by_cases hj : j = i
  · subst hj
    rw [List.getElem?_set_self hlt] at h1
    cases h1
    rw [h3]
    simp
  · rw [List.getElem?_set_ne (fun z => hj z.symm)] at h1
    refine List.mem_cons_of_mem _ (List.mem_filter.mpr ⟨(am_al_mem G vs 0 q).mpr ⟨j, w, h1, h2, h3⟩, ?_⟩)
    rw [h3]
    simp only [Nat.zero_add, am_g_cat, Bool.and_eq_true, Bool.not_eq_true', beq_eq_false_iff_ne, ne_eq, Bool.and_eq_false_iff]
    refine ⟨hj, ?_⟩
    by_cases hc : w.category = 2
    · obtain ⟨x, rfl⟩ := am_cat2 hc (fun b z => hd j b (by rw [h1, z]))
      exact Or.inl fun z => hlong j x z h1
    · exact Or.inr hc
theorem am_L.set2 {G : am_G} {vs : List Value} {ls ls' : Array Slot} {nL i : Nat} {x : Int64} (h : am_L G vs ls nL) (hd : am_nd vs) (hi : am_st2 vs i = true)
    (h' : lv_has ls' nL ((i, .long x) :: (am_al G 0 vs).filter (fun q => !(q.1 == i) && (!(q.1 == i + 1) && !(q.1 + 1 == i && q.2.category == 2))))) : am_L G ((vs.set i (.long x)).set (i + 1) .null) ls' nL := by
  obtain ⟨hlt, hlong⟩ := am_st2_ok hi
  refine ⟨by simpa using h.1, am_has_sub h' fun q hq => ?_⟩
  obtain ⟨j, w, h1, h2, h3⟩ := (am_al_mem G _ 0 q).mp hq
  by_cases hj1 : j = i + 1
  · subst hj1
    rw [List.getElem?_set_self (by simpa using hlt)] at h1
    cases h1
    exact absurd rfl h2
  · rw [List.getElem?_set_ne (fun z => hj1 z.symm)] at h1
    by_cases hj : j = i
    · subst hj
      rw [List.getElem?_set_self (by omega)] at h1
      cases h1
      rw [h3]
      simp [am_g]
    · rw [List.getElem?_set_ne (fun z => hj z.symm)] at h1
      refine List.mem_cons_of_mem _ (List.mem_filter.mpr ⟨(am_al_mem G vs 0 q).mpr ⟨j, w, h1, h2, h3⟩, ?_⟩)
      rw [h3]
      simp only [Nat.zero_add, am_g_cat, Bool.and_eq_true, Bool.not_eq_true', beq_eq_false_iff_ne, ne_eq, Bool.and_eq_false_iff]
      refine ⟨hj, hj1, ?_⟩
      by_cases hc : w.category = 2
      · obtain ⟨y, rfl⟩ := am_cat2 hc (fun b z => hd j b (by rw [h1, z]))
        exact Or.inl fun z => hlong j y z h1
      · exact Or.inr hc
theorem am_nd.set {vs : List Value} (h : am_nd vs) (i : Nat) {v : Value} (hv : ∀ b, v ≠ .double b) : am_nd (vs.set i v) := by
  intro j b hj
  by_cases hji : j = i
  · subst hji
    rw [List.getElem?_set] at hj
    split at hj
    · split at hj
      · cases hj; exact hv b rfl
      · cases hj
    · exact h j b hj
  · rw [List.getElem?_set_ne (fun z => hji z.symm)] at hj
    exact h j b hj
