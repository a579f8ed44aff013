/-! THE START: every cell in its place; both begin alike -/
theorem arrV_congr {cA : ClassId} {N : Nat} {f g : Nat → Value} (h : ∀ j, j < N → f j = g j) : arrV cA N f = arrV cA N g := by
  unfold arrV
  have e : (fun j : Fin N => f j.val) = (fun j : Fin N => g j.val) := funext (fun j => h j.val j.isLt)
  rw [e]
section ST2
variable (D : va_G) (cls : Nat → ClassId) (u a b c d v : Nat → Nat) (bb : Nat) (xs : Nat → Int32) (L : Nat)
theorem adr_ring {i j : Nat} (hi : i < 30) (hj : j < 4) : adr u a b c d v bb (33 + 4 * i + j) = if j = 0 then a i else if j = 1 then b i else if j = 2 then c i else d i := by
  unfold adr
  rw [if_neg (by omega), if_pos (by omega), show (33 + 4 * i + j - 33) % 4 = j by omega, show (33 + 4 * i + j - 33) / 4 = i by omega]
theorem s0_ring {i j x : Nat} (hi : i < 30) (hj : j < 4) : s0 (33 + 4 * i + j) x = if j = 0 then (if x = 3 then 1 else 0) else 0 := by
  unfold s0
  rw [if_neg (by omega), if_neg (by omega), if_neg (by omega), if_neg (by omega), if_neg (by omega), if_neg (by omega), if_neg (by omega), if_neg (by omega), if_pos (by omega), show (33 + 4 * i + j - 33) % 4 = j by omega]
theorem st0_ring {i j : Nat} (hi : i < 30) (hj : j < 4) (x : Nat) : (st0 xs L).1 (33 + 4 * i + j) x = if j = 0 then (if x = 3 then 1 else 0) else 0 := by
  show (if 33 + 4 * i + j < 169 then s0 (33 + 4 * i + j) x else _) = _
  rw [if_pos (by omega), s0_ring hi hj]
theorem st_ring {i j : Nat} (hi : i < 30) (hj : j < 4) : (dW (stG D cls u a b c d v bb) a b c d i)[j]? = some (adr u a b c d v bb (33 + 4 * i + j), am_E (stG D cls u a b c d v bb) (st0 xs L) (33 + 4 * i + j)) := by
  have hd : am_isD (33 + 4 * i) := Or.inr ⟨i, hi, rfl⟩
  have hz : ∀ j, 1 ≤ j → j < 4 → (st0 xs L).1 (33 + 4 * i + j) = zI := fun j h1 h2 => by
    funext x
    rw [st0_ring xs L hi h2, if_neg (by omega)]
    rfl
  rcases (show j = 0 ∨ j = 1 ∨ j = 2 ∨ j = 3 by omega) with rfl | rfl | rfl | rfl
  · have hk : am_kind (33 + 4 * i + 0) = 0 := hd.kind
    have hl : am_len (33 + 4 * i + 0) = 6 := by
      unfold am_len
      rw [hd.cell 0 (by decide)]
      rfl
    rw [am_Eo (by rw [hk]; decide), hk, hl, adr_ring u a b c d v bb hi (by decide)]
    have lk : ∀ x, x < 3 → adr u a b c d v bb (am_link (33 + 4 * i + 0) x) = if x = 0 then b i else if x = 1 then c i else d i := fun x hx => by
      rw [show 33 + 4 * i + 0 = 33 + 4 * i from rfl, hd.link x, adr_ring u a b c d v bb hi (by omega)]
      rcases (show x = 0 ∨ x = 1 ∨ x = 2 by omega) with rfl | rfl | rfl <;> rfl
    have av : ∀ x, x < 3 → am_g (stG D cls u a b c d v bb) (am_av (st0 xs L) (33 + 4 * i + 0) x) = .ref (if x = 0 then b i else if x = 1 then c i else d i) := fun x hx => by
      unfold am_av
      rw [hk, if_pos (by rcases (show x = 0 ∨ x = 1 ∨ x = 2 by omega) with rfl | rfl | rfl <;> rfl)]
      show Value.ref (adr u a b c d v bb (am_link (33 + 4 * i + 0) x)) = _
      rw [lk x hx]
    have ai : ∀ x, 3 ≤ x → x < 6 → am_g (stG D cls u a b c d v bb) (am_av (st0 xs L) (33 + 4 * i + 0) x) = .int (if x = 3 then 1 else 0) := fun x h3 hx => by
      unfold am_av
      rw [hk, if_neg (by rcases (show x = 3 ∨ x = 4 ∨ x = 5 by omega) with rfl | rfl | rfl <;> decide)]
      show Value.int ((st0 xs L).1 (33 + 4 * i + 0) x) = _
      rw [st0_ring xs L hi (by decide), if_pos rfl]
    show some (a i, (Sum.inr (0, [.ref (b i), .ref (c i), .ref (d i), .int 1, .int 0, .int 0]) : va_E)) = some (a i, .inr (0, [_, _, _, _, _, _]))
    dsimp only
    rw [av 0 (by decide), av 1 (by decide), av 2 (by decide), ai 3 (by decide) (by decide), ai 4 (by decide) (by decide), ai 5 (by decide) (by decide)]
    rfl
  · have hk : am_kind (33 + 4 * i + 1) = 12 := by unfold am_kind; rw [hd.c1]
    have hl : am_len (33 + 4 * i + 1) = 80 := by unfold am_len; rw [hd.c1]
    rw [am_E12 hk, hl, adr_ring u a b c d v bb hi (by decide)]
    rfl
  · have hk : am_kind (33 + 4 * i + 2) = 11 := by unfold am_kind; rw [hd.c2]
    have hl : am_len (33 + 4 * i + 2) = 10 := by unfold am_len; rw [hd.c2]
    rw [am_E11 hk, hl, adr_ring u a b c d v bb hi (by decide), hz 2 (by decide) (by decide)]
    rfl
  · have hk : am_kind (33 + 4 * i + 3) = 11 := by unfold am_kind; rw [hd.c3]
    have hl : am_len (33 + 4 * i + 3) = 10 := by unfold am_len; rw [hd.c3]
    rw [am_E11 hk, hl, adr_ring u a b c d v bb hi (by decide), hz 3 (by decide) (by decide)]
    rfl
abbrev wL : va_W := wL1 (stG D cls u a b c d v bb) u a ++ (rgW (stG D cls u a b c d v bb) a b c d 30 ++ (wL2 (stG D cls u a b c d v bb) u ++ wL3 (stG D cls u a b c d v bb) v))
def posW (k : Nat) : Nat := if k < 9 then k else if k < 33 then k + 120 else if k < 153 then k - 24 else k
theorem st_cell {k : Nat} (hk : k < 169) : ∃ e, (wL D cls u a b c d v bb)[posW k]? = some (adr u a b c d v bb k, e) ∧ ∀ H : Heap, va_at D am_cl (adr u a b c d v bb k, e) H → va_at D am_cl (adr u a b c d v bb k, am_E (stG D cls u a b c d v bb) (st0 xs L) k) H := by
  have l1 : (wL1 (stG D cls u a b c d v bb) u a).length = 9 := rfl
  have l2 : (wL2 (stG D cls u a b c d v bb) u).length = 24 := rfl
  have lr := rgW_len (stG D cls u a b c d v bb) a b c d 30
  unfold posW wL
  by_cases k9 : k < 9
  · rw [if_pos k9, List.getElem?_append_left (by omega)]
    by_cases k8 : k = 8
    · subst k8
      refine ⟨eQ cls 30 (rgF a 30), rfl, fun H h => ?_⟩
      show H[u 8]? = some (vp_cell (cls 14) (30, .inr (.inr (.inr (.inr (fun i => some (adr u a b c d v bb (am_link 8 i))))))))
      have h' : H[u 8]? = some (vp_cell (cls 14) (30, .inr (.inr (.inr (.inr (rgF a 30)))))) := h
      rw [h', vp_cell_q, vp_cell_q]
      refine congrArg some (arrV_congr (fun j hj => ?_))
      have e1 : rgF a 30 j = some (a j) := by
        unfold rgF
        rw [if_pos hj]
      have e2 : adr u a b c d v bb (am_link 8 j) = a j := adr_ring u a b c d v bb (i := j) (j := 0) hj (by decide)
      rw [e1, e2]
    · exact ⟨_, st_1 D cls u a b c d v bb xs L (by omega), fun H h => h⟩
  · rw [if_neg k9]
    by_cases k33 : k < 33
    · rw [if_pos k33, List.getElem?_append_right (by omega), l1, List.getElem?_append_right (by omega), lr, List.getElem?_append_left (by omega), show k + 120 - 9 - 4 * 30 = k - 9 by omega]
      exact ⟨_, st_2 D cls u a b c d v bb xs L (by omega) k33, fun H h => h⟩
    · rw [if_neg k33]
      by_cases k153 : k < 153
      · obtain ⟨i, j, hi, hj, e⟩ : ∃ i j, i < 30 ∧ j < 4 ∧ k = 33 + 4 * i + j := ⟨(k - 33) / 4, (k - 33) % 4, by omega, by omega, by omega⟩
        subst e
        rw [if_pos k153, List.getElem?_append_right (by omega), l1, List.getElem?_append_left (by omega), show 33 + 4 * i + j - 24 - 9 = 4 * i + j by omega, rgW_at _ a b c d hj 30 hi]
        exact ⟨_, st_ring D cls u a b c d v bb xs L hi hj, fun H h => h⟩
      · rw [if_neg k153, List.getElem?_append_right (by omega), l1, List.getElem?_append_right (by omega), lr, List.getElem?_append_right (by omega), l2, show k - 9 - 4 * 30 - 24 = k - 153 by omega]
        exact ⟨_, st_3 D cls u a b c d v bb xs L (by omega) hk, fun H h => h⟩
theorem st_P {H : Heap} (hP : va_P D am_cl (wL D cls u a b c d v bb) H) : va_P D am_cl (am_ws (stG D cls u a b c d v bb) (st0 xs L)) H := by
  intro k q hq
  have h1 : k < 169 := by
    have := (List.getElem?_eq_some_iff.mp hq).1
    simpa [am_ws] using this
  rw [am_get _ _ h1] at hq
  cases hq
  obtain ⟨e, he, h⟩ := st_cell D cls u a b c d v bb xs L h1
  exact h H (hP _ _ he)
theorem st_inj {A : Nat → Prop} (hD : va_D A (wL D cls u a b c d v bb)) : ∀ i j, i < 169 → j < 169 → adr u a b c d v bb i = adr u a b c d v bb j → i = j := by
  intro i j hi hj e
  obtain ⟨e1, h1, _⟩ := st_cell D cls u a b c d v bb (fun _ => 0) 0 hi
  obtain ⟨e2, h2, _⟩ := st_cell D cls u a b c d v bb (fun _ => 0) 0 hj
  have := hD.1 _ _ _ _ h1 h2 e
  unfold posW at this
  split at this <;> split at this <;> (try split at this) <;> (try split at this) <;> (try split at this) <;> (try split at this) <;> omega
theorem st_A {A : Nat → Prop} (hD : va_D A (wL D cls u a b c d v bb)) : ∀ q, am_A (stG D cls u a b c d v bb) q → A q := by
  rintro q ⟨k, hk, rfl⟩
  obtain ⟨e1, h1, _⟩ := st_cell D cls u a b c d v bb (fun _ => 0) 0 hk
  exact hD.2 _ _ h1
end ST2
def S0 : sp_S := (nI 0, none, dE 1, [], none, (0, fun _ => 0), (0, fun _ => 0), (none, 0))
theorem st_cS (xs : Nat → Int32) (L : Nat) : cS (st0 xs L) S0 := by
  refine ⟨rfl, rfl, ⟨⟨rfl, rfl, rfl, fun r hr => absurd hr (Nat.not_lt_zero r), fun t s _ _ => ?_⟩, dE_ok (by decide) (by decide)⟩, ⟨0, by decide, rfl, rfl, by decide, fun i D h => ?_⟩, rfl, Or.inl rfl, Or.inl rfl, ⟨⟨rfl, by decide, fun k hk => absurd hk (Nat.not_lt_zero k)⟩, 0, Nat.le_refl _, rfl, rfl, fun k hk => absurd hk (Nat.not_lt_zero k), fun k hk => by omega⟩, ⟨rfl, by decide, fun k hk => absurd hk (Nat.not_lt_zero k)⟩, rfl, by decide, rfl⟩
  · exact lbit_0 _
  · cases h
theorem st_mS (xs : Nat → Int32) (L : Nat) : mS (st0 xs L) S0 := by
  refine ⟨rfl, rfl, ⟨⟨⟨rfl, rfl, rfl⟩, fun r hr => absurd hr (Nat.not_lt_zero r), fun t s ht hs => ?_⟩, dE_ok (by decide) (by decide)⟩, ⟨0, by decide, rfl, rfl, by decide, fun i D h => ?_⟩, rfl, ⟨rfl, fun k hk => absurd hk (Nat.not_lt_zero k)⟩, ⟨rfl, fun k hk => absurd hk (Nat.not_lt_zero k)⟩, rfl, rfl⟩
  · rfl
  · cases h
theorem st_J (xs : Nat → Int32) (L : Nat) : J (st0 xs L) (st0 xs L) := ⟨⟨S0, st_cS xs L, st_mS xs L⟩, am_eq.rf⟩
