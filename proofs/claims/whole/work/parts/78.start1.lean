/-! THE START: the world that the two constructors leave -/
/-- where a cell lies -/
def adr (u a b c d v : Nat → Nat) (bb k : Nat) : Nat := if k < 33 then u k else if k < 153 then (if (k - 33) % 4 = 0 then a ((k - 33) / 4) else if (k - 33) % 4 = 1 then b ((k - 33) / 4) else if (k - 33) % 4 = 2 then c ((k - 33) / 4) else d ((k - 33) / 4)) else if k < 169 then v (k - 153) else bb
/-- the numbers at the start -/
def s0 (k i : Nat) : Int32 := if k = 1 then (if i = 1 then -1 else 0) else if k = 3 then (if i = 3 then 1 else 0) else if k = 9 then (if i = 2 then 1 else if i = 4 then 1 else 0) else if k = 13 then (if i = 5 then 1 else 0) else if k = 17 then (if i = 5 then 1 else 0) else if k = 21 then (if i = 0 then 2 else if i = 1 then 2 else if i = 2 then 1 else 0) else if k = 22 then (if i = 7 then -1 else 0) else if k < 33 then 0 else if k < 153 then (if (k - 33) % 4 = 0 then (if i = 3 then 1 else 0) else 0) else if k = 153 then (if i = 7 then -1 else 0) else if k = 154 then upd zI 0 1 i else 0
def st0 (xs : Nat → Int32) (L : Nat) : am_S := (fun k i => if k < 169 then s0 k i else if k = 1000 then xs i else if k = 1001 then nI L else 0, fun _ _ => 0)
def wL1 (G : am_G) (u a : Nat → Nat) : va_W := [(u 0, .inr (9, [.ref (u 1), .ref (u 3), .ref (u 7), .ref (u 9), .ref (u 13), .ref (u 17), .ref (u 21), .ref (u 22), .ref (u 28), .ref (u 30), .ref (u 32), .int 0, .int 0])), (u 1, .inr (5, [.ref (u 2), .int (-1), .int 0])), (u 2, eJ G.2.1 64), (u 3, .inr (0, [.ref (u 4), .ref (u 5), .ref (u 6), .int 1, .int 0, .int 0])), (u 4, eJ G.2.1 80), (u 5, eI G.2.1 10), (u 6, eI G.2.1 10), (u 7, .inr (3, [.ref (u 8), .int 0, .int 0])), (u 8, eQ G.2.1 30 (rgF a 30))]
def wL2 (G : am_G) (u : Nat → Nat) : va_W := [(u 9, .inr (7, [.ref (u 10), .ref (u 11), .int 1, .int 0, .int 1])), (u 10, eI G.2.1 512), (u 11, .inr (4, [.ref (u 12)])), (u 12, eJ G.2.1 16), (u 13, .inr (2, [.ref (u 14), .ref (u 15), .ref (u 16), .int 0, .int 0, .int 1])), (u 14, eI G.2.1 512), (u 15, eI G.2.1 10), (u 16, eZ G.2.1 10), (u 17, .inr (2, [.ref (u 18), .ref (u 19), .ref (u 20), .int 0, .int 0, .int 1])), (u 18, eI G.2.1 512), (u 19, eI G.2.1 10), (u 20, eZ G.2.1 10), (u 21, .inr (6, [.int 2, .int 2, .int 1, .int 0, .int 0, .int 0, .int 0, .int 0, .int 0])), (u 22, .inr (1, [.ref (u 23), .ref (u 24), .ref (u 25), .ref (u 26), .ref (u 27), .int 0, .int 0, .int (-1)])), (u 23, eI G.2.1 2000), (u 24, eI G.2.1 2000), (u 25, eI G.2.1 2000), (u 26, eZ G.2.1 512), (u 27, eZ G.2.1 512), (u 28, .inr (8, [.ref (u 29), .int 0])), (u 29, eI G.2.1 512), (u 30, .inr (4, [.ref (u 31)])), (u 31, eJ G.2.1 16), (u 32, eJ G.2.1 8)]
def wL3 (G : am_G) (v : Nat → Nat) : va_W := [(v 0, .inr (10, [.ref (v 1), .ref (v 2), .ref (v 3), .ref (v 4), .int 0, .int 0, .int 0, .int (-1), .int 0, .ref (v 5), .ref (v 6), .int 0, .ref (v 7), .int 0, .int 0, .int 0, .int 0, .int 0, .int 0, .ref (v 8), .ref (v 9), .ref (v 10), .ref (v 11), .ref (v 12), .ref (v 13), .int 0, .int 0, .ref (v 14), .ref (v 15), .int 0, .int 0])), (v 1, eS G.2.1), (v 2, eI G.2.1 320), (v 3, eI G.2.1 320), (v 4, eZ G.2.1 163840), (v 5, eJ G.2.1 64), (v 6, eI G.2.1 2000), (v 7, eI G.2.1 512), (v 8, eI G.2.1 512), (v 9, eI G.2.1 512), (v 10, eI G.2.1 512), (v 11, eI G.2.1 10), (v 12, eZ G.2.1 512), (v 13, eZ G.2.1 512), (v 14, eI G.2.1 512), (v 15, eI G.2.1 16)]
theorem rgW_len (G : am_G) (a b c d : Nat → Nat) : ∀ n, (rgW G a b c d n).length = 4 * n
  | 0 => rfl
  | n + 1 => by
    unfold rgW
    rw [List.length_append, rgW_len G a b c d n]
    show 4 * n + 4 = 4 * (n + 1)
    omega
theorem rgW_at (G : am_G) (a b c d : Nat → Nat) {i j : Nat} (hj : j < 4) : ∀ n, i < n → (rgW G a b c d n)[4 * i + j]? = (dW G a b c d i)[j]?
  | 0, h => absurd h (Nat.not_lt_zero i)
  | n + 1, h => by
    unfold rgW
    have hl := rgW_len G a b c d n
    by_cases e : i < n
    · rw [List.getElem?_append_left (by omega)]
      exact rgW_at G a b c d hj n e
    · have : i = n := by omega
      subst this
      rw [List.getElem?_append_right (by omega), hl, Nat.add_sub_cancel_left]
section ST
variable (D : va_G) (cls : Nat → ClassId) (u a b c d v : Nat → Nat) (bb : Nat) (xs : Nat → Int32) (L : Nat)
abbrev stG : am_G := (D, cls, adr u a b c d v bb)
theorem st_1 {k : Nat} (hk : k < 8) : (wL1 (stG D cls u a b c d v bb) u a)[k]? = some (adr u a b c d v bb k, am_E (stG D cls u a b c d v bb) (st0 xs L) k) := by
  rcases (show k = 0 ∨ k = 1 ∨ k = 2 ∨ k = 3 ∨ k = 4 ∨ k = 5 ∨ k = 6 ∨ k = 7 by omega) with rfl | rfl | rfl | rfl | rfl | rfl | rfl | rfl <;> rfl
theorem st_2 {k : Nat} (hk : 9 ≤ k) (hk2 : k < 33) : (wL2 (stG D cls u a b c d v bb) u)[k - 9]? = some (adr u a b c d v bb k, am_E (stG D cls u a b c d v bb) (st0 xs L) k) := by
  rcases (show k = 9 ∨ k = 10 ∨ k = 11 ∨ k = 12 ∨ k = 13 ∨ k = 14 ∨ k = 15 ∨ k = 16 ∨ k = 17 ∨ k = 18 ∨ k = 19 ∨ k = 20 ∨ k = 21 ∨ k = 22 ∨ k = 23 ∨ k = 24 ∨ k = 25 ∨ k = 26 ∨ k = 27 ∨ k = 28 ∨ k = 29 ∨ k = 30 ∨ k = 31 ∨ k = 32 by omega) with rfl | rfl | rfl | rfl | rfl | rfl | rfl | rfl | rfl | rfl | rfl | rfl | rfl | rfl | rfl | rfl | rfl | rfl | rfl | rfl | rfl | rfl | rfl | rfl <;> rfl
theorem st_3 {k : Nat} (hk : 153 ≤ k) (hk2 : k < 169) : (wL3 (stG D cls u a b c d v bb) v)[k - 153]? = some (adr u a b c d v bb k, am_E (stG D cls u a b c d v bb) (st0 xs L) k) := by
  rcases (show k = 153 ∨ k = 154 ∨ k = 155 ∨ k = 156 ∨ k = 157 ∨ k = 158 ∨ k = 159 ∨ k = 160 ∨ k = 161 ∨ k = 162 ∨ k = 163 ∨ k = 164 ∨ k = 165 ∨ k = 166 ∨ k = 167 ∨ k = 168 by omega) with rfl | rfl | rfl | rfl | rfl | rfl | rfl | rfl | rfl | rfl | rfl | rfl | rfl | rfl | rfl | rfl <;> rfl
end ST
