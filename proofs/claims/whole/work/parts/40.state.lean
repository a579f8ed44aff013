/-! THE FORM, as the reference has it -/
def stF (D : sp_D) (m : Bool) (f i : Nat) : Nat := if m = true then (f + dn D - i) % dn D else (f + i) % dn D
/-- what reader k sees at place i of the row that begins at f (mirrored: m) -/
def clF (D : sp_D) (m : Bool) (f k i : Nat) : Bool := dl D (dk D k) ((stF D m f i + dp D k) % dn D)
/-- reader k's column, as far as place i, as a number -/
def kyF (D : sp_D) (m : Bool) (f : Nat) : Nat → Nat → Nat
  | 0, _ => 0
  | i + 1, k => 2 * kyF D m f i k + (clF D m f k i).toNat
def ksF (D : sp_D) (m : Bool) (f : Nat) : List Nat := (List.range (dr D)).map (kyF D m f (dn D))
def srN (l : List Nat) : List Nat := l.mergeSort (fun a b => decide (a ≤ b))
/-- the bits e of the numbers of a list, as a word -/
def wdK (l : List Nat) (e : Nat) : Nat := l.foldl (fun w x => 2 * w + x / 2 ^ e % 2) 0
def roF (D : sp_D) (m : Bool) (f i : Nat) : Nat := wdK (srN (ksF D m f)) (dn D - 1 - i)
/-- a row is less than another one, from place i on, q places -/
def ltF (a b : Nat → Nat) : Nat → Nat → Bool
  | 0, _ => false
  | q + 1, i => if a i = b i then ltF a b q (i + 1) else decide (a i < b i)
/-- the least of the rows that begin at 0 .. f - 1, and of b -/
def miF (D : sp_D) (m : Bool) (b : Nat → Nat) : Nat → (Nat → Nat)
  | 0 => b
  | f + 1 => if ltF (roF D m f) (miF D m b f) (dn D) 0 = true then roF D m f else miF D m b f
/-- the FORM of a disc -/
def frF (D : sp_D) : Nat → Nat := miF D true (miF D false (roF D false 0) (dn D)) (dn D)
/-! THE STATE: fault, rim, disc, past, kept, drive, list, search -/
abbrev sp_S : Type := Int32 × Option (Nat × Nat × (Nat → Int64)) × sp_D × List sp_D × Option (Nat × Nat × (Nat → Nat)) × (Nat × (Nat → Int32)) × (Nat × (Nat → Int32)) × (Option (Nat × Nat × Nat) × Nat)
abbrev sf (S : sp_S) := S.1
abbrev sr (S : sp_S) := S.2.1
abbrev sd (S : sp_S) := S.2.2.1
abbrev sp (S : sp_S) := S.2.2.2.1
abbrev sk (S : sp_S) := S.2.2.2.2.1
abbrev sv (S : sp_S) := S.2.2.2.2.2.1
abbrev sli (S : sp_S) := S.2.2.2.2.2.2.1
abbrev sq (S : sp_S) := S.2.2.2.2.2.2.2
def cRim (σ : am_S) (R : Option (Nat × Nat × (Nat → Int64))) : Prop := match R with
  | none => σ.1 1 1 = -1
  | some (k, m, e) => σ.1 1 1 = nI k ∧ k ≤ 3 ∧ σ.1 1 2 = nI m ∧ m ≤ 64 ∧ (k = 3 → m = 0) ∧ ∀ i, i < 64 → σ.2 2 i = e i
def cKp (σ : am_S) (R : Option (Nat × Nat × (Nat → Nat))) : Prop := match R with
  | none => σ.1 0 11 = nI 0
  | some (n, r, w) => σ.1 0 11 = nI 1 ∧ σ.1 17 3 = nI n ∧ σ.1 17 4 = nI r ∧ n ≤ 512 ∧ r ≤ 10 ∧ ∀ i, i < n → σ.1 18 i = nI (w i) ∧ w i < 1024
def cFm (σ : am_S) (D : sp_D) : Prop := σ.1 13 5 = nI 1 ∨ σ.1 13 5 = nI 0 ∧ σ.1 13 3 = nI (dn D) ∧ σ.1 13 4 = nI (dr D) ∧ ∀ i, i < dn D → σ.1 14 i = nI (frF D i)
def cDv (σ : am_S) (D : sp_D) (v : Nat × (Nat → Int32)) : Prop := cW σ v.2 v.1 ∧ ∃ f, f ≤ v.1 ∧ σ.1 22 6 = nI f ∧ cF σ (wdD D) (dn D) v.2 f
def cLi (σ : am_S) (v : Nat × (Nat → Int32)) : Prop := σ.1 28 1 = nI v.1 ∧ v.1 ≤ 512 ∧ ∀ k, k < v.1 → σ.1 29 k = v.2 k
/-- no turning of the n bits of x is less -/
def isNk (n x : Nat) : Prop := ∀ k, k < n → x ≤ (x * 2 ^ k % 2 ^ n) + x / 2 ^ (n - k)
def cQs (σ : am_S) (q : Option (Nat × Nat × Nat) × Nat) : Prop := σ.1 21 7 = nI q.2 ∧ q.2 ≤ 4000000 ∧ match q.1 with
  | none => σ.1 21 8 = nI 0
  | some (n, r, a) => σ.1 21 8 = nI 1 ∧ σ.1 21 0 = nI n ∧ σ.1 21 1 = nI r ∧ σ.1 21 2 = nI (n / r) ∧ σ.1 21 3 = nI (2 ^ n) ∧ σ.1 21 4 = nI a ∧ (2 ≤ n ∧ n ≤ 20 ∧ 2 ≤ r ∧ r ≤ 5 ∧ n % r = 0 ∧ a ≤ 2 ^ n) ∧ ∃ c, σ.1 21 5 = nI c ∧ c ≤ 2 ^ n ∧ a ≤ c ∧ (c < 2 ^ n → isNk n c) ∧ ∀ x, a ≤ x → x < c → ¬ isNk n x
def cS (σ : am_S) (S : sp_S) : Prop := σ.1 0 12 = sf S ∧ cRim σ (sr S) ∧ (cD σ 3 (sd S) ∧ d_ok (sd S)) ∧ cH σ (sp S) ∧ cKp σ (sk S) ∧ cV σ (sd S) ∧ cFm σ (sd S) ∧ cDv σ (sd S) (sv S) ∧ cLi σ (sli S) ∧ cQs σ (sq S)
/-- all that was found out about the disc is out of date; the fault apart -/
def cB (σ : am_S) (S : sp_S) : Prop := cRim σ (sr S) ∧ (cD σ 3 (sd S) ∧ d_ok (sd S)) ∧ cH σ (sp S) ∧ cKp σ (sk S) ∧ (σ.1 9 4 = nI 1 ∧ σ.1 13 5 = nI 1 ∧ σ.1 22 6 = nI 0 ∧ σ.1 22 7 = -1) ∧ cW σ (sv S).2 (sv S).1 ∧ cLi σ (sli S) ∧ cQs σ (sq S)
theorem cRim.kept {P : Nat → Prop} {σ τ : am_S} {R : Option (Nat × Nat × (Nat → Int64))} (h : cRim σ R) (he : am_eq P σ τ) (h1 : ¬ P 1) (h2 : ¬ P 2) : cRim τ R := by
  unfold cRim
  rw [(he 1 h1).1, (he 2 h2).2]
  exact h
theorem cLi.kept {P : Nat → Prop} {σ τ : am_S} {v : Nat × (Nat → Int32)} (h : cLi σ v) (he : am_eq P σ τ) (h1 : ¬ P 28) (h2 : ¬ P 29) : cLi τ v := by
  unfold cLi
  rw [(he 28 h1).1, (he 29 h2).1]
  exact h
theorem cQs.kept {P : Nat → Prop} {σ τ : am_S} {q : Option (Nat × Nat × Nat) × Nat} (h : cQs σ q) (he : am_eq P σ τ) (h1 : ¬ P 21) : cQs τ q := by
  unfold cQs
  rw [(he 21 h1).1]
  exact h
theorem cKp.kept0 {σ τ : am_S} {R : Option (Nat × Nat × (Nat → Nat))} (h : cKp σ R) (h0 : τ.1 0 11 = σ.1 0 11) (h1 : τ.1 17 = σ.1 17) (h2 : τ.1 18 = σ.1 18) : cKp τ R := by
  unfold cKp
  rw [h0, h1, h2]
  exact h
theorem cKp.kept {P : Nat → Prop} {σ τ : am_S} {R : Option (Nat × Nat × (Nat → Nat))} (h : cKp σ R) (he : am_eq P σ τ) (h0 : ¬ P 0) (h1 : ¬ P 17) (h2 : ¬ P 18) : cKp τ R := h.kept0 (by rw [(he 0 h0).1]) (he 17 h1).1 (he 18 h2).1
theorem cV.kept {P : Nat → Prop} {σ τ : am_S} {D : sp_D} (h : cV σ D) (he : am_eq P σ τ) (h9 : ¬ P 9) (h10 : ¬ P 10) : cV τ D := by
  rcases h with h | ⟨h, h'⟩
  · exact Or.inl (by rw [(he 9 h9).1]; exact h)
  · exact Or.inr ⟨by rw [(he 9 h9).1]; exact h, h'.kept he h9 h10⟩
theorem cFm.kept {P : Nat → Prop} {σ τ : am_S} {D : sp_D} (h : cFm σ D) (he : am_eq P σ τ) (h13 : ¬ P 13) (h14 : ¬ P 14) : cFm τ D := by
  unfold cFm
  rw [(he 13 h13).1, (he 14 h14).1]
  exact h
theorem cW.kept {P : Nat → Prop} {σ τ : am_S} {w : Nat → Int32} {m : Nat} (h : cW σ w m) (he : am_eq P σ τ) (h1 : ¬ P 22) (h2 : ¬ P 23) : cW τ w m := by
  unfold cW
  rw [(he 22 h1).1, (he 23 h2).1]
  exact h
theorem cF.kept {P : Nat → Prop} {σ τ : am_S} {W : Nat → Nat} {n f : Nat} {w : Nat → Int32} (h : cF σ W n w f) (he : am_eq P σ τ) (h1 : ¬ P 22) (h2 : ¬ P 24) (h3 : ¬ P 25) (h4 : ¬ P 26) : cF τ W n w f := by
  unfold cF
  rw [(he 22 h1).1, (he 24 h2).1, (he 25 h3).1, (he 26 h4).1]
  exact h
theorem cDv.kept {P : Nat → Prop} {σ τ : am_S} {D : sp_D} {v : Nat × (Nat → Int32)} (h : cDv σ D v) (he : am_eq P σ τ) (hp : ∀ k, 22 ≤ k → k ≤ 26 → ¬ P k) : cDv τ D v := by
  obtain ⟨h1, f, h2, h3, h4⟩ := h
  exact ⟨h1.kept he (hp _ (by decide) (by decide)) (hp _ (by decide) (by decide)), f, h2, by rw [(he 22 (hp _ (by decide) (by decide))).1]; exact h3, h4.kept he (hp _ (by decide) (by decide)) (hp _ (by decide) (by decide)) (hp _ (by decide) (by decide)) (hp _ (by decide) (by decide))⟩
/-- cells that hold no more than a call needs -/
def scr (k : Nat) : Prop := k = 12 ∨ k = 15 ∨ k = 16 ∨ k = 27 ∨ k = 31 ∨ k = 32
theorem cS.keepScr {σ τ : am_S} {S : sp_S} (h : cS σ S) (he : am_eq scr σ τ) : cS τ S := by
  obtain ⟨h1, h2, h3, h4, h5, h6, h7, h8, h9, h10⟩ := h
  have n : ∀ k, ¬ (k = 12 ∨ k = 15 ∨ k = 16 ∨ k = 27 ∨ k = 31 ∨ k = 32) → ¬ scr k := fun k h => h
  exact ⟨by rw [(he 0 (n _ (by decide))).1]; exact h1, h2.kept he (n _ (by decide)) (n _ (by decide)), ⟨h3.1.kept he (n _ (by decide)) (n _ (by decide)) (n _ (by decide)) (n _ (by decide)), h3.2⟩, h4.kept he (n _ (by decide)) (fun k a b => n k (by omega)), h5.kept he (n _ (by decide)) (n _ (by decide)) (n _ (by decide)), h6.kept he (n _ (by decide)) (n _ (by decide)), h7.kept he (n _ (by decide)) (n _ (by decide)), h8.kept he (fun k a b => n k (by omega)), h9.kept he (n _ (by decide)) (n _ (by decide)), h10.kept he (n _ (by decide))⟩
def sF (S : sp_S) (f : Int32) : sp_S := (f, S.2)
theorem cS.fault {σ : am_S} {S : sp_S} (h : cS σ S) (f : Int32) : cS (am_upI σ 0 12 f) (sF S f) := by
  obtain ⟨h1, h2, h3, h4, h5, h6, h7, h8, h9, h10⟩ := h
  have he : am_eq (fun k => k = 0) σ (am_upI σ 0 12 f) := am_eq.upI rfl
  exact ⟨u_Is _ _ _ _, h2.kept he (by decide) (by decide), ⟨h3.1.kept he (by decide) (by decide) (by decide) (by decide), h3.2⟩, h4.kept he (by decide) (fun k a b => by omega), h5.kept0 (u_In _ _ (by decide)) (he 17 (by decide)).1 (he 18 (by decide)).1, h6.kept he (by decide) (by decide), h7.kept he (by decide) (by decide), h8.kept he (fun k a b => by omega), h9.kept he (by decide) (by decide), h10.kept he (by decide)⟩
theorem cB.end {σ : am_S} {S : sp_S} (h : cB σ S) (f : Int32) : cS (am_upI σ 0 12 f) (sF S f) := by
  obtain ⟨h1, h2, h3, h4, ⟨h5, h6, h7, h8⟩, h9, h10, h11⟩ := h
  have he : am_eq (fun k => k = 0) σ (am_upI σ 0 12 f) := am_eq.upI rfl
  refine ⟨u_Is _ _ _ _, h1.kept he (by decide) (by decide), ⟨h2.1.kept he (by decide) (by decide) (by decide) (by decide), h2.2⟩, h3.kept he (by decide) (fun k a b => by omega), h4.kept0 (u_In _ _ (by decide)) (he 17 (by decide)).1 (he 18 (by decide)).1, Or.inl ?_, Or.inl ?_, ⟨h9.kept he (by decide) (by decide), 0, Nat.zero_le _, ?_, ?_, fun k hk => absurd hk (Nat.not_lt_zero k), fun k hk => by omega⟩, h10.kept he (by decide) (by decide), h11.kept he (by decide)⟩
  · rw [(he 9 (by decide)).1]; exact h5
  · rw [(he 13 (by decide)).1]; exact h6
  · rw [(he 22 (by decide)).1]; exact h7
  · rw [(he 22 (by decide)).1]; exact h8
def sD (S : sp_S) (D : sp_D) : sp_S := (S.1, S.2.1, D, S.2.2.2)
def sP (S : sp_S) (P : List sp_D) : sp_S := (S.1, S.2.1, S.2.2.1, P, S.2.2.2.2)
def sR (S : sp_S) (R : Option (Nat × Nat × (Nat → Int64))) : sp_S := (S.1, R, S.2.2)
theorem cB.disc {σ τ : am_S} {S : sp_S} {D : sp_D} (h : cB σ S) (he : am_eq (fun k => 3 ≤ k ∧ k ≤ 6 ∨ scr k) σ τ) (hD : cD τ 3 D) (hok : d_ok D) : cB τ (sD S D) := by
  obtain ⟨h1, h2, h3, h4, ⟨h5, h6, h7, h8⟩, h9, h10, h11⟩ := h
  have n : ∀ k, ¬ (3 ≤ k ∧ k ≤ 6) → ¬ (k = 12 ∨ k = 15 ∨ k = 16 ∨ k = 27 ∨ k = 31 ∨ k = 32) → ¬ (3 ≤ k ∧ k ≤ 6 ∨ scr k) := fun k a b c => by rcases c with c | c; exact a c; exact b c
  exact ⟨h1.kept he (n _ (by decide) (by decide)) (n _ (by decide) (by decide)), ⟨hD, hok⟩, h3.kept he (n _ (by decide) (by decide)) (fun k a b => n k (by omega) (by omega)), h4.kept he (n _ (by decide) (by decide)) (n _ (by decide) (by decide)) (n _ (by decide) (by decide)), ⟨by rw [(he 9 (n _ (by decide) (by decide))).1]; exact h5, by rw [(he 13 (n _ (by decide) (by decide))).1]; exact h6, by rw [(he 22 (n _ (by decide) (by decide))).1]; exact h7, by rw [(he 22 (n _ (by decide) (by decide))).1]; exact h8⟩, h9.kept he (n _ (by decide) (by decide)) (n _ (by decide) (by decide)), h10.kept he (n _ (by decide) (by decide)) (n _ (by decide) (by decide)), h11.kept he (n _ (by decide) (by decide))⟩
theorem s_outdate {σ : am_S} {K : am_S → Prop} (h : ∀ τ, τ.1 9 4 = nI 1 → τ.1 13 5 = nI 1 → τ.1 22 6 = nI 0 → τ.1 22 7 = -1 → τ.1 22 5 = σ.1 22 5 → am_eq (fun k => k = 9 ∨ k = 13 ∨ k = 22) σ τ → K τ) : w_WD_outdate σ K := by
  unfold w_WD_outdate w_Drive_unfollow
  refine h _ rfl rfl rfl rfl rfl ((((am_eq.upI (Or.inl rfl)).tr (am_eq.upI (Or.inr (Or.inl rfl)))).tr (am_eq.upI (Or.inr (Or.inr rfl)))).tr (am_eq.upI (Or.inr (Or.inr rfl))))
theorem s_beginChange {σ : am_S} {S : sp_S} {K : am_S → Prop} (hS : cS σ S) (h : ∀ τ, cB τ (sP S ((sd S :: sp S).take 30)) → am_eq (fun k => k < 153) σ τ → K τ) : w_WD_beginChange σ K := by
  unfold w_WD_beginChange
  obtain ⟨h1, h2, h3, h4, h5, h6, h7, h8, h9, h10⟩ := hS
  refine s_remember h3.2 h3.1 h4 (fun τ hH he => s_outdate (fun υ e9 e13 e226 e227 e225 he2 => ?_))
  refine h υ ⟨(h2.kept he (by omega) (by omega)).kept he2 (by omega) (by omega), ⟨(h3.1.kept he (by omega) (by omega) (by omega) (by omega)).kept he2 (by omega) (by omega) (by omega) (by omega), h3.2⟩, hH.kept he2 (by omega) (fun k a b => by omega), (h5.kept he (by omega) (by omega) (by omega)).kept he2 (by omega) (by omega) (by omega), ⟨e9, e13, e226, e227⟩, ⟨?_, h8.1.2.1, fun k hk => ?_⟩, (h9.kept he (by omega) (by omega)).kept he2 (by omega) (by omega), (h10.kept he (by omega)).kept he2 (by omega)⟩ ((he.mono (fun k hk => by omega)).tr (he2.mono (fun k hk => by omega)))
  · rw [e225, (he 22 (by omega)).1]
    exact h8.1.1
  · rw [(he2 23 (by omega)).1, (he 23 (by omega)).1]
    exact h8.1.2.2 k hk
