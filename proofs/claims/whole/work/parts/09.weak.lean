/-! a place of the locals that isn't read any more may be forgotten -/
def am_le : List Value → List Value → Prop
  | [], [] => True
  | v :: vs, w :: ws => (v = w ∨ v = .null ∧ w.category = 1) ∧ am_le vs ws
  | _, _ => False
theorem am_le_len : ∀ {vs ws : List Value}, am_le vs ws → vs.length = ws.length
  | [], [], _ => rfl
  | _ :: _, _ :: _, h => by simp [am_le_len h.2]
  | [], _ :: _, h => absurd h id
  | _ :: _, [], h => absurd h id
theorem am_le_get : ∀ {vs ws : List Value} {i : Nat} {v : Value}, am_le vs ws → vs[i]? = some v → v ≠ .null → ws[i]? = some v
  | v0 :: vs, w :: ws, 0, v, h, hv, hn => by
    simp at hv ⊢
    subst hv
    rcases h.1 with e | e
    · exact e.symm
    · exact absurd e.1 hn
  | _ :: vs, _ :: ws, i + 1, v, h, hv, hn => by
    simp at hv ⊢
    exact am_le_get h.2 hv hn
  | [], [], _, _, _, hv, _ => by simp at hv
  | [], _ :: _, _, _, h, _, _ => absurd h id
  | _ :: _, [], _, _, h, _, _ => absurd h id
theorem am_le_long : ∀ {vs ws : List Value} {i : Nat} {x : Int64}, am_le vs ws → ws[i]? = some (.long x) → vs[i]? = some (.long x)
  | v0 :: vs, w :: ws, 0, x, h, hv => by
    simp at hv ⊢
    subst hv
    rcases h.1 with e | e
    · exact e
    · exact absurd e.2 (by simp [Value.category])
  | _ :: vs, _ :: ws, i + 1, x, h, hv => by
    simp at hv ⊢
    exact am_le_long h.2 hv
  | [], [], _, _, _, hv => by simp at hv
  | [], _ :: _, _, _, h, _ => absurd h id
  | _ :: _, [], _, _, h, _ => absurd h id
theorem am_le_set : ∀ {vs ws : List Value} (i : Nat) (v : Value), am_le vs ws → am_le (vs.set i v) (ws.set i v)
  | v0 :: vs, w :: ws, 0, v, h => ⟨Or.inl rfl, h.2⟩
  | _ :: vs, _ :: ws, i + 1, v, h => ⟨h.1, am_le_set i v h.2⟩
  | [], [], _, _, _ => trivial
  | [], _ :: _, _, _, h => absurd h id
  | _ :: _, [], _, _, h => absurd h id
theorem am_le_st1 {vs ws : List Value} {i : Nat} (h : am_le vs ws) (hs : am_st1 vs i = true) : am_st1 ws i = true := by
  have h1 := am_le_len h
  unfold am_st1 at hs ⊢
  rw [← h1]
  simp only [Bool.and_eq_true] at hs ⊢
  refine ⟨hs.1, ?_⟩
  cases i with
  | zero => rfl
  | succ j =>
    have h2 := hs.2
    show (match ws[j]? with | some (.long _) => false | _ => true) = true
    split
    · rename_i x hx
      have h3 := am_le_long h hx
      have h2' : (match vs[j]? with | some (.long _) => false | _ => true) = true := h2
      rw [h3] at h2'
      cases h2'
    · rfl
theorem am_le_st2 {vs ws : List Value} {i : Nat} (h : am_le vs ws) (hs : am_st2 vs i = true) : am_st2 ws i = true := by
  have h1 := am_le_len h
  unfold am_st2 at hs ⊢
  rw [← h1]
  simp only [Bool.and_eq_true] at hs ⊢
  refine ⟨hs.1, ?_⟩
  cases i with
  | zero => rfl
  | succ j =>
    have h2 := hs.2
    show (match ws[j]? with | some (.long _) => false | _ => true) = true
    split
    · rename_i x hx
      have h3 := am_le_long h hx
      have h2' : (match vs[j]? with | some (.long _) => false | _ => true) = true := h2
      rw [h3] at h2'
      cases h2'
    · rfl
theorem am_x_weak {C : am_C} {own : String} {ret : Option FieldType} {i : Instr} {len pc : Nat} {vs ws st : List Value} {σ : am_S} {K : am_K} {Q : am_Q} (hC : am_mon C) (hle : am_le vs ws) (h : am_x C own ret i len pc vs st σ (fun pc vs st σ => ∀ ws, am_le vs ws → K pc ws st σ) Q) : am_x C own ret i len pc ws st σ K Q := by
  unfold am_x at h ⊢
  split at h
  all_goals first
    | exact ⟨h.1, h.2 _ hle⟩
    | exact ⟨h.1, am_le_st1 hle h.2.1, h.2.2 _ (am_le_set _ _ hle)⟩
    | exact ⟨h.1, am_le_st2 hle h.2.1, h.2.2 _ (am_le_set _ _ (am_le_set _ _ hle))⟩
    | exact ⟨h.1, h.2.1, h.2.2 _ hle⟩
    | exact ⟨h.1, h.2.1, h.2.2.1, h.2.2.2 _ hle⟩
    | (obtain ⟨a, v, b, h⟩ := h; exact ⟨a, v, am_le_get hle b (by simp), h _ hle⟩)
    | (obtain ⟨a, v, b, h⟩ := h; exact ⟨a, v, b, h _ hle⟩)
    | (obtain ⟨a, b, v, c, h⟩ := h; exact ⟨a, am_le_st1 hle b, v, am_le_get hle c (by simp), h _ (am_le_set _ _ hle)⟩)
    | (obtain ⟨a, v, b, c, h⟩ := h; exact ⟨a, v, b, c, h _ hle⟩)
    | (obtain ⟨a, ⟨b, c, h⟩ | ⟨b, h⟩⟩ := h
       · exact ⟨a, Or.inl ⟨b, c, h _ hle⟩⟩
       · exact ⟨a, Or.inr ⟨b, h _ hle⟩⟩)
    | (obtain ⟨a, t, b, h1, h2⟩ := h; exact ⟨a, t, b, fun z => h1 z _ hle, fun z => h2 z _ hle⟩)
    | (obtain ⟨t, h, b⟩ := h; exact ⟨t, h _ hle, b⟩)
    | (obtain ⟨a, y, As, k, rest, b, c, d, e, h⟩ := h; exact ⟨a, y, As, k, rest, b, c, d, e, hC _ _ _ _ _ (fun r σ' z => z _ hle) h⟩)
    | (obtain ⟨a, ⟨y, As, rest, b, c, d, h⟩ | ⟨b, h⟩⟩ := h
       · exact ⟨a, Or.inl ⟨y, As, rest, b, c, d, hC _ _ _ _ _ (fun r σ' z => z _ hle) h⟩⟩
       · exact ⟨a, Or.inr ⟨b, am_copy_mono (fun st σ z => z _ hle) h⟩⟩)
    | exact ⟨h.1, h.2.1, h.2.2⟩
    | exact absurd h id
theorem am_weak {d : Nat} {own : String} {ret : Option FieldType} {cc : ByteArray} {Q : am_Q} {pc : Nat} {vs ws st : List Value} {σ : am_S} (hle : am_le vs ws) (h : am_r (am_run d) own ret cc Q pc vs st σ) : am_r (am_run d) own ret cc Q pc ws st σ := by
  refine h (fun pc vs st σ => ∀ ws, am_le vs ws → am_r (am_run d) own ret cc Q pc ws st σ) ?_ ws hle
  intro pc vs st σ ⟨i, len, hd, hx⟩ ws hle
  exact am_in (am_run_mon d) hd (am_x_weak (am_run_mon d) hle hx)
theorem am_itp {c : Prop} [Decidable c] {A B : Prop} (h : if c then A else B) (hc : c) : A := by rwa [if_pos hc] at h
theorem am_itn {c : Prop} [Decidable c] {A B : Prop} (h : if c then A else B) (hc : ¬ c) : B := by rwa [if_neg hc] at h
section AMR2
variable {d : Nat} {own : String} {ret : Option FieldType} {cc : ByteArray} {Q : am_Q} {pc : Nat} {vs st : List Value} {σ : am_S}
theorem r_if2 {c : ClassFile.Cond} {off : Int} {x : Int32} (t : Nat) (P : Prop) (hd : decode cc pc = .ok (.ifCond c off, 3)) (ht : (pc : Int) + off = (t : Int)) (hP : am_cmp c x 0 = P) (kt : P → am_r (am_run d) own ret cc Q t vs st σ) (kf : ¬ P → am_r (am_run d) own ret cc Q (pc + 3) vs st σ) : am_r (am_run d) own ret cc Q pc vs (.int x :: st) σ := by
  subst hP
  exact am_in (am_run_mon d) hd ⟨rfl, t, ht, kt, kf⟩
theorem r_icmp2 {c : ClassFile.Cond} {off : Int} {x y : Int32} (t : Nat) (P : Prop) (hd : decode cc pc = .ok (.if_icmp c off, 3)) (ht : (pc : Int) + off = (t : Int)) (hP : am_cmp c x y = P) (kt : P → am_r (am_run d) own ret cc Q t vs st σ) (kf : ¬ P → am_r (am_run d) own ret cc Q (pc + 3) vs st σ) : am_r (am_run d) own ret cc Q pc vs (.int y :: .int x :: st) σ := by
  subst hP
  exact am_in (am_run_mon d) hd ⟨rfl, t, ht, kt, kf⟩
theorem r_inc1 {n : Nat} {x : Int32} {vs' : List Value} (hd : decode cc pc = .ok (.iinc n 1, 3)) (h1 : am_st1 vs n = true) (hx : vs[n]? = some (.int x)) (h2 : vs.set n (.int (x + nI 1)) = vs') (k : am_r (am_run d) own ret cc Q (pc + 3) vs' st σ) : am_r (am_run d) own ret cc Q pc vs st σ := r_iinc hd h1 hx (by rw [show Int32.ofInt 1 = nI 1 by decide]) h2 k
theorem r_dec1 {n : Nat} {x : Int32} {vs' : List Value} (hd : decode cc pc = .ok (.iinc n (-1), 3)) (h1 : am_st1 vs n = true) (hx : vs[n]? = some (.int x)) (h2 : vs.set n (.int (x - nI 1)) = vs') (k : am_r (am_run d) own ret cc Q (pc + 3) vs' st σ) : am_r (am_run d) own ret cc Q pc vs st σ := r_iinc hd h1 hx (by rw [show Int32.ofInt (-1) = -nI 1 by decide, Int32.sub_eq_add_neg]) h2 k
theorem r_zret0 {k : Int32 → am_S → Prop} (hd : decode cc pc = .ok (.ireturn, 1)) (h : k (nI 0) σ) : am_r (am_run d) own (some .boolean) cc (am_Ri k) pc vs [.int (nI 0)] σ := r_zret hd ⟨Or.inl rfl, h⟩
theorem r_zret1 {k : Int32 → am_S → Prop} (hd : decode cc pc = .ok (.ireturn, 1)) (h : k (nI 1) σ) : am_r (am_run d) own (some .boolean) cc (am_Ri k) pc vs [.int (nI 1)] σ := r_zret hd ⟨Or.inr rfl, h⟩
end AMR2
