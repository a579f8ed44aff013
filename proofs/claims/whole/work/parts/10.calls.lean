section AMR3
variable {d : Nat} {own : String} {ret : Option FieldType} {cc : ByteArray} {Q : am_Q} {pc : Nat} {vs st : List Value} {σ : am_S}
theorem r_virtI {idx k n : Nat} {y : MethodName} (As rest : List Value) {k1 : Int32 → am_S → Prop} (hd : decode cc pc = .ok (.invokevirtual idx, 3)) (hV : am_isV own idx y n) (hst : st = As.reverse ++ .ref k :: rest) (hn : As.length = n) (hk : am_cn k = y.cls) (hr : Nat.ble (rest.map fun v => v.category).sum 8 = true) (hM : am_run d y (.ref k :: As) σ (am_Ri k1)) (kk : ∀ x τ, k1 x τ → am_r (am_run d) own ret cc Q (pc + 3) vs (.int x :: rest) τ) : am_r (am_run d) own ret cc Q pc vs st σ :=
  r_virt As rest hd hV hst hn hk hr hM (fun r τ ⟨x, hx, hk⟩ => by subst hx; exact kk x τ hk)
theorem r_virtV {idx k n : Nat} {y : MethodName} (As rest : List Value) {k1 : am_S → Prop} (hd : decode cc pc = .ok (.invokevirtual idx, 3)) (hV : am_isV own idx y n) (hst : st = As.reverse ++ .ref k :: rest) (hn : As.length = n) (hk : am_cn k = y.cls) (hr : Nat.ble (rest.map fun v => v.category).sum 8 = true) (hM : am_run d y (.ref k :: As) σ (am_Rv k1)) (kk : ∀ τ, k1 τ → am_r (am_run d) own ret cc Q (pc + 3) vs rest τ) : am_r (am_run d) own ret cc Q pc vs st σ :=
  r_virt As rest hd hV hst hn hk hr hM (fun r τ ⟨hx, hk⟩ => by subst hx; exact kk τ hk)
theorem r_virtR {idx k n c : Nat} {y : MethodName} (As rest : List Value) {k1 : am_S → Prop} (hd : decode cc pc = .ok (.invokevirtual idx, 3)) (hV : am_isV own idx y n) (hst : st = As.reverse ++ .ref k :: rest) (hn : As.length = n) (hk : am_cn k = y.cls) (hr : Nat.ble (rest.map fun v => v.category).sum 8 = true) (hM : am_run d y (.ref k :: As) σ (am_Rr c k1)) (kk : ∀ τ, k1 τ → am_r (am_run d) own ret cc Q (pc + 3) vs (.ref c :: rest) τ) : am_r (am_run d) own ret cc Q pc vs st σ :=
  r_virt As rest hd hV hst hn hk hr hM (fun r τ ⟨hx, hk⟩ => by subst hx; exact kk τ hk)
theorem r_statI {idx n : Nat} {y : MethodName} (As rest : List Value) {k1 : Int32 → am_S → Prop} (hd : decode cc pc = .ok (.invokestatic idx, 3)) (hV : am_isS own idx y n) (hst : st = As.reverse ++ rest) (hn : As.length = n) (hr : Nat.ble (rest.map fun v => v.category).sum 8 = true) (hM : am_run d y As σ (am_Ri k1)) (kk : ∀ x τ, k1 x τ → am_r (am_run d) own ret cc Q (pc + 3) vs (.int x :: rest) τ) : am_r (am_run d) own ret cc Q pc vs st σ :=
  r_stat As rest hd hV hst hn hr hM (fun r τ ⟨x, hx, hk⟩ => by subst hx; exact kk x τ hk)
theorem r_statV {idx n : Nat} {y : MethodName} (As rest : List Value) {k1 : am_S → Prop} (hd : decode cc pc = .ok (.invokestatic idx, 3)) (hV : am_isS own idx y n) (hst : st = As.reverse ++ rest) (hn : As.length = n) (hr : Nat.ble (rest.map fun v => v.category).sum 8 = true) (hM : am_run d y As σ (am_Rv k1)) (kk : ∀ τ, k1 τ → am_r (am_run d) own ret cc Q (pc + 3) vs rest τ) : am_r (am_run d) own ret cc Q pc vs st σ :=
  r_stat As rest hd hV hst hn hr hM (fun r τ ⟨hx, hk⟩ => by subst hx; exact kk τ hk)
end AMR3
/-- a cell that is a Disc: the current one, or one of the ring -/
def am_isD (k : Nat) : Prop := k = 3 ∨ ∃ i, i < 30 ∧ k = 33 + 4 * i
theorem am_isD_3 : am_isD 3 := Or.inl rfl
theorem am_isD_ring {i : Int32} (h : vp_in i 30) : am_isD (33 + 4 * i.toNatClampNeg) := Or.inr ⟨i.toNatClampNeg, Nat.not_le.mp fun q => h (Or.inr q), rfl⟩
theorem am_isD.cell {k : Nat} (h : am_isD k) (j : Nat) (hj : j < 4) : am_cell (k + j) = am_layR.getD j (99, 0) := by
  rcases h with rfl | ⟨i, hi, rfl⟩
  · rcases (show j = 0 ∨ j = 1 ∨ j = 2 ∨ j = 3 by omega) with rfl | rfl | rfl | rfl <;> decide +kernel
  · unfold am_cell
    rw [if_neg (by omega), if_pos (by omega), show (33 + 4 * i + j - 33) % 4 = j by omega]
theorem am_isD.kind {k : Nat} (h : am_isD k) : am_kind k = 0 := by
  have h1 := h.cell 0 (by decide)
  unfold am_kind
  rw [show k + 0 = k from rfl] at h1
  rw [h1]
  rfl
theorem am_isD.c1 {k : Nat} (h : am_isD k) : am_cell (k + 1) = (12, 80) := h.cell 1 (by decide)
theorem am_isD.c2 {k : Nat} (h : am_isD k) : am_cell (k + 2) = (11, 10) := h.cell 2 (by decide)
theorem am_isD.c3 {k : Nat} (h : am_isD k) : am_cell (k + 3) = (11, 10) := h.cell 3 (by decide)
theorem am_isD.cn {k : Nat} (h : am_isD k) : am_cn k = "WheelDisc$Disc" := by
  unfold am_cn
  rw [h.kind]
  rfl
theorem am_isD.link {k : Nat} (h : am_isD k) (i : Nat) : am_link k i = k + (i + 1) := by
  unfold am_link
  have : k ≠ 0 ∧ k ≠ 8 ∧ k ≠ 153 := by
    rcases h with rfl | ⟨i, hi, rfl⟩ <;> omega
  rw [if_neg this.1, if_neg this.2.1, if_neg this.2.2]
  omega
theorem am_tab0 (n : Nat) (hn : n < 2 ^ 31) {x : Int32} (h : ∀ j, j ≤ n → ¬ x = nI j) : x.toInt < 0 ∨ (n : Int) < x.toInt := by
  rcases Int.lt_or_le x.toInt 0 with g | g
  · exact Or.inl g
  · rcases Int.lt_or_le (n : Int) x.toInt with g2 | g2
    · exact Or.inr g2
    · exfalso
      refine h x.toInt.toNat (by omega) ?_
      rw [← Int32.toInt_inj]
      show x.toInt = (nI x.toInt.toNat).toInt
      rw [nI_toInt (by omega)]
      omega
theorem am_row {cc : ByteArray} {rows : List (Nat × Instr × Nat)} (h : rows.all (fun r => decide (decode cc r.1 = .ok r.2)) = true) (j : Nat) {r : Nat × Instr × Nat} (hr : rows[j]? = some r) : decode cc r.1 = .ok r.2 := by
  have h1 := List.all_eq_true.mp h r (List.mem_of_getElem? hr)
  simpa using h1
theorem am_mem {w : Cond} (j : Nat) (h : lw_tbl[j]? = some w) (hg : goodWord w = true) : w ∈ am_T := List.mem_filter.mpr ⟨List.mem_of_getElem? h, hg⟩
theorem am_memN {w : Cond} (j : Nat) (h : lw_tbl[j]? = some w) (hg : (fun w : Cond => match w with | .methodLinkNest _ _ _ _ => true | _ => false) w = true) : w ∈ am_N := List.mem_filter.mpr ⟨List.mem_of_getElem? h, hg⟩
/-- this if so, that if not -/
def am_ite (c A B : Prop) : Prop := (c → A) ∧ (¬ c → B)
theorem am_ite_t {c A B : Prop} (hc : c) (h : A) : am_ite c A B := ⟨fun _ => h, fun z => absurd hc z⟩
theorem am_ite_f {c A B : Prop} (hc : ¬ c) (h : B) : am_ite c A B := ⟨fun z => absurd z hc, fun _ => h⟩
