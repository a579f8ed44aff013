theorem am_sl_len (G : am_G) : ∀ (As : List Value), (∀ v ∈ As, v ≠ .null ∧ ∀ b, v ≠ .double b) → (lg_sl (As.map (am_g G))).length = (am_sl As).length := by
  intro As
  induction As with
  | nil => intro _; rfl
  | cons v vs ih =>
    intro h
    have h1 := ih (fun w hw => h w (List.mem_cons_of_mem _ hw))
    have h2 := h v List.mem_cons_self
    have e : ∀ w : Value, lg_sl (w :: vs.map (am_g G)) = (if w.category = 2 then [.val w, .second] else [.val w]) ++ lg_sl (vs.map (am_g G)) := fun w => rfl
    rw [List.map_cons, e]
    cases v with
    | long x => simp [am_sl, am_g, Value.category, h1]
    | double b => exact absurd rfl (h2.2 b)
    | null => exact absurd rfl h2.1
    | int x => simp [am_sl, am_g, Value.category, h1]
    | float x => simp [am_sl, am_g, Value.category, h1]
    | ref x => simp [am_sl, am_g, Value.category, h1]
    | retAddr x => simp [am_sl, am_g, Value.category, h1]
theorem am_args_al (G : am_G) (n : Nat) : ∀ (As : List Value) (i : Nat), (∀ v ∈ As, v ≠ .null ∧ ∀ b, v ≠ .double b) → ∀ q ∈ am_al G i (am_sl As ++ List.replicate n .null), q ∈ lv_args i (As.map (am_g G)) := by
  intro As
  induction As with
  | nil =>
    intro i _ q hq
    exfalso
    obtain ⟨j, v, h1, h2, -⟩ := (am_al_mem G _ i q).mp hq
    have h3 := List.mem_of_getElem? h1
    simp [am_sl] at h3
    exact h2 h3.2
  | cons v vs ih =>
    intro i h q hq
    have hvs := fun w hw => h w (List.mem_cons_of_mem v hw)
    have h2 := h v List.mem_cons_self
    have one : ∀ w : Value, w.category = 1 → am_sl (v :: vs) = w :: am_sl vs → w = v → q ∈ lv_args i ((v :: vs).map (am_g G)) := by
      intro w hw e1 e2
      subst e2
      rw [e1, List.cons_append] at hq
      unfold am_al at hq
      rw [if_neg h2.1] at hq
      show q ∈ (i, am_g G w) :: lv_args (if (am_g G w).category = 2 then i + 2 else i + 1) (vs.map (am_g G))
      rw [am_g_cat, hw, if_neg (by decide)]
      rcases List.mem_cons.mp hq with e | hq
      · rw [e]; exact List.mem_cons_self
      · exact List.mem_cons_of_mem _ (ih (i + 1) hvs q hq)
    cases v with
    | long x =>
      have hq' : q ∈ am_al G i (.long x :: .null :: (am_sl vs ++ List.replicate n .null)) := hq
      simp only [am_al, reduceCtorEq, if_false, if_true] at hq'
      show q ∈ (i, am_g G (.long x)) :: lv_args (if (am_g G (.long x)).category = 2 then i + 2 else i + 1) (vs.map (am_g G))
      rw [am_g_cat, show (Value.long x).category = 2 from rfl, if_pos rfl]
      rcases List.mem_cons.mp hq' with e | hq'
      · rw [e]; exact List.mem_cons_self
      · exact List.mem_cons_of_mem _ (ih (i + 2) hvs q hq')
    | double b => exact absurd rfl (h2.2 b)
    | null => exact absurd rfl h2.1
    | int x => exact one _ rfl rfl rfl
    | float x => exact one _ rfl rfl rfl
    | ref x => exact one _ rfl rfl rfl
    | retAddr x => exact one _ rfl rfl rfl
theorem am_sl_nd : ∀ (As : List Value), (∀ v ∈ As, v ≠ .null ∧ ∀ b, v ≠ .double b) → ∀ b, Value.double b ∉ am_sl As := by
  intro As
  induction As with
  | nil => intro _ b h; cases h
  | cons v vs ih =>
    intro h b hb
    have h1 := ih (fun w hw => h w (List.mem_cons_of_mem _ hw)) b
    have h2 := h v List.mem_cons_self
    cases v <;> simp_all [am_sl]
theorem am_L_ent (G : am_G) {As : List Value} {n : Nat} (h : ∀ v ∈ As, v ≠ .null ∧ ∀ b, v ≠ .double b) (hn : (am_sl As).length ≤ n) : am_L G (am_ent As n) ((lg_sl (As.map (am_g G)) ++ List.replicate (n - (lg_sl (As.map (am_g G))).length) Slot.unset).toArray) n := by
  have hl := lv_entry (As.map (am_g G)) (n := n) (by rw [am_sl_len G As h]; exact hn)
  refine ⟨by simp [am_ent]; omega, am_has_sub hl fun q hq => am_args_al G _ As 0 h q hq⟩
theorem am_nd_ent {As : List Value} {n : Nat} (h : ∀ v ∈ As, v ≠ .null ∧ ∀ b, v ≠ .double b) : am_nd (am_ent As n) := by
  intro j b hj
  have h1 := List.mem_of_getElem? hj
  unfold am_ent at h1
  rcases List.mem_append.mp h1 with h2 | h2
  · exact am_sl_nd As h b h2
  · have := List.eq_of_mem_replicate h2
    cases this
theorem am_ofW {l : Launch} {y : MethodName} {ws ws' : List Cond} {rm : Room} {Pc : Array Value → State → Prop} {Qc : Array Value → State → Outcome → State → Prop} {mc ms : Nat} {free : Addr → Prop} {cc : ByteArray} {maxL : Nat} {ret : Option FieldType}
    (hy : plainFor y = true) (hw : ws = Cond.code y cc maxL ret :: ws')
    (body : ∀ p e s m args below meth c s₁, BodyLoose p l y (headSpec ws rm) cc maxL ret e s m args below meth c s₁ → c.maxLocals = maxL → Pc args s →
      W p l e (headSpec ws rm).room s m args below meth c s.heap [] 0 0 (MQ below Qc args s mc ms free) (entryFrame m args maxL)) : Met l y ws rm Pc Qc mc ms free := by
  refine MetFree.of_bodySF (code := cc) (maxLocals := maxL) (ret := ret) hy ?_ ?_
  · intro args s m h hn
    obtain ⟨meth, c, h1, h2, h3, h4, h5, h6, -, -⟩ := Cond.code_spec hn (atoms_spec (ws := ws) h _ (by rw [hw]; exact List.mem_cons_self))
    exact ⟨meth, c, h1, h2, h3, h4, h5, h6⟩
  · intro p e s m args below meth c s₁ B hml hP _
    have hh0 : s₁.heap = s.heap := by rw [B.state]; rfl
    obtain ⟨t, a1, o, b1, b2, b3⟩ := body p e s m args below meth c s₁ B hml hP s₁ hh0 (Stand.of_body B)
    exact ⟨t, o, a1, b1, b2, ⟨b3.1, b3.2⟩⟩
set_option maxHeartbeats 4000000 in
/-- WHAT THE SMALL MACHINE SAYS OF A METHOD IS ITS CONTRACT -/
theorem am_sound (l : Launch) (G : am_G) : ∀ d, am_met l G (am_rm d) (am_run d) := by
  intro d
  induction d with
  | zero => intro y As σ Q h; exact absurd h id
  | succ d ihd =>
    intro y As σ Q h
    obtain ⟨cc, maxL, ret, hcode, hplain, hlen, hmx, hAs, hrun⟩ := h
    refine ⟨cc, maxL, ret, hcode, hmx, ?_⟩
    refine am_ofW (cc := cc) (maxL := maxL) (ret := ret) hplain rfl ?_
    intro p e s m args below meth c s₁ B hml hv
    obtain ⟨rfl, hP, hK, hD, hN, hX, h0, hnA, hbl⟩ := hv
    have hts : ∀ w ∈ am_T, w.before (As.map (am_g G)).toArray s = true := fun w hw => atoms_spec (ws := Cond.code y cc maxL ret :: am_T) B.pre w (List.mem_cons_of_mem _ hw)
    have hown : s.vm.findClass y.cls = some m.cls := findClass_of_methodNamed B.named
    have hr := B.returns
    have hlocks := B.notSynchronized
    have X : am_ctx p (headSpec (Cond.code y cc maxL ret :: am_T) (am_rm (d + 1))).room s m (As.map (am_g G)).toArray c 0 0 maxL cc y.cls G (am_A G) (am_rm d) := by
      refine ⟨B.exec, B.bytes, hml, hown, hts, hN, hK, fun _ h => h, rfl, rfl, Nat.le_refl _, ?_, Nat.zero_le _, Nat.zero_le _⟩
      show 60 + 60 * d ≤ 60 * (d + 1)
      omega
    have hfin : ∀ (r : Option Value) (τ : am_S) (H : Heap) (locs : List Loc), Q r τ → va_P G.1 am_cl (am_ws G τ) H → va_S (am_A G) s.heap H locs → τ.1 1000 = σ.1 1000 → τ.1 1001 = σ.1 1001 → (∀ v, r = some v → v ≠ .null ∧ ∀ b, v ≠ .double b) → ∀ t : State, t.heap = H → s.WarmedH t.vm → am_Qc G σ Q (As.map (am_g G)).toArray s (.returned (r.map (am_g G))) t := by
      intro r τ H locs hq hP1 hS h1 h2 h3 t ht hW
      exact ⟨⟨r, τ, rfl, hq, by rw [ht]; exact hP1, h1, h2, h3⟩, hS.F ht⟩
    rw [lg_entry_eq]
    refine am_sw (X0 := σ.1 1000) (L0 := σ.1 1001) ret Q X ihd hX h0 hnA hbl (am_inj_of hD) ?_ ?_ ?_ 0 (am_ent As maxL) [] σ hrun (am_nd_ent hAs) s.heap [] _ hP va_S.rf rfl rfl (am_L_ent G hAs hlen)
    · intro x τ H locs ls pc hd hret hq hP1 hS h1 h2
      have hq2 := hfin (some (.int x)) τ H locs hq hP1 hS h1 h2 (fun v hv => by cases hv; simp)
      rcases hret with hret | ⟨hret, hx01⟩
      · exact W.iret B.exec B.bytes (hr.trans hret) hq2 hS.2.2 hd hlocks
      · exact W.zret B.exec B.bytes (hr.trans hret) (by rcases hx01 with rfl | rfl <;> rfl) hq2 hS.2.2 hd hlocks
    · intro k τ H locs ls pc hd hret hq hP1 hS h1 h2
      obtain ⟨nm, hret⟩ := hret
      exact W.aret B.exec B.bytes (hr.trans hret) (Or.inl ⟨nm, rfl⟩) (Or.inr ⟨_, rfl⟩) (hfin (some (.ref k)) τ H locs hq hP1 hS h1 h2 (fun v hv => by cases hv; simp)) hS.2.2 hd hlocks
    · intro τ H locs ls pc hd hret hq hP1 hS h1 h2
      exact W.vret B.exec B.bytes (hr.trans hret) (hfin none τ H locs hq hP1 hS h1 h2 (fun v hv => by cases hv)) hS.2.2 hd hlocks
