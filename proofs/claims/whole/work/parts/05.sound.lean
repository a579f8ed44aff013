/-! THE SMALL MACHINE IS SOUND: what it says of a method, the machine does -/
def am_scr (G : am_G) (σ : am_S) (U : State) : Prop := va_X (G.2.2 1000) (σ.1 1001 0).toNatClampNeg (σ.1 1000) U U.heap ∧ 0 ≤ σ.1 1001 0 ∧ ¬ am_A G (G.2.2 1000) ∧ G.2.2 1000 < U.heap.size
def am_W (G : am_G) (σ : am_S) (U : State) : Prop := va_P G.1 am_cl (am_ws G σ) U.heap ∧ va_K G.1 am_cl (am_tys G) U ∧ va_D (am_A G) (am_ws G σ) ∧ (∀ w ∈ am_N, va_Nw w U) ∧ am_scr G σ U
def am_Pc (G : am_G) (As : List Value) (σ : am_S) : Array Value → State → Prop := va_Pc (As.map (am_g G)) (am_W G σ)
def am_Qc (G : am_G) (σ : am_S) (Q : am_Q) : Array Value → State → Outcome → State → Prop := fun _ st o t => (∃ (r : Option Value) (τ : am_S), o = .returned (r.map (am_g G)) ∧ Q r τ ∧ va_P G.1 am_cl (am_ws G τ) t.heap ∧ τ.1 1000 = σ.1 1000 ∧ τ.1 1001 = σ.1 1001 ∧ ∀ v, r = some v → v ≠ .null ∧ ∀ b, v ≠ .double b) ∧ va_F (am_A G) st t
def am_rm (d : Nat) : Room := { frames := d, cells := 0, slots := 0, locals := 60 * d }
theorem am_good : ∀ w ∈ am_T, (w.onTables && w.keeps) = true ∨ ∃ ty, w = .arrayClass ty := fun w h => good_of_word (List.mem_filter.mp h).2
theorem am_goodIn {w : Cond} (h : w ∈ am_T) : GoodIn am_T (w :: am_T) := fun v hv => by
  rcases List.mem_cons.mp hv with e | hv
  · rw [e]; exact ⟨h, am_good _ h⟩
  · exact ⟨hv, am_good _ hv⟩
theorem am_N_nest : ∀ w ∈ am_N, ∃ a i y h, w = Cond.methodLinkNest a i y h := fun w hw => by
  have h2 := (List.mem_filter.mp hw).2
  cases w with
  | methodLinkNest a i y h => exact ⟨a, i, y, h, rfl⟩
  | _ => cases h2
theorem am_Nw_moved {s U : State} (hW : s.WarmedH U.vm) (h : ∀ w ∈ am_N, va_Nw w s) : ∀ w ∈ am_N, va_Nw w U := fun w hw => by
  obtain ⟨a, i, y, z, rfl⟩ := am_N_nest w hw
  exact (h _ hw).warmM hW
theorem am_blind (G : am_G) (As : List Value) (σ : am_S) : FrameBlind (am_Pc G As σ) := fun a U g mk q => by
  obtain ⟨q0, qP, qK, qD, qN, qS1, qS2, qS3⟩ := q
  refine ⟨q0, qP, va_K.moved (u := U) (U := U.calling g mk a) (Vm.Alike.refl U.vm) qK, qD, fun w hw => ?_, qS1.moved (U := U.calling g mk a) (Vm.Alike.refl U.vm), qS2, qS3⟩
  obtain ⟨a', i, y, z, rfl⟩ := am_N_nest w hw
  exact va_Nw.same rfl (u := U) rfl (qN _ hw)
section AMS
variable {p : Program} {l : Launch} {e : Env} {R : Room} {s : State} {m : MethodId} {args : Array Value} {below : List Frame} {meth : Method} {c : Code} {cells slots : Nat} {Q' : State → Prop}
/-- behind a call -/
theorem am_callg {G : am_G} {σ : am_S} {Q : am_Q} {A : Nat → Prop} {H : Heap} {locs : List Loc} {pc : Nat} {ls : Array Slot} {st0 rest : List Value} {a : Array Value} (hr : va_Run p l e R s m args below meth c H locs cells slots 0 0 (F0 m pc ls st0) rest (am_Qc G σ Q a) (am_A G)) (hS : va_S A s.heap H locs) (hAG : ∀ q, am_A G q → A q)
    (kk : ∀ (r : Option Value) (τ : am_S) (H1 : Heap) (locs1 : List Loc), Q r τ → va_P G.1 am_cl (am_ws G τ) H1 → τ.1 1000 = σ.1 1000 → τ.1 1001 = σ.1 1001 → (∀ v, r = some v → v ≠ .null ∧ ∀ b, v ≠ .double b) → va_S A s.heap H1 locs1 → W p l e R s m args below meth c H1 locs1 cells slots Q' (F0 m (pc + 3) ls ((r.map (am_g G)).toList ++ rest))) : W p l e R s m args below meth c H locs cells slots Q' (F0 m pc ls st0) := by
  intro T hT X
  obtain ⟨v, st₀, t, T', L, h0, X', hL, e1, e2, ⟨⟨r, τ, hv, hq, hP, hg1, hg2, hn⟩, hz, hk⟩, st⟩ := hr T hT X
  cases hv
  rw [h0] at hz hk
  obtain ⟨t2, a1, b1⟩ := kk r τ T'.heap (locs ++ L) hq (by rw [e1]; exact hP) hg1 hg2 hn
    ⟨Nat.le_trans hS.1 (by rw [e1]; exact hz), fun q h1 h2 => by rw [e1, hk q (Nat.lt_of_lt_of_le h1 hS.1) (fun z => h2 (hAG q z))]; exact hS.2.1 q h1 h2, fun q hq => by
      rcases List.mem_append.mp hq with h | h
      · exact hS.2.2 q h
      · exact hAG _ (hL q h)⟩ T' rfl X'
  exact ⟨t2, st t2 a1, b1⟩
end AMS
/-- what a call needs of the callee -/
def am_met (l : Launch) (G : am_G) (rm : Room) (C : am_C) : Prop := ∀ (y : MethodName) (As : List Value) (σ : am_S) (Q : am_Q), C y As σ Q → ∃ (cc : ByteArray) (maxL : Nat) (ret : Option FieldType), Cond.code y cc maxL ret ∈ am_T ∧ maxL ≤ 20 ∧ Met l y (Cond.code y cc maxL ret :: am_T) rm (am_Pc G As σ) (am_Qc G σ Q) 0 0 (am_A G)
section AMW
variable {p : Program} {l : Launch} {e : Env} {R : Room} {s : State} {m : MethodId} {args : Array Value} {below : List Frame} {meth : Method} {c : Code} {cells slots nL : Nat} {Q' : State → Prop} {cc : ByteArray} {own : String} {G : am_G} {A : Nat → Prop} {rm : Room} {C : am_C}
/-- what stays the same along a method -/
def am_ctx (p : Program) (R : Room) (s : State) (m : MethodId) (args : Array Value) (c : Code) (cells slots nL : Nat) (cc : ByteArray) (own : String) (G : am_G) (A : Nat → Prop) (rm : Room) : Prop :=
  p.tables.exec = Jvm.exec ∧ c.code = cc ∧ c.maxLocals = nL ∧ s.vm.findClass own = some m.cls ∧ (∀ w ∈ am_T, w.before args s = true) ∧ (∀ w ∈ am_N, va_Nw w s) ∧ va_K G.1 am_cl (am_tys G) s ∧ (∀ q, am_A G q → A q) ∧ (rm.cells = 0 ∧ rm.slots = 0 ∧ rm.frames + 1 ≤ R.frames ∧ 60 + rm.locals ≤ R.locals ∧ cells ≤ R.cells ∧ slots ≤ R.slots)
theorem am_callV {σ : am_S} {Q : am_Q} {H : Heap} {locs : List Loc} {pc idx k : Nat} {ls : Array Slot} {As rest : List Value} {y : MethodName} (X : am_ctx p R s m args c cells slots nL cc own G A rm) (hM : am_met l G rm C) (hP : va_P G.1 am_cl (am_ws G σ) H) (hD : va_D (am_A G) (am_ws G σ)) (hscr : ∀ U : State, U.heap = H → s.vm.Alike U.vm → am_scr G σ U) (hS : va_S A s.heap H locs) (hls : ls.size = nL)
    (hdg : decode cc pc = .ok (.invokevirtual idx, 3)) (hv : am_isV own idx y As.length) (hcn : am_cn k = y.cls) (hrest : ((rest.map (am_g G)).map fun v => v.category).sum ≤ 8) (hC : C y (.ref k :: As) σ Q)
    (kk : ∀ (r : Option Value) (τ : am_S) (H1 : Heap) (locs1 : List Loc), Q r τ → va_P G.1 am_cl (am_ws G τ) H1 → τ.1 1000 = σ.1 1000 → τ.1 1001 = σ.1 1001 → (∀ v, r = some v → v ≠ .null ∧ ∀ b, v ≠ .double b) → va_S A s.heap H1 locs1 → W p l e R s m args below meth c H1 locs1 cells slots Q' (F0 m (pc + 3) ls ((r.map (am_g G)).toList ++ rest.map (am_g G)))) :
    W p l e R s m args below meth c H locs cells slots Q' (F0 m pc ls ((As.map (am_g G)).reverse ++ .ref (G.2.2 k) :: rest.map (am_g G))) := by
  obtain ⟨hx, hb, hml, hown, hts, hN, hK, hAG, hr1, hr2, hr3, hr4, hr5, hr6⟩ := X
  obtain ⟨hl, hin, hse, hini, hy1, hy2, hlen⟩ := hv
  obtain ⟨cd, maxL, ret, hcode, hmx, hMet⟩ := hM y _ σ Q hC
  obtain ⟨q, hq, hqn, hk11⟩ := am_cn_ok hcn (fun h => by
    rw [h] at hini
    exact absurd hini (by decide +kernel))
  have hk := am_kind_lt (k := k) (by omega)
  have he : (am_ws G σ)[k]? = some (G.2.2 k, .inr (am_kind k, (List.range (am_len k)).map (fun i => am_g G (am_av σ k i)))) := by rw [am_get G σ hk, am_Eo hk11]
  have hrecv := va_recv hK hP hq he
  rw [hqn] at hrecv
  have cb : CallB R s args own idx y cd maxL ret (Cond.code y cd maxL ret :: am_T) rm 0 0 As.length := callB_of As.length hts (am_goodIn hcode) rfl hr1 hr2 (hts _ hini) (hts _ hl) ⟨hy1, hy2, hlen⟩ ⟨hr3, by omega⟩
  refine am_callg (G := G) (σ := σ) (Q := Q) (A := A) (va_runV (As := As.map (am_g G)) (rest := rest.map (am_g G)) (b := G.2.2 k) (C := y.cls) (n := As.length) ⟨hx, hb, hml, hown, hts⟩ hMet ⟨cb, hts _ hin, hts _ hse⟩ ⟨am_blind G _ σ, hrecv, fun U hU hW => ⟨rfl, by rw [hU]; exact hP, va_K.moved hW.alike hK, hD, am_Nw_moved hW hN, hscr U hU hW.alike⟩⟩ rfl (by simp) hls rfl (lv_room hrest) hdg ⟨by omega, by omega⟩) hS hAG kk
theorem am_callS {σ : am_S} {Q : am_Q} {H : Heap} {locs : List Loc} {pc idx : Nat} {ls : Array Slot} {As rest : List Value} {y : MethodName} (X : am_ctx p R s m args c cells slots nL cc own G A rm) (hM : am_met l G rm C) (hP : va_P G.1 am_cl (am_ws G σ) H) (hD : va_D (am_A G) (am_ws G σ)) (hscr : ∀ U : State, U.heap = H → s.vm.Alike U.vm → am_scr G σ U) (hS : va_S A s.heap H locs) (hls : ls.size = nL)
    (hdg : decode cc pc = .ok (.invokestatic idx, 3)) (hv : am_isS own idx y As.length) (hrest : ((rest.map (am_g G)).map fun v => v.category).sum ≤ 8) (hC : C y As σ Q)
    (kk : ∀ (r : Option Value) (τ : am_S) (H1 : Heap) (locs1 : List Loc), Q r τ → va_P G.1 am_cl (am_ws G τ) H1 → τ.1 1000 = σ.1 1000 → τ.1 1001 = σ.1 1001 → (∀ v, r = some v → v ≠ .null ∧ ∀ b, v ≠ .double b) → va_S A s.heap H1 locs1 → W p l e R s m args below meth c H1 locs1 cells slots Q' (F0 m (pc + 3) ls ((r.map (am_g G)).toList ++ rest.map (am_g G)))) :
    W p l e R s m args below meth c H locs cells slots Q' (F0 m pc ls ((As.map (am_g G)).reverse ++ rest.map (am_g G))) := by
  obtain ⟨hx, hb, hml, hown, hts, hN, hK, hAG, hr1, hr2, hr3, hr4, hr5, hr6⟩ := X
  obtain ⟨hl, hst, hini, hy1, hy2, hlen⟩ := hv
  obtain ⟨cd, maxL, ret, hcode, hmx, hMet⟩ := hM y _ σ Q hC
  have hPre : PreS s H (am_Pc G As σ) (As.map (am_g G)) := ⟨am_blind G _ σ, fun U hU hW => ⟨rfl, by rw [hU]; exact hP, va_K.moved hW.alike hK, hD, am_Nw_moved hW hN, hscr U hU hW.alike⟩⟩
  rcases hl with hl | ⟨host, hl⟩
  · have cb : CallB R s args own idx y cd maxL ret (Cond.code y cd maxL ret :: am_T) rm 0 0 As.length := callB_of As.length hts (am_goodIn hcode) rfl hr1 hr2 (hts _ hini) (hts _ hl) ⟨hy1, hy2, hlen⟩ ⟨hr3, by omega⟩
    exact am_callg (G := G) (σ := σ) (Q := Q) (A := A) (va_runS (As := As.map (am_g G)) (rest := rest.map (am_g G)) (n := As.length) ⟨hx, hb, hml, hown, hts⟩ hMet ⟨cb, hts _ hst⟩ hPre rfl (by simp) hls rfl (lv_room hrest) hdg ⟨by omega, by omega⟩) hS hAG kk
  · have cb : va_CN R s args own idx y host cd maxL ret (Cond.code y cd maxL ret :: am_T) rm 0 0 As.length := va_cnB As.length hts (am_goodIn hcode) rfl hr1 hr2 (hN _ hl) (hts _ hini) ⟨hy1, hy2, hlen⟩ ⟨hr3, by omega⟩
    exact am_callg (G := G) (σ := σ) (Q := Q) (A := A) (va_runSN (As := As.map (am_g G)) (rest := rest.map (am_g G)) (n := As.length) ⟨hx, hb, hml, hown, hts⟩ hMet ⟨cb, hts _ hst, trivial⟩ hPre rfl (by simp) hls rfl (lv_room hrest) hdg ⟨by omega, by omega⟩) hS hAG kk
end AMW
