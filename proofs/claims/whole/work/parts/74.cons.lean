/-! CONSTRUCTORS: rows. A world is (the object in the making) :: (all that was made for it) -/
def cn_K (G : am_G) (U : State) : Prop := va_K G.1 am_cl (am_tys G) U ∧ (∀ w ∈ am_N, va_Nw w U) ∧ va_AO "WheelDisc$Disc" U
theorem cn_K.moved {G : am_G} {u U : State} (hW : u.WarmedH U.vm) (h : cn_K G u) : cn_K G U := ⟨va_K.moved hW.alike h.1, am_Nw_moved hW h.2.1, va_AO.moved hW.alike h.2.2⟩
def cn_Pre (G : am_G) (h0 ci : Nat) (fs : List Value) (sz : Nat) : Array Value → State → Prop := va_Pc [.ref h0] (fun U => U.heap.size = sz ∧ va_P G.1 am_cl [(h0, .inr (ci, fs))] U.heap ∧ cn_K G U)
def cn_Post (G : am_G) (h0 ci : Nat) (fs : List Value) (sz : Nat) (post : va_W → Prop) : Array Value → State → Outcome → State → Prop := va_Qv post (fun w t => va_P G.1 am_cl w t.heap ∧ va_D (va_A [(h0, .inr (ci, fs))] sz) w) (va_A [(h0, .inr (ci, fs))] sz)
def cn_Met (l : Launch) (G : am_G) (y : MethodName) (bytes : ByteArray) (maxL : Nat) (rm : Room) (ci : Nat) (fs : List Value) (post : Nat → va_W → Prop) (mc ms : Nat) : Prop := ∀ h0 sz, Met l y (Cond.code y bytes maxL none :: am_T) rm (cn_Pre G h0 ci fs sz) (cn_Post G h0 ci fs sz (post h0)) mc ms (va_A [(h0, .inr (ci, fs))] sz)
def zI : Nat → Int32 := fun _ => 0
def zJ : Nat → Int64 := fun _ => 0
def eI (cl : Nat → ClassId) (N : Nat) : va_E := .inl (cl 11, N, .inl zI)
def eJ (cl : Nat → ClassId) (N : Nat) : va_E := .inl (cl 12, N, .inr (.inl zJ))
def eZ (cl : Nat → ClassId) (N : Nat) : va_E := .inl (cl 13, N, .inl zI)
def eQ (cl : Nat → ClassId) (N : Nat) (f : Nat → Option Nat) : va_E := .inl (cl 14, N, .inr (.inr (.inr (.inr f))))
/-- the context of a constructor's body -/
def cn_X (p : Program) (s : State) (m : MethodId) (args : Array Value) (meth : Method) (c : Code) (nL : Nat) (cc : ByteArray) (own : String) (G : am_G) (A : Nat → Prop) : Prop := p.tables.exec = Jvm.exec ∧ c.code = cc ∧ c.maxLocals = nL ∧ s.vm.findClass own = some m.cls ∧ (∀ w ∈ am_T, w.before args s = true) ∧ cn_K G s ∧ (∀ q : Nat, s.heap.size ≤ q → A q) ∧ meth.name = "<init>"
theorem va_P_mem {D : va_G} {cl : List vw_C} {ws : va_W} {H : Heap} (h : va_P D cl ws H) {q : Nat × va_E} (hq : q ∈ ws) : va_at D cl q H := by
  obtain ⟨k, hk⟩ := List.getElem?_of_mem hq
  exact h k q hk
theorem va_P_of {D : va_G} {cl : List vw_C} {ws : va_W} {H : Heap} (h : ∀ q ∈ ws, va_at D cl q H) : va_P D cl ws H := fun _ q hk => h q (List.mem_of_getElem? hk)
theorem cn_join {A0 : Nat → Prop} {D : va_G} {cl : List vw_C} {wr wc w1 : va_W} {H H1 : Heap} (hP : va_P D cl (wr ++ wc) H) (hD : va_D A0 (wr ++ wc)) (hk : ∀ q : Nat, q < H.size → ¬ va_A wc H.size q → H1[q]? = H[q]?) (hF : ∀ q, va_A wc H.size q → A0 q) (hP1 : va_P D cl w1 H1) (hD1 : va_D (va_A wc H.size) w1) : va_P D cl (wr ++ w1) H1 ∧ va_D A0 (wr ++ w1) := by
  have lt : ∀ q ∈ wr, q.1 < H.size := fun q hq => (va_P_mem hP (List.mem_append_left _ hq)).lt
  have no : ∀ (i : Nat) (q : Nat × va_E), wr[i]? = some q → ¬ va_A wc H.size q.1 := by
    intro i q hi hA
    have hil : i < wr.length := (List.getElem?_eq_some_iff.mp hi).1
    rcases hA with ⟨k, e, hke⟩ | hA
    · have h1 : (wr ++ wc)[i]? = some q := by rw [List.getElem?_append_left hil]; exact hi
      have h2 : (wr ++ wc)[wr.length + k]? = some (q.1, e) := by rw [List.getElem?_append_right (by omega), Nat.add_sub_cancel_left]; exact hke
      have := hD.1 i (wr.length + k) q (q.1, e) h1 h2 rfl
      omega
    · have := lt q (List.mem_of_getElem? hi)
      omega
  refine ⟨va_P_of (fun q hq => ?_), ⟨fun i j p q hi hj e => ?_, fun k q hkq => ?_⟩⟩
  · rcases List.mem_append.mp hq with hq | hq
    · obtain ⟨i, hi⟩ := List.getElem?_of_mem hq
      exact (va_P_mem hP (List.mem_append_left _ hq)).kept (hk q.1 (lt q hq) (no i q hi))
    · exact va_P_mem hP1 hq
  · by_cases a : i < wr.length
    · rw [List.getElem?_append_left a] at hi
      by_cases b : j < wr.length
      · rw [List.getElem?_append_left b] at hj
        exact hD.1 i j p q (by rw [List.getElem?_append_left a]; exact hi) (by rw [List.getElem?_append_left b]; exact hj) e
      · rw [List.getElem?_append_right (by omega)] at hj
        have := hD1.2 _ q hj
        rw [← e] at this
        exact absurd this (no i p hi)
    · rw [List.getElem?_append_right (by omega)] at hi
      by_cases b : j < wr.length
      · rw [List.getElem?_append_left b] at hj
        have := hD1.2 _ p hi
        rw [e] at this
        exact absurd this (no j q hj)
      · rw [List.getElem?_append_right (by omega)] at hj
        have := hD1.1 _ _ p q hi hj e
        omega
  · by_cases a : k < wr.length
    · rw [List.getElem?_append_left a] at hkq
      exact hD.2 k q (by rw [List.getElem?_append_left a]; exact hkq)
    · rw [List.getElem?_append_right (by omega)] at hkq
      exact hF _ (hD1.2 _ q hkq)
theorem cn_free {A0 : Nat → Prop} {wr wc : va_W} {H0 H : Heap} {locs : List Loc} (hD : va_D A0 (wr ++ wc)) (hS : va_S A0 H0 H locs) (hA : ∀ q : Nat, H0.size ≤ q → A0 q) : ∀ q, va_A wc H.size q → A0 q := by
  intro q h
  rcases h with ⟨k, e, h⟩ | h
  · have h2 : (wr ++ wc)[wr.length + k]? = some (q, e) := by rw [List.getElem?_append_right (by omega), Nat.add_sub_cancel_left]; exact h
    exact hD.2 _ _ h2
  · exact hA q (Nat.le_trans hS.1 h)
section CN
variable {p : Program} {l : Launch} {e : Env} {R : Room} {s : State} {m : MethodId} {args : Array Value} {below : List Frame} {meth : Method} {c : Code} {H : Heap} {locs : List Loc} {cells slots nL : Nat} {Q : State → Prop} {cc : ByteArray} {own : String} {G : am_G} {A : Nat → Prop} {pc : Nat} {ls : Array Slot} {rest : List Value}
theorem cn_ra {G : am_G} {s : State} {tys : List (ClassId × FieldType)} {cA cB : ClassId} {ty : FieldType} (h1 : va_RA s cA ty) (h2 : va_RA s cB ty) : cA = cB := by
  cases ty with
  | object C =>
    obtain ⟨_, _, _, _, _, a⟩ := h1
    obtain ⟨_, _, _, _, _, b⟩ := h2
    exact Option.some.inj (a.symm.trans b)
  | _ => exact Option.some.inj ((show s.vm.findClass _ = some cA from h1).symm.trans h2)
theorem cn_newI (X : cn_X p s m args meth c nL cc own G A) {ws : va_W} (hP : va_P G.1 am_cl ws H) (hD : va_D A ws) (hS : va_S A s.heap H locs) {n : Int32} (N : Nat) (hn : n = nI N) (hN : N ≤ 10000000) (hcells : cells + 1 ≤ R.cells) (hslots : slots + N ≤ R.slots) (hdg : decode cc pc = .ok (.newarray .int, 2)) (kk : ∀ (q : Nat) (H1 : Heap), va_P G.1 am_cl (ws ++ [(q, eI G.2.1 N)]) H1 → va_D A (ws ++ [(q, eI G.2.1 N)]) → va_S A s.heap H1 locs → W p l e R s m args below meth c H1 locs (cells + 1) (slots + N) Q (F0 m (pc + 2) ls (.ref q :: rest))) : W p l e R s m args below meth c H locs cells slots Q (F0 m pc ls (.int n :: rest)) := by
  obtain ⟨hx, hb, hml, hown, hts, hK, hA, hin⟩ := X
  subst hn
  refine va_newa (atype := .int) (ty := .int) (a0 := (N, .inl zI)) hx hb (hts (.arrayClass .int) (am_mem 138 (by decide +kernel) rfl)) rfl hK.1 hP hD hS hA (fun cA => by first | exact vp_cell_i cA N zI | exact vp_cell_l cA N zJ) (nI_pos (by omega)) (nI_clamp (by omega)) (Nat.le_trans (Nat.mul_le_mul_left N (show componentBytes (newarray.typeOf ArrayType.int) ≤ 8 by decide)) (by omega)) hcells hslots hdg (fun q cA H1 hK' hP' hD' hS' => ?_)
  have : cA = G.2.1 11 := cn_ra (G := G) (tys := []) (hK'.2 4 (cA, .int) rfl).2 (hK.1.2 0 (G.2.1 11, .int) rfl).2
  subst this
  exact kk q H1 hP' hD' hS'
theorem cn_newJ (X : cn_X p s m args meth c nL cc own G A) {ws : va_W} (hP : va_P G.1 am_cl ws H) (hD : va_D A ws) (hS : va_S A s.heap H locs) {n : Int32} (N : Nat) (hn : n = nI N) (hN : N ≤ 10000000) (hcells : cells + 1 ≤ R.cells) (hslots : slots + N ≤ R.slots) (hdg : decode cc pc = .ok (.newarray .long, 2)) (kk : ∀ (q : Nat) (H1 : Heap), va_P G.1 am_cl (ws ++ [(q, eJ G.2.1 N)]) H1 → va_D A (ws ++ [(q, eJ G.2.1 N)]) → va_S A s.heap H1 locs → W p l e R s m args below meth c H1 locs (cells + 1) (slots + N) Q (F0 m (pc + 2) ls (.ref q :: rest))) : W p l e R s m args below meth c H locs cells slots Q (F0 m pc ls (.int n :: rest)) := by
  obtain ⟨hx, hb, hml, hown, hts, hK, hA, hin⟩ := X
  subst hn
  refine va_newa (atype := .long) (ty := .long) (a0 := (N, .inr (.inl zJ))) hx hb (hts (.arrayClass .long) (am_mem 104 (by decide +kernel) rfl)) rfl hK.1 hP hD hS hA (fun cA => by first | exact vp_cell_i cA N zI | exact vp_cell_l cA N zJ) (nI_pos (by omega)) (nI_clamp (by omega)) (Nat.le_trans (Nat.mul_le_mul_left N (show componentBytes (newarray.typeOf ArrayType.long) ≤ 8 by decide)) (by omega)) hcells hslots hdg (fun q cA H1 hK' hP' hD' hS' => ?_)
  have : cA = G.2.1 12 := cn_ra (G := G) (tys := []) (hK'.2 4 (cA, .long) rfl).2 (hK.1.2 1 (G.2.1 12, .long) rfl).2
  subst this
  exact kk q H1 hP' hD' hS'
theorem cn_newZ (X : cn_X p s m args meth c nL cc own G A) {ws : va_W} (hP : va_P G.1 am_cl ws H) (hD : va_D A ws) (hS : va_S A s.heap H locs) {n : Int32} (N : Nat) (hn : n = nI N) (hN : N ≤ 10000000) (hcells : cells + 1 ≤ R.cells) (hslots : slots + N ≤ R.slots) (hdg : decode cc pc = .ok (.newarray .boolean, 2)) (kk : ∀ (q : Nat) (H1 : Heap), va_P G.1 am_cl (ws ++ [(q, eZ G.2.1 N)]) H1 → va_D A (ws ++ [(q, eZ G.2.1 N)]) → va_S A s.heap H1 locs → W p l e R s m args below meth c H1 locs (cells + 1) (slots + N) Q (F0 m (pc + 2) ls (.ref q :: rest))) : W p l e R s m args below meth c H locs cells slots Q (F0 m pc ls (.int n :: rest)) := by
  obtain ⟨hx, hb, hml, hown, hts, hK, hA, hin⟩ := X
  subst hn
  refine va_newa (atype := .boolean) (ty := .boolean) (a0 := (N, .inl zI)) hx hb (hts (.arrayClass .boolean) (am_mem 225 (by decide +kernel) rfl)) rfl hK.1 hP hD hS hA (fun cA => by first | exact vp_cell_i cA N zI | exact vp_cell_l cA N zJ) (nI_pos (by omega)) (nI_clamp (by omega)) (Nat.le_trans (Nat.mul_le_mul_left N (show componentBytes (newarray.typeOf ArrayType.boolean) ≤ 8 by decide)) (by omega)) hcells hslots hdg (fun q cA H1 hK' hP' hD' hS' => ?_)
  have : cA = G.2.1 13 := cn_ra (G := G) (tys := []) (hK'.2 4 (cA, .boolean) rfl).2 (hK.1.2 2 (G.2.1 13, .boolean) rfl).2
  subst this
  exact kk q H1 hP' hD' hS'
theorem cn_newq (X : cn_X p s m args meth c nL cc own G A) {ws : va_W} {idx : Nat} (hcl : Cond.classLink own idx "WheelDisc$Disc" ∈ am_T) (hP : va_P G.1 am_cl ws H) (hD : va_D A ws) (hS : va_S A s.heap H locs) {n : Int32} (N : Nat) (hn : n = nI N) (hN : N ≤ 10000000) (hcells : cells + 1 ≤ R.cells) (hslots : slots + N ≤ R.slots) (hdg : decode cc pc = .ok (.anewarray idx, 3)) (kk : ∀ (q : Nat) (H1 : Heap), va_P G.1 am_cl (ws ++ [(q, eQ G.2.1 N (fun _ => none))]) H1 → va_D A (ws ++ [(q, eQ G.2.1 N (fun _ => none))]) → va_S A s.heap H1 locs → W p l e R s m args below meth c H1 locs (cells + 1) (slots + N) Q (F0 m (pc + 3) ls (.ref q :: rest))) : W p l e R s m args below meth c H locs cells slots Q (F0 m pc ls (.int n :: rest)) := by
  obtain ⟨hx, hb, hml, hown, hts, hK, hA, hin⟩ := X
  subst hn
  refine va_newq hx hb hown (hts _ hcl) hK.2.2 hK.1 hP hD hS hA (nI_pos (by omega)) (nI_clamp (by omega)) (by omega) hcells hslots hdg (fun q cA H1 hK' hP' hD' hS' => ?_)
  have : cA = G.2.1 14 := cn_ra (G := G) (tys := []) (hK'.2 4 (cA, .object "WheelDisc$Disc") rfl).2 (hK.1.2 3 (G.2.1 14, .object "WheelDisc$Disc") rfl).2
  subst this
  exact kk q H1 hP' hD' hS'
theorem cn_put (X : cn_X p s m args meth c nL cc own G A) {ci N k idx : Nat} {T : u_T} (hci : ci < 11) (hc : am_cl[ci]? = some (own, T, N)) (hk : k < N) (hl : Cond.fieldLink own idx own (T k).2.1 (T k).2.2.1 ∈ am_T) {v : Value} (hnw : narrow (am_tyf ci k) v = v) (hfit : fits (am_tyf ci k) v = true) {h0 : Nat} {fs : List Value} {Rw : va_W} (hlen : k < fs.length) (hP : va_P G.1 am_cl ((h0, .inr (ci, fs)) :: Rw) H) (hD : va_D A ((h0, .inr (ci, fs)) :: Rw)) (hS : va_S A s.heap H locs) (hdg : decode cc pc = .ok (.putfield idx, 3)) (kk : ∀ (H1 : Heap) (locs1 : List Loc), va_P G.1 am_cl ((h0, .inr (ci, fs.set k v)) :: Rw) H1 → va_D A ((h0, .inr (ci, fs.set k v)) :: Rw) → va_S A s.heap H1 locs1 → W p l e R s m args below meth c H1 locs1 cells slots Q (F0 m (pc + 3) ls rest)) : W p l e R s m args below meth c H locs cells slots Q (F0 m pc ls (v :: .ref h0 :: rest)) := by
  obtain ⟨hx, hb, hml, hown, hts, hK, hA, hin⟩ := X
  obtain ⟨g1, g2, g3⟩ := am_cl_ok ci hci _ hc
  have hdecl : (T k).1 = own := (g2 k hk).2.1
  cases hfin : (T k).2.2.2 with
  | true => exact va_putF (D := G.1) (ref := own) hx hb hts g1 (am_tyf ci) (fun j hj => (g2 j hj).1) g3 hown hK.1 hP hD hS 0 rfl hc k hk (hts _ hl) (fun x h => by rw [hdecl] at h; exact h) hfin hin hdecl (g2 k hk).1 hnw hfit hlen hdg kk
  | false => exact va_put (D := G.1) (ref := own) hx hb hts g1 (am_tyf ci) (fun j hj => (g2 j hj).1) g3 hown hK.1 hP hD hS 0 rfl hc k hk (hts _ hl) (fun x h => by rw [hdecl] at h; exact h) hfin (g2 k hk).1 hnw hfit hlen hdg kk
theorem cn_new (X : cn_X p s m args meth c nL cc own G A) {ws : va_W} {ci N idx : Nat} {C : String} {T : u_T} (hci : ci < 11) (hc : am_cl[ci]? = some (C, T, N)) (hl : Cond.classLink own idx C ∈ am_T) (hinst : Cond.instantiable C N ∈ am_T) (hini : Cond.initialized C ∈ am_T) {fs : List Value} (hfs : ∀ j, j < N → defaultValue (am_tyf ci j) = vp_V fs j) (hP : va_P G.1 am_cl ws H) (hD : va_D A ws) (hS : va_S A s.heap H locs) (hcells : cells + 1 ≤ R.cells) (hslots : slots + N ≤ R.slots) (hdg : decode cc pc = .ok (.new idx, 3)) (kk : ∀ (q : Nat) (H1 : Heap), va_P G.1 am_cl (ws ++ [(q, .inr (ci, fs))]) H1 → va_D A (ws ++ [(q, .inr (ci, fs))]) → va_S A s.heap H1 locs → W p l e R s m args below meth c H1 locs (cells + 1) (slots + N) Q (F0 m (pc + 3) ls (.ref q :: rest))) : W p l e R s m args below meth c H locs cells slots Q (F0 m pc ls rest) := by
  obtain ⟨hx, hb, hml, hown, hts, hK, hA, hin⟩ := X
  obtain ⟨g1, g2, g3⟩ := am_cl_ok ci hci _ hc
  exact va_new (ci := ci) (fs := fs) hx hb hts g1 (am_tyf ci) (fun j hj => (g2 j hj).1) hown (hts _ hl) (hts _ hinst) (hts _ hini) hK.1 hP hD hS hA hc hfs hcells hslots hdg kk
theorem cn_pre {G : am_G} {q ci : Nat} {fs : List Value} {s : State} {H : Heap} (hK : cn_K G s) (hP : va_P G.1 am_cl [(q, .inr (ci, fs))] H) : PreS s H (cn_Pre G q ci fs H.size) [.ref q] := ⟨fun a U g mk z => by
  obtain ⟨z0, z1, z2, z3⟩ := z
  refine ⟨z0, z1, z2, va_K.moved (u := U) (U := U.calling g mk a) (Vm.Alike.refl U.vm) z3.1, fun w hw => ?_, va_AO.moved (u := U) (U := U.calling g mk a) (Vm.Alike.refl U.vm) z3.2.2⟩
  obtain ⟨a', i, y, z, rfl⟩ := am_N_nest w hw
  exact va_Nw.same rfl (u := U) rfl (z3.2.1 _ hw), fun U hU hW => ⟨rfl, by rw [hU], by rw [hU]; exact hP, hK.moved hW⟩⟩
theorem cn_callN (X : cn_X p s m args meth c nL cc own G A) {y : MethodName} {bytes : ByteArray} {maxL mc ms ci idx : Nat} {rm : Room} {fs : List Value} {post : Nat → va_W → Prop} {host : String} (hM : cn_Met l G y bytes maxL rm ci fs post mc ms) (hcode : Cond.code y bytes maxL none ∈ am_T) (hlink : Cond.methodLinkNest own idx y host ∈ am_N) (hini : Cond.initialized y.cls ∈ am_T) (hinst : Cond.instanceMethod y ∈ am_T) (hname : y.name = "<init>") (hd : y.cls ≠ "java/lang/invoke/MethodHandle" ∧ y.cls ≠ "java/lang/invoke/VarHandle" ∧ (parseMethodDescriptor y.desc).map (fun d => d.parameters.length) = some 0) (hrc : rm.cells = mc) (hrs : rm.slots = ms) (hR : rm.frames + 1 ≤ R.frames ∧ 8 + (maxL + 11) + rm.locals ≤ R.locals) {wr : va_W} {q : Nat} (hP : va_P G.1 am_cl (wr ++ [(q, .inr (ci, fs))]) H) (hD : va_D A (wr ++ [(q, .inr (ci, fs))])) (hS : va_S A s.heap H locs) (hls : ls.size = nL) (hcells : cells + mc ≤ R.cells) (hslots : slots + ms ≤ R.slots) (hst : (rest.map fun v => v.category).sum ≤ 8) (hdg : decode cc pc = .ok (.invokespecial idx, 3)) (kk : ∀ (w : va_W) (H1 : Heap) (locs1 : List Loc), post q w → va_P G.1 am_cl (wr ++ w) H1 → va_D A (wr ++ w) → va_S A s.heap H1 locs1 → W p l e R s m args below meth c H1 locs1 (cells + mc) (slots + ms) Q (F0 m (pc + 3) ls rest)) : W p l e R s m args below meth c H locs cells slots Q (F0 m pc ls (.ref q :: rest)) := by
  obtain ⟨hx, hb, hml, hown, hts, hK, hA, hin⟩ := X
  have hPc : va_P G.1 am_cl [(q, .inr (ci, fs))] H := va_P_of (fun z hz => va_P_mem hP (List.mem_append_right _ hz))
  have hFc := cn_free hD hS hA
  refine va_callv (va_runIN (As := []) (rest := rest) (host := host) ⟨hx, hb, hml, hown, hts⟩ (hM q H.size) ⟨va_cnB 0 hts (am_goodIn hcode) rfl hrc hrs (hK.2.1 _ hlink) (hts _ hini) hd hR, hname, hts _ hinst⟩ (cn_pre hK hPc) rfl rfl hls rfl (lv_room hst) hdg ⟨hcells, hslots⟩) hS (fun z _ hz => hFc z hz) hFc (fun w t H1 locs1 ht hvm hpost hB hz1 hk1 hS1 => ?_)
  obtain ⟨hP1, hD1⟩ := hB
  rw [ht] at hP1
  obtain ⟨hP2, hD2⟩ := cn_join hP hD hk1 hFc hP1 hD1
  exact kk w H1 locs1 hpost hP2 hD2 hS1
theorem cn_callL (X : cn_X p s m args meth c nL cc own G A) {y : MethodName} {bytes : ByteArray} {maxL mc ms ci idx : Nat} {rm : Room} {fs : List Value} {post : Nat → va_W → Prop} (hM : cn_Met l G y bytes maxL rm ci fs post mc ms) (hcode : Cond.code y bytes maxL none ∈ am_T) (hlink : Cond.methodLink own idx y ∈ am_T) (hini : Cond.initialized y.cls ∈ am_T) (hinst : Cond.instanceMethod y ∈ am_T) (hname : y.name = "<init>") (hd : y.cls ≠ "java/lang/invoke/MethodHandle" ∧ y.cls ≠ "java/lang/invoke/VarHandle" ∧ (parseMethodDescriptor y.desc).map (fun d => d.parameters.length) = some 0) (hrc : rm.cells = mc) (hrs : rm.slots = ms) (hR : rm.frames + 1 ≤ R.frames ∧ 8 + (maxL + 11) + rm.locals ≤ R.locals) {wr : va_W} {q : Nat} (hP : va_P G.1 am_cl (wr ++ [(q, .inr (ci, fs))]) H) (hD : va_D A (wr ++ [(q, .inr (ci, fs))])) (hS : va_S A s.heap H locs) (hls : ls.size = nL) (hcells : cells + mc ≤ R.cells) (hslots : slots + ms ≤ R.slots) (hst : (rest.map fun v => v.category).sum ≤ 8) (hdg : decode cc pc = .ok (.invokespecial idx, 3)) (kk : ∀ (w : va_W) (H1 : Heap) (locs1 : List Loc), post q w → va_P G.1 am_cl (wr ++ w) H1 → va_D A (wr ++ w) → va_S A s.heap H1 locs1 → W p l e R s m args below meth c H1 locs1 (cells + mc) (slots + ms) Q (F0 m (pc + 3) ls rest)) : W p l e R s m args below meth c H locs cells slots Q (F0 m pc ls (.ref q :: rest)) := by
  obtain ⟨hx, hb, hml, hown, hts, hK, hA, hin⟩ := X
  have hPc : va_P G.1 am_cl [(q, .inr (ci, fs))] H := va_P_of (fun z hz => va_P_mem hP (List.mem_append_right _ hz))
  have hFc := cn_free hD hS hA
  refine va_callv (va_runI (As := []) (rest := rest) ⟨hx, hb, hml, hown, hts⟩ (hM q H.size) (cwI 0 hts (am_goodIn hcode) rfl hrc hrs (hts _ hini) (hts _ hlink) (hts _ hinst) hname hd hR) (cn_pre hK hPc) rfl rfl hls rfl (lv_room hst) hdg ⟨hcells, hslots⟩) hS (fun z _ hz => hFc z hz) hFc (fun w t H1 locs1 ht hvm hpost hB hz1 hk1 hS1 => ?_)
  obtain ⟨hP1, hD1⟩ := hB
  rw [ht] at hP1
  obtain ⟨hP2, hD2⟩ := cn_join hP hD hk1 hFc hP1 hD1
  exact kk w H1 locs1 hpost hP2 hD2 hS1
theorem cn_obj (X : cn_X p s m args meth c nL cc own G A) {idx h0 : Nat} (hl : Cond.methodLink own idx Lib.objectInit ∈ am_T) (hls : ls.size = nL) (hfr : 1 ≤ R.frames) (hlo : 12 ≤ R.locals) (hdg : decode cc pc = .ok (.invokespecial idx, 3)) (kk : W p l e R s m args below meth c H locs cells slots Q (F0 m (pc + 3) ls [])) : W p l e R s m args below meth c H locs cells slots Q (F0 m pc ls [.ref h0]) := by
  obtain ⟨hx, hb, hml, hown, hts, hK, hA, hin⟩ := X
  refine W.objInit hx hb hown (hts _ hl) (hts _ (am_mem 84 (by decide +kernel) rfl)) (hts _ (am_mem 85 (by decide +kernel) rfl)) rfl (by rw [hml]; exact hls) rfl hdg hfr ?_ ?_
  · exact hlo
  · exact W.eq (g2 := F0 m (pc + 3) ls []) rfl kk
end CN
/-- a constructor's contract, from its body -/
theorem cn_ofW {l : Launch} {G : am_G} {y : MethodName} {bytes : ByteArray} {maxL : Nat} {rm : Room} {ci : Nat} {fs : List Value} {post : Nat → va_W → Prop} {mc ms : Nat} (hy : plainFor y = true) (hname : y.name = "<init>") (hmx : 1 ≤ maxL) (body : ∀ p e s m args below meth c h0 (A : Nat → Prop) (ls : Array Slot), cn_X p s m args meth c maxL bytes y.cls G A → lv_has ls maxL [(0, .ref h0)] → va_P G.1 am_cl [(h0, .inr (ci, fs))] s.heap → va_D A [(h0, .inr (ci, fs))] → va_S A s.heap s.heap [] → (∀ (H : Heap) (locs : List Loc) (w : va_W) (pc : Nat) (ls : Array Slot), decode bytes pc = .ok (.return_, 1) → post h0 w → va_P G.1 am_cl w H → va_D A w → va_S A s.heap H locs → W p l e rm s m args below meth c H locs mc ms (MQ below (cn_Post G h0 ci fs s.heap.size (post h0)) args s mc ms A) (F0 m pc ls [])) → W p l e rm s m args below meth c s.heap [] 0 0 (MQ below (cn_Post G h0 ci fs s.heap.size (post h0)) args s mc ms A) (F0 m 0 ls [])) : cn_Met l G y bytes maxL rm ci fs post mc ms := by
  intro h0 sz
  refine am_ofW (cc := bytes) (maxL := maxL) (ret := none) hy rfl ?_
  intro p e s m args below meth c s₁ B hml hv
  obtain ⟨rfl, rfl, hP, hK⟩ := hv
  have hts : ∀ w ∈ am_T, w.before ([.ref h0] : List Value).toArray s = true := fun w hw => atoms_spec (ws := Cond.code y bytes maxL none :: am_T) B.pre w (List.mem_cons_of_mem _ hw)
  have hown : s.vm.findClass y.cls = some m.cls := findClass_of_methodNamed B.named
  have hin : meth.name = "<init>" := ((name_of_methodNamed B.named B.method).1).trans hname
  have hD : va_D (va_A [(h0, .inr (ci, fs))] s.heap.size) [(h0, .inr (ci, fs))] := ⟨fun i j p q hi hj _ => by
    have h1 : i < 1 := (List.getElem?_eq_some_iff.mp hi).1
    have h2 : j < 1 := (List.getElem?_eq_some_iff.mp hj).1
    omega, fun k q hk => va_A.in hk⟩
  have hl := lv_entry ([.ref h0]) (n := maxL) hmx
  rw [lg_entry_eq]
  generalize (lg_sl ([.ref h0]) ++ List.replicate (maxL - (lg_sl ([.ref h0])).length) Slot.unset).toArray = ls at hl ⊢
  refine body p e s m _ below meth c h0 (va_A [(h0, .inr (ci, fs))] s.heap.size) ls ⟨B.exec, B.bytes, hml, hown, hts, hK, fun q h => Or.inr h, hin⟩ hl hP hD va_S.rf (fun H locs w pc ls hd hpost hP1 hD1 hS => ?_)
  exact W.vret B.exec B.bytes B.returns (fun t ht hW => ⟨⟨w, rfl, hpost, by rw [ht]; exact hP1, hD1⟩, hS.F ht⟩) hS.2.2 hd B.notSynchronized
