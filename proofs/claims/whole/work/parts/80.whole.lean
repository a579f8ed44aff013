/-! THE CLAIM OUT OF ONE WALK OF THE LAW'S BODY. Your part is whole_start (and what it stands on); all else here is the same for every law, but numbers. -/
def R_law : String := "WheelDiscLaw"
def lw_P (b : Addr) (xs : List Int32) (args : Array Value) (s : State) : Prop := args = #[.ref b] ∧ s.IntsAt b xs ∧ xs.length ≤ 2048 ∧ (Jvm.Cond.and given_1 narrow_1).before args s = true
def lw_Q (_ : Array Value) (s : State) (o : Outcome) (t : State) : Prop := o = .returned (some (.int 1)) ∧ Framed s o t [] 600000 7302250
def lw_Z (below : List Frame) (a : Array Value) (s : State) : State → Prop := fun t => ∃ o, t.status = .running ∧ Ended t below o ∧ lw_Q a s o t
/-- the law's own end, with 1 on the stack, nothing written that was there before, its room as the claim has it -/
theorem lw_ret {p : Program} {l : Launch} {e : Env} {s : State} {m : MethodId} {below : List Frame} {meth : Method} {c : Code} {b : Nat} (hx : p.tables.exec = Jvm.exec) (hb : c.code = code) (hr : meth.sig.returnType = ret) (hlocks : meth.locks = false) {pc : Nat} {H : Heap} {ls : Array Slot} (hdg : decode code pc = .ok (.ireturn, 1)) : W p l e room_1 s m #[Value.ref b] below meth c H [] 600000 7302250 (lw_Z below #[Value.ref b] s) (F0 m pc ls [.int 1]) := by
  intro T hT X
  obtain ⟨fs, hret, hrun, hended, hW, hframe⟩ := X.leave (v := some (.int 1)) (hlocks := hlocks) (fun h => by rw [hr] at h; cases h)
  have hmeth' : T.vm.method? m = some meth := X.method'
  refine ⟨T.setFrames fs, ?_, .returned (some (.int 1)), hrun, hended, rfl, ⟨_, rfl⟩, hW, hframe⟩
  jvm_step X.here [X.here.top, hx, hb, hdg, hmeth', hr, ret, narrow_b1]
  (try refine ⟨rfl, ?_⟩); (try refine ⟨rfl, ?_⟩)
  first | (intro acts; rw [hret _ acts rfl rfl rfl]) | rw [hret _ _ rfl rfl rfl]
  exact Steps.refl _
/-- what holds at the law's entry: the machine, the code, the tables' words (any of lw_tbl by 'hts w (by decide +kernel)'), the script of L ints xs at the cell b, what the Statement gives of the start (any of its parts by flat_of_before) -/
def lw_At (p : Program) (s : State) (m : MethodId) (meth : Method) (c : Code) (b L : Nat) (xs : Nat → Int32) : Prop :=
  p.tables.exec = Jvm.exec ∧ c.code = code ∧ meth.sig.returnType = ret ∧ c.maxLocals = 4 ∧ s.vm.findClass R_law = some m.cls ∧ (∀ w ∈ lw_tbl, w.before #[Value.ref b] s = true) ∧ va_X b L xs s s.heap ∧ b < s.heap.size ∧ meth.locks = false ∧ (Jvm.Cond.and given_1 narrow_1).before #[Value.ref b] s = true
/-! THE LAW'S ENTRY -/
theorem d_L_0 : decode code 0 = .ok (.new 7, 3) := by decide +kernel
theorem d_L_3 : decode code 3 = .ok (.dup, 1) := by decide +kernel
theorem d_L_4 : decode code 4 = .ok (.invokespecial 9, 3) := by decide +kernel
theorem d_L_7 : decode code 7 = .ok (.astore_n 1, 1) := by decide +kernel
theorem d_L_8 : decode code 8 = .ok (.new 10, 3) := by decide +kernel
theorem d_L_11 : decode code 11 = .ok (.dup, 1) := by decide +kernel
theorem d_L_12 : decode code 12 = .ok (.invokespecial 12, 3) := by decide +kernel
theorem d_L_15 : decode code 15 = .ok (.astore_n 2, 1) := by decide +kernel
theorem d_L_16 : decode code 16 = .ok (.iconst 0, 1) := by decide +kernel
theorem d_L_17 : decode code 17 = .ok (.istore_n 3, 1) := by decide +kernel
theorem lw_inst : ∀ k, k < 11 → ∀ q, am_cl[k]? = some q → Cond.instantiable q.1 q.2.2 ∈ am_T := by
  intro ci h q hq
  match ci, h, hq with
  | 0, _, hq => cases hq; exact am_mem 106 (by decide +kernel) rfl
  | 1, _, hq => cases hq; exact am_mem 262 (by decide +kernel) rfl
  | 2, _, hq => cases hq; exact am_mem 199 (by decide +kernel) rfl
  | 3, _, hq => cases hq; exact am_mem 140 (by decide +kernel) rfl
  | 4, _, hq => cases hq; exact am_mem 166 (by decide +kernel) rfl
  | 5, _, hq => cases hq; exact am_mem 87 (by decide +kernel) rfl
  | 6, _, hq => cases hq; exact am_mem 227 (by decide +kernel) rfl
  | 7, _, hq => cases hq; exact am_mem 160 (by decide +kernel) rfl
  | 8, _, hq => cases hq; exact am_mem 297 (by decide +kernel) rfl
  | 9, _, hq => cases hq; exact am_mem 79 (by decide +kernel) rfl
  | 10, _, hq => cases hq; exact am_mem 932 (by decide +kernel) rfl
  | n + 11, h, _ => exact absurd h (by omega)
theorem lw_known {args : Array Value} {s : State} (hts : ∀ w ∈ am_T, w.before args s = true) (hN : ∀ w ∈ am_N, va_Nw w s) (hAO : (Cond.arrayOver (.object "WheelDisc$Disc")).before args s = true) : ∃ (D : va_G) (cls : Nat → ClassId), ∀ ad : Nat → Nat, cn_K (D, cls, ad) s := by
  have h : ∀ k : Nat, ∃ (c : ClassId) (iS : Nat → Nat), ∀ q : vw_C, am_cl[k]? = some q → u_Kn s q.1 q.2.1 q.2.2 c iS := by
    intro k
    cases hq : am_cl[k]? with
    | none => exact ⟨0, fun _ => 0, fun q hq' => by cases hq'⟩
    | some q =>
      have hk : k < 11 := (List.getElem?_eq_some_iff.mp hq).1
      obtain ⟨c, iS, h⟩ := u_known (C := q.1) (T := q.2.1) (N := q.2.2) (n := q.2.2) hts (am_cl_ok k hk q hq).1 (hts _ (lw_inst k hk q hq))
      exact ⟨c, iS, fun q' hq' => by cases hq'; exact h⟩
  obtain ⟨cI, kI, pI, i1, i2, i3⟩ := Cond.arrayClass_spec (hts (.arrayClass .int) (am_mem 138 (by decide +kernel) rfl))
  obtain ⟨cJ, kJ, pJ, j1, j2, j3⟩ := Cond.arrayClass_spec (hts (.arrayClass .long) (am_mem 104 (by decide +kernel) rfl))
  obtain ⟨cZ, kZ, pZ, z1, z2, z3⟩ := Cond.arrayClass_spec (hts (.arrayClass .boolean) (am_mem 225 (by decide +kernel) rfl))
  obtain ⟨pD, cD', kD, f4, _, f2, f3, f1⟩ := Cond.arrayOver_spec hAO
  refine ⟨(fun k => Classical.choose (h k), fun k => Classical.choose (Classical.choose_spec (h k))), fun t => if t = 11 then cI else if t = 12 then cJ else if t = 13 then cZ else cD', fun ad => ⟨⟨fun k q hq => ?_, fun k q hq => ?_⟩, hN, va_AO.of hAO⟩⟩
  · exact Classical.choose_spec (Classical.choose_spec (h k)) q hq
  · match k, hq with
    | 0, hq => cases hq; exact ⟨fun n z => ⟨fun k h => (by cases h), kI, i2, pI, i3⟩, i1⟩
    | 1, hq => cases hq; exact ⟨fun n z => ⟨fun k h => (by cases h), kJ, j2, pJ, j3⟩, j1⟩
    | 2, hq => cases hq; exact ⟨fun n z => ⟨fun k h => (by cases h), kZ, z2, pZ, z3⟩, z1⟩
    | 3, hq => cases hq; exact ⟨fun n z => ⟨fun k h => (by cases h), kD, f2, pD, f3⟩, kD, pD, f2, f3, f4, f1⟩
    | k + 4, hq => simp [am_tys] at hq
theorem rgW_ad (D : va_G) (cls : Nat → ClassId) (x y : Nat → Nat) (a b c d : Nat → Nat) : ∀ n, rgW (D, cls, x) a b c d n = rgW (D, cls, y) a b c d n
  | 0 => rfl
  | n + 1 => by
    unfold rgW
    rw [rgW_ad D cls x y a b c d n]
    rfl
section LWS
variable {p : Program} {l : Launch} {e : Env} {R : Room} {s : State} {m : MethodId} {args : Array Value} {below : List Frame} {meth : Method} {c : Code} {H : Heap} {locs : List Loc} {cells slots nL : Nat} {Q : State → Prop} {cc : ByteArray} {own : String} {G : am_G} {A : Nat → Prop} {pc : Nat} {ls : Array Slot} {rest : List Value}
theorem lw_new (hx : p.tables.exec = Jvm.exec) (hb : c.code = cc) (hown : s.vm.findClass own = some m.cls) (hts : ∀ w ∈ am_T, w.before args s = true) (hK : cn_K G s) (hA : ∀ q : Nat, s.heap.size ≤ q → A q) {ws : va_W} {ci N idx : Nat} {C : String} {T : u_T} (hci : ci < 11) (hc : am_cl[ci]? = some (C, T, N)) (hl : Cond.classLink own idx C ∈ am_T) (hinst : Cond.instantiable C N ∈ am_T) (hini : Cond.initialized C ∈ am_T) {fs : List Value} (hfs : ∀ j, j < N → defaultValue (am_tyf ci j) = vp_V fs j) (hP : va_P G.1 am_cl ws H) (hD : va_D A ws) (hS : va_S A s.heap H locs) (hcells : cells + 1 ≤ R.cells) (hslots : slots + N ≤ R.slots) (hdg : decode cc pc = .ok (.new idx, 3)) (kk : ∀ (q : Nat) (H1 : Heap), va_P G.1 am_cl (ws ++ [(q, .inr (ci, fs))]) H1 → va_D A (ws ++ [(q, .inr (ci, fs))]) → va_S A s.heap H1 locs → W p l e R s m args below meth c H1 locs (cells + 1) (slots + N) Q (F0 m (pc + 3) ls (.ref q :: rest))) : W p l e R s m args below meth c H locs cells slots Q (F0 m pc ls rest) := by
  obtain ⟨g1, g2, g3⟩ := am_cl_ok ci hci _ hc
  exact va_new (ci := ci) (fs := fs) hx hb hts g1 (am_tyf ci) (fun j hj => (g2 j hj).1) hown (hts _ hl) (hts _ hinst) (hts _ hini) hK.1 hP hD hS hA hc hfs hcells hslots hdg kk
theorem lw_call (hx : p.tables.exec = Jvm.exec) (hb : c.code = cc) (hml : c.maxLocals = nL) (hown : s.vm.findClass own = some m.cls) (hts : ∀ w ∈ am_T, w.before args s = true) (hK : cn_K G s) (hA : ∀ q : Nat, s.heap.size ≤ q → A q) {y : MethodName} {bytes : ByteArray} {maxL mc ms ci idx : Nat} {rm : Room} {fs : List Value} {post : Nat → va_W → Prop} (hM : cn_Met l G y bytes maxL rm ci fs post mc ms) (hcode : Cond.code y bytes maxL none ∈ am_T) (hlink : Cond.methodLink own idx y ∈ am_T) (hini : Cond.initialized y.cls ∈ am_T) (hinst : Cond.instanceMethod y ∈ am_T) (hname : y.name = "<init>") (hd : y.cls ≠ "java/lang/invoke/MethodHandle" ∧ y.cls ≠ "java/lang/invoke/VarHandle" ∧ (parseMethodDescriptor y.desc).map (fun d => d.parameters.length) = some 0) (hrc : rm.cells = mc) (hrs : rm.slots = ms) (hR : rm.frames + 1 ≤ R.frames ∧ 8 + (maxL + 11) + rm.locals ≤ R.locals) {wr : va_W} {q : Nat} (hP : va_P G.1 am_cl (wr ++ [(q, .inr (ci, fs))]) H) (hD : va_D A (wr ++ [(q, .inr (ci, fs))])) (hS : va_S A s.heap H locs) (hls : ls.size = nL) (hcells : cells + mc ≤ R.cells) (hslots : slots + ms ≤ R.slots) (hst : (rest.map fun v => v.category).sum ≤ 8) (hdg : decode cc pc = .ok (.invokespecial idx, 3)) (kk : ∀ (w : va_W) (H1 : Heap) (locs1 : List Loc), post q w → va_P G.1 am_cl (wr ++ w) H1 → va_D A (wr ++ w) → va_S A s.heap H1 locs1 → W p l e R s m args below meth c H1 locs1 (cells + mc) (slots + ms) Q (F0 m (pc + 3) ls rest)) : W p l e R s m args below meth c H locs cells slots Q (F0 m pc ls (.ref q :: rest)) := by
  have hPc : va_P G.1 am_cl [(q, .inr (ci, fs))] H := va_P_of (fun z hz => va_P_mem hP (List.mem_append_right _ hz))
  have hFc := cn_free hD hS hA
  refine va_callv (va_runI (As := []) (rest := rest) ⟨hx, hb, hml, hown, hts⟩ (hM q H.size) (cwI 0 hts (am_goodIn hcode) rfl hrc hrs (hts _ hini) (hts _ hlink) (hts _ hinst) hname hd hR) (cn_pre hK hPc) rfl rfl hls rfl (lv_room hst) hdg ⟨hcells, hslots⟩) hS (fun z _ hz => hFc z hz) hFc (fun w t H1 locs1 ht hvm hpost hB hz1 hk1 hS1 => ?_)
  obtain ⟨hP1, hD1⟩ := hB
  rw [ht] at hP1
  obtain ⟨hP2, hD2⟩ := cn_join hP hD hk1 hFc hP1 hD1
  exact kk w H1 locs1 hpost hP2 hD2 hS1
end LWS
set_option maxHeartbeats 4000000 in
set_option maxRecDepth 100000 in
/-- the law's loop, from the world that the constructors leave -/
theorem lw_loop {p : Program} {e : Env} {s : State} {m : MethodId} {below : List Frame} {meth : Method} {c0 : Code} (l : Launch) {bb L : Nat} {xs : Nat → Int32} (hL : L ≤ 2048) (C0 : lw_At p s m meth c0 bb L xs) (D : va_G) (cls : Nat → ClassId) (hKn : ∀ ad : Nat → Nat, cn_K (D, cls, ad) s) (u a b c d v : Nat → Nat) {H : Heap} {locs : List Loc} {ls : Array Slot} {cells slots : Nat} (hcells : cells ≤ 600000) (hslots : slots ≤ 7302250) (hP : va_P D am_cl (wL D cls u a b c d v bb) H) (hD : va_D (fun q : Nat => s.heap.size ≤ q) (wL D cls u a b c d v bb)) (hS : va_S (fun q : Nat => s.heap.size ≤ q) s.heap H locs) (hl : lv_has ls 4 [(0, .ref bb), (1, .ref (u 0)), (2, .ref (v 0)), (3, .int (nI 0))]) : W p l e room_1 s m #[Value.ref bb] below meth c0 H locs cells slots (lw_Z below #[Value.ref bb] s) (F0 m 18 ls []) := by
  obtain ⟨hx, hb, hr, hml, hown, hts, hX, hbl, hlocks, hgv⟩ := id C0
  have htsT : ∀ w ∈ am_T, w.before #[Value.ref bb] s = true := fun w hw => hts w (List.mem_filter.mp hw).1
  have hK := hKn (adr u a b c d v bb)
  have X : am_ctx p room_1 s m #[Value.ref bb] c0 cells slots 4 code "WheelDiscLaw" (stG D cls u a b c d v bb) (fun q : Nat => s.heap.size ≤ q) (am_rm 20) := ⟨hx, hb, hml, hown, htsT, hK.2.1, hK.1, st_A D cls u a b c d v bb hD, rfl, rfl, (Nat.le_of_ble_eq_true rfl), (Nat.le_of_ble_eq_true rfl), hcells, hslots⟩
  have hX2 : va_X ((stG D cls u a b c d v bb).2.2 1000) ((fun _ : Nat => nI L) 0).toNatClampNeg xs s s.heap := by
    show va_X bb (nI L).toNatClampNeg xs s s.heap
    rw [nI_clamp (by omega)]
    exact hX
  have hrun : am_r (am_run 20) "WheelDiscLaw" (some .boolean) code (am_Ri (fun x _ => x = nI 1)) 18 (lvs (nI 0)) [] (st0 xs L) := law_loop (d := 0) hL rfl (fun _ => rfl) L 0 (st0 xs L) (by omega) (by decide) (st_J xs L)
  have hnd : am_nd (lvs (nI 0)) := by
    intro j z hj
    match j, hj with
    | 0, hj => cases hj
    | 1, hj => cases hj
    | 2, hj => cases hj
    | 3, hj => cases hj
    | j + 4, hj => simp [lvs] at hj
  refine am_sw (X0 := xs) (L0 := fun _ => nI L) (some .boolean) (am_Ri (fun x _ => x = nI 1)) X (am_sound l (stG D cls u a b c d v bb) 20) hX2 (nI_pos' (by omega)) (Nat.not_le.mpr hbl) hbl (st_inj D cls u a b c d v bb hD) ?_ ?_ ?_ 18 (lvs (nI 0)) [] (st0 xs L) hrun hnd H locs ls (st_P D cls u a b c d v bb xs L hP) hS rfl rfl ⟨rfl, hl⟩
  · intro x σ H locs ls pc hd hret hq hP1 hS1 _ _
    obtain ⟨x', hx', hx1⟩ := hq
    cases hx'
    subst hx1
    refine va_forget (fun q hq => hS1.2.2 q hq) (W.widen (k := 600000) (n := 7302250) hcells hslots ?_)
    exact lw_ret hx hb hr hlocks hd
  · intro k σ H locs ls pc hd hret
    obtain ⟨n, hn⟩ := hret
    cases hn
  · intro σ H locs ls pc hd hret
    cases hret
set_option maxHeartbeats 1000000 in
set_option maxRecDepth 100000 in
/-- THE LAW, from its entry -/
theorem whole_start {p : Program} {e : Env} {s : State} {m : MethodId} {below : List Frame} {meth : Method} {c : Code} (l : Launch) {b L : Nat} {xs : Nat → Int32} (hL : L ≤ 2048) (C0 : lw_At p s m meth c b L xs) : W p l e room_1 s m #[Value.ref b] below meth c s.heap [] 0 0 (lw_Z below #[Value.ref b] s) (entryFrame m ([Value.ref b] : List Value).toArray 4) := by
  obtain ⟨hx, hb, hr, hml, hown, hts, hX, hbl, hlocks, hgv⟩ := id C0
  have htsT : ∀ w ∈ am_T, w.before #[Value.ref b] s = true := fun w hw => hts w (List.mem_filter.mp hw).1
  have hN : ∀ w ∈ am_N, va_Nw w s := fun w hw => by
    obtain ⟨a', i, y, h, rfl⟩ := am_N_nest w hw
    exact va_Nw.of rfl (hts _ (List.mem_filter.mp hw).1)
  obtain ⟨D, cls, hKn⟩ := lw_known htsT hN (hts _ (List.mem_of_getElem? (i := 146) (by decide +kernel)))
  have hA : ∀ q : Nat, s.heap.size ≤ q → (fun q : Nat => s.heap.size ≤ q) q := fun _ h => h
  have hK := hKn (fun _ => 0)
  have hS : va_S (fun q : Nat => s.heap.size ≤ q) s.heap s.heap [] := va_S.rf
  have hP : va_P D am_cl [] s.heap := fun k q h => by simp at h
  have hD : va_D (fun q : Nat => s.heap.size ≤ q) [] := ⟨fun i j p q h => by simp at h, fun k q h => by simp at h⟩
  have hl := lv_entry ([.ref b]) (n := 4) (Nat.le_of_ble_eq_true rfl)
  rw [lg_entry_eq]
  generalize (lg_sl ([.ref b]) ++ List.replicate (4 - (lg_sl ([.ref b])).length) Slot.unset).toArray = ls at hl ⊢
  have hl : lv_has ls 4 [(0, .ref b)] := hl
  refine lw_new (G := (D, cls, fun _ => 0)) (own := R_law) (ci := 9) (fs := [.null, .null, .null, .null, .null, .null, .null, .null, .null, .null, .null, .int 0, .int 0]) hx hb hown htsT hK hA (by decide) rfl (am_mem 78 (by decide +kernel) rfl) (am_mem 79 (by decide +kernel) rfl) (am_mem 62 (by decide +kernel) rfl) (fun j hj => by rcases (show j = 0 ∨ j = 1 ∨ j = 2 ∨ j = 3 ∨ j = 4 ∨ j = 5 ∨ j = 6 ∨ j = 7 ∨ j = 8 ∨ j = 9 ∨ j = 10 ∨ j = 11 ∨ j = 12 by omega) with rfl | rfl | rfl | rfl | rfl | rfl | rfl | rfl | rfl | rfl | rfl | rfl | rfl <;> rfl) hP hD hS (Nat.le_of_ble_eq_true rfl) (Nat.le_of_ble_eq_true rfl) d_L_0 (fun q0 H hP hD hS => ?_)
  refine lv_dup hx hb d_L_3 rfl ?_
  refine lw_call (G := (D, cls, fun _ => 0)) (own := R_law) hx hb hml hown htsT hK hA (k_WD_init l (D, cls, fun _ => 0)) c_WD_init (am_mem 80 (by decide +kernel) rfl) (am_mem 62 (by decide +kernel) rfl) (am_mem 81 (by decide +kernel) rfl) rfl ⟨by decide, by decide, by decide +kernel⟩ rfl rfl ⟨(Nat.le_of_ble_eq_true rfl), (Nat.le_of_ble_eq_true rfl)⟩ hP hD hS hl.1 (Nat.le_of_ble_eq_true rfl) (Nat.le_of_ble_eq_true rfl) (Nat.le_of_ble_eq_true rfl) d_L_4 (fun w H locs hw hP hD hS => ?_)
  refine lv_astore_n (lv' := [(1, .ref q0), (0, .ref b)]) hx hb d_L_7 rfl hl (by decide) rfl (fun ls hl => ?_)
  refine lw_new (G := (D, cls, fun _ => 0)) (own := R_law) (ci := 10) (fs := [.null, .null, .null, .null, .int 0, .int 0, .int 0, .int 0, .int 0, .null, .null, .int 0, .null, .int 0, .int 0, .int 0, .int 0, .int 0, .int 0, .null, .null, .null, .null, .null, .null, .int 0, .int 0, .null, .null, .int 0, .int 0]) hx hb hown htsT hK hA (by decide) rfl (am_mem 931 (by decide +kernel) rfl) (am_mem 932 (by decide +kernel) rfl) (am_mem 72 (by decide +kernel) rfl) (fun j hj => by rcases (show j = 0 ∨ j = 1 ∨ j = 2 ∨ j = 3 ∨ j = 4 ∨ j = 5 ∨ j = 6 ∨ j = 7 ∨ j = 8 ∨ j = 9 ∨ j = 10 ∨ j = 11 ∨ j = 12 ∨ j = 13 ∨ j = 14 ∨ j = 15 ∨ j = 16 ∨ j = 17 ∨ j = 18 ∨ j = 19 ∨ j = 20 ∨ j = 21 ∨ j = 22 ∨ j = 23 ∨ j = 24 ∨ j = 25 ∨ j = 26 ∨ j = 27 ∨ j = 28 ∨ j = 29 ∨ j = 30 by omega) with rfl | rfl | rfl | rfl | rfl | rfl | rfl | rfl | rfl | rfl | rfl | rfl | rfl | rfl | rfl | rfl | rfl | rfl | rfl | rfl | rfl | rfl | rfl | rfl | rfl | rfl | rfl | rfl | rfl | rfl | rfl <;> rfl) hP hD hS (Nat.le_of_ble_eq_true rfl) (Nat.le_of_ble_eq_true rfl) d_L_8 (fun m0 H hP hD hS => ?_)
  refine lv_dup hx hb d_L_11 rfl ?_
  refine lw_call (G := (D, cls, fun _ => 0)) (own := R_law) hx hb hml hown htsT hK hA (k_Mod_init l (D, cls, fun _ => 0)) c_Mod_init (am_mem 933 (by decide +kernel) rfl) (am_mem 72 (by decide +kernel) rfl) (am_mem 934 (by decide +kernel) rfl) rfl ⟨by decide, by decide, by decide +kernel⟩ rfl rfl ⟨(Nat.le_of_ble_eq_true rfl), (Nat.le_of_ble_eq_true rfl)⟩ hP hD hS hl.1 (Nat.le_of_ble_eq_true rfl) (Nat.le_of_ble_eq_true rfl) (Nat.le_of_ble_eq_true rfl) d_L_12 (fun w' H locs hw' hP hD hS => ?_)
  refine lv_astore_n (lv' := [(2, .ref m0), (1, .ref q0), (0, .ref b)]) hx hb d_L_15 rfl hl (by decide) rfl (fun ls hl => ?_)
  refine lv_iconst (v := nI 0) hx hb d_L_16 (by decide) ?_
  refine lv_istore_n (lv' := [(3, .int (nI 0)), (2, .ref m0), (1, .ref q0), (0, .ref b)]) hx hb d_L_17 rfl hl (by decide) rfl (fun ls hl => ?_)
  have hl : lv_has ls 4 [(0, .ref b), (1, .ref q0), (2, .ref m0), (3, .int (nI 0))] := lv_sub hl [3, 2, 1, 0] rfl
  obtain ⟨q1, q2, q3, q4, q5, q6, q7, q8, q9, q10, q11, w1, w2, w3, w4, w5, w6, w7, w8, w9, w10, h1, h2, h3, h4, h5, h6, h7, h8, h9, h10, rfl⟩ := hw
  obtain ⟨r1, rfl⟩ := h1
  obtain ⟨s1, s2, s3, rfl⟩ := h2
  obtain ⟨t1, a, b1, c1, d1, rfl⟩ := h3
  obtain ⟨v1, v2, wm, ⟨v3, rfl⟩, rfl⟩ := h4
  obtain ⟨f1, f2, f3, rfl⟩ := h5
  obtain ⟨g1, g2, g3, rfl⟩ := h6
  cases h7
  obtain ⟨k1, k2, k3, k4, k5, rfl⟩ := h8
  obtain ⟨n1, rfl⟩ := h9
  obtain ⟨o1, rfl⟩ := h10
  obtain ⟨y1, y2, y3, y4, y5, y6, y7, y8, y9, y10, y11, y12, y13, y14, y15, rfl⟩ := hw'
  obtain ⟨u, rfl, rfl, rfl, rfl, rfl, rfl, rfl, rfl, rfl, rfl, rfl, rfl, rfl, rfl, rfl, rfl, rfl, rfl, rfl, rfl, rfl, rfl, rfl, rfl, rfl, rfl, rfl, rfl, rfl, rfl, rfl, rfl, rfl⟩ : ∃ u : Nat → Nat, u 0 = q0 ∧ u 1 = q1 ∧ u 2 = r1 ∧ u 3 = q2 ∧ u 4 = s1 ∧ u 5 = s2 ∧ u 6 = s3 ∧ u 7 = q3 ∧ u 8 = t1 ∧ u 9 = q4 ∧ u 10 = v1 ∧ u 11 = v2 ∧ u 12 = v3 ∧ u 13 = q5 ∧ u 14 = f1 ∧ u 15 = f2 ∧ u 16 = f3 ∧ u 17 = q6 ∧ u 18 = g1 ∧ u 19 = g2 ∧ u 20 = g3 ∧ u 21 = q7 ∧ u 22 = q8 ∧ u 23 = k1 ∧ u 24 = k2 ∧ u 25 = k3 ∧ u 26 = k4 ∧ u 27 = k5 ∧ u 28 = q9 ∧ u 29 = n1 ∧ u 30 = q10 ∧ u 31 = o1 ∧ u 32 = q11 := ⟨fun k => [q0, q1, r1, q2, s1, s2, s3, q3, t1, q4, v1, v2, v3, q5, f1, f2, f3, q6, g1, g2, g3, q7, q8, k1, k2, k3, k4, k5, q9, n1, q10, o1, q11].getD k 0, rfl, rfl, rfl, rfl, rfl, rfl, rfl, rfl, rfl, rfl, rfl, rfl, rfl, rfl, rfl, rfl, rfl, rfl, rfl, rfl, rfl, rfl, rfl, rfl, rfl, rfl, rfl, rfl, rfl, rfl, rfl, rfl, rfl⟩
  obtain ⟨v, rfl, rfl, rfl, rfl, rfl, rfl, rfl, rfl, rfl, rfl, rfl, rfl, rfl, rfl, rfl, rfl⟩ : ∃ v : Nat → Nat, v 0 = m0 ∧ v 1 = y1 ∧ v 2 = y2 ∧ v 3 = y3 ∧ v 4 = y4 ∧ v 5 = y5 ∧ v 6 = y6 ∧ v 7 = y7 ∧ v 8 = y8 ∧ v 9 = y9 ∧ v 10 = y10 ∧ v 11 = y11 ∧ v 12 = y12 ∧ v 13 = y13 ∧ v 14 = y14 ∧ v 15 = y15 := ⟨fun k => [m0, y1, y2, y3, y4, y5, y6, y7, y8, y9, y10, y11, y12, y13, y14, y15].getD k 0, rfl, rfl, rfl, rfl, rfl, rfl, rfl, rfl, rfl, rfl, rfl, rfl, rfl, rfl, rfl, rfl⟩
  simp only [List.nil_append, List.cons_append, List.append_assoc] at hP hD
  rw [rgW_ad D cls (fun _ => 0) (adr u a b1 c1 d1 v b)] at hP hD
  refine lw_loop l hL C0 D cls hKn u a b1 c1 d1 v ?_ ?_ ?_ ?_ hS hl
  · exact Nat.le_of_ble_eq_true rfl
  · exact Nat.le_of_ble_eq_true rfl
  · unfold wL wL1 wL2 wL3
    simp only [List.nil_append, List.cons_append]
    exact hP
  · unfold wL wL1 wL2 wL3
    simp only [List.nil_append, List.cons_append]
    exact hD
