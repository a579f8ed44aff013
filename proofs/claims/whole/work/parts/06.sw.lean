theorem am_D_of {G : am_G} {A : Nat → Prop} (hinj : ∀ i j, i < 169 → j < 169 → G.2.2 i = G.2.2 j → i = j) (hAG : ∀ q, am_A G q → A q) (σ : am_S) : va_D A (am_ws G σ) := by
  have hlt : ∀ (k : Nat) (q : Nat × va_E), (am_ws G σ)[k]? = some q → k < 169 ∧ q.1 = G.2.2 k := by
    intro k q hk
    have h1 : k < 169 := by
      have := (List.getElem?_eq_some_iff.mp hk).1
      simpa [am_ws] using this
    rw [am_get G σ h1] at hk
    cases hk
    exact ⟨h1, rfl⟩
  refine ⟨fun i j p q hi hj e => ?_, fun k q hk => ?_⟩
  · obtain ⟨h1, h2⟩ := hlt i p hi
    obtain ⟨h3, h4⟩ := hlt j q hj
    exact hinj i j h1 h3 (by rw [← h2, ← h4, e])
  · obtain ⟨h1, h2⟩ := hlt k q hk
    exact hAG _ ⟨k, h1, h2⟩
theorem am_inj_of {G : am_G} {A : Nat → Prop} {σ : am_S} (h : va_D A (am_ws G σ)) : ∀ i j, i < 169 → j < 169 → G.2.2 i = G.2.2 j → i = j := fun i j hi hj e => h.1 i j _ _ (am_get G σ hi) (am_get G σ hj) e
theorem am_ofNat_clamp {x : Int32} (h : 0 ≤ x) : Int32.ofNat x.toNatClampNeg = x := by
  have h1 : (0 : Int) ≤ x.toInt := by simpa using (Int32.le_iff_toInt_le.mp h)
  rw [← Int32.toInt_inj, Int32.toInt_ofNat_of_lt]
  · show ((x.toInt.toNat : Nat) : Int) = x.toInt
    omega
  · have := x.toInt_lt
    show x.toInt.toNat < 2 ^ 31
    omega
theorem am_ne0 {k : Nat} (h : k < 169) : (1000 : Nat) ≠ k := by omega
theorem am_ne1 {k : Nat} (h : k < 169) : (1001 : Nat) ≠ k := by omega
theorem am_g_cats (G : am_G) (l : List Value) : ((l.map (am_g G)).map fun v => v.category).sum = (l.map fun v => v.category).sum := by
  rw [List.map_map]
  congr 2
  exact funext (am_g_cat G)
theorem am_g_app (G : am_G) (r : Option Value) (l : List Value) : (r.map (am_g G)).toList ++ l.map (am_g G) = (r.toList ++ l).map (am_g G) := by
  cases r <;> rfl
section AMSW
variable {p : Program} {l : Launch} {e : Env} {R : Room} {s : State} {m : MethodId} {args : Array Value} {below : List Frame} {meth : Method} {c : Code} {cells slots nL : Nat} {Q' : State → Prop} {cc : ByteArray} {own : String} {G : am_G} {A : Nat → Prop} {rm : Room} {C : am_C}
set_option maxHeartbeats 4000000 in
theorem am_sw (ret : Option FieldType) (Q : am_Q) (X : am_ctx p R s m args c cells slots nL cc own G A rm) (hM : am_met l G rm C) {X0 L0 : Nat → Int32} (hX : va_X (G.2.2 1000) (L0 0).toNatClampNeg X0 s s.heap) (h0 : 0 ≤ L0 0) (hnA : ¬ A (G.2.2 1000)) (hbl : G.2.2 1000 < s.heap.size) (hinj : ∀ i j, i < 169 → j < 169 → G.2.2 i = G.2.2 j → i = j)
    (hretI : ∀ (x : Int32) (σ : am_S) (H : Heap) (locs : List Loc) (ls : Array Slot) (pc : Nat), decode cc pc = .ok (.ireturn, 1) → (ret = some .int ∨ ret = some .boolean ∧ (x = 0 ∨ x = 1)) → Q (some (.int x)) σ → va_P G.1 am_cl (am_ws G σ) H → va_S A s.heap H locs → σ.1 1000 = X0 → σ.1 1001 = L0 → W p l e R s m args below meth c H locs cells slots Q' (F0 m pc ls [.int x]))
    (hretA : ∀ (k : Nat) (σ : am_S) (H : Heap) (locs : List Loc) (ls : Array Slot) (pc : Nat), decode cc pc = .ok (.areturn, 1) → (∃ n, ret = some (.object n)) → Q (some (.ref k)) σ → va_P G.1 am_cl (am_ws G σ) H → va_S A s.heap H locs → σ.1 1000 = X0 → σ.1 1001 = L0 → W p l e R s m args below meth c H locs cells slots Q' (F0 m pc ls [.ref (G.2.2 k)]))
    (hretV : ∀ (σ : am_S) (H : Heap) (locs : List Loc) (ls : Array Slot) (pc : Nat), decode cc pc = .ok (.return_, 1) → ret = none → Q none σ → va_P G.1 am_cl (am_ws G σ) H → va_S A s.heap H locs → σ.1 1000 = X0 → σ.1 1001 = L0 → W p l e R s m args below meth c H locs cells slots Q' (F0 m pc ls [])) :
    ∀ (pc : Nat) (vs st : List Value) (σ : am_S), am_r C own ret cc Q pc vs st σ → am_nd vs → ∀ (H : Heap) (locs : List Loc) (ls : Array Slot), va_P G.1 am_cl (am_ws G σ) H → va_S A s.heap H locs → σ.1 1000 = X0 → σ.1 1001 = L0 → am_L G vs ls nL → W p l e R s m args below meth c H locs cells slots Q' (F0 m pc ls (st.map (am_g G))) := by
  intro pc vs st σ hrun
  refine hrun (fun pc vs st σ => am_nd vs → ∀ (H : Heap) (locs : List Loc) (ls : Array Slot), va_P G.1 am_cl (am_ws G σ) H → va_S A s.heap H locs → σ.1 1000 = X0 → σ.1 1001 = L0 → am_L G vs ls nL → W p l e R s m args below meth c H locs cells slots Q' (F0 m pc ls (st.map (am_g G)))) ?_
  · have ih : ∀ (pc : Nat) (vs st : List Value) (σ : am_S), (am_nd vs → ∀ (H : Heap) (locs : List Loc) (ls : Array Slot), va_P G.1 am_cl (am_ws G σ) H → va_S A s.heap H locs → σ.1 1000 = X0 → σ.1 1001 = L0 → am_L G vs ls nL → W p l e R s m args below meth c H locs cells slots Q' (F0 m pc ls (st.map (am_g G)))) → am_nd vs → ∀ (H : Heap) (locs : List Loc) (ls : Array Slot), va_P G.1 am_cl (am_ws G σ) H → va_S A s.heap H locs → σ.1 1000 = X0 → σ.1 1001 = L0 → am_L G vs ls nL → W p l e R s m args below meth c H locs cells slots Q' (F0 m pc ls (st.map (am_g G))) := fun _ _ _ _ h => h
    intro pc vs st σ h hnd H locs ls hP hS hg1 hg2 hl
    obtain ⟨hx, hb, hml, hown, hts, hN, hK, hAG, hr1, hr2, hr3, hr4, hr5, hr6⟩ := id X
    have hD := am_D_of hinj hAG σ
    have hDG := am_D_of (A := am_A G) hinj (fun _ h => h) σ
    have hscr : ∀ U : State, U.heap = H → s.vm.Alike U.vm → am_scr G σ U := by
      intro U hU hal
      refine ⟨?_, by rw [hg2]; exact h0, fun h => hnA (hAG _ h), by rw [hU]; exact Nat.lt_of_lt_of_le hbl hS.1⟩
      rw [hg1, hg2, hU]
      exact (hX.kept (hS.2.1 _ hbl hnA)).moved hal
    have hS0 : va_S A H H locs := ⟨Nat.le_refl _, fun _ _ _ => rfl, hS.2.2⟩
    obtain ⟨i, len, hd, hxx⟩ := h
    unfold am_x at hxx
    split at hxx
    · obtain ⟨rfl, h⟩ := hxx
      exact lv_iconst hx hb hd rfl (ih _ _ _ _ h hnd H locs ls hP hS hg1 hg2 hl)
    · obtain ⟨rfl, h⟩ := hxx
      exact lv_bipush hx hb hd rfl (ih _ _ _ _ h hnd H locs ls hP hS hg1 hg2 hl)
    · obtain ⟨rfl, h⟩ := hxx
      exact lv_sipush hx hb hd rfl (ih _ _ _ _ h hnd H locs ls hP hS hg1 hg2 hl)
    · obtain ⟨rfl, v, hv, h⟩ := hxx
      exact lv_ldc hx hb hown (hts _ hv) hd (ih _ _ _ _ h hnd H locs ls hP hS hg1 hg2 hl)
    · obtain ⟨rfl, v, hv, h⟩ := hxx
      exact lv_ldcw hx hb hown (hts _ hv) hd (ih _ _ _ _ h hnd H locs ls hP hS hg1 hg2 hl)
    · obtain ⟨rfl, v, hv, h⟩ := hxx
      exact lv_ldc2 hx hb hown (hts _ hv) hd (ih _ _ _ _ h hnd H locs ls hP hS hg1 hg2 hl)
    · obtain ⟨rfl, h⟩ := hxx
      exact lv_lconst hx hb hd rfl (ih _ _ _ _ h hnd H locs ls hP hS hg1 hg2 hl)
    · obtain ⟨rfl, x, hv, h⟩ := hxx
      exact lv_iload_n hx hb hd rfl (hl.at hv (by simp)) (ih _ _ _ _ h hnd H locs ls hP hS hg1 hg2 hl)
    · obtain ⟨rfl, x, hv, h⟩ := hxx
      exact lv_iload hx hb hd (hl.at hv (by simp)) (ih _ _ _ _ h hnd H locs ls hP hS hg1 hg2 hl)
    · obtain ⟨rfl, x, hv, h⟩ := hxx
      exact lv_lload_n hx hb hd rfl (hl.at hv (by simp)) (ih _ _ _ _ h hnd H locs ls hP hS hg1 hg2 hl)
    · obtain ⟨rfl, x, hv, h⟩ := hxx
      exact lv_lload hx hb hd (hl.at hv (by simp)) (ih _ _ _ _ h hnd H locs ls hP hS hg1 hg2 hl)
    · obtain ⟨rfl, x, hv, h⟩ := hxx
      exact lv_aload_n hx hb hd rfl (hl.at hv (by simp)) (ih _ _ _ _ h hnd H locs ls hP hS hg1 hg2 hl)
    · obtain ⟨rfl, x, hv, h⟩ := hxx
      exact lv_aload hx hb hd (hl.at hv (by simp)) (ih _ _ _ _ h hnd H locs ls hP hS hg1 hg2 hl)
    · rename_i x st'
      obtain ⟨rfl, hst, h⟩ := hxx
      exact lv_istore_n (lv' := _) hx hb hd rfl hl.2 (hl.1 ▸ (am_st1_ok hst).1) rfl (fun ls' hl' => ih _ _ _ _ h (hnd.set _ (by simp)) H locs ls' hP hS hg1 hg2 (am_L.set1 (v := .int x) hl hnd hst hl'))
    · rename_i x st'
      obtain ⟨rfl, hst, h⟩ := hxx
      exact lv_istore (lv' := _) hx hb hd hl.2 (hl.1 ▸ (am_st1_ok hst).1) rfl (fun ls' hl' => ih _ _ _ _ h (hnd.set _ (by simp)) H locs ls' hP hS hg1 hg2 (am_L.set1 (v := .int x) hl hnd hst hl'))
    · rename_i k x st'
      obtain ⟨rfl, hst, h⟩ := hxx
      exact lv_lstore (lv' := _) hx hb hd hl.2 (hl.1 ▸ (am_st2_ok hst).1) rfl (fun ls' hl' => ih _ _ _ _ h ((hnd.set _ (by simp)).set _ (by simp)) H locs ls' hP hS hg1 hg2 (am_L.set2 hl hnd hst hl'))
    · rename_i k n'
      obtain ⟨rfl, hst, x, hv, h⟩ := hxx
      obtain ⟨kk, hkk⟩ := List.getElem?_of_mem ((am_al_mem G vs 0 (k, .int x)).mpr ⟨k, .int x, hv, by simp, by simp [am_g]⟩)
      exact lv_iinc (lv' := _) (k := kk) hx hb hd hl.2 hkk rfl (hl.1 ▸ (am_st1_ok hst).1) rfl (fun ls' hl' => ih _ _ _ _ h (hnd.set _ (by simp)) H locs ls' hP hS hg1 hg2 (am_L.set1 (v := .int (x + Int32.ofInt n')) hl hnd hst hl'))
    · obtain ⟨rfl, h⟩ := hxx
      exact lv_iadd hx hb hd (ih _ _ _ _ h hnd H locs ls hP hS hg1 hg2 hl)
    · obtain ⟨rfl, h⟩ := hxx
      exact lv_isub hx hb hd (ih _ _ _ _ h hnd H locs ls hP hS hg1 hg2 hl)
    · obtain ⟨rfl, h⟩ := hxx
      exact lv_imul hx hb hd (ih _ _ _ _ h hnd H locs ls hP hS hg1 hg2 hl)
    · obtain ⟨rfl, hne, h⟩ := hxx
      exact lv_idiv hx hb hd hne (ih _ _ _ _ h hnd H locs ls hP hS hg1 hg2 hl)
    · obtain ⟨rfl, hne, h⟩ := hxx
      exact lv_irem hx hb hd hne (ih _ _ _ _ h hnd H locs ls hP hS hg1 hg2 hl)
    · obtain ⟨rfl, h⟩ := hxx
      exact lv_iand hx hb hd (ih _ _ _ _ h hnd H locs ls hP hS hg1 hg2 hl)
    · obtain ⟨rfl, h⟩ := hxx
      exact lv_ior hx hb hd (ih _ _ _ _ h hnd H locs ls hP hS hg1 hg2 hl)
    · obtain ⟨rfl, h⟩ := hxx
      exact lv_ixor hx hb hd (ih _ _ _ _ h hnd H locs ls hP hS hg1 hg2 hl)
    · obtain ⟨rfl, h⟩ := hxx
      exact lv_ineg hx hb hd (ih _ _ _ _ h hnd H locs ls hP hS hg1 hg2 hl)
    · obtain ⟨rfl, h⟩ := hxx
      exact lv_ishl hx hb hd (ih _ _ _ _ h hnd H locs ls hP hS hg1 hg2 hl)
    · obtain ⟨rfl, h⟩ := hxx
      exact lv_ishr hx hb hd (ih _ _ _ _ h hnd H locs ls hP hS hg1 hg2 hl)
    · obtain ⟨rfl, h⟩ := hxx
      exact lv_iushr hx hb hd rfl (ih _ _ _ _ h hnd H locs ls hP hS hg1 hg2 hl)
    · obtain ⟨rfl, h⟩ := hxx
      exact lv_land hx hb hd (ih _ _ _ _ h hnd H locs ls hP hS hg1 hg2 hl)
    · obtain ⟨rfl, h⟩ := hxx
      exact lv_lor hx hb hd (ih _ _ _ _ h hnd H locs ls hP hS hg1 hg2 hl)
    · obtain ⟨rfl, h⟩ := hxx
      exact lv_lxor hx hb hd (ih _ _ _ _ h hnd H locs ls hP hS hg1 hg2 hl)
    · obtain ⟨rfl, h⟩ := hxx
      exact lv_lushr hx hb hd rfl (ih _ _ _ _ h hnd H locs ls hP hS hg1 hg2 hl)
    · obtain ⟨rfl, h⟩ := hxx
      exact lv_lshl hx hb hd rfl (ih _ _ _ _ h hnd H locs ls hP hS hg1 hg2 hl)
    · obtain ⟨rfl, h⟩ := hxx
      exact lv_lshr hx hb hd rfl (ih _ _ _ _ h hnd H locs ls hP hS hg1 hg2 hl)
    · obtain ⟨rfl, h⟩ := hxx
      exact W.lcmp hx hb hd (ih _ _ _ _ h hnd H locs ls hP hS hg1 hg2 hl)
    · obtain ⟨rfl, h⟩ := hxx
      exact lv_i2l hx hb hd rfl (ih _ _ _ _ h hnd H locs ls hP hS hg1 hg2 hl)
    · rename_i v st'
      obtain ⟨rfl, hv, h⟩ := hxx
      exact lv_dup hx hb hd ((am_g_cat G v).trans hv) (ih _ _ _ _ h hnd H locs ls hP hS hg1 hg2 hl)
    · rename_i v w st'
      obtain ⟨rfl, hv, hw, h⟩ := hxx
      exact lv_dup2_11 hx hb hd ((am_g_cat G v).trans hv) ((am_g_cat G w).trans hw) (ih _ _ _ _ h hnd H locs ls hP hS hg1 hg2 hl)
    · rename_i v st'
      obtain ⟨rfl, hv, h⟩ := hxx
      exact lv_pop hx hb hd ((am_g_cat G v).trans hv) (ih _ _ _ _ h hnd H locs ls hP hS hg1 hg2 hl)
    · rename_i idx k st'
      obtain ⟨rfl, i, ⟨q, hq, hi, hf⟩, h⟩ := hxx
      have hk11 : am_kind k < 11 := (List.getElem?_eq_some_iff.mp hq).1
      have hk := am_kind_lt (k := k) (by omega)
      have he : (am_ws G σ)[k]? = some (G.2.2 k, .inr (am_kind k, (List.range (am_len k)).map (fun i => am_g G (am_av σ k i)))) := by rw [am_get G σ hk, am_Eo hk11]
      obtain ⟨hin, hty, hnm⟩ := am_cl_ok _ hk11 q hq
      have hsame : ∀ x, s.fieldFound? (q.2.1 i).1 (q.2.1 i).2.1 (q.2.1 i).2.2.1 = some x → s.fieldFound? q.1 (q.2.1 i).2.1 (q.2.1 i).2.2.1 = some x := fun x hx => by rw [(hty i hi).2.1] at hx; exact hx
      have hv : ((List.range (am_len k)).map (fun i => am_g G (am_av σ k i)))[i]? = some (am_g G (am_av σ k i)) := by
        rw [List.getElem?_map, List.getElem?_range (by rw [am_nf hq]; exact hi)]
        rfl
      exact va_get (D := G.1) (own := own) (C := q.1) (T := q.2.1) (N := q.2.2) hx hb hts hin hown hK hP k he hq i hi (hts _ hf) hsame hv hd (ih _ _ _ _ h hnd H locs ls hP hS hg1 hg2 hl)
    · rename_i idx x k st'
      obtain ⟨rfl, i, ⟨q, hq, hi, hf⟩, hfk, h⟩ := hxx
      have hk11 : am_kind k < 11 := (List.getElem?_eq_some_iff.mp hq).1
      have hk := am_kind_lt (k := k) (by omega)
      have he : (am_ws G σ)[k]? = some (G.2.2 k, .inr (am_kind k, (List.range (am_len k)).map (fun i => am_g G (am_av σ k i)))) := by rw [am_get G σ hk, am_Eo hk11]
      obtain ⟨hin, hty, hnm⟩ := am_cl_ok _ hk11 q hq
      have hsame : ∀ x, s.fieldFound? (q.2.1 i).1 (q.2.1 i).2.1 (q.2.1 i).2.2.1 = some x → s.fieldFound? q.1 (q.2.1 i).2.1 (q.2.1 i).2.2.1 = some x := fun x hx => by rw [(hty i hi).2.1] at hx; exact hx
      have hne2 : am_fk (am_kind k) i ≠ 2 := by omega
      have hfin : (q.2.1 i).2.2.2 = false := by
        rcases (hty i hi).2.2 with z | z | z
        · exact z.2.2
        · exact z.2.2
        · exact absurd z hne2
      have hnf : narrow (am_tyf (am_kind k) i) (.int x) = .int x ∧ fits (am_tyf (am_kind k) i) (.int x) = true := by
        rcases (hty i hi).2.2 with z | z | z
        · rw [z.2.1]; exact ⟨rfl, rfl⟩
        · rw [z.2.1]
          rcases hfk with y | ⟨-, rfl | rfl⟩
          · omega
          · exact ⟨rfl, rfl⟩
          · exact ⟨rfl, rfl⟩
        · exact absurd z hne2
      refine va_put (D := G.1) (own := own) (C := q.1) (T := q.2.1) (N := q.2.2) (v := .int x) hx hb hts hin (am_tyf (am_kind k)) (fun k hk => (hty k hk).1) hnm hown hK hP hD hS k he hq i hi (hts _ hf) hsame hfin (hty i hi).1 hnf.1 hnf.2 (by simp; rw [am_nf hq]; exact hi) hd (fun H1 locs1 hP' hD' hS' => ?_)
      · have e9 := am_ws_set G (σ := σ) (τ := am_upI σ k i x) (am_put_row G σ hk11 hne2) (fun j hj => am_upI_ne σ i x hj)
        rw [e9] at hP'
        exact ih _ _ _ _ h hnd H1 locs1 ls hP' hS' ((am_upI_ne σ i x (am_ne0 hk)).1.trans hg1) ((am_upI_ne σ i x (am_ne1 hk)).1.trans hg2) hl
    · rename_i i k st'
      obtain ⟨rfl, hk | hk, h⟩ := hxx
      · have hk9 := am_kind_lt (k := k) (by omega)
        exact va_iald hx hb hK hP k 0 (by rw [am_get G σ hk9, am_E11 hk.1]) rfl hk.2 hd (ih _ _ _ _ h hnd H locs ls hP hS hg1 hg2 hl)
      · obtain ⟨rfl, hk⟩ := hk
        have hXH : va_X (G.2.2 1000) (σ.1 1001 0).toNatClampNeg (σ.1 1000) s H := by rw [hg1, hg2]; exact hX.kept (hS.2.1 _ hbl hnA)
        exact va_sld hx hb hXH (Nat.lt_of_lt_of_le hbl hS.1) hnA hS0 hk hd (ih _ _ _ _ h hnd H locs ls hP hS hg1 hg2 hl)
    · rename_i i k st'
      obtain ⟨rfl, hk, h⟩ := hxx
      have hk9 := am_kind_lt (k := k) (by omega)
      have he := am_get G σ hk9
      rw [am_E13 hk.1] at he
      exact va_zald hx hb hK hP k 2 he rfl hk.2 hd (ih _ _ _ _ h hnd H locs ls hP hS hg1 hg2 hl)
    · rename_i i k st'
      obtain ⟨rfl, hk, h⟩ := hxx
      have hk9 := am_kind_lt (k := k) (by omega)
      have he := am_get G σ hk9
      rw [am_E12 hk.1] at he
      exact va_lald hx hb hK hP k 1 he rfl hk.2 hd (ih _ _ _ _ h hnd H locs ls hP hS hg1 hg2 hl)
    · rename_i i k st'
      obtain ⟨rfl, hk, h⟩ := hxx
      have hk9 := am_kind_lt (k := k) (by omega)
      have he := am_get G σ hk9
      rw [am_E14 hk.1] at he
      exact va_aldq hx hb hK hP k 3 he rfl hk.2 hd (ih _ _ _ _ h hnd H locs ls hP hS hg1 hg2 hl)
    · rename_i x i k st'
      obtain ⟨rfl, hk, h⟩ := hxx
      have hk9 := am_kind_lt (k := k) (by omega)
      refine va_iast hx hb hK hP hD hS k 0 (by rw [am_get G σ hk9, am_E11 hk.1]) rfl hk.2 hd (fun H1 locs1 hP' hD' hS' => ?_)
      · have e9 := am_ws_set G (σ := σ) (τ := am_upI σ k i.toNatClampNeg x) (by rw [am_E11 hk.1, am_upI_row]) (fun j hj => am_upI_ne σ _ x hj)
        rw [e9] at hP'
        exact ih _ _ _ _ h hnd H1 locs1 ls hP' hS' ((am_upI_ne σ _ x (am_ne0 hk9)).1.trans hg1) ((am_upI_ne σ _ x (am_ne1 hk9)).1.trans hg2) hl
    · rename_i x i k st'
      obtain ⟨rfl, hk, hx01, h⟩ := hxx
      have hk9 := am_kind_lt (k := k) (by omega)
      have hnar : vp_nar .boolean x = x := by rcases hx01 with rfl | rfl <;> rfl
      refine va_zast hx hb hK hP hD hS k 2 (by rw [am_get G σ hk9, am_E13 hk.1]) rfl hk.2 hd (fun H1 locs1 hP' hD' hS' => ?_)
      · rw [hnar] at hP'
        have e9 := am_ws_set G (σ := σ) (τ := am_upI σ k i.toNatClampNeg x) (by rw [am_E13 hk.1, am_upI_row]) (fun j hj => am_upI_ne σ _ x hj)
        rw [e9] at hP'
        exact ih _ _ _ _ h hnd H1 locs1 ls hP' hS' ((am_upI_ne σ _ x (am_ne0 hk9)).1.trans hg1) ((am_upI_ne σ _ x (am_ne1 hk9)).1.trans hg2) hl
    · rename_i x i k st'
      obtain ⟨rfl, hk, h⟩ := hxx
      have hk9 := am_kind_lt (k := k) (by omega)
      refine va_last hx hb hK hP hD hS k 1 (by rw [am_get G σ hk9, am_E12 hk.1]) rfl hk.2 hd (fun H1 locs1 hP' hD' hS' => ?_)
      · have e9 := am_ws_set G (σ := σ) (τ := am_upJ σ k i.toNatClampNeg x) (by rw [am_E12 hk.1, am_upJ_row]) (fun j hj => am_upJ_ne σ _ x hj)
        rw [e9] at hP'
        exact ih _ _ _ _ h hnd H1 locs1 ls hP' hS' ((am_upJ_ne σ _ x (am_ne0 hk9)).1.trans hg1) ((am_upJ_ne σ _ x (am_ne1 hk9)).1.trans hg2) hl
    · rename_i k st'
      obtain ⟨rfl, ⟨h11, h13, h⟩ | ⟨rfl, h⟩⟩ := hxx
      · have hk9 := am_kind_lt (k := k) (by omega)
        rcases (show am_kind k = 11 ∨ am_kind k = 12 ∨ am_kind k = 13 by omega) with z | z | z
        · have he := am_get G σ hk9
          rw [am_E11 z] at he
          exact va_alen hx hb hK hP k 0 he rfl rfl hd (ih _ _ _ _ h hnd H locs ls hP hS hg1 hg2 hl)
        · have he := am_get G σ hk9
          rw [am_E12 z] at he
          exact va_alen hx hb hK hP k 1 he rfl rfl hd (ih _ _ _ _ h hnd H locs ls hP hS hg1 hg2 hl)
        · have he := am_get G σ hk9
          rw [am_E13 z] at he
          exact va_alen hx hb hK hP k 2 he rfl rfl hd (ih _ _ _ _ h hnd H locs ls hP hS hg1 hg2 hl)
      · have hXH : va_X (G.2.2 1000) (σ.1 1001 0).toNatClampNeg (σ.1 1000) s H := by rw [hg1, hg2]; exact hX.kept (hS.2.1 _ hbl hnA)
        have hlen : Int32.ofNat (σ.1 1001 0).toNatClampNeg = σ.1 1001 0 := am_ofNat_clamp (by rw [hg2]; exact h0)
        refine va_slen hx hb hXH (Nat.lt_of_lt_of_le hbl hS.1) hnA hS0 hd ?_
        rw [hlen]
        exact (ih _ _ _ _ h hnd H locs ls hP hS hg1 hg2 hl)
    · rename_i cnd off x st'
      obtain ⟨rfl, t, ht, h1, h2⟩ := hxx
      cases cnd
      · exact lv_if_eq hx hb hd ht (fun hc => ih _ _ _ _ (h1 hc) hnd H locs ls hP hS hg1 hg2 hl) (fun hc => ih _ _ _ _ (h2 hc) hnd H locs ls hP hS hg1 hg2 hl)
      · exact lv_if_ne hx hb hd ht (fun hc => ih _ _ _ _ (h1 hc) hnd H locs ls hP hS hg1 hg2 hl) (fun hc => ih _ _ _ _ (h2 (fun z => z hc)) hnd H locs ls hP hS hg1 hg2 hl)
      · exact lv_if_lt hx hb hd ht (fun hc => ih _ _ _ _ (h1 hc) hnd H locs ls hP hS hg1 hg2 hl) (fun hc => ih _ _ _ _ (h2 hc) hnd H locs ls hP hS hg1 hg2 hl)
      · exact lv_if_ge hx hb hd ht (fun hc => ih _ _ _ _ (h1 hc) hnd H locs ls hP hS hg1 hg2 hl) (fun hc => ih _ _ _ _ (h2 hc) hnd H locs ls hP hS hg1 hg2 hl)
      · exact lv_if_gt hx hb hd ht (fun hc => ih _ _ _ _ (h1 hc) hnd H locs ls hP hS hg1 hg2 hl) (fun hc => ih _ _ _ _ (h2 hc) hnd H locs ls hP hS hg1 hg2 hl)
      · exact lv_if_le hx hb hd ht (fun hc => ih _ _ _ _ (h1 hc) hnd H locs ls hP hS hg1 hg2 hl) (fun hc => ih _ _ _ _ (h2 hc) hnd H locs ls hP hS hg1 hg2 hl)
    · rename_i cnd off y x st'
      obtain ⟨rfl, t, ht, h1, h2⟩ := hxx
      cases cnd
      · exact lv_icmp_eq hx hb hd ht (fun hc => ih _ _ _ _ (h1 hc) hnd H locs ls hP hS hg1 hg2 hl) (fun hc => ih _ _ _ _ (h2 hc) hnd H locs ls hP hS hg1 hg2 hl)
      · exact lv_icmp_ne hx hb hd ht (fun hc => ih _ _ _ _ (h1 hc) hnd H locs ls hP hS hg1 hg2 hl) (fun hc => ih _ _ _ _ (h2 (fun z => z hc)) hnd H locs ls hP hS hg1 hg2 hl)
      · exact lv_icmp_lt hx hb hd ht (fun hc => ih _ _ _ _ (h1 hc) hnd H locs ls hP hS hg1 hg2 hl) (fun hc => ih _ _ _ _ (h2 hc) hnd H locs ls hP hS hg1 hg2 hl)
      · exact lv_icmp_ge hx hb hd ht (fun hc => ih _ _ _ _ (h1 hc) hnd H locs ls hP hS hg1 hg2 hl) (fun hc => ih _ _ _ _ (h2 hc) hnd H locs ls hP hS hg1 hg2 hl)
      · exact lv_icmp_gt hx hb hd ht (fun hc => ih _ _ _ _ (h1 hc) hnd H locs ls hP hS hg1 hg2 hl) (fun hc => ih _ _ _ _ (h2 hc) hnd H locs ls hP hS hg1 hg2 hl)
      · exact lv_icmp_le hx hb hd ht (fun hc => ih _ _ _ _ (h1 hc) hnd H locs ls hP hS hg1 hg2 hl) (fun hc => ih _ _ _ _ (h2 hc) hnd H locs ls hP hS hg1 hg2 hl)
    · obtain ⟨rfl, t, ht, h⟩ := hxx
      exact lv_goto hx hb hd ht (ih _ _ _ _ h hnd H locs ls hP hS hg1 hg2 hl)
    · rename_i dflt lo hi offs x st'
      obtain ⟨t, h, ⟨hc, ht⟩ | ⟨⟨h1, h2⟩, off, ho, ht⟩⟩ := hxx
      · exact lv_tableOut hx hb hd hc ht (ih _ _ _ _ h hnd H locs ls hP hS hg1 hg2 hl)
      · exact lv_tableIn hx hb hd h1 h2 ho ht (ih _ _ _ _ h hnd H locs ls hP hS hg1 hg2 hl)
    · rename_i idx
      obtain ⟨rfl, y, As, k, rest, rfl, hv, hcn, hrest, hC⟩ := hxx
      rw [List.map_append, List.map_reverse, List.map_cons]
      exact am_callV X hM hP hDG hscr hS hl.2.1 hd hv hcn (by rw [am_g_cats]; exact hrest) hC (fun r τ H1 locs1 hq hP1 e1 e2 hnn hS1 => by
        rw [am_g_app]
        exact ih _ _ _ _ hq hnd H1 locs1 ls hP1 hS1 (e1.trans hg1) (e2.trans hg2) hl)
    · rename_i idx
      obtain ⟨rfl, ⟨y, As, rest, rfl, hv, hrest, hC⟩ | ⟨ha, hcp⟩⟩ := hxx
      · rw [List.map_append, List.map_reverse]
        exact am_callS X hM hP hDG hscr hS hl.2.1 hd hv (by rw [am_g_cats]; exact hrest) hC (fun r τ H1 locs1 hq hP1 e1 e2 hnn hS1 => by
        rw [am_g_app]
        exact ih _ _ _ _ hq hnd H1 locs1 ls hP1 hS1 (e1.trans hg1) (e2.trans hg2) hl)
      · unfold am_copy at hcp
        split at hcp
        · rename_i n' dp b sp a rest
          obtain ⟨g1, g2, g3, g4, g5, g6, g7, h⟩ := hcp
          obtain ⟨ha1, ha2, ha3, ha4⟩ := ha
          have hroom : ((rest.map (am_g G)).map fun v => v.category).sum + (nativeFrameWords "java/lang/System" "arraycopy" 5 + 11) ≤ R.locals := by
            rw [am_g_cats]
            have : nativeFrameWords "java/lang/System" "arraycopy" 5 ≤ 20 := by decide +kernel
            omega
          rcases h with ⟨hkind, h⟩ | ⟨hkind, h⟩
          · rcases hkind with hkind | ⟨hkind, hbool⟩
            · have hka := am_kind_lt (k := a) (by omega)
              have hkb := am_kind_lt (k := b) (by omega)
              refine va_copyi hx hb (hml.trans hl.2.1.symm) hown (hts _ ha1) (hts _ ha2) (hts _ ha3) (hts _ ha4) hK hP hD hS a b 0 0 (by rw [am_get G σ hka, am_E11 hkind]) (by rw [am_get G σ hkb, am_E11 (g7 ▸ hkind)]) rfl rfl rfl g1 g2 g3 g4 g5 (fun _ _ => rfl) (by omega) hroom hd (fun H1 locs1 hP' hD' hS' => ?_)
              have e9 := am_ws_set G (σ := σ) (τ := am_cpI σ a b sp.toNatClampNeg dp.toNatClampNeg n'.toNatClampNeg) (by rw [am_E11 (g7 ▸ hkind), am_cpI_row]) (fun j hj => am_cpI_ne σ hj)
              rw [e9] at hP'
              exact ih _ _ _ _ h hnd H1 locs1 ls hP' hS' ((am_cpI_ne σ (am_ne0 hkb)).1.trans hg1) ((am_cpI_ne σ (am_ne1 hkb)).1.trans hg2) hl
            · have hka := am_kind_lt (k := a) (by omega)
              have hkb := am_kind_lt (k := b) (by omega)
              refine va_copyi hx hb (hml.trans hl.2.1.symm) hown (hts _ ha1) (hts _ ha2) (hts _ ha3) (hts _ ha4) hK hP hD hS a b 2 2 (by rw [am_get G σ hka, am_E13 hkind]) (by rw [am_get G σ hkb, am_E13 (g7 ▸ hkind)]) rfl rfl rfl g1 g2 g3 g4 g5 (fun i hi => by rcases hbool i hi with z | z <;> rw [z] <;> rfl) (by omega) hroom hd (fun H1 locs1 hP' hD' hS' => ?_)
              have e9 := am_ws_set G (σ := σ) (τ := am_cpI σ a b sp.toNatClampNeg dp.toNatClampNeg n'.toNatClampNeg) (by rw [am_E13 (g7 ▸ hkind), am_cpI_row]) (fun j hj => am_cpI_ne σ hj)
              rw [e9] at hP'
              exact ih _ _ _ _ h hnd H1 locs1 ls hP' hS' ((am_cpI_ne σ (am_ne0 hkb)).1.trans hg1) ((am_cpI_ne σ (am_ne1 hkb)).1.trans hg2) hl
          · have hka := am_kind_lt (k := a) (by omega)
            have hkb := am_kind_lt (k := b) (by omega)
            refine va_copyl hx hb (hml.trans hl.2.1.symm) hown (hts _ ha1) (hts _ ha2) (hts _ ha3) (hts _ ha4) hK hP hD hS a b 1 1 (by rw [am_get G σ hka, am_E12 hkind]) (by rw [am_get G σ hkb, am_E12 (g7 ▸ hkind)]) rfl rfl rfl g1 g2 g3 g4 g5 (fun _ _ => rfl) (by omega) hroom hd (fun H1 locs1 hP' hD' hS' => ?_)
            have e9 := am_ws_set G (σ := σ) (τ := am_cpJ σ a b sp.toNatClampNeg dp.toNatClampNeg n'.toNatClampNeg) (by rw [am_E12 (g7 ▸ hkind), am_cpJ_row]) (fun j hj => am_cpJ_ne σ hj)
            rw [e9] at hP'
            exact ih _ _ _ _ h hnd H1 locs1 ls hP' hS' ((am_cpJ_ne σ (am_ne0 hkb)).1.trans hg1) ((am_cpJ_ne σ (am_ne1 hkb)).1.trans hg2) hl
        · exact absurd hcp id
    · rename_i x
      obtain ⟨rfl, hret, h⟩ := hxx
      exact hretI x σ H locs ls pc hd hret h hP hS hg1 hg2
    · rename_i k
      obtain ⟨rfl, hret, h⟩ := hxx
      exact hretA k σ H locs ls pc hd hret h hP hS hg1 hg2
    · obtain ⟨rfl, hret, h⟩ := hxx
      exact hretV σ H locs ls pc hd hret h hP hS hg1 hg2
    · exact absurd hxx id
end AMSW
