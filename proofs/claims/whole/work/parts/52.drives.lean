/-! CALLS OF BOTH: drives -/
def sV (S : sp_S) (v : Nat × (Nat → Int32)) : sp_S := (S.1, S.2.1, S.2.2.1, S.2.2.2.1, S.2.2.2.2.1, v, S.2.2.2.2.2.2)
theorem cS.drive {σ τ : am_S} {S : sp_S} {v : Nat × (Nat → Int32)} (h : cS σ S) (he : am_eq (fun k => 22 ≤ k ∧ k ≤ 27) σ τ) (hR : cDv τ (sd S) v) : cS τ (sV S v) := by
  obtain ⟨h1, h2, h3, h4, h5, h6, h7, h8, h9, h10⟩ := h
  exact ⟨by rw [(he 0 (by decide)).1]; exact h1, h2.kept he (by decide) (by decide), ⟨h3.1.kept he (by decide) (by decide) (by decide) (by decide), h3.2⟩, h4.kept he (by decide) (fun k a b => by omega), h5.kept he (by decide) (by decide) (by decide), h6.kept he (by decide) (by decide), h7.kept he (by decide) (by decide), hR, h9.kept he (by decide) (by decide), h10.kept he (by decide)⟩
theorem mS.drive {σ τ : am_S} {S : sp_S} {v : Nat × (Nat → Int32)} (h : mS σ S) (he : am_eq (fun k => k = 153 ∨ k = 159) σ τ) (hf : fEq (fun i => i = 11) σ τ) (hR : mDv τ v) : mS τ (sV S v) := by
  obtain ⟨h1, h2, h3, h4, h5, h6, h7, h8⟩ := h
  have hs : ∀ j, sEq σ τ j := fun j => sEq.of he (by decide) (by decide) (by decide) (by decide)
  exact ⟨by rw [hf 18 (by decide)]; exact h1, h2.kept he hf (by decide) (by decide) (by decide), ⟨h3.1.slot h3.2.2.2.2.1 (hs 0), h3.2⟩, h4.kept (P := fun _ => True) (fun j _ _ => hs j) hf (by decide) (by decide), h5.kept he hf (hs 1) (by decide) (by decide), hR, h7.kept he hf (by decide) (by decide), h8.kept hf (fun i a b => by omega)⟩
theorem x_dr {θ σ τ υ : am_S} {S : sp_S} {v : Nat × (Nat → Int32)} (hJ : Jc θ S σ) (e1 : am_eq (fun k => 22 ≤ k ∧ k ≤ 27) σ τ) (h1 : cDv τ (sd S) v) (e2 : am_eq (fun k => k = 153 ∨ k = 159) (f0 (am_upI τ 0 12 (nI 0))) υ) (hf : fEq (fun i => i = 11) (f0 (am_upI τ 0 12 (nI 0))) υ) (h2 : mDv υ v) : J θ υ := by
  have e3 : am_eq (fun k => k < 153) σ (am_upI τ 0 12 (nI 0)) := (e1.mono (fun k hk => by omega)).tr c0_e
  exact J_end hJ.2 ((hJ.1.1.drive e1 h1).fault (nI 0)) e3 (((hJ.1.2.cls e3).fault (nI 0)).drive e2 hf h2) (f0_e.tr (e2.mono (fun k hk => by omega)))
theorem rcB_congr {W : Nat → Nat} {n : Nat} {w w' : Nat → Int32} : ∀ k, (∀ j, j ≤ k → w j = w' j) → ∀ s, rcB W n w k s = rcB W n w' k s := by
  intro k
  induction k with
  | zero =>
    intro h s
    unfold rcB
    rw [h 0 (Nat.le_refl _)]
  | succ k ih =>
    intro h s
    have ih' := ih (fun j hj => h j (by omega))
    unfold rcB
    rw [h (k + 1) (Nat.le_refl _), ih', ih', ih']
theorem slT_congr {c c' : Nat → Nat} : ∀ k, (∀ j, j < k → c j = c' j) → slT c k = slT c' k := by
  intro k
  induction k with
  | zero => intro _; rfl
  | succ k ih =>
    intro h
    unfold slT
    rw [ih (fun j hj => h j (by omega)), h k (by omega)]
theorem cF.congr {σ : am_S} {W : Nat → Nat} {n f : Nat} {w w' : Nat → Int32} (h : cF σ W n w f) (hw : ∀ j, j < f → w j = w' j) : cF σ W n w' f := by
  have e : ∀ k, k < f → rcB W n w k = rcB W n w' k := fun k hk => funext (rcB_congr k (fun j hj => hw j (by omega)))
  obtain ⟨h1, h2, h3⟩ := h
  refine ⟨?_, fun k hk => ?_, fun k hk s hs => ?_⟩
  · rw [h1]
    exact slT_congr f (fun j hj => by rw [e j hj])
  · rw [← e k hk]
    exact h2 k hk
  · rw [← e k (by omega)]
    exact h3 k hk s hs
theorem x_drive {x : Int32} {θ σ : am_S} {K : Int32 → Int32 → am_S → Prop} (hJ : J θ σ) (h : ∀ v τ, J θ τ → K v v τ) : w_WD_drive x σ (fun r τ => w_Mod_drive x τ (K r)) := by
  obtain ⟨⟨S, hc, hm⟩, he⟩ := hJ
  have hJc : Jc θ S σ := ⟨⟨hc, hm⟩, he⟩
  obtain ⟨⟨c1, c2, c3⟩, f, f1, f2, f3⟩ := hc.2.2.2.2.2.2.2.1
  obtain ⟨m1, m2⟩ := hm.2.2.2.2.2.1
  have m2' : ∀ k, k < (sv S).1 → σ.1 159 k = (sv S).2 k := m2
  unfold w_WD_drive
  rw [c1]
  refine pk_lt (sv S).1 2000 (fun hl => ?_) (fun hl => ?_)
  · unfold w_Drive_add
    rw [c1, nI_clamp (by omega), nI_add]
    refine ⟨pk_in (sv S).1 2000 hl, ?_⟩
    generalize hτ : am_upI (am_upI σ 23 (sv S).1 x) 22 5 (nI ((sv S).1 + 1)) = τ
    have e1 : am_eq (fun k => 22 ≤ k ∧ k ≤ 27) σ τ := by
      rw [← hτ]
      exact (am_eq.upI (by decide)).tr (am_eq.upI (by decide))
    have hl1 : τ.1 22 5 = nI ((sv S).1 + 1) := by rw [← hτ, u_Is]
    have hlo : ∀ i, i ≠ 5 → τ.1 22 i = σ.1 22 i := fun i hi => by rw [← hτ, u_In _ _ (by omega), u_In _ _ (by omega)]
    show w_Mod_drive x (am_upI τ 0 12 (nI 0)) (K (τ.1 22 5))
    rw [hl1]
    unfold w_Mod_drive
    rw [show (am_upI τ 0 12 (nI 0)).1 153 11 = nI (sv S).1 by rw [u_In _ _ (by omega), (e1 153 (by decide)).1]; exact m1]
    rw [nI_clamp (by omega), nI_add]
    have hcF : cF τ (wdD (sd S)) (dn (sd S)) (sv S).2 f := by
      obtain ⟨g1, g2, g3⟩ := f3
      refine ⟨by rw [hlo 7 (by decide)]; exact g1, fun k hk => ?_, fun k hk s hs => ?_⟩
      · rw [← hτ, u_In _ _ (by omega), u_In _ _ (by omega), u_In _ _ (by omega), u_In _ _ (by omega)]
        exact g2 k hk
      · rw [← hτ, u_In _ _ (by omega), u_In _ _ (by omega)]
        exact g3 k hk s hs
    refine am_ite_t (fun z => absurd ((nI_eq (by omega) (by decide)).mp z) (by omega)) ⟨pk_in (sv S).1 2000 hl, h _ _ (x_dr (v := ((sv S).1 + 1, fun j => if j = (sv S).1 then x else (sv S).2 j)) hJc e1 ⟨⟨hl1, hl, fun k hk => ?_⟩, f, Nat.le_succ_of_le f1, by rw [hlo 6 (by decide)]; exact f2, hcF.congr (fun j hj => ?_)⟩ ((am_eq.upI (Or.inr rfl)).tr (am_eq.upI (Or.inl rfl))) ((fEq.of (P := fun k => k = 159) (am_eq.upI rfl) (by decide)).tr (fEq.up rfl)) ⟨u_Is _ _ _ _, fun k hk => ?_⟩)⟩
    · have hk2 : k < (sv S).1 + 1 := hk
      rw [← hτ, u_In _ _ (by omega), u_I]
      by_cases e : k = (sv S).1
      · rw [if_pos ⟨rfl, e⟩]; exact (if_pos e).symm
      · rw [if_neg (fun z => e z.2), c3 k (by omega)]; exact (if_neg e).symm
    · exact (if_neg (by omega)).symm
    · have hk2 : k < (sv S).1 + 1 := hk
      rw [u_In _ _ (by omega), u_I]
      by_cases e : k = (sv S).1
      · rw [if_pos ⟨rfl, e⟩]; exact (if_pos e).symm
      · rw [if_neg (fun z => e z.2), u_In _ _ (by omega), u_In _ _ (by omega), (e1 159 (by decide)).1, m2' k (by omega)]; exact (if_neg e).symm
  · show w_Mod_drive x (am_upI σ 0 12 (nI 4)) (K (-1))
    unfold w_Mod_drive
    rw [show (am_upI σ 0 12 (nI 4)).1 153 11 = nI (sv S).1 from m1]
    exact am_ite_f (by rw [show (sv S).1 = 2000 by omega]; simp) (h _ _ hJc.no)
theorem x_halt {θ σ : am_S} {K : Int32 → Int32 → am_S → Prop} (hJ : J θ σ) (h : ∀ v τ, J θ τ → K v v τ) : w_WD_halt σ (fun r τ => w_Mod_halt τ (K r)) := by
  obtain ⟨⟨S, hc, hm⟩, he⟩ := hJ
  have hJc : Jc θ S σ := ⟨⟨hc, hm⟩, he⟩
  obtain ⟨⟨c1, c2, c3⟩, f, f1, f2, f3⟩ := hc.2.2.2.2.2.2.2.1
  obtain ⟨m1, m2⟩ := hm.2.2.2.2.2.1
  unfold w_WD_halt w_Drive_empty w_Drive_unfollow
  have e1 : am_eq (fun k => 22 ≤ k ∧ k ≤ 27) σ (am_upI (am_upI (am_upI σ 22 5 (nI 0)) 22 6 (nI 0)) 22 7 (-1)) := ((am_eq.upI (by decide)).tr (am_eq.upI (by decide))).tr (am_eq.upI (by decide))
  show w_Mod_halt (am_upI (am_upI (am_upI (am_upI σ 22 5 (nI 0)) 22 6 (nI 0)) 22 7 (-1)) 0 12 (nI 0)) (K (σ.1 22 5))
  unfold w_Mod_halt
  rw [c1, show (am_upI (am_upI (am_upI (am_upI σ 22 5 (nI 0)) 22 6 (nI 0)) 22 7 (-1)) 0 12 (nI 0)).1 153 11 = nI (sv S).1 from m1]
  exact h _ _ (x_dr (v := (0, fun _ => 0)) hJc e1 ⟨⟨rfl, Nat.zero_le _, fun k hk => absurd hk (Nat.not_lt_zero k)⟩, 0, Nat.le_refl _, rfl, rfl, fun k hk => absurd hk (Nat.not_lt_zero k), fun k hk => by omega⟩ (am_eq.upI (Or.inl rfl)) (fEq.up rfl) ⟨u_Is _ _ _ _, fun k hk => absurd hk (Nat.not_lt_zero k)⟩)
theorem g_follow {θ σ : am_S} {S : sp_S} {K : am_S → Prop} (hJ : Jc θ S σ) (h : ∀ τ, Jc θ S τ → cF τ (wdD (sd S)) (dn (sd S)) (sv S).2 (sv S).1 → vW τ (dn (sd S)) (dr (sd S)) (wdD (sd S)) → K τ) : w_WD_followedDrive σ K := by
  refine g_look hJ (fun τ hJ2 hW => ?_)
  obtain ⟨hw, f, f1, f2, f3⟩ := hJ2.1.1.2.2.2.2.2.2.2.1
  refine s_follow hW hw f1 f2 f3 (fun υ hF hw2 h6 e1 => h υ ⟨⟨hJ2.1.1.drive (v := sv S) e1 ⟨hw2, (sv S).1, Nat.le_refl _, h6, hF⟩, hJ2.1.2.cls (e1.mono (fun k hk => by omega))⟩, hJ2.2.tr (e1.mono (fun k hk => by omega))⟩ hF (hW.kept e1 (by decide) (by decide)))
/-- a drive that the reference followed -/
theorem Jc.fol {θ σ υ : am_S} {S : sp_S} (h : Jc θ S σ) (he : am_eq fwC (f0 (am_upI σ 0 12 (nI 0))) υ) (hf : fEq (fun i => i = 30) (f0 (am_upI σ 0 12 (nI 0))) υ) : J θ υ := by
  refine J_end h.2 (h.1.1.fault (nI 0)) c0_e (((h.1.2.cls (τ := am_upI σ 0 12 (nI 0)) c0_e).fault (nI 0)).scr (he.mono (fun k hk => ?_)) (hf.mono (fun i hi => by unfold scF; omega))) (f0_e.tr (he.mono (fun k hk => by unfold fwC at hk; omega)))
  rcases hk with hk | hk | hk | hk
  · exact Or.inl hk
  · exact Or.inr (Or.inl (by omega))
  · exact Or.inr (Or.inl (by omega))
  · exact Or.inr (Or.inl (by omega))
theorem Jc.fno {θ σ υ : am_S} {S : sp_S} (h : Jc θ S σ) (he : am_eq fwC (f0 (am_upI σ 0 12 (nI 1))) υ) (hf : fEq (fun i => i = 30) (f0 (am_upI σ 0 12 (nI 1))) υ) : J θ (am_upI υ 153 18 (nI 1)) := by
  refine J_end h.2 (h.1.1.fault (nI 1)) c0_e ((((h.1.2.cls (τ := am_upI σ 0 12 (nI 1)) c0_e).fault (nI 0)).scr (he.mono (fun k hk => ?_)) (hf.mono (fun i hi => by unfold scF; omega))).fault (nI 1)) ((f0_e.tr (he.mono (fun k hk => by unfold fwC at hk; omega))).tr f0_e)
  rcases hk with hk | hk | hk | hk
  · exact Or.inl hk
  · exact Or.inr (Or.inl (by omega))
  · exact Or.inr (Or.inl (by omega))
  · exact Or.inr (Or.inl (by omega))
theorem Jc.dv {θ σ : am_S} {S : sp_S} {f : Int32} (h : Jc θ S σ) : mDv (f0 (am_upI σ 0 12 f)) (sv S) := ((h.1.2.cls (τ := am_upI σ 0 12 f) c0_e).fault (nI 0)).2.2.2.2.2.1
theorem Jc.d11 {θ σ : am_S} {S : sp_S} (h : Jc θ S σ) (f : Int32) : (am_upI σ 0 12 f).1 153 11 = nI (sv S).1 := (h.dv (f := f)).1
theorem x_slip {θ σ : am_S} {K : Int32 → Int32 → am_S → Prop} (hJ : J θ σ) (h : ∀ v τ, J θ τ → K v v τ) : w_WD_slip σ (fun r τ => w_Mod_slip τ (K r)) := by
  obtain ⟨⟨S, hc, hm⟩, he⟩ := hJ
  have hok := hc.2.2.1.2
  have c2 := hc.2.2.2.2.2.2.2.1.1.2.1
  refine g_follow ⟨⟨hc, hm⟩, he⟩ (fun τ hJ hF hW => ?_)
  show w_Mod_slip (am_upI τ 0 12 (nI 0)) (K (τ.1 22 7))
  unfold w_Mod_slip
  rw [hJ.d11, hF.1]
  refine m_follow (m := (sv S).1) (w := (sv S).2) rfl (hJ.md.f0 hok.2.2.2.1) hok hJ.dv c2 (Nat.le_refl _) (fun υ hF2 _ e1 hf => ?_)
  rw [hF2.1]
  exact h _ _ (hJ.fol e1 hf)
theorem g_has {S : sp_S} {x : Int32} {σ : am_S} {K : Int32 → am_S → Prop} (hc : cS σ S) (h0 : (x < nI 0 ∨ nI (sv S).1 ≤ x) → K (nI 0) σ) (h1 : ∀ t, t < (sv S).1 → x = nI t → K (nI 1) σ) : w_Drive_has x σ K := by
  obtain ⟨⟨c1, c2, c3⟩, _⟩ := hc.2.2.2.2.2.2.2.1
  unfold w_Drive_has
  rw [c1]
  refine ⟨fun z => h0 (Or.inl z), fun z => ⟨fun z2 => h0 (Or.inr z2), fun z2 => ?_⟩⟩
  rcases pk_ix x (show (sv S).1 < 2 ^ 31 by omega) with g | g | ⟨s, g1, g2⟩
  · exact absurd g z
  · exact absurd g z2
  · exact h1 s g1 g2
theorem x_stands {x : Int32} {θ σ : am_S} {K : Int32 → Int32 → am_S → Prop} (hJ : J θ σ) (h : ∀ v τ, J θ τ → K v v τ) : w_WD_stands x σ (fun r τ => w_Mod_stands x τ (K r)) := by
  obtain ⟨⟨S, hc, hm⟩, he⟩ := hJ
  have hok := hc.2.2.1.2
  have c2 := hc.2.2.2.2.2.2.2.1.1.2.1
  have hJc : Jc θ S σ := ⟨⟨hc, hm⟩, he⟩
  refine g_has hc (fun z => am_ite_f (by simp) ?_) (fun i hi hx => am_ite_t (by decide) ?_)
  · show w_Mod_stands x (am_upI σ 0 12 (nI 1)) (K (-1))
    unfold w_Mod_stands
    rw [hJc.d11]
    exact no_lt (by omega) z (h _ _ hJc.no)
  · subst hx
    refine g_follow hJc (fun τ hJ hF hW => ⟨pk_in i 2000 (by omega), ?_⟩)
    show w_Mod_stands (nI i) (am_upI τ 0 12 (nI 0)) (K (τ.1 24 (Int32.toNatClampNeg (nI i))))
    unfold w_Mod_stands
    rw [hJ.d11, nI_clamp (by omega), (hF.2.1 i hi).1]
    refine ya_lt hi (by omega) (m_follow (k := i + 1) (m := (sv S).1) (w := (sv S).2) (by rw [pk_sub (by omega), Nat.add_sub_cancel]) (hJ.md.f0 hok.2.2.2.1) hok hJ.dv c2 hi (fun υ hF2 _ e1 hf => ?_))
    exact h _ _ (hJ.fol e1 hf)
theorem x_stand {x : Int32} {θ σ : am_S} {K : Int32 → Int32 → am_S → Prop} (hJ : J θ σ) (h : ∀ v τ, J θ τ → K v v τ) : w_WD_stand x σ (fun r τ => w_Mod_stand x τ (K r)) := by
  obtain ⟨⟨S, hc, hm⟩, he⟩ := hJ
  have hok := hc.2.2.1.2
  have k2 := hok.2.1
  have c2 := hc.2.2.2.2.2.2.2.1.1.2.1
  have hJc : Jc θ S σ := ⟨⟨hc, hm⟩, he⟩
  refine g_has hc (fun z => am_ite_t rfl ?_) (fun i hi hx => am_ite_f (by decide) ?_)
  · show w_Mod_stand x (am_upI σ 0 12 (nI 1)) (K (-1))
    unfold w_Mod_stand
    rw [hJc.d11]
    exact no_le z (h _ _ hJc.no)
  · subst hx
    have hct := ctB_le (rcB (wdD (sd S)) (dn (sd S)) (sv S).2 i) (dn (sd S))
    refine g_follow hJc (fun τ hJ hF hW => ⟨pk_in i 2000 (by omega), ?_⟩)
    rw [nI_clamp (by omega), (hF.2.1 i hi).1]
    constructor
    · intro z
      refine g_follow hJ (fun τ2 hJ2 hF2 hW2 => ⟨pk_in i 2000 (by omega), ?_⟩)
      show w_Mod_stand (nI i) (am_upI τ2 0 12 (nI 0)) (K (τ2.1 25 i))
      unfold w_Mod_stand
      rw [hJ2.d11, (hF2.2.1 i hi).2]
      refine ya_le hi (by omega) (m_follow (k := i + 1) (m := (sv S).1) (w := (sv S).2) (by rw [pk_sub (by omega), Nat.add_sub_cancel]) (hJ2.md.f0 hok.2.2.2.1) hok hJ2.dv c2 hi (fun υ hF3 _ e1 hf => am_ite_t z ?_))
      exact m_leastStand ((hJ2.md.f0 hok.2.2.2.1).slot hok.2.2.2.1 (sEq.of e1 (by unfold fwC; omega) (by unfold fwC; omega) (by unfold fwC; omega) (by unfold fwC; omega))) hok (fun s hs => hF3.2 i rfl s hs) (h _ _ (hJ2.fol e1 hf))
    · intro z
      show w_Mod_stand (nI i) (am_upI τ 0 12 (nI 1)) (K (-1))
      unfold w_Mod_stand
      rw [hJ.d11]
      exact ya_le hi (by omega) (m_follow (k := i + 1) (m := (sv S).1) (w := (sv S).2) (by rw [pk_sub (by omega), Nat.add_sub_cancel]) (hJ.md.f0 hok.2.2.2.1) hok hJ.dv c2 hi (fun υ hF3 _ e1 hf => am_ite_f z (h _ _ (hJ.fno e1 hf))))
