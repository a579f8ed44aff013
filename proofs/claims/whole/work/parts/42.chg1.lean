/-! CALLS OF BOTH: the disc changes -/
theorem i_lt {x : Int32} {n : Nat} (hn : n < 2 ^ 31) : x < nI n ↔ x.toInt < (n : Int) := by
  rw [Int32.lt_iff_toInt_lt, nI_toInt hn]
theorem i_le {x : Int32} {n : Nat} (hn : n < 2 ^ 31) : x ≤ nI n ↔ x.toInt ≤ (n : Int) := by
  rw [Int32.le_iff_toInt_le, nI_toInt hn]
theorem i_gt {x : Int32} {n : Nat} (hn : n < 2 ^ 31) : nI n < x ↔ (n : Int) < x.toInt := by
  rw [Int32.lt_iff_toInt_lt, nI_toInt hn]
theorem i_ge {x : Int32} {n : Nat} (hn : n < 2 ^ 31) : nI n ≤ x ↔ (n : Int) ≤ x.toInt := by
  rw [Int32.le_iff_toInt_le, nI_toInt hn]
theorem i_of {x : Int32} {a b : Nat} (hb : b < 2 ^ 31) (h1 : ¬ x < nI a) (h2 : x ≤ nI b) (ha : a < 2 ^ 31 := by omega) : ∃ n, a ≤ n ∧ n ≤ b ∧ x = nI n := by
  rw [i_lt ha] at h1
  rw [i_le hb] at h2
  obtain ⟨j, h3, h4⟩ := nI_of (x := x) (fun z => by
    rw [show (0 : Int32) = nI 0 from rfl, i_lt (by decide)] at z
    omega)
  subst h4
  rw [nI_toInt h3] at h1 h2
  exact ⟨j, by omega, by omega, rfl⟩
theorem x_disc {x : Int32} {θ σ : am_S} {K : Int32 → Int32 → am_S → Prop} (hJ : J θ σ) (h : ∀ v τ, J θ τ → K v v τ) : w_WD_disc x σ (fun v τ => w_Mod_disc x τ (K v)) := by
  obtain ⟨⟨S, hc, hm⟩, he⟩ := hJ
  constructor
  · intro z
    exact ⟨Or.inl rfl, am_ite_t z (h _ _ (J_no he hc hm))⟩
  · intro z
    constructor
    · intro z2
      obtain ⟨n, h1, h2, rfl⟩ := i_of (by decide) z z2
      refine s_beginChange hc (fun τ hB e1 => s_empty (fun υ hD e2 => ⟨Or.inr rfl, Or.inr rfl, am_ite_f z (am_ite_t z2 ?_)⟩))
      have e3 : am_eq (fun k => k < 153) σ (am_upI υ 0 12 (nI 0)) := (e1.tr (e2.mono (fun k hk => by omega))).tr c0_e
      have hc2 := (hB.disc (e2.mono (fun k hk => Or.inl (by omega))) hD (dE_ok h1 h2)).end (nI 0)
      refine g_change ((hm.cls e3).fault (nI 0)) (fun τ' hm' e4 => s_begin (fun υ' hD' hs' e5 => h _ _ (J_end he hc2 e3 (hm'.disc (e5.mono (fun k hk => Or.inl (by omega))) (fEq.of e5 (by decide)) hs' hD' (dE_ok h1 h2)) ((f0_e.tr e4).tr (e5.mono (fun k hk => by omega))))))
    · intro z2
      exact ⟨Or.inl rfl, am_ite_f z (am_ite_f z2 (h _ _ (J_no he hc hm)))⟩
theorem g_hasTrack {D : sp_D} {x : Int32} {σ : am_S} {K : Int32 → am_S → Prop} (hD : cD σ 3 D) (hok : d_ok D) (h0 : (x < nI 0 ∨ nI (dt D) ≤ x) → K (nI 0) σ) (h1 : ∀ t, t < dt D → x = nI t → K (nI 1) σ) : w_Disc_hasTrack x σ K := by
  unfold w_Disc_hasTrack
  rw [hD.2.1]
  have k3 := hok.2.2.1
  refine ⟨fun z => h0 (Or.inl z), fun z => ⟨fun z2 => h0 (Or.inr z2), fun z2 => ?_⟩⟩
  rcases pk_ix x (show dt D < 2 ^ 31 by omega) with g | g | ⟨s, g1, g2⟩
  · exact absurd g z
  · exact absurd g z2
  · exact h1 s g1 g2
theorem g_hasSector {D : sp_D} {x : Int32} {σ : am_S} {K : Int32 → am_S → Prop} (hD : cD σ 3 D) (hok : d_ok D) (h0 : (x < nI 0 ∨ nI (dn D) ≤ x) → K (nI 0) σ) (h1 : ∀ t, t < dn D → x = nI t → K (nI 1) σ) : w_Disc_hasSector x σ K := by
  unfold w_Disc_hasSector
  rw [hD.1]
  have k3 := hok.2.1
  refine ⟨fun z => h0 (Or.inl z), fun z => ⟨fun z2 => h0 (Or.inr z2), fun z2 => ?_⟩⟩
  rcases pk_ix x (show dn D < 2 ^ 31 by omega) with g | g | ⟨s, g1, g2⟩
  · exact absurd g z
  · exact absurd g z2
  · exact h1 s g1 g2
theorem g_hasReader {D : sp_D} {x : Int32} {σ : am_S} {K : Int32 → am_S → Prop} (hD : cD σ 3 D) (hok : d_ok D) (h0 : (x < nI 0 ∨ nI (dr D) ≤ x) → K (nI 0) σ) (h1 : ∀ t, t < dr D → x = nI t → K (nI 1) σ) : w_Disc_hasReader x σ K := by
  unfold w_Disc_hasReader
  rw [hD.2.2.1]
  have k3 := hok.2.2.2.1
  refine ⟨fun z => h0 (Or.inl z), fun z => ⟨fun z2 => h0 (Or.inr z2), fun z2 => ?_⟩⟩
  rcases pk_ix x (show dr D < 2 ^ 31 by omega) with g | g | ⟨s, g1, g2⟩
  · exact absurd g z
  · exact absurd g z2
  · exact h1 s g1 g2
/-- x is not among 0 .. n - 1: both ways of asking -/
theorem no_lt {x : Int32} {n : Nat} (hn : n < 2 ^ 31) (h : x < nI 0 ∨ nI n ≤ x) {A B : Prop} (hA : A) : am_ite (x < nI 0) A (am_ite (x < nI n) B A) := by
  rcases h with h | h
  · exact am_ite_t h hA
  · refine ⟨fun _ => hA, fun _ => am_ite_f ?_ hA⟩
    rw [i_lt hn]
    rw [i_ge hn] at h
    omega
theorem no_le {x : Int32} {n : Nat} (h : x < nI 0 ∨ nI n ≤ x) {A B : Prop} (hA : A) : am_ite (x < nI 0) A (am_ite (nI n ≤ x) A B) := by
  rcases h with h | h
  · exact am_ite_t h hA
  · exact ⟨fun _ => hA, fun _ => am_ite_t h hA⟩
theorem ya_lt {s n : Nat} (hs : s < n) (hn : n < 2 ^ 31) {A B C : Prop} (hB : B) : am_ite (nI s < nI 0) A (am_ite (nI s < nI n) B C) := am_ite_f (nI_nlt (Nat.zero_le s) (by omega)) (am_ite_t (nI_lt hs hn) hB)
theorem ya_le {s n : Nat} (hs : s < n) (hn : n < 2 ^ 31) {A B C : Prop} (hB : B) : am_ite (nI s < nI 0) A (am_ite (nI n ≤ nI s) C B) := am_ite_f (nI_nlt (Nat.zero_le s) (by omega)) (am_ite_f (nI_ge hs hn) hB)
def dLi (D : sp_D) (t s : Nat) (b : Bool) : sp_D := (dn D, dt D, dr D, fun t' s' => if t' = t ∧ s' = s then b else dl D t' s', dk D, dp D)
theorem dLi_ok {D : sp_D} {t s : Nat} {b : Bool} (h : d_ok D) (ht : t < dt D) (hs : s < dn D) : d_ok (dLi D t s b) := ⟨h.1, h.2.1, h.2.2.1, h.2.2.2.1, h.2.2.2.2.1, fun t' s' hts => by
  show (if t' = t ∧ s' = s then b else dl D t' s') = false
  rw [if_neg (by simp only [dLi, dt, dn] at hts ht hs ⊢; omega)]
  exact h.2.2.2.2.2 t' s' hts⟩
theorem x_light {x y : Int32} {b : Bool} {θ σ : am_S} {K : Int32 → Int32 → am_S → Prop} (hJ : J θ σ) (h : ∀ v τ, J θ τ → K v v τ) : w_WD_light x y (bI b) σ (fun v τ => w_Mod_light x y (bI b) τ (K v)) := by
  obtain ⟨⟨S, hc, hm⟩, he⟩ := hJ
  have hok := hc.2.2.1.2
  have hD := hc.2.2.1.1
  have k2 := hok.2.1
  have k3 := hok.2.2.1
  have e154 : ∀ f : Int32, (am_upI σ 0 12 f).1 154 = σ.1 154 := fun f => rfl
  have en : σ.1 154 0 = nI (dn (sd S)) := hm.2.2.1.1.1.1
  have et : σ.1 154 1 = nI (dt (sd S)) := hm.2.2.1.1.1.2.1
  refine g_hasTrack hD hok (fun z => am_ite_t rfl ?_) (fun t ht hx => am_ite_f (by decide) (g_hasSector hD hok (fun z => am_ite_f (by simp) ?_) (fun s hs hy => am_ite_t (by decide) ?_)))
  · show w_Mod_light x y (bI b) (am_upI σ 0 12 (nI 1)) (K (-1))
    unfold w_Mod_light
    rw [e154, et]
    exact no_le z (h _ _ (J_no he hc hm))
  · subst hx
    show w_Mod_light (nI t) y (bI b) (am_upI σ 0 12 (nI 1)) (K (-1))
    unfold w_Mod_light w_Mod_n
    dsimp only
    rw [e154, et, show (am_upI (am_upI σ 0 12 (nI 1)) 153 18 (nI 0)).1 154 0 = nI (dn (sd S)) from en]
    exact ya_le ht (by omega) (no_lt (by omega) z (h _ _ (J_no he hc hm)))
  · subst hx hy
    refine s_beginChange hc (fun τ hB e1 => s_isLight (by omega) (by omega) (s_setLight (by omega) (by omega) ?_))
    have hDb := hB.2.1.1
    have el : lit τ 4 t s = dl (sd S) t s := hDb.2.2.2.2 t s (by omega) (by omega)
    have hD2 : cD (sl τ t s b) 3 (dLi (sd S) t s b) := ⟨hDb.1, hDb.2.1, hDb.2.2.1, hDb.2.2.2.1, fun t' s' ht' hs' => by
      rw [sl_lit (by omega) hs', hDb.2.2.2.2 t' s' ht' hs']
      rfl⟩
    have hB2 := (hB.disc (sl_eq (Or.inl (by decide))) hD2 (dLi_ok hok ht hs)).end (nI 0)
    have e3 : am_eq (fun k => k < 153) σ (am_upI (sl τ t s b) 0 12 (nI 0)) := (e1.tr (sl_eq (by decide))).tr c0_e
    have fin : w_Mod_light (nI t) (nI s) (bI b) (am_upI (sl τ t s b) 0 12 (nI 0)) (K (bI (dl (sd S) t s))) := by
      unfold w_Mod_light w_Mod_n
      dsimp only
      rw [show (am_upI (sl τ t s b) 0 12 (nI 0)).1 154 1 = nI (dt (sd S)) by rw [(e3 154 (by decide)).1]; exact et, show (am_upI (am_upI (sl τ t s b) 0 12 (nI 0)) 153 18 (nI 0)).1 154 0 = nI (dn (sd S)) by rw [u_In _ _ (by omega), (e3 154 (by decide)).1]; exact en]
      refine ya_le ht (by omega) (ya_lt hs (by omega) (g_change ((hm.cls e3).fault (nI 0)) (fun τ' hm' e4 => ?_)))
      rw [pk_mul, nI_add, nI_clamp (by omega)]
      have hl := mL_of hm'.2.2.1.1
      have ev : τ'.1 157 (512 * t + s) = bI (dl (sd S) t s) := hl.1 t s (by omega) (by omega)
      have hl2 := hl.up (b := b) (show t < 10 by omega) (show s < 512 by omega)
      have e5 : am_eq (fun k => k = 157) τ' (am_upI τ' 157 (512 * t + s) (bI b)) := am_eq.upI rfl
      have hm2 : mS (am_upI τ' 157 (512 * t + s) (bI b)) (sF (sD (sP S ((sd S :: sp S).take 30)) (dLi (sd S) t s b)) (nI 0)) := by
        refine hm'.disc (e5.mono (fun k hk => Or.inl (by omega))) (fEq.of e5 (by decide)) (fun j hj => hl2.sEq (e5.mono (fun k hk => by omega)) hj) ⟨?_, ?_, fun t' s' ht' hs' => ?_⟩ (dLi_ok hok ht hs)
        · exact hm'.2.2.1.1.1
        · exact hm'.2.2.1.1.2.1
        · rw [Nat.mul_zero, Nat.zero_add]
          exact hl2.1 t' s' ht' hs'
      refine ⟨pk_in (512 * t + s) 163840 (by omega), pk_in (512 * t + s) 163840 (by omega), bI_01 b, ?_⟩
      rw [ev]
      have f := h (bI (dl (sd S) t s)) _ (J_end he hB2 e3 hm2 ((f0_e.tr e4).tr (e5.mono (fun k hk => by omega))))
      cases hb : dl (sd S) t s with
      | false => rw [hb] at f; exact am_ite_t rfl f
      | true => rw [hb] at f; exact am_ite_f (by decide) f
    rw [el]
    cases hb : dl (sd S) t s with
    | false => rw [hb] at fin; exact am_ite_t rfl fin
    | true => rw [hb] at fin; exact am_ite_f (by decide) fin
