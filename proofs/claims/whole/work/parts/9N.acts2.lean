/-! ===== acts, all alike: the class remembers, the reference keeps ===== -/
def kpQ (u : Nat) (σ τ : gj_S) : Prop := (u < 12 → τ.1 188 23 = nI (u + 1) ∧ (∀ t, t < u → rwQ (ur σ t) (ur τ t)) ∧ rwQ (σ.1 198) (ur τ u)) ∧ (u = 12 → τ.1 188 23 = nI 12 ∧ (∀ t, t < 11 → rwQ (ur σ (t + 1)) (ur τ t)) ∧ rwQ (σ.1 198) (ur τ 11))
theorem kp_Q {u : Nat} {σ σ2 y τ : gj_S} (h : kpR u σ2 y) (a1 : σ2.1 198 = σ.1 198) (a2 : σ2.1 199 = σ.1 199) (b1 : τ.1 199 = y.1 199) (b2 : τ.1 188 23 = y.1 188 23) : kpQ u σ τ := by
  obtain ⟨-, -, -, k4, k5⟩ := h
  have e1 : ∀ t, ur σ2 t = ur σ t := fun t => by unfold ur; rw [a2]
  have e2 : ∀ t, ur τ t = ur y t := fun t => by unfold ur; rw [b1]
  refine ⟨fun q => ?_, fun q => ?_⟩
  · obtain ⟨p1, p2, p3⟩ := k4 q
    rw [a1] at p3
    refine ⟨b2.trans p1, fun t ht => ?_, by rw [e2]; exact p3⟩
    rw [e2, ← e1]
    exact p2 t ht
  · obtain ⟨p1, p2, p3⟩ := k5 q
    rw [a1] at p3
    refine ⟨b2.trans p1, fun t ht => ?_, by rw [e2]; exact p3⟩
    rw [e2, ← e1]
    exact p2 t ht
/-- what the class did up to now: it remembered, and changed no more than its yard -/
def cAct (u nx : Nat) (σ σ1 : gj_S) : Prop := (∀ k, 188 ≤ k → σ1.1 k = σ.1 k) ∧ σ1.2 = σ.2 ∧ (∀ k, k < 16 ∨ 53 < k → k < 188 → k ≠ 54 → (k < 56 + 9 * nx ∨ 56 + 9 * nx + 8 < k) → σ1.1 k = σ.1 k) ∧ cpE (56 + 9 * nx) 17 σ σ1 ∧ σ1.1 54 1 = nI ((nx + 1) % 12) ∧ σ1.1 54 2 = nI (if u < 12 then u + 1 else 12)
theorem cp_fr {a c : Nat} {σ z τ : gj_S} (h : cpE a c σ z) (hs : ∀ k, a ≤ k → k ≤ a + 8 → τ.1 k = z.1 k) : cpE a c σ τ := by
  unfold cpE at h ⊢
  rw [hs a (by omega) (by omega), hs (a + 1) (by omega) (by omega), hs (a + 2) (by omega) (by omega), hs (a + 3) (by omega) (by omega), hs (a + 4) (by omega) (by omega), hs (a + 5) (by omega) (by omega), hs (a + 6) (by omega) (by omega), hs (a + 7) (by omega) (by omega), hs (a + 8) (by omega) (by omega)]
  exact h
theorem cA_rem {u nx : Nat} {σ : gj_S} (hu : u ≤ 12) (hx : nx < 12) (h2 : σ.1 54 2 = nI u) (h1 : σ.1 54 1 = nI nx) : TP (f_X0_remember σ) (fun z => cAct u nx σ z ∧ ∀ k, k < 54 → z.1 k = σ.1 k) :=
  tp_mono (c8_rem hu hx h2 h1) (fun z hz => ⟨⟨fun k hk => hz.1 k (by omega) (by omega), hz.2.1, fun k _ _ a3 a4 => hz.1 k a3 a4, hz.2.2.1, hz.2.2.2.1, hz.2.2.2.2⟩, fun k hk => hz.1 k (by omega) (by omega)⟩)
theorem cA_C {u nx lo hi : Nat} {σ z τ : gj_S} (hx : nx < 12) (h : cAct u nx σ z) (hs : smC lo hi z τ) (h1 : 16 ≤ lo) (h2 : hi ≤ 53) : cAct u nx σ τ := by
  obtain ⟨a1, a2, a3, a4, a5, a6⟩ := h
  refine ⟨fun k hk => (hs.1 k (by omega)).trans (a1 k hk), hs.2.trans a2, fun k k1 k2 k3 k4 => (hs.1 k (by omega)).trans (a3 k k1 k2 k3 k4), cp_fr a4 (fun k k1 k2 => hs.1 k (by omega)), ?_, ?_⟩
  · rw [hs.1 54 (by omega)]; exact a5
  · rw [hs.1 54 (by omega)]; exact a6
theorem act_mk {n r K K' u nx : Nat} {b0 e0 : Nat → Nat} {σ σ1 τ : gj_S} (hS : rS n r b0 e0 σ) (hB1 : rw1 n r b0 e0 K (σ.1 198) 17 σ) (hu : u ≤ 12) (hx : nx < 12) (hold : ∀ g, g < u → rw1 n r b0 e0 K (ur σ (u - 1 - g)) (56 + 9 * ((nx + 11 - g) % 12)) σ) (hD : reD n r b0 e0 K σ) (hE : reE σ) (hF : reF r σ) (hK : K ≤ K')
    (hA : cAct u nx σ σ1) (hT1 : ∀ k, k < 188 → τ.1 k = σ1.1 k) (hT2 : ∀ k, (189 ≤ k ∧ k ≤ 191) ∨ k = 194 ∨ k = 195 ∨ k = 200 ∨ k = 201 → τ.1 k = σ1.1 k) (hT3 : τ.1 188 2 = σ1.1 188 2) (hT4 : τ.2 = σ1.2) (hQ : kpQ u σ τ) (hB : reB n r b0 e0 K' τ) : REL K' τ := by
  obtain ⟨a1, a2, a3, a4, a5, a6⟩ := hA
  refine rel_mk hS hD hE hF hK hB (reC_mono (re_act (rS_g hS) hu hx hB1 hold (fun k k1 k2 k3 => ?_) (cp_fr a4 (fun k k1 k2 => hT1 k (by omega))) ?_ ?_ hQ.1 hQ.2) hK) (fun k hk => ?_) ?_ ?_ ?_
  · rw [hT1 k (by omega)]
    exact a3 k (by omega) (by omega) (by omega) k3
  · rw [hT1 54 (by omega)]; exact a5
  · rw [hT1 54 (by omega)]; exact a6
  · by_cases q : k < 188
    · rw [hT1 k q]
      exact a3 k (by omega) q (by omega) (by omega)
    · rw [hT2 k (by omega)]
      exact a1 k (by omega)
  · rw [hT3, a1 188 (by omega)]
  · rw [hT4, a2]
  · rw [hT4, a2]
/-- one pivot on both sides -/
theorem pv_both {n r K y : Nat} {b0 e0 : Nat → Nat} {σ8 σ9 : gj_S} {s : Nat → Int32} {up par rk dp : Nat → Nat} {pr : Nat → Int32} (hL : cL n r b0 e0 s up par rk dp pr y σ8) (hS9 : rS n r b0 e0 σ9) (e9 : σ9.1 198 = s) {P F : Nat} (hP : rP n r b0 e0 s) (hf : fP n r F s) (hF : F < 2 ^ 29) (hlg : lgM P s (y + 1) σ8) (hPb : P < 2 ^ 30) :
    (∃ x8 x9, f_X7_makePivot y σ8 = some (-1, x8) ∧ f_X9_pivot σ9 = some (-1, x9) ∧ smC y y σ8 x8 ∧ smP σ9 x9 ∧ x9.1 198 = s ∧ cL n r b0 e0 s up par rk dp pr y x8 ∧ lgM P s (y + 1) x8) ∨
    (∃ w x8 x9 s' up2 par2 rk2 dp2 pr2, (w < r + n ∧ ∀ q, q < 41 → s' q = s q) ∧ f_X7_makePivot y σ8 = some (nI w, x8) ∧ f_X9_pivot σ9 = some (nI w, x9) ∧ smC y (y + 18) σ8 x8 ∧ smP σ9 x9 ∧ x9.1 198 = s' ∧ cL n r b0 e0 s' up2 par2 rk2 dp2 pr2 y x8 ∧ lgM (P + 1) s' (y + 1) x8 ∧ rP n r b0 e0 s' ∧ fP n r (F + 999) s') := by
  subst e9
  have hg := hL.1
  have hT := hL.2.2.1
  obtain ⟨b, p, a, best, q1, q2, q3, q4, q5, q6, q7, q8, q9, q10⟩ := r9_pivot hS9 hP hT
  obtain ⟨c1, c2⟩ := c8_pivot hL hf hF hlg.1 hPb q1 q2 q3 q4 q5 q6 q7
  cases best with
  | none =>
    obtain ⟨⟨v, x9⟩, e9, rfl, h2, h3⟩ := q9 rfl
    have s1 : smC y y σ8 (gj_sI σ8 y (upd (σ8.1 y) 3 (nI a))) := smC_I (by omega) (by omega) smC_rf
    refine .inl ⟨_, x9, c1 rfl, e9, s1, h2, h3, smC_cL s1 (.inr (by omega)) hL, ?_⟩
    unfold lgM at hlg ⊢
    rw [s1.1 (y + 1) (by omega), s1.1 (y + 1 + 8) (by omega)]
    exact hlg
  | some w =>
    obtain ⟨i, j, lv, up2, par2, rk2, dp2, pr2, -, -, d1, d2, -, -, -, ⟨v, x9⟩, e9, rfl, h2, h3, h4⟩ := q10 w rfl
    obtain ⟨⟨v8, x8⟩, e8, rfl, f2, f3, f4, f5, f6⟩ := c2 w rfl i j lv up2 par2 rk2 dp2 pr2 (x9.1 198) d1 d2 h3 h4
    obtain ⟨hw, hG⟩ := q7 w rfl
    have hst : σ9.1 198 (74 + w) = 1 ∨ σ9.1 198 (74 + w) = 2 := by
      unfold vG at hG
      rcases Bool.or_eq_true_iff.mp hG with q | q
      · exact .inl (by simpa using (Bool.and_eq_true_iff.mp q).1)
      · exact .inr (by simpa using (Bool.and_eq_true_iff.mp q).1)
    exact .inr ⟨w, x8, x9, x9.1 198, up2, par2, rk2, dp2, pr2, ⟨hw, h3.1⟩, e8, e9, f2, h2, rfl, f3, lg_pv hPb hlg h3 f4 f5 f6, pv_P hS9 hP q8 h3 h4, pv_F hg hT hf hF hw hst d1 d2 h3⟩
