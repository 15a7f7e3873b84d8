/-! ===== calls that read: good, enters, ring, closes, cost, bill ===== -/
def su (v : Nat → Int32) : Nat → Int32
  | 0 => 0
  | n + 1 => su v n + v n
theorem lp_sum {f : Int32 × Int32 → Option (Int32 ⊕ (Int32 × Int32))} {N : Nat} {v : Nat → Int32} (hN : N < 5000) (hstop : ∀ c, f (c, nI N) = some (.inl c)) (hstep : ∀ k, k < N → ∀ c, f (c, nI k) = some (.inr (c + v k, nI (k + 1)))) : gj_lp f 5000 (0, 0) = some (su v N) := by
  have main : ∀ (d k : Nat), k + d = N → ∀ fu, d < fu → gj_lp f fu (su v k, nI k) = some (su v N) := by
    intro d
    induction d with
    | zero =>
      intro k hk fu hfu
      obtain ⟨fu', rfl⟩ : ∃ x, fu = x + 1 := ⟨fu - 1, by omega⟩
      obtain rfl : k = N := by omega
      rw [gj_lp_e (hstop _)]
    | succ d ih =>
      intro k hk fu hfu
      obtain ⟨fu', rfl⟩ : ∃ x, fu = x + 1 := ⟨fu - 1, by omega⟩
      rw [gj_lp_g (hstep k (by omega) _)]
      exact ih (k + 1) (by omega) fu' (by omega)
  exact main N 0 (by omega) 5000 hN
/-- the first one from k on, of f places -/
def fi (p : Nat → Bool) : Nat → Nat → Option Nat
  | 0, _ => none
  | f + 1, k => if p k = true then some k else fi p f (k + 1)
theorem lp_find {β : Type} {f : Int32 → Option ((β ⊕ Unit) ⊕ Int32)} {N : Nat} {p : Nat → Bool} {res : Nat → β} (hN : N < 5000) (hstop : f (nI N) = some (.inl (.inr ()))) (hstep : ∀ k, k < N → f (nI k) = if p k = true then some (.inl (.inl (res k))) else some (.inr (nI (k + 1)))) : gj_lp f 5000 0 = some (match fi p N 0 with | some k => .inl (res k) | none => .inr ()) := by
  have main : ∀ (d k : Nat), k + d = N → ∀ fu, d < fu → gj_lp f fu (nI k) = some (match fi p d k with | some k => .inl (res k) | none => .inr ()) := by
    intro d
    induction d with
    | zero =>
      intro k hk fu hfu
      obtain ⟨fu', rfl⟩ : ∃ x, fu = x + 1 := ⟨fu - 1, by omega⟩
      obtain rfl : k = N := by omega
      rw [gj_lp_e hstop]
      rfl
    | succ d ih =>
      intro k hk fu hfu
      obtain ⟨fu', rfl⟩ : ∃ x, fu = x + 1 := ⟨fu - 1, by omega⟩
      have h1 := hstep k (by omega)
      unfold fi
      by_cases q : p k = true
      · rw [if_pos q] at h1
        rw [gj_lp_e h1, if_pos q]
      · rw [if_neg q] at h1
        rw [gj_lp_g h1, if_neg q]
        exact ih (k + 1) (by omega) fu' (by omega)
  exact main N 0 (by omega) 5000 hN
theorem rc_I {K : Nat} {σ : gj_S} {a : Option Int32} {f : Option (Int32 × gj_S)} {v : Int32} (h1 : a = some v) (h2 : TP f (fun x => x.1 = v ∧ frK σ x.2)) (hR : REL K σ) : ∃ τ, (a.bind fun x1 => f.bind fun x2 => (if x1 = x2.1 then some x2.2 else none)) = some τ ∧ REL (K + 100) τ := by
  subst h1
  obtain ⟨⟨w, t⟩, rfl, rfl, h4⟩ := h2
  refine ⟨t, ?_, REL_mono (REL_fr hR h4) (by omega)⟩
  exact if_pos rfl
theorem rc_S {K : Nat} {σ s1 : gj_S} {a : Option (Int32 × gj_S)} {f : gj_S → Option (Int32 × gj_S)} {v : Int32} (h1 : a = some (v, s1)) (h2 : TP (f s1) (fun x => x.1 = v ∧ frK σ x.2)) (hR : REL K σ) : ∃ τ, (a.bind fun x1 => (f x1.2).bind fun x2 => (if x1.1 = x2.1 then some x2.2 else none)) = some τ ∧ REL (K + 100) τ := by
  subst h1
  obtain ⟨⟨w, t⟩, e, h3, h4⟩ := h2
  refine ⟨t, ?_, REL_mono (REL_fr hR h4) (by omega)⟩
  show ((f s1).bind fun x2 => (if v = x2.1 then some x2.2 else none)) = some t
  rw [e]
  exact if_pos h3.symm
/-- the class's guards -/
theorem c8_hasDock {n r b : Nat} {b0 e0 : Nat → Nat} {s : Nat → Int32} {σ : gj_S} (hg : gS n r b0 e0) (h : pm n r b0 e0 s b σ) (d : Int32) : f_X1_hasDock b d σ = some (bI (inR d n)) := by
  have hn := hg.1
  unfold f_X1_hasDock
  rw [h.1]
  unfold inR bI
  have ez : (0 : Int32).toInt = 0 := by decide
  simp only [i32_lt_iff, i32_le_iff, nI_toInt (show n < 2 ^ 31 by omega), ez]
  by_cases q1 : d.toInt < 0
  · simp [q1, show ¬ (0 ≤ d.toInt) by omega]
  · by_cases q2 : (n : Int) ≤ d.toInt
    · simp [q1, q2, show ¬ (d.toInt < n) by omega]
    · simp [q1, q2, show (0 ≤ d.toInt) by omega, show d.toInt < n by omega]
theorem c8_hasRoute {n r b : Nat} {b0 e0 : Nat → Nat} {s : Nat → Int32} {σ : gj_S} (hg : gS n r b0 e0) (h : pm n r b0 e0 s b σ) (d : Int32) : f_X1_hasRoute b d σ = some (bI (inR d r)) := by
  have hn := hg.2.1
  unfold f_X1_hasRoute
  rw [h.2.1]
  unfold inR bI
  have ez : (0 : Int32).toInt = 0 := by decide
  simp only [i32_lt_iff, i32_le_iff, nI_toInt (show r < 2 ^ 31 by omega), ez]
  by_cases q1 : d.toInt < 0
  · simp [q1, show ¬ (0 ≤ d.toInt) by omega]
  · by_cases q2 : (r : Int) ≤ d.toInt
    · simp [q1, q2, show ¬ (d.toInt < r) by omega]
    · simp [q1, q2, show (0 ≤ d.toInt) by omega, show d.toInt < r by omega]
theorem c8_hasWay {n r b : Nat} {b0 e0 : Nat → Nat} {s : Nat → Int32} {σ : gj_S} (hg : gS n r b0 e0) (h : pm n r b0 e0 s b σ) (d : Int32) : f_X1_hasWay b d σ = some (bI (inR d (r + n))) := by
  have hn := hg.1
  have hr := hg.2.1
  unfold f_X1_hasWay
  rw [c8_ways h]
  unfold inR bI
  have ez : (0 : Int32).toInt = 0 := by decide
  dsimp only [Option.bind_some]
  simp only [i32_lt_iff, i32_le_iff, nI_toInt (show r + n < 2 ^ 31 by omega), ez]
  by_cases q1 : d.toInt < 0
  · simp [q1, show ¬ (0 ≤ d.toInt) by omega]
  · by_cases q2 : ((r + n : Nat) : Int) ≤ d.toInt
    · simp only [if_neg q1, if_pos q2]
      rw [if_neg (by simp; omega)]
    · simp only [if_neg q1, if_neg q2]
      rw [if_pos (by simp; omega)]
theorem k_5 {K : Nat} {σ : gj_S} (hR : REL K σ) (c1 c2 c3 c4 c5 : Int32) : ∃ τ, gl_5 c1 c2 c3 c4 c5 σ = some τ ∧ REL (K + 100) τ := by
  obtain ⟨n, r, b0, e0, hS, ⟨hB1, up, par, rk, dp, pr, hT, ht⟩, -⟩ := id hR
  refine rc_I (v := nI (ct (vG r b0 e0 (σ.1 198) pr) (r + n))) ?_ ?_ hR
  · unfold f_X8_good
    rw [c8_many (rel_cL hS hB1 hT ht)]
    rfl
  · unfold f_X9_good
    have h0 : smX σ (gj_sI σ 188 (upd (σ.1 188) 0 0)) := smX_t
    refine tp_bind (r9_lay (smX_S h0 hS) (by rw [smX_s h0]; exact hT)) (fun z hz => ?_)
    rw [r9_many hz.2, sm9_s hz.1, smX_s h0]
    exact tp_beq rfl (tp_some ⟨rfl, frK_X (smX_tr h0 (smX_9 hz.1))⟩)
theorem rel_nums {n r : Nat} {b0 e0 : Nat → Nat} {s : Nat → Int32} (h : rP n r b0 e0 s) : ∃ b p, 1 ≤ b ∧ b ≤ 24 ∧ s 40 = nI b ∧ s 41 = nI p ∧ (p < r + n ∨ (p = 0 ∧ r + n = 0)) := by
  obtain ⟨-, -, ⟨b, b1, b2, b3⟩, ⟨p, p1, p2⟩, -⟩ := h
  exact ⟨b, p, b1, b2, b3, p1, p2⟩
theorem relC_no16 : ∀ k, 16 ≤ k → k ≤ 16 → ¬ relC k ∧ k ≠ 188 := fun k h1 h2 => by unfold relC; omega
theorem relC_no32 : ∀ k, 32 ≤ k → k ≤ 34 → ¬ relC k ∧ k ≠ 188 := fun k h1 h2 => by unfold relC; omega
theorem k_6 {K : Nat} {σ : gj_S} (hR : REL K σ) (c1 c2 c3 c4 c5 : Int32) : ∃ τ, gl_6 c1 c2 c3 c4 c5 σ = some τ ∧ REL (K + 100) τ := by
  obtain ⟨n, r, b0, e0, hS, ⟨hB1, up, par, rk, dp, pr, hT, ht⟩, -⟩ := id hR
  have hn := hS.1
  have hr := hS.2.1
  obtain ⟨P, hPK, hP, hf, hp⟩ := id hB1
  obtain ⟨b, p, b1, b2, b3, b4, b5⟩ := rel_nums hP
  obtain ⟨⟨a, best⟩, hE⟩ : ∃ x, enS b (r + n) (vG r b0 e0 (σ.1 198) pr) (rG r b0 e0 (σ.1 198) pr) (r + n) 0 p none = x := ⟨_, rfl⟩
  have hV : enV (r + n) (vG r b0 e0 (σ.1 198) pr) best := by
    have := (enS_V (b := b) (m := r + n) (G := vG r b0 e0 (σ.1 198) pr) (z := rG r b0 e0 (σ.1 198) pr) (r + n) 0 p none (by omega) (fun v hv => by cases hv)).1
    rw [hE] at this
    exact this
  have hent := c8_enter (rel_cL hS hB1 hT ht) b2 b1 b3 b4 b5 hE
  have s1 : smC 16 16 σ (gj_sI σ 16 (upd (σ.1 16) 3 (nI a))) := smC_I (by omega) (by omega) smC_rf
  refine rc_S (v := if best = none then -2 else eb best) (s1 := gj_sI σ 16 (upd (σ.1 16) 3 (nI a))) ?_ ?_ hR
  · unfold f_X8_enters
    rw [hent]
    dsimp only [Option.bind_some]
    by_cases q : best = none
    · rw [if_pos ((eb_m1 hV (by omega)).mpr q), if_pos q]
    · rw [if_neg (fun e => q ((eb_m1 hV (by omega)).mp e)), if_neg q]
  · unfold f_X9_enters
    have hS1 : rS n r b0 e0 (gj_sI σ 16 (upd (σ.1 16) 3 (nI a))) := hS
    have h0 : smX (gj_sI σ 16 (upd (σ.1 16) 3 (nI a))) (gj_sI (gj_sI σ 16 (upd (σ.1 16) 3 (nI a))) 188 (upd ((gj_sI σ 16 (upd (σ.1 16) 3 (nI a))).1 188) 0 0)) := smX_t
    have e198 : (gj_sI σ 16 (upd (σ.1 16) 3 (nI a))).1 198 = σ.1 198 := rfl
    refine tp_bind (r9_lay (smX_S h0 hS1) (by rw [smX_s h0, e198]; exact hT)) (fun z hz => ?_)
    have ez : z.1 198 = σ.1 198 := by rw [sm9_s hz.1, smX_s h0, e198]
    obtain ⟨a', best', g1, g2, g3, g4⟩ := r9_enter hz.2 b2 b1 (by rw [ez]; exact b3) (by rw [ez]; exact b4) b5
    rw [ez, hE] at g1
    cases g1
    refine tp_beq g4 ?_
    have fr : frK σ (gj_sI z 188 (upd (z.1 188) 30 (nI a))) := frK_tr (frK_C s1 relC_no16) (frK_X (smX_tr (smX_tr h0 (smX_9 hz.1)) (smX_O (by omega))))
    by_cases q : best = none
    · exact tp_t ((eb_m1 hV (by omega)).mpr q) (tp_some ⟨by rw [if_pos q], fr⟩)
    · exact tp_f (fun e => q ((eb_m1 hV (by omega)).mp e)) (tp_some ⟨by rw [if_neg q], fr⟩)
