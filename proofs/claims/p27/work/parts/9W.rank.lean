/-! ===== ranked, strong ===== -/
def vA1 (pr : Nat → Int32) (d o : Nat) : Bool := decide (pr o < pr d) || (decide (pr o = pr d) && decide (o < d))
theorem su_b {p : Nat → Bool} {n : Nat} : su (fun o => if p o = true then 1 else 0) n = nI (ct p n) := by
  induction n with
  | zero => rfl
  | succ n ih =>
    show su _ n + (if p n = true then 1 else 0) = nI (ct p n + (if p n = true then 1 else 0))
    rw [ih]
    by_cases q : p n = true
    · rw [if_pos q, if_pos q, nI_1]
    · rw [if_neg q, if_neg q, Int32.add_zero, Nat.add_zero]
theorem c8_ahead {n r y : Nat} {b0 e0 : Nat → Nat} {s : Nat → Int32} {up par rk dp : Nat → Nat} {pr : Nat → Int32} {σ : gj_S} (h : cL n r b0 e0 s up par rk dp pr y σ) {d : Nat} (hd : d < n) : f_X7_countAheadOf y (nI d) σ = some (nI (ct (vA1 pr d) n)) := by
  have hn := h.1.1
  have bd : ∀ o, o < n → -80000 ≤ (pr o).toInt ∧ (pr o).toInt ≤ 80000 := fun o ho => by
    have h1 := pr_bd (b0 := b0) (e0 := e0) hn h.2.2.1 h.2.2.2.2.1 8 o (cL_dp h (.inl ho)) (Nat.le_refl _) (.inl ho)
    have h2 := cL_dp h (.inl ho)
    omega
  unfold f_X7_countAheadOf
  rw [lp_sum (N := n) (v := fun o => if vA1 pr d o = true then 1 else 0) (by omega) (fun c => ?_) (fun k hk c => ?_)]
  · dsimp only [Option.bind_some]
    rw [su_b]
  · unfold fb_X7_countAheadOf_l4
    dsimp only
    rw [h.2.1.1, if_pos (nI_le (by omega) (by omega))]
  · unfold fb_X7_countAheadOf_l4
    dsimp only
    rw [h.2.1.1, if_neg (nI_ge hk (by omega)), if_pos (gi (show k < 9 by omega) (by omega)), if_pos (gi (show d < 9 by omega) (by omega)), nI_clamp (show k < 2 ^ 31 by omega), nI_clamp (show d < 2 ^ 31 by omega), cL_P h (.inl hk), cL_P h (.inl hd), nI_1]
    have b1 := bd k hk
    have b2 := bd d hd
    have es : (pr k - pr d).toInt = (pr k).toInt - (pr d).toInt := i32_sub (by omega) (by omega)
    have ez : (0 : Int32).toInt = 0 := by decide
    unfold vA1
    by_cases q1 : pr k < pr d
    · have : pr k - pr d < 0 := by rw [i32_lt_iff] at q1 ⊢; omega
      rw [if_pos this, if_pos (by simp [q1])]
    · have : ¬ pr k - pr d < 0 := by rw [i32_lt_iff] at q1 ⊢; omega
      rw [if_neg this]
      by_cases q2 : pr k = pr d
      · have h0 : pr k - pr d = 0 := Int32.toInt_inj.mp (by rw [es, q2, ez]; omega)
        rw [if_pos h0]
        by_cases q3 : k < d
        · rw [if_neg (nI_ge q3 (by omega)), if_pos (by simp [q2, q3])]
        · rw [if_pos (nI_le (by omega) (by omega)), if_neg (by simp [q2, q3])]
      · have h0 : ¬ pr k - pr d = 0 := fun e => q2 (Int32.toInt_inj.mp (by have := congrArg Int32.toInt e; rw [es, ez] at this; omega))
        rw [if_neg h0, if_neg (by simp [q1, q2])]
theorem r9_ahead {n r : Nat} {b0 e0 : Nat → Nat} {up par rk dp : Nat → Nat} {pr : Nat → Int32} {τ : gj_S} (h : rL n r b0 e0 up par rk dp pr τ) {d : Nat} (hd : d < n) {b1 : Int32} : gj_lp (fb_X9_ranked_l26 b1 (nI d) τ) 5000 (0, 0) = some (nI (ct (vA1 pr d) n)) := by
  have hn := h.1.1
  rw [lp_sum (N := n) (v := fun o => if vA1 pr d o = true then 1 else 0) (by omega) (fun c => ?_) (fun k hk c => ?_), su_b]
  · unfold fb_X9_ranked_l26
    dsimp only
    rw [if_pos (gj0 (by decide)), rd0, h.1.2.2.1, if_pos (nI_le (by omega) (by omega))]
  · unfold fb_X9_ranked_l26
    dsimp only
    have gk : gj_in (nI k) 9 := gi (by omega) (by omega)
    have gd : gj_in (nI d) 9 := gi (by omega) (by omega)
    rw [if_pos (gj0 (by decide)), rd0, h.1.2.2.1, if_neg (nI_ge hk (by omega)), if_pos gk, if_pos gd]
    simp only [nI_clamp (show k < 2 ^ 31 by omega), nI_clamp (show d < 2 ^ 31 by omega), rL_P h (.inl hk), rL_P h (.inl hd), nI_1, if_pos gk, if_pos gd]
    unfold vA1
    by_cases q1 : pr k < pr d
    · rw [if_pos q1, if_pos (by simp [q1])]
    · rw [if_neg q1]
      by_cases q2 : pr k = pr d
      · rw [if_pos q2]
        by_cases q3 : k < d
        · rw [if_neg (nI_ge q3 (by omega)), if_pos (by simp [q2, q3])]
        · rw [if_pos (nI_le (by omega) (by omega)), if_neg (by simp [q2, q3])]
      · rw [if_neg q2, if_neg (by simp [q1, q2])]
theorem k_4 {K : Nat} {σ : gj_S} (hR : REL K σ) (c1 c2 c3 c4 c5 : Int32) : ∃ τ, gl_4 c1 c2 c3 c4 c5 σ = some τ ∧ REL (K + 100) τ := by
  obtain ⟨n, r, b0, e0, hS, ⟨hB1, up, par, rk, dp, pr, hT, ht⟩, -⟩ := id hR
  have hn := hS.1
  have hL := rel_cL hS hB1 hT ht
  have h0 : smX σ (gj_sI σ 188 (upd (σ.1 188) 0 0)) := smX_t
  refine rc_I (v := match fi (fun d => decide (nI (ct (vA1 pr d) n) = c1)) n 0 with | some k => nI k | none => -1) ?_ ?_ hR
  · unfold f_X8_ranked
    rw [lp_find (N := n) (p := fun d => decide (nI (ct (vA1 pr d) n) = c1)) (res := fun d => nI d) (by omega) ?_ (fun k hk => ?_)]
    · dsimp only [Option.bind_some]
      cases fi (fun d => decide (nI (ct (vA1 pr d) n) = c1)) n 0 with
      | none => rfl
      | some k => rfl
    · unfold fb_X8_ranked_l2
      rw [show σ.1 17 0 = nI n from hL.2.1.1, if_pos (nI_le (by omega) (by omega))]
    · unfold fb_X8_ranked_l2
      rw [show σ.1 17 0 = nI n from hL.2.1.1, if_neg (nI_ge hk (by omega)), c8_ahead hL hk, nI_1]
      dsimp only [Option.bind_some]
      by_cases q : nI (ct (vA1 pr k) n) = c1
      · rw [if_pos q, if_pos (decide_eq_true q)]
      · rw [if_neg q, if_neg (by simp [q])]
  · unfold f_X9_ranked
    refine tp_bind (r9_lay (smX_S h0 hS) (by rw [smX_s h0]; exact hT)) (fun z hz => ?_)
    have fr : frK σ z := frK_X (smX_tr h0 (smX_9 hz.1))
    rw [lp_find (N := n) (p := fun d => decide (nI (ct (vA1 pr d) n) = c1)) (res := fun d => (nI d, z)) (by omega) ?_ (fun k hk => ?_)]
    · refine tp_beq rfl ?_
      cases fi (fun d => decide (nI (ct (vA1 pr d) n) = c1)) n 0 with
      | none => exact tp_some ⟨rfl, fr⟩
      | some k => exact tp_some ⟨rfl, fr⟩
    · unfold fb_X9_ranked_l11
      rw [if_pos (gj0 (by decide)), rd0, hz.2.1.2.2.1, if_pos (nI_le (by omega) (by omega))]
    · unfold fb_X9_ranked_l11
      rw [if_pos (gj0 (by decide)), rd0, hz.2.1.2.2.1, if_neg (nI_ge hk (by omega)), r9_ahead hz.2 hk, nI_1]
      dsimp only [Option.bind_some]
      by_cases q : nI (ct (vA1 pr k) n) = c1
      · rw [if_pos q, if_pos (decide_eq_true q)]
      · rw [if_neg q, if_neg (by simp [q])]
