/-! ===== cost, bill, count, log ===== -/
def vZ (r : Nat) (s : Nat → Int32) : Int32 := su (fun k => s (50 + k) * s (8 + k)) r
theorem c8_cost {n r b : Nat} {b0 e0 : Nat → Nat} {s : Nat → Int32} {σ : gj_S} (hg : gS n r b0 e0) (h : pm n r b0 e0 s b σ) : f_X1_sumCost b σ = some (vZ r s) := by
  have hr := hg.2.1
  unfold f_X1_sumCost
  rw [lp_sum (N := r) (v := fun k => s (50 + k) * s (8 + k)) (by omega) (fun c => ?_) (fun k hk c => ?_)]
  · rfl
  · unfold fb_X1_sumCost_l4
    dsimp only
    rw [h.2.1, if_pos (nI_le (by omega) (by omega))]
  · have gk : gj_in (nI k) 24 := gi (by omega) (by omega)
    obtain ⟨-, -, q3, -, q5, -⟩ := h.2.2.2.2.2 k (by omega)
    unfold vc at q3
    rw [if_pos hk] at q3
    unfold fb_X1_sumCost_l4
    dsimp only
    rw [h.2.1, if_neg (nI_ge hk (by omega)), if_pos gk, if_pos gk, nI_clamp (by omega), q3, q5, nI_1]
theorem r9_cost {n r : Nat} {b0 e0 : Nat → Nat} {σ : gj_S} (h : rS n r b0 e0 σ) : f_X9_costNow σ = some (vZ r (σ.1 198)) := by
  have hr := h.2.1
  unfold f_X9_costNow
  rw [lp_sum (N := r) (v := fun k => σ.1 198 (50 + k) * σ.1 198 (8 + k)) (by omega) (fun c => ?_) (fun k hk c => ?_)]
  · rfl
  · unfold fb_X9_costNow_l4
    dsimp only
    rw [if_pos (gj0 (by decide)), rd0, h.2.2.2.1, if_pos (nI_le (by omega) (by omega))]
  · unfold fb_X9_costNow_l4
    dsimp only
    rw [if_pos (gj0 (by decide)), rd0, h.2.2.2.1, if_neg (nI_ge hk (by omega))]
    simp only [show (50 : Int32) = nI 50 from rfl, show (8 : Int32) = nI 8 from rfl, nI_add, nI_clamp (show 50 + k < 2 ^ 31 by omega), nI_clamp (show 8 + k < 2 ^ 31 by omega)]
    rw [if_pos (gi (by omega) (by omega)), if_pos (gi (by omega) (by omega)), nI_1]
theorem k_13 {K : Nat} {σ : gj_S} (hR : REL K σ) (c1 c2 c3 c4 c5 : Int32) : ∃ τ, gl_13 c1 c2 c3 c4 c5 σ = some τ ∧ REL (K + 100) τ := by
  obtain ⟨n, r, b0, e0, hS, ⟨⟨P, hPK, hP, hf, hp⟩, -⟩, -⟩ := id hR
  have h0 : smX σ (gj_sI σ 188 (upd (σ.1 188) 0 0)) := smX_t
  refine rc_I (v := vZ r (σ.1 198)) ?_ ?_ hR
  · unfold f_X8_cost
    rw [c8_cost (rS_g hS) hp.1]
    rfl
  · unfold f_X9_cost
    exact tp_beq (r9_cost (smX_S h0 hS)) (tp_some ⟨rfl, frK_X h0⟩)
theorem k_14 {K : Nat} {σ : gj_S} (hR : REL K σ) (c1 c2 c3 c4 c5 : Int32) : ∃ τ, gl_14 c1 c2 c3 c4 c5 σ = some τ ∧ REL (K + 100) τ := by
  obtain ⟨n, r, b0, e0, hS, ⟨⟨P, hPK, hP, hf, hp⟩, -⟩, -⟩ := id hR
  have h0 : smX σ (gj_sI σ 188 (upd (σ.1 188) 0 0)) := smX_t
  obtain ⟨v, hv⟩ : ∃ v, (vZ r (σ.1 198)).toInt64 * c1.toInt64 + c2.toInt64 = v := ⟨_, rfl⟩
  refine rc_I (v := if -2147483648 ≤ v ∧ v ≤ 2147483647 then v.toInt32 else -2147483648) ?_ ?_ hR
  · unfold f_X8_bill
    rw [c8_cost (rS_g hS) hp.1]
    dsimp only [Option.bind_some]
    rw [hv]
    simp only [lg_cmp_lt, lg_cmp_le]
    by_cases h1 : v < -2147483648
    · have h2 : ¬ (-2147483648 ≤ v ∧ v ≤ 2147483647) := by
        rw [Int64.lt_iff_toInt_lt] at h1
        rw [Int64.le_iff_toInt_le]
        omega
      rw [if_pos h1, if_neg h2]
    · by_cases h3 : v ≤ 2147483647
      · have h2 : (-2147483648 ≤ v ∧ v ≤ 2147483647) := by
          refine ⟨?_, h3⟩
          rw [Int64.lt_iff_toInt_lt] at h1
          rw [Int64.le_iff_toInt_le]
          omega
        rw [if_neg h1, if_pos h3, if_pos h2]
      · rw [if_neg h1, if_neg h3, if_neg (fun q => h3 q.2)]
  · unfold f_X9_bill
    refine tp_beq (r9_cost (smX_S h0 hS)) ?_
    rw [show (gj_sI σ 188 (upd (σ.1 188) 0 0)).1 198 = σ.1 198 from rfl, hv, wi_row]
    refine tp_beq rfl ?_
    by_cases h2 : -2147483648 ≤ v ∧ v ≤ 2147483647
    · rw [if_pos h2, if_pos h2]
      exact tp_f (by decide) (tp_some ⟨rfl, frK_X h0⟩)
    · rw [if_neg h2, if_neg h2]
      exact tp_t rfl (tp_some ⟨rfl, frK_X h0⟩)
/-- how many of the first N ways tell x -/
theorem k_30 {K : Nat} {σ : gj_S} (hR : REL K σ) (hK : K ≤ 51200) (c1 c2 c3 c4 c5 : Int32) : ∃ τ, gl_30 c1 c2 c3 c4 c5 σ = some τ ∧ REL (K + 100) τ := by
  obtain ⟨n, r, b0, e0, hS, ⟨hB1, up, par, rk, dp, pr, hT, ht⟩, ⟨u, nx, u1, u2, u3, u4, u5, -⟩, -, ⟨t, t1, t2, t3, -⟩, -⟩ := id hR
  have hn := hS.1
  have hr := hS.2.1
  have hg := rS_g hS
  obtain ⟨P, hPK, hP, hf, hp⟩ := id hB1
  have h0 : smX σ (gj_sI σ 188 (upd (σ.1 188) 0 0)) := smX_t
  have hS0 := smX_S h0 hS
  have e9 : (gj_sI σ 188 (upd (σ.1 188) 0 0)).1 198 = σ.1 198 := rfl
  have hlog : f_X1_countLogged 17 σ = some (σ.1 198 99) := by
    unfold f_X1_countLogged
    rw [hp.2.1, hp.2.2.2.1]
    by_cases q : 16 < P
    · rw [if_pos (by rw [show (16 : Int32) = nI 16 from rfl]; exact nI_lt q (by omega)), Nat.min_eq_right (by omega)]
      rfl
    · rw [if_neg (by rw [show (16 : Int32) = nI 16 from rfl]; exact nI_nlt (by omega) (by omega)), Nat.min_eq_left (by omega)]
  have hfull : f_X1_countFull 17 σ = some (su (fun k => if σ.1 198 (74 + k) = 2 then 1 else 0) (r + n)) := by
    unfold f_X1_countFull
    rw [lp_sum (N := r + n) (v := fun k => if σ.1 198 (74 + k) = 2 then 1 else 0) (by omega) (fun c => ?_) (fun k hk c => ?_)]
    · rfl
    · unfold fb_X1_countFull_l4
      rw [c8_ways hp.1]
      exact if_pos (nI_le (by omega) (by omega))
    · unfold fb_X1_countFull_l4
      rw [c8_ways hp.1]
      dsimp only [Option.bind_some]
      rw [if_neg (nI_ge hk (by omega)), if_pos (gi (by omega) (by omega)), nI_clamp (by omega), (hp.1.2.2.2.2.2 k hk).2.2.2.2.2, nI_1]
      by_cases q : σ.1 198 (74 + k) = 2
      · rw [if_pos q, if_pos q]
      · rw [if_neg q, if_neg q]
  have hfull9 : gj_lp (fb_X9_count_l139 (gj_sI σ 188 (upd (σ.1 188) 0 0))) 5000 (0, 0) = some (su (fun k => if σ.1 198 (74 + k) = 2 then 1 else 0) (r + n)) := by
    rw [lp_sum (N := r + n) (v := fun k => if σ.1 198 (74 + k) = 2 then 1 else 0) (by omega) (fun c => ?_) (fun k hk c => ?_)]
    · unfold fb_X9_count_l139
      rw [r9_ways hS0]
      exact if_pos (nI_le (by omega) (by omega))
    · unfold fb_X9_count_l139
      rw [r9_ways hS0]
      dsimp only [Option.bind_some]
      rw [if_neg (nI_ge hk (by omega)), e9]
      simp only [show (74 : Int32) = nI 74 from rfl, nI_add, nI_clamp (show 74 + k < 2 ^ 31 by omega)]
      rw [if_pos (gi (by omega) (by omega)), nI_1]
      by_cases q : σ.1 198 (74 + k) = 2
      · rw [if_pos q, if_pos q]
      · rw [if_neg q, if_neg q]
  have htree : f_X1_countRoutesInTree 17 σ = some (su (fun k => if σ.1 198 (74 + k) = 0 then 1 else 0) r) := by
    unfold f_X1_countRoutesInTree
    rw [lp_sum (N := r) (v := fun k => if σ.1 198 (74 + k) = 0 then 1 else 0) (by omega) (fun c => ?_) (fun k hk c => ?_)]
    · rfl
    · unfold fb_X1_countRoutesInTree_l4
      dsimp only
      rw [hp.1.2.1, if_pos (nI_le (by omega) (by omega))]
    · unfold fb_X1_countRoutesInTree_l4
      dsimp only
      rw [hp.1.2.1, if_neg (nI_ge hk (by omega)), if_pos (gi (by omega) (by omega)), nI_clamp (by omega), (hp.1.2.2.2.2.2 k (by omega)).2.2.2.2.2, nI_1]
      by_cases q : σ.1 198 (74 + k) = 0
      · rw [if_pos q, if_pos q]
      · rw [if_neg q, if_neg q]
  have htree9 : gj_lp (fb_X9_count_l178 (gj_sI σ 188 (upd (σ.1 188) 0 0))) 5000 (0, 0) = some (su (fun k => if σ.1 198 (74 + k) = 0 then 1 else 0) r) := by
    rw [lp_sum (N := r) (v := fun k => if σ.1 198 (74 + k) = 0 then 1 else 0) (by omega) (fun c => ?_) (fun k hk c => ?_)]
    · unfold fb_X9_count_l178
      dsimp only
      rw [if_pos (gj0 (by decide)), rd0, hS0.2.2.2.1, if_pos (nI_le (by omega) (by omega))]
    · unfold fb_X9_count_l178
      dsimp only
      rw [if_pos (gj0 (by decide)), rd0, hS0.2.2.2.1, if_neg (nI_ge hk (by omega)), e9]
      simp only [show (74 : Int32) = nI 74 from rfl, nI_add, nI_clamp (show 74 + k < 2 ^ 31 by omega)]
      rw [if_pos (gi (by omega) (by omega)), nI_1]
      by_cases q : σ.1 198 (74 + k) = 0
      · rw [if_pos q, if_pos q]
      · rw [if_neg q, if_neg q]
  have fr0 := frK_X h0
  by_cases q0 : c1 = 0
  · subst q0
    exact rc_I (v := nI n) (by unfold f_X8_count; rw [if_pos rfl, hp.1.1]) (by unfold f_X9_count; exact tp_t rfl (tp_t (gj0 (by decide)) (tp_some ⟨by rw [rd0]; exact hS.2.2.1, fr0⟩))) hR
  by_cases q1 : c1 = 1
  · subst q1
    exact rc_I (v := nI r) (by unfold f_X8_count; rw [if_neg (by decide), if_pos rfl, hp.1.2.1]) (by unfold f_X9_count; exact tp_f (by decide) (tp_t rfl (tp_t (gj0 (by decide)) (tp_some ⟨by rw [rd0]; exact hS.2.2.2.1, fr0⟩)))) hR
  by_cases q2 : c1 = 2
  · subst q2
    exact rc_I (v := σ.1 198 40) (by unfold f_X8_count; rw [if_neg (by decide), if_neg (by decide), if_pos rfl, hp.1.2.2.1]) (by unfold f_X9_count; exact tp_f (by decide) (tp_f (by decide) (tp_t rfl (tp_t (by decide) (tp_some ⟨rfl, fr0⟩))))) hR
  by_cases q3 : c1 = 3
  · subst q3
    exact rc_I (v := σ.1 198 41) (by unfold f_X8_count; rw [if_neg (by decide), if_neg (by decide), if_neg (by decide), if_pos rfl, hp.1.2.2.2.1]) (by unfold f_X9_count; exact tp_f (by decide) (tp_f (by decide) (tp_f (by decide) (tp_t rfl (tp_t (by decide) (tp_some ⟨rfl, fr0⟩)))))) hR
  by_cases q4 : c1 = 4
  · subst q4
    exact rc_I (v := σ.1 198 99) (by unfold f_X8_count; rw [if_neg (by decide), if_neg (by decide), if_neg (by decide), if_neg (by decide), if_pos rfl, hlog]; rfl) (by unfold f_X9_count; exact tp_f (by decide) (tp_f (by decide) (tp_f (by decide) (tp_f (by decide) (tp_t rfl (tp_t (by decide) (tp_some ⟨rfl, fr0⟩))))))) hR
  by_cases q5 : c1 = 5
  · subst q5
    exact rc_I (v := σ.1 198 98) (by unfold f_X8_count; rw [if_neg (by decide), if_neg (by decide), if_neg (by decide), if_neg (by decide), if_neg (by decide), if_pos rfl, hp.2.1, hp.2.2.1]) (by unfold f_X9_count; exact tp_f (by decide) (tp_f (by decide) (tp_f (by decide) (tp_f (by decide) (tp_f (by decide) (tp_t rfl (tp_t (by decide) (tp_some ⟨rfl, fr0⟩)))))))) hR
  by_cases q6 : c1 = 6
  · subst q6
    exact rc_I (v := nI u) (by unfold f_X8_count; rw [if_neg (by decide), if_neg (by decide), if_neg (by decide), if_neg (by decide), if_neg (by decide), if_neg (by decide), if_pos rfl, u4]) (by unfold f_X9_count; exact tp_f (by decide) (tp_f (by decide) (tp_f (by decide) (tp_f (by decide) (tp_f (by decide) (tp_f (by decide) (tp_t rfl (tp_some ⟨u3, fr0⟩)))))))) hR
  by_cases q7 : c1 = 7
  · subst q7
    exact rc_I (v := nI t) (by unfold f_X8_count; rw [if_neg (by decide), if_neg (by decide), if_neg (by decide), if_neg (by decide), if_neg (by decide), if_neg (by decide), if_neg (by decide), if_pos rfl, t2]) (by unfold f_X9_count; exact tp_f (by decide) (tp_f (by decide) (tp_f (by decide) (tp_f (by decide) (tp_f (by decide) (tp_f (by decide) (tp_f (by decide) (tp_t rfl (tp_some ⟨t3, fr0⟩))))))))) hR
  by_cases q8 : c1 = 8
  · subst q8
    refine rc_I (v := if ct (vG r b0 e0 (σ.1 198) pr) (r + n) = 0 then 1 else 0) ?_ ?_ hR
    · unfold f_X8_count
      rw [if_neg (by decide), if_neg (by decide), if_neg (by decide), if_neg (by decide), if_neg (by decide), if_neg (by decide), if_neg (by decide), if_neg (by decide), if_pos rfl, c8_end (rel_cL hS hB1 hT ht)]
      by_cases q : ct (vG r b0 e0 (σ.1 198) pr) (r + n) = 0 <;> simp [q]
    · unfold f_X9_count
      refine tp_f (by decide) (tp_f (by decide) (tp_f (by decide) (tp_f (by decide) (tp_f (by decide) (tp_f (by decide) (tp_f (by decide) (tp_f (by decide) (tp_t rfl ?_))))))))
      refine tp_bind (r9_end hS0 (by rw [e9]; exact hT)) (fun x hx => ?_)
      obtain ⟨x1, x2, -⟩ := hx
      have fr : frK σ x.2 := frK_tr fr0 (frK_X (smX_9 x2))
      rw [e9] at x1
      rw [x1]
      by_cases q : ct (vG r b0 e0 (σ.1 198) pr) (r + n) = 0
      · rw [if_pos q]
        exact tp_f (by decide) (tp_some ⟨rfl, fr⟩)
      · rw [if_neg q]
        exact tp_t rfl (tp_some ⟨rfl, fr⟩)
  by_cases qa : c1 = 9
  · subst qa
    exact rc_I (v := su (fun k => if σ.1 198 (74 + k) = 2 then 1 else 0) (r + n)) (by unfold f_X8_count; rw [if_neg (by decide), if_neg (by decide), if_neg (by decide), if_neg (by decide), if_neg (by decide), if_neg (by decide), if_neg (by decide), if_neg (by decide), if_neg (by decide), if_pos rfl, hfull]; rfl) (by unfold f_X9_count; exact tp_f (by decide) (tp_f (by decide) (tp_f (by decide) (tp_f (by decide) (tp_f (by decide) (tp_f (by decide) (tp_f (by decide) (tp_f (by decide) (tp_f (by decide) (tp_t rfl (tp_beq hfull9 (tp_some ⟨rfl, fr0⟩)))))))))))) hR
  by_cases qb : c1 = 10
  · subst qb
    exact rc_I (v := su (fun k => if σ.1 198 (74 + k) = 0 then 1 else 0) r) (by unfold f_X8_count; rw [if_neg (by decide), if_neg (by decide), if_neg (by decide), if_neg (by decide), if_neg (by decide), if_neg (by decide), if_neg (by decide), if_neg (by decide), if_neg (by decide), if_neg (by decide), if_pos rfl, htree]; rfl) (by unfold f_X9_count; exact tp_f (by decide) (tp_f (by decide) (tp_f (by decide) (tp_f (by decide) (tp_f (by decide) (tp_f (by decide) (tp_f (by decide) (tp_f (by decide) (tp_f (by decide) (tp_f (by decide) (tp_t rfl (tp_beq htree9 (tp_some ⟨rfl, fr0⟩))))))))))))) hR
  · exact rc_I (v := -1) (by unfold f_X8_count; rw [if_neg q0, if_neg q1, if_neg q2, if_neg q3, if_neg q4, if_neg q5, if_neg q6, if_neg q7, if_neg q8, if_neg qa, if_neg qb]) (by unfold f_X9_count; exact tp_f q0 (tp_f q1 (tp_f q2 (tp_f q3 (tp_f q4 (tp_f q5 (tp_f q6 (tp_f q7 (tp_f q8 (tp_f qa (tp_f qb (tp_some ⟨rfl, fr0⟩)))))))))))) hR
