/-! ===== step, run: the calls ===== -/
theorem act_end {n r K K' u nx P F : Nat} {b0 e0 : Nat → Nat} {σ z x8 σ2 y x9 : gj_S} {s' : Nat → Int32} {up par rk dp : Nat → Nat} {pr : Nat → Int32} (hS : rS n r b0 e0 σ) (hB1 : rw1 n r b0 e0 K (σ.1 198) 17 σ) (hu : u ≤ 12) (hx : nx < 12) (hold : ∀ g, g < u → rw1 n r b0 e0 K (ur σ (u - 1 - g)) (56 + 9 * ((nx + 11 - g) % 12)) σ) (hD : reD n r b0 e0 K σ) (hE : reE σ) (hF : reF r σ) (hK : K ≤ K')
    (hA : cAct u nx σ z) (h8 : smC 16 34 z x8) (h2 : smX x8 σ2) (hk : kpR u σ2 y) (h9 : smP y x9) (es : x9.1 198 = s') (hL : cL n r b0 e0 s' up par rk dp pr 16 x8) (hl : lgM P s' 17 x8) (hP : rP n r b0 e0 s') (hf : fP n r F s') (hPK : P ≤ K' ∧ hzR r s') (hFK : F ≤ 999 + 2000 * K') : REL K' x9 := by
  have hA8 := cA_C hx hA h8 (by omega) (by omega)
  have c1 : ∀ k, k ≠ 188 → k ≠ 198 → k ≠ 199 → (k < 203 ∨ 210 < k) → x9.1 k = x8.1 k := fun k a1 a2 a3 a4 => by
    rw [h9.1 k a1 a2 (by omega), hk.1 k a3 a1, h2.1 k a1 a4]
  have hpl : pl n r b0 e0 P s' 17 x9 := pl_fr (a := 17) (σ := x8) ⟨hL.2.1, hl⟩ (fun k a1 a2 => c1 k (by omega) (by omega) (by omega) (by omega))
  refine act_mk hS hB1 hu hx hold hD hE hF hK hA8 (fun k a1 => c1 k (by omega) (by omega) (by omega) (by omega)) (fun k a1 => c1 k (by omega) (by omega) (by omega) (by omega)) ?_ ?_ (kp_Q hk ?_ ?_ ?_ ?_) ⟨⟨P, by rw [es]; exact hPK, by rw [es]; exact hP, by rw [es]; exact fP_mono hf hFK, by rw [es]; exact hpl⟩, up, par, rk, dp, pr, by rw [es]; exact hL.2.2.1, ?_⟩
  · rw [h9.2.1 2 (by decide) (by decide), hk.2.1 2 (by decide), h2.2.1 2 (by decide) (by decide) (by decide) (by decide)]
  · rw [h9.2.2, hk.2.2.1, h2.2.2]
  · rw [smX_s h2, hA8.1 198 (by omega)]
  · rw [h2.1 199 (by decide) (by decide), hA8.1 199 (by omega)]
  · exact h9.1 199 (by decide) (by decide) (by decide)
  · exact h9.2.1 23 (by decide) (by decide)
  · have ht := hL.2.2.2.1
    unfold t8 at ht ⊢
    rw [c1 (26 + 1) (by omega) (by omega) (by omega) (by omega), c1 (26 + 2) (by omega) (by omega) (by omega) (by omega), c1 (26 + 3) (by omega) (by omega) (by omega) (by omega), c1 (26 + 4) (by omega) (by omega) (by omega) (by omega)]
    exact ht
theorem k_10 {K : Nat} {σ : gj_S} (hR : REL K σ) (hK : K ≤ 51200) (c1 c2 c3 c4 c5 : Int32) : ∃ τ, fl_10 c1 c2 c3 c4 c5 σ = some τ ∧ REL (K + 100) τ := by
  obtain ⟨n, r, b0, e0, hS, ⟨hB1, up, par, rk, dp, pr, hT, ht⟩, ⟨u, nx, u1, u2, u3, u4, u5, u6⟩, hD, hE, hF⟩ := id hR
  obtain ⟨P, hPK, hP, hf, hp⟩ := id hB1
  have hL := rel_cL hS hB1 hT ht
  have hend := c8_end hL
  by_cases q : ct (vG r b0 e0 (σ.1 198) pr) (r + n) = 0
  · rw [if_pos q] at hend
    refine rc_S (v := -2) (s1 := σ) ?_ ?_ hR
    · unfold f_X8_step
      rw [hend]
      rfl
    · unfold f_X9_step
      have h0 : smX σ (gj_sI σ 188 (upd (σ.1 188) 0 0)) := smX_t
      refine tp_bind (r9_end (smX_S h0 hS) (by rw [smX_s h0]; exact hT)) (fun x hx => ?_)
      obtain ⟨x1, x2, -⟩ := hx
      rw [smX_s h0, if_pos q] at x1
      exact tp_f (by rw [x1]; decide) (tp_some ⟨rfl, frK_X (smX_tr h0 (smX_9 x2))⟩)
  · rw [if_neg q] at hend
    obtain ⟨z, ez, hA, hz⟩ := cA_rem u1 u2 u4 u5
    have sz : smC 54 187 σ z := ⟨fun k hk => by
      rcases hk with hk | hk
      · exact hz k hk
      · exact hA.1 k (by omega), hA.2.1⟩
    have hLz : cL n r b0 e0 (σ.1 198) up par rk dp pr 16 z := smC_cL sz (.inl (by omega)) hL
    have hlz : lgM P (σ.1 198) 17 z := by
      have := hp.2
      unfold lgM at this ⊢
      rw [hz 17 (by omega), hz (17 + 8) (by omega)]
      exact this
    -- the class, beside any state of the reference
    have cls : ∃ v x8, f_X7_makePivot 16 z = some (v, x8) ∧ smC 16 34 z x8 ∧ ∀ σ9, rS n r b0 e0 σ9 → σ9.1 198 = σ.1 198 → ∃ x9 s' up2 par2 rk2 dp2 pr2 P', f_X9_pivot σ9 = some (v, x9) ∧ smP σ9 x9 ∧ x9.1 198 = s' ∧ cL n r b0 e0 s' up2 par2 rk2 dp2 pr2 16 x8 ∧ lgM P' s' 17 x8 ∧ rP n r b0 e0 s' ∧ fP n r (999 + 2000 * K + 999) s' ∧ P' ≤ K + 100 ∧ hzR r s' := by
      rcases pv_both (K := 0) hLz hS rfl hP hf (by omega) hlz (by omega) with ⟨x8, x9, a1, a2, a3, a4, a5, a6, a7⟩ | ⟨w, x8, x9, s', up2, par2, rk2, dp2, pr2, a0, a1, a2, a3, a4, a5, a6, a7, a8, a9⟩
      · refine ⟨-1, x8, a1, smC_wd (by omega) (by omega) a3, fun σ9 hS9 e9 => ?_⟩
        rcases pv_both (K := 0) hLz hS9 e9 hP hf (by omega) hlz (by omega) with ⟨y8, x9, b1, b2, b3, b4, b5, b6, b7⟩ | ⟨w, y8, x9, s', up2, par2, rk2, dp2, pr2, b0', b1, b2, b3, b4, b5, b6, b7, b8, b9⟩
        · rw [a1] at b1
          cases b1
          exact ⟨x9, σ.1 198, up, par, rk, dp, pr, P, b2, b4, b5, b6, b7, hP, fP_mono hf (by omega), by omega, hPK.2⟩
        · rw [a1] at b1
          have := Option.some.inj b1
          have h1 := congrArg Prod.fst this
          exact absurd h1.symm (nI_m1 (by have := hS.1; have := hS.2.1; omega))
      · refine ⟨nI w, x8, a1, a3, fun σ9 hS9 e9 => ?_⟩
        rcases pv_both (K := 0) hLz hS9 e9 hP hf (by omega) hlz (by omega) with ⟨y8, x9, b1, b2, b3, b4, b5, b6, b7⟩ | ⟨w', y8, x9, s', up2, par2, rk2, dp2, pr2, b0', b1, b2, b3, b4, b5, b6, b7, b8, b9⟩
        · rw [a1] at b1
          have h1 := congrArg Prod.fst (Option.some.inj b1)
          exact absurd h1 (nI_m1 (by have := hS.1; have := hS.2.1; omega))
        · rw [a1] at b1
          have h1 := Option.some.inj b1
          have h2 : nI w = nI w' := congrArg Prod.fst h1
          have h3 : x8 = y8 := congrArg Prod.snd h1
          subst h3
          exact ⟨x9, s', up2, par2, rk2, dp2, pr2, P + 1, by rw [h2]; exact b2, b4, b5, b6, b7, b8, b9, by omega, fun v hv => by rw [b0'.2 (24 + v) (by have := hS.2.1; omega)]; exact hPK.2 v hv⟩
    obtain ⟨v, x8, e8, s8, hall⟩ := cls
    have hcl : f_X8_step σ = some (v, x8) := by
      unfold f_X8_step
      rw [hend]
      dsimp only [Option.bind_some]
      rw [if_pos rfl, ez]
      dsimp only [Option.bind_some]
      rw [e8]
      rfl
    have hA8 := cA_C u2 hA s8 (by omega) (by omega)
    have hS8 : rS n r b0 e0 x8 := by
      unfold rS at hS ⊢
      rw [hA8.1 190 (by omega), hA8.1 191 (by omega), hA8.1 194 (by omega), hA8.1 195 (by omega)]
      exact hS
    have e198 : x8.1 198 = σ.1 198 := hA8.1 198 (by omega)
    have href : TP (f_X9_step x8) (fun x => x.1 = v ∧ REL (K + 100) x.2) := by
      unfold f_X9_step
      have h0 : smX x8 (gj_sI x8 188 (upd (x8.1 188) 0 0)) := smX_t
      refine tp_bind (r9_end (smX_S h0 hS8) (by rw [smX_s h0, e198]; exact hT)) (fun x hx => ?_)
      obtain ⟨x1, x2, -⟩ := hx
      rw [smX_s h0, e198, if_neg q] at x1
      refine tp_t x1 ?_
      have hX : smX x8 x.2 := smX_tr h0 (smX_9 x2)
      refine tp_bind (r9_keeps (u := u) u1 (by rw [hX.2.1 23 (by decide) (by decide) (by decide) (by decide), hA8.1 188 (by omega)]; exact u3)) (fun y hy => ?_)
      have hkp : kpR u x.2 y := hy
      have y198 : y.1 198 = σ.1 198 := by rw [hkp.1 198 (by decide) (by decide), smX_s hX, e198]
      have hSy : rS n r b0 e0 y := by
        have h1 := smX_S hX hS8
        unfold rS at h1 ⊢
        rw [hkp.1 190 (by decide) (by decide), hkp.1 191 (by decide) (by decide), hkp.1 194 (by decide) (by decide), hkp.1 195 (by decide) (by decide)]
        exact h1
      obtain ⟨x9, s', up2, par2, rk2, dp2, pr2, P', d1, d2, d3, d4, d5, d6, d7, d8⟩ := hall y hSy y198
      exact tp_beq d1 (tp_some ⟨rfl, act_end hS hB1 u1 u2 u6 hD hE hF (by omega) hA s8 hX hkp d2 d3 d4 d5 d6 d7 d8 (by omega)⟩)
    obtain ⟨⟨v', t⟩, e9, rfl, h9⟩ := href
    refine ⟨t, ?_, h9⟩
    unfold fl_10
    rw [hcl]
    dsimp only [Option.bind_some]
    rw [e9]
    exact if_pos rfl
theorem k_11 {K : Nat} {σ : gj_S} (hR : REL K σ) (hK : K ≤ 51200) (c1 c2 c3 c4 c5 : Int32) : ∃ τ, fl_11 c1 c2 c3 c4 c5 σ = some τ ∧ REL (K + 100) τ := by
  obtain ⟨n, r, b0, e0, hS, ⟨hB1, up, par, rk, dp, pr, hT, ht⟩, ⟨u, nx, u1, u2, u3, u4, u5, u6⟩, hD, hE, hF⟩ := id hR
  obtain ⟨P, hPK, hP, hf, hp⟩ := id hB1
  have hL := rel_cL hS hB1 hT ht
  have hend := c8_end hL
  have e1 : (1 : Int32).toInt = 1 := by decide
  have e99 : (99 : Int32).toInt = 99 := by decide
  have r2 : f_X9_within c1.toInt64 1 99 = some (bI (decide (1 ≤ c1.toInt ∧ c1.toInt ≤ 99))) := by
    have := wiL c1 1 99
    rw [e1, e99] at this
    exact this
  have h0 : smX σ (gj_sI σ 188 (upd (σ.1 188) 0 0)) := smX_t
  by_cases hin : 1 ≤ c1.toInt ∧ c1.toInt ≤ 99
  · have n1 : ¬ c1 < 1 := by rw [i32_lt_iff]; omega
    have n2 : c1 ≤ 99 := by rw [i32_le_iff]; omega
    rw [decide_eq_true hin] at r2
    by_cases q : ct (vG r b0 e0 (σ.1 198) pr) (r + n) = 0
    · rw [if_pos q] at hend
      refine rc_S (v := 0) (s1 := σ) ?_ ?_ hR
      · unfold f_X8_run
        rw [if_neg n1, if_pos n2, hend]
        rfl
      · unfold f_X9_run
        refine tp_beq r2 (tp_f (by decide) (tp_bind (r9_end (smX_S h0 hS) (by rw [smX_s h0]; exact hT)) (fun x hx => ?_)))
        obtain ⟨x1, x2, -⟩ := hx
        rw [smX_s h0, if_pos q] at x1
        exact tp_f (by rw [x1]; decide) (tp_some ⟨rfl, frK_X (smX_tr h0 (smX_9 x2))⟩)
    · rw [if_neg q] at hend
      obtain ⟨N, hN, rfl⟩ : ∃ N, N < 100 ∧ c1 = nI N := inR_of (decide_eq_true (by omega))
      obtain ⟨z, ez, hA, hz⟩ := cA_rem u1 u2 u4 u5
      have sz : smC 54 187 σ z := ⟨fun k hk => by
        rcases hk with hk | hk
        · exact hz k hk
        · exact hA.1 k (by omega), hA.2.1⟩
      have hLz : cL n r b0 e0 (σ.1 198) up par rk dp pr 16 z := smC_cL sz (.inl (by omega)) hL
      have hlz : lgM P (σ.1 198) 17 z := by
        have := hp.2
        unfold lgM at this ⊢
        rw [hz 17 (by omega), hz (17 + 8) (by omega)]
        exact this
      obtain ⟨k, x8, -, -, -, -, -, -, -, f1, f2, -, f4, -⟩ := run_both (y := 16) (N := N) (by omega) N 0 (by omega) hLz hS rfl hP hf (by omega) hlz (by omega) 2000000 5000 (by omega) (by omega)
      have hcl : f_X8_run (nI N) σ = some (nI (0 + k), x8) := by
        unfold f_X8_run
        rw [if_neg n1, if_pos n2, hend]
        dsimp only [Option.bind_some]
        rw [if_pos rfl, ez]
        dsimp only [Option.bind_some]
        unfold f_X7_makePivots
        rw [show (0 : Int32) = nI 0 from rfl, f2]
        rfl
      have hA8 := cA_C u2 hA f4 (by omega) (by omega)
      have hS8 : rS n r b0 e0 x8 := by
        unfold rS at hS ⊢
        rw [hA8.1 190 (by omega), hA8.1 191 (by omega), hA8.1 194 (by omega), hA8.1 195 (by omega)]
        exact hS
      have e198 : x8.1 198 = σ.1 198 := hA8.1 198 (by omega)
      have href : TP (f_X9_run (nI N) x8) (fun x => x.1 = nI (0 + k) ∧ REL (K + 100) x.2) := by
        unfold f_X9_run
        have h08 : smX x8 (gj_sI x8 188 (upd (x8.1 188) 0 0)) := smX_t
        refine tp_beq r2 (tp_f (by decide) (tp_bind (r9_end (smX_S h08 hS8) (by rw [smX_s h08, e198]; exact hT)) (fun x hx => ?_)))
        obtain ⟨x1, x2, -⟩ := hx
        rw [smX_s h08, e198, if_neg q] at x1
        refine tp_t x1 ?_
        have hX : smX x8 x.2 := smX_tr h08 (smX_9 x2)
        refine tp_bind (r9_keeps (u := u) u1 (by rw [hX.2.1 23 (by decide) (by decide) (by decide) (by decide), hA8.1 188 (by omega)]; exact u3)) (fun y hy => ?_)
        have hkp : kpR u x.2 y := hy
        have y198 : y.1 198 = σ.1 198 := by rw [hkp.1 198 (by decide) (by decide), smX_s hX, e198]
        have hSy : rS n r b0 e0 y := by
          have h1 := smX_S hX hS8
          unfold rS at h1 ⊢
          rw [hkp.1 190 (by decide) (by decide), hkp.1 191 (by decide) (by decide), hkp.1 194 (by decide) (by decide), hkp.1 195 (by decide) (by decide)]
          exact h1
        obtain ⟨k', x8', x9, s', up2, par2, rk2, dp2, pr2, g1, g2, g3, g4, g5, g6, g7, g8, g9, g10⟩ := run_both (y := 16) (N := N) (by omega) N 0 (by omega) hLz hSy y198 hP hf (by omega) hlz (by omega) 2000000 5000 (by omega) (by omega)
        rw [f2] at g2
        have h1 := Option.some.inj g2
        have h2 : nI (0 + k) = nI (0 + k') := congrArg Prod.fst h1
        have h3 : x8 = x8' := congrArg Prod.snd h1
        subst h3
        rw [show (0 : Int32) = nI 0 from rfl]
        exact tp_beq g3 (tp_some ⟨h2.symm, act_end hS hB1 u1 u2 u6 hD hE hF (by omega) hA f4 hX hkp g5 g6 g7 g8 g9 g10 ⟨by omega, fun v hv => by rw [g1.2 (24 + v) (by have := hS.2.1; omega)]; exact hPK.2 v hv⟩ (by omega)⟩)
      obtain ⟨⟨v', t⟩, e9, hv, h9⟩ := href
      refine ⟨t, ?_, h9⟩
      unfold fl_11
      rw [hcl]
      dsimp only [Option.bind_some]
      rw [e9]
      exact if_pos hv.symm
  · rw [decide_eq_false hin] at r2
    refine rc_S (v := -1) (s1 := σ) ?_ ?_ hR
    · unfold f_X8_run
      by_cases a1 : c1 < 1
      · rw [if_pos a1]
      · rw [if_neg a1, if_neg]
        rw [i32_lt_iff] at a1
        rw [i32_le_iff]
        omega
    · unfold f_X9_run
      exact tp_beq r2 (tp_t rfl (tp_some ⟨rfl, frK_X h0⟩))
