/-! ===== hold ===== -/
theorem k_24 {K : Nat} {σ : gj_S} (hR : REL K σ) (c1 c2 c3 c4 c5 : Int32) : ∃ τ, fl_24 c1 c2 c3 c4 c5 σ = some τ ∧ REL (K + 100) τ := by
  obtain ⟨n, r, b0, e0, hS, ⟨hB1, up, par, rk, dp, pr, hT, ht⟩, ⟨u, nx, u1, u2, u3, u4, u5, u6⟩, hD, hE, hF⟩ := id hR
  obtain ⟨P, hPK, hP, hf, hp⟩ := id hB1
  have hn := hS.1
  have hr := hS.2.1
  have hg := rS_g hS
  have ez1 : (1 : Int32).toInt = 1 := by decide
  have e999 : (999 : Int32).toInt = 999 := by decide
  have r2 : f_X9_within c2.toInt64 1 999 = some (bI (decide (1 ≤ c2.toInt ∧ c2.toInt ≤ 999))) := by
    have := wiL c2 1 999
    rw [ez1, e999] at this
    exact this
  have h0 : smX σ (gj_sI σ 188 (upd (σ.1 188) 0 0)) := smX_t
  have er := c8_hasRoute hg hp.1 c1
  have er9 := r9_isRoute (smX_S h0 hS) c1
  have refuse : ∀ (v : Int32) (_ : f_X8_hold c1 c2 σ = some (v, σ)) (_ : f_X9_hold c1 c2 σ = some (v, gj_sI σ 188 (upd (σ.1 188) 0 0))), ∃ τ, fl_24 c1 c2 c3 c4 c5 σ = some τ ∧ REL (K + 100) τ := fun v a1 a2 => rc_S a1 (tp_eq a2 ⟨rfl, frK_X h0⟩) hR
  cases hin : inR c1 r with
  | false =>
    rw [hin] at er er9
    refine refuse (-1) ?_ ?_
    · unfold f_X8_hold
      rw [er]
      rfl
    · unfold f_X9_hold
      rw [er9]
      rfl
  | true =>
    rw [hin] at er er9
    obtain ⟨w, hw, rfl⟩ := inR_of hin
    by_cases hr2 : 1 ≤ c2.toInt ∧ c2.toInt ≤ 999
    · rw [decide_eq_true hr2] at r2
      have n1 : ¬ c2 < 1 := by rw [i32_lt_iff]; omega
      have n2 : ¬ 999 < c2 := by rw [i32_lt_iff]; omega
      have gw : gj_in (nI w) 24 := gi (by omega) (by omega)
      have cw : (nI w).toNatClampNeg = w := nI_clamp (by omega)
      have g24 : (24 : Int32) + nI w = nI (24 + w) := by rw [show (24 : Int32) = nI 24 from rfl, nI_add]
      have g74 : (74 : Int32) + nI w = nI (74 + w) := by rw [show (74 : Int32) = nI 74 from rfl, nI_add]
      have g50 : (50 : Int32) + nI w = nI (50 + w) := by rw [show (50 : Int32) = nI 50 from rfl, nI_add]
      obtain ⟨-, -, -, m4, m5, m6⟩ := hp.1.2.2.2.2.2 w (by omega)
      rw [if_pos hw] at m4
      have e22 : σ.1 22 w = σ.1 198 (24 + w) := m4
      have e23 : σ.1 23 w = σ.1 198 (50 + w) := m5
      have e24 : σ.1 24 w = σ.1 198 (74 + w) := m6
      have op8 : f_X8_hold (nI w) c2 σ = if c2 = σ.1 198 (24 + w) then some (-1, σ) else if σ.1 198 (74 + w) = 2 then some (-2, σ) else if σ.1 198 (50 + w) ≤ c2 then ((f_X0_remember σ).bind fun x5 => some (x5.1 22 w, gj_sI x5 22 (upd (x5.1 22) w c2))) else some (-2, σ) := by
        unfold f_X8_hold
        rw [er]
        dsimp only [Option.bind_some]
        rw [if_neg (show ¬ bI true = 0 by decide), if_neg n1, if_neg n2]
        simp only [if_pos gw, cw, e22, e23, e24]
      have op9 : ∀ σ1 : gj_S, rS n r b0 e0 σ1 → σ1.1 198 = σ.1 198 → f_X9_hold (nI w) c2 σ1 = if σ.1 198 (24 + w) = c2 then some (-1, gj_sI σ1 188 (upd (σ1.1 188) 0 0)) else if σ.1 198 (74 + w) = 2 then some (-2, gj_sI σ1 188 (upd (σ1.1 188) 0 0)) else if σ.1 198 (50 + w) ≤ c2 then ((f_X9_retold (nI (24 + w)) c2 (gj_sI σ1 188 (upd (σ1.1 188) 0 0))).bind fun x6 => some (x6.1, x6.2)) else some (-2, gj_sI σ1 188 (upd (σ1.1 188) 0 0)) := by
        intro σ1 hS1 es
        have h01 : smX σ1 (gj_sI σ1 188 (upd (σ1.1 188) 0 0)) := smX_t
        have er1 := r9_isRoute (smX_S h01 hS1) (nI w)
        rw [hin] at er1
        unfold f_X9_hold
        rw [er1]
        dsimp only [Option.bind_some]
        rw [if_neg (show ¬ bI true = 0 by decide), r2]
        dsimp only [Option.bind_some]
        rw [if_neg (show ¬ bI true = 0 by decide), smX_s h01, es]
        simp only [g24, g74, g50, nI_clamp (show 24 + w < 2 ^ 31 by omega), nI_clamp (show 74 + w < 2 ^ 31 by omega), nI_clamp (show 50 + w < 2 ^ 31 by omega)]
        rw [if_pos (gi (show 24 + w < 180 by omega) (by omega)), if_pos (gi (show 74 + w < 180 by omega) (by omega)), if_pos (gi (show 50 + w < 180 by omega) (by omega))]
      by_cases heq : c2 = σ.1 198 (24 + w)
      · refine refuse (-1) ?_ ?_
        · rw [op8, if_pos heq]
        · rw [op9 σ hS rfl, if_pos heq.symm]
      · have heq9 : ¬ σ.1 198 (24 + w) = c2 := fun e => heq e.symm
        by_cases hst : σ.1 198 (74 + w) = 2
        · refine refuse (-2) ?_ ?_
          · rw [op8, if_neg heq, if_pos hst]
          · rw [op9 σ hS rfl, if_neg heq9, if_pos hst]
        · by_cases hfl : σ.1 198 (50 + w) ≤ c2
          · obtain ⟨z, ez, hA, hz⟩ := cA_rem u1 u2 u4 u5
            obtain ⟨cc, hcc, rfl⟩ : ∃ b, b < 1000 ∧ c2 = nI b := inR_of (decide_eq_true (by omega))
            have hup : ∀ q, q ≠ 24 + w → upd (σ.1 198) (24 + w) (nI cc) q = σ.1 198 q := fun q hq => if_neg hq
            have hE1 : rwE (σ.1 198) (upd (σ.1 198) (24 + w) (nI cc)) := ⟨fun q a1 a2 => hup q (by omega), fun q a1 a2 => hup q (by omega)⟩
            have hT2 : rT n r b0 e0 (upd (σ.1 198) (24 + w) (nI cc)) up par rk dp pr := rT_cg hS hE1 (fun v hv => by unfold vT; rw [hup _ (by omega)]) hT
            have hP2 : rP n r b0 e0 (upd (σ.1 198) (24 + w) (nI cc)) := by
              obtain ⟨-, p2, p3, p4, p5, p6, p7, p8⟩ := hP
              refine ⟨⟨up, par, rk, hT2.1⟩, fun v hv => by rw [hup _ (by omega)]; exact p2 v hv, by rw [hup 40 (by omega)]; exact p3, by rw [hup 41 (by omega)]; exact p4, by rw [hup 99 (by omega)]; exact p5, fun v hv => by rw [hup _ (by omega)]; exact p6 v hv, fun v hv => ?_, fun d hd => by rw [hup _ (by omega)]; exact p8 d hd⟩
              by_cases q : v = w
              · subst q
                exact ⟨cc, by omega, if_pos rfl⟩
              · rw [hup _ (by omega)]
                exact p7 v hv
            have hf2 : fP n r (999 + 2000 * K) (upd (σ.1 198) (24 + w) (nI cc)) := by
              refine ⟨fun v hv => ?_, fun d hd => ?_⟩
              · rw [hup (50 + v) (by omega), hup (74 + v) (by omega)]
                by_cases q : v = w
                · subst q
                  obtain ⟨f, h, f1, f2, f3, f4, f5, f6⟩ := hf.1 v hv
                  refine ⟨f, cc, f1, if_pos rfl, ?_, by omega, f5, fun q2 => absurd q2 hst⟩
                  rw [f1, nI_leI (by omega) (by omega)] at hfl
                  exact hfl
                · rw [hup (24 + v) (by omega)]
                  exact hf.1 v hv
              · rw [hup (50 + (r + d)) (by omega), hup (74 + (r + d)) (by omega), hup (42 + d) (by omega)]
                exact hf.2 d hd
            have s8 : smC 16 34 z (gj_sI z 22 (upd (z.1 22) w (nI cc))) := smC_I (by omega) (by omega) smC_rf
            have cz : ∀ k, k ≠ 22 → (gj_sI z 22 (upd (z.1 22) w (nI cc))).1 k = z.1 k := fun k hk => sI_ne hk
            have c22 : (gj_sI z 22 (upd (z.1 22) w (nI cc))).1 22 = upd (σ.1 22) w (nI cc) := by rw [sI_eq, hz 22 (by omega)]
            have hpm2 : pm n r b0 e0 (upd (σ.1 198) (24 + w) (nI cc)) 17 (gj_sI z 22 (upd (z.1 22) w (nI cc))) := by
              obtain ⟨m1, m2, m3, m4, m5, m6⟩ := hp.1
              unfold pm
              rw [cz 17 (by omega), cz (17 + 1) (by omega), cz (17 + 2) (by omega), cz (17 + 3) (by omega), cz (17 + 4) (by omega), cz (17 + 6) (by omega), cz (17 + 7) (by omega), show (17 + 5 : Nat) = 22 from rfl, c22, hz 17 (by omega), hz (17 + 1) (by omega), hz (17 + 2) (by omega), hz (17 + 3) (by omega), hz (17 + 4) (by omega), hz (17 + 6) (by omega), hz (17 + 7) (by omega)]
              refine ⟨m1, m2, by rw [hup 40 (by omega)]; exact m3, by rw [hup 41 (by omega)]; exact m4, fun d hd => by rw [hup d (by omega)]; exact m5 d hd, fun v hv => ?_⟩
              obtain ⟨q1, q2, q3, q4, q5, q6⟩ := m6 v hv
              rw [(rwE_b hS hE1 hv).1, (rwE_b hS hE1 hv).2.1, (rwE_b hS hE1 hv).2.2, hup (50 + v) (by omega), hup (74 + v) (by omega)]
              refine ⟨q1, q2, q3, ?_, q5, q6⟩
              show (if v = w then nI cc else σ.1 22 v) = if v < r then (if 24 + v = 24 + w then nI cc else σ.1 198 (24 + v)) else 1000000
              by_cases q : v = w
              · rw [if_pos q, if_pos (by omega), if_pos (by omega)]
              · rw [if_neg q, if_neg (show ¬ 24 + v = 24 + w by omega)]
                exact q4
            have hcl : f_X8_hold (nI w) (nI cc) σ = some (σ.1 198 (24 + w), gj_sI z 22 (upd (z.1 22) w (nI cc))) := by
              rw [op8, if_neg heq, if_neg hst, if_pos hfl, ez]
              dsimp only [Option.bind_some]
              rw [hz 22 (by omega), e22]
            have ht2 : t8 n up par dp pr (16 + 10) (gj_sI z 22 (upd (z.1 22) w (nI cc))) := by
              unfold t8 at ht ⊢
              rw [cz (16 + 10 + 1) (by omega), cz (16 + 10 + 2) (by omega), cz (16 + 10 + 3) (by omega), cz (16 + 10 + 4) (by omega), hz (16 + 10 + 1) (by omega), hz (16 + 10 + 2) (by omega), hz (16 + 10 + 3) (by omega), hz (16 + 10 + 4) (by omega)]
              exact ht
            have hl8 : lgM P (upd (σ.1 198) (24 + w) (nI cc)) 17 (gj_sI z 22 (upd (z.1 22) w (nI cc))) := by
              obtain ⟨l1, l2, l3, l4⟩ := hp.2
              unfold lgM
              rw [cz 17 (by omega), cz (17 + 8) (by omega), hz 17 (by omega), hz (17 + 8) (by omega)]
              refine ⟨l1, by rw [hup 98 (by omega)]; exact l2, by rw [hup 99 (by omega)]; exact l3, fun g hg1 p hp1 => ?_⟩
              rw [hup _ (by omega)]
              exact l4 g hg1 p hp1
            have hA8 := cA_C u2 hA s8 (by omega) (by omega)
            generalize gj_sI z 22 (upd (z.1 22) w (nI cc)) = x8 at *
            have hS8 : rS n r b0 e0 x8 := by
              unfold rS at hS ⊢
              rw [hA8.1 190 (by omega), hA8.1 191 (by omega), hA8.1 194 (by omega), hA8.1 195 (by omega)]
              exact hS
            have h08 : smX x8 (gj_sI x8 188 (upd (x8.1 188) 0 0)) := smX_t
            have hL8 : cL n r b0 e0 (upd (σ.1 198) (24 + w) (nI cc)) up par rk dp pr 16 x8 := ⟨hg, hpm2, hT2, ht2, hP2.2.2.2.2.2.1, hP2.2.1⟩
            have href : TP (f_X9_hold (nI w) (nI cc) x8) (fun x => x.1 = σ.1 198 (24 + w) ∧ REL (K + 100) x.2) := by
              rw [op9 x8 hS8 (hA8.1 198 (by omega)), if_neg heq9, if_neg hst, if_pos hfl]
              refine tp_bind (r9_told1 (n := n) (r := r) (b0 := b0) (e0 := e0) u1 hA8.1 u3 (by omega)) (fun x hx => ?_)
              obtain ⟨x1, y, x2, x3, x4⟩ := hx
              exact tp_some ⟨x1, act_end hS hB1 u1 u2 u6 hD hE hF (by omega) hA s8 h08 x2 x3 x4 hL8 hl8 hP2 hf2 ⟨by omega, fun v hv => by
                by_cases q : v = w
                · subst q
                  rw [show upd (σ.1 198) (24 + v) (nI cc) (24 + v) = nI cc from if_pos rfl]
                  intro e
                  rw [e] at hr2
                  exact absurd hr2.1 (by decide)
                · rw [hup (24 + v) (by omega)]
                  exact hPK.2 v hv⟩ (by omega)⟩
            obtain ⟨⟨v', t⟩, e9, rfl, h9⟩ := href
            refine ⟨t, ?_, h9⟩
            unfold fl_24
            rw [hcl]
            dsimp only [Option.bind_some]
            rw [e9]
            exact if_pos rfl
          · refine refuse (-2) ?_ ?_
            · rw [op8, if_neg heq, if_neg hst, if_neg hfl]
            · rw [op9 σ hS rfl, if_neg heq9, if_neg hst, if_neg hfl]
    · rw [decide_eq_false hr2] at r2
      refine refuse (-1) ?_ ?_
      · unfold f_X8_hold
        rw [er]
        dsimp only [Option.bind_some]
        rw [if_neg (show ¬ bI true = 0 by decide)]
        by_cases a1 : c2 < 1
        · rw [if_pos a1]
        · rw [if_neg a1, if_pos]
          rw [i32_lt_iff] at a1 ⊢
          omega
      · unfold f_X9_hold
        rw [er9]
        dsimp only [Option.bind_some]
        rw [if_neg (show ¬ bI true = 0 by decide), r2]
        rfl
