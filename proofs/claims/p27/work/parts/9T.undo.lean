/-! ===== undo, keep ===== -/
theorem rT_rw {n r : Nat} {b0 e0 : Nat → Nat} {σ : gj_S} (hS : rS n r b0 e0 σ) {s s' : Nat → Int32} {up par rk dp : Nat → Nat} {pr : Nat → Int32} (hq : rwQ s s') (hT : rT n r b0 e0 s up par rk dp pr) : rT n r b0 e0 s' up par rk dp pr := by
  have hn := hS.1
  have hr := hS.2.1
  exact rT_cg hS ⟨fun q _ _ => hq q (by omega), fun q _ _ => hq q (by omega)⟩ (fun v hv => by unfold vT; rw [hq _ (by omega)]) hT
theorem k_28 {K : Nat} {σ : gj_S} (hR : REL K σ) (c1 c2 c3 c4 c5 : Int32) : ∃ τ, gl_28 c1 c2 c3 c4 c5 σ = some τ ∧ REL (K + 100) τ := by
  obtain ⟨n, r, b0, e0, hS, ⟨hB1, up, par, rk, dp, pr, hT, ht⟩, ⟨u, nx, u1, u2, u3, u4, u5, u6⟩, hD, hE, hF⟩ := id hR
  have hg := rS_g hS
  cases u with
  | zero =>
    refine rc_S (v := -1) (s1 := σ) ?_ ?_ hR
    · unfold f_X8_undo
      rw [u4]
      rfl
    · refine tp_mono (r9_undo (u := 0) (by omega) u3) (fun x hx => ?_)
      obtain ⟨x1, x2, x3, x4, x5, -⟩ := hx
      obtain ⟨y1, y2, y3⟩ := x5 rfl
      refine ⟨y1, fun k hk => ?_, x2 2 (by decide) (by decide), y2.trans u3.symm, by rw [x4], by rw [x4]⟩
      by_cases q : k = 198
      · rw [q, y3]
      · exact x1 k q (by unfold relC at hk; omega)
  | succ v =>
    have hq12 : (nx + 11) % 12 < 12 := Nat.mod_lt _ (by omega)
    obtain ⟨hrow⟩ : Nonempty (rw1 n r b0 e0 K (ur σ v) (56 + 9 * ((nx + 11) % 12)) σ) := ⟨by
      have := u6 0 (by omega)
      rw [show v + 1 - 1 - 0 = v by omega, show nx + 11 - 0 = nx + 11 by omega] at this
      exact this⟩
    obtain ⟨P, hPK, hP, hf, hp⟩ := id hrow
    obtain ⟨up2, par2, rk2, dp2, pr2, hT2⟩ := rP_T hP
    -- the class gives back
    have hgb : ∃ z, f_X0_giveBack σ = some z ∧ smC 17 54 σ z ∧ (∀ k, 26 ≤ k → k < 54 → z.1 k = σ.1 k) ∧ cpE 17 (56 + 9 * ((nx + 11) % 12)) σ z ∧ z.1 54 1 = nI ((nx + 11) % 12) ∧ z.1 54 2 = nI v := by
      have hnx : (if σ.1 54 1 ≤ 0 then some (11 : Int32) else some (σ.1 54 1 - 1)) = some (nI ((nx + 11) % 12)) := by
        rw [u5]
        by_cases q : nx = 0
        · subst q
          rfl
        · rw [if_neg (nI_nle (by omega) (by omega))]
          obtain ⟨m, rfl⟩ : ∃ m, nx = m + 1 := ⟨nx - 1, by omega⟩
          rw [nI_pred, show (m + 1 + 11) % 12 = m by omega]
      have s0 : smC 54 54 σ (gj_sI (gj_sI σ 54 (upd (σ.1 54) 1 (nI ((nx + 11) % 12)))) 54 (upd ((gj_sI σ 54 (upd (σ.1 54) 1 (nI ((nx + 11) % 12)))).1 54) 2 ((gj_sI σ 54 (upd (σ.1 54) 1 (nI ((nx + 11) % 12)))).1 54 2 - 1))) := smC_I (by omega) (by omega) (smC_I (by omega) (by omega) smC_rf)
      have a1 : (gj_sI (gj_sI σ 54 (upd (σ.1 54) 1 (nI ((nx + 11) % 12)))) 54 (upd ((gj_sI σ 54 (upd (σ.1 54) 1 (nI ((nx + 11) % 12)))).1 54) 2 ((gj_sI σ 54 (upd (σ.1 54) 1 (nI ((nx + 11) % 12)))).1 54 2 - 1))).1 54 1 = nI ((nx + 11) % 12) := by rw [sI_eq, sI_eq]; rfl
      have a2 : (gj_sI (gj_sI σ 54 (upd (σ.1 54) 1 (nI ((nx + 11) % 12)))) 54 (upd ((gj_sI σ 54 (upd (σ.1 54) 1 (nI ((nx + 11) % 12)))).1 54) 2 ((gj_sI σ 54 (upd (σ.1 54) 1 (nI ((nx + 11) % 12)))).1 54 2 - 1))).1 54 2 = nI v := by
        rw [sI_eq, sI_eq]
        show σ.1 54 2 - 1 = _
        rw [u4, nI_pred]
      unfold f_X0_giveBack
      rw [hnx]
      dsimp only [Option.bind_some]
      rw [a1]
      generalize gj_sI (gj_sI σ 54 (upd (σ.1 54) 1 (nI ((nx + 11) % 12)))) 54 (upd ((gj_sI σ 54 (upd (σ.1 54) 1 (nI ((nx + 11) % 12)))).1 54) 2 ((gj_sI σ 54 (upd (σ.1 54) 1 (nI ((nx + 11) % 12)))).1 54 2 - 1)) = σ0 at *
      rw [if_pos (gi hq12 (by omega)), nI_clamp (by omega), show gj_pa 55 ((nx + 11) % 12) = 56 + 9 * ((nx + 11) % 12) from rfl]
      obtain ⟨z, ez, z1, z2⟩ := c8_copy (a := 17) (c := 56 + 9 * ((nx + 11) % 12)) (σ := σ0) (by omega)
      rw [ez]
      refine ⟨z, rfl, ⟨fun k hk => (z1.1 k (by omega)).trans (s0.1 k (by omega)), z1.2.trans s0.2⟩, fun k h1 h2 => (z1.1 k (by omega)).trans (s0.1 k (by omega)), ?_, ?_, ?_⟩
      · obtain ⟨q1, q2, q3, q4⟩ := z2
        unfold cpE
        rw [← s0.1 (56 + 9 * ((nx + 11) % 12)) (by omega), ← s0.1 (56 + 9 * ((nx + 11) % 12) + 1) (by omega), ← s0.1 (56 + 9 * ((nx + 11) % 12) + 2) (by omega), ← s0.1 (56 + 9 * ((nx + 11) % 12) + 3) (by omega), ← s0.1 (56 + 9 * ((nx + 11) % 12) + 4) (by omega), ← s0.1 (56 + 9 * ((nx + 11) % 12) + 5) (by omega), ← s0.1 (56 + 9 * ((nx + 11) % 12) + 6) (by omega), ← s0.1 (56 + 9 * ((nx + 11) % 12) + 7) (by omega), ← s0.1 (56 + 9 * ((nx + 11) % 12) + 8) (by omega)]
        exact ⟨q1, q2, q3, q4⟩
      · rw [z1.1 54 (by omega)]; exact a1
      · rw [z1.1 54 (by omega)]; exact a2
    obtain ⟨z, ez, z1, z26, z2, z3, z4⟩ := hgb
    have hplz : pl n r b0 e0 P (ur σ v) 17 z := cp_pl hg z2 hp
    obtain ⟨x8, e8, g1, g2, -⟩ := c8_grow (t := 26) (b := 17) hg (by omega) hplz.1 hT2
    have hcl : f_X8_undo σ = some (nI v, x8) := by
      unfold f_X8_undo
      rw [u4, if_neg (nI_ne0 (by omega) (by omega)), ez]
      dsimp only [Option.bind_some]
      unfold f_X7_regrow
      rw [show 16 + 10 = 26 from rfl, show 16 + 1 = 17 from rfl, e8]
      dsimp only [Option.bind_some]
      rw [g1.1 54 (by omega), z4]
    have c8 : ∀ k, (k < 17 ∨ 54 < k) → x8.1 k = σ.1 k := fun k hk => (g1.1 k (by omega)).trans (z1.1 k hk)
    have hpl8 : pl n r b0 e0 P (ur σ v) 17 x8 := pl_fr hplz (fun k h1 h2 => g1.1 k (by omega))
    have href : TP (f_X9_undo x8) (fun x => x.1 = nI v ∧ REL (K + 100) x.2) := by
      refine tp_mono (r9_undo (u := v + 1) (by omega) (by rw [c8 188 (by omega)]; exact u3)) (fun x hx => ?_)
      obtain ⟨x1, x2, x3, x4, -, x6⟩ := hx
      obtain ⟨y1, y2, y3⟩ := x6 v rfl
      have eur : ∀ t, ur x8 t = ur σ t := fun t => by unfold ur; rw [c8 199 (by omega)]
      rw [eur] at y3
      have ck : ∀ k, k < 188 → x.2.1 k = x8.1 k := fun k hk => x1 k (by omega) (by omega)
      have hr1 : rw1 n r b0 e0 (K + 100) (x.2.1 198) 17 x.2 := rw1_rw hg (rw1_mono ⟨P, hPK, hP, hf, pl_fr hpl8 (fun k h1 h2 => ck k (by omega))⟩ (by omega)) y3
      refine ⟨y1, rel_mk (K := K) hS hD hE hF (by omega) ⟨hr1, up2, par2, rk2, dp2, pr2, rT_rw hS y3 hT2, ?_⟩ ⟨v, (nx + 11) % 12, by omega, hq12, y2, ?_, ?_, fun g hg1 => ?_⟩ (fun k hk => ?_) ?_ ?_ ?_⟩
      · unfold t8 at g2 ⊢
        rw [ck (26 + 1) (by omega), ck (26 + 2) (by omega), ck (26 + 3) (by omega), ck (26 + 4) (by omega)]
        exact g2
      · rw [ck 54 (by omega), g1.1 54 (by omega)]; exact z4
      · rw [ck 54 (by omega), g1.1 54 (by omega)]; exact z3
      · have h1 := u6 (g + 1) (by omega)
        have hm : (nx + 11 - (g + 1)) % 12 < 12 := Nat.mod_lt _ (by omega)
        have e1 : ur x.2 (v - 1 - g) = ur σ (v + 1 - 1 - (g + 1)) := by
          rw [show v + 1 - 1 - (g + 1) = v - 1 - g by omega, ← eur]
          unfold ur
          rw [x1 199 (by decide) (by decide)]
        rw [e1, show ((nx + 11) % 12 + 11 - g) % 12 = (nx + 11 - (g + 1)) % 12 by omega]
        exact rw1_mono (rw1_fr h1 (fun k a1 a2 => (ck k (by omega)).trans (c8 k (by omega)))) (by omega)
      · by_cases q : k < 188
        · exact (ck k q).trans (c8 k (by omega))
        · exact (x1 k (by omega) (by omega)).trans (c8 k (by omega))
      · exact (x2 2 (by decide) (by decide)).trans (by rw [c8 188 (by omega)])
      · rw [x4, g1.2, z1.2]
      · rw [x4, g1.2, z1.2]
    obtain ⟨⟨v', t⟩, e9, rfl, h9⟩ := href
    refine ⟨t, ?_, h9⟩
    unfold gl_28
    rw [hcl]
    dsimp only [Option.bind_some]
    rw [e9]
    exact if_pos rfl
