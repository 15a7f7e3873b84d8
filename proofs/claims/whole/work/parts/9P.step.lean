/-! ===== step, run ===== -/
/-- m pivots at most, on both sides; the two states need not know of each other -/
theorem run_both {n r y N : Nat} {b0 e0 : Nat → Nat} (hN : N < 2 ^ 30) : ∀ (m c : Nat) {σ8 σ9 : gj_S} {s : Nat → Int32} {up par rk dp : Nat → Nat} {pr : Nat → Int32} {P F : Nat}, c + m = N → cL n r b0 e0 s up par rk dp pr y σ8 → rS n r b0 e0 σ9 → σ9.1 198 = s → rP n r b0 e0 s → fP n r F s → F + 999 * m < 2 ^ 29 → lgM P s (y + 1) σ8 → P + m < 2 ^ 30 → ∀ fu8 fu9, m < fu8 → m < fu9 →
    ∃ k x8 x9 s' up2 par2 rk2 dp2 pr2, (k ≤ m ∧ ∀ q, q < 41 → s' q = s q) ∧ gj_lp (fb_X7_makePivots_l2 y (nI N)) fu8 (nI c, σ8) = some (nI (c + k), x8) ∧ gj_lp (fb_X9_run_l34 (nI N)) fu9 (nI c, σ9) = some (nI (c + k), x9) ∧ smC y (y + 18) σ8 x8 ∧ smP σ9 x9 ∧ x9.1 198 = s' ∧ cL n r b0 e0 s' up2 par2 rk2 dp2 pr2 y x8 ∧ lgM (P + k) s' (y + 1) x8 ∧ rP n r b0 e0 s' ∧ fP n r (F + 999 * m) s'
  | 0, c, σ8, σ9, s, up, par, rk, dp, pr, P, F, hc, hL, hS9, e9, hP, hf, hF, hlg, hPb, fu8, fu9, h8, h9 => by
    obtain ⟨f8, rfl⟩ : ∃ x, fu8 = x + 1 := ⟨fu8 - 1, by omega⟩
    obtain ⟨f9, rfl⟩ : ∃ x, fu9 = x + 1 := ⟨fu9 - 1, by omega⟩
    refine ⟨0, σ8, σ9, s, up, par, rk, dp, pr, ⟨Nat.le_refl _, fun _ _ => rfl⟩, ?_, ?_, smC_rf, smP_rf, e9, hL, hlg, hP, by simpa using hf⟩
    · rw [gj_lp_e (b := (nI c, σ8)) (by unfold fb_X7_makePivots_l2; dsimp only; rw [if_pos (nI_le (by omega) (by omega))])]
      rfl
    · rw [gj_lp_e (b := (nI c, σ9)) (by unfold fb_X9_run_l34; dsimp only; rw [if_pos (nI_le (by omega) (by omega))])]
      rfl
  | m + 1, c, σ8, σ9, s, up, par, rk, dp, pr, P, F, hc, hL, hS9, e9, hP, hf, hF, hlg, hPb, fu8, fu9, h8, h9 => by
    obtain ⟨f8, rfl⟩ : ∃ x, fu8 = x + 1 := ⟨fu8 - 1, by omega⟩
    obtain ⟨f9, rfl⟩ : ∃ x, fu9 = x + 1 := ⟨fu9 - 1, by omega⟩
    have hr := hL.1.2.1
    have hn := hL.1.1
    rcases pv_both (K := 0) hL hS9 e9 hP hf (by omega) hlg (by omega) with ⟨x8, x9, a1, a2, a3, a4, a5, a6, a7⟩ | ⟨w, x8, x9, s', up2, par2, rk2, dp2, pr2, a0, a1, a2, a3, a4, a5, a6, a7, a8, a9⟩
    · refine ⟨0, x8, x9, s, up, par, rk, dp, pr, ⟨by omega, fun _ _ => rfl⟩, ?_, ?_, smC_wd (by omega) (by omega) a3, a4, a5, a6, a7, hP, fP_mono hf (by omega)⟩
      · rw [gj_lp_e (b := (nI c, x8)) (by unfold fb_X7_makePivots_l2; dsimp only; rw [if_neg (nI_ge (by omega) (by omega)), a1]; rfl)]
        rfl
      · rw [gj_lp_e (b := (nI c, x9)) (by unfold fb_X9_run_l34; dsimp only; rw [if_neg (nI_ge (by omega) (by omega)), a2]; rfl)]
        rfl
    · have hne : ¬ nI w = -1 := nI_m1 (by omega)
      obtain ⟨k, z8, z9, s2, up3, par3, rk3, dp3, pr3, b1, b2, b3, b4, b5, b6, b7, b8, b9, b10⟩ := run_both hN m (c + 1) (by omega) a6 (smP_S a4 hS9) a5 a8 a9 (by omega) a7 (by omega) f8 f9 (by omega) (by omega)
      refine ⟨k + 1, z8, z9, s2, up3, par3, rk3, dp3, pr3, ⟨by omega, fun q hq => (b1.2 q hq).trans (a0.2 q hq)⟩, ?_, ?_, smC_tr a3 b4, smP_tr a4 b5, b6, b7, ?_, b9, ?_⟩
      · rw [gj_lp_g (a' := (nI (c + 1), x8)) (by unfold fb_X7_makePivots_l2; dsimp only; rw [if_neg (nI_ge (by omega) (by omega)), a1]; dsimp only [Option.bind_some]; rw [if_neg hne, nI_1]), b2, show c + 1 + k = c + (k + 1) by omega]
      · rw [gj_lp_g (a' := (nI (c + 1), x9)) (by unfold fb_X9_run_l34; dsimp only; rw [if_neg (nI_ge (by omega) (by omega)), a2]; dsimp only [Option.bind_some]; rw [if_neg hne, nI_1]), b3, show c + 1 + k = c + (k + 1) by omega]
      · rw [show P + (k + 1) = P + 1 + k by omega]
        exact b8
      · rw [show F + 999 * (m + 1) = F + 999 + 999 * m by omega]
        exact b10
