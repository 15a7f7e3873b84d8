/-! ===== a trial on both sides ===== -/
theorem tr_both {n r y N : Nat} {b0 e0 : Nat → Nat} {b4 : Int32} (hN : N < 2 ^ 30) : ∀ (m : Nat) {c P : Nat} {φ : Int} {σ8 σ9 : gj_S} {up par rk dp : Nat → Nat} {pr : Nat → Int32}, c ≤ N → cL n r b0 e0 (σ9.1 198) up par rk dp pr y σ8 → rS n r b0 e0 σ9 → tI n r b0 e0 (σ9.1 198) φ → lgM P (σ9.1 198) (y + 1) σ8 → P + (N - c) < 2 ^ 30 → φ + 10880000 < m → ∀ fu8 fu9, N - c < fu8 → m + 1 < fu9 →
    ∃ k x8 z9 s8, gj_lp (fb_X7_makePivots_l2 y (nI N)) fu8 (nI c, σ8) = some (nI (c + k), x8) ∧ gj_lp (fb_X9_tried_l135 b4) fu9 (1, σ9) = some z9 ∧ smC y (y + 18) σ8 x8 ∧ smP σ9 z9 ∧ pm n r b0 e0 s8 (y + 1) x8 ∧ fP n r 7992 s8 ∧ c + k ≤ N ∧ (z9.1 198 = s8 ∨ c + k = N)
  | 0, c, P, φ, σ8, σ9, up, par, rk, dp, pr, hc, hL, hS, h, hlg, hPb, hm, fu8, fu9, h8, h9 => by
    have := (psi_bd (rS_g hS) h).1
    omega
  | m + 1, c, P, φ, σ8, σ9, up, par, rk, dp, pr, hc, hL, hS, h, hlg, hPb, hm, fu8, fu9, h8, h9 => by
    obtain ⟨f8, rfl⟩ : ∃ x, fu8 = x + 1 := ⟨fu8 - 1, by omega⟩
    obtain ⟨f9, rfl⟩ : ∃ x, fu9 = x + 1 + 1 := ⟨fu9 - 2, by omega⟩
    have hn := hS.1
    have hr := hS.2.1
    by_cases q : c = N
    · obtain ⟨z, ez, sz⟩ := tI_9 (b4 := b4) (m + 1) hS h hm (f9 + 1 + 1) h9
      refine ⟨0, σ8, z, σ9.1 198, ?_, ez, smC_rf, sz, hL.2.1, h.2.1, by omega, .inr (by omega)⟩
      rw [gj_lp_e (b := (nI c, σ8)) (by unfold fb_X7_makePivots_l2; dsimp only; rw [if_pos (nI_le (by omega) (by omega))])]
      rfl
    · rcases pv_both (K := 0) hL hS rfl h.1 h.2.1 (by omega) hlg (by omega) with ⟨x8, x9, a1, a2, a3, a4, a5, a6, a7⟩ | ⟨w, x8, x9, s', up2, par2, rk2, dp2, pr2, a0, a1, a2, a3, a4, a5, a6, a7, a8, a9⟩
      · refine ⟨0, x8, x9, σ9.1 198, ?_, ?_, smC_wd (by omega) (by omega) a3, a4, a6.2.1, h.2.1, by omega, .inl a5⟩
        · rw [gj_lp_e (b := (nI c, x8)) (by unfold fb_X7_makePivots_l2; dsimp only; rw [if_neg (nI_ge (by omega) (by omega)), a1]; rfl)]
          rfl
        · rw [gj_lp_g (a' := (0, x9)) (by unfold fb_X9_tried_l135; dsimp only; rw [if_neg (by decide), a2]; rfl)]
          exact gj_lp_e (by unfold fb_X9_tried_l135; dsimp only; rw [if_pos rfl])
      · have hne : ¬ nI w = -1 := nI_m1 (by omega)
        subst a5
        rcases tI_pv hS h with ⟨y9, e9, -, -⟩ | ⟨w', y9, φ', hw', e9, -, h', hlt⟩
        · rw [a2] at e9
          exact absurd (congrArg Prod.fst (Option.some.inj e9)) hne
        · rw [a2] at e9
          have e3 : x9 = y9 := congrArg Prod.snd (Option.some.inj e9)
          subst e3
          obtain ⟨k, z8, z9, s8, b1, b2, b3, b4', b5, b6, b7, b8⟩ := tr_both (b4 := b4) hN m (c := c + 1) (P := P + 1) (by omega) a6 (smP_S a4 hS) h' a7 (by omega) (by omega) f8 (f9 + 1) (by omega) (by omega)
          refine ⟨k + 1, z8, z9, s8, ?_, ?_, smC_tr a3 b3, smP_tr a4 b4', b5, b6, by omega, ?_⟩
          · rw [gj_lp_g (a' := (nI (c + 1), x8)) (by unfold fb_X7_makePivots_l2; dsimp only; rw [if_neg (nI_ge (by omega) (by omega)), a1]; dsimp only [Option.bind_some]; rw [if_neg hne, nI_1]), b1, show c + 1 + k = c + (k + 1) by omega]
          · rw [gj_lp_g (a' := (1, x9)) (by unfold fb_X9_tried_l135; dsimp only; rw [if_neg (by decide), a2]; dsimp only [Option.bind_some]; rw [if_neg hne]), b2]
          · rcases b8 with x | x
            · exact .inl x
            · exact .inr (by omega)
/-- a trial from its beginning: k pivots by the class; at the end both stand alike, unless k is the bound -/
theorem k20_run {n r : Nat} {b0 e0 : Nat → Nat} {s1 : Nat → Int32} {z3 : gj_S} (hg : gS n r b0 e0) (hp : pmR n r b0 e0 s1 36 z3) (hb : ∃ b, 1 ≤ b ∧ b ≤ 24 ∧ s1 40 = nI b) (hc : ∀ w, w < r → ∃ c, c ≤ 999 ∧ s1 (8 + w) = nI c) (hh : ∀ w, w < r → ∃ c, c ≤ 999 ∧ s1 (24 + w) = nI c) (hd : ∀ d, d < n → -999 ≤ (s1 d).toInt ∧ (s1 d).toInt ≤ 999) :
    ∃ k x7 x8, f_X7_beginAll 35 z3 = some x7 ∧ f_X7_makePivots 35 1000000 x7 = some (nI k, x8) ∧ smC 35 53 z3 x8 ∧ k ≤ 1000000 ∧ (∃ s8, pm n r b0 e0 s8 36 x8 ∧ fP n r 7992 s8) ∧ ∀ (σ9 : gj_S) (b4 : Int32), rS n r b0 e0 σ9 → bgR n r s1 (σ9.1 198) → ∃ z9, gj_lp (fb_X9_tried_l135 b4) 1000000000000 (1, σ9) = some z9 ∧ smP σ9 z9 ∧ (k = 1000000 ∨ (pm n r b0 e0 (z9.1 198) 36 x8 ∧ fP n r 7992 (z9.1 198))) := by
  have hn := hg.1
  have hr := hg.2.1
  have one : ∀ (σ9 : gj_S) (b4 : Int32), rS n r b0 e0 σ9 → bgR n r s1 (σ9.1 198) → ∃ k x7 x8 z9 s8, f_X7_beginAll 35 z3 = some x7 ∧ f_X7_makePivots 35 1000000 x7 = some (nI k, x8) ∧ smC 35 53 z3 x8 ∧ k ≤ 1000000 ∧ pm n r b0 e0 s8 36 x8 ∧ fP n r 7992 s8 ∧ gj_lp (fb_X9_tried_l135 b4) 1000000000000 (1, σ9) = some z9 ∧ smP σ9 z9 ∧ (z9.1 198 = s8 ∨ k = 1000000) := by
    intro σ9 b4 hS hbg
    obtain ⟨φ, hI⟩ := bg_tI hg hbg hb hc hh hd
    obtain ⟨up, par, rk, dp, pr, hT⟩ := rP_T hI.1
    obtain ⟨x7, e7, s7, g2, g3⟩ := c8_all (y := 35) hg hp hbg hI.1 hT
    have hbd := psi_bd hg hI
    obtain ⟨k, x8, z9, s8, a1, a2, a3, a4, a5, a6, a7, a8⟩ := tr_both (y := 35) (N := 1000000) (b4 := b4) (by omega) 13000000000 (c := 0) (P := 0) (by omega) g2 hS hI g3 (by omega) (by omega) 2000000 1000000000000 (by omega) (by omega)
    rw [Nat.zero_add] at a1 a7 a8
    refine ⟨k, x7, x8, z9, s8, e7, ?_, smC_tr (smC_wd (by omega) (by omega) s7) a3, a7, a5, a6, a2, a4, a8⟩
    unfold f_X7_makePivots
    have a1' : gj_lp (fb_X7_makePivots_l2 35 1000000) 2000000 (0, x7) = some (nI k, x8) := a1
    rw [a1']
    rfl
  -- some state of the reference
  obtain ⟨s', hs'⟩ := bg_ex n r hn hr s1
  obtain ⟨σr, hSr⟩ := gS_r hg
  have hSr' : rS n r b0 e0 (gj_sI σr 198 s') := by
    unfold rS at hSr ⊢
    rw [sI_ne (by decide), sI_ne (by decide), sI_ne (by decide), sI_ne (by decide)]
    exact hSr
  obtain ⟨k, x7, x8, z9, s8, c1, c2, c3, c4, c5, c6, -⟩ := one (gj_sI σr 198 s') 0 hSr' (by rw [sI_eq]; exact hs')
  refine ⟨k, x7, x8, c1, c2, c3, c4, ⟨s8, c5, c6⟩, fun σ9 b4 hS hbg => ?_⟩
  obtain ⟨k', x7', x8', z9', s8', d1, d2, d3, d4, d5, d6, d7, d8, d9⟩ := one σ9 b4 hS hbg
  rw [c1] at d1
  obtain rfl := Option.some.inj d1
  rw [c2] at d2
  have h1 := Option.some.inj d2
  have h2 : nI k = nI k' := congrArg Prod.fst h1
  have h3 : x8 = x8' := congrArg Prod.snd h1
  subst h3
  have h4 : k = k' := (nI_eq (by omega) (by omega)).mp h2
  refine ⟨z9', d7, d8, ?_⟩
  rcases d9 with x | x
  · rw [x]
    exact .inr ⟨d5, d6⟩
  · exact .inl (by omega)
theorem r9_allLack {n r : Nat} {b0 e0 : Nat → Nat} {σ : gj_S} (h : rS n r b0 e0 σ) : f_X9_allLack σ = some (su (vl r (σ.1 198)) n) := by
  have hn := h.1
  have c0 : (0 : Int32).toNatClampNeg = 0 := by decide
  have g0 : gj_in (0 : Int32) 2 := gi (k := 0) (by omega) (by omega)
  unfold f_X9_allLack
  rw [lp_sum (N := n) (v := vl r (σ.1 198)) (by omega) (fun c => ?_) (fun k hk c => ?_)]
  · rfl
  · unfold fb_X9_allLack_l4
    dsimp only
    rw [if_pos g0, c0, h.2.2.1, if_pos (nI_le (by omega) (by omega))]
  · unfold fb_X9_allLack_l4
    dsimp only
    rw [if_pos g0, c0, h.2.2.1, if_neg (nI_ge hk (by omega)), r9_lack h hk, nI_1]
    rfl
