/-! ===== way ===== -/
theorem r9_told {x : Nat} (h : x < 2 ^ 31) : f_X9_told (nI x) = some (if x = 8 then -1 else nI x) := by
  unfold f_X9_told
  by_cases q : x = 8
  · rw [if_pos q, if_pos (show nI x = 8 by rw [q]; rfl)]
  · rw [if_neg q, if_neg (show ¬ nI x = 8 from fun e => q ((nI_eq (b := 8) h (by omega)).mp e))]
theorem k_3 {K : Nat} {σ : gj_S} (hR : REL K σ) (c1 c2 c3 c4 c5 : Int32) : ∃ τ, gl_3 c1 c2 c3 c4 c5 σ = some τ ∧ REL (K + 100) τ := by
  obtain ⟨n, r, b0, e0, hS, ⟨hB1, up, par, rk, dp, pr, hT, ht⟩, -⟩ := id hR
  have hn := hS.1
  have hr := hS.2.1
  have hg := rS_g hS
  obtain ⟨P, hPK, hP, hf, hp⟩ := id hB1
  have hL := rel_cL hS hB1 hT ht
  have ed := c8_hasWay hg hp.1 c1
  have ez : (0 : Int32).toInt = 0 := by decide
  have r2 : f_X9_within c2.toInt64 0 6 = some (bI (decide (0 ≤ c2.toInt ∧ c2.toInt ≤ 6))) := by
    have := wiL c2 0 6
    rw [ez, show (6 : Int32).toInt = 6 by decide] at this
    exact this
  refine rc_T hR ?_
  by_cases hin : inR c1 (r + n) = true ∧ (0 ≤ c2.toInt ∧ c2.toInt ≤ 6)
  · obtain ⟨hin1, hin2⟩ := hin
    rw [hin1] at ed
    obtain ⟨d, hd, rfl⟩ := inR_of hin1
    have hin3 : inR c2 7 = true := decide_eq_true (by omega)
    obtain ⟨p, hp7, rfl⟩ := inR_of hin3
    have g24 : gj_in (nI d) 24 := gi (by omega) (by omega)
    have cd : (nI d).toNatClampNeg = d := nI_clamp (by omega)
    obtain ⟨t1, t2, t3, t4, t5, t6⟩ := hp.1.2.2.2.2.2 d hd
    have pb := gb_pl (s := σ.1 198) hg hd
    have pe := ge_pl (s := σ.1 198) hg hd
    have nb : ¬ bI true = 0 := by decide
    have hro := c8_hasRoute hg hp.1 (nI d)
    have ref : ∀ (σ1 : gj_S), σ1.1 = σ.1 → ∀ (v : Int32), (∀ z, rL n r b0 e0 up par rk dp pr z → z.1 198 = σ.1 198 → (if nI p = 0 then ((f_X9_beginOf (nI d) z).bind fun x5 => ((f_X9_told x5).bind fun x6 => some (x6, z))) else (if nI p = 1 then ((f_X9_endOf (nI d) z).bind fun x7 => ((f_X9_told x7).bind fun x8 => some (x8, z))) else (if nI p = 2 then ((f_X9_costOf (nI d) z).bind fun x9 => some (x9, z)) else (if nI p = 3 then (if gj_in (0 : Int32) 2 then (if (z.1 191 (Int32.toNatClampNeg (0 : Int32))) ≤ nI d then some ((-1 : Int32), z) else (if gj_in ((24 : Int32) + nI d) 180 then some ((z.1 198 (Int32.toNatClampNeg ((24 : Int32) + nI d))), z) else none)) else none) else (if nI p = 4 then (if gj_in ((50 : Int32) + nI d) 180 then some ((z.1 198 (Int32.toNatClampNeg ((50 : Int32) + nI d))), z) else none) else (if nI p = 5 then (if gj_in ((74 : Int32) + nI d) 180 then some ((z.1 198 (Int32.toNatClampNeg ((74 : Int32) + nI d))), z) else none) else ((f_X9_gainOf (nI d) z).bind fun x14 => some (x14, z)))))))) = some (v, z)) → TP (f_X9_way (nI d) (nI p) σ1) (fun x => x.1 = v ∧ x.2.1 188 0 = 0 ∧ frK σ1 x.2 ∧ x.2.2 = σ1.2) := by
      intro σ1 hσ v hz
      have hS1 : rS n r b0 e0 σ1 := by unfold rS at hS ⊢; rw [hσ]; exact hS
      have e1 := r9_isWay hS1 (nI d)
      rw [hin1] at e1
      unfold f_X9_way
      refine tp_beq e1 (tp_beq (x := 0) (by rw [if_neg nb, r2, decide_eq_true hin2]; rfl) (tp_f (show ¬ (0 : Int32) = 1 by decide) ?_))
      have h0 : smX σ1 (gj_sI σ1 188 (upd (σ1.1 188) 0 0)) := smX_t
      have e198 : (gj_sI σ1 188 (upd (σ1.1 188) 0 0)).1 198 = σ.1 198 := by rw [smX_s h0, hσ]
      refine tp_bind (r9_lay (smX_S h0 hS1) (by rw [e198]; exact hT)) (fun z hz1 => ?_)
      have ezs : z.1 198 = σ.1 198 := by rw [sm9_s hz1.1, e198]
      refine tp_eq (hz z hz1.2 ezs) ⟨rfl, ?_, frK_tr (frK_X h0) (frK_X (smX_9 hz1.1)), hz1.1.2⟩
      show z.1 188 0 = 0
      rw [hz1.1.1 188 (by decide) (by decide) (by decide)]
      rfl
    have cls : g_X8_way (nI d) (nI p) σ ≠ some () := by
      intro hq
      unfold g_X8_way at hq
      rw [ed] at hq
      dsimp only [Option.bind_some] at hq
      rw [if_neg nb] at hq
      simp only [if_pos g24, ite_self] at hq
      rcases (show p = 0 ∨ p = 1 ∨ p = 2 ∨ p = 3 ∨ p = 4 ∨ p = 5 ∨ p = 6 by omega) with rfl | rfl | rfl | rfl | rfl | rfl | rfl
      · rw [if_pos (show nI 0 = 0 from rfl)] at hq; cases hq
      · rw [if_neg (by decide), if_pos (show nI 1 = 1 from rfl)] at hq; cases hq
      · rw [if_neg (by decide), if_neg (by decide), if_pos (show nI 2 = 2 from rfl)] at hq; cases hq
      · rw [if_neg (by decide), if_neg (by decide), if_neg (by decide), if_pos (show nI 3 = 3 from rfl), hro] at hq; cases hq
      · rw [if_neg (by decide), if_neg (by decide), if_neg (by decide), if_neg (by decide), if_pos (show nI 4 = 4 from rfl)] at hq; cases hq
      · rw [if_neg (by decide), if_neg (by decide), if_neg (by decide), if_neg (by decide), if_neg (by decide), if_pos (show nI 5 = 5 from rfl)] at hq; cases hq
      · rw [if_neg (by decide), if_neg (by decide), if_neg (by decide), if_neg (by decide), if_neg (by decide), if_neg (by decide), if_pos (show nI 6 = 6 from rfl), c8_gain hL hd] at hq; cases hq
    have open8 : f_X8_way (nI d) (nI p) σ = (if nI p = 0 then (if gj_in (nI d) 24 then (if (σ.1 19 (Int32.toNatClampNeg (nI d))) = (8 : Int32) then some (-1 : Int32) else (if gj_in (nI d) 24 then some (σ.1 19 (Int32.toNatClampNeg (nI d))) else none)) else none) else (if nI p = 1 then (if gj_in (nI d) 24 then (if (σ.1 20 (Int32.toNatClampNeg (nI d))) = (8 : Int32) then some (-1 : Int32) else (if gj_in (nI d) 24 then some (σ.1 20 (Int32.toNatClampNeg (nI d))) else none)) else none) else (if nI p = 2 then (if gj_in (nI d) 24 then some (σ.1 21 (Int32.toNatClampNeg (nI d))) else none) else (if nI p = 3 then ((f_X1_hasRoute 17 (nI d) σ).bind fun x7 => (if x7 = 0 then some (-1 : Int32) else (if gj_in (nI d) 24 then some (σ.1 22 (Int32.toNatClampNeg (nI d))) else none))) else (if nI p = 4 then (if gj_in (nI d) 24 then some (σ.1 23 (Int32.toNatClampNeg (nI d))) else none) else (if nI p = 5 then (if gj_in (nI d) 24 then some (σ.1 24 (Int32.toNatClampNeg (nI d))) else none) else (if nI p = 6 then ((f_X7_gainOf 16 (nI d) σ).bind fun x11 => some x11) else none))))))) := by
      unfold f_X8_way
      rw [ed]
      dsimp only [Option.bind_some]
      rw [if_neg nb]
    rcases (show p = 0 ∨ p = 1 ∨ p = 2 ∨ p = 3 ∨ p = 4 ∨ p = 5 ∨ p = 6 by omega) with rfl | rfl | rfl | rfl | rfl | rfl | rfl
    · refine .inr ⟨cls, if vb r b0 (σ.1 198) d = 8 then -1 else nI (vb r b0 (σ.1 198) d), ?_, (fun σ1 hσ => ref σ1 hσ _ (fun z hz ez => ?_))⟩
      · rw [open8, if_pos (show nI 0 = 0 from rfl), if_pos g24]
        simp only [if_pos g24, cd, show σ.1 19 d = nI (vb r b0 (σ.1 198) d) from t1]
        by_cases q : vb r b0 (σ.1 198) d = 8
        · rw [if_pos q, if_pos (show nI (vb r b0 (σ.1 198) d) = 8 by rw [q]; rfl)]
        · rw [if_neg q, if_neg (show ¬ nI (vb r b0 (σ.1 198) d) = 8 from fun e => q ((nI_eq (b := 8) (by omega) (by omega)).mp e))]
      · rw [if_pos (show nI 0 = 0 from rfl), r9_bg hz.1 hd, ez]
        dsimp only [Option.bind_some]
        rw [r9_told (by omega)]
        rfl
    · refine .inr ⟨cls, if ve r e0 (σ.1 198) d = 8 then -1 else nI (ve r e0 (σ.1 198) d), ?_, (fun σ1 hσ => ref σ1 hσ _ (fun z hz ez => ?_))⟩
      · rw [open8, if_neg (by decide), if_pos (show nI 1 = 1 from rfl), if_pos g24]
        simp only [if_pos g24, cd, show σ.1 20 d = nI (ve r e0 (σ.1 198) d) from t2]
        by_cases q : ve r e0 (σ.1 198) d = 8
        · rw [if_pos q, if_pos (show nI (ve r e0 (σ.1 198) d) = 8 by rw [q]; rfl)]
        · rw [if_neg q, if_neg (show ¬ nI (ve r e0 (σ.1 198) d) = 8 from fun e => q ((nI_eq (b := 8) (by omega) (by omega)).mp e))]
      · rw [if_neg (by decide), if_pos (show nI 1 = 1 from rfl), r9_en hz.1 hd, ez]
        dsimp only [Option.bind_some]
        rw [r9_told (by omega)]
        rfl
    · refine .inr ⟨cls, vc r (σ.1 198) d, ?_, (fun σ1 hσ => ref σ1 hσ _ (fun z hz ez => ?_))⟩
      · rw [open8, if_neg (by decide), if_neg (by decide), if_pos (show nI 2 = 2 from rfl), if_pos g24, cd]
        exact congrArg some t3
      · rw [if_neg (by decide), if_neg (by decide), if_pos (show nI 2 = 2 from rfl), r9_co hz.1 hd, ez]
        rfl
    · refine .inr ⟨cls, if d < r then σ.1 198 (24 + d) else -1, ?_, (fun σ1 hσ => ref σ1 hσ _ (fun z hz ez => ?_))⟩
      · rw [open8, if_neg (by decide), if_neg (by decide), if_neg (by decide), if_pos (show nI 3 = 3 from rfl), hro]
        dsimp only [Option.bind_some]
        by_cases q : d < r
        · rw [inR_nI q (by omega), if_neg nb, if_pos g24, cd, if_pos q, show σ.1 22 d = _ from t4, if_pos q]
        · have : inR (nI d) r = false := decide_eq_false (by rw [nI_toInt (by omega)]; omega)
          rw [this, if_pos (show bI false = 0 by decide), if_neg q]
      · rw [if_neg (by decide), if_neg (by decide), if_neg (by decide), if_pos (show nI 3 = 3 from rfl), if_pos (gj0 (by decide)), rd0, hz.1.2.2.2.1]
        simp only [show (24 : Int32) = nI 24 from rfl, nI_add, nI_clamp (show 24 + d < 2 ^ 31 by omega)]
        by_cases q : d < r
        · rw [if_neg (nI_ge q (by omega)), if_pos (gi (by omega) (by omega)), ez, if_pos q]
        · rw [if_pos (nI_le (by omega) (by omega)), if_neg q]
    · refine .inr ⟨cls, σ.1 198 (50 + d), ?_, (fun σ1 hσ => ref σ1 hσ _ (fun z hz ez => ?_))⟩
      · rw [open8, if_neg (by decide), if_neg (by decide), if_neg (by decide), if_neg (by decide), if_pos (show nI 4 = 4 from rfl), if_pos g24, cd]
        exact congrArg some t5
      · rw [if_neg (by decide), if_neg (by decide), if_neg (by decide), if_neg (by decide), if_pos (show nI 4 = 4 from rfl)]
        simp only [show (50 : Int32) = nI 50 from rfl, nI_add, nI_clamp (show 50 + d < 2 ^ 31 by omega)]
        rw [if_pos (gi (by omega) (by omega)), ez]
    · refine .inr ⟨cls, σ.1 198 (74 + d), ?_, (fun σ1 hσ => ref σ1 hσ _ (fun z hz ez => ?_))⟩
      · rw [open8, if_neg (by decide), if_neg (by decide), if_neg (by decide), if_neg (by decide), if_neg (by decide), if_pos (show nI 5 = 5 from rfl), if_pos g24, cd]
        exact congrArg some t6
      · rw [if_neg (by decide), if_neg (by decide), if_neg (by decide), if_neg (by decide), if_neg (by decide), if_pos (show nI 5 = 5 from rfl)]
        simp only [show (74 : Int32) = nI 74 from rfl, nI_add, nI_clamp (show 74 + d < 2 ^ 31 by omega)]
        rw [if_pos (gi (by omega) (by omega)), ez]
    · refine .inr ⟨cls, vg r b0 e0 (σ.1 198) pr d, ?_, (fun σ1 hσ => ref σ1 hσ _ (fun z hz ez => ?_))⟩
      · rw [open8, if_neg (by decide), if_neg (by decide), if_neg (by decide), if_neg (by decide), if_neg (by decide), if_neg (by decide), if_pos (show nI 6 = 6 from rfl), c8_gain hL hd]
        rfl
      · rw [if_neg (by decide), if_neg (by decide), if_neg (by decide), if_neg (by decide), if_neg (by decide), if_neg (by decide), r9_gain hz hd, ez]
        rfl
  · refine .inl ⟨?_, ?_⟩
    · unfold g_X8_way
      rw [ed]
      dsimp only [Option.bind_some]
      cases h1 : inR c1 (r + n) with
      | false => rw [if_pos (show bI false = 0 by decide)]
      | true =>
        have h2 : ¬ (0 ≤ c2.toInt ∧ c2.toInt ≤ 6) := fun q => hin ⟨h1, q⟩
        have hne : ∀ v : Int32, (0 ≤ v.toInt ∧ v.toInt ≤ 6) → ¬ c2 = v := fun v hv e => h2 (by rw [e]; exact hv)
        rw [if_neg (show ¬ bI true = 0 by decide), if_neg (hne 0 (by decide)), if_neg (hne 1 (by decide)), if_neg (hne 2 (by decide)), if_neg (hne 3 (by decide)), if_neg (hne 4 (by decide)), if_neg (hne 5 (by decide)), if_neg (hne 6 (by decide))]
    · unfold f_X9_way
      refine tp_beq (r9_isWay hS c1) (tp_beq (x := 1) ?_ (tp_t rfl (tp_some ⟨rfl, frK_X smX_t⟩)))
      cases h1 : inR c1 (r + n) with
      | false => rw [if_pos (show bI false = 0 by decide)]
      | true =>
        rw [if_neg (show ¬ bI true = 0 by decide), r2, decide_eq_false (fun q => hin ⟨h1, q⟩)]
        rfl
