/-! ===== calls that may throw: log; what a dock lacks, what is stuck ===== -/
theorem rc_T {K : Nat} {σ : gj_S} {g : Option Unit} {f8 : Option Int32} {f9 : gj_S → Option (Int32 × gj_S)} (hR : REL K σ) (h : (g = some () ∧ TP (f9 σ) (fun x => x.2.1 188 0 = 1 ∧ frK σ x.2)) ∨ (g ≠ some () ∧ ∃ v, f8 = some v ∧ ∀ σ1 : gj_S, σ1.1 = σ.1 → TP (f9 σ1) (fun x => x.1 = v ∧ x.2.1 188 0 = 0 ∧ frK σ1 x.2 ∧ x.2.2 = σ1.2))) :
    ∃ τ, (if g = some () then ((f9 σ).bind fun x2 => ((f_X9_thrown x2.2).bind fun x3 => (if x3 = (1 : Int32) then (if (1 : Int32) = 0 then (if gj_in (0 : Int32) 1 then (if (lg_cmp (x2.2.2.1 211 (Int32.toNatClampNeg (0 : Int32))) (Int32.toInt64 x2.1)) = 0 then some x2.2 else none) else none) else some x2.2) else none))) else f8.bind fun x1 => ((f9 (gj_sJ σ 211 (vp_updL (σ.2.1 211) (Int32.toNatClampNeg 0) (Int32.toInt64 x1)))).bind fun x5 => ((f_X9_thrown x5.2).bind fun x6 => (if x6 = (0 : Int32) then (if (0 : Int32) = 0 then (if gj_in (0 : Int32) 1 then (if (lg_cmp (x5.2.2.1 211 (Int32.toNatClampNeg (0 : Int32))) (Int32.toInt64 x5.1)) = 0 then some x5.2 else none) else none) else some x5.2) else none)))) = some τ ∧ REL (K + 100) τ := by
  rcases h with ⟨h1, ⟨v, t⟩, h2, h3, h4⟩ | ⟨h1, v, h2, h3⟩
  · refine ⟨t, ?_, REL_mono (REL_fr hR h4) (by omega)⟩
    rw [if_pos h1, h2]
    dsimp only [Option.bind_some, f_X9_thrown]
    rw [if_pos h3, if_neg (by decide)]
  · obtain ⟨⟨v', t⟩, h5, h6, h7, h8, h9⟩ := h3 (gj_sJ σ 211 (vp_updL (σ.2.1 211) (Int32.toNatClampNeg 0) (Int32.toInt64 v))) rfl
    have fr1 : frK σ (gj_sJ σ 211 (vp_updL (σ.2.1 211) (Int32.toNatClampNeg 0) (Int32.toInt64 v))) := ⟨fun _ _ => rfl, rfl, rfl, rfl, rfl⟩
    refine ⟨t, ?_, REL_mono (REL_fr hR (frK_tr fr1 h8)) (by omega)⟩
    dsimp only at h6
    rw [if_neg h1, h2]
    dsimp only [Option.bind_some]
    rw [h5]
    dsimp only [Option.bind_some, f_X9_thrown]
    rw [if_pos h7, if_pos rfl, if_pos (gj0 (by decide))]
    have e : t.2.1 211 (Int32.toNatClampNeg 0) = v.toInt64 := by
      have : t.2.1 = (gj_sJ σ 211 (vp_updL (σ.2.1 211) (Int32.toNatClampNeg 0) (Int32.toInt64 v))).2.1 := by
        have h10 : t.2 = _ := h9
        rw [h10]
      rw [this]
      rfl
    rw [e, h6, if_pos ((lg_cmp_eq _ _).mpr rfl)]
theorem fm_sub {P g : Nat} (hP : P < 2 ^ 30) (hg : g < P) : f_J9_floorMod_7cf53 (nI P - 1 - nI g) 16 = some (nI ((P - 1 - g) % 16)) := by
  rw [show (1 : Int32) = nI 1 from rfl, nI_sub (by omega), nI_sub (by omega)]
  exact fm_16 (by omega)
theorem k_12 {K : Nat} {σ : gj_S} (hR : REL K σ) (hK : K ≤ 51200) (c1 c2 c3 c4 c5 : Int32) : ∃ τ, gl_12 c1 c2 c3 c4 c5 σ = some τ ∧ REL (K + 100) τ := by
  obtain ⟨n, r, b0, e0, hS, ⟨⟨P, hPK, hP, hf, hp⟩, -⟩, -⟩ := id hR
  have hm16 : min P 16 ≤ 16 := Nat.min_le_right _ _
  have hmP : min P 16 ≤ P := Nat.min_le_left _ _
  have hlog : f_X1_countLogged 17 σ = some (nI (min P 16)) := by
    unfold f_X1_countLogged
    rw [hp.2.1]
    by_cases q : 16 < P
    · rw [if_pos (by rw [show (16 : Int32) = nI 16 from rfl]; exact nI_lt q (by omega)), Nat.min_eq_right (by omega)]
      rfl
    · rw [if_neg (by rw [show (16 : Int32) = nI 16 from rfl]; exact nI_nlt (by omega) (by omega)), Nat.min_eq_left (by omega)]
  have e99 : σ.1 198 99 = nI (min P 16) := hp.2.2.2.1
  have ez : (0 : Int32).toInt = 0 := by decide
  have e5 : (5 : Int32).toInt = 5 := by decide
  have e4 : (4 : Int32).toInt = 4 := by decide
  -- the reference's guard
  have r1 : ∀ σ1 : gj_S, σ1.1 = σ.1 → f_X9_within c1.toInt64 0 (σ1.1 198 99 - 1).toInt64 = some (bI (inR c1 (min P 16))) := fun σ1 hσ => by
    rw [hσ, e99]
    exact wiN (by omega)
  have r2 : f_X9_within c2.toInt64 0 4 = some (bI (decide (0 ≤ c2.toInt ∧ c2.toInt ≤ 4))) := by
    have := wiL c2 0 4
    rw [ez, e4] at this
    exact this
  refine rc_T hR ?_
  by_cases hin : inR c1 (min P 16) = true ∧ (0 ≤ c2.toInt ∧ c2.toInt ≤ 4)
  · obtain ⟨hin1, hin2⟩ := hin
    obtain ⟨g, hg, rfl⟩ := inR_of hin1
    have hin3 : inR c2 5 = true := decide_eq_true (by omega)
    obtain ⟨p, hp5, rfl⟩ := inR_of hin3
    have hmod : (P - 1 - g) % 16 < 16 := Nat.mod_lt _ (by omega)
    have hrd : f_X1_readLog 17 (nI g) (nI p) σ = some (σ.1 198 (100 + 5 * g + p)) := by
      unfold f_X1_readLog
      rw [hp.2.1, fm_sub (by omega) (by omega)]
      dsimp only [Option.bind_some]
      have e1 : nI ((P - 1 - g) % 16) * 5 + nI p = nI (5 * ((P - 1 - g) % 16) + p) := by rw [show (5 : Int32) = nI 5 from rfl, nI_mul, nI_add, Nat.mul_comm]
      simp only [e1]
      rw [if_pos (gi (by omega) (by omega)), nI_clamp (by omega), hp.2.2.2.2 g hg p hp5]
    refine .inr ⟨?_, σ.1 198 (100 + 5 * g + p), ?_, fun σ1 hσ => ?_⟩
    · unfold g_X8_log
      rw [if_neg (nI_pos (by omega)), hlog]
      dsimp only [Option.bind_some]
      rw [if_pos (nI_lt hg (by omega)), if_neg (nI_pos (by omega)), if_pos (by rw [show (5 : Int32) = nI 5 from rfl]; exact nI_lt hp5 (by omega)), hrd]
      exact fun q => by cases q
    · unfold f_X8_log
      rw [if_neg (nI_pos (by omega)), hlog]
      dsimp only [Option.bind_some]
      rw [if_pos (nI_lt hg (by omega)), if_neg (nI_pos (by omega)), if_pos (by rw [show (5 : Int32) = nI 5 from rfl]; exact nI_lt hp5 (by omega)), hrd]
      rfl
    · unfold f_X9_log
      refine tp_t (by decide) ?_
      rw [show Int32.toNatClampNeg (99 : Int32) = 99 by decide]
      refine tp_beq (r1 σ1 hσ) ?_
      rw [hin1]
      refine tp_beq (x := 0) (by rw [if_neg (show ¬ bI true = 0 by decide), r2, decide_eq_true hin2]; rfl) ?_
      refine tp_f (show ¬ (0 : Int32) = 1 by decide) ?_
      have e1 : (100 : Int32) + 5 * nI g + nI p = nI (100 + 5 * g + p) := by rw [show (5 : Int32) = nI 5 from rfl, show (100 : Int32) = nI 100 from rfl, nI_mul, nI_add, nI_add]
      simp only [e1]
      refine tp_t (gi (by omega) (by omega)) ?_
      rw [nI_clamp (by omega)]
      exact tp_some ⟨by show σ1.1 198 _ = _; rw [hσ], rfl, frK_X smX_t, rfl⟩
  · refine .inl ⟨?_, ?_⟩
    · unfold g_X8_log
      by_cases a1 : c1 < 0
      · rw [if_pos a1]
      · rw [if_neg a1, hlog]
        dsimp only [Option.bind_some]
        by_cases a2 : c1 < nI (min P 16)
        · rw [if_pos a2]
          by_cases a3 : c2 < 0
          · rw [if_pos a3]
          · rw [if_neg a3, if_neg]
            intro a4
            refine hin ⟨decide_eq_true ?_, ?_⟩
            · rw [i32_lt_iff] at a1 a2
              rw [nI_toInt (by omega)] at a2
              omega
            · rw [i32_lt_iff] at a3 a4
              omega
        · rw [if_neg a2]
    · unfold f_X9_log
      refine tp_t (by decide) ?_
      rw [show Int32.toNatClampNeg (99 : Int32) = 99 by decide]
      refine tp_beq (r1 σ rfl) ?_
      refine tp_beq (x := 1) ?_ (tp_t rfl (tp_some ⟨rfl, frK_X smX_t⟩))
      cases h1 : inR c1 (min P 16) with
      | false => rw [if_pos (show bI false = 0 by decide)]
      | true =>
        rw [if_neg (show ¬ bI true = 0 by decide), r2, decide_eq_false (fun q => hin ⟨h1, q⟩)]
        rfl
