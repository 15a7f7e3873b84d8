/-! ===== strong ===== -/
def vS (r : Nat) (b0 : Nat → Nat) (s : Nat → Int32) (up : Nat → Nat) (d : Nat) : Bool := if vb r b0 s (up d) = d then (decide (up d < r) && decide (s (50 + up d) = s (24 + up d))) else decide (s (50 + up d) = 0)
theorem c8_strong {n r y F : Nat} {b0 e0 : Nat → Nat} {s : Nat → Int32} {up par rk dp : Nat → Nat} {pr : Nat → Int32} {σ : gj_S} (h : cL n r b0 e0 s up par rk dp pr y σ) (hf : fP n r F s) (hF : F < 2 ^ 29) : f_X7_isStrong y σ = some (if fi (vS r b0 s up) n 0 = none then 1 else 0) := by
  have hn := h.1.1
  have hr := h.1.2.1
  have hC := h.2.2.1.1.1
  have hh : ∀ w, w < r → ∃ c, c ≤ 999 ∧ s (24 + w) = nI c := fun v hv => by
    obtain ⟨f, g, -, g2, -, g4, -⟩ := hf.1 v hv
    exact ⟨g, g4, g2⟩
  unfold f_X7_isStrong
  rw [lp_find (N := n) (p := vS r b0 s up) (res := fun _ => (0 : Int32)) (by omega) ?_ (fun d hd => ?_)]
  · dsimp only [Option.bind_some]
    cases fi (vS r b0 s up) n 0 with
    | none => rfl
    | some k => rfl
  · unfold fb_X7_isStrong_l2
    rw [h.2.1.1, if_pos (nI_le (by omega) (by omega))]
  · have hw := (hC.2.2.1 d hd).1
    have hpb := gb_pl (s := s) h.1 hw
    have eu : σ.1 (y + 10 + 1) d = nI (up d) := (c8_par h hd).2
    have eb' : σ.1 (y + 1 + 2) (up d) = nI (vb r b0 s (up d)) := (h.2.1.2.2.2.2.2 _ hw).1
    unfold fb_X7_isStrong_l2
    rw [h.2.1.1, if_neg (nI_ge hd (by omega)), if_pos (gi (show d < 9 by omega) (by omega))]
    simp only [nI_clamp (show d < 2 ^ 31 by omega), eu, nI_clamp (show up d < 2 ^ 31 by omega), eb']
    rw [if_pos (gi (show up d < 24 by omega) (by omega))]
    have e1 : (if nI (vb r b0 s (up d)) = nI d then some (1 : Int32) else some (0 : Int32)) = some (bI (decide (vb r b0 s (up d) = d))) := by
      have : (nI (vb r b0 s (up d)) = nI d) ↔ (vb r b0 s (up d) = d) := nI_eq (by omega) (by omega)
      simp only [this]
      exact dec_bI
    rw [e1]
    dsimp only [Option.bind_some]
    rw [c8_room h.1 h.2.1 hh hw]
    dsimp only [Option.bind_some]
    rw [nI_1]
    obtain ⟨f1, f2, f3, f4⟩ := fP_f hf (by omega) hw
    unfold vS
    by_cases q : vb r b0 s (up d) = d
    · rw [if_pos q, if_neg (show ¬ decide (vb r b0 s (up d) = d) = false by simp [q])]
      by_cases q2 : up d < r
      · obtain ⟨g1, g2, g3⟩ := f3 q2
        rw [if_pos q2, g1, f1, nI_sub g2]
        by_cases q3 : fl s (up d) = hl s (up d)
        · rw [if_pos (by rw [q3, Nat.sub_self]; rfl), if_pos (by simp [q2, q3])]
        · rw [if_neg (nI_ne0 (by omega) (by omega)), if_neg]
          simp only [q2, decide_true, Bool.true_and, decide_eq_true_eq]
          exact fun e => q3 ((nI_eq (by omega) (by omega)).mp e)
      · rw [if_neg q2, if_neg (show ¬ (1000000 : Int32) = 0 by decide), if_neg (by simp [q2])]
    · rw [if_neg q, if_pos (show decide (vb r b0 s (up d) = d) = false by simp [q])]
      by_cases q3 : s (50 + up d) = 0
      · rw [if_pos q3, if_pos (decide_eq_true q3)]
      · rw [if_neg q3, if_neg (by simp [q3])]
theorem k_9 {K : Nat} {σ : gj_S} (hR : REL K σ) (hK : K ≤ 51200) (c1 c2 c3 c4 c5 : Int32) : ∃ τ, gl_9 c1 c2 c3 c4 c5 σ = some τ ∧ REL (K + 100) τ := by
  obtain ⟨n, r, b0, e0, hS, ⟨hB1, up, par, rk, dp, pr, hT, ht⟩, -⟩ := id hR
  have hn := hS.1
  have hr := hS.2.1
  obtain ⟨P, hPK, hP, hf, hp⟩ := id hB1
  have hL := rel_cL hS hB1 hT ht
  have h0 : smX σ (gj_sI σ 188 (upd (σ.1 188) 0 0)) := smX_t
  refine rc_I (v := if fi (vS r b0 (σ.1 198) up) n 0 = none then 1 else 0) ?_ ?_ hR
  · unfold f_X8_strong
    rw [c8_strong hL hf (by omega)]
    dsimp only [Option.bind_some]
    by_cases q : fi (vS r b0 (σ.1 198) up) n 0 = none
    · rw [if_pos q, if_neg (show ¬ (1 : Int32) = 0 by decide)]
    · rw [if_neg q, if_pos rfl]
  · unfold f_X9_strong
    refine tp_bind (r9_lay (smX_S h0 hS) (by rw [smX_s h0]; exact hT)) (fun z hz => ?_)
    have fr : frK σ z := frK_X (smX_tr h0 (smX_9 hz.1))
    have ez : z.1 198 = σ.1 198 := by rw [sm9_s hz.1, smX_s h0]
    rw [lp_find (N := n) (p := vS r b0 (σ.1 198) up) (res := fun _ => ((0 : Int32), z)) (by omega) ?_ (fun d hd => ?_)]
    · refine tp_beq rfl ?_
      cases fi (vS r b0 (σ.1 198) up) n 0 with
      | none => exact tp_some ⟨rfl, fr⟩
      | some k => exact tp_some ⟨rfl, fr⟩
    · unfold fb_X9_strong_l11
      rw [if_pos (gj0 (by decide)), if_pos (show z.1 190 (Int32.toNatClampNeg 0) ≤ nI n by rw [rd0, hz.2.1.2.2.1]; exact nI_le (by omega) (by omega))]
    · have hw := (hT.1.1.2.2.1 d hd).1
      have eu : z.1 203 d = nI (up d) := (hz.2.2.2.2.2.2 d hd).1
      have g50 : (50 : Int32) + nI (up d) = nI (50 + up d) := by rw [show (50 : Int32) = nI 50 from rfl, nI_add]
      have g24 : (24 : Int32) + nI (up d) = nI (24 + up d) := by rw [show (24 : Int32) = nI 24 from rfl, nI_add]
      have gi5 : gj_in (nI (50 + up d)) 180 := gi (by omega) (by omega)
      have gi2 : gj_in (nI (24 + up d)) 180 := gi (by omega) (by omega)
      have g02 : gj_in (0 : Int32) 2 := gj0 (by decide)
      have er : z.1 191 0 = nI r := hz.2.1.2.2.2.1
      unfold fb_X9_strong_l11
      rw [if_pos g02, if_neg (show ¬ z.1 190 (Int32.toNatClampNeg 0) ≤ nI d by rw [rd0, hz.2.1.2.2.1]; exact nI_ge hd (by omega)), if_pos (gi (show d < 9 by omega) (by omega))]
      simp only [nI_clamp (show d < 2 ^ 31 by omega), eu, g50, g24, nI_clamp (show 50 + up d < 2 ^ 31 by omega), nI_clamp (show 24 + up d < 2 ^ 31 by omega), rd0, er, ez, if_pos gi5, if_pos gi2, if_pos g02, r9_upw hz.2 hd, nI_1]
      dsimp only [Option.bind_some]
      unfold vS
      by_cases q : vb r b0 (σ.1 198) (up d) = d
      · simp only [if_pos q, if_neg (show ¬ (1 : Int32) = 0 by decide), ite_self]
        by_cases q2 : up d < r
        · simp only [if_neg (nI_ge q2 (show r < 2 ^ 31 by omega))]
          by_cases q3 : σ.1 198 (50 + up d) = σ.1 198 (24 + up d)
          · simp [q2, q3]
          · simp [q2, q3]
        · simp only [if_pos (nI_le (show r ≤ up d by omega) (show up d < 2 ^ 31 by omega))]
          simp [q2]
      · simp only [if_neg q, ite_self]
        by_cases q3 : σ.1 198 (50 + up d) = 0
        · simp [q3]
        · by_cases q2 : up d < r
          · simp [q3, nI_ge q2 (show r < 2 ^ 31 by omega)]
          · simp [q3, nI_le (show r ≤ up d by omega) (show up d < 2 ^ 31 by omega)]
