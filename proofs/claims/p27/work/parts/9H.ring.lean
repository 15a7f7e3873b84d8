/-! ===== ring, closes ===== -/
theorem rg_ex {n r : Nat} {b0 e0 : Nat → Nat} {σ : gj_S} (hS : rS n r b0 e0 σ) {up par rk dp : Nat → Nat} {pr : Nat → Int32} (hT : rT n r b0 e0 (σ.1 198) up par rk dp pr) (hP : rP n r b0 e0 (σ.1 198)) {w : Nat} (hw : w < r + n) : ∃ i j lv, i ≤ 8 ∧ j ≤ 8 ∧ tap par (vA r b0 e0 (σ.1 198) w) (vB r b0 e0 (σ.1 198) w) i j ∧ lmin (fun k => vr r (σ.1 198) 1000000000 w (rgW up par w (vA r b0 e0 (σ.1 198) w) (vB r b0 e0 (σ.1 198) w) i k) (rgL (vb r b0 (σ.1 198)) up par (vE (σ.1 198) w) (vA r b0 e0 (σ.1 198) w) (vB r b0 e0 (σ.1 198) w) i k)) (i + 1 + j) lv := by
  have hr := hS.2.1
  obtain ⟨z, -, z1, z2⟩ := r9_lay hS hT
  have ez := sm9_s z1
  obtain ⟨i, j, h1, h2, h3, x, -, -, -, -, -, lv, h4, -⟩ := r9_ring z2 hw (fun q => by
    rw [ez]
    obtain ⟨c, c1, c2⟩ := hP.2.2.2.2.2.2.1 w q
    rw [c2, show (1000000000 : Int32) = nI 1000000000 from rfl]
    exact nI_le (by omega) (by omega))
  rw [ez] at h3 h4
  exact ⟨i, j, lv, h1, h2, h3, h4⟩
/-- the ring as the reference lays it: which one it is -/
theorem r9_ringE {n r : Nat} {b0 e0 : Nat → Nat} {up par rk dp : Nat → Nat} {pr : Nat → Int32} {σ : gj_S} (h : rL n r b0 e0 up par rk dp pr σ) {w i j lv : Nat} (hw : w < r + n) (hh : w < r → σ.1 198 (24 + w) ≤ 1000000000) (ht : tap par (vA r b0 e0 (σ.1 198) w) (vB r b0 e0 (σ.1 198) w) i j) (hl : lmin (fun k => vr r (σ.1 198) 1000000000 w (rgW up par w (vA r b0 e0 (σ.1 198) w) (vB r b0 e0 (σ.1 198) w) i k) (rgL (vb r b0 (σ.1 198)) up par (vE (σ.1 198) w) (vA r b0 e0 (σ.1 198) w) (vB r b0 e0 (σ.1 198) w) i k)) (i + 1 + j) lv) :
    TP (f_X9_laysRing (nI w) σ) (fun z => smR σ z ∧ z.1 188 34 = nI (it par i (vA r b0 e0 (σ.1 198) w)) ∧ z.1 188 33 = nI (i + 1 + j) ∧ (∀ k, k < i + 1 + j → z.1 206 k = nI (rgW up par w (vA r b0 e0 (σ.1 198) w) (vB r b0 e0 (σ.1 198) w) i k)) ∧ z.1 188 36 = nI lv ∧ z.1 188 35 = vr r (σ.1 198) 1000000000 w (rgW up par w (vA r b0 e0 (σ.1 198) w) (vB r b0 e0 (σ.1 198) w) i lv) (rgL (vb r b0 (σ.1 198)) up par (vE (σ.1 198) w) (vA r b0 e0 (σ.1 198) w) (vB r b0 e0 (σ.1 198) w) i lv)) := by
  obtain ⟨i', j', -, -, h3, x, e, h4, h5, h6, h7, lv', h8, h9, h10⟩ := r9_ring h hw hh
  obtain ⟨rfl, rfl⟩ := tap_un h3 ht
  obtain rfl := lmin_un h8 hl
  exact ⟨x, e, h4, h5, h6, fun k hk => (h7 k hk).1, h9, h10⟩
/-- a ring on both sides -/
theorem rg_both {n r K : Nat} {b0 e0 : Nat → Nat} {σ : gj_S} (hS : rS n r b0 e0 σ) (hB1 : rw1 n r b0 e0 K (σ.1 198) 17 σ) (hK : K ≤ 51200) {up par rk dp : Nat → Nat} {pr : Nat → Int32} (hT : rT n r b0 e0 (σ.1 198) up par rk dp pr) (ht : t8 n up par dp pr 26 σ) {w : Nat} (hw : w < r + n) (hst : ¬ σ.1 198 (74 + w) = 0) :
    ∃ (ap M lv : Nat) (ld : Int32) (W : Nat → Nat), M ≤ 17 ∧ lv < M ∧ (ap < n ∨ ap = 8) ∧ (∀ k, k < M → W k < r + n) ∧
      TP (f_X7_traceRing 16 (nI w) σ) (fun x => x.1 = 32 ∧ smC 32 34 σ x.2 ∧ x.2.1 32 0 = nI M ∧ x.2.1 32 1 = nI ap ∧ x.2.1 32 2 = ld ∧ x.2.1 32 5 = nI lv ∧ ∀ k, k < M → x.2.1 33 k = nI (W k)) ∧
      (∀ σ1, rL n r b0 e0 up par rk dp pr σ1 → σ1.1 198 = σ.1 198 → TP (f_X9_laysRing (nI w) σ1) (fun z => smR σ1 z ∧ z.1 188 33 = nI M ∧ z.1 188 34 = nI ap ∧ z.1 188 35 = ld ∧ z.1 188 36 = nI lv ∧ ∀ k, k < M → z.1 206 k = nI (W k))) := by
  have hn := hS.1
  have hr := hS.2.1
  have hg := rS_g hS
  obtain ⟨P, hPK, hP, hf, hp⟩ := id hB1
  obtain ⟨i, j, lv, hi, hj, hta, hl⟩ := rg_ex hS hT hP hw
  have hC := hT.1.1
  have hst2 : σ.1 198 (74 + w) = 1 ∨ σ.1 198 (74 + w) = 2 := by
    rcases hP.2.1 w hw with q | q
    · exact absurd q hst
    · exact q
  have hwT : ¬ vT (σ.1 198) w := hst
  obtain ⟨hA, hB⟩ := gA_pl (s := σ.1 198) hg hw
  have hWm : ∀ k, k < i + 1 + j → rgW up par w (vA r b0 e0 (σ.1 198) w) (vB r b0 e0 (σ.1 198) w) i k < r + n := fun k hk => rgW_lt hC hw hA hB hta hk
  obtain ⟨m1, m2, m3, m4, -, -⟩ := lmin_N hf (by omega) hw hWm (rg_route hg hC hw hwT hta) hl
  refine ⟨it par i (vA r b0 e0 (σ.1 198) w), i + 1 + j, lv, vr r (σ.1 198) 1000000000 w (rgW up par w (vA r b0 e0 (σ.1 198) w) (vB r b0 e0 (σ.1 198) w) i lv) (rgL (vb r b0 (σ.1 198)) up par (vE (σ.1 198) w) (vA r b0 e0 (σ.1 198) w) (vB r b0 e0 (σ.1 198) w) i lv), rgW up par w (vA r b0 e0 (σ.1 198) w) (vB r b0 e0 (σ.1 198) w) i, by omega, hl.1, it_pl hC i _ hA, hWm, ?_, fun σ1 hL1 e1 => ?_⟩
  · unfold f_X7_traceRing
    refine tp_bind (c8_trace (y := 16) (rel_cL hS hB1 hT ht) hP.2.2.2.2.2.2.1 hw hst2 hta m4) (fun z hz => ?_)
    obtain ⟨z1, z2, z3, z4, z5, z6⟩ := hz
    exact tp_some ⟨rfl, z1, z3, z2, z6.trans (m3.trans m2.symm), z5, fun k hk => (z4 k hk).1⟩
  · refine tp_mono (r9_ringE hL1 hw (fun q => ?_) (by rw [e1]; exact hta) (by rw [e1]; exact hl)) (fun z hz => ?_)
    · rw [e1]
      obtain ⟨c, c1, c2⟩ := hP.2.2.2.2.2.2.1 w q
      rw [c2, show (1000000000 : Int32) = nI 1000000000 from rfl]
      exact nI_le (by omega) (by omega)
    · obtain ⟨z1, z2, z3, z4, z5, z6⟩ := hz
      rw [e1] at z2 z4 z6
      exact ⟨z1, z3, z2, z6, z5, z4⟩
theorem bI_ne {b : Bool} (h : b = true) : ¬ bI b = 0 := by rw [h]; decide
theorem k_7 {K : Nat} {σ : gj_S} (hR : REL K σ) (hK : K ≤ 51200) (c1 c2 c3 c4 c5 : Int32) : ∃ τ, gl_7 c1 c2 c3 c4 c5 σ = some τ ∧ REL (K + 100) τ := by
  obtain ⟨n, r, b0, e0, hS, ⟨hB1, up, par, rk, dp, pr, hT, ht⟩, -⟩ := id hR
  have hn := hS.1
  have hr := hS.2.1
  have hg := rS_g hS
  obtain ⟨P, hPK, hP, hf, hp⟩ := id hB1
  have h0 : smX σ (gj_sI σ 188 (upd (σ.1 188) 0 0)) := smX_t
  have ew := c8_hasWay hg hp.1 c1
  have ew9 := r9_isWay (smX_S h0 hS) c1
  cases hin : inR c1 (r + n) with
  | false =>
    rw [hin] at ew ew9
    refine rc_S (v := -1) (s1 := σ) ?_ ?_ hR
    · unfold f_X8_ring
      rw [ew]
      rfl
    · unfold f_X9_ring
      exact tp_beq ew9 (tp_t rfl (tp_some ⟨rfl, frK_X h0⟩))
  | true =>
    rw [hin] at ew ew9
    obtain ⟨w, hw, rfl⟩ := inR_of hin
    have gw : gj_in (nI w) 24 := gi (by omega) (by omega)
    have cw : (nI w).toNatClampNeg = w := nI_clamp (by omega)
    have g74 : (74 : Int32) + nI w = nI (74 + w) := by rw [show (74 : Int32) = nI 74 from rfl, nI_add]
    have gw9 : gj_in (nI (74 + w)) 180 := gi (by omega) (by omega)
    have c74 : (nI (74 + w)).toNatClampNeg = 74 + w := nI_clamp (by omega)
    have e24 : σ.1 24 w = σ.1 198 (74 + w) := (hp.1.2.2.2.2.2 w hw).2.2.2.2.2
    have e9 : (gj_sI σ 188 (upd (σ.1 188) 0 0)).1 198 = σ.1 198 := rfl
    by_cases hk : (-1 : Int32) ≤ c2
    · by_cases hst : σ.1 198 (74 + w) = 0
      · refine rc_S (v := -2) (s1 := σ) ?_ ?_ hR
        · unfold f_X8_ring
          rw [ew]
          dsimp only [Option.bind_some]
          rw [if_neg (show ¬ bI true = 0 by decide), if_pos hk, if_pos gw, cw, e24, if_pos hst]
        · unfold f_X9_ring
          refine tp_beq ew9 (tp_f (show ¬ bI true = 0 by decide) (tp_t hk ?_))
          rw [g74]
          refine tp_t gw9 ?_
          rw [c74, e9]
          exact tp_t hst (tp_some ⟨rfl, frK_X h0⟩)
      · obtain ⟨ap, M, lv, ld, W, q1, q2, q3, q4, ⟨⟨v8, z8⟩, e8, rfl, x2, x3, x4, x5, x6, x7⟩, q6⟩ := rg_both hS hB1 hK hT ht hw hst
        have hcls : f_X8_ring (nI w) c2 σ = if c2 = -1 then some (nI M, z8) else if nI M ≤ c2 then some (-2, z8) else if gj_in c2 17 then some (z8.1 33 c2.toNatClampNeg, z8) else none := by
          unfold f_X8_ring
          rw [ew]
          dsimp only [Option.bind_some]
          rw [if_neg (show ¬ bI true = 0 by decide), if_pos hk, if_pos gw, cw, e24, if_neg hst, e8]
          dsimp only [Option.bind_some]
          rw [if_pos rfl, x3]
        have fr8' : frK σ z8 := frK_C x2 relC_no32
        have hS8 : rS n r b0 e0 z8 := by
          unfold rS at hS ⊢
          rw [x2.1 190 (by omega), x2.1 191 (by omega), x2.1 194 (by omega), x2.1 195 (by omega)]
          exact hS
        have e8s : z8.1 198 = σ.1 198 := x2.1 198 (by omega)
        have h08 : smX z8 (gj_sI z8 188 (upd (z8.1 188) 0 0)) := smX_t
        have href : TP (f_X9_ring (nI w) c2 z8) (fun x => ((c2 = -1 → x.1 = nI M) ∧ (¬ c2 = -1 → nI M ≤ c2 → x.1 = -2) ∧ (∀ k, k < M → c2 = nI k → x.1 = nI (W k))) ∧ frK σ x.2) := by
          unfold f_X9_ring
          have ew9' := r9_isWay (smX_S h08 hS8) (nI w)
          rw [hin] at ew9'
          refine tp_beq ew9' (tp_f (show ¬ bI true = 0 by decide) (tp_t hk ?_))
          rw [g74]
          refine tp_t gw9 ?_
          rw [c74, show (gj_sI z8 188 (upd (z8.1 188) 0 0)).1 198 = σ.1 198 from e8s]
          refine tp_f hst ?_
          refine tp_bind (r9_lay (smX_S h08 hS8) (by rw [smX_s h08, e8s]; exact hT)) (fun z hz => ?_)
          have ezs : z.1 198 = σ.1 198 := by rw [sm9_s hz.1, smX_s h08, e8s]
          refine tp_bind (q6 z hz.2 ezs) (fun y hy => ?_)
          obtain ⟨y1, y2, y3, y4, y5, y6⟩ := hy
          have fr : frK σ y := frK_tr fr8' (frK_X (smX_tr h08 (smX_tr (smX_9 hz.1) (smX_R y1))))
          rw [y2]
          have hm1 : ∀ k, k < M → ¬ nI k = -1 := fun k hk' => nI_m1 (by omega)
          refine tp_if (fun q => tp_some ⟨⟨fun _ => rfl, fun h => absurd q h, fun k hk' e => absurd (e ▸ q) (hm1 k hk')⟩, fr⟩) (fun q => ?_)
          refine tp_if (fun qm => tp_some ⟨⟨fun h => absurd h q, fun _ _ => rfl, fun k hk' e => absurd qm (by rw [e]; exact nI_ge hk' (by omega))⟩, fr⟩) (fun qm => ?_)
          have hin2 : inR c2 M = true := by
            refine decide_eq_true ?_
            rw [i32_le_iff] at hk qm
            rw [nI_toInt (by omega)] at qm
            have em : (-1 : Int32).toInt = -1 := by decide
            have : c2.toInt ≠ -1 := fun h => q (Int32.toInt_inj.mp (by rw [h, em]))
            omega
          obtain ⟨k, hk', rfl⟩ := inR_of hin2
          refine tp_t (gi (by omega) (by omega)) ?_
          rw [nI_clamp (by omega), y6 k hk']
          refine tp_some ⟨⟨fun h => absurd h q, fun _ h => absurd h qm, fun k2 hk2 e => ?_⟩, fr⟩
          have := (nI_eq (by omega) (by omega)).mp e
          rw [this]
        by_cases q : c2 = -1
        · rw [if_pos q] at hcls
          exact rc_S hcls (tp_mono href (fun x hx => ⟨hx.1.1 q, hx.2⟩)) hR
        · rw [if_neg q] at hcls
          by_cases qm : nI M ≤ c2
          · rw [if_pos qm] at hcls
            exact rc_S hcls (tp_mono href (fun x hx => ⟨hx.1.2.1 q qm, hx.2⟩)) hR
          · rw [if_neg qm] at hcls
            have hin2 : inR c2 M = true := by
              refine decide_eq_true ?_
              rw [i32_le_iff] at hk qm
              rw [nI_toInt (by omega)] at qm
              have em : (-1 : Int32).toInt = -1 := by decide
              have : c2.toInt ≠ -1 := fun h => q (Int32.toInt_inj.mp (by rw [h, em]))
              omega
            obtain ⟨k, hk', rfl⟩ := inR_of hin2
            rw [if_pos (gi (by omega) (by omega)), nI_clamp (by omega), x7 k hk'] at hcls
            exact rc_S hcls (tp_mono href (fun x hx => ⟨hx.1.2.2 k hk' rfl, hx.2⟩)) hR
    · refine rc_S (v := -1) (s1 := σ) ?_ ?_ hR
      · unfold f_X8_ring
        rw [ew]
        dsimp only [Option.bind_some]
        rw [if_neg (show ¬ bI true = 0 by decide), if_neg hk]
      · unfold f_X9_ring
        exact tp_beq ew9 (tp_f (show ¬ bI true = 0 by decide) (tp_f hk (tp_some ⟨rfl, frK_X h0⟩)))
theorem k_8 {K : Nat} {σ : gj_S} (hR : REL K σ) (hK : K ≤ 51200) (c1 c2 c3 c4 c5 : Int32) : ∃ τ, gl_8 c1 c2 c3 c4 c5 σ = some τ ∧ REL (K + 100) τ := by
  obtain ⟨n, r, b0, e0, hS, ⟨hB1, up, par, rk, dp, pr, hT, ht⟩, -⟩ := id hR
  have hn := hS.1
  have hr := hS.2.1
  have hg := rS_g hS
  obtain ⟨P, hPK, hP, hf, hp⟩ := id hB1
  have h0 : smX σ (gj_sI σ 188 (upd (σ.1 188) 0 0)) := smX_t
  have ew := c8_hasWay hg hp.1 c1
  have ew9 := r9_isWay (smX_S h0 hS) c1
  have ei : f_X9_within c2.toInt64 0 2 = some (bI (decide (0 ≤ c2.toInt ∧ c2.toInt ≤ 2))) := by
    have := wiL c2 0 2
    rw [show (0 : Int32).toInt = 0 by decide, show (2 : Int32).toInt = 2 by decide] at this
    exact this
  have ez : (0 : Int32).toInt = 0 := by decide
  have e2 : (2 : Int32).toInt = 2 := by decide
  cases hin : inR c1 (r + n) with
  | false =>
    rw [hin] at ew ew9
    refine rc_S (v := -1) (s1 := σ) ?_ ?_ hR
    · unfold f_X8_closes
      rw [ew]
      rfl
    · unfold f_X9_closes
      exact tp_beq ew9 (tp_t rfl (tp_some ⟨rfl, frK_X h0⟩))
  | true =>
    rw [hin] at ew ew9
    obtain ⟨w, hw, rfl⟩ := inR_of hin
    have gw : gj_in (nI w) 24 := gi (by omega) (by omega)
    have cw : (nI w).toNatClampNeg = w := nI_clamp (by omega)
    have g74 : (74 : Int32) + nI w = nI (74 + w) := by rw [show (74 : Int32) = nI 74 from rfl, nI_add]
    have gw9 : gj_in (nI (74 + w)) 180 := gi (by omega) (by omega)
    have c74 : (nI (74 + w)).toNatClampNeg = 74 + w := nI_clamp (by omega)
    have e24 : σ.1 24 w = σ.1 198 (74 + w) := (hp.1.2.2.2.2.2 w hw).2.2.2.2.2
    have e9 : (gj_sI σ 188 (upd (σ.1 188) 0 0)).1 198 = σ.1 198 := rfl
    by_cases hk : 0 ≤ c2.toInt ∧ c2.toInt ≤ 2
    · have n1 : ¬ c2 < 0 := by rw [i32_lt_iff]; omega
      have n2 : c2 ≤ 2 := by rw [i32_le_iff]; omega
      rw [decide_eq_true hk] at ei
      by_cases hst : σ.1 198 (74 + w) = 0
      · refine rc_S (v := -2) (s1 := σ) ?_ ?_ hR
        · unfold f_X8_closes
          rw [ew]
          dsimp only [Option.bind_some]
          rw [if_neg (show ¬ bI true = 0 by decide), if_neg n1, if_pos n2, if_pos gw, cw, e24, if_pos hst]
        · unfold f_X9_closes
          refine tp_beq ew9 (tp_f (show ¬ bI true = 0 by decide) (tp_beq ei (tp_f (show ¬ bI true = 0 by decide) ?_)))
          rw [g74]
          refine tp_t gw9 ?_
          rw [c74, e9]
          exact tp_t hst (tp_some ⟨rfl, frK_X h0⟩)
      · obtain ⟨ap, M, lv, ld, W, q1, q2, q3, q4, ⟨⟨v8, z8⟩, e8, rfl, x2, x3, x4, x5, x6, x7⟩, q6⟩ := rg_both hS hB1 hK hT ht hw hst
        have fr8' : frK σ z8 := frK_C x2 relC_no32
        have hS8 : rS n r b0 e0 z8 := by
          unfold rS at hS ⊢
          rw [x2.1 190 (by omega), x2.1 191 (by omega), x2.1 194 (by omega), x2.1 195 (by omega)]
          exact hS
        have e8s : z8.1 198 = σ.1 198 := x2.1 198 (by omega)
        have h08 : smX z8 (gj_sI z8 188 (upd (z8.1 188) 0 0)) := smX_t
        have hlw : f_X3_leavingWay 32 z8 = some (nI (W lv)) := c8_leav (q := 32) (lv := lv) (out := W lv) (by omega) x6 (x7 lv q2)
        refine rc_S (v := if c2 = 0 then ld else if c2 = 1 then nI (W lv) else if nI ap = 8 then 100 else nI ap) (s1 := z8) ?_ ?_ hR
        · unfold f_X8_closes
          rw [ew]
          dsimp only [Option.bind_some]
          rw [if_neg (show ¬ bI true = 0 by decide), if_neg n1, if_pos n2, if_pos gw, cw, e24, if_neg hst, e8]
          dsimp only [Option.bind_some]
          rw [if_pos rfl, x4, x5, hlw]
          dsimp only [Option.bind_some]
          by_cases a1 : c2 = 0
          · rw [if_pos a1, if_pos a1]
          · rw [if_neg a1, if_neg a1]
            by_cases a2 : c2 = 1
            · rw [if_pos a2, if_pos a2]
            · rw [if_neg a2, if_neg a2]
              by_cases a3 : nI ap = 8
              · rw [if_pos a3, if_pos a3]
              · rw [if_neg a3, if_neg a3]
        · unfold f_X9_closes
          have ew9' := r9_isWay (smX_S h08 hS8) (nI w)
          rw [hin] at ew9'
          refine tp_beq ew9' (tp_f (show ¬ bI true = 0 by decide) (tp_beq ei (tp_f (show ¬ bI true = 0 by decide) ?_)))
          rw [g74]
          refine tp_t gw9 ?_
          rw [c74, show (gj_sI z8 188 (upd (z8.1 188) 0 0)).1 198 = σ.1 198 from e8s]
          refine tp_f hst ?_
          refine tp_bind (r9_lay (smX_S h08 hS8) (by rw [smX_s h08, e8s]; exact hT)) (fun z hz => ?_)
          have ezs : z.1 198 = σ.1 198 := by rw [sm9_s hz.1, smX_s h08, e8s]
          refine tp_bind (q6 z hz.2 ezs) (fun y hy => ?_)
          obtain ⟨y1, y2, y3, y4, y5, y6⟩ := hy
          have fr : frK σ y := frK_tr fr8' (frK_X (smX_tr h08 (smX_tr (smX_9 hz.1) (smX_R y1))))
          rw [y3, y4, y5]
          refine tp_if (fun a1 => tp_some ⟨by rw [if_pos a1], fr⟩) (fun a1 => tp_if (fun a2 => ?_) (fun a2 => tp_if (fun a3 => tp_some ⟨by rw [if_neg a1, if_neg a2, if_pos a3], fr⟩) (fun a3 => tp_some ⟨by rw [if_neg a1, if_neg a2, if_neg a3], fr⟩)))
          refine tp_t (gi (by omega) (by omega)) ?_
          rw [nI_clamp (by omega), y6 lv q2]
          exact tp_some ⟨by rw [if_neg a1, if_pos a2], fr⟩
    · rw [decide_eq_false hk] at ei
      refine rc_S (v := -1) (s1 := σ) ?_ ?_ hR
      · unfold f_X8_closes
        rw [ew]
        dsimp only [Option.bind_some]
        rw [if_neg (show ¬ bI true = 0 by decide)]
        by_cases a1 : c2 < 0
        · rw [if_pos a1]
        · rw [if_neg a1, if_neg]
          rw [i32_lt_iff] at a1
          rw [i32_le_iff]
          omega
      · unfold f_X9_closes
        exact tp_beq ew9 (tp_f (show ¬ bI true = 0 by decide) (tp_beq ei (tp_t rfl (tp_some ⟨rfl, frK_X h0⟩))))
