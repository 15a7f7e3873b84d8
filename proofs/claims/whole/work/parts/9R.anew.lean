/-! ===== anew, toll, hold ===== -/
theorem c8_all {n r y : Nat} {b0 e0 : Nat → Nat} {s s' : Nat → Int32} {up par rk dp : Nat → Nat} {pr : Nat → Int32} {σ : gj_S} (hg : gS n r b0 e0) (hp : pmR n r b0 e0 s (y + 1) σ) (hb : bgR n r s s') (hP : rP n r b0 e0 s') (hT : rT n r b0 e0 s' up par rk dp pr) : TP (f_X7_beginAll y σ) (fun x => smC (y + 1) (y + 15) σ x ∧ cL n r b0 e0 s' up par rk dp pr y x ∧ lgM 0 s' (y + 1) x) := by
  unfold f_X7_beginAll
  refine tp_bind (c8_begin hg hp hb) (fun z hz => ?_)
  obtain ⟨z1, z2, z3⟩ := hz
  unfold f_X7_regrow
  refine tp_bind (P := fun x => smC (y + 11) (y + 15) z x ∧ t8 n up par dp pr (y + 10) x) (tp_bind (c8_grow (t := y + 10) (b := y + 1) hg (by omega) z2 hT) (fun g hgg => tp_some ⟨hgg.1, hgg.2.1⟩)) (fun x hx => ?_)
  obtain ⟨x1, x2⟩ := hx
  refine tp_some ⟨smC_tr (smC_wd (by omega) (by omega) z1) (smC_wd (by omega) (by omega) x1), ⟨hg, smC_pm x1 (.inl (by omega)) z2, hT, x2, hP.2.2.2.2.2.1, hP.2.1⟩, ?_⟩
  unfold lgM at z3 ⊢
  rw [x1.1 (y + 1) (by omega), x1.1 (y + 1 + 8) (by omega)]
  exact z3
theorem k_26 {K : Nat} {σ : gj_S} (hR : REL K σ) (c1 c2 c3 c4 c5 : Int32) : ∃ τ, fl_26 c1 c2 c3 c4 c5 σ = some τ ∧ REL (K + 100) τ := by
  obtain ⟨n, r, b0, e0, hS, ⟨hB1, up, par, rk, dp, pr, hT, ht⟩, ⟨u, nx, u1, u2, u3, u4, u5, u6⟩, hD, hE, hF⟩ := id hR
  obtain ⟨P, hPK, hP, hf, hp⟩ := id hB1
  have hn := hS.1
  have hr := hS.2.1
  have hg := rS_g hS
  obtain ⟨z, ez, hA, hz⟩ := cA_rem u1 u2 u4 u5
  have hpz : pmR n r b0 e0 (σ.1 198) 17 z := by
    have := pm_R hp.1
    unfold pmR at this ⊢
    rw [hz 17 (by omega), hz (17 + 1) (by omega), hz (17 + 2) (by omega), hz (17 + 3) (by omega), hz (17 + 4) (by omega), hz (17 + 5) (by omega)]
    exact this
  have hbgP : ∀ s', bgR n r (σ.1 198) s' → rP n r b0 e0 s' ∧ fP n r 999 s' := fun s' h => bg_P hg h hP.2.2.1 hP.2.2.2.2.2.1 hP.2.2.2.2.2.2.1 hP.2.2.2.2.2.2.2
  -- the class
  obtain ⟨d0, -, -, -, hd0⟩ := r9_begins hn hr hS.2.2.1 hS.2.2.2.1
  obtain ⟨upa, para, rka, dpa, pra, hTa⟩ := rP_T (hbgP _ hd0).1
  obtain ⟨x8, e8, s8, -⟩ := c8_all (y := 16) hg hpz hd0 (hbgP _ hd0).1 hTa
  have hcl : f_X8_anew σ = some (nI P, x8) := by
    unfold f_X8_anew
    rw [ez]
    dsimp only [Option.bind_some]
    rw [e8]
    dsimp only [Option.bind_some]
    rw [hz 17 (by omega), hp.2.1]
  have s8' : smC 16 34 z x8 := smC_wd (by omega) (by omega) s8
  have hA8 := cA_C u2 hA s8' (by omega) (by omega)
  have href : TP (f_X9_anew x8) (fun x => x.1 = nI P ∧ REL (K + 100) x.2) := by
    unfold f_X9_anew
    have h0 : smX x8 (gj_sI x8 188 (upd (x8.1 188) 0 0)) := smX_t
    refine tp_bind (r9_keeps (u := u) u1 (by rw [h0.2.1 23 (by decide) (by decide) (by decide) (by decide), hA8.1 188 (by omega)]; exact u3)) (fun y hy => ?_)
    have hkp : kpR u (gj_sI x8 188 (upd (x8.1 188) 0 0)) y := hy
    have y198 : y.1 198 = σ.1 198 := by rw [hkp.1 198 (by decide) (by decide), smX_s h0, hA8.1 198 (by omega)]
    refine tp_t (by decide) ?_
    rw [show Int32.toNatClampNeg (98 : Int32) = 98 by decide, y198, hp.2.2.1]
    refine tp_bind (r9_begins (n := n) (r := r) (σ := y) hn hr (by rw [hkp.1 190 (by decide) (by decide), h0.1 190 (by decide) (by decide), hA8.1 190 (by omega)]; exact hS.2.2.1) (by rw [hkp.1 191 (by decide) (by decide), h0.1 191 (by decide) (by decide), hA8.1 191 (by omega)]; exact hS.2.2.2.1)) (fun x hx => ?_)
    obtain ⟨x1, x2, x3⟩ := hx
    rw [y198] at x3
    obtain ⟨hP', hf'⟩ := hbgP _ x3
    obtain ⟨up2, par2, rk2, dp2, pr2, hT2⟩ := rP_T hP'
    obtain ⟨x8', e8', -, g2, g3⟩ := c8_all (y := 16) hg hpz x3 hP' hT2
    rw [e8] at e8'
    cases e8'
    exact tp_some ⟨rfl, act_end hS hB1 u1 u2 u6 hD hE hF (by omega) hA s8' h0 hkp (smP_s x1 x2) rfl g2 g3 hP' hf' ⟨by omega, fun v hv => by rw [x3.1 (24 + v) (by omega)]; exact hPK.2 v hv⟩ (by omega)⟩
  obtain ⟨⟨v', t⟩, e9, rfl, h9⟩ := href
  refine ⟨t, ?_, h9⟩
  unfold fl_26
  rw [hcl]
  dsimp only [Option.bind_some]
  rw [e9]
  exact if_pos rfl
/-- one number of the row told anew, both sides: what the reference leaves -/
theorem r9_told1 {n r u : Nat} {b0 e0 : Nat → Nat} {σ x8 : gj_S} (hu : u ≤ 12) (h1 : ∀ k, 188 ≤ k → x8.1 k = σ.1 k) (u3 : σ.1 188 23 = nI u) {at' : Nat} (hat : at' < 180) {v : Int32} : TP (f_X9_retold (nI at') v (gj_sI x8 188 (upd (x8.1 188) 0 0))) (fun x => x.1 = σ.1 198 at' ∧ ∃ y, kpR u (gj_sI x8 188 (upd (x8.1 188) 0 0)) y ∧ smP y x.2 ∧ x.2.1 198 = upd (σ.1 198) at' v) := by
  have h0 : smX x8 (gj_sI x8 188 (upd (x8.1 188) 0 0)) := smX_t
  unfold f_X9_retold
  refine tp_bind (r9_keeps (u := u) hu (by rw [h0.2.1 23 (by decide) (by decide) (by decide) (by decide), h1 188 (by omega)]; exact u3)) (fun y hy => ?_)
  have hkp : kpR u (gj_sI x8 188 (upd (x8.1 188) 0 0)) y := hy
  have y198 : y.1 198 = σ.1 198 := by rw [hkp.1 198 (by decide) (by decide), smX_s h0, h1 198 (by omega)]
  refine tp_t (gi hat (by omega)) (tp_t (gi hat (by omega)) ?_)
  rw [nI_clamp (by omega), y198]
  exact tp_some ⟨rfl, y, hkp, smP_s (fun k hk => sI_ne hk) rfl, sI_eq⟩
theorem k_23 {K : Nat} {σ : gj_S} (hR : REL K σ) (c1 c2 c3 c4 c5 : Int32) : ∃ τ, fl_23 c1 c2 c3 c4 c5 σ = some τ ∧ REL (K + 100) τ := by
  obtain ⟨n, r, b0, e0, hS, ⟨hB1, up, par, rk, dp, pr, hT, ht⟩, ⟨u, nx, u1, u2, u3, u4, u5, u6⟩, hD, hE, hF⟩ := id hR
  obtain ⟨P, hPK, hP, hf, hp⟩ := id hB1
  have hn := hS.1
  have hr := hS.2.1
  have hg := rS_g hS
  have ez0 : (0 : Int32).toInt = 0 := by decide
  have e999 : (999 : Int32).toInt = 999 := by decide
  have r2 : f_X9_within c2.toInt64 0 999 = some (bI (decide (0 ≤ c2.toInt ∧ c2.toInt ≤ 999))) := by
    have := wiL c2 0 999
    rw [ez0, e999] at this
    exact this
  have h0 : smX σ (gj_sI σ 188 (upd (σ.1 188) 0 0)) := smX_t
  have er := c8_hasRoute hg hp.1 c1
  have er9 := r9_isRoute (smX_S h0 hS) c1
  have refuse : ∀ (_ : f_X8_toll c1 c2 σ = some (-1, σ)) (_ : f_X9_toll c1 c2 σ = some (-1, gj_sI σ 188 (upd (σ.1 188) 0 0))), ∃ τ, fl_23 c1 c2 c3 c4 c5 σ = some τ ∧ REL (K + 100) τ := fun a1 a2 => rc_S a1 (tp_eq a2 ⟨rfl, frK_X h0⟩) hR
  cases hin : inR c1 r with
  | false =>
    rw [hin] at er er9
    refine refuse ?_ ?_
    · unfold f_X8_toll
      rw [er]
      rfl
    · unfold f_X9_toll
      rw [er9]
      rfl
  | true =>
    rw [hin] at er er9
    obtain ⟨w, hw, rfl⟩ := inR_of hin
    by_cases hr2 : 0 ≤ c2.toInt ∧ c2.toInt ≤ 999
    · rw [decide_eq_true hr2] at r2
      have n1 : ¬ c2 < 0 := by rw [i32_lt_iff]; omega
      have n2 : ¬ 999 < c2 := by rw [i32_lt_iff]; omega
      have gw : gj_in (nI w) 24 := gi (by omega) (by omega)
      have cw : (nI w).toNatClampNeg = w := nI_clamp (by omega)
      have g8 : (8 : Int32) + nI w = nI (8 + w) := by rw [show (8 : Int32) = nI 8 from rfl, nI_add]
      have e21 : σ.1 21 w = σ.1 198 (8 + w) := by
        have := (hp.1.2.2.2.2.2 w (by omega)).2.2.1
        unfold vc at this
        rw [if_pos hw] at this
        exact this
      by_cases heq : c2 = σ.1 198 (8 + w)
      · refine refuse ?_ ?_
        · unfold f_X8_toll
          rw [er]
          dsimp only [Option.bind_some]
          rw [if_neg (show ¬ bI true = 0 by decide), if_neg n1, if_neg n2, if_pos gw]
          simp only [cw, e21]
          rw [if_pos heq]
        · unfold f_X9_toll
          rw [er9]
          dsimp only [Option.bind_some]
          rw [if_neg (show ¬ bI true = 0 by decide), r2]
          dsimp only [Option.bind_some]
          rw [if_neg (show ¬ bI true = 0 by decide)]
          simp only [g8, nI_clamp (show 8 + w < 2 ^ 31 by omega)]
          rw [if_pos (gi (by omega) (by omega)), smX_s h0, if_pos heq.symm]
      · obtain ⟨z, ez, hA, hz⟩ := cA_rem u1 u2 u4 u5
        obtain ⟨cc, hcc, rfl⟩ : ∃ b, b < 1000 ∧ c2 = nI b := inR_of (decide_eq_true (by omega))
        have hup : ∀ q, q ≠ 8 + w → upd (σ.1 198) (8 + w) (nI cc) q = σ.1 198 q := fun q hq => if_neg hq
        have vbe : ∀ v, v < r + n → vb r b0 (upd (σ.1 198) (8 + w) (nI cc)) v = vb r b0 (σ.1 198) v ∧ ve r e0 (upd (σ.1 198) (8 + w) (nI cc)) v = ve r e0 (σ.1 198) v := fun v hv => by
          unfold vb ve
          rw [hup _ (by omega)]
          exact ⟨rfl, rfl⟩
        have hTc : tc_ok n (r + n) (vb r b0 (upd (σ.1 198) (8 + w) (nI cc))) (ve r e0 (upd (σ.1 198) (8 + w) (nI cc))) (vT (upd (σ.1 198) (8 + w) (nI cc))) up par rk := ⟨tc_cg hT.1.1 (fun v hv => ⟨(vbe v hv).1, (vbe v hv).2, by unfold vT; rw [hup _ (by omega)]⟩), hT.1.2⟩
        obtain ⟨pr2, hpr2⟩ := tpr_ex (r := r) (b0 := b0) (s := upd (σ.1 198) (8 + w) (nI cc)) hTc
        have hT2 : rT n r b0 e0 (upd (σ.1 198) (8 + w) (nI cc)) up par rk dp pr2 := ⟨hTc, hT.2.1, hpr2⟩
        have hP2 : rP n r b0 e0 (upd (σ.1 198) (8 + w) (nI cc)) := by
          obtain ⟨-, p2, p3, p4, p5, p6, p7, p8⟩ := hP
          refine ⟨⟨up, par, rk, hTc⟩, fun v hv => by rw [hup _ (by omega)]; exact p2 v hv, by rw [hup 40 (by omega)]; exact p3, by rw [hup 41 (by omega)]; exact p4, by rw [hup 99 (by omega)]; exact p5, fun v hv => ?_, fun v hv => by rw [hup _ (by omega)]; exact p7 v hv, fun d hd => by rw [hup _ (by omega)]; exact p8 d hd⟩
          by_cases q : v = w
          · subst q
            exact ⟨cc, by omega, if_pos rfl⟩
          · rw [hup _ (by omega)]
            exact p6 v hv
        have hf2 : fP n r (999 + 2000 * K) (upd (σ.1 198) (8 + w) (nI cc)) := by
          refine ⟨fun v hv => ?_, fun d hd => ?_⟩
          · rw [hup (50 + v) (by omega), hup (24 + v) (by omega), hup (74 + v) (by omega)]
            exact hf.1 v hv
          · rw [hup (50 + (r + d)) (by omega), hup (74 + (r + d)) (by omega), hup (42 + d) (by omega)]
            exact hf.2 d hd
        have cz : ∀ k, k ≠ 21 → (gj_sI z 21 (upd (z.1 21) w (nI cc))).1 k = z.1 k := fun k hk => sI_ne hk
        have c21 : (gj_sI z 21 (upd (z.1 21) w (nI cc))).1 21 = upd (σ.1 21) w (nI cc) := by rw [sI_eq, hz 21 (by omega)]
        have hpm2 : pm n r b0 e0 (upd (σ.1 198) (8 + w) (nI cc)) 17 (gj_sI z 21 (upd (z.1 21) w (nI cc))) := by
          obtain ⟨m1, m2, m3, m4, m5, m6⟩ := hp.1
          unfold pm
          rw [cz 17 (by omega), cz (17 + 1) (by omega), cz (17 + 2) (by omega), cz (17 + 3) (by omega), cz (17 + 5) (by omega), cz (17 + 6) (by omega), cz (17 + 7) (by omega), show (17 + 4 : Nat) = 21 from rfl, c21, hz 17 (by omega), hz (17 + 1) (by omega), hz (17 + 2) (by omega), hz (17 + 3) (by omega), hz (17 + 5) (by omega), hz (17 + 6) (by omega), hz (17 + 7) (by omega)]
          refine ⟨m1, m2, by rw [hup 40 (by omega)]; exact m3, by rw [hup 41 (by omega)]; exact m4, fun d hd => by rw [hup d (by omega)]; exact m5 d hd, fun v hv => ?_⟩
          obtain ⟨q1, q2, q3, q4, q5, q6⟩ := m6 v hv
          rw [(vbe v hv).1, (vbe v hv).2, hup (50 + v) (by omega), hup (74 + v) (by omega)]
          refine ⟨q1, q2, ?_, ?_, q5, q6⟩
          · unfold vc at q3 ⊢
            show (if v = w then nI cc else σ.1 21 v) = if v < r then (if 8 + v = 8 + w then nI cc else σ.1 198 (8 + v)) else 10000
            by_cases q : v = w
            · rw [if_pos q, if_pos (by omega), if_pos (by omega)]
            · rw [if_neg q, if_neg (show ¬ 8 + v = 8 + w by omega)]
              exact q3
          · rw [q4]
            by_cases q : v < r
            · rw [if_pos q, if_pos q, hup _ (by omega)]
            · rw [if_neg q, if_neg q]
        obtain ⟨x8, e8, g1, g2, g3⟩ := c8_grow (t := 26) (b := 17) hg (by omega) hpm2 hT2
        have s8 : smC 16 34 z x8 := smC_tr (smC_I (k := 21) (by omega) (by omega) smC_rf) (smC_wd (by omega) (by omega) g1)
        have hcl : f_X8_toll (nI w) (nI cc) σ = some (σ.1 198 (8 + w), x8) := by
          unfold f_X8_toll
          rw [er]
          dsimp only [Option.bind_some]
          rw [if_neg (show ¬ bI true = 0 by decide), if_neg n1, if_neg n2, if_pos gw]
          simp only [cw, e21]
          rw [if_neg heq, ez]
          dsimp only [Option.bind_some]
          rw [if_pos gw, if_pos gw]
          unfold f_X7_regrow
          rw [show 16 + 10 = 26 from rfl, show 16 + 1 = 17 from rfl, e8]
          dsimp only [Option.bind_some]
          rw [hz 21 (by omega), e21]
        have hA8 := cA_C u2 hA s8 (by omega) (by omega)
        have hS8 : rS n r b0 e0 x8 := by
          unfold rS at hS ⊢
          rw [hA8.1 190 (by omega), hA8.1 191 (by omega), hA8.1 194 (by omega), hA8.1 195 (by omega)]
          exact hS
        have hL8 : cL n r b0 e0 (upd (σ.1 198) (8 + w) (nI cc)) up par rk dp pr2 16 x8 := ⟨hg, smC_pm g1 (.inl (by omega)) hpm2, hT2, g2, hP2.2.2.2.2.2.1, hP2.2.1⟩
        have hl8 : lgM P (upd (σ.1 198) (8 + w) (nI cc)) 17 x8 := by
          obtain ⟨l1, l2, l3, l4⟩ := hp.2
          unfold lgM
          rw [g1.1 17 (by omega), g1.1 (17 + 8) (by omega), cz 17 (by omega), cz (17 + 8) (by omega), hz 17 (by omega), hz (17 + 8) (by omega)]
          refine ⟨l1, by rw [hup 98 (by omega)]; exact l2, by rw [hup 99 (by omega)]; exact l3, fun g hg1 p hp1 => ?_⟩
          rw [hup _ (by omega)]
          exact l4 g hg1 p hp1
        have href : TP (f_X9_toll (nI w) (nI cc) x8) (fun x => x.1 = σ.1 198 (8 + w) ∧ REL (K + 100) x.2) := by
          have h08 : smX x8 (gj_sI x8 188 (upd (x8.1 188) 0 0)) := smX_t
          have er98 := r9_isRoute (smX_S h08 hS8) (nI w)
          rw [hin] at er98
          unfold f_X9_toll
          refine tp_beq er98 (tp_f (show ¬ bI true = 0 by decide) (tp_beq r2 (tp_f (show ¬ bI true = 0 by decide) ?_)))
          simp only [g8, nI_clamp (show 8 + w < 2 ^ 31 by omega)]
          refine tp_t (gi (by omega) (by omega)) ?_
          rw [smX_s h08, hA8.1 198 (by omega)]
          refine tp_f (fun e => heq e.symm) (tp_bind (r9_told1 (n := n) (r := r) (b0 := b0) (e0 := e0) u1 hA8.1 u3 (by omega)) (fun x hx => ?_))
          obtain ⟨x1, y, x2, x3, x4⟩ := hx
          exact tp_some ⟨x1, act_end hS hB1 u1 u2 u6 hD hE hF (by omega) hA s8 h08 x2 x3 x4 hL8 hl8 hP2 hf2 ⟨by omega, fun v hv => by rw [hup (24 + v) (by omega)]; exact hPK.2 v hv⟩ (by omega)⟩
        obtain ⟨⟨v', t⟩, e9, rfl, h9⟩ := href
        refine ⟨t, ?_, h9⟩
        unfold fl_23
        rw [hcl]
        dsimp only [Option.bind_some]
        rw [e9]
        exact if_pos rfl
    · rw [decide_eq_false hr2] at r2
      refine refuse ?_ ?_
      · unfold f_X8_toll
        rw [er]
        dsimp only [Option.bind_some]
        rw [if_neg (show ¬ bI true = 0 by decide)]
        by_cases a1 : c2 < 0
        · rw [if_pos a1]
        · rw [if_neg a1, if_pos]
          rw [i32_lt_iff] at a1 ⊢
          omega
      · unfold f_X9_toll
        rw [er9]
        dsimp only [Option.bind_some]
        rw [if_neg (show ¬ bI true = 0 by decide), r2]
        rfl
