/-! ===== acts: what can be undone ===== -/
/-- the class remembers its plan -/
theorem c8_rem {u nx : Nat} {σ : gj_S} (hu : u ≤ 12) (hx : nx < 12) (h2 : σ.1 54 2 = nI u) (h1 : σ.1 54 1 = nI nx) : TP (f_X0_remember σ) (fun z => (∀ k, k ≠ 54 → (k < 56 + 9 * nx ∨ 56 + 9 * nx + 8 < k) → z.1 k = σ.1 k) ∧ z.2 = σ.2 ∧ cpE (56 + 9 * nx) 17 σ z ∧ z.1 54 1 = nI ((nx + 1) % 12) ∧ z.1 54 2 = nI (if u < 12 then u + 1 else 12)) := by
  unfold f_X0_remember
  rw [h1]
  refine tp_t (gi hx (by omega)) ?_
  rw [nI_clamp (by omega), show gj_pa 55 nx = 56 + 9 * nx from rfl]
  refine tp_bind (c8_copy (a := 56 + 9 * nx) (c := 17) (σ := σ) (by omega)) (fun z hz => ?_)
  obtain ⟨z1, z2⟩ := hz
  have e54 : z.1 54 = σ.1 54 := z1.1 54 (by omega)
  rw [e54, h1, nI_1]
  refine tp_beq (x := nI ((nx + 1) % 12)) ?_ (tp_beq rfl (tp_some ⟨fun k k1 k2 => ?_, z1.2, ?_, ?_, ?_⟩))
  · by_cases q : nx = 11
    · subst q
      rfl
    · rw [if_neg (by rw [show (12 : Int32) = nI 12 from rfl]; exact nI_ge (by omega) (by omega)), Nat.mod_eq_of_lt (by omega)]
  · show (if k = 54 then _ else if k = 54 then _ else z.1 k) = _
    rw [if_neg k1, if_neg k1]
    exact z1.1 k k2
  · obtain ⟨c1, c2, c3, c4⟩ := z2
    have en : ∀ k, k ≠ 54 → ∀ f g, (gj_sI (gj_sI z 54 f) 54 g).1 k = z.1 k := fun k hk f g => by rw [sI_ne hk, sI_ne hk]
    unfold cpE
    rw [en _ (by omega), en _ (by omega), en _ (by omega), en _ (by omega), en _ (by omega), en _ (by omega), en _ (by omega), en _ (by omega), en _ (by omega)]
    exact ⟨c1, c2, c3, c4⟩
  · rw [sI_eq, sI_eq]
    rfl
  · rw [sI_eq, sI_eq]
    show (if (12 : Int32) < σ.1 54 2 + 1 then (12 : Int32) else σ.1 54 2 + 1) = _
    rw [h2, nI_1, show (12 : Int32) = nI 12 from rfl]
    by_cases q : u < 12
    · rw [if_neg (nI_nlt (by omega) (by omega)), if_pos q]
    · rw [if_pos (nI_lt (by omega) (by omega)), if_neg q]
/-- one act more can be undone, on both sides -/
theorem re_act {n r K u nx : Nat} {b0 e0 : Nat → Nat} {σ τ : gj_S} (hg : gS n r b0 e0) (hu : u ≤ 12) (hx : nx < 12) (hcur : rw1 n r b0 e0 K (σ.1 198) 17 σ) (hold : ∀ g, g < u → rw1 n r b0 e0 K (ur σ (u - 1 - g)) (56 + 9 * ((nx + 11 - g) % 12)) σ)
    (c1 : ∀ k, 56 ≤ k → k ≤ 163 → (k < 56 + 9 * nx ∨ 56 + 9 * nx + 8 < k) → τ.1 k = σ.1 k) (c2 : cpE (56 + 9 * nx) 17 σ τ) (c3 : τ.1 54 1 = nI ((nx + 1) % 12)) (c4 : τ.1 54 2 = nI (if u < 12 then u + 1 else 12))
    (k4 : u < 12 → τ.1 188 23 = nI (u + 1) ∧ (∀ t, t < u → rwQ (ur σ t) (ur τ t)) ∧ rwQ (σ.1 198) (ur τ u)) (k5 : u = 12 → τ.1 188 23 = nI 12 ∧ (∀ t, t < 11 → rwQ (ur σ (t + 1)) (ur τ t)) ∧ rwQ (σ.1 198) (ur τ 11)) : reC n r b0 e0 K τ := by
  have hnx : (nx + 1) % 12 < 12 := Nat.mod_lt _ (by omega)
  -- a row of old stays where it is
  have keepit : ∀ g, g < u → g ≤ 10 → rw1 n r b0 e0 K (ur σ (u - 1 - g)) (56 + 9 * ((nx + 11 - g) % 12)) τ := fun g hg1 hg2 => by
    have hm : (nx + 11 - g) % 12 < 12 := Nat.mod_lt _ (by omega)
    have hne : (nx + 11 - g) % 12 ≠ nx := by omega
    exact rw1_fr (hold g hg1) (fun k h1 h2 => c1 k (by omega) (by omega) (by omega))
  have hnew : rw1 n r b0 e0 K (σ.1 198) (56 + 9 * nx) τ := rw1_cp hg hcur c2
  by_cases q : u < 12
  · obtain ⟨a1, a2, a3⟩ := k4 q
    rw [if_pos q] at c4
    refine ⟨u + 1, (nx + 1) % 12, by omega, hnx, a1, c4, c3, fun g hg1 => ?_⟩
    cases g with
    | zero =>
      rw [show u + 1 - 1 - 0 = u by omega, show ((nx + 1) % 12 + 11 - 0) % 12 = nx by omega]
      exact rw1_rw hg hnew a3
    | succ g =>
      rw [show u + 1 - 1 - (g + 1) = u - 1 - g by omega, show ((nx + 1) % 12 + 11 - (g + 1)) % 12 = (nx + 11 - g) % 12 by omega]
      exact rw1_rw hg (keepit g (by omega) (by omega)) (a2 _ (by omega))
  · obtain ⟨a1, a2, a3⟩ := k5 (by omega)
    rw [if_neg q] at c4
    refine ⟨12, (nx + 1) % 12, by omega, hnx, a1, c4, c3, fun g hg1 => ?_⟩
    cases g with
    | zero =>
      rw [show 12 - 1 - 0 = 11 by omega, show ((nx + 1) % 12 + 11 - 0) % 12 = nx by omega]
      exact rw1_rw hg hnew a3
    | succ g =>
      rw [show 12 - 1 - (g + 1) = 10 - g by omega, show ((nx + 1) % 12 + 11 - (g + 1)) % 12 = (nx + 11 - g) % 12 by omega]
      have h1 := keepit g (by omega) (by omega)
      rw [show u - 1 - g = (10 - g) + 1 by omega] at h1
      exact rw1_rw hg h1 (a2 _ (by omega))
/-- the relation out of its parts, where the past is as it was -/
theorem rel_mk {n r K K' : Nat} {b0 e0 : Nat → Nat} {σ τ : gj_S} (hS : rS n r b0 e0 σ) (hD : reD n r b0 e0 K σ) (hE : reE σ) (hF : reF r σ) (hK : K ≤ K') (hB : reB n r b0 e0 K' τ) (hC : reC n r b0 e0 K' τ)
    (f1 : ∀ k, k ≤ 1 ∨ k = 165 ∨ (170 ≤ k ∧ k ≤ 187) ∨ (189 ≤ k ∧ k ≤ 191) ∨ k = 194 ∨ k = 195 ∨ k = 200 ∨ k = 201 → τ.1 k = σ.1 k) (f2 : τ.1 188 2 = σ.1 188 2) (f4 : τ.2.1 15 = σ.2.1 15) (f5 : τ.2.1 192 = σ.2.1 192) : REL K' τ := by
  obtain ⟨t, t1, t2, t3, t4⟩ := hE
  refine ⟨n, r, b0, e0, ?_, hB, hC, fun k hk => ?_, ⟨t, t1, by rw [f1 0 (by omega)]; exact t2, f2.trans t3, fun q hq => ?_⟩, fun w hw => ?_⟩
  · unfold rS at hS ⊢
    rw [f1 190 (by omega), f1 191 (by omega), f1 194 (by omega), f1 195 (by omega)]
    exact hS
  · have : kr τ k = kr σ k := by
      unfold kr
      rw [f1 200 (by omega)]
    rw [this, f1 165 (by omega), f1 201 (by omega)]
    rcases hD k hk with a | ⟨a1, a2, a3⟩
    · exact .inl a
    · exact .inr ⟨a1, a2, rw1_mono (rw1_fr a3 (fun k h1 h2 => f1 k (by omega))) hK⟩
  · rw [f1 1 (by omega), f1 189 (by omega)]
    exact t4 q hq
  · rw [f4, f5]
    exact hF w hw
theorem reC_mono {n r K K' : Nat} {b0 e0 : Nat → Nat} {σ : gj_S} (h : reC n r b0 e0 K σ) (hK : K ≤ K') : reC n r b0 e0 K' σ := by
  obtain ⟨u, nx, u1, u2, u3, u4, u5, u6⟩ := h
  exact ⟨u, nx, u1, u2, u3, u4, u5, fun g hg => rw1_mono (u6 g hg) hK⟩
theorem k_25 {K : Nat} {σ : gj_S} (hR : REL K σ) (c1 c2 c3 c4 c5 : Int32) : ∃ τ, fl_25 c1 c2 c3 c4 c5 σ = some τ ∧ REL (K + 100) τ := by
  obtain ⟨n, r, b0, e0, hS, ⟨hB1, up, par, rk, dp, pr, hT, ht⟩, ⟨u, nx, u1, u2, u3, u4, u5, u6⟩, hD, hE, hF⟩ := id hR
  have hn := hS.1
  have hr := hS.2.1
  have hg := rS_g hS
  obtain ⟨P, hPK, hP, hf, hp⟩ := id hB1
  have h0 : smX σ (gj_sI σ 188 (upd (σ.1 188) 0 0)) := smX_t
  have e1 : (1 : Int32).toInt = 1 := by decide
  have e24 : (24 : Int32).toInt = 24 := by decide
  have r2 : f_X9_within c1.toInt64 1 24 = some (bI (decide (1 ≤ c1.toInt ∧ c1.toInt ≤ 24))) := by
    have := wiL c1 1 24
    rw [e1, e24] at this
    exact this
  by_cases hin : 1 ≤ c1.toInt ∧ c1.toInt ≤ 24
  · have n1 : ¬ c1 < 1 := by rw [i32_lt_iff]; omega
    have n2 : ¬ 24 < c1 := by rw [i32_lt_iff]; omega
    rw [decide_eq_true hin] at r2
    have e17 : σ.1 17 2 = σ.1 198 40 := hp.1.2.2.1
    by_cases heq : c1 = σ.1 198 40
    · refine rc_S (v := -1) (s1 := σ) ?_ ?_ hR
      · unfold f_X8_block
        rw [if_neg n1, if_neg n2, e17, if_pos heq]
      · unfold f_X9_block
        refine tp_beq r2 (tp_f (by decide) (tp_t (by decide) ?_))
        rw [show Int32.toNatClampNeg (40 : Int32) = 40 by decide]
        exact tp_t heq.symm (tp_some ⟨rfl, frK_X h0⟩)
    · obtain ⟨z, ez, z1, z2, z3, z4, z5⟩ := c8_rem u1 u2 u4 u5
      have z17 : z.1 17 = σ.1 17 := z1 17 (by omega) (by omega)
      have hcl : f_X8_block c1 σ = some (σ.1 198 40, gj_sI z 17 (upd (z.1 17) 2 c1)) := by
        unfold f_X8_block
        rw [if_neg n1, if_neg n2, e17, if_neg heq, ez]
        dsimp only [Option.bind_some]
        rw [z17, e17]
      -- the reference, at what the class left
      have w1 : ∀ k, 188 ≤ k → (gj_sI z 17 (upd (z.1 17) 2 c1)).1 k = σ.1 k := fun k hk => by
        rw [sI_ne (by omega)]
        exact z1 k (by omega) (by omega)
      have hwS : rS n r b0 e0 (gj_sI z 17 (upd (z.1 17) 2 c1)) := by
        unfold rS at hS ⊢
        rw [w1 190 (by omega), w1 191 (by omega), w1 194 (by omega), w1 195 (by omega)]
        exact hS
      have wJ : (gj_sI z 17 (upd (z.1 17) 2 c1)).2 = σ.2 := z2
      have wc : ∀ k, k < 188 → k ≠ 17 → k ≠ 54 → (k < 56 + 9 * nx ∨ 56 + 9 * nx + 8 < k) → (gj_sI z 17 (upd (z.1 17) 2 c1)).1 k = σ.1 k := fun k a1 a2 a3 a4 => by
        rw [sI_ne a2]
        exact z1 k a3 a4
      have w54 : (gj_sI z 17 (upd (z.1 17) 2 c1)).1 54 = z.1 54 := sI_ne (by decide)
      have w17 : (gj_sI z 17 (upd (z.1 17) 2 c1)).1 17 = upd (σ.1 17) 2 c1 := by rw [sI_eq, z17]
      have wcp : cpE (56 + 9 * nx) 17 σ (gj_sI z 17 (upd (z.1 17) 2 c1)) := by
        obtain ⟨q1, q2, q3, q4⟩ := z3
        unfold cpE
        rw [sI_ne (show 56 + 9 * nx ≠ 17 by omega), sI_ne (show 56 + 9 * nx + 1 ≠ 17 by omega), sI_ne (show 56 + 9 * nx + 2 ≠ 17 by omega), sI_ne (show 56 + 9 * nx + 3 ≠ 17 by omega), sI_ne (show 56 + 9 * nx + 4 ≠ 17 by omega), sI_ne (show 56 + 9 * nx + 5 ≠ 17 by omega), sI_ne (show 56 + 9 * nx + 6 ≠ 17 by omega), sI_ne (show 56 + 9 * nx + 7 ≠ 17 by omega), sI_ne (show 56 + 9 * nx + 8 ≠ 17 by omega)]
        exact ⟨q1, q2, q3, q4⟩
      generalize gj_sI z 17 (upd (z.1 17) 2 c1) = σ1 at *
      have h01 : smX σ1 (gj_sI σ1 188 (upd (σ1.1 188) 0 0)) := smX_t
      have href : TP (f_X9_block c1 σ1) (fun x => x.1 = σ.1 198 40 ∧ REL (K + 100) x.2) := by
        unfold f_X9_block
        refine tp_beq r2 (tp_f (by decide) (tp_t (by decide) ?_))
        rw [show Int32.toNatClampNeg (40 : Int32) = 40 by decide, smX_s h01, w1 198 (by omega)]
        refine tp_f (fun e => heq e.symm) ?_
        unfold f_X9_retold
        refine tp_bind (P := fun x => x.1 = σ.1 198 40 ∧ REL (K + 100) x.2) (tp_bind (r9_keeps (u := u) u1 (by rw [h01.2.1 23 (by decide) (by decide) (by decide) (by decide), w1 188 (by omega)]; exact u3)) (fun y hy => ?_)) (fun x hx => tp_some hx)
        obtain ⟨y1, y2, y3, y4, y5⟩ := hy
        have y198 : y.1 198 = σ.1 198 := by rw [y1 198 (by decide) (by decide), smX_s h01, w1 198 (by omega)]
        refine tp_t (by decide) (tp_t (by decide) ?_)
        rw [show Int32.toNatClampNeg (40 : Int32) = 40 by decide, y198]
        refine tp_some ⟨rfl, ?_⟩
        -- all of the relation anew
        have yc : ∀ k, k ≠ 198 → k ≠ 199 → k ≠ 188 → (gj_sI y 198 (upd (σ.1 198) 40 c1)).1 k = σ1.1 k := fun k a1 a2 a3 => by
          rw [sI_ne a1, y1 k a2 a3]
          exact if_neg a3
        have hrow : (gj_sI y 198 (upd (σ.1 198) 40 c1)).1 198 = upd (σ.1 198) 40 c1 := sI_eq
        have hup : ∀ q, q ≠ 40 → upd (σ.1 198) 40 c1 q = σ.1 198 q := fun q hq => if_neg hq
        have hE1 : rwE (σ.1 198) (upd (σ.1 198) 40 c1) := ⟨fun q a1 a2 => hup q (by omega), fun q a1 a2 => hup q (by omega)⟩
        have hT' : rT n r b0 e0 (upd (σ.1 198) 40 c1) up par rk dp pr := rT_cg hS hE1 (fun v hv => by unfold vT; rw [hup _ (by omega)]) hT
        obtain ⟨b, hb1, hb2⟩ : ∃ b, b < 25 ∧ c1 = nI b := inR_of (decide_eq_true (by omega))
        have hb3 : 1 ≤ b := by
          have := hin.1
          rw [hb2, nI_toInt (by omega)] at this
          omega
        have hP' : rP n r b0 e0 (upd (σ.1 198) 40 c1) := by
          obtain ⟨-, p2, -, p4, p5, p6, p7, p8⟩ := hP
          refine ⟨⟨up, par, rk, hT'.1⟩, fun w hw => by rw [hup _ (by omega)]; exact p2 w hw, ⟨b, hb3, by omega, hb2⟩, by rw [hup 41 (by omega)]; exact p4, by rw [hup 99 (by omega)]; exact p5, fun w hw => by rw [hup _ (by omega)]; exact p6 w hw, fun w hw => by rw [hup _ (by omega)]; exact p7 w hw, fun d hd => by rw [hup _ (by omega)]; exact p8 d hd⟩
        have hf' : fP n r (999 + 2000 * (K + 100)) (upd (σ.1 198) 40 c1) := by
          refine fP_mono ⟨fun w hw => ?_, fun d hd => ?_⟩ (show 999 + 2000 * K ≤ _ by omega)
          · rw [hup (50 + w) (by omega), hup (24 + w) (by omega), hup (74 + w) (by omega)]
            exact hf.1 w hw
          · rw [hup (50 + (r + d)) (by omega), hup (74 + (r + d)) (by omega), hup (42 + d) (by omega)]
            exact hf.2 d hd
        have hpl : pl n r b0 e0 P (upd (σ.1 198) 40 c1) 17 (gj_sI y 198 (upd (σ.1 198) 40 c1)) := by
          obtain ⟨⟨m1, m2, m3, m4, m5, m6⟩, l1, l2, l3, l4⟩ := hp
          unfold pl pm lgM
          rw [yc 17 (by omega) (by omega) (by omega), yc (17 + 1) (by omega) (by omega) (by omega), yc (17 + 2) (by omega) (by omega) (by omega), yc (17 + 3) (by omega) (by omega) (by omega), yc (17 + 4) (by omega) (by omega) (by omega), yc (17 + 5) (by omega) (by omega) (by omega), yc (17 + 6) (by omega) (by omega) (by omega), yc (17 + 7) (by omega) (by omega) (by omega), yc (17 + 8) (by omega) (by omega) (by omega), w17, wc (17 + 1) (by omega) (by omega) (by omega) (by omega), wc (17 + 2) (by omega) (by omega) (by omega) (by omega), wc (17 + 3) (by omega) (by omega) (by omega) (by omega), wc (17 + 4) (by omega) (by omega) (by omega) (by omega), wc (17 + 5) (by omega) (by omega) (by omega) (by omega), wc (17 + 6) (by omega) (by omega) (by omega) (by omega), wc (17 + 7) (by omega) (by omega) (by omega) (by omega), wc (17 + 8) (by omega) (by omega) (by omega) (by omega)]
          refine ⟨⟨m1, m2, rfl, by rw [hup 41 (by omega)]; exact m4, fun d hd => by rw [hup d (by omega)]; exact m5 d hd, fun w hw => ?_⟩, l1, by rw [hup 98 (by omega)]; exact l2, by rw [hup 99 (by omega)]; exact l3, fun g hg1 p hp1 => ?_⟩
          · obtain ⟨q1, q2, q3, q4, q5, q6⟩ := m6 w hw
            rw [(rwE_b hS hE1 hw).1, (rwE_b hS hE1 hw).2.1, (rwE_b hS hE1 hw).2.2, hup (50 + w) (by omega), hup (74 + w) (by omega)]
            refine ⟨q1, q2, q3, ?_, q5, q6⟩
            rw [q4]
            by_cases q : w < r
            · rw [if_pos q, if_pos q, hup _ (by omega)]
            · rw [if_neg q, if_neg q]
          · rw [hup _ (by omega)]
            exact l4 g hg1 p hp1
        refine rel_mk (K := K) hS hD hE hF (by omega) ⟨⟨P, ⟨by omega, fun w hw => by rw [hrow, hup (24 + w) (by omega)]; exact hPK.2 w hw⟩, by rw [hrow]; exact hP', by rw [hrow]; exact hf', by rw [hrow]; exact hpl⟩, up, par, rk, dp, pr, by rw [hrow]; exact hT', ?_⟩ (reC_mono (K := K) (re_act hg u1 u2 hB1 u6 ?_ ?_ ?_ ?_ ?_ ?_) (by omega)) (fun k hk => ?_) ?_ ?_ ?_
        · unfold t8 at ht ⊢
          rw [yc (26 + 1) (by omega) (by omega) (by omega), yc (26 + 2) (by omega) (by omega) (by omega), yc (26 + 3) (by omega) (by omega) (by omega), yc (26 + 4) (by omega) (by omega) (by omega), wc (26 + 1) (by omega) (by omega) (by omega) (by omega), wc (26 + 2) (by omega) (by omega) (by omega) (by omega), wc (26 + 3) (by omega) (by omega) (by omega) (by omega), wc (26 + 4) (by omega) (by omega) (by omega) (by omega)]
          exact ht
        · intro k a1 a2 a3
          rw [yc k (by omega) (by omega) (by omega)]
          exact wc k (by omega) (by omega) (by omega) a3
        · obtain ⟨q1, q2, q3, q4⟩ := wcp
          unfold cpE
          rw [yc (56 + 9 * nx) (by omega) (by omega) (by omega), yc (56 + 9 * nx + 1) (by omega) (by omega) (by omega), yc (56 + 9 * nx + 2) (by omega) (by omega) (by omega), yc (56 + 9 * nx + 3) (by omega) (by omega) (by omega), yc (56 + 9 * nx + 4) (by omega) (by omega) (by omega), yc (56 + 9 * nx + 5) (by omega) (by omega) (by omega), yc (56 + 9 * nx + 6) (by omega) (by omega) (by omega), yc (56 + 9 * nx + 7) (by omega) (by omega) (by omega), yc (56 + 9 * nx + 8) (by omega) (by omega) (by omega)]
          exact ⟨q1, q2, q3, q4⟩
        · rw [yc 54 (by omega) (by omega) (by omega), w54]
          exact z4
        · rw [yc 54 (by omega) (by omega) (by omega), w54]
          exact z5
        · intro q
          obtain ⟨a1, a2, a3⟩ := y4 q
          have hur : ∀ t, ur (gj_sI y 198 (upd (σ.1 198) 40 c1)) t = ur y t := fun t => by unfold ur; rw [sI_ne (by decide)]
          have hur1 : ∀ t, ur (gj_sI σ1 188 (upd (σ1.1 188) 0 0)) t = ur σ t := fun t => by unfold ur; rw [sI_ne (by decide), w1 199 (by omega)]
          rw [smX_s h01, w1 198 (by omega)] at a3
          refine ⟨a1, fun t ht1 => ?_, by rw [hur]; exact a3⟩
          rw [hur, ← hur1]
          exact a2 t ht1
        · intro q
          obtain ⟨a1, a2, a3⟩ := y5 q
          have hur : ∀ t, ur (gj_sI y 198 (upd (σ.1 198) 40 c1)) t = ur y t := fun t => by unfold ur; rw [sI_ne (by decide)]
          have hur1 : ∀ t, ur (gj_sI σ1 188 (upd (σ1.1 188) 0 0)) t = ur σ t := fun t => by unfold ur; rw [sI_ne (by decide), w1 199 (by omega)]
          rw [smX_s h01, w1 198 (by omega)] at a3
          refine ⟨a1, fun t ht1 => ?_, by rw [hur]; exact a3⟩
          rw [hur, ← hur1]
          exact a2 t ht1
        · rw [yc k (by omega) (by omega) (by omega)]
          by_cases q : 188 ≤ k
          · exact w1 k q
          · exact wc k (by omega) (by omega) (by omega) (by omega)
        · show y.1 188 2 = _
          rw [y2 2 (by decide), h01.2.1 2 (by decide) (by decide) (by decide) (by decide), w1 188 (by omega)]
        · show y.2.1 15 = _
          rw [y3]
          show σ1.2.1 15 = _
          rw [wJ]
        · show y.2.1 192 = _
          rw [y3]
          show σ1.2.1 192 = _
          rw [wJ]
      obtain ⟨⟨v, t⟩, e9, rfl, h9⟩ := href
      refine ⟨t, ?_, h9⟩
      unfold fl_25
      rw [hcl]
      dsimp only [Option.bind_some]
      rw [e9]
      exact if_pos rfl
  · rw [decide_eq_false hin] at r2
    refine rc_S (v := -1) (s1 := σ) ?_ ?_ hR
    · unfold f_X8_block
      by_cases a1 : c1 < 1
      · rw [if_pos a1]
      · rw [if_neg a1, if_pos]
        rw [i32_lt_iff] at a1 ⊢
        omega
    · unfold f_X9_block
      exact tp_beq r2 (tp_t rfl (tp_some ⟨rfl, frK_X h0⟩))
