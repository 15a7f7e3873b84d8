/-! ===== load: the call, end ===== -/
theorem ld_m {c2 : Int32} (hz : c2 ≠ 0) (hw : -1998 ≤ c2.toInt ∧ c2.toInt ≤ 1998) : ∃ m, m ≤ 1998 ∧ ((c2 = nI m ∧ 0 < m) ∨ (c2 = 0 - nI m ∧ 0 < m)) ∧ zI c2 = nI m := by
  have ez : (0 : Int32).toInt = 0 := by decide
  have hv0 : c2.toInt ≠ 0 := fun e => hz (Int32.toInt_inj.mp (by rw [e, ez]))
  by_cases q : 0 ≤ c2.toInt
  · have e : c2 = nI c2.toInt.toNat := Int32.toInt_inj.mp (by rw [nI_toInt (by omega)]; omega)
    refine ⟨c2.toInt.toNat, by omega, .inl ⟨e, by omega⟩, ?_⟩
    unfold zI
    rw [if_pos (by rw [i32_le_iff, ez]; exact q), ← e]
  · have e1 : (nI (-c2.toInt).toNat).toInt = (-c2.toInt).toNat := nI_toInt (by omega)
    have e : c2 = 0 - nI (-c2.toInt).toNat := Int32.toInt_inj.mp (by
      rw [i32_sub (by rw [e1, ez]; omega) (by rw [e1, ez]; omega), e1, ez]
      omega)
    have e2 : 0 - c2 = nI (-c2.toInt).toNat := Int32.toInt_inj.mp (by
      rw [i32_sub (by rw [ez]; omega) (by rw [ez]; omega), e1, ez]
      omega)
    refine ⟨(-c2.toInt).toNat, by omega, .inr ⟨e, by omega⟩, ?_⟩
    unfold zI
    rw [if_neg (by rw [i32_le_iff, ez]; exact q), e2]
theorem k_21 {K : Nat} {σ : gj_S} (hR : REL K σ) (hK : K ≤ 51200) (c1 c2 c3 c4 c5 : Int32) : ∃ τ, fl_21 c1 c2 c3 c4 c5 σ = some τ ∧ REL (K + 100) τ := by
  obtain ⟨n, r, b0, e0, hS, ⟨hB1, up, par, rk, dp, pr, hT, ht⟩, ⟨u, nx, u1, u2, u3, u4, u5, u6⟩, hD, hE, hF⟩ := id hR
  obtain ⟨P, hPK, hP, hf, hp⟩ := id hB1
  have hL := rel_cL hS hB1 hT ht
  have hn := hS.1
  have hr := hS.2.1
  have hg := rS_g hS
  have hC := hT.1.1
  have q1 : (-1998 : Int32).toInt64 = (-1998 : Int64) := by decide
  have q2 : (1998 : Int32).toInt64 = (1998 : Int64) := by decide
  have q3 : (-999 : Int32).toInt64 = (-999 : Int64) := by decide
  have q4 : (999 : Int32).toInt64 = (999 : Int64) := by decide
  have q5 : (-1998 : Int32).toInt = -1998 := by decide
  have q6 : (1998 : Int32).toInt = 1998 := by decide
  have q7 : (-999 : Int32).toInt = -999 := by decide
  have q8 : (999 : Int32).toInt = 999 := by decide
  have r2 : f_X9_within c2.toInt64 (-1998) 1998 = some (bI (decide (-1998 ≤ c2.toInt ∧ c2.toInt ≤ 1998))) := by
    have := wiL c2 (-1998) 1998
    rw [q1, q2, q5, q6] at this
    exact this
  have r4 : ∀ a : Int32, f_X9_within a.toInt64 (-999) 999 = some (bI (decide (-999 ≤ a.toInt ∧ a.toInt ≤ 999))) := fun a => by
    have := wiL a (-999) 999
    rw [q3, q4, q7, q8] at this
    exact this
  have h0 : smX σ (gj_sI σ 188 (upd (σ.1 188) 0 0)) := smX_t
  have er := c8_hasDock hg hp.1 c1
  have er9 := r9_isDock (smX_S h0 hS) c1
  have refuse : ∀ (v : Int32) (_ : f_X8_load c1 c2 σ = some (v, σ)) (_ : TP (f_X9_load c1 c2 σ) (fun x => x.1 = v ∧ frK σ x.2)), ∃ τ, fl_21 c1 c2 c3 c4 c5 σ = some τ ∧ REL (K + 100) τ := fun v a1 a2 => rc_S a1 a2 hR
  cases hin : inR c1 n with
  | false =>
    rw [hin] at er er9
    refine refuse (-1) ?_ ?_
    · unfold f_X8_load
      rw [er]
      rfl
    · unfold f_X9_load
      exact tp_beq er9 (tp_t rfl (tp_some ⟨rfl, frK_X h0⟩))
  | true =>
    rw [hin] at er er9
    obtain ⟨d, hd, rfl⟩ := inR_of hin
    have cd : (nI d).toNatClampNeg = d := nI_clamp (by omega)
    have gd8 : gj_in (nI d) 8 := gi (by omega) (by omega)
    have gd9 : gj_in (nI d) 9 := gi (by omega) (by omega)
    have gd1 : gj_in (nI d) 180 := gi (by omega) (by omega)
    have g0d : (0 : Int32) + nI d = nI d := by rw [show (0 : Int32) = nI 0 from rfl, nI_add, Nat.zero_add]
    have e18 : σ.1 18 d = σ.1 198 d := hp.1.2.2.2.2.1 d hd
    obtain ⟨gl, gh⟩ := hP.2.2.2.2.2.2.2 d hd
    have ig := c8_isGift (σ.1 198 d) c2
    by_cases hz : c2 = 0
    · refine refuse (-1) ?_ ?_
      · unfold f_X8_load
        rw [er]
        dsimp only [Option.bind_some]
        rw [if_neg (show ¬ bI true = 0 by decide), if_pos hz]
      · have hw : -1998 ≤ c2.toInt ∧ c2.toInt ≤ 1998 := by
          rw [hz]
          decide
        rw [decide_eq_true hw] at r2
        unfold f_X9_load
        exact tp_beq er9 (tp_f (by decide) (tp_beq r2 (tp_f (by decide) (tp_t hz (tp_some ⟨rfl, frK_X h0⟩)))))
    by_cases hgf : -999 ≤ (σ.1 198 d).toInt + c2.toInt ∧ (σ.1 198 d).toInt + c2.toInt ≤ 999
    · have hw : -1998 ≤ c2.toInt ∧ c2.toInt ≤ 1998 := by omega
      have eg : (σ.1 198 d + c2).toInt = (σ.1 198 d).toInt + c2.toInt := i32_add (by omega) (by omega)
      rw [decide_eq_true hw] at r2
      rw [decide_eq_true hgf] at ig
      obtain ⟨m, hm, hv, hzm⟩ := ld_m hz hw
      have hh := hP.2.2.2.2.2.2.1
      have hdp : dp d ≤ 8 := Nat.le_trans (td_le hT.1 hT.2.1 (.inl hd)) hn
      have fr := c8_rfw hL hh c2 (dp d) d 0 rfl (.inl hd) (by omega) 5000 (by omega)
      have r4' : ∀ σ1 : gj_S, σ1.1 198 = σ.1 198 → f_X9_within (Int32.toInt64 ((gj_sI σ1 188 (upd (σ1.1 188) 0 0)).1 198 d + c2)) (-999) 999 = some (bI true) := fun σ1 e1 => by
        rw [sI_ne (show 198 ≠ 188 by decide), e1, r4, decide_eq_true (show -999 ≤ (σ.1 198 d + c2).toInt ∧ (σ.1 198 d + c2).toInt ≤ 999 by omega)]
      cases hq : rfw par (vq r b0 (σ.1 198) up (decide (¬ c2 ≤ 0))) (zI c2) (dp d) d with
      | some x =>
        have hx := rfw_n (fun e he => (hC.2.2.1 e he).2.2.2.1) (dp d) d (.inl hd) x hq
        have hux := (hC.2.2.1 x hx).1
        rw [hq] at fr
        have ff : f_X7_findRefusing 16 (nI d) c2 σ = some (nI (up x)) := by
          unfold f_X7_findRefusing
          rw [show ((nI d, (0 : Int32)) : Int32 × Int32) = (nI d, nI 0) from rfl, fr]
          rfl
        refine refuse (-2 - nI (up x)) ?_ ?_
        · unfold f_X8_load
          rw [er]
          dsimp only [Option.bind_some]
          rw [if_neg (show ¬ bI true = 0 by decide), if_neg hz, if_pos gd8]
          simp only [cd, e18]
          rw [ig]
          dsimp only [Option.bind_some]
          rw [if_neg (show ¬ bI true = 0 by decide), ff]
          dsimp only [Option.bind_some]
          rw [if_neg (nI_m1 (by omega))]
        · unfold f_X9_load
          simp only [g0d, cd]
          refine tp_beq er9 (tp_f (by decide) (tp_beq r2 (tp_f (by decide) (tp_f hz (tp_t gd1 (tp_beq (r4' σ rfl) (tp_f (by decide) (tp_bind (r9_lay (smX_S h0 hS) (by rw [smX_s h0]; exact hT)) (fun x5 hx5 => ?_)))))))))
          obtain ⟨s5, l5⟩ := hx5
          have h5 := r9_rfw l5 hz (nI d) (dp d) d rfl (.inl hd) 5000 (by omega)
          rw [sm9_s s5, smX_s h0, hq] at h5
          exact tp_beq h5 (tp_some ⟨rfl, frK_X (smX_tr h0 (smX_9 s5))⟩)
      | none =>
        rw [hq] at fr
        have ff : f_X7_findRefusing 16 (nI d) c2 σ = some (-1) := by
          unfold f_X7_findRefusing
          rw [show ((nI d, (0 : Int32)) : Int32 × Int32) = (nI d, nI 0) from rfl, fr]
          rfl
        obtain ⟨z, ez, hA, hzz⟩ := cA_rem u1 u2 u4 u5
        obtain ⟨m1, m2, m3, m4, m5, m6⟩ := hp.1
        have hup : ∀ q, q ≠ d → upd (σ.1 198) d (σ.1 198 d + c2) q = σ.1 198 q := fun q hq => if_neg hq
        have hus : upd (σ.1 198) d (σ.1 198 d + c2) d = σ.1 198 d + c2 := if_pos rfl
        have h18 : upd (σ.1 18) d (σ.1 198 d + c2) d = σ.1 198 d + c2 := if_pos rfl
        have h18n : ∀ q, q ≠ d → upd (σ.1 18) d (σ.1 198 d + c2) q = σ.1 18 q := fun q hq => if_neg hq
        generalize hgv : σ.1 198 d + c2 = g at *
        generalize hs0 : upd (σ.1 198) d g = s0 at *
        have hE1 : rwE (σ.1 198) s0 := ⟨fun q a1 a2 => hup q (by omega), fun q a1 a2 => hup q (by omega)⟩
        have hT0 : rT n r b0 e0 s0 up par rk dp pr := rT_cg hS hE1 (fun v hv => by unfold vT; rw [hup _ (by omega)]) hT
        have hf0 : fP n r (999 + 2000 * K) s0 := ⟨fun v hv => by rw [hup (50 + v) (by omega), hup (24 + v) (by omega), hup (74 + v) (by omega)]; exact hf.1 v hv, fun e he => by rw [hup (50 + (r + e)) (by omega), hup (74 + (r + e)) (by omega), hup (42 + e) (by omega)]; exact hf.2 e he⟩
        have hq0 : rfw par (vq r b0 s0 up (decide (¬ c2 ≤ 0))) (nI m) (dp d) d = none := by
          rw [rfw_cg (dp d) d (fun i hi => ?_), ← hzm]
          · exact hq
          · have hi2 : it par i d < n := by
              rcases it_pl hC i d (.inl hd) with a | a
              · exact a
              · exact absurd a hi
            have hlt := (hC.2.2.1 _ hi2).1
            unfold vq
            rw [(rwE_b hS hE1 hlt).1, hup (24 + up (it par i d)) (by omega), hup (50 + up (it par i d)) (by omega)]
        obtain ⟨hf2, hT2⟩ := fP_sh hS hm hv (dp d) d _ s0 (.inl hd) hT0 hf0 (by omega) hq0
        have hI : shI n r 16 b0 s0 up par (gj_sI z 18 (upd (σ.1 18) d g)) := by
          refine ⟨fun e he => ?_, fun w hw2 => ?_⟩
          · rw [sI_ne (show 16 + 10 + 1 ≠ 18 by decide), sI_ne (show 16 + 10 + 2 ≠ 18 by decide), hzz (16 + 10 + 1) (by omega), hzz (16 + 10 + 2) (by omega)]
            exact ⟨(ht.2.2.2 e he).1, (ht.2.2.2 e he).2.1⟩
          · rw [sI_ne (show 16 + 1 + 2 ≠ 18 by decide), sI_ne (show 16 + 1 + 6 ≠ 18 by decide), hzz (16 + 1 + 2) (by omega), hzz (16 + 1 + 6) (by omega), (rwE_b hS hE1 hw2).1, hup (50 + w) (by omega)]
            exact ⟨(m6 w hw2).1, (m6 w hw2).2.2.2.2.1⟩
        obtain ⟨x8, e8, a1, a2, a3⟩ := c8_sh (v := c2) hg (fun e he => (hC.2.2.1 e he).1) (fun e he => (hC.2.2.1 e he).2.2.2.1) hT.2.1 (dp d) d 0 s0 (gj_sI z 18 (upd (σ.1 18) d g)) rfl (.inl hd) (by omega) hI 5000 (by omega)
        have hoff : ∀ q, (q < 50 ∨ 74 ≤ q) → sh r b0 up par c2 (dp d) d s0 q = s0 q := fun q hq => sh_off (n := n) (fun e he => by have := (hC.2.2.1 e he).1; omega) (fun e he => (hC.2.2.1 e he).2.2.2.1) hq (dp d) d s0 (.inl hd)
        have c8 : ∀ k, k ≠ 23 → k ≠ 18 → k < 54 → x8.1 k = σ.1 k := fun k k1 k2 k3 => by rw [a1 k k1, sI_ne k2, hzz k k3]
        have c18 : x8.1 18 = upd (σ.1 18) d g := by rw [a1 18 (by decide), sI_eq]
        have s8 : smC 16 34 z x8 := ⟨fun k hk => by rw [a1 k (by omega), sI_ne (by omega)], by rw [a2]; rfl⟩
        have hA8 := cA_C u2 hA s8 (by omega) (by omega)
        have hsg : f_X7_shiftGift 16 (nI d) c2 z = some x8 := by
          unfold f_X7_shiftGift
          rw [if_pos gd8, if_pos gd8, cd, hzz (16 + 1 + 1) (by omega), show σ.1 (16 + 1 + 1) d = σ.1 198 d from e18, hgv]
          rw [show ((nI d, (0 : Int32), gj_sI z (16 + 1 + 1) (upd (σ.1 (16 + 1 + 1)) d g)) : Int32 × Int32 × gj_S) = (nI d, nI 0, gj_sI z 18 (upd (σ.1 18) d g)) from rfl, e8]
          rfl
        have hcl : f_X8_load (nI d) c2 σ = some (nI (dp d), x8) := by
          unfold f_X8_load
          rw [er]
          dsimp only [Option.bind_some]
          rw [if_neg (show ¬ bI true = 0 by decide), if_neg hz, if_pos gd8]
          simp only [cd, e18]
          rw [ig]
          dsimp only [Option.bind_some]
          rw [if_neg (show ¬ bI true = 0 by decide), ff]
          dsimp only [Option.bind_some]
          rw [if_pos rfl, ez]
          dsimp only [Option.bind_some]
          rw [hsg]
          dsimp only [Option.bind_some]
          rw [if_pos gd9, c8 29 (by decide) (by decide) (by decide)]
          rw [show σ.1 29 d = nI (dp d) from (ht.2.2.2 d hd).2.2.1]
        generalize hs' : sh r b0 up par c2 (dp d) d s0 = s' at *
        have hE2 : rwE (σ.1 198) s' := ⟨fun q a1 a2 => by rw [hoff q (by omega), hup q (by omega)], fun q a1 a2 => by rw [hoff q (by omega), hup q (by omega)]⟩
        have ho2 : ∀ q, q ≠ d → (q < 50 ∨ 74 ≤ q) → s' q = σ.1 198 q := fun q k1 k2 => by rw [hoff q k2, hup q k1]
        have hP2 : rP n r b0 e0 s' := by
          obtain ⟨-, p2, p3, p4, p5, p6, p7, p8⟩ := hP
          refine ⟨⟨up, par, rk, hT2.1⟩, fun v hv => by rw [ho2 _ (by omega) (by omega)]; exact p2 v hv, by rw [ho2 40 (by omega) (by omega)]; exact p3, by rw [ho2 41 (by omega) (by omega)]; exact p4, by rw [ho2 99 (by omega) (by omega)]; exact p5, fun v hv => by rw [ho2 _ (by omega) (by omega)]; exact p6 v hv, fun v hv => by rw [ho2 _ (by omega) (by omega)]; exact p7 v hv, fun e he => ?_⟩
          by_cases q : e = d
          · subst q
            rw [hoff e (by omega), hus]
            omega
          · rw [ho2 e q (by omega)]
            exact p8 e he
        have hpm2 : pm n r b0 e0 s' 17 x8 := by
          unfold pm
          rw [c8 17 (by decide) (by decide) (by decide), show (17 + 1 : Nat) = 18 from rfl, c18, c8 (17 + 2) (by decide) (by decide) (by decide), c8 (17 + 3) (by decide) (by decide) (by decide), c8 (17 + 4) (by decide) (by decide) (by decide), c8 (17 + 5) (by decide) (by decide) (by decide), c8 (17 + 7) (by decide) (by decide) (by decide)]
          refine ⟨m1, m2, by rw [ho2 40 (by omega) (by omega)]; exact m3, by rw [ho2 41 (by omega) (by omega)]; exact m4, fun e he => ?_, fun v hv => ?_⟩
          · by_cases q : e = d
            · subst q
              rw [hoff e (by omega), hus, h18]
            · rw [ho2 e q (by omega), h18n e q]
              exact m5 e he
          · obtain ⟨q1, q2, q3, q4, q5, q6⟩ := m6 v hv
            rw [(rwE_b hS hE2 hv).1, (rwE_b hS hE2 hv).2.1, (rwE_b hS hE2 hv).2.2, ho2 (24 + v) (by omega) (by omega), ho2 (74 + v) (by omega) (by omega)]
            exact ⟨q1, q2, q3, q4, a3 v hv, q6⟩
        have ht2 : t8 n up par dp pr (16 + 10) x8 := by
          unfold t8 at ht ⊢
          rw [c8 (16 + 10 + 1) (by decide) (by decide) (by decide), c8 (16 + 10 + 2) (by decide) (by decide) (by decide), c8 (16 + 10 + 3) (by decide) (by decide) (by decide), c8 (16 + 10 + 4) (by decide) (by decide) (by decide)]
          exact ht
        have hl8 : lgM P s' 17 x8 := by
          obtain ⟨l1, l2, l3, l4⟩ := hp.2
          unfold lgM
          rw [c8 17 (by decide) (by decide) (by decide), c8 (17 + 8) (by decide) (by decide) (by decide)]
          refine ⟨l1, by rw [ho2 98 (by omega) (by omega)]; exact l2, by rw [ho2 99 (by omega) (by omega)]; exact l3, fun g hg1 p hp1 => ?_⟩
          rw [ho2 _ (by omega) (by omega)]
          exact l4 g hg1 p hp1
        have hS8 : rS n r b0 e0 x8 := by
          unfold rS at hS ⊢
          rw [hA8.1 190 (by omega), hA8.1 191 (by omega), hA8.1 194 (by omega), hA8.1 195 (by omega)]
          exact hS
        have e198 : x8.1 198 = σ.1 198 := hA8.1 198 (by omega)
        have h08 : smX x8 (gj_sI x8 188 (upd (x8.1 188) 0 0)) := smX_t
        have hL8 : cL n r b0 e0 s' up par rk dp pr 16 x8 := ⟨hg, hpm2, hT2, ht2, hP2.2.2.2.2.2.1, hP2.2.1⟩
        have er1 := r9_isDock (smX_S h08 hS8) (nI d)
        rw [hin] at er1
        have href : TP (f_X9_load (nI d) c2 x8) (fun x => x.1 = nI (dp d) ∧ REL (K + 100) x.2) := by
          unfold f_X9_load
          simp only [g0d, cd]
          refine tp_beq er1 (tp_f (by decide) (tp_beq r2 (tp_f (by decide) (tp_f hz (tp_t gd1 (tp_beq (r4' x8 e198) (tp_f (by decide) (tp_bind (r9_lay (smX_S h08 hS8) (by rw [smX_s h08, e198]; exact hT)) (fun x5 hx5 => ?_)))))))))
          obtain ⟨s5, l5⟩ := hx5
          have h5 := r9_rfw l5 hz (nI d) (dp d) d rfl (.inl hd) 5000 (by omega)
          rw [sm9_s s5, smX_s h08, e198, hq] at h5
          have hX : smX x8 x5 := smX_tr h08 (smX_9 s5)
          refine tp_beq h5 ?_
          show TP ((f_X9_keeps x5).bind _) _
          refine tp_bind (r9_keeps (u := u) u1 (by rw [hX.2.1 23 (by decide) (by decide) (by decide) (by decide), hA8.1 188 (by omega)]; exact u3)) (fun y hy => ?_)
          have hkp : kpR u x5 y := hy
          have y198 : y.1 198 = σ.1 198 := by rw [hkp.1 198 (by decide) (by decide), smX_s hX, e198]
          have hLy : rL n r b0 e0 up par rk dp pr (gj_sI y 198 (upd (y.1 198) d (y.1 198 d + c2))) := by
            refine ⟨?_, ?_, ?_⟩
            · have := l5.1
              unfold rS at this ⊢
              rw [sI_ne (show 190 ≠ 198 by decide), sI_ne (show 191 ≠ 198 by decide), sI_ne (show 194 ≠ 198 by decide), sI_ne (show 195 ≠ 198 by decide), hkp.1 190 (by decide) (by decide), hkp.1 191 (by decide) (by decide), hkp.1 194 (by decide) (by decide), hkp.1 195 (by decide) (by decide)]
              exact this
            · rw [sI_eq, y198, hgv, hs0]
              exact hT0
            · have := l5.2.2
              unfold tr9 at this ⊢
              rw [sI_ne (show 203 ≠ 198 by decide), sI_ne (show 204 ≠ 198 by decide), sI_ne (show 205 ≠ 198 by decide), hkp.1 203 (by decide) (by decide), hkp.1 204 (by decide) (by decide), hkp.1 205 (by decide) (by decide)]
              exact this
          refine tp_t gd1 (tp_t gd1 (tp_bind (r9_sh (nI d) (dp d) d _ hLy rfl (.inl hd) 5000 (by omega)) (fun t ht9 => ?_)))
          obtain ⟨t1, t2, t3⟩ := ht9
          rw [sI_eq, y198, hgv, hs0, hs'] at t3
          refine tp_t gd9 (tp_some ⟨?_, act_end hS hB1 u1 u2 u6 hD hE hF (by omega) hA s8 hX hkp ⟨fun k k1 k2 k3 => by rw [t1 k k2, sI_ne k2], fun j _ _ => by rw [t1 188 (by decide), sI_ne (by decide)], by rw [t2]; rfl⟩ t3 hL8 hl8 hP2 hf2 ⟨by omega, fun v hv => by rw [ho2 (24 + v) (by omega) (by omega)]; exact hPK.2 v hv⟩ (by omega)⟩)
          dsimp only
          rw [t1 204 (by decide), sI_ne (show 204 ≠ 198 by decide), hkp.1 204 (by decide) (by decide)]
          exact (l5.2.2.2.2.2 d hd).2.1
        obtain ⟨⟨v', t⟩, e9, rfl, h9⟩ := href
        refine ⟨t, ?_, h9⟩
        unfold fl_21
        rw [hcl]
        dsimp only [Option.bind_some]
        rw [e9]
        exact if_pos rfl
    · rw [decide_eq_false hgf] at ig
      refine refuse (-1) ?_ ?_
      · unfold f_X8_load
        rw [er]
        dsimp only [Option.bind_some]
        rw [if_neg (show ¬ bI true = 0 by decide), if_neg hz, if_pos gd8]
        simp only [cd, e18]
        rw [ig]
        rfl
      · unfold f_X9_load
        simp only [g0d, cd]
        by_cases hw : -1998 ≤ c2.toInt ∧ c2.toInt ≤ 1998
        · have eg : (σ.1 198 d + c2).toInt = (σ.1 198 d).toInt + c2.toInt := i32_add (by omega) (by omega)
          have r5 := r4 (σ.1 198 d + c2)
          rw [decide_eq_true hw] at r2
          rw [eg, decide_eq_false hgf] at r5
          refine tp_beq er9 (tp_f (by decide) (tp_beq r2 (tp_f (by decide) (tp_f hz (tp_t gd1 (tp_beq ?_ (tp_t rfl (tp_some ⟨rfl, frK_X h0⟩))))))))
          rw [smX_s h0]
          exact r5
        · rw [decide_eq_false hw] at r2
          exact tp_beq er9 (tp_f (by decide) (tp_beq r2 (tp_t rfl (tp_some ⟨rfl, frK_X h0⟩))))
