/-! ===== call tried, both sides ===== -/
/-- the class's trial behind the tests -/
def tl8 (b4 : Int32) (z3 : gj_S) : Option (Int32 × gj_S) := ((f_X7_beginAll 35 z3).bind fun x7 => ((f_X7_makePivots 35 (1000000 : Int32) x7).bind fun x8 => (if b4 = 0 then ((f_X1_sumCost 36 x8.2).bind fun x9 => some (x9, x8.2)) else ((f_X1_sumLack 36 x8.2).bind fun x10 => some (x10, x8.2)))))
theorem tl8_eq (b1 b2 b3 b4 : Int32) (σ : gj_S) : f_X8_tried b1 b2 b3 b4 σ = ((f_X8_canBeTried b1 b2 b3 σ).bind fun x1 => (if x1 = 0 then some ((-1 : Int32), σ) else ((f_X1_copyFrom 36 17 σ).bind fun x2 => ((if b1 = 0 then (if gj_in b2 24 then some (gj_sI x2 40 (upd (x2.1 40) (Int32.toNatClampNeg b2) b3)) else none) else (if b1 = (1 : Int32) then (if gj_in b2 24 then some (gj_sI x2 41 (upd (x2.1 41) (Int32.toNatClampNeg b2) b3)) else none) else (if gj_in b2 8 then some (gj_sI x2 37 (upd (x2.1 37) (Int32.toNatClampNeg b2) b3)) else none)) : Option gj_S).bind fun z3 => tl8 b4 z3)))) := rfl
theorem tl8_v {n r k : Nat} {b0 e0 : Nat → Nat} {b4 : Int32} {s8 : Nat → Int32} {z3 x7 x8 : gj_S} (hg : gS n r b0 e0) (h7 : f_X7_beginAll 35 z3 = some x7) (h8 : f_X7_makePivots 35 1000000 x7 = some (nI k, x8)) (hp : pm n r b0 e0 s8 36 x8) (hf : fP n r 7992 s8) : tl8 b4 z3 = some (an9 n r b4 s8, x8) := by
  unfold tl8 an9
  rw [h7]
  dsimp only [Option.bind_some]
  rw [h8]
  dsimp only [Option.bind_some]
  by_cases q : b4 = 0
  · rw [if_pos q, if_pos q, c8_cost hg hp]
    rfl
  · rw [if_neg q, if_neg q, c8_sumLack hg hp hf]
    rfl
theorem t20_ok {K n r at' cc idx : Nat} {b0 e0 : Nat → Nat} {b1 b2 b3 b4 z5 : Int32} {σ : gj_S} (hR : REL K σ) (hS : rS n r b0 e0 σ) (hp : pmR n r b0 e0 (σ.1 198) 17 σ) (hcc : 36 ≤ cc ∧ cc ≤ 44) (hcl : ∀ x2, f_X1_copyFrom 36 17 σ = some x2 → f_X8_tried b1 b2 b3 b4 σ = tl8 b4 (gj_sI x2 cc (upd (x2.1 cc) idx b3))) (hpm : ∀ x2, pmR n r b0 e0 (σ.1 198) 36 x2 → pmR n r b0 e0 (upd (σ.1 198) at' b3) 36 (gj_sI x2 cc (upd (x2.1 cc) idx b3))) (hok : okR n r (upd (σ.1 198) at' b3)) (h9 : ∀ x8, rS n r b0 e0 x8 → f_X9_tried b1 b2 b3 b4 x8 = tl9 b1 b2 b3 b4 (t0 x8)) (ho : (if b1 = 0 then some (8 : Int32) else (if b1 = (1 : Int32) then some (24 : Int32) else some (0 : Int32)) : Option Int32) = some z5) (hat : z5 + b2 = nI at') (h180 : at' < 180) :
    ∃ v8 x8, f_X8_tried b1 b2 b3 b4 σ = some (v8, x8) ∧ TP (f_X9_tried b1 b2 b3 b4 x8) (fun x => REL K x.2 ∧ (x.1 = v8 ∨ hitW)) := by
  have hg := rS_g hS
  obtain ⟨x2, e2, s2, p2⟩ := c8_copy (a := 36) (c := 17) (σ := σ) (.inr (by omega))
  have hp3 := hpm x2 (pmR_cp hg hp p2)
  have hcl := hcl x2 e2
  have s3 : smC 35 53 σ (gj_sI x2 cc (upd (x2.1 cc) idx b3)) := smC_I (by omega) (by omega) (smC_wd (by omega) (by omega) s2)
  generalize gj_sI x2 cc (upd (x2.1 cc) idx b3) = z3 at hp3 hcl s3
  obtain ⟨k, x7, x8, c1, c2, c3, c4, ⟨s8, c5, c6⟩, c7⟩ := k20_run hg hp3 hok.1 hok.2.1 hok.2.2.1 hok.2.2.2.1
  have s8' : smC 35 53 σ x8 := smC_tr s3 c3
  refine ⟨an9 n r b4 s8, x8, by rw [hcl]; exact tl8_v hg c1 c2 c5 c6, ?_⟩
  have hS8 : rS n r b0 e0 x8 := by
    unfold rS at hS ⊢
    rw [s8'.1 190 (by omega), s8'.1 191 (by omega), s8'.1 194 (by omega), s8'.1 195 (by omega)]
    exact hS
  rw [h9 x8 hS8]
  have hS0 : rS n r b0 e0 (t0 x8) := by
    unfold rS at hS8 ⊢
    rw [t0_c (by decide), t0_c (by decide), t0_c (by decide), t0_c (by decide)]
    exact hS8
  have e198 : (t0 x8).1 198 = σ.1 198 := by rw [t0_c (by decide), s8'.1 198 (by omega)]
  refine tp_mono (tl9_ok (k := k) (x8 := x8) hS0 ho hat h180 (fun σ9 hS9 hb9 => c7 σ9 b4 hS9 (by rw [e198] at hb9; exact hb9))) (fun x hx => ?_)
  obtain ⟨f1, f2, f3, f4, f5⟩ := hx
  rw [e198] at f4
  refine ⟨REL_tr hR (fun c hc hc2 => ?_) ?_ ?_ ?_ f4, ?_⟩
  · have hc' := hc
    unfold relC at hc'
    rw [f1 c (by omega) hc2 (by omega), t0_c (by omega), s8'.1 c (by omega)]
  · rw [f2 2 (by omega) (by omega), t0_j (by omega), s8'.1 188 (by omega)]
  · rw [f2 23 (by omega) (by omega), t0_j (by omega), s8'.1 188 (by omega)]
  · rw [f3]
    exact s8'.2
  · rcases f5 with q | ⟨s9, v9, p9, q9⟩
    · subst q
      exact .inr ⟨n, r, b0, e0, _, z3, x7, x8, hg, hok, hp3, c1, c2⟩
    · refine .inl ?_
      have a1 := tl8_v (b4 := b4) hg c1 c2 c5 c6
      have a2 := tl8_v (b4 := b4) hg c1 c2 p9 q9
      rw [a1] at a2
      rw [v9]
      exact (congrArg Prod.fst (Option.some.inj a2)).symm
theorem t20 {K : Nat} {σ : gj_S} (hR : REL K σ) (b1 b2 b3 b4 : Int32) : ∃ v8 x8, f_X8_tried b1 b2 b3 b4 σ = some (v8, x8) ∧ TP (f_X9_tried b1 b2 b3 b4 x8) (fun x => REL K x.2 ∧ (x.1 = v8 ∨ hitW)) := by
  obtain ⟨n, r, b0, e0, hS, ⟨⟨P, hPK, hP, hf, hp⟩, -⟩, -⟩ := id hR
  have hn := hS.1
  have hr := hS.2.1
  have hg := rS_g hS
  obtain ⟨-, -, pb, -, -, pc, ph, pg⟩ := hP
  have e0t : (0 : Int32).toInt = 0 := by decide
  have e2t : (2 : Int32).toInt = 2 := by decide
  have e9t : (999 : Int32).toInt = 999 := by decide
  have em9 : (-999 : Int32).toInt = -999 := by decide
  have w1 : f_X9_within b1.toInt64 0 2 = some (bI (decide (0 ≤ b1.toInt ∧ b1.toInt ≤ 2))) := by
    have := wiL b1 0 2
    rw [e0t, e2t] at this
    exact this
  have w3 : f_X9_within b3.toInt64 0 999 = some (bI (decide (0 ≤ b3.toInt ∧ b3.toInt ≤ 999))) := by
    have := wiL b3 0 999
    rw [e0t, e9t] at this
    exact this
  have w3' : f_X9_within b3.toInt64 (-999) 999 = some (bI (decide (-999 ≤ b3.toInt ∧ b3.toInt ≤ 999))) := by
    have := wiL b3 (-999) 999
    rw [em9, e9t] at this
    exact this
  have er := c8_hasRoute hg hp.1 b2
  have ed := c8_hasDock hg hp.1 b2
  have t0S : ∀ x8, rS n r b0 e0 x8 → rS n r b0 e0 (t0 x8) := fun x8 h => by
    unfold rS at h ⊢
    rw [t0_c (by decide), t0_c (by decide), t0_c (by decide), t0_c (by decide)]
    exact h
  -- refused
  have refuse : f_X8_canBeTried b1 b2 b3 σ = some 0 → f_X9_tried b1 b2 b3 b4 σ = some (-1, t0 σ) → ∃ v8 x8, f_X8_tried b1 b2 b3 b4 σ = some (v8, x8) ∧ TP (f_X9_tried b1 b2 b3 b4 x8) (fun x => REL K x.2 ∧ (x.1 = v8 ∨ hitW)) := fun h1 h2 => by
    refine ⟨-1, σ, ?_, tp_eq h2 ⟨REL_fr hR (frK_X smX_t), .inl rfl⟩⟩
    rw [tl8_eq, h1]
    dsimp only [Option.bind_some]
    rw [if_pos rfl]
  have ltb : ∀ {lo hi : Int32} (h : ¬ (lo.toInt ≤ b3.toInt ∧ b3.toInt ≤ hi.toInt)), b3 < lo ∨ (¬ b3 < lo ∧ hi < b3) := fun {lo hi} h => by
    by_cases q : b3 < lo
    · exact .inl q
    · refine .inr ⟨q, ?_⟩
      rw [i32_lt_iff] at q ⊢
      omega
  by_cases q1 : b1 = 0 ∨ b1 = 1
  · -- a route
    have hb1 : 0 ≤ b1.toInt ∧ b1.toInt ≤ 2 := by
      rcases q1 with rfl | rfl
      · decide
      · decide
    rw [decide_eq_true hb1] at w1
    have n2 : ¬ (2 : Int32) ≤ b1 := by
      rcases q1 with rfl | rfl
      · decide
      · decide
    have can : f_X8_canBeTried b1 b2 b3 σ = ((f_X1_hasRoute 17 b2 σ).bind fun x1 => (if x1 = 0 then some (0 : Int32) else (if b3 < 0 then some (0 : Int32) else (if (999 : Int32) < b3 then some (0 : Int32) else some (1 : Int32))))) := by
      unfold f_X8_canBeTried
      rcases q1 with rfl | rfl
      · rw [if_pos rfl]
      · rw [if_neg (by decide), if_pos rfl]
    have t9 : ∀ x8, f_X9_tried b1 b2 b3 b4 x8 = ((f_X9_isRoute b2 (t0 x8)).bind fun x13 => (if x13 = 0 then some ((-1 : Int32), t0 x8) else ((f_X9_within (Int32.toInt64 b3) (0 : Int64) (999 : Int64)).bind fun x14 => (if x14 = 0 then some ((-1 : Int32), t0 x8) else tl9 b1 b2 b3 b4 (t0 x8))))) := fun x8 => by
      rw [tl9_eq, w1]
      dsimp only [Option.bind_some]
      rw [if_neg (show ¬ bI true = 0 by decide), if_neg n2]
    cases hin : inR b2 r with
    | false =>
      refine refuse ?_ ?_
      · rw [can, er, hin]
        rfl
      · rw [t9, r9_isRoute (t0S σ hS), hin]
        dsimp only [Option.bind_some]
        rw [if_pos (show bI false = 0 from rfl)]
    | true =>
      by_cases h3 : 0 ≤ b3.toInt ∧ b3.toInt ≤ 999
      · rw [decide_eq_true h3] at w3
        obtain ⟨w, hw, rfl⟩ := inR_of hin
        obtain ⟨cv, hcv, rfl⟩ : ∃ c, c < 1000 ∧ b3 = nI c := inR_of (decide_eq_true (by omega))
        have cw : (nI w).toNatClampNeg = w := nI_clamp (by omega)
        have gw : gj_in (nI w) 24 := gi (by omega) (by omega)
        have ncan : f_X8_canBeTried b1 (nI w) (nI cv) σ = some 1 := by
          rw [can, er, hin]
          dsimp only [Option.bind_some]
          rw [if_neg (show ¬ bI true = 0 by decide), if_neg (show ¬ nI cv < 0 by rw [i32_lt_iff, e0t]; omega), if_neg (show ¬ (999 : Int32) < nI cv by rw [i32_lt_iff, e9t]; omega)]
        have h9 : ∀ x8, rS n r b0 e0 x8 → f_X9_tried b1 (nI w) (nI cv) b4 x8 = tl9 b1 (nI w) (nI cv) b4 (t0 x8) := fun x8 h8 => by
          rw [t9, r9_isRoute (t0S x8 h8), hin]
          dsimp only [Option.bind_some]
          rw [if_neg (show ¬ bI true = 0 by decide), w3]
          dsimp only [Option.bind_some]
          rw [if_neg (show ¬ bI true = 0 by decide)]
        rcases q1 with rfl | rfl
        · refine t20_ok (at' := 8 + w) (cc := 40) (idx := w) hR hS (pm_R hp.1) (by omega) (fun x2 hx2 => ?_) (fun x2 hx2 => ?_) ⟨?_, fun v hv => ?_, fun v hv => ?_, fun d hd => ?_, 0, fun v hv _ => by rw [up_ne (by omega)]; exact hPK.2 v hv⟩ h9 (if_pos rfl) (by rw [show (8 : Int32) = nI 8 from rfl, nI_add]) (by omega)
          · rw [tl8_eq, ncan]
            dsimp only [Option.bind_some]
            rw [if_neg (by decide), hx2]
            dsimp only [Option.bind_some]
            rw [if_pos rfl, if_pos gw, cw]
            dsimp only [Option.bind_some]
          · rcases pmR_c (w := w) (v := nI cv) hg hx2 with x | x
            · exact x
            · omega
          · rw [up_ne (by omega)]
            exact pb
          · by_cases q : v = w
            · rw [q, up_eq]
              exact ⟨cv, by omega, rfl⟩
            · rw [up_ne (by omega)]
              exact pc v hv
          · rw [up_ne (by omega)]
            exact ph v hv
          · rw [up_ne (by omega)]
            exact pg d hd
        · refine t20_ok (at' := 24 + w) (cc := 41) (idx := w) hR hS (pm_R hp.1) (by omega) (fun x2 hx2 => ?_) (fun x2 hx2 => ?_) ⟨?_, fun v hv => ?_, fun v hv => ?_, fun d hd => ?_, w, fun v hv hne => by rw [up_ne (by omega)]; exact hPK.2 v hv⟩ h9 (by rw [if_neg (by decide), if_pos rfl]) (by rw [show (24 : Int32) = nI 24 from rfl, nI_add]) (by omega)
          · rw [tl8_eq, ncan]
            dsimp only [Option.bind_some]
            rw [if_neg (by decide), hx2]
            dsimp only [Option.bind_some]
            rw [if_neg (by decide), if_pos rfl, if_pos gw, cw]
            dsimp only [Option.bind_some]
          · rcases pmR_h (w := w) (v := nI cv) hg hx2 with x | x
            · exact x
            · omega
          · rw [up_ne (by omega)]
            exact pb
          · rw [up_ne (by omega)]
            exact pc v hv
          · by_cases q : v = w
            · rw [q, up_eq]
              exact ⟨cv, by omega, rfl⟩
            · rw [up_ne (by omega)]
              exact ph v hv
          · rw [up_ne (by omega)]
            exact pg d hd
      · rw [decide_eq_false h3] at w3
        refine refuse ?_ ?_
        · rw [can, er, hin]
          dsimp only [Option.bind_some]
          rw [if_neg (show ¬ bI true = 0 by decide)]
          rcases ltb (lo := 0) (hi := 999) (by rw [e0t, e9t]; exact h3) with x | ⟨x, y⟩
          · rw [if_pos x]
          · rw [if_neg x, if_pos y]
        · rw [t9, r9_isRoute (t0S σ hS), hin]
          dsimp only [Option.bind_some]
          rw [if_neg (show ¬ bI true = 0 by decide), w3]
          dsimp only [Option.bind_some]
          rw [if_pos (show bI false = 0 from rfl)]
  · have q1a : ¬ b1 = 0 := fun e => q1 (.inl e)
    have q1b : ¬ b1 = 1 := fun e => q1 (.inr e)
    by_cases q2 : b1 = 2
    · -- a dock
      subst q2
      rw [decide_eq_true (show 0 ≤ (2 : Int32).toInt ∧ (2 : Int32).toInt ≤ 2 by decide)] at w1
      have can : f_X8_canBeTried 2 b2 b3 σ = ((f_X1_hasDock 17 b2 σ).bind fun x2 => (if x2 = 0 then some (0 : Int32) else ((f_X8_isGift (Int32.toInt64 b3)).bind fun x3 => (if x3 = 0 then some (0 : Int32) else some (1 : Int32))))) := by
        unfold f_X8_canBeTried
        rw [if_neg (by decide), if_neg (by decide), if_pos rfl]
      have t9 : ∀ x8, f_X9_tried 2 b2 b3 b4 x8 = ((f_X9_isDock b2 (t0 x8)).bind fun x2 => (if x2 = 0 then some ((-1 : Int32), t0 x8) else ((f_X9_within (Int32.toInt64 b3) (-999 : Int64) (999 : Int64)).bind fun x3 => (if x3 = 0 then some ((-1 : Int32), t0 x8) else tl9 2 b2 b3 b4 (t0 x8))))) := fun x8 => by
        rw [tl9_eq, w1]
        dsimp only [Option.bind_some]
        rw [if_neg (show ¬ bI true = 0 by decide), if_pos (by decide)]
      have hgi : f_X8_isGift b3.toInt64 = some (bI (decide (-999 ≤ b3.toInt ∧ b3.toInt ≤ 999))) := by
        rw [← w3']
        unfold f_X8_isGift f_X9_within
        rfl
      cases hin : inR b2 n with
      | false =>
        refine refuse ?_ ?_
        · rw [can, ed, hin]
          rfl
        · rw [t9, r9_isDock (t0S σ hS), hin]
          dsimp only [Option.bind_some]
          rw [if_pos (show bI false = 0 from rfl)]
      | true =>
        by_cases h3 : -999 ≤ b3.toInt ∧ b3.toInt ≤ 999
        · rw [decide_eq_true h3] at w3' hgi
          obtain ⟨w, hw, rfl⟩ := inR_of hin
          have cw : (nI w).toNatClampNeg = w := nI_clamp (by omega)
          have gw : gj_in (nI w) 8 := gi (by omega) (by omega)
          have ncan : f_X8_canBeTried 2 (nI w) b3 σ = some 1 := by
            rw [can, ed, hin]
            dsimp only [Option.bind_some]
            rw [if_neg (show ¬ bI true = 0 by decide), hgi]
            rfl
          have h9 : ∀ x8, rS n r b0 e0 x8 → f_X9_tried 2 (nI w) b3 b4 x8 = tl9 2 (nI w) b3 b4 (t0 x8) := fun x8 h8 => by
            rw [t9, r9_isDock (t0S x8 h8), hin]
            dsimp only [Option.bind_some]
            rw [if_neg (show ¬ bI true = 0 by decide), w3']
            dsimp only [Option.bind_some]
            rw [if_neg (show ¬ bI true = 0 by decide)]
          refine t20_ok (at' := w) (cc := 37) (idx := w) hR hS (pm_R hp.1) (by omega) (fun x2 hx2 => ?_) (fun x2 hx2 => ?_) ⟨?_, fun v hv => ?_, fun v hv => ?_, fun d hd => ?_, 0, fun v hv _ => by rw [up_ne (by omega)]; exact hPK.2 v hv⟩ h9 (by rw [if_neg (by decide), if_neg (by decide)]) (by rw [show (0 : Int32) = nI 0 from rfl, nI_add, Nat.zero_add]) (by omega)
          · rw [tl8_eq, ncan]
            dsimp only [Option.bind_some]
            rw [if_neg (by decide), hx2]
            dsimp only [Option.bind_some]
            rw [if_neg (by decide), if_neg (by decide), if_pos gw, cw]
            dsimp only [Option.bind_some]
          · rcases pmR_g (d := w) (v := b3) hg hx2 with x | x
            · exact x
            · omega
          · rw [up_ne (by omega)]
            exact pb
          · rw [up_ne (by omega)]
            exact pc v hv
          · rw [up_ne (by omega)]
            exact ph v hv
          · by_cases q : d = w
            · rw [q, up_eq]
              exact h3
            · rw [up_ne q]
              exact pg d hd
        · rw [decide_eq_false h3] at w3' hgi
          refine refuse ?_ ?_
          · rw [can, ed, hin]
            dsimp only [Option.bind_some]
            rw [if_neg (show ¬ bI true = 0 by decide), hgi]
            rfl
          · rw [t9, r9_isDock (t0S σ hS), hin]
            dsimp only [Option.bind_some]
            rw [if_neg (show ¬ bI true = 0 by decide), w3']
            dsimp only [Option.bind_some]
            rw [if_pos (show bI false = 0 from rfl)]
    · have hb : ¬ (0 ≤ b1.toInt ∧ b1.toInt ≤ 2) := by
        intro h
        have e1t : (1 : Int32).toInt = 1 := by decide
        have h' : b1.toInt = 0 ∨ b1.toInt = 1 ∨ b1.toInt = 2 := by omega
        rcases h' with x | x | x
        · exact q1a (Int32.toInt_inj.mp (x.trans e0t.symm))
        · exact q1b (Int32.toInt_inj.mp (x.trans e1t.symm))
        · exact q2 (Int32.toInt_inj.mp (x.trans e2t.symm))
      rw [decide_eq_false hb] at w1
      refine refuse ?_ ?_
      · unfold f_X8_canBeTried
        rw [if_neg q1a, if_neg q1b, if_neg q2]
      · rw [tl9_eq, w1]
        dsimp only [Option.bind_some]
        rw [if_pos (show bI false = 0 from rfl)]
/-- unless some trial hits the class's bound -/
theorem k_20 {K : Nat} {σ : gj_S} (hW : ¬ hitW) (hR : REL K σ) (c1 c2 c3 c4 c5 : Int32) : ∃ τ, fl_20 c1 c2 c3 c4 c5 σ = some τ ∧ REL (K + 100) τ := by
  refine rc_b (F := fun z => f_X8_tried c1 c2 c3 z σ) (G := fun z s => f_X9_tried c1 c2 c3 z s) (fun b => ?_)
  obtain ⟨v8, x8, e8, h9⟩ := t20 hR c1 c2 c3 (bI b)
  refine ⟨v8, x8, e8, tp_mono h9 (fun x hx => ⟨?_, REL_mono hx.1 (by omega)⟩)⟩
  rcases hx.2 with q | q
  · exact q
  · exact absurd q hW
