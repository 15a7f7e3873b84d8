def f_X8_strong  (σ : gj_S) : Option Int32 := ((f_X7_isStrong 16 σ).bind fun x1 => (if x1 = 0 then some (0 : Int32) else some (1 : Int32)))
set_option maxHeartbeats 4000000 in
set_option maxRecDepth 100000 in
theorem m_X8_strong {E : gj_E} {σ : gj_S}   {x : Int32} (hf : f_X8_strong  σ = some x) : gj_M E yX8_strong cX8_strong 1 (some .int) 2 45 [gj_r 0] σ (some (gj_i x)) σ := by
  refine gj_body (lv := [(0, gj_r 0)]) (by decide +kernel) (Nat.le_of_ble_eq_true rfl) rfl (fun X hO => ?_)
  replace hO : gj_O E X RX8 cX8_strong 1 (some .int) 2 45 := hO
  unfold f_X8_strong at hf
  refine gj_aload_n hO 0 dX8_strong_0 rfl rfl ?_
  refine gt_X8_4 hO wk_185 dX8_strong_1 ?_
  obtain ⟨x1, hc1, hf⟩ := gj_b hf
  refine ca_X7_isStrong hO isY_16 hc1 wk_346 (by decide) (by decide) (Nat.le_of_ble_eq_true rfl) dX8_strong_4 ?_
  refine gj_if_eq (tgt := 14) hO dX8_strong_7 (by decide) (fun h => ?_) (fun h => ?_)
  · replace hf := gj_t h hf
    refine gj_iconst (v := 0) hO dX8_strong_14 (by decide) ?_
    obtain rfl := Option.some.inj hf
    exact gj_iret hO dX8_strong_15
  · replace hf := gj_f h hf
    refine gj_iconst (v := 1) hO dX8_strong_10 (by decide) ?_
    refine gj_goto (tgt := 15) hO dX8_strong_11 (by decide) ?_
    obtain rfl := Option.some.inj hf
    exact gj_iret hO dX8_strong_15
set_option maxHeartbeats 4000000 in
set_option maxRecDepth 100000 in
theorem ca_X8_strong {E : gj_E} {X : gj_X} {own : String} {cc : ByteArray} {nL : Nat} {rt : Option FieldType} {fr lo : Nat} {ce sl : Nat} {Q : State → Prop} {pc : Nat} {lv : List (Nat × gj_V)} {st : List gj_V} {σ : gj_S} (hO : gj_O E X own cc nL rt fr lo)   {idx : Nat} {x : Int32} (hf : f_X8_strong  σ = some x) (hl : Cond.methodLink own idx yX8_strong ∈ gj_gw) (hf1 : 3 ≤ fr) (hf2 : 65 ≤ lo) (hcat : ((st.map (gj_tv E.2.1)).map fun v => v.category).sum ≤ 8) (hd : decode cc pc = .ok (.invokevirtual idx, 3)) (k : gj_H E X nL ce sl Q (pc + 3) lv ((gj_i x) :: st) σ) : gj_H E X nL ce sl Q pc lv (gj_r 0 :: st) σ :=
  gj_callV hO (o := 0) (vs := []) (m_X8_strong  hf) (gj_Iany (by decide)) hl wk_347 wk_348 wk_4 wk_349 kl_0 kd_0 (by decide) (ci := 8) rfl (n := 0) (by decide +kernel) rfl hf1 hf2 rfl hcat hd k
def f_X7_isEnd (b0 : Nat) (σ : gj_S) : Option Int32 := ((f_X7_countGood b0 σ).bind fun x1 => (if x1 = 0 then some (1 : Int32) else some (0 : Int32)))
set_option maxHeartbeats 4000000 in
set_option maxRecDepth 100000 in
theorem m_X7_isEnd {E : gj_E} {σ : gj_S} {b0 : Nat} (g0 : isY b0) {x : Int32} (hf : f_X7_isEnd b0 σ = some x) : gj_M E yX7_isEnd cX7_isEnd 1 (some .boolean) 3 65 [gj_r b0] σ (some (gj_i x)) σ := by
  refine gj_body (lv := [(0, gj_r b0)]) (by decide +kernel) (Nat.le_of_ble_eq_true rfl) rfl (fun X hO => ?_)
  replace hO : gj_O E X RX7 cX7_isEnd 1 (some .boolean) 3 65 := hO
  unfold f_X7_isEnd at hf
  refine gj_aload_n hO 0 dX7_isEnd_0 rfl rfl ?_
  obtain ⟨x1, hc1, hf⟩ := gj_b hf
  refine ca_X7_countGood hO g0 hc1 wk_350 (by decide) (by decide) (Nat.le_of_ble_eq_true rfl) dX7_isEnd_1 ?_
  refine gj_if_ne (tgt := 11) hO dX7_isEnd_4 (by decide) (fun h => ?_) (fun h => ?_)
  · replace hf := gj_f h hf
    refine gj_iconst (v := 0) hO dX7_isEnd_11 (by decide) ?_
    obtain rfl := Option.some.inj hf
    exact gj_zret hO (Or.inl rfl) dX7_isEnd_12
  · replace hf := gj_t h hf
    refine gj_iconst (v := 1) hO dX7_isEnd_7 (by decide) ?_
    refine gj_goto (tgt := 12) hO dX7_isEnd_8 (by decide) ?_
    obtain rfl := Option.some.inj hf
    exact gj_zret hO (Or.inr rfl) dX7_isEnd_12
set_option maxHeartbeats 4000000 in
set_option maxRecDepth 100000 in
theorem ca_X7_isEnd {E : gj_E} {X : gj_X} {own : String} {cc : ByteArray} {nL : Nat} {rt : Option FieldType} {fr lo : Nat} {ce sl : Nat} {Q : State → Prop} {pc : Nat} {lv : List (Nat × gj_V)} {st : List gj_V} {σ : gj_S} (hO : gj_O E X own cc nL rt fr lo) {b0 : Nat} (g0 : isY b0) {idx : Nat} {x : Int32} (hf : f_X7_isEnd b0 σ = some x) (hl : Cond.methodLink own idx yX7_isEnd ∈ gj_gw) (hf1 : 4 ≤ fr) (hf2 : 85 ≤ lo) (hcat : ((st.map (gj_tv E.2.1)).map fun v => v.category).sum ≤ 8) (hd : decode cc pc = .ok (.invokevirtual idx, 3)) (k : gj_H E X nL ce sl Q (pc + 3) lv ((gj_i x) :: st) σ) : gj_H E X nL ce sl Q pc lv (gj_r b0 :: st) σ :=
  gj_callV hO (o := b0) (vs := []) (m_X7_isEnd g0 hf) (gj_Iany (by decide)) hl wk_351 wk_352 wk_171 wk_353 (klY_0 g0) (kdY_0 g0) (by decide) (ci := 7) rfl (n := 0) (by decide +kernel) rfl hf1 hf2 rfl hcat hd k
def f_X0_remember  (σ : gj_S) : Option gj_S := (if gj_in (σ.1 54 1) 12 then ((f_X1_copyFrom (gj_pa 55 (Int32.toNatClampNeg (σ.1 54 1))) 17 σ).bind fun x2 => ((if (12 : Int32) ≤ ((x2.1 54 1) + (1 : Int32)) then some (0 : Int32) else some ((x2.1 54 1) + (1 : Int32)) : Option Int32).bind fun z3 => ((some (gj_sI (gj_sI x2 54 (upd (x2.1 54) 1 z3)) 54 (upd ((gj_sI x2 54 (upd (x2.1 54) 1 z3)).1 54) 2 (if (12 : Int32) < (((gj_sI x2 54 (upd (x2.1 54) 1 z3)).1 54 2) + (1 : Int32)) then (12 : Int32) else (((gj_sI x2 54 (upd (x2.1 54) 1 z3)).1 54 2) + (1 : Int32)))))).bind fun s4 => some s4))) else none)
set_option maxHeartbeats 4000000 in
set_option maxRecDepth 100000 in
theorem m_X0_remember {E : gj_E} {σ : gj_S}   {x : gj_S} (hf : f_X0_remember  σ = some x) : gj_M E yX0_remember cX0_remember 2 none 2 141 [gj_r 54, gj_r 17] σ none x := by
  refine gj_body (lv := [(0, gj_r 54), (1, gj_r 17)]) (by decide +kernel) (Nat.le_of_ble_eq_true rfl) rfl (fun X hO => ?_)
  replace hO : gj_O E X RX0 cX0_remember 2 none 2 141 := hO
  unfold f_X0_remember at hf
  refine gj_aload_n hO 0 dX0_remember_0 rfl rfl ?_
  refine gt_X0_0 hO wk_354 dX0_remember_1 ?_
  refine gj_aload_n hO 0 dX0_remember_4 rfl rfl ?_
  refine gt_X0_1 hO wk_355 dX0_remember_5 ?_
  obtain ⟨hb1, hf⟩ := gj_c hf
  refine gj_aald hO kl_55 kd_55 hb1 dX0_remember_8 ?_
  refine gj_aload_n hO 1 dX0_remember_9 rfl rfl ?_
  obtain ⟨x2, hc2, hf⟩ := gj_b hf
  refine ca_X1_copyFrom hO (pa_55 hb1.2) isP_17 hc2 wk_356 (by decide) (by decide) (Nat.le_of_ble_eq_true rfl) dX0_remember_10 ?_
  refine gj_aload_n hO 0 dX0_remember_13 rfl rfl ?_
  refine gj_aload_n hO 0 dX0_remember_14 rfl rfl ?_
  refine gt_X0_1 hO wk_355 dX0_remember_15 ?_
  refine gj_iconst (v := 1) hO dX0_remember_18 (by decide) ?_
  refine gj_iadd hO dX0_remember_19 ?_
  refine gj_bipush (v := 12) hO dX0_remember_20 (by decide) ?_
  obtain ⟨z3, hz3, hf⟩ := gj_b hf
  have J3 : gj_G E X 2 none x 35 [(0, gj_r 54)] [gj_i z3, gj_r 54] x2 := by
    refine pt_X0_1 hO wk_355 dX0_remember_35 ?_
    refine gj_aload_n hO 0 dX0_remember_38 rfl rfl ?_
    refine gj_aload_n hO 0 dX0_remember_39 rfl rfl ?_
    refine gt_X0_2 hO wk_178 dX0_remember_40 ?_
    refine gj_iconst (v := 1) hO dX0_remember_43 (by decide) ?_
    refine gj_iadd hO dX0_remember_44 ?_
    refine gj_bipush (v := 12) hO dX0_remember_45 (by decide) ?_
    refine gj_mmin hO wk_357 (by decide) (by decide) (Nat.le_of_ble_eq_true rfl) dX0_remember_47 ?_
    refine pt_X0_2 hO wk_178 dX0_remember_50 ?_
    obtain ⟨s4, e4, hf⟩ := gj_b hf
    refine gj_eqS (Option.some.inj e4) ?_
    obtain rfl := Option.some.inj hf
    exact gj_vret hO dX0_remember_53
  refine gj_icmp_ge (tgt := 34) hO dX0_remember_22 (by decide) (fun h => ?_) (fun h => ?_)
  · replace hz3 := gj_t h hz3
    refine gj_iconst (v := 0) hO dX0_remember_34 (by decide) ?_
    obtain rfl := Option.some.inj hz3
    refine gj_sub (lv2 := [(0, gj_r 54)]) [0] rfl ?_
    exact J3
  · replace hz3 := gj_f h hz3
    refine gj_aload_n hO 0 dX0_remember_25 rfl rfl ?_
    refine gt_X0_1 hO wk_355 dX0_remember_26 ?_
    refine gj_iconst (v := 1) hO dX0_remember_29 (by decide) ?_
    refine gj_iadd hO dX0_remember_30 ?_
    refine gj_goto (tgt := 35) hO dX0_remember_31 (by decide) ?_
    obtain rfl := Option.some.inj hz3
    refine gj_sub (lv2 := [(0, gj_r 54)]) [0] rfl ?_
    exact J3
set_option maxHeartbeats 4000000 in
set_option maxRecDepth 100000 in
theorem ca_X0_remember {E : gj_E} {X : gj_X} {own : String} {cc : ByteArray} {nL : Nat} {rt : Option FieldType} {fr lo : Nat} {ce sl : Nat} {Q : State → Prop} {pc : Nat} {lv : List (Nat × gj_V)} {st : List gj_V} {σ : gj_S} (hO : gj_O E X own cc nL rt fr lo)   {idx : Nat} {x : gj_S} (hf : f_X0_remember  σ = some x) (hl : Cond.methodLink own idx yX0_remember ∈ gj_gw) (hf1 : 3 ≤ fr) (hf2 : 162 ≤ lo) (hcat : ((st.map (gj_tv E.2.1)).map fun v => v.category).sum ≤ 8) (hd : decode cc pc = .ok (.invokevirtual idx, 3)) (k : gj_H E X nL ce sl Q (pc + 3) lv (st) x) : gj_H E X nL ce sl Q pc lv (gj_r 17 :: gj_r 54 :: st) σ :=
  gj_callV hO (o := 54) (vs := [gj_r 17]) (m_X0_remember  hf) (gj_Iany (by decide)) hl wk_358 wk_359 wk_181 wk_360 kl_54 kd_54 (by decide) (ci := 0) rfl (n := 1) (by decide +kernel) rfl hf1 hf2 rfl hcat hd k
def fb_X7_moveFlows_l2 (b0 : Nat) (a10002 : (Int32 × gj_S)) : Option (gj_S ⊕ (Int32 × gj_S)) := (if (a10002.2.1 (b0 + 16) 0) ≤ a10002.1 then some (.inl a10002.2) else (if gj_in a10002.1 17 then (if gj_in (a10002.2.1 ((b0 + 16) + 1) (Int32.toNatClampNeg a10002.1)) 24 then (if gj_in a10002.1 17 then (if (a10002.2.1 ((b0 + 16) + 2) (Int32.toNatClampNeg a10002.1)) = 0 then (if gj_in (a10002.2.1 ((b0 + 16) + 1) (Int32.toNatClampNeg a10002.1)) 24 then ((some (gj_sI a10002.2 ((b0 + 1) + 6) (upd (a10002.2.1 ((b0 + 1) + 6)) (Int32.toNatClampNeg (a10002.2.1 ((b0 + 16) + 1) (Int32.toNatClampNeg a10002.1))) ((a10002.2.1 ((b0 + 1) + 6) (Int32.toNatClampNeg (a10002.2.1 ((b0 + 16) + 1) (Int32.toNatClampNeg a10002.1)))) + (0 - (a10002.2.1 (b0 + 16) 2)))))).bind fun s10205 => some (.inr ((a10002.1 + 1), s10205))) else none) else (if gj_in (a10002.2.1 ((b0 + 16) + 1) (Int32.toNatClampNeg a10002.1)) 24 then ((some (gj_sI a10002.2 ((b0 + 1) + 6) (upd (a10002.2.1 ((b0 + 1) + 6)) (Int32.toNatClampNeg (a10002.2.1 ((b0 + 16) + 1) (Int32.toNatClampNeg a10002.1))) ((a10002.2.1 ((b0 + 1) + 6) (Int32.toNatClampNeg (a10002.2.1 ((b0 + 16) + 1) (Int32.toNatClampNeg a10002.1)))) + (a10002.2.1 (b0 + 16) 2))))).bind fun s10207 => some (.inr ((a10002.1 + 1), s10207))) else none)) else none) else none) else none))
def f_X7_moveFlows (b0 : Nat) (σ : gj_S) : Option gj_S := ((gj_lp (fb_X7_moveFlows_l2 b0) 5000 ((0 : Int32), σ)).bind fun z1 => some z1)
set_option maxHeartbeats 4000000 in
set_option maxRecDepth 100000 in
theorem sb_X7_moveFlows_l2 {E : gj_E} {X : gj_X} {r : Option gj_V} {τ : gj_S} (hO : gj_O E X RX7 cX7_moveFlows 2 none 0 0) {b0 : Nat} (g0 : isY b0) {a10002_0 : Int32} {a10002_1 : gj_S} {x : gj_S ⊕ (Int32 × gj_S)} (hf : fb_X7_moveFlows_l2 b0 (a10002_0, a10002_1) = some x) (K : gj_K (fun z1 => gj_G E X 2 r τ 69 [] [] z1) (fun a10002 => gj_G E X 2 r τ 2 [(0, gj_r b0), (1, gj_i a10002.1)] [] a10002.2) x) : gj_G E X 2 r τ 2 [(0, gj_r b0), (1, gj_i a10002_0)] [] a10002_1 := by
  unfold fb_X7_moveFlows_l2 at hf
  dsimp only at hf
  refine gj_iload_n hO 1 dX7_moveFlows_2 rfl rfl ?_
  refine gj_aload_n hO 0 dX7_moveFlows_3 rfl rfl ?_
  refine gt_X7_2 hO (kdY_0 g0) (klY_0 g0) wk_321 dX7_moveFlows_4 ?_
  refine gt_X3_0 hO (kdR_0 (isY_R g0)) (klR_0 (isY_R g0)) wk_361 dX7_moveFlows_7 ?_
  refine gj_icmp_ge (tgt := 69) hO dX7_moveFlows_10 (by decide) (fun h => ?_) (fun h => ?_)
  · replace hf := gj_t h hf
    obtain rfl := Option.some.inj hf
    refine gj_sub (lv2 := []) [] rfl ?_
    exact K
  · replace hf := gj_f h hf
    refine gj_aload_n hO 0 dX7_moveFlows_13 rfl rfl ?_
    refine gt_X7_0 hO (kdY_0 g0) (klY_0 g0) wk_167 dX7_moveFlows_14 ?_
    refine gt_X1_10 hO (kdP_0 (isY_P g0)) (klP_0 (isY_P g0)) wk_362 dX7_moveFlows_17 ?_
    refine gj_aload_n hO 0 dX7_moveFlows_20 rfl rfl ?_
    refine gt_X7_2 hO (kdY_0 g0) (klY_0 g0) wk_321 dX7_moveFlows_21 ?_
    refine gt_X3_3 hO (kdR_0 (isY_R g0)) (klR_0 (isY_R g0)) wk_363 dX7_moveFlows_24 ?_
    refine gj_iload_n hO 1 dX7_moveFlows_27 rfl rfl ?_
    obtain ⟨hb10201, hf⟩ := gj_c hf
    refine gj_iald hO (klR_1 (isY_R g0)) (kdR_1 (isY_R g0)) hb10201 dX7_moveFlows_28 ?_
    refine gj_dup2 hO dX7_moveFlows_29 trivial trivial ?_
    obtain ⟨hb10202, hf⟩ := gj_c hf
    refine gj_iald hO (klP_6 (isY_P g0)) (kdP_6 (isY_P g0)) hb10202 dX7_moveFlows_30 ?_
    refine gj_aload_n hO 0 dX7_moveFlows_31 rfl rfl ?_
    refine gt_X7_2 hO (kdY_0 g0) (klY_0 g0) wk_321 dX7_moveFlows_32 ?_
    refine gt_X3_4 hO (kdR_0 (isY_R g0)) (klR_0 (isY_R g0)) wk_364 dX7_moveFlows_35 ?_
    refine gj_iload_n hO 1 dX7_moveFlows_38 rfl rfl ?_
    obtain ⟨hb10203, hf⟩ := gj_c hf
    refine gj_zald hO (klR_2 (isY_R g0)) (kdR_2 (isY_R g0)) hb10203 dX7_moveFlows_39 ?_
    refine gj_if_eq (tgt := 53) hO dX7_moveFlows_40 (by decide) (fun h => ?_) (fun h => ?_)
    · replace hf := gj_t h hf
      refine gj_aload_n hO 0 dX7_moveFlows_53 rfl rfl ?_
      refine gt_X7_2 hO (kdY_0 g0) (klY_0 g0) wk_321 dX7_moveFlows_54 ?_
      refine gt_X3_2 hO (kdR_0 (isY_R g0)) (klR_0 (isY_R g0)) wk_365 dX7_moveFlows_57 ?_
      refine gj_ineg hO dX7_moveFlows_60 ?_
      refine gj_iadd hO dX7_moveFlows_61 ?_
      obtain ⟨hb10204, hf⟩ := gj_c hf
      refine gj_iast hO (klP_6 (isY_P g0)) (kdP_6 (isY_P g0)) hb10204 dX7_moveFlows_62 ?_
      obtain ⟨s10205, e10205, hf⟩ := gj_b hf
      refine gj_eqS (Option.some.inj e10205) ?_
      refine gj_iinc (v := (a10002_0 + 1)) (lv2 := [(1, gj_i (a10002_0 + 1)), (0, gj_r b0)]) hO 1 dX7_moveFlows_63 rfl rfl (by decide) rfl ?_
      refine gj_goto (tgt := 2) hO dX7_moveFlows_66 (by decide) ?_
      obtain rfl := Option.some.inj hf
      refine gj_sub (lv2 := [(0, gj_r b0), (1, gj_i (a10002_0 + 1))]) [1, 0] rfl ?_
      exact K
    · replace hf := gj_f h hf
      refine gj_aload_n hO 0 dX7_moveFlows_43 rfl rfl ?_
      refine gt_X7_2 hO (kdY_0 g0) (klY_0 g0) wk_321 dX7_moveFlows_44 ?_
      refine gt_X3_2 hO (kdR_0 (isY_R g0)) (klR_0 (isY_R g0)) wk_365 dX7_moveFlows_47 ?_
      refine gj_goto (tgt := 61) hO dX7_moveFlows_50 (by decide) ?_
      refine gj_iadd hO dX7_moveFlows_61 ?_
      obtain ⟨hb10206, hf⟩ := gj_c hf
      refine gj_iast hO (klP_6 (isY_P g0)) (kdP_6 (isY_P g0)) hb10206 dX7_moveFlows_62 ?_
      obtain ⟨s10207, e10207, hf⟩ := gj_b hf
      refine gj_eqS (Option.some.inj e10207) ?_
      refine gj_iinc (v := (a10002_0 + 1)) (lv2 := [(1, gj_i (a10002_0 + 1)), (0, gj_r b0)]) hO 1 dX7_moveFlows_63 rfl rfl (by decide) rfl ?_
      refine gj_goto (tgt := 2) hO dX7_moveFlows_66 (by decide) ?_
      obtain rfl := Option.some.inj hf
      refine gj_sub (lv2 := [(0, gj_r b0), (1, gj_i (a10002_0 + 1))]) [1, 0] rfl ?_
      exact K
set_option maxHeartbeats 4000000 in
set_option maxRecDepth 100000 in
theorem m_X7_moveFlows {E : gj_E} {σ : gj_S} {b0 : Nat} (g0 : isY b0) {x : gj_S} (hf : f_X7_moveFlows b0 σ = some x) : gj_M E yX7_moveFlows cX7_moveFlows 2 none 0 0 [gj_r b0] σ none x := by
  refine gj_body (lv := [(0, gj_r b0)]) (by decide +kernel) (Nat.le_of_ble_eq_true rfl) rfl (fun X hO => ?_)
  replace hO : gj_O E X RX7 cX7_moveFlows 2 none 0 0 := hO
  unfold f_X7_moveFlows at hf
  refine gj_iconst (v := 0) hO dX7_moveFlows_0 (by decide) ?_
  refine gj_istore_n (lv2 := [(1, gj_i (0 : Int32)), (0, gj_r b0)]) hO dX7_moveFlows_1 rfl (by decide) rfl ?_
  obtain ⟨z1, hz1, hf⟩ := gj_b hf
  have J1 : gj_G E X 2 none x 69 [] [] z1 := by
    obtain rfl := Option.some.inj hf
    exact gj_vret hO dX7_moveFlows_69
  refine gj_sub (lv2 := [(0, gj_r b0), (1, gj_i (0 : Int32))]) [1, 0] rfl ?_
  exact gj_loop (head := fun a10002 => gj_G E X 2 none x 2 [(0, gj_r b0), (1, gj_i a10002.1)] [] a10002.2) (exit := fun z1 => gj_G E X 2 none x 69 [] [] z1) (fun a10002 x hf K => by obtain ⟨a10002_0, a10002_1⟩ := a10002; exact sb_X7_moveFlows_l2 hO g0 hf K) _ _ _ hz1 J1
set_option maxHeartbeats 4000000 in
set_option maxRecDepth 100000 in
theorem ca_X7_moveFlows {E : gj_E} {X : gj_X} {own : String} {cc : ByteArray} {nL : Nat} {rt : Option FieldType} {fr lo : Nat} {ce sl : Nat} {Q : State → Prop} {pc : Nat} {lv : List (Nat × gj_V)} {st : List gj_V} {σ : gj_S} (hO : gj_O E X own cc nL rt fr lo) {b0 : Nat} (g0 : isY b0) {idx : Nat} {x : gj_S} (hf : f_X7_moveFlows b0 σ = some x) (hl : Cond.methodLink own idx yX7_moveFlows ∈ gj_gw) (hf1 : 1 ≤ fr) (hf2 : 21 ≤ lo) (hcat : ((st.map (gj_tv E.2.1)).map fun v => v.category).sum ≤ 8) (hd : decode cc pc = .ok (.invokevirtual idx, 3)) (k : gj_H E X nL ce sl Q (pc + 3) lv (st) x) : gj_H E X nL ce sl Q pc lv (gj_r b0 :: st) σ :=
  gj_callV hO (o := b0) (vs := []) (m_X7_moveFlows g0 hf) (gj_Iany (by decide)) hl wk_366 wk_367 wk_171 wk_368 (klY_0 g0) (kdY_0 g0) (by decide) (ci := 7) rfl (n := 0) (by decide +kernel) rfl hf1 hf2 rfl hcat hd k
def f_X3_leavesAlong (b0 : Nat) (σ : gj_S) : Option Int32 := (if gj_in (σ.1 b0 5) 17 then (if (σ.1 (b0 + 2) (Int32.toNatClampNeg (σ.1 b0 5))) = 0 ∨ (σ.1 (b0 + 2) (Int32.toNatClampNeg (σ.1 b0 5))) = 1 then some (σ.1 (b0 + 2) (Int32.toNatClampNeg (σ.1 b0 5))) else none) else none)
set_option maxHeartbeats 4000000 in
set_option maxRecDepth 100000 in
theorem m_X3_leavesAlong {E : gj_E} {σ : gj_S} {b0 : Nat} (g0 : isR b0) {x : Int32} (hf : f_X3_leavesAlong b0 σ = some x) : gj_M E yX3_leavesAlong cX3_leavesAlong 1 (some .boolean) 0 0 [gj_r b0] σ (some (gj_i x)) σ := by
  refine gj_body (lv := [(0, gj_r b0)]) (by decide +kernel) (Nat.le_of_ble_eq_true rfl) rfl (fun X hO => ?_)
  replace hO : gj_O E X RX3 cX3_leavesAlong 1 (some .boolean) 0 0 := hO
  unfold f_X3_leavesAlong at hf
  refine gj_aload_n hO 0 dX3_leavesAlong_0 rfl rfl ?_
  refine gt_X3_4 hO (kdR_0 g0) (klR_0 g0) wk_290 dX3_leavesAlong_1 ?_
  refine gj_aload_n hO 0 dX3_leavesAlong_4 rfl rfl ?_
  refine gt_X3_5 hO (kdR_0 g0) (klR_0 g0) wk_301 dX3_leavesAlong_5 ?_
  obtain ⟨hb1, hf⟩ := gj_c hf
  refine gj_zald hO (klR_2 g0) (kdR_2 g0) hb1 dX3_leavesAlong_8 ?_
  obtain ⟨hb2, hf⟩ := gj_c hf
  obtain rfl := Option.some.inj hf
  exact gj_zret hO hb2 dX3_leavesAlong_9
set_option maxHeartbeats 4000000 in
set_option maxRecDepth 100000 in
theorem ca_X3_leavesAlong {E : gj_E} {X : gj_X} {own : String} {cc : ByteArray} {nL : Nat} {rt : Option FieldType} {fr lo : Nat} {ce sl : Nat} {Q : State → Prop} {pc : Nat} {lv : List (Nat × gj_V)} {st : List gj_V} {σ : gj_S} (hO : gj_O E X own cc nL rt fr lo) {b0 : Nat} (g0 : isR b0) {idx : Nat} {x : Int32} (hf : f_X3_leavesAlong b0 σ = some x) (hl : Cond.methodLink own idx yX3_leavesAlong ∈ gj_gw) (hf1 : 1 ≤ fr) (hf2 : 20 ≤ lo) (hcat : ((st.map (gj_tv E.2.1)).map fun v => v.category).sum ≤ 8) (hd : decode cc pc = .ok (.invokevirtual idx, 3)) (k : gj_H E X nL ce sl Q (pc + 3) lv ((gj_i x) :: st) σ) : gj_H E X nL ce sl Q pc lv (gj_r b0 :: st) σ :=
  gj_callV hO (o := b0) (vs := []) (m_X3_leavesAlong g0 hf) (gj_Iany (by decide)) hl wk_369 wk_370 wk_294 wk_371 (klR_0 g0) (kdR_0 g0) (by decide) (ci := 3) rfl (n := 0) (by decide +kernel) rfl hf1 hf2 rfl hcat hd k
def f_X7_exchange (b0 : Nat) (b1 : Int32) (σ : gj_S) : Option gj_S := ((f_X3_leavingWay (b0 + 16) σ).bind fun x1 => (if gj_in b1 24 then ((f_X3_leavesAlong (b0 + 16) (gj_sI σ ((b0 + 1) + 7) (upd (σ.1 ((b0 + 1) + 7)) (Int32.toNatClampNeg b1) (0 : Int32)))).bind fun x3 => (if x3 = 0 then (if gj_in x1 24 then ((some (gj_sI (gj_sI σ ((b0 + 1) + 7) (upd (σ.1 ((b0 + 1) + 7)) (Int32.toNatClampNeg b1) (0 : Int32))) ((b0 + 1) + 7) (upd ((gj_sI σ ((b0 + 1) + 7) (upd (σ.1 ((b0 + 1) + 7)) (Int32.toNatClampNeg b1) (0 : Int32))).1 ((b0 + 1) + 7)) (Int32.toNatClampNeg x1) (1 : Int32)))).bind fun s5 => some s5) else none) else (if gj_in x1 24 then ((some (gj_sI (gj_sI σ ((b0 + 1) + 7) (upd (σ.1 ((b0 + 1) + 7)) (Int32.toNatClampNeg b1) (0 : Int32))) ((b0 + 1) + 7) (upd ((gj_sI σ ((b0 + 1) + 7) (upd (σ.1 ((b0 + 1) + 7)) (Int32.toNatClampNeg b1) (0 : Int32))).1 ((b0 + 1) + 7)) (Int32.toNatClampNeg x1) (2 : Int32)))).bind fun s7 => some s7) else none))) else none))
set_option maxHeartbeats 4000000 in
set_option maxRecDepth 100000 in
theorem m_X7_exchange {E : gj_E} {σ : gj_S} {b0 : Nat} {b1 : Int32} (g0 : isY b0) {x : gj_S} (hf : f_X7_exchange b0 b1 σ = some x) : gj_M E yX7_exchange cX7_exchange 3 none 1 20 [gj_r b0, gj_i b1] σ none x := by
  refine gj_body (lv := [(0, gj_r b0), (1, gj_i b1)]) (by decide +kernel) (Nat.le_of_ble_eq_true rfl) rfl (fun X hO => ?_)
  replace hO : gj_O E X RX7 cX7_exchange 3 none 1 20 := hO
  unfold f_X7_exchange at hf
  refine gj_aload_n hO 0 dX7_exchange_0 rfl rfl ?_
  refine gt_X7_2 hO (kdY_0 g0) (klY_0 g0) wk_321 dX7_exchange_1 ?_
  obtain ⟨x1, hc1, hf⟩ := gj_b hf
  refine ca_X3_leavingWay hO (isY_R g0) hc1 wk_372 (by decide) (by decide) (Nat.le_of_ble_eq_true rfl) dX7_exchange_4 ?_
  refine gj_istore_n (lv2 := [(2, gj_i x1), (0, gj_r b0), (1, gj_i b1)]) hO dX7_exchange_7 rfl (by decide) rfl ?_
  refine gj_aload_n hO 1 dX7_exchange_8 rfl rfl ?_
  refine gt_X7_0 hO (kdY_0 g0) (klY_0 g0) wk_167 dX7_exchange_9 ?_
  refine gt_X1_11 hO (kdP_0 (isY_P g0)) (klP_0 (isY_P g0)) wk_263 dX7_exchange_12 ?_
  refine gj_iload_n hO 2 dX7_exchange_15 rfl rfl ?_
  refine gj_iconst (v := 0) hO dX7_exchange_16 (by decide) ?_
  obtain ⟨hb2, hf⟩ := gj_c hf
  refine gj_iast hO (klP_7 (isY_P g0)) (kdP_7 (isY_P g0)) hb2 dX7_exchange_17 ?_
  refine gj_aload_n hO 1 dX7_exchange_18 rfl rfl ?_
  refine gt_X7_0 hO (kdY_0 g0) (klY_0 g0) wk_167 dX7_exchange_19 ?_
  refine gt_X1_11 hO (kdP_0 (isY_P g0)) (klP_0 (isY_P g0)) wk_263 dX7_exchange_22 ?_
  refine gj_iload_n hO 0 dX7_exchange_25 rfl rfl ?_
  refine gj_aload_n hO 1 dX7_exchange_26 rfl rfl ?_
  refine gt_X7_2 hO (kdY_0 g0) (klY_0 g0) wk_321 dX7_exchange_27 ?_
  obtain ⟨x3, hc3, hf⟩ := gj_b hf
  refine ca_X3_leavesAlong hO (isY_R g0) hc3 wk_373 (by decide) (by decide) (Nat.le_of_ble_eq_true rfl) dX7_exchange_30 ?_
  refine gj_if_eq (tgt := 40) hO dX7_exchange_33 (by decide) (fun h => ?_) (fun h => ?_)
  · replace hf := gj_t h hf
    refine gj_iconst (v := 1) hO dX7_exchange_40 (by decide) ?_
    obtain ⟨hb4, hf⟩ := gj_c hf
    refine gj_iast hO (klP_7 (isY_P g0)) (kdP_7 (isY_P g0)) hb4 dX7_exchange_41 ?_
    obtain ⟨s5, e5, hf⟩ := gj_b hf
    refine gj_eqS (Option.some.inj e5) ?_
    obtain rfl := Option.some.inj hf
    exact gj_vret hO dX7_exchange_42
  · replace hf := gj_f h hf
    refine gj_iconst (v := 2) hO dX7_exchange_36 (by decide) ?_
    refine gj_goto (tgt := 41) hO dX7_exchange_37 (by decide) ?_
    obtain ⟨hb6, hf⟩ := gj_c hf
    refine gj_iast hO (klP_7 (isY_P g0)) (kdP_7 (isY_P g0)) hb6 dX7_exchange_41 ?_
    obtain ⟨s7, e7, hf⟩ := gj_b hf
    refine gj_eqS (Option.some.inj e7) ?_
    obtain rfl := Option.some.inj hf
    exact gj_vret hO dX7_exchange_42
set_option maxHeartbeats 4000000 in
set_option maxRecDepth 100000 in
theorem ca_X7_exchange {E : gj_E} {X : gj_X} {own : String} {cc : ByteArray} {nL : Nat} {rt : Option FieldType} {fr lo : Nat} {ce sl : Nat} {Q : State → Prop} {pc : Nat} {lv : List (Nat × gj_V)} {st : List gj_V} {σ : gj_S} (hO : gj_O E X own cc nL rt fr lo) {b0 : Nat} {b1 : Int32} (g0 : isY b0) {idx : Nat} {x : gj_S} (hf : f_X7_exchange b0 b1 σ = some x) (hl : Cond.methodLink own idx yX7_exchange ∈ gj_gw) (hf1 : 2 ≤ fr) (hf2 : 42 ≤ lo) (hcat : ((st.map (gj_tv E.2.1)).map fun v => v.category).sum ≤ 8) (hd : decode cc pc = .ok (.invokevirtual idx, 3)) (k : gj_H E X nL ce sl Q (pc + 3) lv (st) x) : gj_H E X nL ce sl Q pc lv (gj_i b1 :: gj_r b0 :: st) σ :=
  gj_callV hO (o := b0) (vs := [gj_i b1]) (m_X7_exchange g0 hf) (gj_Iany (by decide)) hl wk_374 wk_375 wk_171 wk_376 (klY_0 g0) (kdY_0 g0) (by decide) (ci := 7) rfl (n := 1) (by decide +kernel) rfl hf1 hf2 rfl hcat hd k
def fb_X5_countMoved_l4 (b0 : Nat) (b1 : Int32) (σ : gj_S) (a10004 : (Int32 × Int32)) : Option (Int32 ⊕ (Int32 × Int32)) := (if b1 ≤ a10004.2 then some (.inl a10004.1) else (if gj_in a10004.2 9 then (if gj_in a10004.2 9 then (if (σ.1 (b0 + 4) (Int32.toNatClampNeg a10004.2)) = (σ.1 (b0 + 5) (Int32.toNatClampNeg a10004.2)) then some (.inr ((a10004.1 + (0 : Int32)), (a10004.2 + 1))) else some (.inr ((a10004.1 + (1 : Int32)), (a10004.2 + 1)))) else none) else none))
def f_X5_countMoved (b0 : Nat) (b1 : Int32) (σ : gj_S) : Option Int32 := ((gj_lp (fb_X5_countMoved_l4 b0 b1 σ) 5000 ((0 : Int32), (0 : Int32))).bind fun z1 => some z1)
set_option maxHeartbeats 4000000 in
set_option maxRecDepth 100000 in
theorem sb_X5_countMoved_l4 {E : gj_E} {X : gj_X} {r : Option gj_V} {τ : gj_S} (hO : gj_O E X RX5 cX5_countMoved 4 (some .int) 0 0) {b0 : Nat} {b1 : Int32} {σ : gj_S} (g0 : isT b0) {a10004_0 : Int32} {a10004_1 : Int32} {x : Int32 ⊕ (Int32 × Int32)} (hf : fb_X5_countMoved_l4 b0 b1 σ (a10004_0, a10004_1) = some x) (K : gj_K (fun z1 => gj_G E X 4 r τ 38 [(2, gj_i z1)] [] σ) (fun a10004 => gj_G E X 4 r τ 4 [(0, gj_r b0), (1, gj_i b1), (2, gj_i a10004.1), (3, gj_i a10004.2)] [] σ) x) : gj_G E X 4 r τ 4 [(0, gj_r b0), (1, gj_i b1), (2, gj_i a10004_0), (3, gj_i a10004_1)] [] σ := by
  unfold fb_X5_countMoved_l4 at hf
  dsimp only at hf
  refine gj_iload_n hO 3 dX5_countMoved_4 rfl rfl ?_
  refine gj_iload_n hO 1 dX5_countMoved_5 rfl rfl ?_
  refine gj_icmp_ge (tgt := 38) hO dX5_countMoved_6 (by decide) (fun h => ?_) (fun h => ?_)
  · replace hf := gj_t h hf
    obtain rfl := Option.some.inj hf
    refine gj_sub (lv2 := [(2, gj_i a10004_0)]) [2] rfl ?_
    exact K
  · replace hf := gj_f h hf
    refine gj_iload_n hO 2 dX5_countMoved_9 rfl rfl ?_
    refine gj_aload_n hO 0 dX5_countMoved_10 rfl rfl ?_
    refine gt_X5_3 hO (kdT_0 g0) (klT_0 g0) wk_146 dX5_countMoved_11 ?_
    refine gj_iload_n hO 3 dX5_countMoved_14 rfl rfl ?_
    obtain ⟨hb10401, hf⟩ := gj_c hf
    refine gj_iald hO (klT_4 g0) (kdT_4 g0) hb10401 dX5_countMoved_15 ?_
    refine gj_aload_n hO 0 dX5_countMoved_16 rfl rfl ?_
    refine gt_X5_4 hO (kdT_0 g0) (klT_0 g0) wk_158 dX5_countMoved_17 ?_
    refine gj_iload_n hO 3 dX5_countMoved_20 rfl rfl ?_
    obtain ⟨hb10402, hf⟩ := gj_c hf
    refine gj_iald hO (klT_5 g0) (kdT_5 g0) hb10402 dX5_countMoved_21 ?_
    refine gj_icmp_ne (tgt := 29) hO dX5_countMoved_22 (by decide) (fun h => ?_) (fun h => ?_)
    · replace hf := gj_f h hf
      refine gj_iconst (v := 1) hO dX5_countMoved_29 (by decide) ?_
      refine gj_iadd hO dX5_countMoved_30 ?_
      refine gj_istore_n (lv2 := [(2, gj_i (a10004_0 + (1 : Int32))), (0, gj_r b0), (1, gj_i b1), (3, gj_i a10004_1)]) hO dX5_countMoved_31 rfl (by decide) rfl ?_
      refine gj_iinc (v := (a10004_1 + 1)) (lv2 := [(3, gj_i (a10004_1 + 1)), (2, gj_i (a10004_0 + (1 : Int32))), (0, gj_r b0), (1, gj_i b1)]) hO 3 dX5_countMoved_32 rfl rfl (by decide) rfl ?_
      refine gj_goto (tgt := 4) hO dX5_countMoved_35 (by decide) ?_
      obtain rfl := Option.some.inj hf
      refine gj_sub (lv2 := [(0, gj_r b0), (1, gj_i b1), (2, gj_i (a10004_0 + (1 : Int32))), (3, gj_i (a10004_1 + 1))]) [2, 3, 1, 0] rfl ?_
      exact K
    · replace hf := gj_t h hf
      refine gj_iconst (v := 0) hO dX5_countMoved_25 (by decide) ?_
      refine gj_goto (tgt := 30) hO dX5_countMoved_26 (by decide) ?_
      refine gj_iadd hO dX5_countMoved_30 ?_
      refine gj_istore_n (lv2 := [(2, gj_i (a10004_0 + (0 : Int32))), (0, gj_r b0), (1, gj_i b1), (3, gj_i a10004_1)]) hO dX5_countMoved_31 rfl (by decide) rfl ?_
      refine gj_iinc (v := (a10004_1 + 1)) (lv2 := [(3, gj_i (a10004_1 + 1)), (2, gj_i (a10004_0 + (0 : Int32))), (0, gj_r b0), (1, gj_i b1)]) hO 3 dX5_countMoved_32 rfl rfl (by decide) rfl ?_
      refine gj_goto (tgt := 4) hO dX5_countMoved_35 (by decide) ?_
      obtain rfl := Option.some.inj hf
      refine gj_sub (lv2 := [(0, gj_r b0), (1, gj_i b1), (2, gj_i (a10004_0 + (0 : Int32))), (3, gj_i (a10004_1 + 1))]) [2, 3, 1, 0] rfl ?_
      exact K
set_option maxHeartbeats 4000000 in
set_option maxRecDepth 100000 in
theorem m_X5_countMoved {E : gj_E} {σ : gj_S} {b0 : Nat} {b1 : Int32} (g0 : isT b0) {x : Int32} (hf : f_X5_countMoved b0 b1 σ = some x) : gj_M E yX5_countMoved cX5_countMoved 4 (some .int) 0 0 [gj_r b0, gj_i b1] σ (some (gj_i x)) σ := by
  refine gj_body (lv := [(0, gj_r b0), (1, gj_i b1)]) (by decide +kernel) (Nat.le_of_ble_eq_true rfl) rfl (fun X hO => ?_)
  replace hO : gj_O E X RX5 cX5_countMoved 4 (some .int) 0 0 := hO
  unfold f_X5_countMoved at hf
  refine gj_iconst (v := 0) hO dX5_countMoved_0 (by decide) ?_
  refine gj_istore_n (lv2 := [(2, gj_i (0 : Int32)), (0, gj_r b0), (1, gj_i b1)]) hO dX5_countMoved_1 rfl (by decide) rfl ?_
  refine gj_iconst (v := 0) hO dX5_countMoved_2 (by decide) ?_
  refine gj_istore_n (lv2 := [(3, gj_i (0 : Int32)), (2, gj_i (0 : Int32)), (0, gj_r b0), (1, gj_i b1)]) hO dX5_countMoved_3 rfl (by decide) rfl ?_
  obtain ⟨z1, hz1, hf⟩ := gj_b hf
  have J1 : gj_G E X 4 (some (gj_i x)) σ 38 [(2, gj_i z1)] [] σ := by
    refine gj_iload_n hO 0 dX5_countMoved_38 rfl rfl ?_
    obtain rfl := Option.some.inj hf
    exact gj_iret hO dX5_countMoved_39
  refine gj_sub (lv2 := [(0, gj_r b0), (1, gj_i b1), (2, gj_i (0 : Int32)), (3, gj_i (0 : Int32))]) [2, 3, 1, 0] rfl ?_
  exact gj_loop (head := fun a10004 => gj_G E X 4 (some (gj_i x)) σ 4 [(0, gj_r b0), (1, gj_i b1), (2, gj_i a10004.1), (3, gj_i a10004.2)] [] σ) (exit := fun z1 => gj_G E X 4 (some (gj_i x)) σ 38 [(2, gj_i z1)] [] σ) (fun a10004 x hf K => by obtain ⟨a10004_0, a10004_1⟩ := a10004; exact sb_X5_countMoved_l4 hO g0 hf K) _ _ _ hz1 J1
set_option maxHeartbeats 4000000 in
set_option maxRecDepth 100000 in
theorem ca_X5_countMoved {E : gj_E} {X : gj_X} {own : String} {cc : ByteArray} {nL : Nat} {rt : Option FieldType} {fr lo : Nat} {ce sl : Nat} {Q : State → Prop} {pc : Nat} {lv : List (Nat × gj_V)} {st : List gj_V} {σ : gj_S} (hO : gj_O E X own cc nL rt fr lo) {b0 : Nat} {b1 : Int32} (g0 : isT b0) {idx : Nat} {x : Int32} (hf : f_X5_countMoved b0 b1 σ = some x) (hl : Cond.methodLink own idx yX5_countMoved ∈ gj_gw) (hf1 : 1 ≤ fr) (hf2 : 23 ≤ lo) (hcat : ((st.map (gj_tv E.2.1)).map fun v => v.category).sum ≤ 8) (hd : decode cc pc = .ok (.invokevirtual idx, 3)) (k : gj_H E X nL ce sl Q (pc + 3) lv ((gj_i x) :: st) σ) : gj_H E X nL ce sl Q pc lv (gj_i b1 :: gj_r b0 :: st) σ :=
  gj_callV hO (o := b0) (vs := [gj_i b1]) (m_X5_countMoved g0 hf) (gj_Iany (by decide)) hl wk_377 wk_378 wk_149 wk_379 (klT_0 g0) (kdT_0 g0) (by decide) (ci := 5) rfl (n := 1) (by decide +kernel) rfl hf1 hf2 rfl hcat hd k
def f_J9_floorMod_7cf53 (b0 : Int32) (b1 : Int32) : Option Int32 := (if ¬ b1 = 0 then (if 0 ≤ (b0 ^^^ b1) then some (b0 - b0 / b1 * b1) else (if (b0 - b0 / b1 * b1) = 0 then some (b0 - b0 / b1 * b1) else some ((b0 - b0 / b1 * b1) + b1))) else none)
set_option maxHeartbeats 4000000 in
set_option maxRecDepth 100000 in
theorem m_J9_floorMod_7cf53 {E : gj_E} {σ : gj_S} {b0 : Int32} {b1 : Int32}  {x : Int32} (hf : f_J9_floorMod_7cf53 b0 b1 = some x) : gj_M E yJ9_floorMod_7cf53 cJ9_floorMod_7cf53 3 (some .int) 0 0 [gj_i b0, gj_i b1] σ (some (gj_i x)) σ := by
  refine gj_body (lv := [(0, gj_i b0), (1, gj_i b1)]) (by decide +kernel) (Nat.le_of_ble_eq_true rfl) rfl (fun X hO => ?_)
  replace hO : gj_O E X RJ9 cJ9_floorMod_7cf53 3 (some .int) 0 0 := hO
  unfold f_J9_floorMod_7cf53 at hf
  refine gj_iload_n hO 0 dJ9_floorMod_7cf53_0 rfl rfl ?_
  refine gj_iload_n hO 1 dJ9_floorMod_7cf53_1 rfl rfl ?_
  obtain ⟨hb1, hf⟩ := gj_c hf
  refine gj_irem hO dJ9_floorMod_7cf53_2 hb1 ?_
  refine gj_istore_n (lv2 := [(2, gj_i (b0 - b0 / b1 * b1)), (0, gj_i b0), (1, gj_i b1)]) hO dJ9_floorMod_7cf53_3 rfl (by decide) rfl ?_
  refine gj_iload_n hO 1 dJ9_floorMod_7cf53_4 rfl rfl ?_
  refine gj_iload_n hO 2 dJ9_floorMod_7cf53_5 rfl rfl ?_
  refine gj_ixor hO dJ9_floorMod_7cf53_6 ?_
  refine gj_if_ge (tgt := 18) hO dJ9_floorMod_7cf53_7 (by decide) (fun h => ?_) (fun h => ?_)
  · replace hf := gj_t h hf
    refine gj_iload_n hO 0 dJ9_floorMod_7cf53_18 rfl rfl ?_
    obtain rfl := Option.some.inj hf
    exact gj_iret hO dJ9_floorMod_7cf53_19
  · replace hf := gj_f h hf
    refine gj_iload_n hO 0 dJ9_floorMod_7cf53_10 rfl rfl ?_
    refine gj_if_eq (tgt := 18) hO dJ9_floorMod_7cf53_11 (by decide) (fun h => ?_) (fun h => ?_)
    · replace hf := gj_t h hf
      refine gj_iload_n hO 0 dJ9_floorMod_7cf53_18 rfl rfl ?_
      obtain rfl := Option.some.inj hf
      exact gj_iret hO dJ9_floorMod_7cf53_19
    · replace hf := gj_f h hf
      refine gj_iload_n hO 0 dJ9_floorMod_7cf53_14 rfl rfl ?_
      refine gj_iload_n hO 2 dJ9_floorMod_7cf53_15 rfl rfl ?_
      refine gj_iadd hO dJ9_floorMod_7cf53_16 ?_
      obtain rfl := Option.some.inj hf
      exact gj_iret hO dJ9_floorMod_7cf53_17
set_option maxHeartbeats 4000000 in
set_option maxRecDepth 100000 in
theorem ca_J9_floorMod_7cf53 {E : gj_E} {X : gj_X} {own : String} {cc : ByteArray} {nL : Nat} {rt : Option FieldType} {fr lo : Nat} {ce sl : Nat} {Q : State → Prop} {pc : Nat} {lv : List (Nat × gj_V)} {st : List gj_V} {σ : gj_S} (hO : gj_O E X own cc nL rt fr lo) {b0 : Int32} {b1 : Int32}  {idx : Nat} {x : Int32} (hf : f_J9_floorMod_7cf53 b0 b1 = some x) (hl : Cond.methodLink own idx yJ9_floorMod_7cf53 ∈ gj_gw) (hf1 : 1 ≤ fr) (hf2 : 22 ≤ lo) (hcat : ((st.map (gj_tv E.2.1)).map fun v => v.category).sum ≤ 8) (hd : decode cc pc = .ok (.invokestatic idx, 3)) (k : gj_H E X nL ce sl Q (pc + 3) lv ((gj_i x) :: st) σ) : gj_H E X nL ce sl Q pc lv (gj_i b1 :: gj_i b0 :: st) σ :=
  gj_callS hO (vs := [gj_i b0, gj_i b1]) (m_J9_floorMod_7cf53 (σ := σ)  hf) (gj_Iany (by decide)) hl wk_380 wk_381 wk_382 (n := 2) (by decide +kernel) rfl hf1 hf2 rfl hcat hd k
def f_X1_writeLog (b0 : Nat) (b1 : Int32) (b2 : Nat) (b3 : Int32) (σ : gj_S) : Option gj_S := ((f_J9_floorMod_7cf53 (σ.1 b0 4) (16 : Int32)).bind fun x1 => (if gj_in (x1 * (5 : Int32)) 80 then ((f_X3_leavingWay b2 (gj_sI σ (b0 + 8) (upd (σ.1 (b0 + 8)) (Int32.toNatClampNeg (x1 * (5 : Int32))) b1))).bind fun x3 => (if gj_in ((x1 * (5 : Int32)) + (1 : Int32)) 80 then ((some (gj_sI (gj_sI σ (b0 + 8) (upd (σ.1 (b0 + 8)) (Int32.toNatClampNeg (x1 * (5 : Int32))) b1)) (b0 + 8) (upd ((gj_sI σ (b0 + 8) (upd (σ.1 (b0 + 8)) (Int32.toNatClampNeg (x1 * (5 : Int32))) b1)).1 (b0 + 8)) (Int32.toNatClampNeg ((x1 * (5 : Int32)) + (1 : Int32))) x3))).bind fun s5 => (if gj_in ((x1 * (5 : Int32)) + (2 : Int32)) 80 then (if gj_in ((x1 * (5 : Int32)) + (3 : Int32)) 80 then ((some (gj_sI (gj_sI s5 (b0 + 8) (upd (s5.1 (b0 + 8)) (Int32.toNatClampNeg ((x1 * (5 : Int32)) + (2 : Int32))) (s5.1 b2 2))) (b0 + 8) (upd ((gj_sI s5 (b0 + 8) (upd (s5.1 (b0 + 8)) (Int32.toNatClampNeg ((x1 * (5 : Int32)) + (2 : Int32))) (s5.1 b2 2))).1 (b0 + 8)) (Int32.toNatClampNeg ((x1 * (5 : Int32)) + (3 : Int32))) ((gj_sI s5 (b0 + 8) (upd (s5.1 (b0 + 8)) (Int32.toNatClampNeg ((x1 * (5 : Int32)) + (2 : Int32))) (s5.1 b2 2))).1 b2 0)))).bind fun s8 => (if gj_in ((x1 * (5 : Int32)) + (4 : Int32)) 80 then ((some (gj_sI (gj_sI s8 (b0 + 8) (upd (s8.1 (b0 + 8)) (Int32.toNatClampNeg ((x1 * (5 : Int32)) + (4 : Int32))) b3)) b0 (upd ((gj_sI s8 (b0 + 8) (upd (s8.1 (b0 + 8)) (Int32.toNatClampNeg ((x1 * (5 : Int32)) + (4 : Int32))) b3)).1 b0) 4 (((gj_sI s8 (b0 + 8) (upd (s8.1 (b0 + 8)) (Int32.toNatClampNeg ((x1 * (5 : Int32)) + (4 : Int32))) b3)).1 b0 4) + (1 : Int32))))).bind fun s10 => some s10) else none)) else none) else none)) else none)) else none))
set_option maxHeartbeats 4000000 in
set_option maxRecDepth 100000 in
theorem m_X1_writeLog {E : gj_E} {σ : gj_S} {b0 : Nat} {b1 : Int32} {b2 : Nat} {b3 : Int32} (g0 : isP b0) (g2 : isR b2) {x : gj_S} (hf : f_X1_writeLog b0 b1 b2 b3 σ = some x) : gj_M E yX1_writeLog cX1_writeLog 5 none 1 22 [gj_r b0, gj_i b1, gj_r b2, gj_i b3] σ none x := by
  refine gj_body (lv := [(0, gj_r b0), (1, gj_i b1), (2, gj_r b2), (3, gj_i b3)]) (by decide +kernel) (Nat.le_of_ble_eq_true rfl) rfl (fun X hO => ?_)
  replace hO : gj_O E X RX1 cX1_writeLog 5 none 1 22 := hO
  unfold f_X1_writeLog at hf
  refine gj_aload_n hO 0 dX1_writeLog_0 rfl rfl ?_
  refine gt_X1_4 hO (kdP_0 g0) (klP_0 g0) wk_119 dX1_writeLog_1 ?_
  refine gj_bipush (v := 16) hO dX1_writeLog_4 (by decide) ?_
  obtain ⟨x1, hc1, hf⟩ := gj_b hf
  refine ca_J9_floorMod_7cf53 hO  hc1 wk_383 (by decide) (by decide) (Nat.le_of_ble_eq_true rfl) dX1_writeLog_6 ?_
  refine gj_iconst (v := 5) hO dX1_writeLog_9 (by decide) ?_
  refine gj_imul hO dX1_writeLog_10 ?_
  refine gj_istore (lv2 := [(4, gj_i (x1 * (5 : Int32))), (0, gj_r b0), (1, gj_i b1), (2, gj_r b2), (3, gj_i b3)]) hO dX1_writeLog_11 (by decide) rfl ?_
  refine gj_aload_n hO 1 dX1_writeLog_13 rfl rfl ?_
  refine gt_X1_12 hO (kdP_0 g0) (klP_0 g0) wk_128 dX1_writeLog_14 ?_
  refine gj_iload hO 0 dX1_writeLog_17 rfl ?_
  refine gj_iload_n hO 2 dX1_writeLog_19 rfl rfl ?_
  obtain ⟨hb2, hf⟩ := gj_c hf
  refine gj_iast hO (klP_8 g0) (kdP_8 g0) hb2 dX1_writeLog_20 ?_
  refine gj_aload_n hO 1 dX1_writeLog_21 rfl rfl ?_
  refine gt_X1_12 hO (kdP_0 g0) (klP_0 g0) wk_128 dX1_writeLog_22 ?_
  refine gj_iload hO 0 dX1_writeLog_25 rfl ?_
  refine gj_iconst (v := 1) hO dX1_writeLog_27 (by decide) ?_
  refine gj_iadd hO dX1_writeLog_28 ?_
  refine gj_aload_n hO 3 dX1_writeLog_29 rfl rfl ?_
  obtain ⟨x3, hc3, hf⟩ := gj_b hf
  refine ca_X3_leavingWay hO g2 hc3 wk_384 (by decide) (by decide) (Nat.le_of_ble_eq_true rfl) dX1_writeLog_30 ?_
  obtain ⟨hb4, hf⟩ := gj_c hf
  refine gj_iast hO (klP_8 g0) (kdP_8 g0) hb4 dX1_writeLog_33 ?_
  obtain ⟨s5, e5, hf⟩ := gj_b hf
  refine gj_eqS (Option.some.inj e5) ?_
  refine gj_aload_n hO 1 dX1_writeLog_34 rfl rfl ?_
  refine gt_X1_12 hO (kdP_0 g0) (klP_0 g0) wk_128 dX1_writeLog_35 ?_
  refine gj_iload hO 0 dX1_writeLog_38 rfl ?_
  refine gj_iconst (v := 2) hO dX1_writeLog_40 (by decide) ?_
  refine gj_iadd hO dX1_writeLog_41 ?_
  refine gj_aload_n hO 3 dX1_writeLog_42 rfl rfl ?_
  refine gt_X3_2 hO (kdR_0 g2) (klR_0 g2) wk_385 dX1_writeLog_43 ?_
  obtain ⟨hb6, hf⟩ := gj_c hf
  refine gj_iast hO (klP_8 g0) (kdP_8 g0) hb6 dX1_writeLog_46 ?_
  refine gj_aload_n hO 1 dX1_writeLog_47 rfl rfl ?_
  refine gt_X1_12 hO (kdP_0 g0) (klP_0 g0) wk_128 dX1_writeLog_48 ?_
  refine gj_iload hO 0 dX1_writeLog_51 rfl ?_
  refine gj_iconst (v := 3) hO dX1_writeLog_53 (by decide) ?_
  refine gj_iadd hO dX1_writeLog_54 ?_
  refine gj_aload_n hO 3 dX1_writeLog_55 rfl rfl ?_
  refine gt_X3_0 hO (kdR_0 g2) (klR_0 g2) wk_386 dX1_writeLog_56 ?_
  obtain ⟨hb7, hf⟩ := gj_c hf
  refine gj_iast hO (klP_8 g0) (kdP_8 g0) hb7 dX1_writeLog_59 ?_
  obtain ⟨s8, e8, hf⟩ := gj_b hf
  refine gj_eqS (Option.some.inj e8) ?_
  refine gj_aload_n hO 1 dX1_writeLog_60 rfl rfl ?_
  refine gt_X1_12 hO (kdP_0 g0) (klP_0 g0) wk_128 dX1_writeLog_61 ?_
  refine gj_iload hO 0 dX1_writeLog_64 rfl ?_
  refine gj_iconst (v := 4) hO dX1_writeLog_66 (by decide) ?_
  refine gj_iadd hO dX1_writeLog_67 ?_
  refine gj_iload_n hO 4 dX1_writeLog_68 rfl rfl ?_
  obtain ⟨hb9, hf⟩ := gj_c hf
  refine gj_iast hO (klP_8 g0) (kdP_8 g0) hb9 dX1_writeLog_69 ?_
  refine gj_aload_n hO 1 dX1_writeLog_70 rfl rfl ?_
  refine gj_dup hO dX1_writeLog_71 trivial ?_
  refine gt_X1_4 hO (kdP_0 g0) (klP_0 g0) wk_119 dX1_writeLog_72 ?_
  refine gj_iconst (v := 1) hO dX1_writeLog_75 (by decide) ?_
  refine gj_iadd hO dX1_writeLog_76 ?_
  refine pt_X1_4 hO (kdP_0 g0) (klP_0 g0) wk_119 dX1_writeLog_77 ?_
  obtain ⟨s10, e10, hf⟩ := gj_b hf
  refine gj_eqS (Option.some.inj e10) ?_
  obtain rfl := Option.some.inj hf
  exact gj_vret hO dX1_writeLog_80
set_option maxHeartbeats 4000000 in
set_option maxRecDepth 100000 in
theorem ca_X1_writeLog {E : gj_E} {X : gj_X} {own : String} {cc : ByteArray} {nL : Nat} {rt : Option FieldType} {fr lo : Nat} {ce sl : Nat} {Q : State → Prop} {pc : Nat} {lv : List (Nat × gj_V)} {st : List gj_V} {σ : gj_S} (hO : gj_O E X own cc nL rt fr lo) {b0 : Nat} {b1 : Int32} {b2 : Nat} {b3 : Int32} (g0 : isP b0) (g2 : isR b2) {idx : Nat} {x : gj_S} (hf : f_X1_writeLog b0 b1 b2 b3 σ = some x) (hl : Cond.methodLink own idx yX1_writeLog ∈ gj_gw) (hf1 : 2 ≤ fr) (hf2 : 46 ≤ lo) (hcat : ((st.map (gj_tv E.2.1)).map fun v => v.category).sum ≤ 8) (hd : decode cc pc = .ok (.invokevirtual idx, 3)) (k : gj_H E X nL ce sl Q (pc + 3) lv (st) x) : gj_H E X nL ce sl Q pc lv (gj_i b3 :: gj_r b2 :: gj_i b1 :: gj_r b0 :: st) σ :=
  gj_callV hO (o := b0) (vs := [gj_i b1, gj_r b2, gj_i b3]) (m_X1_writeLog g0 g2 hf) (gj_Iany (by decide)) hl wk_387 wk_388 wk_15 wk_389 (klP_0 g0) (kdP_0 g0) (by decide) (ci := 1) rfl (n := 3) (by decide +kernel) rfl hf1 hf2 rfl hcat hd k
def f_X7_makePivot (b0 : Nat) (σ : gj_S) : Option (Int32 × gj_S) := ((f_X7_findEntering b0 σ).bind fun x1 => (if x1.1 = (-1 : Int32) then some ((-1 : Int32), x1.2) else ((f_X3_trace (b0 + 16) (b0 + 1) (b0 + 10) x1.1 (gj_sI x1.2 (b0 + 1) (upd (x1.2.1 (b0 + 1)) 3 (x1.2.1 b0 3)))).bind fun x2 => ((f_X7_moveFlows b0 x2).bind fun x3 => ((f_X7_exchange b0 x1.1 x3).bind fun x4 => ((f_X7_regrow b0 x4).bind fun x5 => ((f_X5_countMoved (b0 + 10) (x5.1 (b0 + 1) 0) x5).bind fun x6 => ((f_X1_writeLog (b0 + 1) x1.1 (b0 + 16) x6 x5).bind fun x7 => some (x1.1, x7)))))))))
set_option maxHeartbeats 4000000 in
set_option maxRecDepth 100000 in
theorem m_X7_makePivot {E : gj_E} {σ : gj_S} {b0 : Nat} (g0 : isY b0) {x : Int32} {y : gj_S} (hf : f_X7_makePivot b0 σ = some (x, y)) : gj_M E yX7_makePivot cX7_makePivot 2 (some .int) 4 92 [gj_r b0] σ (some (gj_i x)) y := by
  refine gj_body (lv := [(0, gj_r b0)]) (by decide +kernel) (Nat.le_of_ble_eq_true rfl) rfl (fun X hO => ?_)
  replace hO : gj_O E X RX7 cX7_makePivot 2 (some .int) 4 92 := hO
  unfold f_X7_makePivot at hf
  refine gj_aload_n hO 0 dX7_makePivot_0 rfl rfl ?_
  obtain ⟨⟨x1_v, x1_s⟩, hc1, hf⟩ := gj_b hf
  dsimp only at hf
  refine ca_X7_findEntering hO g0 hc1 wk_390 (by decide) (by decide) (Nat.le_of_ble_eq_true rfl) dX7_makePivot_1 ?_
  refine gj_istore_n (lv2 := [(1, gj_i x1_v), (0, gj_r b0)]) hO dX7_makePivot_4 rfl (by decide) rfl ?_
  refine gj_iload_n hO 0 dX7_makePivot_5 rfl rfl ?_
  refine gj_iconst (v := (-1)) hO dX7_makePivot_6 (by decide) ?_
  refine gj_icmp_ne (tgt := 12) hO dX7_makePivot_7 (by decide) (fun h => ?_) (fun h => ?_)
  · replace hf := gj_f h hf
    refine gj_aload_n hO 1 dX7_makePivot_12 rfl rfl ?_
    refine gt_X7_0 hO (kdY_0 g0) (klY_0 g0) wk_167 dX7_makePivot_13 ?_
    refine gj_aload_n hO 1 dX7_makePivot_16 rfl rfl ?_
    refine gt_X7_3 hO (kdY_0 g0) (klY_0 g0) wk_278 dX7_makePivot_17 ?_
    refine pt_X1_3 hO (kdP_0 (isY_P g0)) (klP_0 (isY_P g0)) wk_276 dX7_makePivot_20 ?_
    refine gj_aload_n hO 1 dX7_makePivot_23 rfl rfl ?_
    refine gt_X7_2 hO (kdY_0 g0) (klY_0 g0) wk_321 dX7_makePivot_24 ?_
    refine gj_aload_n hO 1 dX7_makePivot_27 rfl rfl ?_
    refine gt_X7_0 hO (kdY_0 g0) (klY_0 g0) wk_167 dX7_makePivot_28 ?_
    refine gj_aload_n hO 1 dX7_makePivot_31 rfl rfl ?_
    refine gt_X7_1 hO (kdY_0 g0) (klY_0 g0) wk_166 dX7_makePivot_32 ?_
    refine gj_iload_n hO 0 dX7_makePivot_35 rfl rfl ?_
    obtain ⟨x2, hc2, hf⟩ := gj_b hf
    refine ca_X3_trace hO (isY_R g0) (isY_P g0) (isY_T g0) hc2 wk_322 (by decide) (by decide) (Nat.le_of_ble_eq_true rfl) dX7_makePivot_36 ?_
    refine gj_aload_n hO 1 dX7_makePivot_39 rfl rfl ?_
    obtain ⟨x3, hc3, hf⟩ := gj_b hf
    refine ca_X7_moveFlows hO g0 hc3 wk_391 (by decide) (by decide) (Nat.le_of_ble_eq_true rfl) dX7_makePivot_40 ?_
    refine gj_aload_n hO 1 dX7_makePivot_43 rfl rfl ?_
    refine gj_iload_n hO 0 dX7_makePivot_44 rfl rfl ?_
    obtain ⟨x4, hc4, hf⟩ := gj_b hf
    refine ca_X7_exchange hO g0 hc4 wk_392 (by decide) (by decide) (Nat.le_of_ble_eq_true rfl) dX7_makePivot_45 ?_
    refine gj_aload_n hO 1 dX7_makePivot_48 rfl rfl ?_
    obtain ⟨x5, hc5, hf⟩ := gj_b hf
    refine ca_X7_regrow hO g0 hc5 wk_174 (by decide) (by decide) (Nat.le_of_ble_eq_true rfl) dX7_makePivot_49 ?_
    refine gj_aload_n hO 1 dX7_makePivot_52 rfl rfl ?_
    refine gt_X7_0 hO (kdY_0 g0) (klY_0 g0) wk_167 dX7_makePivot_53 ?_
    refine gj_iload_n hO 0 dX7_makePivot_56 rfl rfl ?_
    refine gj_aload_n hO 1 dX7_makePivot_57 rfl rfl ?_
    refine gt_X7_2 hO (kdY_0 g0) (klY_0 g0) wk_321 dX7_makePivot_58 ?_
    refine gj_aload_n hO 1 dX7_makePivot_61 rfl rfl ?_
    refine gt_X7_1 hO (kdY_0 g0) (klY_0 g0) wk_166 dX7_makePivot_62 ?_
    refine gj_aload_n hO 1 dX7_makePivot_65 rfl rfl ?_
    refine gt_X7_0 hO (kdY_0 g0) (klY_0 g0) wk_167 dX7_makePivot_66 ?_
    refine gt_X1_0 hO (kdP_0 (isY_P g0)) (klP_0 (isY_P g0)) wk_206 dX7_makePivot_69 ?_
    obtain ⟨x6, hc6, hf⟩ := gj_b hf
    refine ca_X5_countMoved hO (isY_T g0) hc6 wk_393 (by decide) (by decide) (Nat.le_of_ble_eq_true rfl) dX7_makePivot_72 ?_
    obtain ⟨x7, hc7, hf⟩ := gj_b hf
    refine ca_X1_writeLog hO (isY_P g0) (isY_R g0) hc7 wk_394 (by decide) (by decide) (Nat.le_of_ble_eq_true rfl) dX7_makePivot_75 ?_
    refine gj_iload_n hO 0 dX7_makePivot_78 rfl rfl ?_
    replace hf := Option.some.inj hf
    simp only [Prod.mk.injEq] at hf
    obtain ⟨rfl, rfl⟩ := hf
    exact gj_iret hO dX7_makePivot_79
  · replace hf := gj_t h hf
    refine gj_iconst (v := (-1)) hO dX7_makePivot_10 (by decide) ?_
    replace hf := Option.some.inj hf
    simp only [Prod.mk.injEq] at hf
    obtain ⟨rfl, rfl⟩ := hf
    exact gj_iret hO dX7_makePivot_11
set_option maxHeartbeats 4000000 in
set_option maxRecDepth 100000 in
theorem ca_X7_makePivot {E : gj_E} {X : gj_X} {own : String} {cc : ByteArray} {nL : Nat} {rt : Option FieldType} {fr lo : Nat} {ce sl : Nat} {Q : State → Prop} {pc : Nat} {lv : List (Nat × gj_V)} {st : List gj_V} {σ : gj_S} (hO : gj_O E X own cc nL rt fr lo) {b0 : Nat} (g0 : isY b0) {idx : Nat} {x : Int32} {y : gj_S} (hf : f_X7_makePivot b0 σ = some (x, y)) (hl : Cond.methodLink own idx yX7_makePivot ∈ gj_gw) (hf1 : 5 ≤ fr) (hf2 : 113 ≤ lo) (hcat : ((st.map (gj_tv E.2.1)).map fun v => v.category).sum ≤ 8) (hd : decode cc pc = .ok (.invokevirtual idx, 3)) (k : gj_H E X nL ce sl Q (pc + 3) lv ((gj_i x) :: st) y) : gj_H E X nL ce sl Q pc lv (gj_r b0 :: st) σ :=
  gj_callV hO (o := b0) (vs := []) (m_X7_makePivot g0 hf) (gj_Iany (by decide)) hl wk_395 wk_396 wk_171 wk_397 (klY_0 g0) (kdY_0 g0) (by decide) (ci := 7) rfl (n := 0) (by decide +kernel) rfl hf1 hf2 rfl hcat hd k
def f_X8_step  (σ : gj_S) : Option (Int32 × gj_S) := ((f_X7_isEnd 16 σ).bind fun x1 => (if x1 = 0 then ((f_X0_remember σ).bind fun x2 => ((f_X7_makePivot 16 x2).bind fun x3 => some (x3.1, x3.2))) else some ((-2 : Int32), σ)))
set_option maxHeartbeats 4000000 in
set_option maxRecDepth 100000 in
theorem m_X8_step {E : gj_E} {σ : gj_S}   {x : Int32} {y : gj_S} (hf : f_X8_step  σ = some (x, y)) : gj_M E yX8_step cX8_step 1 (some .int) 5 162 [gj_r 0] σ (some (gj_i x)) y := by
  refine gj_body (lv := [(0, gj_r 0)]) (by decide +kernel) (Nat.le_of_ble_eq_true rfl) rfl (fun X hO => ?_)
  replace hO : gj_O E X RX8 cX8_step 1 (some .int) 5 162 := hO
  unfold f_X8_step at hf
  refine gj_aload_n hO 0 dX8_step_0 rfl rfl ?_
  refine gt_X8_4 hO wk_185 dX8_step_1 ?_
  obtain ⟨x1, hc1, hf⟩ := gj_b hf
  refine ca_X7_isEnd hO isY_16 hc1 wk_398 (by decide) (by decide) (Nat.le_of_ble_eq_true rfl) dX8_step_4 ?_
  refine gj_if_eq (tgt := 13) hO dX8_step_7 (by decide) (fun h => ?_) (fun h => ?_)
  · replace hf := gj_t h hf
    refine gj_aload_n hO 0 dX8_step_13 rfl rfl ?_
    refine gt_X8_6 hO wk_193 dX8_step_14 ?_
    refine gj_aload_n hO 0 dX8_step_17 rfl rfl ?_
    refine gt_X8_4 hO wk_185 dX8_step_18 ?_
    refine gt_X7_0 hO kd_16 kl_16 wk_186 dX8_step_21 ?_
    obtain ⟨x2, hc2, hf⟩ := gj_b hf
    refine ca_X0_remember hO  hc2 wk_399 (by decide) (by decide) (Nat.le_of_ble_eq_true rfl) dX8_step_24 ?_
    refine gj_aload_n hO 0 dX8_step_27 rfl rfl ?_
    refine gt_X8_4 hO wk_185 dX8_step_28 ?_
    obtain ⟨⟨x3_v, x3_s⟩, hc3, hf⟩ := gj_b hf
    dsimp only at hf
    refine ca_X7_makePivot hO isY_16 hc3 wk_400 (by decide) (by decide) (Nat.le_of_ble_eq_true rfl) dX8_step_31 ?_
    replace hf := Option.some.inj hf
    simp only [Prod.mk.injEq] at hf
    obtain ⟨rfl, rfl⟩ := hf
    exact gj_iret hO dX8_step_34
  · replace hf := gj_f h hf
    refine gj_bipush (v := (-2)) hO dX8_step_10 (by decide) ?_
    replace hf := Option.some.inj hf
    simp only [Prod.mk.injEq] at hf
    obtain ⟨rfl, rfl⟩ := hf
    exact gj_iret hO dX8_step_12
set_option maxHeartbeats 4000000 in
set_option maxRecDepth 100000 in
theorem ca_X8_step {E : gj_E} {X : gj_X} {own : String} {cc : ByteArray} {nL : Nat} {rt : Option FieldType} {fr lo : Nat} {ce sl : Nat} {Q : State → Prop} {pc : Nat} {lv : List (Nat × gj_V)} {st : List gj_V} {σ : gj_S} (hO : gj_O E X own cc nL rt fr lo)   {idx : Nat} {x : Int32} {y : gj_S} (hf : f_X8_step  σ = some (x, y)) (hl : Cond.methodLink own idx yX8_step ∈ gj_gw) (hf1 : 6 ≤ fr) (hf2 : 182 ≤ lo) (hcat : ((st.map (gj_tv E.2.1)).map fun v => v.category).sum ≤ 8) (hd : decode cc pc = .ok (.invokevirtual idx, 3)) (k : gj_H E X nL ce sl Q (pc + 3) lv ((gj_i x) :: st) y) : gj_H E X nL ce sl Q pc lv (gj_r 0 :: st) σ :=
  gj_callV hO (o := 0) (vs := []) (m_X8_step  hf) (gj_Iany (by decide)) hl wk_401 wk_402 wk_4 wk_403 kl_0 kd_0 (by decide) (ci := 8) rfl (n := 0) (by decide +kernel) rfl hf1 hf2 rfl hcat hd k
def fb_X7_makePivots_l2 (b0 : Nat) (b1 : Int32) (a10002 : (Int32 × gj_S)) : Option ((Int32 × gj_S) ⊕ (Int32 × gj_S)) := (if b1 ≤ a10002.1 then some (.inl (a10002.1, a10002.2)) else ((f_X7_makePivot b0 a10002.2).bind fun x10201 => (if x10201.1 = (-1 : Int32) then some (.inl (a10002.1, x10201.2)) else some (.inr ((a10002.1 + 1), x10201.2)))))
def f_X7_makePivots (b0 : Nat) (b1 : Int32) (σ : gj_S) : Option (Int32 × gj_S) := ((gj_lp (fb_X7_makePivots_l2 b0 b1) 2000000 ((0 : Int32), σ)).bind fun z1 => some (z1.1, z1.2))
set_option maxHeartbeats 4000000 in
set_option maxRecDepth 100000 in
theorem sb_X7_makePivots_l2 {E : gj_E} {X : gj_X} {r : Option gj_V} {τ : gj_S} (hO : gj_O E X RX7 cX7_makePivots 3 (some .int) 5 113) {b0 : Nat} {b1 : Int32} (g0 : isY b0) {a10002_0 : Int32} {a10002_1 : gj_S} {x : (Int32 × gj_S) ⊕ (Int32 × gj_S)} (hf : fb_X7_makePivots_l2 b0 b1 (a10002_0, a10002_1) = some x) (K : gj_K (fun z1 => gj_G E X 3 r τ 21 [(2, gj_i z1.1)] [] z1.2) (fun a10002 => gj_G E X 3 r τ 2 [(0, gj_r b0), (1, gj_i b1), (2, gj_i a10002.1)] [] a10002.2) x) : gj_G E X 3 r τ 2 [(0, gj_r b0), (1, gj_i b1), (2, gj_i a10002_0)] [] a10002_1 := by
  unfold fb_X7_makePivots_l2 at hf
  dsimp only at hf
  refine gj_iload_n hO 2 dX7_makePivots_2 rfl rfl ?_
  refine gj_iload_n hO 1 dX7_makePivots_3 rfl rfl ?_
  refine gj_icmp_ge (tgt := 21) hO dX7_makePivots_4 (by decide) (fun h => ?_) (fun h => ?_)
  · replace hf := gj_t h hf
    obtain rfl := Option.some.inj hf
    refine gj_sub (lv2 := [(2, gj_i a10002_0)]) [2] rfl ?_
    exact K
  · replace hf := gj_f h hf
    refine gj_aload_n hO 0 dX7_makePivots_7 rfl rfl ?_
    obtain ⟨⟨x10201_v, x10201_s⟩, hc10201, hf⟩ := gj_b hf
    dsimp only at hf
    refine ca_X7_makePivot hO g0 hc10201 wk_404 (by decide) (by decide) (Nat.le_of_ble_eq_true rfl) dX7_makePivots_8 ?_
    refine gj_iconst (v := (-1)) hO dX7_makePivots_11 (by decide) ?_
    refine gj_icmp_eq (tgt := 21) hO dX7_makePivots_12 (by decide) (fun h => ?_) (fun h => ?_)
    · replace hf := gj_t h hf
      obtain rfl := Option.some.inj hf
      refine gj_sub (lv2 := [(2, gj_i a10002_0)]) [2] rfl ?_
      exact K
    · replace hf := gj_f h hf
      refine gj_iinc (v := (a10002_0 + 1)) (lv2 := [(2, gj_i (a10002_0 + 1)), (0, gj_r b0), (1, gj_i b1)]) hO 2 dX7_makePivots_15 rfl rfl (by decide) rfl ?_
      refine gj_goto (tgt := 2) hO dX7_makePivots_18 (by decide) ?_
      obtain rfl := Option.some.inj hf
      refine gj_sub (lv2 := [(0, gj_r b0), (1, gj_i b1), (2, gj_i (a10002_0 + 1))]) [1, 2, 0] rfl ?_
      exact K
set_option maxHeartbeats 4000000 in
set_option maxRecDepth 100000 in
theorem m_X7_makePivots {E : gj_E} {σ : gj_S} {b0 : Nat} {b1 : Int32} (g0 : isY b0) {x : Int32} {y : gj_S} (hf : f_X7_makePivots b0 b1 σ = some (x, y)) : gj_M E yX7_makePivots cX7_makePivots 3 (some .int) 5 113 [gj_r b0, gj_i b1] σ (some (gj_i x)) y := by
  refine gj_body (lv := [(0, gj_r b0), (1, gj_i b1)]) (by decide +kernel) (Nat.le_of_ble_eq_true rfl) rfl (fun X hO => ?_)
  replace hO : gj_O E X RX7 cX7_makePivots 3 (some .int) 5 113 := hO
  unfold f_X7_makePivots at hf
  refine gj_iconst (v := 0) hO dX7_makePivots_0 (by decide) ?_
  refine gj_istore_n (lv2 := [(2, gj_i (0 : Int32)), (0, gj_r b0), (1, gj_i b1)]) hO dX7_makePivots_1 rfl (by decide) rfl ?_
  obtain ⟨⟨z1_0, z1_1⟩, hz1, hf⟩ := gj_b hf
  dsimp only at hf
  have J1 : gj_G E X 3 (some (gj_i x)) y 21 [(2, gj_i z1_0)] [] z1_1 := by
    refine gj_iload_n hO 0 dX7_makePivots_21 rfl rfl ?_
    replace hf := Option.some.inj hf
    simp only [Prod.mk.injEq] at hf
    obtain ⟨rfl, rfl⟩ := hf
    exact gj_iret hO dX7_makePivots_22
  refine gj_sub (lv2 := [(0, gj_r b0), (1, gj_i b1), (2, gj_i (0 : Int32))]) [1, 2, 0] rfl ?_
  exact gj_loop (head := fun a10002 => gj_G E X 3 (some (gj_i x)) y 2 [(0, gj_r b0), (1, gj_i b1), (2, gj_i a10002.1)] [] a10002.2) (exit := fun z1 => gj_G E X 3 (some (gj_i x)) y 21 [(2, gj_i z1.1)] [] z1.2) (fun a10002 x hf K => by obtain ⟨a10002_0, a10002_1⟩ := a10002; exact sb_X7_makePivots_l2 hO g0 hf K) _ _ _ hz1 J1
set_option maxHeartbeats 4000000 in
set_option maxRecDepth 100000 in
theorem ca_X7_makePivots {E : gj_E} {X : gj_X} {own : String} {cc : ByteArray} {nL : Nat} {rt : Option FieldType} {fr lo : Nat} {ce sl : Nat} {Q : State → Prop} {pc : Nat} {lv : List (Nat × gj_V)} {st : List gj_V} {σ : gj_S} (hO : gj_O E X own cc nL rt fr lo) {b0 : Nat} {b1 : Int32} (g0 : isY b0) {idx : Nat} {x : Int32} {y : gj_S} (hf : f_X7_makePivots b0 b1 σ = some (x, y)) (hl : Cond.methodLink own idx yX7_makePivots ∈ gj_gw) (hf1 : 6 ≤ fr) (hf2 : 135 ≤ lo) (hcat : ((st.map (gj_tv E.2.1)).map fun v => v.category).sum ≤ 8) (hd : decode cc pc = .ok (.invokevirtual idx, 3)) (k : gj_H E X nL ce sl Q (pc + 3) lv ((gj_i x) :: st) y) : gj_H E X nL ce sl Q pc lv (gj_i b1 :: gj_r b0 :: st) σ :=
  gj_callV hO (o := b0) (vs := [gj_i b1]) (m_X7_makePivots g0 hf) (gj_Iany (by decide)) hl wk_405 wk_406 wk_171 wk_407 (klY_0 g0) (kdY_0 g0) (by decide) (ci := 7) rfl (n := 1) (by decide +kernel) rfl hf1 hf2 rfl hcat hd k
def f_X8_run (b1 : Int32) (σ : gj_S) : Option (Int32 × gj_S) := (if b1 < (1 : Int32) then some ((-1 : Int32), σ) else (if b1 ≤ (99 : Int32) then ((f_X7_isEnd 16 σ).bind fun x1 => (if x1 = 0 then ((f_X0_remember σ).bind fun x2 => ((f_X7_makePivots 16 b1 x2).bind fun x3 => some (x3.1, x3.2))) else some ((0 : Int32), σ))) else some ((-1 : Int32), σ)))
set_option maxHeartbeats 4000000 in
set_option maxRecDepth 100000 in
theorem m_X8_run {E : gj_E} {σ : gj_S} {b1 : Int32}  {x : Int32} {y : gj_S} (hf : f_X8_run b1 σ = some (x, y)) : gj_M E yX8_run cX8_run 2 (some .int) 6 162 [gj_r 0, gj_i b1] σ (some (gj_i x)) y := by
  refine gj_body (lv := [(0, gj_r 0), (1, gj_i b1)]) (by decide +kernel) (Nat.le_of_ble_eq_true rfl) rfl (fun X hO => ?_)
  replace hO : gj_O E X RX8 cX8_run 2 (some .int) 6 162 := hO
  unfold f_X8_run at hf
  refine gj_iload_n hO 1 dX8_run_0 rfl rfl ?_
  refine gj_iconst (v := 1) hO dX8_run_1 (by decide) ?_
  refine gj_icmp_lt (tgt := 11) hO dX8_run_2 (by decide) (fun h => ?_) (fun h => ?_)
  · replace hf := gj_t h hf
    refine gj_iconst (v := (-1)) hO dX8_run_11 (by decide) ?_
    replace hf := Option.some.inj hf
    simp only [Prod.mk.injEq] at hf
    obtain ⟨rfl, rfl⟩ := hf
    exact gj_iret hO dX8_run_12
  · replace hf := gj_f h hf
    refine gj_iload_n hO 1 dX8_run_5 rfl rfl ?_
    refine gj_bipush (v := 99) hO dX8_run_6 (by decide) ?_
    refine gj_icmp_le (tgt := 13) hO dX8_run_8 (by decide) (fun h => ?_) (fun h => ?_)
    · replace hf := gj_t h hf
      refine gj_aload_n hO 0 dX8_run_13 rfl rfl ?_
      refine gt_X8_4 hO wk_185 dX8_run_14 ?_
      obtain ⟨x1, hc1, hf⟩ := gj_b hf
      refine ca_X7_isEnd hO isY_16 hc1 wk_398 (by decide) (by decide) (Nat.le_of_ble_eq_true rfl) dX8_run_17 ?_
      refine gj_if_eq (tgt := 25) hO dX8_run_20 (by decide) (fun h => ?_) (fun h => ?_)
      · replace hf := gj_t h hf
        refine gj_aload_n hO 0 dX8_run_25 rfl rfl ?_
        refine gt_X8_6 hO wk_193 dX8_run_26 ?_
        refine gj_aload_n hO 0 dX8_run_29 rfl rfl ?_
        refine gt_X8_4 hO wk_185 dX8_run_30 ?_
        refine gt_X7_0 hO kd_16 kl_16 wk_186 dX8_run_33 ?_
        obtain ⟨x2, hc2, hf⟩ := gj_b hf
        refine ca_X0_remember hO  hc2 wk_399 (by decide) (by decide) (Nat.le_of_ble_eq_true rfl) dX8_run_36 ?_
        refine gj_aload_n hO 0 dX8_run_39 rfl rfl ?_
        refine gt_X8_4 hO wk_185 dX8_run_40 ?_
        refine gj_iload_n hO 1 dX8_run_43 rfl rfl ?_
        obtain ⟨⟨x3_v, x3_s⟩, hc3, hf⟩ := gj_b hf
        dsimp only at hf
        refine ca_X7_makePivots hO isY_16 hc3 wk_408 (by decide) (by decide) (Nat.le_of_ble_eq_true rfl) dX8_run_44 ?_
        replace hf := Option.some.inj hf
        simp only [Prod.mk.injEq] at hf
        obtain ⟨rfl, rfl⟩ := hf
        exact gj_iret hO dX8_run_47
      · replace hf := gj_f h hf
        refine gj_iconst (v := 0) hO dX8_run_23 (by decide) ?_
        replace hf := Option.some.inj hf
        simp only [Prod.mk.injEq] at hf
        obtain ⟨rfl, rfl⟩ := hf
        exact gj_iret hO dX8_run_24
    · replace hf := gj_f h hf
      refine gj_iconst (v := (-1)) hO dX8_run_11 (by decide) ?_
      replace hf := Option.some.inj hf
      simp only [Prod.mk.injEq] at hf
      obtain ⟨rfl, rfl⟩ := hf
      exact gj_iret hO dX8_run_12
set_option maxHeartbeats 4000000 in
set_option maxRecDepth 100000 in
theorem ca_X8_run {E : gj_E} {X : gj_X} {own : String} {cc : ByteArray} {nL : Nat} {rt : Option FieldType} {fr lo : Nat} {ce sl : Nat} {Q : State → Prop} {pc : Nat} {lv : List (Nat × gj_V)} {st : List gj_V} {σ : gj_S} (hO : gj_O E X own cc nL rt fr lo) {b1 : Int32}  {idx : Nat} {x : Int32} {y : gj_S} (hf : f_X8_run b1 σ = some (x, y)) (hl : Cond.methodLink own idx yX8_run ∈ gj_gw) (hf1 : 7 ≤ fr) (hf2 : 183 ≤ lo) (hcat : ((st.map (gj_tv E.2.1)).map fun v => v.category).sum ≤ 8) (hd : decode cc pc = .ok (.invokevirtual idx, 3)) (k : gj_H E X nL ce sl Q (pc + 3) lv ((gj_i x) :: st) y) : gj_H E X nL ce sl Q pc lv (gj_i b1 :: gj_r 0 :: st) σ :=
  gj_callV hO (o := 0) (vs := [gj_i b1]) (m_X8_run  hf) (gj_Iany (by decide)) hl wk_409 wk_410 wk_4 wk_411 kl_0 kd_0 (by decide) (ci := 8) rfl (n := 1) (by decide +kernel) rfl hf1 hf2 rfl hcat hd k
def f_X1_countLogged (b0 : Nat) (σ : gj_S) : Option Int32 := some (if (16 : Int32) < (σ.1 b0 4) then (16 : Int32) else (σ.1 b0 4))
set_option maxHeartbeats 4000000 in
set_option maxRecDepth 100000 in
theorem m_X1_countLogged {E : gj_E} {σ : gj_S} {b0 : Nat} (g0 : isP b0) {x : Int32} (hf : f_X1_countLogged b0 σ = some x) : gj_M E yX1_countLogged cX1_countLogged 1 (some .int) 1 24 [gj_r b0] σ (some (gj_i x)) σ := by
  refine gj_body (lv := [(0, gj_r b0)]) (by decide +kernel) (Nat.le_of_ble_eq_true rfl) rfl (fun X hO => ?_)
  replace hO : gj_O E X RX1 cX1_countLogged 1 (some .int) 1 24 := hO
  unfold f_X1_countLogged at hf
  refine gj_aload_n hO 0 dX1_countLogged_0 rfl rfl ?_
  refine gt_X1_4 hO (kdP_0 g0) (klP_0 g0) wk_119 dX1_countLogged_1 ?_
  refine gj_bipush (v := 16) hO dX1_countLogged_4 (by decide) ?_
  refine gj_mmin hO wk_412 (by decide) (by decide) (Nat.le_of_ble_eq_true rfl) dX1_countLogged_6 ?_
  obtain rfl := Option.some.inj hf
  exact gj_iret hO dX1_countLogged_9
set_option maxHeartbeats 4000000 in
set_option maxRecDepth 100000 in
theorem ca_X1_countLogged {E : gj_E} {X : gj_X} {own : String} {cc : ByteArray} {nL : Nat} {rt : Option FieldType} {fr lo : Nat} {ce sl : Nat} {Q : State → Prop} {pc : Nat} {lv : List (Nat × gj_V)} {st : List gj_V} {σ : gj_S} (hO : gj_O E X own cc nL rt fr lo) {b0 : Nat} (g0 : isP b0) {idx : Nat} {x : Int32} (hf : f_X1_countLogged b0 σ = some x) (hl : Cond.methodLink own idx yX1_countLogged ∈ gj_gw) (hf1 : 2 ≤ fr) (hf2 : 44 ≤ lo) (hcat : ((st.map (gj_tv E.2.1)).map fun v => v.category).sum ≤ 8) (hd : decode cc pc = .ok (.invokevirtual idx, 3)) (k : gj_H E X nL ce sl Q (pc + 3) lv ((gj_i x) :: st) σ) : gj_H E X nL ce sl Q pc lv (gj_r b0 :: st) σ :=
  gj_callV hO (o := b0) (vs := []) (m_X1_countLogged g0 hf) (gj_Iany (by decide)) hl wk_413 wk_414 wk_15 wk_415 (klP_0 g0) (kdP_0 g0) (by decide) (ci := 1) rfl (n := 0) (by decide +kernel) rfl hf1 hf2 rfl hcat hd k
def f_X1_readLog (b0 : Nat) (b1 : Int32) (b2 : Int32) (σ : gj_S) : Option Int32 := ((f_J9_floorMod_7cf53 (((σ.1 b0 4) - (1 : Int32)) - b1) (16 : Int32)).bind fun x1 => (if gj_in ((x1 * (5 : Int32)) + b2) 80 then some (σ.1 (b0 + 8) (Int32.toNatClampNeg ((x1 * (5 : Int32)) + b2))) else none))
set_option maxHeartbeats 4000000 in
set_option maxRecDepth 100000 in
theorem m_X1_readLog {E : gj_E} {σ : gj_S} {b0 : Nat} {b1 : Int32} {b2 : Int32} (g0 : isP b0) {x : Int32} (hf : f_X1_readLog b0 b1 b2 σ = some x) : gj_M E yX1_readLog cX1_readLog 3 (some .int) 1 22 [gj_r b0, gj_i b1, gj_i b2] σ (some (gj_i x)) σ := by
  refine gj_body (lv := [(0, gj_r b0), (1, gj_i b1), (2, gj_i b2)]) (by decide +kernel) (Nat.le_of_ble_eq_true rfl) rfl (fun X hO => ?_)
  replace hO : gj_O E X RX1 cX1_readLog 3 (some .int) 1 22 := hO
  unfold f_X1_readLog at hf
  refine gj_aload_n hO 0 dX1_readLog_0 rfl rfl ?_
  refine gt_X1_12 hO (kdP_0 g0) (klP_0 g0) wk_128 dX1_readLog_1 ?_
  refine gj_aload_n hO 0 dX1_readLog_4 rfl rfl ?_
  refine gt_X1_4 hO (kdP_0 g0) (klP_0 g0) wk_119 dX1_readLog_5 ?_
  refine gj_iconst (v := 1) hO dX1_readLog_8 (by decide) ?_
  refine gj_isub hO dX1_readLog_9 ?_
  refine gj_iload_n hO 1 dX1_readLog_10 rfl rfl ?_
  refine gj_isub hO dX1_readLog_11 ?_
  refine gj_bipush (v := 16) hO dX1_readLog_12 (by decide) ?_
  obtain ⟨x1, hc1, hf⟩ := gj_b hf
  refine ca_J9_floorMod_7cf53 hO  hc1 wk_383 (by decide) (by decide) (Nat.le_of_ble_eq_true rfl) dX1_readLog_14 ?_
  refine gj_iconst (v := 5) hO dX1_readLog_17 (by decide) ?_
  refine gj_imul hO dX1_readLog_18 ?_
  refine gj_iload_n hO 2 dX1_readLog_19 rfl rfl ?_
  refine gj_iadd hO dX1_readLog_20 ?_
  obtain ⟨hb2, hf⟩ := gj_c hf
  refine gj_iald hO (klP_8 g0) (kdP_8 g0) hb2 dX1_readLog_21 ?_
  obtain rfl := Option.some.inj hf
  exact gj_iret hO dX1_readLog_22
set_option maxHeartbeats 4000000 in
set_option maxRecDepth 100000 in
theorem ca_X1_readLog {E : gj_E} {X : gj_X} {own : String} {cc : ByteArray} {nL : Nat} {rt : Option FieldType} {fr lo : Nat} {ce sl : Nat} {Q : State → Prop} {pc : Nat} {lv : List (Nat × gj_V)} {st : List gj_V} {σ : gj_S} (hO : gj_O E X own cc nL rt fr lo) {b0 : Nat} {b1 : Int32} {b2 : Int32} (g0 : isP b0) {idx : Nat} {x : Int32} (hf : f_X1_readLog b0 b1 b2 σ = some x) (hl : Cond.methodLink own idx yX1_readLog ∈ gj_gw) (hf1 : 2 ≤ fr) (hf2 : 44 ≤ lo) (hcat : ((st.map (gj_tv E.2.1)).map fun v => v.category).sum ≤ 8) (hd : decode cc pc = .ok (.invokevirtual idx, 3)) (k : gj_H E X nL ce sl Q (pc + 3) lv ((gj_i x) :: st) σ) : gj_H E X nL ce sl Q pc lv (gj_i b2 :: gj_i b1 :: gj_r b0 :: st) σ :=
  gj_callV hO (o := b0) (vs := [gj_i b1, gj_i b2]) (m_X1_readLog g0 hf) (gj_Iany (by decide)) hl wk_416 wk_417 wk_15 wk_418 (klP_0 g0) (kdP_0 g0) (by decide) (ci := 1) rfl (n := 2) (by decide +kernel) rfl hf1 hf2 rfl hcat hd k
def fb_X1_sumCost_l4 (b0 : Nat) (σ : gj_S) (a10004 : (Int32 × Int32)) : Option (Int32 ⊕ (Int32 × Int32)) := (if (σ.1 b0 1) ≤ a10004.2 then some (.inl a10004.1) else (if gj_in a10004.2 24 then (if gj_in a10004.2 24 then some (.inr ((a10004.1 + ((σ.1 (b0 + 6) (Int32.toNatClampNeg a10004.2)) * (σ.1 (b0 + 4) (Int32.toNatClampNeg a10004.2)))), (a10004.2 + 1))) else none) else none))
def f_X1_sumCost (b0 : Nat) (σ : gj_S) : Option Int32 := ((gj_lp (fb_X1_sumCost_l4 b0 σ) 5000 ((0 : Int32), (0 : Int32))).bind fun z1 => some z1)
set_option maxHeartbeats 4000000 in
set_option maxRecDepth 100000 in
theorem sb_X1_sumCost_l4 {E : gj_E} {X : gj_X} {r : Option gj_V} {τ : gj_S} (hO : gj_O E X RX1 cX1_sumCost 3 (some .int) 0 0) {b0 : Nat} {σ : gj_S} (g0 : isP b0) {a10004_0 : Int32} {a10004_1 : Int32} {x : Int32 ⊕ (Int32 × Int32)} (hf : fb_X1_sumCost_l4 b0 σ (a10004_0, a10004_1) = some x) (K : gj_K (fun z1 => gj_G E X 3 r τ 34 [(1, gj_i z1)] [] σ) (fun a10004 => gj_G E X 3 r τ 4 [(0, gj_r b0), (1, gj_i a10004.1), (2, gj_i a10004.2)] [] σ) x) : gj_G E X 3 r τ 4 [(0, gj_r b0), (1, gj_i a10004_0), (2, gj_i a10004_1)] [] σ := by
  unfold fb_X1_sumCost_l4 at hf
  dsimp only at hf
  refine gj_iload_n hO 2 dX1_sumCost_4 rfl rfl ?_
  refine gj_aload_n hO 0 dX1_sumCost_5 rfl rfl ?_
  refine gt_X1_1 hO (kdP_0 g0) (klP_0 g0) wk_11 dX1_sumCost_6 ?_
  refine gj_icmp_ge (tgt := 34) hO dX1_sumCost_9 (by decide) (fun h => ?_) (fun h => ?_)
  · replace hf := gj_t h hf
    obtain rfl := Option.some.inj hf
    refine gj_sub (lv2 := [(1, gj_i a10004_0)]) [1] rfl ?_
    exact K
  · replace hf := gj_f h hf
    refine gj_iload_n hO 1 dX1_sumCost_12 rfl rfl ?_
    refine gj_aload_n hO 0 dX1_sumCost_13 rfl rfl ?_
    refine gt_X1_10 hO (kdP_0 g0) (klP_0 g0) wk_126 dX1_sumCost_14 ?_
    refine gj_iload_n hO 2 dX1_sumCost_17 rfl rfl ?_
    obtain ⟨hb10401, hf⟩ := gj_c hf
    refine gj_iald hO (klP_6 g0) (kdP_6 g0) hb10401 dX1_sumCost_18 ?_
    refine gj_aload_n hO 0 dX1_sumCost_19 rfl rfl ?_
    refine gt_X1_8 hO (kdP_0 g0) (klP_0 g0) wk_124 dX1_sumCost_20 ?_
    refine gj_iload_n hO 2 dX1_sumCost_23 rfl rfl ?_
    obtain ⟨hb10402, hf⟩ := gj_c hf
    refine gj_iald hO (klP_4 g0) (kdP_4 g0) hb10402 dX1_sumCost_24 ?_
    refine gj_imul hO dX1_sumCost_25 ?_
    refine gj_iadd hO dX1_sumCost_26 ?_
    refine gj_istore_n (lv2 := [(1, gj_i (a10004_0 + ((σ.1 (b0 + 6) (Int32.toNatClampNeg a10004_1)) * (σ.1 (b0 + 4) (Int32.toNatClampNeg a10004_1))))), (0, gj_r b0), (2, gj_i a10004_1)]) hO dX1_sumCost_27 rfl (by decide) rfl ?_
    refine gj_iinc (v := (a10004_1 + 1)) (lv2 := [(2, gj_i (a10004_1 + 1)), (1, gj_i (a10004_0 + ((σ.1 (b0 + 6) (Int32.toNatClampNeg a10004_1)) * (σ.1 (b0 + 4) (Int32.toNatClampNeg a10004_1))))), (0, gj_r b0)]) hO 2 dX1_sumCost_28 rfl rfl (by decide) rfl ?_
    refine gj_goto (tgt := 4) hO dX1_sumCost_31 (by decide) ?_
    obtain rfl := Option.some.inj hf
    refine gj_sub (lv2 := [(0, gj_r b0), (1, gj_i (a10004_0 + ((σ.1 (b0 + 6) (Int32.toNatClampNeg a10004_1)) * (σ.1 (b0 + 4) (Int32.toNatClampNeg a10004_1))))), (2, gj_i (a10004_1 + 1))]) [2, 1, 0] rfl ?_
    exact K
set_option maxHeartbeats 4000000 in
set_option maxRecDepth 100000 in
theorem m_X1_sumCost {E : gj_E} {σ : gj_S} {b0 : Nat} (g0 : isP b0) {x : Int32} (hf : f_X1_sumCost b0 σ = some x) : gj_M E yX1_sumCost cX1_sumCost 3 (some .int) 0 0 [gj_r b0] σ (some (gj_i x)) σ := by
  refine gj_body (lv := [(0, gj_r b0)]) (by decide +kernel) (Nat.le_of_ble_eq_true rfl) rfl (fun X hO => ?_)
  replace hO : gj_O E X RX1 cX1_sumCost 3 (some .int) 0 0 := hO
  unfold f_X1_sumCost at hf
  refine gj_iconst (v := 0) hO dX1_sumCost_0 (by decide) ?_
  refine gj_istore_n (lv2 := [(1, gj_i (0 : Int32)), (0, gj_r b0)]) hO dX1_sumCost_1 rfl (by decide) rfl ?_
  refine gj_iconst (v := 0) hO dX1_sumCost_2 (by decide) ?_
  refine gj_istore_n (lv2 := [(2, gj_i (0 : Int32)), (1, gj_i (0 : Int32)), (0, gj_r b0)]) hO dX1_sumCost_3 rfl (by decide) rfl ?_
  obtain ⟨z1, hz1, hf⟩ := gj_b hf
  have J1 : gj_G E X 3 (some (gj_i x)) σ 34 [(1, gj_i z1)] [] σ := by
    refine gj_iload_n hO 0 dX1_sumCost_34 rfl rfl ?_
    obtain rfl := Option.some.inj hf
    exact gj_iret hO dX1_sumCost_35
  refine gj_sub (lv2 := [(0, gj_r b0), (1, gj_i (0 : Int32)), (2, gj_i (0 : Int32))]) [2, 1, 0] rfl ?_
  exact gj_loop (head := fun a10004 => gj_G E X 3 (some (gj_i x)) σ 4 [(0, gj_r b0), (1, gj_i a10004.1), (2, gj_i a10004.2)] [] σ) (exit := fun z1 => gj_G E X 3 (some (gj_i x)) σ 34 [(1, gj_i z1)] [] σ) (fun a10004 x hf K => by obtain ⟨a10004_0, a10004_1⟩ := a10004; exact sb_X1_sumCost_l4 hO g0 hf K) _ _ _ hz1 J1
set_option maxHeartbeats 4000000 in
set_option maxRecDepth 100000 in
theorem ca_X1_sumCost {E : gj_E} {X : gj_X} {own : String} {cc : ByteArray} {nL : Nat} {rt : Option FieldType} {fr lo : Nat} {ce sl : Nat} {Q : State → Prop} {pc : Nat} {lv : List (Nat × gj_V)} {st : List gj_V} {σ : gj_S} (hO : gj_O E X own cc nL rt fr lo) {b0 : Nat} (g0 : isP b0) {idx : Nat} {x : Int32} (hf : f_X1_sumCost b0 σ = some x) (hl : Cond.methodLink own idx yX1_sumCost ∈ gj_gw) (hf1 : 1 ≤ fr) (hf2 : 22 ≤ lo) (hcat : ((st.map (gj_tv E.2.1)).map fun v => v.category).sum ≤ 8) (hd : decode cc pc = .ok (.invokevirtual idx, 3)) (k : gj_H E X nL ce sl Q (pc + 3) lv ((gj_i x) :: st) σ) : gj_H E X nL ce sl Q pc lv (gj_r b0 :: st) σ :=
  gj_callV hO (o := b0) (vs := []) (m_X1_sumCost g0 hf) (gj_Iany (by decide)) hl wk_424 wk_425 wk_15 wk_426 (klP_0 g0) (kdP_0 g0) (by decide) (ci := 1) rfl (n := 0) (by decide +kernel) rfl hf1 hf2 rfl hcat hd k
def f_X8_cost  (σ : gj_S) : Option Int32 := ((f_X1_sumCost 17 σ).bind fun x1 => some x1)
set_option maxHeartbeats 4000000 in
set_option maxRecDepth 100000 in
theorem m_X8_cost {E : gj_E} {σ : gj_S}   {x : Int32} (hf : f_X8_cost  σ = some x) : gj_M E yX8_cost cX8_cost 1 (some .int) 1 22 [gj_r 0] σ (some (gj_i x)) σ := by
  refine gj_body (lv := [(0, gj_r 0)]) (by decide +kernel) (Nat.le_of_ble_eq_true rfl) rfl (fun X hO => ?_)
  replace hO : gj_O E X RX8 cX8_cost 1 (some .int) 1 22 := hO
  unfold f_X8_cost at hf
  refine gj_aload_n hO 0 dX8_cost_0 rfl rfl ?_
  refine gt_X8_4 hO wk_185 dX8_cost_1 ?_
  refine gt_X7_0 hO kd_16 kl_16 wk_186 dX8_cost_4 ?_
  obtain ⟨x1, hc1, hf⟩ := gj_b hf
  refine ca_X1_sumCost hO isP_17 hc1 wk_427 (by decide) (by decide) (Nat.le_of_ble_eq_true rfl) dX8_cost_7 ?_
  obtain rfl := Option.some.inj hf
  exact gj_iret hO dX8_cost_10
set_option maxHeartbeats 4000000 in
set_option maxRecDepth 100000 in
theorem ca_X8_cost {E : gj_E} {X : gj_X} {own : String} {cc : ByteArray} {nL : Nat} {rt : Option FieldType} {fr lo : Nat} {ce sl : Nat} {Q : State → Prop} {pc : Nat} {lv : List (Nat × gj_V)} {st : List gj_V} {σ : gj_S} (hO : gj_O E X own cc nL rt fr lo)   {idx : Nat} {x : Int32} (hf : f_X8_cost  σ = some x) (hl : Cond.methodLink own idx yX8_cost ∈ gj_gw) (hf1 : 2 ≤ fr) (hf2 : 42 ≤ lo) (hcat : ((st.map (gj_tv E.2.1)).map fun v => v.category).sum ≤ 8) (hd : decode cc pc = .ok (.invokevirtual idx, 3)) (k : gj_H E X nL ce sl Q (pc + 3) lv ((gj_i x) :: st) σ) : gj_H E X nL ce sl Q pc lv (gj_r 0 :: st) σ :=
  gj_callV hO (o := 0) (vs := []) (m_X8_cost  hf) (gj_Iany (by decide)) hl wk_428 wk_429 wk_4 wk_430 kl_0 kd_0 (by decide) (ci := 8) rfl (n := 0) (by decide +kernel) rfl hf1 hf2 rfl hcat hd k
def f_X8_bill (b1 : Int32) (b2 : Int32) (σ : gj_S) : Option Int32 := ((f_X1_sumCost 17 σ).bind fun x1 => (if (lg_cmp (((Int32.toInt64 x1) * (Int32.toInt64 b1)) + (Int32.toInt64 b2)) (-2147483648 : Int64)) < 0 then some (-2147483648 : Int32) else (if (lg_cmp (((Int32.toInt64 x1) * (Int32.toInt64 b1)) + (Int32.toInt64 b2)) (2147483647 : Int64)) ≤ 0 then some (Int64.toInt32 (((Int32.toInt64 x1) * (Int32.toInt64 b1)) + (Int32.toInt64 b2))) else some (-2147483648 : Int32))))
set_option maxHeartbeats 4000000 in
set_option maxRecDepth 100000 in
theorem m_X8_bill {E : gj_E} {σ : gj_S} {b1 : Int32} {b2 : Int32}  {x : Int32} (hf : f_X8_bill b1 b2 σ = some x) : gj_M E yX8_bill cX8_bill 5 (some .int) 1 22 [gj_r 0, gj_i b1, gj_i b2] σ (some (gj_i x)) σ := by
  refine gj_body (lv := [(0, gj_r 0), (1, gj_i b1), (2, gj_i b2)]) (by decide +kernel) (Nat.le_of_ble_eq_true rfl) rfl (fun X hO => ?_)
  replace hO : gj_O E X RX8 cX8_bill 5 (some .int) 1 22 := hO
  unfold f_X8_bill at hf
  refine gj_aload_n hO 0 dX8_bill_0 rfl rfl ?_
  refine gt_X8_4 hO wk_185 dX8_bill_1 ?_
  refine gt_X7_0 hO kd_16 kl_16 wk_186 dX8_bill_4 ?_
  obtain ⟨x1, hc1, hf⟩ := gj_b hf
  refine ca_X1_sumCost hO isP_17 hc1 wk_427 (by decide) (by decide) (Nat.le_of_ble_eq_true rfl) dX8_bill_7 ?_
  refine gj_i2l hO dX8_bill_10 ?_
  refine gj_iload_n hO 1 dX8_bill_11 rfl rfl ?_
  refine gj_i2l hO dX8_bill_12 ?_
  refine gj_lmul hO dX8_bill_13 ?_
  refine gj_iload_n hO 2 dX8_bill_14 rfl rfl ?_
  refine gj_i2l hO dX8_bill_15 ?_
  refine gj_ladd hO dX8_bill_16 ?_
  refine gj_lstore_n (lv2 := [(3, gj_l (((Int32.toInt64 x1) * (Int32.toInt64 b1)) + (Int32.toInt64 b2))), (0, gj_r 0), (1, gj_i b1), (2, gj_i b2)]) hO dX8_bill_17 rfl (by decide) rfl ?_
  refine gj_lload_n hO 0 dX8_bill_18 rfl rfl ?_
  refine gj_ldc2 hO wk_431 dX8_bill_19 ?_
  refine gj_lcmp hO dX8_bill_22 ?_
  refine gj_if_lt (tgt := 34) hO dX8_bill_23 (by decide) (fun h => ?_) (fun h => ?_)
  · replace hf := gj_t h hf
    refine gj_ldc hO wk_432 dX8_bill_34 ?_
    obtain rfl := Option.some.inj hf
    exact gj_iret hO dX8_bill_36
  · replace hf := gj_f h hf
    refine gj_lload_n hO 0 dX8_bill_26 rfl rfl ?_
    refine gj_ldc2 hO wk_433 dX8_bill_27 ?_
    refine gj_lcmp hO dX8_bill_30 ?_
    refine gj_if_le (tgt := 37) hO dX8_bill_31 (by decide) (fun h => ?_) (fun h => ?_)
    · replace hf := gj_t h hf
      refine gj_lload_n hO 0 dX8_bill_37 rfl rfl ?_
      refine gj_l2i hO dX8_bill_38 ?_
      obtain rfl := Option.some.inj hf
      exact gj_iret hO dX8_bill_39
    · replace hf := gj_f h hf
      refine gj_ldc hO wk_432 dX8_bill_34 ?_
      obtain rfl := Option.some.inj hf
      exact gj_iret hO dX8_bill_36
set_option maxHeartbeats 4000000 in
set_option maxRecDepth 100000 in
theorem ca_X8_bill {E : gj_E} {X : gj_X} {own : String} {cc : ByteArray} {nL : Nat} {rt : Option FieldType} {fr lo : Nat} {ce sl : Nat} {Q : State → Prop} {pc : Nat} {lv : List (Nat × gj_V)} {st : List gj_V} {σ : gj_S} (hO : gj_O E X own cc nL rt fr lo) {b1 : Int32} {b2 : Int32}  {idx : Nat} {x : Int32} (hf : f_X8_bill b1 b2 σ = some x) (hl : Cond.methodLink own idx yX8_bill ∈ gj_gw) (hf1 : 2 ≤ fr) (hf2 : 46 ≤ lo) (hcat : ((st.map (gj_tv E.2.1)).map fun v => v.category).sum ≤ 8) (hd : decode cc pc = .ok (.invokevirtual idx, 3)) (k : gj_H E X nL ce sl Q (pc + 3) lv ((gj_i x) :: st) σ) : gj_H E X nL ce sl Q pc lv (gj_i b2 :: gj_i b1 :: gj_r 0 :: st) σ :=
  gj_callV hO (o := 0) (vs := [gj_i b1, gj_i b2]) (m_X8_bill  hf) (gj_Iany (by decide)) hl wk_434 wk_435 wk_4 wk_436 kl_0 kd_0 (by decide) (ci := 8) rfl (n := 2) (by decide +kernel) rfl hf1 hf2 rfl hcat hd k
def fb_X1_sumLack_l4 (b0 : Nat) (σ : gj_S) (a10004 : (Int32 × Int32)) : Option (Int32 ⊕ (Int32 × Int32)) := (if (σ.1 b0 0) ≤ a10004.2 then some (.inl a10004.1) else ((f_X1_lackOf b0 a10004.2 σ).bind fun x10401 => some (.inr ((a10004.1 + x10401), (a10004.2 + 1)))))
def f_X1_sumLack (b0 : Nat) (σ : gj_S) : Option Int32 := ((gj_lp (fb_X1_sumLack_l4 b0 σ) 5000 ((0 : Int32), (0 : Int32))).bind fun z1 => some z1)
set_option maxHeartbeats 4000000 in
set_option maxRecDepth 100000 in
theorem sb_X1_sumLack_l4 {E : gj_E} {X : gj_X} {r : Option gj_V} {τ : gj_S} (hO : gj_O E X RX1 cX1_sumLack 3 (some .int) 1 22) {b0 : Nat} {σ : gj_S} (g0 : isP b0) {a10004_0 : Int32} {a10004_1 : Int32} {x : Int32 ⊕ (Int32 × Int32)} (hf : fb_X1_sumLack_l4 b0 σ (a10004_0, a10004_1) = some x) (K : gj_K (fun z1 => gj_G E X 3 r τ 26 [(1, gj_i z1)] [] σ) (fun a10004 => gj_G E X 3 r τ 4 [(0, gj_r b0), (1, gj_i a10004.1), (2, gj_i a10004.2)] [] σ) x) : gj_G E X 3 r τ 4 [(0, gj_r b0), (1, gj_i a10004_0), (2, gj_i a10004_1)] [] σ := by
  unfold fb_X1_sumLack_l4 at hf
  dsimp only at hf
  refine gj_iload_n hO 2 dX1_sumLack_4 rfl rfl ?_
  refine gj_aload_n hO 0 dX1_sumLack_5 rfl rfl ?_
  refine gt_X1_0 hO (kdP_0 g0) (klP_0 g0) wk_10 dX1_sumLack_6 ?_
  refine gj_icmp_ge (tgt := 26) hO dX1_sumLack_9 (by decide) (fun h => ?_) (fun h => ?_)
  · replace hf := gj_t h hf
    obtain rfl := Option.some.inj hf
    refine gj_sub (lv2 := [(1, gj_i a10004_0)]) [1] rfl ?_
    exact K
  · replace hf := gj_f h hf
    refine gj_iload_n hO 1 dX1_sumLack_12 rfl rfl ?_
    refine gj_aload_n hO 0 dX1_sumLack_13 rfl rfl ?_
    refine gj_iload_n hO 2 dX1_sumLack_14 rfl rfl ?_
    obtain ⟨x10401, hc10401, hf⟩ := gj_b hf
    refine ca_X1_lackOf hO g0 hc10401 wk_437 (by decide) (by decide) (Nat.le_of_ble_eq_true rfl) dX1_sumLack_15 ?_
    refine gj_iadd hO dX1_sumLack_18 ?_
    refine gj_istore_n (lv2 := [(1, gj_i (a10004_0 + x10401)), (0, gj_r b0), (2, gj_i a10004_1)]) hO dX1_sumLack_19 rfl (by decide) rfl ?_
    refine gj_iinc (v := (a10004_1 + 1)) (lv2 := [(2, gj_i (a10004_1 + 1)), (1, gj_i (a10004_0 + x10401)), (0, gj_r b0)]) hO 2 dX1_sumLack_20 rfl rfl (by decide) rfl ?_
    refine gj_goto (tgt := 4) hO dX1_sumLack_23 (by decide) ?_
    obtain rfl := Option.some.inj hf
    refine gj_sub (lv2 := [(0, gj_r b0), (1, gj_i (a10004_0 + x10401)), (2, gj_i (a10004_1 + 1))]) [2, 1, 0] rfl ?_
    exact K
set_option maxHeartbeats 4000000 in
set_option maxRecDepth 100000 in
theorem m_X1_sumLack {E : gj_E} {σ : gj_S} {b0 : Nat} (g0 : isP b0) {x : Int32} (hf : f_X1_sumLack b0 σ = some x) : gj_M E yX1_sumLack cX1_sumLack 3 (some .int) 1 22 [gj_r b0] σ (some (gj_i x)) σ := by
  refine gj_body (lv := [(0, gj_r b0)]) (by decide +kernel) (Nat.le_of_ble_eq_true rfl) rfl (fun X hO => ?_)
  replace hO : gj_O E X RX1 cX1_sumLack 3 (some .int) 1 22 := hO
  unfold f_X1_sumLack at hf
  refine gj_iconst (v := 0) hO dX1_sumLack_0 (by decide) ?_
  refine gj_istore_n (lv2 := [(1, gj_i (0 : Int32)), (0, gj_r b0)]) hO dX1_sumLack_1 rfl (by decide) rfl ?_
  refine gj_iconst (v := 0) hO dX1_sumLack_2 (by decide) ?_
  refine gj_istore_n (lv2 := [(2, gj_i (0 : Int32)), (1, gj_i (0 : Int32)), (0, gj_r b0)]) hO dX1_sumLack_3 rfl (by decide) rfl ?_
  obtain ⟨z1, hz1, hf⟩ := gj_b hf
  have J1 : gj_G E X 3 (some (gj_i x)) σ 26 [(1, gj_i z1)] [] σ := by
    refine gj_iload_n hO 0 dX1_sumLack_26 rfl rfl ?_
    obtain rfl := Option.some.inj hf
    exact gj_iret hO dX1_sumLack_27
  refine gj_sub (lv2 := [(0, gj_r b0), (1, gj_i (0 : Int32)), (2, gj_i (0 : Int32))]) [2, 1, 0] rfl ?_
  exact gj_loop (head := fun a10004 => gj_G E X 3 (some (gj_i x)) σ 4 [(0, gj_r b0), (1, gj_i a10004.1), (2, gj_i a10004.2)] [] σ) (exit := fun z1 => gj_G E X 3 (some (gj_i x)) σ 26 [(1, gj_i z1)] [] σ) (fun a10004 x hf K => by obtain ⟨a10004_0, a10004_1⟩ := a10004; exact sb_X1_sumLack_l4 hO g0 hf K) _ _ _ hz1 J1
set_option maxHeartbeats 4000000 in
set_option maxRecDepth 100000 in
theorem ca_X1_sumLack {E : gj_E} {X : gj_X} {own : String} {cc : ByteArray} {nL : Nat} {rt : Option FieldType} {fr lo : Nat} {ce sl : Nat} {Q : State → Prop} {pc : Nat} {lv : List (Nat × gj_V)} {st : List gj_V} {σ : gj_S} (hO : gj_O E X own cc nL rt fr lo) {b0 : Nat} (g0 : isP b0) {idx : Nat} {x : Int32} (hf : f_X1_sumLack b0 σ = some x) (hl : Cond.methodLink own idx yX1_sumLack ∈ gj_gw) (hf1 : 2 ≤ fr) (hf2 : 44 ≤ lo) (hcat : ((st.map (gj_tv E.2.1)).map fun v => v.category).sum ≤ 8) (hd : decode cc pc = .ok (.invokevirtual idx, 3)) (k : gj_H E X nL ce sl Q (pc + 3) lv ((gj_i x) :: st) σ) : gj_H E X nL ce sl Q pc lv (gj_r b0 :: st) σ :=
  gj_callV hO (o := b0) (vs := []) (m_X1_sumLack g0 hf) (gj_Iany (by decide)) hl wk_438 wk_439 wk_15 wk_440 (klP_0 g0) (kdP_0 g0) (by decide) (ci := 1) rfl (n := 0) (by decide +kernel) rfl hf1 hf2 rfl hcat hd k
