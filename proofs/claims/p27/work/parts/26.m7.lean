def fb_X1_sumStuck_l4 (b0 : Nat) (σ : gj_S) (a10004 : (Int32 × Int32)) : Option (Int32 ⊕ (Int32 × Int32)) := (if (σ.1 b0 0) ≤ a10004.2 then some (.inl a10004.1) else ((f_X1_stuckOf b0 a10004.2 σ).bind fun x10401 => some (.inr ((a10004.1 + x10401), (a10004.2 + 1)))))
def f_X1_sumStuck (b0 : Nat) (σ : gj_S) : Option Int32 := ((gj_lp (fb_X1_sumStuck_l4 b0 σ) 5000 ((0 : Int32), (0 : Int32))).bind fun z1 => some z1)
set_option maxHeartbeats 4000000 in
set_option maxRecDepth 100000 in
theorem sb_X1_sumStuck_l4 {E : gj_E} {X : gj_X} {r : Option gj_V} {τ : gj_S} (hO : gj_O E X RX1 cX1_sumStuck 3 (some .int) 1 22) {b0 : Nat} {σ : gj_S} (g0 : isP b0) {a10004_0 : Int32} {a10004_1 : Int32} {x : Int32 ⊕ (Int32 × Int32)} (hf : fb_X1_sumStuck_l4 b0 σ (a10004_0, a10004_1) = some x) (K : gj_K (fun z1 => gj_G E X 3 r τ 26 [(1, gj_i z1)] [] σ) (fun a10004 => gj_G E X 3 r τ 4 [(0, gj_r b0), (1, gj_i a10004.1), (2, gj_i a10004.2)] [] σ) x) : gj_G E X 3 r τ 4 [(0, gj_r b0), (1, gj_i a10004_0), (2, gj_i a10004_1)] [] σ := by
  unfold fb_X1_sumStuck_l4 at hf
  dsimp only at hf
  refine gj_iload_n hO 2 dX1_sumStuck_4 rfl rfl ?_
  refine gj_aload_n hO 0 dX1_sumStuck_5 rfl rfl ?_
  refine gt_X1_0 hO (kdP_0 g0) (klP_0 g0) wk_10 dX1_sumStuck_6 ?_
  refine gj_icmp_ge (tgt := 26) hO dX1_sumStuck_9 (by decide) (fun h => ?_) (fun h => ?_)
  · replace hf := gj_t h hf
    obtain rfl := Option.some.inj hf
    refine gj_sub (lv2 := [(1, gj_i a10004_0)]) [1] rfl ?_
    exact K
  · replace hf := gj_f h hf
    refine gj_iload_n hO 1 dX1_sumStuck_12 rfl rfl ?_
    refine gj_aload_n hO 0 dX1_sumStuck_13 rfl rfl ?_
    refine gj_iload_n hO 2 dX1_sumStuck_14 rfl rfl ?_
    obtain ⟨x10401, hc10401, hf⟩ := gj_b hf
    refine ca_X1_stuckOf hO g0 hc10401 wk_441 (by decide) (by decide) (Nat.le_of_ble_eq_true rfl) dX1_sumStuck_15 ?_
    refine gj_iadd hO dX1_sumStuck_18 ?_
    refine gj_istore_n (lv2 := [(1, gj_i (a10004_0 + x10401)), (0, gj_r b0), (2, gj_i a10004_1)]) hO dX1_sumStuck_19 rfl (by decide) rfl ?_
    refine gj_iinc (v := (a10004_1 + 1)) (lv2 := [(2, gj_i (a10004_1 + 1)), (1, gj_i (a10004_0 + x10401)), (0, gj_r b0)]) hO 2 dX1_sumStuck_20 rfl rfl (by decide) rfl ?_
    refine gj_goto (tgt := 4) hO dX1_sumStuck_23 (by decide) ?_
    obtain rfl := Option.some.inj hf
    refine gj_sub (lv2 := [(0, gj_r b0), (1, gj_i (a10004_0 + x10401)), (2, gj_i (a10004_1 + 1))]) [2, 1, 0] rfl ?_
    exact K
set_option maxHeartbeats 4000000 in
set_option maxRecDepth 100000 in
theorem m_X1_sumStuck {E : gj_E} {σ : gj_S} {b0 : Nat} (g0 : isP b0) {x : Int32} (hf : f_X1_sumStuck b0 σ = some x) : gj_M E yX1_sumStuck cX1_sumStuck 3 (some .int) 1 22 [gj_r b0] σ (some (gj_i x)) σ := by
  refine gj_body (lv := [(0, gj_r b0)]) (by decide +kernel) (Nat.le_of_ble_eq_true rfl) rfl (fun X hO => ?_)
  replace hO : gj_O E X RX1 cX1_sumStuck 3 (some .int) 1 22 := hO
  unfold f_X1_sumStuck at hf
  refine gj_iconst (v := 0) hO dX1_sumStuck_0 (by decide) ?_
  refine gj_istore_n (lv2 := [(1, gj_i (0 : Int32)), (0, gj_r b0)]) hO dX1_sumStuck_1 rfl (by decide) rfl ?_
  refine gj_iconst (v := 0) hO dX1_sumStuck_2 (by decide) ?_
  refine gj_istore_n (lv2 := [(2, gj_i (0 : Int32)), (1, gj_i (0 : Int32)), (0, gj_r b0)]) hO dX1_sumStuck_3 rfl (by decide) rfl ?_
  obtain ⟨z1, hz1, hf⟩ := gj_b hf
  have J1 : gj_G E X 3 (some (gj_i x)) σ 26 [(1, gj_i z1)] [] σ := by
    refine gj_iload_n hO 0 dX1_sumStuck_26 rfl rfl ?_
    obtain rfl := Option.some.inj hf
    exact gj_iret hO dX1_sumStuck_27
  refine gj_sub (lv2 := [(0, gj_r b0), (1, gj_i (0 : Int32)), (2, gj_i (0 : Int32))]) [2, 1, 0] rfl ?_
  exact gj_loop (head := fun a10004 => gj_G E X 3 (some (gj_i x)) σ 4 [(0, gj_r b0), (1, gj_i a10004.1), (2, gj_i a10004.2)] [] σ) (exit := fun z1 => gj_G E X 3 (some (gj_i x)) σ 26 [(1, gj_i z1)] [] σ) (fun a10004 x hf K => by obtain ⟨a10004_0, a10004_1⟩ := a10004; exact sb_X1_sumStuck_l4 hO g0 hf K) _ _ _ hz1 J1
set_option maxHeartbeats 4000000 in
set_option maxRecDepth 100000 in
theorem ca_X1_sumStuck {E : gj_E} {X : gj_X} {own : String} {cc : ByteArray} {nL : Nat} {rt : Option FieldType} {fr lo : Nat} {ce sl : Nat} {Q : State → Prop} {pc : Nat} {lv : List (Nat × gj_V)} {st : List gj_V} {σ : gj_S} (hO : gj_O E X own cc nL rt fr lo) {b0 : Nat} (g0 : isP b0) {idx : Nat} {x : Int32} (hf : f_X1_sumStuck b0 σ = some x) (hl : Cond.methodLink own idx yX1_sumStuck ∈ gj_gw) (hf1 : 2 ≤ fr) (hf2 : 44 ≤ lo) (hcat : ((st.map (gj_tv E.2.1)).map fun v => v.category).sum ≤ 8) (hd : decode cc pc = .ok (.invokevirtual idx, 3)) (k : gj_H E X nL ce sl Q (pc + 3) lv ((gj_i x) :: st) σ) : gj_H E X nL ce sl Q pc lv (gj_r b0 :: st) σ :=
  gj_callV hO (o := b0) (vs := []) (m_X1_sumStuck g0 hf) (gj_Iany (by decide)) hl wk_442 wk_443 wk_15 wk_444 (klP_0 g0) (kdP_0 g0) (by decide) (ci := 1) rfl (n := 0) (by decide +kernel) rfl hf1 hf2 rfl hcat hd k
def f_X8_total  (σ : gj_S) : Option Int64 := ((f_X1_sumCost 17 σ).bind fun x1 => ((f_X1_sumLack 17 σ).bind fun x2 => ((f_X1_sumStuck 17 σ).bind fun x3 => some ((Int32.toInt64 x1) + ((10000 : Int64) * (Int32.toInt64 (x2 + x3)))))))
set_option maxHeartbeats 4000000 in
set_option maxRecDepth 100000 in
theorem m_X8_total {E : gj_E} {σ : gj_S}   {x : Int64} (hf : f_X8_total  σ = some x) : gj_M E yX8_total cX8_total 2 (some .long) 2 44 [gj_r 0] σ (some (gj_l x)) σ := by
  refine gj_body (lv := [(0, gj_r 0)]) (by decide +kernel) (Nat.le_of_ble_eq_true rfl) rfl (fun X hO => ?_)
  replace hO : gj_O E X RX8 cX8_total 2 (some .long) 2 44 := hO
  unfold f_X8_total at hf
  refine gj_aload_n hO 0 dX8_total_0 rfl rfl ?_
  refine gt_X8_4 hO wk_185 dX8_total_1 ?_
  refine gt_X7_0 hO kd_16 kl_16 wk_186 dX8_total_4 ?_
  refine gj_astore_n (lv2 := [(1, gj_r 17), (0, gj_r 0)]) hO dX8_total_7 rfl (by decide) rfl ?_
  refine gj_aload_n hO 0 dX8_total_8 rfl rfl ?_
  obtain ⟨x1, hc1, hf⟩ := gj_b hf
  refine ca_X1_sumCost hO isP_17 hc1 wk_427 (by decide) (by decide) (Nat.le_of_ble_eq_true rfl) dX8_total_9 ?_
  refine gj_i2l hO dX8_total_12 ?_
  refine gj_ldc2 hO wk_445 dX8_total_13 ?_
  refine gj_aload_n hO 0 dX8_total_16 rfl rfl ?_
  obtain ⟨x2, hc2, hf⟩ := gj_b hf
  refine ca_X1_sumLack hO isP_17 hc2 wk_446 (by decide) (by decide) (Nat.le_of_ble_eq_true rfl) dX8_total_17 ?_
  refine gj_aload_n hO 0 dX8_total_20 rfl rfl ?_
  obtain ⟨x3, hc3, hf⟩ := gj_b hf
  refine ca_X1_sumStuck hO isP_17 hc3 wk_447 (by decide) (by decide) (Nat.le_of_ble_eq_true rfl) dX8_total_21 ?_
  refine gj_iadd hO dX8_total_24 ?_
  refine gj_i2l hO dX8_total_25 ?_
  refine gj_lmul hO dX8_total_26 ?_
  refine gj_ladd hO dX8_total_27 ?_
  obtain rfl := Option.some.inj hf
  exact gj_lret hO dX8_total_28
set_option maxHeartbeats 4000000 in
set_option maxRecDepth 100000 in
theorem ca_X8_total {E : gj_E} {X : gj_X} {own : String} {cc : ByteArray} {nL : Nat} {rt : Option FieldType} {fr lo : Nat} {ce sl : Nat} {Q : State → Prop} {pc : Nat} {lv : List (Nat × gj_V)} {st : List gj_V} {σ : gj_S} (hO : gj_O E X own cc nL rt fr lo)   {idx : Nat} {x : Int64} (hf : f_X8_total  σ = some x) (hl : Cond.methodLink own idx yX8_total ∈ gj_gw) (hf1 : 3 ≤ fr) (hf2 : 65 ≤ lo) (hcat : ((st.map (gj_tv E.2.1)).map fun v => v.category).sum ≤ 8) (hd : decode cc pc = .ok (.invokevirtual idx, 3)) (k : gj_H E X nL ce sl Q (pc + 3) lv ((gj_l x) :: st) σ) : gj_H E X nL ce sl Q pc lv (gj_r 0 :: st) σ :=
  gj_callV hO (o := 0) (vs := []) (m_X8_total  hf) (gj_Iany (by decide)) hl wk_448 wk_449 wk_4 wk_450 kl_0 kd_0 (by decide) (ci := 8) rfl (n := 0) (by decide +kernel) rfl hf1 hf2 rfl hcat hd k
def fb_X7_sumProof_l4 (b0 : Nat) (σ : gj_S) (a10004 : (Int64 × Int32)) : Option (Int64 ⊕ (Int64 × Int32)) := (if (σ.1 (b0 + 1) 1) ≤ a10004.2 then some (.inl a10004.1) else ((f_X7_gainOf b0 a10004.2 σ).bind fun x10401 => (if gj_in a10004.2 24 then some (.inr ((a10004.1 + ((Int32.toInt64 (if (0 : Int32) < x10401 then (0 : Int32) else x10401)) * (Int32.toInt64 (σ.1 ((b0 + 1) + 5) (Int32.toNatClampNeg a10004.2))))), (a10004.2 + 1))) else none)))
def fb_X7_sumProof_l47 (b0 : Nat) (σ : gj_S) (a10047 : (Int64 × Int32)) : Option (Int64 ⊕ (Int64 × Int32)) := (if (σ.1 (b0 + 1) 0) ≤ a10047.2 then some (.inl a10047.1) else (if gj_in a10047.2 8 then (if gj_in a10047.2 9 then some (.inr ((a10047.1 - ((Int32.toInt64 (σ.1 ((b0 + 1) + 1) (Int32.toNatClampNeg a10047.2))) * (Int32.toInt64 (σ.1 ((b0 + 10) + 4) (Int32.toNatClampNeg a10047.2))))), (a10047.2 + 1))) else none) else none))
def f_X7_sumProof (b0 : Nat) (σ : gj_S) : Option Int64 := ((gj_lp (fb_X7_sumProof_l4 b0 σ) 5000 ((0 : Int64), (0 : Int32))).bind fun z1 => ((gj_lp (fb_X7_sumProof_l47 b0 σ) 5000 (z1, (0 : Int32))).bind fun z2 => some z2))
set_option maxHeartbeats 4000000 in
set_option maxRecDepth 100000 in
theorem sb_X7_sumProof_l4 {E : gj_E} {X : gj_X} {r : Option gj_V} {τ : gj_S} (hO : gj_O E X RX7 cX7_sumProof 4 (some .long) 1 24) {b0 : Nat} {σ : gj_S} (g0 : isY b0) {a10004_0 : Int64} {a10004_1 : Int32} {x : Int64 ⊕ (Int64 × Int32)} (hf : fb_X7_sumProof_l4 b0 σ (a10004_0, a10004_1) = some x) (K : gj_K (fun z1 => gj_G E X 4 r τ 45 [(0, gj_r b0), (1, gj_l z1)] [] σ) (fun a10004 => gj_G E X 4 r τ 4 [(0, gj_r b0), (1, gj_l a10004.1), (3, gj_i a10004.2)] [] σ) x) : gj_G E X 4 r τ 4 [(0, gj_r b0), (1, gj_l a10004_0), (3, gj_i a10004_1)] [] σ := by
  unfold fb_X7_sumProof_l4 at hf
  dsimp only at hf
  refine gj_iload_n hO 2 dX7_sumProof_4 rfl rfl ?_
  refine gj_aload_n hO 0 dX7_sumProof_5 rfl rfl ?_
  refine gt_X7_0 hO (kdY_0 g0) (klY_0 g0) wk_167 dX7_sumProof_6 ?_
  refine gt_X1_1 hO (kdP_0 (isY_P g0)) (klP_0 (isY_P g0)) wk_451 dX7_sumProof_9 ?_
  refine gj_icmp_ge (tgt := 45) hO dX7_sumProof_12 (by decide) (fun h => ?_) (fun h => ?_)
  · replace hf := gj_t h hf
    obtain rfl := Option.some.inj hf
    refine gj_sub (lv2 := [(0, gj_r b0), (1, gj_l a10004_0)]) [0, 1] rfl ?_
    exact K
  · replace hf := gj_f h hf
    refine gj_lload_n hO 1 dX7_sumProof_15 rfl rfl ?_
    refine gj_aload_n hO 0 dX7_sumProof_16 rfl rfl ?_
    refine gj_iload_n hO 2 dX7_sumProof_17 rfl rfl ?_
    obtain ⟨x10401, hc10401, hf⟩ := gj_b hf
    refine ca_X7_gainOf hO g0 hc10401 wk_262 (by decide) (by decide) (Nat.le_of_ble_eq_true rfl) dX7_sumProof_18 ?_
    refine gj_iconst (v := 0) hO dX7_sumProof_21 (by decide) ?_
    refine gj_mmin hO wk_452 (by decide) (by decide) (Nat.le_of_ble_eq_true rfl) dX7_sumProof_22 ?_
    refine gj_i2l hO dX7_sumProof_25 ?_
    refine gj_aload_n hO 0 dX7_sumProof_26 rfl rfl ?_
    refine gt_X7_0 hO (kdY_0 g0) (klY_0 g0) wk_167 dX7_sumProof_27 ?_
    refine gt_X1_9 hO (kdP_0 (isY_P g0)) (klP_0 (isY_P g0)) wk_453 dX7_sumProof_30 ?_
    refine gj_iload_n hO 2 dX7_sumProof_33 rfl rfl ?_
    obtain ⟨hb10402, hf⟩ := gj_c hf
    refine gj_iald hO (klP_5 (isY_P g0)) (kdP_5 (isY_P g0)) hb10402 dX7_sumProof_34 ?_
    refine gj_i2l hO dX7_sumProof_35 ?_
    refine gj_lmul hO dX7_sumProof_36 ?_
    refine gj_ladd hO dX7_sumProof_37 ?_
    refine gj_lstore_n (lv2 := [(1, gj_l (a10004_0 + ((Int32.toInt64 (if (0 : Int32) < x10401 then (0 : Int32) else x10401)) * (Int32.toInt64 (σ.1 ((b0 + 1) + 5) (Int32.toNatClampNeg a10004_1)))))), (0, gj_r b0), (3, gj_i a10004_1)]) hO dX7_sumProof_38 rfl (by decide) rfl ?_
    refine gj_iinc (v := (a10004_1 + 1)) (lv2 := [(3, gj_i (a10004_1 + 1)), (1, gj_l (a10004_0 + ((Int32.toInt64 (if (0 : Int32) < x10401 then (0 : Int32) else x10401)) * (Int32.toInt64 (σ.1 ((b0 + 1) + 5) (Int32.toNatClampNeg a10004_1)))))), (0, gj_r b0)]) hO 2 dX7_sumProof_39 rfl rfl (by decide) rfl ?_
    refine gj_goto (tgt := 4) hO dX7_sumProof_42 (by decide) ?_
    obtain rfl := Option.some.inj hf
    refine gj_sub (lv2 := [(0, gj_r b0), (1, gj_l (a10004_0 + ((Int32.toInt64 (if (0 : Int32) < x10401 then (0 : Int32) else x10401)) * (Int32.toInt64 (σ.1 ((b0 + 1) + 5) (Int32.toNatClampNeg a10004_1)))))), (3, gj_i (a10004_1 + 1))]) [2, 1, 0] rfl ?_
    exact K
set_option maxHeartbeats 4000000 in
set_option maxRecDepth 100000 in
theorem sb_X7_sumProof_l47 {E : gj_E} {X : gj_X} {r : Option gj_V} {τ : gj_S} (hO : gj_O E X RX7 cX7_sumProof 4 (some .long) 1 24) {b0 : Nat} {σ : gj_S} (g0 : isY b0) {a10047_0 : Int64} {a10047_1 : Int32} {x : Int64 ⊕ (Int64 × Int32)} (hf : fb_X7_sumProof_l47 b0 σ (a10047_0, a10047_1) = some x) (K : gj_K (fun z2 => gj_G E X 4 r τ 88 [(1, gj_l z2)] [] σ) (fun a10047 => gj_G E X 4 r τ 47 [(0, gj_r b0), (1, gj_l a10047.1), (3, gj_i a10047.2)] [] σ) x) : gj_G E X 4 r τ 47 [(0, gj_r b0), (1, gj_l a10047_0), (3, gj_i a10047_1)] [] σ := by
  unfold fb_X7_sumProof_l47 at hf
  dsimp only at hf
  refine gj_iload_n hO 2 dX7_sumProof_47 rfl rfl ?_
  refine gj_aload_n hO 0 dX7_sumProof_48 rfl rfl ?_
  refine gt_X7_0 hO (kdY_0 g0) (klY_0 g0) wk_167 dX7_sumProof_49 ?_
  refine gt_X1_0 hO (kdP_0 (isY_P g0)) (klP_0 (isY_P g0)) wk_206 dX7_sumProof_52 ?_
  refine gj_icmp_ge (tgt := 88) hO dX7_sumProof_55 (by decide) (fun h => ?_) (fun h => ?_)
  · replace hf := gj_t h hf
    obtain rfl := Option.some.inj hf
    refine gj_sub (lv2 := [(1, gj_l a10047_0)]) [1] rfl ?_
    exact K
  · replace hf := gj_f h hf
    refine gj_lload_n hO 1 dX7_sumProof_58 rfl rfl ?_
    refine gj_aload_n hO 0 dX7_sumProof_59 rfl rfl ?_
    refine gt_X7_0 hO (kdY_0 g0) (klY_0 g0) wk_167 dX7_sumProof_60 ?_
    refine gt_X1_5 hO (kdP_0 (isY_P g0)) (klP_0 (isY_P g0)) wk_454 dX7_sumProof_63 ?_
    refine gj_iload_n hO 2 dX7_sumProof_66 rfl rfl ?_
    obtain ⟨hb14701, hf⟩ := gj_c hf
    refine gj_iald hO (klP_1 (isY_P g0)) (kdP_1 (isY_P g0)) hb14701 dX7_sumProof_67 ?_
    refine gj_i2l hO dX7_sumProof_68 ?_
    refine gj_aload_n hO 0 dX7_sumProof_69 rfl rfl ?_
    refine gt_X7_1 hO (kdY_0 g0) (klY_0 g0) wk_166 dX7_sumProof_70 ?_
    refine gt_X5_3 hO (kdT_0 (isY_T g0)) (klT_0 (isY_T g0)) wk_237 dX7_sumProof_73 ?_
    refine gj_iload_n hO 2 dX7_sumProof_76 rfl rfl ?_
    obtain ⟨hb14702, hf⟩ := gj_c hf
    refine gj_iald hO (klT_4 (isY_T g0)) (kdT_4 (isY_T g0)) hb14702 dX7_sumProof_77 ?_
    refine gj_i2l hO dX7_sumProof_78 ?_
    refine gj_lmul hO dX7_sumProof_79 ?_
    refine gj_lsub hO dX7_sumProof_80 ?_
    refine gj_lstore_n (lv2 := [(1, gj_l (a10047_0 - ((Int32.toInt64 (σ.1 ((b0 + 1) + 1) (Int32.toNatClampNeg a10047_1))) * (Int32.toInt64 (σ.1 ((b0 + 10) + 4) (Int32.toNatClampNeg a10047_1)))))), (0, gj_r b0), (3, gj_i a10047_1)]) hO dX7_sumProof_81 rfl (by decide) rfl ?_
    refine gj_iinc (v := (a10047_1 + 1)) (lv2 := [(3, gj_i (a10047_1 + 1)), (1, gj_l (a10047_0 - ((Int32.toInt64 (σ.1 ((b0 + 1) + 1) (Int32.toNatClampNeg a10047_1))) * (Int32.toInt64 (σ.1 ((b0 + 10) + 4) (Int32.toNatClampNeg a10047_1)))))), (0, gj_r b0)]) hO 2 dX7_sumProof_82 rfl rfl (by decide) rfl ?_
    refine gj_goto (tgt := 47) hO dX7_sumProof_85 (by decide) ?_
    obtain rfl := Option.some.inj hf
    refine gj_sub (lv2 := [(0, gj_r b0), (1, gj_l (a10047_0 - ((Int32.toInt64 (σ.1 ((b0 + 1) + 1) (Int32.toNatClampNeg a10047_1))) * (Int32.toInt64 (σ.1 ((b0 + 10) + 4) (Int32.toNatClampNeg a10047_1)))))), (3, gj_i (a10047_1 + 1))]) [2, 1, 0] rfl ?_
    exact K
set_option maxHeartbeats 4000000 in
set_option maxRecDepth 100000 in
theorem m_X7_sumProof {E : gj_E} {σ : gj_S} {b0 : Nat} (g0 : isY b0) {x : Int64} (hf : f_X7_sumProof b0 σ = some x) : gj_M E yX7_sumProof cX7_sumProof 4 (some .long) 1 24 [gj_r b0] σ (some (gj_l x)) σ := by
  refine gj_body (lv := [(0, gj_r b0)]) (by decide +kernel) (Nat.le_of_ble_eq_true rfl) rfl (fun X hO => ?_)
  replace hO : gj_O E X RX7 cX7_sumProof 4 (some .long) 1 24 := hO
  unfold f_X7_sumProof at hf
  refine gj_lconst (v := 0) hO dX7_sumProof_0 (by decide) ?_
  refine gj_lstore_n (lv2 := [(1, gj_l (0 : Int64)), (0, gj_r b0)]) hO dX7_sumProof_1 rfl (by decide) rfl ?_
  refine gj_iconst (v := 0) hO dX7_sumProof_2 (by decide) ?_
  refine gj_istore_n (lv2 := [(3, gj_i (0 : Int32)), (1, gj_l (0 : Int64)), (0, gj_r b0)]) hO dX7_sumProof_3 rfl (by decide) rfl ?_
  obtain ⟨z1, hz1, hf⟩ := gj_b hf
  have J1 : gj_G E X 4 (some (gj_l x)) σ 45 [(0, gj_r b0), (1, gj_l z1)] [] σ := by
    refine gj_iconst (v := 0) hO dX7_sumProof_45 (by decide) ?_
    refine gj_istore_n (lv2 := [(3, gj_i (0 : Int32)), (0, gj_r b0), (1, gj_l z1)]) hO dX7_sumProof_46 rfl (by decide) rfl ?_
    obtain ⟨z2, hz2, hf⟩ := gj_b hf
    have J2 : gj_G E X 4 (some (gj_l x)) σ 88 [(1, gj_l z2)] [] σ := by
      refine gj_lload_n hO 0 dX7_sumProof_88 rfl rfl ?_
      obtain rfl := Option.some.inj hf
      exact gj_lret hO dX7_sumProof_89
    refine gj_sub (lv2 := [(0, gj_r b0), (1, gj_l z1), (3, gj_i (0 : Int32))]) [1, 2, 0] rfl ?_
    exact gj_loop (head := fun a10047 => gj_G E X 4 (some (gj_l x)) σ 47 [(0, gj_r b0), (1, gj_l a10047.1), (3, gj_i a10047.2)] [] σ) (exit := fun z2 => gj_G E X 4 (some (gj_l x)) σ 88 [(1, gj_l z2)] [] σ) (fun a10047 x hf K => by obtain ⟨a10047_0, a10047_1⟩ := a10047; exact sb_X7_sumProof_l47 hO g0 hf K) _ _ _ hz2 J2
  refine gj_sub (lv2 := [(0, gj_r b0), (1, gj_l (0 : Int64)), (3, gj_i (0 : Int32))]) [2, 1, 0] rfl ?_
  exact gj_loop (head := fun a10004 => gj_G E X 4 (some (gj_l x)) σ 4 [(0, gj_r b0), (1, gj_l a10004.1), (3, gj_i a10004.2)] [] σ) (exit := fun z1 => gj_G E X 4 (some (gj_l x)) σ 45 [(0, gj_r b0), (1, gj_l z1)] [] σ) (fun a10004 x hf K => by obtain ⟨a10004_0, a10004_1⟩ := a10004; exact sb_X7_sumProof_l4 hO g0 hf K) _ _ _ hz1 J1
set_option maxHeartbeats 4000000 in
set_option maxRecDepth 100000 in
theorem ca_X7_sumProof {E : gj_E} {X : gj_X} {own : String} {cc : ByteArray} {nL : Nat} {rt : Option FieldType} {fr lo : Nat} {ce sl : Nat} {Q : State → Prop} {pc : Nat} {lv : List (Nat × gj_V)} {st : List gj_V} {σ : gj_S} (hO : gj_O E X own cc nL rt fr lo) {b0 : Nat} (g0 : isY b0) {idx : Nat} {x : Int64} (hf : f_X7_sumProof b0 σ = some x) (hl : Cond.methodLink own idx yX7_sumProof ∈ gj_gw) (hf1 : 2 ≤ fr) (hf2 : 47 ≤ lo) (hcat : ((st.map (gj_tv E.2.1)).map fun v => v.category).sum ≤ 8) (hd : decode cc pc = .ok (.invokevirtual idx, 3)) (k : gj_H E X nL ce sl Q (pc + 3) lv ((gj_l x) :: st) σ) : gj_H E X nL ce sl Q pc lv (gj_r b0 :: st) σ :=
  gj_callV hO (o := b0) (vs := []) (m_X7_sumProof g0 hf) (gj_Iany (by decide)) hl wk_455 wk_456 wk_171 wk_457 (klY_0 g0) (kdY_0 g0) (by decide) (ci := 7) rfl (n := 0) (by decide +kernel) rfl hf1 hf2 rfl hcat hd k
def f_X8_proof  (σ : gj_S) : Option Int64 := ((f_X7_sumProof 16 σ).bind fun x1 => some x1)
set_option maxHeartbeats 4000000 in
set_option maxRecDepth 100000 in
theorem m_X8_proof {E : gj_E} {σ : gj_S}   {x : Int64} (hf : f_X8_proof  σ = some x) : gj_M E yX8_proof cX8_proof 1 (some .long) 2 47 [gj_r 0] σ (some (gj_l x)) σ := by
  refine gj_body (lv := [(0, gj_r 0)]) (by decide +kernel) (Nat.le_of_ble_eq_true rfl) rfl (fun X hO => ?_)
  replace hO : gj_O E X RX8 cX8_proof 1 (some .long) 2 47 := hO
  unfold f_X8_proof at hf
  refine gj_aload_n hO 0 dX8_proof_0 rfl rfl ?_
  refine gt_X8_4 hO wk_185 dX8_proof_1 ?_
  obtain ⟨x1, hc1, hf⟩ := gj_b hf
  refine ca_X7_sumProof hO isY_16 hc1 wk_458 (by decide) (by decide) (Nat.le_of_ble_eq_true rfl) dX8_proof_4 ?_
  obtain rfl := Option.some.inj hf
  exact gj_lret hO dX8_proof_7
set_option maxHeartbeats 4000000 in
set_option maxRecDepth 100000 in
theorem ca_X8_proof {E : gj_E} {X : gj_X} {own : String} {cc : ByteArray} {nL : Nat} {rt : Option FieldType} {fr lo : Nat} {ce sl : Nat} {Q : State → Prop} {pc : Nat} {lv : List (Nat × gj_V)} {st : List gj_V} {σ : gj_S} (hO : gj_O E X own cc nL rt fr lo)   {idx : Nat} {x : Int64} (hf : f_X8_proof  σ = some x) (hl : Cond.methodLink own idx yX8_proof ∈ gj_gw) (hf1 : 3 ≤ fr) (hf2 : 67 ≤ lo) (hcat : ((st.map (gj_tv E.2.1)).map fun v => v.category).sum ≤ 8) (hd : decode cc pc = .ok (.invokevirtual idx, 3)) (k : gj_H E X nL ce sl Q (pc + 3) lv ((gj_l x) :: st) σ) : gj_H E X nL ce sl Q pc lv (gj_r 0 :: st) σ :=
  gj_callV hO (o := 0) (vs := []) (m_X8_proof  hf) (gj_Iany (by decide)) hl wk_459 wk_460 wk_4 wk_461 kl_0 kd_0 (by decide) (ci := 8) rfl (n := 0) (by decide +kernel) rfl hf1 hf2 rfl hcat hd k
def fb_X1_firstLacking_l2 (b0 : Nat) (σ : gj_S) (a10002 : Int32) : Option ((Int32 ⊕ Unit) ⊕ Int32) := (if (σ.1 b0 0) ≤ a10002 then some (.inl (.inr ())) else ((f_X1_lackOf b0 a10002 σ).bind fun x10201 => (if x10201 ≤ 0 then some (.inr (a10002 + 1)) else some (.inl (.inl a10002)))))
def f_X1_firstLacking (b0 : Nat) (σ : gj_S) : Option Int32 := ((gj_lp (fb_X1_firstLacking_l2 b0 σ) 5000 (0 : Int32)).bind fun y1 => Sum.elim (fun q => some q) (fun z1 => some (-2 : Int32)) y1)
set_option maxHeartbeats 4000000 in
set_option maxRecDepth 100000 in
theorem sb_X1_firstLacking_l2 {E : gj_E} {X : gj_X} {r : Option gj_V} {τ : gj_S} (hO : gj_O E X RX1 cX1_firstLacking 2 (some .int) 1 22) {b0 : Nat} {σ : gj_S} (g0 : isP b0) {a10002 : Int32} {x : (Int32 ⊕ Unit) ⊕ Int32} (hf : fb_X1_firstLacking_l2 b0 σ a10002 = some x) (K : gj_K (fun y1 => gj_K (fun q => r = (some (gj_i q)) ∧ τ = σ) (fun z1 => gj_G E X 2 r τ 26 [] [] σ) y1) (fun a10002 => gj_G E X 2 r τ 2 [(0, gj_r b0), (1, gj_i a10002)] [] σ) x) : gj_G E X 2 r τ 2 [(0, gj_r b0), (1, gj_i a10002)] [] σ := by
  unfold fb_X1_firstLacking_l2 at hf
  refine gj_iload_n hO 1 dX1_firstLacking_2 rfl rfl ?_
  refine gj_aload_n hO 0 dX1_firstLacking_3 rfl rfl ?_
  refine gt_X1_0 hO (kdP_0 g0) (klP_0 g0) wk_10 dX1_firstLacking_4 ?_
  refine gj_icmp_ge (tgt := 26) hO dX1_firstLacking_7 (by decide) (fun h => ?_) (fun h => ?_)
  · replace hf := gj_t h hf
    obtain rfl := Option.some.inj hf
    refine gj_sub (lv2 := []) [] rfl ?_
    exact K
  · replace hf := gj_f h hf
    refine gj_aload_n hO 0 dX1_firstLacking_10 rfl rfl ?_
    refine gj_iload_n hO 1 dX1_firstLacking_11 rfl rfl ?_
    obtain ⟨x10201, hc10201, hf⟩ := gj_b hf
    refine ca_X1_lackOf hO g0 hc10201 wk_437 (by decide) (by decide) (Nat.le_of_ble_eq_true rfl) dX1_firstLacking_12 ?_
    refine gj_if_le (tgt := 20) hO dX1_firstLacking_15 (by decide) (fun h => ?_) (fun h => ?_)
    · replace hf := gj_t h hf
      refine gj_iinc (v := (a10002 + 1)) (lv2 := [(1, gj_i (a10002 + 1)), (0, gj_r b0)]) hO 1 dX1_firstLacking_20 rfl rfl (by decide) rfl ?_
      refine gj_goto (tgt := 2) hO dX1_firstLacking_23 (by decide) ?_
      obtain rfl := Option.some.inj hf
      refine gj_sub (lv2 := [(0, gj_r b0), (1, gj_i (a10002 + 1))]) [1, 0] rfl ?_
      exact K
    · replace hf := gj_f h hf
      refine gj_iload_n hO 1 dX1_firstLacking_18 rfl rfl ?_
      obtain rfl := Option.some.inj hf
      obtain ⟨rfl, rfl⟩ := K
      exact gj_iret hO dX1_firstLacking_19
set_option maxHeartbeats 4000000 in
set_option maxRecDepth 100000 in
theorem m_X1_firstLacking {E : gj_E} {σ : gj_S} {b0 : Nat} (g0 : isP b0) {x : Int32} (hf : f_X1_firstLacking b0 σ = some x) : gj_M E yX1_firstLacking cX1_firstLacking 2 (some .int) 1 22 [gj_r b0] σ (some (gj_i x)) σ := by
  refine gj_body (lv := [(0, gj_r b0)]) (by decide +kernel) (Nat.le_of_ble_eq_true rfl) rfl (fun X hO => ?_)
  replace hO : gj_O E X RX1 cX1_firstLacking 2 (some .int) 1 22 := hO
  unfold f_X1_firstLacking at hf
  refine gj_iconst (v := 0) hO dX1_firstLacking_0 (by decide) ?_
  refine gj_istore_n (lv2 := [(1, gj_i (0 : Int32)), (0, gj_r b0)]) hO dX1_firstLacking_1 rfl (by decide) rfl ?_
  obtain ⟨y1, hz1, hf⟩ := gj_b hf
  have J1 : (fun y1 => gj_K (fun q => (some (gj_i x)) = (some (gj_i q)) ∧ σ = σ) (fun z1 => gj_G E X 2 (some (gj_i x)) σ 26 [] [] σ) y1) y1 := by
    rcases y1 with q | z1
    · have hf : some q = some x := hf
      obtain rfl := Option.some.inj hf
      exact ⟨rfl, rfl⟩
    · dsimp only [Sum.elim] at hf
      refine gj_bipush (v := (-2)) hO dX1_firstLacking_26 (by decide) ?_
      obtain rfl := Option.some.inj hf
      exact gj_iret hO dX1_firstLacking_28
  refine gj_sub (lv2 := [(0, gj_r b0), (1, gj_i (0 : Int32))]) [1, 0] rfl ?_
  exact gj_loop (head := fun a10002 => gj_G E X 2 (some (gj_i x)) σ 2 [(0, gj_r b0), (1, gj_i a10002)] [] σ) (exit := fun y1 => gj_K (fun q => (some (gj_i x)) = (some (gj_i q)) ∧ σ = σ) (fun z1 => gj_G E X 2 (some (gj_i x)) σ 26 [] [] σ) y1) (fun a10002 x hf K => sb_X1_firstLacking_l2 hO g0 hf K) _ _ _ hz1 J1
set_option maxHeartbeats 4000000 in
set_option maxRecDepth 100000 in
theorem ca_X1_firstLacking {E : gj_E} {X : gj_X} {own : String} {cc : ByteArray} {nL : Nat} {rt : Option FieldType} {fr lo : Nat} {ce sl : Nat} {Q : State → Prop} {pc : Nat} {lv : List (Nat × gj_V)} {st : List gj_V} {σ : gj_S} (hO : gj_O E X own cc nL rt fr lo) {b0 : Nat} (g0 : isP b0) {idx : Nat} {x : Int32} (hf : f_X1_firstLacking b0 σ = some x) (hl : Cond.methodLink own idx yX1_firstLacking ∈ gj_gw) (hf1 : 2 ≤ fr) (hf2 : 43 ≤ lo) (hcat : ((st.map (gj_tv E.2.1)).map fun v => v.category).sum ≤ 8) (hd : decode cc pc = .ok (.invokevirtual idx, 3)) (k : gj_H E X nL ce sl Q (pc + 3) lv ((gj_i x) :: st) σ) : gj_H E X nL ce sl Q pc lv (gj_r b0 :: st) σ :=
  gj_callV hO (o := b0) (vs := []) (m_X1_firstLacking g0 hf) (gj_Iany (by decide)) hl wk_462 wk_463 wk_15 wk_464 (klP_0 g0) (kdP_0 g0) (by decide) (ci := 1) rfl (n := 0) (by decide +kernel) rfl hf1 hf2 rfl hcat hd k
def fb_X1_firstStuck_l2 (b0 : Nat) (σ : gj_S) (a10002 : Int32) : Option ((Int32 ⊕ Unit) ⊕ Int32) := (if (σ.1 b0 0) ≤ a10002 then some (.inl (.inr ())) else ((f_X1_stuckOf b0 a10002 σ).bind fun x10201 => (if x10201 ≤ 0 then some (.inr (a10002 + 1)) else some (.inl (.inl a10002)))))
def f_X1_firstStuck (b0 : Nat) (σ : gj_S) : Option Int32 := ((gj_lp (fb_X1_firstStuck_l2 b0 σ) 5000 (0 : Int32)).bind fun y1 => Sum.elim (fun q => some q) (fun z1 => some (-2 : Int32)) y1)
set_option maxHeartbeats 4000000 in
set_option maxRecDepth 100000 in
theorem sb_X1_firstStuck_l2 {E : gj_E} {X : gj_X} {r : Option gj_V} {τ : gj_S} (hO : gj_O E X RX1 cX1_firstStuck 2 (some .int) 1 22) {b0 : Nat} {σ : gj_S} (g0 : isP b0) {a10002 : Int32} {x : (Int32 ⊕ Unit) ⊕ Int32} (hf : fb_X1_firstStuck_l2 b0 σ a10002 = some x) (K : gj_K (fun y1 => gj_K (fun q => r = (some (gj_i q)) ∧ τ = σ) (fun z1 => gj_G E X 2 r τ 26 [] [] σ) y1) (fun a10002 => gj_G E X 2 r τ 2 [(0, gj_r b0), (1, gj_i a10002)] [] σ) x) : gj_G E X 2 r τ 2 [(0, gj_r b0), (1, gj_i a10002)] [] σ := by
  unfold fb_X1_firstStuck_l2 at hf
  refine gj_iload_n hO 1 dX1_firstStuck_2 rfl rfl ?_
  refine gj_aload_n hO 0 dX1_firstStuck_3 rfl rfl ?_
  refine gt_X1_0 hO (kdP_0 g0) (klP_0 g0) wk_10 dX1_firstStuck_4 ?_
  refine gj_icmp_ge (tgt := 26) hO dX1_firstStuck_7 (by decide) (fun h => ?_) (fun h => ?_)
  · replace hf := gj_t h hf
    obtain rfl := Option.some.inj hf
    refine gj_sub (lv2 := []) [] rfl ?_
    exact K
  · replace hf := gj_f h hf
    refine gj_aload_n hO 0 dX1_firstStuck_10 rfl rfl ?_
    refine gj_iload_n hO 1 dX1_firstStuck_11 rfl rfl ?_
    obtain ⟨x10201, hc10201, hf⟩ := gj_b hf
    refine ca_X1_stuckOf hO g0 hc10201 wk_441 (by decide) (by decide) (Nat.le_of_ble_eq_true rfl) dX1_firstStuck_12 ?_
    refine gj_if_le (tgt := 20) hO dX1_firstStuck_15 (by decide) (fun h => ?_) (fun h => ?_)
    · replace hf := gj_t h hf
      refine gj_iinc (v := (a10002 + 1)) (lv2 := [(1, gj_i (a10002 + 1)), (0, gj_r b0)]) hO 1 dX1_firstStuck_20 rfl rfl (by decide) rfl ?_
      refine gj_goto (tgt := 2) hO dX1_firstStuck_23 (by decide) ?_
      obtain rfl := Option.some.inj hf
      refine gj_sub (lv2 := [(0, gj_r b0), (1, gj_i (a10002 + 1))]) [1, 0] rfl ?_
      exact K
    · replace hf := gj_f h hf
      refine gj_iload_n hO 1 dX1_firstStuck_18 rfl rfl ?_
      obtain rfl := Option.some.inj hf
      obtain ⟨rfl, rfl⟩ := K
      exact gj_iret hO dX1_firstStuck_19
set_option maxHeartbeats 4000000 in
set_option maxRecDepth 100000 in
theorem m_X1_firstStuck {E : gj_E} {σ : gj_S} {b0 : Nat} (g0 : isP b0) {x : Int32} (hf : f_X1_firstStuck b0 σ = some x) : gj_M E yX1_firstStuck cX1_firstStuck 2 (some .int) 1 22 [gj_r b0] σ (some (gj_i x)) σ := by
  refine gj_body (lv := [(0, gj_r b0)]) (by decide +kernel) (Nat.le_of_ble_eq_true rfl) rfl (fun X hO => ?_)
  replace hO : gj_O E X RX1 cX1_firstStuck 2 (some .int) 1 22 := hO
  unfold f_X1_firstStuck at hf
  refine gj_iconst (v := 0) hO dX1_firstStuck_0 (by decide) ?_
  refine gj_istore_n (lv2 := [(1, gj_i (0 : Int32)), (0, gj_r b0)]) hO dX1_firstStuck_1 rfl (by decide) rfl ?_
  obtain ⟨y1, hz1, hf⟩ := gj_b hf
  have J1 : (fun y1 => gj_K (fun q => (some (gj_i x)) = (some (gj_i q)) ∧ σ = σ) (fun z1 => gj_G E X 2 (some (gj_i x)) σ 26 [] [] σ) y1) y1 := by
    rcases y1 with q | z1
    · have hf : some q = some x := hf
      obtain rfl := Option.some.inj hf
      exact ⟨rfl, rfl⟩
    · dsimp only [Sum.elim] at hf
      refine gj_bipush (v := (-2)) hO dX1_firstStuck_26 (by decide) ?_
      obtain rfl := Option.some.inj hf
      exact gj_iret hO dX1_firstStuck_28
  refine gj_sub (lv2 := [(0, gj_r b0), (1, gj_i (0 : Int32))]) [1, 0] rfl ?_
  exact gj_loop (head := fun a10002 => gj_G E X 2 (some (gj_i x)) σ 2 [(0, gj_r b0), (1, gj_i a10002)] [] σ) (exit := fun y1 => gj_K (fun q => (some (gj_i x)) = (some (gj_i q)) ∧ σ = σ) (fun z1 => gj_G E X 2 (some (gj_i x)) σ 26 [] [] σ) y1) (fun a10002 x hf K => sb_X1_firstStuck_l2 hO g0 hf K) _ _ _ hz1 J1
set_option maxHeartbeats 4000000 in
set_option maxRecDepth 100000 in
theorem ca_X1_firstStuck {E : gj_E} {X : gj_X} {own : String} {cc : ByteArray} {nL : Nat} {rt : Option FieldType} {fr lo : Nat} {ce sl : Nat} {Q : State → Prop} {pc : Nat} {lv : List (Nat × gj_V)} {st : List gj_V} {σ : gj_S} (hO : gj_O E X own cc nL rt fr lo) {b0 : Nat} (g0 : isP b0) {idx : Nat} {x : Int32} (hf : f_X1_firstStuck b0 σ = some x) (hl : Cond.methodLink own idx yX1_firstStuck ∈ gj_gw) (hf1 : 2 ≤ fr) (hf2 : 43 ≤ lo) (hcat : ((st.map (gj_tv E.2.1)).map fun v => v.category).sum ≤ 8) (hd : decode cc pc = .ok (.invokevirtual idx, 3)) (k : gj_H E X nL ce sl Q (pc + 3) lv ((gj_i x) :: st) σ) : gj_H E X nL ce sl Q pc lv (gj_r b0 :: st) σ :=
  gj_callV hO (o := b0) (vs := []) (m_X1_firstStuck g0 hf) (gj_Iany (by decide)) hl wk_465 wk_466 wk_15 wk_467 (klP_0 g0) (kdP_0 g0) (by decide) (ci := 1) rfl (n := 0) (by decide +kernel) rfl hf1 hf2 rfl hcat hd k
def f_X8_lack (b1 : Int32) (σ : gj_S) : Option Int32 := (if b1 = 0 then ((f_X1_sumLack 17 σ).bind fun x1 => some x1) else (if b1 = 1 then ((f_X1_firstLacking 17 σ).bind fun x2 => some x2) else (if b1 = 2 then ((f_X1_sumStuck 17 σ).bind fun x3 => some x3) else (if b1 = 3 then ((f_X1_firstStuck 17 σ).bind fun x4 => some x4) else some (-1 : Int32)))))
set_option maxHeartbeats 4000000 in
set_option maxRecDepth 100000 in
theorem m_X8_lack {E : gj_E} {σ : gj_S} {b1 : Int32}  {x : Int32} (hf : f_X8_lack b1 σ = some x) : gj_M E yX8_lack cX8_lack 2 (some .int) 2 44 [gj_r 0, gj_i b1] σ (some (gj_i x)) σ := by
  refine gj_body (lv := [(0, gj_r 0), (1, gj_i b1)]) (by decide +kernel) (Nat.le_of_ble_eq_true rfl) rfl (fun X hO => ?_)
  replace hO : gj_O E X RX8 cX8_lack 2 (some .int) 2 44 := hO
  unfold f_X8_lack at hf
  refine gj_iload_n hO 1 dX8_lack_0 rfl rfl ?_
  by_cases hs0 : b1 = 0
  · replace hf := gj_t hs0 hf
    refine gj_tblAt 0 (tgt := 32) hO dX8_lack_1 hs0 (by decide) (by decide) rfl (by decide) ?_
    refine gj_aload_n hO 0 dX8_lack_32 rfl rfl ?_
    refine gt_X8_4 hO wk_185 dX8_lack_33 ?_
    refine gt_X7_0 hO kd_16 kl_16 wk_186 dX8_lack_36 ?_
    obtain ⟨x1, hc1, hf⟩ := gj_b hf
    refine ca_X1_sumLack hO isP_17 hc1 wk_446 (by decide) (by decide) (Nat.le_of_ble_eq_true rfl) dX8_lack_39 ?_
    obtain rfl := Option.some.inj hf
    exact gj_iret hO dX8_lack_42
  · replace hf := gj_f hs0 hf
    by_cases hs1 : b1 = 1
    · replace hf := gj_t hs1 hf
      refine gj_tblAt 1 (tgt := 43) hO dX8_lack_1 hs1 (by decide) (by decide) rfl (by decide) ?_
      refine gj_aload_n hO 0 dX8_lack_43 rfl rfl ?_
      refine gt_X8_4 hO wk_185 dX8_lack_44 ?_
      refine gt_X7_0 hO kd_16 kl_16 wk_186 dX8_lack_47 ?_
      obtain ⟨x2, hc2, hf⟩ := gj_b hf
      refine ca_X1_firstLacking hO isP_17 hc2 wk_468 (by decide) (by decide) (Nat.le_of_ble_eq_true rfl) dX8_lack_50 ?_
      obtain rfl := Option.some.inj hf
      exact gj_iret hO dX8_lack_53
    · replace hf := gj_f hs1 hf
      by_cases hs2 : b1 = 2
      · replace hf := gj_t hs2 hf
        refine gj_tblAt 2 (tgt := 54) hO dX8_lack_1 hs2 (by decide) (by decide) rfl (by decide) ?_
        refine gj_aload_n hO 0 dX8_lack_54 rfl rfl ?_
        refine gt_X8_4 hO wk_185 dX8_lack_55 ?_
        refine gt_X7_0 hO kd_16 kl_16 wk_186 dX8_lack_58 ?_
        obtain ⟨x3, hc3, hf⟩ := gj_b hf
        refine ca_X1_sumStuck hO isP_17 hc3 wk_447 (by decide) (by decide) (Nat.le_of_ble_eq_true rfl) dX8_lack_61 ?_
        obtain rfl := Option.some.inj hf
        exact gj_iret hO dX8_lack_64
      · replace hf := gj_f hs2 hf
        by_cases hs3 : b1 = 3
        · replace hf := gj_t hs3 hf
          refine gj_tblAt 3 (tgt := 65) hO dX8_lack_1 hs3 (by decide) (by decide) rfl (by decide) ?_
          refine gj_aload_n hO 0 dX8_lack_65 rfl rfl ?_
          refine gt_X8_4 hO wk_185 dX8_lack_66 ?_
          refine gt_X7_0 hO kd_16 kl_16 wk_186 dX8_lack_69 ?_
          obtain ⟨x4, hc4, hf⟩ := gj_b hf
          refine ca_X1_firstStuck hO isP_17 hc4 wk_469 (by decide) (by decide) (Nat.le_of_ble_eq_true rfl) dX8_lack_72 ?_
          obtain rfl := Option.some.inj hf
          exact gj_iret hO dX8_lack_75
        · replace hf := gj_f hs3 hf
          refine gj_tblOut (tgt := 76) hO dX8_lack_1 (gj_out3 hs0 hs1 hs2 hs3) (by decide) ?_
          refine gj_iconst (v := (-1)) hO dX8_lack_76 (by decide) ?_
          obtain rfl := Option.some.inj hf
          exact gj_iret hO dX8_lack_77
set_option maxHeartbeats 4000000 in
set_option maxRecDepth 100000 in
theorem ca_X8_lack {E : gj_E} {X : gj_X} {own : String} {cc : ByteArray} {nL : Nat} {rt : Option FieldType} {fr lo : Nat} {ce sl : Nat} {Q : State → Prop} {pc : Nat} {lv : List (Nat × gj_V)} {st : List gj_V} {σ : gj_S} (hO : gj_O E X own cc nL rt fr lo) {b1 : Int32}  {idx : Nat} {x : Int32} (hf : f_X8_lack b1 σ = some x) (hl : Cond.methodLink own idx yX8_lack ∈ gj_gw) (hf1 : 3 ≤ fr) (hf2 : 65 ≤ lo) (hcat : ((st.map (gj_tv E.2.1)).map fun v => v.category).sum ≤ 8) (hd : decode cc pc = .ok (.invokevirtual idx, 3)) (k : gj_H E X nL ce sl Q (pc + 3) lv ((gj_i x) :: st) σ) : gj_H E X nL ce sl Q pc lv (gj_i b1 :: gj_r 0 :: st) σ :=
  gj_callV hO (o := 0) (vs := [gj_i b1]) (m_X8_lack  hf) (gj_Iany (by decide)) hl wk_470 wk_471 wk_4 wk_472 kl_0 kd_0 (by decide) (ci := 8) rfl (n := 1) (by decide +kernel) rfl hf1 hf2 rfl hcat hd k
def f_X6_reach (b1 : Int32) (b2 : Int32) (b3 : Int32) (σ : gj_S) : Option gj_S := (if gj_in b1 8 then (if (σ.1 167 (Int32.toNatClampNeg b1)) = (2147483647 : Int32) then some σ else (if gj_in b1 8 then (if gj_in b2 8 then (if (σ.1 167 (Int32.toNatClampNeg b2)) ≤ ((σ.1 167 (Int32.toNatClampNeg b1)) + b3) then some σ else (if gj_in b1 8 then (if gj_in b2 8 then some (gj_sI σ 167 (upd (σ.1 167) (Int32.toNatClampNeg b2) ((σ.1 167 (Int32.toNatClampNeg b1)) + b3))) else none) else none)) else none) else none)) else none)
set_option maxHeartbeats 4000000 in
set_option maxRecDepth 100000 in
theorem m_X6_reach {E : gj_E} {σ : gj_S} {b1 : Int32} {b2 : Int32} {b3 : Int32}  {x : gj_S} (hf : f_X6_reach b1 b2 b3 σ = some x) : gj_M E yX6_reach cX6_reach 4 none 0 0 [gj_r 166, gj_i b1, gj_i b2, gj_i b3] σ none x := by
  refine gj_body (lv := [(0, gj_r 166), (1, gj_i b1), (2, gj_i b2), (3, gj_i b3)]) (by decide +kernel) (Nat.le_of_ble_eq_true rfl) rfl (fun X hO => ?_)
  replace hO : gj_O E X RX6 cX6_reach 4 none 0 0 := hO
  unfold f_X6_reach at hf
  refine gj_aload_n hO 0 dX6_reach_0 rfl rfl ?_
  refine gt_X6_0 hO wk_473 dX6_reach_1 ?_
  refine gj_iload_n hO 1 dX6_reach_4 rfl rfl ?_
  obtain ⟨hb1, hf⟩ := gj_c hf
  refine gj_iald hO kl_167 kd_167 hb1 dX6_reach_5 ?_
  refine gj_ldc hO wk_474 dX6_reach_6 ?_
  refine gj_icmp_eq (tgt := 42) hO dX6_reach_8 (by decide) (fun h => ?_) (fun h => ?_)
  · replace hf := gj_t h hf
    obtain rfl := Option.some.inj hf
    exact gj_vret hO dX6_reach_42
  · replace hf := gj_f h hf
    refine gj_aload_n hO 0 dX6_reach_11 rfl rfl ?_
    refine gt_X6_0 hO wk_473 dX6_reach_12 ?_
    refine gj_iload_n hO 1 dX6_reach_15 rfl rfl ?_
    obtain ⟨hb2, hf⟩ := gj_c hf
    refine gj_iald hO kl_167 kd_167 hb2 dX6_reach_16 ?_
    refine gj_iload_n hO 3 dX6_reach_17 rfl rfl ?_
    refine gj_iadd hO dX6_reach_18 ?_
    refine gj_aload_n hO 0 dX6_reach_19 rfl rfl ?_
    refine gt_X6_0 hO wk_473 dX6_reach_20 ?_
    refine gj_iload_n hO 2 dX6_reach_23 rfl rfl ?_
    obtain ⟨hb3, hf⟩ := gj_c hf
    refine gj_iald hO kl_167 kd_167 hb3 dX6_reach_24 ?_
    refine gj_icmp_ge (tgt := 42) hO dX6_reach_25 (by decide) (fun h => ?_) (fun h => ?_)
    · replace hf := gj_t h hf
      obtain rfl := Option.some.inj hf
      exact gj_vret hO dX6_reach_42
    · replace hf := gj_f h hf
      refine gj_aload_n hO 0 dX6_reach_28 rfl rfl ?_
      refine gt_X6_0 hO wk_473 dX6_reach_29 ?_
      refine gj_iload_n hO 2 dX6_reach_32 rfl rfl ?_
      refine gj_aload_n hO 0 dX6_reach_33 rfl rfl ?_
      refine gt_X6_0 hO wk_473 dX6_reach_34 ?_
      refine gj_iload_n hO 1 dX6_reach_37 rfl rfl ?_
      obtain ⟨hb4, hf⟩ := gj_c hf
      refine gj_iald hO kl_167 kd_167 hb4 dX6_reach_38 ?_
      refine gj_iload_n hO 3 dX6_reach_39 rfl rfl ?_
      refine gj_iadd hO dX6_reach_40 ?_
      obtain ⟨hb5, hf⟩ := gj_c hf
      refine gj_iast hO kl_167 kd_167 hb5 dX6_reach_41 ?_
      obtain rfl := Option.some.inj hf
      exact gj_vret hO dX6_reach_42
set_option maxHeartbeats 4000000 in
set_option maxRecDepth 100000 in
theorem ca_X6_reach {E : gj_E} {X : gj_X} {own : String} {cc : ByteArray} {nL : Nat} {rt : Option FieldType} {fr lo : Nat} {ce sl : Nat} {Q : State → Prop} {pc : Nat} {lv : List (Nat × gj_V)} {st : List gj_V} {σ : gj_S} (hO : gj_O E X own cc nL rt fr lo) {b1 : Int32} {b2 : Int32} {b3 : Int32}  {idx : Nat} {x : gj_S} (hf : f_X6_reach b1 b2 b3 σ = some x) (hl : Cond.methodLink own idx yX6_reach ∈ gj_gw) (hf1 : 1 ≤ fr) (hf2 : 23 ≤ lo) (hcat : ((st.map (gj_tv E.2.1)).map fun v => v.category).sum ≤ 8) (hd : decode cc pc = .ok (.invokevirtual idx, 3)) (k : gj_H E X nL ce sl Q (pc + 3) lv (st) x) : gj_H E X nL ce sl Q pc lv (gj_i b3 :: gj_i b2 :: gj_i b1 :: gj_r 166 :: st) σ :=
  gj_callV hO (o := 166) (vs := [gj_i b1, gj_i b2, gj_i b3]) (m_X6_reach  hf) (gj_Iany (by decide)) hl wk_475 wk_476 wk_477 wk_478 kl_166 kd_166 (by decide) (ci := 6) rfl (n := 3) (by decide +kernel) rfl hf1 hf2 rfl hcat hd k
def f_X6_tryRoute (b2 : Int32) (σ : gj_S) : Option gj_S := (if gj_in b2 24 then (if gj_in b2 24 then ((f_X1_roomOf 17 b2 (1 : Int32) σ).bind fun x3 => ((if x3 ≤ 0 then some σ else (if gj_in b2 24 then ((f_X6_reach (σ.1 19 (Int32.toNatClampNeg b2)) (σ.1 20 (Int32.toNatClampNeg b2)) (σ.1 21 (Int32.toNatClampNeg b2)) σ).bind fun x6 => some x6) else none) : Option gj_S).bind fun z4 => ((f_X1_roomOf 17 b2 (0 : Int32) z4).bind fun x7 => (if x7 ≤ 0 then some z4 else (if gj_in b2 24 then ((f_X6_reach (σ.1 20 (Int32.toNatClampNeg b2)) (σ.1 19 (Int32.toNatClampNeg b2)) (0 - (z4.1 21 (Int32.toNatClampNeg b2))) z4).bind fun x9 => some x9) else none))))) else none) else none)
set_option maxHeartbeats 4000000 in
set_option maxRecDepth 100000 in
theorem m_X6_tryRoute {E : gj_E} {σ : gj_S} {b2 : Int32}  {x : gj_S} (hf : f_X6_tryRoute b2 σ = some x) : gj_M E yX6_tryRoute cX6_tryRoute 5 none 1 23 [gj_r 166, gj_r 17, gj_i b2] σ none x := by
  refine gj_body (lv := [(0, gj_r 166), (1, gj_r 17), (2, gj_i b2)]) (by decide +kernel) (Nat.le_of_ble_eq_true rfl) rfl (fun X hO => ?_)
  replace hO : gj_O E X RX6 cX6_tryRoute 5 none 1 23 := hO
  unfold f_X6_tryRoute at hf
  refine gj_aload_n hO 1 dX6_tryRoute_0 rfl rfl ?_
  refine gt_X1_6 hO kd_17 kl_17 wk_479 dX6_tryRoute_1 ?_
  refine gj_iload_n hO 2 dX6_tryRoute_4 rfl rfl ?_
  obtain ⟨hb1, hf⟩ := gj_c hf
  refine gj_iald hO kl_19 kd_19 hb1 dX6_tryRoute_5 ?_
  refine gj_istore_n (lv2 := [(3, gj_i (σ.1 19 (Int32.toNatClampNeg b2))), (0, gj_r 166), (1, gj_r 17), (2, gj_i b2)]) hO dX6_tryRoute_6 rfl (by decide) rfl ?_
  refine gj_aload_n hO 2 dX6_tryRoute_7 rfl rfl ?_
  refine gt_X1_7 hO kd_17 kl_17 wk_480 dX6_tryRoute_8 ?_
  refine gj_iload_n hO 3 dX6_tryRoute_11 rfl rfl ?_
  obtain ⟨hb2, hf⟩ := gj_c hf
  refine gj_iald hO kl_20 kd_20 hb2 dX6_tryRoute_12 ?_
  refine gj_istore (lv2 := [(4, gj_i (σ.1 20 (Int32.toNatClampNeg b2))), (3, gj_i (σ.1 19 (Int32.toNatClampNeg b2))), (0, gj_r 166), (1, gj_r 17), (2, gj_i b2)]) hO dX6_tryRoute_13 (by decide) rfl ?_
  refine gj_aload_n hO 3 dX6_tryRoute_15 rfl rfl ?_
  refine gj_iload_n hO 4 dX6_tryRoute_16 rfl rfl ?_
  refine gj_iconst (v := 1) hO dX6_tryRoute_17 (by decide) ?_
  obtain ⟨x3, hc3, hf⟩ := gj_b hf
  refine ca_X1_roomOf hO isP_17 hc3 wk_481 (by decide) (by decide) (Nat.le_of_ble_eq_true rfl) dX6_tryRoute_18 ?_
  obtain ⟨z4, hz4, hf⟩ := gj_b hf
  have J4 : gj_G E X 5 none x 37 [(0, gj_r 166), (1, gj_r 17), (2, gj_i b2), (3, gj_i (σ.1 19 (Int32.toNatClampNeg b2))), (4, gj_i (σ.1 20 (Int32.toNatClampNeg b2)))] [] z4 := by
    refine gj_aload_n hO 1 dX6_tryRoute_37 rfl rfl ?_
    refine gj_iload_n hO 2 dX6_tryRoute_38 rfl rfl ?_
    refine gj_iconst (v := 0) hO dX6_tryRoute_39 (by decide) ?_
    obtain ⟨x7, hc7, hf⟩ := gj_b hf
    refine ca_X1_roomOf hO isP_17 hc7 wk_481 (by decide) (by decide) (Nat.le_of_ble_eq_true rfl) dX6_tryRoute_40 ?_
    refine gj_if_le (tgt := 60) hO dX6_tryRoute_43 (by decide) (fun h => ?_) (fun h => ?_)
    · replace hf := gj_t h hf
      obtain rfl := Option.some.inj hf
      exact gj_vret hO dX6_tryRoute_60
    · replace hf := gj_f h hf
      refine gj_aload_n hO 0 dX6_tryRoute_46 rfl rfl ?_
      refine gj_iload hO 4 dX6_tryRoute_47 rfl ?_
      refine gj_iload_n hO 3 dX6_tryRoute_49 rfl rfl ?_
      refine gj_aload_n hO 1 dX6_tryRoute_50 rfl rfl ?_
      refine gt_X1_8 hO kd_17 kl_17 wk_482 dX6_tryRoute_51 ?_
      refine gj_iload_n hO 2 dX6_tryRoute_54 rfl rfl ?_
      obtain ⟨hb8, hf⟩ := gj_c hf
      refine gj_iald hO kl_21 kd_21 hb8 dX6_tryRoute_55 ?_
      refine gj_ineg hO dX6_tryRoute_56 ?_
      obtain ⟨x9, hc9, hf⟩ := gj_b hf
      refine ca_X6_reach hO  hc9 wk_483 (by decide) (by decide) (Nat.le_of_ble_eq_true rfl) dX6_tryRoute_57 ?_
      obtain rfl := Option.some.inj hf
      exact gj_vret hO dX6_tryRoute_60
  refine gj_if_le (tgt := 37) hO dX6_tryRoute_21 (by decide) (fun h => ?_) (fun h => ?_)
  · replace hz4 := gj_t h hz4
    obtain rfl := Option.some.inj hz4
    refine gj_sub (lv2 := [(0, gj_r 166), (1, gj_r 17), (2, gj_i b2), (3, gj_i (σ.1 19 (Int32.toNatClampNeg b2))), (4, gj_i (σ.1 20 (Int32.toNatClampNeg b2)))]) [2, 3, 4, 1, 0] rfl ?_
    exact J4
  · replace hz4 := gj_f h hz4
    refine gj_aload_n hO 2 dX6_tryRoute_24 rfl rfl ?_
    refine gj_iload_n hO 1 dX6_tryRoute_25 rfl rfl ?_
    refine gj_iload hO 0 dX6_tryRoute_26 rfl ?_
    refine gj_aload_n hO 3 dX6_tryRoute_28 rfl rfl ?_
    refine gt_X1_8 hO kd_17 kl_17 wk_482 dX6_tryRoute_29 ?_
    refine gj_iload_n hO 4 dX6_tryRoute_32 rfl rfl ?_
    obtain ⟨hb5, hz4⟩ := gj_c hz4
    refine gj_iald hO kl_21 kd_21 hb5 dX6_tryRoute_33 ?_
    obtain ⟨x6, hc6, hz4⟩ := gj_b hz4
    refine ca_X6_reach hO  hc6 wk_483 (by decide) (by decide) (Nat.le_of_ble_eq_true rfl) dX6_tryRoute_34 ?_
    obtain rfl := Option.some.inj hz4
    refine gj_sub (lv2 := [(0, gj_r 166), (1, gj_r 17), (2, gj_i b2), (3, gj_i (σ.1 19 (Int32.toNatClampNeg b2))), (4, gj_i (σ.1 20 (Int32.toNatClampNeg b2)))]) [2, 3, 4, 1, 0] rfl ?_
    exact J4
set_option maxHeartbeats 4000000 in
set_option maxRecDepth 100000 in
theorem ca_X6_tryRoute {E : gj_E} {X : gj_X} {own : String} {cc : ByteArray} {nL : Nat} {rt : Option FieldType} {fr lo : Nat} {ce sl : Nat} {Q : State → Prop} {pc : Nat} {lv : List (Nat × gj_V)} {st : List gj_V} {σ : gj_S} (hO : gj_O E X own cc nL rt fr lo) {b2 : Int32}  {idx : Nat} {x : gj_S} (hf : f_X6_tryRoute b2 σ = some x) (hl : Cond.methodLink own idx yX6_tryRoute ∈ gj_gw) (hf1 : 2 ≤ fr) (hf2 : 47 ≤ lo) (hcat : ((st.map (gj_tv E.2.1)).map fun v => v.category).sum ≤ 8) (hd : decode cc pc = .ok (.invokevirtual idx, 3)) (k : gj_H E X nL ce sl Q (pc + 3) lv (st) x) : gj_H E X nL ce sl Q pc lv (gj_i b2 :: gj_r 17 :: gj_r 166 :: st) σ :=
  gj_callV hO (o := 166) (vs := [gj_r 17, gj_i b2]) (m_X6_tryRoute  hf) (gj_Iany (by decide)) hl wk_484 wk_485 wk_477 wk_486 kl_166 kd_166 (by decide) (ci := 6) rfl (n := 2) (by decide +kernel) rfl hf1 hf2 rfl hcat hd k
def fb_X6_findLeast_l3 (b2 : Int32) (b3 : Int32) (a10003 : (Int32 × gj_S)) : Option (gj_S ⊕ (Int32 × gj_S)) := (if (8 : Int32) ≤ a10003.1 then some (.inl a10003.2) else (if a10003.1 = b2 then (if gj_in a10003.1 8 then some (.inr ((a10003.1 + 1), (gj_sI a10003.2 167 (upd (a10003.2.1 167) (Int32.toNatClampNeg a10003.1) (0 : Int32))))) else none) else (if gj_in a10003.1 8 then some (.inr ((a10003.1 + 1), (gj_sI a10003.2 167 (upd (a10003.2.1 167) (Int32.toNatClampNeg a10003.1) (2147483647 : Int32))))) else none)))
def fb_X6_findLeast_l50 (b3 : Int32) (b4 : Int32) (a10050 : (Int32 × gj_S)) : Option (gj_S ⊕ (Int32 × gj_S)) := (if (a10050.2.1 17 1) ≤ a10050.1 then some (.inl a10050.2) else ((f_X6_tryRoute a10050.1 a10050.2).bind fun x15001 => some (.inr ((a10050.1 + 1), x15001))))
def fb_X6_findLeast_l38 (b3 : Int32) (a10038 : (Int32 × gj_S)) : Option (gj_S ⊕ (Int32 × gj_S)) := (if (a10038.2.1 17 0) ≤ a10038.1 then some (.inl a10038.2) else ((gj_lp (fb_X6_findLeast_l50 b3 a10038.1) 5000 ((0 : Int32), a10038.2)).bind fun z13801 => some (.inr ((a10038.1 + 1), z13801))))
def f_X6_findLeast (b2 : Int32) (b3 : Int32) (σ : gj_S) : Option (Int32 × gj_S) := ((gj_lp (fb_X6_findLeast_l3 b2 b3) 5000 ((0 : Int32), σ)).bind fun z1 => ((gj_lp (fb_X6_findLeast_l38 b3) 5000 ((0 : Int32), z1)).bind fun z2 => (if gj_in b3 8 then (if (z2.1 167 (Int32.toNatClampNeg b3)) = (2147483647 : Int32) then some ((-2147483648 : Int32), z2) else (if gj_in b3 8 then some ((z2.1 167 (Int32.toNatClampNeg b3)), z2) else none)) else none)))
set_option maxHeartbeats 4000000 in
set_option maxRecDepth 100000 in
theorem sb_X6_findLeast_l3 {E : gj_E} {X : gj_X} {r : Option gj_V} {τ : gj_S} (hO : gj_O E X RX6 cX6_findLeast 6 (some .int) 2 47) {b2 : Int32} {b3 : Int32} {a10003_0 : Int32} {a10003_1 : gj_S} {x : gj_S ⊕ (Int32 × gj_S)} (hf : fb_X6_findLeast_l3 b2 b3 (a10003_0, a10003_1) = some x) (K : gj_K (fun z1 => gj_G E X 6 r τ 35 [(0, gj_r 166), (1, gj_r 17), (3, gj_i b3)] [] z1) (fun a10003 => gj_G E X 6 r τ 3 [(0, gj_r 166), (1, gj_r 17), (2, gj_i b2), (3, gj_i b3), (4, gj_i a10003.1)] [] a10003.2) x) : gj_G E X 6 r τ 3 [(0, gj_r 166), (1, gj_r 17), (2, gj_i b2), (3, gj_i b3), (4, gj_i a10003_0)] [] a10003_1 := by
  unfold fb_X6_findLeast_l3 at hf
  dsimp only at hf
  refine gj_iload hO 4 dX6_findLeast_3 rfl ?_
  refine gj_bipush (v := 8) hO dX6_findLeast_5 (by decide) ?_
  refine gj_icmp_ge (tgt := 35) hO dX6_findLeast_7 (by decide) (fun h => ?_) (fun h => ?_)
  · replace hf := gj_t h hf
    obtain rfl := Option.some.inj hf
    refine gj_sub (lv2 := [(0, gj_r 166), (1, gj_r 17), (3, gj_i b3)]) [0, 1, 3] rfl ?_
    exact K
  · replace hf := gj_f h hf
    refine gj_aload_n hO 0 dX6_findLeast_10 rfl rfl ?_
    refine gt_X6_0 hO wk_473 dX6_findLeast_11 ?_
    refine gj_iload hO 4 dX6_findLeast_14 rfl ?_
    refine gj_iload hO 4 dX6_findLeast_16 rfl ?_
    refine gj_iload_n hO 2 dX6_findLeast_18 rfl rfl ?_
    refine gj_icmp_ne (tgt := 26) hO dX6_findLeast_19 (by decide) (fun h => ?_) (fun h => ?_)
    · replace hf := gj_f h hf
      refine gj_ldc hO wk_474 dX6_findLeast_26 ?_
      obtain ⟨hb10301, hf⟩ := gj_c hf
      refine gj_iast hO kl_167 kd_167 hb10301 dX6_findLeast_28 ?_
      refine gj_iinc (v := (a10003_0 + 1)) (lv2 := [(4, gj_i (a10003_0 + 1)), (0, gj_r 166), (1, gj_r 17), (2, gj_i b2), (3, gj_i b3)]) hO 4 dX6_findLeast_29 rfl rfl (by decide) rfl ?_
      refine gj_goto (tgt := 3) hO dX6_findLeast_32 (by decide) ?_
      obtain rfl := Option.some.inj hf
      refine gj_sub (lv2 := [(0, gj_r 166), (1, gj_r 17), (2, gj_i b2), (3, gj_i b3), (4, gj_i (a10003_0 + 1))]) [1, 2, 3, 4, 0] rfl ?_
      exact K
    · replace hf := gj_t h hf
      refine gj_iconst (v := 0) hO dX6_findLeast_22 (by decide) ?_
      refine gj_goto (tgt := 28) hO dX6_findLeast_23 (by decide) ?_
      obtain ⟨hb10302, hf⟩ := gj_c hf
      refine gj_iast hO kl_167 kd_167 hb10302 dX6_findLeast_28 ?_
      refine gj_iinc (v := (a10003_0 + 1)) (lv2 := [(4, gj_i (a10003_0 + 1)), (0, gj_r 166), (1, gj_r 17), (2, gj_i b2), (3, gj_i b3)]) hO 4 dX6_findLeast_29 rfl rfl (by decide) rfl ?_
      refine gj_goto (tgt := 3) hO dX6_findLeast_32 (by decide) ?_
      obtain rfl := Option.some.inj hf
      refine gj_sub (lv2 := [(0, gj_r 166), (1, gj_r 17), (2, gj_i b2), (3, gj_i b3), (4, gj_i (a10003_0 + 1))]) [1, 2, 3, 4, 0] rfl ?_
      exact K
set_option maxHeartbeats 4000000 in
set_option maxRecDepth 100000 in
theorem sb_X6_findLeast_l50 {E : gj_E} {X : gj_X} {r : Option gj_V} {τ : gj_S} (hO : gj_O E X RX6 cX6_findLeast 6 (some .int) 2 47) {b3 : Int32} {b4 : Int32} {a10050_0 : Int32} {a10050_1 : gj_S} {x : gj_S ⊕ (Int32 × gj_S)} (hf : fb_X6_findLeast_l50 b3 b4 (a10050_0, a10050_1) = some x) (K : gj_K (fun z13801 => gj_G E X 6 r τ 72 [(0, gj_r 166), (1, gj_r 17), (3, gj_i b3), (4, gj_i b4)] [] z13801) (fun a10050 => gj_G E X 6 r τ 50 [(0, gj_r 166), (1, gj_r 17), (3, gj_i b3), (4, gj_i b4), (5, gj_i a10050.1)] [] a10050.2) x) : gj_G E X 6 r τ 50 [(0, gj_r 166), (1, gj_r 17), (3, gj_i b3), (4, gj_i b4), (5, gj_i a10050_0)] [] a10050_1 := by
  unfold fb_X6_findLeast_l50 at hf
  dsimp only at hf
  refine gj_iload hO 4 dX6_findLeast_50 rfl ?_
  refine gj_aload_n hO 1 dX6_findLeast_52 rfl rfl ?_
  refine gt_X1_1 hO kd_17 kl_17 wk_488 dX6_findLeast_53 ?_
  refine gj_icmp_ge (tgt := 72) hO dX6_findLeast_56 (by decide) (fun h => ?_) (fun h => ?_)
  · replace hf := gj_t h hf
    obtain rfl := Option.some.inj hf
    refine gj_sub (lv2 := [(0, gj_r 166), (1, gj_r 17), (3, gj_i b3), (4, gj_i b4)]) [0, 1, 2, 3] rfl ?_
    exact K
  · replace hf := gj_f h hf
    refine gj_aload_n hO 0 dX6_findLeast_59 rfl rfl ?_
    refine gj_aload_n hO 1 dX6_findLeast_60 rfl rfl ?_
    refine gj_iload hO 4 dX6_findLeast_61 rfl ?_
    obtain ⟨x15001, hc15001, hf⟩ := gj_b hf
    refine ca_X6_tryRoute hO  hc15001 wk_489 (by decide) (by decide) (Nat.le_of_ble_eq_true rfl) dX6_findLeast_63 ?_
    refine gj_iinc (v := (a10050_0 + 1)) (lv2 := [(5, gj_i (a10050_0 + 1)), (0, gj_r 166), (1, gj_r 17), (3, gj_i b3), (4, gj_i b4)]) hO 4 dX6_findLeast_66 rfl rfl (by decide) rfl ?_
    refine gj_goto (tgt := 50) hO dX6_findLeast_69 (by decide) ?_
    obtain rfl := Option.some.inj hf
    refine gj_sub (lv2 := [(0, gj_r 166), (1, gj_r 17), (3, gj_i b3), (4, gj_i b4), (5, gj_i (a10050_0 + 1))]) [1, 2, 3, 4, 0] rfl ?_
    exact K
set_option maxHeartbeats 4000000 in
set_option maxRecDepth 100000 in
theorem sb_X6_findLeast_l38 {E : gj_E} {X : gj_X} {r : Option gj_V} {τ : gj_S} (hO : gj_O E X RX6 cX6_findLeast 6 (some .int) 2 47) {b3 : Int32} {a10038_0 : Int32} {a10038_1 : gj_S} {x : gj_S ⊕ (Int32 × gj_S)} (hf : fb_X6_findLeast_l38 b3 (a10038_0, a10038_1) = some x) (K : gj_K (fun z2 => gj_G E X 6 r τ 78 [(0, gj_r 166), (3, gj_i b3)] [] z2) (fun a10038 => gj_G E X 6 r τ 38 [(0, gj_r 166), (1, gj_r 17), (3, gj_i b3), (4, gj_i a10038.1)] [] a10038.2) x) : gj_G E X 6 r τ 38 [(0, gj_r 166), (1, gj_r 17), (3, gj_i b3), (4, gj_i a10038_0)] [] a10038_1 := by
  unfold fb_X6_findLeast_l38 at hf
  dsimp only at hf
  refine gj_iload hO 3 dX6_findLeast_38 rfl ?_
  refine gj_aload_n hO 1 dX6_findLeast_40 rfl rfl ?_
  refine gt_X1_0 hO kd_17 kl_17 wk_487 dX6_findLeast_41 ?_
  refine gj_icmp_ge (tgt := 78) hO dX6_findLeast_44 (by decide) (fun h => ?_) (fun h => ?_)
  · replace hf := gj_t h hf
    obtain rfl := Option.some.inj hf
    refine gj_sub (lv2 := [(0, gj_r 166), (3, gj_i b3)]) [0, 2] rfl ?_
    exact K
  · replace hf := gj_f h hf
    refine gj_iconst (v := 0) hO dX6_findLeast_47 (by decide) ?_
    refine gj_istore (lv2 := [(5, gj_i (0 : Int32)), (0, gj_r 166), (1, gj_r 17), (3, gj_i b3), (4, gj_i a10038_0)]) hO dX6_findLeast_48 (by decide) rfl ?_
    obtain ⟨z13801, hz13801, hf⟩ := gj_b hf
    have J13801 : gj_G E X 6 r τ 72 [(0, gj_r 166), (1, gj_r 17), (3, gj_i b3), (4, gj_i a10038_0)] [] z13801 := by
      refine gj_iinc (v := (a10038_0 + 1)) (lv2 := [(4, gj_i (a10038_0 + 1)), (0, gj_r 166), (1, gj_r 17), (3, gj_i b3)]) hO 3 dX6_findLeast_72 rfl rfl (by decide) rfl ?_
      refine gj_goto (tgt := 38) hO dX6_findLeast_75 (by decide) ?_
      obtain rfl := Option.some.inj hf
      refine gj_sub (lv2 := [(0, gj_r 166), (1, gj_r 17), (3, gj_i b3), (4, gj_i (a10038_0 + 1))]) [1, 2, 3, 0] rfl ?_
      exact K
    refine gj_sub (lv2 := [(0, gj_r 166), (1, gj_r 17), (3, gj_i b3), (4, gj_i a10038_0), (5, gj_i (0 : Int32))]) [1, 2, 3, 4, 0] rfl ?_
    exact gj_loop (head := fun a10050 => gj_G E X 6 r τ 50 [(0, gj_r 166), (1, gj_r 17), (3, gj_i b3), (4, gj_i a10038_0), (5, gj_i a10050.1)] [] a10050.2) (exit := fun z13801 => gj_G E X 6 r τ 72 [(0, gj_r 166), (1, gj_r 17), (3, gj_i b3), (4, gj_i a10038_0)] [] z13801) (fun a10050 x hf K => by obtain ⟨a10050_0, a10050_1⟩ := a10050; exact sb_X6_findLeast_l50 hO hf K) _ _ _ hz13801 J13801
set_option maxHeartbeats 4000000 in
set_option maxRecDepth 100000 in
theorem m_X6_findLeast {E : gj_E} {σ : gj_S} {b2 : Int32} {b3 : Int32}  {x : Int32} {y : gj_S} (hf : f_X6_findLeast b2 b3 σ = some (x, y)) : gj_M E yX6_findLeast cX6_findLeast 6 (some .int) 2 47 [gj_r 166, gj_r 17, gj_i b2, gj_i b3] σ (some (gj_i x)) y := by
  refine gj_body (lv := [(0, gj_r 166), (1, gj_r 17), (2, gj_i b2), (3, gj_i b3)]) (by decide +kernel) (Nat.le_of_ble_eq_true rfl) rfl (fun X hO => ?_)
  replace hO : gj_O E X RX6 cX6_findLeast 6 (some .int) 2 47 := hO
  unfold f_X6_findLeast at hf
  refine gj_iconst (v := 0) hO dX6_findLeast_0 (by decide) ?_
  refine gj_istore (lv2 := [(4, gj_i (0 : Int32)), (0, gj_r 166), (1, gj_r 17), (2, gj_i b2), (3, gj_i b3)]) hO dX6_findLeast_1 (by decide) rfl ?_
  obtain ⟨z1, hz1, hf⟩ := gj_b hf
  have J1 : gj_G E X 6 (some (gj_i x)) y 35 [(0, gj_r 166), (1, gj_r 17), (3, gj_i b3)] [] z1 := by
    refine gj_iconst (v := 0) hO dX6_findLeast_35 (by decide) ?_
    refine gj_istore (lv2 := [(4, gj_i (0 : Int32)), (0, gj_r 166), (1, gj_r 17), (3, gj_i b3)]) hO dX6_findLeast_36 (by decide) rfl ?_
    obtain ⟨z2, hz2, hf⟩ := gj_b hf
    have J2 : gj_G E X 6 (some (gj_i x)) y 78 [(0, gj_r 166), (3, gj_i b3)] [] z2 := by
      refine gj_aload_n hO 0 dX6_findLeast_78 rfl rfl ?_
      refine gt_X6_0 hO wk_473 dX6_findLeast_79 ?_
      refine gj_iload_n hO 1 dX6_findLeast_82 rfl rfl ?_
      obtain ⟨hb3, hf⟩ := gj_c hf
      refine gj_iald hO kl_167 kd_167 hb3 dX6_findLeast_83 ?_
      refine gj_ldc hO wk_474 dX6_findLeast_84 ?_
      refine gj_icmp_ne (tgt := 94) hO dX6_findLeast_86 (by decide) (fun h => ?_) (fun h => ?_)
      · replace hf := gj_f h hf
        refine gj_aload_n hO 0 dX6_findLeast_94 rfl rfl ?_
        refine gt_X6_0 hO wk_473 dX6_findLeast_95 ?_
        refine gj_iload_n hO 1 dX6_findLeast_98 rfl rfl ?_
        obtain ⟨hb4, hf⟩ := gj_c hf
        refine gj_iald hO kl_167 kd_167 hb4 dX6_findLeast_99 ?_
        replace hf := Option.some.inj hf
        simp only [Prod.mk.injEq] at hf
        obtain ⟨rfl, rfl⟩ := hf
        exact gj_iret hO dX6_findLeast_100
      · replace hf := gj_t h hf
        refine gj_ldc hO wk_490 dX6_findLeast_89 ?_
        refine gj_goto (tgt := 100) hO dX6_findLeast_91 (by decide) ?_
        replace hf := Option.some.inj hf
        simp only [Prod.mk.injEq] at hf
        obtain ⟨rfl, rfl⟩ := hf
        exact gj_iret hO dX6_findLeast_100
    refine gj_sub (lv2 := [(0, gj_r 166), (1, gj_r 17), (3, gj_i b3), (4, gj_i (0 : Int32))]) [1, 2, 3, 0] rfl ?_
    exact gj_loop (head := fun a10038 => gj_G E X 6 (some (gj_i x)) y 38 [(0, gj_r 166), (1, gj_r 17), (3, gj_i b3), (4, gj_i a10038.1)] [] a10038.2) (exit := fun z2 => gj_G E X 6 (some (gj_i x)) y 78 [(0, gj_r 166), (3, gj_i b3)] [] z2) (fun a10038 x hf K => by obtain ⟨a10038_0, a10038_1⟩ := a10038; exact sb_X6_findLeast_l38 hO hf K) _ _ _ hz2 J2
  refine gj_sub (lv2 := [(0, gj_r 166), (1, gj_r 17), (2, gj_i b2), (3, gj_i b3), (4, gj_i (0 : Int32))]) [1, 2, 3, 4, 0] rfl ?_
  exact gj_loop (head := fun a10003 => gj_G E X 6 (some (gj_i x)) y 3 [(0, gj_r 166), (1, gj_r 17), (2, gj_i b2), (3, gj_i b3), (4, gj_i a10003.1)] [] a10003.2) (exit := fun z1 => gj_G E X 6 (some (gj_i x)) y 35 [(0, gj_r 166), (1, gj_r 17), (3, gj_i b3)] [] z1) (fun a10003 x hf K => by obtain ⟨a10003_0, a10003_1⟩ := a10003; exact sb_X6_findLeast_l3 hO hf K) _ _ _ hz1 J1
set_option maxHeartbeats 4000000 in
set_option maxRecDepth 100000 in
theorem ca_X6_findLeast {E : gj_E} {X : gj_X} {own : String} {cc : ByteArray} {nL : Nat} {rt : Option FieldType} {fr lo : Nat} {ce sl : Nat} {Q : State → Prop} {pc : Nat} {lv : List (Nat × gj_V)} {st : List gj_V} {σ : gj_S} (hO : gj_O E X own cc nL rt fr lo) {b2 : Int32} {b3 : Int32}  {idx : Nat} {x : Int32} {y : gj_S} (hf : f_X6_findLeast b2 b3 σ = some (x, y)) (hl : Cond.methodLink own idx yX6_findLeast ∈ gj_gw) (hf1 : 3 ≤ fr) (hf2 : 72 ≤ lo) (hcat : ((st.map (gj_tv E.2.1)).map fun v => v.category).sum ≤ 8) (hd : decode cc pc = .ok (.invokevirtual idx, 3)) (k : gj_H E X nL ce sl Q (pc + 3) lv ((gj_i x) :: st) y) : gj_H E X nL ce sl Q pc lv (gj_i b3 :: gj_i b2 :: gj_r 17 :: gj_r 166 :: st) σ :=
  gj_callV hO (o := 166) (vs := [gj_r 17, gj_i b2, gj_i b3]) (m_X6_findLeast  hf) (gj_Iany (by decide)) hl wk_491 wk_492 wk_477 wk_493 kl_166 kd_166 (by decide) (ci := 6) rfl (n := 3) (by decide +kernel) rfl hf1 hf2 rfl hcat hd k
def f_X8_unit (b1 : Int32) (b2 : Int32) (σ : gj_S) : Option (Int32 × gj_S) := ((f_X1_hasDock 17 b1 σ).bind fun x1 => (if x1 = 0 then some ((-2147483648 : Int32), σ) else ((f_X1_hasDock 17 b2 σ).bind fun x2 => (if x2 = 0 then some ((-2147483648 : Int32), σ) else ((f_X7_isEnd 16 σ).bind fun x3 => (if x3 = 0 then some ((-2147483648 : Int32), σ) else (if b1 = b2 then some ((0 : Int32), σ) else ((f_X6_findLeast b1 b2 σ).bind fun x4 => some (x4.1, x4.2)))))))))
set_option maxHeartbeats 4000000 in
set_option maxRecDepth 100000 in
theorem m_X8_unit {E : gj_E} {σ : gj_S} {b1 : Int32} {b2 : Int32}  {x : Int32} {y : gj_S} (hf : f_X8_unit b1 b2 σ = some (x, y)) : gj_M E yX8_unit cX8_unit 3 (some .int) 4 85 [gj_r 0, gj_i b1, gj_i b2] σ (some (gj_i x)) y := by
  refine gj_body (lv := [(0, gj_r 0), (1, gj_i b1), (2, gj_i b2)]) (by decide +kernel) (Nat.le_of_ble_eq_true rfl) rfl (fun X hO => ?_)
  replace hO : gj_O E X RX8 cX8_unit 3 (some .int) 4 85 := hO
  unfold f_X8_unit at hf
  refine gj_aload_n hO 0 dX8_unit_0 rfl rfl ?_
  refine gt_X8_4 hO wk_185 dX8_unit_1 ?_
  refine gt_X7_0 hO kd_16 kl_16 wk_186 dX8_unit_4 ?_
  refine gj_iload_n hO 1 dX8_unit_7 rfl rfl ?_
  obtain ⟨x1, hc1, hf⟩ := gj_b hf
  refine ca_X1_hasDock hO isP_17 hc1 wk_217 (by decide) (by decide) (Nat.le_of_ble_eq_true rfl) dX8_unit_8 ?_
  refine gj_if_eq (tgt := 38) hO dX8_unit_11 (by decide) (fun h => ?_) (fun h => ?_)
  · replace hf := gj_t h hf
    refine gj_ldc hO wk_432 dX8_unit_38 ?_
    replace hf := Option.some.inj hf
    simp only [Prod.mk.injEq] at hf
    obtain ⟨rfl, rfl⟩ := hf
    exact gj_iret hO dX8_unit_40
  · replace hf := gj_f h hf
    refine gj_aload_n hO 0 dX8_unit_14 rfl rfl ?_
    refine gt_X8_4 hO wk_185 dX8_unit_15 ?_
    refine gt_X7_0 hO kd_16 kl_16 wk_186 dX8_unit_18 ?_
    refine gj_iload_n hO 2 dX8_unit_21 rfl rfl ?_
    obtain ⟨x2, hc2, hf⟩ := gj_b hf
    refine ca_X1_hasDock hO isP_17 hc2 wk_217 (by decide) (by decide) (Nat.le_of_ble_eq_true rfl) dX8_unit_22 ?_
    refine gj_if_eq (tgt := 38) hO dX8_unit_25 (by decide) (fun h => ?_) (fun h => ?_)
    · replace hf := gj_t h hf
      refine gj_ldc hO wk_432 dX8_unit_38 ?_
      replace hf := Option.some.inj hf
      simp only [Prod.mk.injEq] at hf
      obtain ⟨rfl, rfl⟩ := hf
      exact gj_iret hO dX8_unit_40
    · replace hf := gj_f h hf
      refine gj_aload_n hO 0 dX8_unit_28 rfl rfl ?_
      refine gt_X8_4 hO wk_185 dX8_unit_29 ?_
      obtain ⟨x3, hc3, hf⟩ := gj_b hf
      refine ca_X7_isEnd hO isY_16 hc3 wk_398 (by decide) (by decide) (Nat.le_of_ble_eq_true rfl) dX8_unit_32 ?_
      refine gj_if_ne (tgt := 41) hO dX8_unit_35 (by decide) (fun h => ?_) (fun h => ?_)
      · replace hf := gj_f h hf
        refine gj_iload_n hO 1 dX8_unit_41 rfl rfl ?_
        refine gj_iload_n hO 2 dX8_unit_42 rfl rfl ?_
        refine gj_icmp_ne (tgt := 50) hO dX8_unit_43 (by decide) (fun h => ?_) (fun h => ?_)
        · replace hf := gj_f h hf
          refine gj_aload_n hO 0 dX8_unit_50 rfl rfl ?_
          refine gt_X8_9 hO wk_494 dX8_unit_51 ?_
          refine gj_aload_n hO 0 dX8_unit_54 rfl rfl ?_
          refine gt_X8_4 hO wk_185 dX8_unit_55 ?_
          refine gt_X7_0 hO kd_16 kl_16 wk_186 dX8_unit_58 ?_
          refine gj_iload_n hO 1 dX8_unit_61 rfl rfl ?_
          refine gj_iload_n hO 2 dX8_unit_62 rfl rfl ?_
          obtain ⟨⟨x4_v, x4_s⟩, hc4, hf⟩ := gj_b hf
          dsimp only at hf
          refine ca_X6_findLeast hO  hc4 wk_495 (by decide) (by decide) (Nat.le_of_ble_eq_true rfl) dX8_unit_63 ?_
          replace hf := Option.some.inj hf
          simp only [Prod.mk.injEq] at hf
          obtain ⟨rfl, rfl⟩ := hf
          exact gj_iret hO dX8_unit_66
        · replace hf := gj_t h hf
          refine gj_iconst (v := 0) hO dX8_unit_46 (by decide) ?_
          refine gj_goto (tgt := 66) hO dX8_unit_47 (by decide) ?_
          replace hf := Option.some.inj hf
          simp only [Prod.mk.injEq] at hf
          obtain ⟨rfl, rfl⟩ := hf
          exact gj_iret hO dX8_unit_66
      · replace hf := gj_t h hf
        refine gj_ldc hO wk_432 dX8_unit_38 ?_
        replace hf := Option.some.inj hf
        simp only [Prod.mk.injEq] at hf
        obtain ⟨rfl, rfl⟩ := hf
        exact gj_iret hO dX8_unit_40
set_option maxHeartbeats 4000000 in
set_option maxRecDepth 100000 in
theorem ca_X8_unit {E : gj_E} {X : gj_X} {own : String} {cc : ByteArray} {nL : Nat} {rt : Option FieldType} {fr lo : Nat} {ce sl : Nat} {Q : State → Prop} {pc : Nat} {lv : List (Nat × gj_V)} {st : List gj_V} {σ : gj_S} (hO : gj_O E X own cc nL rt fr lo) {b1 : Int32} {b2 : Int32}  {idx : Nat} {x : Int32} {y : gj_S} (hf : f_X8_unit b1 b2 σ = some (x, y)) (hl : Cond.methodLink own idx yX8_unit ∈ gj_gw) (hf1 : 5 ≤ fr) (hf2 : 107 ≤ lo) (hcat : ((st.map (gj_tv E.2.1)).map fun v => v.category).sum ≤ 8) (hd : decode cc pc = .ok (.invokevirtual idx, 3)) (k : gj_H E X nL ce sl Q (pc + 3) lv ((gj_i x) :: st) y) : gj_H E X nL ce sl Q pc lv (gj_i b2 :: gj_i b1 :: gj_r 0 :: st) σ :=
  gj_callV hO (o := 0) (vs := [gj_i b1, gj_i b2]) (m_X8_unit  hf) (gj_Iany (by decide)) hl wk_496 wk_497 wk_4 wk_498 kl_0 kd_0 (by decide) (ci := 8) rfl (n := 2) (by decide +kernel) rfl hf1 hf2 rfl hcat hd k
def f_X7_gainMove (b0 : Nat) (b1 : Int32) (b2 : Int32) (σ : gj_S) : Option Int32 := (if gj_in b2 24 then (if (σ.1 ((b0 + 1) + 7) (Int32.toNatClampNeg b2)) = 0 then (if gj_in b2 24 then (if gj_in (σ.1 ((b0 + 1) + 3) (Int32.toNatClampNeg b2)) 9 then ((if (σ.1 ((b0 + 10) + 1) (Int32.toNatClampNeg (σ.1 ((b0 + 1) + 3) (Int32.toNatClampNeg b2)))) = b2 then some (1 : Int32) else some (0 : Int32) : Option Int32).bind fun z4 => ((if z4 = 0 then (if gj_in b2 24 then some (σ.1 ((b0 + 1) + 2) (Int32.toNatClampNeg b2)) else none) else (if gj_in b2 24 then some (σ.1 ((b0 + 1) + 3) (Int32.toNatClampNeg b2)) else none) : Option Int32).bind fun z5 => (if gj_in b1 24 then ((f_X5_hangsFrom (b0 + 10) (σ.1 ((b0 + 1) + 2) (Int32.toNatClampNeg b1)) z5 σ).bind fun x9 => ((if x9 = 0 then some (0 : Int32) else some (1 : Int32) : Option Int32).bind fun z10 => (if gj_in b1 24 then ((f_X5_hangsFrom (b0 + 10) (σ.1 ((b0 + 1) + 3) (Int32.toNatClampNeg b1)) z5 σ).bind fun x12 => ((if x12 = 0 then some (0 : Int32) else some (1 : Int32) : Option Int32).bind fun z13 => (if z4 = 0 then some (0 - (z10 - z13)) else some (z10 - z13)))) else none))) else none))) else none) else none) else (if b1 = b2 then some (1 : Int32) else some (0 : Int32))) else none)
set_option maxHeartbeats 4000000 in
set_option maxRecDepth 100000 in
theorem m_X7_gainMove {E : gj_E} {σ : gj_S} {b0 : Nat} {b1 : Int32} {b2 : Int32} (g0 : isY b0) {x : Int32} (hf : f_X7_gainMove b0 b1 b2 σ = some x) : gj_M E yX7_gainMove cX7_gainMove 6 (some .int) 1 24 [gj_r b0, gj_i b1, gj_i b2] σ (some (gj_i x)) σ := by
  refine gj_body (lv := [(0, gj_r b0), (1, gj_i b1), (2, gj_i b2)]) (by decide +kernel) (Nat.le_of_ble_eq_true rfl) rfl (fun X hO => ?_)
  replace hO : gj_O E X RX7 cX7_gainMove 6 (some .int) 1 24 := hO
  unfold f_X7_gainMove at hf
  refine gj_aload_n hO 0 dX7_gainMove_0 rfl rfl ?_
  refine gt_X7_0 hO (kdY_0 g0) (klY_0 g0) wk_167 dX7_gainMove_1 ?_
  refine gt_X1_11 hO (kdP_0 (isY_P g0)) (klP_0 (isY_P g0)) wk_263 dX7_gainMove_4 ?_
  refine gj_iload_n hO 2 dX7_gainMove_7 rfl rfl ?_
  obtain ⟨hb1, hf⟩ := gj_c hf
  refine gj_iald hO (klP_7 (isY_P g0)) (kdP_7 (isY_P g0)) hb1 dX7_gainMove_8 ?_
  refine gj_if_eq (tgt := 23) hO dX7_gainMove_9 (by decide) (fun h => ?_) (fun h => ?_)
  · replace hf := gj_t h hf
    refine gj_aload_n hO 0 dX7_gainMove_23 rfl rfl ?_
    refine gt_X7_1 hO (kdY_0 g0) (klY_0 g0) wk_166 dX7_gainMove_24 ?_
    refine gt_X5_0 hO (kdT_0 (isY_T g0)) (klT_0 (isY_T g0)) wk_341 dX7_gainMove_27 ?_
    refine gj_aload_n hO 0 dX7_gainMove_30 rfl rfl ?_
    refine gt_X7_0 hO (kdY_0 g0) (klY_0 g0) wk_167 dX7_gainMove_31 ?_
    refine gt_X1_7 hO (kdP_0 (isY_P g0)) (klP_0 (isY_P g0)) wk_239 dX7_gainMove_34 ?_
    refine gj_iload_n hO 2 dX7_gainMove_37 rfl rfl ?_
    obtain ⟨hb2, hf⟩ := gj_c hf
    refine gj_iald hO (klP_3 (isY_P g0)) (kdP_3 (isY_P g0)) hb2 dX7_gainMove_38 ?_
    obtain ⟨hb3, hf⟩ := gj_c hf
    refine gj_iald hO (klT_1 (isY_T g0)) (kdT_1 (isY_T g0)) hb3 dX7_gainMove_39 ?_
    refine gj_iload_n hO 2 dX7_gainMove_40 rfl rfl ?_
    obtain ⟨z4, hz4, hf⟩ := gj_b hf
    have J4 : gj_G E X 6 (some (gj_i x)) σ 49 [(0, gj_r b0), (1, gj_i b1), (2, gj_i b2)] [gj_i z4] σ := by
      refine gj_istore_n (lv2 := [(3, gj_i z4), (0, gj_r b0), (1, gj_i b1), (2, gj_i b2)]) hO dX7_gainMove_49 rfl (by decide) rfl ?_
      refine gj_iload_n hO 0 dX7_gainMove_50 rfl rfl ?_
      obtain ⟨z5, hz5, hf⟩ := gj_b hf
      have J5 : gj_G E X 6 (some (gj_i x)) σ 75 [(0, gj_r b0), (1, gj_i b1), (3, gj_i z4)] [gj_i z5] σ := by
        refine gj_istore (lv2 := [(4, gj_i z5), (0, gj_r b0), (1, gj_i b1), (3, gj_i z4)]) hO dX7_gainMove_75 (by decide) rfl ?_
        refine gj_aload_n hO 1 dX7_gainMove_77 rfl rfl ?_
        refine gt_X7_1 hO (kdY_0 g0) (klY_0 g0) wk_166 dX7_gainMove_78 ?_
        refine gj_aload_n hO 1 dX7_gainMove_81 rfl rfl ?_
        refine gt_X7_0 hO (kdY_0 g0) (klY_0 g0) wk_167 dX7_gainMove_82 ?_
        refine gt_X1_6 hO (kdP_0 (isY_P g0)) (klP_0 (isY_P g0)) wk_238 dX7_gainMove_85 ?_
        refine gj_iload_n hO 2 dX7_gainMove_88 rfl rfl ?_
        obtain ⟨hb8, hf⟩ := gj_c hf
        refine gj_iald hO (klP_2 (isY_P g0)) (kdP_2 (isY_P g0)) hb8 dX7_gainMove_89 ?_
        refine gj_iload hO 0 dX7_gainMove_90 rfl ?_
        obtain ⟨x9, hc9, hf⟩ := gj_b hf
        refine ca_X5_hangsFrom hO (isY_T g0) hc9 wk_207 (by decide) (by decide) (Nat.le_of_ble_eq_true rfl) dX7_gainMove_92 ?_
        obtain ⟨z10, hz10, hf⟩ := gj_b hf
        have J10 : gj_G E X 6 (some (gj_i x)) σ 103 [(0, gj_r b0), (1, gj_i b1), (3, gj_i z4), (4, gj_i z5)] [gj_i z10] σ := by
          refine gj_istore (lv2 := [(5, gj_i z10), (0, gj_r b0), (1, gj_i b1), (3, gj_i z4), (4, gj_i z5)]) hO dX7_gainMove_103 (by decide) rfl ?_
          refine gj_iload hO 0 dX7_gainMove_105 rfl ?_
          refine gj_aload_n hO 1 dX7_gainMove_107 rfl rfl ?_
          refine gt_X7_1 hO (kdY_0 g0) (klY_0 g0) wk_166 dX7_gainMove_108 ?_
          refine gj_aload_n hO 1 dX7_gainMove_111 rfl rfl ?_
          refine gt_X7_0 hO (kdY_0 g0) (klY_0 g0) wk_167 dX7_gainMove_112 ?_
          refine gt_X1_7 hO (kdP_0 (isY_P g0)) (klP_0 (isY_P g0)) wk_239 dX7_gainMove_115 ?_
          refine gj_iload_n hO 2 dX7_gainMove_118 rfl rfl ?_
          obtain ⟨hb11, hf⟩ := gj_c hf
          refine gj_iald hO (klP_3 (isY_P g0)) (kdP_3 (isY_P g0)) hb11 dX7_gainMove_119 ?_
          refine gj_iload hO 4 dX7_gainMove_120 rfl ?_
          obtain ⟨x12, hc12, hf⟩ := gj_b hf
          refine ca_X5_hangsFrom hO (isY_T g0) hc12 wk_207 (by decide) (by decide) (Nat.le_of_ble_eq_true rfl) dX7_gainMove_122 ?_
          obtain ⟨z13, hz13, hf⟩ := gj_b hf
          have J13 : gj_G E X 6 (some (gj_i x)) σ 133 [(3, gj_i z4)] [gj_i z13, gj_i z10] σ := by
            refine gj_isub hO dX7_gainMove_133 ?_
            refine gj_istore (lv2 := [(5, gj_i (z10 - z13)), (3, gj_i z4)]) hO dX7_gainMove_134 (by decide) rfl ?_
            refine gj_iload_n hO 1 dX7_gainMove_136 rfl rfl ?_
            refine gj_if_eq (tgt := 145) hO dX7_gainMove_137 (by decide) (fun h => ?_) (fun h => ?_)
            · replace hf := gj_t h hf
              refine gj_iload hO 0 dX7_gainMove_145 rfl ?_
              refine gj_ineg hO dX7_gainMove_147 ?_
              obtain rfl := Option.some.inj hf
              exact gj_iret hO dX7_gainMove_148
            · replace hf := gj_f h hf
              refine gj_iload hO 0 dX7_gainMove_140 rfl ?_
              refine gj_goto (tgt := 148) hO dX7_gainMove_142 (by decide) ?_
              obtain rfl := Option.some.inj hf
              exact gj_iret hO dX7_gainMove_148
          refine gj_if_eq (tgt := 132) hO dX7_gainMove_125 (by decide) (fun h => ?_) (fun h => ?_)
          · replace hz13 := gj_t h hz13
            refine gj_iconst (v := 0) hO dX7_gainMove_132 (by decide) ?_
            obtain rfl := Option.some.inj hz13
            refine gj_sub (lv2 := [(3, gj_i z4)]) [3] rfl ?_
            exact J13
          · replace hz13 := gj_f h hz13
            refine gj_iconst (v := 1) hO dX7_gainMove_128 (by decide) ?_
            refine gj_goto (tgt := 133) hO dX7_gainMove_129 (by decide) ?_
            obtain rfl := Option.some.inj hz13
            refine gj_sub (lv2 := [(3, gj_i z4)]) [3] rfl ?_
            exact J13
        refine gj_if_eq (tgt := 102) hO dX7_gainMove_95 (by decide) (fun h => ?_) (fun h => ?_)
        · replace hz10 := gj_t h hz10
          refine gj_iconst (v := 0) hO dX7_gainMove_102 (by decide) ?_
          obtain rfl := Option.some.inj hz10
          refine gj_sub (lv2 := [(0, gj_r b0), (1, gj_i b1), (3, gj_i z4), (4, gj_i z5)]) [1, 2, 3, 0] rfl ?_
          exact J10
        · replace hz10 := gj_f h hz10
          refine gj_iconst (v := 1) hO dX7_gainMove_98 (by decide) ?_
          refine gj_goto (tgt := 103) hO dX7_gainMove_99 (by decide) ?_
          obtain rfl := Option.some.inj hz10
          refine gj_sub (lv2 := [(0, gj_r b0), (1, gj_i b1), (3, gj_i z4), (4, gj_i z5)]) [1, 2, 3, 0] rfl ?_
          exact J10
      refine gj_if_eq (tgt := 66) hO dX7_gainMove_51 (by decide) (fun h => ?_) (fun h => ?_)
      · replace hz5 := gj_t h hz5
        refine gj_aload_n hO 1 dX7_gainMove_66 rfl rfl ?_
        refine gt_X7_0 hO (kdY_0 g0) (klY_0 g0) wk_167 dX7_gainMove_67 ?_
        refine gt_X1_6 hO (kdP_0 (isY_P g0)) (klP_0 (isY_P g0)) wk_238 dX7_gainMove_70 ?_
        refine gj_iload_n hO 3 dX7_gainMove_73 rfl rfl ?_
        obtain ⟨hb6, hz5⟩ := gj_c hz5
        refine gj_iald hO (klP_2 (isY_P g0)) (kdP_2 (isY_P g0)) hb6 dX7_gainMove_74 ?_
        obtain rfl := Option.some.inj hz5
        refine gj_sub (lv2 := [(0, gj_r b0), (1, gj_i b1), (3, gj_i z4)]) [1, 2, 0] rfl ?_
        exact J5
      · replace hz5 := gj_f h hz5
        refine gj_aload_n hO 1 dX7_gainMove_54 rfl rfl ?_
        refine gt_X7_0 hO (kdY_0 g0) (klY_0 g0) wk_167 dX7_gainMove_55 ?_
        refine gt_X1_7 hO (kdP_0 (isY_P g0)) (klP_0 (isY_P g0)) wk_239 dX7_gainMove_58 ?_
        refine gj_iload_n hO 3 dX7_gainMove_61 rfl rfl ?_
        obtain ⟨hb7, hz5⟩ := gj_c hz5
        refine gj_iald hO (klP_3 (isY_P g0)) (kdP_3 (isY_P g0)) hb7 dX7_gainMove_62 ?_
        refine gj_goto (tgt := 75) hO dX7_gainMove_63 (by decide) ?_
        obtain rfl := Option.some.inj hz5
        refine gj_sub (lv2 := [(0, gj_r b0), (1, gj_i b1), (3, gj_i z4)]) [1, 2, 0] rfl ?_
        exact J5
    refine gj_icmp_ne (tgt := 48) hO dX7_gainMove_41 (by decide) (fun h => ?_) (fun h => ?_)
    · replace hz4 := gj_f h hz4
      refine gj_iconst (v := 0) hO dX7_gainMove_48 (by decide) ?_
      obtain rfl := Option.some.inj hz4
      refine gj_sub (lv2 := [(0, gj_r b0), (1, gj_i b1), (2, gj_i b2)]) [0, 1, 2] rfl ?_
      exact J4
    · replace hz4 := gj_t h hz4
      refine gj_iconst (v := 1) hO dX7_gainMove_44 (by decide) ?_
      refine gj_goto (tgt := 49) hO dX7_gainMove_45 (by decide) ?_
      obtain rfl := Option.some.inj hz4
      refine gj_sub (lv2 := [(0, gj_r b0), (1, gj_i b1), (2, gj_i b2)]) [0, 1, 2] rfl ?_
      exact J4
  · replace hf := gj_f h hf
    refine gj_iload_n hO 1 dX7_gainMove_12 rfl rfl ?_
    refine gj_iload_n hO 2 dX7_gainMove_13 rfl rfl ?_
    refine gj_icmp_ne (tgt := 21) hO dX7_gainMove_14 (by decide) (fun h => ?_) (fun h => ?_)
    · replace hf := gj_f h hf
      refine gj_iconst (v := 0) hO dX7_gainMove_21 (by decide) ?_
      obtain rfl := Option.some.inj hf
      exact gj_iret hO dX7_gainMove_22
    · replace hf := gj_t h hf
      refine gj_iconst (v := 1) hO dX7_gainMove_17 (by decide) ?_
      refine gj_goto (tgt := 22) hO dX7_gainMove_18 (by decide) ?_
      obtain rfl := Option.some.inj hf
      exact gj_iret hO dX7_gainMove_22
set_option maxHeartbeats 4000000 in
set_option maxRecDepth 100000 in
theorem ca_X7_gainMove {E : gj_E} {X : gj_X} {own : String} {cc : ByteArray} {nL : Nat} {rt : Option FieldType} {fr lo : Nat} {ce sl : Nat} {Q : State → Prop} {pc : Nat} {lv : List (Nat × gj_V)} {st : List gj_V} {σ : gj_S} (hO : gj_O E X own cc nL rt fr lo) {b0 : Nat} {b1 : Int32} {b2 : Int32} (g0 : isY b0) {idx : Nat} {x : Int32} (hf : f_X7_gainMove b0 b1 b2 σ = some x) (hl : Cond.methodLink own idx yX7_gainMove ∈ gj_gw) (hf1 : 2 ≤ fr) (hf2 : 49 ≤ lo) (hcat : ((st.map (gj_tv E.2.1)).map fun v => v.category).sum ≤ 8) (hd : decode cc pc = .ok (.invokevirtual idx, 3)) (k : gj_H E X nL ce sl Q (pc + 3) lv ((gj_i x) :: st) σ) : gj_H E X nL ce sl Q pc lv (gj_i b2 :: gj_i b1 :: gj_r b0 :: st) σ :=
  gj_callV hO (o := b0) (vs := [gj_i b1, gj_i b2]) (m_X7_gainMove g0 hf) (gj_Iany (by decide)) hl wk_499 wk_500 wk_171 wk_501 (klY_0 g0) (kdY_0 g0) (by decide) (ci := 7) rfl (n := 2) (by decide +kernel) rfl hf1 hf2 rfl hcat hd k
