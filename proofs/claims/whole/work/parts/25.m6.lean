def f_X8_isGift (b0 : Int64) : Option Int32 := (if (lg_cmp b0 (-999 : Int64)) < 0 then some (0 : Int32) else (if 0 < (lg_cmp b0 (999 : Int64)) then some (0 : Int32) else some (1 : Int32)))
set_option maxHeartbeats 4000000 in
set_option maxRecDepth 100000 in
theorem m_X8_isGift {E : gj_E} {σ : gj_S} {b0 : Int64}  {x : Int32} (hf : f_X8_isGift b0 = some x) : gj_M E yX8_isGift cX8_isGift 2 (some .boolean) 0 0 [gj_l b0] σ (some (gj_i x)) σ := by
  refine gj_body (lv := [(0, gj_l b0)]) (by decide +kernel) (Nat.le_of_ble_eq_true rfl) rfl (fun X hO => ?_)
  replace hO : gj_O E X RX8 cX8_isGift 2 (some .boolean) 0 0 := hO
  unfold f_X8_isGift at hf
  refine gj_lload_n hO 0 dX8_isGift_0 rfl rfl ?_
  refine gj_ldc2 hO wk_488 dX8_isGift_1 ?_
  refine gj_lcmp hO dX8_isGift_4 ?_
  refine gj_if_lt (tgt := 20) hO dX8_isGift_5 (by decide) (fun h => ?_) (fun h => ?_)
  · replace hf := gj_t h hf
    refine gj_iconst (v := 0) hO dX8_isGift_20 (by decide) ?_
    obtain rfl := Option.some.inj hf
    exact gj_zret hO (Or.inl rfl) dX8_isGift_21
  · replace hf := gj_f h hf
    refine gj_lload_n hO 0 dX8_isGift_8 rfl rfl ?_
    refine gj_ldc2 hO wk_489 dX8_isGift_9 ?_
    refine gj_lcmp hO dX8_isGift_12 ?_
    refine gj_if_gt (tgt := 20) hO dX8_isGift_13 (by decide) (fun h => ?_) (fun h => ?_)
    · replace hf := gj_t h hf
      refine gj_iconst (v := 0) hO dX8_isGift_20 (by decide) ?_
      obtain rfl := Option.some.inj hf
      exact gj_zret hO (Or.inl rfl) dX8_isGift_21
    · replace hf := gj_f h hf
      refine gj_iconst (v := 1) hO dX8_isGift_16 (by decide) ?_
      refine gj_goto (tgt := 21) hO dX8_isGift_17 (by decide) ?_
      obtain rfl := Option.some.inj hf
      exact gj_zret hO (Or.inr rfl) dX8_isGift_21
set_option maxHeartbeats 4000000 in
set_option maxRecDepth 100000 in
theorem ca_X8_isGift {E : gj_E} {X : gj_X} {own : String} {cc : ByteArray} {nL : Nat} {rt : Option FieldType} {fr lo : Nat} {r : Option gj_V} {τ : gj_S} {pc : Nat} {lv : List (Nat × gj_V)} {st : List gj_V} {σ : gj_S} (hO : gj_O E X own cc nL rt fr lo) {b0 : Int64}  {idx : Nat} {x : Int32} (hf : f_X8_isGift b0 = some x) (hl : Cond.methodLink own idx yX8_isGift ∈ gj_gw) (hf1 : 1 ≤ fr) (hf2 : 21 ≤ lo) (hcat : ((st.map (gj_tv E.2.1)).map fun v => v.category).sum ≤ 8) (hd : decode cc pc = .ok (.invokestatic idx, 3)) (k : gj_G E X nL r τ (pc + 3) lv ((gj_i x) :: st) σ) : gj_G E X nL r τ pc lv (gj_l b0 :: st) σ :=
  gj_callS hO (vs := [gj_l b0]) (m_X8_isGift (σ := σ)  hf) hl wk_490 wk_4 wk_491 (n := 1) (by decide +kernel) rfl hf1 hf2 rfl hcat hd k
def f_X8_canBeTried (b1 : Int32) (b2 : Int32) (b3 : Int32) (σ : gj_S) : Option Int32 := (if b1 = 0 then ((f_X1_hasRoute 17 b2 σ).bind fun x1 => (if x1 = 0 then some (0 : Int32) else (if b3 < 0 then some (0 : Int32) else (if (999 : Int32) < b3 then some (0 : Int32) else some (1 : Int32))))) else (if b1 = (1 : Int32) then ((f_X1_hasRoute 17 b2 σ).bind fun x4 => (if x4 = 0 then some (0 : Int32) else (if b3 < 0 then some (0 : Int32) else (if (999 : Int32) < b3 then some (0 : Int32) else some (1 : Int32))))) else (if b1 = (2 : Int32) then ((f_X1_hasDock 17 b2 σ).bind fun x2 => (if x2 = 0 then some (0 : Int32) else ((f_X8_isGift (Int32.toInt64 b3)).bind fun x3 => (if x3 = 0 then some (0 : Int32) else some (1 : Int32))))) else some (0 : Int32))))
set_option maxHeartbeats 4000000 in
set_option maxRecDepth 100000 in
theorem m_X8_canBeTried {E : gj_E} {σ : gj_S} {b1 : Int32} {b2 : Int32} {b3 : Int32}  {x : Int32} (hf : f_X8_canBeTried b1 b2 b3 σ = some x) : gj_M E yX8_canBeTried cX8_canBeTried 4 (some .boolean) 1 21 [gj_r 0, gj_i b1, gj_i b2, gj_i b3] σ (some (gj_i x)) σ := by
  refine gj_body (lv := [(0, gj_r 0), (1, gj_i b1), (2, gj_i b2), (3, gj_i b3)]) (by decide +kernel) (Nat.le_of_ble_eq_true rfl) rfl (fun X hO => ?_)
  replace hO : gj_O E X RX8 cX8_canBeTried 4 (some .boolean) 1 21 := hO
  unfold f_X8_canBeTried at hf
  refine gj_iload_n hO 1 dX8_canBeTried_0 rfl rfl ?_
  refine gj_if_eq (tgt := 9) hO dX8_canBeTried_1 (by decide) (fun h => ?_) (fun h => ?_)
  · replace hf := gj_t h hf
    refine gj_aload_n hO 0 dX8_canBeTried_9 rfl rfl ?_
    refine gt_X8_4 hO wk_185 dX8_canBeTried_10 ?_
    refine gt_X7_0 hO kd_16 kl_16 wk_186 dX8_canBeTried_13 ?_
    refine gj_iload_n hO 2 dX8_canBeTried_16 rfl rfl ?_
    obtain ⟨x1, hc1, hf⟩ := gj_b hf
    refine ca_X1_hasRoute hO isP_17 hc1 wk_482 (by decide) (by decide) (Nat.le_of_ble_eq_true rfl) dX8_canBeTried_17 ?_
    refine gj_if_eq (tgt := 38) hO dX8_canBeTried_20 (by decide) (fun h => ?_) (fun h => ?_)
    · replace hf := gj_t h hf
      refine gj_iconst (v := 0) hO dX8_canBeTried_38 (by decide) ?_
      obtain rfl := Option.some.inj hf
      exact gj_zret hO (Or.inl rfl) dX8_canBeTried_39
    · replace hf := gj_f h hf
      refine gj_iload_n hO 3 dX8_canBeTried_23 rfl rfl ?_
      refine gj_if_lt (tgt := 38) hO dX8_canBeTried_24 (by decide) (fun h => ?_) (fun h => ?_)
      · replace hf := gj_t h hf
        refine gj_iconst (v := 0) hO dX8_canBeTried_38 (by decide) ?_
        obtain rfl := Option.some.inj hf
        exact gj_zret hO (Or.inl rfl) dX8_canBeTried_39
      · replace hf := gj_f h hf
        refine gj_iload_n hO 3 dX8_canBeTried_27 rfl rfl ?_
        refine gj_sipush (v := 999) hO dX8_canBeTried_28 (by decide) ?_
        refine gj_icmp_gt (tgt := 38) hO dX8_canBeTried_31 (by decide) (fun h => ?_) (fun h => ?_)
        · replace hf := gj_t h hf
          refine gj_iconst (v := 0) hO dX8_canBeTried_38 (by decide) ?_
          obtain rfl := Option.some.inj hf
          exact gj_zret hO (Or.inl rfl) dX8_canBeTried_39
        · replace hf := gj_f h hf
          refine gj_iconst (v := 1) hO dX8_canBeTried_34 (by decide) ?_
          refine gj_goto (tgt := 39) hO dX8_canBeTried_35 (by decide) ?_
          obtain rfl := Option.some.inj hf
          exact gj_zret hO (Or.inr rfl) dX8_canBeTried_39
  · replace hf := gj_f h hf
    refine gj_iload_n hO 1 dX8_canBeTried_4 rfl rfl ?_
    refine gj_iconst (v := 1) hO dX8_canBeTried_5 (by decide) ?_
    refine gj_icmp_ne (tgt := 40) hO dX8_canBeTried_6 (by decide) (fun h => ?_) (fun h => ?_)
    · replace hf := gj_f h hf
      refine gj_iload_n hO 1 dX8_canBeTried_40 rfl rfl ?_
      refine gj_iconst (v := 2) hO dX8_canBeTried_41 (by decide) ?_
      refine gj_icmp_ne (tgt := 71) hO dX8_canBeTried_42 (by decide) (fun h => ?_) (fun h => ?_)
      · replace hf := gj_f h hf
        refine gj_iconst (v := 0) hO dX8_canBeTried_71 (by decide) ?_
        obtain rfl := Option.some.inj hf
        exact gj_zret hO (Or.inl rfl) dX8_canBeTried_72
      · replace hf := gj_t h hf
        refine gj_aload_n hO 0 dX8_canBeTried_45 rfl rfl ?_
        refine gt_X8_4 hO wk_185 dX8_canBeTried_46 ?_
        refine gt_X7_0 hO kd_16 kl_16 wk_186 dX8_canBeTried_49 ?_
        refine gj_iload_n hO 2 dX8_canBeTried_52 rfl rfl ?_
        obtain ⟨x2, hc2, hf⟩ := gj_b hf
        refine ca_X1_hasDock hO isP_17 hc2 wk_450 (by decide) (by decide) (Nat.le_of_ble_eq_true rfl) dX8_canBeTried_53 ?_
        refine gj_if_eq (tgt := 71) hO dX8_canBeTried_56 (by decide) (fun h => ?_) (fun h => ?_)
        · replace hf := gj_t h hf
          refine gj_iconst (v := 0) hO dX8_canBeTried_71 (by decide) ?_
          obtain rfl := Option.some.inj hf
          exact gj_zret hO (Or.inl rfl) dX8_canBeTried_72
        · replace hf := gj_f h hf
          refine gj_iload_n hO 3 dX8_canBeTried_59 rfl rfl ?_
          refine gj_i2l hO dX8_canBeTried_60 ?_
          obtain ⟨x3, hc3, hf⟩ := gj_b hf
          refine ca_X8_isGift hO  hc3 wk_492 (by decide) (by decide) (Nat.le_of_ble_eq_true rfl) dX8_canBeTried_61 ?_
          refine gj_if_eq (tgt := 71) hO dX8_canBeTried_64 (by decide) (fun h => ?_) (fun h => ?_)
          · replace hf := gj_t h hf
            refine gj_iconst (v := 0) hO dX8_canBeTried_71 (by decide) ?_
            obtain rfl := Option.some.inj hf
            exact gj_zret hO (Or.inl rfl) dX8_canBeTried_72
          · replace hf := gj_f h hf
            refine gj_iconst (v := 1) hO dX8_canBeTried_67 (by decide) ?_
            refine gj_goto (tgt := 72) hO dX8_canBeTried_68 (by decide) ?_
            obtain rfl := Option.some.inj hf
            exact gj_zret hO (Or.inr rfl) dX8_canBeTried_72
    · replace hf := gj_t h hf
      refine gj_aload_n hO 0 dX8_canBeTried_9 rfl rfl ?_
      refine gt_X8_4 hO wk_185 dX8_canBeTried_10 ?_
      refine gt_X7_0 hO kd_16 kl_16 wk_186 dX8_canBeTried_13 ?_
      refine gj_iload_n hO 2 dX8_canBeTried_16 rfl rfl ?_
      obtain ⟨x4, hc4, hf⟩ := gj_b hf
      refine ca_X1_hasRoute hO isP_17 hc4 wk_482 (by decide) (by decide) (Nat.le_of_ble_eq_true rfl) dX8_canBeTried_17 ?_
      refine gj_if_eq (tgt := 38) hO dX8_canBeTried_20 (by decide) (fun h => ?_) (fun h => ?_)
      · replace hf := gj_t h hf
        refine gj_iconst (v := 0) hO dX8_canBeTried_38 (by decide) ?_
        obtain rfl := Option.some.inj hf
        exact gj_zret hO (Or.inl rfl) dX8_canBeTried_39
      · replace hf := gj_f h hf
        refine gj_iload_n hO 3 dX8_canBeTried_23 rfl rfl ?_
        refine gj_if_lt (tgt := 38) hO dX8_canBeTried_24 (by decide) (fun h => ?_) (fun h => ?_)
        · replace hf := gj_t h hf
          refine gj_iconst (v := 0) hO dX8_canBeTried_38 (by decide) ?_
          obtain rfl := Option.some.inj hf
          exact gj_zret hO (Or.inl rfl) dX8_canBeTried_39
        · replace hf := gj_f h hf
          refine gj_iload_n hO 3 dX8_canBeTried_27 rfl rfl ?_
          refine gj_sipush (v := 999) hO dX8_canBeTried_28 (by decide) ?_
          refine gj_icmp_gt (tgt := 38) hO dX8_canBeTried_31 (by decide) (fun h => ?_) (fun h => ?_)
          · replace hf := gj_t h hf
            refine gj_iconst (v := 0) hO dX8_canBeTried_38 (by decide) ?_
            obtain rfl := Option.some.inj hf
            exact gj_zret hO (Or.inl rfl) dX8_canBeTried_39
          · replace hf := gj_f h hf
            refine gj_iconst (v := 1) hO dX8_canBeTried_34 (by decide) ?_
            refine gj_goto (tgt := 39) hO dX8_canBeTried_35 (by decide) ?_
            obtain rfl := Option.some.inj hf
            exact gj_zret hO (Or.inr rfl) dX8_canBeTried_39
set_option maxHeartbeats 4000000 in
set_option maxRecDepth 100000 in
theorem ca_X8_canBeTried {E : gj_E} {X : gj_X} {own : String} {cc : ByteArray} {nL : Nat} {rt : Option FieldType} {fr lo : Nat} {r : Option gj_V} {τ : gj_S} {pc : Nat} {lv : List (Nat × gj_V)} {st : List gj_V} {σ : gj_S} (hO : gj_O E X own cc nL rt fr lo) {b1 : Int32} {b2 : Int32} {b3 : Int32}  {idx : Nat} {x : Int32} (hf : f_X8_canBeTried b1 b2 b3 σ = some x) (hl : Cond.methodLink own idx yX8_canBeTried ∈ gj_gw) (hf1 : 2 ≤ fr) (hf2 : 44 ≤ lo) (hcat : ((st.map (gj_tv E.2.1)).map fun v => v.category).sum ≤ 8) (hd : decode cc pc = .ok (.invokevirtual idx, 3)) (k : gj_G E X nL r τ (pc + 3) lv ((gj_i x) :: st) σ) : gj_G E X nL r τ pc lv (gj_i b3 :: gj_i b2 :: gj_i b1 :: gj_r 0 :: st) σ :=
  gj_callV hO (o := 0) (vs := [gj_i b1, gj_i b2, gj_i b3]) (m_X8_canBeTried  hf) hl wk_493 wk_494 wk_4 wk_495 kl_0 kd_0 (by decide) (ci := 8) rfl (n := 3) (by decide +kernel) rfl hf1 hf2 rfl hcat hd k
def f_X8_tried (b1 : Int32) (b2 : Int32) (b3 : Int32) (b4 : Int32) (σ : gj_S) : Option (Int32 × gj_S) := ((f_X8_canBeTried b1 b2 b3 σ).bind fun x1 => (if x1 = 0 then some ((-1 : Int32), σ) else ((f_X1_copyFrom 36 17 σ).bind fun x2 => ((if b1 = 0 then (if gj_in b2 24 then some (gj_sI x2 40 (upd (x2.1 40) (Int32.toNatClampNeg b2) b3)) else none) else (if b1 = (1 : Int32) then (if gj_in b2 24 then some (gj_sI x2 41 (upd (x2.1 41) (Int32.toNatClampNeg b2) b3)) else none) else (if gj_in b2 8 then some (gj_sI x2 37 (upd (x2.1 37) (Int32.toNatClampNeg b2) b3)) else none)) : Option gj_S).bind fun z3 => ((f_X7_beginAll 35 z3).bind fun x7 => ((f_X7_makePivots 35 (1000000 : Int32) x7).bind fun x8 => (if b4 = 0 then ((f_X1_sumCost 36 x8.2).bind fun x9 => some (x9, x8.2)) else ((f_X1_sumLack 36 x8.2).bind fun x10 => some (x10, x8.2)))))))))
set_option maxHeartbeats 4000000 in
set_option maxRecDepth 100000 in
theorem m_X8_tried {E : gj_E} {σ : gj_S} {b1 : Int32} {b2 : Int32} {b3 : Int32} {b4 : Int32}  {x : (Int32 × gj_S)} (hf : f_X8_tried b1 b2 b3 b4 σ = some x) : gj_M E yX8_tried cX8_tried 6 (some .int) 6 141 [gj_r 0, gj_i b1, gj_i b2, gj_i b3, gj_i b4] σ (some (gj_i x.1)) x.2 := by
  refine gj_body (lv := [(0, gj_r 0), (1, gj_i b1), (2, gj_i b2), (3, gj_i b3), (4, gj_i b4)]) (by decide +kernel) (Nat.le_of_ble_eq_true rfl) rfl (fun X hO => ?_)
  replace hO : gj_O E X RX8 cX8_tried 6 (some .int) 6 141 := hO
  unfold f_X8_tried at hf
  refine gj_aload_n hO 0 dX8_tried_0 rfl rfl ?_
  refine gj_iload_n hO 1 dX8_tried_1 rfl rfl ?_
  refine gj_iload_n hO 2 dX8_tried_2 rfl rfl ?_
  refine gj_iload_n hO 3 dX8_tried_3 rfl rfl ?_
  obtain ⟨x1, hc1, hf⟩ := gj_b hf
  refine ca_X8_canBeTried hO  hc1 wk_496 (by decide) (by decide) (Nat.le_of_ble_eq_true rfl) dX8_tried_4 ?_
  refine gj_if_ne (tgt := 12) hO dX8_tried_7 (by decide) (fun h => ?_) (fun h => ?_)
  · replace hf := gj_f h hf
    refine gj_aload_n hO 0 dX8_tried_12 rfl rfl ?_
    refine gt_X8_5 hO wk_497 dX8_tried_13 ?_
    refine gt_X7_0 hO kd_35 kl_35 wk_186 dX8_tried_16 ?_
    refine gj_astore (lv2 := [(5, gj_r 36), (0, gj_r 0), (1, gj_i b1), (2, gj_i b2), (3, gj_i b3), (4, gj_i b4)]) hO dX8_tried_19 (by decide) rfl ?_
    refine gj_aload hO 0 dX8_tried_21 rfl ?_
    refine gj_aload_n hO 1 dX8_tried_23 rfl rfl ?_
    refine gt_X8_4 hO wk_185 dX8_tried_24 ?_
    refine gt_X7_0 hO kd_16 kl_16 wk_186 dX8_tried_27 ?_
    obtain ⟨x2, hc2, hf⟩ := gj_b hf
    refine ca_X1_copyFrom hO isP_36 isP_17 hc2 wk_188 (by decide) (by decide) (Nat.le_of_ble_eq_true rfl) dX8_tried_30 ?_
    refine gj_iload_n hO 2 dX8_tried_33 rfl rfl ?_
    obtain ⟨z3, hz3, hf⟩ := gj_b hf
    have J3 : gj_G E X 6 (some (gj_i x.1)) x.2 72 [(0, gj_r 0), (4, gj_i b4), (5, gj_r 36)] [] z3 := by
      refine gj_aload_n hO 0 dX8_tried_72 rfl rfl ?_
      refine gt_X8_5 hO wk_497 dX8_tried_73 ?_
      obtain ⟨x7, hc7, hf⟩ := gj_b hf
      refine ca_X7_beginAll hO isY_35 hc7 wk_192 (by decide) (by decide) (Nat.le_of_ble_eq_true rfl) dX8_tried_76 ?_
      refine gj_aload_n hO 0 dX8_tried_79 rfl rfl ?_
      refine gt_X8_5 hO wk_497 dX8_tried_80 ?_
      refine gj_ldcw hO wk_501 dX8_tried_83 ?_
      obtain ⟨x8, hc8, hf⟩ := gj_b hf
      refine ca_X7_makePivots hO isY_35 hc8 wk_367 (by decide) (by decide) (Nat.le_of_ble_eq_true rfl) dX8_tried_86 ?_
      refine gj_pop hO dX8_tried_89 trivial ?_
      refine gj_iload hO 1 dX8_tried_90 rfl ?_
      refine gj_if_eq (tgt := 103) hO dX8_tried_92 (by decide) (fun h => ?_) (fun h => ?_)
      · replace hf := gj_t h hf
        refine gj_aload hO 2 dX8_tried_103 rfl ?_
        obtain ⟨x9, hc9, hf⟩ := gj_b hf
        refine ca_X1_sumCost hO isP_36 hc9 wk_374 (by decide) (by decide) (Nat.le_of_ble_eq_true rfl) dX8_tried_105 ?_
        obtain rfl := Option.some.inj hf
        exact gj_iret hO dX8_tried_108
      · replace hf := gj_f h hf
        refine gj_aload hO 2 dX8_tried_95 rfl ?_
        obtain ⟨x10, hc10, hf⟩ := gj_b hf
        refine ca_X1_sumLack hO isP_36 hc10 wk_399 (by decide) (by decide) (Nat.le_of_ble_eq_true rfl) dX8_tried_97 ?_
        refine gj_goto (tgt := 108) hO dX8_tried_100 (by decide) ?_
        obtain rfl := Option.some.inj hf
        exact gj_iret hO dX8_tried_108
    refine gj_if_ne (tgt := 48) hO dX8_tried_34 (by decide) (fun h => ?_) (fun h => ?_)
    · replace hz3 := gj_f h hz3
      refine gj_iload_n hO 2 dX8_tried_48 rfl rfl ?_
      refine gj_iconst (v := 1) hO dX8_tried_49 (by decide) ?_
      refine gj_icmp_ne (tgt := 64) hO dX8_tried_50 (by decide) (fun h => ?_) (fun h => ?_)
      · replace hz3 := gj_f h hz3
        refine gj_aload hO 0 dX8_tried_64 rfl ?_
        refine gt_X1_5 hO kd_36 kl_36 wk_498 dX8_tried_66 ?_
        refine gj_iload_n hO 3 dX8_tried_69 rfl rfl ?_
        refine gj_iload_n hO 4 dX8_tried_70 rfl rfl ?_
        obtain ⟨hb4, hz3⟩ := gj_c hz3
        refine gj_iast hO kl_37 kd_37 hb4 dX8_tried_71 ?_
        obtain rfl := Option.some.inj hz3
        refine gj_sub [1, 5, 0] rfl ?_
        exact J3
      · replace hz3 := gj_t h hz3
        refine gj_aload hO 0 dX8_tried_53 rfl ?_
        refine gt_X1_9 hO kd_36 kl_36 wk_499 dX8_tried_55 ?_
        refine gj_iload_n hO 3 dX8_tried_58 rfl rfl ?_
        refine gj_iload_n hO 4 dX8_tried_59 rfl rfl ?_
        obtain ⟨hb5, hz3⟩ := gj_c hz3
        refine gj_iast hO kl_41 kd_41 hb5 dX8_tried_60 ?_
        refine gj_goto (tgt := 72) hO dX8_tried_61 (by decide) ?_
        obtain rfl := Option.some.inj hz3
        refine gj_sub [1, 5, 0] rfl ?_
        exact J3
    · replace hz3 := gj_t h hz3
      refine gj_aload hO 0 dX8_tried_37 rfl ?_
      refine gt_X1_8 hO kd_36 kl_36 wk_500 dX8_tried_39 ?_
      refine gj_iload_n hO 3 dX8_tried_42 rfl rfl ?_
      refine gj_iload_n hO 4 dX8_tried_43 rfl rfl ?_
      obtain ⟨hb6, hz3⟩ := gj_c hz3
      refine gj_iast hO kl_40 kd_40 hb6 dX8_tried_44 ?_
      refine gj_goto (tgt := 72) hO dX8_tried_45 (by decide) ?_
      obtain rfl := Option.some.inj hz3
      refine gj_sub [1, 5, 0] rfl ?_
      exact J3
  · replace hf := gj_t h hf
    refine gj_iconst (v := (-1)) hO dX8_tried_10 (by decide) ?_
    obtain rfl := Option.some.inj hf
    exact gj_iret hO dX8_tried_11
set_option maxHeartbeats 4000000 in
set_option maxRecDepth 100000 in
theorem ca_X8_tried {E : gj_E} {X : gj_X} {own : String} {cc : ByteArray} {nL : Nat} {rt : Option FieldType} {fr lo : Nat} {r : Option gj_V} {τ : gj_S} {pc : Nat} {lv : List (Nat × gj_V)} {st : List gj_V} {σ : gj_S} (hO : gj_O E X own cc nL rt fr lo) {b1 : Int32} {b2 : Int32} {b3 : Int32} {b4 : Int32}  {idx : Nat} {x : (Int32 × gj_S)} (hf : f_X8_tried b1 b2 b3 b4 σ = some x) (hl : Cond.methodLink own idx yX8_tried ∈ gj_gw) (hf1 : 7 ≤ fr) (hf2 : 166 ≤ lo) (hcat : ((st.map (gj_tv E.2.1)).map fun v => v.category).sum ≤ 8) (hd : decode cc pc = .ok (.invokevirtual idx, 3)) (k : gj_G E X nL r τ (pc + 3) lv ((gj_i x.1) :: st) x.2) : gj_G E X nL r τ pc lv (gj_i b4 :: gj_i b3 :: gj_i b2 :: gj_i b1 :: gj_r 0 :: st) σ :=
  gj_callV hO (o := 0) (vs := [gj_i b1, gj_i b2, gj_i b3, gj_i b4]) (m_X8_tried  hf) hl wk_502 wk_503 wk_4 wk_504 kl_0 kd_0 (by decide) (ci := 8) rfl (n := 4) (by decide +kernel) rfl hf1 hf2 rfl hcat hd k
def f_X7_roomUp (b0 : Nat) (b1 : Int32) (b2 : Int32) (σ : gj_S) : Option Int32 := (if gj_in b1 9 then (if gj_in (σ.1 ((b0 + 10) + 1) (Int32.toNatClampNeg b1)) 24 then ((if (σ.1 ((b0 + 1) + 2) (Int32.toNatClampNeg (σ.1 ((b0 + 10) + 1) (Int32.toNatClampNeg b1)))) = b1 then some (1 : Int32) else some (0 : Int32) : Option Int32).bind fun z3 => (if z3 = b2 then ((f_X1_roomOf (b0 + 1) (σ.1 ((b0 + 10) + 1) (Int32.toNatClampNeg b1)) (1 : Int32) σ).bind fun x5 => some x5) else ((f_X1_roomOf (b0 + 1) (σ.1 ((b0 + 10) + 1) (Int32.toNatClampNeg b1)) (0 : Int32) σ).bind fun x4 => some x4))) else none) else none)
set_option maxHeartbeats 4000000 in
set_option maxRecDepth 100000 in
theorem m_X7_roomUp {E : gj_E} {σ : gj_S} {b0 : Nat} {b1 : Int32} {b2 : Int32} (g0 : isY b0) {x : Int32} (hf : f_X7_roomUp b0 b1 b2 σ = some x) : gj_M E yX7_roomUp cX7_roomUp 4 (some .int) 1 22 [gj_r b0, gj_i b1, gj_i b2] σ (some (gj_i x)) σ := by
  refine gj_body (lv := [(0, gj_r b0), (1, gj_i b1), (2, gj_i b2)]) (by decide +kernel) (Nat.le_of_ble_eq_true rfl) rfl (fun X hO => ?_)
  replace hO : gj_O E X RX7 cX7_roomUp 4 (some .int) 1 22 := hO
  unfold f_X7_roomUp at hf
  refine gj_aload_n hO 0 dX7_roomUp_0 rfl rfl ?_
  refine gt_X7_1 hO (kdY_0 g0) (klY_0 g0) wk_166 dX7_roomUp_1 ?_
  refine gt_X5_0 hO (kdT_0 (isY_T g0)) (klT_0 (isY_T g0)) wk_300 dX7_roomUp_4 ?_
  refine gj_iload_n hO 1 dX7_roomUp_7 rfl rfl ?_
  obtain ⟨hb1, hf⟩ := gj_c hf
  refine gj_iald hO (klT_1 (isY_T g0)) (kdT_1 (isY_T g0)) hb1 dX7_roomUp_8 ?_
  refine gj_istore_n (lv2 := [(3, gj_i (σ.1 ((b0 + 10) + 1) (Int32.toNatClampNeg b1))), (0, gj_r b0), (1, gj_i b1), (2, gj_i b2)]) hO dX7_roomUp_9 rfl (by decide) rfl ?_
  refine gj_aload_n hO 1 dX7_roomUp_10 rfl rfl ?_
  refine gt_X7_0 hO (kdY_0 g0) (klY_0 g0) wk_167 dX7_roomUp_11 ?_
  refine gj_iload_n hO 0 dX7_roomUp_14 rfl rfl ?_
  refine gj_aload_n hO 1 dX7_roomUp_15 rfl rfl ?_
  refine gt_X7_0 hO (kdY_0 g0) (klY_0 g0) wk_167 dX7_roomUp_16 ?_
  refine gt_X1_6 hO (kdP_0 (isY_P g0)) (klP_0 (isY_P g0)) wk_210 dX7_roomUp_19 ?_
  refine gj_iload_n hO 0 dX7_roomUp_22 rfl rfl ?_
  obtain ⟨hb2, hf⟩ := gj_c hf
  refine gj_iald hO (klP_2 (isY_P g0)) (kdP_2 (isY_P g0)) hb2 dX7_roomUp_23 ?_
  refine gj_iload_n hO 2 dX7_roomUp_24 rfl rfl ?_
  obtain ⟨z3, hz3, hf⟩ := gj_b hf
  have J3 : gj_G E X 4 (some (gj_i x)) σ 33 [(2, gj_i b2)] [gj_i z3, gj_i (σ.1 ((b0 + 10) + 1) (Int32.toNatClampNeg b1)), gj_r (b0 + 1)] σ := by
    refine gj_iload_n hO 0 dX7_roomUp_33 rfl rfl ?_
    refine gj_icmp_ne (tgt := 41) hO dX7_roomUp_34 (by decide) (fun h => ?_) (fun h => ?_)
    · replace hf := gj_f h hf
      refine gj_iconst (v := 0) hO dX7_roomUp_41 (by decide) ?_
      obtain ⟨x4, hc4, hf⟩ := gj_b hf
      refine ca_X1_roomOf hO (isY_P g0) hc4 wk_301 (by decide) (by decide) (Nat.le_of_ble_eq_true rfl) dX7_roomUp_42 ?_
      obtain rfl := Option.some.inj hf
      exact gj_iret hO dX7_roomUp_45
    · replace hf := gj_t h hf
      refine gj_iconst (v := 1) hO dX7_roomUp_37 (by decide) ?_
      refine gj_goto (tgt := 42) hO dX7_roomUp_38 (by decide) ?_
      obtain ⟨x5, hc5, hf⟩ := gj_b hf
      refine ca_X1_roomOf hO (isY_P g0) hc5 wk_301 (by decide) (by decide) (Nat.le_of_ble_eq_true rfl) dX7_roomUp_42 ?_
      obtain rfl := Option.some.inj hf
      exact gj_iret hO dX7_roomUp_45
  refine gj_icmp_ne (tgt := 32) hO dX7_roomUp_25 (by decide) (fun h => ?_) (fun h => ?_)
  · replace hz3 := gj_f h hz3
    refine gj_iconst (v := 0) hO dX7_roomUp_32 (by decide) ?_
    obtain rfl := Option.some.inj hz3
    refine gj_sub [3] rfl ?_
    exact J3
  · replace hz3 := gj_t h hz3
    refine gj_iconst (v := 1) hO dX7_roomUp_28 (by decide) ?_
    refine gj_goto (tgt := 33) hO dX7_roomUp_29 (by decide) ?_
    obtain rfl := Option.some.inj hz3
    refine gj_sub [3] rfl ?_
    exact J3
set_option maxHeartbeats 4000000 in
set_option maxRecDepth 100000 in
theorem ca_X7_roomUp {E : gj_E} {X : gj_X} {own : String} {cc : ByteArray} {nL : Nat} {rt : Option FieldType} {fr lo : Nat} {r : Option gj_V} {τ : gj_S} {pc : Nat} {lv : List (Nat × gj_V)} {st : List gj_V} {σ : gj_S} (hO : gj_O E X own cc nL rt fr lo) {b0 : Nat} {b1 : Int32} {b2 : Int32} (g0 : isY b0) {idx : Nat} {x : Int32} (hf : f_X7_roomUp b0 b1 b2 σ = some x) (hl : Cond.methodLink own idx yX7_roomUp ∈ gj_gw) (hf1 : 2 ≤ fr) (hf2 : 45 ≤ lo) (hcat : ((st.map (gj_tv E.2.1)).map fun v => v.category).sum ≤ 8) (hd : decode cc pc = .ok (.invokevirtual idx, 3)) (k : gj_G E X nL r τ (pc + 3) lv ((gj_i x) :: st) σ) : gj_G E X nL r τ pc lv (gj_i b2 :: gj_i b1 :: gj_r b0 :: st) σ :=
  gj_callV hO (o := b0) (vs := [gj_i b1, gj_i b2]) (m_X7_roomUp g0 hf) hl wk_505 wk_506 wk_171 wk_507 (klY_0 g0) (kdY_0 g0) (by decide) (ci := 7) rfl (n := 2) (by decide +kernel) rfl hf1 hf2 rfl hcat hd k
def fb_X7_findRefusing_l5 (b0 : Nat) (b2 : Int32) (σ : gj_S) (a1 : (Int32 × Int32)) : Option ((Int32 ⊕ Unit) ⊕ (Int32 × Int32)) := (if (9 : Int32) ≤ a1.2 then some (.inl (.inr ())) else (if a1.1 = (8 : Int32) then some (.inl (.inr ())) else ((if b2 ≤ 0 then some (0 : Int32) else some (1 : Int32) : Option Int32).bind fun z3 => ((f_X7_roomUp b0 a1.1 z3 σ).bind fun x4 => (if (if 0 ≤ b2 then b2 else 0 - b2) ≤ x4 then (if gj_in a1.1 9 then some (.inr ((σ.1 ((b0 + 10) + 2) (Int32.toNatClampNeg a1.1)), (a1.2 + 1))) else none) else (if gj_in a1.1 9 then some (.inl (.inl (σ.1 ((b0 + 10) + 1) (Int32.toNatClampNeg a1.1)))) else none))))))
def f_X7_findRefusing (b0 : Nat) (b1 : Int32) (b2 : Int32) (σ : gj_S) : Option Int32 := ((gj_lp (fb_X7_findRefusing_l5 b0 b2 σ) 5000 (b1, (0 : Int32))).bind fun y1 => Sum.elim (fun q => some q) (fun z1 => some (-1 : Int32)) y1)
set_option maxHeartbeats 4000000 in
set_option maxRecDepth 100000 in
theorem sb_X7_findRefusing_l5 {E : gj_E} {X : gj_X} {r : Option gj_V} {τ : gj_S} (hO : gj_O E X RX7 cX7_findRefusing 5 (some .int) 2 45) {b0 : Nat} {b2 : Int32} {σ : gj_S} (g0 : isY b0) {a1 : (Int32 × Int32)} {x : (Int32 ⊕ Unit) ⊕ (Int32 × Int32)} (hf : fb_X7_findRefusing_l5 b0 b2 σ a1 = some x) (K : gj_K (fun y1 => gj_K (fun q => r = (some (gj_i q)) ∧ τ = σ) (fun z1 => gj_G E X 5 r τ 65 [] [] σ) y1) (fun a1 => gj_G E X 5 r τ 5 [(0, gj_r b0), (2, gj_i b2), (3, gj_i a1.1), (4, gj_i a1.2)] [] σ) x) : gj_G E X 5 r τ 5 [(0, gj_r b0), (2, gj_i b2), (3, gj_i a1.1), (4, gj_i a1.2)] [] σ := by
  unfold fb_X7_findRefusing_l5 at hf
  refine gj_iload hO 3 dX7_findRefusing_5 rfl ?_
  refine gj_bipush (v := 9) hO dX7_findRefusing_7 (by decide) ?_
  refine gj_icmp_ge (tgt := 65) hO dX7_findRefusing_9 (by decide) (fun h => ?_) (fun h => ?_)
  · replace hf := gj_t h hf
    obtain rfl := Option.some.inj hf
    refine gj_sub [] rfl ?_
    exact K
  · replace hf := gj_f h hf
    refine gj_iload_n hO 2 dX7_findRefusing_12 rfl rfl ?_
    refine gj_bipush (v := 8) hO dX7_findRefusing_13 (by decide) ?_
    refine gj_icmp_eq (tgt := 65) hO dX7_findRefusing_15 (by decide) (fun h => ?_) (fun h => ?_)
    · replace hf := gj_t h hf
      obtain rfl := Option.some.inj hf
      refine gj_sub [] rfl ?_
      exact K
    · replace hf := gj_f h hf
      refine gj_aload_n hO 0 dX7_findRefusing_18 rfl rfl ?_
      refine gj_iload_n hO 2 dX7_findRefusing_19 rfl rfl ?_
      refine gj_iload_n hO 1 dX7_findRefusing_20 rfl rfl ?_
      obtain ⟨z3, hz3, hf⟩ := gj_b hf
      have J3 : gj_G E X 5 r τ 29 [(0, gj_r b0), (2, gj_i b2), (3, gj_i a1.1), (4, gj_i a1.2)] [gj_i z3, gj_i a1.1, gj_r b0] σ := by
        obtain ⟨x4, hc4, hf⟩ := gj_b hf
        refine ca_X7_roomUp hO g0 hc4 wk_508 (by decide) (by decide) (Nat.le_of_ble_eq_true rfl) dX7_findRefusing_29 ?_
        refine gj_iload_n hO 1 dX7_findRefusing_32 rfl rfl ?_
        refine gj_mabs hO wk_471 (by decide) (by decide) (Nat.le_of_ble_eq_true rfl) dX7_findRefusing_33 ?_
        refine gj_icmp_ge (tgt := 49) hO dX7_findRefusing_36 (by decide) (fun h => ?_) (fun h => ?_)
        · replace hf := gj_t h hf
          refine gj_aload_n hO 0 dX7_findRefusing_49 rfl rfl ?_
          refine gt_X7_1 hO (kdY_0 g0) (klY_0 g0) wk_166 dX7_findRefusing_50 ?_
          refine gt_X5_1 hO (kdT_0 (isY_T g0)) (klT_0 (isY_T g0)) wk_509 dX7_findRefusing_53 ?_
          refine gj_iload_n hO 2 dX7_findRefusing_56 rfl rfl ?_
          obtain ⟨hb5, hf⟩ := gj_c hf
          refine gj_iald hO (klT_2 (isY_T g0)) (kdT_2 (isY_T g0)) hb5 dX7_findRefusing_57 ?_
          refine gj_istore_n (lv2 := [(3, gj_i (σ.1 ((b0 + 10) + 2) (Int32.toNatClampNeg a1.1))), (0, gj_r b0), (2, gj_i b2), (4, gj_i a1.2)]) hO dX7_findRefusing_58 rfl (by decide) rfl ?_
          refine gj_iinc (v := (a1.2 + 1)) (lv2 := [(4, gj_i (a1.2 + 1)), (3, gj_i (σ.1 ((b0 + 10) + 2) (Int32.toNatClampNeg a1.1))), (0, gj_r b0), (2, gj_i b2)]) hO 3 dX7_findRefusing_59 rfl rfl (by decide) rfl ?_
          refine gj_goto (tgt := 5) hO dX7_findRefusing_62 (by decide) ?_
          obtain rfl := Option.some.inj hf
          refine gj_sub [2, 3, 1, 0] rfl ?_
          exact K
        · replace hf := gj_f h hf
          refine gj_aload_n hO 0 dX7_findRefusing_39 rfl rfl ?_
          refine gt_X7_1 hO (kdY_0 g0) (klY_0 g0) wk_166 dX7_findRefusing_40 ?_
          refine gt_X5_0 hO (kdT_0 (isY_T g0)) (klT_0 (isY_T g0)) wk_300 dX7_findRefusing_43 ?_
          refine gj_iload_n hO 2 dX7_findRefusing_46 rfl rfl ?_
          obtain ⟨hb6, hf⟩ := gj_c hf
          refine gj_iald hO (klT_1 (isY_T g0)) (kdT_1 (isY_T g0)) hb6 dX7_findRefusing_47 ?_
          obtain rfl := Option.some.inj hf
          obtain ⟨rfl, rfl⟩ := K
          exact gj_iret hO dX7_findRefusing_48
      refine gj_if_le (tgt := 28) hO dX7_findRefusing_21 (by decide) (fun h => ?_) (fun h => ?_)
      · replace hz3 := gj_t h hz3
        refine gj_iconst (v := 0) hO dX7_findRefusing_28 (by decide) ?_
        obtain rfl := Option.some.inj hz3
        refine gj_sub [0, 1, 2, 3] rfl ?_
        exact J3
      · replace hz3 := gj_f h hz3
        refine gj_iconst (v := 1) hO dX7_findRefusing_24 (by decide) ?_
        refine gj_goto (tgt := 29) hO dX7_findRefusing_25 (by decide) ?_
        obtain rfl := Option.some.inj hz3
        refine gj_sub [0, 1, 2, 3] rfl ?_
        exact J3
set_option maxHeartbeats 4000000 in
set_option maxRecDepth 100000 in
theorem m_X7_findRefusing {E : gj_E} {σ : gj_S} {b0 : Nat} {b1 : Int32} {b2 : Int32} (g0 : isY b0) {x : Int32} (hf : f_X7_findRefusing b0 b1 b2 σ = some x) : gj_M E yX7_findRefusing cX7_findRefusing 5 (some .int) 2 45 [gj_r b0, gj_i b1, gj_i b2] σ (some (gj_i x)) σ := by
  refine gj_body (lv := [(0, gj_r b0), (1, gj_i b1), (2, gj_i b2)]) (by decide +kernel) (Nat.le_of_ble_eq_true rfl) rfl (fun X hO => ?_)
  replace hO : gj_O E X RX7 cX7_findRefusing 5 (some .int) 2 45 := hO
  unfold f_X7_findRefusing at hf
  refine gj_iload_n hO 1 dX7_findRefusing_0 rfl rfl ?_
  refine gj_istore_n (lv2 := [(3, gj_i b1), (0, gj_r b0), (1, gj_i b1), (2, gj_i b2)]) hO dX7_findRefusing_1 rfl (by decide) rfl ?_
  refine gj_iconst (v := 0) hO dX7_findRefusing_2 (by decide) ?_
  refine gj_istore (lv2 := [(4, gj_i (0 : Int32)), (3, gj_i b1), (0, gj_r b0), (1, gj_i b1), (2, gj_i b2)]) hO dX7_findRefusing_3 (by decide) rfl ?_
  obtain ⟨y1, hz1, hf⟩ := gj_b hf
  have J1 : (fun y1 => gj_K (fun q => (some (gj_i x)) = (some (gj_i q)) ∧ σ = σ) (fun z1 => gj_G E X 5 (some (gj_i x)) σ 65 [] [] σ) y1) y1 := by
    rcases y1 with q | z1
    · have hf : some q = some x := hf
      obtain rfl := Option.some.inj hf
      exact ⟨rfl, rfl⟩
    · refine gj_iconst (v := (-1)) hO dX7_findRefusing_65 (by decide) ?_
      obtain rfl := Option.some.inj hf
      exact gj_iret hO dX7_findRefusing_66
  refine gj_sub [2, 4, 1, 0] rfl ?_
  exact gj_loop (head := fun a1 => gj_G E X 5 (some (gj_i x)) σ 5 [(0, gj_r b0), (2, gj_i b2), (3, gj_i a1.1), (4, gj_i a1.2)] [] σ) (exit := fun y1 => gj_K (fun q => (some (gj_i x)) = (some (gj_i q)) ∧ σ = σ) (fun z1 => gj_G E X 5 (some (gj_i x)) σ 65 [] [] σ) y1) (fun a1 x hf K => sb_X7_findRefusing_l5 hO g0 hf K) _ _ _ hz1 J1
set_option maxHeartbeats 4000000 in
set_option maxRecDepth 100000 in
theorem ca_X7_findRefusing {E : gj_E} {X : gj_X} {own : String} {cc : ByteArray} {nL : Nat} {rt : Option FieldType} {fr lo : Nat} {r : Option gj_V} {τ : gj_S} {pc : Nat} {lv : List (Nat × gj_V)} {st : List gj_V} {σ : gj_S} (hO : gj_O E X own cc nL rt fr lo) {b0 : Nat} {b1 : Int32} {b2 : Int32} (g0 : isY b0) {idx : Nat} {x : Int32} (hf : f_X7_findRefusing b0 b1 b2 σ = some x) (hl : Cond.methodLink own idx yX7_findRefusing ∈ gj_gw) (hf1 : 3 ≤ fr) (hf2 : 69 ≤ lo) (hcat : ((st.map (gj_tv E.2.1)).map fun v => v.category).sum ≤ 8) (hd : decode cc pc = .ok (.invokevirtual idx, 3)) (k : gj_G E X nL r τ (pc + 3) lv ((gj_i x) :: st) σ) : gj_G E X nL r τ pc lv (gj_i b2 :: gj_i b1 :: gj_r b0 :: st) σ :=
  gj_callV hO (o := b0) (vs := [gj_i b1, gj_i b2]) (m_X7_findRefusing g0 hf) hl wk_510 wk_511 wk_171 wk_512 (klY_0 g0) (kdY_0 g0) (by decide) (ci := 7) rfl (n := 2) (by decide +kernel) rfl hf1 hf2 rfl hcat hd k
def fb_X7_shiftGift_l18 (b0 : Nat) (b2 : Int32) (a3 : (Int32 × Int32 × gj_S)) : Option (gj_S ⊕ (Int32 × Int32 × gj_S)) := (if (9 : Int32) ≤ a3.2.1 then some (.inl a3.2.2) else (if a3.1 = (8 : Int32) then some (.inl a3.2.2) else (if gj_in a3.1 9 then (if gj_in (a3.2.2.1 ((b0 + 10) + 1) (Int32.toNatClampNeg a3.1)) 24 then (if gj_in (a3.2.2.1 ((b0 + 10) + 1) (Int32.toNatClampNeg a3.1)) 24 then ((if (a3.2.2.1 ((b0 + 1) + 2) (Int32.toNatClampNeg (a3.2.2.1 ((b0 + 10) + 1) (Int32.toNatClampNeg a3.1)))) = a3.1 then some b2 else some (0 - b2) : Option Int32).bind fun z8 => (if gj_in (a3.2.2.1 ((b0 + 10) + 1) (Int32.toNatClampNeg a3.1)) 24 then ((some (gj_sI a3.2.2 ((b0 + 1) + 6) (upd (a3.2.2.1 ((b0 + 1) + 6)) (Int32.toNatClampNeg (a3.2.2.1 ((b0 + 10) + 1) (Int32.toNatClampNeg a3.1))) ((a3.2.2.1 ((b0 + 1) + 6) (Int32.toNatClampNeg (a3.2.2.1 ((b0 + 10) + 1) (Int32.toNatClampNeg a3.1)))) + z8)))).bind fun s10 => (if gj_in a3.1 9 then some (.inr ((s10.1 ((b0 + 10) + 2) (Int32.toNatClampNeg a3.1)), (a3.2.1 + 1), s10)) else none)) else none)) else none) else none) else none)))
def f_X7_shiftGift (b0 : Nat) (b1 : Int32) (b2 : Int32) (σ : gj_S) : Option gj_S := (if gj_in b1 8 then (if gj_in b1 8 then ((gj_lp (fb_X7_shiftGift_l18 b0 b2) 5000 (b1, (0 : Int32), (gj_sI σ ((b0 + 1) + 1) (upd (σ.1 ((b0 + 1) + 1)) (Int32.toNatClampNeg b1) ((σ.1 ((b0 + 1) + 1) (Int32.toNatClampNeg b1)) + b2))))).bind fun z3 => some z3) else none) else none)
set_option maxHeartbeats 4000000 in
set_option maxRecDepth 100000 in
theorem sb_X7_shiftGift_l18 {E : gj_E} {X : gj_X} {r : Option gj_V} {τ : gj_S} (hO : gj_O E X RX7 cX7_shiftGift 6 none 0 0) {b0 : Nat} {b2 : Int32} (g0 : isY b0) {a3 : (Int32 × Int32 × gj_S)} {x : gj_S ⊕ (Int32 × Int32 × gj_S)} (hf : fb_X7_shiftGift_l18 b0 b2 a3 = some x) (K : gj_K (fun z3 => gj_G E X 6 r τ 91 [] [] z3) (fun a3 => gj_G E X 6 r τ 18 [(0, gj_r b0), (2, gj_i b2), (3, gj_i a3.1), (4, gj_i a3.2.1)] [] a3.2.2) x) : gj_G E X 6 r τ 18 [(0, gj_r b0), (2, gj_i b2), (3, gj_i a3.1), (4, gj_i a3.2.1)] [] a3.2.2 := by
  unfold fb_X7_shiftGift_l18 at hf
  refine gj_iload hO 3 dX7_shiftGift_18 rfl ?_
  refine gj_bipush (v := 9) hO dX7_shiftGift_20 (by decide) ?_
  refine gj_icmp_ge (tgt := 91) hO dX7_shiftGift_22 (by decide) (fun h => ?_) (fun h => ?_)
  · replace hf := gj_t h hf
    obtain rfl := Option.some.inj hf
    refine gj_sub [] rfl ?_
    exact K
  · replace hf := gj_f h hf
    refine gj_iload_n hO 2 dX7_shiftGift_25 rfl rfl ?_
    refine gj_bipush (v := 8) hO dX7_shiftGift_26 (by decide) ?_
    refine gj_icmp_eq (tgt := 91) hO dX7_shiftGift_28 (by decide) (fun h => ?_) (fun h => ?_)
    · replace hf := gj_t h hf
      obtain rfl := Option.some.inj hf
      refine gj_sub [] rfl ?_
      exact K
    · replace hf := gj_f h hf
      refine gj_aload_n hO 0 dX7_shiftGift_31 rfl rfl ?_
      refine gt_X7_1 hO (kdY_0 g0) (klY_0 g0) wk_166 dX7_shiftGift_32 ?_
      refine gt_X5_0 hO (kdT_0 (isY_T g0)) (klT_0 (isY_T g0)) wk_300 dX7_shiftGift_35 ?_
      refine gj_iload_n hO 2 dX7_shiftGift_38 rfl rfl ?_
      obtain ⟨hb5, hf⟩ := gj_c hf
      refine gj_iald hO (klT_1 (isY_T g0)) (kdT_1 (isY_T g0)) hb5 dX7_shiftGift_39 ?_
      refine gj_istore (lv2 := [(5, gj_i (a3.2.2.1 ((b0 + 10) + 1) (Int32.toNatClampNeg a3.1))), (0, gj_r b0), (2, gj_i b2), (3, gj_i a3.1), (4, gj_i a3.2.1)]) hO dX7_shiftGift_40 (by decide) rfl ?_
      refine gj_aload_n hO 1 dX7_shiftGift_42 rfl rfl ?_
      refine gt_X7_0 hO (kdY_0 g0) (klY_0 g0) wk_167 dX7_shiftGift_43 ?_
      refine gt_X1_10 hO (kdP_0 (isY_P g0)) (klP_0 (isY_P g0)) wk_321 dX7_shiftGift_46 ?_
      refine gj_iload hO 0 dX7_shiftGift_49 rfl ?_
      refine gj_dup2 hO dX7_shiftGift_51 trivial trivial ?_
      obtain ⟨hb6, hf⟩ := gj_c hf
      refine gj_iald hO (klP_6 (isY_P g0)) (kdP_6 (isY_P g0)) hb6 dX7_shiftGift_52 ?_
      refine gj_aload_n hO 1 dX7_shiftGift_53 rfl rfl ?_
      refine gt_X7_0 hO (kdY_0 g0) (klY_0 g0) wk_167 dX7_shiftGift_54 ?_
      refine gt_X1_6 hO (kdP_0 (isY_P g0)) (klP_0 (isY_P g0)) wk_210 dX7_shiftGift_57 ?_
      refine gj_iload hO 0 dX7_shiftGift_60 rfl ?_
      obtain ⟨hb7, hf⟩ := gj_c hf
      refine gj_iald hO (klP_2 (isY_P g0)) (kdP_2 (isY_P g0)) hb7 dX7_shiftGift_62 ?_
      refine gj_iload_n hO 3 dX7_shiftGift_63 rfl rfl ?_
      obtain ⟨z8, hz8, hf⟩ := gj_b hf
      have J8 : gj_G E X 6 r τ 73 [(0, gj_r b0), (2, gj_i b2), (3, gj_i a3.1), (4, gj_i a3.2.1)] [gj_i z8, gj_i (a3.2.2.1 ((b0 + 1) + 6) (Int32.toNatClampNeg (a3.2.2.1 ((b0 + 10) + 1) (Int32.toNatClampNeg a3.1)))), gj_i (a3.2.2.1 ((b0 + 10) + 1) (Int32.toNatClampNeg a3.1)), gj_r ((b0 + 1) + 6)] a3.2.2 := by
        refine gj_iadd hO dX7_shiftGift_73 ?_
        obtain ⟨hb9, hf⟩ := gj_c hf
        refine gj_iast hO (klP_6 (isY_P g0)) (kdP_6 (isY_P g0)) hb9 dX7_shiftGift_74 ?_
        obtain ⟨s10, e10, hf⟩ := gj_b hf
        refine gj_eqS (Option.some.inj e10) ?_
        refine gj_aload_n hO 0 dX7_shiftGift_75 rfl rfl ?_
        refine gt_X7_1 hO (kdY_0 g0) (klY_0 g0) wk_166 dX7_shiftGift_76 ?_
        refine gt_X5_1 hO (kdT_0 (isY_T g0)) (klT_0 (isY_T g0)) wk_509 dX7_shiftGift_79 ?_
        refine gj_iload_n hO 2 dX7_shiftGift_82 rfl rfl ?_
        obtain ⟨hb11, hf⟩ := gj_c hf
        refine gj_iald hO (klT_2 (isY_T g0)) (kdT_2 (isY_T g0)) hb11 dX7_shiftGift_83 ?_
        refine gj_istore_n (lv2 := [(3, gj_i (s10.1 ((b0 + 10) + 2) (Int32.toNatClampNeg a3.1))), (0, gj_r b0), (2, gj_i b2), (4, gj_i a3.2.1)]) hO dX7_shiftGift_84 rfl (by decide) rfl ?_
        refine gj_iinc (v := (a3.2.1 + 1)) (lv2 := [(4, gj_i (a3.2.1 + 1)), (3, gj_i (s10.1 ((b0 + 10) + 2) (Int32.toNatClampNeg a3.1))), (0, gj_r b0), (2, gj_i b2)]) hO 3 dX7_shiftGift_85 rfl rfl (by decide) rfl ?_
        refine gj_goto (tgt := 18) hO dX7_shiftGift_88 (by decide) ?_
        obtain rfl := Option.some.inj hf
        refine gj_sub [2, 3, 1, 0] rfl ?_
        exact K
      refine gj_icmp_ne (tgt := 71) hO dX7_shiftGift_64 (by decide) (fun h => ?_) (fun h => ?_)
      · replace hz8 := gj_f h hz8
        refine gj_iload_n hO 2 dX7_shiftGift_71 rfl rfl ?_
        refine gj_ineg hO dX7_shiftGift_72 ?_
        obtain rfl := Option.some.inj hz8
        refine gj_sub [1, 2, 3, 4] rfl ?_
        exact J8
      · replace hz8 := gj_t h hz8
        refine gj_iload_n hO 2 dX7_shiftGift_67 rfl rfl ?_
        refine gj_goto (tgt := 73) hO dX7_shiftGift_68 (by decide) ?_
        obtain rfl := Option.some.inj hz8
        refine gj_sub [1, 2, 3, 4] rfl ?_
        exact J8
set_option maxHeartbeats 4000000 in
set_option maxRecDepth 100000 in
theorem m_X7_shiftGift {E : gj_E} {σ : gj_S} {b0 : Nat} {b1 : Int32} {b2 : Int32} (g0 : isY b0) {x : gj_S} (hf : f_X7_shiftGift b0 b1 b2 σ = some x) : gj_M E yX7_shiftGift cX7_shiftGift 6 none 0 0 [gj_r b0, gj_i b1, gj_i b2] σ none x := by
  refine gj_body (lv := [(0, gj_r b0), (1, gj_i b1), (2, gj_i b2)]) (by decide +kernel) (Nat.le_of_ble_eq_true rfl) rfl (fun X hO => ?_)
  replace hO : gj_O E X RX7 cX7_shiftGift 6 none 0 0 := hO
  unfold f_X7_shiftGift at hf
  refine gj_aload_n hO 0 dX7_shiftGift_0 rfl rfl ?_
  refine gt_X7_0 hO (kdY_0 g0) (klY_0 g0) wk_167 dX7_shiftGift_1 ?_
  refine gt_X1_5 hO (kdP_0 (isY_P g0)) (klP_0 (isY_P g0)) wk_407 dX7_shiftGift_4 ?_
  refine gj_iload_n hO 1 dX7_shiftGift_7 rfl rfl ?_
  refine gj_dup2 hO dX7_shiftGift_8 trivial trivial ?_
  obtain ⟨hb1, hf⟩ := gj_c hf
  refine gj_iald hO (klP_1 (isY_P g0)) (kdP_1 (isY_P g0)) hb1 dX7_shiftGift_9 ?_
  refine gj_iload_n hO 2 dX7_shiftGift_10 rfl rfl ?_
  refine gj_iadd hO dX7_shiftGift_11 ?_
  obtain ⟨hb2, hf⟩ := gj_c hf
  refine gj_iast hO (klP_1 (isY_P g0)) (kdP_1 (isY_P g0)) hb2 dX7_shiftGift_12 ?_
  refine gj_iload_n hO 1 dX7_shiftGift_13 rfl rfl ?_
  refine gj_istore_n (lv2 := [(3, gj_i b1), (0, gj_r b0), (1, gj_i b1), (2, gj_i b2)]) hO dX7_shiftGift_14 rfl (by decide) rfl ?_
  refine gj_iconst (v := 0) hO dX7_shiftGift_15 (by decide) ?_
  refine gj_istore (lv2 := [(4, gj_i (0 : Int32)), (3, gj_i b1), (0, gj_r b0), (1, gj_i b1), (2, gj_i b2)]) hO dX7_shiftGift_16 (by decide) rfl ?_
  obtain ⟨z3, hz3, hf⟩ := gj_b hf
  have J3 : gj_G E X 6 none x 91 [] [] z3 := by
    obtain rfl := Option.some.inj hf
    exact gj_vret hO dX7_shiftGift_91
  refine gj_sub [2, 4, 1, 0] rfl ?_
  exact gj_loop (head := fun a3 => gj_G E X 6 none x 18 [(0, gj_r b0), (2, gj_i b2), (3, gj_i a3.1), (4, gj_i a3.2.1)] [] a3.2.2) (exit := fun z3 => gj_G E X 6 none x 91 [] [] z3) (fun a3 x hf K => sb_X7_shiftGift_l18 hO g0 hf K) _ _ _ hz3 J3
set_option maxHeartbeats 4000000 in
set_option maxRecDepth 100000 in
theorem ca_X7_shiftGift {E : gj_E} {X : gj_X} {own : String} {cc : ByteArray} {nL : Nat} {rt : Option FieldType} {fr lo : Nat} {r : Option gj_V} {τ : gj_S} {pc : Nat} {lv : List (Nat × gj_V)} {st : List gj_V} {σ : gj_S} (hO : gj_O E X own cc nL rt fr lo) {b0 : Nat} {b1 : Int32} {b2 : Int32} (g0 : isY b0) {idx : Nat} {x : gj_S} (hf : f_X7_shiftGift b0 b1 b2 σ = some x) (hl : Cond.methodLink own idx yX7_shiftGift ∈ gj_gw) (hf1 : 1 ≤ fr) (hf2 : 25 ≤ lo) (hcat : ((st.map (gj_tv E.2.1)).map fun v => v.category).sum ≤ 8) (hd : decode cc pc = .ok (.invokevirtual idx, 3)) (k : gj_G E X nL r τ (pc + 3) lv (st) x) : gj_G E X nL r τ pc lv (gj_i b2 :: gj_i b1 :: gj_r b0 :: st) σ :=
  gj_callV hO (o := b0) (vs := [gj_i b1, gj_i b2]) (m_X7_shiftGift g0 hf) hl wk_513 wk_514 wk_171 wk_515 (klY_0 g0) (kdY_0 g0) (by decide) (ci := 7) rfl (n := 2) (by decide +kernel) rfl hf1 hf2 rfl hcat hd k
def f_X8_load (b1 : Int32) (b2 : Int32) (σ : gj_S) : Option (Int32 × gj_S) := ((f_X1_hasDock 17 b1 σ).bind fun x1 => (if x1 = 0 then some ((-1 : Int32), σ) else (if b2 = 0 then some ((-1 : Int32), σ) else (if gj_in b1 8 then ((f_X8_isGift ((Int32.toInt64 (σ.1 18 (Int32.toNatClampNeg b1))) + (Int32.toInt64 b2))).bind fun x3 => (if x3 = 0 then some ((-1 : Int32), σ) else ((f_X7_findRefusing 16 b1 b2 σ).bind fun x4 => (if x4 = (-1 : Int32) then ((f_X0_remember σ).bind fun x5 => ((f_X7_shiftGift 16 b1 b2 x5).bind fun x6 => (if gj_in b1 9 then some ((x6.1 29 (Int32.toNatClampNeg b1)), x6) else none))) else some (((-2 : Int32) - x4), σ))))) else none))))
set_option maxHeartbeats 4000000 in
set_option maxRecDepth 100000 in
theorem m_X8_load {E : gj_E} {σ : gj_S} {b1 : Int32} {b2 : Int32}  {x : (Int32 × gj_S)} (hf : f_X8_load b1 b2 σ = some x) : gj_M E yX8_load cX8_load 4 (some .int) 3 162 [gj_r 0, gj_i b1, gj_i b2] σ (some (gj_i x.1)) x.2 := by
  refine gj_body (lv := [(0, gj_r 0), (1, gj_i b1), (2, gj_i b2)]) (by decide +kernel) (Nat.le_of_ble_eq_true rfl) rfl (fun X hO => ?_)
  replace hO : gj_O E X RX8 cX8_load 4 (some .int) 3 162 := hO
  unfold f_X8_load at hf
  refine gj_aload_n hO 0 dX8_load_0 rfl rfl ?_
  refine gt_X8_4 hO wk_185 dX8_load_1 ?_
  refine gt_X7_0 hO kd_16 kl_16 wk_186 dX8_load_4 ?_
  refine gj_iload_n hO 1 dX8_load_7 rfl rfl ?_
  obtain ⟨x1, hc1, hf⟩ := gj_b hf
  refine ca_X1_hasDock hO isP_17 hc1 wk_450 (by decide) (by decide) (Nat.le_of_ble_eq_true rfl) dX8_load_8 ?_
  refine gj_if_eq (tgt := 40) hO dX8_load_11 (by decide) (fun h => ?_) (fun h => ?_)
  · replace hf := gj_t h hf
    refine gj_iconst (v := (-1)) hO dX8_load_40 (by decide) ?_
    obtain rfl := Option.some.inj hf
    exact gj_iret hO dX8_load_41
  · replace hf := gj_f h hf
    refine gj_iload_n hO 2 dX8_load_14 rfl rfl ?_
    refine gj_if_eq (tgt := 40) hO dX8_load_15 (by decide) (fun h => ?_) (fun h => ?_)
    · replace hf := gj_t h hf
      refine gj_iconst (v := (-1)) hO dX8_load_40 (by decide) ?_
      obtain rfl := Option.some.inj hf
      exact gj_iret hO dX8_load_41
    · replace hf := gj_f h hf
      refine gj_aload_n hO 0 dX8_load_18 rfl rfl ?_
      refine gt_X8_4 hO wk_185 dX8_load_19 ?_
      refine gt_X7_0 hO kd_16 kl_16 wk_186 dX8_load_22 ?_
      refine gt_X1_5 hO kd_17 kl_17 wk_498 dX8_load_25 ?_
      refine gj_iload_n hO 1 dX8_load_28 rfl rfl ?_
      obtain ⟨hb2, hf⟩ := gj_c hf
      refine gj_iald hO kl_18 kd_18 hb2 dX8_load_29 ?_
      refine gj_i2l hO dX8_load_30 ?_
      refine gj_iload_n hO 2 dX8_load_31 rfl rfl ?_
      refine gj_i2l hO dX8_load_32 ?_
      refine gj_ladd hO dX8_load_33 ?_
      obtain ⟨x3, hc3, hf⟩ := gj_b hf
      refine ca_X8_isGift hO  hc3 wk_492 (by decide) (by decide) (Nat.le_of_ble_eq_true rfl) dX8_load_34 ?_
      refine gj_if_ne (tgt := 42) hO dX8_load_37 (by decide) (fun h => ?_) (fun h => ?_)
      · replace hf := gj_f h hf
        refine gj_aload_n hO 0 dX8_load_42 rfl rfl ?_
        refine gt_X8_4 hO wk_185 dX8_load_43 ?_
        refine gj_iload_n hO 1 dX8_load_46 rfl rfl ?_
        refine gj_iload_n hO 2 dX8_load_47 rfl rfl ?_
        obtain ⟨x4, hc4, hf⟩ := gj_b hf
        refine ca_X7_findRefusing hO isY_16 hc4 wk_516 (by decide) (by decide) (Nat.le_of_ble_eq_true rfl) dX8_load_48 ?_
        refine gj_istore_n (lv2 := [(3, gj_i x4), (0, gj_r 0), (1, gj_i b1), (2, gj_i b2)]) hO dX8_load_51 rfl (by decide) rfl ?_
        refine gj_iload_n hO 0 dX8_load_52 rfl rfl ?_
        refine gj_iconst (v := (-1)) hO dX8_load_53 (by decide) ?_
        refine gj_icmp_eq (tgt := 62) hO dX8_load_54 (by decide) (fun h => ?_) (fun h => ?_)
        · replace hf := gj_t h hf
          refine gj_aload_n hO 1 dX8_load_62 rfl rfl ?_
          refine gt_X8_6 hO wk_193 dX8_load_63 ?_
          refine gj_aload_n hO 1 dX8_load_66 rfl rfl ?_
          refine gt_X8_4 hO wk_185 dX8_load_67 ?_
          refine gt_X7_0 hO kd_16 kl_16 wk_186 dX8_load_70 ?_
          obtain ⟨x5, hc5, hf⟩ := gj_b hf
          refine ca_X0_remember hO  hc5 wk_358 (by decide) (by decide) (Nat.le_of_ble_eq_true rfl) dX8_load_73 ?_
          refine gj_aload_n hO 1 dX8_load_76 rfl rfl ?_
          refine gt_X8_4 hO wk_185 dX8_load_77 ?_
          refine gj_iload_n hO 2 dX8_load_80 rfl rfl ?_
          refine gj_iload_n hO 3 dX8_load_81 rfl rfl ?_
          obtain ⟨x6, hc6, hf⟩ := gj_b hf
          refine ca_X7_shiftGift hO isY_16 hc6 wk_517 (by decide) (by decide) (Nat.le_of_ble_eq_true rfl) dX8_load_82 ?_
          refine gj_aload_n hO 1 dX8_load_85 rfl rfl ?_
          refine gt_X8_4 hO wk_185 dX8_load_86 ?_
          refine gt_X7_1 hO kd_16 kl_16 wk_518 dX8_load_89 ?_
          refine gt_X5_2 hO kd_26 kl_26 wk_519 dX8_load_92 ?_
          refine gj_iload_n hO 2 dX8_load_95 rfl rfl ?_
          obtain ⟨hb7, hf⟩ := gj_c hf
          refine gj_iald hO kl_29 kd_29 hb7 dX8_load_96 ?_
          obtain rfl := Option.some.inj hf
          exact gj_iret hO dX8_load_97
        · replace hf := gj_f h hf
          refine gj_bipush (v := (-2)) hO dX8_load_57 (by decide) ?_
          refine gj_iload_n hO 0 dX8_load_59 rfl rfl ?_
          refine gj_isub hO dX8_load_60 ?_
          obtain rfl := Option.some.inj hf
          exact gj_iret hO dX8_load_61
      · replace hf := gj_t h hf
        refine gj_iconst (v := (-1)) hO dX8_load_40 (by decide) ?_
        obtain rfl := Option.some.inj hf
        exact gj_iret hO dX8_load_41
set_option maxHeartbeats 4000000 in
set_option maxRecDepth 100000 in
theorem ca_X8_load {E : gj_E} {X : gj_X} {own : String} {cc : ByteArray} {nL : Nat} {rt : Option FieldType} {fr lo : Nat} {r : Option gj_V} {τ : gj_S} {pc : Nat} {lv : List (Nat × gj_V)} {st : List gj_V} {σ : gj_S} (hO : gj_O E X own cc nL rt fr lo) {b1 : Int32} {b2 : Int32}  {idx : Nat} {x : (Int32 × gj_S)} (hf : f_X8_load b1 b2 σ = some x) (hl : Cond.methodLink own idx yX8_load ∈ gj_gw) (hf1 : 4 ≤ fr) (hf2 : 185 ≤ lo) (hcat : ((st.map (gj_tv E.2.1)).map fun v => v.category).sum ≤ 8) (hd : decode cc pc = .ok (.invokevirtual idx, 3)) (k : gj_G E X nL r τ (pc + 3) lv ((gj_i x.1) :: st) x.2) : gj_G E X nL r τ pc lv (gj_i b2 :: gj_i b1 :: gj_r 0 :: st) σ :=
  gj_callV hO (o := 0) (vs := [gj_i b1, gj_i b2]) (m_X8_load  hf) hl wk_520 wk_521 wk_4 wk_522 kl_0 kd_0 (by decide) (ci := 8) rfl (n := 2) (by decide +kernel) rfl hf1 hf2 rfl hcat hd k
def fb_X7_leastRoomUp_l9 (b0 : Nat) (b2 : Int32) (σ : gj_S) (a1 : (Int32 × Int32 × Int32)) : Option (Int32 ⊕ (Int32 × Int32 × Int32)) := (if (9 : Int32) ≤ a1.2.2 then some (.inl a1.1) else (if a1.2.1 = (8 : Int32) then some (.inl a1.1) else ((f_X7_roomUp b0 a1.2.1 b2 σ).bind fun x3 => (if gj_in a1.2.1 9 then some (.inr ((if x3 < a1.1 then x3 else a1.1), (σ.1 ((b0 + 10) + 2) (Int32.toNatClampNeg a1.2.1)), (a1.2.2 + 1))) else none))))
def f_X7_leastRoomUp (b0 : Nat) (b1 : Int32) (b2 : Int32) (σ : gj_S) : Option Int32 := ((gj_lp (fb_X7_leastRoomUp_l9 b0 b2 σ) 5000 ((1000000 : Int32), b1, (0 : Int32))).bind fun z1 => some z1)
set_option maxHeartbeats 4000000 in
set_option maxRecDepth 100000 in
theorem sb_X7_leastRoomUp_l9 {E : gj_E} {X : gj_X} {r : Option gj_V} {τ : gj_S} (hO : gj_O E X RX7 cX7_leastRoomUp 6 (some .int) 2 45) {b0 : Nat} {b2 : Int32} {σ : gj_S} (g0 : isY b0) {a1 : (Int32 × Int32 × Int32)} {x : Int32 ⊕ (Int32 × Int32 × Int32)} (hf : fb_X7_leastRoomUp_l9 b0 b2 σ a1 = some x) (K : gj_K (fun z1 => gj_G E X 6 r τ 53 [(3, gj_i z1)] [] σ) (fun a1 => gj_G E X 6 r τ 9 [(0, gj_r b0), (2, gj_i b2), (3, gj_i a1.1), (4, gj_i a1.2.1), (5, gj_i a1.2.2)] [] σ) x) : gj_G E X 6 r τ 9 [(0, gj_r b0), (2, gj_i b2), (3, gj_i a1.1), (4, gj_i a1.2.1), (5, gj_i a1.2.2)] [] σ := by
  unfold fb_X7_leastRoomUp_l9 at hf
  refine gj_iload hO 4 dX7_leastRoomUp_9 rfl ?_
  refine gj_bipush (v := 9) hO dX7_leastRoomUp_11 (by decide) ?_
  refine gj_icmp_ge (tgt := 53) hO dX7_leastRoomUp_13 (by decide) (fun h => ?_) (fun h => ?_)
  · replace hf := gj_t h hf
    obtain rfl := Option.some.inj hf
    refine gj_sub [2] rfl ?_
    exact K
  · replace hf := gj_f h hf
    refine gj_iload hO 3 dX7_leastRoomUp_16 rfl ?_
    refine gj_bipush (v := 8) hO dX7_leastRoomUp_18 (by decide) ?_
    refine gj_icmp_eq (tgt := 53) hO dX7_leastRoomUp_20 (by decide) (fun h => ?_) (fun h => ?_)
    · replace hf := gj_t h hf
      obtain rfl := Option.some.inj hf
      refine gj_sub [2] rfl ?_
      exact K
    · replace hf := gj_f h hf
      refine gj_iload_n hO 2 dX7_leastRoomUp_23 rfl rfl ?_
      refine gj_aload_n hO 0 dX7_leastRoomUp_24 rfl rfl ?_
      refine gj_iload hO 3 dX7_leastRoomUp_25 rfl ?_
      refine gj_iload_n hO 1 dX7_leastRoomUp_27 rfl rfl ?_
      obtain ⟨x3, hc3, hf⟩ := gj_b hf
      refine ca_X7_roomUp hO g0 hc3 wk_508 (by decide) (by decide) (Nat.le_of_ble_eq_true rfl) dX7_leastRoomUp_28 ?_
      refine gj_mmin hO wk_405 (by decide) (by decide) (Nat.le_of_ble_eq_true rfl) dX7_leastRoomUp_31 ?_
      refine gj_istore_n (lv2 := [(3, gj_i (if x3 < a1.1 then x3 else a1.1)), (0, gj_r b0), (2, gj_i b2), (4, gj_i a1.2.1), (5, gj_i a1.2.2)]) hO dX7_leastRoomUp_34 rfl (by decide) rfl ?_
      refine gj_aload_n hO 1 dX7_leastRoomUp_35 rfl rfl ?_
      refine gt_X7_1 hO (kdY_0 g0) (klY_0 g0) wk_166 dX7_leastRoomUp_36 ?_
      refine gt_X5_1 hO (kdT_0 (isY_T g0)) (klT_0 (isY_T g0)) wk_509 dX7_leastRoomUp_39 ?_
      refine gj_iload hO 3 dX7_leastRoomUp_42 rfl ?_
      obtain ⟨hb4, hf⟩ := gj_c hf
      refine gj_iald hO (klT_2 (isY_T g0)) (kdT_2 (isY_T g0)) hb4 dX7_leastRoomUp_44 ?_
      refine gj_istore (lv2 := [(4, gj_i (σ.1 ((b0 + 10) + 2) (Int32.toNatClampNeg a1.2.1))), (3, gj_i (if x3 < a1.1 then x3 else a1.1)), (0, gj_r b0), (2, gj_i b2), (5, gj_i a1.2.2)]) hO dX7_leastRoomUp_45 (by decide) rfl ?_
      refine gj_iinc (v := (a1.2.2 + 1)) (lv2 := [(5, gj_i (a1.2.2 + 1)), (4, gj_i (σ.1 ((b0 + 10) + 2) (Int32.toNatClampNeg a1.2.1))), (3, gj_i (if x3 < a1.1 then x3 else a1.1)), (0, gj_r b0), (2, gj_i b2)]) hO 4 dX7_leastRoomUp_47 rfl rfl (by decide) rfl ?_
      refine gj_goto (tgt := 9) hO dX7_leastRoomUp_50 (by decide) ?_
      obtain rfl := Option.some.inj hf
      refine gj_sub [3, 4, 2, 1, 0] rfl ?_
      exact K
set_option maxHeartbeats 4000000 in
set_option maxRecDepth 100000 in
theorem m_X7_leastRoomUp {E : gj_E} {σ : gj_S} {b0 : Nat} {b1 : Int32} {b2 : Int32} (g0 : isY b0) {x : Int32} (hf : f_X7_leastRoomUp b0 b1 b2 σ = some x) : gj_M E yX7_leastRoomUp cX7_leastRoomUp 6 (some .int) 2 45 [gj_r b0, gj_i b1, gj_i b2] σ (some (gj_i x)) σ := by
  refine gj_body (lv := [(0, gj_r b0), (1, gj_i b1), (2, gj_i b2)]) (by decide +kernel) (Nat.le_of_ble_eq_true rfl) rfl (fun X hO => ?_)
  replace hO : gj_O E X RX7 cX7_leastRoomUp 6 (some .int) 2 45 := hO
  unfold f_X7_leastRoomUp at hf
  refine gj_ldc hO wk_523 dX7_leastRoomUp_0 ?_
  refine gj_istore_n (lv2 := [(3, gj_i (1000000 : Int32)), (0, gj_r b0), (1, gj_i b1), (2, gj_i b2)]) hO dX7_leastRoomUp_2 rfl (by decide) rfl ?_
  refine gj_iload_n hO 2 dX7_leastRoomUp_3 rfl rfl ?_
  refine gj_istore (lv2 := [(4, gj_i b1), (3, gj_i (1000000 : Int32)), (0, gj_r b0), (1, gj_i b1), (2, gj_i b2)]) hO dX7_leastRoomUp_4 (by decide) rfl ?_
  refine gj_iconst (v := 0) hO dX7_leastRoomUp_6 (by decide) ?_
  refine gj_istore (lv2 := [(5, gj_i (0 : Int32)), (4, gj_i b1), (3, gj_i (1000000 : Int32)), (0, gj_r b0), (1, gj_i b1), (2, gj_i b2)]) hO dX7_leastRoomUp_7 (by decide) rfl ?_
  obtain ⟨z1, hz1, hf⟩ := gj_b hf
  have J1 : gj_G E X 6 (some (gj_i x)) σ 53 [(3, gj_i z1)] [] σ := by
    refine gj_iload_n hO 0 dX7_leastRoomUp_53 rfl rfl ?_
    obtain rfl := Option.some.inj hf
    exact gj_iret hO dX7_leastRoomUp_54
  refine gj_sub [3, 5, 2, 1, 0] rfl ?_
  exact gj_loop (head := fun a1 => gj_G E X 6 (some (gj_i x)) σ 9 [(0, gj_r b0), (2, gj_i b2), (3, gj_i a1.1), (4, gj_i a1.2.1), (5, gj_i a1.2.2)] [] σ) (exit := fun z1 => gj_G E X 6 (some (gj_i x)) σ 53 [(3, gj_i z1)] [] σ) (fun a1 x hf K => sb_X7_leastRoomUp_l9 hO g0 hf K) _ _ _ hz1 J1
set_option maxHeartbeats 4000000 in
set_option maxRecDepth 100000 in
theorem ca_X7_leastRoomUp {E : gj_E} {X : gj_X} {own : String} {cc : ByteArray} {nL : Nat} {rt : Option FieldType} {fr lo : Nat} {r : Option gj_V} {τ : gj_S} {pc : Nat} {lv : List (Nat × gj_V)} {st : List gj_V} {σ : gj_S} (hO : gj_O E X own cc nL rt fr lo) {b0 : Nat} {b1 : Int32} {b2 : Int32} (g0 : isY b0) {idx : Nat} {x : Int32} (hf : f_X7_leastRoomUp b0 b1 b2 σ = some x) (hl : Cond.methodLink own idx yX7_leastRoomUp ∈ gj_gw) (hf1 : 3 ≤ fr) (hf2 : 70 ≤ lo) (hcat : ((st.map (gj_tv E.2.1)).map fun v => v.category).sum ≤ 8) (hd : decode cc pc = .ok (.invokevirtual idx, 3)) (k : gj_G E X nL r τ (pc + 3) lv ((gj_i x) :: st) σ) : gj_G E X nL r τ pc lv (gj_i b2 :: gj_i b1 :: gj_r b0 :: st) σ :=
  gj_callV hO (o := b0) (vs := [gj_i b1, gj_i b2]) (m_X7_leastRoomUp g0 hf) hl wk_524 wk_525 wk_171 wk_526 (klY_0 g0) (kdY_0 g0) (by decide) (ci := 7) rfl (n := 2) (by decide +kernel) rfl hf1 hf2 rfl hcat hd k
def f_X8_spare (b1 : Int32) (b2 : Int32) (σ : gj_S) : Option Int32 := ((f_X1_hasDock 17 b1 σ).bind fun x1 => (if x1 = 0 then some (-1 : Int32) else (if b2 = 0 then ((f_X7_leastRoomUp 16 b1 (1 : Int32) σ).bind fun x3 => some x3) else ((f_X7_leastRoomUp 16 b1 (0 : Int32) σ).bind fun x2 => some x2))))
set_option maxHeartbeats 4000000 in
set_option maxRecDepth 100000 in
theorem m_X8_spare {E : gj_E} {σ : gj_S} {b1 : Int32} {b2 : Int32}  {x : Int32} (hf : f_X8_spare b1 b2 σ = some x) : gj_M E yX8_spare cX8_spare 3 (some .int) 3 70 [gj_r 0, gj_i b1, gj_i b2] σ (some (gj_i x)) σ := by
  refine gj_body (lv := [(0, gj_r 0), (1, gj_i b1), (2, gj_i b2)]) (by decide +kernel) (Nat.le_of_ble_eq_true rfl) rfl (fun X hO => ?_)
  replace hO : gj_O E X RX8 cX8_spare 3 (some .int) 3 70 := hO
  unfold f_X8_spare at hf
  refine gj_aload_n hO 0 dX8_spare_0 rfl rfl ?_
  refine gt_X8_4 hO wk_185 dX8_spare_1 ?_
  refine gt_X7_0 hO kd_16 kl_16 wk_186 dX8_spare_4 ?_
  refine gj_iload_n hO 1 dX8_spare_7 rfl rfl ?_
  obtain ⟨x1, hc1, hf⟩ := gj_b hf
  refine ca_X1_hasDock hO isP_17 hc1 wk_450 (by decide) (by decide) (Nat.le_of_ble_eq_true rfl) dX8_spare_8 ?_
  refine gj_if_ne (tgt := 16) hO dX8_spare_11 (by decide) (fun h => ?_) (fun h => ?_)
  · replace hf := gj_f h hf
    refine gj_aload_n hO 0 dX8_spare_16 rfl rfl ?_
    refine gt_X8_4 hO wk_185 dX8_spare_17 ?_
    refine gj_iload_n hO 1 dX8_spare_20 rfl rfl ?_
    refine gj_iload_n hO 2 dX8_spare_21 rfl rfl ?_
    refine gj_if_ne (tgt := 29) hO dX8_spare_22 (by decide) (fun h => ?_) (fun h => ?_)
    · replace hf := gj_f h hf
      refine gj_iconst (v := 0) hO dX8_spare_29 (by decide) ?_
      obtain ⟨x2, hc2, hf⟩ := gj_b hf
      refine ca_X7_leastRoomUp hO isY_16 hc2 wk_527 (by decide) (by decide) (Nat.le_of_ble_eq_true rfl) dX8_spare_30 ?_
      obtain rfl := Option.some.inj hf
      exact gj_iret hO dX8_spare_33
    · replace hf := gj_t h hf
      refine gj_iconst (v := 1) hO dX8_spare_25 (by decide) ?_
      refine gj_goto (tgt := 30) hO dX8_spare_26 (by decide) ?_
      obtain ⟨x3, hc3, hf⟩ := gj_b hf
      refine ca_X7_leastRoomUp hO isY_16 hc3 wk_527 (by decide) (by decide) (Nat.le_of_ble_eq_true rfl) dX8_spare_30 ?_
      obtain rfl := Option.some.inj hf
      exact gj_iret hO dX8_spare_33
  · replace hf := gj_t h hf
    refine gj_iconst (v := (-1)) hO dX8_spare_14 (by decide) ?_
    obtain rfl := Option.some.inj hf
    exact gj_iret hO dX8_spare_15
set_option maxHeartbeats 4000000 in
set_option maxRecDepth 100000 in
theorem ca_X8_spare {E : gj_E} {X : gj_X} {own : String} {cc : ByteArray} {nL : Nat} {rt : Option FieldType} {fr lo : Nat} {r : Option gj_V} {τ : gj_S} {pc : Nat} {lv : List (Nat × gj_V)} {st : List gj_V} {σ : gj_S} (hO : gj_O E X own cc nL rt fr lo) {b1 : Int32} {b2 : Int32}  {idx : Nat} {x : Int32} (hf : f_X8_spare b1 b2 σ = some x) (hl : Cond.methodLink own idx yX8_spare ∈ gj_gw) (hf1 : 4 ≤ fr) (hf2 : 92 ≤ lo) (hcat : ((st.map (gj_tv E.2.1)).map fun v => v.category).sum ≤ 8) (hd : decode cc pc = .ok (.invokevirtual idx, 3)) (k : gj_G E X nL r τ (pc + 3) lv ((gj_i x) :: st) σ) : gj_G E X nL r τ pc lv (gj_i b2 :: gj_i b1 :: gj_r 0 :: st) σ :=
  gj_callV hO (o := 0) (vs := [gj_i b1, gj_i b2]) (m_X8_spare  hf) hl wk_528 wk_529 wk_4 wk_530 kl_0 kd_0 (by decide) (ci := 8) rfl (n := 2) (by decide +kernel) rfl hf1 hf2 rfl hcat hd k
def f_X8_toll (b1 : Int32) (b2 : Int32) (σ : gj_S) : Option (Int32 × gj_S) := ((f_X1_hasRoute 17 b1 σ).bind fun x1 => (if x1 = 0 then some ((-1 : Int32), σ) else (if b2 < 0 then some ((-1 : Int32), σ) else (if (999 : Int32) < b2 then some ((-1 : Int32), σ) else (if gj_in b1 24 then (if b2 = (σ.1 21 (Int32.toNatClampNeg b1)) then some ((-1 : Int32), σ) else ((f_X0_remember σ).bind fun x3 => (if gj_in b1 24 then (if gj_in b1 24 then ((f_X7_regrow 16 (gj_sI x3 21 (upd (x3.1 21) (Int32.toNatClampNeg b1) b2))).bind fun x6 => some ((x3.1 21 (Int32.toNatClampNeg b1)), x6)) else none) else none))) else none)))))
set_option maxHeartbeats 4000000 in
set_option maxRecDepth 100000 in
theorem m_X8_toll {E : gj_E} {σ : gj_S} {b1 : Int32} {b2 : Int32}  {x : (Int32 × gj_S)} (hf : f_X8_toll b1 b2 σ = some x) : gj_M E yX8_toll cX8_toll 5 (some .int) 4 162 [gj_r 0, gj_i b1, gj_i b2] σ (some (gj_i x.1)) x.2 := by
  refine gj_body (lv := [(0, gj_r 0), (1, gj_i b1), (2, gj_i b2)]) (by decide +kernel) (Nat.le_of_ble_eq_true rfl) rfl (fun X hO => ?_)
  replace hO : gj_O E X RX8 cX8_toll 5 (some .int) 4 162 := hO
  unfold f_X8_toll at hf
  refine gj_aload_n hO 0 dX8_toll_0 rfl rfl ?_
  refine gt_X8_4 hO wk_185 dX8_toll_1 ?_
  refine gt_X7_0 hO kd_16 kl_16 wk_186 dX8_toll_4 ?_
  refine gj_astore_n (lv2 := [(3, gj_r 17), (0, gj_r 0), (1, gj_i b1), (2, gj_i b2)]) hO dX8_toll_7 rfl (by decide) rfl ?_
  refine gj_aload_n hO 0 dX8_toll_8 rfl rfl ?_
  refine gj_iload_n hO 2 dX8_toll_9 rfl rfl ?_
  obtain ⟨x1, hc1, hf⟩ := gj_b hf
  refine ca_X1_hasRoute hO isP_17 hc1 wk_482 (by decide) (by decide) (Nat.le_of_ble_eq_true rfl) dX8_toll_10 ?_
  refine gj_if_eq (tgt := 37) hO dX8_toll_13 (by decide) (fun h => ?_) (fun h => ?_)
  · replace hf := gj_t h hf
    refine gj_iconst (v := (-1)) hO dX8_toll_37 (by decide) ?_
    obtain rfl := Option.some.inj hf
    exact gj_iret hO dX8_toll_38
  · replace hf := gj_f h hf
    refine gj_iload_n hO 3 dX8_toll_16 rfl rfl ?_
    refine gj_if_lt (tgt := 37) hO dX8_toll_17 (by decide) (fun h => ?_) (fun h => ?_)
    · replace hf := gj_t h hf
      refine gj_iconst (v := (-1)) hO dX8_toll_37 (by decide) ?_
      obtain rfl := Option.some.inj hf
      exact gj_iret hO dX8_toll_38
    · replace hf := gj_f h hf
      refine gj_iload_n hO 3 dX8_toll_20 rfl rfl ?_
      refine gj_sipush (v := 999) hO dX8_toll_21 (by decide) ?_
      refine gj_icmp_gt (tgt := 37) hO dX8_toll_24 (by decide) (fun h => ?_) (fun h => ?_)
      · replace hf := gj_t h hf
        refine gj_iconst (v := (-1)) hO dX8_toll_37 (by decide) ?_
        obtain rfl := Option.some.inj hf
        exact gj_iret hO dX8_toll_38
      · replace hf := gj_f h hf
        refine gj_iload_n hO 3 dX8_toll_27 rfl rfl ?_
        refine gj_aload_n hO 0 dX8_toll_28 rfl rfl ?_
        refine gt_X1_8 hO kd_17 kl_17 wk_500 dX8_toll_29 ?_
        refine gj_iload_n hO 2 dX8_toll_32 rfl rfl ?_
        obtain ⟨hb2, hf⟩ := gj_c hf
        refine gj_iald hO kl_21 kd_21 hb2 dX8_toll_33 ?_
        refine gj_icmp_ne (tgt := 39) hO dX8_toll_34 (by decide) (fun h => ?_) (fun h => ?_)
        · replace hf := gj_f h hf
          refine gj_aload_n hO 1 dX8_toll_39 rfl rfl ?_
          refine gt_X8_6 hO wk_193 dX8_toll_40 ?_
          refine gj_aload_n hO 0 dX8_toll_43 rfl rfl ?_
          obtain ⟨x3, hc3, hf⟩ := gj_b hf
          refine ca_X0_remember hO  hc3 wk_358 (by decide) (by decide) (Nat.le_of_ble_eq_true rfl) dX8_toll_44 ?_
          refine gj_aload_n hO 0 dX8_toll_47 rfl rfl ?_
          refine gt_X1_8 hO kd_17 kl_17 wk_500 dX8_toll_48 ?_
          refine gj_iload_n hO 2 dX8_toll_51 rfl rfl ?_
          obtain ⟨hb4, hf⟩ := gj_c hf
          refine gj_iald hO kl_21 kd_21 hb4 dX8_toll_52 ?_
          refine gj_istore (lv2 := [(4, gj_i (x3.1 21 (Int32.toNatClampNeg b1))), (3, gj_r 17), (0, gj_r 0), (1, gj_i b1), (2, gj_i b2)]) hO dX8_toll_53 (by decide) rfl ?_
          refine gj_aload_n hO 1 dX8_toll_55 rfl rfl ?_
          refine gt_X1_8 hO kd_17 kl_17 wk_500 dX8_toll_56 ?_
          refine gj_iload_n hO 3 dX8_toll_59 rfl rfl ?_
          refine gj_iload_n hO 4 dX8_toll_60 rfl rfl ?_
          obtain ⟨hb5, hf⟩ := gj_c hf
          refine gj_iast hO kl_21 kd_21 hb5 dX8_toll_61 ?_
          refine gj_aload_n hO 2 dX8_toll_62 rfl rfl ?_
          refine gt_X8_4 hO wk_185 dX8_toll_63 ?_
          obtain ⟨x6, hc6, hf⟩ := gj_b hf
          refine ca_X7_regrow hO isY_16 hc6 wk_531 (by decide) (by decide) (Nat.le_of_ble_eq_true rfl) dX8_toll_66 ?_
          refine gj_iload hO 0 dX8_toll_69 rfl ?_
          obtain rfl := Option.some.inj hf
          exact gj_iret hO dX8_toll_71
        · replace hf := gj_t h hf
          refine gj_iconst (v := (-1)) hO dX8_toll_37 (by decide) ?_
          obtain rfl := Option.some.inj hf
          exact gj_iret hO dX8_toll_38
set_option maxHeartbeats 4000000 in
set_option maxRecDepth 100000 in
theorem ca_X8_toll {E : gj_E} {X : gj_X} {own : String} {cc : ByteArray} {nL : Nat} {rt : Option FieldType} {fr lo : Nat} {r : Option gj_V} {τ : gj_S} {pc : Nat} {lv : List (Nat × gj_V)} {st : List gj_V} {σ : gj_S} (hO : gj_O E X own cc nL rt fr lo) {b1 : Int32} {b2 : Int32}  {idx : Nat} {x : (Int32 × gj_S)} (hf : f_X8_toll b1 b2 σ = some x) (hl : Cond.methodLink own idx yX8_toll ∈ gj_gw) (hf1 : 5 ≤ fr) (hf2 : 186 ≤ lo) (hcat : ((st.map (gj_tv E.2.1)).map fun v => v.category).sum ≤ 8) (hd : decode cc pc = .ok (.invokevirtual idx, 3)) (k : gj_G E X nL r τ (pc + 3) lv ((gj_i x.1) :: st) x.2) : gj_G E X nL r τ pc lv (gj_i b2 :: gj_i b1 :: gj_r 0 :: st) σ :=
  gj_callV hO (o := 0) (vs := [gj_i b1, gj_i b2]) (m_X8_toll  hf) hl wk_532 wk_533 wk_4 wk_534 kl_0 kd_0 (by decide) (ci := 8) rfl (n := 2) (by decide +kernel) rfl hf1 hf2 rfl hcat hd k
def f_X8_hold (b1 : Int32) (b2 : Int32) (σ : gj_S) : Option (Int32 × gj_S) := ((f_X1_hasRoute 17 b1 σ).bind fun x1 => (if x1 = 0 then some ((-1 : Int32), σ) else (if b2 < (1 : Int32) then some ((-1 : Int32), σ) else (if (999 : Int32) < b2 then some ((-1 : Int32), σ) else (if gj_in b1 24 then (if b2 = (σ.1 22 (Int32.toNatClampNeg b1)) then some ((-1 : Int32), σ) else (if gj_in b1 24 then (if (σ.1 24 (Int32.toNatClampNeg b1)) = (2 : Int32) then some ((-2 : Int32), σ) else (if gj_in b1 24 then (if (σ.1 23 (Int32.toNatClampNeg b1)) ≤ b2 then ((f_X0_remember σ).bind fun x5 => (if gj_in b1 24 then (if gj_in b1 24 then some ((x5.1 22 (Int32.toNatClampNeg b1)), (gj_sI x5 22 (upd (x5.1 22) (Int32.toNatClampNeg b1) b2))) else none) else none)) else some ((-2 : Int32), σ)) else none)) else none)) else none)))))
set_option maxHeartbeats 4000000 in
set_option maxRecDepth 100000 in
theorem m_X8_hold {E : gj_E} {σ : gj_S} {b1 : Int32} {b2 : Int32}  {x : (Int32 × gj_S)} (hf : f_X8_hold b1 b2 σ = some x) : gj_M E yX8_hold cX8_hold 5 (some .int) 3 162 [gj_r 0, gj_i b1, gj_i b2] σ (some (gj_i x.1)) x.2 := by
  refine gj_body (lv := [(0, gj_r 0), (1, gj_i b1), (2, gj_i b2)]) (by decide +kernel) (Nat.le_of_ble_eq_true rfl) rfl (fun X hO => ?_)
  replace hO : gj_O E X RX8 cX8_hold 5 (some .int) 3 162 := hO
  unfold f_X8_hold at hf
  refine gj_aload_n hO 0 dX8_hold_0 rfl rfl ?_
  refine gt_X8_4 hO wk_185 dX8_hold_1 ?_
  refine gt_X7_0 hO kd_16 kl_16 wk_186 dX8_hold_4 ?_
  refine gj_astore_n (lv2 := [(3, gj_r 17), (0, gj_r 0), (1, gj_i b1), (2, gj_i b2)]) hO dX8_hold_7 rfl (by decide) rfl ?_
  refine gj_aload_n hO 0 dX8_hold_8 rfl rfl ?_
  refine gj_iload_n hO 2 dX8_hold_9 rfl rfl ?_
  obtain ⟨x1, hc1, hf⟩ := gj_b hf
  refine ca_X1_hasRoute hO isP_17 hc1 wk_482 (by decide) (by decide) (Nat.le_of_ble_eq_true rfl) dX8_hold_10 ?_
  refine gj_if_eq (tgt := 38) hO dX8_hold_13 (by decide) (fun h => ?_) (fun h => ?_)
  · replace hf := gj_t h hf
    refine gj_iconst (v := (-1)) hO dX8_hold_38 (by decide) ?_
    obtain rfl := Option.some.inj hf
    exact gj_iret hO dX8_hold_39
  · replace hf := gj_f h hf
    refine gj_iload_n hO 3 dX8_hold_16 rfl rfl ?_
    refine gj_iconst (v := 1) hO dX8_hold_17 (by decide) ?_
    refine gj_icmp_lt (tgt := 38) hO dX8_hold_18 (by decide) (fun h => ?_) (fun h => ?_)
    · replace hf := gj_t h hf
      refine gj_iconst (v := (-1)) hO dX8_hold_38 (by decide) ?_
      obtain rfl := Option.some.inj hf
      exact gj_iret hO dX8_hold_39
    · replace hf := gj_f h hf
      refine gj_iload_n hO 3 dX8_hold_21 rfl rfl ?_
      refine gj_sipush (v := 999) hO dX8_hold_22 (by decide) ?_
      refine gj_icmp_gt (tgt := 38) hO dX8_hold_25 (by decide) (fun h => ?_) (fun h => ?_)
      · replace hf := gj_t h hf
        refine gj_iconst (v := (-1)) hO dX8_hold_38 (by decide) ?_
        obtain rfl := Option.some.inj hf
        exact gj_iret hO dX8_hold_39
      · replace hf := gj_f h hf
        refine gj_iload_n hO 3 dX8_hold_28 rfl rfl ?_
        refine gj_aload_n hO 0 dX8_hold_29 rfl rfl ?_
        refine gt_X1_9 hO kd_17 kl_17 wk_499 dX8_hold_30 ?_
        refine gj_iload_n hO 2 dX8_hold_33 rfl rfl ?_
        obtain ⟨hb2, hf⟩ := gj_c hf
        refine gj_iald hO kl_22 kd_22 hb2 dX8_hold_34 ?_
        refine gj_icmp_ne (tgt := 40) hO dX8_hold_35 (by decide) (fun h => ?_) (fun h => ?_)
        · replace hf := gj_f h hf
          refine gj_aload_n hO 0 dX8_hold_40 rfl rfl ?_
          refine gt_X1_11 hO kd_17 kl_17 wk_284 dX8_hold_41 ?_
          refine gj_iload_n hO 2 dX8_hold_44 rfl rfl ?_
          obtain ⟨hb3, hf⟩ := gj_c hf
          refine gj_iald hO kl_24 kd_24 hb3 dX8_hold_45 ?_
          refine gj_iconst (v := 2) hO dX8_hold_46 (by decide) ?_
          refine gj_icmp_eq (tgt := 60) hO dX8_hold_47 (by decide) (fun h => ?_) (fun h => ?_)
          · replace hf := gj_t h hf
            refine gj_bipush (v := (-2)) hO dX8_hold_60 (by decide) ?_
            obtain rfl := Option.some.inj hf
            exact gj_iret hO dX8_hold_62
          · replace hf := gj_f h hf
            refine gj_aload_n hO 0 dX8_hold_50 rfl rfl ?_
            refine gt_X1_10 hO kd_17 kl_17 wk_535 dX8_hold_51 ?_
            refine gj_iload_n hO 2 dX8_hold_54 rfl rfl ?_
            obtain ⟨hb4, hf⟩ := gj_c hf
            refine gj_iald hO kl_23 kd_23 hb4 dX8_hold_55 ?_
            refine gj_iload_n hO 3 dX8_hold_56 rfl rfl ?_
            refine gj_icmp_le (tgt := 63) hO dX8_hold_57 (by decide) (fun h => ?_) (fun h => ?_)
            · replace hf := gj_t h hf
              refine gj_aload_n hO 1 dX8_hold_63 rfl rfl ?_
              refine gt_X8_6 hO wk_193 dX8_hold_64 ?_
              refine gj_aload_n hO 0 dX8_hold_67 rfl rfl ?_
              obtain ⟨x5, hc5, hf⟩ := gj_b hf
              refine ca_X0_remember hO  hc5 wk_358 (by decide) (by decide) (Nat.le_of_ble_eq_true rfl) dX8_hold_68 ?_
              refine gj_aload_n hO 0 dX8_hold_71 rfl rfl ?_
              refine gt_X1_9 hO kd_17 kl_17 wk_499 dX8_hold_72 ?_
              refine gj_iload_n hO 2 dX8_hold_75 rfl rfl ?_
              obtain ⟨hb6, hf⟩ := gj_c hf
              refine gj_iald hO kl_22 kd_22 hb6 dX8_hold_76 ?_
              refine gj_istore (lv2 := [(4, gj_i (x5.1 22 (Int32.toNatClampNeg b1))), (3, gj_r 17), (0, gj_r 0), (1, gj_i b1), (2, gj_i b2)]) hO dX8_hold_77 (by decide) rfl ?_
              refine gj_aload_n hO 1 dX8_hold_79 rfl rfl ?_
              refine gt_X1_9 hO kd_17 kl_17 wk_499 dX8_hold_80 ?_
              refine gj_iload_n hO 3 dX8_hold_83 rfl rfl ?_
              refine gj_iload_n hO 4 dX8_hold_84 rfl rfl ?_
              obtain ⟨hb7, hf⟩ := gj_c hf
              refine gj_iast hO kl_22 kd_22 hb7 dX8_hold_85 ?_
              refine gj_iload hO 0 dX8_hold_86 rfl ?_
              obtain rfl := Option.some.inj hf
              exact gj_iret hO dX8_hold_88
            · replace hf := gj_f h hf
              refine gj_bipush (v := (-2)) hO dX8_hold_60 (by decide) ?_
              obtain rfl := Option.some.inj hf
              exact gj_iret hO dX8_hold_62
        · replace hf := gj_t h hf
          refine gj_iconst (v := (-1)) hO dX8_hold_38 (by decide) ?_
          obtain rfl := Option.some.inj hf
          exact gj_iret hO dX8_hold_39
set_option maxHeartbeats 4000000 in
set_option maxRecDepth 100000 in
theorem ca_X8_hold {E : gj_E} {X : gj_X} {own : String} {cc : ByteArray} {nL : Nat} {rt : Option FieldType} {fr lo : Nat} {r : Option gj_V} {τ : gj_S} {pc : Nat} {lv : List (Nat × gj_V)} {st : List gj_V} {σ : gj_S} (hO : gj_O E X own cc nL rt fr lo) {b1 : Int32} {b2 : Int32}  {idx : Nat} {x : (Int32 × gj_S)} (hf : f_X8_hold b1 b2 σ = some x) (hl : Cond.methodLink own idx yX8_hold ∈ gj_gw) (hf1 : 4 ≤ fr) (hf2 : 186 ≤ lo) (hcat : ((st.map (gj_tv E.2.1)).map fun v => v.category).sum ≤ 8) (hd : decode cc pc = .ok (.invokevirtual idx, 3)) (k : gj_G E X nL r τ (pc + 3) lv ((gj_i x.1) :: st) x.2) : gj_G E X nL r τ pc lv (gj_i b2 :: gj_i b1 :: gj_r 0 :: st) σ :=
  gj_callV hO (o := 0) (vs := [gj_i b1, gj_i b2]) (m_X8_hold  hf) hl wk_536 wk_537 wk_4 wk_538 kl_0 kd_0 (by decide) (ci := 8) rfl (n := 2) (by decide +kernel) rfl hf1 hf2 rfl hcat hd k
def f_X8_block (b1 : Int32) (σ : gj_S) : Option (Int32 × gj_S) := (if b1 < (1 : Int32) then some ((-1 : Int32), σ) else (if (24 : Int32) < b1 then some ((-1 : Int32), σ) else (if b1 = (σ.1 17 2) then some ((-1 : Int32), σ) else ((f_X0_remember σ).bind fun x1 => some ((x1.1 17 2), (gj_sI x1 17 (upd (x1.1 17) 2 b1)))))))
set_option maxHeartbeats 4000000 in
set_option maxRecDepth 100000 in
theorem m_X8_block {E : gj_E} {σ : gj_S} {b1 : Int32}  {x : (Int32 × gj_S)} (hf : f_X8_block b1 σ = some x) : gj_M E yX8_block cX8_block 4 (some .int) 3 162 [gj_r 0, gj_i b1] σ (some (gj_i x.1)) x.2 := by
  refine gj_body (lv := [(0, gj_r 0), (1, gj_i b1)]) (by decide +kernel) (Nat.le_of_ble_eq_true rfl) rfl (fun X hO => ?_)
  replace hO : gj_O E X RX8 cX8_block 4 (some .int) 3 162 := hO
  unfold f_X8_block at hf
  refine gj_aload_n hO 0 dX8_block_0 rfl rfl ?_
  refine gt_X8_4 hO wk_185 dX8_block_1 ?_
  refine gt_X7_0 hO kd_16 kl_16 wk_186 dX8_block_4 ?_
  refine gj_astore_n (lv2 := [(2, gj_r 17), (0, gj_r 0), (1, gj_i b1)]) hO dX8_block_7 rfl (by decide) rfl ?_
  refine gj_iload_n hO 2 dX8_block_8 rfl rfl ?_
  refine gj_iconst (v := 1) hO dX8_block_9 (by decide) ?_
  refine gj_icmp_lt (tgt := 27) hO dX8_block_10 (by decide) (fun h => ?_) (fun h => ?_)
  · replace hf := gj_t h hf
    refine gj_iconst (v := (-1)) hO dX8_block_27 (by decide) ?_
    obtain rfl := Option.some.inj hf
    exact gj_iret hO dX8_block_28
  · replace hf := gj_f h hf
    refine gj_iload_n hO 2 dX8_block_13 rfl rfl ?_
    refine gj_bipush (v := 24) hO dX8_block_14 (by decide) ?_
    refine gj_icmp_gt (tgt := 27) hO dX8_block_16 (by decide) (fun h => ?_) (fun h => ?_)
    · replace hf := gj_t h hf
      refine gj_iconst (v := (-1)) hO dX8_block_27 (by decide) ?_
      obtain rfl := Option.some.inj hf
      exact gj_iret hO dX8_block_28
    · replace hf := gj_f h hf
      refine gj_iload_n hO 2 dX8_block_19 rfl rfl ?_
      refine gj_aload_n hO 0 dX8_block_20 rfl rfl ?_
      refine gt_X1_2 hO kd_17 kl_17 wk_539 dX8_block_21 ?_
      refine gj_icmp_ne (tgt := 29) hO dX8_block_24 (by decide) (fun h => ?_) (fun h => ?_)
      · replace hf := gj_f h hf
        refine gj_aload_n hO 1 dX8_block_29 rfl rfl ?_
        refine gt_X8_6 hO wk_193 dX8_block_30 ?_
        refine gj_aload_n hO 0 dX8_block_33 rfl rfl ?_
        obtain ⟨x1, hc1, hf⟩ := gj_b hf
        refine ca_X0_remember hO  hc1 wk_358 (by decide) (by decide) (Nat.le_of_ble_eq_true rfl) dX8_block_34 ?_
        refine gj_aload_n hO 0 dX8_block_37 rfl rfl ?_
        refine gt_X1_2 hO kd_17 kl_17 wk_539 dX8_block_38 ?_
        refine gj_istore_n (lv2 := [(3, gj_i (x1.1 17 2)), (2, gj_r 17), (0, gj_r 0), (1, gj_i b1)]) hO dX8_block_41 rfl (by decide) rfl ?_
        refine gj_aload_n hO 1 dX8_block_42 rfl rfl ?_
        refine gj_iload_n hO 3 dX8_block_43 rfl rfl ?_
        refine pt_X1_2 hO kd_17 kl_17 wk_539 dX8_block_44 ?_
        refine gj_iload_n hO 0 dX8_block_47 rfl rfl ?_
        obtain rfl := Option.some.inj hf
        exact gj_iret hO dX8_block_48
      · replace hf := gj_t h hf
        refine gj_iconst (v := (-1)) hO dX8_block_27 (by decide) ?_
        obtain rfl := Option.some.inj hf
        exact gj_iret hO dX8_block_28
set_option maxHeartbeats 4000000 in
set_option maxRecDepth 100000 in
theorem ca_X8_block {E : gj_E} {X : gj_X} {own : String} {cc : ByteArray} {nL : Nat} {rt : Option FieldType} {fr lo : Nat} {r : Option gj_V} {τ : gj_S} {pc : Nat} {lv : List (Nat × gj_V)} {st : List gj_V} {σ : gj_S} (hO : gj_O E X own cc nL rt fr lo) {b1 : Int32}  {idx : Nat} {x : (Int32 × gj_S)} (hf : f_X8_block b1 σ = some x) (hl : Cond.methodLink own idx yX8_block ∈ gj_gw) (hf1 : 4 ≤ fr) (hf2 : 185 ≤ lo) (hcat : ((st.map (gj_tv E.2.1)).map fun v => v.category).sum ≤ 8) (hd : decode cc pc = .ok (.invokevirtual idx, 3)) (k : gj_G E X nL r τ (pc + 3) lv ((gj_i x.1) :: st) x.2) : gj_G E X nL r τ pc lv (gj_i b1 :: gj_r 0 :: st) σ :=
  gj_callV hO (o := 0) (vs := [gj_i b1]) (m_X8_block  hf) hl wk_540 wk_541 wk_4 wk_542 kl_0 kd_0 (by decide) (ci := 8) rfl (n := 1) (by decide +kernel) rfl hf1 hf2 rfl hcat hd k
def f_X8_anew  (σ : gj_S) : Option (Int32 × gj_S) := ((f_X0_remember σ).bind fun x1 => ((f_X7_beginAll 16 x1).bind fun x2 => some ((x1.1 17 4), x2)))
set_option maxHeartbeats 4000000 in
set_option maxRecDepth 100000 in
theorem m_X8_anew {E : gj_E} {σ : gj_S}   {x : (Int32 × gj_S)} (hf : f_X8_anew  σ = some x) : gj_M E yX8_anew cX8_anew 2 (some .int) 5 162 [gj_r 0] σ (some (gj_i x.1)) x.2 := by
  refine gj_body (lv := [(0, gj_r 0)]) (by decide +kernel) (Nat.le_of_ble_eq_true rfl) rfl (fun X hO => ?_)
  replace hO : gj_O E X RX8 cX8_anew 2 (some .int) 5 162 := hO
  unfold f_X8_anew at hf
  refine gj_aload_n hO 0 dX8_anew_0 rfl rfl ?_
  refine gt_X8_6 hO wk_193 dX8_anew_1 ?_
  refine gj_aload_n hO 0 dX8_anew_4 rfl rfl ?_
  refine gt_X8_4 hO wk_185 dX8_anew_5 ?_
  refine gt_X7_0 hO kd_16 kl_16 wk_186 dX8_anew_8 ?_
  obtain ⟨x1, hc1, hf⟩ := gj_b hf
  refine ca_X0_remember hO  hc1 wk_358 (by decide) (by decide) (Nat.le_of_ble_eq_true rfl) dX8_anew_11 ?_
  refine gj_aload_n hO 0 dX8_anew_14 rfl rfl ?_
  refine gt_X8_4 hO wk_185 dX8_anew_15 ?_
  refine gt_X7_0 hO kd_16 kl_16 wk_186 dX8_anew_18 ?_
  refine gt_X1_4 hO kd_17 kl_17 wk_543 dX8_anew_21 ?_
  refine gj_istore_n (lv2 := [(1, gj_i (x1.1 17 4)), (0, gj_r 0)]) hO dX8_anew_24 rfl (by decide) rfl ?_
  refine gj_aload_n hO 1 dX8_anew_25 rfl rfl ?_
  refine gt_X8_4 hO wk_185 dX8_anew_26 ?_
  obtain ⟨x2, hc2, hf⟩ := gj_b hf
  refine ca_X7_beginAll hO isY_16 hc2 wk_192 (by decide) (by decide) (Nat.le_of_ble_eq_true rfl) dX8_anew_29 ?_
  refine gj_iload_n hO 0 dX8_anew_32 rfl rfl ?_
  obtain rfl := Option.some.inj hf
  exact gj_iret hO dX8_anew_33
set_option maxHeartbeats 4000000 in
set_option maxRecDepth 100000 in
theorem ca_X8_anew {E : gj_E} {X : gj_X} {own : String} {cc : ByteArray} {nL : Nat} {rt : Option FieldType} {fr lo : Nat} {r : Option gj_V} {τ : gj_S} {pc : Nat} {lv : List (Nat × gj_V)} {st : List gj_V} {σ : gj_S} (hO : gj_O E X own cc nL rt fr lo)   {idx : Nat} {x : (Int32 × gj_S)} (hf : f_X8_anew  σ = some x) (hl : Cond.methodLink own idx yX8_anew ∈ gj_gw) (hf1 : 6 ≤ fr) (hf2 : 183 ≤ lo) (hcat : ((st.map (gj_tv E.2.1)).map fun v => v.category).sum ≤ 8) (hd : decode cc pc = .ok (.invokevirtual idx, 3)) (k : gj_G E X nL r τ (pc + 3) lv ((gj_i x.1) :: st) x.2) : gj_G E X nL r τ pc lv (gj_r 0 :: st) σ :=
  gj_callV hO (o := 0) (vs := []) (m_X8_anew  hf) hl wk_544 wk_545 wk_4 wk_546 kl_0 kd_0 (by decide) (ci := 8) rfl (n := 0) (by decide +kernel) rfl hf1 hf2 rfl hcat hd k
def f_X4_put (b1 : Int32) (σ : gj_S) : Option gj_S := (if (192 : Int32) ≤ (σ.1 168 1) then some σ else (if gj_in (σ.1 168 1) 192 then ((some (gj_sI (gj_sI σ 169 (upd (σ.1 169) (Int32.toNatClampNeg (σ.1 168 1)) (vp_nar .byte (Int8.toInt32 (Int32.toInt8 b1))))) 168 (upd ((gj_sI σ 169 (upd (σ.1 169) (Int32.toNatClampNeg (σ.1 168 1)) (vp_nar .byte (Int8.toInt32 (Int32.toInt8 b1))))).1 168) 1 (((gj_sI σ 169 (upd (σ.1 169) (Int32.toNatClampNeg (σ.1 168 1)) (vp_nar .byte (Int8.toInt32 (Int32.toInt8 b1))))).1 168 1) + (1 : Int32))))).bind fun s2 => some s2) else none))
set_option maxHeartbeats 4000000 in
set_option maxRecDepth 100000 in
theorem m_X4_put {E : gj_E} {σ : gj_S} {b1 : Int32}  {x : gj_S} (hf : f_X4_put b1 σ = some x) : gj_M E yX4_put cX4_put 2 none 0 0 [gj_r 168, gj_i b1] σ none x := by
  refine gj_body (lv := [(0, gj_r 168), (1, gj_i b1)]) (by decide +kernel) (Nat.le_of_ble_eq_true rfl) rfl (fun X hO => ?_)
  replace hO : gj_O E X RX4 cX4_put 2 none 0 0 := hO
  unfold f_X4_put at hf
  refine gj_aload_n hO 0 dX4_put_0 rfl rfl ?_
  refine gt_X4_1 hO wk_547 dX4_put_1 ?_
  refine gj_sipush (v := 192) hO dX4_put_4 (by decide) ?_
  refine gj_icmp_ge (tgt := 31) hO dX4_put_7 (by decide) (fun h => ?_) (fun h => ?_)
  · replace hf := gj_t h hf
    obtain rfl := Option.some.inj hf
    exact gj_vret hO dX4_put_31
  · replace hf := gj_f h hf
    refine gj_aload_n hO 0 dX4_put_10 rfl rfl ?_
    refine gt_X4_0 hO wk_548 dX4_put_11 ?_
    refine gj_aload_n hO 0 dX4_put_14 rfl rfl ?_
    refine gt_X4_1 hO wk_547 dX4_put_15 ?_
    refine gj_iload_n hO 1 dX4_put_18 rfl rfl ?_
    refine gj_i2b hO dX4_put_19 ?_
    obtain ⟨hb1, hf⟩ := gj_c hf
    refine gj_bast hO kl_169 kd_169 hb1 dX4_put_20 ?_
    refine gj_aload_n hO 0 dX4_put_21 rfl rfl ?_
    refine gj_dup hO dX4_put_22 trivial ?_
    refine gt_X4_1 hO wk_547 dX4_put_23 ?_
    refine gj_iconst (v := 1) hO dX4_put_26 (by decide) ?_
    refine gj_iadd hO dX4_put_27 ?_
    refine pt_X4_1 hO wk_547 dX4_put_28 ?_
    obtain ⟨s2, e2, hf⟩ := gj_b hf
    refine gj_eqS (Option.some.inj e2) ?_
    obtain rfl := Option.some.inj hf
    exact gj_vret hO dX4_put_31
set_option maxHeartbeats 4000000 in
set_option maxRecDepth 100000 in
theorem ca_X4_put {E : gj_E} {X : gj_X} {own : String} {cc : ByteArray} {nL : Nat} {rt : Option FieldType} {fr lo : Nat} {r : Option gj_V} {τ : gj_S} {pc : Nat} {lv : List (Nat × gj_V)} {st : List gj_V} {σ : gj_S} (hO : gj_O E X own cc nL rt fr lo) {b1 : Int32}  {idx : Nat} {x : gj_S} (hf : f_X4_put b1 σ = some x) (hl : Cond.methodLink own idx yX4_put ∈ gj_gw) (hf1 : 1 ≤ fr) (hf2 : 21 ≤ lo) (hcat : ((st.map (gj_tv E.2.1)).map fun v => v.category).sum ≤ 8) (hd : decode cc pc = .ok (.invokevirtual idx, 3)) (k : gj_G E X nL r τ (pc + 3) lv (st) x) : gj_G E X nL r τ pc lv (gj_i b1 :: gj_r 168 :: st) σ :=
  gj_callV hO (o := 168) (vs := [gj_i b1]) (m_X4_put  hf) hl wk_549 wk_550 wk_551 wk_552 kl_168 kd_168 (by decide) (ci := 4) rfl (n := 1) (by decide +kernel) rfl hf1 hf2 rfl hcat hd k
def fb_X4_writeName_l3 (b1 : Int64) (a1 : (Int32 × gj_S)) : Option (gj_S ⊕ (Int32 × gj_S)) := (if a1.1 < 0 then some (.inl a1.2) else (if ((Int64.toInt32 (b1 >>> (Int32.toInt64 a1.1 &&& 63))) &&& (255 : Int32)) = 0 then some (.inr ((a1.1 + (-8)), a1.2)) else ((f_X4_put ((Int64.toInt32 (b1 >>> (Int32.toInt64 a1.1 &&& 63))) &&& (255 : Int32)) a1.2).bind fun x3 => some (.inr ((a1.1 + (-8)), x3)))))
def f_X4_writeName (b1 : Int64) (σ : gj_S) : Option gj_S := ((gj_lp (fb_X4_writeName_l3 b1) 5000 ((40 : Int32), σ)).bind fun z1 => some z1)
set_option maxHeartbeats 4000000 in
set_option maxRecDepth 100000 in
theorem sb_X4_writeName_l3 {E : gj_E} {X : gj_X} {r : Option gj_V} {τ : gj_S} (hO : gj_O E X RX4 cX4_writeName 5 none 1 21) {b1 : Int64} {a1 : (Int32 × gj_S)} {x : gj_S ⊕ (Int32 × gj_S)} (hf : fb_X4_writeName_l3 b1 a1 = some x) (K : gj_K (fun z1 => gj_G E X 5 r τ 34 [] [] z1) (fun a1 => gj_G E X 5 r τ 3 [(0, gj_r 168), (1, gj_l b1), (3, gj_i a1.1)] [] a1.2) x) : gj_G E X 5 r τ 3 [(0, gj_r 168), (1, gj_l b1), (3, gj_i a1.1)] [] a1.2 := by
  unfold fb_X4_writeName_l3 at hf
  refine gj_iload_n hO 2 dX4_writeName_3 rfl rfl ?_
  refine gj_if_lt (tgt := 34) hO dX4_writeName_4 (by decide) (fun h => ?_) (fun h => ?_)
  · replace hf := gj_t h hf
    obtain rfl := Option.some.inj hf
    refine gj_sub [] rfl ?_
    exact K
  · replace hf := gj_f h hf
    refine gj_lload_n hO 1 dX4_writeName_7 rfl rfl ?_
    refine gj_iload_n hO 2 dX4_writeName_8 rfl rfl ?_
    refine gj_lshr hO dX4_writeName_9 ?_
    refine gj_l2i hO dX4_writeName_10 ?_
    refine gj_sipush (v := 255) hO dX4_writeName_11 (by decide) ?_
    refine gj_iand hO dX4_writeName_14 ?_
    refine gj_istore (lv2 := [(4, gj_i ((Int64.toInt32 (b1 >>> (Int32.toInt64 a1.1 &&& 63))) &&& (255 : Int32))), (0, gj_r 168), (1, gj_l b1), (3, gj_i a1.1)]) hO dX4_writeName_15 (by decide) rfl ?_
    refine gj_iload hO 0 dX4_writeName_17 rfl ?_
    refine gj_if_eq (tgt := 28) hO dX4_writeName_19 (by decide) (fun h => ?_) (fun h => ?_)
    · replace hf := gj_t h hf
      refine gj_iinc (v := (a1.1 + (-8))) (lv2 := [(3, gj_i (a1.1 + (-8))), (4, gj_i ((Int64.toInt32 (b1 >>> (Int32.toInt64 a1.1 &&& 63))) &&& (255 : Int32))), (0, gj_r 168), (1, gj_l b1)]) hO 3 dX4_writeName_28 rfl rfl (by decide) rfl ?_
      refine gj_goto (tgt := 3) hO dX4_writeName_31 (by decide) ?_
      obtain rfl := Option.some.inj hf
      refine gj_sub [2, 3, 0] rfl ?_
      exact K
    · replace hf := gj_f h hf
      refine gj_aload_n hO 1 dX4_writeName_22 rfl rfl ?_
      refine gj_iload hO 0 dX4_writeName_23 rfl ?_
      obtain ⟨x3, hc3, hf⟩ := gj_b hf
      refine ca_X4_put hO  hc3 wk_553 (by decide) (by decide) (Nat.le_of_ble_eq_true rfl) dX4_writeName_25 ?_
      refine gj_iinc (v := (a1.1 + (-8))) (lv2 := [(3, gj_i (a1.1 + (-8))), (4, gj_i ((Int64.toInt32 (b1 >>> (Int32.toInt64 a1.1 &&& 63))) &&& (255 : Int32))), (0, gj_r 168), (1, gj_l b1)]) hO 3 dX4_writeName_28 rfl rfl (by decide) rfl ?_
      refine gj_goto (tgt := 3) hO dX4_writeName_31 (by decide) ?_
      obtain rfl := Option.some.inj hf
      refine gj_sub [2, 3, 0] rfl ?_
      exact K
set_option maxHeartbeats 4000000 in
set_option maxRecDepth 100000 in
theorem m_X4_writeName {E : gj_E} {σ : gj_S} {b1 : Int64}  {x : gj_S} (hf : f_X4_writeName b1 σ = some x) : gj_M E yX4_writeName cX4_writeName 5 none 1 21 [gj_r 168, gj_l b1] σ none x := by
  refine gj_body (lv := [(0, gj_r 168), (1, gj_l b1)]) (by decide +kernel) (Nat.le_of_ble_eq_true rfl) rfl (fun X hO => ?_)
  replace hO : gj_O E X RX4 cX4_writeName 5 none 1 21 := hO
  unfold f_X4_writeName at hf
  refine gj_bipush (v := 40) hO dX4_writeName_0 (by decide) ?_
  refine gj_istore_n (lv2 := [(3, gj_i (40 : Int32)), (0, gj_r 168), (1, gj_l b1)]) hO dX4_writeName_2 rfl (by decide) rfl ?_
  obtain ⟨z1, hz1, hf⟩ := gj_b hf
  have J1 : gj_G E X 5 none x 34 [] [] z1 := by
    obtain rfl := Option.some.inj hf
    exact gj_vret hO dX4_writeName_34
  refine gj_sub [1, 2, 0] rfl ?_
  exact gj_loop (head := fun a1 => gj_G E X 5 none x 3 [(0, gj_r 168), (1, gj_l b1), (3, gj_i a1.1)] [] a1.2) (exit := fun z1 => gj_G E X 5 none x 34 [] [] z1) (fun a1 x hf K => sb_X4_writeName_l3 hO hf K) _ _ _ hz1 J1
set_option maxHeartbeats 4000000 in
set_option maxRecDepth 100000 in
theorem ca_X4_writeName {E : gj_E} {X : gj_X} {own : String} {cc : ByteArray} {nL : Nat} {rt : Option FieldType} {fr lo : Nat} {r : Option gj_V} {τ : gj_S} {pc : Nat} {lv : List (Nat × gj_V)} {st : List gj_V} {σ : gj_S} (hO : gj_O E X own cc nL rt fr lo) {b1 : Int64}  {idx : Nat} {x : gj_S} (hf : f_X4_writeName b1 σ = some x) (hl : Cond.methodLink own idx yX4_writeName ∈ gj_gw) (hf1 : 2 ≤ fr) (hf2 : 45 ≤ lo) (hcat : ((st.map (gj_tv E.2.1)).map fun v => v.category).sum ≤ 8) (hd : decode cc pc = .ok (.invokevirtual idx, 3)) (k : gj_G E X nL r τ (pc + 3) lv (st) x) : gj_G E X nL r τ pc lv (gj_l b1 :: gj_r 168 :: st) σ :=
  gj_callV hO (o := 168) (vs := [gj_l b1]) (m_X4_writeName  hf) hl wk_554 wk_555 wk_551 wk_556 kl_168 kd_168 (by decide) (ci := 4) rfl (n := 1) (by decide +kernel) rfl hf1 hf2 rfl hcat hd k
def fb_X4_writeNumber_l6 (b1 : Int32) (a1 : (Int32 × Int32 × gj_S)) : Option (gj_S ⊕ (Int32 × Int32 × gj_S)) := (if a1.2.1 < (1 : Int32) then some (.inl a1.2.2) else (if ¬ a1.2.1 = 0 then ((if a1.1 = 0 then (if ((b1 / a1.2.1) - (b1 / a1.2.1) / (10 : Int32) * (10 : Int32)) ≤ 0 then some (0 : Int32) else some (1 : Int32)) else some (1 : Int32) : Option Int32).bind fun z4 => (if z4 = 0 then some (.inr (z4, (a1.2.1 / (10 : Int32)), a1.2.2)) else ((f_X4_put ((48 : Int32) + ((b1 / a1.2.1) - (b1 / a1.2.1) / (10 : Int32) * (10 : Int32))) a1.2.2).bind fun x5 => some (.inr (z4, (a1.2.1 / (10 : Int32)), x5))))) else none))
def f_X4_writeNumber (b1 : Int32) (σ : gj_S) : Option gj_S := ((gj_lp (fb_X4_writeNumber_l6 b1) 5000 ((0 : Int32), (1000 : Int32), σ)).bind fun z1 => some z1)
set_option maxHeartbeats 4000000 in
set_option maxRecDepth 100000 in
theorem sb_X4_writeNumber_l6 {E : gj_E} {X : gj_X} {r : Option gj_V} {τ : gj_S} (hO : gj_O E X RX4 cX4_writeNumber 5 none 1 21) {b1 : Int32} {a1 : (Int32 × Int32 × gj_S)} {x : gj_S ⊕ (Int32 × Int32 × gj_S)} (hf : fb_X4_writeNumber_l6 b1 a1 = some x) (K : gj_K (fun z1 => gj_G E X 5 r τ 55 [] [] z1) (fun a1 => gj_G E X 5 r τ 6 [(0, gj_r 168), (1, gj_i b1), (2, gj_i a1.1), (3, gj_i a1.2.1)] [] a1.2.2) x) : gj_G E X 5 r τ 6 [(0, gj_r 168), (1, gj_i b1), (2, gj_i a1.1), (3, gj_i a1.2.1)] [] a1.2.2 := by
  unfold fb_X4_writeNumber_l6 at hf
  refine gj_iload_n hO 3 dX4_writeNumber_6 rfl rfl ?_
  refine gj_iconst (v := 1) hO dX4_writeNumber_7 (by decide) ?_
  refine gj_icmp_lt (tgt := 55) hO dX4_writeNumber_8 (by decide) (fun h => ?_) (fun h => ?_)
  · replace hf := gj_t h hf
    obtain rfl := Option.some.inj hf
    refine gj_sub [] rfl ?_
    exact K
  · replace hf := gj_f h hf
    refine gj_iload_n hO 1 dX4_writeNumber_11 rfl rfl ?_
    refine gj_iload_n hO 3 dX4_writeNumber_12 rfl rfl ?_
    obtain ⟨hb3, hf⟩ := gj_c hf
    refine gj_idiv hO dX4_writeNumber_13 hb3 ?_
    refine gj_bipush (v := 10) hO dX4_writeNumber_14 (by decide) ?_
    refine gj_irem hO dX4_writeNumber_16 (by decide) ?_
    refine gj_istore (lv2 := [(4, gj_i ((b1 / a1.2.1) - (b1 / a1.2.1) / (10 : Int32) * (10 : Int32))), (0, gj_r 168), (1, gj_i b1), (2, gj_i a1.1), (3, gj_i a1.2.1)]) hO dX4_writeNumber_17 (by decide) rfl ?_
    refine gj_iload_n hO 3 dX4_writeNumber_19 rfl rfl ?_
    obtain ⟨z4, hz4, hf⟩ := gj_b hf
    have J4 : gj_G E X 5 r τ 33 [(0, gj_r 168), (1, gj_i b1), (3, gj_i a1.2.1), (4, gj_i ((b1 / a1.2.1) - (b1 / a1.2.1) / (10 : Int32) * (10 : Int32)))] [gj_i z4] a1.2.2 := by
      refine gj_istore_n (lv2 := [(2, gj_i z4), (0, gj_r 168), (1, gj_i b1), (3, gj_i a1.2.1), (4, gj_i ((b1 / a1.2.1) - (b1 / a1.2.1) / (10 : Int32) * (10 : Int32)))]) hO dX4_writeNumber_33 rfl (by decide) rfl ?_
      refine gj_iload_n hO 0 dX4_writeNumber_34 rfl rfl ?_
      refine gj_if_eq (tgt := 47) hO dX4_writeNumber_35 (by decide) (fun h => ?_) (fun h => ?_)
      · replace hf := gj_t h hf
        refine gj_iload_n hO 3 dX4_writeNumber_47 rfl rfl ?_
        refine gj_bipush (v := 10) hO dX4_writeNumber_48 (by decide) ?_
        refine gj_idiv hO dX4_writeNumber_50 (by decide) ?_
        refine gj_istore_n (lv2 := [(3, gj_i (a1.2.1 / (10 : Int32))), (2, gj_i z4), (0, gj_r 168), (1, gj_i b1), (4, gj_i ((b1 / a1.2.1) - (b1 / a1.2.1) / (10 : Int32) * (10 : Int32)))]) hO dX4_writeNumber_51 rfl (by decide) rfl ?_
        refine gj_goto (tgt := 6) hO dX4_writeNumber_52 (by decide) ?_
        obtain rfl := Option.some.inj hf
        refine gj_sub [2, 3, 1, 0] rfl ?_
        exact K
      · replace hf := gj_f h hf
        refine gj_aload_n hO 1 dX4_writeNumber_38 rfl rfl ?_
        refine gj_bipush (v := 48) hO dX4_writeNumber_39 (by decide) ?_
        refine gj_iload hO 4 dX4_writeNumber_41 rfl ?_
        refine gj_iadd hO dX4_writeNumber_43 ?_
        obtain ⟨x5, hc5, hf⟩ := gj_b hf
        refine ca_X4_put hO  hc5 wk_553 (by decide) (by decide) (Nat.le_of_ble_eq_true rfl) dX4_writeNumber_44 ?_
        refine gj_iload_n hO 3 dX4_writeNumber_47 rfl rfl ?_
        refine gj_bipush (v := 10) hO dX4_writeNumber_48 (by decide) ?_
        refine gj_idiv hO dX4_writeNumber_50 (by decide) ?_
        refine gj_istore_n (lv2 := [(3, gj_i (a1.2.1 / (10 : Int32))), (2, gj_i z4), (0, gj_r 168), (1, gj_i b1), (4, gj_i ((b1 / a1.2.1) - (b1 / a1.2.1) / (10 : Int32) * (10 : Int32)))]) hO dX4_writeNumber_51 rfl (by decide) rfl ?_
        refine gj_goto (tgt := 6) hO dX4_writeNumber_52 (by decide) ?_
        obtain rfl := Option.some.inj hf
        refine gj_sub [2, 3, 1, 0] rfl ?_
        exact K
    refine gj_if_ne (tgt := 28) hO dX4_writeNumber_20 (by decide) (fun h => ?_) (fun h => ?_)
    · replace hz4 := gj_f h hz4
      refine gj_iconst (v := 1) hO dX4_writeNumber_28 (by decide) ?_
      refine gj_goto (tgt := 33) hO dX4_writeNumber_29 (by decide) ?_
      obtain rfl := Option.some.inj hz4
      refine gj_sub [1, 2, 4, 0] rfl ?_
      exact J4
    · replace hz4 := gj_t h hz4
      refine gj_iload hO 0 dX4_writeNumber_23 rfl ?_
      refine gj_if_le (tgt := 32) hO dX4_writeNumber_25 (by decide) (fun h => ?_) (fun h => ?_)
      · replace hz4 := gj_t h hz4
        refine gj_iconst (v := 0) hO dX4_writeNumber_32 (by decide) ?_
        obtain rfl := Option.some.inj hz4
        refine gj_sub [1, 2, 4, 0] rfl ?_
        exact J4
      · replace hz4 := gj_f h hz4
        refine gj_iconst (v := 1) hO dX4_writeNumber_28 (by decide) ?_
        refine gj_goto (tgt := 33) hO dX4_writeNumber_29 (by decide) ?_
        obtain rfl := Option.some.inj hz4
        refine gj_sub [1, 2, 4, 0] rfl ?_
        exact J4
set_option maxHeartbeats 4000000 in
set_option maxRecDepth 100000 in
theorem m_X4_writeNumber {E : gj_E} {σ : gj_S} {b1 : Int32}  {x : gj_S} (hf : f_X4_writeNumber b1 σ = some x) : gj_M E yX4_writeNumber cX4_writeNumber 5 none 1 21 [gj_r 168, gj_i b1] σ none x := by
  refine gj_body (lv := [(0, gj_r 168), (1, gj_i b1)]) (by decide +kernel) (Nat.le_of_ble_eq_true rfl) rfl (fun X hO => ?_)
  replace hO : gj_O E X RX4 cX4_writeNumber 5 none 1 21 := hO
  unfold f_X4_writeNumber at hf
  refine gj_iconst (v := 0) hO dX4_writeNumber_0 (by decide) ?_
  refine gj_istore_n (lv2 := [(2, gj_i (0 : Int32)), (0, gj_r 168), (1, gj_i b1)]) hO dX4_writeNumber_1 rfl (by decide) rfl ?_
  refine gj_sipush (v := 1000) hO dX4_writeNumber_2 (by decide) ?_
  refine gj_istore_n (lv2 := [(3, gj_i (1000 : Int32)), (2, gj_i (0 : Int32)), (0, gj_r 168), (1, gj_i b1)]) hO dX4_writeNumber_5 rfl (by decide) rfl ?_
  obtain ⟨z1, hz1, hf⟩ := gj_b hf
  have J1 : gj_G E X 5 none x 55 [] [] z1 := by
    obtain rfl := Option.some.inj hf
    exact gj_vret hO dX4_writeNumber_55
  refine gj_sub [2, 3, 1, 0] rfl ?_
  exact gj_loop (head := fun a1 => gj_G E X 5 none x 6 [(0, gj_r 168), (1, gj_i b1), (2, gj_i a1.1), (3, gj_i a1.2.1)] [] a1.2.2) (exit := fun z1 => gj_G E X 5 none x 55 [] [] z1) (fun a1 x hf K => sb_X4_writeNumber_l6 hO hf K) _ _ _ hz1 J1
set_option maxHeartbeats 4000000 in
set_option maxRecDepth 100000 in
theorem ca_X4_writeNumber {E : gj_E} {X : gj_X} {own : String} {cc : ByteArray} {nL : Nat} {rt : Option FieldType} {fr lo : Nat} {r : Option gj_V} {τ : gj_S} {pc : Nat} {lv : List (Nat × gj_V)} {st : List gj_V} {σ : gj_S} (hO : gj_O E X own cc nL rt fr lo) {b1 : Int32}  {idx : Nat} {x : gj_S} (hf : f_X4_writeNumber b1 σ = some x) (hl : Cond.methodLink own idx yX4_writeNumber ∈ gj_gw) (hf1 : 2 ≤ fr) (hf2 : 45 ≤ lo) (hcat : ((st.map (gj_tv E.2.1)).map fun v => v.category).sum ≤ 8) (hd : decode cc pc = .ok (.invokevirtual idx, 3)) (k : gj_G E X nL r τ (pc + 3) lv (st) x) : gj_G E X nL r τ pc lv (gj_i b1 :: gj_r 168 :: st) σ :=
  gj_callV hO (o := 168) (vs := [gj_i b1]) (m_X4_writeNumber  hf) hl wk_557 wk_558 wk_551 wk_559 kl_168 kd_168 (by decide) (ci := 4) rfl (n := 1) (by decide +kernel) rfl hf1 hf2 rfl hcat hd k
def fb_X4_write_l7  (a1 : (Int32 × gj_S)) : Option (gj_S ⊕ (Int32 × gj_S)) := (if (a1.2.1 17 1) ≤ a1.1 then some (.inl a1.2) else (if (16 : Int32) ≤ a1.1 then some (.inl a1.2) else (if gj_in a1.1 24 then (if (a1.2.1 23 (Int32.toNatClampNeg a1.1)) ≤ 0 then some (.inr ((a1.1 + 1), a1.2)) else (if gj_in a1.1 16 then ((f_X4_writeName (a1.2.2.1 15 (Int32.toNatClampNeg a1.1)) a1.2).bind fun x5 => ((f_X4_put (32 : Int32) x5).bind fun x6 => (if gj_in a1.1 24 then ((f_X4_writeNumber (x6.1 23 (Int32.toNatClampNeg a1.1)) x6).bind fun x8 => ((f_X4_put (59 : Int32) x8).bind fun x9 => some (.inr ((a1.1 + 1), x9)))) else none))) else none)) else none)))
def f_X4_write  (σ : gj_S) : Option gj_S := ((gj_lp (fb_X4_write_l7) 5000 ((0 : Int32), (gj_sI σ 168 (upd (σ.1 168) 1 (0 : Int32))))).bind fun z1 => some z1)
set_option maxHeartbeats 4000000 in
set_option maxRecDepth 100000 in
theorem sb_X4_write_l7 {E : gj_E} {X : gj_X} {r : Option gj_V} {τ : gj_S} (hO : gj_O E X RX4 cX4_write 4 none 2 45)  {a1 : (Int32 × gj_S)} {x : gj_S ⊕ (Int32 × gj_S)} (hf : fb_X4_write_l7  a1 = some x) (K : gj_K (fun z1 => gj_G E X 4 r τ 65 [] [] z1) (fun a1 => gj_G E X 4 r τ 7 [(0, gj_r 168), (1, gj_r 17), (2, gj_r 15), (3, gj_i a1.1)] [] a1.2) x) : gj_G E X 4 r τ 7 [(0, gj_r 168), (1, gj_r 17), (2, gj_r 15), (3, gj_i a1.1)] [] a1.2 := by
  unfold fb_X4_write_l7 at hf
  refine gj_iload_n hO 3 dX4_write_7 rfl rfl ?_
  refine gj_aload_n hO 1 dX4_write_8 rfl rfl ?_
  refine gt_X1_1 hO kd_17 kl_17 wk_560 dX4_write_9 ?_
  refine gj_icmp_ge (tgt := 65) hO dX4_write_12 (by decide) (fun h => ?_) (fun h => ?_)
  · replace hf := gj_t h hf
    obtain rfl := Option.some.inj hf
    refine gj_sub [] rfl ?_
    exact K
  · replace hf := gj_f h hf
    refine gj_iload_n hO 3 dX4_write_15 rfl rfl ?_
    refine gj_aload_n hO 2 dX4_write_16 rfl rfl ?_
    refine gj_alenJ (v := 16) hO kl_15 kd_15 (by decide) dX4_write_17 ?_
    refine gj_icmp_ge (tgt := 65) hO dX4_write_18 (by decide) (fun h => ?_) (fun h => ?_)
    · replace hf := gj_t h hf
      obtain rfl := Option.some.inj hf
      refine gj_sub [] rfl ?_
      exact K
    · replace hf := gj_f h hf
      refine gj_aload_n hO 1 dX4_write_21 rfl rfl ?_
      refine gt_X1_10 hO kd_17 kl_17 wk_561 dX4_write_22 ?_
      refine gj_iload_n hO 3 dX4_write_25 rfl rfl ?_
      obtain ⟨hb3, hf⟩ := gj_c hf
      refine gj_iald hO kl_23 kd_23 hb3 dX4_write_26 ?_
      refine gj_if_le (tgt := 59) hO dX4_write_27 (by decide) (fun h => ?_) (fun h => ?_)
      · replace hf := gj_t h hf
        refine gj_iinc (v := (a1.1 + 1)) (lv2 := [(3, gj_i (a1.1 + 1)), (0, gj_r 168), (1, gj_r 17), (2, gj_r 15)]) hO 3 dX4_write_59 rfl rfl (by decide) rfl ?_
        refine gj_goto (tgt := 7) hO dX4_write_62 (by decide) ?_
        obtain rfl := Option.some.inj hf
        refine gj_sub [1, 2, 3, 0] rfl ?_
        exact K
      · replace hf := gj_f h hf
        refine gj_aload_n hO 0 dX4_write_30 rfl rfl ?_
        refine gj_aload_n hO 2 dX4_write_31 rfl rfl ?_
        refine gj_iload_n hO 3 dX4_write_32 rfl rfl ?_
        obtain ⟨hb4, hf⟩ := gj_c hf
        refine gj_lald hO kl_15 kd_15 hb4 dX4_write_33 ?_
        obtain ⟨x5, hc5, hf⟩ := gj_b hf
        refine ca_X4_writeName hO  hc5 wk_562 (by decide) (by decide) (Nat.le_of_ble_eq_true rfl) dX4_write_34 ?_
        refine gj_aload_n hO 0 dX4_write_37 rfl rfl ?_
        refine gj_bipush (v := 32) hO dX4_write_38 (by decide) ?_
        obtain ⟨x6, hc6, hf⟩ := gj_b hf
        refine ca_X4_put hO  hc6 wk_553 (by decide) (by decide) (Nat.le_of_ble_eq_true rfl) dX4_write_40 ?_
        refine gj_aload_n hO 0 dX4_write_43 rfl rfl ?_
        refine gj_aload_n hO 1 dX4_write_44 rfl rfl ?_
        refine gt_X1_10 hO kd_17 kl_17 wk_561 dX4_write_45 ?_
        refine gj_iload_n hO 3 dX4_write_48 rfl rfl ?_
        obtain ⟨hb7, hf⟩ := gj_c hf
        refine gj_iald hO kl_23 kd_23 hb7 dX4_write_49 ?_
        obtain ⟨x8, hc8, hf⟩ := gj_b hf
        refine ca_X4_writeNumber hO  hc8 wk_563 (by decide) (by decide) (Nat.le_of_ble_eq_true rfl) dX4_write_50 ?_
        refine gj_aload_n hO 0 dX4_write_53 rfl rfl ?_
        refine gj_bipush (v := 59) hO dX4_write_54 (by decide) ?_
        obtain ⟨x9, hc9, hf⟩ := gj_b hf
        refine ca_X4_put hO  hc9 wk_553 (by decide) (by decide) (Nat.le_of_ble_eq_true rfl) dX4_write_56 ?_
        refine gj_iinc (v := (a1.1 + 1)) (lv2 := [(3, gj_i (a1.1 + 1)), (0, gj_r 168), (1, gj_r 17), (2, gj_r 15)]) hO 3 dX4_write_59 rfl rfl (by decide) rfl ?_
        refine gj_goto (tgt := 7) hO dX4_write_62 (by decide) ?_
        obtain rfl := Option.some.inj hf
        refine gj_sub [1, 2, 3, 0] rfl ?_
        exact K
set_option maxHeartbeats 4000000 in
set_option maxRecDepth 100000 in
theorem m_X4_write {E : gj_E} {σ : gj_S}   {x : gj_S} (hf : f_X4_write  σ = some x) : gj_M E yX4_write cX4_write 4 none 2 45 [gj_r 168, gj_r 17, gj_r 15] σ none x := by
  refine gj_body (lv := [(0, gj_r 168), (1, gj_r 17), (2, gj_r 15)]) (by decide +kernel) (Nat.le_of_ble_eq_true rfl) rfl (fun X hO => ?_)
  replace hO : gj_O E X RX4 cX4_write 4 none 2 45 := hO
  unfold f_X4_write at hf
  refine gj_aload_n hO 0 dX4_write_0 rfl rfl ?_
  refine gj_iconst (v := 0) hO dX4_write_1 (by decide) ?_
  refine pt_X4_1 hO wk_547 dX4_write_2 ?_
  refine gj_iconst (v := 0) hO dX4_write_5 (by decide) ?_
  refine gj_istore_n (lv2 := [(3, gj_i (0 : Int32)), (0, gj_r 168), (1, gj_r 17), (2, gj_r 15)]) hO dX4_write_6 rfl (by decide) rfl ?_
  obtain ⟨z1, hz1, hf⟩ := gj_b hf
  have J1 : gj_G E X 4 none x 65 [] [] z1 := by
    obtain rfl := Option.some.inj hf
    exact gj_vret hO dX4_write_65
  refine gj_sub [1, 2, 3, 0] rfl ?_
  exact gj_loop (head := fun a1 => gj_G E X 4 none x 7 [(0, gj_r 168), (1, gj_r 17), (2, gj_r 15), (3, gj_i a1.1)] [] a1.2) (exit := fun z1 => gj_G E X 4 none x 65 [] [] z1) (fun a1 x hf K => sb_X4_write_l7 hO hf K) _ _ _ hz1 J1
set_option maxHeartbeats 4000000 in
set_option maxRecDepth 100000 in
theorem ca_X4_write {E : gj_E} {X : gj_X} {own : String} {cc : ByteArray} {nL : Nat} {rt : Option FieldType} {fr lo : Nat} {r : Option gj_V} {τ : gj_S} {pc : Nat} {lv : List (Nat × gj_V)} {st : List gj_V} {σ : gj_S} (hO : gj_O E X own cc nL rt fr lo)   {idx : Nat} {x : gj_S} (hf : f_X4_write  σ = some x) (hl : Cond.methodLink own idx yX4_write ∈ gj_gw) (hf1 : 3 ≤ fr) (hf2 : 68 ≤ lo) (hcat : ((st.map (gj_tv E.2.1)).map fun v => v.category).sum ≤ 8) (hd : decode cc pc = .ok (.invokevirtual idx, 3)) (k : gj_G E X nL r τ (pc + 3) lv (st) x) : gj_G E X nL r τ pc lv (gj_r 15 :: gj_r 17 :: gj_r 168 :: st) σ :=
  gj_callV hO (o := 168) (vs := [gj_r 17, gj_r 15]) (m_X4_write  hf) hl wk_564 wk_565 wk_551 wk_566 kl_168 kd_168 (by decide) (ci := 4) rfl (n := 2) (by decide +kernel) rfl hf1 hf2 rfl hcat hd k
