def f_X9_aboveOf (b1 : Int32) (σ : gj_S) : Option Int32 := (if gj_in b1 9 then ((f_X9_beginOf (σ.1 203 (Int32.toNatClampNeg b1)) σ).bind fun x2 => (if x2 = b1 then (if gj_in b1 9 then ((f_X9_endOf (σ.1 203 (Int32.toNatClampNeg b1)) σ).bind fun x6 => some x6) else none) else (if gj_in b1 9 then ((f_X9_beginOf (σ.1 203 (Int32.toNatClampNeg b1)) σ).bind fun x4 => some x4) else none))) else none)
set_option maxHeartbeats 4000000 in
set_option maxRecDepth 100000 in
theorem m_X9_aboveOf {E : gj_E} {σ : gj_S} {b1 : Int32}  {x : Int32} (hf : f_X9_aboveOf b1 σ = some x) : gj_M E yX9_aboveOf cX9_aboveOf 2 (some .int) 1 22 [gj_r 188, gj_i b1] σ (some (gj_i x)) σ := by
  refine gj_body (lv := [(0, gj_r 188), (1, gj_i b1)]) (by decide +kernel) (Nat.le_of_ble_eq_true rfl) rfl (fun X hO => ?_)
  replace hO : gj_O E X RX9 cX9_aboveOf 2 (some .int) 1 22 := hO
  unfold f_X9_aboveOf at hf
  refine gj_aload_n hO 0 dX9_aboveOf_0 rfl rfl ?_
  refine gj_aload_n hO 0 dX9_aboveOf_1 rfl rfl ?_
  refine gt_X9_27 hO wk_762 dX9_aboveOf_2 ?_
  refine gj_iload_n hO 1 dX9_aboveOf_5 rfl rfl ?_
  obtain ⟨hb1, hf⟩ := gj_c hf
  refine gj_iald hO kl_203 kd_203 hb1 dX9_aboveOf_6 ?_
  obtain ⟨x2, hc2, hf⟩ := gj_b hf
  refine ca_X9_beginOf hO kl_188  hc2 wk_768 (by decide) (by decide) (Nat.le_of_ble_eq_true rfl) dX9_aboveOf_7 ?_
  refine gj_iload_n hO 1 dX9_aboveOf_10 rfl rfl ?_
  refine gj_icmp_ne (tgt := 27) hO dX9_aboveOf_11 (by decide) (fun h => ?_) (fun h => ?_)
  · replace hf := gj_f h hf
    refine gj_aload_n hO 0 dX9_aboveOf_27 rfl rfl ?_
    refine gj_aload_n hO 0 dX9_aboveOf_28 rfl rfl ?_
    refine gt_X9_27 hO wk_762 dX9_aboveOf_29 ?_
    refine gj_iload_n hO 1 dX9_aboveOf_32 rfl rfl ?_
    obtain ⟨hb3, hf⟩ := gj_c hf
    refine gj_iald hO kl_203 kd_203 hb3 dX9_aboveOf_33 ?_
    obtain ⟨x4, hc4, hf⟩ := gj_b hf
    refine ca_X9_beginOf hO kl_188  hc4 wk_768 (by decide) (by decide) (Nat.le_of_ble_eq_true rfl) dX9_aboveOf_34 ?_
    obtain rfl := Option.some.inj hf
    exact gj_iret hO dX9_aboveOf_37
  · replace hf := gj_t h hf
    refine gj_aload_n hO 0 dX9_aboveOf_14 rfl rfl ?_
    refine gj_aload_n hO 0 dX9_aboveOf_15 rfl rfl ?_
    refine gt_X9_27 hO wk_762 dX9_aboveOf_16 ?_
    refine gj_iload_n hO 1 dX9_aboveOf_19 rfl rfl ?_
    obtain ⟨hb5, hf⟩ := gj_c hf
    refine gj_iald hO kl_203 kd_203 hb5 dX9_aboveOf_20 ?_
    obtain ⟨x6, hc6, hf⟩ := gj_b hf
    refine ca_X9_endOf hO kl_188  hc6 wk_769 (by decide) (by decide) (Nat.le_of_ble_eq_true rfl) dX9_aboveOf_21 ?_
    refine gj_goto (tgt := 37) hO dX9_aboveOf_24 (by decide) ?_
    obtain rfl := Option.some.inj hf
    exact gj_iret hO dX9_aboveOf_37
set_option maxHeartbeats 4000000 in
set_option maxRecDepth 100000 in
theorem ca_X9_aboveOf {E : gj_E} {X : gj_X} {own : String} {cc : ByteArray} {nL : Nat} {rt : Option FieldType} {fr lo : Nat} {ce sl : Nat} {Q : State → Prop} {pc : Nat} {lv : List (Nat × gj_V)} {st : List gj_V} {σ : gj_S} (hO : gj_O E X own cc nL rt fr lo) (hw : gj_lt own 188) {b1 : Int32}  {idx : Nat} {x : Int32} (hf : f_X9_aboveOf b1 σ = some x) (hl : Cond.methodLink own idx yX9_aboveOf ∈ gj_gw) (hf1 : 2 ≤ fr) (hf2 : 43 ≤ lo) (hcat : ((st.map (gj_tv E.2.1)).map fun v => v.category).sum ≤ 8) (hd : decode cc pc = .ok (.invokevirtual idx, 3)) (k : gj_H E X nL ce sl Q (pc + 3) lv ((gj_i x) :: st) σ) : gj_H E X nL ce sl Q pc lv (gj_i b1 :: gj_r 188 :: st) σ :=
  gj_callV hO (o := 188) (vs := [gj_i b1]) (m_X9_aboveOf  hf) (gj_I9 hw) hl wk_775 wk_776 wk_629 wk_777 hw kd_188 (by decide) (ci := 9) rfl (n := 1) (by decide +kernel) rfl hf1 hf2 rfl hcat hd k
def f_X9_isUpward (b1 : Int32) (σ : gj_S) : Option Int32 := (if gj_in b1 9 then ((f_X9_beginOf (σ.1 203 (Int32.toNatClampNeg b1)) σ).bind fun x2 => (if x2 = b1 then some (1 : Int32) else some (0 : Int32))) else none)
set_option maxHeartbeats 4000000 in
set_option maxRecDepth 100000 in
theorem m_X9_isUpward {E : gj_E} {σ : gj_S} {b1 : Int32}  {x : Int32} (hf : f_X9_isUpward b1 σ = some x) : gj_M E yX9_isUpward cX9_isUpward 2 (some .boolean) 1 22 [gj_r 188, gj_i b1] σ (some (gj_i x)) σ := by
  refine gj_body (lv := [(0, gj_r 188), (1, gj_i b1)]) (by decide +kernel) (Nat.le_of_ble_eq_true rfl) rfl (fun X hO => ?_)
  replace hO : gj_O E X RX9 cX9_isUpward 2 (some .boolean) 1 22 := hO
  unfold f_X9_isUpward at hf
  refine gj_aload_n hO 0 dX9_isUpward_0 rfl rfl ?_
  refine gj_aload_n hO 0 dX9_isUpward_1 rfl rfl ?_
  refine gt_X9_27 hO wk_762 dX9_isUpward_2 ?_
  refine gj_iload_n hO 1 dX9_isUpward_5 rfl rfl ?_
  obtain ⟨hb1, hf⟩ := gj_c hf
  refine gj_iald hO kl_203 kd_203 hb1 dX9_isUpward_6 ?_
  obtain ⟨x2, hc2, hf⟩ := gj_b hf
  refine ca_X9_beginOf hO kl_188  hc2 wk_768 (by decide) (by decide) (Nat.le_of_ble_eq_true rfl) dX9_isUpward_7 ?_
  refine gj_iload_n hO 1 dX9_isUpward_10 rfl rfl ?_
  refine gj_icmp_ne (tgt := 18) hO dX9_isUpward_11 (by decide) (fun h => ?_) (fun h => ?_)
  · replace hf := gj_f h hf
    refine gj_iconst (v := 0) hO dX9_isUpward_18 (by decide) ?_
    obtain rfl := Option.some.inj hf
    exact gj_zret hO (Or.inl rfl) dX9_isUpward_19
  · replace hf := gj_t h hf
    refine gj_iconst (v := 1) hO dX9_isUpward_14 (by decide) ?_
    refine gj_goto (tgt := 19) hO dX9_isUpward_15 (by decide) ?_
    obtain rfl := Option.some.inj hf
    exact gj_zret hO (Or.inr rfl) dX9_isUpward_19
set_option maxHeartbeats 4000000 in
set_option maxRecDepth 100000 in
theorem ca_X9_isUpward {E : gj_E} {X : gj_X} {own : String} {cc : ByteArray} {nL : Nat} {rt : Option FieldType} {fr lo : Nat} {ce sl : Nat} {Q : State → Prop} {pc : Nat} {lv : List (Nat × gj_V)} {st : List gj_V} {σ : gj_S} (hO : gj_O E X own cc nL rt fr lo) (hw : gj_lt own 188) {b1 : Int32}  {idx : Nat} {x : Int32} (hf : f_X9_isUpward b1 σ = some x) (hl : Cond.methodLink own idx yX9_isUpward ∈ gj_gw) (hf1 : 2 ≤ fr) (hf2 : 43 ≤ lo) (hcat : ((st.map (gj_tv E.2.1)).map fun v => v.category).sum ≤ 8) (hd : decode cc pc = .ok (.invokevirtual idx, 3)) (k : gj_H E X nL ce sl Q (pc + 3) lv ((gj_i x) :: st) σ) : gj_H E X nL ce sl Q pc lv (gj_i b1 :: gj_r 188 :: st) σ :=
  gj_callV hO (o := 188) (vs := [gj_i b1]) (m_X9_isUpward  hf) (gj_I9 hw) hl wk_778 wk_779 wk_629 wk_780 hw kd_188 (by decide) (ci := 9) rfl (n := 1) (by decide +kernel) rfl hf1 hf2 rfl hcat hd k
def f_X9_gainOf (b1 : Int32) (σ : gj_S) : Option Int32 := ((f_X9_costOf b1 σ).bind fun x1 => ((f_X9_beginOf b1 σ).bind fun x2 => (if gj_in x2 9 then ((f_X9_endOf b1 σ).bind fun x4 => (if gj_in x4 9 then some ((x1 + (σ.1 205 (Int32.toNatClampNeg x2))) - (σ.1 205 (Int32.toNatClampNeg x4))) else none)) else none)))
set_option maxHeartbeats 4000000 in
set_option maxRecDepth 100000 in
theorem m_X9_gainOf {E : gj_E} {σ : gj_S} {b1 : Int32}  {x : Int32} (hf : f_X9_gainOf b1 σ = some x) : gj_M E yX9_gainOf cX9_gainOf 2 (some .int) 1 22 [gj_r 188, gj_i b1] σ (some (gj_i x)) σ := by
  refine gj_body (lv := [(0, gj_r 188), (1, gj_i b1)]) (by decide +kernel) (Nat.le_of_ble_eq_true rfl) rfl (fun X hO => ?_)
  replace hO : gj_O E X RX9 cX9_gainOf 2 (some .int) 1 22 := hO
  unfold f_X9_gainOf at hf
  refine gj_aload_n hO 0 dX9_gainOf_0 rfl rfl ?_
  refine gj_iload_n hO 1 dX9_gainOf_1 rfl rfl ?_
  obtain ⟨x1, hc1, hf⟩ := gj_b hf
  refine ca_X9_costOf hO kl_188  hc1 wk_770 (by decide) (by decide) (Nat.le_of_ble_eq_true rfl) dX9_gainOf_2 ?_
  refine gj_aload_n hO 0 dX9_gainOf_5 rfl rfl ?_
  refine gt_X9_29 hO wk_764 dX9_gainOf_6 ?_
  refine gj_aload_n hO 0 dX9_gainOf_9 rfl rfl ?_
  refine gj_iload_n hO 1 dX9_gainOf_10 rfl rfl ?_
  obtain ⟨x2, hc2, hf⟩ := gj_b hf
  refine ca_X9_beginOf hO kl_188  hc2 wk_768 (by decide) (by decide) (Nat.le_of_ble_eq_true rfl) dX9_gainOf_11 ?_
  obtain ⟨hb3, hf⟩ := gj_c hf
  refine gj_iald hO kl_205 kd_205 hb3 dX9_gainOf_14 ?_
  refine gj_iadd hO dX9_gainOf_15 ?_
  refine gj_aload_n hO 0 dX9_gainOf_16 rfl rfl ?_
  refine gt_X9_29 hO wk_764 dX9_gainOf_17 ?_
  refine gj_aload_n hO 0 dX9_gainOf_20 rfl rfl ?_
  refine gj_iload_n hO 1 dX9_gainOf_21 rfl rfl ?_
  obtain ⟨x4, hc4, hf⟩ := gj_b hf
  refine ca_X9_endOf hO kl_188  hc4 wk_769 (by decide) (by decide) (Nat.le_of_ble_eq_true rfl) dX9_gainOf_22 ?_
  obtain ⟨hb5, hf⟩ := gj_c hf
  refine gj_iald hO kl_205 kd_205 hb5 dX9_gainOf_25 ?_
  refine gj_isub hO dX9_gainOf_26 ?_
  obtain rfl := Option.some.inj hf
  exact gj_iret hO dX9_gainOf_27
set_option maxHeartbeats 4000000 in
set_option maxRecDepth 100000 in
theorem ca_X9_gainOf {E : gj_E} {X : gj_X} {own : String} {cc : ByteArray} {nL : Nat} {rt : Option FieldType} {fr lo : Nat} {ce sl : Nat} {Q : State → Prop} {pc : Nat} {lv : List (Nat × gj_V)} {st : List gj_V} {σ : gj_S} (hO : gj_O E X own cc nL rt fr lo) (hw : gj_lt own 188) {b1 : Int32}  {idx : Nat} {x : Int32} (hf : f_X9_gainOf b1 σ = some x) (hl : Cond.methodLink own idx yX9_gainOf ∈ gj_gw) (hf1 : 2 ≤ fr) (hf2 : 43 ≤ lo) (hcat : ((st.map (gj_tv E.2.1)).map fun v => v.category).sum ≤ 8) (hd : decode cc pc = .ok (.invokevirtual idx, 3)) (k : gj_H E X nL ce sl Q (pc + 3) lv ((gj_i x) :: st) σ) : gj_H E X nL ce sl Q pc lv (gj_i b1 :: gj_r 188 :: st) σ :=
  gj_callV hO (o := 188) (vs := [gj_i b1]) (m_X9_gainOf  hf) (gj_I9 hw) hl wk_781 wk_782 wk_629 wk_783 hw kd_188 (by decide) (ci := 9) rfl (n := 1) (by decide +kernel) rfl hf1 hf2 rfl hcat hd k
def f_X9_isGood (b1 : Int32) (σ : gj_S) : Option Int32 := (if gj_in ((74 : Int32) + b1) 180 then (if (σ.1 198 (Int32.toNatClampNeg ((74 : Int32) + b1))) = (1 : Int32) then ((f_X9_gainOf b1 σ).bind fun x4 => (if x4 < 0 then some (1 : Int32) else (if gj_in ((74 : Int32) + b1) 180 then (if (σ.1 198 (Int32.toNatClampNeg ((74 : Int32) + b1))) = (2 : Int32) then ((f_X9_gainOf b1 σ).bind fun x6 => (if x6 ≤ 0 then some (0 : Int32) else some (1 : Int32))) else some (0 : Int32)) else none))) else (if gj_in ((74 : Int32) + b1) 180 then (if (σ.1 198 (Int32.toNatClampNeg ((74 : Int32) + b1))) = (2 : Int32) then ((f_X9_gainOf b1 σ).bind fun x3 => (if x3 ≤ 0 then some (0 : Int32) else some (1 : Int32))) else some (0 : Int32)) else none)) else none)
set_option maxHeartbeats 4000000 in
set_option maxRecDepth 100000 in
theorem m_X9_isGood {E : gj_E} {σ : gj_S} {b1 : Int32}  {x : Int32} (hf : f_X9_isGood b1 σ = some x) : gj_M E yX9_isGood cX9_isGood 2 (some .boolean) 2 43 [gj_r 188, gj_i b1] σ (some (gj_i x)) σ := by
  refine gj_body (lv := [(0, gj_r 188), (1, gj_i b1)]) (by decide +kernel) (Nat.le_of_ble_eq_true rfl) rfl (fun X hO => ?_)
  replace hO : gj_O E X RX9 cX9_isGood 2 (some .boolean) 2 43 := hO
  unfold f_X9_isGood at hf
  refine gj_aload_n hO 0 dX9_isGood_0 rfl rfl ?_
  refine gt_X9_21 hO wk_725 dX9_isGood_1 ?_
  refine gj_bipush (v := 74) hO dX9_isGood_4 (by decide) ?_
  refine gj_iload_n hO 1 dX9_isGood_6 rfl rfl ?_
  refine gj_iadd hO dX9_isGood_7 ?_
  obtain ⟨hb1, hf⟩ := gj_c hf
  refine gj_iald hO kl_198 kd_198 hb1 dX9_isGood_8 ?_
  refine gj_iconst (v := 1) hO dX9_isGood_9 (by decide) ?_
  refine gj_icmp_ne (tgt := 21) hO dX9_isGood_10 (by decide) (fun h => ?_) (fun h => ?_)
  · replace hf := gj_f h hf
    refine gj_aload_n hO 0 dX9_isGood_21 rfl rfl ?_
    refine gt_X9_21 hO wk_725 dX9_isGood_22 ?_
    refine gj_bipush (v := 74) hO dX9_isGood_25 (by decide) ?_
    refine gj_iload_n hO 1 dX9_isGood_27 rfl rfl ?_
    refine gj_iadd hO dX9_isGood_28 ?_
    obtain ⟨hb2, hf⟩ := gj_c hf
    refine gj_iald hO kl_198 kd_198 hb2 dX9_isGood_29 ?_
    refine gj_iconst (v := 2) hO dX9_isGood_30 (by decide) ?_
    refine gj_icmp_ne (tgt := 46) hO dX9_isGood_31 (by decide) (fun h => ?_) (fun h => ?_)
    · replace hf := gj_f h hf
      refine gj_iconst (v := 0) hO dX9_isGood_46 (by decide) ?_
      obtain rfl := Option.some.inj hf
      exact gj_zret hO (Or.inl rfl) dX9_isGood_47
    · replace hf := gj_t h hf
      refine gj_aload_n hO 0 dX9_isGood_34 rfl rfl ?_
      refine gj_iload_n hO 1 dX9_isGood_35 rfl rfl ?_
      obtain ⟨x3, hc3, hf⟩ := gj_b hf
      refine ca_X9_gainOf hO kl_188  hc3 wk_784 (by decide) (by decide) (Nat.le_of_ble_eq_true rfl) dX9_isGood_36 ?_
      refine gj_if_le (tgt := 46) hO dX9_isGood_39 (by decide) (fun h => ?_) (fun h => ?_)
      · replace hf := gj_t h hf
        refine gj_iconst (v := 0) hO dX9_isGood_46 (by decide) ?_
        obtain rfl := Option.some.inj hf
        exact gj_zret hO (Or.inl rfl) dX9_isGood_47
      · replace hf := gj_f h hf
        refine gj_iconst (v := 1) hO dX9_isGood_42 (by decide) ?_
        refine gj_goto (tgt := 47) hO dX9_isGood_43 (by decide) ?_
        obtain rfl := Option.some.inj hf
        exact gj_zret hO (Or.inr rfl) dX9_isGood_47
  · replace hf := gj_t h hf
    refine gj_aload_n hO 0 dX9_isGood_13 rfl rfl ?_
    refine gj_iload_n hO 1 dX9_isGood_14 rfl rfl ?_
    obtain ⟨x4, hc4, hf⟩ := gj_b hf
    refine ca_X9_gainOf hO kl_188  hc4 wk_784 (by decide) (by decide) (Nat.le_of_ble_eq_true rfl) dX9_isGood_15 ?_
    refine gj_if_lt (tgt := 42) hO dX9_isGood_18 (by decide) (fun h => ?_) (fun h => ?_)
    · replace hf := gj_t h hf
      refine gj_iconst (v := 1) hO dX9_isGood_42 (by decide) ?_
      refine gj_goto (tgt := 47) hO dX9_isGood_43 (by decide) ?_
      obtain rfl := Option.some.inj hf
      exact gj_zret hO (Or.inr rfl) dX9_isGood_47
    · replace hf := gj_f h hf
      refine gj_aload_n hO 0 dX9_isGood_21 rfl rfl ?_
      refine gt_X9_21 hO wk_725 dX9_isGood_22 ?_
      refine gj_bipush (v := 74) hO dX9_isGood_25 (by decide) ?_
      refine gj_iload_n hO 1 dX9_isGood_27 rfl rfl ?_
      refine gj_iadd hO dX9_isGood_28 ?_
      obtain ⟨hb5, hf⟩ := gj_c hf
      refine gj_iald hO kl_198 kd_198 hb5 dX9_isGood_29 ?_
      refine gj_iconst (v := 2) hO dX9_isGood_30 (by decide) ?_
      refine gj_icmp_ne (tgt := 46) hO dX9_isGood_31 (by decide) (fun h => ?_) (fun h => ?_)
      · replace hf := gj_f h hf
        refine gj_iconst (v := 0) hO dX9_isGood_46 (by decide) ?_
        obtain rfl := Option.some.inj hf
        exact gj_zret hO (Or.inl rfl) dX9_isGood_47
      · replace hf := gj_t h hf
        refine gj_aload_n hO 0 dX9_isGood_34 rfl rfl ?_
        refine gj_iload_n hO 1 dX9_isGood_35 rfl rfl ?_
        obtain ⟨x6, hc6, hf⟩ := gj_b hf
        refine ca_X9_gainOf hO kl_188  hc6 wk_784 (by decide) (by decide) (Nat.le_of_ble_eq_true rfl) dX9_isGood_36 ?_
        refine gj_if_le (tgt := 46) hO dX9_isGood_39 (by decide) (fun h => ?_) (fun h => ?_)
        · replace hf := gj_t h hf
          refine gj_iconst (v := 0) hO dX9_isGood_46 (by decide) ?_
          obtain rfl := Option.some.inj hf
          exact gj_zret hO (Or.inl rfl) dX9_isGood_47
        · replace hf := gj_f h hf
          refine gj_iconst (v := 1) hO dX9_isGood_42 (by decide) ?_
          refine gj_goto (tgt := 47) hO dX9_isGood_43 (by decide) ?_
          obtain rfl := Option.some.inj hf
          exact gj_zret hO (Or.inr rfl) dX9_isGood_47
set_option maxHeartbeats 4000000 in
set_option maxRecDepth 100000 in
theorem ca_X9_isGood {E : gj_E} {X : gj_X} {own : String} {cc : ByteArray} {nL : Nat} {rt : Option FieldType} {fr lo : Nat} {ce sl : Nat} {Q : State → Prop} {pc : Nat} {lv : List (Nat × gj_V)} {st : List gj_V} {σ : gj_S} (hO : gj_O E X own cc nL rt fr lo) (hw : gj_lt own 188) {b1 : Int32}  {idx : Nat} {x : Int32} (hf : f_X9_isGood b1 σ = some x) (hl : Cond.methodLink own idx yX9_isGood ∈ gj_gw) (hf1 : 3 ≤ fr) (hf2 : 64 ≤ lo) (hcat : ((st.map (gj_tv E.2.1)).map fun v => v.category).sum ≤ 8) (hd : decode cc pc = .ok (.invokevirtual idx, 3)) (k : gj_H E X nL ce sl Q (pc + 3) lv ((gj_i x) :: st) σ) : gj_H E X nL ce sl Q pc lv (gj_i b1 :: gj_r 188 :: st) σ :=
  gj_callV hO (o := 188) (vs := [gj_i b1]) (m_X9_isGood  hf) (gj_I9 hw) hl wk_785 wk_786 wk_629 wk_787 hw kd_188 (by decide) (ci := 9) rfl (n := 1) (by decide +kernel) rfl hf1 hf2 rfl hcat hd k
def fb_X9_goodMany_l4 (σ : gj_S) (a10004 : (Int32 × Int32)) : Option (Int32 ⊕ (Int32 × Int32)) := ((f_X9_ways σ).bind fun x10401 => (if x10401 ≤ a10004.2 then some (.inl a10004.1) else ((f_X9_isGood a10004.2 σ).bind fun x10402 => (if x10402 = 0 then some (.inr ((a10004.1 + (0 : Int32)), (a10004.2 + 1))) else some (.inr ((a10004.1 + (1 : Int32)), (a10004.2 + 1)))))))
def f_X9_goodMany  (σ : gj_S) : Option Int32 := ((gj_lp (fb_X9_goodMany_l4 σ) 5000 ((0 : Int32), (0 : Int32))).bind fun z1 => some z1)
set_option maxHeartbeats 4000000 in
set_option maxRecDepth 100000 in
theorem sb_X9_goodMany_l4 {E : gj_E} {X : gj_X} {r : Option gj_V} {τ : gj_S} (hO : gj_O E X RX9 cX9_goodMany 3 (some .int) 3 64) {σ : gj_S} {a10004_0 : Int32} {a10004_1 : Int32} {x : Int32 ⊕ (Int32 × Int32)} (hf : fb_X9_goodMany_l4 σ (a10004_0, a10004_1) = some x) (K : gj_K (fun z1 => gj_G E X 3 r τ 34 [(1, gj_i z1)] [] σ) (fun a10004 => gj_G E X 3 r τ 4 [(0, gj_r 188), (1, gj_i a10004.1), (2, gj_i a10004.2)] [] σ) x) : gj_G E X 3 r τ 4 [(0, gj_r 188), (1, gj_i a10004_0), (2, gj_i a10004_1)] [] σ := by
  unfold fb_X9_goodMany_l4 at hf
  dsimp only at hf
  refine gj_iload_n hO 2 dX9_goodMany_4 rfl rfl ?_
  refine gj_aload_n hO 0 dX9_goodMany_5 rfl rfl ?_
  obtain ⟨x10401, hc10401, hf⟩ := gj_b hf
  refine ca_X9_ways hO kl_188  hc10401 wk_745 (by decide) (by decide) (Nat.le_of_ble_eq_true rfl) dX9_goodMany_6 ?_
  refine gj_icmp_ge (tgt := 34) hO dX9_goodMany_9 (by decide) (fun h => ?_) (fun h => ?_)
  · replace hf := gj_t h hf
    obtain rfl := Option.some.inj hf
    refine gj_sub (lv2 := [(1, gj_i a10004_0)]) [1] rfl ?_
    exact K
  · replace hf := gj_f h hf
    refine gj_iload_n hO 1 dX9_goodMany_12 rfl rfl ?_
    refine gj_aload_n hO 0 dX9_goodMany_13 rfl rfl ?_
    refine gj_iload_n hO 2 dX9_goodMany_14 rfl rfl ?_
    obtain ⟨x10402, hc10402, hf⟩ := gj_b hf
    refine ca_X9_isGood hO kl_188  hc10402 wk_788 (by decide) (by decide) (Nat.le_of_ble_eq_true rfl) dX9_goodMany_15 ?_
    refine gj_if_eq (tgt := 25) hO dX9_goodMany_18 (by decide) (fun h => ?_) (fun h => ?_)
    · replace hf := gj_t h hf
      refine gj_iconst (v := 0) hO dX9_goodMany_25 (by decide) ?_
      refine gj_iadd hO dX9_goodMany_26 ?_
      refine gj_istore_n (lv2 := [(1, gj_i (a10004_0 + (0 : Int32))), (0, gj_r 188), (2, gj_i a10004_1)]) hO dX9_goodMany_27 rfl (by decide) rfl ?_
      refine gj_iinc (v := (a10004_1 + 1)) (lv2 := [(2, gj_i (a10004_1 + 1)), (1, gj_i (a10004_0 + (0 : Int32))), (0, gj_r 188)]) hO 2 dX9_goodMany_28 rfl rfl (by decide) rfl ?_
      refine gj_goto (tgt := 4) hO dX9_goodMany_31 (by decide) ?_
      obtain rfl := Option.some.inj hf
      refine gj_sub (lv2 := [(0, gj_r 188), (1, gj_i (a10004_0 + (0 : Int32))), (2, gj_i (a10004_1 + 1))]) [2, 1, 0] rfl ?_
      exact K
    · replace hf := gj_f h hf
      refine gj_iconst (v := 1) hO dX9_goodMany_21 (by decide) ?_
      refine gj_goto (tgt := 26) hO dX9_goodMany_22 (by decide) ?_
      refine gj_iadd hO dX9_goodMany_26 ?_
      refine gj_istore_n (lv2 := [(1, gj_i (a10004_0 + (1 : Int32))), (0, gj_r 188), (2, gj_i a10004_1)]) hO dX9_goodMany_27 rfl (by decide) rfl ?_
      refine gj_iinc (v := (a10004_1 + 1)) (lv2 := [(2, gj_i (a10004_1 + 1)), (1, gj_i (a10004_0 + (1 : Int32))), (0, gj_r 188)]) hO 2 dX9_goodMany_28 rfl rfl (by decide) rfl ?_
      refine gj_goto (tgt := 4) hO dX9_goodMany_31 (by decide) ?_
      obtain rfl := Option.some.inj hf
      refine gj_sub (lv2 := [(0, gj_r 188), (1, gj_i (a10004_0 + (1 : Int32))), (2, gj_i (a10004_1 + 1))]) [2, 1, 0] rfl ?_
      exact K
set_option maxHeartbeats 4000000 in
set_option maxRecDepth 100000 in
theorem m_X9_goodMany {E : gj_E} {σ : gj_S}   {x : Int32} (hf : f_X9_goodMany  σ = some x) : gj_M E yX9_goodMany cX9_goodMany 3 (some .int) 3 64 [gj_r 188] σ (some (gj_i x)) σ := by
  refine gj_body (lv := [(0, gj_r 188)]) (by decide +kernel) (Nat.le_of_ble_eq_true rfl) rfl (fun X hO => ?_)
  replace hO : gj_O E X RX9 cX9_goodMany 3 (some .int) 3 64 := hO
  unfold f_X9_goodMany at hf
  refine gj_iconst (v := 0) hO dX9_goodMany_0 (by decide) ?_
  refine gj_istore_n (lv2 := [(1, gj_i (0 : Int32)), (0, gj_r 188)]) hO dX9_goodMany_1 rfl (by decide) rfl ?_
  refine gj_iconst (v := 0) hO dX9_goodMany_2 (by decide) ?_
  refine gj_istore_n (lv2 := [(2, gj_i (0 : Int32)), (1, gj_i (0 : Int32)), (0, gj_r 188)]) hO dX9_goodMany_3 rfl (by decide) rfl ?_
  obtain ⟨z1, hz1, hf⟩ := gj_b hf
  have J1 : gj_G E X 3 (some (gj_i x)) σ 34 [(1, gj_i z1)] [] σ := by
    refine gj_iload_n hO 0 dX9_goodMany_34 rfl rfl ?_
    obtain rfl := Option.some.inj hf
    exact gj_iret hO dX9_goodMany_35
  refine gj_sub (lv2 := [(0, gj_r 188), (1, gj_i (0 : Int32)), (2, gj_i (0 : Int32))]) [2, 1, 0] rfl ?_
  exact gj_loop (head := fun a10004 => gj_G E X 3 (some (gj_i x)) σ 4 [(0, gj_r 188), (1, gj_i a10004.1), (2, gj_i a10004.2)] [] σ) (exit := fun z1 => gj_G E X 3 (some (gj_i x)) σ 34 [(1, gj_i z1)] [] σ) (fun a10004 x hf K => by obtain ⟨a10004_0, a10004_1⟩ := a10004; exact sb_X9_goodMany_l4 hO hf K) _ _ _ hz1 J1
set_option maxHeartbeats 4000000 in
set_option maxRecDepth 100000 in
theorem ca_X9_goodMany {E : gj_E} {X : gj_X} {own : String} {cc : ByteArray} {nL : Nat} {rt : Option FieldType} {fr lo : Nat} {ce sl : Nat} {Q : State → Prop} {pc : Nat} {lv : List (Nat × gj_V)} {st : List gj_V} {σ : gj_S} (hO : gj_O E X own cc nL rt fr lo) (hw : gj_lt own 188)   {idx : Nat} {x : Int32} (hf : f_X9_goodMany  σ = some x) (hl : Cond.methodLink own idx yX9_goodMany ∈ gj_gw) (hf1 : 4 ≤ fr) (hf2 : 86 ≤ lo) (hcat : ((st.map (gj_tv E.2.1)).map fun v => v.category).sum ≤ 8) (hd : decode cc pc = .ok (.invokevirtual idx, 3)) (k : gj_H E X nL ce sl Q (pc + 3) lv ((gj_i x) :: st) σ) : gj_H E X nL ce sl Q pc lv (gj_r 188 :: st) σ :=
  gj_callV hO (o := 188) (vs := []) (m_X9_goodMany  hf) (gj_I9 hw) hl wk_789 wk_790 wk_629 wk_791 hw kd_188 (by decide) (ci := 9) rfl (n := 0) (by decide +kernel) rfl hf1 hf2 rfl hcat hd k
def f_X9_isEnd  (σ : gj_S) : Option (Int32 × gj_S) := ((f_X9_laysTree σ).bind fun x1 => ((f_X9_goodMany x1).bind fun x2 => (if x2 = 0 then some ((1 : Int32), x1) else some ((0 : Int32), x1))))
set_option maxHeartbeats 4000000 in
set_option maxRecDepth 100000 in
theorem m_X9_isEnd {E : gj_E} {σ : gj_S}   {x : Int32} {y : gj_S} (hf : f_X9_isEnd  σ = some (x, y)) : gj_M E yX9_isEnd cX9_isEnd 1 (some .boolean) 4 86 [gj_r 188] σ (some (gj_i x)) y := by
  refine gj_body (lv := [(0, gj_r 188)]) (by decide +kernel) (Nat.le_of_ble_eq_true rfl) rfl (fun X hO => ?_)
  replace hO : gj_O E X RX9 cX9_isEnd 1 (some .boolean) 4 86 := hO
  unfold f_X9_isEnd at hf
  refine gj_aload_n hO 0 dX9_isEnd_0 rfl rfl ?_
  obtain ⟨x1, hc1, hf⟩ := gj_b hf
  refine ca_X9_laysTree hO kl_188  hc1 wk_792 (by decide) (by decide) (Nat.le_of_ble_eq_true rfl) dX9_isEnd_1 ?_
  refine gj_aload_n hO 0 dX9_isEnd_4 rfl rfl ?_
  obtain ⟨x2, hc2, hf⟩ := gj_b hf
  refine ca_X9_goodMany hO kl_188  hc2 wk_793 (by decide) (by decide) (Nat.le_of_ble_eq_true rfl) dX9_isEnd_5 ?_
  refine gj_if_ne (tgt := 15) hO dX9_isEnd_8 (by decide) (fun h => ?_) (fun h => ?_)
  · replace hf := gj_f h hf
    refine gj_iconst (v := 0) hO dX9_isEnd_15 (by decide) ?_
    replace hf := Option.some.inj hf
    simp only [Prod.mk.injEq] at hf
    obtain ⟨rfl, rfl⟩ := hf
    exact gj_zret hO (Or.inl rfl) dX9_isEnd_16
  · replace hf := gj_t h hf
    refine gj_iconst (v := 1) hO dX9_isEnd_11 (by decide) ?_
    refine gj_goto (tgt := 16) hO dX9_isEnd_12 (by decide) ?_
    replace hf := Option.some.inj hf
    simp only [Prod.mk.injEq] at hf
    obtain ⟨rfl, rfl⟩ := hf
    exact gj_zret hO (Or.inr rfl) dX9_isEnd_16
set_option maxHeartbeats 4000000 in
set_option maxRecDepth 100000 in
theorem ca_X9_isEnd {E : gj_E} {X : gj_X} {own : String} {cc : ByteArray} {nL : Nat} {rt : Option FieldType} {fr lo : Nat} {ce sl : Nat} {Q : State → Prop} {pc : Nat} {lv : List (Nat × gj_V)} {st : List gj_V} {σ : gj_S} (hO : gj_O E X own cc nL rt fr lo) (hw : gj_lt own 188)   {idx : Nat} {x : Int32} {y : gj_S} (hf : f_X9_isEnd  σ = some (x, y)) (hl : Cond.methodLink own idx yX9_isEnd ∈ gj_gw) (hf1 : 5 ≤ fr) (hf2 : 106 ≤ lo) (hcat : ((st.map (gj_tv E.2.1)).map fun v => v.category).sum ≤ 8) (hd : decode cc pc = .ok (.invokevirtual idx, 3)) (k : gj_H E X nL ce sl Q (pc + 3) lv ((gj_i x) :: st) y) : gj_H E X nL ce sl Q pc lv (gj_r 188 :: st) σ :=
  gj_callV hO (o := 188) (vs := []) (m_X9_isEnd  hf) (gj_I9 hw) hl wk_794 wk_795 wk_629 wk_796 hw kd_188 (by decide) (ci := 9) rfl (n := 0) (by decide +kernel) rfl hf1 hf2 rfl hcat hd k
def fb_X9_underOf_l17 (b1 : Int32) (b2 : Int32) (b3 : Int32) (σ : gj_S) (a10017 : Int32) : Option (Int32 ⊕ Int32) := (if a10017 = b1 then some (.inl a10017) else (if a10017 = (8 : Int32) then some (.inl a10017) else ((f_X9_aboveOf a10017 σ).bind fun x11701 => some (.inr x11701))))
def fb_X9_underOf_l4 (b1 : Int32) (σ : gj_S) (a10004 : (Int32 × Int32)) : Option (Int32 ⊕ (Int32 × Int32)) := (if gj_in (0 : Int32) 2 then (if (σ.1 190 (Int32.toNatClampNeg (0 : Int32))) ≤ a10004.2 then some (.inl a10004.1) else ((gj_lp (fb_X9_underOf_l17 b1 a10004.1 a10004.2 σ) 5000 a10004.2).bind fun z10402 => (if z10402 = b1 then some (.inr ((a10004.1 + (1 : Int32)), (a10004.2 + 1))) else some (.inr ((a10004.1 + (0 : Int32)), (a10004.2 + 1)))))) else none)
def f_X9_underOf (b1 : Int32) (σ : gj_S) : Option Int32 := ((gj_lp (fb_X9_underOf_l4 b1 σ) 5000 ((0 : Int32), (0 : Int32))).bind fun z1 => some z1)
set_option maxHeartbeats 4000000 in
set_option maxRecDepth 100000 in
theorem sb_X9_underOf_l17 {E : gj_E} {X : gj_X} {r : Option gj_V} {τ : gj_S} (hO : gj_O E X RX9 cX9_underOf 5 (some .int) 2 43) {b1 : Int32} {b2 : Int32} {b3 : Int32} {σ : gj_S} {a10017 : Int32} {x : Int32 ⊕ Int32} (hf : fb_X9_underOf_l17 b1 b2 b3 σ a10017 = some x) (K : gj_K (fun z10402 => gj_G E X 5 r τ 41 [(0, gj_r 188), (1, gj_i b1), (2, gj_i b2), (3, gj_i b3), (4, gj_i z10402)] [] σ) (fun a10017 => gj_G E X 5 r τ 17 [(0, gj_r 188), (1, gj_i b1), (2, gj_i b2), (3, gj_i b3), (4, gj_i a10017)] [] σ) x) : gj_G E X 5 r τ 17 [(0, gj_r 188), (1, gj_i b1), (2, gj_i b2), (3, gj_i b3), (4, gj_i a10017)] [] σ := by
  unfold fb_X9_underOf_l17 at hf
  refine gj_iload hO 4 dX9_underOf_17 rfl ?_
  refine gj_iload_n hO 1 dX9_underOf_19 rfl rfl ?_
  refine gj_icmp_eq (tgt := 41) hO dX9_underOf_20 (by decide) (fun h => ?_) (fun h => ?_)
  · replace hf := gj_t h hf
    obtain rfl := Option.some.inj hf
    refine gj_sub (lv2 := [(0, gj_r 188), (1, gj_i b1), (2, gj_i b2), (3, gj_i b3), (4, gj_i a10017)]) [0, 1, 2, 3, 4] rfl ?_
    exact K
  · replace hf := gj_f h hf
    refine gj_iload hO 4 dX9_underOf_23 rfl ?_
    refine gj_bipush (v := 8) hO dX9_underOf_25 (by decide) ?_
    refine gj_icmp_eq (tgt := 41) hO dX9_underOf_27 (by decide) (fun h => ?_) (fun h => ?_)
    · replace hf := gj_t h hf
      obtain rfl := Option.some.inj hf
      refine gj_sub (lv2 := [(0, gj_r 188), (1, gj_i b1), (2, gj_i b2), (3, gj_i b3), (4, gj_i a10017)]) [0, 1, 2, 3, 4] rfl ?_
      exact K
    · replace hf := gj_f h hf
      refine gj_aload_n hO 0 dX9_underOf_30 rfl rfl ?_
      refine gj_iload hO 4 dX9_underOf_31 rfl ?_
      obtain ⟨x11701, hc11701, hf⟩ := gj_b hf
      refine ca_X9_aboveOf hO kl_188  hc11701 wk_797 (by decide) (by decide) (Nat.le_of_ble_eq_true rfl) dX9_underOf_33 ?_
      refine gj_istore (lv2 := [(4, gj_i x11701), (0, gj_r 188), (1, gj_i b1), (2, gj_i b2), (3, gj_i b3)]) hO dX9_underOf_36 (by decide) rfl ?_
      refine gj_goto (tgt := 17) hO dX9_underOf_38 (by decide) ?_
      obtain rfl := Option.some.inj hf
      refine gj_sub (lv2 := [(0, gj_r 188), (1, gj_i b1), (2, gj_i b2), (3, gj_i b3), (4, gj_i x11701)]) [1, 2, 3, 4, 0] rfl ?_
      exact K
set_option maxHeartbeats 4000000 in
set_option maxRecDepth 100000 in
theorem sb_X9_underOf_l4 {E : gj_E} {X : gj_X} {r : Option gj_V} {τ : gj_S} (hO : gj_O E X RX9 cX9_underOf 5 (some .int) 2 43) {b1 : Int32} {σ : gj_S} {a10004_0 : Int32} {a10004_1 : Int32} {x : Int32 ⊕ (Int32 × Int32)} (hf : fb_X9_underOf_l4 b1 σ (a10004_0, a10004_1) = some x) (K : gj_K (fun z1 => gj_G E X 5 r τ 61 [(2, gj_i z1)] [] σ) (fun a10004 => gj_G E X 5 r τ 4 [(0, gj_r 188), (1, gj_i b1), (2, gj_i a10004.1), (3, gj_i a10004.2)] [] σ) x) : gj_G E X 5 r τ 4 [(0, gj_r 188), (1, gj_i b1), (2, gj_i a10004_0), (3, gj_i a10004_1)] [] σ := by
  unfold fb_X9_underOf_l4 at hf
  dsimp only at hf
  refine gj_iload_n hO 3 dX9_underOf_4 rfl rfl ?_
  refine gj_aload_n hO 0 dX9_underOf_5 rfl rfl ?_
  refine gt_X9_11 hO wk_691 dX9_underOf_6 ?_
  refine gj_iconst (v := 0) hO dX9_underOf_9 (by decide) ?_
  obtain ⟨hb10401, hf⟩ := gj_c hf
  refine gj_iald hO kl_190 kd_190 hb10401 dX9_underOf_10 ?_
  refine gj_icmp_ge (tgt := 61) hO dX9_underOf_11 (by decide) (fun h => ?_) (fun h => ?_)
  · replace hf := gj_t h hf
    obtain rfl := Option.some.inj hf
    refine gj_sub (lv2 := [(2, gj_i a10004_0)]) [2] rfl ?_
    exact K
  · replace hf := gj_f h hf
    refine gj_iload_n hO 3 dX9_underOf_14 rfl rfl ?_
    refine gj_istore (lv2 := [(4, gj_i a10004_1), (0, gj_r 188), (1, gj_i b1), (2, gj_i a10004_0), (3, gj_i a10004_1)]) hO dX9_underOf_15 (by decide) rfl ?_
    obtain ⟨z10402, hz10402, hf⟩ := gj_b hf
    have J10402 : gj_G E X 5 r τ 41 [(0, gj_r 188), (1, gj_i b1), (2, gj_i a10004_0), (3, gj_i a10004_1), (4, gj_i z10402)] [] σ := by
      refine gj_iload_n hO 2 dX9_underOf_41 rfl rfl ?_
      refine gj_iload hO 4 dX9_underOf_42 rfl ?_
      refine gj_iload_n hO 1 dX9_underOf_44 rfl rfl ?_
      refine gj_icmp_ne (tgt := 52) hO dX9_underOf_45 (by decide) (fun h => ?_) (fun h => ?_)
      · replace hf := gj_f h hf
        refine gj_iconst (v := 0) hO dX9_underOf_52 (by decide) ?_
        refine gj_iadd hO dX9_underOf_53 ?_
        refine gj_istore_n (lv2 := [(2, gj_i (a10004_0 + (0 : Int32))), (0, gj_r 188), (1, gj_i b1), (3, gj_i a10004_1), (4, gj_i z10402)]) hO dX9_underOf_54 rfl (by decide) rfl ?_
        refine gj_iinc (v := (a10004_1 + 1)) (lv2 := [(3, gj_i (a10004_1 + 1)), (2, gj_i (a10004_0 + (0 : Int32))), (0, gj_r 188), (1, gj_i b1), (4, gj_i z10402)]) hO 3 dX9_underOf_55 rfl rfl (by decide) rfl ?_
        refine gj_goto (tgt := 4) hO dX9_underOf_58 (by decide) ?_
        obtain rfl := Option.some.inj hf
        refine gj_sub (lv2 := [(0, gj_r 188), (1, gj_i b1), (2, gj_i (a10004_0 + (0 : Int32))), (3, gj_i (a10004_1 + 1))]) [2, 3, 1, 0] rfl ?_
        exact K
      · replace hf := gj_t h hf
        refine gj_iconst (v := 1) hO dX9_underOf_48 (by decide) ?_
        refine gj_goto (tgt := 53) hO dX9_underOf_49 (by decide) ?_
        refine gj_iadd hO dX9_underOf_53 ?_
        refine gj_istore_n (lv2 := [(2, gj_i (a10004_0 + (1 : Int32))), (0, gj_r 188), (1, gj_i b1), (3, gj_i a10004_1), (4, gj_i z10402)]) hO dX9_underOf_54 rfl (by decide) rfl ?_
        refine gj_iinc (v := (a10004_1 + 1)) (lv2 := [(3, gj_i (a10004_1 + 1)), (2, gj_i (a10004_0 + (1 : Int32))), (0, gj_r 188), (1, gj_i b1), (4, gj_i z10402)]) hO 3 dX9_underOf_55 rfl rfl (by decide) rfl ?_
        refine gj_goto (tgt := 4) hO dX9_underOf_58 (by decide) ?_
        obtain rfl := Option.some.inj hf
        refine gj_sub (lv2 := [(0, gj_r 188), (1, gj_i b1), (2, gj_i (a10004_0 + (1 : Int32))), (3, gj_i (a10004_1 + 1))]) [2, 3, 1, 0] rfl ?_
        exact K
    refine gj_sub (lv2 := [(0, gj_r 188), (1, gj_i b1), (2, gj_i a10004_0), (3, gj_i a10004_1), (4, gj_i a10004_1)]) [1, 2, 3, 4, 0] rfl ?_
    exact gj_loop (head := fun a10017 => gj_G E X 5 r τ 17 [(0, gj_r 188), (1, gj_i b1), (2, gj_i a10004_0), (3, gj_i a10004_1), (4, gj_i a10017)] [] σ) (exit := fun z10402 => gj_G E X 5 r τ 41 [(0, gj_r 188), (1, gj_i b1), (2, gj_i a10004_0), (3, gj_i a10004_1), (4, gj_i z10402)] [] σ) (fun a10017 x hf K => sb_X9_underOf_l17 hO hf K) _ _ _ hz10402 J10402
set_option maxHeartbeats 4000000 in
set_option maxRecDepth 100000 in
theorem m_X9_underOf {E : gj_E} {σ : gj_S} {b1 : Int32}  {x : Int32} (hf : f_X9_underOf b1 σ = some x) : gj_M E yX9_underOf cX9_underOf 5 (some .int) 2 43 [gj_r 188, gj_i b1] σ (some (gj_i x)) σ := by
  refine gj_body (lv := [(0, gj_r 188), (1, gj_i b1)]) (by decide +kernel) (Nat.le_of_ble_eq_true rfl) rfl (fun X hO => ?_)
  replace hO : gj_O E X RX9 cX9_underOf 5 (some .int) 2 43 := hO
  unfold f_X9_underOf at hf
  refine gj_iconst (v := 0) hO dX9_underOf_0 (by decide) ?_
  refine gj_istore_n (lv2 := [(2, gj_i (0 : Int32)), (0, gj_r 188), (1, gj_i b1)]) hO dX9_underOf_1 rfl (by decide) rfl ?_
  refine gj_iconst (v := 0) hO dX9_underOf_2 (by decide) ?_
  refine gj_istore_n (lv2 := [(3, gj_i (0 : Int32)), (2, gj_i (0 : Int32)), (0, gj_r 188), (1, gj_i b1)]) hO dX9_underOf_3 rfl (by decide) rfl ?_
  obtain ⟨z1, hz1, hf⟩ := gj_b hf
  have J1 : gj_G E X 5 (some (gj_i x)) σ 61 [(2, gj_i z1)] [] σ := by
    refine gj_iload_n hO 0 dX9_underOf_61 rfl rfl ?_
    obtain rfl := Option.some.inj hf
    exact gj_iret hO dX9_underOf_62
  refine gj_sub (lv2 := [(0, gj_r 188), (1, gj_i b1), (2, gj_i (0 : Int32)), (3, gj_i (0 : Int32))]) [2, 3, 1, 0] rfl ?_
  exact gj_loop (head := fun a10004 => gj_G E X 5 (some (gj_i x)) σ 4 [(0, gj_r 188), (1, gj_i b1), (2, gj_i a10004.1), (3, gj_i a10004.2)] [] σ) (exit := fun z1 => gj_G E X 5 (some (gj_i x)) σ 61 [(2, gj_i z1)] [] σ) (fun a10004 x hf K => by obtain ⟨a10004_0, a10004_1⟩ := a10004; exact sb_X9_underOf_l4 hO hf K) _ _ _ hz1 J1
set_option maxHeartbeats 4000000 in
set_option maxRecDepth 100000 in
theorem ca_X9_underOf {E : gj_E} {X : gj_X} {own : String} {cc : ByteArray} {nL : Nat} {rt : Option FieldType} {fr lo : Nat} {ce sl : Nat} {Q : State → Prop} {pc : Nat} {lv : List (Nat × gj_V)} {st : List gj_V} {σ : gj_S} (hO : gj_O E X own cc nL rt fr lo) (hw : gj_lt own 188) {b1 : Int32}  {idx : Nat} {x : Int32} (hf : f_X9_underOf b1 σ = some x) (hl : Cond.methodLink own idx yX9_underOf ∈ gj_gw) (hf1 : 3 ≤ fr) (hf2 : 67 ≤ lo) (hcat : ((st.map (gj_tv E.2.1)).map fun v => v.category).sum ≤ 8) (hd : decode cc pc = .ok (.invokevirtual idx, 3)) (k : gj_H E X nL ce sl Q (pc + 3) lv ((gj_i x) :: st) σ) : gj_H E X nL ce sl Q pc lv (gj_i b1 :: gj_r 188 :: st) σ :=
  gj_callV hO (o := 188) (vs := [gj_i b1]) (m_X9_underOf  hf) (gj_I9 hw) hl wk_798 wk_799 wk_629 wk_800 hw kd_188 (by decide) (ci := 9) rfl (n := 1) (by decide +kernel) rfl hf1 hf2 rfl hcat hd k
def f_X9_lackOf (b1 : Int32) (σ : gj_S) : Option Int32 := (if gj_in ((42 : Int32) + b1) 180 then (if (σ.1 198 (Int32.toNatClampNeg ((42 : Int32) + b1))) = 0 then (if gj_in (0 : Int32) 2 then (if gj_in (((50 : Int32) + (σ.1 191 (Int32.toNatClampNeg (0 : Int32)))) + b1) 180 then some (σ.1 198 (Int32.toNatClampNeg (((50 : Int32) + (σ.1 191 (Int32.toNatClampNeg (0 : Int32)))) + b1))) else none) else none) else some (0 : Int32)) else none)
set_option maxHeartbeats 4000000 in
set_option maxRecDepth 100000 in
theorem m_X9_lackOf {E : gj_E} {σ : gj_S} {b1 : Int32}  {x : Int32} (hf : f_X9_lackOf b1 σ = some x) : gj_M E yX9_lackOf cX9_lackOf 2 (some .int) 0 0 [gj_r 188, gj_i b1] σ (some (gj_i x)) σ := by
  refine gj_body (lv := [(0, gj_r 188), (1, gj_i b1)]) (by decide +kernel) (Nat.le_of_ble_eq_true rfl) rfl (fun X hO => ?_)
  replace hO : gj_O E X RX9 cX9_lackOf 2 (some .int) 0 0 := hO
  unfold f_X9_lackOf at hf
  refine gj_aload_n hO 0 dX9_lackOf_0 rfl rfl ?_
  refine gt_X9_21 hO wk_725 dX9_lackOf_1 ?_
  refine gj_bipush (v := 42) hO dX9_lackOf_4 (by decide) ?_
  refine gj_iload_n hO 1 dX9_lackOf_6 rfl rfl ?_
  refine gj_iadd hO dX9_lackOf_7 ?_
  obtain ⟨hb1, hf⟩ := gj_c hf
  refine gj_iald hO kl_198 kd_198 hb1 dX9_lackOf_8 ?_
  refine gj_if_ne (tgt := 31) hO dX9_lackOf_9 (by decide) (fun h => ?_) (fun h => ?_)
  · replace hf := gj_f h hf
    refine gj_iconst (v := 0) hO dX9_lackOf_31 (by decide) ?_
    obtain rfl := Option.some.inj hf
    exact gj_iret hO dX9_lackOf_32
  · replace hf := gj_t h hf
    refine gj_aload_n hO 0 dX9_lackOf_12 rfl rfl ?_
    refine gt_X9_21 hO wk_725 dX9_lackOf_13 ?_
    refine gj_bipush (v := 50) hO dX9_lackOf_16 (by decide) ?_
    refine gj_aload_n hO 0 dX9_lackOf_18 rfl rfl ?_
    refine gt_X9_12 hO wk_693 dX9_lackOf_19 ?_
    refine gj_iconst (v := 0) hO dX9_lackOf_22 (by decide) ?_
    obtain ⟨hb2, hf⟩ := gj_c hf
    refine gj_iald hO kl_191 kd_191 hb2 dX9_lackOf_23 ?_
    refine gj_iadd hO dX9_lackOf_24 ?_
    refine gj_iload_n hO 1 dX9_lackOf_25 rfl rfl ?_
    refine gj_iadd hO dX9_lackOf_26 ?_
    obtain ⟨hb3, hf⟩ := gj_c hf
    refine gj_iald hO kl_198 kd_198 hb3 dX9_lackOf_27 ?_
    refine gj_goto (tgt := 32) hO dX9_lackOf_28 (by decide) ?_
    obtain rfl := Option.some.inj hf
    exact gj_iret hO dX9_lackOf_32
set_option maxHeartbeats 4000000 in
set_option maxRecDepth 100000 in
theorem ca_X9_lackOf {E : gj_E} {X : gj_X} {own : String} {cc : ByteArray} {nL : Nat} {rt : Option FieldType} {fr lo : Nat} {ce sl : Nat} {Q : State → Prop} {pc : Nat} {lv : List (Nat × gj_V)} {st : List gj_V} {σ : gj_S} (hO : gj_O E X own cc nL rt fr lo) (hw : gj_lt own 188) {b1 : Int32}  {idx : Nat} {x : Int32} (hf : f_X9_lackOf b1 σ = some x) (hl : Cond.methodLink own idx yX9_lackOf ∈ gj_gw) (hf1 : 1 ≤ fr) (hf2 : 21 ≤ lo) (hcat : ((st.map (gj_tv E.2.1)).map fun v => v.category).sum ≤ 8) (hd : decode cc pc = .ok (.invokevirtual idx, 3)) (k : gj_H E X nL ce sl Q (pc + 3) lv ((gj_i x) :: st) σ) : gj_H E X nL ce sl Q pc lv (gj_i b1 :: gj_r 188 :: st) σ :=
  gj_callV hO (o := 188) (vs := [gj_i b1]) (m_X9_lackOf  hf) (gj_I9 hw) hl wk_801 wk_802 wk_629 wk_803 hw kd_188 (by decide) (ci := 9) rfl (n := 1) (by decide +kernel) rfl hf1 hf2 rfl hcat hd k
def f_X9_stuckOf (b1 : Int32) (σ : gj_S) : Option Int32 := (if gj_in ((42 : Int32) + b1) 180 then (if (σ.1 198 (Int32.toNatClampNeg ((42 : Int32) + b1))) = (1 : Int32) then (if gj_in (0 : Int32) 2 then (if gj_in (((50 : Int32) + (σ.1 191 (Int32.toNatClampNeg (0 : Int32)))) + b1) 180 then some (σ.1 198 (Int32.toNatClampNeg (((50 : Int32) + (σ.1 191 (Int32.toNatClampNeg (0 : Int32)))) + b1))) else none) else none) else some (0 : Int32)) else none)
set_option maxHeartbeats 4000000 in
set_option maxRecDepth 100000 in
theorem m_X9_stuckOf {E : gj_E} {σ : gj_S} {b1 : Int32}  {x : Int32} (hf : f_X9_stuckOf b1 σ = some x) : gj_M E yX9_stuckOf cX9_stuckOf 2 (some .int) 0 0 [gj_r 188, gj_i b1] σ (some (gj_i x)) σ := by
  refine gj_body (lv := [(0, gj_r 188), (1, gj_i b1)]) (by decide +kernel) (Nat.le_of_ble_eq_true rfl) rfl (fun X hO => ?_)
  replace hO : gj_O E X RX9 cX9_stuckOf 2 (some .int) 0 0 := hO
  unfold f_X9_stuckOf at hf
  refine gj_aload_n hO 0 dX9_stuckOf_0 rfl rfl ?_
  refine gt_X9_21 hO wk_725 dX9_stuckOf_1 ?_
  refine gj_bipush (v := 42) hO dX9_stuckOf_4 (by decide) ?_
  refine gj_iload_n hO 1 dX9_stuckOf_6 rfl rfl ?_
  refine gj_iadd hO dX9_stuckOf_7 ?_
  obtain ⟨hb1, hf⟩ := gj_c hf
  refine gj_iald hO kl_198 kd_198 hb1 dX9_stuckOf_8 ?_
  refine gj_iconst (v := 1) hO dX9_stuckOf_9 (by decide) ?_
  refine gj_icmp_ne (tgt := 32) hO dX9_stuckOf_10 (by decide) (fun h => ?_) (fun h => ?_)
  · replace hf := gj_f h hf
    refine gj_iconst (v := 0) hO dX9_stuckOf_32 (by decide) ?_
    obtain rfl := Option.some.inj hf
    exact gj_iret hO dX9_stuckOf_33
  · replace hf := gj_t h hf
    refine gj_aload_n hO 0 dX9_stuckOf_13 rfl rfl ?_
    refine gt_X9_21 hO wk_725 dX9_stuckOf_14 ?_
    refine gj_bipush (v := 50) hO dX9_stuckOf_17 (by decide) ?_
    refine gj_aload_n hO 0 dX9_stuckOf_19 rfl rfl ?_
    refine gt_X9_12 hO wk_693 dX9_stuckOf_20 ?_
    refine gj_iconst (v := 0) hO dX9_stuckOf_23 (by decide) ?_
    obtain ⟨hb2, hf⟩ := gj_c hf
    refine gj_iald hO kl_191 kd_191 hb2 dX9_stuckOf_24 ?_
    refine gj_iadd hO dX9_stuckOf_25 ?_
    refine gj_iload_n hO 1 dX9_stuckOf_26 rfl rfl ?_
    refine gj_iadd hO dX9_stuckOf_27 ?_
    obtain ⟨hb3, hf⟩ := gj_c hf
    refine gj_iald hO kl_198 kd_198 hb3 dX9_stuckOf_28 ?_
    refine gj_goto (tgt := 33) hO dX9_stuckOf_29 (by decide) ?_
    obtain rfl := Option.some.inj hf
    exact gj_iret hO dX9_stuckOf_33
set_option maxHeartbeats 4000000 in
set_option maxRecDepth 100000 in
theorem ca_X9_stuckOf {E : gj_E} {X : gj_X} {own : String} {cc : ByteArray} {nL : Nat} {rt : Option FieldType} {fr lo : Nat} {ce sl : Nat} {Q : State → Prop} {pc : Nat} {lv : List (Nat × gj_V)} {st : List gj_V} {σ : gj_S} (hO : gj_O E X own cc nL rt fr lo) (hw : gj_lt own 188) {b1 : Int32}  {idx : Nat} {x : Int32} (hf : f_X9_stuckOf b1 σ = some x) (hl : Cond.methodLink own idx yX9_stuckOf ∈ gj_gw) (hf1 : 1 ≤ fr) (hf2 : 21 ≤ lo) (hcat : ((st.map (gj_tv E.2.1)).map fun v => v.category).sum ≤ 8) (hd : decode cc pc = .ok (.invokevirtual idx, 3)) (k : gj_H E X nL ce sl Q (pc + 3) lv ((gj_i x) :: st) σ) : gj_H E X nL ce sl Q pc lv (gj_i b1 :: gj_r 188 :: st) σ :=
  gj_callV hO (o := 188) (vs := [gj_i b1]) (m_X9_stuckOf  hf) (gj_I9 hw) hl wk_804 wk_805 wk_629 wk_806 hw kd_188 (by decide) (ci := 9) rfl (n := 1) (by decide +kernel) rfl hf1 hf2 rfl hcat hd k
def f_X9_dock (b1 : Int32) (b2 : Int32) (σ : gj_S) : Option (Int32 × gj_S) := ((f_X9_isDock b1 σ).bind fun x1 => ((if x1 = 0 then some (1 : Int32) else ((f_X9_within (Int32.toInt64 b2) (0 : Int64) (6 : Int64)).bind fun x3 => (if x3 = 0 then some (1 : Int32) else some (0 : Int32))) : Option Int32).bind fun z2 => (if ((gj_sI σ 188 (upd (σ.1 188) 0 z2)).1 188 0) = (1 : Int32) then some ((0 : Int32), (gj_sI σ 188 (upd (σ.1 188) 0 z2))) else ((f_X9_laysTree (gj_sI σ 188 (upd (σ.1 188) 0 z2))).bind fun x4 => (if b2 = 0 then (if gj_in ((0 : Int32) + b1) 180 then some ((x4.1 198 (Int32.toNatClampNeg ((0 : Int32) + b1))), x4) else none) else (if b2 = 1 then (if gj_in b1 9 then some ((x4.1 205 (Int32.toNatClampNeg b1)), x4) else none) else (if b2 = 2 then (if gj_in b1 9 then some ((x4.1 204 (Int32.toNatClampNeg b1)), x4) else none) else (if b2 = 3 then (if gj_in b1 9 then some ((x4.1 203 (Int32.toNatClampNeg b1)), x4) else none) else (if b2 = 4 then ((f_X9_underOf b1 x4).bind fun x9 => some (x9, x4)) else (if b2 = 5 then ((f_X9_lackOf b1 x4).bind fun x10 => some (x10, x4)) else ((f_X9_stuckOf b1 x4).bind fun x11 => some (x11, x4))))))))))))
set_option maxHeartbeats 4000000 in
set_option maxRecDepth 100000 in
theorem m_X9_dock {E : gj_E} {σ : gj_S} {b1 : Int32} {b2 : Int32}  {x : Int32} {y : gj_S} (hf : f_X9_dock b1 b2 σ = some (x, y)) : gj_M E yX9_dock cX9_dock 3 (some .int) 3 67 [gj_r 188, gj_i b1, gj_i b2] σ (some (gj_i x)) y := by
  refine gj_body (lv := [(0, gj_r 188), (1, gj_i b1), (2, gj_i b2)]) (by decide +kernel) (Nat.le_of_ble_eq_true rfl) rfl (fun X hO => ?_)
  replace hO : gj_O E X RX9 cX9_dock 3 (some .int) 3 67 := hO
  unfold f_X9_dock at hf
  refine gj_aload_n hO 0 dX9_dock_0 rfl rfl ?_
  refine gj_aload_n hO 0 dX9_dock_1 rfl rfl ?_
  refine gj_iload_n hO 1 dX9_dock_2 rfl rfl ?_
  obtain ⟨x1, hc1, hf⟩ := gj_b hf
  refine ca_X9_isDock hO kl_188  hc1 wk_807 (by decide) (by decide) (Nat.le_of_ble_eq_true rfl) dX9_dock_3 ?_
  obtain ⟨z2, hz2, hf⟩ := gj_b hf
  have J2 : gj_G E X 3 (some (gj_i x)) y 26 [(0, gj_r 188), (1, gj_i b1), (2, gj_i b2)] [gj_i z2, gj_r 188] σ := by
    refine pt_X9_0 hO wk_636 dX9_dock_26 ?_
    refine gj_aload_n hO 0 dX9_dock_29 rfl rfl ?_
    refine gt_X9_0 hO wk_636 dX9_dock_30 ?_
    refine gj_iconst (v := 1) hO dX9_dock_33 (by decide) ?_
    refine gj_icmp_ne (tgt := 39) hO dX9_dock_34 (by decide) (fun h => ?_) (fun h => ?_)
    · replace hf := gj_f h hf
      refine gj_aload_n hO 0 dX9_dock_39 rfl rfl ?_
      obtain ⟨x4, hc4, hf⟩ := gj_b hf
      refine ca_X9_laysTree hO kl_188  hc4 wk_792 (by decide) (by decide) (Nat.le_of_ble_eq_true rfl) dX9_dock_40 ?_
      refine gj_iload_n hO 2 dX9_dock_43 rfl rfl ?_
      by_cases hs0 : b2 = 0
      · replace hf := gj_t hs0 hf
        refine gj_tblAt 0 (tgt := 84) hO dX9_dock_44 hs0 (by decide) (by decide) rfl (by decide) ?_
        refine gj_aload_n hO 0 dX9_dock_84 rfl rfl ?_
        refine gt_X9_21 hO wk_725 dX9_dock_85 ?_
        refine gj_iconst (v := 0) hO dX9_dock_88 (by decide) ?_
        refine gj_iload_n hO 1 dX9_dock_89 rfl rfl ?_
        refine gj_iadd hO dX9_dock_90 ?_
        obtain ⟨hb5, hf⟩ := gj_c hf
        refine gj_iald hO kl_198 kd_198 hb5 dX9_dock_91 ?_
        replace hf := Option.some.inj hf
        simp only [Prod.mk.injEq] at hf
        obtain ⟨rfl, rfl⟩ := hf
        exact gj_iret hO dX9_dock_92
      · replace hf := gj_f hs0 hf
        by_cases hs1 : b2 = 1
        · replace hf := gj_t hs1 hf
          refine gj_tblAt 1 (tgt := 93) hO dX9_dock_44 hs1 (by decide) (by decide) rfl (by decide) ?_
          refine gj_aload_n hO 0 dX9_dock_93 rfl rfl ?_
          refine gt_X9_29 hO wk_764 dX9_dock_94 ?_
          refine gj_iload_n hO 1 dX9_dock_97 rfl rfl ?_
          obtain ⟨hb6, hf⟩ := gj_c hf
          refine gj_iald hO kl_205 kd_205 hb6 dX9_dock_98 ?_
          replace hf := Option.some.inj hf
          simp only [Prod.mk.injEq] at hf
          obtain ⟨rfl, rfl⟩ := hf
          exact gj_iret hO dX9_dock_99
        · replace hf := gj_f hs1 hf
          by_cases hs2 : b2 = 2
          · replace hf := gj_t hs2 hf
            refine gj_tblAt 2 (tgt := 100) hO dX9_dock_44 hs2 (by decide) (by decide) rfl (by decide) ?_
            refine gj_aload_n hO 0 dX9_dock_100 rfl rfl ?_
            refine gt_X9_28 hO wk_763 dX9_dock_101 ?_
            refine gj_iload_n hO 1 dX9_dock_104 rfl rfl ?_
            obtain ⟨hb7, hf⟩ := gj_c hf
            refine gj_iald hO kl_204 kd_204 hb7 dX9_dock_105 ?_
            replace hf := Option.some.inj hf
            simp only [Prod.mk.injEq] at hf
            obtain ⟨rfl, rfl⟩ := hf
            exact gj_iret hO dX9_dock_106
          · replace hf := gj_f hs2 hf
            by_cases hs3 : b2 = 3
            · replace hf := gj_t hs3 hf
              refine gj_tblAt 3 (tgt := 107) hO dX9_dock_44 hs3 (by decide) (by decide) rfl (by decide) ?_
              refine gj_aload_n hO 0 dX9_dock_107 rfl rfl ?_
              refine gt_X9_27 hO wk_762 dX9_dock_108 ?_
              refine gj_iload_n hO 1 dX9_dock_111 rfl rfl ?_
              obtain ⟨hb8, hf⟩ := gj_c hf
              refine gj_iald hO kl_203 kd_203 hb8 dX9_dock_112 ?_
              replace hf := Option.some.inj hf
              simp only [Prod.mk.injEq] at hf
              obtain ⟨rfl, rfl⟩ := hf
              exact gj_iret hO dX9_dock_113
            · replace hf := gj_f hs3 hf
              by_cases hs4 : b2 = 4
              · replace hf := gj_t hs4 hf
                refine gj_tblAt 4 (tgt := 114) hO dX9_dock_44 hs4 (by decide) (by decide) rfl (by decide) ?_
                refine gj_aload_n hO 0 dX9_dock_114 rfl rfl ?_
                refine gj_iload_n hO 1 dX9_dock_115 rfl rfl ?_
                obtain ⟨x9, hc9, hf⟩ := gj_b hf
                refine ca_X9_underOf hO kl_188  hc9 wk_809 (by decide) (by decide) (Nat.le_of_ble_eq_true rfl) dX9_dock_116 ?_
                replace hf := Option.some.inj hf
                simp only [Prod.mk.injEq] at hf
                obtain ⟨rfl, rfl⟩ := hf
                exact gj_iret hO dX9_dock_119
              · replace hf := gj_f hs4 hf
                by_cases hs5 : b2 = 5
                · replace hf := gj_t hs5 hf
                  refine gj_tblAt 5 (tgt := 120) hO dX9_dock_44 hs5 (by decide) (by decide) rfl (by decide) ?_
                  refine gj_aload_n hO 0 dX9_dock_120 rfl rfl ?_
                  refine gj_iload_n hO 1 dX9_dock_121 rfl rfl ?_
                  obtain ⟨x10, hc10, hf⟩ := gj_b hf
                  refine ca_X9_lackOf hO kl_188  hc10 wk_810 (by decide) (by decide) (Nat.le_of_ble_eq_true rfl) dX9_dock_122 ?_
                  replace hf := Option.some.inj hf
                  simp only [Prod.mk.injEq] at hf
                  obtain ⟨rfl, rfl⟩ := hf
                  exact gj_iret hO dX9_dock_125
                · replace hf := gj_f hs5 hf
                  refine gj_tblOut (tgt := 126) hO dX9_dock_44 (gj_out5 hs0 hs1 hs2 hs3 hs4 hs5) (by decide) ?_
                  refine gj_aload_n hO 0 dX9_dock_126 rfl rfl ?_
                  refine gj_iload_n hO 1 dX9_dock_127 rfl rfl ?_
                  obtain ⟨x11, hc11, hf⟩ := gj_b hf
                  refine ca_X9_stuckOf hO kl_188  hc11 wk_811 (by decide) (by decide) (Nat.le_of_ble_eq_true rfl) dX9_dock_128 ?_
                  replace hf := Option.some.inj hf
                  simp only [Prod.mk.injEq] at hf
                  obtain ⟨rfl, rfl⟩ := hf
                  exact gj_iret hO dX9_dock_131
    · replace hf := gj_t h hf
      refine gj_iconst (v := 0) hO dX9_dock_37 (by decide) ?_
      replace hf := Option.some.inj hf
      simp only [Prod.mk.injEq] at hf
      obtain ⟨rfl, rfl⟩ := hf
      exact gj_iret hO dX9_dock_38
  refine gj_if_eq (tgt := 25) hO dX9_dock_6 (by decide) (fun h => ?_) (fun h => ?_)
  · replace hz2 := gj_t h hz2
    refine gj_iconst (v := 1) hO dX9_dock_25 (by decide) ?_
    obtain rfl := Option.some.inj hz2
    refine gj_sub (lv2 := [(0, gj_r 188), (1, gj_i b1), (2, gj_i b2)]) [0, 1, 2] rfl ?_
    exact J2
  · replace hz2 := gj_f h hz2
    refine gj_iload_n hO 2 dX9_dock_9 rfl rfl ?_
    refine gj_i2l hO dX9_dock_10 ?_
    refine gj_lconst (v := 0) hO dX9_dock_11 (by decide) ?_
    refine gj_ldc2 hO wk_808 dX9_dock_12 ?_
    obtain ⟨x3, hc3, hz2⟩ := gj_b hz2
    refine ca_X9_within hO kl_188  hc3 wk_653 (by decide) (by decide) (Nat.le_of_ble_eq_true rfl) dX9_dock_15 ?_
    refine gj_if_eq (tgt := 25) hO dX9_dock_18 (by decide) (fun h => ?_) (fun h => ?_)
    · replace hz2 := gj_t h hz2
      refine gj_iconst (v := 1) hO dX9_dock_25 (by decide) ?_
      obtain rfl := Option.some.inj hz2
      refine gj_sub (lv2 := [(0, gj_r 188), (1, gj_i b1), (2, gj_i b2)]) [0, 1, 2] rfl ?_
      exact J2
    · replace hz2 := gj_f h hz2
      refine gj_iconst (v := 0) hO dX9_dock_21 (by decide) ?_
      refine gj_goto (tgt := 26) hO dX9_dock_22 (by decide) ?_
      obtain rfl := Option.some.inj hz2
      refine gj_sub (lv2 := [(0, gj_r 188), (1, gj_i b1), (2, gj_i b2)]) [0, 1, 2] rfl ?_
      exact J2
set_option maxHeartbeats 4000000 in
set_option maxRecDepth 100000 in
theorem ca_X9_dock {E : gj_E} {X : gj_X} {own : String} {cc : ByteArray} {nL : Nat} {rt : Option FieldType} {fr lo : Nat} {ce sl : Nat} {Q : State → Prop} {pc : Nat} {lv : List (Nat × gj_V)} {st : List gj_V} {σ : gj_S} (hO : gj_O E X own cc nL rt fr lo) (hw : gj_lt own 188) {b1 : Int32} {b2 : Int32}  {idx : Nat} {x : Int32} {y : gj_S} (hf : f_X9_dock b1 b2 σ = some (x, y)) (hl : Cond.methodLink own idx yX9_dock ∈ gj_gw) (hf1 : 4 ≤ fr) (hf2 : 89 ≤ lo) (hcat : ((st.map (gj_tv E.2.1)).map fun v => v.category).sum ≤ 8) (hd : decode cc pc = .ok (.invokevirtual idx, 3)) (k : gj_H E X nL ce sl Q (pc + 3) lv ((gj_i x) :: st) y) : gj_H E X nL ce sl Q pc lv (gj_i b2 :: gj_i b1 :: gj_r 188 :: st) σ :=
  gj_callV hO (o := 188) (vs := [gj_i b1, gj_i b2]) (m_X9_dock  hf) (gj_I9 hw) hl wk_812 wk_813 wk_629 wk_814 hw kd_188 (by decide) (ci := 9) rfl (n := 2) (by decide +kernel) rfl hf1 hf2 rfl hcat hd k
def f_X9_told (b0 : Int32) : Option Int32 := (if b0 = (8 : Int32) then some (-1 : Int32) else some b0)
set_option maxHeartbeats 4000000 in
set_option maxRecDepth 100000 in
theorem m_X9_told {E : gj_E} {σ : gj_S} {b0 : Int32}  {x : Int32} (hf : f_X9_told b0 = some x) : gj_M E yX9_told cX9_told 1 (some .int) 0 0 [gj_i b0] σ (some (gj_i x)) σ := by
  refine gj_body (lv := [(0, gj_i b0)]) (by decide +kernel) (Nat.le_of_ble_eq_true rfl) rfl (fun X hO => ?_)
  replace hO : gj_O E X RX9 cX9_told 1 (some .int) 0 0 := hO
  unfold f_X9_told at hf
  refine gj_iload_n hO 0 dX9_told_0 rfl rfl ?_
  refine gj_bipush (v := 8) hO dX9_told_1 (by decide) ?_
  refine gj_icmp_ne (tgt := 10) hO dX9_told_3 (by decide) (fun h => ?_) (fun h => ?_)
  · replace hf := gj_f h hf
    refine gj_iload_n hO 0 dX9_told_10 rfl rfl ?_
    obtain rfl := Option.some.inj hf
    exact gj_iret hO dX9_told_11
  · replace hf := gj_t h hf
    refine gj_iconst (v := (-1)) hO dX9_told_6 (by decide) ?_
    refine gj_goto (tgt := 11) hO dX9_told_7 (by decide) ?_
    obtain rfl := Option.some.inj hf
    exact gj_iret hO dX9_told_11
set_option maxHeartbeats 4000000 in
set_option maxRecDepth 100000 in
theorem ca_X9_told {E : gj_E} {X : gj_X} {own : String} {cc : ByteArray} {nL : Nat} {rt : Option FieldType} {fr lo : Nat} {ce sl : Nat} {Q : State → Prop} {pc : Nat} {lv : List (Nat × gj_V)} {st : List gj_V} {σ : gj_S} (hO : gj_O E X own cc nL rt fr lo) (hw : gj_lt own 188) {b0 : Int32}  {idx : Nat} {x : Int32} (hf : f_X9_told b0 = some x) (hl : Cond.methodLink own idx yX9_told ∈ gj_gw) (hf1 : 1 ≤ fr) (hf2 : 20 ≤ lo) (hcat : ((st.map (gj_tv E.2.1)).map fun v => v.category).sum ≤ 8) (hd : decode cc pc = .ok (.invokestatic idx, 3)) (k : gj_H E X nL ce sl Q (pc + 3) lv ((gj_i x) :: st) σ) : gj_H E X nL ce sl Q pc lv (gj_i b0 :: st) σ :=
  gj_callS hO (vs := [gj_i b0]) (m_X9_told (σ := σ)  hf) (gj_I9 hw) hl wk_815 wk_629 wk_816 (n := 1) (by decide +kernel) rfl hf1 hf2 rfl hcat hd k
def f_X9_way (b1 : Int32) (b2 : Int32) (σ : gj_S) : Option (Int32 × gj_S) := ((f_X9_isWay b1 σ).bind fun x1 => ((if x1 = 0 then some (1 : Int32) else ((f_X9_within (Int32.toInt64 b2) (0 : Int64) (6 : Int64)).bind fun x3 => (if x3 = 0 then some (1 : Int32) else some (0 : Int32))) : Option Int32).bind fun z2 => (if ((gj_sI σ 188 (upd (σ.1 188) 0 z2)).1 188 0) = (1 : Int32) then some ((0 : Int32), (gj_sI σ 188 (upd (σ.1 188) 0 z2))) else ((f_X9_laysTree (gj_sI σ 188 (upd (σ.1 188) 0 z2))).bind fun x4 => (if b2 = 0 then ((f_X9_beginOf b1 x4).bind fun x5 => ((f_X9_told x5).bind fun x6 => some (x6, x4))) else (if b2 = 1 then ((f_X9_endOf b1 x4).bind fun x7 => ((f_X9_told x7).bind fun x8 => some (x8, x4))) else (if b2 = 2 then ((f_X9_costOf b1 x4).bind fun x9 => some (x9, x4)) else (if b2 = 3 then (if gj_in (0 : Int32) 2 then (if (x4.1 191 (Int32.toNatClampNeg (0 : Int32))) ≤ b1 then some ((-1 : Int32), x4) else (if gj_in ((24 : Int32) + b1) 180 then some ((x4.1 198 (Int32.toNatClampNeg ((24 : Int32) + b1))), x4) else none)) else none) else (if b2 = 4 then (if gj_in ((50 : Int32) + b1) 180 then some ((x4.1 198 (Int32.toNatClampNeg ((50 : Int32) + b1))), x4) else none) else (if b2 = 5 then (if gj_in ((74 : Int32) + b1) 180 then some ((x4.1 198 (Int32.toNatClampNeg ((74 : Int32) + b1))), x4) else none) else ((f_X9_gainOf b1 x4).bind fun x14 => some (x14, x4))))))))))))
set_option maxHeartbeats 4000000 in
set_option maxRecDepth 100000 in
theorem m_X9_way {E : gj_E} {σ : gj_S} {b1 : Int32} {b2 : Int32}  {x : Int32} {y : gj_S} (hf : f_X9_way b1 b2 σ = some (x, y)) : gj_M E yX9_way cX9_way 3 (some .int) 2 48 [gj_r 188, gj_i b1, gj_i b2] σ (some (gj_i x)) y := by
  refine gj_body (lv := [(0, gj_r 188), (1, gj_i b1), (2, gj_i b2)]) (by decide +kernel) (Nat.le_of_ble_eq_true rfl) rfl (fun X hO => ?_)
  replace hO : gj_O E X RX9 cX9_way 3 (some .int) 2 48 := hO
  unfold f_X9_way at hf
  refine gj_aload_n hO 0 dX9_way_0 rfl rfl ?_
  refine gj_aload_n hO 0 dX9_way_1 rfl rfl ?_
  refine gj_iload_n hO 1 dX9_way_2 rfl rfl ?_
  obtain ⟨x1, hc1, hf⟩ := gj_b hf
  refine ca_X9_isWay hO kl_188  hc1 wk_817 (by decide) (by decide) (Nat.le_of_ble_eq_true rfl) dX9_way_3 ?_
  obtain ⟨z2, hz2, hf⟩ := gj_b hf
  have J2 : gj_G E X 3 (some (gj_i x)) y 26 [(0, gj_r 188), (1, gj_i b1), (2, gj_i b2)] [gj_i z2, gj_r 188] σ := by
    refine pt_X9_0 hO wk_636 dX9_way_26 ?_
    refine gj_aload_n hO 0 dX9_way_29 rfl rfl ?_
    refine gt_X9_0 hO wk_636 dX9_way_30 ?_
    refine gj_iconst (v := 1) hO dX9_way_33 (by decide) ?_
    refine gj_icmp_ne (tgt := 39) hO dX9_way_34 (by decide) (fun h => ?_) (fun h => ?_)
    · replace hf := gj_f h hf
      refine gj_aload_n hO 0 dX9_way_39 rfl rfl ?_
      obtain ⟨x4, hc4, hf⟩ := gj_b hf
      refine ca_X9_laysTree hO kl_188  hc4 wk_792 (by decide) (by decide) (Nat.le_of_ble_eq_true rfl) dX9_way_40 ?_
      refine gj_iload_n hO 2 dX9_way_43 rfl rfl ?_
      by_cases hs0 : b2 = 0
      · replace hf := gj_t hs0 hf
        refine gj_tblAt 0 (tgt := 84) hO dX9_way_44 hs0 (by decide) (by decide) rfl (by decide) ?_
        refine gj_aload_n hO 0 dX9_way_84 rfl rfl ?_
        refine gj_iload_n hO 1 dX9_way_85 rfl rfl ?_
        obtain ⟨x5, hc5, hf⟩ := gj_b hf
        refine ca_X9_beginOf hO kl_188  hc5 wk_768 (by decide) (by decide) (Nat.le_of_ble_eq_true rfl) dX9_way_86 ?_
        obtain ⟨x6, hc6, hf⟩ := gj_b hf
        refine ca_X9_told hO kl_188  hc6 wk_818 (by decide) (by decide) (Nat.le_of_ble_eq_true rfl) dX9_way_89 ?_
        replace hf := Option.some.inj hf
        simp only [Prod.mk.injEq] at hf
        obtain ⟨rfl, rfl⟩ := hf
        exact gj_iret hO dX9_way_92
      · replace hf := gj_f hs0 hf
        by_cases hs1 : b2 = 1
        · replace hf := gj_t hs1 hf
          refine gj_tblAt 1 (tgt := 93) hO dX9_way_44 hs1 (by decide) (by decide) rfl (by decide) ?_
          refine gj_aload_n hO 0 dX9_way_93 rfl rfl ?_
          refine gj_iload_n hO 1 dX9_way_94 rfl rfl ?_
          obtain ⟨x7, hc7, hf⟩ := gj_b hf
          refine ca_X9_endOf hO kl_188  hc7 wk_769 (by decide) (by decide) (Nat.le_of_ble_eq_true rfl) dX9_way_95 ?_
          obtain ⟨x8, hc8, hf⟩ := gj_b hf
          refine ca_X9_told hO kl_188  hc8 wk_818 (by decide) (by decide) (Nat.le_of_ble_eq_true rfl) dX9_way_98 ?_
          replace hf := Option.some.inj hf
          simp only [Prod.mk.injEq] at hf
          obtain ⟨rfl, rfl⟩ := hf
          exact gj_iret hO dX9_way_101
        · replace hf := gj_f hs1 hf
          by_cases hs2 : b2 = 2
          · replace hf := gj_t hs2 hf
            refine gj_tblAt 2 (tgt := 102) hO dX9_way_44 hs2 (by decide) (by decide) rfl (by decide) ?_
            refine gj_aload_n hO 0 dX9_way_102 rfl rfl ?_
            refine gj_iload_n hO 1 dX9_way_103 rfl rfl ?_
            obtain ⟨x9, hc9, hf⟩ := gj_b hf
            refine ca_X9_costOf hO kl_188  hc9 wk_770 (by decide) (by decide) (Nat.le_of_ble_eq_true rfl) dX9_way_104 ?_
            replace hf := Option.some.inj hf
            simp only [Prod.mk.injEq] at hf
            obtain ⟨rfl, rfl⟩ := hf
            exact gj_iret hO dX9_way_107
          · replace hf := gj_f hs2 hf
            by_cases hs3 : b2 = 3
            · replace hf := gj_t hs3 hf
              refine gj_tblAt 3 (tgt := 108) hO dX9_way_44 hs3 (by decide) (by decide) rfl (by decide) ?_
              refine gj_iload_n hO 1 dX9_way_108 rfl rfl ?_
              refine gj_aload_n hO 0 dX9_way_109 rfl rfl ?_
              refine gt_X9_12 hO wk_693 dX9_way_110 ?_
              refine gj_iconst (v := 0) hO dX9_way_113 (by decide) ?_
              obtain ⟨hb10, hf⟩ := gj_c hf
              refine gj_iald hO kl_191 kd_191 hb10 dX9_way_114 ?_
              refine gj_icmp_ge (tgt := 130) hO dX9_way_115 (by decide) (fun h => ?_) (fun h => ?_)
              · replace hf := gj_t h hf
                refine gj_iconst (v := (-1)) hO dX9_way_130 (by decide) ?_
                replace hf := Option.some.inj hf
                simp only [Prod.mk.injEq] at hf
                obtain ⟨rfl, rfl⟩ := hf
                exact gj_iret hO dX9_way_131
              · replace hf := gj_f h hf
                refine gj_aload_n hO 0 dX9_way_118 rfl rfl ?_
                refine gt_X9_21 hO wk_725 dX9_way_119 ?_
                refine gj_bipush (v := 24) hO dX9_way_122 (by decide) ?_
                refine gj_iload_n hO 1 dX9_way_124 rfl rfl ?_
                refine gj_iadd hO dX9_way_125 ?_
                obtain ⟨hb11, hf⟩ := gj_c hf
                refine gj_iald hO kl_198 kd_198 hb11 dX9_way_126 ?_
                refine gj_goto (tgt := 131) hO dX9_way_127 (by decide) ?_
                replace hf := Option.some.inj hf
                simp only [Prod.mk.injEq] at hf
                obtain ⟨rfl, rfl⟩ := hf
                exact gj_iret hO dX9_way_131
            · replace hf := gj_f hs3 hf
              by_cases hs4 : b2 = 4
              · replace hf := gj_t hs4 hf
                refine gj_tblAt 4 (tgt := 132) hO dX9_way_44 hs4 (by decide) (by decide) rfl (by decide) ?_
                refine gj_aload_n hO 0 dX9_way_132 rfl rfl ?_
                refine gt_X9_21 hO wk_725 dX9_way_133 ?_
                refine gj_bipush (v := 50) hO dX9_way_136 (by decide) ?_
                refine gj_iload_n hO 1 dX9_way_138 rfl rfl ?_
                refine gj_iadd hO dX9_way_139 ?_
                obtain ⟨hb12, hf⟩ := gj_c hf
                refine gj_iald hO kl_198 kd_198 hb12 dX9_way_140 ?_
                replace hf := Option.some.inj hf
                simp only [Prod.mk.injEq] at hf
                obtain ⟨rfl, rfl⟩ := hf
                exact gj_iret hO dX9_way_141
              · replace hf := gj_f hs4 hf
                by_cases hs5 : b2 = 5
                · replace hf := gj_t hs5 hf
                  refine gj_tblAt 5 (tgt := 142) hO dX9_way_44 hs5 (by decide) (by decide) rfl (by decide) ?_
                  refine gj_aload_n hO 0 dX9_way_142 rfl rfl ?_
                  refine gt_X9_21 hO wk_725 dX9_way_143 ?_
                  refine gj_bipush (v := 74) hO dX9_way_146 (by decide) ?_
                  refine gj_iload_n hO 1 dX9_way_148 rfl rfl ?_
                  refine gj_iadd hO dX9_way_149 ?_
                  obtain ⟨hb13, hf⟩ := gj_c hf
                  refine gj_iald hO kl_198 kd_198 hb13 dX9_way_150 ?_
                  replace hf := Option.some.inj hf
                  simp only [Prod.mk.injEq] at hf
                  obtain ⟨rfl, rfl⟩ := hf
                  exact gj_iret hO dX9_way_151
                · replace hf := gj_f hs5 hf
                  refine gj_tblOut (tgt := 152) hO dX9_way_44 (gj_out5 hs0 hs1 hs2 hs3 hs4 hs5) (by decide) ?_
                  refine gj_aload_n hO 0 dX9_way_152 rfl rfl ?_
                  refine gj_iload_n hO 1 dX9_way_153 rfl rfl ?_
                  obtain ⟨x14, hc14, hf⟩ := gj_b hf
                  refine ca_X9_gainOf hO kl_188  hc14 wk_784 (by decide) (by decide) (Nat.le_of_ble_eq_true rfl) dX9_way_154 ?_
                  replace hf := Option.some.inj hf
                  simp only [Prod.mk.injEq] at hf
                  obtain ⟨rfl, rfl⟩ := hf
                  exact gj_iret hO dX9_way_157
    · replace hf := gj_t h hf
      refine gj_iconst (v := 0) hO dX9_way_37 (by decide) ?_
      replace hf := Option.some.inj hf
      simp only [Prod.mk.injEq] at hf
      obtain ⟨rfl, rfl⟩ := hf
      exact gj_iret hO dX9_way_38
  refine gj_if_eq (tgt := 25) hO dX9_way_6 (by decide) (fun h => ?_) (fun h => ?_)
  · replace hz2 := gj_t h hz2
    refine gj_iconst (v := 1) hO dX9_way_25 (by decide) ?_
    obtain rfl := Option.some.inj hz2
    refine gj_sub (lv2 := [(0, gj_r 188), (1, gj_i b1), (2, gj_i b2)]) [0, 1, 2] rfl ?_
    exact J2
  · replace hz2 := gj_f h hz2
    refine gj_iload_n hO 2 dX9_way_9 rfl rfl ?_
    refine gj_i2l hO dX9_way_10 ?_
    refine gj_lconst (v := 0) hO dX9_way_11 (by decide) ?_
    refine gj_ldc2 hO wk_808 dX9_way_12 ?_
    obtain ⟨x3, hc3, hz2⟩ := gj_b hz2
    refine ca_X9_within hO kl_188  hc3 wk_653 (by decide) (by decide) (Nat.le_of_ble_eq_true rfl) dX9_way_15 ?_
    refine gj_if_eq (tgt := 25) hO dX9_way_18 (by decide) (fun h => ?_) (fun h => ?_)
    · replace hz2 := gj_t h hz2
      refine gj_iconst (v := 1) hO dX9_way_25 (by decide) ?_
      obtain rfl := Option.some.inj hz2
      refine gj_sub (lv2 := [(0, gj_r 188), (1, gj_i b1), (2, gj_i b2)]) [0, 1, 2] rfl ?_
      exact J2
    · replace hz2 := gj_f h hz2
      refine gj_iconst (v := 0) hO dX9_way_21 (by decide) ?_
      refine gj_goto (tgt := 26) hO dX9_way_22 (by decide) ?_
      obtain rfl := Option.some.inj hz2
      refine gj_sub (lv2 := [(0, gj_r 188), (1, gj_i b1), (2, gj_i b2)]) [0, 1, 2] rfl ?_
      exact J2
set_option maxHeartbeats 4000000 in
set_option maxRecDepth 100000 in
theorem ca_X9_way {E : gj_E} {X : gj_X} {own : String} {cc : ByteArray} {nL : Nat} {rt : Option FieldType} {fr lo : Nat} {ce sl : Nat} {Q : State → Prop} {pc : Nat} {lv : List (Nat × gj_V)} {st : List gj_V} {σ : gj_S} (hO : gj_O E X own cc nL rt fr lo) (hw : gj_lt own 188) {b1 : Int32} {b2 : Int32}  {idx : Nat} {x : Int32} {y : gj_S} (hf : f_X9_way b1 b2 σ = some (x, y)) (hl : Cond.methodLink own idx yX9_way ∈ gj_gw) (hf1 : 3 ≤ fr) (hf2 : 70 ≤ lo) (hcat : ((st.map (gj_tv E.2.1)).map fun v => v.category).sum ≤ 8) (hd : decode cc pc = .ok (.invokevirtual idx, 3)) (k : gj_H E X nL ce sl Q (pc + 3) lv ((gj_i x) :: st) y) : gj_H E X nL ce sl Q pc lv (gj_i b2 :: gj_i b1 :: gj_r 188 :: st) σ :=
  gj_callV hO (o := 188) (vs := [gj_i b1, gj_i b2]) (m_X9_way  hf) (gj_I9 hw) hl wk_819 wk_820 wk_629 wk_821 hw kd_188 (by decide) (ci := 9) rfl (n := 2) (by decide +kernel) rfl hf1 hf2 rfl hcat hd k
def fb_X9_ranked_l26 (b1 : Int32) (b2 : Int32) (σ : gj_S) (a10026 : (Int32 × Int32)) : Option (Int32 ⊕ (Int32 × Int32)) := (if gj_in (0 : Int32) 2 then (if (σ.1 190 (Int32.toNatClampNeg (0 : Int32))) ≤ a10026.2 then some (.inl a10026.1) else (if gj_in a10026.2 9 then (if gj_in b2 9 then (if (σ.1 205 (Int32.toNatClampNeg a10026.2)) < (σ.1 205 (Int32.toNatClampNeg b2)) then some (.inr ((a10026.1 + (1 : Int32)), (a10026.2 + 1))) else (if gj_in a10026.2 9 then (if gj_in b2 9 then (if (σ.1 205 (Int32.toNatClampNeg a10026.2)) = (σ.1 205 (Int32.toNatClampNeg b2)) then (if b2 ≤ a10026.2 then some (.inr ((a10026.1 + (0 : Int32)), (a10026.2 + 1))) else some (.inr ((a10026.1 + (1 : Int32)), (a10026.2 + 1)))) else some (.inr ((a10026.1 + (0 : Int32)), (a10026.2 + 1)))) else none) else none)) else none) else none)) else none)
def fb_X9_ranked_l11 (b1 : Int32) (σ : gj_S) (a10011 : Int32) : Option (((Int32 × gj_S) ⊕ Unit) ⊕ Int32) := (if gj_in (0 : Int32) 2 then (if (σ.1 190 (Int32.toNatClampNeg (0 : Int32))) ≤ a10011 then some (.inl (.inr ())) else ((gj_lp (fb_X9_ranked_l26 b1 a10011 σ) 5000 ((0 : Int32), (0 : Int32))).bind fun z11102 => (if z11102 = b1 then some (.inl (.inl (a10011, σ))) else some (.inr (a10011 + 1))))) else none)
def f_X9_ranked (b1 : Int32) (σ : gj_S) : Option (Int32 × gj_S) := ((f_X9_laysTree (gj_sI σ 188 (upd (σ.1 188) 0 (0 : Int32)))).bind fun x1 => ((gj_lp (fb_X9_ranked_l11 b1 x1) 5000 (0 : Int32)).bind fun y2 => Sum.elim (fun q => some q) (fun z2 => some ((-1 : Int32), x1)) y2))
set_option maxHeartbeats 4000000 in
set_option maxRecDepth 100000 in
theorem sb_X9_ranked_l26 {E : gj_E} {X : gj_X} {r : Option gj_V} {τ : gj_S} (hO : gj_O E X RX9 cX9_ranked 5 (some .int) 2 48) {b1 : Int32} {b2 : Int32} {σ : gj_S} {a10026_0 : Int32} {a10026_1 : Int32} {x : Int32 ⊕ (Int32 × Int32)} (hf : fb_X9_ranked_l26 b1 b2 σ (a10026_0, a10026_1) = some x) (K : gj_K (fun z11102 => gj_G E X 5 r τ 89 [(0, gj_r 188), (1, gj_i b1), (2, gj_i b2), (3, gj_i z11102)] [] σ) (fun a10026 => gj_G E X 5 r τ 26 [(0, gj_r 188), (1, gj_i b1), (2, gj_i b2), (3, gj_i a10026.1), (4, gj_i a10026.2)] [] σ) x) : gj_G E X 5 r τ 26 [(0, gj_r 188), (1, gj_i b1), (2, gj_i b2), (3, gj_i a10026_0), (4, gj_i a10026_1)] [] σ := by
  unfold fb_X9_ranked_l26 at hf
  dsimp only at hf
  refine gj_iload hO 4 dX9_ranked_26 rfl ?_
  refine gj_aload_n hO 0 dX9_ranked_28 rfl rfl ?_
  refine gt_X9_11 hO wk_691 dX9_ranked_29 ?_
  refine gj_iconst (v := 0) hO dX9_ranked_32 (by decide) ?_
  obtain ⟨hb12601, hf⟩ := gj_c hf
  refine gj_iald hO kl_190 kd_190 hb12601 dX9_ranked_33 ?_
  refine gj_icmp_ge (tgt := 89) hO dX9_ranked_34 (by decide) (fun h => ?_) (fun h => ?_)
  · replace hf := gj_t h hf
    obtain rfl := Option.some.inj hf
    refine gj_sub (lv2 := [(0, gj_r 188), (1, gj_i b1), (2, gj_i b2), (3, gj_i a10026_0)]) [0, 1, 2, 3] rfl ?_
    exact K
  · replace hf := gj_f h hf
    refine gj_iload_n hO 3 dX9_ranked_37 rfl rfl ?_
    refine gj_aload_n hO 0 dX9_ranked_38 rfl rfl ?_
    refine gt_X9_29 hO wk_764 dX9_ranked_39 ?_
    refine gj_iload hO 4 dX9_ranked_42 rfl ?_
    obtain ⟨hb12602, hf⟩ := gj_c hf
    refine gj_iald hO kl_205 kd_205 hb12602 dX9_ranked_44 ?_
    refine gj_aload_n hO 0 dX9_ranked_45 rfl rfl ?_
    refine gt_X9_29 hO wk_764 dX9_ranked_46 ?_
    refine gj_iload_n hO 2 dX9_ranked_49 rfl rfl ?_
    obtain ⟨hb12603, hf⟩ := gj_c hf
    refine gj_iald hO kl_205 kd_205 hb12603 dX9_ranked_50 ?_
    refine gj_icmp_lt (tgt := 76) hO dX9_ranked_51 (by decide) (fun h => ?_) (fun h => ?_)
    · replace hf := gj_t h hf
      refine gj_iconst (v := 1) hO dX9_ranked_76 (by decide) ?_
      refine gj_goto (tgt := 81) hO dX9_ranked_77 (by decide) ?_
      refine gj_iadd hO dX9_ranked_81 ?_
      refine gj_istore_n (lv2 := [(3, gj_i (a10026_0 + (1 : Int32))), (0, gj_r 188), (1, gj_i b1), (2, gj_i b2), (4, gj_i a10026_1)]) hO dX9_ranked_82 rfl (by decide) rfl ?_
      refine gj_iinc (v := (a10026_1 + 1)) (lv2 := [(4, gj_i (a10026_1 + 1)), (3, gj_i (a10026_0 + (1 : Int32))), (0, gj_r 188), (1, gj_i b1), (2, gj_i b2)]) hO 4 dX9_ranked_83 rfl rfl (by decide) rfl ?_
      refine gj_goto (tgt := 26) hO dX9_ranked_86 (by decide) ?_
      obtain rfl := Option.some.inj hf
      refine gj_sub (lv2 := [(0, gj_r 188), (1, gj_i b1), (2, gj_i b2), (3, gj_i (a10026_0 + (1 : Int32))), (4, gj_i (a10026_1 + 1))]) [2, 3, 4, 1, 0] rfl ?_
      exact K
    · replace hf := gj_f h hf
      refine gj_aload_n hO 0 dX9_ranked_54 rfl rfl ?_
      refine gt_X9_29 hO wk_764 dX9_ranked_55 ?_
      refine gj_iload hO 4 dX9_ranked_58 rfl ?_
      obtain ⟨hb12604, hf⟩ := gj_c hf
      refine gj_iald hO kl_205 kd_205 hb12604 dX9_ranked_60 ?_
      refine gj_aload_n hO 0 dX9_ranked_61 rfl rfl ?_
      refine gt_X9_29 hO wk_764 dX9_ranked_62 ?_
      refine gj_iload_n hO 2 dX9_ranked_65 rfl rfl ?_
      obtain ⟨hb12605, hf⟩ := gj_c hf
      refine gj_iald hO kl_205 kd_205 hb12605 dX9_ranked_66 ?_
      refine gj_icmp_ne (tgt := 80) hO dX9_ranked_67 (by decide) (fun h => ?_) (fun h => ?_)
      · replace hf := gj_f h hf
        refine gj_iconst (v := 0) hO dX9_ranked_80 (by decide) ?_
        refine gj_iadd hO dX9_ranked_81 ?_
        refine gj_istore_n (lv2 := [(3, gj_i (a10026_0 + (0 : Int32))), (0, gj_r 188), (1, gj_i b1), (2, gj_i b2), (4, gj_i a10026_1)]) hO dX9_ranked_82 rfl (by decide) rfl ?_
        refine gj_iinc (v := (a10026_1 + 1)) (lv2 := [(4, gj_i (a10026_1 + 1)), (3, gj_i (a10026_0 + (0 : Int32))), (0, gj_r 188), (1, gj_i b1), (2, gj_i b2)]) hO 4 dX9_ranked_83 rfl rfl (by decide) rfl ?_
        refine gj_goto (tgt := 26) hO dX9_ranked_86 (by decide) ?_
        obtain rfl := Option.some.inj hf
        refine gj_sub (lv2 := [(0, gj_r 188), (1, gj_i b1), (2, gj_i b2), (3, gj_i (a10026_0 + (0 : Int32))), (4, gj_i (a10026_1 + 1))]) [2, 3, 4, 1, 0] rfl ?_
        exact K
      · replace hf := gj_t h hf
        refine gj_iload hO 4 dX9_ranked_70 rfl ?_
        refine gj_iload_n hO 2 dX9_ranked_72 rfl rfl ?_
        refine gj_icmp_ge (tgt := 80) hO dX9_ranked_73 (by decide) (fun h => ?_) (fun h => ?_)
        · replace hf := gj_t h hf
          refine gj_iconst (v := 0) hO dX9_ranked_80 (by decide) ?_
          refine gj_iadd hO dX9_ranked_81 ?_
          refine gj_istore_n (lv2 := [(3, gj_i (a10026_0 + (0 : Int32))), (0, gj_r 188), (1, gj_i b1), (2, gj_i b2), (4, gj_i a10026_1)]) hO dX9_ranked_82 rfl (by decide) rfl ?_
          refine gj_iinc (v := (a10026_1 + 1)) (lv2 := [(4, gj_i (a10026_1 + 1)), (3, gj_i (a10026_0 + (0 : Int32))), (0, gj_r 188), (1, gj_i b1), (2, gj_i b2)]) hO 4 dX9_ranked_83 rfl rfl (by decide) rfl ?_
          refine gj_goto (tgt := 26) hO dX9_ranked_86 (by decide) ?_
          obtain rfl := Option.some.inj hf
          refine gj_sub (lv2 := [(0, gj_r 188), (1, gj_i b1), (2, gj_i b2), (3, gj_i (a10026_0 + (0 : Int32))), (4, gj_i (a10026_1 + 1))]) [2, 3, 4, 1, 0] rfl ?_
          exact K
        · replace hf := gj_f h hf
          refine gj_iconst (v := 1) hO dX9_ranked_76 (by decide) ?_
          refine gj_goto (tgt := 81) hO dX9_ranked_77 (by decide) ?_
          refine gj_iadd hO dX9_ranked_81 ?_
          refine gj_istore_n (lv2 := [(3, gj_i (a10026_0 + (1 : Int32))), (0, gj_r 188), (1, gj_i b1), (2, gj_i b2), (4, gj_i a10026_1)]) hO dX9_ranked_82 rfl (by decide) rfl ?_
          refine gj_iinc (v := (a10026_1 + 1)) (lv2 := [(4, gj_i (a10026_1 + 1)), (3, gj_i (a10026_0 + (1 : Int32))), (0, gj_r 188), (1, gj_i b1), (2, gj_i b2)]) hO 4 dX9_ranked_83 rfl rfl (by decide) rfl ?_
          refine gj_goto (tgt := 26) hO dX9_ranked_86 (by decide) ?_
          obtain rfl := Option.some.inj hf
          refine gj_sub (lv2 := [(0, gj_r 188), (1, gj_i b1), (2, gj_i b2), (3, gj_i (a10026_0 + (1 : Int32))), (4, gj_i (a10026_1 + 1))]) [2, 3, 4, 1, 0] rfl ?_
          exact K
set_option maxHeartbeats 4000000 in
set_option maxRecDepth 100000 in
theorem sb_X9_ranked_l11 {E : gj_E} {X : gj_X} {r : Option gj_V} {τ : gj_S} (hO : gj_O E X RX9 cX9_ranked 5 (some .int) 2 48) {b1 : Int32} {σ : gj_S} {a10011 : Int32} {x : ((Int32 × gj_S) ⊕ Unit) ⊕ Int32} (hf : fb_X9_ranked_l11 b1 σ a10011 = some x) (K : gj_K (fun y2 => gj_K (fun q => r = (some (gj_i q.1)) ∧ τ = q.2) (fun z2 => gj_G E X 5 r τ 102 [] [] σ) y2) (fun a10011 => gj_G E X 5 r τ 11 [(0, gj_r 188), (1, gj_i b1), (2, gj_i a10011)] [] σ) x) : gj_G E X 5 r τ 11 [(0, gj_r 188), (1, gj_i b1), (2, gj_i a10011)] [] σ := by
  unfold fb_X9_ranked_l11 at hf
  refine gj_iload_n hO 2 dX9_ranked_11 rfl rfl ?_
  refine gj_aload_n hO 0 dX9_ranked_12 rfl rfl ?_
  refine gt_X9_11 hO wk_691 dX9_ranked_13 ?_
  refine gj_iconst (v := 0) hO dX9_ranked_16 (by decide) ?_
  obtain ⟨hb11101, hf⟩ := gj_c hf
  refine gj_iald hO kl_190 kd_190 hb11101 dX9_ranked_17 ?_
  refine gj_icmp_ge (tgt := 102) hO dX9_ranked_18 (by decide) (fun h => ?_) (fun h => ?_)
  · replace hf := gj_t h hf
    obtain rfl := Option.some.inj hf
    refine gj_sub (lv2 := []) [] rfl ?_
    exact K
  · replace hf := gj_f h hf
    refine gj_iconst (v := 0) hO dX9_ranked_21 (by decide) ?_
    refine gj_istore_n (lv2 := [(3, gj_i (0 : Int32)), (0, gj_r 188), (1, gj_i b1), (2, gj_i a10011)]) hO dX9_ranked_22 rfl (by decide) rfl ?_
    refine gj_iconst (v := 0) hO dX9_ranked_23 (by decide) ?_
    refine gj_istore (lv2 := [(4, gj_i (0 : Int32)), (3, gj_i (0 : Int32)), (0, gj_r 188), (1, gj_i b1), (2, gj_i a10011)]) hO dX9_ranked_24 (by decide) rfl ?_
    obtain ⟨z11102, hz11102, hf⟩ := gj_b hf
    have J11102 : gj_G E X 5 r τ 89 [(0, gj_r 188), (1, gj_i b1), (2, gj_i a10011), (3, gj_i z11102)] [] σ := by
      refine gj_iload_n hO 3 dX9_ranked_89 rfl rfl ?_
      refine gj_iload_n hO 1 dX9_ranked_90 rfl rfl ?_
      refine gj_icmp_ne (tgt := 96) hO dX9_ranked_91 (by decide) (fun h => ?_) (fun h => ?_)
      · replace hf := gj_f h hf
        refine gj_iinc (v := (a10011 + 1)) (lv2 := [(2, gj_i (a10011 + 1)), (0, gj_r 188), (1, gj_i b1), (3, gj_i z11102)]) hO 2 dX9_ranked_96 rfl rfl (by decide) rfl ?_
        refine gj_goto (tgt := 11) hO dX9_ranked_99 (by decide) ?_
        obtain rfl := Option.some.inj hf
        refine gj_sub (lv2 := [(0, gj_r 188), (1, gj_i b1), (2, gj_i (a10011 + 1))]) [1, 2, 0] rfl ?_
        exact K
      · replace hf := gj_t h hf
        refine gj_iload_n hO 2 dX9_ranked_94 rfl rfl ?_
        obtain rfl := Option.some.inj hf
        obtain ⟨rfl, rfl⟩ := K
        exact gj_iret hO dX9_ranked_95
    refine gj_sub (lv2 := [(0, gj_r 188), (1, gj_i b1), (2, gj_i a10011), (3, gj_i (0 : Int32)), (4, gj_i (0 : Int32))]) [2, 3, 4, 1, 0] rfl ?_
    exact gj_loop (head := fun a10026 => gj_G E X 5 r τ 26 [(0, gj_r 188), (1, gj_i b1), (2, gj_i a10011), (3, gj_i a10026.1), (4, gj_i a10026.2)] [] σ) (exit := fun z11102 => gj_G E X 5 r τ 89 [(0, gj_r 188), (1, gj_i b1), (2, gj_i a10011), (3, gj_i z11102)] [] σ) (fun a10026 x hf K => by obtain ⟨a10026_0, a10026_1⟩ := a10026; exact sb_X9_ranked_l26 hO hf K) _ _ _ hz11102 J11102
set_option maxHeartbeats 4000000 in
set_option maxRecDepth 100000 in
theorem m_X9_ranked {E : gj_E} {σ : gj_S} {b1 : Int32}  {x : Int32} {y : gj_S} (hf : f_X9_ranked b1 σ = some (x, y)) : gj_M E yX9_ranked cX9_ranked 5 (some .int) 2 48 [gj_r 188, gj_i b1] σ (some (gj_i x)) y := by
  refine gj_body (lv := [(0, gj_r 188), (1, gj_i b1)]) (by decide +kernel) (Nat.le_of_ble_eq_true rfl) rfl (fun X hO => ?_)
  replace hO : gj_O E X RX9 cX9_ranked 5 (some .int) 2 48 := hO
  unfold f_X9_ranked at hf
  refine gj_aload_n hO 0 dX9_ranked_0 rfl rfl ?_
  refine gj_iconst (v := 0) hO dX9_ranked_1 (by decide) ?_
  refine pt_X9_0 hO wk_636 dX9_ranked_2 ?_
  refine gj_aload_n hO 0 dX9_ranked_5 rfl rfl ?_
  obtain ⟨x1, hc1, hf⟩ := gj_b hf
  refine ca_X9_laysTree hO kl_188  hc1 wk_792 (by decide) (by decide) (Nat.le_of_ble_eq_true rfl) dX9_ranked_6 ?_
  refine gj_iconst (v := 0) hO dX9_ranked_9 (by decide) ?_
  refine gj_istore_n (lv2 := [(2, gj_i (0 : Int32)), (0, gj_r 188), (1, gj_i b1)]) hO dX9_ranked_10 rfl (by decide) rfl ?_
  obtain ⟨y2, hz2, hf⟩ := gj_b hf
  have J2 : (fun y2 => gj_K (fun q => (some (gj_i x)) = (some (gj_i q.1)) ∧ y = q.2) (fun z2 => gj_G E X 5 (some (gj_i x)) y 102 [] [] x1) y2) y2 := by
    rcases y2 with q | z2
    · have hf : some q = some (x, y) := hf
      obtain rfl := Option.some.inj hf
      exact ⟨rfl, rfl⟩
    · dsimp only [Sum.elim] at hf
      refine gj_iconst (v := (-1)) hO dX9_ranked_102 (by decide) ?_
      replace hf := Option.some.inj hf
      simp only [Prod.mk.injEq] at hf
      obtain ⟨rfl, rfl⟩ := hf
      exact gj_iret hO dX9_ranked_103
  refine gj_sub (lv2 := [(0, gj_r 188), (1, gj_i b1), (2, gj_i (0 : Int32))]) [1, 2, 0] rfl ?_
  exact gj_loop (head := fun a10011 => gj_G E X 5 (some (gj_i x)) y 11 [(0, gj_r 188), (1, gj_i b1), (2, gj_i a10011)] [] x1) (exit := fun y2 => gj_K (fun q => (some (gj_i x)) = (some (gj_i q.1)) ∧ y = q.2) (fun z2 => gj_G E X 5 (some (gj_i x)) y 102 [] [] x1) y2) (fun a10011 x hf K => sb_X9_ranked_l11 hO hf K) _ _ _ hz2 J2
set_option maxHeartbeats 4000000 in
set_option maxRecDepth 100000 in
theorem ca_X9_ranked {E : gj_E} {X : gj_X} {own : String} {cc : ByteArray} {nL : Nat} {rt : Option FieldType} {fr lo : Nat} {ce sl : Nat} {Q : State → Prop} {pc : Nat} {lv : List (Nat × gj_V)} {st : List gj_V} {σ : gj_S} (hO : gj_O E X own cc nL rt fr lo) (hw : gj_lt own 188) {b1 : Int32}  {idx : Nat} {x : Int32} {y : gj_S} (hf : f_X9_ranked b1 σ = some (x, y)) (hl : Cond.methodLink own idx yX9_ranked ∈ gj_gw) (hf1 : 3 ≤ fr) (hf2 : 72 ≤ lo) (hcat : ((st.map (gj_tv E.2.1)).map fun v => v.category).sum ≤ 8) (hd : decode cc pc = .ok (.invokevirtual idx, 3)) (k : gj_H E X nL ce sl Q (pc + 3) lv ((gj_i x) :: st) y) : gj_H E X nL ce sl Q pc lv (gj_i b1 :: gj_r 188 :: st) σ :=
  gj_callV hO (o := 188) (vs := [gj_i b1]) (m_X9_ranked  hf) (gj_I9 hw) hl wk_822 wk_823 wk_629 wk_824 hw kd_188 (by decide) (ci := 9) rfl (n := 1) (by decide +kernel) rfl hf1 hf2 rfl hcat hd k
