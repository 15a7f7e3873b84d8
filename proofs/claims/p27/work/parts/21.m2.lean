def f_X2_isNumber (b1 : Int32) (b2 : Int32) (σ : gj_S) : Option (Int32 × gj_S) := (if (σ.1 2 7) = (1 : Int32) then (if (lg_cmp (σ.2.1 2 9) (Int32.toInt64 b1)) < 0 then ((f_X2_fails (3 : Int32) σ).bind fun x1 => (if x1.1 = 0 then some ((0 : Int32), x1.2) else some ((1 : Int32), x1.2))) else (if (lg_cmp (σ.2.1 2 9) (Int32.toInt64 b2)) ≤ 0 then some ((1 : Int32), σ) else ((f_X2_fails (3 : Int32) σ).bind fun x2 => (if x2.1 = 0 then some ((0 : Int32), x2.2) else some ((1 : Int32), x2.2))))) else ((f_X2_fails (1 : Int32) σ).bind fun x3 => (if x3.1 = 0 ∨ x3.1 = 1 then some (x3.1, x3.2) else none)))
set_option maxHeartbeats 4000000 in
set_option maxRecDepth 100000 in
theorem m_X2_isNumber {E : gj_E} {σ : gj_S} {b1 : Int32} {b2 : Int32}  {x : Int32} {y : gj_S} (hf : f_X2_isNumber b1 b2 σ = some (x, y)) : gj_M E yX2_isNumber cX2_isNumber 3 (some .boolean) 1 21 [gj_r 2, gj_i b1, gj_i b2] σ (some (gj_i x)) y := by
  refine gj_body (lv := [(0, gj_r 2), (1, gj_i b1), (2, gj_i b2)]) (by decide +kernel) (Nat.le_of_ble_eq_true rfl) rfl (fun X hO => ?_)
  replace hO : gj_O E X RX2 cX2_isNumber 3 (some .boolean) 1 21 := hO
  unfold f_X2_isNumber at hf
  refine gj_aload_n hO 0 dX2_isNumber_0 rfl rfl ?_
  refine gt_X2_7 hO wk_26 dX2_isNumber_1 ?_
  refine gj_iconst (v := 1) hO dX2_isNumber_4 (by decide) ?_
  refine gj_icmp_eq (tgt := 14) hO dX2_isNumber_5 (by decide) (fun h => ?_) (fun h => ?_)
  · replace hf := gj_t h hf
    refine gj_aload_n hO 0 dX2_isNumber_14 rfl rfl ?_
    refine gt_X2_9 hO wk_24 dX2_isNumber_15 ?_
    refine gj_iload_n hO 1 dX2_isNumber_18 rfl rfl ?_
    refine gj_i2l hO dX2_isNumber_19 ?_
    refine gj_lcmp hO dX2_isNumber_20 ?_
    refine gj_if_lt (tgt := 34) hO dX2_isNumber_21 (by decide) (fun h => ?_) (fun h => ?_)
    · replace hf := gj_t h hf
      refine gj_aload_n hO 0 dX2_isNumber_34 rfl rfl ?_
      refine gj_iconst (v := 3) hO dX2_isNumber_35 (by decide) ?_
      obtain ⟨⟨x1_v, x1_s⟩, hc1, hf⟩ := gj_b hf
      dsimp only at hf
      refine ca_X2_fails hO  hc1 wk_59 (by decide) (by decide) (Nat.le_of_ble_eq_true rfl) dX2_isNumber_36 ?_
      refine gj_if_eq (tgt := 46) hO dX2_isNumber_39 (by decide) (fun h => ?_) (fun h => ?_)
      · replace hf := gj_t h hf
        refine gj_iconst (v := 0) hO dX2_isNumber_46 (by decide) ?_
        replace hf := Option.some.inj hf
        simp only [Prod.mk.injEq] at hf
        obtain ⟨rfl, rfl⟩ := hf
        exact gj_zret hO (Or.inl rfl) dX2_isNumber_47
      · replace hf := gj_f h hf
        refine gj_iconst (v := 1) hO dX2_isNumber_42 (by decide) ?_
        refine gj_goto (tgt := 47) hO dX2_isNumber_43 (by decide) ?_
        replace hf := Option.some.inj hf
        simp only [Prod.mk.injEq] at hf
        obtain ⟨rfl, rfl⟩ := hf
        exact gj_zret hO (Or.inr rfl) dX2_isNumber_47
    · replace hf := gj_f h hf
      refine gj_aload_n hO 0 dX2_isNumber_24 rfl rfl ?_
      refine gt_X2_9 hO wk_24 dX2_isNumber_25 ?_
      refine gj_iload_n hO 2 dX2_isNumber_28 rfl rfl ?_
      refine gj_i2l hO dX2_isNumber_29 ?_
      refine gj_lcmp hO dX2_isNumber_30 ?_
      refine gj_if_le (tgt := 42) hO dX2_isNumber_31 (by decide) (fun h => ?_) (fun h => ?_)
      · replace hf := gj_t h hf
        refine gj_iconst (v := 1) hO dX2_isNumber_42 (by decide) ?_
        refine gj_goto (tgt := 47) hO dX2_isNumber_43 (by decide) ?_
        replace hf := Option.some.inj hf
        simp only [Prod.mk.injEq] at hf
        obtain ⟨rfl, rfl⟩ := hf
        exact gj_zret hO (Or.inr rfl) dX2_isNumber_47
      · replace hf := gj_f h hf
        refine gj_aload_n hO 0 dX2_isNumber_34 rfl rfl ?_
        refine gj_iconst (v := 3) hO dX2_isNumber_35 (by decide) ?_
        obtain ⟨⟨x2_v, x2_s⟩, hc2, hf⟩ := gj_b hf
        dsimp only at hf
        refine ca_X2_fails hO  hc2 wk_59 (by decide) (by decide) (Nat.le_of_ble_eq_true rfl) dX2_isNumber_36 ?_
        refine gj_if_eq (tgt := 46) hO dX2_isNumber_39 (by decide) (fun h => ?_) (fun h => ?_)
        · replace hf := gj_t h hf
          refine gj_iconst (v := 0) hO dX2_isNumber_46 (by decide) ?_
          replace hf := Option.some.inj hf
          simp only [Prod.mk.injEq] at hf
          obtain ⟨rfl, rfl⟩ := hf
          exact gj_zret hO (Or.inl rfl) dX2_isNumber_47
        · replace hf := gj_f h hf
          refine gj_iconst (v := 1) hO dX2_isNumber_42 (by decide) ?_
          refine gj_goto (tgt := 47) hO dX2_isNumber_43 (by decide) ?_
          replace hf := Option.some.inj hf
          simp only [Prod.mk.injEq] at hf
          obtain ⟨rfl, rfl⟩ := hf
          exact gj_zret hO (Or.inr rfl) dX2_isNumber_47
  · replace hf := gj_f h hf
    refine gj_aload_n hO 0 dX2_isNumber_8 rfl rfl ?_
    refine gj_iconst (v := 1) hO dX2_isNumber_9 (by decide) ?_
    obtain ⟨⟨x3_v, x3_s⟩, hc3, hf⟩ := gj_b hf
    dsimp only at hf
    refine ca_X2_fails hO  hc3 wk_59 (by decide) (by decide) (Nat.le_of_ble_eq_true rfl) dX2_isNumber_10 ?_
    obtain ⟨hb4, hf⟩ := gj_c hf
    replace hf := Option.some.inj hf
    simp only [Prod.mk.injEq] at hf
    obtain ⟨rfl, rfl⟩ := hf
    exact gj_zret hO hb4 dX2_isNumber_13
set_option maxHeartbeats 4000000 in
set_option maxRecDepth 100000 in
theorem ca_X2_isNumber {E : gj_E} {X : gj_X} {own : String} {cc : ByteArray} {nL : Nat} {rt : Option FieldType} {fr lo : Nat} {ce sl : Nat} {Q : State → Prop} {pc : Nat} {lv : List (Nat × gj_V)} {st : List gj_V} {σ : gj_S} (hO : gj_O E X own cc nL rt fr lo) {b1 : Int32} {b2 : Int32}  {idx : Nat} {x : Int32} {y : gj_S} (hf : f_X2_isNumber b1 b2 σ = some (x, y)) (hl : Cond.methodLink own idx yX2_isNumber ∈ gj_gw) (hf1 : 2 ≤ fr) (hf2 : 43 ≤ lo) (hcat : ((st.map (gj_tv E.2.1)).map fun v => v.category).sum ≤ 8) (hd : decode cc pc = .ok (.invokevirtual idx, 3)) (k : gj_H E X nL ce sl Q (pc + 3) lv ((gj_i x) :: st) y) : gj_H E X nL ce sl Q pc lv (gj_i b2 :: gj_i b1 :: gj_r 2 :: st) σ :=
  gj_callV hO (o := 2) (vs := [gj_i b1, gj_i b2]) (m_X2_isNumber  hf) (gj_Iany (by decide)) hl wk_63 wk_64 wk_18 wk_65 kl_2 kd_2 (by decide) (ci := 2) rfl (n := 2) (by decide +kernel) rfl hf1 hf2 rfl hcat hd k
def f_X2_readDock  (σ : gj_S) : Option (Int32 × gj_S) := (if (σ.1 3 0) < (8 : Int32) then ((f_X2_readToken σ).bind fun x1 => ((f_X2_isNewName x1).bind fun x2 => (if x2.1 = 0 then some ((0 : Int32), x2.2) else (if gj_in (x2.2.1 3 0) 8 then (if gj_in (x2.2.1 3 0) 8 then ((some (gj_sI (gj_sJ x2.2 13 (vp_updL (x2.2.2.1 13) (Int32.toNatClampNeg (x2.2.1 3 0)) (x2.2.2.1 2 9))) 4 (upd ((gj_sJ x2.2 13 (vp_updL (x2.2.2.1 13) (Int32.toNatClampNeg (x2.2.1 3 0)) (x2.2.2.1 2 9))).1 4) (Int32.toNatClampNeg (x2.2.1 3 0)) (0 : Int32)))).bind fun s5 => ((f_X2_readToken (gj_sI s5 3 (upd (s5.1 3) 0 ((s5.1 3 0) + (1 : Int32))))).bind fun x6 => ((f_X2_isWord (444150998387 : Int64) x6).bind fun x7 => (if x7 = 0 then ((f_X2_isWord (499850634611 : Int64) x6).bind fun x14 => (if x14 = 0 then some ((1 : Int32), x6) else ((f_X2_isWord (444150998387 : Int64) x6).bind fun x15 => ((if x15 = 0 then some (-1 : Int32) else some (1 : Int32) : Option Int32).bind fun z16 => ((f_X2_readToken x6).bind fun x17 => ((f_X2_isNumber (0 : Int32) (999 : Int32) x17).bind fun x18 => (if x18.1 = 0 then some ((0 : Int32), x18.2) else (if gj_in (x2.2.1 3 0) 8 then ((f_X2_readToken (gj_sI x18.2 4 (upd (x18.2.1 4) (Int32.toNatClampNeg (x2.2.1 3 0)) (z16 * (Int64.toInt32 (x18.2.2.1 2 9)))))).bind fun x20 => some ((1 : Int32), x20)) else none)))))))) else ((f_X2_isWord (444150998387 : Int64) x6).bind fun x8 => ((if x8 = 0 then some (-1 : Int32) else some (1 : Int32) : Option Int32).bind fun z9 => ((f_X2_readToken x6).bind fun x10 => ((f_X2_isNumber (0 : Int32) (999 : Int32) x10).bind fun x11 => (if x11.1 = 0 then some ((0 : Int32), x11.2) else (if gj_in (x2.2.1 3 0) 8 then ((f_X2_readToken (gj_sI x11.2 4 (upd (x11.2.1 4) (Int32.toNatClampNeg (x2.2.1 3 0)) (z9 * (Int64.toInt32 (x11.2.2.1 2 9)))))).bind fun x13 => some ((1 : Int32), x13)) else none)))))))))) else none) else none)))) else ((f_X2_fails (5 : Int32) σ).bind fun x21 => (if x21.1 = 0 ∨ x21.1 = 1 then some (x21.1, x21.2) else none)))
set_option maxHeartbeats 4000000 in
set_option maxRecDepth 100000 in
theorem m_X2_readDock {E : gj_E} {σ : gj_S}   {x : Int32} {y : gj_S} (hf : f_X2_readDock  σ = some (x, y)) : gj_M E yX2_readDock cX2_readDock 3 (some .boolean) 2 43 [gj_r 2] σ (some (gj_i x)) y := by
  refine gj_body (lv := [(0, gj_r 2)]) (by decide +kernel) (Nat.le_of_ble_eq_true rfl) rfl (fun X hO => ?_)
  replace hO : gj_O E X RX2 cX2_readDock 3 (some .boolean) 2 43 := hO
  unfold f_X2_readDock at hf
  refine gj_aload_n hO 0 dX2_readDock_0 rfl rfl ?_
  refine gt_X2_0 hO wk_49 dX2_readDock_1 ?_
  refine gt_X1_0 hO kd_3 kl_3 wk_50 dX2_readDock_4 ?_
  refine gj_bipush (v := 8) hO dX2_readDock_7 (by decide) ?_
  refine gj_icmp_lt (tgt := 18) hO dX2_readDock_9 (by decide) (fun h => ?_) (fun h => ?_)
  · replace hf := gj_t h hf
    refine gj_aload_n hO 0 dX2_readDock_18 rfl rfl ?_
    obtain ⟨x1, hc1, hf⟩ := gj_b hf
    refine ca_X2_readToken hO  hc1 wk_66 (by decide) (by decide) (Nat.le_of_ble_eq_true rfl) dX2_readDock_19 ?_
    refine gj_aload_n hO 0 dX2_readDock_22 rfl rfl ?_
    obtain ⟨⟨x2_v, x2_s⟩, hc2, hf⟩ := gj_b hf
    dsimp only at hf
    refine ca_X2_isNewName hO  hc2 wk_67 (by decide) (by decide) (Nat.le_of_ble_eq_true rfl) dX2_readDock_23 ?_
    refine gj_if_ne (tgt := 31) hO dX2_readDock_26 (by decide) (fun h => ?_) (fun h => ?_)
    · replace hf := gj_f h hf
      refine gj_aload_n hO 0 dX2_readDock_31 rfl rfl ?_
      refine gt_X2_0 hO wk_49 dX2_readDock_32 ?_
      refine gt_X1_0 hO kd_3 kl_3 wk_50 dX2_readDock_35 ?_
      refine gj_istore_n (lv2 := [(1, gj_i (x2_s.1 3 0)), (0, gj_r 2)]) hO dX2_readDock_38 rfl (by decide) rfl ?_
      refine gj_aload_n hO 1 dX2_readDock_39 rfl rfl ?_
      refine gt_X2_2 hO wk_51 dX2_readDock_40 ?_
      refine gj_iload_n hO 0 dX2_readDock_43 rfl rfl ?_
      refine gj_aload_n hO 1 dX2_readDock_44 rfl rfl ?_
      refine gt_X2_9 hO wk_24 dX2_readDock_45 ?_
      obtain ⟨hb3, hf⟩ := gj_c hf
      refine gj_last hO kl_13 kd_13 hb3 dX2_readDock_48 ?_
      refine gj_aload_n hO 1 dX2_readDock_49 rfl rfl ?_
      refine gt_X2_0 hO wk_49 dX2_readDock_50 ?_
      refine gt_X1_5 hO kd_3 kl_3 wk_68 dX2_readDock_53 ?_
      refine gj_iload_n hO 0 dX2_readDock_56 rfl rfl ?_
      refine gj_iconst (v := 0) hO dX2_readDock_57 (by decide) ?_
      obtain ⟨hb4, hf⟩ := gj_c hf
      refine gj_iast hO kl_4 kd_4 hb4 dX2_readDock_58 ?_
      obtain ⟨s5, e5, hf⟩ := gj_b hf
      refine gj_eqS (Option.some.inj e5) ?_
      refine gj_aload_n hO 1 dX2_readDock_59 rfl rfl ?_
      refine gt_X2_0 hO wk_49 dX2_readDock_60 ?_
      refine gj_dup hO dX2_readDock_63 trivial ?_
      refine gt_X1_0 hO kd_3 kl_3 wk_50 dX2_readDock_64 ?_
      refine gj_iconst (v := 1) hO dX2_readDock_67 (by decide) ?_
      refine gj_iadd hO dX2_readDock_68 ?_
      refine pt_X1_0 hO kd_3 kl_3 wk_50 dX2_readDock_69 ?_
      refine gj_aload_n hO 1 dX2_readDock_72 rfl rfl ?_
      obtain ⟨x6, hc6, hf⟩ := gj_b hf
      refine ca_X2_readToken hO  hc6 wk_66 (by decide) (by decide) (Nat.le_of_ble_eq_true rfl) dX2_readDock_73 ?_
      refine gj_aload_n hO 1 dX2_readDock_76 rfl rfl ?_
      refine gj_ldc2 hO wk_40 dX2_readDock_77 ?_
      obtain ⟨x7, hc7, hf⟩ := gj_b hf
      refine ca_X2_isWord hO  hc7 wk_69 (by decide) (by decide) (Nat.le_of_ble_eq_true rfl) dX2_readDock_80 ?_
      refine gj_if_ne (tgt := 98) hO dX2_readDock_83 (by decide) (fun h => ?_) (fun h => ?_)
      · replace hf := gj_f h hf
        refine gj_aload_n hO 1 dX2_readDock_98 rfl rfl ?_
        refine gj_ldc2 hO wk_40 dX2_readDock_99 ?_
        obtain ⟨x8, hc8, hf⟩ := gj_b hf
        refine ca_X2_isWord hO  hc8 wk_69 (by decide) (by decide) (Nat.le_of_ble_eq_true rfl) dX2_readDock_102 ?_
        obtain ⟨z9, hz9, hf⟩ := gj_b hf
        have J9 : gj_G E X 3 (some (gj_i x)) y 113 [(0, gj_r 2), (1, gj_i (x2_s.1 3 0))] [gj_i z9] x6 := by
          refine gj_istore_n (lv2 := [(2, gj_i z9), (0, gj_r 2), (1, gj_i (x2_s.1 3 0))]) hO dX2_readDock_113 rfl (by decide) rfl ?_
          refine gj_aload_n hO 1 dX2_readDock_114 rfl rfl ?_
          obtain ⟨x10, hc10, hf⟩ := gj_b hf
          refine ca_X2_readToken hO  hc10 wk_66 (by decide) (by decide) (Nat.le_of_ble_eq_true rfl) dX2_readDock_115 ?_
          refine gj_aload_n hO 1 dX2_readDock_118 rfl rfl ?_
          refine gj_iconst (v := 0) hO dX2_readDock_119 (by decide) ?_
          refine gj_sipush (v := 999) hO dX2_readDock_120 (by decide) ?_
          obtain ⟨⟨x11_v, x11_s⟩, hc11, hf⟩ := gj_b hf
          dsimp only at hf
          refine ca_X2_isNumber hO  hc11 wk_70 (by decide) (by decide) (Nat.le_of_ble_eq_true rfl) dX2_readDock_123 ?_
          refine gj_if_ne (tgt := 131) hO dX2_readDock_126 (by decide) (fun h => ?_) (fun h => ?_)
          · replace hf := gj_f h hf
            refine gj_aload_n hO 1 dX2_readDock_131 rfl rfl ?_
            refine gt_X2_0 hO wk_49 dX2_readDock_132 ?_
            refine gt_X1_5 hO kd_3 kl_3 wk_68 dX2_readDock_135 ?_
            refine gj_iload_n hO 2 dX2_readDock_138 rfl rfl ?_
            refine gj_iload_n hO 0 dX2_readDock_139 rfl rfl ?_
            refine gj_aload_n hO 1 dX2_readDock_140 rfl rfl ?_
            refine gt_X2_9 hO wk_24 dX2_readDock_141 ?_
            refine gj_l2i hO dX2_readDock_144 ?_
            refine gj_imul hO dX2_readDock_145 ?_
            obtain ⟨hb12, hf⟩ := gj_c hf
            refine gj_iast hO kl_4 kd_4 hb12 dX2_readDock_146 ?_
            refine gj_aload_n hO 1 dX2_readDock_147 rfl rfl ?_
            obtain ⟨x13, hc13, hf⟩ := gj_b hf
            refine ca_X2_readToken hO  hc13 wk_66 (by decide) (by decide) (Nat.le_of_ble_eq_true rfl) dX2_readDock_148 ?_
            refine gj_iconst (v := 1) hO dX2_readDock_151 (by decide) ?_
            replace hf := Option.some.inj hf
            simp only [Prod.mk.injEq] at hf
            obtain ⟨rfl, rfl⟩ := hf
            exact gj_zret hO (Or.inr rfl) dX2_readDock_152
          · replace hf := gj_t h hf
            refine gj_iconst (v := 0) hO dX2_readDock_129 (by decide) ?_
            replace hf := Option.some.inj hf
            simp only [Prod.mk.injEq] at hf
            obtain ⟨rfl, rfl⟩ := hf
            exact gj_zret hO (Or.inl rfl) dX2_readDock_130
        refine gj_if_eq (tgt := 112) hO dX2_readDock_105 (by decide) (fun h => ?_) (fun h => ?_)
        · replace hz9 := gj_t h hz9
          refine gj_iconst (v := (-1)) hO dX2_readDock_112 (by decide) ?_
          obtain rfl := Option.some.inj hz9
          refine gj_sub (lv2 := [(0, gj_r 2), (1, gj_i (x2_s.1 3 0))]) [1, 0] rfl ?_
          exact J9
        · replace hz9 := gj_f h hz9
          refine gj_iconst (v := 1) hO dX2_readDock_108 (by decide) ?_
          refine gj_goto (tgt := 113) hO dX2_readDock_109 (by decide) ?_
          obtain rfl := Option.some.inj hz9
          refine gj_sub (lv2 := [(0, gj_r 2), (1, gj_i (x2_s.1 3 0))]) [1, 0] rfl ?_
          exact J9
      · replace hf := gj_t h hf
        refine gj_aload_n hO 1 dX2_readDock_86 rfl rfl ?_
        refine gj_ldc2 hO wk_41 dX2_readDock_87 ?_
        obtain ⟨x14, hc14, hf⟩ := gj_b hf
        refine ca_X2_isWord hO  hc14 wk_69 (by decide) (by decide) (Nat.le_of_ble_eq_true rfl) dX2_readDock_90 ?_
        refine gj_if_ne (tgt := 98) hO dX2_readDock_93 (by decide) (fun h => ?_) (fun h => ?_)
        · replace hf := gj_f h hf
          refine gj_aload_n hO 1 dX2_readDock_98 rfl rfl ?_
          refine gj_ldc2 hO wk_40 dX2_readDock_99 ?_
          obtain ⟨x15, hc15, hf⟩ := gj_b hf
          refine ca_X2_isWord hO  hc15 wk_69 (by decide) (by decide) (Nat.le_of_ble_eq_true rfl) dX2_readDock_102 ?_
          obtain ⟨z16, hz16, hf⟩ := gj_b hf
          have J16 : gj_G E X 3 (some (gj_i x)) y 113 [(0, gj_r 2), (1, gj_i (x2_s.1 3 0))] [gj_i z16] x6 := by
            refine gj_istore_n (lv2 := [(2, gj_i z16), (0, gj_r 2), (1, gj_i (x2_s.1 3 0))]) hO dX2_readDock_113 rfl (by decide) rfl ?_
            refine gj_aload_n hO 1 dX2_readDock_114 rfl rfl ?_
            obtain ⟨x17, hc17, hf⟩ := gj_b hf
            refine ca_X2_readToken hO  hc17 wk_66 (by decide) (by decide) (Nat.le_of_ble_eq_true rfl) dX2_readDock_115 ?_
            refine gj_aload_n hO 1 dX2_readDock_118 rfl rfl ?_
            refine gj_iconst (v := 0) hO dX2_readDock_119 (by decide) ?_
            refine gj_sipush (v := 999) hO dX2_readDock_120 (by decide) ?_
            obtain ⟨⟨x18_v, x18_s⟩, hc18, hf⟩ := gj_b hf
            dsimp only at hf
            refine ca_X2_isNumber hO  hc18 wk_70 (by decide) (by decide) (Nat.le_of_ble_eq_true rfl) dX2_readDock_123 ?_
            refine gj_if_ne (tgt := 131) hO dX2_readDock_126 (by decide) (fun h => ?_) (fun h => ?_)
            · replace hf := gj_f h hf
              refine gj_aload_n hO 1 dX2_readDock_131 rfl rfl ?_
              refine gt_X2_0 hO wk_49 dX2_readDock_132 ?_
              refine gt_X1_5 hO kd_3 kl_3 wk_68 dX2_readDock_135 ?_
              refine gj_iload_n hO 2 dX2_readDock_138 rfl rfl ?_
              refine gj_iload_n hO 0 dX2_readDock_139 rfl rfl ?_
              refine gj_aload_n hO 1 dX2_readDock_140 rfl rfl ?_
              refine gt_X2_9 hO wk_24 dX2_readDock_141 ?_
              refine gj_l2i hO dX2_readDock_144 ?_
              refine gj_imul hO dX2_readDock_145 ?_
              obtain ⟨hb19, hf⟩ := gj_c hf
              refine gj_iast hO kl_4 kd_4 hb19 dX2_readDock_146 ?_
              refine gj_aload_n hO 1 dX2_readDock_147 rfl rfl ?_
              obtain ⟨x20, hc20, hf⟩ := gj_b hf
              refine ca_X2_readToken hO  hc20 wk_66 (by decide) (by decide) (Nat.le_of_ble_eq_true rfl) dX2_readDock_148 ?_
              refine gj_iconst (v := 1) hO dX2_readDock_151 (by decide) ?_
              replace hf := Option.some.inj hf
              simp only [Prod.mk.injEq] at hf
              obtain ⟨rfl, rfl⟩ := hf
              exact gj_zret hO (Or.inr rfl) dX2_readDock_152
            · replace hf := gj_t h hf
              refine gj_iconst (v := 0) hO dX2_readDock_129 (by decide) ?_
              replace hf := Option.some.inj hf
              simp only [Prod.mk.injEq] at hf
              obtain ⟨rfl, rfl⟩ := hf
              exact gj_zret hO (Or.inl rfl) dX2_readDock_130
          refine gj_if_eq (tgt := 112) hO dX2_readDock_105 (by decide) (fun h => ?_) (fun h => ?_)
          · replace hz16 := gj_t h hz16
            refine gj_iconst (v := (-1)) hO dX2_readDock_112 (by decide) ?_
            obtain rfl := Option.some.inj hz16
            refine gj_sub (lv2 := [(0, gj_r 2), (1, gj_i (x2_s.1 3 0))]) [1, 0] rfl ?_
            exact J16
          · replace hz16 := gj_f h hz16
            refine gj_iconst (v := 1) hO dX2_readDock_108 (by decide) ?_
            refine gj_goto (tgt := 113) hO dX2_readDock_109 (by decide) ?_
            obtain rfl := Option.some.inj hz16
            refine gj_sub (lv2 := [(0, gj_r 2), (1, gj_i (x2_s.1 3 0))]) [1, 0] rfl ?_
            exact J16
        · replace hf := gj_t h hf
          refine gj_iconst (v := 1) hO dX2_readDock_96 (by decide) ?_
          replace hf := Option.some.inj hf
          simp only [Prod.mk.injEq] at hf
          obtain ⟨rfl, rfl⟩ := hf
          exact gj_zret hO (Or.inr rfl) dX2_readDock_97
    · replace hf := gj_t h hf
      refine gj_iconst (v := 0) hO dX2_readDock_29 (by decide) ?_
      replace hf := Option.some.inj hf
      simp only [Prod.mk.injEq] at hf
      obtain ⟨rfl, rfl⟩ := hf
      exact gj_zret hO (Or.inl rfl) dX2_readDock_30
  · replace hf := gj_f h hf
    refine gj_aload_n hO 0 dX2_readDock_12 rfl rfl ?_
    refine gj_iconst (v := 5) hO dX2_readDock_13 (by decide) ?_
    obtain ⟨⟨x21_v, x21_s⟩, hc21, hf⟩ := gj_b hf
    dsimp only at hf
    refine ca_X2_fails hO  hc21 wk_59 (by decide) (by decide) (Nat.le_of_ble_eq_true rfl) dX2_readDock_14 ?_
    obtain ⟨hb22, hf⟩ := gj_c hf
    replace hf := Option.some.inj hf
    simp only [Prod.mk.injEq] at hf
    obtain ⟨rfl, rfl⟩ := hf
    exact gj_zret hO hb22 dX2_readDock_17
set_option maxHeartbeats 4000000 in
set_option maxRecDepth 100000 in
theorem ca_X2_readDock {E : gj_E} {X : gj_X} {own : String} {cc : ByteArray} {nL : Nat} {rt : Option FieldType} {fr lo : Nat} {ce sl : Nat} {Q : State → Prop} {pc : Nat} {lv : List (Nat × gj_V)} {st : List gj_V} {σ : gj_S} (hO : gj_O E X own cc nL rt fr lo)   {idx : Nat} {x : Int32} {y : gj_S} (hf : f_X2_readDock  σ = some (x, y)) (hl : Cond.methodLink own idx yX2_readDock ∈ gj_gw) (hf1 : 3 ≤ fr) (hf2 : 65 ≤ lo) (hcat : ((st.map (gj_tv E.2.1)).map fun v => v.category).sum ≤ 8) (hd : decode cc pc = .ok (.invokevirtual idx, 3)) (k : gj_H E X nL ce sl Q (pc + 3) lv ((gj_i x) :: st) y) : gj_H E X nL ce sl Q pc lv (gj_r 2 :: st) σ :=
  gj_callV hO (o := 2) (vs := []) (m_X2_readDock  hf) (gj_Iany (by decide)) hl wk_71 wk_72 wk_18 wk_73 kl_2 kd_2 (by decide) (ci := 2) rfl (n := 0) (by decide +kernel) rfl hf1 hf2 rfl hcat hd k
def f_X2_readRouteName (b1 : Int32) (σ : gj_S) : Option (Int32 × gj_S) := (if b1 < (16 : Int32) then ((f_X2_readToken σ).bind fun x1 => ((f_X2_isNewName x1).bind fun x2 => (if x2.1 = 0 then some ((0 : Int32), x2.2) else (if gj_in b1 16 then ((some (gj_sI (gj_sJ x2.2 12 (vp_updL (x2.2.2.1 12) (Int32.toNatClampNeg b1) (x2.2.2.1 2 9))) 3 (upd ((gj_sJ x2.2 12 (vp_updL (x2.2.2.1 12) (Int32.toNatClampNeg b1) (x2.2.2.1 2 9))).1 3) 1 (((gj_sJ x2.2 12 (vp_updL (x2.2.2.1 12) (Int32.toNatClampNeg b1) (x2.2.2.1 2 9))).1 3 1) + (1 : Int32))))).bind fun s4 => some ((1 : Int32), s4)) else none)))) else ((f_X2_fails (5 : Int32) σ).bind fun x5 => (if x5.1 = 0 ∨ x5.1 = 1 then some (x5.1, x5.2) else none)))
set_option maxHeartbeats 4000000 in
set_option maxRecDepth 100000 in
theorem m_X2_readRouteName {E : gj_E} {σ : gj_S} {b1 : Int32}  {x : Int32} {y : gj_S} (hf : f_X2_readRouteName b1 σ = some (x, y)) : gj_M E yX2_readRouteName cX2_readRouteName 2 (some .boolean) 2 42 [gj_r 2, gj_i b1] σ (some (gj_i x)) y := by
  refine gj_body (lv := [(0, gj_r 2), (1, gj_i b1)]) (by decide +kernel) (Nat.le_of_ble_eq_true rfl) rfl (fun X hO => ?_)
  replace hO : gj_O E X RX2 cX2_readRouteName 2 (some .boolean) 2 42 := hO
  unfold f_X2_readRouteName at hf
  refine gj_iload_n hO 1 dX2_readRouteName_0 rfl rfl ?_
  refine gj_bipush (v := 16) hO dX2_readRouteName_1 (by decide) ?_
  refine gj_icmp_lt (tgt := 12) hO dX2_readRouteName_3 (by decide) (fun h => ?_) (fun h => ?_)
  · replace hf := gj_t h hf
    refine gj_aload_n hO 0 dX2_readRouteName_12 rfl rfl ?_
    obtain ⟨x1, hc1, hf⟩ := gj_b hf
    refine ca_X2_readToken hO  hc1 wk_66 (by decide) (by decide) (Nat.le_of_ble_eq_true rfl) dX2_readRouteName_13 ?_
    refine gj_aload_n hO 0 dX2_readRouteName_16 rfl rfl ?_
    obtain ⟨⟨x2_v, x2_s⟩, hc2, hf⟩ := gj_b hf
    dsimp only at hf
    refine ca_X2_isNewName hO  hc2 wk_67 (by decide) (by decide) (Nat.le_of_ble_eq_true rfl) dX2_readRouteName_17 ?_
    refine gj_if_ne (tgt := 25) hO dX2_readRouteName_20 (by decide) (fun h => ?_) (fun h => ?_)
    · replace hf := gj_f h hf
      refine gj_aload_n hO 0 dX2_readRouteName_25 rfl rfl ?_
      refine gt_X2_1 hO wk_58 dX2_readRouteName_26 ?_
      refine gj_iload_n hO 1 dX2_readRouteName_29 rfl rfl ?_
      refine gj_aload_n hO 0 dX2_readRouteName_30 rfl rfl ?_
      refine gt_X2_9 hO wk_24 dX2_readRouteName_31 ?_
      obtain ⟨hb3, hf⟩ := gj_c hf
      refine gj_last hO kl_12 kd_12 hb3 dX2_readRouteName_34 ?_
      refine gj_aload_n hO 0 dX2_readRouteName_35 rfl rfl ?_
      refine gt_X2_0 hO wk_49 dX2_readRouteName_36 ?_
      refine gj_dup hO dX2_readRouteName_39 trivial ?_
      refine gt_X1_1 hO kd_3 kl_3 wk_57 dX2_readRouteName_40 ?_
      refine gj_iconst (v := 1) hO dX2_readRouteName_43 (by decide) ?_
      refine gj_iadd hO dX2_readRouteName_44 ?_
      refine pt_X1_1 hO kd_3 kl_3 wk_57 dX2_readRouteName_45 ?_
      obtain ⟨s4, e4, hf⟩ := gj_b hf
      refine gj_eqS (Option.some.inj e4) ?_
      refine gj_iconst (v := 1) hO dX2_readRouteName_48 (by decide) ?_
      replace hf := Option.some.inj hf
      simp only [Prod.mk.injEq] at hf
      obtain ⟨rfl, rfl⟩ := hf
      exact gj_zret hO (Or.inr rfl) dX2_readRouteName_49
    · replace hf := gj_t h hf
      refine gj_iconst (v := 0) hO dX2_readRouteName_23 (by decide) ?_
      replace hf := Option.some.inj hf
      simp only [Prod.mk.injEq] at hf
      obtain ⟨rfl, rfl⟩ := hf
      exact gj_zret hO (Or.inl rfl) dX2_readRouteName_24
  · replace hf := gj_f h hf
    refine gj_aload_n hO 0 dX2_readRouteName_6 rfl rfl ?_
    refine gj_iconst (v := 5) hO dX2_readRouteName_7 (by decide) ?_
    obtain ⟨⟨x5_v, x5_s⟩, hc5, hf⟩ := gj_b hf
    dsimp only at hf
    refine ca_X2_fails hO  hc5 wk_59 (by decide) (by decide) (Nat.le_of_ble_eq_true rfl) dX2_readRouteName_8 ?_
    obtain ⟨hb6, hf⟩ := gj_c hf
    replace hf := Option.some.inj hf
    simp only [Prod.mk.injEq] at hf
    obtain ⟨rfl, rfl⟩ := hf
    exact gj_zret hO hb6 dX2_readRouteName_11
set_option maxHeartbeats 4000000 in
set_option maxRecDepth 100000 in
theorem ca_X2_readRouteName {E : gj_E} {X : gj_X} {own : String} {cc : ByteArray} {nL : Nat} {rt : Option FieldType} {fr lo : Nat} {ce sl : Nat} {Q : State → Prop} {pc : Nat} {lv : List (Nat × gj_V)} {st : List gj_V} {σ : gj_S} (hO : gj_O E X own cc nL rt fr lo) {b1 : Int32}  {idx : Nat} {x : Int32} {y : gj_S} (hf : f_X2_readRouteName b1 σ = some (x, y)) (hl : Cond.methodLink own idx yX2_readRouteName ∈ gj_gw) (hf1 : 3 ≤ fr) (hf2 : 63 ≤ lo) (hcat : ((st.map (gj_tv E.2.1)).map fun v => v.category).sum ≤ 8) (hd : decode cc pc = .ok (.invokevirtual idx, 3)) (k : gj_H E X nL ce sl Q (pc + 3) lv ((gj_i x) :: st) y) : gj_H E X nL ce sl Q pc lv (gj_i b1 :: gj_r 2 :: st) σ :=
  gj_callV hO (o := 2) (vs := [gj_i b1]) (m_X2_readRouteName  hf) (gj_Iany (by decide)) hl wk_74 wk_75 wk_18 wk_76 kl_2 kd_2 (by decide) (ci := 2) rfl (n := 1) (by decide +kernel) rfl hf1 hf2 rfl hcat hd k
def f_X2_findDock (b1 : Int32) (σ : gj_S) : Option (Int32 × gj_S) := ((f_X2_isName σ).bind fun x1 => ((if x1 = 0 then some (-1 : Int32) else ((f_X2_numberOfDock σ).bind fun x3 => some x3) : Option Int32).bind fun z2 => (if z2 = (-1 : Int32) then ((f_X2_isName σ).bind fun x4 => (if x4 = 0 then ((f_X2_fails (1 : Int32) σ).bind fun x5 => some ((-1 : Int32), x5.2)) else ((f_X2_fails (4 : Int32) σ).bind fun x6 => some ((-1 : Int32), x6.2)))) else (if z2 = b1 then ((f_X2_isName σ).bind fun x7 => (if x7 = 0 then ((f_X2_fails (1 : Int32) σ).bind fun x8 => some ((-1 : Int32), x8.2)) else ((f_X2_fails (4 : Int32) σ).bind fun x9 => some ((-1 : Int32), x9.2)))) else some (z2, σ)))))
set_option maxHeartbeats 4000000 in
set_option maxRecDepth 100000 in
theorem m_X2_findDock {E : gj_E} {σ : gj_S} {b1 : Int32}  {x : Int32} {y : gj_S} (hf : f_X2_findDock b1 σ = some (x, y)) : gj_M E yX2_findDock cX2_findDock 3 (some .int) 1 21 [gj_r 2, gj_i b1] σ (some (gj_i x)) y := by
  refine gj_body (lv := [(0, gj_r 2), (1, gj_i b1)]) (by decide +kernel) (Nat.le_of_ble_eq_true rfl) rfl (fun X hO => ?_)
  replace hO : gj_O E X RX2 cX2_findDock 3 (some .int) 1 21 := hO
  unfold f_X2_findDock at hf
  refine gj_aload_n hO 0 dX2_findDock_0 rfl rfl ?_
  obtain ⟨x1, hc1, hf⟩ := gj_b hf
  refine ca_X2_isName hO  hc1 wk_55 (by decide) (by decide) (Nat.le_of_ble_eq_true rfl) dX2_findDock_1 ?_
  obtain ⟨z2, hz2, hf⟩ := gj_b hf
  have J2 : gj_G E X 3 (some (gj_i x)) y 15 [(0, gj_r 2), (1, gj_i b1)] [gj_i z2] σ := by
    refine gj_istore_n (lv2 := [(2, gj_i z2), (0, gj_r 2), (1, gj_i b1)]) hO dX2_findDock_15 rfl (by decide) rfl ?_
    refine gj_iload_n hO 0 dX2_findDock_16 rfl rfl ?_
    refine gj_iconst (v := (-1)) hO dX2_findDock_17 (by decide) ?_
    refine gj_icmp_eq (tgt := 26) hO dX2_findDock_18 (by decide) (fun h => ?_) (fun h => ?_)
    · replace hf := gj_t h hf
      refine gj_aload_n hO 1 dX2_findDock_26 rfl rfl ?_
      refine gj_aload_n hO 1 dX2_findDock_27 rfl rfl ?_
      obtain ⟨x4, hc4, hf⟩ := gj_b hf
      refine ca_X2_isName hO  hc4 wk_55 (by decide) (by decide) (Nat.le_of_ble_eq_true rfl) dX2_findDock_28 ?_
      refine gj_if_eq (tgt := 38) hO dX2_findDock_31 (by decide) (fun h => ?_) (fun h => ?_)
      · replace hf := gj_t h hf
        refine gj_iconst (v := 1) hO dX2_findDock_38 (by decide) ?_
        obtain ⟨⟨x5_v, x5_s⟩, hc5, hf⟩ := gj_b hf
        dsimp only at hf
        refine ca_X2_fails hO  hc5 wk_59 (by decide) (by decide) (Nat.le_of_ble_eq_true rfl) dX2_findDock_39 ?_
        refine gj_pop hO dX2_findDock_42 trivial ?_
        refine gj_iconst (v := (-1)) hO dX2_findDock_43 (by decide) ?_
        replace hf := Option.some.inj hf
        simp only [Prod.mk.injEq] at hf
        obtain ⟨rfl, rfl⟩ := hf
        exact gj_iret hO dX2_findDock_44
      · replace hf := gj_f h hf
        refine gj_iconst (v := 4) hO dX2_findDock_34 (by decide) ?_
        refine gj_goto (tgt := 39) hO dX2_findDock_35 (by decide) ?_
        obtain ⟨⟨x6_v, x6_s⟩, hc6, hf⟩ := gj_b hf
        dsimp only at hf
        refine ca_X2_fails hO  hc6 wk_59 (by decide) (by decide) (Nat.le_of_ble_eq_true rfl) dX2_findDock_39 ?_
        refine gj_pop hO dX2_findDock_42 trivial ?_
        refine gj_iconst (v := (-1)) hO dX2_findDock_43 (by decide) ?_
        replace hf := Option.some.inj hf
        simp only [Prod.mk.injEq] at hf
        obtain ⟨rfl, rfl⟩ := hf
        exact gj_iret hO dX2_findDock_44
    · replace hf := gj_f h hf
      refine gj_iload_n hO 0 dX2_findDock_21 rfl rfl ?_
      refine gj_iload_n hO 2 dX2_findDock_22 rfl rfl ?_
      refine gj_icmp_ne (tgt := 45) hO dX2_findDock_23 (by decide) (fun h => ?_) (fun h => ?_)
      · replace hf := gj_f h hf
        refine gj_iload_n hO 0 dX2_findDock_45 rfl rfl ?_
        replace hf := Option.some.inj hf
        simp only [Prod.mk.injEq] at hf
        obtain ⟨rfl, rfl⟩ := hf
        exact gj_iret hO dX2_findDock_46
      · replace hf := gj_t h hf
        refine gj_aload_n hO 1 dX2_findDock_26 rfl rfl ?_
        refine gj_aload_n hO 1 dX2_findDock_27 rfl rfl ?_
        obtain ⟨x7, hc7, hf⟩ := gj_b hf
        refine ca_X2_isName hO  hc7 wk_55 (by decide) (by decide) (Nat.le_of_ble_eq_true rfl) dX2_findDock_28 ?_
        refine gj_if_eq (tgt := 38) hO dX2_findDock_31 (by decide) (fun h => ?_) (fun h => ?_)
        · replace hf := gj_t h hf
          refine gj_iconst (v := 1) hO dX2_findDock_38 (by decide) ?_
          obtain ⟨⟨x8_v, x8_s⟩, hc8, hf⟩ := gj_b hf
          dsimp only at hf
          refine ca_X2_fails hO  hc8 wk_59 (by decide) (by decide) (Nat.le_of_ble_eq_true rfl) dX2_findDock_39 ?_
          refine gj_pop hO dX2_findDock_42 trivial ?_
          refine gj_iconst (v := (-1)) hO dX2_findDock_43 (by decide) ?_
          replace hf := Option.some.inj hf
          simp only [Prod.mk.injEq] at hf
          obtain ⟨rfl, rfl⟩ := hf
          exact gj_iret hO dX2_findDock_44
        · replace hf := gj_f h hf
          refine gj_iconst (v := 4) hO dX2_findDock_34 (by decide) ?_
          refine gj_goto (tgt := 39) hO dX2_findDock_35 (by decide) ?_
          obtain ⟨⟨x9_v, x9_s⟩, hc9, hf⟩ := gj_b hf
          dsimp only at hf
          refine ca_X2_fails hO  hc9 wk_59 (by decide) (by decide) (Nat.le_of_ble_eq_true rfl) dX2_findDock_39 ?_
          refine gj_pop hO dX2_findDock_42 trivial ?_
          refine gj_iconst (v := (-1)) hO dX2_findDock_43 (by decide) ?_
          replace hf := Option.some.inj hf
          simp only [Prod.mk.injEq] at hf
          obtain ⟨rfl, rfl⟩ := hf
          exact gj_iret hO dX2_findDock_44
  refine gj_if_eq (tgt := 14) hO dX2_findDock_4 (by decide) (fun h => ?_) (fun h => ?_)
  · replace hz2 := gj_t h hz2
    refine gj_iconst (v := (-1)) hO dX2_findDock_14 (by decide) ?_
    obtain rfl := Option.some.inj hz2
    refine gj_sub (lv2 := [(0, gj_r 2), (1, gj_i b1)]) [0, 1] rfl ?_
    exact J2
  · replace hz2 := gj_f h hz2
    refine gj_aload_n hO 0 dX2_findDock_7 rfl rfl ?_
    obtain ⟨x3, hc3, hz2⟩ := gj_b hz2
    refine ca_X2_numberOfDock hO  hc3 wk_56 (by decide) (by decide) (Nat.le_of_ble_eq_true rfl) dX2_findDock_8 ?_
    refine gj_goto (tgt := 15) hO dX2_findDock_11 (by decide) ?_
    obtain rfl := Option.some.inj hz2
    refine gj_sub (lv2 := [(0, gj_r 2), (1, gj_i b1)]) [0, 1] rfl ?_
    exact J2
set_option maxHeartbeats 4000000 in
set_option maxRecDepth 100000 in
theorem ca_X2_findDock {E : gj_E} {X : gj_X} {own : String} {cc : ByteArray} {nL : Nat} {rt : Option FieldType} {fr lo : Nat} {ce sl : Nat} {Q : State → Prop} {pc : Nat} {lv : List (Nat × gj_V)} {st : List gj_V} {σ : gj_S} (hO : gj_O E X own cc nL rt fr lo) {b1 : Int32}  {idx : Nat} {x : Int32} {y : gj_S} (hf : f_X2_findDock b1 σ = some (x, y)) (hl : Cond.methodLink own idx yX2_findDock ∈ gj_gw) (hf1 : 2 ≤ fr) (hf2 : 43 ≤ lo) (hcat : ((st.map (gj_tv E.2.1)).map fun v => v.category).sum ≤ 8) (hd : decode cc pc = .ok (.invokevirtual idx, 3)) (k : gj_H E X nL ce sl Q (pc + 3) lv ((gj_i x) :: st) y) : gj_H E X nL ce sl Q pc lv (gj_i b1 :: gj_r 2 :: st) σ :=
  gj_callV hO (o := 2) (vs := [gj_i b1]) (m_X2_findDock  hf) (gj_Iany (by decide)) hl wk_77 wk_78 wk_18 wk_79 kl_2 kd_2 (by decide) (ci := 2) rfl (n := 1) (by decide +kernel) rfl hf1 hf2 rfl hcat hd k
def f_X2_readEnds (b1 : Int32) (σ : gj_S) : Option (Int32 × gj_S) := ((f_X2_readToken σ).bind fun x1 => ((f_X2_findDock (-1 : Int32) x1).bind fun x2 => (if x2.1 = (-1 : Int32) then some ((0 : Int32), x2.2) else ((f_X2_readToken x2.2).bind fun x3 => ((f_X2_findDock x2.1 x3).bind fun x4 => (if x4.1 = (-1 : Int32) then some ((0 : Int32), x4.2) else (if gj_in b1 24 then (if gj_in b1 24 then ((some (gj_sI (gj_sI x4.2 5 (upd (x4.2.1 5) (Int32.toNatClampNeg b1) x2.1)) 6 (upd ((gj_sI x4.2 5 (upd (x4.2.1 5) (Int32.toNatClampNeg b1) x2.1)).1 6) (Int32.toNatClampNeg b1) x4.1))).bind fun s7 => ((f_X2_readToken s7).bind fun x8 => some ((1 : Int32), x8))) else none) else none)))))))
set_option maxHeartbeats 4000000 in
set_option maxRecDepth 100000 in
theorem m_X2_readEnds {E : gj_E} {σ : gj_S} {b1 : Int32}  {x : Int32} {y : gj_S} (hf : f_X2_readEnds b1 σ = some (x, y)) : gj_M E yX2_readEnds cX2_readEnds 4 (some .boolean) 2 43 [gj_r 2, gj_i b1] σ (some (gj_i x)) y := by
  refine gj_body (lv := [(0, gj_r 2), (1, gj_i b1)]) (by decide +kernel) (Nat.le_of_ble_eq_true rfl) rfl (fun X hO => ?_)
  replace hO : gj_O E X RX2 cX2_readEnds 4 (some .boolean) 2 43 := hO
  unfold f_X2_readEnds at hf
  refine gj_aload_n hO 0 dX2_readEnds_0 rfl rfl ?_
  obtain ⟨x1, hc1, hf⟩ := gj_b hf
  refine ca_X2_readToken hO  hc1 wk_66 (by decide) (by decide) (Nat.le_of_ble_eq_true rfl) dX2_readEnds_1 ?_
  refine gj_aload_n hO 0 dX2_readEnds_4 rfl rfl ?_
  refine gj_iconst (v := (-1)) hO dX2_readEnds_5 (by decide) ?_
  obtain ⟨⟨x2_v, x2_s⟩, hc2, hf⟩ := gj_b hf
  dsimp only at hf
  refine ca_X2_findDock hO  hc2 wk_80 (by decide) (by decide) (Nat.le_of_ble_eq_true rfl) dX2_readEnds_6 ?_
  refine gj_istore_n (lv2 := [(2, gj_i x2_v), (0, gj_r 2), (1, gj_i b1)]) hO dX2_readEnds_9 rfl (by decide) rfl ?_
  refine gj_iload_n hO 0 dX2_readEnds_10 rfl rfl ?_
  refine gj_iconst (v := (-1)) hO dX2_readEnds_11 (by decide) ?_
  refine gj_icmp_ne (tgt := 17) hO dX2_readEnds_12 (by decide) (fun h => ?_) (fun h => ?_)
  · replace hf := gj_f h hf
    refine gj_aload_n hO 1 dX2_readEnds_17 rfl rfl ?_
    obtain ⟨x3, hc3, hf⟩ := gj_b hf
    refine ca_X2_readToken hO  hc3 wk_66 (by decide) (by decide) (Nat.le_of_ble_eq_true rfl) dX2_readEnds_18 ?_
    refine gj_aload_n hO 1 dX2_readEnds_21 rfl rfl ?_
    refine gj_iload_n hO 0 dX2_readEnds_22 rfl rfl ?_
    obtain ⟨⟨x4_v, x4_s⟩, hc4, hf⟩ := gj_b hf
    dsimp only at hf
    refine ca_X2_findDock hO  hc4 wk_80 (by decide) (by decide) (Nat.le_of_ble_eq_true rfl) dX2_readEnds_23 ?_
    refine gj_istore_n (lv2 := [(3, gj_i x4_v), (2, gj_i x2_v), (0, gj_r 2), (1, gj_i b1)]) hO dX2_readEnds_26 rfl (by decide) rfl ?_
    refine gj_iload_n hO 0 dX2_readEnds_27 rfl rfl ?_
    refine gj_iconst (v := (-1)) hO dX2_readEnds_28 (by decide) ?_
    refine gj_icmp_ne (tgt := 34) hO dX2_readEnds_29 (by decide) (fun h => ?_) (fun h => ?_)
    · replace hf := gj_f h hf
      refine gj_aload_n hO 2 dX2_readEnds_34 rfl rfl ?_
      refine gt_X2_0 hO wk_49 dX2_readEnds_35 ?_
      refine gt_X1_6 hO kd_3 kl_3 wk_81 dX2_readEnds_38 ?_
      refine gj_iload_n hO 3 dX2_readEnds_41 rfl rfl ?_
      refine gj_iload_n hO 1 dX2_readEnds_42 rfl rfl ?_
      obtain ⟨hb5, hf⟩ := gj_c hf
      refine gj_iast hO kl_5 kd_5 hb5 dX2_readEnds_43 ?_
      refine gj_aload_n hO 2 dX2_readEnds_44 rfl rfl ?_
      refine gt_X2_0 hO wk_49 dX2_readEnds_45 ?_
      refine gt_X1_7 hO kd_3 kl_3 wk_82 dX2_readEnds_48 ?_
      refine gj_iload_n hO 3 dX2_readEnds_51 rfl rfl ?_
      refine gj_iload_n hO 0 dX2_readEnds_52 rfl rfl ?_
      obtain ⟨hb6, hf⟩ := gj_c hf
      refine gj_iast hO kl_6 kd_6 hb6 dX2_readEnds_53 ?_
      obtain ⟨s7, e7, hf⟩ := gj_b hf
      refine gj_eqS (Option.some.inj e7) ?_
      refine gj_aload_n hO 2 dX2_readEnds_54 rfl rfl ?_
      obtain ⟨x8, hc8, hf⟩ := gj_b hf
      refine ca_X2_readToken hO  hc8 wk_66 (by decide) (by decide) (Nat.le_of_ble_eq_true rfl) dX2_readEnds_55 ?_
      refine gj_iconst (v := 1) hO dX2_readEnds_58 (by decide) ?_
      replace hf := Option.some.inj hf
      simp only [Prod.mk.injEq] at hf
      obtain ⟨rfl, rfl⟩ := hf
      exact gj_zret hO (Or.inr rfl) dX2_readEnds_59
    · replace hf := gj_t h hf
      refine gj_iconst (v := 0) hO dX2_readEnds_32 (by decide) ?_
      replace hf := Option.some.inj hf
      simp only [Prod.mk.injEq] at hf
      obtain ⟨rfl, rfl⟩ := hf
      exact gj_zret hO (Or.inl rfl) dX2_readEnds_33
  · replace hf := gj_t h hf
    refine gj_iconst (v := 0) hO dX2_readEnds_15 (by decide) ?_
    replace hf := Option.some.inj hf
    simp only [Prod.mk.injEq] at hf
    obtain ⟨rfl, rfl⟩ := hf
    exact gj_zret hO (Or.inl rfl) dX2_readEnds_16
set_option maxHeartbeats 4000000 in
set_option maxRecDepth 100000 in
theorem ca_X2_readEnds {E : gj_E} {X : gj_X} {own : String} {cc : ByteArray} {nL : Nat} {rt : Option FieldType} {fr lo : Nat} {ce sl : Nat} {Q : State → Prop} {pc : Nat} {lv : List (Nat × gj_V)} {st : List gj_V} {σ : gj_S} (hO : gj_O E X own cc nL rt fr lo) {b1 : Int32}  {idx : Nat} {x : Int32} {y : gj_S} (hf : f_X2_readEnds b1 σ = some (x, y)) (hl : Cond.methodLink own idx yX2_readEnds ∈ gj_gw) (hf1 : 3 ≤ fr) (hf2 : 66 ≤ lo) (hcat : ((st.map (gj_tv E.2.1)).map fun v => v.category).sum ≤ 8) (hd : decode cc pc = .ok (.invokevirtual idx, 3)) (k : gj_H E X nL ce sl Q (pc + 3) lv ((gj_i x) :: st) y) : gj_H E X nL ce sl Q pc lv (gj_i b1 :: gj_r 2 :: st) σ :=
  gj_callV hO (o := 2) (vs := [gj_i b1]) (m_X2_readEnds  hf) (gj_Iany (by decide)) hl wk_83 wk_84 wk_18 wk_85 kl_2 kd_2 (by decide) (ci := 2) rfl (n := 1) (by decide +kernel) rfl hf1 hf2 rfl hcat hd k
def f_X2_passWord (b1 : Int64) (σ : gj_S) : Option (Int32 × gj_S) := ((f_X2_isWord b1 σ).bind fun x1 => (if x1 = 0 then ((f_X2_fails (1 : Int32) σ).bind fun x3 => (if x3.1 = 0 ∨ x3.1 = 1 then some (x3.1, x3.2) else none)) else ((f_X2_readToken σ).bind fun x2 => some ((1 : Int32), x2))))
set_option maxHeartbeats 4000000 in
set_option maxRecDepth 100000 in
theorem m_X2_passWord {E : gj_E} {σ : gj_S} {b1 : Int64}  {x : Int32} {y : gj_S} (hf : f_X2_passWord b1 σ = some (x, y)) : gj_M E yX2_passWord cX2_passWord 3 (some .boolean) 2 41 [gj_r 2, gj_l b1] σ (some (gj_i x)) y := by
  refine gj_body (lv := [(0, gj_r 2), (1, gj_l b1)]) (by decide +kernel) (Nat.le_of_ble_eq_true rfl) rfl (fun X hO => ?_)
  replace hO : gj_O E X RX2 cX2_passWord 3 (some .boolean) 2 41 := hO
  unfold f_X2_passWord at hf
  refine gj_aload_n hO 0 dX2_passWord_0 rfl rfl ?_
  refine gj_lload_n hO 1 dX2_passWord_1 rfl rfl ?_
  obtain ⟨x1, hc1, hf⟩ := gj_b hf
  refine ca_X2_isWord hO  hc1 wk_69 (by decide) (by decide) (Nat.le_of_ble_eq_true rfl) dX2_passWord_2 ?_
  refine gj_if_ne (tgt := 14) hO dX2_passWord_5 (by decide) (fun h => ?_) (fun h => ?_)
  · replace hf := gj_f h hf
    refine gj_aload_n hO 0 dX2_passWord_14 rfl rfl ?_
    obtain ⟨x2, hc2, hf⟩ := gj_b hf
    refine ca_X2_readToken hO  hc2 wk_66 (by decide) (by decide) (Nat.le_of_ble_eq_true rfl) dX2_passWord_15 ?_
    refine gj_iconst (v := 1) hO dX2_passWord_18 (by decide) ?_
    replace hf := Option.some.inj hf
    simp only [Prod.mk.injEq] at hf
    obtain ⟨rfl, rfl⟩ := hf
    exact gj_zret hO (Or.inr rfl) dX2_passWord_19
  · replace hf := gj_t h hf
    refine gj_aload_n hO 0 dX2_passWord_8 rfl rfl ?_
    refine gj_iconst (v := 1) hO dX2_passWord_9 (by decide) ?_
    obtain ⟨⟨x3_v, x3_s⟩, hc3, hf⟩ := gj_b hf
    dsimp only at hf
    refine ca_X2_fails hO  hc3 wk_59 (by decide) (by decide) (Nat.le_of_ble_eq_true rfl) dX2_passWord_10 ?_
    obtain ⟨hb4, hf⟩ := gj_c hf
    replace hf := Option.some.inj hf
    simp only [Prod.mk.injEq] at hf
    obtain ⟨rfl, rfl⟩ := hf
    exact gj_zret hO hb4 dX2_passWord_13
set_option maxHeartbeats 4000000 in
set_option maxRecDepth 100000 in
theorem ca_X2_passWord {E : gj_E} {X : gj_X} {own : String} {cc : ByteArray} {nL : Nat} {rt : Option FieldType} {fr lo : Nat} {ce sl : Nat} {Q : State → Prop} {pc : Nat} {lv : List (Nat × gj_V)} {st : List gj_V} {σ : gj_S} (hO : gj_O E X own cc nL rt fr lo) {b1 : Int64}  {idx : Nat} {x : Int32} {y : gj_S} (hf : f_X2_passWord b1 σ = some (x, y)) (hl : Cond.methodLink own idx yX2_passWord ∈ gj_gw) (hf1 : 3 ≤ fr) (hf2 : 63 ≤ lo) (hcat : ((st.map (gj_tv E.2.1)).map fun v => v.category).sum ≤ 8) (hd : decode cc pc = .ok (.invokevirtual idx, 3)) (k : gj_H E X nL ce sl Q (pc + 3) lv ((gj_i x) :: st) y) : gj_H E X nL ce sl Q pc lv (gj_l b1 :: gj_r 2 :: st) σ :=
  gj_callV hO (o := 2) (vs := [gj_l b1]) (m_X2_passWord  hf) (gj_Iany (by decide)) hl wk_86 wk_87 wk_18 wk_88 kl_2 kd_2 (by decide) (ci := 2) rfl (n := 1) (by decide +kernel) rfl hf1 hf2 rfl hcat hd k
def f_X2_readNumbers (b1 : Int32) (σ : gj_S) : Option (Int32 × gj_S) := ((f_X2_passWord (427071599731 : Int64) σ).bind fun x1 => (if x1.1 = 0 then some ((0 : Int32), x1.2) else ((f_X2_isNumber (0 : Int32) (999 : Int32) x1.2).bind fun x2 => (if x2.1 = 0 then some ((0 : Int32), x2.2) else (if gj_in b1 24 then ((f_X2_readToken (gj_sI x2.2 7 (upd (x2.2.1 7) (Int32.toNatClampNeg b1) (Int64.toInt32 (x2.2.2.1 2 9))))).bind fun x4 => ((f_X2_passWord (448545973363 : Int64) x4).bind fun x5 => (if x5.1 = 0 then some ((0 : Int32), x5.2) else ((f_X2_isNumber (1 : Int32) (999 : Int32) x5.2).bind fun x6 => (if x6.1 = 0 then some ((0 : Int32), x6.2) else (if gj_in b1 24 then ((f_X2_readToken (gj_sI x6.2 8 (upd (x6.2.1 8) (Int32.toNatClampNeg b1) (Int64.toInt32 (x6.2.2.1 2 9))))).bind fun x8 => some ((1 : Int32), x8)) else none)))))) else none)))))
set_option maxHeartbeats 4000000 in
set_option maxRecDepth 100000 in
theorem m_X2_readNumbers {E : gj_E} {σ : gj_S} {b1 : Int32}  {x : Int32} {y : gj_S} (hf : f_X2_readNumbers b1 σ = some (x, y)) : gj_M E yX2_readNumbers cX2_readNumbers 2 (some .boolean) 3 63 [gj_r 2, gj_i b1] σ (some (gj_i x)) y := by
  refine gj_body (lv := [(0, gj_r 2), (1, gj_i b1)]) (by decide +kernel) (Nat.le_of_ble_eq_true rfl) rfl (fun X hO => ?_)
  replace hO : gj_O E X RX2 cX2_readNumbers 2 (some .boolean) 3 63 := hO
  unfold f_X2_readNumbers at hf
  refine gj_aload_n hO 0 dX2_readNumbers_0 rfl rfl ?_
  refine gj_ldc2 hO wk_43 dX2_readNumbers_1 ?_
  obtain ⟨⟨x1_v, x1_s⟩, hc1, hf⟩ := gj_b hf
  dsimp only at hf
  refine ca_X2_passWord hO  hc1 wk_89 (by decide) (by decide) (Nat.le_of_ble_eq_true rfl) dX2_readNumbers_4 ?_
  refine gj_if_eq (tgt := 21) hO dX2_readNumbers_7 (by decide) (fun h => ?_) (fun h => ?_)
  · replace hf := gj_t h hf
    refine gj_iconst (v := 0) hO dX2_readNumbers_21 (by decide) ?_
    replace hf := Option.some.inj hf
    simp only [Prod.mk.injEq] at hf
    obtain ⟨rfl, rfl⟩ := hf
    exact gj_zret hO (Or.inl rfl) dX2_readNumbers_22
  · replace hf := gj_f h hf
    refine gj_aload_n hO 0 dX2_readNumbers_10 rfl rfl ?_
    refine gj_iconst (v := 0) hO dX2_readNumbers_11 (by decide) ?_
    refine gj_sipush (v := 999) hO dX2_readNumbers_12 (by decide) ?_
    obtain ⟨⟨x2_v, x2_s⟩, hc2, hf⟩ := gj_b hf
    dsimp only at hf
    refine ca_X2_isNumber hO  hc2 wk_70 (by decide) (by decide) (Nat.le_of_ble_eq_true rfl) dX2_readNumbers_15 ?_
    refine gj_if_ne (tgt := 23) hO dX2_readNumbers_18 (by decide) (fun h => ?_) (fun h => ?_)
    · replace hf := gj_f h hf
      refine gj_aload_n hO 0 dX2_readNumbers_23 rfl rfl ?_
      refine gt_X2_0 hO wk_49 dX2_readNumbers_24 ?_
      refine gt_X1_8 hO kd_3 kl_3 wk_90 dX2_readNumbers_27 ?_
      refine gj_iload_n hO 1 dX2_readNumbers_30 rfl rfl ?_
      refine gj_aload_n hO 0 dX2_readNumbers_31 rfl rfl ?_
      refine gt_X2_9 hO wk_24 dX2_readNumbers_32 ?_
      refine gj_l2i hO dX2_readNumbers_35 ?_
      obtain ⟨hb3, hf⟩ := gj_c hf
      refine gj_iast hO kl_7 kd_7 hb3 dX2_readNumbers_36 ?_
      refine gj_aload_n hO 0 dX2_readNumbers_37 rfl rfl ?_
      obtain ⟨x4, hc4, hf⟩ := gj_b hf
      refine ca_X2_readToken hO  hc4 wk_66 (by decide) (by decide) (Nat.le_of_ble_eq_true rfl) dX2_readNumbers_38 ?_
      refine gj_aload_n hO 0 dX2_readNumbers_41 rfl rfl ?_
      refine gj_ldc2 hO wk_44 dX2_readNumbers_42 ?_
      obtain ⟨⟨x5_v, x5_s⟩, hc5, hf⟩ := gj_b hf
      dsimp only at hf
      refine ca_X2_passWord hO  hc5 wk_89 (by decide) (by decide) (Nat.le_of_ble_eq_true rfl) dX2_readNumbers_45 ?_
      refine gj_if_eq (tgt := 62) hO dX2_readNumbers_48 (by decide) (fun h => ?_) (fun h => ?_)
      · replace hf := gj_t h hf
        refine gj_iconst (v := 0) hO dX2_readNumbers_62 (by decide) ?_
        replace hf := Option.some.inj hf
        simp only [Prod.mk.injEq] at hf
        obtain ⟨rfl, rfl⟩ := hf
        exact gj_zret hO (Or.inl rfl) dX2_readNumbers_63
      · replace hf := gj_f h hf
        refine gj_aload_n hO 0 dX2_readNumbers_51 rfl rfl ?_
        refine gj_iconst (v := 1) hO dX2_readNumbers_52 (by decide) ?_
        refine gj_sipush (v := 999) hO dX2_readNumbers_53 (by decide) ?_
        obtain ⟨⟨x6_v, x6_s⟩, hc6, hf⟩ := gj_b hf
        dsimp only at hf
        refine ca_X2_isNumber hO  hc6 wk_70 (by decide) (by decide) (Nat.le_of_ble_eq_true rfl) dX2_readNumbers_56 ?_
        refine gj_if_ne (tgt := 64) hO dX2_readNumbers_59 (by decide) (fun h => ?_) (fun h => ?_)
        · replace hf := gj_f h hf
          refine gj_aload_n hO 0 dX2_readNumbers_64 rfl rfl ?_
          refine gt_X2_0 hO wk_49 dX2_readNumbers_65 ?_
          refine gt_X1_9 hO kd_3 kl_3 wk_91 dX2_readNumbers_68 ?_
          refine gj_iload_n hO 1 dX2_readNumbers_71 rfl rfl ?_
          refine gj_aload_n hO 0 dX2_readNumbers_72 rfl rfl ?_
          refine gt_X2_9 hO wk_24 dX2_readNumbers_73 ?_
          refine gj_l2i hO dX2_readNumbers_76 ?_
          obtain ⟨hb7, hf⟩ := gj_c hf
          refine gj_iast hO kl_8 kd_8 hb7 dX2_readNumbers_77 ?_
          refine gj_aload_n hO 0 dX2_readNumbers_78 rfl rfl ?_
          obtain ⟨x8, hc8, hf⟩ := gj_b hf
          refine ca_X2_readToken hO  hc8 wk_66 (by decide) (by decide) (Nat.le_of_ble_eq_true rfl) dX2_readNumbers_79 ?_
          refine gj_iconst (v := 1) hO dX2_readNumbers_82 (by decide) ?_
          replace hf := Option.some.inj hf
          simp only [Prod.mk.injEq] at hf
          obtain ⟨rfl, rfl⟩ := hf
          exact gj_zret hO (Or.inr rfl) dX2_readNumbers_83
        · replace hf := gj_t h hf
          refine gj_iconst (v := 0) hO dX2_readNumbers_62 (by decide) ?_
          replace hf := Option.some.inj hf
          simp only [Prod.mk.injEq] at hf
          obtain ⟨rfl, rfl⟩ := hf
          exact gj_zret hO (Or.inl rfl) dX2_readNumbers_63
    · replace hf := gj_t h hf
      refine gj_iconst (v := 0) hO dX2_readNumbers_21 (by decide) ?_
      replace hf := Option.some.inj hf
      simp only [Prod.mk.injEq] at hf
      obtain ⟨rfl, rfl⟩ := hf
      exact gj_zret hO (Or.inl rfl) dX2_readNumbers_22
set_option maxHeartbeats 4000000 in
set_option maxRecDepth 100000 in
theorem ca_X2_readNumbers {E : gj_E} {X : gj_X} {own : String} {cc : ByteArray} {nL : Nat} {rt : Option FieldType} {fr lo : Nat} {ce sl : Nat} {Q : State → Prop} {pc : Nat} {lv : List (Nat × gj_V)} {st : List gj_V} {σ : gj_S} (hO : gj_O E X own cc nL rt fr lo) {b1 : Int32}  {idx : Nat} {x : Int32} {y : gj_S} (hf : f_X2_readNumbers b1 σ = some (x, y)) (hl : Cond.methodLink own idx yX2_readNumbers ∈ gj_gw) (hf1 : 4 ≤ fr) (hf2 : 84 ≤ lo) (hcat : ((st.map (gj_tv E.2.1)).map fun v => v.category).sum ≤ 8) (hd : decode cc pc = .ok (.invokevirtual idx, 3)) (k : gj_H E X nL ce sl Q (pc + 3) lv ((gj_i x) :: st) y) : gj_H E X nL ce sl Q pc lv (gj_i b1 :: gj_r 2 :: st) σ :=
  gj_callV hO (o := 2) (vs := [gj_i b1]) (m_X2_readNumbers  hf) (gj_Iany (by decide)) hl wk_92 wk_93 wk_18 wk_94 kl_2 kd_2 (by decide) (ci := 2) rfl (n := 1) (by decide +kernel) rfl hf1 hf2 rfl hcat hd k
def f_X2_readBlock  (σ : gj_S) : Option (Int32 × gj_S) := (if (σ.1 2 3) = 0 then ((f_X2_readToken (gj_sI σ 2 (upd (σ.1 2) 3 (1 : Int32)))).bind fun x1 => ((f_X2_isNumber (1 : Int32) (24 : Int32) x1).bind fun x2 => (if x2.1 = 0 then some ((0 : Int32), x2.2) else ((f_X2_readToken (gj_sI x2.2 3 (upd (x2.2.1 3) 2 (Int64.toInt32 (x2.2.2.1 2 9))))).bind fun x3 => some ((1 : Int32), x3))))) else ((f_X2_fails (2 : Int32) σ).bind fun x4 => (if x4.1 = 0 ∨ x4.1 = 1 then some (x4.1, x4.2) else none)))
set_option maxHeartbeats 4000000 in
set_option maxRecDepth 100000 in
theorem m_X2_readBlock {E : gj_E} {σ : gj_S}   {x : Int32} {y : gj_S} (hf : f_X2_readBlock  σ = some (x, y)) : gj_M E yX2_readBlock cX2_readBlock 1 (some .boolean) 2 43 [gj_r 2] σ (some (gj_i x)) y := by
  refine gj_body (lv := [(0, gj_r 2)]) (by decide +kernel) (Nat.le_of_ble_eq_true rfl) rfl (fun X hO => ?_)
  replace hO : gj_O E X RX2 cX2_readBlock 1 (some .boolean) 2 43 := hO
  unfold f_X2_readBlock at hf
  refine gj_aload_n hO 0 dX2_readBlock_0 rfl rfl ?_
  refine gt_X2_3 hO wk_95 dX2_readBlock_1 ?_
  refine gj_if_eq (tgt := 13) hO dX2_readBlock_4 (by decide) (fun h => ?_) (fun h => ?_)
  · replace hf := gj_t h hf
    refine gj_aload_n hO 0 dX2_readBlock_13 rfl rfl ?_
    refine gj_iconst (v := 1) hO dX2_readBlock_14 (by decide) ?_
    refine pt_X2_3 hO (Or.inr rfl) wk_95 dX2_readBlock_15 ?_
    refine gj_aload_n hO 0 dX2_readBlock_18 rfl rfl ?_
    obtain ⟨x1, hc1, hf⟩ := gj_b hf
    refine ca_X2_readToken hO  hc1 wk_66 (by decide) (by decide) (Nat.le_of_ble_eq_true rfl) dX2_readBlock_19 ?_
    refine gj_aload_n hO 0 dX2_readBlock_22 rfl rfl ?_
    refine gj_iconst (v := 1) hO dX2_readBlock_23 (by decide) ?_
    refine gj_bipush (v := 24) hO dX2_readBlock_24 (by decide) ?_
    obtain ⟨⟨x2_v, x2_s⟩, hc2, hf⟩ := gj_b hf
    dsimp only at hf
    refine ca_X2_isNumber hO  hc2 wk_70 (by decide) (by decide) (Nat.le_of_ble_eq_true rfl) dX2_readBlock_26 ?_
    refine gj_if_ne (tgt := 34) hO dX2_readBlock_29 (by decide) (fun h => ?_) (fun h => ?_)
    · replace hf := gj_f h hf
      refine gj_aload_n hO 0 dX2_readBlock_34 rfl rfl ?_
      refine gt_X2_0 hO wk_49 dX2_readBlock_35 ?_
      refine gj_aload_n hO 0 dX2_readBlock_38 rfl rfl ?_
      refine gt_X2_9 hO wk_24 dX2_readBlock_39 ?_
      refine gj_l2i hO dX2_readBlock_42 ?_
      refine pt_X1_2 hO kd_3 kl_3 wk_96 dX2_readBlock_43 ?_
      refine gj_aload_n hO 0 dX2_readBlock_46 rfl rfl ?_
      obtain ⟨x3, hc3, hf⟩ := gj_b hf
      refine ca_X2_readToken hO  hc3 wk_66 (by decide) (by decide) (Nat.le_of_ble_eq_true rfl) dX2_readBlock_47 ?_
      refine gj_iconst (v := 1) hO dX2_readBlock_50 (by decide) ?_
      replace hf := Option.some.inj hf
      simp only [Prod.mk.injEq] at hf
      obtain ⟨rfl, rfl⟩ := hf
      exact gj_zret hO (Or.inr rfl) dX2_readBlock_51
    · replace hf := gj_t h hf
      refine gj_iconst (v := 0) hO dX2_readBlock_32 (by decide) ?_
      replace hf := Option.some.inj hf
      simp only [Prod.mk.injEq] at hf
      obtain ⟨rfl, rfl⟩ := hf
      exact gj_zret hO (Or.inl rfl) dX2_readBlock_33
  · replace hf := gj_f h hf
    refine gj_aload_n hO 0 dX2_readBlock_7 rfl rfl ?_
    refine gj_iconst (v := 2) hO dX2_readBlock_8 (by decide) ?_
    obtain ⟨⟨x4_v, x4_s⟩, hc4, hf⟩ := gj_b hf
    dsimp only at hf
    refine ca_X2_fails hO  hc4 wk_59 (by decide) (by decide) (Nat.le_of_ble_eq_true rfl) dX2_readBlock_9 ?_
    obtain ⟨hb5, hf⟩ := gj_c hf
    replace hf := Option.some.inj hf
    simp only [Prod.mk.injEq] at hf
    obtain ⟨rfl, rfl⟩ := hf
    exact gj_zret hO hb5 dX2_readBlock_12
set_option maxHeartbeats 4000000 in
set_option maxRecDepth 100000 in
theorem ca_X2_readBlock {E : gj_E} {X : gj_X} {own : String} {cc : ByteArray} {nL : Nat} {rt : Option FieldType} {fr lo : Nat} {ce sl : Nat} {Q : State → Prop} {pc : Nat} {lv : List (Nat × gj_V)} {st : List gj_V} {σ : gj_S} (hO : gj_O E X own cc nL rt fr lo)   {idx : Nat} {x : Int32} {y : gj_S} (hf : f_X2_readBlock  σ = some (x, y)) (hl : Cond.methodLink own idx yX2_readBlock ∈ gj_gw) (hf1 : 3 ≤ fr) (hf2 : 63 ≤ lo) (hcat : ((st.map (gj_tv E.2.1)).map fun v => v.category).sum ≤ 8) (hd : decode cc pc = .ok (.invokevirtual idx, 3)) (k : gj_H E X nL ce sl Q (pc + 3) lv ((gj_i x) :: st) y) : gj_H E X nL ce sl Q pc lv (gj_r 2 :: st) σ :=
  gj_callV hO (o := 2) (vs := []) (m_X2_readBlock  hf) (gj_Iany (by decide)) hl wk_97 wk_98 wk_18 wk_99 kl_2 kd_2 (by decide) (ci := 2) rfl (n := 0) (by decide +kernel) rfl hf1 hf2 rfl hcat hd k
def f_X2_passStop  (σ : gj_S) : Option (Int32 × gj_S) := (if (σ.1 2 7) = (2 : Int32) then ((f_X2_readToken σ).bind fun x1 => some ((1 : Int32), x1)) else ((f_X2_fails (1 : Int32) σ).bind fun x2 => (if x2.1 = 0 ∨ x2.1 = 1 then some (x2.1, x2.2) else none)))
set_option maxHeartbeats 4000000 in
set_option maxRecDepth 100000 in
theorem m_X2_passStop {E : gj_E} {σ : gj_S}   {x : Int32} {y : gj_S} (hf : f_X2_passStop  σ = some (x, y)) : gj_M E yX2_passStop cX2_passStop 1 (some .boolean) 2 41 [gj_r 2] σ (some (gj_i x)) y := by
  refine gj_body (lv := [(0, gj_r 2)]) (by decide +kernel) (Nat.le_of_ble_eq_true rfl) rfl (fun X hO => ?_)
  replace hO : gj_O E X RX2 cX2_passStop 1 (some .boolean) 2 41 := hO
  unfold f_X2_passStop at hf
  refine gj_aload_n hO 0 dX2_passStop_0 rfl rfl ?_
  refine gt_X2_7 hO wk_26 dX2_passStop_1 ?_
  refine gj_iconst (v := 2) hO dX2_passStop_4 (by decide) ?_
  refine gj_icmp_eq (tgt := 14) hO dX2_passStop_5 (by decide) (fun h => ?_) (fun h => ?_)
  · replace hf := gj_t h hf
    refine gj_aload_n hO 0 dX2_passStop_14 rfl rfl ?_
    obtain ⟨x1, hc1, hf⟩ := gj_b hf
    refine ca_X2_readToken hO  hc1 wk_66 (by decide) (by decide) (Nat.le_of_ble_eq_true rfl) dX2_passStop_15 ?_
    refine gj_iconst (v := 1) hO dX2_passStop_18 (by decide) ?_
    replace hf := Option.some.inj hf
    simp only [Prod.mk.injEq] at hf
    obtain ⟨rfl, rfl⟩ := hf
    exact gj_zret hO (Or.inr rfl) dX2_passStop_19
  · replace hf := gj_f h hf
    refine gj_aload_n hO 0 dX2_passStop_8 rfl rfl ?_
    refine gj_iconst (v := 1) hO dX2_passStop_9 (by decide) ?_
    obtain ⟨⟨x2_v, x2_s⟩, hc2, hf⟩ := gj_b hf
    dsimp only at hf
    refine ca_X2_fails hO  hc2 wk_59 (by decide) (by decide) (Nat.le_of_ble_eq_true rfl) dX2_passStop_10 ?_
    obtain ⟨hb3, hf⟩ := gj_c hf
    replace hf := Option.some.inj hf
    simp only [Prod.mk.injEq] at hf
    obtain ⟨rfl, rfl⟩ := hf
    exact gj_zret hO hb3 dX2_passStop_13
set_option maxHeartbeats 4000000 in
set_option maxRecDepth 100000 in
theorem ca_X2_passStop {E : gj_E} {X : gj_X} {own : String} {cc : ByteArray} {nL : Nat} {rt : Option FieldType} {fr lo : Nat} {ce sl : Nat} {Q : State → Prop} {pc : Nat} {lv : List (Nat × gj_V)} {st : List gj_V} {σ : gj_S} (hO : gj_O E X own cc nL rt fr lo)   {idx : Nat} {x : Int32} {y : gj_S} (hf : f_X2_passStop  σ = some (x, y)) (hl : Cond.methodLink own idx yX2_passStop ∈ gj_gw) (hf1 : 3 ≤ fr) (hf2 : 61 ≤ lo) (hcat : ((st.map (gj_tv E.2.1)).map fun v => v.category).sum ≤ 8) (hd : decode cc pc = .ok (.invokevirtual idx, 3)) (k : gj_H E X nL ce sl Q (pc + 3) lv ((gj_i x) :: st) y) : gj_H E X nL ce sl Q pc lv (gj_r 2 :: st) σ :=
  gj_callV hO (o := 2) (vs := []) (m_X2_passStop  hf) (gj_Iany (by decide)) hl wk_100 wk_101 wk_18 wk_102 kl_2 kd_2 (by decide) (ci := 2) rfl (n := 0) (by decide +kernel) rfl hf1 hf2 rfl hcat hd k
def f_X2_readLine  (σ : gj_S) : Option (Int32 × gj_S) := ((f_X2_isWord (1685021547 : Int64) σ).bind fun x1 => ((if x1 = 0 then ((f_X2_isWord (491496240229 : Int64) σ).bind fun x3 => (if x3 = 0 then ((f_X2_isWord (422726034283 : Int64) σ).bind fun x4 => (if x4 = 0 then ((f_X2_fails (1 : Int32) σ).bind fun x5 => some (x5.1, x5.2)) else ((f_X2_readBlock σ).bind fun x6 => some (x6.1, x6.2)))) else ((f_X2_readRouteName (σ.1 3 1) σ).bind fun x7 => (if x7.1 = 0 then some ((0 : Int32), x7.2) else ((f_X2_readEnds (σ.1 3 1) x7.2).bind fun x8 => (if x8.1 = 0 then some ((0 : Int32), x8.2) else ((f_X2_readNumbers (σ.1 3 1) x8.2).bind fun x9 => (if x9.1 = 0 then some ((0 : Int32), x9.2) else some ((1 : Int32), x9.2))))))))) else ((f_X2_readDock σ).bind fun x10 => some (x10.1, x10.2)) : Option (Int32 × gj_S)).bind fun z2 => (if z2.1 = 0 then some ((0 : Int32), z2.2) else ((f_X2_passStop z2.2).bind fun x11 => (if x11.1 = 0 then some ((0 : Int32), x11.2) else some ((1 : Int32), x11.2))))))
set_option maxHeartbeats 4000000 in
set_option maxRecDepth 100000 in
theorem m_X2_readLine {E : gj_E} {σ : gj_S}   {x : Int32} {y : gj_S} (hf : f_X2_readLine  σ = some (x, y)) : gj_M E yX2_readLine cX2_readLine 3 (some .boolean) 4 84 [gj_r 2] σ (some (gj_i x)) y := by
  refine gj_body (lv := [(0, gj_r 2)]) (by decide +kernel) (Nat.le_of_ble_eq_true rfl) rfl (fun X hO => ?_)
  replace hO : gj_O E X RX2 cX2_readLine 3 (some .boolean) 4 84 := hO
  unfold f_X2_readLine at hf
  refine gj_aload_n hO 0 dX2_readLine_0 rfl rfl ?_
  refine gt_X2_0 hO wk_49 dX2_readLine_1 ?_
  refine gt_X1_1 hO kd_3 kl_3 wk_57 dX2_readLine_4 ?_
  refine gj_istore_n (lv2 := [(1, gj_i (σ.1 3 1)), (0, gj_r 2)]) hO dX2_readLine_7 rfl (by decide) rfl ?_
  refine gj_aload_n hO 1 dX2_readLine_8 rfl rfl ?_
  refine gj_ldc2 hO wk_39 dX2_readLine_9 ?_
  obtain ⟨x1, hc1, hf⟩ := gj_b hf
  refine ca_X2_isWord hO  hc1 wk_69 (by decide) (by decide) (Nat.le_of_ble_eq_true rfl) dX2_readLine_12 ?_
  obtain ⟨⟨z2_0, z2_1⟩, hz2, hf⟩ := gj_b hf
  dsimp only at hf
  have J2 : gj_G E X 3 (some (gj_i x)) y 93 [(0, gj_r 2), (2, gj_i z2_0)] [] z2_1 := by
    refine gj_iload_n hO 1 dX2_readLine_93 rfl rfl ?_
    refine gj_if_eq (tgt := 108) hO dX2_readLine_94 (by decide) (fun h => ?_) (fun h => ?_)
    · replace hf := gj_t h hf
      refine gj_iconst (v := 0) hO dX2_readLine_108 (by decide) ?_
      replace hf := Option.some.inj hf
      simp only [Prod.mk.injEq] at hf
      obtain ⟨rfl, rfl⟩ := hf
      exact gj_zret hO (Or.inl rfl) dX2_readLine_109
    · replace hf := gj_f h hf
      refine gj_aload_n hO 0 dX2_readLine_97 rfl rfl ?_
      obtain ⟨⟨x11_v, x11_s⟩, hc11, hf⟩ := gj_b hf
      dsimp only at hf
      refine ca_X2_passStop hO  hc11 wk_108 (by decide) (by decide) (Nat.le_of_ble_eq_true rfl) dX2_readLine_98 ?_
      refine gj_if_eq (tgt := 108) hO dX2_readLine_101 (by decide) (fun h => ?_) (fun h => ?_)
      · replace hf := gj_t h hf
        refine gj_iconst (v := 0) hO dX2_readLine_108 (by decide) ?_
        replace hf := Option.some.inj hf
        simp only [Prod.mk.injEq] at hf
        obtain ⟨rfl, rfl⟩ := hf
        exact gj_zret hO (Or.inl rfl) dX2_readLine_109
      · replace hf := gj_f h hf
        refine gj_iconst (v := 1) hO dX2_readLine_104 (by decide) ?_
        refine gj_goto (tgt := 109) hO dX2_readLine_105 (by decide) ?_
        replace hf := Option.some.inj hf
        simp only [Prod.mk.injEq] at hf
        obtain ⟨rfl, rfl⟩ := hf
        exact gj_zret hO (Or.inr rfl) dX2_readLine_109
  refine gj_if_eq (tgt := 26) hO dX2_readLine_15 (by decide) (fun h => ?_) (fun h => ?_)
  · replace hz2 := gj_t h hz2
    refine gj_aload_n hO 1 dX2_readLine_26 rfl rfl ?_
    refine gj_ldc2 hO wk_42 dX2_readLine_27 ?_
    obtain ⟨x3, hc3, hz2⟩ := gj_b hz2
    refine ca_X2_isWord hO  hc3 wk_69 (by decide) (by decide) (Nat.le_of_ble_eq_true rfl) dX2_readLine_30 ?_
    refine gj_if_eq (tgt := 69) hO dX2_readLine_33 (by decide) (fun h => ?_) (fun h => ?_)
    · replace hz2 := gj_t h hz2
      refine gj_aload_n hO 1 dX2_readLine_69 rfl rfl ?_
      refine gj_ldc2 hO wk_45 dX2_readLine_70 ?_
      obtain ⟨x4, hc4, hz2⟩ := gj_b hz2
      refine ca_X2_isWord hO  hc4 wk_69 (by decide) (by decide) (Nat.le_of_ble_eq_true rfl) dX2_readLine_73 ?_
      refine gj_if_eq (tgt := 87) hO dX2_readLine_76 (by decide) (fun h => ?_) (fun h => ?_)
      · replace hz2 := gj_t h hz2
        refine gj_aload_n hO 1 dX2_readLine_87 rfl rfl ?_
        refine gj_iconst (v := 1) hO dX2_readLine_88 (by decide) ?_
        obtain ⟨⟨x5_v, x5_s⟩, hc5, hz2⟩ := gj_b hz2
        dsimp only at hz2
        refine ca_X2_fails hO  hc5 wk_59 (by decide) (by decide) (Nat.le_of_ble_eq_true rfl) dX2_readLine_89 ?_
        refine gj_istore_n (lv2 := [(2, gj_i x5_v), (1, gj_i (σ.1 3 1)), (0, gj_r 2)]) hO dX2_readLine_92 rfl (by decide) rfl ?_
        replace hz2 := Option.some.inj hz2
        simp only [Prod.mk.injEq] at hz2
        obtain ⟨rfl, rfl⟩ := hz2
        refine gj_sub (lv2 := [(0, gj_r 2), (2, gj_i x5_v)]) [2, 0] rfl ?_
        exact J2
      · replace hz2 := gj_f h hz2
        refine gj_aload_n hO 1 dX2_readLine_79 rfl rfl ?_
        obtain ⟨⟨x6_v, x6_s⟩, hc6, hz2⟩ := gj_b hz2
        dsimp only at hz2
        refine ca_X2_readBlock hO  hc6 wk_103 (by decide) (by decide) (Nat.le_of_ble_eq_true rfl) dX2_readLine_80 ?_
        refine gj_istore_n (lv2 := [(2, gj_i x6_v), (1, gj_i (σ.1 3 1)), (0, gj_r 2)]) hO dX2_readLine_83 rfl (by decide) rfl ?_
        refine gj_goto (tgt := 93) hO dX2_readLine_84 (by decide) ?_
        replace hz2 := Option.some.inj hz2
        simp only [Prod.mk.injEq] at hz2
        obtain ⟨rfl, rfl⟩ := hz2
        refine gj_sub (lv2 := [(0, gj_r 2), (2, gj_i x6_v)]) [2, 0] rfl ?_
        exact J2
    · replace hz2 := gj_f h hz2
      refine gj_aload_n hO 1 dX2_readLine_36 rfl rfl ?_
      refine gj_iload_n hO 0 dX2_readLine_37 rfl rfl ?_
      obtain ⟨⟨x7_v, x7_s⟩, hc7, hz2⟩ := gj_b hz2
      dsimp only at hz2
      refine ca_X2_readRouteName hO  hc7 wk_104 (by decide) (by decide) (Nat.le_of_ble_eq_true rfl) dX2_readLine_38 ?_
      refine gj_if_eq (tgt := 64) hO dX2_readLine_41 (by decide) (fun h => ?_) (fun h => ?_)
      · replace hz2 := gj_t h hz2
        refine gj_iconst (v := 0) hO dX2_readLine_64 (by decide) ?_
        refine gj_istore_n (lv2 := [(2, gj_i (0 : Int32)), (1, gj_i (σ.1 3 1)), (0, gj_r 2)]) hO dX2_readLine_65 rfl (by decide) rfl ?_
        refine gj_goto (tgt := 93) hO dX2_readLine_66 (by decide) ?_
        replace hz2 := Option.some.inj hz2
        simp only [Prod.mk.injEq] at hz2
        obtain ⟨rfl, rfl⟩ := hz2
        refine gj_sub (lv2 := [(0, gj_r 2), (2, gj_i (0 : Int32))]) [2, 0] rfl ?_
        exact J2
      · replace hz2 := gj_f h hz2
        refine gj_aload_n hO 1 dX2_readLine_44 rfl rfl ?_
        refine gj_iload_n hO 0 dX2_readLine_45 rfl rfl ?_
        obtain ⟨⟨x8_v, x8_s⟩, hc8, hz2⟩ := gj_b hz2
        dsimp only at hz2
        refine ca_X2_readEnds hO  hc8 wk_105 (by decide) (by decide) (Nat.le_of_ble_eq_true rfl) dX2_readLine_46 ?_
        refine gj_if_eq (tgt := 64) hO dX2_readLine_49 (by decide) (fun h => ?_) (fun h => ?_)
        · replace hz2 := gj_t h hz2
          refine gj_iconst (v := 0) hO dX2_readLine_64 (by decide) ?_
          refine gj_istore_n (lv2 := [(2, gj_i (0 : Int32)), (1, gj_i (σ.1 3 1)), (0, gj_r 2)]) hO dX2_readLine_65 rfl (by decide) rfl ?_
          refine gj_goto (tgt := 93) hO dX2_readLine_66 (by decide) ?_
          replace hz2 := Option.some.inj hz2
          simp only [Prod.mk.injEq] at hz2
          obtain ⟨rfl, rfl⟩ := hz2
          refine gj_sub (lv2 := [(0, gj_r 2), (2, gj_i (0 : Int32))]) [2, 0] rfl ?_
          exact J2
        · replace hz2 := gj_f h hz2
          refine gj_aload_n hO 1 dX2_readLine_52 rfl rfl ?_
          refine gj_iload_n hO 0 dX2_readLine_53 rfl rfl ?_
          obtain ⟨⟨x9_v, x9_s⟩, hc9, hz2⟩ := gj_b hz2
          dsimp only at hz2
          refine ca_X2_readNumbers hO  hc9 wk_106 (by decide) (by decide) (Nat.le_of_ble_eq_true rfl) dX2_readLine_54 ?_
          refine gj_if_eq (tgt := 64) hO dX2_readLine_57 (by decide) (fun h => ?_) (fun h => ?_)
          · replace hz2 := gj_t h hz2
            refine gj_iconst (v := 0) hO dX2_readLine_64 (by decide) ?_
            refine gj_istore_n (lv2 := [(2, gj_i (0 : Int32)), (1, gj_i (σ.1 3 1)), (0, gj_r 2)]) hO dX2_readLine_65 rfl (by decide) rfl ?_
            refine gj_goto (tgt := 93) hO dX2_readLine_66 (by decide) ?_
            replace hz2 := Option.some.inj hz2
            simp only [Prod.mk.injEq] at hz2
            obtain ⟨rfl, rfl⟩ := hz2
            refine gj_sub (lv2 := [(0, gj_r 2), (2, gj_i (0 : Int32))]) [2, 0] rfl ?_
            exact J2
          · replace hz2 := gj_f h hz2
            refine gj_iconst (v := 1) hO dX2_readLine_60 (by decide) ?_
            refine gj_goto (tgt := 65) hO dX2_readLine_61 (by decide) ?_
            refine gj_istore_n (lv2 := [(2, gj_i (1 : Int32)), (1, gj_i (σ.1 3 1)), (0, gj_r 2)]) hO dX2_readLine_65 rfl (by decide) rfl ?_
            refine gj_goto (tgt := 93) hO dX2_readLine_66 (by decide) ?_
            replace hz2 := Option.some.inj hz2
            simp only [Prod.mk.injEq] at hz2
            obtain ⟨rfl, rfl⟩ := hz2
            refine gj_sub (lv2 := [(0, gj_r 2), (2, gj_i (1 : Int32))]) [2, 0] rfl ?_
            exact J2
  · replace hz2 := gj_f h hz2
    refine gj_aload_n hO 1 dX2_readLine_18 rfl rfl ?_
    obtain ⟨⟨x10_v, x10_s⟩, hc10, hz2⟩ := gj_b hz2
    dsimp only at hz2
    refine ca_X2_readDock hO  hc10 wk_107 (by decide) (by decide) (Nat.le_of_ble_eq_true rfl) dX2_readLine_19 ?_
    refine gj_istore_n (lv2 := [(2, gj_i x10_v), (1, gj_i (σ.1 3 1)), (0, gj_r 2)]) hO dX2_readLine_22 rfl (by decide) rfl ?_
    refine gj_goto (tgt := 93) hO dX2_readLine_23 (by decide) ?_
    replace hz2 := Option.some.inj hz2
    simp only [Prod.mk.injEq] at hz2
    obtain ⟨rfl, rfl⟩ := hz2
    refine gj_sub (lv2 := [(0, gj_r 2), (2, gj_i x10_v)]) [2, 0] rfl ?_
    exact J2
set_option maxHeartbeats 4000000 in
set_option maxRecDepth 100000 in
theorem ca_X2_readLine {E : gj_E} {X : gj_X} {own : String} {cc : ByteArray} {nL : Nat} {rt : Option FieldType} {fr lo : Nat} {ce sl : Nat} {Q : State → Prop} {pc : Nat} {lv : List (Nat × gj_V)} {st : List gj_V} {σ : gj_S} (hO : gj_O E X own cc nL rt fr lo)   {idx : Nat} {x : Int32} {y : gj_S} (hf : f_X2_readLine  σ = some (x, y)) (hl : Cond.methodLink own idx yX2_readLine ∈ gj_gw) (hf1 : 5 ≤ fr) (hf2 : 106 ≤ lo) (hcat : ((st.map (gj_tv E.2.1)).map fun v => v.category).sum ≤ 8) (hd : decode cc pc = .ok (.invokevirtual idx, 3)) (k : gj_H E X nL ce sl Q (pc + 3) lv ((gj_i x) :: st) y) : gj_H E X nL ce sl Q pc lv (gj_r 2 :: st) σ :=
  gj_callV hO (o := 2) (vs := []) (m_X2_readLine  hf) (gj_Iany (by decide)) hl wk_109 wk_110 wk_18 wk_111 kl_2 kd_2 (by decide) (ci := 2) rfl (n := 0) (by decide +kernel) rfl hf1 hf2 rfl hcat hd k
