def f_X8_dock (b1 : Int32) (b2 : Int32) (σ : gj_S) : Option Int32 := ((f_X1_hasDock 17 b1 σ).bind fun x1 => (if x1 = 0 then none else (if b2 = 0 then (if gj_in b1 8 then some (σ.1 18 (Int32.toNatClampNeg b1)) else none) else (if b2 = 1 then (if gj_in b1 9 then some (σ.1 30 (Int32.toNatClampNeg b1)) else none) else (if b2 = 2 then (if gj_in b1 9 then some (σ.1 29 (Int32.toNatClampNeg b1)) else none) else (if b2 = 3 then (if gj_in b1 9 then some (σ.1 27 (Int32.toNatClampNeg b1)) else none) else (if b2 = 4 then ((f_X7_countHanging 16 b1 σ).bind fun x6 => some x6) else (if b2 = 5 then ((f_X1_lackOf 17 b1 σ).bind fun x7 => some x7) else (if b2 = 6 then ((f_X1_stuckOf 17 b1 σ).bind fun x8 => some x8) else none)))))))))
set_option maxHeartbeats 4000000 in
set_option maxRecDepth 100000 in
theorem m_X8_dock {E : gj_E} {σ : gj_S} {b1 : Int32} {b2 : Int32}  {x : Int32} (hf : f_X8_dock b1 b2 σ = some x) : gj_M E yX8_dock cX8_dock 3 (some .int) 2 47 [gj_r 0, gj_i b1, gj_i b2] σ (some (gj_i x)) σ := by
  refine gj_body (lv := [(0, gj_r 0), (1, gj_i b1), (2, gj_i b2)]) (by decide +kernel) (Nat.le_of_ble_eq_true rfl) rfl (fun X hO => ?_)
  replace hO : gj_O E X RX8 cX8_dock 3 (some .int) 2 47 := hO
  unfold f_X8_dock at hf
  refine gj_aload_n hO 0 dX8_dock_0 rfl rfl ?_
  refine gt_X8_4 hO wk_185 dX8_dock_1 ?_
  refine gt_X7_0 hO kd_16 kl_16 wk_186 dX8_dock_4 ?_
  refine gj_iload_n hO 1 dX8_dock_7 rfl rfl ?_
  obtain ⟨x1, hc1, hf⟩ := gj_b hf
  refine ca_X1_hasDock hO isP_17 hc1 wk_217 (by decide) (by decide) (Nat.le_of_ble_eq_true rfl) dX8_dock_8 ?_
  refine gj_if_ne (tgt := 24) hO dX8_dock_11 (by decide) (fun h => ?_) (fun h => ?_)
  · replace hf := gj_f h hf
    refine gj_iload_n hO 2 dX8_dock_24 rfl rfl ?_
    by_cases hs0 : b2 = 0
    · replace hf := gj_t hs0 hf
      refine gj_tblAt 0 (tgt := 68) hO dX8_dock_25 hs0 (by decide) (by decide) rfl (by decide) ?_
      refine gj_aload_n hO 0 dX8_dock_68 rfl rfl ?_
      refine gt_X8_4 hO wk_185 dX8_dock_69 ?_
      refine gt_X7_0 hO kd_16 kl_16 wk_186 dX8_dock_72 ?_
      refine gt_X1_5 hO kd_17 kl_17 wk_218 dX8_dock_75 ?_
      refine gj_iload_n hO 1 dX8_dock_78 rfl rfl ?_
      obtain ⟨hb2, hf⟩ := gj_c hf
      refine gj_iald hO kl_18 kd_18 hb2 dX8_dock_79 ?_
      obtain rfl := Option.some.inj hf
      exact gj_iret hO dX8_dock_80
    · replace hf := gj_f hs0 hf
      by_cases hs1 : b2 = 1
      · replace hf := gj_t hs1 hf
        refine gj_tblAt 1 (tgt := 81) hO dX8_dock_25 hs1 (by decide) (by decide) rfl (by decide) ?_
        refine gj_aload_n hO 0 dX8_dock_81 rfl rfl ?_
        refine gt_X8_4 hO wk_185 dX8_dock_82 ?_
        refine gt_X7_1 hO kd_16 kl_16 wk_219 dX8_dock_85 ?_
        refine gt_X5_3 hO kd_26 kl_26 wk_220 dX8_dock_88 ?_
        refine gj_iload_n hO 1 dX8_dock_91 rfl rfl ?_
        obtain ⟨hb3, hf⟩ := gj_c hf
        refine gj_iald hO kl_30 kd_30 hb3 dX8_dock_92 ?_
        obtain rfl := Option.some.inj hf
        exact gj_iret hO dX8_dock_93
      · replace hf := gj_f hs1 hf
        by_cases hs2 : b2 = 2
        · replace hf := gj_t hs2 hf
          refine gj_tblAt 2 (tgt := 94) hO dX8_dock_25 hs2 (by decide) (by decide) rfl (by decide) ?_
          refine gj_aload_n hO 0 dX8_dock_94 rfl rfl ?_
          refine gt_X8_4 hO wk_185 dX8_dock_95 ?_
          refine gt_X7_1 hO kd_16 kl_16 wk_219 dX8_dock_98 ?_
          refine gt_X5_2 hO kd_26 kl_26 wk_221 dX8_dock_101 ?_
          refine gj_iload_n hO 1 dX8_dock_104 rfl rfl ?_
          obtain ⟨hb4, hf⟩ := gj_c hf
          refine gj_iald hO kl_29 kd_29 hb4 dX8_dock_105 ?_
          obtain rfl := Option.some.inj hf
          exact gj_iret hO dX8_dock_106
        · replace hf := gj_f hs2 hf
          by_cases hs3 : b2 = 3
          · replace hf := gj_t hs3 hf
            refine gj_tblAt 3 (tgt := 107) hO dX8_dock_25 hs3 (by decide) (by decide) rfl (by decide) ?_
            refine gj_aload_n hO 0 dX8_dock_107 rfl rfl ?_
            refine gt_X8_4 hO wk_185 dX8_dock_108 ?_
            refine gt_X7_1 hO kd_16 kl_16 wk_219 dX8_dock_111 ?_
            refine gt_X5_0 hO kd_26 kl_26 wk_222 dX8_dock_114 ?_
            refine gj_iload_n hO 1 dX8_dock_117 rfl rfl ?_
            obtain ⟨hb5, hf⟩ := gj_c hf
            refine gj_iald hO kl_27 kd_27 hb5 dX8_dock_118 ?_
            obtain rfl := Option.some.inj hf
            exact gj_iret hO dX8_dock_119
          · replace hf := gj_f hs3 hf
            by_cases hs4 : b2 = 4
            · replace hf := gj_t hs4 hf
              refine gj_tblAt 4 (tgt := 120) hO dX8_dock_25 hs4 (by decide) (by decide) rfl (by decide) ?_
              refine gj_aload_n hO 0 dX8_dock_120 rfl rfl ?_
              refine gt_X8_4 hO wk_185 dX8_dock_121 ?_
              refine gj_iload_n hO 1 dX8_dock_124 rfl rfl ?_
              obtain ⟨x6, hc6, hf⟩ := gj_b hf
              refine ca_X7_countHanging hO isY_16 hc6 wk_223 (by decide) (by decide) (Nat.le_of_ble_eq_true rfl) dX8_dock_125 ?_
              obtain rfl := Option.some.inj hf
              exact gj_iret hO dX8_dock_128
            · replace hf := gj_f hs4 hf
              by_cases hs5 : b2 = 5
              · replace hf := gj_t hs5 hf
                refine gj_tblAt 5 (tgt := 129) hO dX8_dock_25 hs5 (by decide) (by decide) rfl (by decide) ?_
                refine gj_aload_n hO 0 dX8_dock_129 rfl rfl ?_
                refine gt_X8_4 hO wk_185 dX8_dock_130 ?_
                refine gt_X7_0 hO kd_16 kl_16 wk_186 dX8_dock_133 ?_
                refine gj_iload_n hO 1 dX8_dock_136 rfl rfl ?_
                obtain ⟨x7, hc7, hf⟩ := gj_b hf
                refine ca_X1_lackOf hO isP_17 hc7 wk_224 (by decide) (by decide) (Nat.le_of_ble_eq_true rfl) dX8_dock_137 ?_
                obtain rfl := Option.some.inj hf
                exact gj_iret hO dX8_dock_140
              · replace hf := gj_f hs5 hf
                by_cases hs6 : b2 = 6
                · replace hf := gj_t hs6 hf
                  refine gj_tblAt 6 (tgt := 141) hO dX8_dock_25 hs6 (by decide) (by decide) rfl (by decide) ?_
                  refine gj_aload_n hO 0 dX8_dock_141 rfl rfl ?_
                  refine gt_X8_4 hO wk_185 dX8_dock_142 ?_
                  refine gt_X7_0 hO kd_16 kl_16 wk_186 dX8_dock_145 ?_
                  refine gj_iload_n hO 1 dX8_dock_148 rfl rfl ?_
                  obtain ⟨x8, hc8, hf⟩ := gj_b hf
                  refine ca_X1_stuckOf hO isP_17 hc8 wk_225 (by decide) (by decide) (Nat.le_of_ble_eq_true rfl) dX8_dock_149 ?_
                  obtain rfl := Option.some.inj hf
                  exact gj_iret hO dX8_dock_152
                · replace hf := gj_f hs6 hf
                  refine gj_tblOut (tgt := 153) hO dX8_dock_25 (gj_out6 hs0 hs1 hs2 hs3 hs4 hs5 hs6) (by decide) ?_
                  cases hf
  · replace hf := gj_t h hf
    cases hf
set_option maxHeartbeats 4000000 in
set_option maxRecDepth 100000 in
theorem ca_X8_dock {E : gj_E} {X : gj_X} {own : String} {cc : ByteArray} {nL : Nat} {rt : Option FieldType} {fr lo : Nat} {ce sl : Nat} {Q : State → Prop} {pc : Nat} {lv : List (Nat × gj_V)} {st : List gj_V} {σ : gj_S} (hO : gj_O E X own cc nL rt fr lo) {b1 : Int32} {b2 : Int32}  {idx : Nat} {x : Int32} (hf : f_X8_dock b1 b2 σ = some x) (hl : Cond.methodLink own idx yX8_dock ∈ gj_gw) (hf1 : 3 ≤ fr) (hf2 : 69 ≤ lo) (hcat : ((st.map (gj_tv E.2.1)).map fun v => v.category).sum ≤ 8) (hd : decode cc pc = .ok (.invokevirtual idx, 3)) (k : gj_H E X nL ce sl Q (pc + 3) lv ((gj_i x) :: st) σ) : gj_H E X nL ce sl Q pc lv (gj_i b2 :: gj_i b1 :: gj_r 0 :: st) σ :=
  gj_callV hO (o := 0) (vs := [gj_i b1, gj_i b2]) (m_X8_dock  hf) (gj_Iany (by decide)) hl wk_226 wk_227 wk_4 wk_228 kl_0 kd_0 (by decide) (ci := 8) rfl (n := 2) (by decide +kernel) rfl hf1 hf2 rfl hcat hd k
def f_X8_way (b1 : Int32) (b2 : Int32) (σ : gj_S) : Option Int32 := ((f_X1_hasWay 17 b1 σ).bind fun x1 => (if x1 = 0 then none else (if b2 = 0 then (if gj_in b1 24 then (if (σ.1 19 (Int32.toNatClampNeg b1)) = (8 : Int32) then some (-1 : Int32) else (if gj_in b1 24 then some (σ.1 19 (Int32.toNatClampNeg b1)) else none)) else none) else (if b2 = 1 then (if gj_in b1 24 then (if (σ.1 20 (Int32.toNatClampNeg b1)) = (8 : Int32) then some (-1 : Int32) else (if gj_in b1 24 then some (σ.1 20 (Int32.toNatClampNeg b1)) else none)) else none) else (if b2 = 2 then (if gj_in b1 24 then some (σ.1 21 (Int32.toNatClampNeg b1)) else none) else (if b2 = 3 then ((f_X1_hasRoute 17 b1 σ).bind fun x7 => (if x7 = 0 then some (-1 : Int32) else (if gj_in b1 24 then some (σ.1 22 (Int32.toNatClampNeg b1)) else none))) else (if b2 = 4 then (if gj_in b1 24 then some (σ.1 23 (Int32.toNatClampNeg b1)) else none) else (if b2 = 5 then (if gj_in b1 24 then some (σ.1 24 (Int32.toNatClampNeg b1)) else none) else (if b2 = 6 then ((f_X7_gainOf 16 b1 σ).bind fun x11 => some x11) else none)))))))))
set_option maxHeartbeats 4000000 in
set_option maxRecDepth 100000 in
theorem m_X8_way {E : gj_E} {σ : gj_S} {b1 : Int32} {b2 : Int32}  {x : Int32} (hf : f_X8_way b1 b2 σ = some x) : gj_M E yX8_way cX8_way 4 (some .int) 2 41 [gj_r 0, gj_i b1, gj_i b2] σ (some (gj_i x)) σ := by
  refine gj_body (lv := [(0, gj_r 0), (1, gj_i b1), (2, gj_i b2)]) (by decide +kernel) (Nat.le_of_ble_eq_true rfl) rfl (fun X hO => ?_)
  replace hO : gj_O E X RX8 cX8_way 4 (some .int) 2 41 := hO
  unfold f_X8_way at hf
  refine gj_aload_n hO 0 dX8_way_0 rfl rfl ?_
  refine gt_X8_4 hO wk_185 dX8_way_1 ?_
  refine gt_X7_0 hO kd_16 kl_16 wk_186 dX8_way_4 ?_
  refine gj_astore_n (lv2 := [(3, gj_r 17), (0, gj_r 0), (1, gj_i b1), (2, gj_i b2)]) hO dX8_way_7 rfl (by decide) rfl ?_
  refine gj_aload_n hO 0 dX8_way_8 rfl rfl ?_
  refine gj_iload_n hO 2 dX8_way_9 rfl rfl ?_
  obtain ⟨x1, hc1, hf⟩ := gj_b hf
  refine ca_X1_hasWay hO isP_17 hc1 wk_243 (by decide) (by decide) (Nat.le_of_ble_eq_true rfl) dX8_way_10 ?_
  refine gj_if_ne (tgt := 26) hO dX8_way_13 (by decide) (fun h => ?_) (fun h => ?_)
  · replace hf := gj_f h hf
    refine gj_iload_n hO 3 dX8_way_26 rfl rfl ?_
    by_cases hs0 : b2 = 0
    · replace hf := gj_t hs0 hf
      refine gj_tblAt 0 (tgt := 68) hO dX8_way_27 hs0 (by decide) (by decide) rfl (by decide) ?_
      refine gj_aload_n hO 0 dX8_way_68 rfl rfl ?_
      refine gt_X1_6 hO kd_17 kl_17 wk_244 dX8_way_69 ?_
      refine gj_iload_n hO 2 dX8_way_72 rfl rfl ?_
      obtain ⟨hb2, hf⟩ := gj_c hf
      refine gj_iald hO kl_19 kd_19 hb2 dX8_way_73 ?_
      refine gj_bipush (v := 8) hO dX8_way_74 (by decide) ?_
      refine gj_icmp_ne (tgt := 83) hO dX8_way_76 (by decide) (fun h => ?_) (fun h => ?_)
      · replace hf := gj_f h hf
        refine gj_aload_n hO 0 dX8_way_83 rfl rfl ?_
        refine gt_X1_6 hO kd_17 kl_17 wk_244 dX8_way_84 ?_
        refine gj_iload_n hO 2 dX8_way_87 rfl rfl ?_
        obtain ⟨hb3, hf⟩ := gj_c hf
        refine gj_iald hO kl_19 kd_19 hb3 dX8_way_88 ?_
        obtain rfl := Option.some.inj hf
        exact gj_iret hO dX8_way_89
      · replace hf := gj_t h hf
        refine gj_iconst (v := (-1)) hO dX8_way_79 (by decide) ?_
        refine gj_goto (tgt := 89) hO dX8_way_80 (by decide) ?_
        obtain rfl := Option.some.inj hf
        exact gj_iret hO dX8_way_89
    · replace hf := gj_f hs0 hf
      by_cases hs1 : b2 = 1
      · replace hf := gj_t hs1 hf
        refine gj_tblAt 1 (tgt := 90) hO dX8_way_27 hs1 (by decide) (by decide) rfl (by decide) ?_
        refine gj_aload_n hO 0 dX8_way_90 rfl rfl ?_
        refine gt_X1_7 hO kd_17 kl_17 wk_245 dX8_way_91 ?_
        refine gj_iload_n hO 2 dX8_way_94 rfl rfl ?_
        obtain ⟨hb4, hf⟩ := gj_c hf
        refine gj_iald hO kl_20 kd_20 hb4 dX8_way_95 ?_
        refine gj_bipush (v := 8) hO dX8_way_96 (by decide) ?_
        refine gj_icmp_ne (tgt := 105) hO dX8_way_98 (by decide) (fun h => ?_) (fun h => ?_)
        · replace hf := gj_f h hf
          refine gj_aload_n hO 0 dX8_way_105 rfl rfl ?_
          refine gt_X1_7 hO kd_17 kl_17 wk_245 dX8_way_106 ?_
          refine gj_iload_n hO 2 dX8_way_109 rfl rfl ?_
          obtain ⟨hb5, hf⟩ := gj_c hf
          refine gj_iald hO kl_20 kd_20 hb5 dX8_way_110 ?_
          obtain rfl := Option.some.inj hf
          exact gj_iret hO dX8_way_111
        · replace hf := gj_t h hf
          refine gj_iconst (v := (-1)) hO dX8_way_101 (by decide) ?_
          refine gj_goto (tgt := 111) hO dX8_way_102 (by decide) ?_
          obtain rfl := Option.some.inj hf
          exact gj_iret hO dX8_way_111
      · replace hf := gj_f hs1 hf
        by_cases hs2 : b2 = 2
        · replace hf := gj_t hs2 hf
          refine gj_tblAt 2 (tgt := 112) hO dX8_way_27 hs2 (by decide) (by decide) rfl (by decide) ?_
          refine gj_aload_n hO 0 dX8_way_112 rfl rfl ?_
          refine gt_X1_8 hO kd_17 kl_17 wk_246 dX8_way_113 ?_
          refine gj_iload_n hO 2 dX8_way_116 rfl rfl ?_
          obtain ⟨hb6, hf⟩ := gj_c hf
          refine gj_iald hO kl_21 kd_21 hb6 dX8_way_117 ?_
          obtain rfl := Option.some.inj hf
          exact gj_iret hO dX8_way_118
        · replace hf := gj_f hs2 hf
          by_cases hs3 : b2 = 3
          · replace hf := gj_t hs3 hf
            refine gj_tblAt 3 (tgt := 119) hO dX8_way_27 hs3 (by decide) (by decide) rfl (by decide) ?_
            refine gj_aload_n hO 0 dX8_way_119 rfl rfl ?_
            refine gj_iload_n hO 2 dX8_way_120 rfl rfl ?_
            obtain ⟨x7, hc7, hf⟩ := gj_b hf
            refine ca_X1_hasRoute hO isP_17 hc7 wk_247 (by decide) (by decide) (Nat.le_of_ble_eq_true rfl) dX8_way_121 ?_
            refine gj_if_eq (tgt := 136) hO dX8_way_124 (by decide) (fun h => ?_) (fun h => ?_)
            · replace hf := gj_t h hf
              refine gj_iconst (v := (-1)) hO dX8_way_136 (by decide) ?_
              obtain rfl := Option.some.inj hf
              exact gj_iret hO dX8_way_137
            · replace hf := gj_f h hf
              refine gj_aload_n hO 0 dX8_way_127 rfl rfl ?_
              refine gt_X1_9 hO kd_17 kl_17 wk_248 dX8_way_128 ?_
              refine gj_iload_n hO 2 dX8_way_131 rfl rfl ?_
              obtain ⟨hb8, hf⟩ := gj_c hf
              refine gj_iald hO kl_22 kd_22 hb8 dX8_way_132 ?_
              refine gj_goto (tgt := 137) hO dX8_way_133 (by decide) ?_
              obtain rfl := Option.some.inj hf
              exact gj_iret hO dX8_way_137
          · replace hf := gj_f hs3 hf
            by_cases hs4 : b2 = 4
            · replace hf := gj_t hs4 hf
              refine gj_tblAt 4 (tgt := 138) hO dX8_way_27 hs4 (by decide) (by decide) rfl (by decide) ?_
              refine gj_aload_n hO 0 dX8_way_138 rfl rfl ?_
              refine gt_X1_10 hO kd_17 kl_17 wk_249 dX8_way_139 ?_
              refine gj_iload_n hO 2 dX8_way_142 rfl rfl ?_
              obtain ⟨hb9, hf⟩ := gj_c hf
              refine gj_iald hO kl_23 kd_23 hb9 dX8_way_143 ?_
              obtain rfl := Option.some.inj hf
              exact gj_iret hO dX8_way_144
            · replace hf := gj_f hs4 hf
              by_cases hs5 : b2 = 5
              · replace hf := gj_t hs5 hf
                refine gj_tblAt 5 (tgt := 145) hO dX8_way_27 hs5 (by decide) (by decide) rfl (by decide) ?_
                refine gj_aload_n hO 0 dX8_way_145 rfl rfl ?_
                refine gt_X1_11 hO kd_17 kl_17 wk_250 dX8_way_146 ?_
                refine gj_iload_n hO 2 dX8_way_149 rfl rfl ?_
                obtain ⟨hb10, hf⟩ := gj_c hf
                refine gj_iald hO kl_24 kd_24 hb10 dX8_way_150 ?_
                obtain rfl := Option.some.inj hf
                exact gj_iret hO dX8_way_151
              · replace hf := gj_f hs5 hf
                by_cases hs6 : b2 = 6
                · replace hf := gj_t hs6 hf
                  refine gj_tblAt 6 (tgt := 152) hO dX8_way_27 hs6 (by decide) (by decide) rfl (by decide) ?_
                  refine gj_aload_n hO 1 dX8_way_152 rfl rfl ?_
                  refine gt_X8_4 hO wk_185 dX8_way_153 ?_
                  refine gj_iload_n hO 2 dX8_way_156 rfl rfl ?_
                  obtain ⟨x11, hc11, hf⟩ := gj_b hf
                  refine ca_X7_gainOf hO isY_16 hc11 wk_251 (by decide) (by decide) (Nat.le_of_ble_eq_true rfl) dX8_way_157 ?_
                  obtain rfl := Option.some.inj hf
                  exact gj_iret hO dX8_way_160
                · replace hf := gj_f hs6 hf
                  refine gj_tblOut (tgt := 161) hO dX8_way_27 (gj_out6 hs0 hs1 hs2 hs3 hs4 hs5 hs6) (by decide) ?_
                  cases hf
  · replace hf := gj_t h hf
    cases hf
set_option maxHeartbeats 4000000 in
set_option maxRecDepth 100000 in
theorem ca_X8_way {E : gj_E} {X : gj_X} {own : String} {cc : ByteArray} {nL : Nat} {rt : Option FieldType} {fr lo : Nat} {ce sl : Nat} {Q : State → Prop} {pc : Nat} {lv : List (Nat × gj_V)} {st : List gj_V} {σ : gj_S} (hO : gj_O E X own cc nL rt fr lo) {b1 : Int32} {b2 : Int32}  {idx : Nat} {x : Int32} (hf : f_X8_way b1 b2 σ = some x) (hl : Cond.methodLink own idx yX8_way ∈ gj_gw) (hf1 : 3 ≤ fr) (hf2 : 64 ≤ lo) (hcat : ((st.map (gj_tv E.2.1)).map fun v => v.category).sum ≤ 8) (hd : decode cc pc = .ok (.invokevirtual idx, 3)) (k : gj_H E X nL ce sl Q (pc + 3) lv ((gj_i x) :: st) σ) : gj_H E X nL ce sl Q pc lv (gj_i b2 :: gj_i b1 :: gj_r 0 :: st) σ :=
  gj_callV hO (o := 0) (vs := [gj_i b1, gj_i b2]) (m_X8_way  hf) (gj_Iany (by decide)) hl wk_252 wk_253 wk_4 wk_254 kl_0 kd_0 (by decide) (ci := 8) rfl (n := 2) (by decide +kernel) rfl hf1 hf2 rfl hcat hd k
def f_X8_log (b1 : Int32) (b2 : Int32) (σ : gj_S) : Option Int32 := (if b1 < 0 then none else ((f_X1_countLogged 17 σ).bind fun x1 => (if b1 < x1 then (if b2 < 0 then none else (if b2 < (5 : Int32) then ((f_X1_readLog 17 b1 b2 σ).bind fun x2 => some x2) else none)) else none)))
set_option maxHeartbeats 4000000 in
set_option maxRecDepth 100000 in
theorem m_X8_log {E : gj_E} {σ : gj_S} {b1 : Int32} {b2 : Int32}  {x : Int32} (hf : f_X8_log b1 b2 σ = some x) : gj_M E yX8_log cX8_log 3 (some .int) 2 44 [gj_r 0, gj_i b1, gj_i b2] σ (some (gj_i x)) σ := by
  refine gj_body (lv := [(0, gj_r 0), (1, gj_i b1), (2, gj_i b2)]) (by decide +kernel) (Nat.le_of_ble_eq_true rfl) rfl (fun X hO => ?_)
  replace hO : gj_O E X RX8 cX8_log 3 (some .int) 2 44 := hO
  unfold f_X8_log at hf
  refine gj_iload_n hO 1 dX8_log_0 rfl rfl ?_
  refine gj_if_lt (tgt := 18) hO dX8_log_1 (by decide) (fun h => ?_) (fun h => ?_)
  · replace hf := gj_t h hf
    cases hf
  · replace hf := gj_f h hf
    refine gj_iload_n hO 1 dX8_log_4 rfl rfl ?_
    refine gj_aload_n hO 0 dX8_log_5 rfl rfl ?_
    refine gt_X8_4 hO wk_185 dX8_log_6 ?_
    refine gt_X7_0 hO kd_16 kl_16 wk_186 dX8_log_9 ?_
    obtain ⟨x1, hc1, hf⟩ := gj_b hf
    refine ca_X1_countLogged hO isP_17 hc1 wk_419 (by decide) (by decide) (Nat.le_of_ble_eq_true rfl) dX8_log_12 ?_
    refine gj_icmp_lt (tgt := 28) hO dX8_log_15 (by decide) (fun h => ?_) (fun h => ?_)
    · replace hf := gj_t h hf
      refine gj_iload_n hO 2 dX8_log_28 rfl rfl ?_
      refine gj_if_lt (tgt := 37) hO dX8_log_29 (by decide) (fun h => ?_) (fun h => ?_)
      · replace hf := gj_t h hf
        cases hf
      · replace hf := gj_f h hf
        refine gj_iload_n hO 2 dX8_log_32 rfl rfl ?_
        refine gj_iconst (v := 5) hO dX8_log_33 (by decide) ?_
        refine gj_icmp_lt (tgt := 47) hO dX8_log_34 (by decide) (fun h => ?_) (fun h => ?_)
        · replace hf := gj_t h hf
          refine gj_aload_n hO 0 dX8_log_47 rfl rfl ?_
          refine gt_X8_4 hO wk_185 dX8_log_48 ?_
          refine gt_X7_0 hO kd_16 kl_16 wk_186 dX8_log_51 ?_
          refine gj_iload_n hO 1 dX8_log_54 rfl rfl ?_
          refine gj_iload_n hO 2 dX8_log_55 rfl rfl ?_
          obtain ⟨x2, hc2, hf⟩ := gj_b hf
          refine ca_X1_readLog hO isP_17 hc2 wk_420 (by decide) (by decide) (Nat.le_of_ble_eq_true rfl) dX8_log_56 ?_
          obtain rfl := Option.some.inj hf
          exact gj_iret hO dX8_log_59
        · replace hf := gj_f h hf
          cases hf
    · replace hf := gj_f h hf
      cases hf
set_option maxHeartbeats 4000000 in
set_option maxRecDepth 100000 in
theorem ca_X8_log {E : gj_E} {X : gj_X} {own : String} {cc : ByteArray} {nL : Nat} {rt : Option FieldType} {fr lo : Nat} {ce sl : Nat} {Q : State → Prop} {pc : Nat} {lv : List (Nat × gj_V)} {st : List gj_V} {σ : gj_S} (hO : gj_O E X own cc nL rt fr lo) {b1 : Int32} {b2 : Int32}  {idx : Nat} {x : Int32} (hf : f_X8_log b1 b2 σ = some x) (hl : Cond.methodLink own idx yX8_log ∈ gj_gw) (hf1 : 3 ≤ fr) (hf2 : 66 ≤ lo) (hcat : ((st.map (gj_tv E.2.1)).map fun v => v.category).sum ≤ 8) (hd : decode cc pc = .ok (.invokevirtual idx, 3)) (k : gj_H E X nL ce sl Q (pc + 3) lv ((gj_i x) :: st) σ) : gj_H E X nL ce sl Q pc lv (gj_i b2 :: gj_i b1 :: gj_r 0 :: st) σ :=
  gj_callV hO (o := 0) (vs := [gj_i b1, gj_i b2]) (m_X8_log  hf) (gj_Iany (by decide)) hl wk_421 wk_422 wk_4 wk_423 kl_0 kd_0 (by decide) (ci := 8) rfl (n := 2) (by decide +kernel) rfl hf1 hf2 rfl hcat hd k
def f_X9_is (b1 : Nat) (σ : gj_S) : Option Int32 := (if (σ.1 188 9) = 0 then (if (σ.1 188 6) = (1 : Int32) then ((f_X9_spelled b1).bind fun x1 => (if (lg_cmp (σ.2.1 188 8) x1) = 0 then some (1 : Int32) else some (0 : Int32))) else some (0 : Int32)) else some (0 : Int32))
set_option maxHeartbeats 4000000 in
set_option maxRecDepth 100000 in
theorem m_X9_is {E : gj_E} {σ : gj_S} {b1 : Nat}  {x : Int32} (hf : f_X9_is b1 σ = some x) : gj_M E yX9_is cX9_is 2 (some .boolean) 5 108 [gj_r 188, gj_r b1] σ (some (gj_i x)) σ := by
  refine gj_body (lv := [(0, gj_r 188), (1, gj_r b1)]) (by decide +kernel) (Nat.le_of_ble_eq_true rfl) rfl (fun X hO => ?_)
  replace hO : gj_O E X RX9 cX9_is 2 (some .boolean) 5 108 := hO
  unfold f_X9_is at hf
  refine gj_aload_n hO 0 dX9_is_0 rfl rfl ?_
  refine gt_X9_9 hO wk_660 dX9_is_1 ?_
  refine gj_if_ne (tgt := 31) hO dX9_is_4 (by decide) (fun h => ?_) (fun h => ?_)
  · replace hf := gj_f h hf
    refine gj_iconst (v := 0) hO dX9_is_31 (by decide) ?_
    obtain rfl := Option.some.inj hf
    exact gj_zret hO (Or.inl rfl) dX9_is_32
  · replace hf := gj_t h hf
    refine gj_aload_n hO 0 dX9_is_7 rfl rfl ?_
    refine gt_X9_6 hO wk_648 dX9_is_8 ?_
    refine gj_iconst (v := 1) hO dX9_is_11 (by decide) ?_
    refine gj_icmp_ne (tgt := 31) hO dX9_is_12 (by decide) (fun h => ?_) (fun h => ?_)
    · replace hf := gj_f h hf
      refine gj_iconst (v := 0) hO dX9_is_31 (by decide) ?_
      obtain rfl := Option.some.inj hf
      exact gj_zret hO (Or.inl rfl) dX9_is_32
    · replace hf := gj_t h hf
      refine gj_aload_n hO 0 dX9_is_15 rfl rfl ?_
      refine gt_X9_8 hO wk_650 dX9_is_16 ?_
      refine gj_aload_n hO 1 dX9_is_19 rfl rfl ?_
      obtain ⟨x1, hc1, hf⟩ := gj_b hf
      refine ca_X9_spelled hO kl_188  hc1 wk_665 (by decide) (by decide) (Nat.le_of_ble_eq_true rfl) dX9_is_20 ?_
      refine gj_lcmp hO dX9_is_23 ?_
      refine gj_if_ne (tgt := 31) hO dX9_is_24 (by decide) (fun h => ?_) (fun h => ?_)
      · replace hf := gj_f h hf
        refine gj_iconst (v := 0) hO dX9_is_31 (by decide) ?_
        obtain rfl := Option.some.inj hf
        exact gj_zret hO (Or.inl rfl) dX9_is_32
      · replace hf := gj_t h hf
        refine gj_iconst (v := 1) hO dX9_is_27 (by decide) ?_
        refine gj_goto (tgt := 32) hO dX9_is_28 (by decide) ?_
        obtain rfl := Option.some.inj hf
        exact gj_zret hO (Or.inr rfl) dX9_is_32
set_option maxHeartbeats 4000000 in
set_option maxRecDepth 100000 in
theorem ca_X9_is {E : gj_E} {X : gj_X} {own : String} {cc : ByteArray} {nL : Nat} {rt : Option FieldType} {fr lo : Nat} {ce sl : Nat} {Q : State → Prop} {pc : Nat} {lv : List (Nat × gj_V)} {st : List gj_V} {σ : gj_S} (hO : gj_O E X own cc nL rt fr lo) (hw : gj_lt own 188) {b1 : Nat}  {idx : Nat} {x : Int32} (hf : f_X9_is b1 σ = some x) (hl : Cond.methodLink own idx yX9_is ∈ gj_gw) (hf1 : 6 ≤ fr) (hf2 : 129 ≤ lo) (hcat : ((st.map (gj_tv E.2.1)).map fun v => v.category).sum ≤ 8) (hd : decode cc pc = .ok (.invokevirtual idx, 3)) (k : gj_H E X nL ce sl Q (pc + 3) lv ((gj_i x) :: st) σ) : gj_H E X nL ce sl Q pc lv (gj_r b1 :: gj_r 188 :: st) σ :=
  gj_callV hO (o := 188) (vs := [gj_r b1]) (m_X9_is  hf) (gj_I9 hw) hl wk_666 wk_667 wk_629 wk_668 hw kd_188 (by decide) (ci := 9) rfl (n := 1) (by decide +kernel) rfl hf1 hf2 rfl hcat hd k
def f_X9_isOwn  (σ : gj_S) : Option Int32 := ((f_X9_is 1000 σ).bind fun x1 => (if x1 = 0 then ((f_X9_is 1001 σ).bind fun x2 => (if x2 = 0 then ((f_X9_is 1002 σ).bind fun x3 => (if x3 = 0 then ((f_X9_is 1003 σ).bind fun x4 => (if x4 = 0 then ((f_X9_is 1004 σ).bind fun x5 => (if x5 = 0 then ((f_X9_is 1005 σ).bind fun x6 => (if x6 = 0 then ((f_X9_is 1006 σ).bind fun x7 => (if x7 = 0 then some (0 : Int32) else some (1 : Int32))) else some (1 : Int32))) else some (1 : Int32))) else some (1 : Int32))) else some (1 : Int32))) else some (1 : Int32))) else some (1 : Int32)))
set_option maxHeartbeats 4000000 in
set_option maxRecDepth 100000 in
theorem m_X9_isOwn {E : gj_E} {σ : gj_S}   {x : Int32} (hf : f_X9_isOwn  σ = some x) : gj_M E yX9_isOwn cX9_isOwn 1 (some .boolean) 6 129 [gj_r 188] σ (some (gj_i x)) σ := by
  refine gj_body (lv := [(0, gj_r 188)]) (by decide +kernel) (Nat.le_of_ble_eq_true rfl) rfl (fun X hO => ?_)
  replace hO : gj_O E X RX9 cX9_isOwn 1 (some .boolean) 6 129 := hO
  unfold f_X9_isOwn at hf
  refine gj_aload_n hO 0 dX9_isOwn_0 rfl rfl ?_
  refine gj_ldcS (n := 1000) (tx := "dock") hO (List.mem_of_getElem? (i := 0) rfl) dX9_isOwn_1 ?_
  obtain ⟨x1, hc1, hf⟩ := gj_b hf
  refine ca_X9_is hO kl_188  hc1 wk_669 (by decide) (by decide) (Nat.le_of_ble_eq_true rfl) dX9_isOwn_3 ?_
  refine gj_if_ne (tgt := 63) hO dX9_isOwn_6 (by decide) (fun h => ?_) (fun h => ?_)
  · replace hf := gj_f h hf
    refine gj_iconst (v := 1) hO dX9_isOwn_63 (by decide) ?_
    refine gj_goto (tgt := 68) hO dX9_isOwn_64 (by decide) ?_
    obtain rfl := Option.some.inj hf
    exact gj_zret hO (Or.inr rfl) dX9_isOwn_68
  · replace hf := gj_t h hf
    refine gj_aload_n hO 0 dX9_isOwn_9 rfl rfl ?_
    refine gj_ldcS (n := 1001) (tx := "gives") hO (List.mem_of_getElem? (i := 1) rfl) dX9_isOwn_10 ?_
    obtain ⟨x2, hc2, hf⟩ := gj_b hf
    refine ca_X9_is hO kl_188  hc2 wk_669 (by decide) (by decide) (Nat.le_of_ble_eq_true rfl) dX9_isOwn_12 ?_
    refine gj_if_ne (tgt := 63) hO dX9_isOwn_15 (by decide) (fun h => ?_) (fun h => ?_)
    · replace hf := gj_f h hf
      refine gj_iconst (v := 1) hO dX9_isOwn_63 (by decide) ?_
      refine gj_goto (tgt := 68) hO dX9_isOwn_64 (by decide) ?_
      obtain rfl := Option.some.inj hf
      exact gj_zret hO (Or.inr rfl) dX9_isOwn_68
    · replace hf := gj_t h hf
      refine gj_aload_n hO 0 dX9_isOwn_18 rfl rfl ?_
      refine gj_ldcS (n := 1002) (tx := "takes") hO (List.mem_of_getElem? (i := 2) rfl) dX9_isOwn_19 ?_
      obtain ⟨x3, hc3, hf⟩ := gj_b hf
      refine ca_X9_is hO kl_188  hc3 wk_669 (by decide) (by decide) (Nat.le_of_ble_eq_true rfl) dX9_isOwn_21 ?_
      refine gj_if_ne (tgt := 63) hO dX9_isOwn_24 (by decide) (fun h => ?_) (fun h => ?_)
      · replace hf := gj_f h hf
        refine gj_iconst (v := 1) hO dX9_isOwn_63 (by decide) ?_
        refine gj_goto (tgt := 68) hO dX9_isOwn_64 (by decide) ?_
        obtain rfl := Option.some.inj hf
        exact gj_zret hO (Or.inr rfl) dX9_isOwn_68
      · replace hf := gj_t h hf
        refine gj_aload_n hO 0 dX9_isOwn_27 rfl rfl ?_
        refine gj_ldcS (n := 1003) (tx := "route") hO (List.mem_of_getElem? (i := 3) rfl) dX9_isOwn_28 ?_
        obtain ⟨x4, hc4, hf⟩ := gj_b hf
        refine ca_X9_is hO kl_188  hc4 wk_669 (by decide) (by decide) (Nat.le_of_ble_eq_true rfl) dX9_isOwn_30 ?_
        refine gj_if_ne (tgt := 63) hO dX9_isOwn_33 (by decide) (fun h => ?_) (fun h => ?_)
        · replace hf := gj_f h hf
          refine gj_iconst (v := 1) hO dX9_isOwn_63 (by decide) ?_
          refine gj_goto (tgt := 68) hO dX9_isOwn_64 (by decide) ?_
          obtain rfl := Option.some.inj hf
          exact gj_zret hO (Or.inr rfl) dX9_isOwn_68
        · replace hf := gj_t h hf
          refine gj_aload_n hO 0 dX9_isOwn_36 rfl rfl ?_
          refine gj_ldcS (n := 1004) (tx := "costs") hO (List.mem_of_getElem? (i := 4) rfl) dX9_isOwn_37 ?_
          obtain ⟨x5, hc5, hf⟩ := gj_b hf
          refine ca_X9_is hO kl_188  hc5 wk_669 (by decide) (by decide) (Nat.le_of_ble_eq_true rfl) dX9_isOwn_39 ?_
          refine gj_if_ne (tgt := 63) hO dX9_isOwn_42 (by decide) (fun h => ?_) (fun h => ?_)
          · replace hf := gj_f h hf
            refine gj_iconst (v := 1) hO dX9_isOwn_63 (by decide) ?_
            refine gj_goto (tgt := 68) hO dX9_isOwn_64 (by decide) ?_
            obtain rfl := Option.some.inj hf
            exact gj_zret hO (Or.inr rfl) dX9_isOwn_68
          · replace hf := gj_t h hf
            refine gj_aload_n hO 0 dX9_isOwn_45 rfl rfl ?_
            refine gj_ldcS (n := 1005) (tx := "holds") hO (List.mem_of_getElem? (i := 5) rfl) dX9_isOwn_46 ?_
            obtain ⟨x6, hc6, hf⟩ := gj_b hf
            refine ca_X9_is hO kl_188  hc6 wk_669 (by decide) (by decide) (Nat.le_of_ble_eq_true rfl) dX9_isOwn_48 ?_
            refine gj_if_ne (tgt := 63) hO dX9_isOwn_51 (by decide) (fun h => ?_) (fun h => ?_)
            · replace hf := gj_f h hf
              refine gj_iconst (v := 1) hO dX9_isOwn_63 (by decide) ?_
              refine gj_goto (tgt := 68) hO dX9_isOwn_64 (by decide) ?_
              obtain rfl := Option.some.inj hf
              exact gj_zret hO (Or.inr rfl) dX9_isOwn_68
            · replace hf := gj_t h hf
              refine gj_aload_n hO 0 dX9_isOwn_54 rfl rfl ?_
              refine gj_ldcS (n := 1006) (tx := "block") hO (List.mem_of_getElem? (i := 6) rfl) dX9_isOwn_55 ?_
              obtain ⟨x7, hc7, hf⟩ := gj_b hf
              refine ca_X9_is hO kl_188  hc7 wk_669 (by decide) (by decide) (Nat.le_of_ble_eq_true rfl) dX9_isOwn_57 ?_
              refine gj_if_eq (tgt := 67) hO dX9_isOwn_60 (by decide) (fun h => ?_) (fun h => ?_)
              · replace hf := gj_t h hf
                refine gj_iconst (v := 0) hO dX9_isOwn_67 (by decide) ?_
                obtain rfl := Option.some.inj hf
                exact gj_zret hO (Or.inl rfl) dX9_isOwn_68
              · replace hf := gj_f h hf
                refine gj_iconst (v := 1) hO dX9_isOwn_63 (by decide) ?_
                refine gj_goto (tgt := 68) hO dX9_isOwn_64 (by decide) ?_
                obtain rfl := Option.some.inj hf
                exact gj_zret hO (Or.inr rfl) dX9_isOwn_68
set_option maxHeartbeats 4000000 in
set_option maxRecDepth 100000 in
theorem ca_X9_isOwn {E : gj_E} {X : gj_X} {own : String} {cc : ByteArray} {nL : Nat} {rt : Option FieldType} {fr lo : Nat} {ce sl : Nat} {Q : State → Prop} {pc : Nat} {lv : List (Nat × gj_V)} {st : List gj_V} {σ : gj_S} (hO : gj_O E X own cc nL rt fr lo) (hw : gj_lt own 188)   {idx : Nat} {x : Int32} (hf : f_X9_isOwn  σ = some x) (hl : Cond.methodLink own idx yX9_isOwn ∈ gj_gw) (hf1 : 7 ≤ fr) (hf2 : 149 ≤ lo) (hcat : ((st.map (gj_tv E.2.1)).map fun v => v.category).sum ≤ 8) (hd : decode cc pc = .ok (.invokevirtual idx, 3)) (k : gj_H E X nL ce sl Q (pc + 3) lv ((gj_i x) :: st) σ) : gj_H E X nL ce sl Q pc lv (gj_r 188 :: st) σ :=
  gj_callV hO (o := 188) (vs := []) (m_X9_isOwn  hf) (gj_I9 hw) hl wk_670 wk_671 wk_629 wk_672 hw kd_188 (by decide) (ci := 9) rfl (n := 0) (by decide +kernel) rfl hf1 hf2 rfl hcat hd k
def f_X9_isName  (σ : gj_S) : Option Int32 := (if (σ.1 188 6) = (1 : Int32) then ((f_X9_isOwn σ).bind fun x1 => (if x1 = 0 then some (1 : Int32) else some (0 : Int32))) else some (0 : Int32))
set_option maxHeartbeats 4000000 in
set_option maxRecDepth 100000 in
theorem m_X9_isName {E : gj_E} {σ : gj_S}   {x : Int32} (hf : f_X9_isName  σ = some x) : gj_M E yX9_isName cX9_isName 1 (some .boolean) 7 149 [gj_r 188] σ (some (gj_i x)) σ := by
  refine gj_body (lv := [(0, gj_r 188)]) (by decide +kernel) (Nat.le_of_ble_eq_true rfl) rfl (fun X hO => ?_)
  replace hO : gj_O E X RX9 cX9_isName 1 (some .boolean) 7 149 := hO
  unfold f_X9_isName at hf
  refine gj_aload_n hO 0 dX9_isName_0 rfl rfl ?_
  refine gt_X9_6 hO wk_648 dX9_isName_1 ?_
  refine gj_iconst (v := 1) hO dX9_isName_4 (by decide) ?_
  refine gj_icmp_ne (tgt := 19) hO dX9_isName_5 (by decide) (fun h => ?_) (fun h => ?_)
  · replace hf := gj_f h hf
    refine gj_iconst (v := 0) hO dX9_isName_19 (by decide) ?_
    obtain rfl := Option.some.inj hf
    exact gj_zret hO (Or.inl rfl) dX9_isName_20
  · replace hf := gj_t h hf
    refine gj_aload_n hO 0 dX9_isName_8 rfl rfl ?_
    obtain ⟨x1, hc1, hf⟩ := gj_b hf
    refine ca_X9_isOwn hO kl_188  hc1 wk_673 (by decide) (by decide) (Nat.le_of_ble_eq_true rfl) dX9_isName_9 ?_
    refine gj_if_ne (tgt := 19) hO dX9_isName_12 (by decide) (fun h => ?_) (fun h => ?_)
    · replace hf := gj_f h hf
      refine gj_iconst (v := 0) hO dX9_isName_19 (by decide) ?_
      obtain rfl := Option.some.inj hf
      exact gj_zret hO (Or.inl rfl) dX9_isName_20
    · replace hf := gj_t h hf
      refine gj_iconst (v := 1) hO dX9_isName_15 (by decide) ?_
      refine gj_goto (tgt := 20) hO dX9_isName_16 (by decide) ?_
      obtain rfl := Option.some.inj hf
      exact gj_zret hO (Or.inr rfl) dX9_isName_20
set_option maxHeartbeats 4000000 in
set_option maxRecDepth 100000 in
theorem ca_X9_isName {E : gj_E} {X : gj_X} {own : String} {cc : ByteArray} {nL : Nat} {rt : Option FieldType} {fr lo : Nat} {ce sl : Nat} {Q : State → Prop} {pc : Nat} {lv : List (Nat × gj_V)} {st : List gj_V} {σ : gj_S} (hO : gj_O E X own cc nL rt fr lo) (hw : gj_lt own 188)   {idx : Nat} {x : Int32} (hf : f_X9_isName  σ = some x) (hl : Cond.methodLink own idx yX9_isName ∈ gj_gw) (hf1 : 8 ≤ fr) (hf2 : 169 ≤ lo) (hcat : ((st.map (gj_tv E.2.1)).map fun v => v.category).sum ≤ 8) (hd : decode cc pc = .ok (.invokevirtual idx, 3)) (k : gj_H E X nL ce sl Q (pc + 3) lv ((gj_i x) :: st) σ) : gj_H E X nL ce sl Q pc lv (gj_r 188 :: st) σ :=
  gj_callV hO (o := 188) (vs := []) (m_X9_isName  hf) (gj_I9 hw) hl wk_674 wk_675 wk_629 wk_676 hw kd_188 (by decide) (ci := 9) rfl (n := 0) (by decide +kernel) rfl hf1 hf2 rfl hcat hd k
def f_X9_behind (b1 : Nat) (b2 : Int32) (b3 : Int32) (σ : gj_S) : Option (Int32 × gj_S) := ((f_X9_is b1 σ).bind fun x1 => ((f_X9_must x1 (1 : Int32) σ).bind fun x2 => (if x2.1 = 0 then ((f_X9_number b2 b3 x2.2).bind fun x3 => some (x3.1, x3.2)) else ((f_X9_goesOn x2.2).bind fun x4 => ((f_X9_number b2 b3 x4).bind fun x5 => some (x5.1, x5.2))))))
set_option maxHeartbeats 4000000 in
set_option maxRecDepth 100000 in
theorem m_X9_behind {E : gj_E} {σ : gj_S} {b1 : Nat} {b2 : Int32} {b3 : Int32}  {x : Int32} {y : gj_S} (hf : f_X9_behind b1 b2 b3 σ = some (x, y)) : gj_M E yX9_behind cX9_behind 4 (some .int) 6 129 [gj_r 188, gj_r b1, gj_i b2, gj_i b3] σ (some (gj_i x)) y := by
  refine gj_body (lv := [(0, gj_r 188), (1, gj_r b1), (2, gj_i b2), (3, gj_i b3)]) (by decide +kernel) (Nat.le_of_ble_eq_true rfl) rfl (fun X hO => ?_)
  replace hO : gj_O E X RX9 cX9_behind 4 (some .int) 6 129 := hO
  unfold f_X9_behind at hf
  refine gj_aload_n hO 0 dX9_behind_0 rfl rfl ?_
  refine gj_aload_n hO 0 dX9_behind_1 rfl rfl ?_
  refine gj_aload_n hO 1 dX9_behind_2 rfl rfl ?_
  obtain ⟨x1, hc1, hf⟩ := gj_b hf
  refine ca_X9_is hO kl_188  hc1 wk_669 (by decide) (by decide) (Nat.le_of_ble_eq_true rfl) dX9_behind_3 ?_
  refine gj_iconst (v := 1) hO dX9_behind_6 (by decide) ?_
  obtain ⟨⟨x2_v, x2_s⟩, hc2, hf⟩ := gj_b hf
  dsimp only at hf
  refine ca_X9_must hO kl_188  hc2 wk_677 (by decide) (by decide) (Nat.le_of_ble_eq_true rfl) dX9_behind_7 ?_
  refine gj_if_eq (tgt := 17) hO dX9_behind_10 (by decide) (fun h => ?_) (fun h => ?_)
  · replace hf := gj_t h hf
    refine gj_aload_n hO 0 dX9_behind_17 rfl rfl ?_
    refine gj_iload_n hO 2 dX9_behind_18 rfl rfl ?_
    refine gj_iload_n hO 3 dX9_behind_19 rfl rfl ?_
    obtain ⟨⟨x3_v, x3_s⟩, hc3, hf⟩ := gj_b hf
    dsimp only at hf
    refine ca_X9_number hO kl_188  hc3 wk_682 (by decide) (by decide) (Nat.le_of_ble_eq_true rfl) dX9_behind_20 ?_
    replace hf := Option.some.inj hf
    simp only [Prod.mk.injEq] at hf
    obtain ⟨rfl, rfl⟩ := hf
    exact gj_iret hO dX9_behind_23
  · replace hf := gj_f h hf
    refine gj_aload_n hO 0 dX9_behind_13 rfl rfl ?_
    obtain ⟨x4, hc4, hf⟩ := gj_b hf
    refine ca_X9_goesOn hO kl_188  hc4 wk_678 (by decide) (by decide) (Nat.le_of_ble_eq_true rfl) dX9_behind_14 ?_
    refine gj_aload_n hO 0 dX9_behind_17 rfl rfl ?_
    refine gj_iload_n hO 2 dX9_behind_18 rfl rfl ?_
    refine gj_iload_n hO 3 dX9_behind_19 rfl rfl ?_
    obtain ⟨⟨x5_v, x5_s⟩, hc5, hf⟩ := gj_b hf
    dsimp only at hf
    refine ca_X9_number hO kl_188  hc5 wk_682 (by decide) (by decide) (Nat.le_of_ble_eq_true rfl) dX9_behind_20 ?_
    replace hf := Option.some.inj hf
    simp only [Prod.mk.injEq] at hf
    obtain ⟨rfl, rfl⟩ := hf
    exact gj_iret hO dX9_behind_23
set_option maxHeartbeats 4000000 in
set_option maxRecDepth 100000 in
theorem ca_X9_behind {E : gj_E} {X : gj_X} {own : String} {cc : ByteArray} {nL : Nat} {rt : Option FieldType} {fr lo : Nat} {ce sl : Nat} {Q : State → Prop} {pc : Nat} {lv : List (Nat × gj_V)} {st : List gj_V} {σ : gj_S} (hO : gj_O E X own cc nL rt fr lo) (hw : gj_lt own 188) {b1 : Nat} {b2 : Int32} {b3 : Int32}  {idx : Nat} {x : Int32} {y : gj_S} (hf : f_X9_behind b1 b2 b3 σ = some (x, y)) (hl : Cond.methodLink own idx yX9_behind ∈ gj_gw) (hf1 : 7 ≤ fr) (hf2 : 152 ≤ lo) (hcat : ((st.map (gj_tv E.2.1)).map fun v => v.category).sum ≤ 8) (hd : decode cc pc = .ok (.invokevirtual idx, 3)) (k : gj_H E X nL ce sl Q (pc + 3) lv ((gj_i x) :: st) y) : gj_H E X nL ce sl Q pc lv (gj_i b3 :: gj_i b2 :: gj_r b1 :: gj_r 188 :: st) σ :=
  gj_callV hO (o := 188) (vs := [gj_r b1, gj_i b2, gj_i b3]) (m_X9_behind  hf) (gj_I9 hw) hl wk_683 wk_684 wk_629 wk_685 hw kd_188 (by decide) (ci := 9) rfl (n := 3) (by decide +kernel) rfl hf1 hf2 rfl hcat hd k
def f_X9_newName (b1 : Int32) (σ : gj_S) : Option gj_S := ((f_X9_isName σ).bind fun x1 => ((f_X9_must x1 (1 : Int32) σ).bind fun x2 => (if x2.1 = 0 then some x2.2 else (if gj_in (1 : Int32) 2 then ((f_X9_findRead (0 : Int32) (x2.2.1 190 (Int32.toNatClampNeg (1 : Int32))) x2.2).bind fun x4 => ((if 0 ≤ x4 then some (0 : Int32) else (if gj_in (1 : Int32) 2 then ((f_X9_findRead (8 : Int32) (x2.2.1 191 (Int32.toNatClampNeg (1 : Int32))) x2.2).bind fun x7 => (if 0 ≤ x7 then some (0 : Int32) else some (1 : Int32))) else none) : Option Int32).bind fun z5 => ((f_X9_must z5 (2 : Int32) x2.2).bind fun x8 => (if x8.1 = 0 then some x8.2 else (if gj_in ((24 : Int32) + b1) 48 then ((f_X9_goesOn (gj_sJ x8.2 192 (vp_updL (x8.2.2.1 192) (Int32.toNatClampNeg ((24 : Int32) + b1)) (x8.2.2.1 188 8)))).bind fun x10 => some x10) else none))))) else none))))
set_option maxHeartbeats 4000000 in
set_option maxRecDepth 100000 in
theorem m_X9_newName {E : gj_E} {σ : gj_S} {b1 : Int32}  {x : gj_S} (hf : f_X9_newName b1 σ = some x) : gj_M E yX9_newName cX9_newName 2 none 8 169 [gj_r 188, gj_i b1] σ none x := by
  refine gj_body (lv := [(0, gj_r 188), (1, gj_i b1)]) (by decide +kernel) (Nat.le_of_ble_eq_true rfl) rfl (fun X hO => ?_)
  replace hO : gj_O E X RX9 cX9_newName 2 none 8 169 := hO
  unfold f_X9_newName at hf
  refine gj_aload_n hO 0 dX9_newName_0 rfl rfl ?_
  refine gj_aload_n hO 0 dX9_newName_1 rfl rfl ?_
  obtain ⟨x1, hc1, hf⟩ := gj_b hf
  refine ca_X9_isName hO kl_188  hc1 wk_690 (by decide) (by decide) (Nat.le_of_ble_eq_true rfl) dX9_newName_2 ?_
  refine gj_iconst (v := 1) hO dX9_newName_5 (by decide) ?_
  obtain ⟨⟨x2_v, x2_s⟩, hc2, hf⟩ := gj_b hf
  dsimp only at hf
  refine ca_X9_must hO kl_188  hc2 wk_677 (by decide) (by decide) (Nat.le_of_ble_eq_true rfl) dX9_newName_6 ?_
  refine gj_if_eq (tgt := 54) hO dX9_newName_9 (by decide) (fun h => ?_) (fun h => ?_)
  · replace hf := gj_t h hf
    obtain rfl := Option.some.inj hf
    exact gj_vret hO dX9_newName_54
  · replace hf := gj_f h hf
    refine gj_aload_n hO 0 dX9_newName_12 rfl rfl ?_
    refine gj_aload_n hO 0 dX9_newName_13 rfl rfl ?_
    refine gj_iconst (v := 0) hO dX9_newName_14 (by decide) ?_
    refine gj_aload_n hO 0 dX9_newName_15 rfl rfl ?_
    refine gt_X9_11 hO wk_691 dX9_newName_16 ?_
    refine gj_iconst (v := 1) hO dX9_newName_19 (by decide) ?_
    obtain ⟨hb3, hf⟩ := gj_c hf
    refine gj_iald hO kl_190 kd_190 hb3 dX9_newName_20 ?_
    obtain ⟨x4, hc4, hf⟩ := gj_b hf
    refine ca_X9_findRead hO kl_188  hc4 wk_692 (by decide) (by decide) (Nat.le_of_ble_eq_true rfl) dX9_newName_21 ?_
    obtain ⟨z5, hz5, hf⟩ := gj_b hf
    have J5 : gj_G E X 2 none x 47 [(0, gj_r 188), (1, gj_i b1)] [gj_i z5, gj_r 188] x2_s := by
      refine gj_iconst (v := 2) hO dX9_newName_47 (by decide) ?_
      obtain ⟨⟨x8_v, x8_s⟩, hc8, hf⟩ := gj_b hf
      dsimp only at hf
      refine ca_X9_must hO kl_188  hc8 wk_677 (by decide) (by decide) (Nat.le_of_ble_eq_true rfl) dX9_newName_48 ?_
      refine gj_if_ne (tgt := 55) hO dX9_newName_51 (by decide) (fun h => ?_) (fun h => ?_)
      · replace hf := gj_f h hf
        refine gj_aload_n hO 0 dX9_newName_55 rfl rfl ?_
        refine gt_X9_13 hO wk_686 dX9_newName_56 ?_
        refine gj_bipush (v := 24) hO dX9_newName_59 (by decide) ?_
        refine gj_iload_n hO 1 dX9_newName_61 rfl rfl ?_
        refine gj_iadd hO dX9_newName_62 ?_
        refine gj_aload_n hO 0 dX9_newName_63 rfl rfl ?_
        refine gt_X9_8 hO wk_650 dX9_newName_64 ?_
        obtain ⟨hb9, hf⟩ := gj_c hf
        refine gj_last hO kl_192 kd_192 hb9 dX9_newName_67 ?_
        refine gj_aload_n hO 0 dX9_newName_68 rfl rfl ?_
        obtain ⟨x10, hc10, hf⟩ := gj_b hf
        refine ca_X9_goesOn hO kl_188  hc10 wk_678 (by decide) (by decide) (Nat.le_of_ble_eq_true rfl) dX9_newName_69 ?_
        obtain rfl := Option.some.inj hf
        exact gj_vret hO dX9_newName_72
      · replace hf := gj_t h hf
        obtain rfl := Option.some.inj hf
        exact gj_vret hO dX9_newName_54
    refine gj_if_ge (tgt := 46) hO dX9_newName_24 (by decide) (fun h => ?_) (fun h => ?_)
    · replace hz5 := gj_t h hz5
      refine gj_iconst (v := 0) hO dX9_newName_46 (by decide) ?_
      obtain rfl := Option.some.inj hz5
      refine gj_sub (lv2 := [(0, gj_r 188), (1, gj_i b1)]) [0, 1] rfl ?_
      exact J5
    · replace hz5 := gj_f h hz5
      refine gj_aload_n hO 0 dX9_newName_27 rfl rfl ?_
      refine gj_bipush (v := 8) hO dX9_newName_28 (by decide) ?_
      refine gj_aload_n hO 0 dX9_newName_30 rfl rfl ?_
      refine gt_X9_12 hO wk_693 dX9_newName_31 ?_
      refine gj_iconst (v := 1) hO dX9_newName_34 (by decide) ?_
      obtain ⟨hb6, hz5⟩ := gj_c hz5
      refine gj_iald hO kl_191 kd_191 hb6 dX9_newName_35 ?_
      obtain ⟨x7, hc7, hz5⟩ := gj_b hz5
      refine ca_X9_findRead hO kl_188  hc7 wk_692 (by decide) (by decide) (Nat.le_of_ble_eq_true rfl) dX9_newName_36 ?_
      refine gj_if_ge (tgt := 46) hO dX9_newName_39 (by decide) (fun h => ?_) (fun h => ?_)
      · replace hz5 := gj_t h hz5
        refine gj_iconst (v := 0) hO dX9_newName_46 (by decide) ?_
        obtain rfl := Option.some.inj hz5
        refine gj_sub (lv2 := [(0, gj_r 188), (1, gj_i b1)]) [0, 1] rfl ?_
        exact J5
      · replace hz5 := gj_f h hz5
        refine gj_iconst (v := 1) hO dX9_newName_42 (by decide) ?_
        refine gj_goto (tgt := 47) hO dX9_newName_43 (by decide) ?_
        obtain rfl := Option.some.inj hz5
        refine gj_sub (lv2 := [(0, gj_r 188), (1, gj_i b1)]) [0, 1] rfl ?_
        exact J5
set_option maxHeartbeats 4000000 in
set_option maxRecDepth 100000 in
theorem ca_X9_newName {E : gj_E} {X : gj_X} {own : String} {cc : ByteArray} {nL : Nat} {rt : Option FieldType} {fr lo : Nat} {ce sl : Nat} {Q : State → Prop} {pc : Nat} {lv : List (Nat × gj_V)} {st : List gj_V} {σ : gj_S} (hO : gj_O E X own cc nL rt fr lo) (hw : gj_lt own 188) {b1 : Int32}  {idx : Nat} {x : gj_S} (hf : f_X9_newName b1 σ = some x) (hl : Cond.methodLink own idx yX9_newName ∈ gj_gw) (hf1 : 9 ≤ fr) (hf2 : 190 ≤ lo) (hcat : ((st.map (gj_tv E.2.1)).map fun v => v.category).sum ≤ 8) (hd : decode cc pc = .ok (.invokevirtual idx, 3)) (k : gj_H E X nL ce sl Q (pc + 3) lv (st) x) : gj_H E X nL ce sl Q pc lv (gj_i b1 :: gj_r 188 :: st) σ :=
  gj_callV hO (o := 188) (vs := [gj_i b1]) (m_X9_newName  hf) (gj_I9 hw) hl wk_694 wk_695 wk_629 wk_696 hw kd_188 (by decide) (ci := 9) rfl (n := 1) (by decide +kernel) rfl hf1 hf2 rfl hcat hd k
def f_X9_readDock (b1 : Int32) (σ : gj_S) : Option (Int32 × gj_S) := ((f_X9_isName σ).bind fun x1 => ((f_X9_must x1 (1 : Int32) σ).bind fun x2 => (if x2.1 = 0 then some ((0 : Int32), x2.2) else (if gj_in (1 : Int32) 2 then ((f_X9_findRead (0 : Int32) (x2.2.1 190 (Int32.toNatClampNeg (1 : Int32))) x2.2).bind fun x4 => ((if x4 < 0 then some (0 : Int32) else (if x4 = b1 then some (0 : Int32) else some (1 : Int32)) : Option Int32).bind fun z5 => ((f_X9_must z5 (4 : Int32) x2.2).bind fun x6 => (if x6.1 = 0 then some ((0 : Int32), x6.2) else ((f_X9_goesOn x6.2).bind fun x7 => some (x4, x7)))))) else none))))
set_option maxHeartbeats 4000000 in
set_option maxRecDepth 100000 in
theorem m_X9_readDock {E : gj_E} {σ : gj_S} {b1 : Int32}  {x : Int32} {y : gj_S} (hf : f_X9_readDock b1 σ = some (x, y)) : gj_M E yX9_readDock cX9_readDock 3 (some .int) 8 169 [gj_r 188, gj_i b1] σ (some (gj_i x)) y := by
  refine gj_body (lv := [(0, gj_r 188), (1, gj_i b1)]) (by decide +kernel) (Nat.le_of_ble_eq_true rfl) rfl (fun X hO => ?_)
  replace hO : gj_O E X RX9 cX9_readDock 3 (some .int) 8 169 := hO
  unfold f_X9_readDock at hf
  refine gj_aload_n hO 0 dX9_readDock_0 rfl rfl ?_
  refine gj_aload_n hO 0 dX9_readDock_1 rfl rfl ?_
  obtain ⟨x1, hc1, hf⟩ := gj_b hf
  refine ca_X9_isName hO kl_188  hc1 wk_690 (by decide) (by decide) (Nat.le_of_ble_eq_true rfl) dX9_readDock_2 ?_
  refine gj_iconst (v := 1) hO dX9_readDock_5 (by decide) ?_
  obtain ⟨⟨x2_v, x2_s⟩, hc2, hf⟩ := gj_b hf
  dsimp only at hf
  refine ca_X9_must hO kl_188  hc2 wk_677 (by decide) (by decide) (Nat.le_of_ble_eq_true rfl) dX9_readDock_6 ?_
  refine gj_if_ne (tgt := 14) hO dX9_readDock_9 (by decide) (fun h => ?_) (fun h => ?_)
  · replace hf := gj_f h hf
    refine gj_aload_n hO 0 dX9_readDock_14 rfl rfl ?_
    refine gj_iconst (v := 0) hO dX9_readDock_15 (by decide) ?_
    refine gj_aload_n hO 0 dX9_readDock_16 rfl rfl ?_
    refine gt_X9_11 hO wk_691 dX9_readDock_17 ?_
    refine gj_iconst (v := 1) hO dX9_readDock_20 (by decide) ?_
    obtain ⟨hb3, hf⟩ := gj_c hf
    refine gj_iald hO kl_190 kd_190 hb3 dX9_readDock_21 ?_
    obtain ⟨x4, hc4, hf⟩ := gj_b hf
    refine ca_X9_findRead hO kl_188  hc4 wk_692 (by decide) (by decide) (Nat.le_of_ble_eq_true rfl) dX9_readDock_22 ?_
    refine gj_istore_n (lv2 := [(2, gj_i x4), (0, gj_r 188), (1, gj_i b1)]) hO dX9_readDock_25 rfl (by decide) rfl ?_
    refine gj_aload_n hO 1 dX9_readDock_26 rfl rfl ?_
    refine gj_iload_n hO 0 dX9_readDock_27 rfl rfl ?_
    obtain ⟨z5, hz5, hf⟩ := gj_b hf
    have J5 : gj_G E X 3 (some (gj_i x)) y 41 [(0, gj_r 188), (2, gj_i x4)] [gj_i z5, gj_r 188] x2_s := by
      refine gj_iconst (v := 4) hO dX9_readDock_41 (by decide) ?_
      obtain ⟨⟨x6_v, x6_s⟩, hc6, hf⟩ := gj_b hf
      dsimp only at hf
      refine ca_X9_must hO kl_188  hc6 wk_677 (by decide) (by decide) (Nat.le_of_ble_eq_true rfl) dX9_readDock_42 ?_
      refine gj_if_ne (tgt := 50) hO dX9_readDock_45 (by decide) (fun h => ?_) (fun h => ?_)
      · replace hf := gj_f h hf
        refine gj_aload_n hO 0 dX9_readDock_50 rfl rfl ?_
        obtain ⟨x7, hc7, hf⟩ := gj_b hf
        refine ca_X9_goesOn hO kl_188  hc7 wk_678 (by decide) (by decide) (Nat.le_of_ble_eq_true rfl) dX9_readDock_51 ?_
        refine gj_iload_n hO 1 dX9_readDock_54 rfl rfl ?_
        replace hf := Option.some.inj hf
        simp only [Prod.mk.injEq] at hf
        obtain ⟨rfl, rfl⟩ := hf
        exact gj_iret hO dX9_readDock_55
      · replace hf := gj_t h hf
        refine gj_iconst (v := 0) hO dX9_readDock_48 (by decide) ?_
        replace hf := Option.some.inj hf
        simp only [Prod.mk.injEq] at hf
        obtain ⟨rfl, rfl⟩ := hf
        exact gj_iret hO dX9_readDock_49
    refine gj_if_lt (tgt := 40) hO dX9_readDock_28 (by decide) (fun h => ?_) (fun h => ?_)
    · replace hz5 := gj_t h hz5
      refine gj_iconst (v := 0) hO dX9_readDock_40 (by decide) ?_
      obtain rfl := Option.some.inj hz5
      refine gj_sub (lv2 := [(0, gj_r 188), (2, gj_i x4)]) [1, 0] rfl ?_
      exact J5
    · replace hz5 := gj_f h hz5
      refine gj_iload_n hO 0 dX9_readDock_31 rfl rfl ?_
      refine gj_iload_n hO 2 dX9_readDock_32 rfl rfl ?_
      refine gj_icmp_eq (tgt := 40) hO dX9_readDock_33 (by decide) (fun h => ?_) (fun h => ?_)
      · replace hz5 := gj_t h hz5
        refine gj_iconst (v := 0) hO dX9_readDock_40 (by decide) ?_
        obtain rfl := Option.some.inj hz5
        refine gj_sub (lv2 := [(0, gj_r 188), (2, gj_i x4)]) [1, 0] rfl ?_
        exact J5
      · replace hz5 := gj_f h hz5
        refine gj_iconst (v := 1) hO dX9_readDock_36 (by decide) ?_
        refine gj_goto (tgt := 41) hO dX9_readDock_37 (by decide) ?_
        obtain rfl := Option.some.inj hz5
        refine gj_sub (lv2 := [(0, gj_r 188), (2, gj_i x4)]) [1, 0] rfl ?_
        exact J5
  · replace hf := gj_t h hf
    refine gj_iconst (v := 0) hO dX9_readDock_12 (by decide) ?_
    replace hf := Option.some.inj hf
    simp only [Prod.mk.injEq] at hf
    obtain ⟨rfl, rfl⟩ := hf
    exact gj_iret hO dX9_readDock_13
set_option maxHeartbeats 4000000 in
set_option maxRecDepth 100000 in
theorem ca_X9_readDock {E : gj_E} {X : gj_X} {own : String} {cc : ByteArray} {nL : Nat} {rt : Option FieldType} {fr lo : Nat} {ce sl : Nat} {Q : State → Prop} {pc : Nat} {lv : List (Nat × gj_V)} {st : List gj_V} {σ : gj_S} (hO : gj_O E X own cc nL rt fr lo) (hw : gj_lt own 188) {b1 : Int32}  {idx : Nat} {x : Int32} {y : gj_S} (hf : f_X9_readDock b1 σ = some (x, y)) (hl : Cond.methodLink own idx yX9_readDock ∈ gj_gw) (hf1 : 9 ≤ fr) (hf2 : 191 ≤ lo) (hcat : ((st.map (gj_tv E.2.1)).map fun v => v.category).sum ≤ 8) (hd : decode cc pc = .ok (.invokevirtual idx, 3)) (k : gj_H E X nL ce sl Q (pc + 3) lv ((gj_i x) :: st) y) : gj_H E X nL ce sl Q pc lv (gj_i b1 :: gj_r 188 :: st) σ :=
  gj_callV hO (o := 188) (vs := [gj_i b1]) (m_X9_readDock  hf) (gj_I9 hw) hl wk_697 wk_698 wk_629 wk_699 hw kd_188 (by decide) (ci := 9) rfl (n := 1) (by decide +kernel) rfl hf1 hf2 rfl hcat hd k
def f_X9_dockLine  (σ : gj_S) : Option gj_S := (if gj_in (1 : Int32) 2 then ((if (8 : Int32) ≤ (σ.1 190 (Int32.toNatClampNeg (1 : Int32))) then some (0 : Int32) else some (1 : Int32) : Option Int32).bind fun z2 => ((f_X9_must z2 (5 : Int32) σ).bind fun x3 => (if x3.1 = 0 then some x3.2 else ((f_X9_goesOn x3.2).bind fun x4 => (if gj_in (1 : Int32) 2 then ((f_X9_newName (x4.1 190 (Int32.toNatClampNeg (1 : Int32))) x4).bind fun x6 => ((f_X9_is 1001 x6).bind fun x7 => ((if x7 = 0 then ((f_X9_is 1002 x6).bind fun x9 => (if x9 = 0 then some ((0 : Int32), x6) else ((f_X9_behind 1002 (0 : Int32) (999 : Int32) x6).bind fun x10 => some ((0 - x10.1), x10.2)))) else ((f_X9_behind 1001 (0 : Int32) (999 : Int32) x6).bind fun x11 => some (x11.1, x11.2)) : Option (Int32 × gj_S)).bind fun z8 => (if (z8.2.1 188 9) = 0 then (if gj_in (1 : Int32) 2 then (if gj_in ((8 : Int32) + (z8.2.1 190 (Int32.toNatClampNeg (1 : Int32)))) 16 then (if gj_in (1 : Int32) 2 then (if gj_in (1 : Int32) 2 then ((some (gj_sI (gj_sI z8.2 193 (upd (z8.2.1 193) (Int32.toNatClampNeg ((8 : Int32) + (z8.2.1 190 (Int32.toNatClampNeg (1 : Int32))))) z8.1)) 190 (upd ((gj_sI z8.2 193 (upd (z8.2.1 193) (Int32.toNatClampNeg ((8 : Int32) + (z8.2.1 190 (Int32.toNatClampNeg (1 : Int32))))) z8.1)).1 190) (Int32.toNatClampNeg (1 : Int32)) (((gj_sI z8.2 193 (upd (z8.2.1 193) (Int32.toNatClampNeg ((8 : Int32) + (z8.2.1 190 (Int32.toNatClampNeg (1 : Int32))))) z8.1)).1 190 (Int32.toNatClampNeg (1 : Int32))) + (1 : Int32))))).bind fun s16 => some s16) else none) else none) else none) else none) else some z8.2)))) else none))))) else none)
set_option maxHeartbeats 4000000 in
set_option maxRecDepth 100000 in
theorem m_X9_dockLine {E : gj_E} {σ : gj_S}   {x : gj_S} (hf : f_X9_dockLine  σ = some x) : gj_M E yX9_dockLine cX9_dockLine 2 none 9 190 [gj_r 188] σ none x := by
  refine gj_body (lv := [(0, gj_r 188)]) (by decide +kernel) (Nat.le_of_ble_eq_true rfl) rfl (fun X hO => ?_)
  replace hO : gj_O E X RX9 cX9_dockLine 2 none 9 190 := hO
  unfold f_X9_dockLine at hf
  refine gj_aload_n hO 0 dX9_dockLine_0 rfl rfl ?_
  refine gj_aload_n hO 0 dX9_dockLine_1 rfl rfl ?_
  refine gt_X9_11 hO wk_691 dX9_dockLine_2 ?_
  refine gj_iconst (v := 1) hO dX9_dockLine_5 (by decide) ?_
  obtain ⟨hb1, hf⟩ := gj_c hf
  refine gj_iald hO kl_190 kd_190 hb1 dX9_dockLine_6 ?_
  refine gj_bipush (v := 8) hO dX9_dockLine_7 (by decide) ?_
  obtain ⟨z2, hz2, hf⟩ := gj_b hf
  have J2 : gj_G E X 2 none x 17 [(0, gj_r 188)] [gj_i z2, gj_r 188] σ := by
    refine gj_iconst (v := 5) hO dX9_dockLine_17 (by decide) ?_
    obtain ⟨⟨x3_v, x3_s⟩, hc3, hf⟩ := gj_b hf
    dsimp only at hf
    refine ca_X9_must hO kl_188  hc3 wk_677 (by decide) (by decide) (Nat.le_of_ble_eq_true rfl) dX9_dockLine_18 ?_
    refine gj_if_ne (tgt := 25) hO dX9_dockLine_21 (by decide) (fun h => ?_) (fun h => ?_)
    · replace hf := gj_f h hf
      refine gj_aload_n hO 0 dX9_dockLine_25 rfl rfl ?_
      obtain ⟨x4, hc4, hf⟩ := gj_b hf
      refine ca_X9_goesOn hO kl_188  hc4 wk_678 (by decide) (by decide) (Nat.le_of_ble_eq_true rfl) dX9_dockLine_26 ?_
      refine gj_aload_n hO 0 dX9_dockLine_29 rfl rfl ?_
      refine gj_aload_n hO 0 dX9_dockLine_30 rfl rfl ?_
      refine gt_X9_11 hO wk_691 dX9_dockLine_31 ?_
      refine gj_iconst (v := 1) hO dX9_dockLine_34 (by decide) ?_
      obtain ⟨hb5, hf⟩ := gj_c hf
      refine gj_iald hO kl_190 kd_190 hb5 dX9_dockLine_35 ?_
      obtain ⟨x6, hc6, hf⟩ := gj_b hf
      refine ca_X9_newName hO kl_188  hc6 wk_700 (by decide) (by decide) (Nat.le_of_ble_eq_true rfl) dX9_dockLine_36 ?_
      refine gj_iconst (v := 0) hO dX9_dockLine_39 (by decide) ?_
      refine gj_istore_n (lv2 := [(1, gj_i (0 : Int32)), (0, gj_r 188)]) hO dX9_dockLine_40 rfl (by decide) rfl ?_
      refine gj_aload_n hO 1 dX9_dockLine_41 rfl rfl ?_
      refine gj_ldcS (n := 1001) (tx := "gives") hO (List.mem_of_getElem? (i := 1) rfl) dX9_dockLine_42 ?_
      obtain ⟨x7, hc7, hf⟩ := gj_b hf
      refine ca_X9_is hO kl_188  hc7 wk_669 (by decide) (by decide) (Nat.le_of_ble_eq_true rfl) dX9_dockLine_44 ?_
      obtain ⟨⟨z8_0, z8_1⟩, hz8, hf⟩ := gj_b hf
      dsimp only at hf
      have J8 : gj_G E X 2 none x 85 [(0, gj_r 188), (1, gj_i z8_0)] [] z8_1 := by
        refine gj_aload_n hO 0 dX9_dockLine_85 rfl rfl ?_
        refine gt_X9_9 hO wk_660 dX9_dockLine_86 ?_
        refine gj_if_eq (tgt := 93) hO dX9_dockLine_89 (by decide) (fun h => ?_) (fun h => ?_)
        · replace hf := gj_t h hf
          refine gj_aload_n hO 0 dX9_dockLine_93 rfl rfl ?_
          refine gt_X9_14 hO wk_702 dX9_dockLine_94 ?_
          refine gj_bipush (v := 8) hO dX9_dockLine_97 (by decide) ?_
          refine gj_aload_n hO 0 dX9_dockLine_99 rfl rfl ?_
          refine gt_X9_11 hO wk_691 dX9_dockLine_100 ?_
          refine gj_iconst (v := 1) hO dX9_dockLine_103 (by decide) ?_
          obtain ⟨hb12, hf⟩ := gj_c hf
          refine gj_iald hO kl_190 kd_190 hb12 dX9_dockLine_104 ?_
          refine gj_iadd hO dX9_dockLine_105 ?_
          refine gj_iload_n hO 1 dX9_dockLine_106 rfl rfl ?_
          obtain ⟨hb13, hf⟩ := gj_c hf
          refine gj_iast hO kl_193 kd_193 hb13 dX9_dockLine_107 ?_
          refine gj_aload_n hO 0 dX9_dockLine_108 rfl rfl ?_
          refine gt_X9_11 hO wk_691 dX9_dockLine_109 ?_
          refine gj_iconst (v := 1) hO dX9_dockLine_112 (by decide) ?_
          refine gj_dup2 hO dX9_dockLine_113 trivial trivial ?_
          obtain ⟨hb14, hf⟩ := gj_c hf
          refine gj_iald hO kl_190 kd_190 hb14 dX9_dockLine_114 ?_
          refine gj_iconst (v := 1) hO dX9_dockLine_115 (by decide) ?_
          refine gj_iadd hO dX9_dockLine_116 ?_
          obtain ⟨hb15, hf⟩ := gj_c hf
          refine gj_iast hO kl_190 kd_190 hb15 dX9_dockLine_117 ?_
          obtain ⟨s16, e16, hf⟩ := gj_b hf
          refine gj_eqS (Option.some.inj e16) ?_
          obtain rfl := Option.some.inj hf
          exact gj_vret hO dX9_dockLine_118
        · replace hf := gj_f h hf
          obtain rfl := Option.some.inj hf
          exact gj_vret hO dX9_dockLine_92
      refine gj_if_eq (tgt := 64) hO dX9_dockLine_47 (by decide) (fun h => ?_) (fun h => ?_)
      · replace hz8 := gj_t h hz8
        refine gj_aload_n hO 1 dX9_dockLine_64 rfl rfl ?_
        refine gj_ldcS (n := 1002) (tx := "takes") hO (List.mem_of_getElem? (i := 2) rfl) dX9_dockLine_65 ?_
        obtain ⟨x9, hc9, hz8⟩ := gj_b hz8
        refine ca_X9_is hO kl_188  hc9 wk_669 (by decide) (by decide) (Nat.le_of_ble_eq_true rfl) dX9_dockLine_67 ?_
        refine gj_if_eq (tgt := 85) hO dX9_dockLine_70 (by decide) (fun h => ?_) (fun h => ?_)
        · replace hz8 := gj_t h hz8
          replace hz8 := Option.some.inj hz8
          simp only [Prod.mk.injEq] at hz8
          obtain ⟨rfl, rfl⟩ := hz8
          refine gj_sub (lv2 := [(0, gj_r 188), (1, gj_i (0 : Int32))]) [1, 0] rfl ?_
          exact J8
        · replace hz8 := gj_f h hz8
          refine gj_aload_n hO 1 dX9_dockLine_73 rfl rfl ?_
          refine gj_ldcS (n := 1002) (tx := "takes") hO (List.mem_of_getElem? (i := 2) rfl) dX9_dockLine_74 ?_
          refine gj_iconst (v := 0) hO dX9_dockLine_76 (by decide) ?_
          refine gj_sipush (v := 999) hO dX9_dockLine_77 (by decide) ?_
          obtain ⟨⟨x10_v, x10_s⟩, hc10, hz8⟩ := gj_b hz8
          dsimp only at hz8
          refine ca_X9_behind hO kl_188  hc10 wk_701 (by decide) (by decide) (Nat.le_of_ble_eq_true rfl) dX9_dockLine_80 ?_
          refine gj_ineg hO dX9_dockLine_83 ?_
          refine gj_istore_n (lv2 := [(1, gj_i (0 - x10_v)), (0, gj_r 188)]) hO dX9_dockLine_84 rfl (by decide) rfl ?_
          replace hz8 := Option.some.inj hz8
          simp only [Prod.mk.injEq] at hz8
          obtain ⟨rfl, rfl⟩ := hz8
          refine gj_sub (lv2 := [(0, gj_r 188), (1, gj_i (0 - x10_v))]) [1, 0] rfl ?_
          exact J8
      · replace hz8 := gj_f h hz8
        refine gj_aload_n hO 1 dX9_dockLine_50 rfl rfl ?_
        refine gj_ldcS (n := 1001) (tx := "gives") hO (List.mem_of_getElem? (i := 1) rfl) dX9_dockLine_51 ?_
        refine gj_iconst (v := 0) hO dX9_dockLine_53 (by decide) ?_
        refine gj_sipush (v := 999) hO dX9_dockLine_54 (by decide) ?_
        obtain ⟨⟨x11_v, x11_s⟩, hc11, hz8⟩ := gj_b hz8
        dsimp only at hz8
        refine ca_X9_behind hO kl_188  hc11 wk_701 (by decide) (by decide) (Nat.le_of_ble_eq_true rfl) dX9_dockLine_57 ?_
        refine gj_istore_n (lv2 := [(1, gj_i x11_v), (0, gj_r 188)]) hO dX9_dockLine_60 rfl (by decide) rfl ?_
        refine gj_goto (tgt := 85) hO dX9_dockLine_61 (by decide) ?_
        replace hz8 := Option.some.inj hz8
        simp only [Prod.mk.injEq] at hz8
        obtain ⟨rfl, rfl⟩ := hz8
        refine gj_sub (lv2 := [(0, gj_r 188), (1, gj_i x11_v)]) [1, 0] rfl ?_
        exact J8
    · replace hf := gj_t h hf
      obtain rfl := Option.some.inj hf
      exact gj_vret hO dX9_dockLine_24
  refine gj_icmp_ge (tgt := 16) hO dX9_dockLine_9 (by decide) (fun h => ?_) (fun h => ?_)
  · replace hz2 := gj_t h hz2
    refine gj_iconst (v := 0) hO dX9_dockLine_16 (by decide) ?_
    obtain rfl := Option.some.inj hz2
    refine gj_sub (lv2 := [(0, gj_r 188)]) [0] rfl ?_
    exact J2
  · replace hz2 := gj_f h hz2
    refine gj_iconst (v := 1) hO dX9_dockLine_12 (by decide) ?_
    refine gj_goto (tgt := 17) hO dX9_dockLine_13 (by decide) ?_
    obtain rfl := Option.some.inj hz2
    refine gj_sub (lv2 := [(0, gj_r 188)]) [0] rfl ?_
    exact J2
set_option maxHeartbeats 4000000 in
set_option maxRecDepth 100000 in
theorem ca_X9_dockLine {E : gj_E} {X : gj_X} {own : String} {cc : ByteArray} {nL : Nat} {rt : Option FieldType} {fr lo : Nat} {ce sl : Nat} {Q : State → Prop} {pc : Nat} {lv : List (Nat × gj_V)} {st : List gj_V} {σ : gj_S} (hO : gj_O E X own cc nL rt fr lo) (hw : gj_lt own 188)   {idx : Nat} {x : gj_S} (hf : f_X9_dockLine  σ = some x) (hl : Cond.methodLink own idx yX9_dockLine ∈ gj_gw) (hf1 : 10 ≤ fr) (hf2 : 211 ≤ lo) (hcat : ((st.map (gj_tv E.2.1)).map fun v => v.category).sum ≤ 8) (hd : decode cc pc = .ok (.invokevirtual idx, 3)) (k : gj_H E X nL ce sl Q (pc + 3) lv (st) x) : gj_H E X nL ce sl Q pc lv (gj_r 188 :: st) σ :=
  gj_callV hO (o := 188) (vs := []) (m_X9_dockLine  hf) (gj_I9 hw) hl wk_703 wk_704 wk_629 wk_705 hw kd_188 (by decide) (ci := 9) rfl (n := 0) (by decide +kernel) rfl hf1 hf2 rfl hcat hd k
def f_X9_routeLine  (σ : gj_S) : Option gj_S := (if gj_in (1 : Int32) 2 then ((if (16 : Int32) ≤ (σ.1 191 (Int32.toNatClampNeg (1 : Int32))) then some (0 : Int32) else some (1 : Int32) : Option Int32).bind fun z2 => ((f_X9_must z2 (5 : Int32) σ).bind fun x3 => (if x3.1 = 0 then some x3.2 else ((f_X9_goesOn x3.2).bind fun x4 => (if gj_in (1 : Int32) 2 then ((f_X9_newName ((8 : Int32) + (x4.1 191 (Int32.toNatClampNeg (1 : Int32)))) x4).bind fun x6 => (if gj_in (1 : Int32) 2 then ((f_X9_readDock (-1 : Int32) x6).bind fun x8 => (if gj_in ((16 : Int32) + (x6.1 191 (Int32.toNatClampNeg (1 : Int32)))) 32 then (if gj_in ((16 : Int32) + (x6.1 191 (Int32.toNatClampNeg (1 : Int32)))) 32 then ((f_X9_readDock ((gj_sI x8.2 194 (upd (x8.2.1 194) (Int32.toNatClampNeg ((16 : Int32) + (x6.1 191 (Int32.toNatClampNeg (1 : Int32))))) x8.1)).1 194 (Int32.toNatClampNeg ((16 : Int32) + (x6.1 191 (Int32.toNatClampNeg (1 : Int32)))))) (gj_sI x8.2 194 (upd (x8.2.1 194) (Int32.toNatClampNeg ((16 : Int32) + (x6.1 191 (Int32.toNatClampNeg (1 : Int32))))) x8.1))).bind fun x11 => (if gj_in ((16 : Int32) + (x6.1 191 (Int32.toNatClampNeg (1 : Int32)))) 32 then ((f_X9_behind 1004 (0 : Int32) (999 : Int32) (gj_sI x11.2 195 (upd (x11.2.1 195) (Int32.toNatClampNeg ((16 : Int32) + (x6.1 191 (Int32.toNatClampNeg (1 : Int32))))) x11.1))).bind fun x13 => (if gj_in ((16 : Int32) + (x6.1 191 (Int32.toNatClampNeg (1 : Int32)))) 32 then ((f_X9_behind 1005 (1 : Int32) (999 : Int32) (gj_sI x13.2 196 (upd (x13.2.1 196) (Int32.toNatClampNeg ((16 : Int32) + (x6.1 191 (Int32.toNatClampNeg (1 : Int32))))) x13.1))).bind fun x15 => (if gj_in ((16 : Int32) + (x6.1 191 (Int32.toNatClampNeg (1 : Int32)))) 32 then (if ((gj_sI x15.2 197 (upd (x15.2.1 197) (Int32.toNatClampNeg ((16 : Int32) + (x6.1 191 (Int32.toNatClampNeg (1 : Int32))))) x15.1)).1 188 9) = 0 then (if gj_in (1 : Int32) 2 then (if gj_in (1 : Int32) 2 then ((some (gj_sI (gj_sI x15.2 197 (upd (x15.2.1 197) (Int32.toNatClampNeg ((16 : Int32) + (x6.1 191 (Int32.toNatClampNeg (1 : Int32))))) x15.1)) 191 (upd ((gj_sI x15.2 197 (upd (x15.2.1 197) (Int32.toNatClampNeg ((16 : Int32) + (x6.1 191 (Int32.toNatClampNeg (1 : Int32))))) x15.1)).1 191) (Int32.toNatClampNeg (1 : Int32)) (((gj_sI x15.2 197 (upd (x15.2.1 197) (Int32.toNatClampNeg ((16 : Int32) + (x6.1 191 (Int32.toNatClampNeg (1 : Int32))))) x15.1)).1 191 (Int32.toNatClampNeg (1 : Int32))) + (1 : Int32))))).bind fun s19 => some s19) else none) else none) else some (gj_sI x15.2 197 (upd (x15.2.1 197) (Int32.toNatClampNeg ((16 : Int32) + (x6.1 191 (Int32.toNatClampNeg (1 : Int32))))) x15.1))) else none)) else none)) else none)) else none) else none)) else none)) else none))))) else none)
set_option maxHeartbeats 4000000 in
set_option maxRecDepth 100000 in
theorem m_X9_routeLine {E : gj_E} {σ : gj_S}   {x : gj_S} (hf : f_X9_routeLine  σ = some x) : gj_M E yX9_routeLine cX9_routeLine 2 none 9 191 [gj_r 188] σ none x := by
  refine gj_body (lv := [(0, gj_r 188)]) (by decide +kernel) (Nat.le_of_ble_eq_true rfl) rfl (fun X hO => ?_)
  replace hO : gj_O E X RX9 cX9_routeLine 2 none 9 191 := hO
  unfold f_X9_routeLine at hf
  refine gj_aload_n hO 0 dX9_routeLine_0 rfl rfl ?_
  refine gj_aload_n hO 0 dX9_routeLine_1 rfl rfl ?_
  refine gt_X9_12 hO wk_693 dX9_routeLine_2 ?_
  refine gj_iconst (v := 1) hO dX9_routeLine_5 (by decide) ?_
  obtain ⟨hb1, hf⟩ := gj_c hf
  refine gj_iald hO kl_191 kd_191 hb1 dX9_routeLine_6 ?_
  refine gj_bipush (v := 16) hO dX9_routeLine_7 (by decide) ?_
  obtain ⟨z2, hz2, hf⟩ := gj_b hf
  have J2 : gj_G E X 2 none x 17 [(0, gj_r 188)] [gj_i z2, gj_r 188] σ := by
    refine gj_iconst (v := 5) hO dX9_routeLine_17 (by decide) ?_
    obtain ⟨⟨x3_v, x3_s⟩, hc3, hf⟩ := gj_b hf
    dsimp only at hf
    refine ca_X9_must hO kl_188  hc3 wk_677 (by decide) (by decide) (Nat.le_of_ble_eq_true rfl) dX9_routeLine_18 ?_
    refine gj_if_ne (tgt := 25) hO dX9_routeLine_21 (by decide) (fun h => ?_) (fun h => ?_)
    · replace hf := gj_f h hf
      refine gj_aload_n hO 0 dX9_routeLine_25 rfl rfl ?_
      obtain ⟨x4, hc4, hf⟩ := gj_b hf
      refine ca_X9_goesOn hO kl_188  hc4 wk_678 (by decide) (by decide) (Nat.le_of_ble_eq_true rfl) dX9_routeLine_26 ?_
      refine gj_aload_n hO 0 dX9_routeLine_29 rfl rfl ?_
      refine gj_bipush (v := 8) hO dX9_routeLine_30 (by decide) ?_
      refine gj_aload_n hO 0 dX9_routeLine_32 rfl rfl ?_
      refine gt_X9_12 hO wk_693 dX9_routeLine_33 ?_
      refine gj_iconst (v := 1) hO dX9_routeLine_36 (by decide) ?_
      obtain ⟨hb5, hf⟩ := gj_c hf
      refine gj_iald hO kl_191 kd_191 hb5 dX9_routeLine_37 ?_
      refine gj_iadd hO dX9_routeLine_38 ?_
      obtain ⟨x6, hc6, hf⟩ := gj_b hf
      refine ca_X9_newName hO kl_188  hc6 wk_700 (by decide) (by decide) (Nat.le_of_ble_eq_true rfl) dX9_routeLine_39 ?_
      refine gj_bipush (v := 16) hO dX9_routeLine_42 (by decide) ?_
      refine gj_aload_n hO 0 dX9_routeLine_44 rfl rfl ?_
      refine gt_X9_12 hO wk_693 dX9_routeLine_45 ?_
      refine gj_iconst (v := 1) hO dX9_routeLine_48 (by decide) ?_
      obtain ⟨hb7, hf⟩ := gj_c hf
      refine gj_iald hO kl_191 kd_191 hb7 dX9_routeLine_49 ?_
      refine gj_iadd hO dX9_routeLine_50 ?_
      refine gj_istore_n (lv2 := [(1, gj_i ((16 : Int32) + (x6.1 191 (Int32.toNatClampNeg (1 : Int32))))), (0, gj_r 188)]) hO dX9_routeLine_51 rfl (by decide) rfl ?_
      refine gj_aload_n hO 1 dX9_routeLine_52 rfl rfl ?_
      refine gt_X9_15 hO wk_706 dX9_routeLine_53 ?_
      refine gj_iload_n hO 0 dX9_routeLine_56 rfl rfl ?_
      refine gj_aload_n hO 1 dX9_routeLine_57 rfl rfl ?_
      refine gj_iconst (v := (-1)) hO dX9_routeLine_58 (by decide) ?_
      obtain ⟨⟨x8_v, x8_s⟩, hc8, hf⟩ := gj_b hf
      dsimp only at hf
      refine ca_X9_readDock hO kl_188  hc8 wk_707 (by decide) (by decide) (Nat.le_of_ble_eq_true rfl) dX9_routeLine_59 ?_
      obtain ⟨hb9, hf⟩ := gj_c hf
      refine gj_iast hO kl_194 kd_194 hb9 dX9_routeLine_62 ?_
      refine gj_aload_n hO 1 dX9_routeLine_63 rfl rfl ?_
      refine gt_X9_16 hO wk_708 dX9_routeLine_64 ?_
      refine gj_iload_n hO 0 dX9_routeLine_67 rfl rfl ?_
      refine gj_aload_n hO 1 dX9_routeLine_68 rfl rfl ?_
      refine gj_aload_n hO 1 dX9_routeLine_69 rfl rfl ?_
      refine gt_X9_15 hO wk_706 dX9_routeLine_70 ?_
      refine gj_iload_n hO 0 dX9_routeLine_73 rfl rfl ?_
      obtain ⟨hb10, hf⟩ := gj_c hf
      refine gj_iald hO kl_194 kd_194 hb10 dX9_routeLine_74 ?_
      obtain ⟨⟨x11_v, x11_s⟩, hc11, hf⟩ := gj_b hf
      dsimp only at hf
      refine ca_X9_readDock hO kl_188  hc11 wk_707 (by decide) (by decide) (Nat.le_of_ble_eq_true rfl) dX9_routeLine_75 ?_
      obtain ⟨hb12, hf⟩ := gj_c hf
      refine gj_iast hO kl_195 kd_195 hb12 dX9_routeLine_78 ?_
      refine gj_aload_n hO 1 dX9_routeLine_79 rfl rfl ?_
      refine gt_X9_17 hO wk_709 dX9_routeLine_80 ?_
      refine gj_iload_n hO 0 dX9_routeLine_83 rfl rfl ?_
      refine gj_aload_n hO 1 dX9_routeLine_84 rfl rfl ?_
      refine gj_ldcS (n := 1004) (tx := "costs") hO (List.mem_of_getElem? (i := 4) rfl) dX9_routeLine_85 ?_
      refine gj_iconst (v := 0) hO dX9_routeLine_87 (by decide) ?_
      refine gj_sipush (v := 999) hO dX9_routeLine_88 (by decide) ?_
      obtain ⟨⟨x13_v, x13_s⟩, hc13, hf⟩ := gj_b hf
      dsimp only at hf
      refine ca_X9_behind hO kl_188  hc13 wk_701 (by decide) (by decide) (Nat.le_of_ble_eq_true rfl) dX9_routeLine_91 ?_
      obtain ⟨hb14, hf⟩ := gj_c hf
      refine gj_iast hO kl_196 kd_196 hb14 dX9_routeLine_94 ?_
      refine gj_aload_n hO 1 dX9_routeLine_95 rfl rfl ?_
      refine gt_X9_18 hO wk_710 dX9_routeLine_96 ?_
      refine gj_iload_n hO 0 dX9_routeLine_99 rfl rfl ?_
      refine gj_aload_n hO 1 dX9_routeLine_100 rfl rfl ?_
      refine gj_ldcS (n := 1005) (tx := "holds") hO (List.mem_of_getElem? (i := 5) rfl) dX9_routeLine_101 ?_
      refine gj_iconst (v := 1) hO dX9_routeLine_103 (by decide) ?_
      refine gj_sipush (v := 999) hO dX9_routeLine_104 (by decide) ?_
      obtain ⟨⟨x15_v, x15_s⟩, hc15, hf⟩ := gj_b hf
      dsimp only at hf
      refine ca_X9_behind hO kl_188  hc15 wk_701 (by decide) (by decide) (Nat.le_of_ble_eq_true rfl) dX9_routeLine_107 ?_
      obtain ⟨hb16, hf⟩ := gj_c hf
      refine gj_iast hO kl_197 kd_197 hb16 dX9_routeLine_110 ?_
      refine gj_aload_n hO 1 dX9_routeLine_111 rfl rfl ?_
      refine gt_X9_9 hO wk_660 dX9_routeLine_112 ?_
      refine gj_if_ne (tgt := 128) hO dX9_routeLine_115 (by decide) (fun h => ?_) (fun h => ?_)
      · replace hf := gj_f h hf
        obtain rfl := Option.some.inj hf
        exact gj_vret hO dX9_routeLine_128
      · replace hf := gj_t h hf
        refine gj_aload_n hO 1 dX9_routeLine_118 rfl rfl ?_
        refine gt_X9_12 hO wk_693 dX9_routeLine_119 ?_
        refine gj_iconst (v := 1) hO dX9_routeLine_122 (by decide) ?_
        refine gj_dup2 hO dX9_routeLine_123 trivial trivial ?_
        obtain ⟨hb17, hf⟩ := gj_c hf
        refine gj_iald hO kl_191 kd_191 hb17 dX9_routeLine_124 ?_
        refine gj_iconst (v := 1) hO dX9_routeLine_125 (by decide) ?_
        refine gj_iadd hO dX9_routeLine_126 ?_
        obtain ⟨hb18, hf⟩ := gj_c hf
        refine gj_iast hO kl_191 kd_191 hb18 dX9_routeLine_127 ?_
        obtain ⟨s19, e19, hf⟩ := gj_b hf
        refine gj_eqS (Option.some.inj e19) ?_
        obtain rfl := Option.some.inj hf
        exact gj_vret hO dX9_routeLine_128
    · replace hf := gj_t h hf
      obtain rfl := Option.some.inj hf
      exact gj_vret hO dX9_routeLine_24
  refine gj_icmp_ge (tgt := 16) hO dX9_routeLine_9 (by decide) (fun h => ?_) (fun h => ?_)
  · replace hz2 := gj_t h hz2
    refine gj_iconst (v := 0) hO dX9_routeLine_16 (by decide) ?_
    obtain rfl := Option.some.inj hz2
    refine gj_sub (lv2 := [(0, gj_r 188)]) [0] rfl ?_
    exact J2
  · replace hz2 := gj_f h hz2
    refine gj_iconst (v := 1) hO dX9_routeLine_12 (by decide) ?_
    refine gj_goto (tgt := 17) hO dX9_routeLine_13 (by decide) ?_
    obtain rfl := Option.some.inj hz2
    refine gj_sub (lv2 := [(0, gj_r 188)]) [0] rfl ?_
    exact J2
set_option maxHeartbeats 4000000 in
set_option maxRecDepth 100000 in
theorem ca_X9_routeLine {E : gj_E} {X : gj_X} {own : String} {cc : ByteArray} {nL : Nat} {rt : Option FieldType} {fr lo : Nat} {ce sl : Nat} {Q : State → Prop} {pc : Nat} {lv : List (Nat × gj_V)} {st : List gj_V} {σ : gj_S} (hO : gj_O E X own cc nL rt fr lo) (hw : gj_lt own 188)   {idx : Nat} {x : gj_S} (hf : f_X9_routeLine  σ = some x) (hl : Cond.methodLink own idx yX9_routeLine ∈ gj_gw) (hf1 : 10 ≤ fr) (hf2 : 212 ≤ lo) (hcat : ((st.map (gj_tv E.2.1)).map fun v => v.category).sum ≤ 8) (hd : decode cc pc = .ok (.invokevirtual idx, 3)) (k : gj_H E X nL ce sl Q (pc + 3) lv (st) x) : gj_H E X nL ce sl Q pc lv (gj_r 188 :: st) σ :=
  gj_callV hO (o := 188) (vs := []) (m_X9_routeLine  hf) (gj_I9 hw) hl wk_711 wk_712 wk_629 wk_713 hw kd_188 (by decide) (ci := 9) rfl (n := 0) (by decide +kernel) rfl hf1 hf2 rfl hcat hd k
def f_X9_lineHere  (σ : gj_S) : Option gj_S := ((f_X9_is 1000 σ).bind fun x1 => ((if x1 = 0 then ((f_X9_is 1003 σ).bind fun x3 => (if x3 = 0 then ((f_X9_is 1006 σ).bind fun x4 => (if x4 = 0 then ((f_X9_must (0 : Int32) (1 : Int32) σ).bind fun x5 => some x5.2) else ((f_X9_blockLine σ).bind fun x6 => some x6))) else ((f_X9_routeLine σ).bind fun x7 => some x7))) else ((f_X9_dockLine σ).bind fun x8 => some x8) : Option gj_S).bind fun z2 => ((if (z2.1 188 6) = (59 : Int32) then some (1 : Int32) else some (0 : Int32) : Option Int32).bind fun z9 => ((f_X9_must z9 (1 : Int32) z2).bind fun x10 => (if x10.1 = 0 then some x10.2 else ((f_X9_goesOn x10.2).bind fun x11 => some x11))))))
set_option maxHeartbeats 4000000 in
set_option maxRecDepth 100000 in
theorem m_X9_lineHere {E : gj_E} {σ : gj_S}   {x : gj_S} (hf : f_X9_lineHere  σ = some x) : gj_M E yX9_lineHere cX9_lineHere 1 none 10 212 [gj_r 188] σ none x := by
  refine gj_body (lv := [(0, gj_r 188)]) (by decide +kernel) (Nat.le_of_ble_eq_true rfl) rfl (fun X hO => ?_)
  replace hO : gj_O E X RX9 cX9_lineHere 1 none 10 212 := hO
  unfold f_X9_lineHere at hf
  refine gj_aload_n hO 0 dX9_lineHere_0 rfl rfl ?_
  refine gj_ldcS (n := 1000) (tx := "dock") hO (List.mem_of_getElem? (i := 0) rfl) dX9_lineHere_1 ?_
  obtain ⟨x1, hc1, hf⟩ := gj_b hf
  refine ca_X9_is hO kl_188  hc1 wk_669 (by decide) (by decide) (Nat.le_of_ble_eq_true rfl) dX9_lineHere_3 ?_
  obtain ⟨z2, hz2, hf⟩ := gj_b hf
  have J2 : gj_G E X 1 none x 55 [(0, gj_r 188)] [] z2 := by
    refine gj_aload_n hO 0 dX9_lineHere_55 rfl rfl ?_
    refine gj_aload_n hO 0 dX9_lineHere_56 rfl rfl ?_
    refine gt_X9_6 hO wk_648 dX9_lineHere_57 ?_
    refine gj_bipush (v := 59) hO dX9_lineHere_60 (by decide) ?_
    obtain ⟨z9, hz9, hf⟩ := gj_b hf
    have J9 : gj_G E X 1 none x 70 [(0, gj_r 188)] [gj_i z9, gj_r 188] z2 := by
      refine gj_iconst (v := 1) hO dX9_lineHere_70 (by decide) ?_
      obtain ⟨⟨x10_v, x10_s⟩, hc10, hf⟩ := gj_b hf
      dsimp only at hf
      refine ca_X9_must hO kl_188  hc10 wk_677 (by decide) (by decide) (Nat.le_of_ble_eq_true rfl) dX9_lineHere_71 ?_
      refine gj_if_eq (tgt := 81) hO dX9_lineHere_74 (by decide) (fun h => ?_) (fun h => ?_)
      · replace hf := gj_t h hf
        obtain rfl := Option.some.inj hf
        exact gj_vret hO dX9_lineHere_81
      · replace hf := gj_f h hf
        refine gj_aload_n hO 0 dX9_lineHere_77 rfl rfl ?_
        obtain ⟨x11, hc11, hf⟩ := gj_b hf
        refine ca_X9_goesOn hO kl_188  hc11 wk_678 (by decide) (by decide) (Nat.le_of_ble_eq_true rfl) dX9_lineHere_78 ?_
        obtain rfl := Option.some.inj hf
        exact gj_vret hO dX9_lineHere_81
    refine gj_icmp_ne (tgt := 69) hO dX9_lineHere_62 (by decide) (fun h => ?_) (fun h => ?_)
    · replace hz9 := gj_f h hz9
      refine gj_iconst (v := 0) hO dX9_lineHere_69 (by decide) ?_
      obtain rfl := Option.some.inj hz9
      refine gj_sub (lv2 := [(0, gj_r 188)]) [0] rfl ?_
      exact J9
    · replace hz9 := gj_t h hz9
      refine gj_iconst (v := 1) hO dX9_lineHere_65 (by decide) ?_
      refine gj_goto (tgt := 70) hO dX9_lineHere_66 (by decide) ?_
      obtain rfl := Option.some.inj hz9
      refine gj_sub (lv2 := [(0, gj_r 188)]) [0] rfl ?_
      exact J9
  refine gj_if_eq (tgt := 16) hO dX9_lineHere_6 (by decide) (fun h => ?_) (fun h => ?_)
  · replace hz2 := gj_t h hz2
    refine gj_aload_n hO 0 dX9_lineHere_16 rfl rfl ?_
    refine gj_ldcS (n := 1003) (tx := "route") hO (List.mem_of_getElem? (i := 3) rfl) dX9_lineHere_17 ?_
    obtain ⟨x3, hc3, hz2⟩ := gj_b hz2
    refine ca_X9_is hO kl_188  hc3 wk_669 (by decide) (by decide) (Nat.le_of_ble_eq_true rfl) dX9_lineHere_19 ?_
    refine gj_if_eq (tgt := 32) hO dX9_lineHere_22 (by decide) (fun h => ?_) (fun h => ?_)
    · replace hz2 := gj_t h hz2
      refine gj_aload_n hO 0 dX9_lineHere_32 rfl rfl ?_
      refine gj_ldcS (n := 1006) (tx := "block") hO (List.mem_of_getElem? (i := 6) rfl) dX9_lineHere_33 ?_
      obtain ⟨x4, hc4, hz2⟩ := gj_b hz2
      refine ca_X9_is hO kl_188  hc4 wk_669 (by decide) (by decide) (Nat.le_of_ble_eq_true rfl) dX9_lineHere_35 ?_
      refine gj_if_eq (tgt := 48) hO dX9_lineHere_38 (by decide) (fun h => ?_) (fun h => ?_)
      · replace hz2 := gj_t h hz2
        refine gj_aload_n hO 0 dX9_lineHere_48 rfl rfl ?_
        refine gj_iconst (v := 0) hO dX9_lineHere_49 (by decide) ?_
        refine gj_iconst (v := 1) hO dX9_lineHere_50 (by decide) ?_
        obtain ⟨⟨x5_v, x5_s⟩, hc5, hz2⟩ := gj_b hz2
        dsimp only at hz2
        refine ca_X9_must hO kl_188  hc5 wk_677 (by decide) (by decide) (Nat.le_of_ble_eq_true rfl) dX9_lineHere_51 ?_
        refine gj_pop hO dX9_lineHere_54 trivial ?_
        obtain rfl := Option.some.inj hz2
        refine gj_sub (lv2 := [(0, gj_r 188)]) [0] rfl ?_
        exact J2
      · replace hz2 := gj_f h hz2
        refine gj_aload_n hO 0 dX9_lineHere_41 rfl rfl ?_
        obtain ⟨x6, hc6, hz2⟩ := gj_b hz2
        refine ca_X9_blockLine hO kl_188  hc6 wk_719 (by decide) (by decide) (Nat.le_of_ble_eq_true rfl) dX9_lineHere_42 ?_
        refine gj_goto (tgt := 55) hO dX9_lineHere_45 (by decide) ?_
        obtain rfl := Option.some.inj hz2
        refine gj_sub (lv2 := [(0, gj_r 188)]) [0] rfl ?_
        exact J2
    · replace hz2 := gj_f h hz2
      refine gj_aload_n hO 0 dX9_lineHere_25 rfl rfl ?_
      obtain ⟨x7, hc7, hz2⟩ := gj_b hz2
      refine ca_X9_routeLine hO kl_188  hc7 wk_720 (by decide) (by decide) (Nat.le_of_ble_eq_true rfl) dX9_lineHere_26 ?_
      refine gj_goto (tgt := 55) hO dX9_lineHere_29 (by decide) ?_
      obtain rfl := Option.some.inj hz2
      refine gj_sub (lv2 := [(0, gj_r 188)]) [0] rfl ?_
      exact J2
  · replace hz2 := gj_f h hz2
    refine gj_aload_n hO 0 dX9_lineHere_9 rfl rfl ?_
    obtain ⟨x8, hc8, hz2⟩ := gj_b hz2
    refine ca_X9_dockLine hO kl_188  hc8 wk_721 (by decide) (by decide) (Nat.le_of_ble_eq_true rfl) dX9_lineHere_10 ?_
    refine gj_goto (tgt := 55) hO dX9_lineHere_13 (by decide) ?_
    obtain rfl := Option.some.inj hz2
    refine gj_sub (lv2 := [(0, gj_r 188)]) [0] rfl ?_
    exact J2
set_option maxHeartbeats 4000000 in
set_option maxRecDepth 100000 in
theorem ca_X9_lineHere {E : gj_E} {X : gj_X} {own : String} {cc : ByteArray} {nL : Nat} {rt : Option FieldType} {fr lo : Nat} {ce sl : Nat} {Q : State → Prop} {pc : Nat} {lv : List (Nat × gj_V)} {st : List gj_V} {σ : gj_S} (hO : gj_O E X own cc nL rt fr lo) (hw : gj_lt own 188)   {idx : Nat} {x : gj_S} (hf : f_X9_lineHere  σ = some x) (hl : Cond.methodLink own idx yX9_lineHere ∈ gj_gw) (hf1 : 11 ≤ fr) (hf2 : 232 ≤ lo) (hcat : ((st.map (gj_tv E.2.1)).map fun v => v.category).sum ≤ 8) (hd : decode cc pc = .ok (.invokevirtual idx, 3)) (k : gj_H E X nL ce sl Q (pc + 3) lv (st) x) : gj_H E X nL ce sl Q pc lv (gj_r 188 :: st) σ :=
  gj_callV hO (o := 188) (vs := []) (m_X9_lineHere  hf) (gj_I9 hw) hl wk_722 wk_723 wk_629 wk_724 hw kd_188 (by decide) (ci := 9) rfl (n := 0) (by decide +kernel) rfl hf1 hf2 rfl hcat hd k
def fb_X9_text_l69  (a10069 : gj_S) : Option (gj_S ⊕ gj_S) := (if (a10069.1 188 9) = 0 then (if (a10069.1 188 6) = 0 then some (.inl a10069) else ((f_X9_lineHere a10069).bind fun x16901 => some (.inr x16901))) else some (.inl a10069))
def fb_X9_text_l139  (a10139 : (Int32 × gj_S)) : Option (gj_S ⊕ (Int32 × gj_S)) := (if (24 : Int32) ≤ a10139.1 then some (.inl a10139.2) else (if gj_in ((24 : Int32) + a10139.1) 48 then (if gj_in a10139.1 48 then some (.inr ((a10139.1 + 1), (gj_sJ a10139.2 192 (vp_updL (a10139.2.2.1 192) (Int32.toNatClampNeg a10139.1) (a10139.2.2.1 192 (Int32.toNatClampNeg ((24 : Int32) + a10139.1))))))) else none) else none))
def fb_X9_text_l168  (a10168 : (Int32 × gj_S)) : Option (gj_S ⊕ (Int32 × gj_S)) := (if (8 : Int32) ≤ a10168.1 then some (.inl a10168.2) else (if gj_in (0 : Int32) 2 then (if (a10168.2.1 190 (Int32.toNatClampNeg (0 : Int32))) ≤ a10168.1 then (if gj_in ((0 : Int32) + a10168.1) 180 then some (.inr ((a10168.1 + 1), (gj_sI a10168.2 198 (upd (a10168.2.1 198) (Int32.toNatClampNeg ((0 : Int32) + a10168.1)) (0 : Int32))))) else none) else (if gj_in ((8 : Int32) + a10168.1) 16 then (if gj_in ((0 : Int32) + a10168.1) 180 then some (.inr ((a10168.1 + 1), (gj_sI a10168.2 198 (upd (a10168.2.1 198) (Int32.toNatClampNeg ((0 : Int32) + a10168.1)) (a10168.2.1 193 (Int32.toNatClampNeg ((8 : Int32) + a10168.1))))))) else none) else none)) else none))
def fb_X9_text_l213  (a10213 : (Int32 × gj_S)) : Option (gj_S ⊕ (Int32 × gj_S)) := (if (16 : Int32) ≤ a10213.1 then some (.inl a10213.2) else (if gj_in ((16 : Int32) + a10213.1) 32 then (if gj_in a10213.1 32 then (if gj_in ((16 : Int32) + a10213.1) 32 then (if gj_in a10213.1 32 then ((some (gj_sI (gj_sI a10213.2 194 (upd (a10213.2.1 194) (Int32.toNatClampNeg a10213.1) (a10213.2.1 194 (Int32.toNatClampNeg ((16 : Int32) + a10213.1))))) 195 (upd ((gj_sI a10213.2 194 (upd (a10213.2.1 194) (Int32.toNatClampNeg a10213.1) (a10213.2.1 194 (Int32.toNatClampNeg ((16 : Int32) + a10213.1))))).1 195) (Int32.toNatClampNeg a10213.1) ((gj_sI a10213.2 194 (upd (a10213.2.1 194) (Int32.toNatClampNeg a10213.1) (a10213.2.1 194 (Int32.toNatClampNeg ((16 : Int32) + a10213.1))))).1 195 (Int32.toNatClampNeg ((16 : Int32) + a10213.1)))))).bind fun s31305 => (if gj_in (0 : Int32) 2 then ((if (s31305.1 191 (Int32.toNatClampNeg (0 : Int32))) ≤ a10213.1 then some (0 : Int32) else (if gj_in ((16 : Int32) + a10213.1) 32 then some (s31305.1 196 (Int32.toNatClampNeg ((16 : Int32) + a10213.1))) else none) : Option Int32).bind fun z31307 => (if gj_in ((8 : Int32) + a10213.1) 180 then (if gj_in (0 : Int32) 2 then (if ((gj_sI s31305 198 (upd (s31305.1 198) (Int32.toNatClampNeg ((8 : Int32) + a10213.1)) z31307)).1 191 (Int32.toNatClampNeg (0 : Int32))) ≤ a10213.1 then (if gj_in ((24 : Int32) + a10213.1) 180 then ((some (gj_sI (gj_sI s31305 198 (upd (s31305.1 198) (Int32.toNatClampNeg ((8 : Int32) + a10213.1)) z31307)) 198 (upd ((gj_sI s31305 198 (upd (s31305.1 198) (Int32.toNatClampNeg ((8 : Int32) + a10213.1)) z31307)).1 198) (Int32.toNatClampNeg ((24 : Int32) + a10213.1)) (0 : Int32)))).bind fun s31312 => some (.inr ((a10213.1 + 1), s31312))) else none) else (if gj_in ((16 : Int32) + a10213.1) 32 then (if gj_in ((24 : Int32) + a10213.1) 180 then ((some (gj_sI (gj_sI s31305 198 (upd (s31305.1 198) (Int32.toNatClampNeg ((8 : Int32) + a10213.1)) z31307)) 198 (upd ((gj_sI s31305 198 (upd (s31305.1 198) (Int32.toNatClampNeg ((8 : Int32) + a10213.1)) z31307)).1 198) (Int32.toNatClampNeg ((24 : Int32) + a10213.1)) ((gj_sI s31305 198 (upd (s31305.1 198) (Int32.toNatClampNeg ((8 : Int32) + a10213.1)) z31307)).1 197 (Int32.toNatClampNeg ((16 : Int32) + a10213.1)))))).bind fun s31315 => some (.inr ((a10213.1 + 1), s31315))) else none) else none)) else none) else none)) else none)) else none) else none) else none) else none))
def f_X9_text (b1 : Int32) (σ : gj_S) : Option (Int32 × gj_S) := ((f_X9_within (Int32.toInt64 b1) (0 : Int64) (Int32.toInt64 ((gj_sI σ 188 (upd (σ.1 188) 0 (0 : Int32))).1 188 2))).bind fun x1 => (if x1 = 0 then some ((-1 : Int32), (gj_sI σ 188 (upd (σ.1 188) 0 (0 : Int32)))) else ((some (gj_sI (gj_sI (gj_sI σ 188 (upd (σ.1 188) 0 (0 : Int32))) 188 (upd ((gj_sI σ 188 (upd (σ.1 188) 0 (0 : Int32))).1 188) 2 (0 : Int32))) 188 (upd ((gj_sI (gj_sI σ 188 (upd (σ.1 188) 0 (0 : Int32))) 188 (upd ((gj_sI σ 188 (upd (σ.1 188) 0 (0 : Int32))).1 188) 2 (0 : Int32))).1 188) 3 b1))).bind fun s2 => (if gj_in (1 : Int32) 2 then ((some (gj_sI (gj_sI (gj_sI s2 188 (upd (s2.1 188) 5 (0 : Int32))) 188 (upd ((gj_sI s2 188 (upd (s2.1 188) 5 (0 : Int32))).1 188) 9 (0 : Int32))) 190 (upd ((gj_sI (gj_sI s2 188 (upd (s2.1 188) 5 (0 : Int32))) 188 (upd ((gj_sI s2 188 (upd (s2.1 188) 5 (0 : Int32))).1 188) 9 (0 : Int32))).1 190) (Int32.toNatClampNeg (1 : Int32)) (0 : Int32)))).bind fun s4 => (if gj_in (1 : Int32) 2 then ((some (gj_sI (gj_sI s4 191 (upd (s4.1 191) (Int32.toNatClampNeg (1 : Int32)) (0 : Int32))) 188 (upd ((gj_sI s4 191 (upd (s4.1 191) (Int32.toNatClampNeg (1 : Int32)) (0 : Int32))).1 188) 20 (0 : Int32)))).bind fun s6 => ((f_X9_goesOn (gj_sI s6 188 (upd (s6.1 188) 19 (4 : Int32)))).bind fun x7 => ((gj_lp (fb_X9_text_l69) 5000 x7).bind fun z8 => (if (z8.1 188 9) = 0 then (if gj_in (1 : Int32) 2 then (if gj_in (0 : Int32) 2 then (if gj_in (1 : Int32) 2 then (if gj_in (0 : Int32) 2 then ((some (gj_sI (gj_sI z8 190 (upd (z8.1 190) (Int32.toNatClampNeg (0 : Int32)) (z8.1 190 (Int32.toNatClampNeg (1 : Int32))))) 191 (upd ((gj_sI z8 190 (upd (z8.1 190) (Int32.toNatClampNeg (0 : Int32)) (z8.1 190 (Int32.toNatClampNeg (1 : Int32))))).1 191) (Int32.toNatClampNeg (0 : Int32)) ((gj_sI z8 190 (upd (z8.1 190) (Int32.toNatClampNeg (0 : Int32)) (z8.1 190 (Int32.toNatClampNeg (1 : Int32))))).1 191 (Int32.toNatClampNeg (1 : Int32)))))).bind fun s13 => ((gj_lp (fb_X9_text_l139) 5000 ((0 : Int32), s13)).bind fun z14 => ((gj_lp (fb_X9_text_l168) 5000 ((0 : Int32), z14)).bind fun z15 => ((gj_lp (fb_X9_text_l213) 5000 ((0 : Int32), z15)).bind fun z16 => (if gj_in (40 : Int32) 180 then ((f_X9_begins (gj_sI z16 198 (upd (z16.1 198) (Int32.toNatClampNeg (40 : Int32)) (z16.1 188 19)))).bind fun x18 => (if gj_in (0 : Int32) 2 then ((some (gj_sI (gj_sI x18 188 (upd (x18.1 188) 23 (0 : Int32))) 201 (upd ((gj_sI x18 188 (upd (x18.1 188) 23 (0 : Int32))).1 201) (Int32.toNatClampNeg (0 : Int32)) (vp_nar .boolean (0 : Int32))))).bind fun s20 => (if gj_in (1 : Int32) 2 then (if gj_in (0 : Int32) 2 then some (((gj_sI s20 201 (upd (s20.1 201) (Int32.toNatClampNeg (1 : Int32)) (vp_nar .boolean (0 : Int32)))).1 190 (Int32.toNatClampNeg (0 : Int32))), (gj_sI s20 201 (upd (s20.1 201) (Int32.toNatClampNeg (1 : Int32)) (vp_nar .boolean (0 : Int32))))) else none) else none)) else none)) else none))))) else none) else none) else none) else none) else some (((-2 : Int32) - (((8 : Int32) * (z8.1 188 10)) + (z8.1 188 9))), z8))))) else none)) else none))))
set_option maxHeartbeats 4000000 in
set_option maxRecDepth 100000 in
theorem sb_X9_text_l69 {E : gj_E} {X : gj_X} {r : Option gj_V} {τ : gj_S} (hO : gj_O E X RX9 cX9_text 3 (some .int) 11 232)  {a10069 : gj_S} {x : gj_S ⊕ gj_S} (hf : fb_X9_text_l69  a10069 = some x) (K : gj_K (fun z8 => gj_G E X 3 r τ 90 [(0, gj_r 188)] [] z8) (fun a10069 => gj_G E X 3 r τ 69 [(0, gj_r 188)] [] a10069) x) : gj_G E X 3 r τ 69 [(0, gj_r 188)] [] a10069 := by
  unfold fb_X9_text_l69 at hf
  refine gj_aload_n hO 0 dX9_text_69 rfl rfl ?_
  refine gt_X9_9 hO wk_660 dX9_text_70 ?_
  refine gj_if_ne (tgt := 90) hO dX9_text_73 (by decide) (fun h => ?_) (fun h => ?_)
  · replace hf := gj_f h hf
    obtain rfl := Option.some.inj hf
    refine gj_sub (lv2 := [(0, gj_r 188)]) [0] rfl ?_
    exact K
  · replace hf := gj_t h hf
    refine gj_aload_n hO 0 dX9_text_76 rfl rfl ?_
    refine gt_X9_6 hO wk_648 dX9_text_77 ?_
    refine gj_if_eq (tgt := 90) hO dX9_text_80 (by decide) (fun h => ?_) (fun h => ?_)
    · replace hf := gj_t h hf
      obtain rfl := Option.some.inj hf
      refine gj_sub (lv2 := [(0, gj_r 188)]) [0] rfl ?_
      exact K
    · replace hf := gj_f h hf
      refine gj_aload_n hO 0 dX9_text_83 rfl rfl ?_
      obtain ⟨x16901, hc16901, hf⟩ := gj_b hf
      refine ca_X9_lineHere hO kl_188  hc16901 wk_729 (by decide) (by decide) (Nat.le_of_ble_eq_true rfl) dX9_text_84 ?_
      refine gj_goto (tgt := 69) hO dX9_text_87 (by decide) ?_
      obtain rfl := Option.some.inj hf
      refine gj_sub (lv2 := [(0, gj_r 188)]) [0] rfl ?_
      exact K
set_option maxHeartbeats 4000000 in
set_option maxRecDepth 100000 in
theorem sb_X9_text_l139 {E : gj_E} {X : gj_X} {r : Option gj_V} {τ : gj_S} (hO : gj_O E X RX9 cX9_text 3 (some .int) 11 232)  {a10139_0 : Int32} {a10139_1 : gj_S} {x : gj_S ⊕ (Int32 × gj_S)} (hf : fb_X9_text_l139  (a10139_0, a10139_1) = some x) (K : gj_K (fun z14 => gj_G E X 3 r τ 166 [(0, gj_r 188)] [] z14) (fun a10139 => gj_G E X 3 r τ 139 [(0, gj_r 188), (2, gj_i a10139.1)] [] a10139.2) x) : gj_G E X 3 r τ 139 [(0, gj_r 188), (2, gj_i a10139_0)] [] a10139_1 := by
  unfold fb_X9_text_l139 at hf
  dsimp only at hf
  refine gj_iload_n hO 1 dX9_text_139 rfl rfl ?_
  refine gj_bipush (v := 24) hO dX9_text_140 (by decide) ?_
  refine gj_icmp_ge (tgt := 166) hO dX9_text_142 (by decide) (fun h => ?_) (fun h => ?_)
  · replace hf := gj_t h hf
    obtain rfl := Option.some.inj hf
    refine gj_sub (lv2 := [(0, gj_r 188)]) [0] rfl ?_
    exact K
  · replace hf := gj_f h hf
    refine gj_aload_n hO 0 dX9_text_145 rfl rfl ?_
    refine gt_X9_13 hO wk_686 dX9_text_146 ?_
    refine gj_iload_n hO 1 dX9_text_149 rfl rfl ?_
    refine gj_aload_n hO 0 dX9_text_150 rfl rfl ?_
    refine gt_X9_13 hO wk_686 dX9_text_151 ?_
    refine gj_bipush (v := 24) hO dX9_text_154 (by decide) ?_
    refine gj_iload_n hO 1 dX9_text_156 rfl rfl ?_
    refine gj_iadd hO dX9_text_157 ?_
    obtain ⟨hb23901, hf⟩ := gj_c hf
    refine gj_lald hO kl_192 kd_192 hb23901 dX9_text_158 ?_
    obtain ⟨hb23902, hf⟩ := gj_c hf
    refine gj_last hO kl_192 kd_192 hb23902 dX9_text_159 ?_
    refine gj_iinc (v := (a10139_0 + 1)) (lv2 := [(2, gj_i (a10139_0 + 1)), (0, gj_r 188)]) hO 1 dX9_text_160 rfl rfl (by decide) rfl ?_
    refine gj_goto (tgt := 139) hO dX9_text_163 (by decide) ?_
    obtain rfl := Option.some.inj hf
    refine gj_sub (lv2 := [(0, gj_r 188), (2, gj_i (a10139_0 + 1))]) [1, 0] rfl ?_
    exact K
set_option maxHeartbeats 4000000 in
set_option maxRecDepth 100000 in
theorem sb_X9_text_l168 {E : gj_E} {X : gj_X} {r : Option gj_V} {τ : gj_S} (hO : gj_O E X RX9 cX9_text 3 (some .int) 11 232)  {a10168_0 : Int32} {a10168_1 : gj_S} {x : gj_S ⊕ (Int32 × gj_S)} (hf : fb_X9_text_l168  (a10168_0, a10168_1) = some x) (K : gj_K (fun z15 => gj_G E X 3 r τ 211 [(0, gj_r 188)] [] z15) (fun a10168 => gj_G E X 3 r τ 168 [(0, gj_r 188), (2, gj_i a10168.1)] [] a10168.2) x) : gj_G E X 3 r τ 168 [(0, gj_r 188), (2, gj_i a10168_0)] [] a10168_1 := by
  unfold fb_X9_text_l168 at hf
  dsimp only at hf
  refine gj_iload_n hO 1 dX9_text_168 rfl rfl ?_
  refine gj_bipush (v := 8) hO dX9_text_169 (by decide) ?_
  refine gj_icmp_ge (tgt := 211) hO dX9_text_171 (by decide) (fun h => ?_) (fun h => ?_)
  · replace hf := gj_t h hf
    obtain rfl := Option.some.inj hf
    refine gj_sub (lv2 := [(0, gj_r 188)]) [0] rfl ?_
    exact K
  · replace hf := gj_f h hf
    refine gj_aload_n hO 0 dX9_text_174 rfl rfl ?_
    refine gt_X9_21 hO wk_725 dX9_text_175 ?_
    refine gj_iconst (v := 0) hO dX9_text_178 (by decide) ?_
    refine gj_iload_n hO 1 dX9_text_179 rfl rfl ?_
    refine gj_iadd hO dX9_text_180 ?_
    refine gj_iload_n hO 1 dX9_text_181 rfl rfl ?_
    refine gj_aload_n hO 0 dX9_text_182 rfl rfl ?_
    refine gt_X9_11 hO wk_691 dX9_text_183 ?_
    refine gj_iconst (v := 0) hO dX9_text_186 (by decide) ?_
    obtain ⟨hb26801, hf⟩ := gj_c hf
    refine gj_iald hO kl_190 kd_190 hb26801 dX9_text_187 ?_
    refine gj_icmp_ge (tgt := 203) hO dX9_text_188 (by decide) (fun h => ?_) (fun h => ?_)
    · replace hf := gj_t h hf
      refine gj_iconst (v := 0) hO dX9_text_203 (by decide) ?_
      obtain ⟨hb26802, hf⟩ := gj_c hf
      refine gj_iast hO kl_198 kd_198 hb26802 dX9_text_204 ?_
      refine gj_iinc (v := (a10168_0 + 1)) (lv2 := [(2, gj_i (a10168_0 + 1)), (0, gj_r 188)]) hO 1 dX9_text_205 rfl rfl (by decide) rfl ?_
      refine gj_goto (tgt := 168) hO dX9_text_208 (by decide) ?_
      obtain rfl := Option.some.inj hf
      refine gj_sub (lv2 := [(0, gj_r 188), (2, gj_i (a10168_0 + 1))]) [1, 0] rfl ?_
      exact K
    · replace hf := gj_f h hf
      refine gj_aload_n hO 0 dX9_text_191 rfl rfl ?_
      refine gt_X9_14 hO wk_702 dX9_text_192 ?_
      refine gj_bipush (v := 8) hO dX9_text_195 (by decide) ?_
      refine gj_iload_n hO 1 dX9_text_197 rfl rfl ?_
      refine gj_iadd hO dX9_text_198 ?_
      obtain ⟨hb26803, hf⟩ := gj_c hf
      refine gj_iald hO kl_193 kd_193 hb26803 dX9_text_199 ?_
      refine gj_goto (tgt := 204) hO dX9_text_200 (by decide) ?_
      obtain ⟨hb26804, hf⟩ := gj_c hf
      refine gj_iast hO kl_198 kd_198 hb26804 dX9_text_204 ?_
      refine gj_iinc (v := (a10168_0 + 1)) (lv2 := [(2, gj_i (a10168_0 + 1)), (0, gj_r 188)]) hO 1 dX9_text_205 rfl rfl (by decide) rfl ?_
      refine gj_goto (tgt := 168) hO dX9_text_208 (by decide) ?_
      obtain rfl := Option.some.inj hf
      refine gj_sub (lv2 := [(0, gj_r 188), (2, gj_i (a10168_0 + 1))]) [1, 0] rfl ?_
      exact K
set_option maxHeartbeats 4000000 in
set_option maxRecDepth 100000 in
theorem sb_X9_text_l213 {E : gj_E} {X : gj_X} {r : Option gj_V} {τ : gj_S} (hO : gj_O E X RX9 cX9_text 3 (some .int) 11 232)  {a10213_0 : Int32} {a10213_1 : gj_S} {x : gj_S ⊕ (Int32 × gj_S)} (hf : fb_X9_text_l213  (a10213_0, a10213_1) = some x) (K : gj_K (fun z16 => gj_G E X 3 r τ 319 [(0, gj_r 188)] [] z16) (fun a10213 => gj_G E X 3 r τ 213 [(0, gj_r 188), (2, gj_i a10213.1)] [] a10213.2) x) : gj_G E X 3 r τ 213 [(0, gj_r 188), (2, gj_i a10213_0)] [] a10213_1 := by
  unfold fb_X9_text_l213 at hf
  dsimp only at hf
  refine gj_iload_n hO 1 dX9_text_213 rfl rfl ?_
  refine gj_bipush (v := 16) hO dX9_text_214 (by decide) ?_
  refine gj_icmp_ge (tgt := 319) hO dX9_text_216 (by decide) (fun h => ?_) (fun h => ?_)
  · replace hf := gj_t h hf
    obtain rfl := Option.some.inj hf
    refine gj_sub (lv2 := [(0, gj_r 188)]) [0] rfl ?_
    exact K
  · replace hf := gj_f h hf
    refine gj_aload_n hO 0 dX9_text_219 rfl rfl ?_
    refine gt_X9_15 hO wk_706 dX9_text_220 ?_
    refine gj_iload_n hO 1 dX9_text_223 rfl rfl ?_
    refine gj_aload_n hO 0 dX9_text_224 rfl rfl ?_
    refine gt_X9_15 hO wk_706 dX9_text_225 ?_
    refine gj_bipush (v := 16) hO dX9_text_228 (by decide) ?_
    refine gj_iload_n hO 1 dX9_text_230 rfl rfl ?_
    refine gj_iadd hO dX9_text_231 ?_
    obtain ⟨hb31301, hf⟩ := gj_c hf
    refine gj_iald hO kl_194 kd_194 hb31301 dX9_text_232 ?_
    obtain ⟨hb31302, hf⟩ := gj_c hf
    refine gj_iast hO kl_194 kd_194 hb31302 dX9_text_233 ?_
    refine gj_aload_n hO 0 dX9_text_234 rfl rfl ?_
    refine gt_X9_16 hO wk_708 dX9_text_235 ?_
    refine gj_iload_n hO 1 dX9_text_238 rfl rfl ?_
    refine gj_aload_n hO 0 dX9_text_239 rfl rfl ?_
    refine gt_X9_16 hO wk_708 dX9_text_240 ?_
    refine gj_bipush (v := 16) hO dX9_text_243 (by decide) ?_
    refine gj_iload_n hO 1 dX9_text_245 rfl rfl ?_
    refine gj_iadd hO dX9_text_246 ?_
    obtain ⟨hb31303, hf⟩ := gj_c hf
    refine gj_iald hO kl_195 kd_195 hb31303 dX9_text_247 ?_
    obtain ⟨hb31304, hf⟩ := gj_c hf
    refine gj_iast hO kl_195 kd_195 hb31304 dX9_text_248 ?_
    obtain ⟨s31305, e31305, hf⟩ := gj_b hf
    refine gj_eqS (Option.some.inj e31305) ?_
    refine gj_aload_n hO 0 dX9_text_249 rfl rfl ?_
    refine gt_X9_21 hO wk_725 dX9_text_250 ?_
    refine gj_bipush (v := 8) hO dX9_text_253 (by decide) ?_
    refine gj_iload_n hO 1 dX9_text_255 rfl rfl ?_
    refine gj_iadd hO dX9_text_256 ?_
    refine gj_iload_n hO 1 dX9_text_257 rfl rfl ?_
    refine gj_aload_n hO 0 dX9_text_258 rfl rfl ?_
    refine gt_X9_12 hO wk_693 dX9_text_259 ?_
    refine gj_iconst (v := 0) hO dX9_text_262 (by decide) ?_
    obtain ⟨hb31306, hf⟩ := gj_c hf
    refine gj_iald hO kl_191 kd_191 hb31306 dX9_text_263 ?_
    obtain ⟨z31307, hz31307, hf⟩ := gj_b hf
    have J31307 : gj_G E X 3 r τ 280 [(0, gj_r 188), (2, gj_i a10213_0)] [gj_i z31307, gj_i ((8 : Int32) + a10213_0), gj_r 198] s31305 := by
      obtain ⟨hb31309, hf⟩ := gj_c hf
      refine gj_iast hO kl_198 kd_198 hb31309 dX9_text_280 ?_
      refine gj_aload_n hO 0 dX9_text_281 rfl rfl ?_
      refine gt_X9_21 hO wk_725 dX9_text_282 ?_
      refine gj_bipush (v := 24) hO dX9_text_285 (by decide) ?_
      refine gj_iload_n hO 1 dX9_text_287 rfl rfl ?_
      refine gj_iadd hO dX9_text_288 ?_
      refine gj_iload_n hO 1 dX9_text_289 rfl rfl ?_
      refine gj_aload_n hO 0 dX9_text_290 rfl rfl ?_
      refine gt_X9_12 hO wk_693 dX9_text_291 ?_
      refine gj_iconst (v := 0) hO dX9_text_294 (by decide) ?_
      obtain ⟨hb31310, hf⟩ := gj_c hf
      refine gj_iald hO kl_191 kd_191 hb31310 dX9_text_295 ?_
      refine gj_icmp_ge (tgt := 311) hO dX9_text_296 (by decide) (fun h => ?_) (fun h => ?_)
      · replace hf := gj_t h hf
        refine gj_iconst (v := 0) hO dX9_text_311 (by decide) ?_
        obtain ⟨hb31311, hf⟩ := gj_c hf
        refine gj_iast hO kl_198 kd_198 hb31311 dX9_text_312 ?_
        obtain ⟨s31312, e31312, hf⟩ := gj_b hf
        refine gj_eqS (Option.some.inj e31312) ?_
        refine gj_iinc (v := (a10213_0 + 1)) (lv2 := [(2, gj_i (a10213_0 + 1)), (0, gj_r 188)]) hO 1 dX9_text_313 rfl rfl (by decide) rfl ?_
        refine gj_goto (tgt := 213) hO dX9_text_316 (by decide) ?_
        obtain rfl := Option.some.inj hf
        refine gj_sub (lv2 := [(0, gj_r 188), (2, gj_i (a10213_0 + 1))]) [1, 0] rfl ?_
        exact K
      · replace hf := gj_f h hf
        refine gj_aload_n hO 0 dX9_text_299 rfl rfl ?_
        refine gt_X9_18 hO wk_710 dX9_text_300 ?_
        refine gj_bipush (v := 16) hO dX9_text_303 (by decide) ?_
        refine gj_iload_n hO 1 dX9_text_305 rfl rfl ?_
        refine gj_iadd hO dX9_text_306 ?_
        obtain ⟨hb31313, hf⟩ := gj_c hf
        refine gj_iald hO kl_197 kd_197 hb31313 dX9_text_307 ?_
        refine gj_goto (tgt := 312) hO dX9_text_308 (by decide) ?_
        obtain ⟨hb31314, hf⟩ := gj_c hf
        refine gj_iast hO kl_198 kd_198 hb31314 dX9_text_312 ?_
        obtain ⟨s31315, e31315, hf⟩ := gj_b hf
        refine gj_eqS (Option.some.inj e31315) ?_
        refine gj_iinc (v := (a10213_0 + 1)) (lv2 := [(2, gj_i (a10213_0 + 1)), (0, gj_r 188)]) hO 1 dX9_text_313 rfl rfl (by decide) rfl ?_
        refine gj_goto (tgt := 213) hO dX9_text_316 (by decide) ?_
        obtain rfl := Option.some.inj hf
        refine gj_sub (lv2 := [(0, gj_r 188), (2, gj_i (a10213_0 + 1))]) [1, 0] rfl ?_
        exact K
    refine gj_icmp_ge (tgt := 279) hO dX9_text_264 (by decide) (fun h => ?_) (fun h => ?_)
    · replace hz31307 := gj_t h hz31307
      refine gj_iconst (v := 0) hO dX9_text_279 (by decide) ?_
      obtain rfl := Option.some.inj hz31307
      refine gj_sub (lv2 := [(0, gj_r 188), (2, gj_i a10213_0)]) [0, 1] rfl ?_
      exact J31307
    · replace hz31307 := gj_f h hz31307
      refine gj_aload_n hO 0 dX9_text_267 rfl rfl ?_
      refine gt_X9_17 hO wk_709 dX9_text_268 ?_
      refine gj_bipush (v := 16) hO dX9_text_271 (by decide) ?_
      refine gj_iload_n hO 1 dX9_text_273 rfl rfl ?_
      refine gj_iadd hO dX9_text_274 ?_
      obtain ⟨hb31308, hz31307⟩ := gj_c hz31307
      refine gj_iald hO kl_196 kd_196 hb31308 dX9_text_275 ?_
      refine gj_goto (tgt := 280) hO dX9_text_276 (by decide) ?_
      obtain rfl := Option.some.inj hz31307
      refine gj_sub (lv2 := [(0, gj_r 188), (2, gj_i a10213_0)]) [0, 1] rfl ?_
      exact J31307
set_option maxHeartbeats 4000000 in
set_option maxRecDepth 100000 in
theorem m_X9_text {E : gj_E} {σ : gj_S} {b1 : Int32}  {x : Int32} {y : gj_S} (hf : f_X9_text b1 σ = some (x, y)) : gj_M E yX9_text cX9_text 3 (some .int) 11 232 [gj_r 188, gj_i b1] σ (some (gj_i x)) y := by
  refine gj_body (lv := [(0, gj_r 188), (1, gj_i b1)]) (by decide +kernel) (Nat.le_of_ble_eq_true rfl) rfl (fun X hO => ?_)
  replace hO : gj_O E X RX9 cX9_text 3 (some .int) 11 232 := hO
  unfold f_X9_text at hf
  refine gj_aload_n hO 0 dX9_text_0 rfl rfl ?_
  refine gj_iconst (v := 0) hO dX9_text_1 (by decide) ?_
  refine pt_X9_0 hO wk_636 dX9_text_2 ?_
  refine gj_iload_n hO 1 dX9_text_5 rfl rfl ?_
  refine gj_i2l hO dX9_text_6 ?_
  refine gj_lconst (v := 0) hO dX9_text_7 (by decide) ?_
  refine gj_aload_n hO 0 dX9_text_8 rfl rfl ?_
  refine gt_X9_2 hO wk_632 dX9_text_9 ?_
  refine gj_i2l hO dX9_text_12 ?_
  obtain ⟨x1, hc1, hf⟩ := gj_b hf
  refine ca_X9_within hO kl_188  hc1 wk_653 (by decide) (by decide) (Nat.le_of_ble_eq_true rfl) dX9_text_13 ?_
  refine gj_if_ne (tgt := 21) hO dX9_text_16 (by decide) (fun h => ?_) (fun h => ?_)
  · replace hf := gj_f h hf
    refine gj_aload_n hO 0 dX9_text_21 rfl rfl ?_
    refine gj_iconst (v := 0) hO dX9_text_22 (by decide) ?_
    refine pt_X9_2 hO wk_632 dX9_text_23 ?_
    refine gj_aload_n hO 0 dX9_text_26 rfl rfl ?_
    refine gj_iload_n hO 1 dX9_text_27 rfl rfl ?_
    refine pt_X9_3 hO wk_641 dX9_text_28 ?_
    obtain ⟨s2, e2, hf⟩ := gj_b hf
    refine gj_eqS (Option.some.inj e2) ?_
    refine gj_aload_n hO 0 dX9_text_31 rfl rfl ?_
    refine gj_iconst (v := 0) hO dX9_text_32 (by decide) ?_
    refine pt_X9_5 hO wk_645 dX9_text_33 ?_
    refine gj_aload_n hO 0 dX9_text_36 rfl rfl ?_
    refine gj_iconst (v := 0) hO dX9_text_37 (by decide) ?_
    refine pt_X9_9 hO wk_660 dX9_text_38 ?_
    refine gj_aload_n hO 0 dX9_text_41 rfl rfl ?_
    refine gt_X9_11 hO wk_691 dX9_text_42 ?_
    refine gj_iconst (v := 1) hO dX9_text_45 (by decide) ?_
    refine gj_iconst (v := 0) hO dX9_text_46 (by decide) ?_
    obtain ⟨hb3, hf⟩ := gj_c hf
    refine gj_iast hO kl_190 kd_190 hb3 dX9_text_47 ?_
    obtain ⟨s4, e4, hf⟩ := gj_b hf
    refine gj_eqS (Option.some.inj e4) ?_
    refine gj_aload_n hO 0 dX9_text_48 rfl rfl ?_
    refine gt_X9_12 hO wk_693 dX9_text_49 ?_
    refine gj_iconst (v := 1) hO dX9_text_52 (by decide) ?_
    refine gj_iconst (v := 0) hO dX9_text_53 (by decide) ?_
    obtain ⟨hb5, hf⟩ := gj_c hf
    refine gj_iast hO kl_191 kd_191 hb5 dX9_text_54 ?_
    refine gj_aload_n hO 0 dX9_text_55 rfl rfl ?_
    refine gj_iconst (v := 0) hO dX9_text_56 (by decide) ?_
    refine pt_X9_20 hO (Or.inl rfl) wk_714 dX9_text_57 ?_
    obtain ⟨s6, e6, hf⟩ := gj_b hf
    refine gj_eqS (Option.some.inj e6) ?_
    refine gj_aload_n hO 0 dX9_text_60 rfl rfl ?_
    refine gj_iconst (v := 4) hO dX9_text_61 (by decide) ?_
    refine pt_X9_19 hO wk_715 dX9_text_62 ?_
    refine gj_aload_n hO 0 dX9_text_65 rfl rfl ?_
    obtain ⟨x7, hc7, hf⟩ := gj_b hf
    refine ca_X9_goesOn hO kl_188  hc7 wk_678 (by decide) (by decide) (Nat.le_of_ble_eq_true rfl) dX9_text_66 ?_
    obtain ⟨z8, hz8, hf⟩ := gj_b hf
    have J8 : gj_G E X 3 (some (gj_i x)) y 90 [(0, gj_r 188)] [] z8 := by
      refine gj_aload_n hO 0 dX9_text_90 rfl rfl ?_
      refine gt_X9_9 hO wk_660 dX9_text_91 ?_
      refine gj_if_eq (tgt := 113) hO dX9_text_94 (by decide) (fun h => ?_) (fun h => ?_)
      · replace hf := gj_t h hf
        refine gj_aload_n hO 0 dX9_text_113 rfl rfl ?_
        refine gt_X9_11 hO wk_691 dX9_text_114 ?_
        refine gj_iconst (v := 0) hO dX9_text_117 (by decide) ?_
        refine gj_aload_n hO 0 dX9_text_118 rfl rfl ?_
        refine gt_X9_11 hO wk_691 dX9_text_119 ?_
        refine gj_iconst (v := 1) hO dX9_text_122 (by decide) ?_
        obtain ⟨hb9, hf⟩ := gj_c hf
        refine gj_iald hO kl_190 kd_190 hb9 dX9_text_123 ?_
        obtain ⟨hb10, hf⟩ := gj_c hf
        refine gj_iast hO kl_190 kd_190 hb10 dX9_text_124 ?_
        refine gj_aload_n hO 0 dX9_text_125 rfl rfl ?_
        refine gt_X9_12 hO wk_693 dX9_text_126 ?_
        refine gj_iconst (v := 0) hO dX9_text_129 (by decide) ?_
        refine gj_aload_n hO 0 dX9_text_130 rfl rfl ?_
        refine gt_X9_12 hO wk_693 dX9_text_131 ?_
        refine gj_iconst (v := 1) hO dX9_text_134 (by decide) ?_
        obtain ⟨hb11, hf⟩ := gj_c hf
        refine gj_iald hO kl_191 kd_191 hb11 dX9_text_135 ?_
        obtain ⟨hb12, hf⟩ := gj_c hf
        refine gj_iast hO kl_191 kd_191 hb12 dX9_text_136 ?_
        obtain ⟨s13, e13, hf⟩ := gj_b hf
        refine gj_eqS (Option.some.inj e13) ?_
        refine gj_iconst (v := 0) hO dX9_text_137 (by decide) ?_
        refine gj_istore_n (lv2 := [(2, gj_i (0 : Int32)), (0, gj_r 188)]) hO dX9_text_138 rfl (by decide) rfl ?_
        obtain ⟨z14, hz14, hf⟩ := gj_b hf
        have J14 : gj_G E X 3 (some (gj_i x)) y 166 [(0, gj_r 188)] [] z14 := by
          refine gj_iconst (v := 0) hO dX9_text_166 (by decide) ?_
          refine gj_istore_n (lv2 := [(2, gj_i (0 : Int32)), (0, gj_r 188)]) hO dX9_text_167 rfl (by decide) rfl ?_
          obtain ⟨z15, hz15, hf⟩ := gj_b hf
          have J15 : gj_G E X 3 (some (gj_i x)) y 211 [(0, gj_r 188)] [] z15 := by
            refine gj_iconst (v := 0) hO dX9_text_211 (by decide) ?_
            refine gj_istore_n (lv2 := [(2, gj_i (0 : Int32)), (0, gj_r 188)]) hO dX9_text_212 rfl (by decide) rfl ?_
            obtain ⟨z16, hz16, hf⟩ := gj_b hf
            have J16 : gj_G E X 3 (some (gj_i x)) y 319 [(0, gj_r 188)] [] z16 := by
              refine gj_aload_n hO 0 dX9_text_319 rfl rfl ?_
              refine gt_X9_21 hO wk_725 dX9_text_320 ?_
              refine gj_bipush (v := 40) hO dX9_text_323 (by decide) ?_
              refine gj_aload_n hO 0 dX9_text_325 rfl rfl ?_
              refine gt_X9_19 hO wk_715 dX9_text_326 ?_
              obtain ⟨hb17, hf⟩ := gj_c hf
              refine gj_iast hO kl_198 kd_198 hb17 dX9_text_329 ?_
              refine gj_aload_n hO 0 dX9_text_330 rfl rfl ?_
              obtain ⟨x18, hc18, hf⟩ := gj_b hf
              refine ca_X9_begins hO kl_188  hc18 wk_730 (by decide) (by decide) (Nat.le_of_ble_eq_true rfl) dX9_text_331 ?_
              refine gj_aload_n hO 0 dX9_text_334 rfl rfl ?_
              refine gj_iconst (v := 0) hO dX9_text_335 (by decide) ?_
              refine pt_X9_23 hO wk_731 dX9_text_336 ?_
              refine gj_aload_n hO 0 dX9_text_339 rfl rfl ?_
              refine gt_X9_25 hO wk_732 dX9_text_340 ?_
              refine gj_iconst (v := 0) hO dX9_text_343 (by decide) ?_
              refine gj_iconst (v := 0) hO dX9_text_344 (by decide) ?_
              obtain ⟨hb19, hf⟩ := gj_c hf
              refine gj_zast hO kl_201 kd_201 hb19 dX9_text_345 ?_
              obtain ⟨s20, e20, hf⟩ := gj_b hf
              refine gj_eqS (Option.some.inj e20) ?_
              refine gj_aload_n hO 0 dX9_text_346 rfl rfl ?_
              refine gt_X9_25 hO wk_732 dX9_text_347 ?_
              refine gj_iconst (v := 1) hO dX9_text_350 (by decide) ?_
              refine gj_iconst (v := 0) hO dX9_text_351 (by decide) ?_
              obtain ⟨hb21, hf⟩ := gj_c hf
              refine gj_zast hO kl_201 kd_201 hb21 dX9_text_352 ?_
              refine gj_aload_n hO 0 dX9_text_353 rfl rfl ?_
              refine gt_X9_11 hO wk_691 dX9_text_354 ?_
              refine gj_iconst (v := 0) hO dX9_text_357 (by decide) ?_
              obtain ⟨hb22, hf⟩ := gj_c hf
              refine gj_iald hO kl_190 kd_190 hb22 dX9_text_358 ?_
              replace hf := Option.some.inj hf
              simp only [Prod.mk.injEq] at hf
              obtain ⟨rfl, rfl⟩ := hf
              exact gj_iret hO dX9_text_359
            refine gj_sub (lv2 := [(0, gj_r 188), (2, gj_i (0 : Int32))]) [1, 0] rfl ?_
            exact gj_loop (head := fun a10213 => gj_G E X 3 (some (gj_i x)) y 213 [(0, gj_r 188), (2, gj_i a10213.1)] [] a10213.2) (exit := fun z16 => gj_G E X 3 (some (gj_i x)) y 319 [(0, gj_r 188)] [] z16) (fun a10213 x hf K => by obtain ⟨a10213_0, a10213_1⟩ := a10213; exact sb_X9_text_l213 hO hf K) _ _ _ hz16 J16
          refine gj_sub (lv2 := [(0, gj_r 188), (2, gj_i (0 : Int32))]) [1, 0] rfl ?_
          exact gj_loop (head := fun a10168 => gj_G E X 3 (some (gj_i x)) y 168 [(0, gj_r 188), (2, gj_i a10168.1)] [] a10168.2) (exit := fun z15 => gj_G E X 3 (some (gj_i x)) y 211 [(0, gj_r 188)] [] z15) (fun a10168 x hf K => by obtain ⟨a10168_0, a10168_1⟩ := a10168; exact sb_X9_text_l168 hO hf K) _ _ _ hz15 J15
        refine gj_sub (lv2 := [(0, gj_r 188), (2, gj_i (0 : Int32))]) [1, 0] rfl ?_
        exact gj_loop (head := fun a10139 => gj_G E X 3 (some (gj_i x)) y 139 [(0, gj_r 188), (2, gj_i a10139.1)] [] a10139.2) (exit := fun z14 => gj_G E X 3 (some (gj_i x)) y 166 [(0, gj_r 188)] [] z14) (fun a10139 x hf K => by obtain ⟨a10139_0, a10139_1⟩ := a10139; exact sb_X9_text_l139 hO hf K) _ _ _ hz14 J14
      · replace hf := gj_f h hf
        refine gj_bipush (v := (-2)) hO dX9_text_97 (by decide) ?_
        refine gj_bipush (v := 8) hO dX9_text_99 (by decide) ?_
        refine gj_aload_n hO 0 dX9_text_101 rfl rfl ?_
        refine gt_X9_10 hO wk_661 dX9_text_102 ?_
        refine gj_imul hO dX9_text_105 ?_
        refine gj_aload_n hO 0 dX9_text_106 rfl rfl ?_
        refine gt_X9_9 hO wk_660 dX9_text_107 ?_
        refine gj_iadd hO dX9_text_110 ?_
        refine gj_isub hO dX9_text_111 ?_
        replace hf := Option.some.inj hf
        simp only [Prod.mk.injEq] at hf
        obtain ⟨rfl, rfl⟩ := hf
        exact gj_iret hO dX9_text_112
    refine gj_sub (lv2 := [(0, gj_r 188)]) [0] rfl ?_
    exact gj_loop (head := fun a10069 => gj_G E X 3 (some (gj_i x)) y 69 [(0, gj_r 188)] [] a10069) (exit := fun z8 => gj_G E X 3 (some (gj_i x)) y 90 [(0, gj_r 188)] [] z8) (fun a10069 x hf K => sb_X9_text_l69 hO hf K) _ _ _ hz8 J8
  · replace hf := gj_t h hf
    refine gj_iconst (v := (-1)) hO dX9_text_19 (by decide) ?_
    replace hf := Option.some.inj hf
    simp only [Prod.mk.injEq] at hf
    obtain ⟨rfl, rfl⟩ := hf
    exact gj_iret hO dX9_text_20
set_option maxHeartbeats 4000000 in
set_option maxRecDepth 100000 in
theorem ca_X9_text {E : gj_E} {X : gj_X} {own : String} {cc : ByteArray} {nL : Nat} {rt : Option FieldType} {fr lo : Nat} {ce sl : Nat} {Q : State → Prop} {pc : Nat} {lv : List (Nat × gj_V)} {st : List gj_V} {σ : gj_S} (hO : gj_O E X own cc nL rt fr lo) (hw : gj_lt own 188) {b1 : Int32}  {idx : Nat} {x : Int32} {y : gj_S} (hf : f_X9_text b1 σ = some (x, y)) (hl : Cond.methodLink own idx yX9_text ∈ gj_gw) (hf1 : 12 ≤ fr) (hf2 : 254 ≤ lo) (hcat : ((st.map (gj_tv E.2.1)).map fun v => v.category).sum ≤ 8) (hd : decode cc pc = .ok (.invokevirtual idx, 3)) (k : gj_H E X nL ce sl Q (pc + 3) lv ((gj_i x) :: st) y) : gj_H E X nL ce sl Q pc lv (gj_i b1 :: gj_r 188 :: st) σ :=
  gj_callV hO (o := 188) (vs := [gj_i b1]) (m_X9_text  hf) (gj_I9 hw) hl wk_733 wk_734 wk_629 wk_735 hw kd_188 (by decide) (ci := 9) rfl (n := 1) (by decide +kernel) rfl hf1 hf2 rfl hcat hd k
