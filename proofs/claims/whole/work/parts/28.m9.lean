def f_X9_lackOf (b1 : Int32) (σ : gj_S) : Option Int32 := (if gj_in ((42 : Int32) + b1) 180 then (if (σ.1 198 (Int32.toNatClampNeg ((42 : Int32) + b1))) = 0 then (if gj_in (0 : Int32) 2 then (if gj_in (((50 : Int32) + (σ.1 191 (Int32.toNatClampNeg (0 : Int32)))) + b1) 180 then some (σ.1 198 (Int32.toNatClampNeg (((50 : Int32) + (σ.1 191 (Int32.toNatClampNeg (0 : Int32)))) + b1))) else none) else none) else some (0 : Int32)) else none)
set_option maxHeartbeats 4000000 in
set_option maxRecDepth 100000 in
theorem m_X9_lackOf {E : gj_E} {σ : gj_S} {b1 : Int32}  {x : Int32} (hf : f_X9_lackOf b1 σ = some x) : gj_M E yX9_lackOf cX9_lackOf 2 (some .int) 0 0 [gj_r 188, gj_i b1] σ (some (gj_i x)) σ := by
  refine gj_body (lv := [(0, gj_r 188), (1, gj_i b1)]) (by decide +kernel) (Nat.le_of_ble_eq_true rfl) rfl (fun X hO => ?_)
  replace hO : gj_O E X RX9 cX9_lackOf 2 (some .int) 0 0 := hO
  unfold f_X9_lackOf at hf
  refine gj_aload_n hO 0 dX9_lackOf_0 rfl rfl ?_
  refine gt_X9_21 hO wk_704 dX9_lackOf_1 ?_
  refine gj_bipush (v := 42) hO dX9_lackOf_4 (by decide) ?_
  refine gj_iload_n hO 1 dX9_lackOf_6 rfl rfl ?_
  refine gj_iadd hO dX9_lackOf_7 ?_
  obtain ⟨hb1, hf⟩ := gj_c hf
  refine gj_iald hO kl_198 kd_198 hb1 dX9_lackOf_8 ?_
  refine gj_if_ne (tgt := 31) hO dX9_lackOf_9 (by decide) (fun h => ?_) (fun h => ?_)
  · replace hf := gj_f h hf
    refine gj_iconst (v := 0) hO dX9_lackOf_31 (by decide) ?_
    obtain rfl := Option.some.inj hf
    exact gj_iret hO dX9_lackOf_32
  · replace hf := gj_t h hf
    refine gj_aload_n hO 0 dX9_lackOf_12 rfl rfl ?_
    refine gt_X9_21 hO wk_704 dX9_lackOf_13 ?_
    refine gj_bipush (v := 50) hO dX9_lackOf_16 (by decide) ?_
    refine gj_aload_n hO 0 dX9_lackOf_18 rfl rfl ?_
    refine gt_X9_12 hO wk_672 dX9_lackOf_19 ?_
    refine gj_iconst (v := 0) hO dX9_lackOf_22 (by decide) ?_
    obtain ⟨hb2, hf⟩ := gj_c hf
    refine gj_iald hO kl_191 kd_191 hb2 dX9_lackOf_23 ?_
    refine gj_iadd hO dX9_lackOf_24 ?_
    refine gj_iload_n hO 1 dX9_lackOf_25 rfl rfl ?_
    refine gj_iadd hO dX9_lackOf_26 ?_
    obtain ⟨hb3, hf⟩ := gj_c hf
    refine gj_iald hO kl_198 kd_198 hb3 dX9_lackOf_27 ?_
    refine gj_goto (tgt := 32) hO dX9_lackOf_28 (by decide) ?_
    obtain rfl := Option.some.inj hf
    exact gj_iret hO dX9_lackOf_32
set_option maxHeartbeats 4000000 in
set_option maxRecDepth 100000 in
theorem ca_X9_lackOf {E : gj_E} {X : gj_X} {own : String} {cc : ByteArray} {nL : Nat} {rt : Option FieldType} {fr lo : Nat} {r : Option gj_V} {τ : gj_S} {pc : Nat} {lv : List (Nat × gj_V)} {st : List gj_V} {σ : gj_S} (hO : gj_O E X own cc nL rt fr lo) {b1 : Int32}  {idx : Nat} {x : Int32} (hf : f_X9_lackOf b1 σ = some x) (hl : Cond.methodLink own idx yX9_lackOf ∈ gj_gw) (hf1 : 1 ≤ fr) (hf2 : 21 ≤ lo) (hcat : ((st.map (gj_tv E.2.1)).map fun v => v.category).sum ≤ 8) (hd : decode cc pc = .ok (.invokevirtual idx, 3)) (k : gj_G E X nL r τ (pc + 3) lv ((gj_i x) :: st) σ) : gj_G E X nL r τ pc lv (gj_i b1 :: gj_r 188 :: st) σ :=
  gj_callV hO (o := 188) (vs := [gj_i b1]) (m_X9_lackOf  hf) hl wk_780 wk_781 wk_607 wk_782 kl_188 kd_188 (by decide) (ci := 9) rfl (n := 1) (by decide +kernel) rfl hf1 hf2 rfl hcat hd k
def f_X9_stuckOf (b1 : Int32) (σ : gj_S) : Option Int32 := (if gj_in ((42 : Int32) + b1) 180 then (if (σ.1 198 (Int32.toNatClampNeg ((42 : Int32) + b1))) = (1 : Int32) then (if gj_in (0 : Int32) 2 then (if gj_in (((50 : Int32) + (σ.1 191 (Int32.toNatClampNeg (0 : Int32)))) + b1) 180 then some (σ.1 198 (Int32.toNatClampNeg (((50 : Int32) + (σ.1 191 (Int32.toNatClampNeg (0 : Int32)))) + b1))) else none) else none) else some (0 : Int32)) else none)
set_option maxHeartbeats 4000000 in
set_option maxRecDepth 100000 in
theorem m_X9_stuckOf {E : gj_E} {σ : gj_S} {b1 : Int32}  {x : Int32} (hf : f_X9_stuckOf b1 σ = some x) : gj_M E yX9_stuckOf cX9_stuckOf 2 (some .int) 0 0 [gj_r 188, gj_i b1] σ (some (gj_i x)) σ := by
  refine gj_body (lv := [(0, gj_r 188), (1, gj_i b1)]) (by decide +kernel) (Nat.le_of_ble_eq_true rfl) rfl (fun X hO => ?_)
  replace hO : gj_O E X RX9 cX9_stuckOf 2 (some .int) 0 0 := hO
  unfold f_X9_stuckOf at hf
  refine gj_aload_n hO 0 dX9_stuckOf_0 rfl rfl ?_
  refine gt_X9_21 hO wk_704 dX9_stuckOf_1 ?_
  refine gj_bipush (v := 42) hO dX9_stuckOf_4 (by decide) ?_
  refine gj_iload_n hO 1 dX9_stuckOf_6 rfl rfl ?_
  refine gj_iadd hO dX9_stuckOf_7 ?_
  obtain ⟨hb1, hf⟩ := gj_c hf
  refine gj_iald hO kl_198 kd_198 hb1 dX9_stuckOf_8 ?_
  refine gj_iconst (v := 1) hO dX9_stuckOf_9 (by decide) ?_
  refine gj_icmp_ne (tgt := 32) hO dX9_stuckOf_10 (by decide) (fun h => ?_) (fun h => ?_)
  · replace hf := gj_f h hf
    refine gj_iconst (v := 0) hO dX9_stuckOf_32 (by decide) ?_
    obtain rfl := Option.some.inj hf
    exact gj_iret hO dX9_stuckOf_33
  · replace hf := gj_t h hf
    refine gj_aload_n hO 0 dX9_stuckOf_13 rfl rfl ?_
    refine gt_X9_21 hO wk_704 dX9_stuckOf_14 ?_
    refine gj_bipush (v := 50) hO dX9_stuckOf_17 (by decide) ?_
    refine gj_aload_n hO 0 dX9_stuckOf_19 rfl rfl ?_
    refine gt_X9_12 hO wk_672 dX9_stuckOf_20 ?_
    refine gj_iconst (v := 0) hO dX9_stuckOf_23 (by decide) ?_
    obtain ⟨hb2, hf⟩ := gj_c hf
    refine gj_iald hO kl_191 kd_191 hb2 dX9_stuckOf_24 ?_
    refine gj_iadd hO dX9_stuckOf_25 ?_
    refine gj_iload_n hO 1 dX9_stuckOf_26 rfl rfl ?_
    refine gj_iadd hO dX9_stuckOf_27 ?_
    obtain ⟨hb3, hf⟩ := gj_c hf
    refine gj_iald hO kl_198 kd_198 hb3 dX9_stuckOf_28 ?_
    refine gj_goto (tgt := 33) hO dX9_stuckOf_29 (by decide) ?_
    obtain rfl := Option.some.inj hf
    exact gj_iret hO dX9_stuckOf_33
set_option maxHeartbeats 4000000 in
set_option maxRecDepth 100000 in
theorem ca_X9_stuckOf {E : gj_E} {X : gj_X} {own : String} {cc : ByteArray} {nL : Nat} {rt : Option FieldType} {fr lo : Nat} {r : Option gj_V} {τ : gj_S} {pc : Nat} {lv : List (Nat × gj_V)} {st : List gj_V} {σ : gj_S} (hO : gj_O E X own cc nL rt fr lo) {b1 : Int32}  {idx : Nat} {x : Int32} (hf : f_X9_stuckOf b1 σ = some x) (hl : Cond.methodLink own idx yX9_stuckOf ∈ gj_gw) (hf1 : 1 ≤ fr) (hf2 : 21 ≤ lo) (hcat : ((st.map (gj_tv E.2.1)).map fun v => v.category).sum ≤ 8) (hd : decode cc pc = .ok (.invokevirtual idx, 3)) (k : gj_G E X nL r τ (pc + 3) lv ((gj_i x) :: st) σ) : gj_G E X nL r τ pc lv (gj_i b1 :: gj_r 188 :: st) σ :=
  gj_callV hO (o := 188) (vs := [gj_i b1]) (m_X9_stuckOf  hf) hl wk_783 wk_784 wk_607 wk_785 kl_188 kd_188 (by decide) (ci := 9) rfl (n := 1) (by decide +kernel) rfl hf1 hf2 rfl hcat hd k
def f_X9_dock (b1 : Int32) (b2 : Int32) (σ : gj_S) : Option (Int32 × gj_S) := ((f_X9_isDock b1 σ).bind fun x1 => ((if x1 = 0 then some (1 : Int32) else ((f_X9_within (Int32.toInt64 b2) (0 : Int64) (6 : Int64)).bind fun x3 => (if x3 = 0 then some (1 : Int32) else some (0 : Int32))) : Option Int32).bind fun z2 => (if ((gj_sI σ 188 (upd (σ.1 188) 0 z2)).1 188 0) = (1 : Int32) then some ((0 : Int32), (gj_sI σ 188 (upd (σ.1 188) 0 z2))) else ((f_X9_laysTree (gj_sI σ 188 (upd (σ.1 188) 0 z2))).bind fun x4 => (if b2 = 0 then (if gj_in ((0 : Int32) + b1) 180 then some ((x4.1 198 (Int32.toNatClampNeg ((0 : Int32) + b1))), x4) else none) else (if b2 = 1 then (if gj_in b1 9 then some ((x4.1 205 (Int32.toNatClampNeg b1)), x4) else none) else (if b2 = 2 then (if gj_in b1 9 then some ((x4.1 204 (Int32.toNatClampNeg b1)), x4) else none) else (if b2 = 3 then (if gj_in b1 9 then some ((x4.1 203 (Int32.toNatClampNeg b1)), x4) else none) else (if b2 = 4 then ((f_X9_underOf b1 x4).bind fun x9 => some (x9, x4)) else (if b2 = 5 then ((f_X9_lackOf b1 x4).bind fun x10 => some (x10, x4)) else ((f_X9_stuckOf b1 x4).bind fun x11 => some (x11, x4))))))))))))
set_option maxHeartbeats 4000000 in
set_option maxRecDepth 100000 in
theorem m_X9_dock {E : gj_E} {σ : gj_S} {b1 : Int32} {b2 : Int32}  {x : (Int32 × gj_S)} (hf : f_X9_dock b1 b2 σ = some x) : gj_M E yX9_dock cX9_dock 3 (some .int) 3 67 [gj_r 188, gj_i b1, gj_i b2] σ (some (gj_i x.1)) x.2 := by
  refine gj_body (lv := [(0, gj_r 188), (1, gj_i b1), (2, gj_i b2)]) (by decide +kernel) (Nat.le_of_ble_eq_true rfl) rfl (fun X hO => ?_)
  replace hO : gj_O E X RX9 cX9_dock 3 (some .int) 3 67 := hO
  unfold f_X9_dock at hf
  refine gj_aload_n hO 0 dX9_dock_0 rfl rfl ?_
  refine gj_aload_n hO 0 dX9_dock_1 rfl rfl ?_
  refine gj_iload_n hO 1 dX9_dock_2 rfl rfl ?_
  obtain ⟨x1, hc1, hf⟩ := gj_b hf
  refine ca_X9_isDock hO  hc1 wk_786 (by decide) (by decide) (Nat.le_of_ble_eq_true rfl) dX9_dock_3 ?_
  obtain ⟨z2, hz2, hf⟩ := gj_b hf
  have J2 : gj_G E X 3 (some (gj_i x.1)) x.2 26 [(0, gj_r 188), (1, gj_i b1), (2, gj_i b2)] [gj_i z2, gj_r 188] σ := by
    refine pt_X9_0 hO wk_604 dX9_dock_26 ?_
    refine gj_aload_n hO 0 dX9_dock_29 rfl rfl ?_
    refine gt_X9_0 hO wk_604 dX9_dock_30 ?_
    refine gj_iconst (v := 1) hO dX9_dock_33 (by decide) ?_
    refine gj_icmp_ne (tgt := 39) hO dX9_dock_34 (by decide) (fun h => ?_) (fun h => ?_)
    · replace hf := gj_f h hf
      refine gj_aload_n hO 0 dX9_dock_39 rfl rfl ?_
      obtain ⟨x4, hc4, hf⟩ := gj_b hf
      refine ca_X9_laysTree hO  hc4 wk_771 (by decide) (by decide) (Nat.le_of_ble_eq_true rfl) dX9_dock_40 ?_
      refine gj_iload_n hO 2 dX9_dock_43 rfl rfl ?_
      by_cases hs0 : b2 = 0
      · replace hf := gj_t hs0 hf
        refine gj_tblAt 0 (tgt := 84) hO dX9_dock_44 hs0 (by decide) (by decide) rfl (by decide) ?_
        refine gj_aload_n hO 0 dX9_dock_84 rfl rfl ?_
        refine gt_X9_21 hO wk_704 dX9_dock_85 ?_
        refine gj_iconst (v := 0) hO dX9_dock_88 (by decide) ?_
        refine gj_iload_n hO 1 dX9_dock_89 rfl rfl ?_
        refine gj_iadd hO dX9_dock_90 ?_
        obtain ⟨hb5, hf⟩ := gj_c hf
        refine gj_iald hO kl_198 kd_198 hb5 dX9_dock_91 ?_
        obtain rfl := Option.some.inj hf
        exact gj_iret hO dX9_dock_92
      · replace hf := gj_f hs0 hf
        by_cases hs1 : b2 = 1
        · replace hf := gj_t hs1 hf
          refine gj_tblAt 1 (tgt := 93) hO dX9_dock_44 hs1 (by decide) (by decide) rfl (by decide) ?_
          refine gj_aload_n hO 0 dX9_dock_93 rfl rfl ?_
          refine gt_X9_29 hO wk_743 dX9_dock_94 ?_
          refine gj_iload_n hO 1 dX9_dock_97 rfl rfl ?_
          obtain ⟨hb6, hf⟩ := gj_c hf
          refine gj_iald hO kl_205 kd_205 hb6 dX9_dock_98 ?_
          obtain rfl := Option.some.inj hf
          exact gj_iret hO dX9_dock_99
        · replace hf := gj_f hs1 hf
          by_cases hs2 : b2 = 2
          · replace hf := gj_t hs2 hf
            refine gj_tblAt 2 (tgt := 100) hO dX9_dock_44 hs2 (by decide) (by decide) rfl (by decide) ?_
            refine gj_aload_n hO 0 dX9_dock_100 rfl rfl ?_
            refine gt_X9_28 hO wk_742 dX9_dock_101 ?_
            refine gj_iload_n hO 1 dX9_dock_104 rfl rfl ?_
            obtain ⟨hb7, hf⟩ := gj_c hf
            refine gj_iald hO kl_204 kd_204 hb7 dX9_dock_105 ?_
            obtain rfl := Option.some.inj hf
            exact gj_iret hO dX9_dock_106
          · replace hf := gj_f hs2 hf
            by_cases hs3 : b2 = 3
            · replace hf := gj_t hs3 hf
              refine gj_tblAt 3 (tgt := 107) hO dX9_dock_44 hs3 (by decide) (by decide) rfl (by decide) ?_
              refine gj_aload_n hO 0 dX9_dock_107 rfl rfl ?_
              refine gt_X9_27 hO wk_741 dX9_dock_108 ?_
              refine gj_iload_n hO 1 dX9_dock_111 rfl rfl ?_
              obtain ⟨hb8, hf⟩ := gj_c hf
              refine gj_iald hO kl_203 kd_203 hb8 dX9_dock_112 ?_
              obtain rfl := Option.some.inj hf
              exact gj_iret hO dX9_dock_113
            · replace hf := gj_f hs3 hf
              by_cases hs4 : b2 = 4
              · replace hf := gj_t hs4 hf
                refine gj_tblAt 4 (tgt := 114) hO dX9_dock_44 hs4 (by decide) (by decide) rfl (by decide) ?_
                refine gj_aload_n hO 0 dX9_dock_114 rfl rfl ?_
                refine gj_iload_n hO 1 dX9_dock_115 rfl rfl ?_
                obtain ⟨x9, hc9, hf⟩ := gj_b hf
                refine ca_X9_underOf hO  hc9 wk_788 (by decide) (by decide) (Nat.le_of_ble_eq_true rfl) dX9_dock_116 ?_
                obtain rfl := Option.some.inj hf
                exact gj_iret hO dX9_dock_119
              · replace hf := gj_f hs4 hf
                by_cases hs5 : b2 = 5
                · replace hf := gj_t hs5 hf
                  refine gj_tblAt 5 (tgt := 120) hO dX9_dock_44 hs5 (by decide) (by decide) rfl (by decide) ?_
                  refine gj_aload_n hO 0 dX9_dock_120 rfl rfl ?_
                  refine gj_iload_n hO 1 dX9_dock_121 rfl rfl ?_
                  obtain ⟨x10, hc10, hf⟩ := gj_b hf
                  refine ca_X9_lackOf hO  hc10 wk_789 (by decide) (by decide) (Nat.le_of_ble_eq_true rfl) dX9_dock_122 ?_
                  obtain rfl := Option.some.inj hf
                  exact gj_iret hO dX9_dock_125
                · replace hf := gj_f hs5 hf
                  refine gj_tblOut (tgt := 126) hO dX9_dock_44 (gj_out5 hs0 hs1 hs2 hs3 hs4 hs5) (by decide) ?_
                  refine gj_aload_n hO 0 dX9_dock_126 rfl rfl ?_
                  refine gj_iload_n hO 1 dX9_dock_127 rfl rfl ?_
                  obtain ⟨x11, hc11, hf⟩ := gj_b hf
                  refine ca_X9_stuckOf hO  hc11 wk_790 (by decide) (by decide) (Nat.le_of_ble_eq_true rfl) dX9_dock_128 ?_
                  obtain rfl := Option.some.inj hf
                  exact gj_iret hO dX9_dock_131
    · replace hf := gj_t h hf
      refine gj_iconst (v := 0) hO dX9_dock_37 (by decide) ?_
      obtain rfl := Option.some.inj hf
      exact gj_iret hO dX9_dock_38
  refine gj_if_eq (tgt := 25) hO dX9_dock_6 (by decide) (fun h => ?_) (fun h => ?_)
  · replace hz2 := gj_t h hz2
    refine gj_iconst (v := 1) hO dX9_dock_25 (by decide) ?_
    obtain rfl := Option.some.inj hz2
    refine gj_sub [0, 1, 2] rfl ?_
    exact J2
  · replace hz2 := gj_f h hz2
    refine gj_iload_n hO 2 dX9_dock_9 rfl rfl ?_
    refine gj_i2l hO dX9_dock_10 ?_
    refine gj_lconst (v := 0) hO dX9_dock_11 (by decide) ?_
    refine gj_ldc2 hO wk_787 dX9_dock_12 ?_
    obtain ⟨x3, hc3, hz2⟩ := gj_b hz2
    refine ca_X9_within hO  hc3 wk_632 (by decide) (by decide) (Nat.le_of_ble_eq_true rfl) dX9_dock_15 ?_
    refine gj_if_eq (tgt := 25) hO dX9_dock_18 (by decide) (fun h => ?_) (fun h => ?_)
    · replace hz2 := gj_t h hz2
      refine gj_iconst (v := 1) hO dX9_dock_25 (by decide) ?_
      obtain rfl := Option.some.inj hz2
      refine gj_sub [0, 1, 2] rfl ?_
      exact J2
    · replace hz2 := gj_f h hz2
      refine gj_iconst (v := 0) hO dX9_dock_21 (by decide) ?_
      refine gj_goto (tgt := 26) hO dX9_dock_22 (by decide) ?_
      obtain rfl := Option.some.inj hz2
      refine gj_sub [0, 1, 2] rfl ?_
      exact J2
set_option maxHeartbeats 4000000 in
set_option maxRecDepth 100000 in
theorem ca_X9_dock {E : gj_E} {X : gj_X} {own : String} {cc : ByteArray} {nL : Nat} {rt : Option FieldType} {fr lo : Nat} {r : Option gj_V} {τ : gj_S} {pc : Nat} {lv : List (Nat × gj_V)} {st : List gj_V} {σ : gj_S} (hO : gj_O E X own cc nL rt fr lo) {b1 : Int32} {b2 : Int32}  {idx : Nat} {x : (Int32 × gj_S)} (hf : f_X9_dock b1 b2 σ = some x) (hl : Cond.methodLink own idx yX9_dock ∈ gj_gw) (hf1 : 4 ≤ fr) (hf2 : 89 ≤ lo) (hcat : ((st.map (gj_tv E.2.1)).map fun v => v.category).sum ≤ 8) (hd : decode cc pc = .ok (.invokevirtual idx, 3)) (k : gj_G E X nL r τ (pc + 3) lv ((gj_i x.1) :: st) x.2) : gj_G E X nL r τ pc lv (gj_i b2 :: gj_i b1 :: gj_r 188 :: st) σ :=
  gj_callV hO (o := 188) (vs := [gj_i b1, gj_i b2]) (m_X9_dock  hf) hl wk_791 wk_792 wk_607 wk_793 kl_188 kd_188 (by decide) (ci := 9) rfl (n := 2) (by decide +kernel) rfl hf1 hf2 rfl hcat hd k
def f_X9_told (b0 : Int32) : Option Int32 := (if b0 = (8 : Int32) then some (-1 : Int32) else some b0)
set_option maxHeartbeats 4000000 in
set_option maxRecDepth 100000 in
theorem m_X9_told {E : gj_E} {σ : gj_S} {b0 : Int32}  {x : Int32} (hf : f_X9_told b0 = some x) : gj_M E yX9_told cX9_told 1 (some .int) 0 0 [gj_i b0] σ (some (gj_i x)) σ := by
  refine gj_body (lv := [(0, gj_i b0)]) (by decide +kernel) (Nat.le_of_ble_eq_true rfl) rfl (fun X hO => ?_)
  replace hO : gj_O E X RX9 cX9_told 1 (some .int) 0 0 := hO
  unfold f_X9_told at hf
  refine gj_iload_n hO 0 dX9_told_0 rfl rfl ?_
  refine gj_bipush (v := 8) hO dX9_told_1 (by decide) ?_
  refine gj_icmp_ne (tgt := 10) hO dX9_told_3 (by decide) (fun h => ?_) (fun h => ?_)
  · replace hf := gj_f h hf
    refine gj_iload_n hO 0 dX9_told_10 rfl rfl ?_
    obtain rfl := Option.some.inj hf
    exact gj_iret hO dX9_told_11
  · replace hf := gj_t h hf
    refine gj_iconst (v := (-1)) hO dX9_told_6 (by decide) ?_
    refine gj_goto (tgt := 11) hO dX9_told_7 (by decide) ?_
    obtain rfl := Option.some.inj hf
    exact gj_iret hO dX9_told_11
set_option maxHeartbeats 4000000 in
set_option maxRecDepth 100000 in
theorem ca_X9_told {E : gj_E} {X : gj_X} {own : String} {cc : ByteArray} {nL : Nat} {rt : Option FieldType} {fr lo : Nat} {r : Option gj_V} {τ : gj_S} {pc : Nat} {lv : List (Nat × gj_V)} {st : List gj_V} {σ : gj_S} (hO : gj_O E X own cc nL rt fr lo) {b0 : Int32}  {idx : Nat} {x : Int32} (hf : f_X9_told b0 = some x) (hl : Cond.methodLink own idx yX9_told ∈ gj_gw) (hf1 : 1 ≤ fr) (hf2 : 20 ≤ lo) (hcat : ((st.map (gj_tv E.2.1)).map fun v => v.category).sum ≤ 8) (hd : decode cc pc = .ok (.invokestatic idx, 3)) (k : gj_G E X nL r τ (pc + 3) lv ((gj_i x) :: st) σ) : gj_G E X nL r τ pc lv (gj_i b0 :: st) σ :=
  gj_callS hO (vs := [gj_i b0]) (m_X9_told (σ := σ)  hf) hl wk_794 wk_607 wk_795 (n := 1) (by decide +kernel) rfl hf1 hf2 rfl hcat hd k
def f_X9_way (b1 : Int32) (b2 : Int32) (σ : gj_S) : Option (Int32 × gj_S) := ((f_X9_isWay b1 σ).bind fun x1 => ((if x1 = 0 then some (1 : Int32) else ((f_X9_within (Int32.toInt64 b2) (0 : Int64) (6 : Int64)).bind fun x3 => (if x3 = 0 then some (1 : Int32) else some (0 : Int32))) : Option Int32).bind fun z2 => (if ((gj_sI σ 188 (upd (σ.1 188) 0 z2)).1 188 0) = (1 : Int32) then some ((0 : Int32), (gj_sI σ 188 (upd (σ.1 188) 0 z2))) else ((f_X9_laysTree (gj_sI σ 188 (upd (σ.1 188) 0 z2))).bind fun x4 => (if b2 = 0 then ((f_X9_beginOf b1 x4).bind fun x5 => ((f_X9_told x5).bind fun x6 => some (x6, x4))) else (if b2 = 1 then ((f_X9_endOf b1 x4).bind fun x7 => ((f_X9_told x7).bind fun x8 => some (x8, x4))) else (if b2 = 2 then ((f_X9_costOf b1 x4).bind fun x9 => some (x9, x4)) else (if b2 = 3 then (if gj_in (0 : Int32) 2 then (if (x4.1 191 (Int32.toNatClampNeg (0 : Int32))) ≤ b1 then some ((-1 : Int32), x4) else (if gj_in ((24 : Int32) + b1) 180 then some ((x4.1 198 (Int32.toNatClampNeg ((24 : Int32) + b1))), x4) else none)) else none) else (if b2 = 4 then (if gj_in ((50 : Int32) + b1) 180 then some ((x4.1 198 (Int32.toNatClampNeg ((50 : Int32) + b1))), x4) else none) else (if b2 = 5 then (if gj_in ((74 : Int32) + b1) 180 then some ((x4.1 198 (Int32.toNatClampNeg ((74 : Int32) + b1))), x4) else none) else ((f_X9_gainOf b1 x4).bind fun x14 => some (x14, x4))))))))))))
set_option maxHeartbeats 4000000 in
set_option maxRecDepth 100000 in
theorem m_X9_way {E : gj_E} {σ : gj_S} {b1 : Int32} {b2 : Int32}  {x : (Int32 × gj_S)} (hf : f_X9_way b1 b2 σ = some x) : gj_M E yX9_way cX9_way 3 (some .int) 2 48 [gj_r 188, gj_i b1, gj_i b2] σ (some (gj_i x.1)) x.2 := by
  refine gj_body (lv := [(0, gj_r 188), (1, gj_i b1), (2, gj_i b2)]) (by decide +kernel) (Nat.le_of_ble_eq_true rfl) rfl (fun X hO => ?_)
  replace hO : gj_O E X RX9 cX9_way 3 (some .int) 2 48 := hO
  unfold f_X9_way at hf
  refine gj_aload_n hO 0 dX9_way_0 rfl rfl ?_
  refine gj_aload_n hO 0 dX9_way_1 rfl rfl ?_
  refine gj_iload_n hO 1 dX9_way_2 rfl rfl ?_
  obtain ⟨x1, hc1, hf⟩ := gj_b hf
  refine ca_X9_isWay hO  hc1 wk_796 (by decide) (by decide) (Nat.le_of_ble_eq_true rfl) dX9_way_3 ?_
  obtain ⟨z2, hz2, hf⟩ := gj_b hf
  have J2 : gj_G E X 3 (some (gj_i x.1)) x.2 26 [(0, gj_r 188), (1, gj_i b1), (2, gj_i b2)] [gj_i z2, gj_r 188] σ := by
    refine pt_X9_0 hO wk_604 dX9_way_26 ?_
    refine gj_aload_n hO 0 dX9_way_29 rfl rfl ?_
    refine gt_X9_0 hO wk_604 dX9_way_30 ?_
    refine gj_iconst (v := 1) hO dX9_way_33 (by decide) ?_
    refine gj_icmp_ne (tgt := 39) hO dX9_way_34 (by decide) (fun h => ?_) (fun h => ?_)
    · replace hf := gj_f h hf
      refine gj_aload_n hO 0 dX9_way_39 rfl rfl ?_
      obtain ⟨x4, hc4, hf⟩ := gj_b hf
      refine ca_X9_laysTree hO  hc4 wk_771 (by decide) (by decide) (Nat.le_of_ble_eq_true rfl) dX9_way_40 ?_
      refine gj_iload_n hO 2 dX9_way_43 rfl rfl ?_
      by_cases hs0 : b2 = 0
      · replace hf := gj_t hs0 hf
        refine gj_tblAt 0 (tgt := 84) hO dX9_way_44 hs0 (by decide) (by decide) rfl (by decide) ?_
        refine gj_aload_n hO 0 dX9_way_84 rfl rfl ?_
        refine gj_iload_n hO 1 dX9_way_85 rfl rfl ?_
        obtain ⟨x5, hc5, hf⟩ := gj_b hf
        refine ca_X9_beginOf hO  hc5 wk_747 (by decide) (by decide) (Nat.le_of_ble_eq_true rfl) dX9_way_86 ?_
        obtain ⟨x6, hc6, hf⟩ := gj_b hf
        refine ca_X9_told hO  hc6 wk_797 (by decide) (by decide) (Nat.le_of_ble_eq_true rfl) dX9_way_89 ?_
        obtain rfl := Option.some.inj hf
        exact gj_iret hO dX9_way_92
      · replace hf := gj_f hs0 hf
        by_cases hs1 : b2 = 1
        · replace hf := gj_t hs1 hf
          refine gj_tblAt 1 (tgt := 93) hO dX9_way_44 hs1 (by decide) (by decide) rfl (by decide) ?_
          refine gj_aload_n hO 0 dX9_way_93 rfl rfl ?_
          refine gj_iload_n hO 1 dX9_way_94 rfl rfl ?_
          obtain ⟨x7, hc7, hf⟩ := gj_b hf
          refine ca_X9_endOf hO  hc7 wk_748 (by decide) (by decide) (Nat.le_of_ble_eq_true rfl) dX9_way_95 ?_
          obtain ⟨x8, hc8, hf⟩ := gj_b hf
          refine ca_X9_told hO  hc8 wk_797 (by decide) (by decide) (Nat.le_of_ble_eq_true rfl) dX9_way_98 ?_
          obtain rfl := Option.some.inj hf
          exact gj_iret hO dX9_way_101
        · replace hf := gj_f hs1 hf
          by_cases hs2 : b2 = 2
          · replace hf := gj_t hs2 hf
            refine gj_tblAt 2 (tgt := 102) hO dX9_way_44 hs2 (by decide) (by decide) rfl (by decide) ?_
            refine gj_aload_n hO 0 dX9_way_102 rfl rfl ?_
            refine gj_iload_n hO 1 dX9_way_103 rfl rfl ?_
            obtain ⟨x9, hc9, hf⟩ := gj_b hf
            refine ca_X9_costOf hO  hc9 wk_749 (by decide) (by decide) (Nat.le_of_ble_eq_true rfl) dX9_way_104 ?_
            obtain rfl := Option.some.inj hf
            exact gj_iret hO dX9_way_107
          · replace hf := gj_f hs2 hf
            by_cases hs3 : b2 = 3
            · replace hf := gj_t hs3 hf
              refine gj_tblAt 3 (tgt := 108) hO dX9_way_44 hs3 (by decide) (by decide) rfl (by decide) ?_
              refine gj_iload_n hO 1 dX9_way_108 rfl rfl ?_
              refine gj_aload_n hO 0 dX9_way_109 rfl rfl ?_
              refine gt_X9_12 hO wk_672 dX9_way_110 ?_
              refine gj_iconst (v := 0) hO dX9_way_113 (by decide) ?_
              obtain ⟨hb10, hf⟩ := gj_c hf
              refine gj_iald hO kl_191 kd_191 hb10 dX9_way_114 ?_
              refine gj_icmp_ge (tgt := 130) hO dX9_way_115 (by decide) (fun h => ?_) (fun h => ?_)
              · replace hf := gj_t h hf
                refine gj_iconst (v := (-1)) hO dX9_way_130 (by decide) ?_
                obtain rfl := Option.some.inj hf
                exact gj_iret hO dX9_way_131
              · replace hf := gj_f h hf
                refine gj_aload_n hO 0 dX9_way_118 rfl rfl ?_
                refine gt_X9_21 hO wk_704 dX9_way_119 ?_
                refine gj_bipush (v := 24) hO dX9_way_122 (by decide) ?_
                refine gj_iload_n hO 1 dX9_way_124 rfl rfl ?_
                refine gj_iadd hO dX9_way_125 ?_
                obtain ⟨hb11, hf⟩ := gj_c hf
                refine gj_iald hO kl_198 kd_198 hb11 dX9_way_126 ?_
                refine gj_goto (tgt := 131) hO dX9_way_127 (by decide) ?_
                obtain rfl := Option.some.inj hf
                exact gj_iret hO dX9_way_131
            · replace hf := gj_f hs3 hf
              by_cases hs4 : b2 = 4
              · replace hf := gj_t hs4 hf
                refine gj_tblAt 4 (tgt := 132) hO dX9_way_44 hs4 (by decide) (by decide) rfl (by decide) ?_
                refine gj_aload_n hO 0 dX9_way_132 rfl rfl ?_
                refine gt_X9_21 hO wk_704 dX9_way_133 ?_
                refine gj_bipush (v := 50) hO dX9_way_136 (by decide) ?_
                refine gj_iload_n hO 1 dX9_way_138 rfl rfl ?_
                refine gj_iadd hO dX9_way_139 ?_
                obtain ⟨hb12, hf⟩ := gj_c hf
                refine gj_iald hO kl_198 kd_198 hb12 dX9_way_140 ?_
                obtain rfl := Option.some.inj hf
                exact gj_iret hO dX9_way_141
              · replace hf := gj_f hs4 hf
                by_cases hs5 : b2 = 5
                · replace hf := gj_t hs5 hf
                  refine gj_tblAt 5 (tgt := 142) hO dX9_way_44 hs5 (by decide) (by decide) rfl (by decide) ?_
                  refine gj_aload_n hO 0 dX9_way_142 rfl rfl ?_
                  refine gt_X9_21 hO wk_704 dX9_way_143 ?_
                  refine gj_bipush (v := 74) hO dX9_way_146 (by decide) ?_
                  refine gj_iload_n hO 1 dX9_way_148 rfl rfl ?_
                  refine gj_iadd hO dX9_way_149 ?_
                  obtain ⟨hb13, hf⟩ := gj_c hf
                  refine gj_iald hO kl_198 kd_198 hb13 dX9_way_150 ?_
                  obtain rfl := Option.some.inj hf
                  exact gj_iret hO dX9_way_151
                · replace hf := gj_f hs5 hf
                  refine gj_tblOut (tgt := 152) hO dX9_way_44 (gj_out5 hs0 hs1 hs2 hs3 hs4 hs5) (by decide) ?_
                  refine gj_aload_n hO 0 dX9_way_152 rfl rfl ?_
                  refine gj_iload_n hO 1 dX9_way_153 rfl rfl ?_
                  obtain ⟨x14, hc14, hf⟩ := gj_b hf
                  refine ca_X9_gainOf hO  hc14 wk_763 (by decide) (by decide) (Nat.le_of_ble_eq_true rfl) dX9_way_154 ?_
                  obtain rfl := Option.some.inj hf
                  exact gj_iret hO dX9_way_157
    · replace hf := gj_t h hf
      refine gj_iconst (v := 0) hO dX9_way_37 (by decide) ?_
      obtain rfl := Option.some.inj hf
      exact gj_iret hO dX9_way_38
  refine gj_if_eq (tgt := 25) hO dX9_way_6 (by decide) (fun h => ?_) (fun h => ?_)
  · replace hz2 := gj_t h hz2
    refine gj_iconst (v := 1) hO dX9_way_25 (by decide) ?_
    obtain rfl := Option.some.inj hz2
    refine gj_sub [0, 1, 2] rfl ?_
    exact J2
  · replace hz2 := gj_f h hz2
    refine gj_iload_n hO 2 dX9_way_9 rfl rfl ?_
    refine gj_i2l hO dX9_way_10 ?_
    refine gj_lconst (v := 0) hO dX9_way_11 (by decide) ?_
    refine gj_ldc2 hO wk_787 dX9_way_12 ?_
    obtain ⟨x3, hc3, hz2⟩ := gj_b hz2
    refine ca_X9_within hO  hc3 wk_632 (by decide) (by decide) (Nat.le_of_ble_eq_true rfl) dX9_way_15 ?_
    refine gj_if_eq (tgt := 25) hO dX9_way_18 (by decide) (fun h => ?_) (fun h => ?_)
    · replace hz2 := gj_t h hz2
      refine gj_iconst (v := 1) hO dX9_way_25 (by decide) ?_
      obtain rfl := Option.some.inj hz2
      refine gj_sub [0, 1, 2] rfl ?_
      exact J2
    · replace hz2 := gj_f h hz2
      refine gj_iconst (v := 0) hO dX9_way_21 (by decide) ?_
      refine gj_goto (tgt := 26) hO dX9_way_22 (by decide) ?_
      obtain rfl := Option.some.inj hz2
      refine gj_sub [0, 1, 2] rfl ?_
      exact J2
set_option maxHeartbeats 4000000 in
set_option maxRecDepth 100000 in
theorem ca_X9_way {E : gj_E} {X : gj_X} {own : String} {cc : ByteArray} {nL : Nat} {rt : Option FieldType} {fr lo : Nat} {r : Option gj_V} {τ : gj_S} {pc : Nat} {lv : List (Nat × gj_V)} {st : List gj_V} {σ : gj_S} (hO : gj_O E X own cc nL rt fr lo) {b1 : Int32} {b2 : Int32}  {idx : Nat} {x : (Int32 × gj_S)} (hf : f_X9_way b1 b2 σ = some x) (hl : Cond.methodLink own idx yX9_way ∈ gj_gw) (hf1 : 3 ≤ fr) (hf2 : 70 ≤ lo) (hcat : ((st.map (gj_tv E.2.1)).map fun v => v.category).sum ≤ 8) (hd : decode cc pc = .ok (.invokevirtual idx, 3)) (k : gj_G E X nL r τ (pc + 3) lv ((gj_i x.1) :: st) x.2) : gj_G E X nL r τ pc lv (gj_i b2 :: gj_i b1 :: gj_r 188 :: st) σ :=
  gj_callV hO (o := 188) (vs := [gj_i b1, gj_i b2]) (m_X9_way  hf) hl wk_798 wk_799 wk_607 wk_800 kl_188 kd_188 (by decide) (ci := 9) rfl (n := 2) (by decide +kernel) rfl hf1 hf2 rfl hcat hd k
def fb_X9_ranked_l26 (b1 : Int32) (b2 : Int32) (σ : gj_S) (a5 : (Int32 × Int32)) : Option (Int32 ⊕ (Int32 × Int32)) := (if gj_in (0 : Int32) 2 then (if (σ.1 190 (Int32.toNatClampNeg (0 : Int32))) ≤ a5.2 then some (.inl a5.1) else (if gj_in a5.2 9 then (if gj_in b2 9 then (if (σ.1 205 (Int32.toNatClampNeg a5.2)) < (σ.1 205 (Int32.toNatClampNeg b2)) then some (.inr ((a5.1 + (1 : Int32)), (a5.2 + 1))) else (if gj_in a5.2 9 then (if gj_in b2 9 then (if (σ.1 205 (Int32.toNatClampNeg a5.2)) = (σ.1 205 (Int32.toNatClampNeg b2)) then (if b2 ≤ a5.2 then some (.inr ((a5.1 + (0 : Int32)), (a5.2 + 1))) else some (.inr ((a5.1 + (1 : Int32)), (a5.2 + 1)))) else some (.inr ((a5.1 + (0 : Int32)), (a5.2 + 1)))) else none) else none)) else none) else none)) else none)
def fb_X9_ranked_l11 (b1 : Int32) (σ : gj_S) (a2 : Int32) : Option (((Int32 × gj_S) ⊕ Unit) ⊕ Int32) := (if gj_in (0 : Int32) 2 then (if (σ.1 190 (Int32.toNatClampNeg (0 : Int32))) ≤ a2 then some (.inl (.inr ())) else ((gj_lp (fb_X9_ranked_l26 b1 a2 σ) 5000 ((0 : Int32), (0 : Int32))).bind fun z5 => (if z5 = b1 then some (.inl (.inl (a2, σ))) else some (.inr (a2 + 1))))) else none)
def f_X9_ranked (b1 : Int32) (σ : gj_S) : Option (Int32 × gj_S) := ((f_X9_laysTree (gj_sI σ 188 (upd (σ.1 188) 0 (0 : Int32)))).bind fun x1 => ((gj_lp (fb_X9_ranked_l11 b1 x1) 5000 (0 : Int32)).bind fun y2 => Sum.elim (fun q => some q) (fun z2 => some ((-1 : Int32), x1)) y2))
set_option maxHeartbeats 4000000 in
set_option maxRecDepth 100000 in
theorem sb_X9_ranked_l26 {E : gj_E} {X : gj_X} {r : Option gj_V} {τ : gj_S} (hO : gj_O E X RX9 cX9_ranked 5 (some .int) 2 48) {b1 : Int32} {b2 : Int32} {σ : gj_S} {a5 : (Int32 × Int32)} {x : Int32 ⊕ (Int32 × Int32)} (hf : fb_X9_ranked_l26 b1 b2 σ a5 = some x) (K : gj_K (fun z5 => gj_G E X 5 r τ 89 [(0, gj_r 188), (1, gj_i b1), (2, gj_i b2), (3, gj_i z5)] [] σ) (fun a5 => gj_G E X 5 r τ 26 [(0, gj_r 188), (1, gj_i b1), (2, gj_i b2), (3, gj_i a5.1), (4, gj_i a5.2)] [] σ) x) : gj_G E X 5 r τ 26 [(0, gj_r 188), (1, gj_i b1), (2, gj_i b2), (3, gj_i a5.1), (4, gj_i a5.2)] [] σ := by
  unfold fb_X9_ranked_l26 at hf
  refine gj_iload hO 4 dX9_ranked_26 rfl ?_
  refine gj_aload_n hO 0 dX9_ranked_28 rfl rfl ?_
  refine gt_X9_11 hO wk_670 dX9_ranked_29 ?_
  refine gj_iconst (v := 0) hO dX9_ranked_32 (by decide) ?_
  obtain ⟨hb7, hf⟩ := gj_c hf
  refine gj_iald hO kl_190 kd_190 hb7 dX9_ranked_33 ?_
  refine gj_icmp_ge (tgt := 89) hO dX9_ranked_34 (by decide) (fun h => ?_) (fun h => ?_)
  · replace hf := gj_t h hf
    obtain rfl := Option.some.inj hf
    refine gj_sub [0, 1, 2, 3] rfl ?_
    exact K
  · replace hf := gj_f h hf
    refine gj_iload_n hO 3 dX9_ranked_37 rfl rfl ?_
    refine gj_aload_n hO 0 dX9_ranked_38 rfl rfl ?_
    refine gt_X9_29 hO wk_743 dX9_ranked_39 ?_
    refine gj_iload hO 4 dX9_ranked_42 rfl ?_
    obtain ⟨hb8, hf⟩ := gj_c hf
    refine gj_iald hO kl_205 kd_205 hb8 dX9_ranked_44 ?_
    refine gj_aload_n hO 0 dX9_ranked_45 rfl rfl ?_
    refine gt_X9_29 hO wk_743 dX9_ranked_46 ?_
    refine gj_iload_n hO 2 dX9_ranked_49 rfl rfl ?_
    obtain ⟨hb9, hf⟩ := gj_c hf
    refine gj_iald hO kl_205 kd_205 hb9 dX9_ranked_50 ?_
    refine gj_icmp_lt (tgt := 76) hO dX9_ranked_51 (by decide) (fun h => ?_) (fun h => ?_)
    · replace hf := gj_t h hf
      refine gj_iconst (v := 1) hO dX9_ranked_76 (by decide) ?_
      refine gj_goto (tgt := 81) hO dX9_ranked_77 (by decide) ?_
      refine gj_iadd hO dX9_ranked_81 ?_
      refine gj_istore_n (lv2 := [(3, gj_i (a5.1 + (1 : Int32))), (0, gj_r 188), (1, gj_i b1), (2, gj_i b2), (4, gj_i a5.2)]) hO dX9_ranked_82 rfl (by decide) rfl ?_
      refine gj_iinc (v := (a5.2 + 1)) (lv2 := [(4, gj_i (a5.2 + 1)), (3, gj_i (a5.1 + (1 : Int32))), (0, gj_r 188), (1, gj_i b1), (2, gj_i b2)]) hO 4 dX9_ranked_83 rfl rfl (by decide) rfl ?_
      refine gj_goto (tgt := 26) hO dX9_ranked_86 (by decide) ?_
      obtain rfl := Option.some.inj hf
      refine gj_sub [2, 3, 4, 1, 0] rfl ?_
      exact K
    · replace hf := gj_f h hf
      refine gj_aload_n hO 0 dX9_ranked_54 rfl rfl ?_
      refine gt_X9_29 hO wk_743 dX9_ranked_55 ?_
      refine gj_iload hO 4 dX9_ranked_58 rfl ?_
      obtain ⟨hb10, hf⟩ := gj_c hf
      refine gj_iald hO kl_205 kd_205 hb10 dX9_ranked_60 ?_
      refine gj_aload_n hO 0 dX9_ranked_61 rfl rfl ?_
      refine gt_X9_29 hO wk_743 dX9_ranked_62 ?_
      refine gj_iload_n hO 2 dX9_ranked_65 rfl rfl ?_
      obtain ⟨hb11, hf⟩ := gj_c hf
      refine gj_iald hO kl_205 kd_205 hb11 dX9_ranked_66 ?_
      refine gj_icmp_ne (tgt := 80) hO dX9_ranked_67 (by decide) (fun h => ?_) (fun h => ?_)
      · replace hf := gj_f h hf
        refine gj_iconst (v := 0) hO dX9_ranked_80 (by decide) ?_
        refine gj_iadd hO dX9_ranked_81 ?_
        refine gj_istore_n (lv2 := [(3, gj_i (a5.1 + (0 : Int32))), (0, gj_r 188), (1, gj_i b1), (2, gj_i b2), (4, gj_i a5.2)]) hO dX9_ranked_82 rfl (by decide) rfl ?_
        refine gj_iinc (v := (a5.2 + 1)) (lv2 := [(4, gj_i (a5.2 + 1)), (3, gj_i (a5.1 + (0 : Int32))), (0, gj_r 188), (1, gj_i b1), (2, gj_i b2)]) hO 4 dX9_ranked_83 rfl rfl (by decide) rfl ?_
        refine gj_goto (tgt := 26) hO dX9_ranked_86 (by decide) ?_
        obtain rfl := Option.some.inj hf
        refine gj_sub [2, 3, 4, 1, 0] rfl ?_
        exact K
      · replace hf := gj_t h hf
        refine gj_iload hO 4 dX9_ranked_70 rfl ?_
        refine gj_iload_n hO 2 dX9_ranked_72 rfl rfl ?_
        refine gj_icmp_ge (tgt := 80) hO dX9_ranked_73 (by decide) (fun h => ?_) (fun h => ?_)
        · replace hf := gj_t h hf
          refine gj_iconst (v := 0) hO dX9_ranked_80 (by decide) ?_
          refine gj_iadd hO dX9_ranked_81 ?_
          refine gj_istore_n (lv2 := [(3, gj_i (a5.1 + (0 : Int32))), (0, gj_r 188), (1, gj_i b1), (2, gj_i b2), (4, gj_i a5.2)]) hO dX9_ranked_82 rfl (by decide) rfl ?_
          refine gj_iinc (v := (a5.2 + 1)) (lv2 := [(4, gj_i (a5.2 + 1)), (3, gj_i (a5.1 + (0 : Int32))), (0, gj_r 188), (1, gj_i b1), (2, gj_i b2)]) hO 4 dX9_ranked_83 rfl rfl (by decide) rfl ?_
          refine gj_goto (tgt := 26) hO dX9_ranked_86 (by decide) ?_
          obtain rfl := Option.some.inj hf
          refine gj_sub [2, 3, 4, 1, 0] rfl ?_
          exact K
        · replace hf := gj_f h hf
          refine gj_iconst (v := 1) hO dX9_ranked_76 (by decide) ?_
          refine gj_goto (tgt := 81) hO dX9_ranked_77 (by decide) ?_
          refine gj_iadd hO dX9_ranked_81 ?_
          refine gj_istore_n (lv2 := [(3, gj_i (a5.1 + (1 : Int32))), (0, gj_r 188), (1, gj_i b1), (2, gj_i b2), (4, gj_i a5.2)]) hO dX9_ranked_82 rfl (by decide) rfl ?_
          refine gj_iinc (v := (a5.2 + 1)) (lv2 := [(4, gj_i (a5.2 + 1)), (3, gj_i (a5.1 + (1 : Int32))), (0, gj_r 188), (1, gj_i b1), (2, gj_i b2)]) hO 4 dX9_ranked_83 rfl rfl (by decide) rfl ?_
          refine gj_goto (tgt := 26) hO dX9_ranked_86 (by decide) ?_
          obtain rfl := Option.some.inj hf
          refine gj_sub [2, 3, 4, 1, 0] rfl ?_
          exact K
set_option maxHeartbeats 4000000 in
set_option maxRecDepth 100000 in
theorem sb_X9_ranked_l11 {E : gj_E} {X : gj_X} {r : Option gj_V} {τ : gj_S} (hO : gj_O E X RX9 cX9_ranked 5 (some .int) 2 48) {b1 : Int32} {σ : gj_S} {a2 : Int32} {x : ((Int32 × gj_S) ⊕ Unit) ⊕ Int32} (hf : fb_X9_ranked_l11 b1 σ a2 = some x) (K : gj_K (fun y2 => gj_K (fun q => r = (some (gj_i q.1)) ∧ τ = q.2) (fun z2 => gj_G E X 5 r τ 102 [] [] σ) y2) (fun a2 => gj_G E X 5 r τ 11 [(0, gj_r 188), (1, gj_i b1), (2, gj_i a2)] [] σ) x) : gj_G E X 5 r τ 11 [(0, gj_r 188), (1, gj_i b1), (2, gj_i a2)] [] σ := by
  unfold fb_X9_ranked_l11 at hf
  refine gj_iload_n hO 2 dX9_ranked_11 rfl rfl ?_
  refine gj_aload_n hO 0 dX9_ranked_12 rfl rfl ?_
  refine gt_X9_11 hO wk_670 dX9_ranked_13 ?_
  refine gj_iconst (v := 0) hO dX9_ranked_16 (by decide) ?_
  obtain ⟨hb4, hf⟩ := gj_c hf
  refine gj_iald hO kl_190 kd_190 hb4 dX9_ranked_17 ?_
  refine gj_icmp_ge (tgt := 102) hO dX9_ranked_18 (by decide) (fun h => ?_) (fun h => ?_)
  · replace hf := gj_t h hf
    obtain rfl := Option.some.inj hf
    refine gj_sub [] rfl ?_
    exact K
  · replace hf := gj_f h hf
    refine gj_iconst (v := 0) hO dX9_ranked_21 (by decide) ?_
    refine gj_istore_n (lv2 := [(3, gj_i (0 : Int32)), (0, gj_r 188), (1, gj_i b1), (2, gj_i a2)]) hO dX9_ranked_22 rfl (by decide) rfl ?_
    refine gj_iconst (v := 0) hO dX9_ranked_23 (by decide) ?_
    refine gj_istore (lv2 := [(4, gj_i (0 : Int32)), (3, gj_i (0 : Int32)), (0, gj_r 188), (1, gj_i b1), (2, gj_i a2)]) hO dX9_ranked_24 (by decide) rfl ?_
    obtain ⟨z5, hz5, hf⟩ := gj_b hf
    have J5 : gj_G E X 5 r τ 89 [(0, gj_r 188), (1, gj_i b1), (2, gj_i a2), (3, gj_i z5)] [] σ := by
      refine gj_iload_n hO 3 dX9_ranked_89 rfl rfl ?_
      refine gj_iload_n hO 1 dX9_ranked_90 rfl rfl ?_
      refine gj_icmp_ne (tgt := 96) hO dX9_ranked_91 (by decide) (fun h => ?_) (fun h => ?_)
      · replace hf := gj_f h hf
        refine gj_iinc (v := (a2 + 1)) (lv2 := [(2, gj_i (a2 + 1)), (0, gj_r 188), (1, gj_i b1), (3, gj_i z5)]) hO 2 dX9_ranked_96 rfl rfl (by decide) rfl ?_
        refine gj_goto (tgt := 11) hO dX9_ranked_99 (by decide) ?_
        obtain rfl := Option.some.inj hf
        refine gj_sub [1, 2, 0] rfl ?_
        exact K
      · replace hf := gj_t h hf
        refine gj_iload_n hO 2 dX9_ranked_94 rfl rfl ?_
        obtain rfl := Option.some.inj hf
        obtain ⟨rfl, rfl⟩ := K
        exact gj_iret hO dX9_ranked_95
    refine gj_sub [2, 3, 4, 1, 0] rfl ?_
    exact gj_loop (head := fun a5 => gj_G E X 5 r τ 26 [(0, gj_r 188), (1, gj_i b1), (2, gj_i a2), (3, gj_i a5.1), (4, gj_i a5.2)] [] σ) (exit := fun z5 => gj_G E X 5 r τ 89 [(0, gj_r 188), (1, gj_i b1), (2, gj_i a2), (3, gj_i z5)] [] σ) (fun a5 x hf K => sb_X9_ranked_l26 hO hf K) _ _ _ hz5 J5
set_option maxHeartbeats 4000000 in
set_option maxRecDepth 100000 in
theorem m_X9_ranked {E : gj_E} {σ : gj_S} {b1 : Int32}  {x : (Int32 × gj_S)} (hf : f_X9_ranked b1 σ = some x) : gj_M E yX9_ranked cX9_ranked 5 (some .int) 2 48 [gj_r 188, gj_i b1] σ (some (gj_i x.1)) x.2 := by
  refine gj_body (lv := [(0, gj_r 188), (1, gj_i b1)]) (by decide +kernel) (Nat.le_of_ble_eq_true rfl) rfl (fun X hO => ?_)
  replace hO : gj_O E X RX9 cX9_ranked 5 (some .int) 2 48 := hO
  unfold f_X9_ranked at hf
  refine gj_aload_n hO 0 dX9_ranked_0 rfl rfl ?_
  refine gj_iconst (v := 0) hO dX9_ranked_1 (by decide) ?_
  refine pt_X9_0 hO wk_604 dX9_ranked_2 ?_
  refine gj_aload_n hO 0 dX9_ranked_5 rfl rfl ?_
  obtain ⟨x1, hc1, hf⟩ := gj_b hf
  refine ca_X9_laysTree hO  hc1 wk_771 (by decide) (by decide) (Nat.le_of_ble_eq_true rfl) dX9_ranked_6 ?_
  refine gj_iconst (v := 0) hO dX9_ranked_9 (by decide) ?_
  refine gj_istore_n (lv2 := [(2, gj_i (0 : Int32)), (0, gj_r 188), (1, gj_i b1)]) hO dX9_ranked_10 rfl (by decide) rfl ?_
  obtain ⟨y2, hz2, hf⟩ := gj_b hf
  have J2 : (fun y2 => gj_K (fun q => (some (gj_i x.1)) = (some (gj_i q.1)) ∧ x.2 = q.2) (fun z2 => gj_G E X 5 (some (gj_i x.1)) x.2 102 [] [] x1) y2) y2 := by
    rcases y2 with q | z2
    · have hf : some q = some x := hf
      obtain rfl := Option.some.inj hf
      exact ⟨rfl, rfl⟩
    · refine gj_iconst (v := (-1)) hO dX9_ranked_102 (by decide) ?_
      obtain rfl := Option.some.inj hf
      exact gj_iret hO dX9_ranked_103
  refine gj_sub [1, 2, 0] rfl ?_
  exact gj_loop (head := fun a2 => gj_G E X 5 (some (gj_i x.1)) x.2 11 [(0, gj_r 188), (1, gj_i b1), (2, gj_i a2)] [] x1) (exit := fun y2 => gj_K (fun q => (some (gj_i x.1)) = (some (gj_i q.1)) ∧ x.2 = q.2) (fun z2 => gj_G E X 5 (some (gj_i x.1)) x.2 102 [] [] x1) y2) (fun a2 x hf K => sb_X9_ranked_l11 hO hf K) _ _ _ hz2 J2
set_option maxHeartbeats 4000000 in
set_option maxRecDepth 100000 in
theorem ca_X9_ranked {E : gj_E} {X : gj_X} {own : String} {cc : ByteArray} {nL : Nat} {rt : Option FieldType} {fr lo : Nat} {r : Option gj_V} {τ : gj_S} {pc : Nat} {lv : List (Nat × gj_V)} {st : List gj_V} {σ : gj_S} (hO : gj_O E X own cc nL rt fr lo) {b1 : Int32}  {idx : Nat} {x : (Int32 × gj_S)} (hf : f_X9_ranked b1 σ = some x) (hl : Cond.methodLink own idx yX9_ranked ∈ gj_gw) (hf1 : 3 ≤ fr) (hf2 : 72 ≤ lo) (hcat : ((st.map (gj_tv E.2.1)).map fun v => v.category).sum ≤ 8) (hd : decode cc pc = .ok (.invokevirtual idx, 3)) (k : gj_G E X nL r τ (pc + 3) lv ((gj_i x.1) :: st) x.2) : gj_G E X nL r τ pc lv (gj_i b1 :: gj_r 188 :: st) σ :=
  gj_callV hO (o := 188) (vs := [gj_i b1]) (m_X9_ranked  hf) hl wk_801 wk_802 wk_607 wk_803 kl_188 kd_188 (by decide) (ci := 9) rfl (n := 1) (by decide +kernel) rfl hf1 hf2 rfl hcat hd k
def f_X9_sizeOf (b0 : Int32) : Option Int32 := (if 0 ≤ b0 then some b0 else some (0 - b0))
set_option maxHeartbeats 4000000 in
set_option maxRecDepth 100000 in
theorem m_X9_sizeOf {E : gj_E} {σ : gj_S} {b0 : Int32}  {x : Int32} (hf : f_X9_sizeOf b0 = some x) : gj_M E yX9_sizeOf cX9_sizeOf 1 (some .int) 0 0 [gj_i b0] σ (some (gj_i x)) σ := by
  refine gj_body (lv := [(0, gj_i b0)]) (by decide +kernel) (Nat.le_of_ble_eq_true rfl) rfl (fun X hO => ?_)
  replace hO : gj_O E X RX9 cX9_sizeOf 1 (some .int) 0 0 := hO
  unfold f_X9_sizeOf at hf
  refine gj_iload_n hO 0 dX9_sizeOf_0 rfl rfl ?_
  refine gj_if_ge (tgt := 9) hO dX9_sizeOf_1 (by decide) (fun h => ?_) (fun h => ?_)
  · replace hf := gj_t h hf
    refine gj_iload_n hO 0 dX9_sizeOf_9 rfl rfl ?_
    obtain rfl := Option.some.inj hf
    exact gj_iret hO dX9_sizeOf_10
  · replace hf := gj_f h hf
    refine gj_iload_n hO 0 dX9_sizeOf_4 rfl rfl ?_
    refine gj_ineg hO dX9_sizeOf_5 ?_
    refine gj_goto (tgt := 10) hO dX9_sizeOf_6 (by decide) ?_
    obtain rfl := Option.some.inj hf
    exact gj_iret hO dX9_sizeOf_10
set_option maxHeartbeats 4000000 in
set_option maxRecDepth 100000 in
theorem ca_X9_sizeOf {E : gj_E} {X : gj_X} {own : String} {cc : ByteArray} {nL : Nat} {rt : Option FieldType} {fr lo : Nat} {r : Option gj_V} {τ : gj_S} {pc : Nat} {lv : List (Nat × gj_V)} {st : List gj_V} {σ : gj_S} (hO : gj_O E X own cc nL rt fr lo) {b0 : Int32}  {idx : Nat} {x : Int32} (hf : f_X9_sizeOf b0 = some x) (hl : Cond.methodLink own idx yX9_sizeOf ∈ gj_gw) (hf1 : 1 ≤ fr) (hf2 : 20 ≤ lo) (hcat : ((st.map (gj_tv E.2.1)).map fun v => v.category).sum ≤ 8) (hd : decode cc pc = .ok (.invokestatic idx, 3)) (k : gj_G E X nL r τ (pc + 3) lv ((gj_i x) :: st) σ) : gj_G E X nL r τ pc lv (gj_i b0 :: st) σ :=
  gj_callS hO (vs := [gj_i b0]) (m_X9_sizeOf (σ := σ)  hf) hl wk_804 wk_607 wk_805 (n := 1) (by decide +kernel) rfl hf1 hf2 rfl hcat hd k
def fb_X9_entering_l28 (σ : gj_S) (a5 : (Int32 × Int32 × Int32 × Int32)) : Option ((Int32 × Int32 × Int32) ⊕ (Int32 × Int32 × Int32 × Int32)) := (if gj_in (40 : Int32) 180 then (if (σ.1 198 (Int32.toNatClampNeg (40 : Int32))) ≤ a5.2.2.2 then some (.inl (a5.1, a5.2.1, a5.2.2.1)) else ((f_X9_ways σ).bind fun x8 => (if x8 ≤ a5.2.1 then some (.inl (a5.1, a5.2.1, a5.2.2.1)) else ((f_X9_isGood a5.2.2.1 σ).bind fun x9 => ((if x9 = 0 then some a5.1 else (if a5.1 = (-1 : Int32) then some a5.2.2.1 else ((f_X9_gainOf a5.2.2.1 σ).bind fun x11 => ((f_X9_sizeOf x11).bind fun x12 => ((f_X9_gainOf a5.1 σ).bind fun x13 => ((f_X9_sizeOf x13).bind fun x14 => (if x12 ≤ x14 then some a5.1 else some a5.2.2.1)))))) : Option Int32).bind fun z10 => ((f_X9_ways σ).bind fun x15 => (if (a5.2.2.1 + (1 : Int32)) = x15 then some (.inr (z10, (a5.2.1 + 1), (0 : Int32), (a5.2.2.2 + 1))) else some (.inr (z10, (a5.2.1 + 1), (a5.2.2.1 + (1 : Int32)), (a5.2.2.2 + 1)))))))))) else none)
def fb_X9_entering_l12 (σ : gj_S) (a2 : (Int32 × Int32 × Int32)) : Option ((Int32 × Int32) ⊕ (Int32 × Int32 × Int32)) := ((f_X9_ways σ).bind fun x4 => (if x4 ≤ a2.2.1 then some (.inl (a2.1, a2.2.2)) else (if a2.1 = (-1 : Int32) then ((gj_lp (fb_X9_entering_l28 σ) 5000 (a2.1, a2.2.1, a2.2.2, (0 : Int32))).bind fun z5 => some (.inr (z5.1, z5.2.1, z5.2.2))) else some (.inl (a2.1, a2.2.2)))))
def f_X9_entering  (σ : gj_S) : Option (Int32 × gj_S) := (if gj_in (41 : Int32) 180 then ((gj_lp (fb_X9_entering_l12 σ) 5000 ((-1 : Int32), (0 : Int32), (σ.1 198 (Int32.toNatClampNeg (41 : Int32))))).bind fun z2 => some (z2.1, (gj_sI σ 188 (upd (σ.1 188) 30 z2.2)))) else none)
set_option maxHeartbeats 4000000 in
set_option maxRecDepth 100000 in
theorem sb_X9_entering_l28 {E : gj_E} {X : gj_X} {r : Option gj_V} {τ : gj_S} (hO : gj_O E X RX9 cX9_entering 5 (some .int) 3 64) {σ : gj_S} {a5 : (Int32 × Int32 × Int32 × Int32)} {x : (Int32 × Int32 × Int32) ⊕ (Int32 × Int32 × Int32 × Int32)} (hf : fb_X9_entering_l28 σ a5 = some x) (K : gj_K (fun z5 => gj_G E X 5 r τ 109 [(0, gj_r 188), (1, gj_i z5.1), (2, gj_i z5.2.1), (3, gj_i z5.2.2)] [] σ) (fun a5 => gj_G E X 5 r τ 28 [(0, gj_r 188), (1, gj_i a5.1), (2, gj_i a5.2.1), (3, gj_i a5.2.2.1), (4, gj_i a5.2.2.2)] [] σ) x) : gj_G E X 5 r τ 28 [(0, gj_r 188), (1, gj_i a5.1), (2, gj_i a5.2.1), (3, gj_i a5.2.2.1), (4, gj_i a5.2.2.2)] [] σ := by
  unfold fb_X9_entering_l28 at hf
  refine gj_iload hO 4 dX9_entering_28 rfl ?_
  refine gj_aload_n hO 0 dX9_entering_30 rfl rfl ?_
  refine gt_X9_21 hO wk_704 dX9_entering_31 ?_
  refine gj_bipush (v := 40) hO dX9_entering_34 (by decide) ?_
  obtain ⟨hb7, hf⟩ := gj_c hf
  refine gj_iald hO kl_198 kd_198 hb7 dX9_entering_36 ?_
  refine gj_icmp_ge (tgt := 109) hO dX9_entering_37 (by decide) (fun h => ?_) (fun h => ?_)
  · replace hf := gj_t h hf
    obtain rfl := Option.some.inj hf
    refine gj_sub [0, 1, 2, 3] rfl ?_
    exact K
  · replace hf := gj_f h hf
    refine gj_iload_n hO 2 dX9_entering_40 rfl rfl ?_
    refine gj_aload_n hO 0 dX9_entering_41 rfl rfl ?_
    obtain ⟨x8, hc8, hf⟩ := gj_b hf
    refine ca_X9_ways hO  hc8 wk_724 (by decide) (by decide) (Nat.le_of_ble_eq_true rfl) dX9_entering_42 ?_
    refine gj_icmp_ge (tgt := 109) hO dX9_entering_45 (by decide) (fun h => ?_) (fun h => ?_)
    · replace hf := gj_t h hf
      obtain rfl := Option.some.inj hf
      refine gj_sub [0, 1, 2, 3] rfl ?_
      exact K
    · replace hf := gj_f h hf
      refine gj_aload_n hO 0 dX9_entering_48 rfl rfl ?_
      refine gj_iload_n hO 3 dX9_entering_49 rfl rfl ?_
      obtain ⟨x9, hc9, hf⟩ := gj_b hf
      refine ca_X9_isGood hO  hc9 wk_767 (by decide) (by decide) (Nat.le_of_ble_eq_true rfl) dX9_entering_50 ?_
      obtain ⟨z10, hz10, hf⟩ := gj_b hf
      have J10 : gj_G E X 5 r τ 82 [(0, gj_r 188), (1, gj_i z10), (2, gj_i a5.2.1), (3, gj_i a5.2.2.1), (4, gj_i a5.2.2.2)] [] σ := by
        refine gj_iload_n hO 3 dX9_entering_82 rfl rfl ?_
        refine gj_iconst (v := 1) hO dX9_entering_83 (by decide) ?_
        refine gj_iadd hO dX9_entering_84 ?_
        refine gj_aload_n hO 0 dX9_entering_85 rfl rfl ?_
        obtain ⟨x15, hc15, hf⟩ := gj_b hf
        refine ca_X9_ways hO  hc15 wk_724 (by decide) (by decide) (Nat.le_of_ble_eq_true rfl) dX9_entering_86 ?_
        refine gj_icmp_ne (tgt := 96) hO dX9_entering_89 (by decide) (fun h => ?_) (fun h => ?_)
        · replace hf := gj_f h hf
          refine gj_iload_n hO 3 dX9_entering_96 rfl rfl ?_
          refine gj_iconst (v := 1) hO dX9_entering_97 (by decide) ?_
          refine gj_iadd hO dX9_entering_98 ?_
          refine gj_istore_n (lv2 := [(3, gj_i (a5.2.2.1 + (1 : Int32))), (0, gj_r 188), (1, gj_i z10), (2, gj_i a5.2.1), (4, gj_i a5.2.2.2)]) hO dX9_entering_99 rfl (by decide) rfl ?_
          refine gj_iinc (v := (a5.2.1 + 1)) (lv2 := [(2, gj_i (a5.2.1 + 1)), (3, gj_i (a5.2.2.1 + (1 : Int32))), (0, gj_r 188), (1, gj_i z10), (4, gj_i a5.2.2.2)]) hO 3 dX9_entering_100 rfl rfl (by decide) rfl ?_
          refine gj_iinc (v := (a5.2.2.2 + 1)) (lv2 := [(4, gj_i (a5.2.2.2 + 1)), (2, gj_i (a5.2.1 + 1)), (3, gj_i (a5.2.2.1 + (1 : Int32))), (0, gj_r 188), (1, gj_i z10)]) hO 4 dX9_entering_103 rfl rfl (by decide) rfl ?_
          refine gj_goto (tgt := 28) hO dX9_entering_106 (by decide) ?_
          obtain rfl := Option.some.inj hf
          refine gj_sub [3, 4, 1, 2, 0] rfl ?_
          exact K
        · replace hf := gj_t h hf
          refine gj_iconst (v := 0) hO dX9_entering_92 (by decide) ?_
          refine gj_goto (tgt := 99) hO dX9_entering_93 (by decide) ?_
          refine gj_istore_n (lv2 := [(3, gj_i (0 : Int32)), (0, gj_r 188), (1, gj_i z10), (2, gj_i a5.2.1), (4, gj_i a5.2.2.2)]) hO dX9_entering_99 rfl (by decide) rfl ?_
          refine gj_iinc (v := (a5.2.1 + 1)) (lv2 := [(2, gj_i (a5.2.1 + 1)), (3, gj_i (0 : Int32)), (0, gj_r 188), (1, gj_i z10), (4, gj_i a5.2.2.2)]) hO 3 dX9_entering_100 rfl rfl (by decide) rfl ?_
          refine gj_iinc (v := (a5.2.2.2 + 1)) (lv2 := [(4, gj_i (a5.2.2.2 + 1)), (2, gj_i (a5.2.1 + 1)), (3, gj_i (0 : Int32)), (0, gj_r 188), (1, gj_i z10)]) hO 4 dX9_entering_103 rfl rfl (by decide) rfl ?_
          refine gj_goto (tgt := 28) hO dX9_entering_106 (by decide) ?_
          obtain rfl := Option.some.inj hf
          refine gj_sub [3, 4, 1, 2, 0] rfl ?_
          exact K
      refine gj_if_eq (tgt := 82) hO dX9_entering_53 (by decide) (fun h => ?_) (fun h => ?_)
      · replace hz10 := gj_t h hz10
        obtain rfl := Option.some.inj hz10
        refine gj_sub [0, 1, 2, 3, 4] rfl ?_
        exact J10
      · replace hz10 := gj_f h hz10
        refine gj_iload_n hO 1 dX9_entering_56 rfl rfl ?_
        refine gj_iconst (v := (-1)) hO dX9_entering_57 (by decide) ?_
        refine gj_icmp_eq (tgt := 80) hO dX9_entering_58 (by decide) (fun h => ?_) (fun h => ?_)
        · replace hz10 := gj_t h hz10
          refine gj_iload_n hO 3 dX9_entering_80 rfl rfl ?_
          refine gj_istore_n (lv2 := [(1, gj_i a5.2.2.1), (0, gj_r 188), (2, gj_i a5.2.1), (3, gj_i a5.2.2.1), (4, gj_i a5.2.2.2)]) hO dX9_entering_81 rfl (by decide) rfl ?_
          obtain rfl := Option.some.inj hz10
          refine gj_sub [1, 0, 2, 3, 4] rfl ?_
          exact J10
        · replace hz10 := gj_f h hz10
          refine gj_aload_n hO 0 dX9_entering_61 rfl rfl ?_
          refine gj_iload_n hO 3 dX9_entering_62 rfl rfl ?_
          obtain ⟨x11, hc11, hz10⟩ := gj_b hz10
          refine ca_X9_gainOf hO  hc11 wk_763 (by decide) (by decide) (Nat.le_of_ble_eq_true rfl) dX9_entering_63 ?_
          obtain ⟨x12, hc12, hz10⟩ := gj_b hz10
          refine ca_X9_sizeOf hO  hc12 wk_806 (by decide) (by decide) (Nat.le_of_ble_eq_true rfl) dX9_entering_66 ?_
          refine gj_aload_n hO 0 dX9_entering_69 rfl rfl ?_
          refine gj_iload_n hO 1 dX9_entering_70 rfl rfl ?_
          obtain ⟨x13, hc13, hz10⟩ := gj_b hz10
          refine ca_X9_gainOf hO  hc13 wk_763 (by decide) (by decide) (Nat.le_of_ble_eq_true rfl) dX9_entering_71 ?_
          obtain ⟨x14, hc14, hz10⟩ := gj_b hz10
          refine ca_X9_sizeOf hO  hc14 wk_806 (by decide) (by decide) (Nat.le_of_ble_eq_true rfl) dX9_entering_74 ?_
          refine gj_icmp_le (tgt := 82) hO dX9_entering_77 (by decide) (fun h => ?_) (fun h => ?_)
          · replace hz10 := gj_t h hz10
            obtain rfl := Option.some.inj hz10
            refine gj_sub [0, 1, 2, 3, 4] rfl ?_
            exact J10
          · replace hz10 := gj_f h hz10
            refine gj_iload_n hO 3 dX9_entering_80 rfl rfl ?_
            refine gj_istore_n (lv2 := [(1, gj_i a5.2.2.1), (0, gj_r 188), (2, gj_i a5.2.1), (3, gj_i a5.2.2.1), (4, gj_i a5.2.2.2)]) hO dX9_entering_81 rfl (by decide) rfl ?_
            obtain rfl := Option.some.inj hz10
            refine gj_sub [1, 0, 2, 3, 4] rfl ?_
            exact J10
set_option maxHeartbeats 4000000 in
set_option maxRecDepth 100000 in
theorem sb_X9_entering_l12 {E : gj_E} {X : gj_X} {r : Option gj_V} {τ : gj_S} (hO : gj_O E X RX9 cX9_entering 5 (some .int) 3 64) {σ : gj_S} {a2 : (Int32 × Int32 × Int32)} {x : (Int32 × Int32) ⊕ (Int32 × Int32 × Int32)} (hf : fb_X9_entering_l12 σ a2 = some x) (K : gj_K (fun z2 => gj_G E X 5 r τ 112 [(0, gj_r 188), (1, gj_i z2.1), (3, gj_i z2.2)] [] σ) (fun a2 => gj_G E X 5 r τ 12 [(0, gj_r 188), (1, gj_i a2.1), (2, gj_i a2.2.1), (3, gj_i a2.2.2)] [] σ) x) : gj_G E X 5 r τ 12 [(0, gj_r 188), (1, gj_i a2.1), (2, gj_i a2.2.1), (3, gj_i a2.2.2)] [] σ := by
  unfold fb_X9_entering_l12 at hf
  refine gj_iload_n hO 2 dX9_entering_12 rfl rfl ?_
  refine gj_aload_n hO 0 dX9_entering_13 rfl rfl ?_
  obtain ⟨x4, hc4, hf⟩ := gj_b hf
  refine ca_X9_ways hO  hc4 wk_724 (by decide) (by decide) (Nat.le_of_ble_eq_true rfl) dX9_entering_14 ?_
  refine gj_icmp_ge (tgt := 112) hO dX9_entering_17 (by decide) (fun h => ?_) (fun h => ?_)
  · replace hf := gj_t h hf
    obtain rfl := Option.some.inj hf
    refine gj_sub [0, 1, 3] rfl ?_
    exact K
  · replace hf := gj_f h hf
    refine gj_iload_n hO 1 dX9_entering_20 rfl rfl ?_
    refine gj_iconst (v := (-1)) hO dX9_entering_21 (by decide) ?_
    refine gj_icmp_ne (tgt := 112) hO dX9_entering_22 (by decide) (fun h => ?_) (fun h => ?_)
    · replace hf := gj_f h hf
      obtain rfl := Option.some.inj hf
      refine gj_sub [0, 1, 3] rfl ?_
      exact K
    · replace hf := gj_t h hf
      refine gj_iconst (v := 0) hO dX9_entering_25 (by decide) ?_
      refine gj_istore (lv2 := [(4, gj_i (0 : Int32)), (0, gj_r 188), (1, gj_i a2.1), (2, gj_i a2.2.1), (3, gj_i a2.2.2)]) hO dX9_entering_26 (by decide) rfl ?_
      obtain ⟨z5, hz5, hf⟩ := gj_b hf
      have J5 : gj_G E X 5 r τ 109 [(0, gj_r 188), (1, gj_i z5.1), (2, gj_i z5.2.1), (3, gj_i z5.2.2)] [] σ := by
        refine gj_goto (tgt := 12) hO dX9_entering_109 (by decide) ?_
        obtain rfl := Option.some.inj hf
        refine gj_sub [0, 1, 2, 3] rfl ?_
        exact K
      refine gj_sub [1, 2, 3, 4, 0] rfl ?_
      exact gj_loop (head := fun a5 => gj_G E X 5 r τ 28 [(0, gj_r 188), (1, gj_i a5.1), (2, gj_i a5.2.1), (3, gj_i a5.2.2.1), (4, gj_i a5.2.2.2)] [] σ) (exit := fun z5 => gj_G E X 5 r τ 109 [(0, gj_r 188), (1, gj_i z5.1), (2, gj_i z5.2.1), (3, gj_i z5.2.2)] [] σ) (fun a5 x hf K => sb_X9_entering_l28 hO hf K) _ _ _ hz5 J5
set_option maxHeartbeats 4000000 in
set_option maxRecDepth 100000 in
theorem m_X9_entering {E : gj_E} {σ : gj_S}   {x : (Int32 × gj_S)} (hf : f_X9_entering  σ = some x) : gj_M E yX9_entering cX9_entering 5 (some .int) 3 64 [gj_r 188] σ (some (gj_i x.1)) x.2 := by
  refine gj_body (lv := [(0, gj_r 188)]) (by decide +kernel) (Nat.le_of_ble_eq_true rfl) rfl (fun X hO => ?_)
  replace hO : gj_O E X RX9 cX9_entering 5 (some .int) 3 64 := hO
  unfold f_X9_entering at hf
  refine gj_iconst (v := (-1)) hO dX9_entering_0 (by decide) ?_
  refine gj_istore_n (lv2 := [(1, gj_i (-1 : Int32)), (0, gj_r 188)]) hO dX9_entering_1 rfl (by decide) rfl ?_
  refine gj_iconst (v := 0) hO dX9_entering_2 (by decide) ?_
  refine gj_istore_n (lv2 := [(2, gj_i (0 : Int32)), (1, gj_i (-1 : Int32)), (0, gj_r 188)]) hO dX9_entering_3 rfl (by decide) rfl ?_
  refine gj_aload_n hO 2 dX9_entering_4 rfl rfl ?_
  refine gt_X9_21 hO wk_704 dX9_entering_5 ?_
  refine gj_bipush (v := 41) hO dX9_entering_8 (by decide) ?_
  obtain ⟨hb1, hf⟩ := gj_c hf
  refine gj_iald hO kl_198 kd_198 hb1 dX9_entering_10 ?_
  refine gj_istore_n (lv2 := [(3, gj_i (σ.1 198 (Int32.toNatClampNeg (41 : Int32)))), (2, gj_i (0 : Int32)), (1, gj_i (-1 : Int32)), (0, gj_r 188)]) hO dX9_entering_11 rfl (by decide) rfl ?_
  obtain ⟨z2, hz2, hf⟩ := gj_b hf
  have J2 : gj_G E X 5 (some (gj_i x.1)) x.2 112 [(0, gj_r 188), (1, gj_i z2.1), (3, gj_i z2.2)] [] σ := by
    refine gj_aload_n hO 0 dX9_entering_112 rfl rfl ?_
    refine gj_iload_n hO 2 dX9_entering_113 rfl rfl ?_
    refine pt_X9_30 hO wk_807 dX9_entering_114 ?_
    refine gj_iload_n hO 1 dX9_entering_117 rfl rfl ?_
    obtain rfl := Option.some.inj hf
    exact gj_iret hO dX9_entering_118
  refine gj_sub [3, 2, 1, 0] rfl ?_
  exact gj_loop (head := fun a2 => gj_G E X 5 (some (gj_i x.1)) x.2 12 [(0, gj_r 188), (1, gj_i a2.1), (2, gj_i a2.2.1), (3, gj_i a2.2.2)] [] σ) (exit := fun z2 => gj_G E X 5 (some (gj_i x.1)) x.2 112 [(0, gj_r 188), (1, gj_i z2.1), (3, gj_i z2.2)] [] σ) (fun a2 x hf K => sb_X9_entering_l12 hO hf K) _ _ _ hz2 J2
set_option maxHeartbeats 4000000 in
set_option maxRecDepth 100000 in
theorem ca_X9_entering {E : gj_E} {X : gj_X} {own : String} {cc : ByteArray} {nL : Nat} {rt : Option FieldType} {fr lo : Nat} {r : Option gj_V} {τ : gj_S} {pc : Nat} {lv : List (Nat × gj_V)} {st : List gj_V} {σ : gj_S} (hO : gj_O E X own cc nL rt fr lo)   {idx : Nat} {x : (Int32 × gj_S)} (hf : f_X9_entering  σ = some x) (hl : Cond.methodLink own idx yX9_entering ∈ gj_gw) (hf1 : 4 ≤ fr) (hf2 : 88 ≤ lo) (hcat : ((st.map (gj_tv E.2.1)).map fun v => v.category).sum ≤ 8) (hd : decode cc pc = .ok (.invokevirtual idx, 3)) (k : gj_G E X nL r τ (pc + 3) lv ((gj_i x.1) :: st) x.2) : gj_G E X nL r τ pc lv (gj_r 188 :: st) σ :=
  gj_callV hO (o := 188) (vs := []) (m_X9_entering  hf) hl wk_808 wk_809 wk_607 wk_810 kl_188 kd_188 (by decide) (ci := 9) rfl (n := 0) (by decide +kernel) rfl hf1 hf2 rfl hcat hd k
def fb_X9_apexOf_l5 (σ : gj_S) (a1 : (Int32 × Int32)) : Option (Int32 ⊕ (Int32 × Int32)) := (if a1.1 = a1.2 then some (.inl a1.1) else (if gj_in a1.1 9 then (if gj_in a1.2 9 then (if (σ.1 204 (Int32.toNatClampNeg a1.1)) < (σ.1 204 (Int32.toNatClampNeg a1.2)) then ((f_X9_aboveOf a1.2 σ).bind fun x5 => some (.inr (a1.1, x5))) else ((f_X9_aboveOf a1.1 σ).bind fun x6 => some (.inr (x6, a1.2)))) else none) else none))
def f_X9_apexOf (b1 : Int32) (b2 : Int32) (σ : gj_S) : Option Int32 := ((gj_lp (fb_X9_apexOf_l5 σ) 5000 (b1, b2)).bind fun z1 => some z1)
set_option maxHeartbeats 4000000 in
set_option maxRecDepth 100000 in
theorem sb_X9_apexOf_l5 {E : gj_E} {X : gj_X} {r : Option gj_V} {τ : gj_S} (hO : gj_O E X RX9 cX9_apexOf 5 (some .int) 2 43) {σ : gj_S} {a1 : (Int32 × Int32)} {x : Int32 ⊕ (Int32 × Int32)} (hf : fb_X9_apexOf_l5 σ a1 = some x) (K : gj_K (fun z1 => gj_G E X 5 r τ 47 [(3, gj_i z1)] [] σ) (fun a1 => gj_G E X 5 r τ 5 [(0, gj_r 188), (3, gj_i a1.1), (4, gj_i a1.2)] [] σ) x) : gj_G E X 5 r τ 5 [(0, gj_r 188), (3, gj_i a1.1), (4, gj_i a1.2)] [] σ := by
  unfold fb_X9_apexOf_l5 at hf
  refine gj_iload_n hO 1 dX9_apexOf_5 rfl rfl ?_
  refine gj_iload hO 2 dX9_apexOf_6 rfl ?_
  refine gj_icmp_eq (tgt := 47) hO dX9_apexOf_8 (by decide) (fun h => ?_) (fun h => ?_)
  · replace hf := gj_t h hf
    obtain rfl := Option.some.inj hf
    refine gj_sub [1] rfl ?_
    exact K
  · replace hf := gj_f h hf
    refine gj_aload_n hO 0 dX9_apexOf_11 rfl rfl ?_
    refine gt_X9_28 hO wk_742 dX9_apexOf_12 ?_
    refine gj_iload_n hO 1 dX9_apexOf_15 rfl rfl ?_
    obtain ⟨hb3, hf⟩ := gj_c hf
    refine gj_iald hO kl_204 kd_204 hb3 dX9_apexOf_16 ?_
    refine gj_aload_n hO 0 dX9_apexOf_17 rfl rfl ?_
    refine gt_X9_28 hO wk_742 dX9_apexOf_18 ?_
    refine gj_iload hO 2 dX9_apexOf_21 rfl ?_
    obtain ⟨hb4, hf⟩ := gj_c hf
    refine gj_iald hO kl_204 kd_204 hb4 dX9_apexOf_23 ?_
    refine gj_icmp_lt (tgt := 36) hO dX9_apexOf_24 (by decide) (fun h => ?_) (fun h => ?_)
    · replace hf := gj_t h hf
      refine gj_aload_n hO 0 dX9_apexOf_36 rfl rfl ?_
      refine gj_iload hO 2 dX9_apexOf_37 rfl ?_
      obtain ⟨x5, hc5, hf⟩ := gj_b hf
      refine ca_X9_aboveOf hO  hc5 wk_776 (by decide) (by decide) (Nat.le_of_ble_eq_true rfl) dX9_apexOf_39 ?_
      refine gj_istore (lv2 := [(4, gj_i x5), (0, gj_r 188), (3, gj_i a1.1)]) hO dX9_apexOf_42 (by decide) rfl ?_
      refine gj_goto (tgt := 5) hO dX9_apexOf_44 (by decide) ?_
      obtain rfl := Option.some.inj hf
      refine gj_sub [1, 2, 0] rfl ?_
      exact K
    · replace hf := gj_f h hf
      refine gj_aload_n hO 0 dX9_apexOf_27 rfl rfl ?_
      refine gj_iload_n hO 1 dX9_apexOf_28 rfl rfl ?_
      obtain ⟨x6, hc6, hf⟩ := gj_b hf
      refine ca_X9_aboveOf hO  hc6 wk_776 (by decide) (by decide) (Nat.le_of_ble_eq_true rfl) dX9_apexOf_29 ?_
      refine gj_istore_n (lv2 := [(3, gj_i x6), (0, gj_r 188), (4, gj_i a1.2)]) hO dX9_apexOf_32 rfl (by decide) rfl ?_
      refine gj_goto (tgt := 5) hO dX9_apexOf_33 (by decide) ?_
      obtain rfl := Option.some.inj hf
      refine gj_sub [1, 0, 2] rfl ?_
      exact K
set_option maxHeartbeats 4000000 in
set_option maxRecDepth 100000 in
theorem m_X9_apexOf {E : gj_E} {σ : gj_S} {b1 : Int32} {b2 : Int32}  {x : Int32} (hf : f_X9_apexOf b1 b2 σ = some x) : gj_M E yX9_apexOf cX9_apexOf 5 (some .int) 2 43 [gj_r 188, gj_i b1, gj_i b2] σ (some (gj_i x)) σ := by
  refine gj_body (lv := [(0, gj_r 188), (1, gj_i b1), (2, gj_i b2)]) (by decide +kernel) (Nat.le_of_ble_eq_true rfl) rfl (fun X hO => ?_)
  replace hO : gj_O E X RX9 cX9_apexOf 5 (some .int) 2 43 := hO
  unfold f_X9_apexOf at hf
  refine gj_iload_n hO 1 dX9_apexOf_0 rfl rfl ?_
  refine gj_istore_n (lv2 := [(3, gj_i b1), (0, gj_r 188), (1, gj_i b1), (2, gj_i b2)]) hO dX9_apexOf_1 rfl (by decide) rfl ?_
  refine gj_iload_n hO 3 dX9_apexOf_2 rfl rfl ?_
  refine gj_istore (lv2 := [(4, gj_i b2), (3, gj_i b1), (0, gj_r 188), (1, gj_i b1), (2, gj_i b2)]) hO dX9_apexOf_3 (by decide) rfl ?_
  obtain ⟨z1, hz1, hf⟩ := gj_b hf
  have J1 : gj_G E X 5 (some (gj_i x)) σ 47 [(3, gj_i z1)] [] σ := by
    refine gj_iload_n hO 0 dX9_apexOf_47 rfl rfl ?_
    obtain rfl := Option.some.inj hf
    exact gj_iret hO dX9_apexOf_48
  refine gj_sub [2, 1, 0] rfl ?_
  exact gj_loop (head := fun a1 => gj_G E X 5 (some (gj_i x)) σ 5 [(0, gj_r 188), (3, gj_i a1.1), (4, gj_i a1.2)] [] σ) (exit := fun z1 => gj_G E X 5 (some (gj_i x)) σ 47 [(3, gj_i z1)] [] σ) (fun a1 x hf K => sb_X9_apexOf_l5 hO hf K) _ _ _ hz1 J1
set_option maxHeartbeats 4000000 in
set_option maxRecDepth 100000 in
theorem ca_X9_apexOf {E : gj_E} {X : gj_X} {own : String} {cc : ByteArray} {nL : Nat} {rt : Option FieldType} {fr lo : Nat} {r : Option gj_V} {τ : gj_S} {pc : Nat} {lv : List (Nat × gj_V)} {st : List gj_V} {σ : gj_S} (hO : gj_O E X own cc nL rt fr lo) {b1 : Int32} {b2 : Int32}  {idx : Nat} {x : Int32} (hf : f_X9_apexOf b1 b2 σ = some x) (hl : Cond.methodLink own idx yX9_apexOf ∈ gj_gw) (hf1 : 3 ≤ fr) (hf2 : 67 ≤ lo) (hcat : ((st.map (gj_tv E.2.1)).map fun v => v.category).sum ≤ 8) (hd : decode cc pc = .ok (.invokevirtual idx, 3)) (k : gj_G E X nL r τ (pc + 3) lv ((gj_i x) :: st) σ) : gj_G E X nL r τ pc lv (gj_i b2 :: gj_i b1 :: gj_r 188 :: st) σ :=
  gj_callV hO (o := 188) (vs := [gj_i b1, gj_i b2]) (m_X9_apexOf  hf) hl wk_811 wk_812 wk_607 wk_813 kl_188 kd_188 (by decide) (ci := 9) rfl (n := 2) (by decide +kernel) rfl hf1 hf2 rfl hcat hd k
def f_X9_roomOf (b1 : Int32) (b2 : Int32) (σ : gj_S) : Option Int32 := (if gj_in b1 24 then (if (σ.1 206 (Int32.toNatClampNeg b1)) = b2 then ((f_X9_holdsOf b2 σ).bind fun x11 => some x11) else (if gj_in b1 24 then (if (σ.1 207 (Int32.toNatClampNeg b1)) = 0 then (if gj_in b1 24 then (if gj_in ((50 : Int32) + (σ.1 206 (Int32.toNatClampNeg b1))) 180 then some (σ.1 198 (Int32.toNatClampNeg ((50 : Int32) + (σ.1 206 (Int32.toNatClampNeg b1))))) else none) else none) else (if gj_in b1 24 then (if gj_in (0 : Int32) 2 then (if (σ.1 191 (Int32.toNatClampNeg (0 : Int32))) ≤ (σ.1 206 (Int32.toNatClampNeg b1)) then some (1000000000 : Int32) else (if gj_in b1 24 then (if gj_in ((24 : Int32) + (σ.1 206 (Int32.toNatClampNeg b1))) 180 then (if gj_in b1 24 then (if gj_in ((50 : Int32) + (σ.1 206 (Int32.toNatClampNeg b1))) 180 then some ((σ.1 198 (Int32.toNatClampNeg ((24 : Int32) + (σ.1 206 (Int32.toNatClampNeg b1))))) - (σ.1 198 (Int32.toNatClampNeg ((50 : Int32) + (σ.1 206 (Int32.toNatClampNeg b1)))))) else none) else none) else none) else none)) else none) else none)) else none)) else none)
set_option maxHeartbeats 4000000 in
set_option maxRecDepth 100000 in
theorem m_X9_roomOf {E : gj_E} {σ : gj_S} {b1 : Int32} {b2 : Int32}  {x : Int32} (hf : f_X9_roomOf b1 b2 σ = some x) : gj_M E yX9_roomOf cX9_roomOf 3 (some .int) 1 21 [gj_r 188, gj_i b1, gj_i b2] σ (some (gj_i x)) σ := by
  refine gj_body (lv := [(0, gj_r 188), (1, gj_i b1), (2, gj_i b2)]) (by decide +kernel) (Nat.le_of_ble_eq_true rfl) rfl (fun X hO => ?_)
  replace hO : gj_O E X RX9 cX9_roomOf 3 (some .int) 1 21 := hO
  unfold f_X9_roomOf at hf
  refine gj_aload_n hO 0 dX9_roomOf_0 rfl rfl ?_
  refine gt_X9_31 hO wk_814 dX9_roomOf_1 ?_
  refine gj_iload_n hO 1 dX9_roomOf_4 rfl rfl ?_
  obtain ⟨hb1, hf⟩ := gj_c hf
  refine gj_iald hO kl_206 kd_206 hb1 dX9_roomOf_5 ?_
  refine gj_iload_n hO 2 dX9_roomOf_6 rfl rfl ?_
  refine gj_icmp_ne (tgt := 16) hO dX9_roomOf_7 (by decide) (fun h => ?_) (fun h => ?_)
  · replace hf := gj_f h hf
    refine gj_aload_n hO 0 dX9_roomOf_16 rfl rfl ?_
    refine gt_X9_32 hO wk_815 dX9_roomOf_17 ?_
    refine gj_iload_n hO 1 dX9_roomOf_20 rfl rfl ?_
    obtain ⟨hb2, hf⟩ := gj_c hf
    refine gj_zald hO kl_207 kd_207 hb2 dX9_roomOf_21 ?_
    refine gj_if_ne (tgt := 40) hO dX9_roomOf_22 (by decide) (fun h => ?_) (fun h => ?_)
    · replace hf := gj_f h hf
      refine gj_aload_n hO 0 dX9_roomOf_40 rfl rfl ?_
      refine gt_X9_31 hO wk_814 dX9_roomOf_41 ?_
      refine gj_iload_n hO 1 dX9_roomOf_44 rfl rfl ?_
      obtain ⟨hb3, hf⟩ := gj_c hf
      refine gj_iald hO kl_206 kd_206 hb3 dX9_roomOf_45 ?_
      refine gj_aload_n hO 0 dX9_roomOf_46 rfl rfl ?_
      refine gt_X9_12 hO wk_672 dX9_roomOf_47 ?_
      refine gj_iconst (v := 0) hO dX9_roomOf_50 (by decide) ?_
      obtain ⟨hb4, hf⟩ := gj_c hf
      refine gj_iald hO kl_191 kd_191 hb4 dX9_roomOf_51 ?_
      refine gj_icmp_ge (tgt := 87) hO dX9_roomOf_52 (by decide) (fun h => ?_) (fun h => ?_)
      · replace hf := gj_t h hf
        refine gj_ldc hO wk_737 dX9_roomOf_87 ?_
        obtain rfl := Option.some.inj hf
        exact gj_iret hO dX9_roomOf_89
      · replace hf := gj_f h hf
        refine gj_aload_n hO 0 dX9_roomOf_55 rfl rfl ?_
        refine gt_X9_21 hO wk_704 dX9_roomOf_56 ?_
        refine gj_bipush (v := 24) hO dX9_roomOf_59 (by decide) ?_
        refine gj_aload_n hO 0 dX9_roomOf_61 rfl rfl ?_
        refine gt_X9_31 hO wk_814 dX9_roomOf_62 ?_
        refine gj_iload_n hO 1 dX9_roomOf_65 rfl rfl ?_
        obtain ⟨hb5, hf⟩ := gj_c hf
        refine gj_iald hO kl_206 kd_206 hb5 dX9_roomOf_66 ?_
        refine gj_iadd hO dX9_roomOf_67 ?_
        obtain ⟨hb6, hf⟩ := gj_c hf
        refine gj_iald hO kl_198 kd_198 hb6 dX9_roomOf_68 ?_
        refine gj_aload_n hO 0 dX9_roomOf_69 rfl rfl ?_
        refine gt_X9_21 hO wk_704 dX9_roomOf_70 ?_
        refine gj_bipush (v := 50) hO dX9_roomOf_73 (by decide) ?_
        refine gj_aload_n hO 0 dX9_roomOf_75 rfl rfl ?_
        refine gt_X9_31 hO wk_814 dX9_roomOf_76 ?_
        refine gj_iload_n hO 1 dX9_roomOf_79 rfl rfl ?_
        obtain ⟨hb7, hf⟩ := gj_c hf
        refine gj_iald hO kl_206 kd_206 hb7 dX9_roomOf_80 ?_
        refine gj_iadd hO dX9_roomOf_81 ?_
        obtain ⟨hb8, hf⟩ := gj_c hf
        refine gj_iald hO kl_198 kd_198 hb8 dX9_roomOf_82 ?_
        refine gj_isub hO dX9_roomOf_83 ?_
        refine gj_goto (tgt := 89) hO dX9_roomOf_84 (by decide) ?_
        obtain rfl := Option.some.inj hf
        exact gj_iret hO dX9_roomOf_89
    · replace hf := gj_t h hf
      refine gj_aload_n hO 0 dX9_roomOf_25 rfl rfl ?_
      refine gt_X9_21 hO wk_704 dX9_roomOf_26 ?_
      refine gj_bipush (v := 50) hO dX9_roomOf_29 (by decide) ?_
      refine gj_aload_n hO 0 dX9_roomOf_31 rfl rfl ?_
      refine gt_X9_31 hO wk_814 dX9_roomOf_32 ?_
      refine gj_iload_n hO 1 dX9_roomOf_35 rfl rfl ?_
      obtain ⟨hb9, hf⟩ := gj_c hf
      refine gj_iald hO kl_206 kd_206 hb9 dX9_roomOf_36 ?_
      refine gj_iadd hO dX9_roomOf_37 ?_
      obtain ⟨hb10, hf⟩ := gj_c hf
      refine gj_iald hO kl_198 kd_198 hb10 dX9_roomOf_38 ?_
      obtain rfl := Option.some.inj hf
      exact gj_iret hO dX9_roomOf_39
  · replace hf := gj_t h hf
    refine gj_aload_n hO 0 dX9_roomOf_10 rfl rfl ?_
    refine gj_iload_n hO 2 dX9_roomOf_11 rfl rfl ?_
    obtain ⟨x11, hc11, hf⟩ := gj_b hf
    refine ca_X9_holdsOf hO  hc11 wk_816 (by decide) (by decide) (Nat.le_of_ble_eq_true rfl) dX9_roomOf_12 ?_
    obtain rfl := Option.some.inj hf
    exact gj_iret hO dX9_roomOf_15
set_option maxHeartbeats 4000000 in
set_option maxRecDepth 100000 in
theorem ca_X9_roomOf {E : gj_E} {X : gj_X} {own : String} {cc : ByteArray} {nL : Nat} {rt : Option FieldType} {fr lo : Nat} {r : Option gj_V} {τ : gj_S} {pc : Nat} {lv : List (Nat × gj_V)} {st : List gj_V} {σ : gj_S} (hO : gj_O E X own cc nL rt fr lo) {b1 : Int32} {b2 : Int32}  {idx : Nat} {x : Int32} (hf : f_X9_roomOf b1 b2 σ = some x) (hl : Cond.methodLink own idx yX9_roomOf ∈ gj_gw) (hf1 : 2 ≤ fr) (hf2 : 43 ≤ lo) (hcat : ((st.map (gj_tv E.2.1)).map fun v => v.category).sum ≤ 8) (hd : decode cc pc = .ok (.invokevirtual idx, 3)) (k : gj_G E X nL r τ (pc + 3) lv ((gj_i x) :: st) σ) : gj_G E X nL r τ pc lv (gj_i b2 :: gj_i b1 :: gj_r 188 :: st) σ :=
  gj_callV hO (o := 188) (vs := [gj_i b1, gj_i b2]) (m_X9_roomOf  hf) hl wk_817 wk_818 wk_607 wk_819 kl_188 kd_188 (by decide) (ci := 9) rfl (n := 2) (by decide +kernel) rfl hf1 hf2 rfl hcat hd k
def fb_X9_laysRing_l96 (b1 : Int32) (b2 : Int32) (b4 : Int32) (a13 : (Int32 × Int32 × gj_S)) : Option (gj_S ⊕ (Int32 × Int32 × gj_S)) := (if a13.2.1 = (a13.2.2.1 188 34) then some (.inl a13.2.2) else (if gj_in a13.2.1 9 then (if gj_in (a13.1 + (-1)) 24 then ((f_X9_isUpward a13.2.1 (gj_sI a13.2.2 206 (upd (a13.2.2.1 206) (Int32.toNatClampNeg (a13.1 + (-1))) (a13.2.2.1 203 (Int32.toNatClampNeg a13.2.1))))).bind fun x17 => ((if x17 = 0 then some (1 : Int32) else some (0 : Int32) : Option Int32).bind fun z18 => (if gj_in (a13.1 + (-1)) 24 then ((some (gj_sI (gj_sI a13.2.2 206 (upd (a13.2.2.1 206) (Int32.toNatClampNeg (a13.1 + (-1))) (a13.2.2.1 203 (Int32.toNatClampNeg a13.2.1)))) 207 (upd ((gj_sI a13.2.2 206 (upd (a13.2.2.1 206) (Int32.toNatClampNeg (a13.1 + (-1))) (a13.2.2.1 203 (Int32.toNatClampNeg a13.2.1)))).1 207) (Int32.toNatClampNeg (a13.1 + (-1))) (vp_nar .boolean z18)))).bind fun s20 => ((f_X9_aboveOf a13.2.1 s20).bind fun x21 => some (.inr ((a13.1 + (-1)), x21, s20)))) else none))) else none) else none))
def fb_X9_laysRing_l188 (b1 : Int32) (a25 : (Int32 × gj_S)) : Option (gj_S ⊕ (Int32 × gj_S)) := (if a25.1 = (a25.2.1 188 34) then some (.inl a25.2) else (if gj_in a25.1 9 then (if gj_in (a25.2.1 188 33) 24 then ((f_X9_isUpward a25.1 (gj_sI a25.2 206 (upd (a25.2.1 206) (Int32.toNatClampNeg (a25.2.1 188 33)) (a25.2.1 203 (Int32.toNatClampNeg a25.1))))).bind fun x29 => (if gj_in ((gj_sI a25.2 206 (upd (a25.2.1 206) (Int32.toNatClampNeg (a25.2.1 188 33)) (a25.2.1 203 (Int32.toNatClampNeg a25.1)))).1 188 33) 24 then ((some (gj_sI (gj_sI a25.2 206 (upd (a25.2.1 206) (Int32.toNatClampNeg (a25.2.1 188 33)) (a25.2.1 203 (Int32.toNatClampNeg a25.1)))) 207 (upd ((gj_sI a25.2 206 (upd (a25.2.1 206) (Int32.toNatClampNeg (a25.2.1 188 33)) (a25.2.1 203 (Int32.toNatClampNeg a25.1)))).1 207) (Int32.toNatClampNeg ((gj_sI a25.2 206 (upd (a25.2.1 206) (Int32.toNatClampNeg (a25.2.1 188 33)) (a25.2.1 203 (Int32.toNatClampNeg a25.1)))).1 188 33)) (vp_nar .boolean x29)))).bind fun s31 => ((f_X9_aboveOf a25.1 (gj_sI s31 188 (upd (s31.1 188) 33 ((s31.1 188 33) + (1 : Int32))))).bind fun x32 => some (.inr (x32, (gj_sI s31 188 (upd (s31.1 188) 33 ((s31.1 188 33) + (1 : Int32)))))))) else none)) else none) else none))
def fb_X9_laysRing_l263 (b1 : Int32) (a33 : (Int32 × gj_S)) : Option (gj_S ⊕ (Int32 × gj_S)) := (if (a33.2.1 188 33) ≤ a33.1 then some (.inl a33.2) else ((f_X9_roomOf a33.1 b1 a33.2).bind fun x35 => (if x35 ≤ (a33.2.1 188 35) then some (.inr ((a33.1 + 1), (gj_sI (gj_sI a33.2 188 (upd (a33.2.1 188) 35 x35)) 188 (upd ((gj_sI a33.2 188 (upd (a33.2.1 188) 35 x35)).1 188) 36 a33.1)))) else some (.inr ((a33.1 + 1), a33.2)))))
def f_X9_laysRing (b1 : Int32) (σ : gj_S) : Option gj_S := (if gj_in ((74 : Int32) + b1) 180 then ((if (σ.1 198 (Int32.toNatClampNeg ((74 : Int32) + b1))) = (1 : Int32) then some (1 : Int32) else some (0 : Int32) : Option Int32).bind fun z2 => ((if z2 = 0 then ((f_X9_endOf b1 σ).bind fun x4 => some x4) else ((f_X9_beginOf b1 σ).bind fun x5 => some x5) : Option Int32).bind fun z3 => ((if z2 = 0 then ((f_X9_beginOf b1 σ).bind fun x7 => some x7) else ((f_X9_endOf b1 σ).bind fun x8 => some x8) : Option Int32).bind fun z6 => ((f_X9_apexOf z3 z6 σ).bind fun x9 => (if gj_in z3 9 then (if gj_in ((gj_sI σ 188 (upd (σ.1 188) 34 x9)).1 188 34) 9 then ((some (gj_sI (gj_sI σ 188 (upd (σ.1 188) 34 x9)) 188 (upd ((gj_sI σ 188 (upd (σ.1 188) 34 x9)).1 188) 33 (((gj_sI σ 188 (upd (σ.1 188) 34 x9)).1 204 (Int32.toNatClampNeg z3)) - ((gj_sI σ 188 (upd (σ.1 188) 34 x9)).1 204 (Int32.toNatClampNeg ((gj_sI σ 188 (upd (σ.1 188) 34 x9)).1 188 34))))))).bind fun s12 => ((gj_lp (fb_X9_laysRing_l96 b1 z2 z6) 5000 ((s12.1 188 33), z3, s12)).bind fun z13 => (if gj_in (z13.1 188 33) 24 then (if gj_in ((gj_sI z13 206 (upd (z13.1 206) (Int32.toNatClampNeg (z13.1 188 33)) b1)).1 188 33) 24 then ((some (gj_sI (gj_sI z13 206 (upd (z13.1 206) (Int32.toNatClampNeg (z13.1 188 33)) b1)) 207 (upd ((gj_sI z13 206 (upd (z13.1 206) (Int32.toNatClampNeg (z13.1 188 33)) b1)).1 207) (Int32.toNatClampNeg ((gj_sI z13 206 (upd (z13.1 206) (Int32.toNatClampNeg (z13.1 188 33)) b1)).1 188 33)) (vp_nar .boolean z2)))).bind fun s24 => ((gj_lp (fb_X9_laysRing_l188 b1) 5000 (z6, (gj_sI s24 188 (upd (s24.1 188) 33 ((s24.1 188 33) + (1 : Int32)))))).bind fun z25 => ((gj_lp (fb_X9_laysRing_l263 b1) 5000 ((0 : Int32), (gj_sI (gj_sI z25 188 (upd (z25.1 188) 35 (1000000000 : Int32))) 188 (upd ((gj_sI z25 188 (upd (z25.1 188) 35 (1000000000 : Int32))).1 188) 36 (-1 : Int32))))).bind fun z33 => some z33))) else none) else none))) else none) else none))))) else none)
set_option maxHeartbeats 4000000 in
set_option maxRecDepth 100000 in
theorem sb_X9_laysRing_l96 {E : gj_E} {X : gj_X} {r : Option gj_V} {τ : gj_S} (hO : gj_O E X RX9 cX9_laysRing 8 none 3 67) {b1 : Int32} {b2 : Int32} {b4 : Int32} {a13 : (Int32 × Int32 × gj_S)} {x : gj_S ⊕ (Int32 × Int32 × gj_S)} (hf : fb_X9_laysRing_l96 b1 b2 b4 a13 = some x) (K : gj_K (fun z13 => gj_G E X 8 r τ 154 [(0, gj_r 188), (1, gj_i b1), (2, gj_i b2), (4, gj_i b4)] [] z13) (fun a13 => gj_G E X 8 r τ 96 [(0, gj_r 188), (1, gj_i b1), (2, gj_i b2), (4, gj_i b4), (5, gj_i a13.1), (6, gj_i a13.2.1)] [] a13.2.2) x) : gj_G E X 8 r τ 96 [(0, gj_r 188), (1, gj_i b1), (2, gj_i b2), (4, gj_i b4), (5, gj_i a13.1), (6, gj_i a13.2.1)] [] a13.2.2 := by
  unfold fb_X9_laysRing_l96 at hf
  refine gj_iload hO 5 dX9_laysRing_96 rfl ?_
  refine gj_aload_n hO 0 dX9_laysRing_98 rfl rfl ?_
  refine gt_X9_34 hO wk_821 dX9_laysRing_99 ?_
  refine gj_icmp_eq (tgt := 154) hO dX9_laysRing_102 (by decide) (fun h => ?_) (fun h => ?_)
  · replace hf := gj_t h hf
    obtain rfl := Option.some.inj hf
    refine gj_sub [0, 1, 2, 3] rfl ?_
    exact K
  · replace hf := gj_f h hf
    refine gj_iinc (v := (a13.1 + (-1))) (lv2 := [(5, gj_i (a13.1 + (-1))), (0, gj_r 188), (1, gj_i b1), (2, gj_i b2), (4, gj_i b4), (6, gj_i a13.2.1)]) hO 4 dX9_laysRing_105 rfl rfl (by decide) rfl ?_
    refine gj_aload_n hO 1 dX9_laysRing_108 rfl rfl ?_
    refine gt_X9_31 hO wk_814 dX9_laysRing_109 ?_
    refine gj_iload hO 0 dX9_laysRing_112 rfl ?_
    refine gj_aload_n hO 1 dX9_laysRing_114 rfl rfl ?_
    refine gt_X9_27 hO wk_741 dX9_laysRing_115 ?_
    refine gj_iload hO 5 dX9_laysRing_118 rfl ?_
    obtain ⟨hb15, hf⟩ := gj_c hf
    refine gj_iald hO kl_203 kd_203 hb15 dX9_laysRing_120 ?_
    obtain ⟨hb16, hf⟩ := gj_c hf
    refine gj_iast hO kl_206 kd_206 hb16 dX9_laysRing_121 ?_
    refine gj_aload_n hO 1 dX9_laysRing_122 rfl rfl ?_
    refine gt_X9_32 hO wk_815 dX9_laysRing_123 ?_
    refine gj_iload hO 0 dX9_laysRing_126 rfl ?_
    refine gj_aload_n hO 1 dX9_laysRing_128 rfl rfl ?_
    refine gj_iload hO 5 dX9_laysRing_129 rfl ?_
    obtain ⟨x17, hc17, hf⟩ := gj_b hf
    refine ca_X9_isUpward hO  hc17 wk_823 (by decide) (by decide) (Nat.le_of_ble_eq_true rfl) dX9_laysRing_131 ?_
    obtain ⟨z18, hz18, hf⟩ := gj_b hf
    have J18 : gj_G E X 8 r τ 142 [(0, gj_r 188), (1, gj_i b1), (2, gj_i b2), (4, gj_i b4), (5, gj_i (a13.1 + (-1))), (6, gj_i a13.2.1)] [gj_i z18, gj_i (a13.1 + (-1)), gj_r 207] (gj_sI a13.2.2 206 (upd (a13.2.2.1 206) (Int32.toNatClampNeg (a13.1 + (-1))) (a13.2.2.1 203 (Int32.toNatClampNeg a13.2.1)))) := by
      obtain ⟨hb19, hf⟩ := gj_c hf
      refine gj_zast hO kl_207 kd_207 hb19 dX9_laysRing_142 ?_
      obtain ⟨s20, e20, hf⟩ := gj_b hf
      refine gj_eqS (Option.some.inj e20) ?_
      refine gj_aload_n hO 0 dX9_laysRing_143 rfl rfl ?_
      refine gj_iload hO 5 dX9_laysRing_144 rfl ?_
      obtain ⟨x21, hc21, hf⟩ := gj_b hf
      refine ca_X9_aboveOf hO  hc21 wk_776 (by decide) (by decide) (Nat.le_of_ble_eq_true rfl) dX9_laysRing_146 ?_
      refine gj_istore (lv2 := [(6, gj_i x21), (0, gj_r 188), (1, gj_i b1), (2, gj_i b2), (4, gj_i b4), (5, gj_i (a13.1 + (-1)))]) hO dX9_laysRing_149 (by decide) rfl ?_
      refine gj_goto (tgt := 96) hO dX9_laysRing_151 (by decide) ?_
      obtain rfl := Option.some.inj hf
      refine gj_sub [1, 2, 3, 4, 5, 0] rfl ?_
      exact K
    refine gj_if_ne (tgt := 141) hO dX9_laysRing_134 (by decide) (fun h => ?_) (fun h => ?_)
    · replace hz18 := gj_f h hz18
      refine gj_iconst (v := 0) hO dX9_laysRing_141 (by decide) ?_
      obtain rfl := Option.some.inj hz18
      refine gj_sub [1, 2, 3, 4, 0, 5] rfl ?_
      exact J18
    · replace hz18 := gj_t h hz18
      refine gj_iconst (v := 1) hO dX9_laysRing_137 (by decide) ?_
      refine gj_goto (tgt := 142) hO dX9_laysRing_138 (by decide) ?_
      obtain rfl := Option.some.inj hz18
      refine gj_sub [1, 2, 3, 4, 0, 5] rfl ?_
      exact J18
set_option maxHeartbeats 4000000 in
set_option maxRecDepth 100000 in
theorem sb_X9_laysRing_l188 {E : gj_E} {X : gj_X} {r : Option gj_V} {τ : gj_S} (hO : gj_O E X RX9 cX9_laysRing 8 none 3 67) {b1 : Int32} {a25 : (Int32 × gj_S)} {x : gj_S ⊕ (Int32 × gj_S)} (hf : fb_X9_laysRing_l188 b1 a25 = some x) (K : gj_K (fun z25 => gj_G E X 8 r τ 249 [(0, gj_r 188), (1, gj_i b1)] [] z25) (fun a25 => gj_G E X 8 r τ 188 [(0, gj_r 188), (1, gj_i b1), (6, gj_i a25.1)] [] a25.2) x) : gj_G E X 8 r τ 188 [(0, gj_r 188), (1, gj_i b1), (6, gj_i a25.1)] [] a25.2 := by
  unfold fb_X9_laysRing_l188 at hf
  refine gj_iload hO 2 dX9_laysRing_188 rfl ?_
  refine gj_aload_n hO 0 dX9_laysRing_190 rfl rfl ?_
  refine gt_X9_34 hO wk_821 dX9_laysRing_191 ?_
  refine gj_icmp_eq (tgt := 249) hO dX9_laysRing_194 (by decide) (fun h => ?_) (fun h => ?_)
  · replace hf := gj_t h hf
    obtain rfl := Option.some.inj hf
    refine gj_sub [0, 1] rfl ?_
    exact K
  · replace hf := gj_f h hf
    refine gj_aload_n hO 0 dX9_laysRing_197 rfl rfl ?_
    refine gt_X9_31 hO wk_814 dX9_laysRing_198 ?_
    refine gj_aload_n hO 0 dX9_laysRing_201 rfl rfl ?_
    refine gt_X9_33 hO wk_822 dX9_laysRing_202 ?_
    refine gj_aload_n hO 0 dX9_laysRing_205 rfl rfl ?_
    refine gt_X9_27 hO wk_741 dX9_laysRing_206 ?_
    refine gj_iload hO 2 dX9_laysRing_209 rfl ?_
    obtain ⟨hb27, hf⟩ := gj_c hf
    refine gj_iald hO kl_203 kd_203 hb27 dX9_laysRing_211 ?_
    obtain ⟨hb28, hf⟩ := gj_c hf
    refine gj_iast hO kl_206 kd_206 hb28 dX9_laysRing_212 ?_
    refine gj_aload_n hO 0 dX9_laysRing_213 rfl rfl ?_
    refine gt_X9_32 hO wk_815 dX9_laysRing_214 ?_
    refine gj_aload_n hO 0 dX9_laysRing_217 rfl rfl ?_
    refine gt_X9_33 hO wk_822 dX9_laysRing_218 ?_
    refine gj_aload_n hO 0 dX9_laysRing_221 rfl rfl ?_
    refine gj_iload hO 2 dX9_laysRing_222 rfl ?_
    obtain ⟨x29, hc29, hf⟩ := gj_b hf
    refine ca_X9_isUpward hO  hc29 wk_823 (by decide) (by decide) (Nat.le_of_ble_eq_true rfl) dX9_laysRing_224 ?_
    obtain ⟨hb30, hf⟩ := gj_c hf
    refine gj_zast hO kl_207 kd_207 hb30 dX9_laysRing_227 ?_
    obtain ⟨s31, e31, hf⟩ := gj_b hf
    refine gj_eqS (Option.some.inj e31) ?_
    refine gj_aload_n hO 0 dX9_laysRing_228 rfl rfl ?_
    refine gj_dup hO dX9_laysRing_229 trivial ?_
    refine gt_X9_33 hO wk_822 dX9_laysRing_230 ?_
    refine gj_iconst (v := 1) hO dX9_laysRing_233 (by decide) ?_
    refine gj_iadd hO dX9_laysRing_234 ?_
    refine pt_X9_33 hO wk_822 dX9_laysRing_235 ?_
    refine gj_aload_n hO 0 dX9_laysRing_238 rfl rfl ?_
    refine gj_iload hO 2 dX9_laysRing_239 rfl ?_
    obtain ⟨x32, hc32, hf⟩ := gj_b hf
    refine ca_X9_aboveOf hO  hc32 wk_776 (by decide) (by decide) (Nat.le_of_ble_eq_true rfl) dX9_laysRing_241 ?_
    refine gj_istore (lv2 := [(6, gj_i x32), (0, gj_r 188), (1, gj_i b1)]) hO dX9_laysRing_244 (by decide) rfl ?_
    refine gj_goto (tgt := 188) hO dX9_laysRing_246 (by decide) ?_
    obtain rfl := Option.some.inj hf
    refine gj_sub [1, 2, 0] rfl ?_
    exact K
set_option maxHeartbeats 4000000 in
set_option maxRecDepth 100000 in
theorem sb_X9_laysRing_l263 {E : gj_E} {X : gj_X} {r : Option gj_V} {τ : gj_S} (hO : gj_O E X RX9 cX9_laysRing 8 none 3 67) {b1 : Int32} {a33 : (Int32 × gj_S)} {x : gj_S ⊕ (Int32 × gj_S)} (hf : fb_X9_laysRing_l263 b1 a33 = some x) (K : gj_K (fun z33 => gj_G E X 8 r τ 311 [] [] z33) (fun a33 => gj_G E X 8 r τ 263 [(0, gj_r 188), (1, gj_i b1), (6, gj_i a33.1)] [] a33.2) x) : gj_G E X 8 r τ 263 [(0, gj_r 188), (1, gj_i b1), (6, gj_i a33.1)] [] a33.2 := by
  unfold fb_X9_laysRing_l263 at hf
  refine gj_iload hO 2 dX9_laysRing_263 rfl ?_
  refine gj_aload_n hO 0 dX9_laysRing_265 rfl rfl ?_
  refine gt_X9_33 hO wk_822 dX9_laysRing_266 ?_
  refine gj_icmp_ge (tgt := 311) hO dX9_laysRing_269 (by decide) (fun h => ?_) (fun h => ?_)
  · replace hf := gj_t h hf
    obtain rfl := Option.some.inj hf
    refine gj_sub [] rfl ?_
    exact K
  · replace hf := gj_f h hf
    refine gj_aload_n hO 0 dX9_laysRing_272 rfl rfl ?_
    refine gj_iload hO 2 dX9_laysRing_273 rfl ?_
    refine gj_iload_n hO 1 dX9_laysRing_275 rfl rfl ?_
    obtain ⟨x35, hc35, hf⟩ := gj_b hf
    refine ca_X9_roomOf hO  hc35 wk_826 (by decide) (by decide) (Nat.le_of_ble_eq_true rfl) dX9_laysRing_276 ?_
    refine gj_istore (lv2 := [(7, gj_i x35), (0, gj_r 188), (1, gj_i b1), (6, gj_i a33.1)]) hO dX9_laysRing_279 (by decide) rfl ?_
    refine gj_iload hO 0 dX9_laysRing_281 rfl ?_
    refine gj_aload_n hO 1 dX9_laysRing_283 rfl rfl ?_
    refine gt_X9_35 hO wk_824 dX9_laysRing_284 ?_
    refine gj_icmp_le (tgt := 293) hO dX9_laysRing_287 (by decide) (fun h => ?_) (fun h => ?_)
    · replace hf := gj_t h hf
      refine gj_aload_n hO 1 dX9_laysRing_293 rfl rfl ?_
      refine gj_iload hO 0 dX9_laysRing_294 rfl ?_
      refine pt_X9_35 hO wk_824 dX9_laysRing_296 ?_
      refine gj_aload_n hO 1 dX9_laysRing_299 rfl rfl ?_
      refine gj_iload hO 3 dX9_laysRing_300 rfl ?_
      refine pt_X9_36 hO wk_825 dX9_laysRing_302 ?_
      refine gj_iinc (v := (a33.1 + 1)) (lv2 := [(6, gj_i (a33.1 + 1)), (7, gj_i x35), (0, gj_r 188), (1, gj_i b1)]) hO 3 dX9_laysRing_305 rfl rfl (by decide) rfl ?_
      refine gj_goto (tgt := 263) hO dX9_laysRing_308 (by decide) ?_
      obtain rfl := Option.some.inj hf
      refine gj_sub [2, 3, 0] rfl ?_
      exact K
    · replace hf := gj_f h hf
      refine gj_goto (tgt := 305) hO dX9_laysRing_290 (by decide) ?_
      refine gj_iinc (v := (a33.1 + 1)) (lv2 := [(6, gj_i (a33.1 + 1)), (7, gj_i x35), (0, gj_r 188), (1, gj_i b1)]) hO 3 dX9_laysRing_305 rfl rfl (by decide) rfl ?_
      refine gj_goto (tgt := 263) hO dX9_laysRing_308 (by decide) ?_
      obtain rfl := Option.some.inj hf
      refine gj_sub [2, 3, 0] rfl ?_
      exact K
set_option maxHeartbeats 4000000 in
set_option maxRecDepth 100000 in
theorem m_X9_laysRing {E : gj_E} {σ : gj_S} {b1 : Int32}  {x : gj_S} (hf : f_X9_laysRing b1 σ = some x) : gj_M E yX9_laysRing cX9_laysRing 8 none 3 67 [gj_r 188, gj_i b1] σ none x := by
  refine gj_body (lv := [(0, gj_r 188), (1, gj_i b1)]) (by decide +kernel) (Nat.le_of_ble_eq_true rfl) rfl (fun X hO => ?_)
  replace hO : gj_O E X RX9 cX9_laysRing 8 none 3 67 := hO
  unfold f_X9_laysRing at hf
  refine gj_aload_n hO 0 dX9_laysRing_0 rfl rfl ?_
  refine gt_X9_21 hO wk_704 dX9_laysRing_1 ?_
  refine gj_bipush (v := 74) hO dX9_laysRing_4 (by decide) ?_
  refine gj_iload_n hO 1 dX9_laysRing_6 rfl rfl ?_
  refine gj_iadd hO dX9_laysRing_7 ?_
  obtain ⟨hb1, hf⟩ := gj_c hf
  refine gj_iald hO kl_198 kd_198 hb1 dX9_laysRing_8 ?_
  refine gj_iconst (v := 1) hO dX9_laysRing_9 (by decide) ?_
  obtain ⟨z2, hz2, hf⟩ := gj_b hf
  have J2 : gj_G E X 8 none x 18 [(0, gj_r 188), (1, gj_i b1)] [gj_i z2] σ := by
    refine gj_istore_n (lv2 := [(2, gj_i z2), (0, gj_r 188), (1, gj_i b1)]) hO dX9_laysRing_18 rfl (by decide) rfl ?_
    refine gj_iload_n hO 0 dX9_laysRing_19 rfl rfl ?_
    obtain ⟨z3, hz3, hf⟩ := gj_b hf
    have J3 : gj_G E X 8 none x 36 [(0, gj_r 188), (1, gj_i b1), (2, gj_i z2)] [gj_i z3] σ := by
      refine gj_istore_n (lv2 := [(3, gj_i z3), (0, gj_r 188), (1, gj_i b1), (2, gj_i z2)]) hO dX9_laysRing_36 rfl (by decide) rfl ?_
      refine gj_iload_n hO 3 dX9_laysRing_37 rfl rfl ?_
      obtain ⟨z6, hz6, hf⟩ := gj_b hf
      have J6 : gj_G E X 8 none x 54 [(0, gj_r 188), (1, gj_i b1), (2, gj_i z2), (3, gj_i z3)] [gj_i z6] σ := by
        refine gj_istore (lv2 := [(4, gj_i z6), (0, gj_r 188), (1, gj_i b1), (2, gj_i z2), (3, gj_i z3)]) hO dX9_laysRing_54 (by decide) rfl ?_
        refine gj_aload_n hO 1 dX9_laysRing_56 rfl rfl ?_
        refine gj_aload_n hO 1 dX9_laysRing_57 rfl rfl ?_
        refine gj_iload_n hO 4 dX9_laysRing_58 rfl rfl ?_
        refine gj_iload hO 0 dX9_laysRing_59 rfl ?_
        obtain ⟨x9, hc9, hf⟩ := gj_b hf
        refine ca_X9_apexOf hO  hc9 wk_820 (by decide) (by decide) (Nat.le_of_ble_eq_true rfl) dX9_laysRing_61 ?_
        refine pt_X9_34 hO wk_821 dX9_laysRing_64 ?_
        refine gj_aload_n hO 1 dX9_laysRing_67 rfl rfl ?_
        refine gj_aload_n hO 1 dX9_laysRing_68 rfl rfl ?_
        refine gt_X9_28 hO wk_742 dX9_laysRing_69 ?_
        refine gj_iload_n hO 4 dX9_laysRing_72 rfl rfl ?_
        obtain ⟨hb10, hf⟩ := gj_c hf
        refine gj_iald hO kl_204 kd_204 hb10 dX9_laysRing_73 ?_
        refine gj_aload_n hO 1 dX9_laysRing_74 rfl rfl ?_
        refine gt_X9_28 hO wk_742 dX9_laysRing_75 ?_
        refine gj_aload_n hO 1 dX9_laysRing_78 rfl rfl ?_
        refine gt_X9_34 hO wk_821 dX9_laysRing_79 ?_
        obtain ⟨hb11, hf⟩ := gj_c hf
        refine gj_iald hO kl_204 kd_204 hb11 dX9_laysRing_82 ?_
        refine gj_isub hO dX9_laysRing_83 ?_
        refine pt_X9_33 hO wk_822 dX9_laysRing_84 ?_
        obtain ⟨s12, e12, hf⟩ := gj_b hf
        refine gj_eqS (Option.some.inj e12) ?_
        refine gj_aload_n hO 1 dX9_laysRing_87 rfl rfl ?_
        refine gt_X9_33 hO wk_822 dX9_laysRing_88 ?_
        refine gj_istore (lv2 := [(5, gj_i (s12.1 188 33)), (4, gj_i z6), (0, gj_r 188), (1, gj_i b1), (2, gj_i z2), (3, gj_i z3)]) hO dX9_laysRing_91 (by decide) rfl ?_
        refine gj_iload_n hO 5 dX9_laysRing_93 rfl rfl ?_
        refine gj_istore (lv2 := [(6, gj_i z3), (5, gj_i (s12.1 188 33)), (4, gj_i z6), (0, gj_r 188), (1, gj_i b1), (2, gj_i z2), (3, gj_i z3)]) hO dX9_laysRing_94 (by decide) rfl ?_
        obtain ⟨z13, hz13, hf⟩ := gj_b hf
        have J13 : gj_G E X 8 none x 154 [(0, gj_r 188), (1, gj_i b1), (2, gj_i z2), (4, gj_i z6)] [] z13 := by
          refine gj_aload_n hO 0 dX9_laysRing_154 rfl rfl ?_
          refine gt_X9_31 hO wk_814 dX9_laysRing_155 ?_
          refine gj_aload_n hO 0 dX9_laysRing_158 rfl rfl ?_
          refine gt_X9_33 hO wk_822 dX9_laysRing_159 ?_
          refine gj_iload_n hO 1 dX9_laysRing_162 rfl rfl ?_
          obtain ⟨hb22, hf⟩ := gj_c hf
          refine gj_iast hO kl_206 kd_206 hb22 dX9_laysRing_163 ?_
          refine gj_aload_n hO 0 dX9_laysRing_164 rfl rfl ?_
          refine gt_X9_32 hO wk_815 dX9_laysRing_165 ?_
          refine gj_aload_n hO 0 dX9_laysRing_168 rfl rfl ?_
          refine gt_X9_33 hO wk_822 dX9_laysRing_169 ?_
          refine gj_iload_n hO 2 dX9_laysRing_172 rfl rfl ?_
          obtain ⟨hb23, hf⟩ := gj_c hf
          refine gj_zast hO kl_207 kd_207 hb23 dX9_laysRing_173 ?_
          obtain ⟨s24, e24, hf⟩ := gj_b hf
          refine gj_eqS (Option.some.inj e24) ?_
          refine gj_aload_n hO 0 dX9_laysRing_174 rfl rfl ?_
          refine gj_dup hO dX9_laysRing_175 trivial ?_
          refine gt_X9_33 hO wk_822 dX9_laysRing_176 ?_
          refine gj_iconst (v := 1) hO dX9_laysRing_179 (by decide) ?_
          refine gj_iadd hO dX9_laysRing_180 ?_
          refine pt_X9_33 hO wk_822 dX9_laysRing_181 ?_
          refine gj_iload hO 3 dX9_laysRing_184 rfl ?_
          refine gj_istore (lv2 := [(6, gj_i z6), (0, gj_r 188), (1, gj_i b1), (2, gj_i z2), (4, gj_i z6)]) hO dX9_laysRing_186 (by decide) rfl ?_
          obtain ⟨z25, hz25, hf⟩ := gj_b hf
          have J25 : gj_G E X 8 none x 249 [(0, gj_r 188), (1, gj_i b1)] [] z25 := by
            refine gj_aload_n hO 0 dX9_laysRing_249 rfl rfl ?_
            refine gj_ldc hO wk_737 dX9_laysRing_250 ?_
            refine pt_X9_35 hO wk_824 dX9_laysRing_252 ?_
            refine gj_aload_n hO 0 dX9_laysRing_255 rfl rfl ?_
            refine gj_iconst (v := (-1)) hO dX9_laysRing_256 (by decide) ?_
            refine pt_X9_36 hO wk_825 dX9_laysRing_257 ?_
            refine gj_iconst (v := 0) hO dX9_laysRing_260 (by decide) ?_
            refine gj_istore (lv2 := [(6, gj_i (0 : Int32)), (0, gj_r 188), (1, gj_i b1)]) hO dX9_laysRing_261 (by decide) rfl ?_
            obtain ⟨z33, hz33, hf⟩ := gj_b hf
            have J33 : gj_G E X 8 none x 311 [] [] z33 := by
              obtain rfl := Option.some.inj hf
              exact gj_vret hO dX9_laysRing_311
            refine gj_sub [1, 2, 0] rfl ?_
            exact gj_loop (head := fun a33 => gj_G E X 8 none x 263 [(0, gj_r 188), (1, gj_i b1), (6, gj_i a33.1)] [] a33.2) (exit := fun z33 => gj_G E X 8 none x 311 [] [] z33) (fun a33 x hf K => sb_X9_laysRing_l263 hO hf K) _ _ _ hz33 J33
          refine gj_sub [1, 2, 0] rfl ?_
          exact gj_loop (head := fun a25 => gj_G E X 8 none x 188 [(0, gj_r 188), (1, gj_i b1), (6, gj_i a25.1)] [] a25.2) (exit := fun z25 => gj_G E X 8 none x 249 [(0, gj_r 188), (1, gj_i b1)] [] z25) (fun a25 x hf K => sb_X9_laysRing_l188 hO hf K) _ _ _ hz25 J25
        refine gj_sub [3, 4, 5, 2, 1, 0] rfl ?_
        exact gj_loop (head := fun a13 => gj_G E X 8 none x 96 [(0, gj_r 188), (1, gj_i b1), (2, gj_i z2), (4, gj_i z6), (5, gj_i a13.1), (6, gj_i a13.2.1)] [] a13.2.2) (exit := fun z13 => gj_G E X 8 none x 154 [(0, gj_r 188), (1, gj_i b1), (2, gj_i z2), (4, gj_i z6)] [] z13) (fun a13 x hf K => sb_X9_laysRing_l96 hO hf K) _ _ _ hz13 J13
      refine gj_if_eq (tgt := 49) hO dX9_laysRing_38 (by decide) (fun h => ?_) (fun h => ?_)
      · replace hz6 := gj_t h hz6
        refine gj_aload_n hO 1 dX9_laysRing_49 rfl rfl ?_
        refine gj_iload_n hO 2 dX9_laysRing_50 rfl rfl ?_
        obtain ⟨x7, hc7, hz6⟩ := gj_b hz6
        refine ca_X9_beginOf hO  hc7 wk_747 (by decide) (by decide) (Nat.le_of_ble_eq_true rfl) dX9_laysRing_51 ?_
        obtain rfl := Option.some.inj hz6
        refine gj_sub [1, 2, 3, 0] rfl ?_
        exact J6
      · replace hz6 := gj_f h hz6
        refine gj_aload_n hO 1 dX9_laysRing_41 rfl rfl ?_
        refine gj_iload_n hO 2 dX9_laysRing_42 rfl rfl ?_
        obtain ⟨x8, hc8, hz6⟩ := gj_b hz6
        refine ca_X9_endOf hO  hc8 wk_748 (by decide) (by decide) (Nat.le_of_ble_eq_true rfl) dX9_laysRing_43 ?_
        refine gj_goto (tgt := 54) hO dX9_laysRing_46 (by decide) ?_
        obtain rfl := Option.some.inj hz6
        refine gj_sub [1, 2, 3, 0] rfl ?_
        exact J6
    refine gj_if_eq (tgt := 31) hO dX9_laysRing_20 (by decide) (fun h => ?_) (fun h => ?_)
    · replace hz3 := gj_t h hz3
      refine gj_aload_n hO 1 dX9_laysRing_31 rfl rfl ?_
      refine gj_iload_n hO 2 dX9_laysRing_32 rfl rfl ?_
      obtain ⟨x4, hc4, hz3⟩ := gj_b hz3
      refine ca_X9_endOf hO  hc4 wk_748 (by decide) (by decide) (Nat.le_of_ble_eq_true rfl) dX9_laysRing_33 ?_
      obtain rfl := Option.some.inj hz3
      refine gj_sub [1, 2, 0] rfl ?_
      exact J3
    · replace hz3 := gj_f h hz3
      refine gj_aload_n hO 1 dX9_laysRing_23 rfl rfl ?_
      refine gj_iload_n hO 2 dX9_laysRing_24 rfl rfl ?_
      obtain ⟨x5, hc5, hz3⟩ := gj_b hz3
      refine ca_X9_beginOf hO  hc5 wk_747 (by decide) (by decide) (Nat.le_of_ble_eq_true rfl) dX9_laysRing_25 ?_
      refine gj_goto (tgt := 36) hO dX9_laysRing_28 (by decide) ?_
      obtain rfl := Option.some.inj hz3
      refine gj_sub [1, 2, 0] rfl ?_
      exact J3
  refine gj_icmp_ne (tgt := 17) hO dX9_laysRing_10 (by decide) (fun h => ?_) (fun h => ?_)
  · replace hz2 := gj_f h hz2
    refine gj_iconst (v := 0) hO dX9_laysRing_17 (by decide) ?_
    obtain rfl := Option.some.inj hz2
    refine gj_sub [0, 1] rfl ?_
    exact J2
  · replace hz2 := gj_t h hz2
    refine gj_iconst (v := 1) hO dX9_laysRing_13 (by decide) ?_
    refine gj_goto (tgt := 18) hO dX9_laysRing_14 (by decide) ?_
    obtain rfl := Option.some.inj hz2
    refine gj_sub [0, 1] rfl ?_
    exact J2
set_option maxHeartbeats 4000000 in
set_option maxRecDepth 100000 in
theorem ca_X9_laysRing {E : gj_E} {X : gj_X} {own : String} {cc : ByteArray} {nL : Nat} {rt : Option FieldType} {fr lo : Nat} {r : Option gj_V} {τ : gj_S} {pc : Nat} {lv : List (Nat × gj_V)} {st : List gj_V} {σ : gj_S} (hO : gj_O E X own cc nL rt fr lo) {b1 : Int32}  {idx : Nat} {x : gj_S} (hf : f_X9_laysRing b1 σ = some x) (hl : Cond.methodLink own idx yX9_laysRing ∈ gj_gw) (hf1 : 4 ≤ fr) (hf2 : 94 ≤ lo) (hcat : ((st.map (gj_tv E.2.1)).map fun v => v.category).sum ≤ 8) (hd : decode cc pc = .ok (.invokevirtual idx, 3)) (k : gj_G E X nL r τ (pc + 3) lv (st) x) : gj_G E X nL r τ pc lv (gj_i b1 :: gj_r 188 :: st) σ :=
  gj_callV hO (o := 188) (vs := [gj_i b1]) (m_X9_laysRing  hf) hl wk_827 wk_828 wk_607 wk_829 kl_188 kd_188 (by decide) (ci := 9) rfl (n := 1) (by decide +kernel) rfl hf1 hf2 rfl hcat hd k
