def f_X2_readEnds (b1 : Int32) (σ : gj_S) : Option (Int32 × gj_S) := ((f_X2_readToken σ).bind fun x1 => ((f_X2_findDock (-1 : Int32) x1).bind fun x2 => (if x2.1 = (-1 : Int32) then some ((0 : Int32), x2.2) else ((f_X2_readToken x2.2).bind fun x3 => ((f_X2_findDock x2.1 x3).bind fun x4 => (if x4.1 = (-1 : Int32) then some ((0 : Int32), x4.2) else (if gj_in b1 24 then (if gj_in b1 24 then ((some (gj_sI (gj_sI x4.2 5 (upd (x4.2.1 5) (Int32.toNatClampNeg b1) x2.1)) 6 (upd ((gj_sI x4.2 5 (upd (x4.2.1 5) (Int32.toNatClampNeg b1) x2.1)).1 6) (Int32.toNatClampNeg b1) x4.1))).bind fun s7 => ((f_X2_readToken s7).bind fun x8 => some ((1 : Int32), x8))) else none) else none)))))))
set_option maxHeartbeats 4000000 in
set_option maxRecDepth 100000 in
theorem m_X2_readEnds {E : gj_E} {σ : gj_S} {b1 : Int32}  {x : (Int32 × gj_S)} (hf : f_X2_readEnds b1 σ = some x) : gj_M E yX2_readEnds cX2_readEnds 4 (some .boolean) 2 43 [gj_r 2, gj_i b1] σ (some (gj_i x.1)) x.2 := by
  refine gj_body (lv := [(0, gj_r 2), (1, gj_i b1)]) (by decide +kernel) (Nat.le_of_ble_eq_true rfl) rfl (fun X hO => ?_)
  replace hO : gj_O E X RX2 cX2_readEnds 4 (some .boolean) 2 43 := hO
  unfold f_X2_readEnds at hf
  refine gj_aload_n hO 0 dX2_readEnds_0 rfl rfl ?_
  obtain ⟨x1, hc1, hf⟩ := gj_b hf
  refine ca_X2_readToken hO  hc1 wk_66 (by decide) (by decide) (Nat.le_of_ble_eq_true rfl) dX2_readEnds_1 ?_
  refine gj_aload_n hO 0 dX2_readEnds_4 rfl rfl ?_
  refine gj_iconst (v := (-1)) hO dX2_readEnds_5 (by decide) ?_
  obtain ⟨x2, hc2, hf⟩ := gj_b hf
  refine ca_X2_findDock hO  hc2 wk_77 (by decide) (by decide) (Nat.le_of_ble_eq_true rfl) dX2_readEnds_6 ?_
  refine gj_istore_n (lv2 := [(2, gj_i x2.1), (0, gj_r 2), (1, gj_i b1)]) hO dX2_readEnds_9 rfl (by decide) rfl ?_
  refine gj_iload_n hO 0 dX2_readEnds_10 rfl rfl ?_
  refine gj_iconst (v := (-1)) hO dX2_readEnds_11 (by decide) ?_
  refine gj_icmp_ne (tgt := 17) hO dX2_readEnds_12 (by decide) (fun h => ?_) (fun h => ?_)
  · replace hf := gj_f h hf
    refine gj_aload_n hO 1 dX2_readEnds_17 rfl rfl ?_
    obtain ⟨x3, hc3, hf⟩ := gj_b hf
    refine ca_X2_readToken hO  hc3 wk_66 (by decide) (by decide) (Nat.le_of_ble_eq_true rfl) dX2_readEnds_18 ?_
    refine gj_aload_n hO 1 dX2_readEnds_21 rfl rfl ?_
    refine gj_iload_n hO 0 dX2_readEnds_22 rfl rfl ?_
    obtain ⟨x4, hc4, hf⟩ := gj_b hf
    refine ca_X2_findDock hO  hc4 wk_77 (by decide) (by decide) (Nat.le_of_ble_eq_true rfl) dX2_readEnds_23 ?_
    refine gj_istore_n (lv2 := [(3, gj_i x4.1), (2, gj_i x2.1), (0, gj_r 2), (1, gj_i b1)]) hO dX2_readEnds_26 rfl (by decide) rfl ?_
    refine gj_iload_n hO 0 dX2_readEnds_27 rfl rfl ?_
    refine gj_iconst (v := (-1)) hO dX2_readEnds_28 (by decide) ?_
    refine gj_icmp_ne (tgt := 34) hO dX2_readEnds_29 (by decide) (fun h => ?_) (fun h => ?_)
    · replace hf := gj_f h hf
      refine gj_aload_n hO 2 dX2_readEnds_34 rfl rfl ?_
      refine gt_X2_0 hO wk_49 dX2_readEnds_35 ?_
      refine gt_X1_6 hO kd_3 kl_3 wk_78 dX2_readEnds_38 ?_
      refine gj_iload_n hO 3 dX2_readEnds_41 rfl rfl ?_
      refine gj_iload_n hO 1 dX2_readEnds_42 rfl rfl ?_
      obtain ⟨hb5, hf⟩ := gj_c hf
      refine gj_iast hO kl_5 kd_5 hb5 dX2_readEnds_43 ?_
      refine gj_aload_n hO 2 dX2_readEnds_44 rfl rfl ?_
      refine gt_X2_0 hO wk_49 dX2_readEnds_45 ?_
      refine gt_X1_7 hO kd_3 kl_3 wk_79 dX2_readEnds_48 ?_
      refine gj_iload_n hO 3 dX2_readEnds_51 rfl rfl ?_
      refine gj_iload_n hO 0 dX2_readEnds_52 rfl rfl ?_
      obtain ⟨hb6, hf⟩ := gj_c hf
      refine gj_iast hO kl_6 kd_6 hb6 dX2_readEnds_53 ?_
      obtain ⟨s7, e7, hf⟩ := gj_b hf
      refine gj_eqS (Option.some.inj e7) ?_
      refine gj_aload_n hO 2 dX2_readEnds_54 rfl rfl ?_
      obtain ⟨x8, hc8, hf⟩ := gj_b hf
      refine ca_X2_readToken hO  hc8 wk_66 (by decide) (by decide) (Nat.le_of_ble_eq_true rfl) dX2_readEnds_55 ?_
      refine gj_iconst (v := 1) hO dX2_readEnds_58 (by decide) ?_
      obtain rfl := Option.some.inj hf
      exact gj_zret hO (Or.inr rfl) dX2_readEnds_59
    · replace hf := gj_t h hf
      refine gj_iconst (v := 0) hO dX2_readEnds_32 (by decide) ?_
      obtain rfl := Option.some.inj hf
      exact gj_zret hO (Or.inl rfl) dX2_readEnds_33
  · replace hf := gj_t h hf
    refine gj_iconst (v := 0) hO dX2_readEnds_15 (by decide) ?_
    obtain rfl := Option.some.inj hf
    exact gj_zret hO (Or.inl rfl) dX2_readEnds_16
set_option maxHeartbeats 4000000 in
set_option maxRecDepth 100000 in
theorem ca_X2_readEnds {E : gj_E} {X : gj_X} {own : String} {cc : ByteArray} {nL : Nat} {rt : Option FieldType} {fr lo : Nat} {r : Option gj_V} {τ : gj_S} {pc : Nat} {lv : List (Nat × gj_V)} {st : List gj_V} {σ : gj_S} (hO : gj_O E X own cc nL rt fr lo) {b1 : Int32}  {idx : Nat} {x : (Int32 × gj_S)} (hf : f_X2_readEnds b1 σ = some x) (hl : Cond.methodLink own idx yX2_readEnds ∈ gj_gw) (hf1 : 3 ≤ fr) (hf2 : 66 ≤ lo) (hcat : ((st.map (gj_tv E.2.1)).map fun v => v.category).sum ≤ 8) (hd : decode cc pc = .ok (.invokevirtual idx, 3)) (k : gj_G E X nL r τ (pc + 3) lv ((gj_i x.1) :: st) x.2) : gj_G E X nL r τ pc lv (gj_i b1 :: gj_r 2 :: st) σ :=
  gj_callV hO (o := 2) (vs := [gj_i b1]) (m_X2_readEnds  hf) hl wk_80 wk_81 wk_18 wk_82 kl_2 kd_2 (by decide) (ci := 2) rfl (n := 1) (by decide +kernel) rfl hf1 hf2 rfl hcat hd k
def f_X2_passWord (b1 : Int64) (σ : gj_S) : Option (Int32 × gj_S) := ((f_X2_isWord b1 σ).bind fun x1 => (if x1 = 0 then ((f_X2_fails (1 : Int32) σ).bind fun x3 => (if x3.1 = 0 ∨ x3.1 = 1 then some (x3.1, x3.2) else none)) else ((f_X2_readToken σ).bind fun x2 => some ((1 : Int32), x2))))
set_option maxHeartbeats 4000000 in
set_option maxRecDepth 100000 in
theorem m_X2_passWord {E : gj_E} {σ : gj_S} {b1 : Int64}  {x : (Int32 × gj_S)} (hf : f_X2_passWord b1 σ = some x) : gj_M E yX2_passWord cX2_passWord 3 (some .boolean) 2 41 [gj_r 2, gj_l b1] σ (some (gj_i x.1)) x.2 := by
  refine gj_body (lv := [(0, gj_r 2), (1, gj_l b1)]) (by decide +kernel) (Nat.le_of_ble_eq_true rfl) rfl (fun X hO => ?_)
  replace hO : gj_O E X RX2 cX2_passWord 3 (some .boolean) 2 41 := hO
  unfold f_X2_passWord at hf
  refine gj_aload_n hO 0 dX2_passWord_0 rfl rfl ?_
  refine gj_lload_n hO 1 dX2_passWord_1 rfl rfl ?_
  obtain ⟨x1, hc1, hf⟩ := gj_b hf
  refine ca_X2_isWord hO  hc1 wk_69 (by decide) (by decide) (Nat.le_of_ble_eq_true rfl) dX2_passWord_2 ?_
  refine gj_if_ne (tgt := 14) hO dX2_passWord_5 (by decide) (fun h => ?_) (fun h => ?_)
  · replace hf := gj_f h hf
    refine gj_aload_n hO 0 dX2_passWord_14 rfl rfl ?_
    obtain ⟨x2, hc2, hf⟩ := gj_b hf
    refine ca_X2_readToken hO  hc2 wk_66 (by decide) (by decide) (Nat.le_of_ble_eq_true rfl) dX2_passWord_15 ?_
    refine gj_iconst (v := 1) hO dX2_passWord_18 (by decide) ?_
    obtain rfl := Option.some.inj hf
    exact gj_zret hO (Or.inr rfl) dX2_passWord_19
  · replace hf := gj_t h hf
    refine gj_aload_n hO 0 dX2_passWord_8 rfl rfl ?_
    refine gj_iconst (v := 1) hO dX2_passWord_9 (by decide) ?_
    obtain ⟨x3, hc3, hf⟩ := gj_b hf
    refine ca_X2_fails hO  hc3 wk_59 (by decide) (by decide) (Nat.le_of_ble_eq_true rfl) dX2_passWord_10 ?_
    obtain ⟨hb4, hf⟩ := gj_c hf
    obtain rfl := Option.some.inj hf
    exact gj_zret hO hb4 dX2_passWord_13
set_option maxHeartbeats 4000000 in
set_option maxRecDepth 100000 in
theorem ca_X2_passWord {E : gj_E} {X : gj_X} {own : String} {cc : ByteArray} {nL : Nat} {rt : Option FieldType} {fr lo : Nat} {r : Option gj_V} {τ : gj_S} {pc : Nat} {lv : List (Nat × gj_V)} {st : List gj_V} {σ : gj_S} (hO : gj_O E X own cc nL rt fr lo) {b1 : Int64}  {idx : Nat} {x : (Int32 × gj_S)} (hf : f_X2_passWord b1 σ = some x) (hl : Cond.methodLink own idx yX2_passWord ∈ gj_gw) (hf1 : 3 ≤ fr) (hf2 : 63 ≤ lo) (hcat : ((st.map (gj_tv E.2.1)).map fun v => v.category).sum ≤ 8) (hd : decode cc pc = .ok (.invokevirtual idx, 3)) (k : gj_G E X nL r τ (pc + 3) lv ((gj_i x.1) :: st) x.2) : gj_G E X nL r τ pc lv (gj_l b1 :: gj_r 2 :: st) σ :=
  gj_callV hO (o := 2) (vs := [gj_l b1]) (m_X2_passWord  hf) hl wk_83 wk_84 wk_18 wk_85 kl_2 kd_2 (by decide) (ci := 2) rfl (n := 1) (by decide +kernel) rfl hf1 hf2 rfl hcat hd k
def f_X2_readNumbers (b1 : Int32) (σ : gj_S) : Option (Int32 × gj_S) := ((f_X2_passWord (427071599731 : Int64) σ).bind fun x1 => (if x1.1 = 0 then some ((0 : Int32), x1.2) else ((f_X2_isNumber (0 : Int32) (999 : Int32) x1.2).bind fun x2 => (if x2.1 = 0 then some ((0 : Int32), x2.2) else (if gj_in b1 24 then ((f_X2_readToken (gj_sI x2.2 7 (upd (x2.2.1 7) (Int32.toNatClampNeg b1) (Int64.toInt32 (x2.2.2.1 2 9))))).bind fun x4 => ((f_X2_passWord (448545973363 : Int64) x4).bind fun x5 => (if x5.1 = 0 then some ((0 : Int32), x5.2) else ((f_X2_isNumber (1 : Int32) (999 : Int32) x5.2).bind fun x6 => (if x6.1 = 0 then some ((0 : Int32), x6.2) else (if gj_in b1 24 then ((f_X2_readToken (gj_sI x6.2 8 (upd (x6.2.1 8) (Int32.toNatClampNeg b1) (Int64.toInt32 (x6.2.2.1 2 9))))).bind fun x8 => some ((1 : Int32), x8)) else none)))))) else none)))))
set_option maxHeartbeats 4000000 in
set_option maxRecDepth 100000 in
theorem m_X2_readNumbers {E : gj_E} {σ : gj_S} {b1 : Int32}  {x : (Int32 × gj_S)} (hf : f_X2_readNumbers b1 σ = some x) : gj_M E yX2_readNumbers cX2_readNumbers 2 (some .boolean) 3 63 [gj_r 2, gj_i b1] σ (some (gj_i x.1)) x.2 := by
  refine gj_body (lv := [(0, gj_r 2), (1, gj_i b1)]) (by decide +kernel) (Nat.le_of_ble_eq_true rfl) rfl (fun X hO => ?_)
  replace hO : gj_O E X RX2 cX2_readNumbers 2 (some .boolean) 3 63 := hO
  unfold f_X2_readNumbers at hf
  refine gj_aload_n hO 0 dX2_readNumbers_0 rfl rfl ?_
  refine gj_ldc2 hO wk_43 dX2_readNumbers_1 ?_
  obtain ⟨x1, hc1, hf⟩ := gj_b hf
  refine ca_X2_passWord hO  hc1 wk_86 (by decide) (by decide) (Nat.le_of_ble_eq_true rfl) dX2_readNumbers_4 ?_
  refine gj_if_eq (tgt := 21) hO dX2_readNumbers_7 (by decide) (fun h => ?_) (fun h => ?_)
  · replace hf := gj_t h hf
    refine gj_iconst (v := 0) hO dX2_readNumbers_21 (by decide) ?_
    obtain rfl := Option.some.inj hf
    exact gj_zret hO (Or.inl rfl) dX2_readNumbers_22
  · replace hf := gj_f h hf
    refine gj_aload_n hO 0 dX2_readNumbers_10 rfl rfl ?_
    refine gj_iconst (v := 0) hO dX2_readNumbers_11 (by decide) ?_
    refine gj_sipush (v := 999) hO dX2_readNumbers_12 (by decide) ?_
    obtain ⟨x2, hc2, hf⟩ := gj_b hf
    refine ca_X2_isNumber hO  hc2 wk_70 (by decide) (by decide) (Nat.le_of_ble_eq_true rfl) dX2_readNumbers_15 ?_
    refine gj_if_ne (tgt := 23) hO dX2_readNumbers_18 (by decide) (fun h => ?_) (fun h => ?_)
    · replace hf := gj_f h hf
      refine gj_aload_n hO 0 dX2_readNumbers_23 rfl rfl ?_
      refine gt_X2_0 hO wk_49 dX2_readNumbers_24 ?_
      refine gt_X1_8 hO kd_3 kl_3 wk_87 dX2_readNumbers_27 ?_
      refine gj_iload_n hO 1 dX2_readNumbers_30 rfl rfl ?_
      refine gj_aload_n hO 0 dX2_readNumbers_31 rfl rfl ?_
      refine gt_X2_9 hO wk_24 dX2_readNumbers_32 ?_
      refine gj_l2i hO dX2_readNumbers_35 ?_
      obtain ⟨hb3, hf⟩ := gj_c hf
      refine gj_iast hO kl_7 kd_7 hb3 dX2_readNumbers_36 ?_
      refine gj_aload_n hO 0 dX2_readNumbers_37 rfl rfl ?_
      obtain ⟨x4, hc4, hf⟩ := gj_b hf
      refine ca_X2_readToken hO  hc4 wk_66 (by decide) (by decide) (Nat.le_of_ble_eq_true rfl) dX2_readNumbers_38 ?_
      refine gj_aload_n hO 0 dX2_readNumbers_41 rfl rfl ?_
      refine gj_ldc2 hO wk_44 dX2_readNumbers_42 ?_
      obtain ⟨x5, hc5, hf⟩ := gj_b hf
      refine ca_X2_passWord hO  hc5 wk_86 (by decide) (by decide) (Nat.le_of_ble_eq_true rfl) dX2_readNumbers_45 ?_
      refine gj_if_eq (tgt := 62) hO dX2_readNumbers_48 (by decide) (fun h => ?_) (fun h => ?_)
      · replace hf := gj_t h hf
        refine gj_iconst (v := 0) hO dX2_readNumbers_62 (by decide) ?_
        obtain rfl := Option.some.inj hf
        exact gj_zret hO (Or.inl rfl) dX2_readNumbers_63
      · replace hf := gj_f h hf
        refine gj_aload_n hO 0 dX2_readNumbers_51 rfl rfl ?_
        refine gj_iconst (v := 1) hO dX2_readNumbers_52 (by decide) ?_
        refine gj_sipush (v := 999) hO dX2_readNumbers_53 (by decide) ?_
        obtain ⟨x6, hc6, hf⟩ := gj_b hf
        refine ca_X2_isNumber hO  hc6 wk_70 (by decide) (by decide) (Nat.le_of_ble_eq_true rfl) dX2_readNumbers_56 ?_
        refine gj_if_ne (tgt := 64) hO dX2_readNumbers_59 (by decide) (fun h => ?_) (fun h => ?_)
        · replace hf := gj_f h hf
          refine gj_aload_n hO 0 dX2_readNumbers_64 rfl rfl ?_
          refine gt_X2_0 hO wk_49 dX2_readNumbers_65 ?_
          refine gt_X1_9 hO kd_3 kl_3 wk_88 dX2_readNumbers_68 ?_
          refine gj_iload_n hO 1 dX2_readNumbers_71 rfl rfl ?_
          refine gj_aload_n hO 0 dX2_readNumbers_72 rfl rfl ?_
          refine gt_X2_9 hO wk_24 dX2_readNumbers_73 ?_
          refine gj_l2i hO dX2_readNumbers_76 ?_
          obtain ⟨hb7, hf⟩ := gj_c hf
          refine gj_iast hO kl_8 kd_8 hb7 dX2_readNumbers_77 ?_
          refine gj_aload_n hO 0 dX2_readNumbers_78 rfl rfl ?_
          obtain ⟨x8, hc8, hf⟩ := gj_b hf
          refine ca_X2_readToken hO  hc8 wk_66 (by decide) (by decide) (Nat.le_of_ble_eq_true rfl) dX2_readNumbers_79 ?_
          refine gj_iconst (v := 1) hO dX2_readNumbers_82 (by decide) ?_
          obtain rfl := Option.some.inj hf
          exact gj_zret hO (Or.inr rfl) dX2_readNumbers_83
        · replace hf := gj_t h hf
          refine gj_iconst (v := 0) hO dX2_readNumbers_62 (by decide) ?_
          obtain rfl := Option.some.inj hf
          exact gj_zret hO (Or.inl rfl) dX2_readNumbers_63
    · replace hf := gj_t h hf
      refine gj_iconst (v := 0) hO dX2_readNumbers_21 (by decide) ?_
      obtain rfl := Option.some.inj hf
      exact gj_zret hO (Or.inl rfl) dX2_readNumbers_22
set_option maxHeartbeats 4000000 in
set_option maxRecDepth 100000 in
theorem ca_X2_readNumbers {E : gj_E} {X : gj_X} {own : String} {cc : ByteArray} {nL : Nat} {rt : Option FieldType} {fr lo : Nat} {r : Option gj_V} {τ : gj_S} {pc : Nat} {lv : List (Nat × gj_V)} {st : List gj_V} {σ : gj_S} (hO : gj_O E X own cc nL rt fr lo) {b1 : Int32}  {idx : Nat} {x : (Int32 × gj_S)} (hf : f_X2_readNumbers b1 σ = some x) (hl : Cond.methodLink own idx yX2_readNumbers ∈ gj_gw) (hf1 : 4 ≤ fr) (hf2 : 84 ≤ lo) (hcat : ((st.map (gj_tv E.2.1)).map fun v => v.category).sum ≤ 8) (hd : decode cc pc = .ok (.invokevirtual idx, 3)) (k : gj_G E X nL r τ (pc + 3) lv ((gj_i x.1) :: st) x.2) : gj_G E X nL r τ pc lv (gj_i b1 :: gj_r 2 :: st) σ :=
  gj_callV hO (o := 2) (vs := [gj_i b1]) (m_X2_readNumbers  hf) hl wk_89 wk_90 wk_18 wk_91 kl_2 kd_2 (by decide) (ci := 2) rfl (n := 1) (by decide +kernel) rfl hf1 hf2 rfl hcat hd k
def f_X2_readRoute  (σ : gj_S) : Option (Int32 × gj_S) := (if (σ.1 3 1) < (16 : Int32) then ((f_X2_readToken σ).bind fun x1 => ((f_X2_isNewName x1).bind fun x2 => (if x2.1 = 0 then some ((0 : Int32), x2.2) else (if gj_in (x2.2.1 3 1) 16 then ((some (gj_sI (gj_sJ x2.2 12 (vp_updL (x2.2.2.1 12) (Int32.toNatClampNeg (x2.2.1 3 1)) (x2.2.2.1 2 9))) 3 (upd ((gj_sJ x2.2 12 (vp_updL (x2.2.2.1 12) (Int32.toNatClampNeg (x2.2.1 3 1)) (x2.2.2.1 2 9))).1 3) 1 (((gj_sJ x2.2 12 (vp_updL (x2.2.2.1 12) (Int32.toNatClampNeg (x2.2.1 3 1)) (x2.2.2.1 2 9))).1 3 1) + (1 : Int32))))).bind fun s4 => ((f_X2_readEnds (x2.2.1 3 1) s4).bind fun x5 => (if x5.1 = 0 then some ((0 : Int32), x5.2) else ((f_X2_readNumbers (x2.2.1 3 1) x5.2).bind fun x6 => (if x6.1 = 0 then some ((0 : Int32), x6.2) else some ((1 : Int32), x6.2)))))) else none)))) else ((f_X2_fails (5 : Int32) σ).bind fun x7 => (if x7.1 = 0 ∨ x7.1 = 1 then some (x7.1, x7.2) else none)))
set_option maxHeartbeats 4000000 in
set_option maxRecDepth 100000 in
theorem m_X2_readRoute {E : gj_E} {σ : gj_S}   {x : (Int32 × gj_S)} (hf : f_X2_readRoute  σ = some x) : gj_M E yX2_readRoute cX2_readRoute 2 (some .boolean) 4 84 [gj_r 2] σ (some (gj_i x.1)) x.2 := by
  refine gj_body (lv := [(0, gj_r 2)]) (by decide +kernel) (Nat.le_of_ble_eq_true rfl) rfl (fun X hO => ?_)
  replace hO : gj_O E X RX2 cX2_readRoute 2 (some .boolean) 4 84 := hO
  unfold f_X2_readRoute at hf
  refine gj_aload_n hO 0 dX2_readRoute_0 rfl rfl ?_
  refine gt_X2_0 hO wk_49 dX2_readRoute_1 ?_
  refine gt_X1_1 hO kd_3 kl_3 wk_57 dX2_readRoute_4 ?_
  refine gj_bipush (v := 16) hO dX2_readRoute_7 (by decide) ?_
  refine gj_icmp_lt (tgt := 18) hO dX2_readRoute_9 (by decide) (fun h => ?_) (fun h => ?_)
  · replace hf := gj_t h hf
    refine gj_aload_n hO 0 dX2_readRoute_18 rfl rfl ?_
    obtain ⟨x1, hc1, hf⟩ := gj_b hf
    refine ca_X2_readToken hO  hc1 wk_66 (by decide) (by decide) (Nat.le_of_ble_eq_true rfl) dX2_readRoute_19 ?_
    refine gj_aload_n hO 0 dX2_readRoute_22 rfl rfl ?_
    obtain ⟨x2, hc2, hf⟩ := gj_b hf
    refine ca_X2_isNewName hO  hc2 wk_67 (by decide) (by decide) (Nat.le_of_ble_eq_true rfl) dX2_readRoute_23 ?_
    refine gj_if_ne (tgt := 31) hO dX2_readRoute_26 (by decide) (fun h => ?_) (fun h => ?_)
    · replace hf := gj_f h hf
      refine gj_aload_n hO 0 dX2_readRoute_31 rfl rfl ?_
      refine gt_X2_0 hO wk_49 dX2_readRoute_32 ?_
      refine gt_X1_1 hO kd_3 kl_3 wk_57 dX2_readRoute_35 ?_
      refine gj_istore_n (lv2 := [(1, gj_i (x2.2.1 3 1)), (0, gj_r 2)]) hO dX2_readRoute_38 rfl (by decide) rfl ?_
      refine gj_aload_n hO 1 dX2_readRoute_39 rfl rfl ?_
      refine gt_X2_1 hO wk_58 dX2_readRoute_40 ?_
      refine gj_iload_n hO 0 dX2_readRoute_43 rfl rfl ?_
      refine gj_aload_n hO 1 dX2_readRoute_44 rfl rfl ?_
      refine gt_X2_9 hO wk_24 dX2_readRoute_45 ?_
      obtain ⟨hb3, hf⟩ := gj_c hf
      refine gj_last hO kl_12 kd_12 hb3 dX2_readRoute_48 ?_
      refine gj_aload_n hO 1 dX2_readRoute_49 rfl rfl ?_
      refine gt_X2_0 hO wk_49 dX2_readRoute_50 ?_
      refine gj_dup hO dX2_readRoute_53 trivial ?_
      refine gt_X1_1 hO kd_3 kl_3 wk_57 dX2_readRoute_54 ?_
      refine gj_iconst (v := 1) hO dX2_readRoute_57 (by decide) ?_
      refine gj_iadd hO dX2_readRoute_58 ?_
      refine pt_X1_1 hO kd_3 kl_3 wk_57 dX2_readRoute_59 ?_
      obtain ⟨s4, e4, hf⟩ := gj_b hf
      refine gj_eqS (Option.some.inj e4) ?_
      refine gj_aload_n hO 1 dX2_readRoute_62 rfl rfl ?_
      refine gj_iload_n hO 0 dX2_readRoute_63 rfl rfl ?_
      obtain ⟨x5, hc5, hf⟩ := gj_b hf
      refine ca_X2_readEnds hO  hc5 wk_92 (by decide) (by decide) (Nat.le_of_ble_eq_true rfl) dX2_readRoute_64 ?_
      refine gj_if_eq (tgt := 82) hO dX2_readRoute_67 (by decide) (fun h => ?_) (fun h => ?_)
      · replace hf := gj_t h hf
        refine gj_iconst (v := 0) hO dX2_readRoute_82 (by decide) ?_
        obtain rfl := Option.some.inj hf
        exact gj_zret hO (Or.inl rfl) dX2_readRoute_83
      · replace hf := gj_f h hf
        refine gj_aload_n hO 1 dX2_readRoute_70 rfl rfl ?_
        refine gj_iload_n hO 0 dX2_readRoute_71 rfl rfl ?_
        obtain ⟨x6, hc6, hf⟩ := gj_b hf
        refine ca_X2_readNumbers hO  hc6 wk_93 (by decide) (by decide) (Nat.le_of_ble_eq_true rfl) dX2_readRoute_72 ?_
        refine gj_if_eq (tgt := 82) hO dX2_readRoute_75 (by decide) (fun h => ?_) (fun h => ?_)
        · replace hf := gj_t h hf
          refine gj_iconst (v := 0) hO dX2_readRoute_82 (by decide) ?_
          obtain rfl := Option.some.inj hf
          exact gj_zret hO (Or.inl rfl) dX2_readRoute_83
        · replace hf := gj_f h hf
          refine gj_iconst (v := 1) hO dX2_readRoute_78 (by decide) ?_
          refine gj_goto (tgt := 83) hO dX2_readRoute_79 (by decide) ?_
          obtain rfl := Option.some.inj hf
          exact gj_zret hO (Or.inr rfl) dX2_readRoute_83
    · replace hf := gj_t h hf
      refine gj_iconst (v := 0) hO dX2_readRoute_29 (by decide) ?_
      obtain rfl := Option.some.inj hf
      exact gj_zret hO (Or.inl rfl) dX2_readRoute_30
  · replace hf := gj_f h hf
    refine gj_aload_n hO 0 dX2_readRoute_12 rfl rfl ?_
    refine gj_iconst (v := 5) hO dX2_readRoute_13 (by decide) ?_
    obtain ⟨x7, hc7, hf⟩ := gj_b hf
    refine ca_X2_fails hO  hc7 wk_59 (by decide) (by decide) (Nat.le_of_ble_eq_true rfl) dX2_readRoute_14 ?_
    obtain ⟨hb8, hf⟩ := gj_c hf
    obtain rfl := Option.some.inj hf
    exact gj_zret hO hb8 dX2_readRoute_17
set_option maxHeartbeats 4000000 in
set_option maxRecDepth 100000 in
theorem ca_X2_readRoute {E : gj_E} {X : gj_X} {own : String} {cc : ByteArray} {nL : Nat} {rt : Option FieldType} {fr lo : Nat} {r : Option gj_V} {τ : gj_S} {pc : Nat} {lv : List (Nat × gj_V)} {st : List gj_V} {σ : gj_S} (hO : gj_O E X own cc nL rt fr lo)   {idx : Nat} {x : (Int32 × gj_S)} (hf : f_X2_readRoute  σ = some x) (hl : Cond.methodLink own idx yX2_readRoute ∈ gj_gw) (hf1 : 5 ≤ fr) (hf2 : 105 ≤ lo) (hcat : ((st.map (gj_tv E.2.1)).map fun v => v.category).sum ≤ 8) (hd : decode cc pc = .ok (.invokevirtual idx, 3)) (k : gj_G E X nL r τ (pc + 3) lv ((gj_i x.1) :: st) x.2) : gj_G E X nL r τ pc lv (gj_r 2 :: st) σ :=
  gj_callV hO (o := 2) (vs := []) (m_X2_readRoute  hf) hl wk_94 wk_95 wk_18 wk_96 kl_2 kd_2 (by decide) (ci := 2) rfl (n := 0) (by decide +kernel) rfl hf1 hf2 rfl hcat hd k
def f_X2_readBlock  (σ : gj_S) : Option (Int32 × gj_S) := (if (σ.1 2 3) = 0 then ((f_X2_readToken (gj_sI σ 2 (upd (σ.1 2) 3 (1 : Int32)))).bind fun x1 => ((f_X2_isNumber (1 : Int32) (24 : Int32) x1).bind fun x2 => (if x2.1 = 0 then some ((0 : Int32), x2.2) else ((f_X2_readToken (gj_sI x2.2 3 (upd (x2.2.1 3) 2 (Int64.toInt32 (x2.2.2.1 2 9))))).bind fun x3 => some ((1 : Int32), x3))))) else ((f_X2_fails (2 : Int32) σ).bind fun x4 => (if x4.1 = 0 ∨ x4.1 = 1 then some (x4.1, x4.2) else none)))
set_option maxHeartbeats 4000000 in
set_option maxRecDepth 100000 in
theorem m_X2_readBlock {E : gj_E} {σ : gj_S}   {x : (Int32 × gj_S)} (hf : f_X2_readBlock  σ = some x) : gj_M E yX2_readBlock cX2_readBlock 1 (some .boolean) 2 43 [gj_r 2] σ (some (gj_i x.1)) x.2 := by
  refine gj_body (lv := [(0, gj_r 2)]) (by decide +kernel) (Nat.le_of_ble_eq_true rfl) rfl (fun X hO => ?_)
  replace hO : gj_O E X RX2 cX2_readBlock 1 (some .boolean) 2 43 := hO
  unfold f_X2_readBlock at hf
  refine gj_aload_n hO 0 dX2_readBlock_0 rfl rfl ?_
  refine gt_X2_3 hO wk_97 dX2_readBlock_1 ?_
  refine gj_if_eq (tgt := 13) hO dX2_readBlock_4 (by decide) (fun h => ?_) (fun h => ?_)
  · replace hf := gj_t h hf
    refine gj_aload_n hO 0 dX2_readBlock_13 rfl rfl ?_
    refine gj_iconst (v := 1) hO dX2_readBlock_14 (by decide) ?_
    refine pt_X2_3 hO (Or.inr rfl) wk_97 dX2_readBlock_15 ?_
    refine gj_aload_n hO 0 dX2_readBlock_18 rfl rfl ?_
    obtain ⟨x1, hc1, hf⟩ := gj_b hf
    refine ca_X2_readToken hO  hc1 wk_66 (by decide) (by decide) (Nat.le_of_ble_eq_true rfl) dX2_readBlock_19 ?_
    refine gj_aload_n hO 0 dX2_readBlock_22 rfl rfl ?_
    refine gj_iconst (v := 1) hO dX2_readBlock_23 (by decide) ?_
    refine gj_bipush (v := 24) hO dX2_readBlock_24 (by decide) ?_
    obtain ⟨x2, hc2, hf⟩ := gj_b hf
    refine ca_X2_isNumber hO  hc2 wk_70 (by decide) (by decide) (Nat.le_of_ble_eq_true rfl) dX2_readBlock_26 ?_
    refine gj_if_ne (tgt := 34) hO dX2_readBlock_29 (by decide) (fun h => ?_) (fun h => ?_)
    · replace hf := gj_f h hf
      refine gj_aload_n hO 0 dX2_readBlock_34 rfl rfl ?_
      refine gt_X2_0 hO wk_49 dX2_readBlock_35 ?_
      refine gj_aload_n hO 0 dX2_readBlock_38 rfl rfl ?_
      refine gt_X2_9 hO wk_24 dX2_readBlock_39 ?_
      refine gj_l2i hO dX2_readBlock_42 ?_
      refine pt_X1_2 hO kd_3 kl_3 wk_98 dX2_readBlock_43 ?_
      refine gj_aload_n hO 0 dX2_readBlock_46 rfl rfl ?_
      obtain ⟨x3, hc3, hf⟩ := gj_b hf
      refine ca_X2_readToken hO  hc3 wk_66 (by decide) (by decide) (Nat.le_of_ble_eq_true rfl) dX2_readBlock_47 ?_
      refine gj_iconst (v := 1) hO dX2_readBlock_50 (by decide) ?_
      obtain rfl := Option.some.inj hf
      exact gj_zret hO (Or.inr rfl) dX2_readBlock_51
    · replace hf := gj_t h hf
      refine gj_iconst (v := 0) hO dX2_readBlock_32 (by decide) ?_
      obtain rfl := Option.some.inj hf
      exact gj_zret hO (Or.inl rfl) dX2_readBlock_33
  · replace hf := gj_f h hf
    refine gj_aload_n hO 0 dX2_readBlock_7 rfl rfl ?_
    refine gj_iconst (v := 2) hO dX2_readBlock_8 (by decide) ?_
    obtain ⟨x4, hc4, hf⟩ := gj_b hf
    refine ca_X2_fails hO  hc4 wk_59 (by decide) (by decide) (Nat.le_of_ble_eq_true rfl) dX2_readBlock_9 ?_
    obtain ⟨hb5, hf⟩ := gj_c hf
    obtain rfl := Option.some.inj hf
    exact gj_zret hO hb5 dX2_readBlock_12
set_option maxHeartbeats 4000000 in
set_option maxRecDepth 100000 in
theorem ca_X2_readBlock {E : gj_E} {X : gj_X} {own : String} {cc : ByteArray} {nL : Nat} {rt : Option FieldType} {fr lo : Nat} {r : Option gj_V} {τ : gj_S} {pc : Nat} {lv : List (Nat × gj_V)} {st : List gj_V} {σ : gj_S} (hO : gj_O E X own cc nL rt fr lo)   {idx : Nat} {x : (Int32 × gj_S)} (hf : f_X2_readBlock  σ = some x) (hl : Cond.methodLink own idx yX2_readBlock ∈ gj_gw) (hf1 : 3 ≤ fr) (hf2 : 63 ≤ lo) (hcat : ((st.map (gj_tv E.2.1)).map fun v => v.category).sum ≤ 8) (hd : decode cc pc = .ok (.invokevirtual idx, 3)) (k : gj_G E X nL r τ (pc + 3) lv ((gj_i x.1) :: st) x.2) : gj_G E X nL r τ pc lv (gj_r 2 :: st) σ :=
  gj_callV hO (o := 2) (vs := []) (m_X2_readBlock  hf) hl wk_99 wk_100 wk_18 wk_101 kl_2 kd_2 (by decide) (ci := 2) rfl (n := 0) (by decide +kernel) rfl hf1 hf2 rfl hcat hd k
def f_X2_passStop  (σ : gj_S) : Option (Int32 × gj_S) := (if (σ.1 2 7) = (2 : Int32) then ((f_X2_readToken σ).bind fun x1 => some ((1 : Int32), x1)) else ((f_X2_fails (1 : Int32) σ).bind fun x2 => (if x2.1 = 0 ∨ x2.1 = 1 then some (x2.1, x2.2) else none)))
set_option maxHeartbeats 4000000 in
set_option maxRecDepth 100000 in
theorem m_X2_passStop {E : gj_E} {σ : gj_S}   {x : (Int32 × gj_S)} (hf : f_X2_passStop  σ = some x) : gj_M E yX2_passStop cX2_passStop 1 (some .boolean) 2 41 [gj_r 2] σ (some (gj_i x.1)) x.2 := by
  refine gj_body (lv := [(0, gj_r 2)]) (by decide +kernel) (Nat.le_of_ble_eq_true rfl) rfl (fun X hO => ?_)
  replace hO : gj_O E X RX2 cX2_passStop 1 (some .boolean) 2 41 := hO
  unfold f_X2_passStop at hf
  refine gj_aload_n hO 0 dX2_passStop_0 rfl rfl ?_
  refine gt_X2_7 hO wk_26 dX2_passStop_1 ?_
  refine gj_iconst (v := 2) hO dX2_passStop_4 (by decide) ?_
  refine gj_icmp_eq (tgt := 14) hO dX2_passStop_5 (by decide) (fun h => ?_) (fun h => ?_)
  · replace hf := gj_t h hf
    refine gj_aload_n hO 0 dX2_passStop_14 rfl rfl ?_
    obtain ⟨x1, hc1, hf⟩ := gj_b hf
    refine ca_X2_readToken hO  hc1 wk_66 (by decide) (by decide) (Nat.le_of_ble_eq_true rfl) dX2_passStop_15 ?_
    refine gj_iconst (v := 1) hO dX2_passStop_18 (by decide) ?_
    obtain rfl := Option.some.inj hf
    exact gj_zret hO (Or.inr rfl) dX2_passStop_19
  · replace hf := gj_f h hf
    refine gj_aload_n hO 0 dX2_passStop_8 rfl rfl ?_
    refine gj_iconst (v := 1) hO dX2_passStop_9 (by decide) ?_
    obtain ⟨x2, hc2, hf⟩ := gj_b hf
    refine ca_X2_fails hO  hc2 wk_59 (by decide) (by decide) (Nat.le_of_ble_eq_true rfl) dX2_passStop_10 ?_
    obtain ⟨hb3, hf⟩ := gj_c hf
    obtain rfl := Option.some.inj hf
    exact gj_zret hO hb3 dX2_passStop_13
set_option maxHeartbeats 4000000 in
set_option maxRecDepth 100000 in
theorem ca_X2_passStop {E : gj_E} {X : gj_X} {own : String} {cc : ByteArray} {nL : Nat} {rt : Option FieldType} {fr lo : Nat} {r : Option gj_V} {τ : gj_S} {pc : Nat} {lv : List (Nat × gj_V)} {st : List gj_V} {σ : gj_S} (hO : gj_O E X own cc nL rt fr lo)   {idx : Nat} {x : (Int32 × gj_S)} (hf : f_X2_passStop  σ = some x) (hl : Cond.methodLink own idx yX2_passStop ∈ gj_gw) (hf1 : 3 ≤ fr) (hf2 : 61 ≤ lo) (hcat : ((st.map (gj_tv E.2.1)).map fun v => v.category).sum ≤ 8) (hd : decode cc pc = .ok (.invokevirtual idx, 3)) (k : gj_G E X nL r τ (pc + 3) lv ((gj_i x.1) :: st) x.2) : gj_G E X nL r τ pc lv (gj_r 2 :: st) σ :=
  gj_callV hO (o := 2) (vs := []) (m_X2_passStop  hf) hl wk_102 wk_103 wk_18 wk_104 kl_2 kd_2 (by decide) (ci := 2) rfl (n := 0) (by decide +kernel) rfl hf1 hf2 rfl hcat hd k
def f_X2_readLine  (σ : gj_S) : Option (Int32 × gj_S) := ((f_X2_isWord (1685021547 : Int64) σ).bind fun x1 => ((if x1 = 0 then ((f_X2_isWord (491496240229 : Int64) σ).bind fun x3 => (if x3 = 0 then ((f_X2_isWord (422726034283 : Int64) σ).bind fun x4 => (if x4 = 0 then ((f_X2_fails (1 : Int32) σ).bind fun x5 => some (x5.1, x5.2)) else ((f_X2_readBlock σ).bind fun x6 => some (x6.1, x6.2)))) else ((f_X2_readRoute σ).bind fun x7 => some (x7.1, x7.2)))) else ((f_X2_readDock σ).bind fun x8 => some (x8.1, x8.2)) : Option (Int32 × gj_S)).bind fun z2 => (if z2.1 = 0 then some ((0 : Int32), z2.2) else ((f_X2_passStop z2.2).bind fun x9 => (if x9.1 = 0 then some ((0 : Int32), x9.2) else some ((1 : Int32), x9.2))))))
set_option maxHeartbeats 4000000 in
set_option maxRecDepth 100000 in
theorem m_X2_readLine {E : gj_E} {σ : gj_S}   {x : (Int32 × gj_S)} (hf : f_X2_readLine  σ = some x) : gj_M E yX2_readLine cX2_readLine 2 (some .boolean) 5 105 [gj_r 2] σ (some (gj_i x.1)) x.2 := by
  refine gj_body (lv := [(0, gj_r 2)]) (by decide +kernel) (Nat.le_of_ble_eq_true rfl) rfl (fun X hO => ?_)
  replace hO : gj_O E X RX2 cX2_readLine 2 (some .boolean) 5 105 := hO
  unfold f_X2_readLine at hf
  refine gj_aload_n hO 0 dX2_readLine_0 rfl rfl ?_
  refine gj_ldc2 hO wk_39 dX2_readLine_1 ?_
  obtain ⟨x1, hc1, hf⟩ := gj_b hf
  refine ca_X2_isWord hO  hc1 wk_69 (by decide) (by decide) (Nat.le_of_ble_eq_true rfl) dX2_readLine_4 ?_
  obtain ⟨z2, hz2, hf⟩ := gj_b hf
  have J2 : gj_G E X 2 (some (gj_i x.1)) x.2 60 [(0, gj_r 2), (1, gj_i z2.1)] [] z2.2 := by
    refine gj_iload_n hO 1 dX2_readLine_60 rfl rfl ?_
    refine gj_if_eq (tgt := 75) hO dX2_readLine_61 (by decide) (fun h => ?_) (fun h => ?_)
    · replace hf := gj_t h hf
      refine gj_iconst (v := 0) hO dX2_readLine_75 (by decide) ?_
      obtain rfl := Option.some.inj hf
      exact gj_zret hO (Or.inl rfl) dX2_readLine_76
    · replace hf := gj_f h hf
      refine gj_aload_n hO 0 dX2_readLine_64 rfl rfl ?_
      obtain ⟨x9, hc9, hf⟩ := gj_b hf
      refine ca_X2_passStop hO  hc9 wk_108 (by decide) (by decide) (Nat.le_of_ble_eq_true rfl) dX2_readLine_65 ?_
      refine gj_if_eq (tgt := 75) hO dX2_readLine_68 (by decide) (fun h => ?_) (fun h => ?_)
      · replace hf := gj_t h hf
        refine gj_iconst (v := 0) hO dX2_readLine_75 (by decide) ?_
        obtain rfl := Option.some.inj hf
        exact gj_zret hO (Or.inl rfl) dX2_readLine_76
      · replace hf := gj_f h hf
        refine gj_iconst (v := 1) hO dX2_readLine_71 (by decide) ?_
        refine gj_goto (tgt := 76) hO dX2_readLine_72 (by decide) ?_
        obtain rfl := Option.some.inj hf
        exact gj_zret hO (Or.inr rfl) dX2_readLine_76
  refine gj_if_eq (tgt := 18) hO dX2_readLine_7 (by decide) (fun h => ?_) (fun h => ?_)
  · replace hz2 := gj_t h hz2
    refine gj_aload_n hO 0 dX2_readLine_18 rfl rfl ?_
    refine gj_ldc2 hO wk_42 dX2_readLine_19 ?_
    obtain ⟨x3, hc3, hz2⟩ := gj_b hz2
    refine ca_X2_isWord hO  hc3 wk_69 (by decide) (by decide) (Nat.le_of_ble_eq_true rfl) dX2_readLine_22 ?_
    refine gj_if_eq (tgt := 36) hO dX2_readLine_25 (by decide) (fun h => ?_) (fun h => ?_)
    · replace hz2 := gj_t h hz2
      refine gj_aload_n hO 0 dX2_readLine_36 rfl rfl ?_
      refine gj_ldc2 hO wk_45 dX2_readLine_37 ?_
      obtain ⟨x4, hc4, hz2⟩ := gj_b hz2
      refine ca_X2_isWord hO  hc4 wk_69 (by decide) (by decide) (Nat.le_of_ble_eq_true rfl) dX2_readLine_40 ?_
      refine gj_if_eq (tgt := 54) hO dX2_readLine_43 (by decide) (fun h => ?_) (fun h => ?_)
      · replace hz2 := gj_t h hz2
        refine gj_aload_n hO 0 dX2_readLine_54 rfl rfl ?_
        refine gj_iconst (v := 1) hO dX2_readLine_55 (by decide) ?_
        obtain ⟨x5, hc5, hz2⟩ := gj_b hz2
        refine ca_X2_fails hO  hc5 wk_59 (by decide) (by decide) (Nat.le_of_ble_eq_true rfl) dX2_readLine_56 ?_
        refine gj_istore_n (lv2 := [(1, gj_i x5.1), (0, gj_r 2)]) hO dX2_readLine_59 rfl (by decide) rfl ?_
        obtain rfl := Option.some.inj hz2
        refine gj_sub [1, 0] rfl ?_
        exact J2
      · replace hz2 := gj_f h hz2
        refine gj_aload_n hO 0 dX2_readLine_46 rfl rfl ?_
        obtain ⟨x6, hc6, hz2⟩ := gj_b hz2
        refine ca_X2_readBlock hO  hc6 wk_105 (by decide) (by decide) (Nat.le_of_ble_eq_true rfl) dX2_readLine_47 ?_
        refine gj_istore_n (lv2 := [(1, gj_i x6.1), (0, gj_r 2)]) hO dX2_readLine_50 rfl (by decide) rfl ?_
        refine gj_goto (tgt := 60) hO dX2_readLine_51 (by decide) ?_
        obtain rfl := Option.some.inj hz2
        refine gj_sub [1, 0] rfl ?_
        exact J2
    · replace hz2 := gj_f h hz2
      refine gj_aload_n hO 0 dX2_readLine_28 rfl rfl ?_
      obtain ⟨x7, hc7, hz2⟩ := gj_b hz2
      refine ca_X2_readRoute hO  hc7 wk_106 (by decide) (by decide) (Nat.le_of_ble_eq_true rfl) dX2_readLine_29 ?_
      refine gj_istore_n (lv2 := [(1, gj_i x7.1), (0, gj_r 2)]) hO dX2_readLine_32 rfl (by decide) rfl ?_
      refine gj_goto (tgt := 60) hO dX2_readLine_33 (by decide) ?_
      obtain rfl := Option.some.inj hz2
      refine gj_sub [1, 0] rfl ?_
      exact J2
  · replace hz2 := gj_f h hz2
    refine gj_aload_n hO 0 dX2_readLine_10 rfl rfl ?_
    obtain ⟨x8, hc8, hz2⟩ := gj_b hz2
    refine ca_X2_readDock hO  hc8 wk_107 (by decide) (by decide) (Nat.le_of_ble_eq_true rfl) dX2_readLine_11 ?_
    refine gj_istore_n (lv2 := [(1, gj_i x8.1), (0, gj_r 2)]) hO dX2_readLine_14 rfl (by decide) rfl ?_
    refine gj_goto (tgt := 60) hO dX2_readLine_15 (by decide) ?_
    obtain rfl := Option.some.inj hz2
    refine gj_sub [1, 0] rfl ?_
    exact J2
set_option maxHeartbeats 4000000 in
set_option maxRecDepth 100000 in
theorem ca_X2_readLine {E : gj_E} {X : gj_X} {own : String} {cc : ByteArray} {nL : Nat} {rt : Option FieldType} {fr lo : Nat} {r : Option gj_V} {τ : gj_S} {pc : Nat} {lv : List (Nat × gj_V)} {st : List gj_V} {σ : gj_S} (hO : gj_O E X own cc nL rt fr lo)   {idx : Nat} {x : (Int32 × gj_S)} (hf : f_X2_readLine  σ = some x) (hl : Cond.methodLink own idx yX2_readLine ∈ gj_gw) (hf1 : 6 ≤ fr) (hf2 : 126 ≤ lo) (hcat : ((st.map (gj_tv E.2.1)).map fun v => v.category).sum ≤ 8) (hd : decode cc pc = .ok (.invokevirtual idx, 3)) (k : gj_G E X nL r τ (pc + 3) lv ((gj_i x.1) :: st) x.2) : gj_G E X nL r τ pc lv (gj_r 2 :: st) σ :=
  gj_callV hO (o := 2) (vs := []) (m_X2_readLine  hf) hl wk_109 wk_110 wk_18 wk_111 kl_2 kd_2 (by decide) (ci := 2) rfl (n := 0) (by decide +kernel) rfl hf1 hf2 rfl hcat hd k
def fb_X2_readText_l43  (a4 : (Int32 × gj_S)) : Option (((Int32 × gj_S) ⊕ gj_S) ⊕ (Int32 × gj_S)) := (if (a4.2.1 2 6) < a4.1 then some (.inl (.inr a4.2)) else (if (a4.2.1 2 7) = (3 : Int32) then some (.inl (.inr a4.2)) else ((f_X2_readLine a4.2).bind fun x6 => (if x6.1 = 0 then some (.inl (.inl ((x6.2.1 2 4), x6.2))) else some (.inr ((a4.1 + 1), x6.2))))))
def f_X2_readText (b2 : Int32) (σ : gj_S) : Option (Int32 × gj_S) := ((some (gj_sI (gj_sI (gj_sT σ 1) 2 (upd ((gj_sT σ 1).1 2) 6 (if (600 : Int32) < b2 then (600 : Int32) else b2))) 2 (upd ((gj_sI (gj_sT σ 1) 2 (upd ((gj_sT σ 1).1 2) 6 (if (600 : Int32) < b2 then (600 : Int32) else b2))).1 2) 5 (0 : Int32)))).bind fun s1 => ((f_X1_tellNothing 3 (gj_sI (gj_sI s1 2 (upd (s1.1 2) 4 (-1 : Int32))) 2 (upd ((gj_sI s1 2 (upd (s1.1 2) 4 (-1 : Int32))).1 2) 3 (0 : Int32)))).bind fun x2 => ((f_X2_readToken x2).bind fun x3 => ((gj_lp (fb_X2_readText_l43) 5000 ((0 : Int32), x3)).bind fun y4 => Sum.elim (fun q => some q) (fun z4 => some ((-1 : Int32), z4)) y4))))
set_option maxHeartbeats 4000000 in
set_option maxRecDepth 100000 in
theorem sb_X2_readText_l43 {E : gj_E} {X : gj_X} {r : Option gj_V} {τ : gj_S} (hO : gj_O E X RX2 cX2_readText 4 (some .int) 6 126)  {a4 : (Int32 × gj_S)} {x : ((Int32 × gj_S) ⊕ gj_S) ⊕ (Int32 × gj_S)} (hf : fb_X2_readText_l43  a4 = some x) (K : gj_K (fun y4 => gj_K (fun q => r = (some (gj_i q.1)) ∧ τ = q.2) (fun z4 => gj_G E X 4 r τ 77 [] [] z4) y4) (fun a4 => gj_G E X 4 r τ 43 [(0, gj_r 2), (3, gj_i a4.1)] [] a4.2) x) : gj_G E X 4 r τ 43 [(0, gj_r 2), (3, gj_i a4.1)] [] a4.2 := by
  unfold fb_X2_readText_l43 at hf
  refine gj_iload_n hO 1 dX2_readText_43 rfl rfl ?_
  refine gj_aload_n hO 0 dX2_readText_44 rfl rfl ?_
  refine gt_X2_6 hO wk_21 dX2_readText_45 ?_
  refine gj_icmp_gt (tgt := 77) hO dX2_readText_48 (by decide) (fun h => ?_) (fun h => ?_)
  · replace hf := gj_t h hf
    obtain rfl := Option.some.inj hf
    refine gj_sub [] rfl ?_
    exact K
  · replace hf := gj_f h hf
    refine gj_aload_n hO 0 dX2_readText_51 rfl rfl ?_
    refine gt_X2_7 hO wk_26 dX2_readText_52 ?_
    refine gj_iconst (v := 3) hO dX2_readText_55 (by decide) ?_
    refine gj_icmp_eq (tgt := 77) hO dX2_readText_56 (by decide) (fun h => ?_) (fun h => ?_)
    · replace hf := gj_t h hf
      obtain rfl := Option.some.inj hf
      refine gj_sub [] rfl ?_
      exact K
    · replace hf := gj_f h hf
      refine gj_aload_n hO 0 dX2_readText_59 rfl rfl ?_
      obtain ⟨x6, hc6, hf⟩ := gj_b hf
      refine ca_X2_readLine hO  hc6 wk_114 (by decide) (by decide) (Nat.le_of_ble_eq_true rfl) dX2_readText_60 ?_
      refine gj_if_ne (tgt := 71) hO dX2_readText_63 (by decide) (fun h => ?_) (fun h => ?_)
      · replace hf := gj_f h hf
        refine gj_iinc (v := (a4.1 + 1)) (lv2 := [(3, gj_i (a4.1 + 1)), (0, gj_r 2)]) hO 1 dX2_readText_71 rfl rfl (by decide) rfl ?_
        refine gj_goto (tgt := 43) hO dX2_readText_74 (by decide) ?_
        obtain rfl := Option.some.inj hf
        refine gj_sub [1, 0] rfl ?_
        exact K
      · replace hf := gj_t h hf
        refine gj_aload_n hO 0 dX2_readText_66 rfl rfl ?_
        refine gt_X2_4 hO wk_35 dX2_readText_67 ?_
        obtain rfl := Option.some.inj hf
        obtain ⟨rfl, rfl⟩ := K
        exact gj_iret hO dX2_readText_70
set_option maxHeartbeats 4000000 in
set_option maxRecDepth 100000 in
theorem m_X2_readText {E : gj_E} {σ : gj_S} {b2 : Int32}  {x : (Int32 × gj_S)} (hf : f_X2_readText b2 σ = some x) : gj_M E yX2_readText cX2_readText 4 (some .int) 6 126 [gj_r 2, gj_r 1, gj_i b2] σ (some (gj_i x.1)) x.2 := by
  refine gj_body (lv := [(0, gj_r 2), (1, gj_r 1), (2, gj_i b2)]) (by decide +kernel) (Nat.le_of_ble_eq_true rfl) rfl (fun X hO => ?_)
  replace hO : gj_O E X RX2 cX2_readText 4 (some .int) 6 126 := hO
  unfold f_X2_readText at hf
  refine gj_aload_n hO 0 dX2_readText_0 rfl rfl ?_
  refine gj_aload_n hO 1 dX2_readText_1 rfl rfl ?_
  refine pt_X2_10 hO wk_22 dX2_readText_2 ?_
  refine gj_aload_n hO 0 dX2_readText_5 rfl rfl ?_
  refine gj_iload_n hO 2 dX2_readText_6 rfl rfl ?_
  refine gj_aload_n hO 1 dX2_readText_7 rfl rfl ?_
  refine gj_alenB (v := 600) hO kl_1 kd_1 (by decide) dX2_readText_8 ?_
  refine gj_mmin hO wk_112 (by decide) (by decide) (Nat.le_of_ble_eq_true rfl) dX2_readText_9 ?_
  refine pt_X2_6 hO wk_21 dX2_readText_12 ?_
  refine gj_aload_n hO 0 dX2_readText_15 rfl rfl ?_
  refine gj_iconst (v := 0) hO dX2_readText_16 (by decide) ?_
  refine pt_X2_5 hO wk_20 dX2_readText_17 ?_
  obtain ⟨s1, e1, hf⟩ := gj_b hf
  refine gj_eqS (Option.some.inj e1) ?_
  refine gj_aload_n hO 0 dX2_readText_20 rfl rfl ?_
  refine gj_iconst (v := (-1)) hO dX2_readText_21 (by decide) ?_
  refine pt_X2_4 hO wk_35 dX2_readText_22 ?_
  refine gj_aload_n hO 0 dX2_readText_25 rfl rfl ?_
  refine gj_iconst (v := 0) hO dX2_readText_26 (by decide) ?_
  refine pt_X2_3 hO (Or.inl rfl) wk_97 dX2_readText_27 ?_
  refine gj_aload_n hO 0 dX2_readText_30 rfl rfl ?_
  refine gt_X2_0 hO wk_49 dX2_readText_31 ?_
  obtain ⟨x2, hc2, hf⟩ := gj_b hf
  refine ca_X1_tellNothing hO isP_3 hc2 wk_113 (by decide) (by decide) (Nat.le_of_ble_eq_true rfl) dX2_readText_34 ?_
  refine gj_aload_n hO 0 dX2_readText_37 rfl rfl ?_
  obtain ⟨x3, hc3, hf⟩ := gj_b hf
  refine ca_X2_readToken hO  hc3 wk_66 (by decide) (by decide) (Nat.le_of_ble_eq_true rfl) dX2_readText_38 ?_
  refine gj_iconst (v := 0) hO dX2_readText_41 (by decide) ?_
  refine gj_istore_n (lv2 := [(3, gj_i (0 : Int32)), (0, gj_r 2), (1, gj_r 1), (2, gj_i b2)]) hO dX2_readText_42 rfl (by decide) rfl ?_
  obtain ⟨y4, hz4, hf⟩ := gj_b hf
  have J4 : (fun y4 => gj_K (fun q => (some (gj_i x.1)) = (some (gj_i q.1)) ∧ x.2 = q.2) (fun z4 => gj_G E X 4 (some (gj_i x.1)) x.2 77 [] [] z4) y4) y4 := by
    rcases y4 with q | z4
    · have hf : some q = some x := hf
      obtain rfl := Option.some.inj hf
      exact ⟨rfl, rfl⟩
    · refine gj_iconst (v := (-1)) hO dX2_readText_77 (by decide) ?_
      obtain rfl := Option.some.inj hf
      exact gj_iret hO dX2_readText_78
  refine gj_sub [1, 0] rfl ?_
  exact gj_loop (head := fun a4 => gj_G E X 4 (some (gj_i x.1)) x.2 43 [(0, gj_r 2), (3, gj_i a4.1)] [] a4.2) (exit := fun y4 => gj_K (fun q => (some (gj_i x.1)) = (some (gj_i q.1)) ∧ x.2 = q.2) (fun z4 => gj_G E X 4 (some (gj_i x.1)) x.2 77 [] [] z4) y4) (fun a4 x hf K => sb_X2_readText_l43 hO hf K) _ _ _ hz4 J4
set_option maxHeartbeats 4000000 in
set_option maxRecDepth 100000 in
theorem ca_X2_readText {E : gj_E} {X : gj_X} {own : String} {cc : ByteArray} {nL : Nat} {rt : Option FieldType} {fr lo : Nat} {r : Option gj_V} {τ : gj_S} {pc : Nat} {lv : List (Nat × gj_V)} {st : List gj_V} {σ : gj_S} (hO : gj_O E X own cc nL rt fr lo) {b2 : Int32}  {idx : Nat} {x : (Int32 × gj_S)} (hf : f_X2_readText b2 σ = some x) (hl : Cond.methodLink own idx yX2_readText ∈ gj_gw) (hf1 : 7 ≤ fr) (hf2 : 149 ≤ lo) (hcat : ((st.map (gj_tv E.2.1)).map fun v => v.category).sum ≤ 8) (hd : decode cc pc = .ok (.invokevirtual idx, 3)) (k : gj_G E X nL r τ (pc + 3) lv ((gj_i x.1) :: st) x.2) : gj_G E X nL r τ pc lv (gj_i b2 :: gj_r 1 :: gj_r 2 :: st) σ :=
  gj_callV hO (o := 2) (vs := [gj_r 1, gj_i b2]) (m_X2_readText  hf) hl wk_115 wk_116 wk_18 wk_117 kl_2 kd_2 (by decide) (ci := 2) rfl (n := 2) (by decide +kernel) rfl hf1 hf2 rfl hcat hd k
def f_X1_copyFrom (b0 : Nat) (b1 : Nat) (σ : gj_S) : Option gj_S := ((some (gj_sI (gj_sI (gj_sI σ b0 (upd (σ.1 b0) 0 (σ.1 b1 0))) b0 (upd ((gj_sI σ b0 (upd (σ.1 b0) 0 (σ.1 b1 0))).1 b0) 1 ((gj_sI σ b0 (upd (σ.1 b0) 0 (σ.1 b1 0))).1 b1 1))) b0 (upd ((gj_sI (gj_sI σ b0 (upd (σ.1 b0) 0 (σ.1 b1 0))) b0 (upd ((gj_sI σ b0 (upd (σ.1 b0) 0 (σ.1 b1 0))).1 b0) 1 ((gj_sI σ b0 (upd (σ.1 b0) 0 (σ.1 b1 0))).1 b1 1))).1 b0) 2 ((gj_sI (gj_sI σ b0 (upd (σ.1 b0) 0 (σ.1 b1 0))) b0 (upd ((gj_sI σ b0 (upd (σ.1 b0) 0 (σ.1 b1 0))).1 b0) 1 ((gj_sI σ b0 (upd (σ.1 b0) 0 (σ.1 b1 0))).1 b1 1))).1 b1 2)))).bind fun s1 => ((some (gj_sI (gj_sI s1 b0 (upd (s1.1 b0) 3 (s1.1 b1 3))) b0 (upd ((gj_sI s1 b0 (upd (s1.1 b0) 3 (s1.1 b1 3))).1 b0) 4 ((gj_sI s1 b0 (upd (s1.1 b0) 3 (s1.1 b1 3))).1 b1 4)))).bind fun s2 => ((some (gj_sI (gj_sI s2 (b0 + 1) (va_cpy (s2.1 (b1 + 1)) (s2.1 (b0 + 1)) 0 0 (Int32.toNatClampNeg (8 : Int32)))) (b0 + 2) (va_cpy ((gj_sI s2 (b0 + 1) (va_cpy (s2.1 (b1 + 1)) (s2.1 (b0 + 1)) 0 0 (Int32.toNatClampNeg (8 : Int32)))).1 (b1 + 2)) ((gj_sI s2 (b0 + 1) (va_cpy (s2.1 (b1 + 1)) (s2.1 (b0 + 1)) 0 0 (Int32.toNatClampNeg (8 : Int32)))).1 (b0 + 2)) 0 0 (Int32.toNatClampNeg (24 : Int32))))).bind fun s3 => ((some (gj_sI (gj_sI s3 (b0 + 3) (va_cpy (s3.1 (b1 + 3)) (s3.1 (b0 + 3)) 0 0 (Int32.toNatClampNeg (24 : Int32)))) (b0 + 4) (va_cpy ((gj_sI s3 (b0 + 3) (va_cpy (s3.1 (b1 + 3)) (s3.1 (b0 + 3)) 0 0 (Int32.toNatClampNeg (24 : Int32)))).1 (b1 + 4)) ((gj_sI s3 (b0 + 3) (va_cpy (s3.1 (b1 + 3)) (s3.1 (b0 + 3)) 0 0 (Int32.toNatClampNeg (24 : Int32)))).1 (b0 + 4)) 0 0 (Int32.toNatClampNeg (24 : Int32))))).bind fun s4 => ((some (gj_sI (gj_sI s4 (b0 + 5) (va_cpy (s4.1 (b1 + 5)) (s4.1 (b0 + 5)) 0 0 (Int32.toNatClampNeg (24 : Int32)))) (b0 + 6) (va_cpy ((gj_sI s4 (b0 + 5) (va_cpy (s4.1 (b1 + 5)) (s4.1 (b0 + 5)) 0 0 (Int32.toNatClampNeg (24 : Int32)))).1 (b1 + 6)) ((gj_sI s4 (b0 + 5) (va_cpy (s4.1 (b1 + 5)) (s4.1 (b0 + 5)) 0 0 (Int32.toNatClampNeg (24 : Int32)))).1 (b0 + 6)) 0 0 (Int32.toNatClampNeg (24 : Int32))))).bind fun s5 => ((some (gj_sI (gj_sI s5 (b0 + 7) (va_cpy (s5.1 (b1 + 7)) (s5.1 (b0 + 7)) 0 0 (Int32.toNatClampNeg (24 : Int32)))) (b0 + 8) (va_cpy ((gj_sI s5 (b0 + 7) (va_cpy (s5.1 (b1 + 7)) (s5.1 (b0 + 7)) 0 0 (Int32.toNatClampNeg (24 : Int32)))).1 (b1 + 8)) ((gj_sI s5 (b0 + 7) (va_cpy (s5.1 (b1 + 7)) (s5.1 (b0 + 7)) 0 0 (Int32.toNatClampNeg (24 : Int32)))).1 (b0 + 8)) 0 0 (Int32.toNatClampNeg (80 : Int32))))).bind fun s6 => some s6))))))
set_option maxHeartbeats 4000000 in
set_option maxRecDepth 100000 in
theorem m_X1_copyFrom {E : gj_E} {σ : gj_S} {b0 : Nat} {b1 : Nat} (g0 : isP b0) (g1 : isP b1) {x : gj_S} (hf : f_X1_copyFrom b0 b1 σ = some x) : gj_M E yX1_copyFrom cX1_copyFrom 2 none 1 120 [gj_r b0, gj_r b1] σ none x := by
  refine gj_body (lv := [(0, gj_r b0), (1, gj_r b1)]) (by decide +kernel) (Nat.le_of_ble_eq_true rfl) rfl (fun X hO => ?_)
  replace hO : gj_O E X RX1 cX1_copyFrom 2 none 1 120 := hO
  unfold f_X1_copyFrom at hf
  refine gj_aload_n hO 0 dX1_copyFrom_0 rfl rfl ?_
  refine gj_aload_n hO 1 dX1_copyFrom_1 rfl rfl ?_
  refine gt_X1_0 hO (kdP_0 g1) (klP_0 g1) wk_10 dX1_copyFrom_2 ?_
  refine pt_X1_0 hO (kdP_0 g0) (klP_0 g0) wk_10 dX1_copyFrom_5 ?_
  refine gj_aload_n hO 0 dX1_copyFrom_8 rfl rfl ?_
  refine gj_aload_n hO 1 dX1_copyFrom_9 rfl rfl ?_
  refine gt_X1_1 hO (kdP_0 g1) (klP_0 g1) wk_11 dX1_copyFrom_10 ?_
  refine pt_X1_1 hO (kdP_0 g0) (klP_0 g0) wk_11 dX1_copyFrom_13 ?_
  refine gj_aload_n hO 0 dX1_copyFrom_16 rfl rfl ?_
  refine gj_aload_n hO 1 dX1_copyFrom_17 rfl rfl ?_
  refine gt_X1_2 hO (kdP_0 g1) (klP_0 g1) wk_12 dX1_copyFrom_18 ?_
  refine pt_X1_2 hO (kdP_0 g0) (klP_0 g0) wk_12 dX1_copyFrom_21 ?_
  obtain ⟨s1, e1, hf⟩ := gj_b hf
  refine gj_eqS (Option.some.inj e1) ?_
  refine gj_aload_n hO 0 dX1_copyFrom_24 rfl rfl ?_
  refine gj_aload_n hO 1 dX1_copyFrom_25 rfl rfl ?_
  refine gt_X1_3 hO (kdP_0 g1) (klP_0 g1) wk_118 dX1_copyFrom_26 ?_
  refine pt_X1_3 hO (kdP_0 g0) (klP_0 g0) wk_118 dX1_copyFrom_29 ?_
  refine gj_aload_n hO 0 dX1_copyFrom_32 rfl rfl ?_
  refine gj_aload_n hO 1 dX1_copyFrom_33 rfl rfl ?_
  refine gt_X1_4 hO (kdP_0 g1) (klP_0 g1) wk_119 dX1_copyFrom_34 ?_
  refine pt_X1_4 hO (kdP_0 g0) (klP_0 g0) wk_119 dX1_copyFrom_37 ?_
  obtain ⟨s2, e2, hf⟩ := gj_b hf
  refine gj_eqS (Option.some.inj e2) ?_
  refine gj_aload_n hO 1 dX1_copyFrom_40 rfl rfl ?_
  refine gt_X1_5 hO (kdP_0 g1) (klP_0 g1) wk_120 dX1_copyFrom_41 ?_
  refine gj_iconst (v := 0) hO dX1_copyFrom_44 (by decide) ?_
  refine gj_aload_n hO 0 dX1_copyFrom_45 rfl rfl ?_
  refine gt_X1_5 hO (kdP_0 g0) (klP_0 g0) wk_120 dX1_copyFrom_46 ?_
  refine gj_iconst (v := 0) hO dX1_copyFrom_49 (by decide) ?_
  refine gj_bipush (v := 8) hO dX1_copyFrom_50 (by decide) ?_
  refine gj_cpyI hO (klP_1 g1) (kdP_1 g1) (klP_1 g0) (kdP_1 g0) wk_121 (by decide) (by decide) (by decide) (by decide) (by decide) (Nat.le_of_ble_eq_true rfl) dX1_copyFrom_52 ?_
  refine gj_aload_n hO 1 dX1_copyFrom_55 rfl rfl ?_
  refine gt_X1_6 hO (kdP_0 g1) (klP_0 g1) wk_122 dX1_copyFrom_56 ?_
  refine gj_iconst (v := 0) hO dX1_copyFrom_59 (by decide) ?_
  refine gj_aload_n hO 0 dX1_copyFrom_60 rfl rfl ?_
  refine gt_X1_6 hO (kdP_0 g0) (klP_0 g0) wk_122 dX1_copyFrom_61 ?_
  refine gj_iconst (v := 0) hO dX1_copyFrom_64 (by decide) ?_
  refine gj_bipush (v := 24) hO dX1_copyFrom_65 (by decide) ?_
  refine gj_cpyI hO (klP_2 g1) (kdP_2 g1) (klP_2 g0) (kdP_2 g0) wk_121 (by decide) (by decide) (by decide) (by decide) (by decide) (Nat.le_of_ble_eq_true rfl) dX1_copyFrom_67 ?_
  obtain ⟨s3, e3, hf⟩ := gj_b hf
  refine gj_eqS (Option.some.inj e3) ?_
  refine gj_aload_n hO 1 dX1_copyFrom_70 rfl rfl ?_
  refine gt_X1_7 hO (kdP_0 g1) (klP_0 g1) wk_123 dX1_copyFrom_71 ?_
  refine gj_iconst (v := 0) hO dX1_copyFrom_74 (by decide) ?_
  refine gj_aload_n hO 0 dX1_copyFrom_75 rfl rfl ?_
  refine gt_X1_7 hO (kdP_0 g0) (klP_0 g0) wk_123 dX1_copyFrom_76 ?_
  refine gj_iconst (v := 0) hO dX1_copyFrom_79 (by decide) ?_
  refine gj_bipush (v := 24) hO dX1_copyFrom_80 (by decide) ?_
  refine gj_cpyI hO (klP_3 g1) (kdP_3 g1) (klP_3 g0) (kdP_3 g0) wk_121 (by decide) (by decide) (by decide) (by decide) (by decide) (Nat.le_of_ble_eq_true rfl) dX1_copyFrom_82 ?_
  refine gj_aload_n hO 1 dX1_copyFrom_85 rfl rfl ?_
  refine gt_X1_8 hO (kdP_0 g1) (klP_0 g1) wk_124 dX1_copyFrom_86 ?_
  refine gj_iconst (v := 0) hO dX1_copyFrom_89 (by decide) ?_
  refine gj_aload_n hO 0 dX1_copyFrom_90 rfl rfl ?_
  refine gt_X1_8 hO (kdP_0 g0) (klP_0 g0) wk_124 dX1_copyFrom_91 ?_
  refine gj_iconst (v := 0) hO dX1_copyFrom_94 (by decide) ?_
  refine gj_bipush (v := 24) hO dX1_copyFrom_95 (by decide) ?_
  refine gj_cpyI hO (klP_4 g1) (kdP_4 g1) (klP_4 g0) (kdP_4 g0) wk_121 (by decide) (by decide) (by decide) (by decide) (by decide) (Nat.le_of_ble_eq_true rfl) dX1_copyFrom_97 ?_
  obtain ⟨s4, e4, hf⟩ := gj_b hf
  refine gj_eqS (Option.some.inj e4) ?_
  refine gj_aload_n hO 1 dX1_copyFrom_100 rfl rfl ?_
  refine gt_X1_9 hO (kdP_0 g1) (klP_0 g1) wk_125 dX1_copyFrom_101 ?_
  refine gj_iconst (v := 0) hO dX1_copyFrom_104 (by decide) ?_
  refine gj_aload_n hO 0 dX1_copyFrom_105 rfl rfl ?_
  refine gt_X1_9 hO (kdP_0 g0) (klP_0 g0) wk_125 dX1_copyFrom_106 ?_
  refine gj_iconst (v := 0) hO dX1_copyFrom_109 (by decide) ?_
  refine gj_bipush (v := 24) hO dX1_copyFrom_110 (by decide) ?_
  refine gj_cpyI hO (klP_5 g1) (kdP_5 g1) (klP_5 g0) (kdP_5 g0) wk_121 (by decide) (by decide) (by decide) (by decide) (by decide) (Nat.le_of_ble_eq_true rfl) dX1_copyFrom_112 ?_
  refine gj_aload_n hO 1 dX1_copyFrom_115 rfl rfl ?_
  refine gt_X1_10 hO (kdP_0 g1) (klP_0 g1) wk_126 dX1_copyFrom_116 ?_
  refine gj_iconst (v := 0) hO dX1_copyFrom_119 (by decide) ?_
  refine gj_aload_n hO 0 dX1_copyFrom_120 rfl rfl ?_
  refine gt_X1_10 hO (kdP_0 g0) (klP_0 g0) wk_126 dX1_copyFrom_121 ?_
  refine gj_iconst (v := 0) hO dX1_copyFrom_124 (by decide) ?_
  refine gj_bipush (v := 24) hO dX1_copyFrom_125 (by decide) ?_
  refine gj_cpyI hO (klP_6 g1) (kdP_6 g1) (klP_6 g0) (kdP_6 g0) wk_121 (by decide) (by decide) (by decide) (by decide) (by decide) (Nat.le_of_ble_eq_true rfl) dX1_copyFrom_127 ?_
  obtain ⟨s5, e5, hf⟩ := gj_b hf
  refine gj_eqS (Option.some.inj e5) ?_
  refine gj_aload_n hO 1 dX1_copyFrom_130 rfl rfl ?_
  refine gt_X1_11 hO (kdP_0 g1) (klP_0 g1) wk_127 dX1_copyFrom_131 ?_
  refine gj_iconst (v := 0) hO dX1_copyFrom_134 (by decide) ?_
  refine gj_aload_n hO 0 dX1_copyFrom_135 rfl rfl ?_
  refine gt_X1_11 hO (kdP_0 g0) (klP_0 g0) wk_127 dX1_copyFrom_136 ?_
  refine gj_iconst (v := 0) hO dX1_copyFrom_139 (by decide) ?_
  refine gj_bipush (v := 24) hO dX1_copyFrom_140 (by decide) ?_
  refine gj_cpyI hO (klP_7 g1) (kdP_7 g1) (klP_7 g0) (kdP_7 g0) wk_121 (by decide) (by decide) (by decide) (by decide) (by decide) (Nat.le_of_ble_eq_true rfl) dX1_copyFrom_142 ?_
  refine gj_aload_n hO 1 dX1_copyFrom_145 rfl rfl ?_
  refine gt_X1_12 hO (kdP_0 g1) (klP_0 g1) wk_128 dX1_copyFrom_146 ?_
  refine gj_iconst (v := 0) hO dX1_copyFrom_149 (by decide) ?_
  refine gj_aload_n hO 0 dX1_copyFrom_150 rfl rfl ?_
  refine gt_X1_12 hO (kdP_0 g0) (klP_0 g0) wk_128 dX1_copyFrom_151 ?_
  refine gj_iconst (v := 0) hO dX1_copyFrom_154 (by decide) ?_
  refine gj_bipush (v := 80) hO dX1_copyFrom_155 (by decide) ?_
  refine gj_cpyI hO (klP_8 g1) (kdP_8 g1) (klP_8 g0) (kdP_8 g0) wk_121 (by decide) (by decide) (by decide) (by decide) (by decide) (Nat.le_of_ble_eq_true rfl) dX1_copyFrom_157 ?_
  obtain ⟨s6, e6, hf⟩ := gj_b hf
  refine gj_eqS (Option.some.inj e6) ?_
  obtain rfl := Option.some.inj hf
  exact gj_vret hO dX1_copyFrom_160
set_option maxHeartbeats 4000000 in
set_option maxRecDepth 100000 in
theorem ca_X1_copyFrom {E : gj_E} {X : gj_X} {own : String} {cc : ByteArray} {nL : Nat} {rt : Option FieldType} {fr lo : Nat} {r : Option gj_V} {τ : gj_S} {pc : Nat} {lv : List (Nat × gj_V)} {st : List gj_V} {σ : gj_S} (hO : gj_O E X own cc nL rt fr lo) {b0 : Nat} {b1 : Nat} (g0 : isP b0) (g1 : isP b1) {idx : Nat} {x : gj_S} (hf : f_X1_copyFrom b0 b1 σ = some x) (hl : Cond.methodLink own idx yX1_copyFrom ∈ gj_gw) (hf1 : 2 ≤ fr) (hf2 : 141 ≤ lo) (hcat : ((st.map (gj_tv E.2.1)).map fun v => v.category).sum ≤ 8) (hd : decode cc pc = .ok (.invokevirtual idx, 3)) (k : gj_G E X nL r τ (pc + 3) lv (st) x) : gj_G E X nL r τ pc lv (gj_r b1 :: gj_r b0 :: st) σ :=
  gj_callV hO (o := b0) (vs := [gj_r b1]) (m_X1_copyFrom g0 g1 hf) hl wk_129 wk_130 wk_15 wk_131 (klP_0 g0) (kdP_0 g0) (by decide) (ci := 1) rfl (n := 1) (by decide +kernel) rfl hf1 hf2 rfl hcat hd k
def f_X1_beginTender (b0 : Nat) (b1 : Int32) (σ : gj_S) : Option gj_S := (if gj_in b1 8 then ((if (σ.1 (b0 + 1) (Int32.toNatClampNeg b1)) < 0 then some (0 : Int32) else some (1 : Int32) : Option Int32).bind fun z2 => ((if z2 = 0 then some (8 : Int32) else some b1 : Option Int32).bind fun z3 => (if gj_in ((σ.1 b0 1) + b1) 24 then ((if z2 = 0 then some b1 else some (8 : Int32) : Option Int32).bind fun z5 => (if gj_in ((σ.1 b0 1) + b1) 24 then ((some (gj_sI (gj_sI σ (b0 + 2) (upd (σ.1 (b0 + 2)) (Int32.toNatClampNeg ((σ.1 b0 1) + b1)) z3)) (b0 + 3) (upd ((gj_sI σ (b0 + 2) (upd (σ.1 (b0 + 2)) (Int32.toNatClampNeg ((σ.1 b0 1) + b1)) z3)).1 (b0 + 3)) (Int32.toNatClampNeg ((σ.1 b0 1) + b1)) z5))).bind fun s7 => (if gj_in ((σ.1 b0 1) + b1) 24 then (if gj_in ((σ.1 b0 1) + b1) 24 then ((some (gj_sI (gj_sI s7 (b0 + 4) (upd (s7.1 (b0 + 4)) (Int32.toNatClampNeg ((σ.1 b0 1) + b1)) (10000 : Int32))) (b0 + 5) (upd ((gj_sI s7 (b0 + 4) (upd (s7.1 (b0 + 4)) (Int32.toNatClampNeg ((σ.1 b0 1) + b1)) (10000 : Int32))).1 (b0 + 5)) (Int32.toNatClampNeg ((σ.1 b0 1) + b1)) (1000000 : Int32)))).bind fun s10 => ((if z2 = 0 then (if gj_in b1 8 then some (0 - (s10.1 (b0 + 1) (Int32.toNatClampNeg b1))) else none) else (if gj_in b1 8 then some (s10.1 (b0 + 1) (Int32.toNatClampNeg b1)) else none) : Option Int32).bind fun z11 => (if gj_in ((σ.1 b0 1) + b1) 24 then (if gj_in ((σ.1 b0 1) + b1) 24 then ((some (gj_sI (gj_sI s10 (b0 + 6) (upd (s10.1 (b0 + 6)) (Int32.toNatClampNeg ((σ.1 b0 1) + b1)) z11)) (b0 + 7) (upd ((gj_sI s10 (b0 + 6) (upd (s10.1 (b0 + 6)) (Int32.toNatClampNeg ((σ.1 b0 1) + b1)) z11)).1 (b0 + 7)) (Int32.toNatClampNeg ((σ.1 b0 1) + b1)) (0 : Int32)))).bind fun s16 => some s16) else none) else none))) else none) else none)) else none)) else none))) else none)
set_option maxHeartbeats 4000000 in
set_option maxRecDepth 100000 in
theorem m_X1_beginTender {E : gj_E} {σ : gj_S} {b0 : Nat} {b1 : Int32} (g0 : isP b0) {x : gj_S} (hf : f_X1_beginTender b0 b1 σ = some x) : gj_M E yX1_beginTender cX1_beginTender 4 none 0 0 [gj_r b0, gj_i b1] σ none x := by
  refine gj_body (lv := [(0, gj_r b0), (1, gj_i b1)]) (by decide +kernel) (Nat.le_of_ble_eq_true rfl) rfl (fun X hO => ?_)
  replace hO : gj_O E X RX1 cX1_beginTender 4 none 0 0 := hO
  unfold f_X1_beginTender at hf
  refine gj_aload_n hO 0 dX1_beginTender_0 rfl rfl ?_
  refine gt_X1_1 hO (kdP_0 g0) (klP_0 g0) wk_11 dX1_beginTender_1 ?_
  refine gj_iload_n hO 1 dX1_beginTender_4 rfl rfl ?_
  refine gj_iadd hO dX1_beginTender_5 ?_
  refine gj_istore_n (lv2 := [(2, gj_i ((σ.1 b0 1) + b1)), (0, gj_r b0), (1, gj_i b1)]) hO dX1_beginTender_6 rfl (by decide) rfl ?_
  refine gj_aload_n hO 1 dX1_beginTender_7 rfl rfl ?_
  refine gt_X1_5 hO (kdP_0 g0) (klP_0 g0) wk_120 dX1_beginTender_8 ?_
  refine gj_iload_n hO 2 dX1_beginTender_11 rfl rfl ?_
  obtain ⟨hb1, hf⟩ := gj_c hf
  refine gj_iald hO (klP_1 g0) (kdP_1 g0) hb1 dX1_beginTender_12 ?_
  obtain ⟨z2, hz2, hf⟩ := gj_b hf
  have J2 : gj_G E X 4 none x 21 [(0, gj_r b0), (1, gj_i b1), (2, gj_i ((σ.1 b0 1) + b1))] [gj_i z2] σ := by
    refine gj_istore_n (lv2 := [(3, gj_i z2), (0, gj_r b0), (1, gj_i b1), (2, gj_i ((σ.1 b0 1) + b1))]) hO dX1_beginTender_21 rfl (by decide) rfl ?_
    refine gj_aload_n hO 1 dX1_beginTender_22 rfl rfl ?_
    refine gt_X1_6 hO (kdP_0 g0) (klP_0 g0) wk_122 dX1_beginTender_23 ?_
    refine gj_iload_n hO 3 dX1_beginTender_26 rfl rfl ?_
    refine gj_iload_n hO 0 dX1_beginTender_27 rfl rfl ?_
    obtain ⟨z3, hz3, hf⟩ := gj_b hf
    have J3 : gj_G E X 4 none x 37 [(0, gj_r b0), (1, gj_i b1), (2, gj_i ((σ.1 b0 1) + b1)), (3, gj_i z2)] [gj_i z3, gj_i ((σ.1 b0 1) + b1), gj_r (b0 + 2)] σ := by
      obtain ⟨hb4, hf⟩ := gj_c hf
      refine gj_iast hO (klP_2 g0) (kdP_2 g0) hb4 dX1_beginTender_37 ?_
      refine gj_aload_n hO 0 dX1_beginTender_38 rfl rfl ?_
      refine gt_X1_7 hO (kdP_0 g0) (klP_0 g0) wk_123 dX1_beginTender_39 ?_
      refine gj_iload_n hO 2 dX1_beginTender_42 rfl rfl ?_
      refine gj_iload_n hO 3 dX1_beginTender_43 rfl rfl ?_
      obtain ⟨z5, hz5, hf⟩ := gj_b hf
      have J5 : gj_G E X 4 none x 53 [(0, gj_r b0), (1, gj_i b1), (2, gj_i ((σ.1 b0 1) + b1)), (3, gj_i z2)] [gj_i z5, gj_i ((σ.1 b0 1) + b1), gj_r (b0 + 3)] (gj_sI σ (b0 + 2) (upd (σ.1 (b0 + 2)) (Int32.toNatClampNeg ((σ.1 b0 1) + b1)) z3)) := by
        obtain ⟨hb6, hf⟩ := gj_c hf
        refine gj_iast hO (klP_3 g0) (kdP_3 g0) hb6 dX1_beginTender_53 ?_
        obtain ⟨s7, e7, hf⟩ := gj_b hf
        refine gj_eqS (Option.some.inj e7) ?_
        refine gj_aload_n hO 0 dX1_beginTender_54 rfl rfl ?_
        refine gt_X1_8 hO (kdP_0 g0) (klP_0 g0) wk_124 dX1_beginTender_55 ?_
        refine gj_iload_n hO 2 dX1_beginTender_58 rfl rfl ?_
        refine gj_sipush (v := 10000) hO dX1_beginTender_59 (by decide) ?_
        obtain ⟨hb8, hf⟩ := gj_c hf
        refine gj_iast hO (klP_4 g0) (kdP_4 g0) hb8 dX1_beginTender_62 ?_
        refine gj_aload_n hO 0 dX1_beginTender_63 rfl rfl ?_
        refine gt_X1_9 hO (kdP_0 g0) (klP_0 g0) wk_125 dX1_beginTender_64 ?_
        refine gj_iload_n hO 2 dX1_beginTender_67 rfl rfl ?_
        refine gj_ldc hO wk_132 dX1_beginTender_68 ?_
        obtain ⟨hb9, hf⟩ := gj_c hf
        refine gj_iast hO (klP_5 g0) (kdP_5 g0) hb9 dX1_beginTender_70 ?_
        obtain ⟨s10, e10, hf⟩ := gj_b hf
        refine gj_eqS (Option.some.inj e10) ?_
        refine gj_aload_n hO 0 dX1_beginTender_71 rfl rfl ?_
        refine gt_X1_10 hO (kdP_0 g0) (klP_0 g0) wk_126 dX1_beginTender_72 ?_
        refine gj_iload_n hO 2 dX1_beginTender_75 rfl rfl ?_
        refine gj_iload_n hO 3 dX1_beginTender_76 rfl rfl ?_
        obtain ⟨z11, hz11, hf⟩ := gj_b hf
        have J11 : gj_G E X 4 none x 96 [(0, gj_r b0), (2, gj_i ((σ.1 b0 1) + b1))] [gj_i z11, gj_i ((σ.1 b0 1) + b1), gj_r (b0 + 6)] s10 := by
          obtain ⟨hb14, hf⟩ := gj_c hf
          refine gj_iast hO (klP_6 g0) (kdP_6 g0) hb14 dX1_beginTender_96 ?_
          refine gj_aload_n hO 0 dX1_beginTender_97 rfl rfl ?_
          refine gt_X1_11 hO (kdP_0 g0) (klP_0 g0) wk_127 dX1_beginTender_98 ?_
          refine gj_iload_n hO 1 dX1_beginTender_101 rfl rfl ?_
          refine gj_iconst (v := 0) hO dX1_beginTender_102 (by decide) ?_
          obtain ⟨hb15, hf⟩ := gj_c hf
          refine gj_iast hO (klP_7 g0) (kdP_7 g0) hb15 dX1_beginTender_103 ?_
          obtain ⟨s16, e16, hf⟩ := gj_b hf
          refine gj_eqS (Option.some.inj e16) ?_
          obtain rfl := Option.some.inj hf
          exact gj_vret hO dX1_beginTender_104
        refine gj_if_eq (tgt := 89) hO dX1_beginTender_77 (by decide) (fun h => ?_) (fun h => ?_)
        · replace hz11 := gj_t h hz11
          refine gj_aload_n hO 0 dX1_beginTender_89 rfl rfl ?_
          refine gt_X1_5 hO (kdP_0 g0) (klP_0 g0) wk_120 dX1_beginTender_90 ?_
          refine gj_iload_n hO 1 dX1_beginTender_93 rfl rfl ?_
          obtain ⟨hb12, hz11⟩ := gj_c hz11
          refine gj_iald hO (klP_1 g0) (kdP_1 g0) hb12 dX1_beginTender_94 ?_
          refine gj_ineg hO dX1_beginTender_95 ?_
          obtain rfl := Option.some.inj hz11
          refine gj_sub [0, 2] rfl ?_
          exact J11
        · replace hz11 := gj_f h hz11
          refine gj_aload_n hO 0 dX1_beginTender_80 rfl rfl ?_
          refine gt_X1_5 hO (kdP_0 g0) (klP_0 g0) wk_120 dX1_beginTender_81 ?_
          refine gj_iload_n hO 1 dX1_beginTender_84 rfl rfl ?_
          obtain ⟨hb13, hz11⟩ := gj_c hz11
          refine gj_iald hO (klP_1 g0) (kdP_1 g0) hb13 dX1_beginTender_85 ?_
          refine gj_goto (tgt := 96) hO dX1_beginTender_86 (by decide) ?_
          obtain rfl := Option.some.inj hz11
          refine gj_sub [0, 2] rfl ?_
          exact J11
      refine gj_if_eq (tgt := 52) hO dX1_beginTender_44 (by decide) (fun h => ?_) (fun h => ?_)
      · replace hz5 := gj_t h hz5
        refine gj_iload_n hO 1 dX1_beginTender_52 rfl rfl ?_
        obtain rfl := Option.some.inj hz5
        refine gj_sub [0, 1, 2, 3] rfl ?_
        exact J5
      · replace hz5 := gj_f h hz5
        refine gj_bipush (v := 8) hO dX1_beginTender_47 (by decide) ?_
        refine gj_goto (tgt := 53) hO dX1_beginTender_49 (by decide) ?_
        obtain rfl := Option.some.inj hz5
        refine gj_sub [0, 1, 2, 3] rfl ?_
        exact J5
    refine gj_if_eq (tgt := 35) hO dX1_beginTender_28 (by decide) (fun h => ?_) (fun h => ?_)
    · replace hz3 := gj_t h hz3
      refine gj_bipush (v := 8) hO dX1_beginTender_35 (by decide) ?_
      obtain rfl := Option.some.inj hz3
      refine gj_sub [1, 2, 3, 0] rfl ?_
      exact J3
    · replace hz3 := gj_f h hz3
      refine gj_iload_n hO 2 dX1_beginTender_31 rfl rfl ?_
      refine gj_goto (tgt := 37) hO dX1_beginTender_32 (by decide) ?_
      obtain rfl := Option.some.inj hz3
      refine gj_sub [1, 2, 3, 0] rfl ?_
      exact J3
  refine gj_if_lt (tgt := 20) hO dX1_beginTender_13 (by decide) (fun h => ?_) (fun h => ?_)
  · replace hz2 := gj_t h hz2
    refine gj_iconst (v := 0) hO dX1_beginTender_20 (by decide) ?_
    obtain rfl := Option.some.inj hz2
    refine gj_sub [1, 2, 0] rfl ?_
    exact J2
  · replace hz2 := gj_f h hz2
    refine gj_iconst (v := 1) hO dX1_beginTender_16 (by decide) ?_
    refine gj_goto (tgt := 21) hO dX1_beginTender_17 (by decide) ?_
    obtain rfl := Option.some.inj hz2
    refine gj_sub [1, 2, 0] rfl ?_
    exact J2
set_option maxHeartbeats 4000000 in
set_option maxRecDepth 100000 in
theorem ca_X1_beginTender {E : gj_E} {X : gj_X} {own : String} {cc : ByteArray} {nL : Nat} {rt : Option FieldType} {fr lo : Nat} {r : Option gj_V} {τ : gj_S} {pc : Nat} {lv : List (Nat × gj_V)} {st : List gj_V} {σ : gj_S} (hO : gj_O E X own cc nL rt fr lo) {b0 : Nat} {b1 : Int32} (g0 : isP b0) {idx : Nat} {x : gj_S} (hf : f_X1_beginTender b0 b1 σ = some x) (hl : Cond.methodLink own idx yX1_beginTender ∈ gj_gw) (hf1 : 1 ≤ fr) (hf2 : 23 ≤ lo) (hcat : ((st.map (gj_tv E.2.1)).map fun v => v.category).sum ≤ 8) (hd : decode cc pc = .ok (.invokevirtual idx, 3)) (k : gj_G E X nL r τ (pc + 3) lv (st) x) : gj_G E X nL r τ pc lv (gj_i b1 :: gj_r b0 :: st) σ :=
  gj_callV hO (o := b0) (vs := [gj_i b1]) (m_X1_beginTender g0 hf) hl wk_133 wk_134 wk_15 wk_135 (klP_0 g0) (kdP_0 g0) (by decide) (ci := 1) rfl (n := 1) (by decide +kernel) rfl hf1 hf2 rfl hcat hd k
def fb_X1_begin_l2 (b0 : Nat) (a1 : (Int32 × gj_S)) : Option (gj_S ⊕ (Int32 × gj_S)) := (if (a1.2.1 b0 1) ≤ a1.1 then some (.inl a1.2) else (if gj_in a1.1 24 then (if gj_in a1.1 24 then ((some (gj_sI (gj_sI a1.2 (b0 + 6) (upd (a1.2.1 (b0 + 6)) (Int32.toNatClampNeg a1.1) (0 : Int32))) (b0 + 7) (upd ((gj_sI a1.2 (b0 + 6) (upd (a1.2.1 (b0 + 6)) (Int32.toNatClampNeg a1.1) (0 : Int32))).1 (b0 + 7)) (Int32.toNatClampNeg a1.1) (1 : Int32)))).bind fun s5 => some (.inr ((a1.1 + 1), s5))) else none) else none))
def fb_X1_begin_l32 (b0 : Nat) (a6 : (Int32 × gj_S)) : Option (gj_S ⊕ (Int32 × gj_S)) := (if (a6.2.1 b0 0) ≤ a6.1 then some (.inl a6.2) else ((f_X1_beginTender b0 a6.1 a6.2).bind fun x8 => some (.inr ((a6.1 + 1), x8))))
def f_X1_begin (b0 : Nat) (σ : gj_S) : Option gj_S := ((gj_lp (fb_X1_begin_l2 b0) 5000 ((0 : Int32), σ)).bind fun z1 => ((gj_lp (fb_X1_begin_l32 b0) 5000 ((0 : Int32), z1)).bind fun z6 => some (gj_sI (gj_sI z6 b0 (upd (z6.1 b0) 3 (0 : Int32))) b0 (upd ((gj_sI z6 b0 (upd (z6.1 b0) 3 (0 : Int32))).1 b0) 4 (0 : Int32)))))
set_option maxHeartbeats 4000000 in
set_option maxRecDepth 100000 in
theorem sb_X1_begin_l2 {E : gj_E} {X : gj_X} {r : Option gj_V} {τ : gj_S} (hO : gj_O E X RX1 cX1_begin 2 none 1 23) {b0 : Nat} (g0 : isP b0) {a1 : (Int32 × gj_S)} {x : gj_S ⊕ (Int32 × gj_S)} (hf : fb_X1_begin_l2 b0 a1 = some x) (K : gj_K (fun z1 => gj_G E X 2 r τ 30 [(0, gj_r b0)] [] z1) (fun a1 => gj_G E X 2 r τ 2 [(0, gj_r b0), (1, gj_i a1.1)] [] a1.2) x) : gj_G E X 2 r τ 2 [(0, gj_r b0), (1, gj_i a1.1)] [] a1.2 := by
  unfold fb_X1_begin_l2 at hf
  refine gj_iload_n hO 1 dX1_begin_2 rfl rfl ?_
  refine gj_aload_n hO 0 dX1_begin_3 rfl rfl ?_
  refine gt_X1_1 hO (kdP_0 g0) (klP_0 g0) wk_11 dX1_begin_4 ?_
  refine gj_icmp_ge (tgt := 30) hO dX1_begin_7 (by decide) (fun h => ?_) (fun h => ?_)
  · replace hf := gj_t h hf
    obtain rfl := Option.some.inj hf
    refine gj_sub [0] rfl ?_
    exact K
  · replace hf := gj_f h hf
    refine gj_aload_n hO 0 dX1_begin_10 rfl rfl ?_
    refine gt_X1_10 hO (kdP_0 g0) (klP_0 g0) wk_126 dX1_begin_11 ?_
    refine gj_iload_n hO 1 dX1_begin_14 rfl rfl ?_
    refine gj_iconst (v := 0) hO dX1_begin_15 (by decide) ?_
    obtain ⟨hb3, hf⟩ := gj_c hf
    refine gj_iast hO (klP_6 g0) (kdP_6 g0) hb3 dX1_begin_16 ?_
    refine gj_aload_n hO 0 dX1_begin_17 rfl rfl ?_
    refine gt_X1_11 hO (kdP_0 g0) (klP_0 g0) wk_127 dX1_begin_18 ?_
    refine gj_iload_n hO 1 dX1_begin_21 rfl rfl ?_
    refine gj_iconst (v := 1) hO dX1_begin_22 (by decide) ?_
    obtain ⟨hb4, hf⟩ := gj_c hf
    refine gj_iast hO (klP_7 g0) (kdP_7 g0) hb4 dX1_begin_23 ?_
    obtain ⟨s5, e5, hf⟩ := gj_b hf
    refine gj_eqS (Option.some.inj e5) ?_
    refine gj_iinc (v := (a1.1 + 1)) (lv2 := [(1, gj_i (a1.1 + 1)), (0, gj_r b0)]) hO 1 dX1_begin_24 rfl rfl (by decide) rfl ?_
    refine gj_goto (tgt := 2) hO dX1_begin_27 (by decide) ?_
    obtain rfl := Option.some.inj hf
    refine gj_sub [1, 0] rfl ?_
    exact K
set_option maxHeartbeats 4000000 in
set_option maxRecDepth 100000 in
theorem sb_X1_begin_l32 {E : gj_E} {X : gj_X} {r : Option gj_V} {τ : gj_S} (hO : gj_O E X RX1 cX1_begin 2 none 1 23) {b0 : Nat} (g0 : isP b0) {a6 : (Int32 × gj_S)} {x : gj_S ⊕ (Int32 × gj_S)} (hf : fb_X1_begin_l32 b0 a6 = some x) (K : gj_K (fun z6 => gj_G E X 2 r τ 51 [(0, gj_r b0)] [] z6) (fun a6 => gj_G E X 2 r τ 32 [(0, gj_r b0), (1, gj_i a6.1)] [] a6.2) x) : gj_G E X 2 r τ 32 [(0, gj_r b0), (1, gj_i a6.1)] [] a6.2 := by
  unfold fb_X1_begin_l32 at hf
  refine gj_iload_n hO 1 dX1_begin_32 rfl rfl ?_
  refine gj_aload_n hO 0 dX1_begin_33 rfl rfl ?_
  refine gt_X1_0 hO (kdP_0 g0) (klP_0 g0) wk_10 dX1_begin_34 ?_
  refine gj_icmp_ge (tgt := 51) hO dX1_begin_37 (by decide) (fun h => ?_) (fun h => ?_)
  · replace hf := gj_t h hf
    obtain rfl := Option.some.inj hf
    refine gj_sub [0] rfl ?_
    exact K
  · replace hf := gj_f h hf
    refine gj_aload_n hO 0 dX1_begin_40 rfl rfl ?_
    refine gj_iload_n hO 1 dX1_begin_41 rfl rfl ?_
    obtain ⟨x8, hc8, hf⟩ := gj_b hf
    refine ca_X1_beginTender hO g0 hc8 wk_136 (by decide) (by decide) (Nat.le_of_ble_eq_true rfl) dX1_begin_42 ?_
    refine gj_iinc (v := (a6.1 + 1)) (lv2 := [(1, gj_i (a6.1 + 1)), (0, gj_r b0)]) hO 1 dX1_begin_45 rfl rfl (by decide) rfl ?_
    refine gj_goto (tgt := 32) hO dX1_begin_48 (by decide) ?_
    obtain rfl := Option.some.inj hf
    refine gj_sub [1, 0] rfl ?_
    exact K
set_option maxHeartbeats 4000000 in
set_option maxRecDepth 100000 in
theorem m_X1_begin {E : gj_E} {σ : gj_S} {b0 : Nat} (g0 : isP b0) {x : gj_S} (hf : f_X1_begin b0 σ = some x) : gj_M E yX1_begin cX1_begin 2 none 1 23 [gj_r b0] σ none x := by
  refine gj_body (lv := [(0, gj_r b0)]) (by decide +kernel) (Nat.le_of_ble_eq_true rfl) rfl (fun X hO => ?_)
  replace hO : gj_O E X RX1 cX1_begin 2 none 1 23 := hO
  unfold f_X1_begin at hf
  refine gj_iconst (v := 0) hO dX1_begin_0 (by decide) ?_
  refine gj_istore_n (lv2 := [(1, gj_i (0 : Int32)), (0, gj_r b0)]) hO dX1_begin_1 rfl (by decide) rfl ?_
  obtain ⟨z1, hz1, hf⟩ := gj_b hf
  have J1 : gj_G E X 2 none x 30 [(0, gj_r b0)] [] z1 := by
    refine gj_iconst (v := 0) hO dX1_begin_30 (by decide) ?_
    refine gj_istore_n (lv2 := [(1, gj_i (0 : Int32)), (0, gj_r b0)]) hO dX1_begin_31 rfl (by decide) rfl ?_
    obtain ⟨z6, hz6, hf⟩ := gj_b hf
    have J6 : gj_G E X 2 none x 51 [(0, gj_r b0)] [] z6 := by
      refine gj_aload_n hO 0 dX1_begin_51 rfl rfl ?_
      refine gj_iconst (v := 0) hO dX1_begin_52 (by decide) ?_
      refine pt_X1_3 hO (kdP_0 g0) (klP_0 g0) wk_118 dX1_begin_53 ?_
      refine gj_aload_n hO 0 dX1_begin_56 rfl rfl ?_
      refine gj_iconst (v := 0) hO dX1_begin_57 (by decide) ?_
      refine pt_X1_4 hO (kdP_0 g0) (klP_0 g0) wk_119 dX1_begin_58 ?_
      obtain rfl := Option.some.inj hf
      exact gj_vret hO dX1_begin_61
    refine gj_sub [1, 0] rfl ?_
    exact gj_loop (head := fun a6 => gj_G E X 2 none x 32 [(0, gj_r b0), (1, gj_i a6.1)] [] a6.2) (exit := fun z6 => gj_G E X 2 none x 51 [(0, gj_r b0)] [] z6) (fun a6 x hf K => sb_X1_begin_l32 hO g0 hf K) _ _ _ hz6 J6
  refine gj_sub [1, 0] rfl ?_
  exact gj_loop (head := fun a1 => gj_G E X 2 none x 2 [(0, gj_r b0), (1, gj_i a1.1)] [] a1.2) (exit := fun z1 => gj_G E X 2 none x 30 [(0, gj_r b0)] [] z1) (fun a1 x hf K => sb_X1_begin_l2 hO g0 hf K) _ _ _ hz1 J1
set_option maxHeartbeats 4000000 in
set_option maxRecDepth 100000 in
theorem ca_X1_begin {E : gj_E} {X : gj_X} {own : String} {cc : ByteArray} {nL : Nat} {rt : Option FieldType} {fr lo : Nat} {r : Option gj_V} {τ : gj_S} {pc : Nat} {lv : List (Nat × gj_V)} {st : List gj_V} {σ : gj_S} (hO : gj_O E X own cc nL rt fr lo) {b0 : Nat} (g0 : isP b0) {idx : Nat} {x : gj_S} (hf : f_X1_begin b0 σ = some x) (hl : Cond.methodLink own idx yX1_begin ∈ gj_gw) (hf1 : 2 ≤ fr) (hf2 : 44 ≤ lo) (hcat : ((st.map (gj_tv E.2.1)).map fun v => v.category).sum ≤ 8) (hd : decode cc pc = .ok (.invokevirtual idx, 3)) (k : gj_G E X nL r τ (pc + 3) lv (st) x) : gj_G E X nL r τ pc lv (gj_r b0 :: st) σ :=
  gj_callV hO (o := b0) (vs := []) (m_X1_begin g0 hf) hl wk_137 wk_138 wk_15 wk_139 (klP_0 g0) (kdP_0 g0) (by decide) (ci := 1) rfl (n := 0) (by decide +kernel) rfl hf1 hf2 rfl hcat hd k
def f_X1_countWays (b0 : Nat) (σ : gj_S) : Option Int32 := some ((σ.1 b0 1) + (σ.1 b0 0))
set_option maxHeartbeats 4000000 in
set_option maxRecDepth 100000 in
theorem m_X1_countWays {E : gj_E} {σ : gj_S} {b0 : Nat} (g0 : isP b0) {x : Int32} (hf : f_X1_countWays b0 σ = some x) : gj_M E yX1_countWays cX1_countWays 1 (some .int) 0 0 [gj_r b0] σ (some (gj_i x)) σ := by
  refine gj_body (lv := [(0, gj_r b0)]) (by decide +kernel) (Nat.le_of_ble_eq_true rfl) rfl (fun X hO => ?_)
  replace hO : gj_O E X RX1 cX1_countWays 1 (some .int) 0 0 := hO
  unfold f_X1_countWays at hf
  refine gj_aload_n hO 0 dX1_countWays_0 rfl rfl ?_
  refine gt_X1_1 hO (kdP_0 g0) (klP_0 g0) wk_11 dX1_countWays_1 ?_
  refine gj_aload_n hO 0 dX1_countWays_4 rfl rfl ?_
  refine gt_X1_0 hO (kdP_0 g0) (klP_0 g0) wk_10 dX1_countWays_5 ?_
  refine gj_iadd hO dX1_countWays_8 ?_
  obtain rfl := Option.some.inj hf
  exact gj_iret hO dX1_countWays_9
set_option maxHeartbeats 4000000 in
set_option maxRecDepth 100000 in
theorem ca_X1_countWays {E : gj_E} {X : gj_X} {own : String} {cc : ByteArray} {nL : Nat} {rt : Option FieldType} {fr lo : Nat} {r : Option gj_V} {τ : gj_S} {pc : Nat} {lv : List (Nat × gj_V)} {st : List gj_V} {σ : gj_S} (hO : gj_O E X own cc nL rt fr lo) {b0 : Nat} (g0 : isP b0) {idx : Nat} {x : Int32} (hf : f_X1_countWays b0 σ = some x) (hl : Cond.methodLink own idx yX1_countWays ∈ gj_gw) (hf1 : 1 ≤ fr) (hf2 : 20 ≤ lo) (hcat : ((st.map (gj_tv E.2.1)).map fun v => v.category).sum ≤ 8) (hd : decode cc pc = .ok (.invokevirtual idx, 3)) (k : gj_G E X nL r τ (pc + 3) lv ((gj_i x) :: st) σ) : gj_G E X nL r τ pc lv (gj_r b0 :: st) σ :=
  gj_callV hO (o := b0) (vs := []) (m_X1_countWays g0 hf) hl wk_140 wk_141 wk_15 wk_142 (klP_0 g0) (kdP_0 g0) (by decide) (ci := 1) rfl (n := 0) (by decide +kernel) rfl hf1 hf2 rfl hcat hd k
def f_X5_hang (b0 : Nat) (b1 : Int32) (b2 : Int32) (b3 : Int32) (b4 : Int32) (σ : gj_S) : Option gj_S := (if gj_in b1 9 then (if gj_in b1 9 then ((some (gj_sI (gj_sI σ (b0 + 1) (upd (σ.1 (b0 + 1)) (Int32.toNatClampNeg b1) b3)) (b0 + 2) (upd ((gj_sI σ (b0 + 1) (upd (σ.1 (b0 + 1)) (Int32.toNatClampNeg b1) b3)).1 (b0 + 2)) (Int32.toNatClampNeg b1) b2))).bind fun s3 => (if gj_in b2 9 then (if gj_in b1 9 then (if gj_in b1 9 then ((some (gj_sI (gj_sI s3 (b0 + 3) (upd (s3.1 (b0 + 3)) (Int32.toNatClampNeg b1) ((s3.1 (b0 + 3) (Int32.toNatClampNeg b2)) + (1 : Int32)))) (b0 + 4) (upd ((gj_sI s3 (b0 + 3) (upd (s3.1 (b0 + 3)) (Int32.toNatClampNeg b1) ((s3.1 (b0 + 3) (Int32.toNatClampNeg b2)) + (1 : Int32)))).1 (b0 + 4)) (Int32.toNatClampNeg b1) b4))).bind fun s7 => some s7) else none) else none) else none)) else none) else none)
set_option maxHeartbeats 4000000 in
set_option maxRecDepth 100000 in
theorem m_X5_hang {E : gj_E} {σ : gj_S} {b0 : Nat} {b1 : Int32} {b2 : Int32} {b3 : Int32} {b4 : Int32} (g0 : isT b0) {x : gj_S} (hf : f_X5_hang b0 b1 b2 b3 b4 σ = some x) : gj_M E yX5_hang cX5_hang 5 none 0 0 [gj_r b0, gj_i b1, gj_i b2, gj_i b3, gj_i b4] σ none x := by
  refine gj_body (lv := [(0, gj_r b0), (1, gj_i b1), (2, gj_i b2), (3, gj_i b3), (4, gj_i b4)]) (by decide +kernel) (Nat.le_of_ble_eq_true rfl) rfl (fun X hO => ?_)
  replace hO : gj_O E X RX5 cX5_hang 5 none 0 0 := hO
  unfold f_X5_hang at hf
  refine gj_aload_n hO 0 dX5_hang_0 rfl rfl ?_
  refine gt_X5_0 hO (kdT_0 g0) (klT_0 g0) wk_143 dX5_hang_1 ?_
  refine gj_iload_n hO 1 dX5_hang_4 rfl rfl ?_
  refine gj_iload_n hO 3 dX5_hang_5 rfl rfl ?_
  obtain ⟨hb1, hf⟩ := gj_c hf
  refine gj_iast hO (klT_1 g0) (kdT_1 g0) hb1 dX5_hang_6 ?_
  refine gj_aload_n hO 0 dX5_hang_7 rfl rfl ?_
  refine gt_X5_1 hO (kdT_0 g0) (klT_0 g0) wk_144 dX5_hang_8 ?_
  refine gj_iload_n hO 1 dX5_hang_11 rfl rfl ?_
  refine gj_iload_n hO 2 dX5_hang_12 rfl rfl ?_
  obtain ⟨hb2, hf⟩ := gj_c hf
  refine gj_iast hO (klT_2 g0) (kdT_2 g0) hb2 dX5_hang_13 ?_
  obtain ⟨s3, e3, hf⟩ := gj_b hf
  refine gj_eqS (Option.some.inj e3) ?_
  refine gj_aload_n hO 0 dX5_hang_14 rfl rfl ?_
  refine gt_X5_2 hO (kdT_0 g0) (klT_0 g0) wk_145 dX5_hang_15 ?_
  refine gj_iload_n hO 1 dX5_hang_18 rfl rfl ?_
  refine gj_aload_n hO 0 dX5_hang_19 rfl rfl ?_
  refine gt_X5_2 hO (kdT_0 g0) (klT_0 g0) wk_145 dX5_hang_20 ?_
  refine gj_iload_n hO 2 dX5_hang_23 rfl rfl ?_
  obtain ⟨hb4, hf⟩ := gj_c hf
  refine gj_iald hO (klT_3 g0) (kdT_3 g0) hb4 dX5_hang_24 ?_
  refine gj_iconst (v := 1) hO dX5_hang_25 (by decide) ?_
  refine gj_iadd hO dX5_hang_26 ?_
  obtain ⟨hb5, hf⟩ := gj_c hf
  refine gj_iast hO (klT_3 g0) (kdT_3 g0) hb5 dX5_hang_27 ?_
  refine gj_aload_n hO 0 dX5_hang_28 rfl rfl ?_
  refine gt_X5_3 hO (kdT_0 g0) (klT_0 g0) wk_146 dX5_hang_29 ?_
  refine gj_iload_n hO 1 dX5_hang_32 rfl rfl ?_
  refine gj_iload hO 4 dX5_hang_33 rfl ?_
  obtain ⟨hb6, hf⟩ := gj_c hf
  refine gj_iast hO (klT_4 g0) (kdT_4 g0) hb6 dX5_hang_35 ?_
  obtain ⟨s7, e7, hf⟩ := gj_b hf
  refine gj_eqS (Option.some.inj e7) ?_
  obtain rfl := Option.some.inj hf
  exact gj_vret hO dX5_hang_36
set_option maxHeartbeats 4000000 in
set_option maxRecDepth 100000 in
theorem ca_X5_hang {E : gj_E} {X : gj_X} {own : String} {cc : ByteArray} {nL : Nat} {rt : Option FieldType} {fr lo : Nat} {r : Option gj_V} {τ : gj_S} {pc : Nat} {lv : List (Nat × gj_V)} {st : List gj_V} {σ : gj_S} (hO : gj_O E X own cc nL rt fr lo) {b0 : Nat} {b1 : Int32} {b2 : Int32} {b3 : Int32} {b4 : Int32} (g0 : isT b0) {idx : Nat} {x : gj_S} (hf : f_X5_hang b0 b1 b2 b3 b4 σ = some x) (hl : Cond.methodLink own idx yX5_hang ∈ gj_gw) (hf1 : 1 ≤ fr) (hf2 : 24 ≤ lo) (hcat : ((st.map (gj_tv E.2.1)).map fun v => v.category).sum ≤ 8) (hd : decode cc pc = .ok (.invokevirtual idx, 3)) (k : gj_G E X nL r τ (pc + 3) lv (st) x) : gj_G E X nL r τ pc lv (gj_i b4 :: gj_i b3 :: gj_i b2 :: gj_i b1 :: gj_r b0 :: st) σ :=
  gj_callV hO (o := b0) (vs := [gj_i b1, gj_i b2, gj_i b3, gj_i b4]) (m_X5_hang g0 hf) hl wk_147 wk_148 wk_149 wk_150 (klT_0 g0) (kdT_0 g0) (by decide) (ci := 5) rfl (n := 4) (by decide +kernel) rfl hf1 hf2 rfl hcat hd k
def f_X5_hangsBy (b0 : Nat) (b1 : Nat) (b2 : Int32) (σ : gj_S) : Option (Int32 × gj_S) := (if gj_in b2 24 then (if gj_in b2 24 then (if gj_in (σ.1 (b1 + 2) (Int32.toNatClampNeg b2)) 9 then (if (σ.1 (b0 + 3) (Int32.toNatClampNeg (σ.1 (b1 + 2) (Int32.toNatClampNeg b2)))) = (-1 : Int32) then (if gj_in (σ.1 (b1 + 2) (Int32.toNatClampNeg b2)) 9 then (if (σ.1 (b0 + 3) (Int32.toNatClampNeg (σ.1 (b1 + 2) (Int32.toNatClampNeg b2)))) = (-1 : Int32) then (if gj_in (σ.1 (b1 + 3) (Int32.toNatClampNeg b2)) 9 then (if (σ.1 (b0 + 3) (Int32.toNatClampNeg (σ.1 (b1 + 3) (Int32.toNatClampNeg b2)))) = (-1 : Int32) then some ((0 : Int32), σ) else (if gj_in (σ.1 (b1 + 3) (Int32.toNatClampNeg b2)) 9 then (if gj_in b2 24 then ((f_X5_hang b0 (σ.1 (b1 + 2) (Int32.toNatClampNeg b2)) (σ.1 (b1 + 3) (Int32.toNatClampNeg b2)) b2 ((σ.1 (b0 + 4) (Int32.toNatClampNeg (σ.1 (b1 + 3) (Int32.toNatClampNeg b2)))) - (σ.1 (b1 + 4) (Int32.toNatClampNeg b2))) σ).bind fun x8 => some ((1 : Int32), x8)) else none) else none)) else none) else some ((0 : Int32), σ)) else none) else (if gj_in (σ.1 (b1 + 3) (Int32.toNatClampNeg b2)) 9 then (if (σ.1 (b0 + 3) (Int32.toNatClampNeg (σ.1 (b1 + 3) (Int32.toNatClampNeg b2)))) = (-1 : Int32) then (if gj_in (σ.1 (b1 + 2) (Int32.toNatClampNeg b2)) 9 then (if gj_in b2 24 then ((f_X5_hang b0 (σ.1 (b1 + 3) (Int32.toNatClampNeg b2)) (σ.1 (b1 + 2) (Int32.toNatClampNeg b2)) b2 ((σ.1 (b0 + 4) (Int32.toNatClampNeg (σ.1 (b1 + 2) (Int32.toNatClampNeg b2)))) + (σ.1 (b1 + 4) (Int32.toNatClampNeg b2))) σ).bind fun x17 => some ((1 : Int32), x17)) else none) else none) else (if gj_in (σ.1 (b1 + 2) (Int32.toNatClampNeg b2)) 9 then (if (σ.1 (b0 + 3) (Int32.toNatClampNeg (σ.1 (b1 + 2) (Int32.toNatClampNeg b2)))) = (-1 : Int32) then (if gj_in (σ.1 (b1 + 3) (Int32.toNatClampNeg b2)) 9 then (if (σ.1 (b0 + 3) (Int32.toNatClampNeg (σ.1 (b1 + 3) (Int32.toNatClampNeg b2)))) = (-1 : Int32) then some ((0 : Int32), σ) else (if gj_in (σ.1 (b1 + 3) (Int32.toNatClampNeg b2)) 9 then (if gj_in b2 24 then ((f_X5_hang b0 (σ.1 (b1 + 2) (Int32.toNatClampNeg b2)) (σ.1 (b1 + 3) (Int32.toNatClampNeg b2)) b2 ((σ.1 (b0 + 4) (Int32.toNatClampNeg (σ.1 (b1 + 3) (Int32.toNatClampNeg b2)))) - (σ.1 (b1 + 4) (Int32.toNatClampNeg b2))) σ).bind fun x14 => some ((1 : Int32), x14)) else none) else none)) else none) else some ((0 : Int32), σ)) else none)) else none)) else none) else none) else none)
set_option maxHeartbeats 4000000 in
set_option maxRecDepth 100000 in
theorem m_X5_hangsBy {E : gj_E} {σ : gj_S} {b0 : Nat} {b1 : Nat} {b2 : Int32} (g0 : isT b0) (g1 : isP b1) {x : (Int32 × gj_S)} (hf : f_X5_hangsBy b0 b1 b2 σ = some x) : gj_M E yX5_hangsBy cX5_hangsBy 5 (some .boolean) 1 24 [gj_r b0, gj_r b1, gj_i b2] σ (some (gj_i x.1)) x.2 := by
  refine gj_body (lv := [(0, gj_r b0), (1, gj_r b1), (2, gj_i b2)]) (by decide +kernel) (Nat.le_of_ble_eq_true rfl) rfl (fun X hO => ?_)
  replace hO : gj_O E X RX5 cX5_hangsBy 5 (some .boolean) 1 24 := hO
  unfold f_X5_hangsBy at hf
  refine gj_aload_n hO 1 dX5_hangsBy_0 rfl rfl ?_
  refine gt_X1_6 hO (kdP_0 g1) (klP_0 g1) wk_151 dX5_hangsBy_1 ?_
  refine gj_iload_n hO 2 dX5_hangsBy_4 rfl rfl ?_
  obtain ⟨hb1, hf⟩ := gj_c hf
  refine gj_iald hO (klP_2 g1) (kdP_2 g1) hb1 dX5_hangsBy_5 ?_
  refine gj_istore_n (lv2 := [(3, gj_i (σ.1 (b1 + 2) (Int32.toNatClampNeg b2))), (0, gj_r b0), (1, gj_r b1), (2, gj_i b2)]) hO dX5_hangsBy_6 rfl (by decide) rfl ?_
  refine gj_aload_n hO 2 dX5_hangsBy_7 rfl rfl ?_
  refine gt_X1_7 hO (kdP_0 g1) (klP_0 g1) wk_152 dX5_hangsBy_8 ?_
  refine gj_iload_n hO 3 dX5_hangsBy_11 rfl rfl ?_
  obtain ⟨hb2, hf⟩ := gj_c hf
  refine gj_iald hO (klP_3 g1) (kdP_3 g1) hb2 dX5_hangsBy_12 ?_
  refine gj_istore (lv2 := [(4, gj_i (σ.1 (b1 + 3) (Int32.toNatClampNeg b2))), (3, gj_i (σ.1 (b1 + 2) (Int32.toNatClampNeg b2))), (0, gj_r b0), (1, gj_r b1), (2, gj_i b2)]) hO dX5_hangsBy_13 (by decide) rfl ?_
  refine gj_aload_n hO 2 dX5_hangsBy_15 rfl rfl ?_
  refine gt_X5_2 hO (kdT_0 g0) (klT_0 g0) wk_145 dX5_hangsBy_16 ?_
  refine gj_iload_n hO 1 dX5_hangsBy_19 rfl rfl ?_
  obtain ⟨hb3, hf⟩ := gj_c hf
  refine gj_iald hO (klT_3 g0) (kdT_3 g0) hb3 dX5_hangsBy_20 ?_
  refine gj_iconst (v := (-1)) hO dX5_hangsBy_21 (by decide) ?_
  refine gj_icmp_eq (tgt := 59) hO dX5_hangsBy_22 (by decide) (fun h => ?_) (fun h => ?_)
  · replace hf := gj_t h hf
    refine gj_aload_n hO 2 dX5_hangsBy_59 rfl rfl ?_
    refine gt_X5_2 hO (kdT_0 g0) (klT_0 g0) wk_145 dX5_hangsBy_60 ?_
    refine gj_iload_n hO 1 dX5_hangsBy_63 rfl rfl ?_
    obtain ⟨hb4, hf⟩ := gj_c hf
    refine gj_iald hO (klT_3 g0) (kdT_3 g0) hb4 dX5_hangsBy_64 ?_
    refine gj_iconst (v := (-1)) hO dX5_hangsBy_65 (by decide) ?_
    refine gj_icmp_ne (tgt := 104) hO dX5_hangsBy_66 (by decide) (fun h => ?_) (fun h => ?_)
    · replace hf := gj_f h hf
      refine gj_iconst (v := 0) hO dX5_hangsBy_104 (by decide) ?_
      obtain rfl := Option.some.inj hf
      exact gj_zret hO (Or.inl rfl) dX5_hangsBy_105
    · replace hf := gj_t h hf
      refine gj_aload_n hO 2 dX5_hangsBy_69 rfl rfl ?_
      refine gt_X5_2 hO (kdT_0 g0) (klT_0 g0) wk_145 dX5_hangsBy_70 ?_
      refine gj_iload hO 0 dX5_hangsBy_73 rfl ?_
      obtain ⟨hb5, hf⟩ := gj_c hf
      refine gj_iald hO (klT_3 g0) (kdT_3 g0) hb5 dX5_hangsBy_75 ?_
      refine gj_iconst (v := (-1)) hO dX5_hangsBy_76 (by decide) ?_
      refine gj_icmp_eq (tgt := 104) hO dX5_hangsBy_77 (by decide) (fun h => ?_) (fun h => ?_)
      · replace hf := gj_t h hf
        refine gj_iconst (v := 0) hO dX5_hangsBy_104 (by decide) ?_
        obtain rfl := Option.some.inj hf
        exact gj_zret hO (Or.inl rfl) dX5_hangsBy_105
      · replace hf := gj_f h hf
        refine gj_aload_n hO 2 dX5_hangsBy_80 rfl rfl ?_
        refine gj_iload_n hO 1 dX5_hangsBy_81 rfl rfl ?_
        refine gj_iload hO 0 dX5_hangsBy_82 rfl ?_
        refine gj_iload_n hO 4 dX5_hangsBy_84 rfl rfl ?_
        refine gj_aload_n hO 2 dX5_hangsBy_85 rfl rfl ?_
        refine gt_X5_3 hO (kdT_0 g0) (klT_0 g0) wk_146 dX5_hangsBy_86 ?_
        refine gj_iload hO 0 dX5_hangsBy_89 rfl ?_
        obtain ⟨hb6, hf⟩ := gj_c hf
        refine gj_iald hO (klT_4 g0) (kdT_4 g0) hb6 dX5_hangsBy_91 ?_
        refine gj_aload_n hO 3 dX5_hangsBy_92 rfl rfl ?_
        refine gt_X1_8 hO (kdP_0 g1) (klP_0 g1) wk_153 dX5_hangsBy_93 ?_
        refine gj_iload_n hO 4 dX5_hangsBy_96 rfl rfl ?_
        obtain ⟨hb7, hf⟩ := gj_c hf
        refine gj_iald hO (klP_4 g1) (kdP_4 g1) hb7 dX5_hangsBy_97 ?_
        refine gj_isub hO dX5_hangsBy_98 ?_
        obtain ⟨x8, hc8, hf⟩ := gj_b hf
        refine ca_X5_hang hO g0 hc8 wk_154 (by decide) (by decide) (Nat.le_of_ble_eq_true rfl) dX5_hangsBy_99 ?_
        refine gj_iconst (v := 1) hO dX5_hangsBy_102 (by decide) ?_
        obtain rfl := Option.some.inj hf
        exact gj_zret hO (Or.inr rfl) dX5_hangsBy_103
  · replace hf := gj_f h hf
    refine gj_aload_n hO 2 dX5_hangsBy_25 rfl rfl ?_
    refine gt_X5_2 hO (kdT_0 g0) (klT_0 g0) wk_145 dX5_hangsBy_26 ?_
    refine gj_iload hO 0 dX5_hangsBy_29 rfl ?_
    obtain ⟨hb9, hf⟩ := gj_c hf
    refine gj_iald hO (klT_3 g0) (kdT_3 g0) hb9 dX5_hangsBy_31 ?_
    refine gj_iconst (v := (-1)) hO dX5_hangsBy_32 (by decide) ?_
    refine gj_icmp_ne (tgt := 59) hO dX5_hangsBy_33 (by decide) (fun h => ?_) (fun h => ?_)
    · replace hf := gj_f h hf
      refine gj_aload_n hO 2 dX5_hangsBy_59 rfl rfl ?_
      refine gt_X5_2 hO (kdT_0 g0) (klT_0 g0) wk_145 dX5_hangsBy_60 ?_
      refine gj_iload_n hO 1 dX5_hangsBy_63 rfl rfl ?_
      obtain ⟨hb10, hf⟩ := gj_c hf
      refine gj_iald hO (klT_3 g0) (kdT_3 g0) hb10 dX5_hangsBy_64 ?_
      refine gj_iconst (v := (-1)) hO dX5_hangsBy_65 (by decide) ?_
      refine gj_icmp_ne (tgt := 104) hO dX5_hangsBy_66 (by decide) (fun h => ?_) (fun h => ?_)
      · replace hf := gj_f h hf
        refine gj_iconst (v := 0) hO dX5_hangsBy_104 (by decide) ?_
        obtain rfl := Option.some.inj hf
        exact gj_zret hO (Or.inl rfl) dX5_hangsBy_105
      · replace hf := gj_t h hf
        refine gj_aload_n hO 2 dX5_hangsBy_69 rfl rfl ?_
        refine gt_X5_2 hO (kdT_0 g0) (klT_0 g0) wk_145 dX5_hangsBy_70 ?_
        refine gj_iload hO 0 dX5_hangsBy_73 rfl ?_
        obtain ⟨hb11, hf⟩ := gj_c hf
        refine gj_iald hO (klT_3 g0) (kdT_3 g0) hb11 dX5_hangsBy_75 ?_
        refine gj_iconst (v := (-1)) hO dX5_hangsBy_76 (by decide) ?_
        refine gj_icmp_eq (tgt := 104) hO dX5_hangsBy_77 (by decide) (fun h => ?_) (fun h => ?_)
        · replace hf := gj_t h hf
          refine gj_iconst (v := 0) hO dX5_hangsBy_104 (by decide) ?_
          obtain rfl := Option.some.inj hf
          exact gj_zret hO (Or.inl rfl) dX5_hangsBy_105
        · replace hf := gj_f h hf
          refine gj_aload_n hO 2 dX5_hangsBy_80 rfl rfl ?_
          refine gj_iload_n hO 1 dX5_hangsBy_81 rfl rfl ?_
          refine gj_iload hO 0 dX5_hangsBy_82 rfl ?_
          refine gj_iload_n hO 4 dX5_hangsBy_84 rfl rfl ?_
          refine gj_aload_n hO 2 dX5_hangsBy_85 rfl rfl ?_
          refine gt_X5_3 hO (kdT_0 g0) (klT_0 g0) wk_146 dX5_hangsBy_86 ?_
          refine gj_iload hO 0 dX5_hangsBy_89 rfl ?_
          obtain ⟨hb12, hf⟩ := gj_c hf
          refine gj_iald hO (klT_4 g0) (kdT_4 g0) hb12 dX5_hangsBy_91 ?_
          refine gj_aload_n hO 3 dX5_hangsBy_92 rfl rfl ?_
          refine gt_X1_8 hO (kdP_0 g1) (klP_0 g1) wk_153 dX5_hangsBy_93 ?_
          refine gj_iload_n hO 4 dX5_hangsBy_96 rfl rfl ?_
          obtain ⟨hb13, hf⟩ := gj_c hf
          refine gj_iald hO (klP_4 g1) (kdP_4 g1) hb13 dX5_hangsBy_97 ?_
          refine gj_isub hO dX5_hangsBy_98 ?_
          obtain ⟨x14, hc14, hf⟩ := gj_b hf
          refine ca_X5_hang hO g0 hc14 wk_154 (by decide) (by decide) (Nat.le_of_ble_eq_true rfl) dX5_hangsBy_99 ?_
          refine gj_iconst (v := 1) hO dX5_hangsBy_102 (by decide) ?_
          obtain rfl := Option.some.inj hf
          exact gj_zret hO (Or.inr rfl) dX5_hangsBy_103
    · replace hf := gj_t h hf
      refine gj_aload_n hO 2 dX5_hangsBy_36 rfl rfl ?_
      refine gj_iload hO 0 dX5_hangsBy_37 rfl ?_
      refine gj_iload_n hO 1 dX5_hangsBy_39 rfl rfl ?_
      refine gj_iload_n hO 4 dX5_hangsBy_40 rfl rfl ?_
      refine gj_aload_n hO 2 dX5_hangsBy_41 rfl rfl ?_
      refine gt_X5_3 hO (kdT_0 g0) (klT_0 g0) wk_146 dX5_hangsBy_42 ?_
      refine gj_iload_n hO 1 dX5_hangsBy_45 rfl rfl ?_
      obtain ⟨hb15, hf⟩ := gj_c hf
      refine gj_iald hO (klT_4 g0) (kdT_4 g0) hb15 dX5_hangsBy_46 ?_
      refine gj_aload_n hO 3 dX5_hangsBy_47 rfl rfl ?_
      refine gt_X1_8 hO (kdP_0 g1) (klP_0 g1) wk_153 dX5_hangsBy_48 ?_
      refine gj_iload_n hO 4 dX5_hangsBy_51 rfl rfl ?_
      obtain ⟨hb16, hf⟩ := gj_c hf
      refine gj_iald hO (klP_4 g1) (kdP_4 g1) hb16 dX5_hangsBy_52 ?_
      refine gj_iadd hO dX5_hangsBy_53 ?_
      obtain ⟨x17, hc17, hf⟩ := gj_b hf
      refine ca_X5_hang hO g0 hc17 wk_154 (by decide) (by decide) (Nat.le_of_ble_eq_true rfl) dX5_hangsBy_54 ?_
      refine gj_iconst (v := 1) hO dX5_hangsBy_57 (by decide) ?_
      obtain rfl := Option.some.inj hf
      exact gj_zret hO (Or.inr rfl) dX5_hangsBy_58
set_option maxHeartbeats 4000000 in
set_option maxRecDepth 100000 in
theorem ca_X5_hangsBy {E : gj_E} {X : gj_X} {own : String} {cc : ByteArray} {nL : Nat} {rt : Option FieldType} {fr lo : Nat} {r : Option gj_V} {τ : gj_S} {pc : Nat} {lv : List (Nat × gj_V)} {st : List gj_V} {σ : gj_S} (hO : gj_O E X own cc nL rt fr lo) {b0 : Nat} {b1 : Nat} {b2 : Int32} (g0 : isT b0) (g1 : isP b1) {idx : Nat} {x : (Int32 × gj_S)} (hf : f_X5_hangsBy b0 b1 b2 σ = some x) (hl : Cond.methodLink own idx yX5_hangsBy ∈ gj_gw) (hf1 : 2 ≤ fr) (hf2 : 48 ≤ lo) (hcat : ((st.map (gj_tv E.2.1)).map fun v => v.category).sum ≤ 8) (hd : decode cc pc = .ok (.invokevirtual idx, 3)) (k : gj_G E X nL r τ (pc + 3) lv ((gj_i x.1) :: st) x.2) : gj_G E X nL r τ pc lv (gj_i b2 :: gj_r b1 :: gj_r b0 :: st) σ :=
  gj_callV hO (o := b0) (vs := [gj_r b1, gj_i b2]) (m_X5_hangsBy g0 g1 hf) hl wk_155 wk_156 wk_149 wk_157 (klT_0 g0) (kdT_0 g0) (by decide) (ci := 5) rfl (n := 2) (by decide +kernel) rfl hf1 hf2 rfl hcat hd k
def fb_X5_grow_l2 (b0 : Nat) (b1 : Nat) (a1 : (Int32 × gj_S)) : Option (gj_S ⊕ (Int32 × gj_S)) := (if (9 : Int32) ≤ a1.1 then some (.inl a1.2) else (if gj_in a1.1 9 then (if gj_in a1.1 9 then (if gj_in a1.1 9 then ((some (gj_sI (gj_sI a1.2 (b0 + 5) (upd (a1.2.1 (b0 + 5)) (Int32.toNatClampNeg a1.1) (a1.2.1 (b0 + 4) (Int32.toNatClampNeg a1.1)))) (b0 + 2) (upd ((gj_sI a1.2 (b0 + 5) (upd (a1.2.1 (b0 + 5)) (Int32.toNatClampNeg a1.1) (a1.2.1 (b0 + 4) (Int32.toNatClampNeg a1.1)))).1 (b0 + 2)) (Int32.toNatClampNeg a1.1) (8 : Int32)))).bind fun s6 => ((if a1.1 = (8 : Int32) then some (0 : Int32) else some (-1 : Int32) : Option Int32).bind fun z7 => (if gj_in a1.1 9 then (if gj_in a1.1 9 then ((some (gj_sI (gj_sI s6 (b0 + 3) (upd (s6.1 (b0 + 3)) (Int32.toNatClampNeg a1.1) z7)) (b0 + 4) (upd ((gj_sI s6 (b0 + 3) (upd (s6.1 (b0 + 3)) (Int32.toNatClampNeg a1.1) z7)).1 (b0 + 4)) (Int32.toNatClampNeg a1.1) (0 : Int32)))).bind fun s10 => some (.inr ((a1.1 + 1), s10))) else none) else none))) else none) else none) else none))
def fb_X5_grow_l81 (b0 : Nat) (b1 : Nat) (b3 : Int32) (a13 : (Int32 × Int32 × gj_S)) : Option ((Int32 × gj_S) ⊕ (Int32 × Int32 × gj_S)) := ((f_X1_countWays b1 a13.2.2).bind fun x15 => (if x15 ≤ a13.2.1 then some (.inl (a13.1, a13.2.2)) else (if gj_in a13.2.1 24 then (if (a13.2.2.1 (b1 + 7) (Int32.toNatClampNeg a13.2.1)) = 0 then ((f_X5_hangsBy b0 b1 a13.2.1 a13.2.2).bind fun x17 => (if x17.1 = 0 then some (.inr ((a13.1 + (0 : Int32)), (a13.2.1 + 1), x17.2)) else some (.inr ((a13.1 + (1 : Int32)), (a13.2.1 + 1), x17.2)))) else some (.inr ((a13.1 + (0 : Int32)), (a13.2.1 + 1), a13.2.2))) else none)))
def fb_X5_grow_l62 (b0 : Nat) (b1 : Nat) (a11 : (Int32 × Int32 × gj_S)) : Option (gj_S ⊕ (Int32 × Int32 × gj_S)) := (if (a11.2.2.1 b1 0) ≤ a11.2.1 then some (.inl a11.2.2) else (if (a11.2.2.1 b1 0) ≤ a11.1 then some (.inl a11.2.2) else ((gj_lp (fb_X5_grow_l81 b0 b1 a11.2.1) 5000 (a11.1, (0 : Int32), a11.2.2)).bind fun z13 => some (.inr (z13.1, (a11.2.1 + 1), z13.2)))))
def f_X5_grow (b0 : Nat) (b1 : Nat) (σ : gj_S) : Option gj_S := ((gj_lp (fb_X5_grow_l2 b0 b1) 5000 ((0 : Int32), σ)).bind fun z1 => ((gj_lp (fb_X5_grow_l62 b0 b1) 5000 ((0 : Int32), (0 : Int32), z1)).bind fun z11 => some z11))
set_option maxHeartbeats 4000000 in
set_option maxRecDepth 100000 in
theorem sb_X5_grow_l2 {E : gj_E} {X : gj_X} {r : Option gj_V} {τ : gj_S} (hO : gj_O E X RX5 cX5_grow 5 none 2 48) {b0 : Nat} {b1 : Nat} (g0 : isT b0) (g1 : isP b1) {a1 : (Int32 × gj_S)} {x : gj_S ⊕ (Int32 × gj_S)} (hf : fb_X5_grow_l2 b0 b1 a1 = some x) (K : gj_K (fun z1 => gj_G E X 5 r τ 58 [(0, gj_r b0), (1, gj_r b1)] [] z1) (fun a1 => gj_G E X 5 r τ 2 [(0, gj_r b0), (1, gj_r b1), (2, gj_i a1.1)] [] a1.2) x) : gj_G E X 5 r τ 2 [(0, gj_r b0), (1, gj_r b1), (2, gj_i a1.1)] [] a1.2 := by
  unfold fb_X5_grow_l2 at hf
  refine gj_iload_n hO 2 dX5_grow_2 rfl rfl ?_
  refine gj_bipush (v := 9) hO dX5_grow_3 (by decide) ?_
  refine gj_icmp_ge (tgt := 58) hO dX5_grow_5 (by decide) (fun h => ?_) (fun h => ?_)
  · replace hf := gj_t h hf
    obtain rfl := Option.some.inj hf
    refine gj_sub [0, 1] rfl ?_
    exact K
  · replace hf := gj_f h hf
    refine gj_aload_n hO 0 dX5_grow_8 rfl rfl ?_
    refine gt_X5_4 hO (kdT_0 g0) (klT_0 g0) wk_158 dX5_grow_9 ?_
    refine gj_iload_n hO 2 dX5_grow_12 rfl rfl ?_
    refine gj_aload_n hO 0 dX5_grow_13 rfl rfl ?_
    refine gt_X5_3 hO (kdT_0 g0) (klT_0 g0) wk_146 dX5_grow_14 ?_
    refine gj_iload_n hO 2 dX5_grow_17 rfl rfl ?_
    obtain ⟨hb3, hf⟩ := gj_c hf
    refine gj_iald hO (klT_4 g0) (kdT_4 g0) hb3 dX5_grow_18 ?_
    obtain ⟨hb4, hf⟩ := gj_c hf
    refine gj_iast hO (klT_5 g0) (kdT_5 g0) hb4 dX5_grow_19 ?_
    refine gj_aload_n hO 0 dX5_grow_20 rfl rfl ?_
    refine gt_X5_1 hO (kdT_0 g0) (klT_0 g0) wk_144 dX5_grow_21 ?_
    refine gj_iload_n hO 2 dX5_grow_24 rfl rfl ?_
    refine gj_bipush (v := 8) hO dX5_grow_25 (by decide) ?_
    obtain ⟨hb5, hf⟩ := gj_c hf
    refine gj_iast hO (klT_2 g0) (kdT_2 g0) hb5 dX5_grow_27 ?_
    obtain ⟨s6, e6, hf⟩ := gj_b hf
    refine gj_eqS (Option.some.inj e6) ?_
    refine gj_aload_n hO 0 dX5_grow_28 rfl rfl ?_
    refine gt_X5_2 hO (kdT_0 g0) (klT_0 g0) wk_145 dX5_grow_29 ?_
    refine gj_iload_n hO 2 dX5_grow_32 rfl rfl ?_
    refine gj_iload_n hO 2 dX5_grow_33 rfl rfl ?_
    refine gj_bipush (v := 8) hO dX5_grow_34 (by decide) ?_
    obtain ⟨z7, hz7, hf⟩ := gj_b hf
    have J7 : gj_G E X 5 r τ 44 [(0, gj_r b0), (1, gj_r b1), (2, gj_i a1.1)] [gj_i z7, gj_i a1.1, gj_r (b0 + 3)] s6 := by
      obtain ⟨hb8, hf⟩ := gj_c hf
      refine gj_iast hO (klT_3 g0) (kdT_3 g0) hb8 dX5_grow_44 ?_
      refine gj_aload_n hO 0 dX5_grow_45 rfl rfl ?_
      refine gt_X5_3 hO (kdT_0 g0) (klT_0 g0) wk_146 dX5_grow_46 ?_
      refine gj_iload_n hO 2 dX5_grow_49 rfl rfl ?_
      refine gj_iconst (v := 0) hO dX5_grow_50 (by decide) ?_
      obtain ⟨hb9, hf⟩ := gj_c hf
      refine gj_iast hO (klT_4 g0) (kdT_4 g0) hb9 dX5_grow_51 ?_
      obtain ⟨s10, e10, hf⟩ := gj_b hf
      refine gj_eqS (Option.some.inj e10) ?_
      refine gj_iinc (v := (a1.1 + 1)) (lv2 := [(2, gj_i (a1.1 + 1)), (0, gj_r b0), (1, gj_r b1)]) hO 2 dX5_grow_52 rfl rfl (by decide) rfl ?_
      refine gj_goto (tgt := 2) hO dX5_grow_55 (by decide) ?_
      obtain rfl := Option.some.inj hf
      refine gj_sub [1, 2, 0] rfl ?_
      exact K
    refine gj_icmp_ne (tgt := 43) hO dX5_grow_36 (by decide) (fun h => ?_) (fun h => ?_)
    · replace hz7 := gj_f h hz7
      refine gj_iconst (v := (-1)) hO dX5_grow_43 (by decide) ?_
      obtain rfl := Option.some.inj hz7
      refine gj_sub [0, 1, 2] rfl ?_
      exact J7
    · replace hz7 := gj_t h hz7
      refine gj_iconst (v := 0) hO dX5_grow_39 (by decide) ?_
      refine gj_goto (tgt := 44) hO dX5_grow_40 (by decide) ?_
      obtain rfl := Option.some.inj hz7
      refine gj_sub [0, 1, 2] rfl ?_
      exact J7
set_option maxHeartbeats 4000000 in
set_option maxRecDepth 100000 in
theorem sb_X5_grow_l81 {E : gj_E} {X : gj_X} {r : Option gj_V} {τ : gj_S} (hO : gj_O E X RX5 cX5_grow 5 none 2 48) {b0 : Nat} {b1 : Nat} {b3 : Int32} (g0 : isT b0) (g1 : isP b1) {a13 : (Int32 × Int32 × gj_S)} {x : (Int32 × gj_S) ⊕ (Int32 × Int32 × gj_S)} (hf : fb_X5_grow_l81 b0 b1 b3 a13 = some x) (K : gj_K (fun z13 => gj_G E X 5 r τ 124 [(0, gj_r b0), (1, gj_r b1), (2, gj_i z13.1), (3, gj_i b3)] [] z13.2) (fun a13 => gj_G E X 5 r τ 81 [(0, gj_r b0), (1, gj_r b1), (2, gj_i a13.1), (3, gj_i b3), (4, gj_i a13.2.1)] [] a13.2.2) x) : gj_G E X 5 r τ 81 [(0, gj_r b0), (1, gj_r b1), (2, gj_i a13.1), (3, gj_i b3), (4, gj_i a13.2.1)] [] a13.2.2 := by
  unfold fb_X5_grow_l81 at hf
  refine gj_iload hO 4 dX5_grow_81 rfl ?_
  refine gj_aload_n hO 1 dX5_grow_83 rfl rfl ?_
  obtain ⟨x15, hc15, hf⟩ := gj_b hf
  refine ca_X1_countWays hO g1 hc15 wk_160 (by decide) (by decide) (Nat.le_of_ble_eq_true rfl) dX5_grow_84 ?_
  refine gj_icmp_ge (tgt := 124) hO dX5_grow_87 (by decide) (fun h => ?_) (fun h => ?_)
  · replace hf := gj_t h hf
    obtain rfl := Option.some.inj hf
    refine gj_sub [0, 1, 2, 3] rfl ?_
    exact K
  · replace hf := gj_f h hf
    refine gj_iload_n hO 2 dX5_grow_90 rfl rfl ?_
    refine gj_aload_n hO 1 dX5_grow_91 rfl rfl ?_
    refine gt_X1_11 hO (kdP_0 g1) (klP_0 g1) wk_161 dX5_grow_92 ?_
    refine gj_iload hO 4 dX5_grow_95 rfl ?_
    obtain ⟨hb16, hf⟩ := gj_c hf
    refine gj_iald hO (klP_7 g1) (kdP_7 g1) hb16 dX5_grow_97 ?_
    refine gj_if_ne (tgt := 115) hO dX5_grow_98 (by decide) (fun h => ?_) (fun h => ?_)
    · replace hf := gj_f h hf
      refine gj_iconst (v := 0) hO dX5_grow_115 (by decide) ?_
      refine gj_iadd hO dX5_grow_116 ?_
      refine gj_istore_n (lv2 := [(2, gj_i (a13.1 + (0 : Int32))), (0, gj_r b0), (1, gj_r b1), (3, gj_i b3), (4, gj_i a13.2.1)]) hO dX5_grow_117 rfl (by decide) rfl ?_
      refine gj_iinc (v := (a13.2.1 + 1)) (lv2 := [(4, gj_i (a13.2.1 + 1)), (2, gj_i (a13.1 + (0 : Int32))), (0, gj_r b0), (1, gj_r b1), (3, gj_i b3)]) hO 4 dX5_grow_118 rfl rfl (by decide) rfl ?_
      refine gj_goto (tgt := 81) hO dX5_grow_121 (by decide) ?_
      obtain rfl := Option.some.inj hf
      refine gj_sub [2, 3, 1, 4, 0] rfl ?_
      exact K
    · replace hf := gj_t h hf
      refine gj_aload_n hO 0 dX5_grow_101 rfl rfl ?_
      refine gj_aload_n hO 1 dX5_grow_102 rfl rfl ?_
      refine gj_iload hO 4 dX5_grow_103 rfl ?_
      obtain ⟨x17, hc17, hf⟩ := gj_b hf
      refine ca_X5_hangsBy hO g0 g1 hc17 wk_162 (by decide) (by decide) (Nat.le_of_ble_eq_true rfl) dX5_grow_105 ?_
      refine gj_if_eq (tgt := 115) hO dX5_grow_108 (by decide) (fun h => ?_) (fun h => ?_)
      · replace hf := gj_t h hf
        refine gj_iconst (v := 0) hO dX5_grow_115 (by decide) ?_
        refine gj_iadd hO dX5_grow_116 ?_
        refine gj_istore_n (lv2 := [(2, gj_i (a13.1 + (0 : Int32))), (0, gj_r b0), (1, gj_r b1), (3, gj_i b3), (4, gj_i a13.2.1)]) hO dX5_grow_117 rfl (by decide) rfl ?_
        refine gj_iinc (v := (a13.2.1 + 1)) (lv2 := [(4, gj_i (a13.2.1 + 1)), (2, gj_i (a13.1 + (0 : Int32))), (0, gj_r b0), (1, gj_r b1), (3, gj_i b3)]) hO 4 dX5_grow_118 rfl rfl (by decide) rfl ?_
        refine gj_goto (tgt := 81) hO dX5_grow_121 (by decide) ?_
        obtain rfl := Option.some.inj hf
        refine gj_sub [2, 3, 1, 4, 0] rfl ?_
        exact K
      · replace hf := gj_f h hf
        refine gj_iconst (v := 1) hO dX5_grow_111 (by decide) ?_
        refine gj_goto (tgt := 116) hO dX5_grow_112 (by decide) ?_
        refine gj_iadd hO dX5_grow_116 ?_
        refine gj_istore_n (lv2 := [(2, gj_i (a13.1 + (1 : Int32))), (0, gj_r b0), (1, gj_r b1), (3, gj_i b3), (4, gj_i a13.2.1)]) hO dX5_grow_117 rfl (by decide) rfl ?_
        refine gj_iinc (v := (a13.2.1 + 1)) (lv2 := [(4, gj_i (a13.2.1 + 1)), (2, gj_i (a13.1 + (1 : Int32))), (0, gj_r b0), (1, gj_r b1), (3, gj_i b3)]) hO 4 dX5_grow_118 rfl rfl (by decide) rfl ?_
        refine gj_goto (tgt := 81) hO dX5_grow_121 (by decide) ?_
        obtain rfl := Option.some.inj hf
        refine gj_sub [2, 3, 1, 4, 0] rfl ?_
        exact K
set_option maxHeartbeats 4000000 in
set_option maxRecDepth 100000 in
theorem sb_X5_grow_l62 {E : gj_E} {X : gj_X} {r : Option gj_V} {τ : gj_S} (hO : gj_O E X RX5 cX5_grow 5 none 2 48) {b0 : Nat} {b1 : Nat} (g0 : isT b0) (g1 : isP b1) {a11 : (Int32 × Int32 × gj_S)} {x : gj_S ⊕ (Int32 × Int32 × gj_S)} (hf : fb_X5_grow_l62 b0 b1 a11 = some x) (K : gj_K (fun z11 => gj_G E X 5 r τ 130 [] [] z11) (fun a11 => gj_G E X 5 r τ 62 [(0, gj_r b0), (1, gj_r b1), (2, gj_i a11.1), (3, gj_i a11.2.1)] [] a11.2.2) x) : gj_G E X 5 r τ 62 [(0, gj_r b0), (1, gj_r b1), (2, gj_i a11.1), (3, gj_i a11.2.1)] [] a11.2.2 := by
  unfold fb_X5_grow_l62 at hf
  refine gj_iload_n hO 3 dX5_grow_62 rfl rfl ?_
  refine gj_aload_n hO 1 dX5_grow_63 rfl rfl ?_
  refine gt_X1_0 hO (kdP_0 g1) (klP_0 g1) wk_159 dX5_grow_64 ?_
  refine gj_icmp_ge (tgt := 130) hO dX5_grow_67 (by decide) (fun h => ?_) (fun h => ?_)
  · replace hf := gj_t h hf
    obtain rfl := Option.some.inj hf
    refine gj_sub [] rfl ?_
    exact K
  · replace hf := gj_f h hf
    refine gj_iload_n hO 2 dX5_grow_70 rfl rfl ?_
    refine gj_aload_n hO 1 dX5_grow_71 rfl rfl ?_
    refine gt_X1_0 hO (kdP_0 g1) (klP_0 g1) wk_159 dX5_grow_72 ?_
    refine gj_icmp_ge (tgt := 130) hO dX5_grow_75 (by decide) (fun h => ?_) (fun h => ?_)
    · replace hf := gj_t h hf
      obtain rfl := Option.some.inj hf
      refine gj_sub [] rfl ?_
      exact K
    · replace hf := gj_f h hf
      refine gj_iconst (v := 0) hO dX5_grow_78 (by decide) ?_
      refine gj_istore (lv2 := [(4, gj_i (0 : Int32)), (0, gj_r b0), (1, gj_r b1), (2, gj_i a11.1), (3, gj_i a11.2.1)]) hO dX5_grow_79 (by decide) rfl ?_
      obtain ⟨z13, hz13, hf⟩ := gj_b hf
      have J13 : gj_G E X 5 r τ 124 [(0, gj_r b0), (1, gj_r b1), (2, gj_i z13.1), (3, gj_i a11.2.1)] [] z13.2 := by
        refine gj_iinc (v := (a11.2.1 + 1)) (lv2 := [(3, gj_i (a11.2.1 + 1)), (0, gj_r b0), (1, gj_r b1), (2, gj_i z13.1)]) hO 3 dX5_grow_124 rfl rfl (by decide) rfl ?_
        refine gj_goto (tgt := 62) hO dX5_grow_127 (by decide) ?_
        obtain rfl := Option.some.inj hf
        refine gj_sub [1, 2, 3, 0] rfl ?_
        exact K
      refine gj_sub [1, 2, 3, 4, 0] rfl ?_
      exact gj_loop (head := fun a13 => gj_G E X 5 r τ 81 [(0, gj_r b0), (1, gj_r b1), (2, gj_i a13.1), (3, gj_i a11.2.1), (4, gj_i a13.2.1)] [] a13.2.2) (exit := fun z13 => gj_G E X 5 r τ 124 [(0, gj_r b0), (1, gj_r b1), (2, gj_i z13.1), (3, gj_i a11.2.1)] [] z13.2) (fun a13 x hf K => sb_X5_grow_l81 hO g0 g1 hf K) _ _ _ hz13 J13
set_option maxHeartbeats 4000000 in
set_option maxRecDepth 100000 in
theorem m_X5_grow {E : gj_E} {σ : gj_S} {b0 : Nat} {b1 : Nat} (g0 : isT b0) (g1 : isP b1) {x : gj_S} (hf : f_X5_grow b0 b1 σ = some x) : gj_M E yX5_grow cX5_grow 5 none 2 48 [gj_r b0, gj_r b1] σ none x := by
  refine gj_body (lv := [(0, gj_r b0), (1, gj_r b1)]) (by decide +kernel) (Nat.le_of_ble_eq_true rfl) rfl (fun X hO => ?_)
  replace hO : gj_O E X RX5 cX5_grow 5 none 2 48 := hO
  unfold f_X5_grow at hf
  refine gj_iconst (v := 0) hO dX5_grow_0 (by decide) ?_
  refine gj_istore_n (lv2 := [(2, gj_i (0 : Int32)), (0, gj_r b0), (1, gj_r b1)]) hO dX5_grow_1 rfl (by decide) rfl ?_
  obtain ⟨z1, hz1, hf⟩ := gj_b hf
  have J1 : gj_G E X 5 none x 58 [(0, gj_r b0), (1, gj_r b1)] [] z1 := by
    refine gj_iconst (v := 0) hO dX5_grow_58 (by decide) ?_
    refine gj_istore_n (lv2 := [(2, gj_i (0 : Int32)), (0, gj_r b0), (1, gj_r b1)]) hO dX5_grow_59 rfl (by decide) rfl ?_
    refine gj_iconst (v := 0) hO dX5_grow_60 (by decide) ?_
    refine gj_istore_n (lv2 := [(3, gj_i (0 : Int32)), (2, gj_i (0 : Int32)), (0, gj_r b0), (1, gj_r b1)]) hO dX5_grow_61 rfl (by decide) rfl ?_
    obtain ⟨z11, hz11, hf⟩ := gj_b hf
    have J11 : gj_G E X 5 none x 130 [] [] z11 := by
      obtain rfl := Option.some.inj hf
      exact gj_vret hO dX5_grow_130
    refine gj_sub [2, 3, 1, 0] rfl ?_
    exact gj_loop (head := fun a11 => gj_G E X 5 none x 62 [(0, gj_r b0), (1, gj_r b1), (2, gj_i a11.1), (3, gj_i a11.2.1)] [] a11.2.2) (exit := fun z11 => gj_G E X 5 none x 130 [] [] z11) (fun a11 x hf K => sb_X5_grow_l62 hO g0 g1 hf K) _ _ _ hz11 J11
  refine gj_sub [1, 2, 0] rfl ?_
  exact gj_loop (head := fun a1 => gj_G E X 5 none x 2 [(0, gj_r b0), (1, gj_r b1), (2, gj_i a1.1)] [] a1.2) (exit := fun z1 => gj_G E X 5 none x 58 [(0, gj_r b0), (1, gj_r b1)] [] z1) (fun a1 x hf K => sb_X5_grow_l2 hO g0 g1 hf K) _ _ _ hz1 J1
set_option maxHeartbeats 4000000 in
set_option maxRecDepth 100000 in
theorem ca_X5_grow {E : gj_E} {X : gj_X} {own : String} {cc : ByteArray} {nL : Nat} {rt : Option FieldType} {fr lo : Nat} {r : Option gj_V} {τ : gj_S} {pc : Nat} {lv : List (Nat × gj_V)} {st : List gj_V} {σ : gj_S} (hO : gj_O E X own cc nL rt fr lo) {b0 : Nat} {b1 : Nat} (g0 : isT b0) (g1 : isP b1) {idx : Nat} {x : gj_S} (hf : f_X5_grow b0 b1 σ = some x) (hl : Cond.methodLink own idx yX5_grow ∈ gj_gw) (hf1 : 3 ≤ fr) (hf2 : 72 ≤ lo) (hcat : ((st.map (gj_tv E.2.1)).map fun v => v.category).sum ≤ 8) (hd : decode cc pc = .ok (.invokevirtual idx, 3)) (k : gj_G E X nL r τ (pc + 3) lv (st) x) : gj_G E X nL r τ pc lv (gj_r b1 :: gj_r b0 :: st) σ :=
  gj_callV hO (o := b0) (vs := [gj_r b1]) (m_X5_grow g0 g1 hf) hl wk_163 wk_164 wk_149 wk_165 (klT_0 g0) (kdT_0 g0) (by decide) (ci := 5) rfl (n := 1) (by decide +kernel) rfl hf1 hf2 rfl hcat hd k
