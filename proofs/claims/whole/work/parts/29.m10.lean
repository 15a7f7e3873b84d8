def f_X9_good  (σ : gj_S) : Option (Int32 × gj_S) := ((f_X9_laysTree (gj_sI σ 188 (upd (σ.1 188) 0 (0 : Int32)))).bind fun x1 => ((f_X9_goodMany x1).bind fun x2 => some (x2, x1)))
set_option maxHeartbeats 4000000 in
set_option maxRecDepth 100000 in
theorem m_X9_good {E : gj_E} {σ : gj_S}   {x : (Int32 × gj_S)} (hf : f_X9_good  σ = some x) : gj_M E yX9_good cX9_good 1 (some .int) 4 86 [gj_r 188] σ (some (gj_i x.1)) x.2 := by
  refine gj_body (lv := [(0, gj_r 188)]) (by decide +kernel) (Nat.le_of_ble_eq_true rfl) rfl (fun X hO => ?_)
  replace hO : gj_O E X RX9 cX9_good 1 (some .int) 4 86 := hO
  unfold f_X9_good at hf
  refine gj_aload_n hO 0 dX9_good_0 rfl rfl ?_
  refine gj_iconst (v := 0) hO dX9_good_1 (by decide) ?_
  refine pt_X9_0 hO wk_604 dX9_good_2 ?_
  refine gj_aload_n hO 0 dX9_good_5 rfl rfl ?_
  obtain ⟨x1, hc1, hf⟩ := gj_b hf
  refine ca_X9_laysTree hO  hc1 wk_771 (by decide) (by decide) (Nat.le_of_ble_eq_true rfl) dX9_good_6 ?_
  refine gj_aload_n hO 0 dX9_good_9 rfl rfl ?_
  obtain ⟨x2, hc2, hf⟩ := gj_b hf
  refine ca_X9_goodMany hO  hc2 wk_772 (by decide) (by decide) (Nat.le_of_ble_eq_true rfl) dX9_good_10 ?_
  obtain rfl := Option.some.inj hf
  exact gj_iret hO dX9_good_13
set_option maxHeartbeats 4000000 in
set_option maxRecDepth 100000 in
theorem ca_X9_good {E : gj_E} {X : gj_X} {own : String} {cc : ByteArray} {nL : Nat} {rt : Option FieldType} {fr lo : Nat} {r : Option gj_V} {τ : gj_S} {pc : Nat} {lv : List (Nat × gj_V)} {st : List gj_V} {σ : gj_S} (hO : gj_O E X own cc nL rt fr lo)   {idx : Nat} {x : (Int32 × gj_S)} (hf : f_X9_good  σ = some x) (hl : Cond.methodLink own idx yX9_good ∈ gj_gw) (hf1 : 5 ≤ fr) (hf2 : 106 ≤ lo) (hcat : ((st.map (gj_tv E.2.1)).map fun v => v.category).sum ≤ 8) (hd : decode cc pc = .ok (.invokevirtual idx, 3)) (k : gj_G E X nL r τ (pc + 3) lv ((gj_i x.1) :: st) x.2) : gj_G E X nL r τ pc lv (gj_r 188 :: st) σ :=
  gj_callV hO (o := 188) (vs := []) (m_X9_good  hf) hl wk_830 wk_831 wk_607 wk_832 kl_188 kd_188 (by decide) (ci := 9) rfl (n := 0) (by decide +kernel) rfl hf1 hf2 rfl hcat hd k
def f_X9_enters  (σ : gj_S) : Option (Int32 × gj_S) := ((f_X9_laysTree (gj_sI σ 188 (upd (σ.1 188) 0 (0 : Int32)))).bind fun x1 => ((f_X9_entering x1).bind fun x2 => (if x2.1 = (-1 : Int32) then some ((-2 : Int32), x2.2) else some (x2.1, x2.2))))
set_option maxHeartbeats 4000000 in
set_option maxRecDepth 100000 in
theorem m_X9_enters {E : gj_E} {σ : gj_S}   {x : (Int32 × gj_S)} (hf : f_X9_enters  σ = some x) : gj_M E yX9_enters cX9_enters 2 (some .int) 4 88 [gj_r 188] σ (some (gj_i x.1)) x.2 := by
  refine gj_body (lv := [(0, gj_r 188)]) (by decide +kernel) (Nat.le_of_ble_eq_true rfl) rfl (fun X hO => ?_)
  replace hO : gj_O E X RX9 cX9_enters 2 (some .int) 4 88 := hO
  unfold f_X9_enters at hf
  refine gj_aload_n hO 0 dX9_enters_0 rfl rfl ?_
  refine gj_iconst (v := 0) hO dX9_enters_1 (by decide) ?_
  refine pt_X9_0 hO wk_604 dX9_enters_2 ?_
  refine gj_aload_n hO 0 dX9_enters_5 rfl rfl ?_
  obtain ⟨x1, hc1, hf⟩ := gj_b hf
  refine ca_X9_laysTree hO  hc1 wk_771 (by decide) (by decide) (Nat.le_of_ble_eq_true rfl) dX9_enters_6 ?_
  refine gj_aload_n hO 0 dX9_enters_9 rfl rfl ?_
  obtain ⟨x2, hc2, hf⟩ := gj_b hf
  refine ca_X9_entering hO  hc2 wk_833 (by decide) (by decide) (Nat.le_of_ble_eq_true rfl) dX9_enters_10 ?_
  refine gj_istore_n (lv2 := [(1, gj_i x2.1), (0, gj_r 188)]) hO dX9_enters_13 rfl (by decide) rfl ?_
  refine gj_iload_n hO 0 dX9_enters_14 rfl rfl ?_
  refine gj_iconst (v := (-1)) hO dX9_enters_15 (by decide) ?_
  refine gj_icmp_ne (tgt := 24) hO dX9_enters_16 (by decide) (fun h => ?_) (fun h => ?_)
  · replace hf := gj_f h hf
    refine gj_iload_n hO 0 dX9_enters_24 rfl rfl ?_
    obtain rfl := Option.some.inj hf
    exact gj_iret hO dX9_enters_25
  · replace hf := gj_t h hf
    refine gj_bipush (v := (-2)) hO dX9_enters_19 (by decide) ?_
    refine gj_goto (tgt := 25) hO dX9_enters_21 (by decide) ?_
    obtain rfl := Option.some.inj hf
    exact gj_iret hO dX9_enters_25
set_option maxHeartbeats 4000000 in
set_option maxRecDepth 100000 in
theorem ca_X9_enters {E : gj_E} {X : gj_X} {own : String} {cc : ByteArray} {nL : Nat} {rt : Option FieldType} {fr lo : Nat} {r : Option gj_V} {τ : gj_S} {pc : Nat} {lv : List (Nat × gj_V)} {st : List gj_V} {σ : gj_S} (hO : gj_O E X own cc nL rt fr lo)   {idx : Nat} {x : (Int32 × gj_S)} (hf : f_X9_enters  σ = some x) (hl : Cond.methodLink own idx yX9_enters ∈ gj_gw) (hf1 : 5 ≤ fr) (hf2 : 109 ≤ lo) (hcat : ((st.map (gj_tv E.2.1)).map fun v => v.category).sum ≤ 8) (hd : decode cc pc = .ok (.invokevirtual idx, 3)) (k : gj_G E X nL r τ (pc + 3) lv ((gj_i x.1) :: st) x.2) : gj_G E X nL r τ pc lv (gj_r 188 :: st) σ :=
  gj_callV hO (o := 188) (vs := []) (m_X9_enters  hf) hl wk_834 wk_835 wk_607 wk_836 kl_188 kd_188 (by decide) (ci := 9) rfl (n := 0) (by decide +kernel) rfl hf1 hf2 rfl hcat hd k
def f_X9_ring (b1 : Int32) (b2 : Int32) (σ : gj_S) : Option (Int32 × gj_S) := ((f_X9_isWay b1 (gj_sI σ 188 (upd (σ.1 188) 0 (0 : Int32)))).bind fun x1 => (if x1 = 0 then some ((-1 : Int32), (gj_sI σ 188 (upd (σ.1 188) 0 (0 : Int32)))) else (if (-1 : Int32) ≤ b2 then (if gj_in ((74 : Int32) + b1) 180 then (if ((gj_sI σ 188 (upd (σ.1 188) 0 (0 : Int32))).1 198 (Int32.toNatClampNeg ((74 : Int32) + b1))) = 0 then some ((-2 : Int32), (gj_sI σ 188 (upd (σ.1 188) 0 (0 : Int32)))) else ((f_X9_laysTree (gj_sI σ 188 (upd (σ.1 188) 0 (0 : Int32)))).bind fun x3 => ((f_X9_laysRing b1 x3).bind fun x4 => (if b2 = (-1 : Int32) then some ((x4.1 188 33), x4) else (if (x4.1 188 33) ≤ b2 then some ((-2 : Int32), x4) else (if gj_in b2 24 then some ((x4.1 206 (Int32.toNatClampNeg b2)), x4) else none)))))) else none) else some ((-1 : Int32), (gj_sI σ 188 (upd (σ.1 188) 0 (0 : Int32)))))))
set_option maxHeartbeats 4000000 in
set_option maxRecDepth 100000 in
theorem m_X9_ring {E : gj_E} {σ : gj_S} {b1 : Int32} {b2 : Int32}  {x : (Int32 × gj_S)} (hf : f_X9_ring b1 b2 σ = some x) : gj_M E yX9_ring cX9_ring 3 (some .int) 4 94 [gj_r 188, gj_i b1, gj_i b2] σ (some (gj_i x.1)) x.2 := by
  refine gj_body (lv := [(0, gj_r 188), (1, gj_i b1), (2, gj_i b2)]) (by decide +kernel) (Nat.le_of_ble_eq_true rfl) rfl (fun X hO => ?_)
  replace hO : gj_O E X RX9 cX9_ring 3 (some .int) 4 94 := hO
  unfold f_X9_ring at hf
  refine gj_aload_n hO 0 dX9_ring_0 rfl rfl ?_
  refine gj_iconst (v := 0) hO dX9_ring_1 (by decide) ?_
  refine pt_X9_0 hO wk_604 dX9_ring_2 ?_
  refine gj_aload_n hO 0 dX9_ring_5 rfl rfl ?_
  refine gj_iload_n hO 1 dX9_ring_6 rfl rfl ?_
  obtain ⟨x1, hc1, hf⟩ := gj_b hf
  refine ca_X9_isWay hO  hc1 wk_796 (by decide) (by decide) (Nat.le_of_ble_eq_true rfl) dX9_ring_7 ?_
  refine gj_if_eq (tgt := 18) hO dX9_ring_10 (by decide) (fun h => ?_) (fun h => ?_)
  · replace hf := gj_t h hf
    refine gj_iconst (v := (-1)) hO dX9_ring_18 (by decide) ?_
    obtain rfl := Option.some.inj hf
    exact gj_iret hO dX9_ring_19
  · replace hf := gj_f h hf
    refine gj_iload_n hO 2 dX9_ring_13 rfl rfl ?_
    refine gj_iconst (v := (-1)) hO dX9_ring_14 (by decide) ?_
    refine gj_icmp_ge (tgt := 20) hO dX9_ring_15 (by decide) (fun h => ?_) (fun h => ?_)
    · replace hf := gj_t h hf
      refine gj_aload_n hO 0 dX9_ring_20 rfl rfl ?_
      refine gt_X9_21 hO wk_704 dX9_ring_21 ?_
      refine gj_bipush (v := 74) hO dX9_ring_24 (by decide) ?_
      refine gj_iload_n hO 1 dX9_ring_26 rfl rfl ?_
      refine gj_iadd hO dX9_ring_27 ?_
      obtain ⟨hb2, hf⟩ := gj_c hf
      refine gj_iald hO kl_198 kd_198 hb2 dX9_ring_28 ?_
      refine gj_if_ne (tgt := 35) hO dX9_ring_29 (by decide) (fun h => ?_) (fun h => ?_)
      · replace hf := gj_f h hf
        refine gj_aload_n hO 0 dX9_ring_35 rfl rfl ?_
        obtain ⟨x3, hc3, hf⟩ := gj_b hf
        refine ca_X9_laysTree hO  hc3 wk_771 (by decide) (by decide) (Nat.le_of_ble_eq_true rfl) dX9_ring_36 ?_
        refine gj_aload_n hO 0 dX9_ring_39 rfl rfl ?_
        refine gj_iload_n hO 1 dX9_ring_40 rfl rfl ?_
        obtain ⟨x4, hc4, hf⟩ := gj_b hf
        refine ca_X9_laysRing hO  hc4 wk_837 (by decide) (by decide) (Nat.le_of_ble_eq_true rfl) dX9_ring_41 ?_
        refine gj_iload_n hO 2 dX9_ring_44 rfl rfl ?_
        refine gj_iconst (v := (-1)) hO dX9_ring_45 (by decide) ?_
        refine gj_icmp_ne (tgt := 56) hO dX9_ring_46 (by decide) (fun h => ?_) (fun h => ?_)
        · replace hf := gj_f h hf
          refine gj_iload_n hO 2 dX9_ring_56 rfl rfl ?_
          refine gj_aload_n hO 0 dX9_ring_57 rfl rfl ?_
          refine gt_X9_33 hO wk_822 dX9_ring_58 ?_
          refine gj_icmp_ge (tgt := 73) hO dX9_ring_61 (by decide) (fun h => ?_) (fun h => ?_)
          · replace hf := gj_t h hf
            refine gj_bipush (v := (-2)) hO dX9_ring_73 (by decide) ?_
            obtain rfl := Option.some.inj hf
            exact gj_iret hO dX9_ring_75
          · replace hf := gj_f h hf
            refine gj_aload_n hO 0 dX9_ring_64 rfl rfl ?_
            refine gt_X9_31 hO wk_814 dX9_ring_65 ?_
            refine gj_iload_n hO 2 dX9_ring_68 rfl rfl ?_
            obtain ⟨hb5, hf⟩ := gj_c hf
            refine gj_iald hO kl_206 kd_206 hb5 dX9_ring_69 ?_
            refine gj_goto (tgt := 75) hO dX9_ring_70 (by decide) ?_
            obtain rfl := Option.some.inj hf
            exact gj_iret hO dX9_ring_75
        · replace hf := gj_t h hf
          refine gj_aload_n hO 0 dX9_ring_49 rfl rfl ?_
          refine gt_X9_33 hO wk_822 dX9_ring_50 ?_
          refine gj_goto (tgt := 75) hO dX9_ring_53 (by decide) ?_
          obtain rfl := Option.some.inj hf
          exact gj_iret hO dX9_ring_75
      · replace hf := gj_t h hf
        refine gj_bipush (v := (-2)) hO dX9_ring_32 (by decide) ?_
        obtain rfl := Option.some.inj hf
        exact gj_iret hO dX9_ring_34
    · replace hf := gj_f h hf
      refine gj_iconst (v := (-1)) hO dX9_ring_18 (by decide) ?_
      obtain rfl := Option.some.inj hf
      exact gj_iret hO dX9_ring_19
set_option maxHeartbeats 4000000 in
set_option maxRecDepth 100000 in
theorem ca_X9_ring {E : gj_E} {X : gj_X} {own : String} {cc : ByteArray} {nL : Nat} {rt : Option FieldType} {fr lo : Nat} {r : Option gj_V} {τ : gj_S} {pc : Nat} {lv : List (Nat × gj_V)} {st : List gj_V} {σ : gj_S} (hO : gj_O E X own cc nL rt fr lo) {b1 : Int32} {b2 : Int32}  {idx : Nat} {x : (Int32 × gj_S)} (hf : f_X9_ring b1 b2 σ = some x) (hl : Cond.methodLink own idx yX9_ring ∈ gj_gw) (hf1 : 5 ≤ fr) (hf2 : 116 ≤ lo) (hcat : ((st.map (gj_tv E.2.1)).map fun v => v.category).sum ≤ 8) (hd : decode cc pc = .ok (.invokevirtual idx, 3)) (k : gj_G E X nL r τ (pc + 3) lv ((gj_i x.1) :: st) x.2) : gj_G E X nL r τ pc lv (gj_i b2 :: gj_i b1 :: gj_r 188 :: st) σ :=
  gj_callV hO (o := 188) (vs := [gj_i b1, gj_i b2]) (m_X9_ring  hf) hl wk_838 wk_839 wk_607 wk_840 kl_188 kd_188 (by decide) (ci := 9) rfl (n := 2) (by decide +kernel) rfl hf1 hf2 rfl hcat hd k
def f_X9_closes (b1 : Int32) (b2 : Int32) (σ : gj_S) : Option (Int32 × gj_S) := ((f_X9_isWay b1 (gj_sI σ 188 (upd (σ.1 188) 0 (0 : Int32)))).bind fun x1 => (if x1 = 0 then some ((-1 : Int32), (gj_sI σ 188 (upd (σ.1 188) 0 (0 : Int32)))) else ((f_X9_within (Int32.toInt64 b2) (0 : Int64) (2 : Int64)).bind fun x2 => (if x2 = 0 then some ((-1 : Int32), (gj_sI σ 188 (upd (σ.1 188) 0 (0 : Int32)))) else (if gj_in ((74 : Int32) + b1) 180 then (if ((gj_sI σ 188 (upd (σ.1 188) 0 (0 : Int32))).1 198 (Int32.toNatClampNeg ((74 : Int32) + b1))) = 0 then some ((-2 : Int32), (gj_sI σ 188 (upd (σ.1 188) 0 (0 : Int32)))) else ((f_X9_laysTree (gj_sI σ 188 (upd (σ.1 188) 0 (0 : Int32)))).bind fun x4 => ((f_X9_laysRing b1 x4).bind fun x5 => (if b2 = 0 then some ((x5.1 188 35), x5) else (if b2 = (1 : Int32) then (if gj_in (x5.1 188 36) 24 then some ((x5.1 206 (Int32.toNatClampNeg (x5.1 188 36))), x5) else none) else (if (x5.1 188 34) = (8 : Int32) then some ((100 : Int32), x5) else some ((x5.1 188 34), x5))))))) else none)))))
set_option maxHeartbeats 4000000 in
set_option maxRecDepth 100000 in
theorem m_X9_closes {E : gj_E} {σ : gj_S} {b1 : Int32} {b2 : Int32}  {x : (Int32 × gj_S)} (hf : f_X9_closes b1 b2 σ = some x) : gj_M E yX9_closes cX9_closes 3 (some .int) 4 94 [gj_r 188, gj_i b1, gj_i b2] σ (some (gj_i x.1)) x.2 := by
  refine gj_body (lv := [(0, gj_r 188), (1, gj_i b1), (2, gj_i b2)]) (by decide +kernel) (Nat.le_of_ble_eq_true rfl) rfl (fun X hO => ?_)
  replace hO : gj_O E X RX9 cX9_closes 3 (some .int) 4 94 := hO
  unfold f_X9_closes at hf
  refine gj_aload_n hO 0 dX9_closes_0 rfl rfl ?_
  refine gj_iconst (v := 0) hO dX9_closes_1 (by decide) ?_
  refine pt_X9_0 hO wk_604 dX9_closes_2 ?_
  refine gj_aload_n hO 0 dX9_closes_5 rfl rfl ?_
  refine gj_iload_n hO 1 dX9_closes_6 rfl rfl ?_
  obtain ⟨x1, hc1, hf⟩ := gj_b hf
  refine ca_X9_isWay hO  hc1 wk_796 (by decide) (by decide) (Nat.le_of_ble_eq_true rfl) dX9_closes_7 ?_
  refine gj_if_eq (tgt := 25) hO dX9_closes_10 (by decide) (fun h => ?_) (fun h => ?_)
  · replace hf := gj_t h hf
    refine gj_iconst (v := (-1)) hO dX9_closes_25 (by decide) ?_
    obtain rfl := Option.some.inj hf
    exact gj_iret hO dX9_closes_26
  · replace hf := gj_f h hf
    refine gj_iload_n hO 2 dX9_closes_13 rfl rfl ?_
    refine gj_i2l hO dX9_closes_14 ?_
    refine gj_lconst (v := 0) hO dX9_closes_15 (by decide) ?_
    refine gj_ldc2 hO wk_841 dX9_closes_16 ?_
    obtain ⟨x2, hc2, hf⟩ := gj_b hf
    refine ca_X9_within hO  hc2 wk_632 (by decide) (by decide) (Nat.le_of_ble_eq_true rfl) dX9_closes_19 ?_
    refine gj_if_ne (tgt := 27) hO dX9_closes_22 (by decide) (fun h => ?_) (fun h => ?_)
    · replace hf := gj_f h hf
      refine gj_aload_n hO 0 dX9_closes_27 rfl rfl ?_
      refine gt_X9_21 hO wk_704 dX9_closes_28 ?_
      refine gj_bipush (v := 74) hO dX9_closes_31 (by decide) ?_
      refine gj_iload_n hO 1 dX9_closes_33 rfl rfl ?_
      refine gj_iadd hO dX9_closes_34 ?_
      obtain ⟨hb3, hf⟩ := gj_c hf
      refine gj_iald hO kl_198 kd_198 hb3 dX9_closes_35 ?_
      refine gj_if_ne (tgt := 42) hO dX9_closes_36 (by decide) (fun h => ?_) (fun h => ?_)
      · replace hf := gj_f h hf
        refine gj_aload_n hO 0 dX9_closes_42 rfl rfl ?_
        obtain ⟨x4, hc4, hf⟩ := gj_b hf
        refine ca_X9_laysTree hO  hc4 wk_771 (by decide) (by decide) (Nat.le_of_ble_eq_true rfl) dX9_closes_43 ?_
        refine gj_aload_n hO 0 dX9_closes_46 rfl rfl ?_
        refine gj_iload_n hO 1 dX9_closes_47 rfl rfl ?_
        obtain ⟨x5, hc5, hf⟩ := gj_b hf
        refine ca_X9_laysRing hO  hc5 wk_837 (by decide) (by decide) (Nat.le_of_ble_eq_true rfl) dX9_closes_48 ?_
        refine gj_iload_n hO 2 dX9_closes_51 rfl rfl ?_
        refine gj_if_ne (tgt := 62) hO dX9_closes_52 (by decide) (fun h => ?_) (fun h => ?_)
        · replace hf := gj_f h hf
          refine gj_iload_n hO 2 dX9_closes_62 rfl rfl ?_
          refine gj_iconst (v := 1) hO dX9_closes_63 (by decide) ?_
          refine gj_icmp_ne (tgt := 79) hO dX9_closes_64 (by decide) (fun h => ?_) (fun h => ?_)
          · replace hf := gj_f h hf
            refine gj_aload_n hO 0 dX9_closes_79 rfl rfl ?_
            refine gt_X9_34 hO wk_821 dX9_closes_80 ?_
            refine gj_bipush (v := 8) hO dX9_closes_83 (by decide) ?_
            refine gj_icmp_ne (tgt := 93) hO dX9_closes_85 (by decide) (fun h => ?_) (fun h => ?_)
            · replace hf := gj_f h hf
              refine gj_aload_n hO 0 dX9_closes_93 rfl rfl ?_
              refine gt_X9_34 hO wk_821 dX9_closes_94 ?_
              obtain rfl := Option.some.inj hf
              exact gj_iret hO dX9_closes_97
            · replace hf := gj_t h hf
              refine gj_bipush (v := 100) hO dX9_closes_88 (by decide) ?_
              refine gj_goto (tgt := 97) hO dX9_closes_90 (by decide) ?_
              obtain rfl := Option.some.inj hf
              exact gj_iret hO dX9_closes_97
          · replace hf := gj_t h hf
            refine gj_aload_n hO 0 dX9_closes_67 rfl rfl ?_
            refine gt_X9_31 hO wk_814 dX9_closes_68 ?_
            refine gj_aload_n hO 0 dX9_closes_71 rfl rfl ?_
            refine gt_X9_36 hO wk_825 dX9_closes_72 ?_
            obtain ⟨hb6, hf⟩ := gj_c hf
            refine gj_iald hO kl_206 kd_206 hb6 dX9_closes_75 ?_
            refine gj_goto (tgt := 97) hO dX9_closes_76 (by decide) ?_
            obtain rfl := Option.some.inj hf
            exact gj_iret hO dX9_closes_97
        · replace hf := gj_t h hf
          refine gj_aload_n hO 0 dX9_closes_55 rfl rfl ?_
          refine gt_X9_35 hO wk_824 dX9_closes_56 ?_
          refine gj_goto (tgt := 97) hO dX9_closes_59 (by decide) ?_
          obtain rfl := Option.some.inj hf
          exact gj_iret hO dX9_closes_97
      · replace hf := gj_t h hf
        refine gj_bipush (v := (-2)) hO dX9_closes_39 (by decide) ?_
        obtain rfl := Option.some.inj hf
        exact gj_iret hO dX9_closes_41
    · replace hf := gj_t h hf
      refine gj_iconst (v := (-1)) hO dX9_closes_25 (by decide) ?_
      obtain rfl := Option.some.inj hf
      exact gj_iret hO dX9_closes_26
set_option maxHeartbeats 4000000 in
set_option maxRecDepth 100000 in
theorem ca_X9_closes {E : gj_E} {X : gj_X} {own : String} {cc : ByteArray} {nL : Nat} {rt : Option FieldType} {fr lo : Nat} {r : Option gj_V} {τ : gj_S} {pc : Nat} {lv : List (Nat × gj_V)} {st : List gj_V} {σ : gj_S} (hO : gj_O E X own cc nL rt fr lo) {b1 : Int32} {b2 : Int32}  {idx : Nat} {x : (Int32 × gj_S)} (hf : f_X9_closes b1 b2 σ = some x) (hl : Cond.methodLink own idx yX9_closes ∈ gj_gw) (hf1 : 5 ≤ fr) (hf2 : 116 ≤ lo) (hcat : ((st.map (gj_tv E.2.1)).map fun v => v.category).sum ≤ 8) (hd : decode cc pc = .ok (.invokevirtual idx, 3)) (k : gj_G E X nL r τ (pc + 3) lv ((gj_i x.1) :: st) x.2) : gj_G E X nL r τ pc lv (gj_i b2 :: gj_i b1 :: gj_r 188 :: st) σ :=
  gj_callV hO (o := 188) (vs := [gj_i b1, gj_i b2]) (m_X9_closes  hf) hl wk_842 wk_843 wk_607 wk_844 kl_188 kd_188 (by decide) (ci := 9) rfl (n := 2) (by decide +kernel) rfl hf1 hf2 rfl hcat hd k
def fb_X9_strong_l11 (σ : gj_S) (a2 : Int32) : Option (((Int32 × gj_S) ⊕ Unit) ⊕ Int32) := (if gj_in (0 : Int32) 2 then (if (σ.1 190 (Int32.toNatClampNeg (0 : Int32))) ≤ a2 then some (.inl (.inr ())) else (if gj_in a2 9 then (if gj_in ((50 : Int32) + (σ.1 203 (Int32.toNatClampNeg a2))) 180 then (if (σ.1 198 (Int32.toNatClampNeg ((50 : Int32) + (σ.1 203 (Int32.toNatClampNeg a2))))) = 0 then ((f_X9_isUpward a2 σ).bind fun x11 => (if x11 = 0 then some (.inl (.inl ((0 : Int32), σ))) else (if gj_in (0 : Int32) 2 then (if (σ.1 191 (Int32.toNatClampNeg (0 : Int32))) ≤ (σ.1 203 (Int32.toNatClampNeg a2)) then some (.inr (a2 + 1)) else (if gj_in ((50 : Int32) + (σ.1 203 (Int32.toNatClampNeg a2))) 180 then (if gj_in ((24 : Int32) + (σ.1 203 (Int32.toNatClampNeg a2))) 180 then (if (σ.1 198 (Int32.toNatClampNeg ((50 : Int32) + (σ.1 203 (Int32.toNatClampNeg a2))))) = (σ.1 198 (Int32.toNatClampNeg ((24 : Int32) + (σ.1 203 (Int32.toNatClampNeg a2))))) then ((f_X9_isUpward a2 σ).bind fun x15 => (if x15 = 0 then some (.inr (a2 + 1)) else some (.inl (.inl ((0 : Int32), σ))))) else some (.inr (a2 + 1))) else none) else none)) else none))) else (if gj_in (0 : Int32) 2 then (if (σ.1 191 (Int32.toNatClampNeg (0 : Int32))) ≤ (σ.1 203 (Int32.toNatClampNeg a2)) then some (.inr (a2 + 1)) else (if gj_in ((50 : Int32) + (σ.1 203 (Int32.toNatClampNeg a2))) 180 then (if gj_in ((24 : Int32) + (σ.1 203 (Int32.toNatClampNeg a2))) 180 then (if (σ.1 198 (Int32.toNatClampNeg ((50 : Int32) + (σ.1 203 (Int32.toNatClampNeg a2))))) = (σ.1 198 (Int32.toNatClampNeg ((24 : Int32) + (σ.1 203 (Int32.toNatClampNeg a2))))) then ((f_X9_isUpward a2 σ).bind fun x10 => (if x10 = 0 then some (.inr (a2 + 1)) else some (.inl (.inl ((0 : Int32), σ))))) else some (.inr (a2 + 1))) else none) else none)) else none)) else none) else none)) else none)
def f_X9_strong  (σ : gj_S) : Option (Int32 × gj_S) := ((f_X9_laysTree (gj_sI σ 188 (upd (σ.1 188) 0 (0 : Int32)))).bind fun x1 => ((gj_lp (fb_X9_strong_l11 x1) 5000 (0 : Int32)).bind fun y2 => Sum.elim (fun q => some q) (fun z2 => some ((1 : Int32), x1)) y2))
set_option maxHeartbeats 4000000 in
set_option maxRecDepth 100000 in
theorem sb_X9_strong_l11 {E : gj_E} {X : gj_X} {r : Option gj_V} {τ : gj_S} (hO : gj_O E X RX9 cX9_strong 3 (some .int) 2 48) {σ : gj_S} {a2 : Int32} {x : ((Int32 × gj_S) ⊕ Unit) ⊕ Int32} (hf : fb_X9_strong_l11 σ a2 = some x) (K : gj_K (fun y2 => gj_K (fun q => r = (some (gj_i q.1)) ∧ τ = q.2) (fun z2 => gj_G E X 3 r τ 97 [] [] σ) y2) (fun a2 => gj_G E X 3 r τ 11 [(0, gj_r 188), (1, gj_i a2)] [] σ) x) : gj_G E X 3 r τ 11 [(0, gj_r 188), (1, gj_i a2)] [] σ := by
  unfold fb_X9_strong_l11 at hf
  refine gj_iload_n hO 1 dX9_strong_11 rfl rfl ?_
  refine gj_aload_n hO 0 dX9_strong_12 rfl rfl ?_
  refine gt_X9_11 hO wk_670 dX9_strong_13 ?_
  refine gj_iconst (v := 0) hO dX9_strong_16 (by decide) ?_
  obtain ⟨hb4, hf⟩ := gj_c hf
  refine gj_iald hO kl_190 kd_190 hb4 dX9_strong_17 ?_
  refine gj_icmp_ge (tgt := 97) hO dX9_strong_18 (by decide) (fun h => ?_) (fun h => ?_)
  · replace hf := gj_t h hf
    obtain rfl := Option.some.inj hf
    refine gj_sub [] rfl ?_
    exact K
  · replace hf := gj_f h hf
    refine gj_aload_n hO 0 dX9_strong_21 rfl rfl ?_
    refine gt_X9_27 hO wk_741 dX9_strong_22 ?_
    refine gj_iload_n hO 1 dX9_strong_25 rfl rfl ?_
    obtain ⟨hb5, hf⟩ := gj_c hf
    refine gj_iald hO kl_203 kd_203 hb5 dX9_strong_26 ?_
    refine gj_istore_n (lv2 := [(2, gj_i (σ.1 203 (Int32.toNatClampNeg a2))), (0, gj_r 188), (1, gj_i a2)]) hO dX9_strong_27 rfl (by decide) rfl ?_
    refine gj_aload_n hO 1 dX9_strong_28 rfl rfl ?_
    refine gt_X9_21 hO wk_704 dX9_strong_29 ?_
    refine gj_bipush (v := 50) hO dX9_strong_32 (by decide) ?_
    refine gj_iload_n hO 0 dX9_strong_34 rfl rfl ?_
    refine gj_iadd hO dX9_strong_35 ?_
    obtain ⟨hb6, hf⟩ := gj_c hf
    refine gj_iald hO kl_198 kd_198 hb6 dX9_strong_36 ?_
    refine gj_if_ne (tgt := 50) hO dX9_strong_37 (by decide) (fun h => ?_) (fun h => ?_)
    · replace hf := gj_f h hf
      refine gj_iload_n hO 0 dX9_strong_50 rfl rfl ?_
      refine gj_aload_n hO 1 dX9_strong_51 rfl rfl ?_
      refine gt_X9_12 hO wk_672 dX9_strong_52 ?_
      refine gj_iconst (v := 0) hO dX9_strong_55 (by decide) ?_
      obtain ⟨hb7, hf⟩ := gj_c hf
      refine gj_iald hO kl_191 kd_191 hb7 dX9_strong_56 ?_
      refine gj_icmp_ge (tgt := 91) hO dX9_strong_57 (by decide) (fun h => ?_) (fun h => ?_)
      · replace hf := gj_t h hf
        refine gj_iinc (v := (a2 + 1)) (lv2 := [(1, gj_i (a2 + 1)), (2, gj_i (σ.1 203 (Int32.toNatClampNeg a2))), (0, gj_r 188)]) hO 2 dX9_strong_91 rfl rfl (by decide) rfl ?_
        refine gj_goto (tgt := 11) hO dX9_strong_94 (by decide) ?_
        obtain rfl := Option.some.inj hf
        refine gj_sub [2, 0] rfl ?_
        exact K
      · replace hf := gj_f h hf
        refine gj_aload_n hO 1 dX9_strong_60 rfl rfl ?_
        refine gt_X9_21 hO wk_704 dX9_strong_61 ?_
        refine gj_bipush (v := 50) hO dX9_strong_64 (by decide) ?_
        refine gj_iload_n hO 0 dX9_strong_66 rfl rfl ?_
        refine gj_iadd hO dX9_strong_67 ?_
        obtain ⟨hb8, hf⟩ := gj_c hf
        refine gj_iald hO kl_198 kd_198 hb8 dX9_strong_68 ?_
        refine gj_aload_n hO 1 dX9_strong_69 rfl rfl ?_
        refine gt_X9_21 hO wk_704 dX9_strong_70 ?_
        refine gj_bipush (v := 24) hO dX9_strong_73 (by decide) ?_
        refine gj_iload_n hO 0 dX9_strong_75 rfl rfl ?_
        refine gj_iadd hO dX9_strong_76 ?_
        obtain ⟨hb9, hf⟩ := gj_c hf
        refine gj_iald hO kl_198 kd_198 hb9 dX9_strong_77 ?_
        refine gj_icmp_ne (tgt := 91) hO dX9_strong_78 (by decide) (fun h => ?_) (fun h => ?_)
        · replace hf := gj_f h hf
          refine gj_iinc (v := (a2 + 1)) (lv2 := [(1, gj_i (a2 + 1)), (2, gj_i (σ.1 203 (Int32.toNatClampNeg a2))), (0, gj_r 188)]) hO 2 dX9_strong_91 rfl rfl (by decide) rfl ?_
          refine gj_goto (tgt := 11) hO dX9_strong_94 (by decide) ?_
          obtain rfl := Option.some.inj hf
          refine gj_sub [2, 0] rfl ?_
          exact K
        · replace hf := gj_t h hf
          refine gj_aload_n hO 1 dX9_strong_81 rfl rfl ?_
          refine gj_iload_n hO 2 dX9_strong_82 rfl rfl ?_
          obtain ⟨x10, hc10, hf⟩ := gj_b hf
          refine ca_X9_isUpward hO  hc10 wk_823 (by decide) (by decide) (Nat.le_of_ble_eq_true rfl) dX9_strong_83 ?_
          refine gj_if_eq (tgt := 91) hO dX9_strong_86 (by decide) (fun h => ?_) (fun h => ?_)
          · replace hf := gj_t h hf
            refine gj_iinc (v := (a2 + 1)) (lv2 := [(1, gj_i (a2 + 1)), (2, gj_i (σ.1 203 (Int32.toNatClampNeg a2))), (0, gj_r 188)]) hO 2 dX9_strong_91 rfl rfl (by decide) rfl ?_
            refine gj_goto (tgt := 11) hO dX9_strong_94 (by decide) ?_
            obtain rfl := Option.some.inj hf
            refine gj_sub [2, 0] rfl ?_
            exact K
          · replace hf := gj_f h hf
            refine gj_iconst (v := 0) hO dX9_strong_89 (by decide) ?_
            obtain rfl := Option.some.inj hf
            obtain ⟨rfl, rfl⟩ := K
            exact gj_iret hO dX9_strong_90
    · replace hf := gj_t h hf
      refine gj_aload_n hO 1 dX9_strong_40 rfl rfl ?_
      refine gj_iload_n hO 2 dX9_strong_41 rfl rfl ?_
      obtain ⟨x11, hc11, hf⟩ := gj_b hf
      refine ca_X9_isUpward hO  hc11 wk_823 (by decide) (by decide) (Nat.le_of_ble_eq_true rfl) dX9_strong_42 ?_
      refine gj_if_ne (tgt := 50) hO dX9_strong_45 (by decide) (fun h => ?_) (fun h => ?_)
      · replace hf := gj_f h hf
        refine gj_iload_n hO 0 dX9_strong_50 rfl rfl ?_
        refine gj_aload_n hO 1 dX9_strong_51 rfl rfl ?_
        refine gt_X9_12 hO wk_672 dX9_strong_52 ?_
        refine gj_iconst (v := 0) hO dX9_strong_55 (by decide) ?_
        obtain ⟨hb12, hf⟩ := gj_c hf
        refine gj_iald hO kl_191 kd_191 hb12 dX9_strong_56 ?_
        refine gj_icmp_ge (tgt := 91) hO dX9_strong_57 (by decide) (fun h => ?_) (fun h => ?_)
        · replace hf := gj_t h hf
          refine gj_iinc (v := (a2 + 1)) (lv2 := [(1, gj_i (a2 + 1)), (2, gj_i (σ.1 203 (Int32.toNatClampNeg a2))), (0, gj_r 188)]) hO 2 dX9_strong_91 rfl rfl (by decide) rfl ?_
          refine gj_goto (tgt := 11) hO dX9_strong_94 (by decide) ?_
          obtain rfl := Option.some.inj hf
          refine gj_sub [2, 0] rfl ?_
          exact K
        · replace hf := gj_f h hf
          refine gj_aload_n hO 1 dX9_strong_60 rfl rfl ?_
          refine gt_X9_21 hO wk_704 dX9_strong_61 ?_
          refine gj_bipush (v := 50) hO dX9_strong_64 (by decide) ?_
          refine gj_iload_n hO 0 dX9_strong_66 rfl rfl ?_
          refine gj_iadd hO dX9_strong_67 ?_
          obtain ⟨hb13, hf⟩ := gj_c hf
          refine gj_iald hO kl_198 kd_198 hb13 dX9_strong_68 ?_
          refine gj_aload_n hO 1 dX9_strong_69 rfl rfl ?_
          refine gt_X9_21 hO wk_704 dX9_strong_70 ?_
          refine gj_bipush (v := 24) hO dX9_strong_73 (by decide) ?_
          refine gj_iload_n hO 0 dX9_strong_75 rfl rfl ?_
          refine gj_iadd hO dX9_strong_76 ?_
          obtain ⟨hb14, hf⟩ := gj_c hf
          refine gj_iald hO kl_198 kd_198 hb14 dX9_strong_77 ?_
          refine gj_icmp_ne (tgt := 91) hO dX9_strong_78 (by decide) (fun h => ?_) (fun h => ?_)
          · replace hf := gj_f h hf
            refine gj_iinc (v := (a2 + 1)) (lv2 := [(1, gj_i (a2 + 1)), (2, gj_i (σ.1 203 (Int32.toNatClampNeg a2))), (0, gj_r 188)]) hO 2 dX9_strong_91 rfl rfl (by decide) rfl ?_
            refine gj_goto (tgt := 11) hO dX9_strong_94 (by decide) ?_
            obtain rfl := Option.some.inj hf
            refine gj_sub [2, 0] rfl ?_
            exact K
          · replace hf := gj_t h hf
            refine gj_aload_n hO 1 dX9_strong_81 rfl rfl ?_
            refine gj_iload_n hO 2 dX9_strong_82 rfl rfl ?_
            obtain ⟨x15, hc15, hf⟩ := gj_b hf
            refine ca_X9_isUpward hO  hc15 wk_823 (by decide) (by decide) (Nat.le_of_ble_eq_true rfl) dX9_strong_83 ?_
            refine gj_if_eq (tgt := 91) hO dX9_strong_86 (by decide) (fun h => ?_) (fun h => ?_)
            · replace hf := gj_t h hf
              refine gj_iinc (v := (a2 + 1)) (lv2 := [(1, gj_i (a2 + 1)), (2, gj_i (σ.1 203 (Int32.toNatClampNeg a2))), (0, gj_r 188)]) hO 2 dX9_strong_91 rfl rfl (by decide) rfl ?_
              refine gj_goto (tgt := 11) hO dX9_strong_94 (by decide) ?_
              obtain rfl := Option.some.inj hf
              refine gj_sub [2, 0] rfl ?_
              exact K
            · replace hf := gj_f h hf
              refine gj_iconst (v := 0) hO dX9_strong_89 (by decide) ?_
              obtain rfl := Option.some.inj hf
              obtain ⟨rfl, rfl⟩ := K
              exact gj_iret hO dX9_strong_90
      · replace hf := gj_t h hf
        refine gj_iconst (v := 0) hO dX9_strong_48 (by decide) ?_
        obtain rfl := Option.some.inj hf
        obtain ⟨rfl, rfl⟩ := K
        exact gj_iret hO dX9_strong_49
set_option maxHeartbeats 4000000 in
set_option maxRecDepth 100000 in
theorem m_X9_strong {E : gj_E} {σ : gj_S}   {x : (Int32 × gj_S)} (hf : f_X9_strong  σ = some x) : gj_M E yX9_strong cX9_strong 3 (some .int) 2 48 [gj_r 188] σ (some (gj_i x.1)) x.2 := by
  refine gj_body (lv := [(0, gj_r 188)]) (by decide +kernel) (Nat.le_of_ble_eq_true rfl) rfl (fun X hO => ?_)
  replace hO : gj_O E X RX9 cX9_strong 3 (some .int) 2 48 := hO
  unfold f_X9_strong at hf
  refine gj_aload_n hO 0 dX9_strong_0 rfl rfl ?_
  refine gj_iconst (v := 0) hO dX9_strong_1 (by decide) ?_
  refine pt_X9_0 hO wk_604 dX9_strong_2 ?_
  refine gj_aload_n hO 0 dX9_strong_5 rfl rfl ?_
  obtain ⟨x1, hc1, hf⟩ := gj_b hf
  refine ca_X9_laysTree hO  hc1 wk_771 (by decide) (by decide) (Nat.le_of_ble_eq_true rfl) dX9_strong_6 ?_
  refine gj_iconst (v := 0) hO dX9_strong_9 (by decide) ?_
  refine gj_istore_n (lv2 := [(1, gj_i (0 : Int32)), (0, gj_r 188)]) hO dX9_strong_10 rfl (by decide) rfl ?_
  obtain ⟨y2, hz2, hf⟩ := gj_b hf
  have J2 : (fun y2 => gj_K (fun q => (some (gj_i x.1)) = (some (gj_i q.1)) ∧ x.2 = q.2) (fun z2 => gj_G E X 3 (some (gj_i x.1)) x.2 97 [] [] x1) y2) y2 := by
    rcases y2 with q | z2
    · have hf : some q = some x := hf
      obtain rfl := Option.some.inj hf
      exact ⟨rfl, rfl⟩
    · refine gj_iconst (v := 1) hO dX9_strong_97 (by decide) ?_
      obtain rfl := Option.some.inj hf
      exact gj_iret hO dX9_strong_98
  refine gj_sub [1, 0] rfl ?_
  exact gj_loop (head := fun a2 => gj_G E X 3 (some (gj_i x.1)) x.2 11 [(0, gj_r 188), (1, gj_i a2)] [] x1) (exit := fun y2 => gj_K (fun q => (some (gj_i x.1)) = (some (gj_i q.1)) ∧ x.2 = q.2) (fun z2 => gj_G E X 3 (some (gj_i x.1)) x.2 97 [] [] x1) y2) (fun a2 x hf K => sb_X9_strong_l11 hO hf K) _ _ _ hz2 J2
set_option maxHeartbeats 4000000 in
set_option maxRecDepth 100000 in
theorem ca_X9_strong {E : gj_E} {X : gj_X} {own : String} {cc : ByteArray} {nL : Nat} {rt : Option FieldType} {fr lo : Nat} {r : Option gj_V} {τ : gj_S} {pc : Nat} {lv : List (Nat × gj_V)} {st : List gj_V} {σ : gj_S} (hO : gj_O E X own cc nL rt fr lo)   {idx : Nat} {x : (Int32 × gj_S)} (hf : f_X9_strong  σ = some x) (hl : Cond.methodLink own idx yX9_strong ∈ gj_gw) (hf1 : 3 ≤ fr) (hf2 : 70 ≤ lo) (hcat : ((st.map (gj_tv E.2.1)).map fun v => v.category).sum ≤ 8) (hd : decode cc pc = .ok (.invokevirtual idx, 3)) (k : gj_G E X nL r τ (pc + 3) lv ((gj_i x.1) :: st) x.2) : gj_G E X nL r τ pc lv (gj_r 188 :: st) σ :=
  gj_callV hO (o := 188) (vs := []) (m_X9_strong  hf) hl wk_845 wk_846 wk_607 wk_847 kl_188 kd_188 (by decide) (ci := 9) rfl (n := 0) (by decide +kernel) rfl hf1 hf2 rfl hcat hd k
def fb_X9_moved_l4 (σ : gj_S) (a1 : (Int32 × Int32)) : Option (Int32 ⊕ (Int32 × Int32)) := (if gj_in (0 : Int32) 2 then (if (σ.1 190 (Int32.toNatClampNeg (0 : Int32))) ≤ a1.2 then some (.inl a1.1) else (if gj_in a1.2 9 then (if gj_in a1.2 9 then (if (σ.1 205 (Int32.toNatClampNeg a1.2)) = (σ.1 208 (Int32.toNatClampNeg a1.2)) then some (.inr ((a1.1 + (0 : Int32)), (a1.2 + 1))) else some (.inr ((a1.1 + (1 : Int32)), (a1.2 + 1)))) else none) else none)) else none)
def f_X9_moved  (σ : gj_S) : Option Int32 := ((gj_lp (fb_X9_moved_l4 σ) 5000 ((0 : Int32), (0 : Int32))).bind fun z1 => some z1)
set_option maxHeartbeats 4000000 in
set_option maxRecDepth 100000 in
theorem sb_X9_moved_l4 {E : gj_E} {X : gj_X} {r : Option gj_V} {τ : gj_S} (hO : gj_O E X RX9 cX9_moved 3 (some .int) 0 0) {σ : gj_S} {a1 : (Int32 × Int32)} {x : Int32 ⊕ (Int32 × Int32)} (hf : fb_X9_moved_l4 σ a1 = some x) (K : gj_K (fun z1 => gj_G E X 3 r τ 43 [(1, gj_i z1)] [] σ) (fun a1 => gj_G E X 3 r τ 4 [(0, gj_r 188), (1, gj_i a1.1), (2, gj_i a1.2)] [] σ) x) : gj_G E X 3 r τ 4 [(0, gj_r 188), (1, gj_i a1.1), (2, gj_i a1.2)] [] σ := by
  unfold fb_X9_moved_l4 at hf
  refine gj_iload_n hO 2 dX9_moved_4 rfl rfl ?_
  refine gj_aload_n hO 0 dX9_moved_5 rfl rfl ?_
  refine gt_X9_11 hO wk_670 dX9_moved_6 ?_
  refine gj_iconst (v := 0) hO dX9_moved_9 (by decide) ?_
  obtain ⟨hb3, hf⟩ := gj_c hf
  refine gj_iald hO kl_190 kd_190 hb3 dX9_moved_10 ?_
  refine gj_icmp_ge (tgt := 43) hO dX9_moved_11 (by decide) (fun h => ?_) (fun h => ?_)
  · replace hf := gj_t h hf
    obtain rfl := Option.some.inj hf
    refine gj_sub [1] rfl ?_
    exact K
  · replace hf := gj_f h hf
    refine gj_iload_n hO 1 dX9_moved_14 rfl rfl ?_
    refine gj_aload_n hO 0 dX9_moved_15 rfl rfl ?_
    refine gt_X9_29 hO wk_743 dX9_moved_16 ?_
    refine gj_iload_n hO 2 dX9_moved_19 rfl rfl ?_
    obtain ⟨hb4, hf⟩ := gj_c hf
    refine gj_iald hO kl_205 kd_205 hb4 dX9_moved_20 ?_
    refine gj_aload_n hO 0 dX9_moved_21 rfl rfl ?_
    refine gt_X9_37 hO wk_848 dX9_moved_22 ?_
    refine gj_iload_n hO 2 dX9_moved_25 rfl rfl ?_
    obtain ⟨hb5, hf⟩ := gj_c hf
    refine gj_iald hO kl_208 kd_208 hb5 dX9_moved_26 ?_
    refine gj_icmp_eq (tgt := 34) hO dX9_moved_27 (by decide) (fun h => ?_) (fun h => ?_)
    · replace hf := gj_t h hf
      refine gj_iconst (v := 0) hO dX9_moved_34 (by decide) ?_
      refine gj_iadd hO dX9_moved_35 ?_
      refine gj_istore_n (lv2 := [(1, gj_i (a1.1 + (0 : Int32))), (0, gj_r 188), (2, gj_i a1.2)]) hO dX9_moved_36 rfl (by decide) rfl ?_
      refine gj_iinc (v := (a1.2 + 1)) (lv2 := [(2, gj_i (a1.2 + 1)), (1, gj_i (a1.1 + (0 : Int32))), (0, gj_r 188)]) hO 2 dX9_moved_37 rfl rfl (by decide) rfl ?_
      refine gj_goto (tgt := 4) hO dX9_moved_40 (by decide) ?_
      obtain rfl := Option.some.inj hf
      refine gj_sub [2, 1, 0] rfl ?_
      exact K
    · replace hf := gj_f h hf
      refine gj_iconst (v := 1) hO dX9_moved_30 (by decide) ?_
      refine gj_goto (tgt := 35) hO dX9_moved_31 (by decide) ?_
      refine gj_iadd hO dX9_moved_35 ?_
      refine gj_istore_n (lv2 := [(1, gj_i (a1.1 + (1 : Int32))), (0, gj_r 188), (2, gj_i a1.2)]) hO dX9_moved_36 rfl (by decide) rfl ?_
      refine gj_iinc (v := (a1.2 + 1)) (lv2 := [(2, gj_i (a1.2 + 1)), (1, gj_i (a1.1 + (1 : Int32))), (0, gj_r 188)]) hO 2 dX9_moved_37 rfl rfl (by decide) rfl ?_
      refine gj_goto (tgt := 4) hO dX9_moved_40 (by decide) ?_
      obtain rfl := Option.some.inj hf
      refine gj_sub [2, 1, 0] rfl ?_
      exact K
set_option maxHeartbeats 4000000 in
set_option maxRecDepth 100000 in
theorem m_X9_moved {E : gj_E} {σ : gj_S}   {x : Int32} (hf : f_X9_moved  σ = some x) : gj_M E yX9_moved cX9_moved 3 (some .int) 0 0 [gj_r 188] σ (some (gj_i x)) σ := by
  refine gj_body (lv := [(0, gj_r 188)]) (by decide +kernel) (Nat.le_of_ble_eq_true rfl) rfl (fun X hO => ?_)
  replace hO : gj_O E X RX9 cX9_moved 3 (some .int) 0 0 := hO
  unfold f_X9_moved at hf
  refine gj_iconst (v := 0) hO dX9_moved_0 (by decide) ?_
  refine gj_istore_n (lv2 := [(1, gj_i (0 : Int32)), (0, gj_r 188)]) hO dX9_moved_1 rfl (by decide) rfl ?_
  refine gj_iconst (v := 0) hO dX9_moved_2 (by decide) ?_
  refine gj_istore_n (lv2 := [(2, gj_i (0 : Int32)), (1, gj_i (0 : Int32)), (0, gj_r 188)]) hO dX9_moved_3 rfl (by decide) rfl ?_
  obtain ⟨z1, hz1, hf⟩ := gj_b hf
  have J1 : gj_G E X 3 (some (gj_i x)) σ 43 [(1, gj_i z1)] [] σ := by
    refine gj_iload_n hO 0 dX9_moved_43 rfl rfl ?_
    obtain rfl := Option.some.inj hf
    exact gj_iret hO dX9_moved_44
  refine gj_sub [2, 1, 0] rfl ?_
  exact gj_loop (head := fun a1 => gj_G E X 3 (some (gj_i x)) σ 4 [(0, gj_r 188), (1, gj_i a1.1), (2, gj_i a1.2)] [] σ) (exit := fun z1 => gj_G E X 3 (some (gj_i x)) σ 43 [(1, gj_i z1)] [] σ) (fun a1 x hf K => sb_X9_moved_l4 hO hf K) _ _ _ hz1 J1
set_option maxHeartbeats 4000000 in
set_option maxRecDepth 100000 in
theorem ca_X9_moved {E : gj_E} {X : gj_X} {own : String} {cc : ByteArray} {nL : Nat} {rt : Option FieldType} {fr lo : Nat} {r : Option gj_V} {τ : gj_S} {pc : Nat} {lv : List (Nat × gj_V)} {st : List gj_V} {σ : gj_S} (hO : gj_O E X own cc nL rt fr lo)   {idx : Nat} {x : Int32} (hf : f_X9_moved  σ = some x) (hl : Cond.methodLink own idx yX9_moved ∈ gj_gw) (hf1 : 1 ≤ fr) (hf2 : 22 ≤ lo) (hcat : ((st.map (gj_tv E.2.1)).map fun v => v.category).sum ≤ 8) (hd : decode cc pc = .ok (.invokevirtual idx, 3)) (k : gj_G E X nL r τ (pc + 3) lv ((gj_i x) :: st) σ) : gj_G E X nL r τ pc lv (gj_r 188 :: st) σ :=
  gj_callV hO (o := 188) (vs := []) (m_X9_moved  hf) hl wk_849 wk_850 wk_607 wk_851 kl_188 kd_188 (by decide) (ci := 9) rfl (n := 0) (by decide +kernel) rfl hf1 hf2 rfl hcat hd k
def fb_X9_logs_l5 (b1 : Int32) (b2 : Int32) (b3 : Int32) (b4 : Int32) (b5 : Int32) (a1 : (Int32 × gj_S)) : Option (gj_S ⊕ (Int32 × gj_S)) := (if a1.1 < (105 : Int32) then some (.inl a1.2) else (if gj_in (a1.1 - (5 : Int32)) 180 then (if gj_in a1.1 180 then some (.inr ((a1.1 + (-1)), (gj_sI a1.2 198 (upd (a1.2.1 198) (Int32.toNatClampNeg a1.1) (a1.2.1 198 (Int32.toNatClampNeg (a1.1 - (5 : Int32)))))))) else none) else none))
def f_X9_logs (b1 : Int32) (b2 : Int32) (b3 : Int32) (b4 : Int32) (b5 : Int32) (σ : gj_S) : Option gj_S := ((gj_lp (fb_X9_logs_l5 b1 b2 b3 b4 b5) 5000 ((179 : Int32), σ)).bind fun z1 => (if gj_in (100 : Int32) 180 then (if gj_in (101 : Int32) 180 then ((some (gj_sI (gj_sI z1 198 (upd (z1.1 198) (Int32.toNatClampNeg (100 : Int32)) b1)) 198 (upd ((gj_sI z1 198 (upd (z1.1 198) (Int32.toNatClampNeg (100 : Int32)) b1)).1 198) (Int32.toNatClampNeg (101 : Int32)) b2))).bind fun s7 => (if gj_in (102 : Int32) 180 then (if gj_in (103 : Int32) 180 then ((some (gj_sI (gj_sI s7 198 (upd (s7.1 198) (Int32.toNatClampNeg (102 : Int32)) b3)) 198 (upd ((gj_sI s7 198 (upd (s7.1 198) (Int32.toNatClampNeg (102 : Int32)) b3)).1 198) (Int32.toNatClampNeg (103 : Int32)) b4))).bind fun s10 => (if gj_in (104 : Int32) 180 then (if gj_in (99 : Int32) 180 then ((if (16 : Int32) ≤ ((gj_sI s10 198 (upd (s10.1 198) (Int32.toNatClampNeg (104 : Int32)) b5)).1 198 (Int32.toNatClampNeg (99 : Int32))) then some (gj_sI s10 198 (upd (s10.1 198) (Int32.toNatClampNeg (104 : Int32)) b5)) else (if gj_in (99 : Int32) 180 then (if gj_in (99 : Int32) 180 then ((some (gj_sI (gj_sI s10 198 (upd (s10.1 198) (Int32.toNatClampNeg (104 : Int32)) b5)) 198 (upd ((gj_sI s10 198 (upd (s10.1 198) (Int32.toNatClampNeg (104 : Int32)) b5)).1 198) (Int32.toNatClampNeg (99 : Int32)) (((gj_sI s10 198 (upd (s10.1 198) (Int32.toNatClampNeg (104 : Int32)) b5)).1 198 (Int32.toNatClampNeg (99 : Int32))) + (1 : Int32))))).bind fun s16 => some s16) else none) else none) : Option gj_S).bind fun z13 => (if gj_in (98 : Int32) 180 then (if gj_in (98 : Int32) 180 then some (gj_sI z13 198 (upd (z13.1 198) (Int32.toNatClampNeg (98 : Int32)) ((z13.1 198 (Int32.toNatClampNeg (98 : Int32))) + (1 : Int32)))) else none) else none)) else none) else none)) else none) else none)) else none) else none))
set_option maxHeartbeats 4000000 in
set_option maxRecDepth 100000 in
theorem sb_X9_logs_l5 {E : gj_E} {X : gj_X} {r : Option gj_V} {τ : gj_S} (hO : gj_O E X RX9 cX9_logs 7 none 0 0) {b1 : Int32} {b2 : Int32} {b3 : Int32} {b4 : Int32} {b5 : Int32} {a1 : (Int32 × gj_S)} {x : gj_S ⊕ (Int32 × gj_S)} (hf : fb_X9_logs_l5 b1 b2 b3 b4 b5 a1 = some x) (K : gj_K (fun z1 => gj_G E X 7 r τ 34 [(0, gj_r 188), (1, gj_i b1), (2, gj_i b2), (3, gj_i b3), (4, gj_i b4), (5, gj_i b5)] [] z1) (fun a1 => gj_G E X 7 r τ 5 [(0, gj_r 188), (1, gj_i b1), (2, gj_i b2), (3, gj_i b3), (4, gj_i b4), (5, gj_i b5), (6, gj_i a1.1)] [] a1.2) x) : gj_G E X 7 r τ 5 [(0, gj_r 188), (1, gj_i b1), (2, gj_i b2), (3, gj_i b3), (4, gj_i b4), (5, gj_i b5), (6, gj_i a1.1)] [] a1.2 := by
  unfold fb_X9_logs_l5 at hf
  refine gj_iload hO 6 dX9_logs_5 rfl ?_
  refine gj_bipush (v := 105) hO dX9_logs_7 (by decide) ?_
  refine gj_icmp_lt (tgt := 34) hO dX9_logs_9 (by decide) (fun h => ?_) (fun h => ?_)
  · replace hf := gj_t h hf
    obtain rfl := Option.some.inj hf
    refine gj_sub [0, 1, 2, 3, 4, 5] rfl ?_
    exact K
  · replace hf := gj_f h hf
    refine gj_aload_n hO 0 dX9_logs_12 rfl rfl ?_
    refine gt_X9_21 hO wk_704 dX9_logs_13 ?_
    refine gj_iload hO 6 dX9_logs_16 rfl ?_
    refine gj_aload_n hO 0 dX9_logs_18 rfl rfl ?_
    refine gt_X9_21 hO wk_704 dX9_logs_19 ?_
    refine gj_iload hO 6 dX9_logs_22 rfl ?_
    refine gj_iconst (v := 5) hO dX9_logs_24 (by decide) ?_
    refine gj_isub hO dX9_logs_25 ?_
    obtain ⟨hb3, hf⟩ := gj_c hf
    refine gj_iald hO kl_198 kd_198 hb3 dX9_logs_26 ?_
    obtain ⟨hb4, hf⟩ := gj_c hf
    refine gj_iast hO kl_198 kd_198 hb4 dX9_logs_27 ?_
    refine gj_iinc (v := (a1.1 + (-1))) (lv2 := [(6, gj_i (a1.1 + (-1))), (0, gj_r 188), (1, gj_i b1), (2, gj_i b2), (3, gj_i b3), (4, gj_i b4), (5, gj_i b5)]) hO 6 dX9_logs_28 rfl rfl (by decide) rfl ?_
    refine gj_goto (tgt := 5) hO dX9_logs_31 (by decide) ?_
    obtain rfl := Option.some.inj hf
    refine gj_sub [1, 2, 3, 4, 5, 6, 0] rfl ?_
    exact K
set_option maxHeartbeats 4000000 in
set_option maxRecDepth 100000 in
theorem m_X9_logs {E : gj_E} {σ : gj_S} {b1 : Int32} {b2 : Int32} {b3 : Int32} {b4 : Int32} {b5 : Int32}  {x : gj_S} (hf : f_X9_logs b1 b2 b3 b4 b5 σ = some x) : gj_M E yX9_logs cX9_logs 7 none 0 0 [gj_r 188, gj_i b1, gj_i b2, gj_i b3, gj_i b4, gj_i b5] σ none x := by
  refine gj_body (lv := [(0, gj_r 188), (1, gj_i b1), (2, gj_i b2), (3, gj_i b3), (4, gj_i b4), (5, gj_i b5)]) (by decide +kernel) (Nat.le_of_ble_eq_true rfl) rfl (fun X hO => ?_)
  replace hO : gj_O E X RX9 cX9_logs 7 none 0 0 := hO
  unfold f_X9_logs at hf
  refine gj_sipush (v := 179) hO dX9_logs_0 (by decide) ?_
  refine gj_istore (lv2 := [(6, gj_i (179 : Int32)), (0, gj_r 188), (1, gj_i b1), (2, gj_i b2), (3, gj_i b3), (4, gj_i b4), (5, gj_i b5)]) hO dX9_logs_3 (by decide) rfl ?_
  obtain ⟨z1, hz1, hf⟩ := gj_b hf
  have J1 : gj_G E X 7 none x 34 [(0, gj_r 188), (1, gj_i b1), (2, gj_i b2), (3, gj_i b3), (4, gj_i b4), (5, gj_i b5)] [] z1 := by
    refine gj_aload_n hO 0 dX9_logs_34 rfl rfl ?_
    refine gt_X9_21 hO wk_704 dX9_logs_35 ?_
    refine gj_bipush (v := 100) hO dX9_logs_38 (by decide) ?_
    refine gj_iload_n hO 1 dX9_logs_40 rfl rfl ?_
    obtain ⟨hb5, hf⟩ := gj_c hf
    refine gj_iast hO kl_198 kd_198 hb5 dX9_logs_41 ?_
    refine gj_aload_n hO 0 dX9_logs_42 rfl rfl ?_
    refine gt_X9_21 hO wk_704 dX9_logs_43 ?_
    refine gj_bipush (v := 101) hO dX9_logs_46 (by decide) ?_
    refine gj_iload_n hO 2 dX9_logs_48 rfl rfl ?_
    obtain ⟨hb6, hf⟩ := gj_c hf
    refine gj_iast hO kl_198 kd_198 hb6 dX9_logs_49 ?_
    obtain ⟨s7, e7, hf⟩ := gj_b hf
    refine gj_eqS (Option.some.inj e7) ?_
    refine gj_aload_n hO 0 dX9_logs_50 rfl rfl ?_
    refine gt_X9_21 hO wk_704 dX9_logs_51 ?_
    refine gj_bipush (v := 102) hO dX9_logs_54 (by decide) ?_
    refine gj_iload_n hO 3 dX9_logs_56 rfl rfl ?_
    obtain ⟨hb8, hf⟩ := gj_c hf
    refine gj_iast hO kl_198 kd_198 hb8 dX9_logs_57 ?_
    refine gj_aload_n hO 0 dX9_logs_58 rfl rfl ?_
    refine gt_X9_21 hO wk_704 dX9_logs_59 ?_
    refine gj_bipush (v := 103) hO dX9_logs_62 (by decide) ?_
    refine gj_iload hO 4 dX9_logs_64 rfl ?_
    obtain ⟨hb9, hf⟩ := gj_c hf
    refine gj_iast hO kl_198 kd_198 hb9 dX9_logs_66 ?_
    obtain ⟨s10, e10, hf⟩ := gj_b hf
    refine gj_eqS (Option.some.inj e10) ?_
    refine gj_aload_n hO 0 dX9_logs_67 rfl rfl ?_
    refine gt_X9_21 hO wk_704 dX9_logs_68 ?_
    refine gj_bipush (v := 104) hO dX9_logs_71 (by decide) ?_
    refine gj_iload hO 5 dX9_logs_73 rfl ?_
    obtain ⟨hb11, hf⟩ := gj_c hf
    refine gj_iast hO kl_198 kd_198 hb11 dX9_logs_75 ?_
    refine gj_aload_n hO 0 dX9_logs_76 rfl rfl ?_
    refine gt_X9_21 hO wk_704 dX9_logs_77 ?_
    refine gj_bipush (v := 99) hO dX9_logs_80 (by decide) ?_
    obtain ⟨hb12, hf⟩ := gj_c hf
    refine gj_iald hO kl_198 kd_198 hb12 dX9_logs_82 ?_
    refine gj_bipush (v := 16) hO dX9_logs_83 (by decide) ?_
    obtain ⟨z13, hz13, hf⟩ := gj_b hf
    have J13 : gj_G E X 7 none x 99 [(0, gj_r 188)] [] z13 := by
      refine gj_aload_n hO 0 dX9_logs_99 rfl rfl ?_
      refine gt_X9_21 hO wk_704 dX9_logs_100 ?_
      refine gj_bipush (v := 98) hO dX9_logs_103 (by decide) ?_
      refine gj_dup2 hO dX9_logs_105 trivial trivial ?_
      obtain ⟨hb17, hf⟩ := gj_c hf
      refine gj_iald hO kl_198 kd_198 hb17 dX9_logs_106 ?_
      refine gj_iconst (v := 1) hO dX9_logs_107 (by decide) ?_
      refine gj_iadd hO dX9_logs_108 ?_
      obtain ⟨hb18, hf⟩ := gj_c hf
      refine gj_iast hO kl_198 kd_198 hb18 dX9_logs_109 ?_
      obtain rfl := Option.some.inj hf
      exact gj_vret hO dX9_logs_110
    refine gj_icmp_ge (tgt := 99) hO dX9_logs_85 (by decide) (fun h => ?_) (fun h => ?_)
    · replace hz13 := gj_t h hz13
      obtain rfl := Option.some.inj hz13
      refine gj_sub [0] rfl ?_
      exact J13
    · replace hz13 := gj_f h hz13
      refine gj_aload_n hO 0 dX9_logs_88 rfl rfl ?_
      refine gt_X9_21 hO wk_704 dX9_logs_89 ?_
      refine gj_bipush (v := 99) hO dX9_logs_92 (by decide) ?_
      refine gj_dup2 hO dX9_logs_94 trivial trivial ?_
      obtain ⟨hb14, hz13⟩ := gj_c hz13
      refine gj_iald hO kl_198 kd_198 hb14 dX9_logs_95 ?_
      refine gj_iconst (v := 1) hO dX9_logs_96 (by decide) ?_
      refine gj_iadd hO dX9_logs_97 ?_
      obtain ⟨hb15, hz13⟩ := gj_c hz13
      refine gj_iast hO kl_198 kd_198 hb15 dX9_logs_98 ?_
      obtain ⟨s16, e16, hz13⟩ := gj_b hz13
      refine gj_eqS (Option.some.inj e16) ?_
      obtain rfl := Option.some.inj hz13
      refine gj_sub [0] rfl ?_
      exact J13
  refine gj_sub [1, 2, 3, 4, 5, 6, 0] rfl ?_
  exact gj_loop (head := fun a1 => gj_G E X 7 none x 5 [(0, gj_r 188), (1, gj_i b1), (2, gj_i b2), (3, gj_i b3), (4, gj_i b4), (5, gj_i b5), (6, gj_i a1.1)] [] a1.2) (exit := fun z1 => gj_G E X 7 none x 34 [(0, gj_r 188), (1, gj_i b1), (2, gj_i b2), (3, gj_i b3), (4, gj_i b4), (5, gj_i b5)] [] z1) (fun a1 x hf K => sb_X9_logs_l5 hO hf K) _ _ _ hz1 J1
set_option maxHeartbeats 4000000 in
set_option maxRecDepth 100000 in
theorem ca_X9_logs {E : gj_E} {X : gj_X} {own : String} {cc : ByteArray} {nL : Nat} {rt : Option FieldType} {fr lo : Nat} {r : Option gj_V} {τ : gj_S} {pc : Nat} {lv : List (Nat × gj_V)} {st : List gj_V} {σ : gj_S} (hO : gj_O E X own cc nL rt fr lo) {b1 : Int32} {b2 : Int32} {b3 : Int32} {b4 : Int32} {b5 : Int32}  {idx : Nat} {x : gj_S} (hf : f_X9_logs b1 b2 b3 b4 b5 σ = some x) (hl : Cond.methodLink own idx yX9_logs ∈ gj_gw) (hf1 : 1 ≤ fr) (hf2 : 26 ≤ lo) (hcat : ((st.map (gj_tv E.2.1)).map fun v => v.category).sum ≤ 8) (hd : decode cc pc = .ok (.invokevirtual idx, 3)) (k : gj_G E X nL r τ (pc + 3) lv (st) x) : gj_G E X nL r τ pc lv (gj_i b5 :: gj_i b4 :: gj_i b3 :: gj_i b2 :: gj_i b1 :: gj_r 188 :: st) σ :=
  gj_callV hO (o := 188) (vs := [gj_i b1, gj_i b2, gj_i b3, gj_i b4, gj_i b5]) (m_X9_logs  hf) hl wk_852 wk_853 wk_607 wk_854 kl_188 kd_188 (by decide) (ci := 9) rfl (n := 5) (by decide +kernel) rfl hf1 hf2 rfl hcat hd k
def fb_X9_pivot_l34 (b1 : Int32) (a5 : (Int32 × gj_S)) : Option (gj_S ⊕ (Int32 × gj_S)) := (if (a5.2.1 188 33) ≤ a5.1 then some (.inl a5.2) else (if gj_in a5.1 24 then (if gj_in ((50 : Int32) + (a5.2.1 206 (Int32.toNatClampNeg a5.1))) 180 then (if gj_in a5.1 24 then (if (a5.2.1 207 (Int32.toNatClampNeg a5.1)) = 0 then (if gj_in ((50 : Int32) + (a5.2.1 206 (Int32.toNatClampNeg a5.1))) 180 then ((some (gj_sI a5.2 198 (upd (a5.2.1 198) (Int32.toNatClampNeg ((50 : Int32) + (a5.2.1 206 (Int32.toNatClampNeg a5.1)))) ((a5.2.1 198 (Int32.toNatClampNeg ((50 : Int32) + (a5.2.1 206 (Int32.toNatClampNeg a5.1))))) + (0 - (a5.2.1 188 35)))))).bind fun s11 => some (.inr ((a5.1 + 1), s11))) else none) else (if gj_in ((50 : Int32) + (a5.2.1 206 (Int32.toNatClampNeg a5.1))) 180 then ((some (gj_sI a5.2 198 (upd (a5.2.1 198) (Int32.toNatClampNeg ((50 : Int32) + (a5.2.1 206 (Int32.toNatClampNeg a5.1)))) ((a5.2.1 198 (Int32.toNatClampNeg ((50 : Int32) + (a5.2.1 206 (Int32.toNatClampNeg a5.1))))) + (a5.2.1 188 35))))).bind fun s13 => some (.inr ((a5.1 + 1), s13))) else none)) else none) else none) else none))
def fb_X9_pivot_l98 (b1 : Int32) (b2 : Int32) (a15 : (Int32 × gj_S)) : Option (gj_S ⊕ (Int32 × gj_S)) := (if (9 : Int32) ≤ a15.1 then some (.inl a15.2) else (if gj_in a15.1 9 then (if gj_in a15.1 9 then some (.inr ((a15.1 + 1), (gj_sI a15.2 208 (upd (a15.2.1 208) (Int32.toNatClampNeg a15.1) (a15.2.1 205 (Int32.toNatClampNeg a15.1)))))) else none) else none))
def f_X9_pivot  (σ : gj_S) : Option (Int32 × gj_S) := ((f_X9_laysTree σ).bind fun x1 => ((f_X9_entering x1).bind fun x2 => (if x2.1 = (-1 : Int32) then some ((-1 : Int32), x2.2) else (if gj_in (41 : Int32) 180 then ((f_X9_laysRing x2.1 (gj_sI x2.2 198 (upd (x2.2.1 198) (Int32.toNatClampNeg (41 : Int32)) (x2.2.1 188 30)))).bind fun x4 => ((gj_lp (fb_X9_pivot_l34 x2.1) 5000 ((0 : Int32), x4)).bind fun z5 => (if gj_in (z5.1 188 36) 24 then ((gj_lp (fb_X9_pivot_l98 x2.1 (z5.1 206 (Int32.toNatClampNeg (z5.1 188 36)))) 5000 ((0 : Int32), z5)).bind fun z15 => ((if (z5.1 206 (Int32.toNatClampNeg (z5.1 188 36))) = x2.1 then (if gj_in ((74 : Int32) + x2.1) 180 then (if (z15.1 198 (Int32.toNatClampNeg ((74 : Int32) + x2.1))) = (1 : Int32) then (if gj_in ((74 : Int32) + x2.1) 180 then some (gj_sI z15 198 (upd (z15.1 198) (Int32.toNatClampNeg ((74 : Int32) + x2.1)) (2 : Int32))) else none) else (if gj_in ((74 : Int32) + x2.1) 180 then some (gj_sI z15 198 (upd (z15.1 198) (Int32.toNatClampNeg ((74 : Int32) + x2.1)) (1 : Int32))) else none)) else none) else (if gj_in ((74 : Int32) + x2.1) 180 then (if gj_in ((gj_sI z15 198 (upd (z15.1 198) (Int32.toNatClampNeg ((74 : Int32) + x2.1)) (0 : Int32))).1 188 36) 24 then (if ((gj_sI z15 198 (upd (z15.1 198) (Int32.toNatClampNeg ((74 : Int32) + x2.1)) (0 : Int32))).1 207 (Int32.toNatClampNeg ((gj_sI z15 198 (upd (z15.1 198) (Int32.toNatClampNeg ((74 : Int32) + x2.1)) (0 : Int32))).1 188 36))) = 0 then (if gj_in ((74 : Int32) + (z5.1 206 (Int32.toNatClampNeg (z5.1 188 36)))) 180 then ((some (gj_sI (gj_sI z15 198 (upd (z15.1 198) (Int32.toNatClampNeg ((74 : Int32) + x2.1)) (0 : Int32))) 198 (upd ((gj_sI z15 198 (upd (z15.1 198) (Int32.toNatClampNeg ((74 : Int32) + x2.1)) (0 : Int32))).1 198) (Int32.toNatClampNeg ((74 : Int32) + (z5.1 206 (Int32.toNatClampNeg (z5.1 188 36))))) (1 : Int32)))).bind fun s23 => some s23) else none) else (if gj_in ((74 : Int32) + (z5.1 206 (Int32.toNatClampNeg (z5.1 188 36)))) 180 then ((some (gj_sI (gj_sI z15 198 (upd (z15.1 198) (Int32.toNatClampNeg ((74 : Int32) + x2.1)) (0 : Int32))) 198 (upd ((gj_sI z15 198 (upd (z15.1 198) (Int32.toNatClampNeg ((74 : Int32) + x2.1)) (0 : Int32))).1 198) (Int32.toNatClampNeg ((74 : Int32) + (z5.1 206 (Int32.toNatClampNeg (z5.1 188 36))))) (2 : Int32)))).bind fun s25 => some s25) else none)) else none) else none) : Option gj_S).bind fun z19 => ((f_X9_laysTree z19).bind fun x29 => ((f_X9_moved x29).bind fun x30 => ((f_X9_logs x2.1 (z5.1 206 (Int32.toNatClampNeg (z5.1 188 36))) (x29.1 188 35) (x29.1 188 33) x30 x29).bind fun x31 => some (x2.1, x31)))))) else none))) else none))))
set_option maxHeartbeats 4000000 in
set_option maxRecDepth 100000 in
theorem sb_X9_pivot_l34 {E : gj_E} {X : gj_X} {r : Option gj_V} {τ : gj_S} (hO : gj_O E X RX9 cX9_pivot 4 (some .int) 4 94) {b1 : Int32} {a5 : (Int32 × gj_S)} {x : gj_S ⊕ (Int32 × gj_S)} (hf : fb_X9_pivot_l34 b1 a5 = some x) (K : gj_K (fun z5 => gj_G E X 4 r τ 86 [(0, gj_r 188), (1, gj_i b1)] [] z5) (fun a5 => gj_G E X 4 r τ 34 [(0, gj_r 188), (1, gj_i b1), (2, gj_i a5.1)] [] a5.2) x) : gj_G E X 4 r τ 34 [(0, gj_r 188), (1, gj_i b1), (2, gj_i a5.1)] [] a5.2 := by
  unfold fb_X9_pivot_l34 at hf
  refine gj_iload_n hO 2 dX9_pivot_34 rfl rfl ?_
  refine gj_aload_n hO 0 dX9_pivot_35 rfl rfl ?_
  refine gt_X9_33 hO wk_822 dX9_pivot_36 ?_
  refine gj_icmp_ge (tgt := 86) hO dX9_pivot_39 (by decide) (fun h => ?_) (fun h => ?_)
  · replace hf := gj_t h hf
    obtain rfl := Option.some.inj hf
    refine gj_sub [0, 1] rfl ?_
    exact K
  · replace hf := gj_f h hf
    refine gj_aload_n hO 0 dX9_pivot_42 rfl rfl ?_
    refine gt_X9_21 hO wk_704 dX9_pivot_43 ?_
    refine gj_bipush (v := 50) hO dX9_pivot_46 (by decide) ?_
    refine gj_aload_n hO 0 dX9_pivot_48 rfl rfl ?_
    refine gt_X9_31 hO wk_814 dX9_pivot_49 ?_
    refine gj_iload_n hO 2 dX9_pivot_52 rfl rfl ?_
    obtain ⟨hb7, hf⟩ := gj_c hf
    refine gj_iald hO kl_206 kd_206 hb7 dX9_pivot_53 ?_
    refine gj_iadd hO dX9_pivot_54 ?_
    refine gj_dup2 hO dX9_pivot_55 trivial trivial ?_
    obtain ⟨hb8, hf⟩ := gj_c hf
    refine gj_iald hO kl_198 kd_198 hb8 dX9_pivot_56 ?_
    refine gj_aload_n hO 0 dX9_pivot_57 rfl rfl ?_
    refine gt_X9_32 hO wk_815 dX9_pivot_58 ?_
    refine gj_iload_n hO 2 dX9_pivot_61 rfl rfl ?_
    obtain ⟨hb9, hf⟩ := gj_c hf
    refine gj_zald hO kl_207 kd_207 hb9 dX9_pivot_62 ?_
    refine gj_if_eq (tgt := 73) hO dX9_pivot_63 (by decide) (fun h => ?_) (fun h => ?_)
    · replace hf := gj_t h hf
      refine gj_aload_n hO 0 dX9_pivot_73 rfl rfl ?_
      refine gt_X9_35 hO wk_824 dX9_pivot_74 ?_
      refine gj_ineg hO dX9_pivot_77 ?_
      refine gj_iadd hO dX9_pivot_78 ?_
      obtain ⟨hb10, hf⟩ := gj_c hf
      refine gj_iast hO kl_198 kd_198 hb10 dX9_pivot_79 ?_
      obtain ⟨s11, e11, hf⟩ := gj_b hf
      refine gj_eqS (Option.some.inj e11) ?_
      refine gj_iinc (v := (a5.1 + 1)) (lv2 := [(2, gj_i (a5.1 + 1)), (0, gj_r 188), (1, gj_i b1)]) hO 2 dX9_pivot_80 rfl rfl (by decide) rfl ?_
      refine gj_goto (tgt := 34) hO dX9_pivot_83 (by decide) ?_
      obtain rfl := Option.some.inj hf
      refine gj_sub [1, 2, 0] rfl ?_
      exact K
    · replace hf := gj_f h hf
      refine gj_aload_n hO 0 dX9_pivot_66 rfl rfl ?_
      refine gt_X9_35 hO wk_824 dX9_pivot_67 ?_
      refine gj_goto (tgt := 78) hO dX9_pivot_70 (by decide) ?_
      refine gj_iadd hO dX9_pivot_78 ?_
      obtain ⟨hb12, hf⟩ := gj_c hf
      refine gj_iast hO kl_198 kd_198 hb12 dX9_pivot_79 ?_
      obtain ⟨s13, e13, hf⟩ := gj_b hf
      refine gj_eqS (Option.some.inj e13) ?_
      refine gj_iinc (v := (a5.1 + 1)) (lv2 := [(2, gj_i (a5.1 + 1)), (0, gj_r 188), (1, gj_i b1)]) hO 2 dX9_pivot_80 rfl rfl (by decide) rfl ?_
      refine gj_goto (tgt := 34) hO dX9_pivot_83 (by decide) ?_
      obtain rfl := Option.some.inj hf
      refine gj_sub [1, 2, 0] rfl ?_
      exact K
set_option maxHeartbeats 4000000 in
set_option maxRecDepth 100000 in
theorem sb_X9_pivot_l98 {E : gj_E} {X : gj_X} {r : Option gj_V} {τ : gj_S} (hO : gj_O E X RX9 cX9_pivot 4 (some .int) 4 94) {b1 : Int32} {b2 : Int32} {a15 : (Int32 × gj_S)} {x : gj_S ⊕ (Int32 × gj_S)} (hf : fb_X9_pivot_l98 b1 b2 a15 = some x) (K : gj_K (fun z15 => gj_G E X 4 r τ 122 [(0, gj_r 188), (1, gj_i b1), (2, gj_i b2)] [] z15) (fun a15 => gj_G E X 4 r τ 98 [(0, gj_r 188), (1, gj_i b1), (2, gj_i b2), (3, gj_i a15.1)] [] a15.2) x) : gj_G E X 4 r τ 98 [(0, gj_r 188), (1, gj_i b1), (2, gj_i b2), (3, gj_i a15.1)] [] a15.2 := by
  unfold fb_X9_pivot_l98 at hf
  refine gj_iload_n hO 3 dX9_pivot_98 rfl rfl ?_
  refine gj_bipush (v := 9) hO dX9_pivot_99 (by decide) ?_
  refine gj_icmp_ge (tgt := 122) hO dX9_pivot_101 (by decide) (fun h => ?_) (fun h => ?_)
  · replace hf := gj_t h hf
    obtain rfl := Option.some.inj hf
    refine gj_sub [0, 1, 2] rfl ?_
    exact K
  · replace hf := gj_f h hf
    refine gj_aload_n hO 0 dX9_pivot_104 rfl rfl ?_
    refine gt_X9_37 hO wk_848 dX9_pivot_105 ?_
    refine gj_iload_n hO 3 dX9_pivot_108 rfl rfl ?_
    refine gj_aload_n hO 0 dX9_pivot_109 rfl rfl ?_
    refine gt_X9_29 hO wk_743 dX9_pivot_110 ?_
    refine gj_iload_n hO 3 dX9_pivot_113 rfl rfl ?_
    obtain ⟨hb17, hf⟩ := gj_c hf
    refine gj_iald hO kl_205 kd_205 hb17 dX9_pivot_114 ?_
    obtain ⟨hb18, hf⟩ := gj_c hf
    refine gj_iast hO kl_208 kd_208 hb18 dX9_pivot_115 ?_
    refine gj_iinc (v := (a15.1 + 1)) (lv2 := [(3, gj_i (a15.1 + 1)), (0, gj_r 188), (1, gj_i b1), (2, gj_i b2)]) hO 3 dX9_pivot_116 rfl rfl (by decide) rfl ?_
    refine gj_goto (tgt := 98) hO dX9_pivot_119 (by decide) ?_
    obtain rfl := Option.some.inj hf
    refine gj_sub [1, 2, 3, 0] rfl ?_
    exact K
set_option maxHeartbeats 4000000 in
set_option maxRecDepth 100000 in
theorem m_X9_pivot {E : gj_E} {σ : gj_S}   {x : (Int32 × gj_S)} (hf : f_X9_pivot  σ = some x) : gj_M E yX9_pivot cX9_pivot 4 (some .int) 4 94 [gj_r 188] σ (some (gj_i x.1)) x.2 := by
  refine gj_body (lv := [(0, gj_r 188)]) (by decide +kernel) (Nat.le_of_ble_eq_true rfl) rfl (fun X hO => ?_)
  replace hO : gj_O E X RX9 cX9_pivot 4 (some .int) 4 94 := hO
  unfold f_X9_pivot at hf
  refine gj_aload_n hO 0 dX9_pivot_0 rfl rfl ?_
  obtain ⟨x1, hc1, hf⟩ := gj_b hf
  refine ca_X9_laysTree hO  hc1 wk_771 (by decide) (by decide) (Nat.le_of_ble_eq_true rfl) dX9_pivot_1 ?_
  refine gj_aload_n hO 0 dX9_pivot_4 rfl rfl ?_
  obtain ⟨x2, hc2, hf⟩ := gj_b hf
  refine ca_X9_entering hO  hc2 wk_833 (by decide) (by decide) (Nat.le_of_ble_eq_true rfl) dX9_pivot_5 ?_
  refine gj_istore_n (lv2 := [(1, gj_i x2.1), (0, gj_r 188)]) hO dX9_pivot_8 rfl (by decide) rfl ?_
  refine gj_iload_n hO 0 dX9_pivot_9 rfl rfl ?_
  refine gj_iconst (v := (-1)) hO dX9_pivot_10 (by decide) ?_
  refine gj_icmp_ne (tgt := 16) hO dX9_pivot_11 (by decide) (fun h => ?_) (fun h => ?_)
  · replace hf := gj_f h hf
    refine gj_aload_n hO 1 dX9_pivot_16 rfl rfl ?_
    refine gt_X9_21 hO wk_704 dX9_pivot_17 ?_
    refine gj_bipush (v := 41) hO dX9_pivot_20 (by decide) ?_
    refine gj_aload_n hO 1 dX9_pivot_22 rfl rfl ?_
    refine gt_X9_30 hO wk_807 dX9_pivot_23 ?_
    obtain ⟨hb3, hf⟩ := gj_c hf
    refine gj_iast hO kl_198 kd_198 hb3 dX9_pivot_26 ?_
    refine gj_aload_n hO 1 dX9_pivot_27 rfl rfl ?_
    refine gj_iload_n hO 0 dX9_pivot_28 rfl rfl ?_
    obtain ⟨x4, hc4, hf⟩ := gj_b hf
    refine ca_X9_laysRing hO  hc4 wk_837 (by decide) (by decide) (Nat.le_of_ble_eq_true rfl) dX9_pivot_29 ?_
    refine gj_iconst (v := 0) hO dX9_pivot_32 (by decide) ?_
    refine gj_istore_n (lv2 := [(2, gj_i (0 : Int32)), (1, gj_i x2.1), (0, gj_r 188)]) hO dX9_pivot_33 rfl (by decide) rfl ?_
    obtain ⟨z5, hz5, hf⟩ := gj_b hf
    have J5 : gj_G E X 4 (some (gj_i x.1)) x.2 86 [(0, gj_r 188), (1, gj_i x2.1)] [] z5 := by
      refine gj_aload_n hO 0 dX9_pivot_86 rfl rfl ?_
      refine gt_X9_31 hO wk_814 dX9_pivot_87 ?_
      refine gj_aload_n hO 0 dX9_pivot_90 rfl rfl ?_
      refine gt_X9_36 hO wk_825 dX9_pivot_91 ?_
      obtain ⟨hb14, hf⟩ := gj_c hf
      refine gj_iald hO kl_206 kd_206 hb14 dX9_pivot_94 ?_
      refine gj_istore_n (lv2 := [(2, gj_i (z5.1 206 (Int32.toNatClampNeg (z5.1 188 36)))), (0, gj_r 188), (1, gj_i x2.1)]) hO dX9_pivot_95 rfl (by decide) rfl ?_
      refine gj_iconst (v := 0) hO dX9_pivot_96 (by decide) ?_
      refine gj_istore_n (lv2 := [(3, gj_i (0 : Int32)), (2, gj_i (z5.1 206 (Int32.toNatClampNeg (z5.1 188 36)))), (0, gj_r 188), (1, gj_i x2.1)]) hO dX9_pivot_97 rfl (by decide) rfl ?_
      obtain ⟨z15, hz15, hf⟩ := gj_b hf
      have J15 : gj_G E X 4 (some (gj_i x.1)) x.2 122 [(0, gj_r 188), (1, gj_i x2.1), (2, gj_i (z5.1 206 (Int32.toNatClampNeg (z5.1 188 36))))] [] z15 := by
        refine gj_iload_n hO 2 dX9_pivot_122 rfl rfl ?_
        refine gj_iload_n hO 1 dX9_pivot_123 rfl rfl ?_
        obtain ⟨z19, hz19, hf⟩ := gj_b hf
        have J19 : gj_G E X 4 (some (gj_i x.1)) x.2 193 [(0, gj_r 188), (1, gj_i x2.1), (2, gj_i (z5.1 206 (Int32.toNatClampNeg (z5.1 188 36))))] [] z19 := by
          refine gj_aload_n hO 0 dX9_pivot_193 rfl rfl ?_
          obtain ⟨x29, hc29, hf⟩ := gj_b hf
          refine ca_X9_laysTree hO  hc29 wk_771 (by decide) (by decide) (Nat.le_of_ble_eq_true rfl) dX9_pivot_194 ?_
          refine gj_aload_n hO 0 dX9_pivot_197 rfl rfl ?_
          refine gj_iload_n hO 1 dX9_pivot_198 rfl rfl ?_
          refine gj_iload_n hO 2 dX9_pivot_199 rfl rfl ?_
          refine gj_aload_n hO 0 dX9_pivot_200 rfl rfl ?_
          refine gt_X9_35 hO wk_824 dX9_pivot_201 ?_
          refine gj_aload_n hO 0 dX9_pivot_204 rfl rfl ?_
          refine gt_X9_33 hO wk_822 dX9_pivot_205 ?_
          refine gj_aload_n hO 0 dX9_pivot_208 rfl rfl ?_
          obtain ⟨x30, hc30, hf⟩ := gj_b hf
          refine ca_X9_moved hO  hc30 wk_855 (by decide) (by decide) (Nat.le_of_ble_eq_true rfl) dX9_pivot_209 ?_
          obtain ⟨x31, hc31, hf⟩ := gj_b hf
          refine ca_X9_logs hO  hc31 wk_856 (by decide) (by decide) (Nat.le_of_ble_eq_true rfl) dX9_pivot_212 ?_
          refine gj_iload_n hO 1 dX9_pivot_215 rfl rfl ?_
          obtain rfl := Option.some.inj hf
          exact gj_iret hO dX9_pivot_216
        refine gj_icmp_ne (tgt := 157) hO dX9_pivot_124 (by decide) (fun h => ?_) (fun h => ?_)
        · replace hz19 := gj_f h hz19
          refine gj_aload_n hO 0 dX9_pivot_157 rfl rfl ?_
          refine gt_X9_21 hO wk_704 dX9_pivot_158 ?_
          refine gj_bipush (v := 74) hO dX9_pivot_161 (by decide) ?_
          refine gj_iload_n hO 1 dX9_pivot_163 rfl rfl ?_
          refine gj_iadd hO dX9_pivot_164 ?_
          refine gj_iconst (v := 0) hO dX9_pivot_165 (by decide) ?_
          obtain ⟨hb20, hz19⟩ := gj_c hz19
          refine gj_iast hO kl_198 kd_198 hb20 dX9_pivot_166 ?_
          refine gj_aload_n hO 0 dX9_pivot_167 rfl rfl ?_
          refine gt_X9_21 hO wk_704 dX9_pivot_168 ?_
          refine gj_bipush (v := 74) hO dX9_pivot_171 (by decide) ?_
          refine gj_iload_n hO 2 dX9_pivot_173 rfl rfl ?_
          refine gj_iadd hO dX9_pivot_174 ?_
          refine gj_aload_n hO 0 dX9_pivot_175 rfl rfl ?_
          refine gt_X9_32 hO wk_815 dX9_pivot_176 ?_
          refine gj_aload_n hO 0 dX9_pivot_179 rfl rfl ?_
          refine gt_X9_36 hO wk_825 dX9_pivot_180 ?_
          obtain ⟨hb21, hz19⟩ := gj_c hz19
          refine gj_zald hO kl_207 kd_207 hb21 dX9_pivot_183 ?_
          refine gj_if_eq (tgt := 191) hO dX9_pivot_184 (by decide) (fun h => ?_) (fun h => ?_)
          · replace hz19 := gj_t h hz19
            refine gj_iconst (v := 1) hO dX9_pivot_191 (by decide) ?_
            obtain ⟨hb22, hz19⟩ := gj_c hz19
            refine gj_iast hO kl_198 kd_198 hb22 dX9_pivot_192 ?_
            obtain ⟨s23, e23, hz19⟩ := gj_b hz19
            refine gj_eqS (Option.some.inj e23) ?_
            obtain rfl := Option.some.inj hz19
            refine gj_sub [0, 1, 2] rfl ?_
            exact J19
          · replace hz19 := gj_f h hz19
            refine gj_iconst (v := 2) hO dX9_pivot_187 (by decide) ?_
            refine gj_goto (tgt := 192) hO dX9_pivot_188 (by decide) ?_
            obtain ⟨hb24, hz19⟩ := gj_c hz19
            refine gj_iast hO kl_198 kd_198 hb24 dX9_pivot_192 ?_
            obtain ⟨s25, e25, hz19⟩ := gj_b hz19
            refine gj_eqS (Option.some.inj e25) ?_
            obtain rfl := Option.some.inj hz19
            refine gj_sub [0, 1, 2] rfl ?_
            exact J19
        · replace hz19 := gj_t h hz19
          refine gj_aload_n hO 0 dX9_pivot_127 rfl rfl ?_
          refine gt_X9_21 hO wk_704 dX9_pivot_128 ?_
          refine gj_bipush (v := 74) hO dX9_pivot_131 (by decide) ?_
          refine gj_iload_n hO 1 dX9_pivot_133 rfl rfl ?_
          refine gj_iadd hO dX9_pivot_134 ?_
          refine gj_aload_n hO 0 dX9_pivot_135 rfl rfl ?_
          refine gt_X9_21 hO wk_704 dX9_pivot_136 ?_
          refine gj_bipush (v := 74) hO dX9_pivot_139 (by decide) ?_
          refine gj_iload_n hO 1 dX9_pivot_141 rfl rfl ?_
          refine gj_iadd hO dX9_pivot_142 ?_
          obtain ⟨hb26, hz19⟩ := gj_c hz19
          refine gj_iald hO kl_198 kd_198 hb26 dX9_pivot_143 ?_
          refine gj_iconst (v := 1) hO dX9_pivot_144 (by decide) ?_
          refine gj_icmp_ne (tgt := 152) hO dX9_pivot_145 (by decide) (fun h => ?_) (fun h => ?_)
          · replace hz19 := gj_f h hz19
            refine gj_iconst (v := 1) hO dX9_pivot_152 (by decide) ?_
            obtain ⟨hb27, hz19⟩ := gj_c hz19
            refine gj_iast hO kl_198 kd_198 hb27 dX9_pivot_153 ?_
            refine gj_goto (tgt := 193) hO dX9_pivot_154 (by decide) ?_
            obtain rfl := Option.some.inj hz19
            refine gj_sub [0, 1, 2] rfl ?_
            exact J19
          · replace hz19 := gj_t h hz19
            refine gj_iconst (v := 2) hO dX9_pivot_148 (by decide) ?_
            refine gj_goto (tgt := 153) hO dX9_pivot_149 (by decide) ?_
            obtain ⟨hb28, hz19⟩ := gj_c hz19
            refine gj_iast hO kl_198 kd_198 hb28 dX9_pivot_153 ?_
            refine gj_goto (tgt := 193) hO dX9_pivot_154 (by decide) ?_
            obtain rfl := Option.some.inj hz19
            refine gj_sub [0, 1, 2] rfl ?_
            exact J19
      refine gj_sub [2, 3, 1, 0] rfl ?_
      exact gj_loop (head := fun a15 => gj_G E X 4 (some (gj_i x.1)) x.2 98 [(0, gj_r 188), (1, gj_i x2.1), (2, gj_i (z5.1 206 (Int32.toNatClampNeg (z5.1 188 36)))), (3, gj_i a15.1)] [] a15.2) (exit := fun z15 => gj_G E X 4 (some (gj_i x.1)) x.2 122 [(0, gj_r 188), (1, gj_i x2.1), (2, gj_i (z5.1 206 (Int32.toNatClampNeg (z5.1 188 36))))] [] z15) (fun a15 x hf K => sb_X9_pivot_l98 hO hf K) _ _ _ hz15 J15
    refine gj_sub [2, 1, 0] rfl ?_
    exact gj_loop (head := fun a5 => gj_G E X 4 (some (gj_i x.1)) x.2 34 [(0, gj_r 188), (1, gj_i x2.1), (2, gj_i a5.1)] [] a5.2) (exit := fun z5 => gj_G E X 4 (some (gj_i x.1)) x.2 86 [(0, gj_r 188), (1, gj_i x2.1)] [] z5) (fun a5 x hf K => sb_X9_pivot_l34 hO hf K) _ _ _ hz5 J5
  · replace hf := gj_t h hf
    refine gj_iconst (v := (-1)) hO dX9_pivot_14 (by decide) ?_
    obtain rfl := Option.some.inj hf
    exact gj_iret hO dX9_pivot_15
set_option maxHeartbeats 4000000 in
set_option maxRecDepth 100000 in
theorem ca_X9_pivot {E : gj_E} {X : gj_X} {own : String} {cc : ByteArray} {nL : Nat} {rt : Option FieldType} {fr lo : Nat} {r : Option gj_V} {τ : gj_S} {pc : Nat} {lv : List (Nat × gj_V)} {st : List gj_V} {σ : gj_S} (hO : gj_O E X own cc nL rt fr lo)   {idx : Nat} {x : (Int32 × gj_S)} (hf : f_X9_pivot  σ = some x) (hl : Cond.methodLink own idx yX9_pivot ∈ gj_gw) (hf1 : 5 ≤ fr) (hf2 : 117 ≤ lo) (hcat : ((st.map (gj_tv E.2.1)).map fun v => v.category).sum ≤ 8) (hd : decode cc pc = .ok (.invokevirtual idx, 3)) (k : gj_G E X nL r τ (pc + 3) lv ((gj_i x.1) :: st) x.2) : gj_G E X nL r τ pc lv (gj_r 188 :: st) σ :=
  gj_callV hO (o := 188) (vs := []) (m_X9_pivot  hf) hl wk_857 wk_858 wk_607 wk_859 kl_188 kd_188 (by decide) (ci := 9) rfl (n := 0) (by decide +kernel) rfl hf1 hf2 rfl hcat hd k
def fb_X9_keeps_l11  (a2 : (Int32 × gj_S)) : Option (gj_S ⊕ (Int32 × gj_S)) := (if (1980 : Int32) ≤ a2.1 then some (.inl a2.2) else (if gj_in (a2.1 + (180 : Int32)) 2160 then (if gj_in a2.1 2160 then some (.inr ((a2.1 + 1), (gj_sI a2.2 199 (upd (a2.2.1 199) (Int32.toNatClampNeg a2.1) (a2.2.1 199 (Int32.toNatClampNeg (a2.1 + (180 : Int32)))))))) else none) else none))
def fb_X9_keeps_l52  (a6 : (Int32 × gj_S)) : Option (gj_S ⊕ (Int32 × gj_S)) := (if (180 : Int32) ≤ a6.1 then some (.inl a6.2) else (if gj_in a6.1 180 then (if gj_in (((180 : Int32) * (a6.2.1 188 23)) + a6.1) 2160 then some (.inr ((a6.1 + 1), (gj_sI a6.2 199 (upd (a6.2.1 199) (Int32.toNatClampNeg (((180 : Int32) * (a6.2.1 188 23)) + a6.1)) (a6.2.1 198 (Int32.toNatClampNeg a6.1)))))) else none) else none))
def f_X9_keeps  (σ : gj_S) : Option gj_S := ((if (σ.1 188 23) = (12 : Int32) then ((gj_lp (fb_X9_keeps_l11) 5000 ((0 : Int32), σ)).bind fun z2 => some (gj_sI z2 188 (upd (z2.1 188) 23 ((z2.1 188 23) - (1 : Int32))))) else some σ : Option gj_S).bind fun z1 => ((gj_lp (fb_X9_keeps_l52) 5000 ((0 : Int32), z1)).bind fun z6 => some (gj_sI z6 188 (upd (z6.1 188) 23 ((z6.1 188 23) + (1 : Int32))))))
set_option maxHeartbeats 4000000 in
set_option maxRecDepth 100000 in
theorem sb_X9_keeps_l11 {E : gj_E} {X : gj_X} {r : Option gj_V} {τ : gj_S} (hO : gj_O E X RX9 cX9_keeps 2 none 0 0)  {a2 : (Int32 × gj_S)} {x : gj_S ⊕ (Int32 × gj_S)} (hf : fb_X9_keeps_l11  a2 = some x) (K : gj_K (fun z2 => gj_G E X 2 r τ 40 [(0, gj_r 188)] [] z2) (fun a2 => gj_G E X 2 r τ 11 [(0, gj_r 188), (1, gj_i a2.1)] [] a2.2) x) : gj_G E X 2 r τ 11 [(0, gj_r 188), (1, gj_i a2.1)] [] a2.2 := by
  unfold fb_X9_keeps_l11 at hf
  refine gj_iload_n hO 1 dX9_keeps_11 rfl rfl ?_
  refine gj_sipush (v := 1980) hO dX9_keeps_12 (by decide) ?_
  refine gj_icmp_ge (tgt := 40) hO dX9_keeps_15 (by decide) (fun h => ?_) (fun h => ?_)
  · replace hf := gj_t h hf
    obtain rfl := Option.some.inj hf
    refine gj_sub [0] rfl ?_
    exact K
  · replace hf := gj_f h hf
    refine gj_aload_n hO 0 dX9_keeps_18 rfl rfl ?_
    refine gt_X9_22 hO wk_860 dX9_keeps_19 ?_
    refine gj_iload_n hO 1 dX9_keeps_22 rfl rfl ?_
    refine gj_aload_n hO 0 dX9_keeps_23 rfl rfl ?_
    refine gt_X9_22 hO wk_860 dX9_keeps_24 ?_
    refine gj_iload_n hO 1 dX9_keeps_27 rfl rfl ?_
    refine gj_sipush (v := 180) hO dX9_keeps_28 (by decide) ?_
    refine gj_iadd hO dX9_keeps_31 ?_
    obtain ⟨hb4, hf⟩ := gj_c hf
    refine gj_iald hO kl_199 kd_199 hb4 dX9_keeps_32 ?_
    obtain ⟨hb5, hf⟩ := gj_c hf
    refine gj_iast hO kl_199 kd_199 hb5 dX9_keeps_33 ?_
    refine gj_iinc (v := (a2.1 + 1)) (lv2 := [(1, gj_i (a2.1 + 1)), (0, gj_r 188)]) hO 1 dX9_keeps_34 rfl rfl (by decide) rfl ?_
    refine gj_goto (tgt := 11) hO dX9_keeps_37 (by decide) ?_
    obtain rfl := Option.some.inj hf
    refine gj_sub [1, 0] rfl ?_
    exact K
set_option maxHeartbeats 4000000 in
set_option maxRecDepth 100000 in
theorem sb_X9_keeps_l52 {E : gj_E} {X : gj_X} {r : Option gj_V} {τ : gj_S} (hO : gj_O E X RX9 cX9_keeps 2 none 0 0)  {a6 : (Int32 × gj_S)} {x : gj_S ⊕ (Int32 × gj_S)} (hf : fb_X9_keeps_l52  a6 = some x) (K : gj_K (fun z6 => gj_G E X 2 r τ 86 [(0, gj_r 188)] [] z6) (fun a6 => gj_G E X 2 r τ 52 [(0, gj_r 188), (1, gj_i a6.1)] [] a6.2) x) : gj_G E X 2 r τ 52 [(0, gj_r 188), (1, gj_i a6.1)] [] a6.2 := by
  unfold fb_X9_keeps_l52 at hf
  refine gj_iload_n hO 1 dX9_keeps_52 rfl rfl ?_
  refine gj_sipush (v := 180) hO dX9_keeps_53 (by decide) ?_
  refine gj_icmp_ge (tgt := 86) hO dX9_keeps_56 (by decide) (fun h => ?_) (fun h => ?_)
  · replace hf := gj_t h hf
    obtain rfl := Option.some.inj hf
    refine gj_sub [0] rfl ?_
    exact K
  · replace hf := gj_f h hf
    refine gj_aload_n hO 0 dX9_keeps_59 rfl rfl ?_
    refine gt_X9_22 hO wk_860 dX9_keeps_60 ?_
    refine gj_sipush (v := 180) hO dX9_keeps_63 (by decide) ?_
    refine gj_aload_n hO 0 dX9_keeps_66 rfl rfl ?_
    refine gt_X9_23 hO wk_710 dX9_keeps_67 ?_
    refine gj_imul hO dX9_keeps_70 ?_
    refine gj_iload_n hO 1 dX9_keeps_71 rfl rfl ?_
    refine gj_iadd hO dX9_keeps_72 ?_
    refine gj_aload_n hO 0 dX9_keeps_73 rfl rfl ?_
    refine gt_X9_21 hO wk_704 dX9_keeps_74 ?_
    refine gj_iload_n hO 1 dX9_keeps_77 rfl rfl ?_
    obtain ⟨hb8, hf⟩ := gj_c hf
    refine gj_iald hO kl_198 kd_198 hb8 dX9_keeps_78 ?_
    obtain ⟨hb9, hf⟩ := gj_c hf
    refine gj_iast hO kl_199 kd_199 hb9 dX9_keeps_79 ?_
    refine gj_iinc (v := (a6.1 + 1)) (lv2 := [(1, gj_i (a6.1 + 1)), (0, gj_r 188)]) hO 1 dX9_keeps_80 rfl rfl (by decide) rfl ?_
    refine gj_goto (tgt := 52) hO dX9_keeps_83 (by decide) ?_
    obtain rfl := Option.some.inj hf
    refine gj_sub [1, 0] rfl ?_
    exact K
set_option maxHeartbeats 4000000 in
set_option maxRecDepth 100000 in
theorem m_X9_keeps {E : gj_E} {σ : gj_S}   {x : gj_S} (hf : f_X9_keeps  σ = some x) : gj_M E yX9_keeps cX9_keeps 2 none 0 0 [gj_r 188] σ none x := by
  refine gj_body (lv := [(0, gj_r 188)]) (by decide +kernel) (Nat.le_of_ble_eq_true rfl) rfl (fun X hO => ?_)
  replace hO : gj_O E X RX9 cX9_keeps 2 none 0 0 := hO
  unfold f_X9_keeps at hf
  refine gj_aload_n hO 0 dX9_keeps_0 rfl rfl ?_
  refine gt_X9_23 hO wk_710 dX9_keeps_1 ?_
  refine gj_bipush (v := 12) hO dX9_keeps_4 (by decide) ?_
  obtain ⟨z1, hz1, hf⟩ := gj_b hf
  have J1 : gj_G E X 2 none x 50 [(0, gj_r 188)] [] z1 := by
    refine gj_iconst (v := 0) hO dX9_keeps_50 (by decide) ?_
    refine gj_istore_n (lv2 := [(1, gj_i (0 : Int32)), (0, gj_r 188)]) hO dX9_keeps_51 rfl (by decide) rfl ?_
    obtain ⟨z6, hz6, hf⟩ := gj_b hf
    have J6 : gj_G E X 2 none x 86 [(0, gj_r 188)] [] z6 := by
      refine gj_aload_n hO 0 dX9_keeps_86 rfl rfl ?_
      refine gj_dup hO dX9_keeps_87 trivial ?_
      refine gt_X9_23 hO wk_710 dX9_keeps_88 ?_
      refine gj_iconst (v := 1) hO dX9_keeps_91 (by decide) ?_
      refine gj_iadd hO dX9_keeps_92 ?_
      refine pt_X9_23 hO wk_710 dX9_keeps_93 ?_
      obtain rfl := Option.some.inj hf
      exact gj_vret hO dX9_keeps_96
    refine gj_sub [1, 0] rfl ?_
    exact gj_loop (head := fun a6 => gj_G E X 2 none x 52 [(0, gj_r 188), (1, gj_i a6.1)] [] a6.2) (exit := fun z6 => gj_G E X 2 none x 86 [(0, gj_r 188)] [] z6) (fun a6 x hf K => sb_X9_keeps_l52 hO hf K) _ _ _ hz6 J6
  refine gj_icmp_ne (tgt := 50) hO dX9_keeps_6 (by decide) (fun h => ?_) (fun h => ?_)
  · replace hz1 := gj_f h hz1
    obtain rfl := Option.some.inj hz1
    refine gj_sub [0] rfl ?_
    exact J1
  · replace hz1 := gj_t h hz1
    refine gj_iconst (v := 0) hO dX9_keeps_9 (by decide) ?_
    refine gj_istore_n (lv2 := [(1, gj_i (0 : Int32)), (0, gj_r 188)]) hO dX9_keeps_10 rfl (by decide) rfl ?_
    obtain ⟨z2, hz2, hz1⟩ := gj_b hz1
    have J2 : gj_G E X 2 none x 40 [(0, gj_r 188)] [] z2 := by
      refine gj_aload_n hO 0 dX9_keeps_40 rfl rfl ?_
      refine gj_dup hO dX9_keeps_41 trivial ?_
      refine gt_X9_23 hO wk_710 dX9_keeps_42 ?_
      refine gj_iconst (v := 1) hO dX9_keeps_45 (by decide) ?_
      refine gj_isub hO dX9_keeps_46 ?_
      refine pt_X9_23 hO wk_710 dX9_keeps_47 ?_
      obtain rfl := Option.some.inj hz1
      refine gj_sub [0] rfl ?_
      exact J1
    refine gj_sub [1, 0] rfl ?_
    exact gj_loop (head := fun a2 => gj_G E X 2 none x 11 [(0, gj_r 188), (1, gj_i a2.1)] [] a2.2) (exit := fun z2 => gj_G E X 2 none x 40 [(0, gj_r 188)] [] z2) (fun a2 x hf K => sb_X9_keeps_l11 hO hf K) _ _ _ hz2 J2
set_option maxHeartbeats 4000000 in
set_option maxRecDepth 100000 in
theorem ca_X9_keeps {E : gj_E} {X : gj_X} {own : String} {cc : ByteArray} {nL : Nat} {rt : Option FieldType} {fr lo : Nat} {r : Option gj_V} {τ : gj_S} {pc : Nat} {lv : List (Nat × gj_V)} {st : List gj_V} {σ : gj_S} (hO : gj_O E X own cc nL rt fr lo)   {idx : Nat} {x : gj_S} (hf : f_X9_keeps  σ = some x) (hl : Cond.methodLink own idx yX9_keeps ∈ gj_gw) (hf1 : 1 ≤ fr) (hf2 : 21 ≤ lo) (hcat : ((st.map (gj_tv E.2.1)).map fun v => v.category).sum ≤ 8) (hd : decode cc pc = .ok (.invokevirtual idx, 3)) (k : gj_G E X nL r τ (pc + 3) lv (st) x) : gj_G E X nL r τ pc lv (gj_r 188 :: st) σ :=
  gj_callV hO (o := 188) (vs := []) (m_X9_keeps  hf) hl wk_861 wk_862 wk_607 wk_863 kl_188 kd_188 (by decide) (ci := 9) rfl (n := 0) (by decide +kernel) rfl hf1 hf2 rfl hcat hd k
def f_X9_step  (σ : gj_S) : Option (Int32 × gj_S) := ((f_X9_isEnd (gj_sI σ 188 (upd (σ.1 188) 0 (0 : Int32)))).bind fun x1 => (if x1.1 = 0 then ((f_X9_keeps x1.2).bind fun x2 => ((f_X9_pivot x2).bind fun x3 => some (x3.1, x3.2))) else some ((-2 : Int32), x1.2)))
set_option maxHeartbeats 4000000 in
set_option maxRecDepth 100000 in
theorem m_X9_step {E : gj_E} {σ : gj_S}   {x : (Int32 × gj_S)} (hf : f_X9_step  σ = some x) : gj_M E yX9_step cX9_step 1 (some .int) 5 117 [gj_r 188] σ (some (gj_i x.1)) x.2 := by
  refine gj_body (lv := [(0, gj_r 188)]) (by decide +kernel) (Nat.le_of_ble_eq_true rfl) rfl (fun X hO => ?_)
  replace hO : gj_O E X RX9 cX9_step 1 (some .int) 5 117 := hO
  unfold f_X9_step at hf
  refine gj_aload_n hO 0 dX9_step_0 rfl rfl ?_
  refine gj_iconst (v := 0) hO dX9_step_1 (by decide) ?_
  refine pt_X9_0 hO wk_604 dX9_step_2 ?_
  refine gj_aload_n hO 0 dX9_step_5 rfl rfl ?_
  obtain ⟨x1, hc1, hf⟩ := gj_b hf
  refine ca_X9_isEnd hO  hc1 wk_864 (by decide) (by decide) (Nat.le_of_ble_eq_true rfl) dX9_step_6 ?_
  refine gj_if_eq (tgt := 15) hO dX9_step_9 (by decide) (fun h => ?_) (fun h => ?_)
  · replace hf := gj_t h hf
    refine gj_aload_n hO 0 dX9_step_15 rfl rfl ?_
    obtain ⟨x2, hc2, hf⟩ := gj_b hf
    refine ca_X9_keeps hO  hc2 wk_865 (by decide) (by decide) (Nat.le_of_ble_eq_true rfl) dX9_step_16 ?_
    refine gj_aload_n hO 0 dX9_step_19 rfl rfl ?_
    obtain ⟨x3, hc3, hf⟩ := gj_b hf
    refine ca_X9_pivot hO  hc3 wk_866 (by decide) (by decide) (Nat.le_of_ble_eq_true rfl) dX9_step_20 ?_
    obtain rfl := Option.some.inj hf
    exact gj_iret hO dX9_step_23
  · replace hf := gj_f h hf
    refine gj_bipush (v := (-2)) hO dX9_step_12 (by decide) ?_
    obtain rfl := Option.some.inj hf
    exact gj_iret hO dX9_step_14
set_option maxHeartbeats 4000000 in
set_option maxRecDepth 100000 in
theorem ca_X9_step {E : gj_E} {X : gj_X} {own : String} {cc : ByteArray} {nL : Nat} {rt : Option FieldType} {fr lo : Nat} {r : Option gj_V} {τ : gj_S} {pc : Nat} {lv : List (Nat × gj_V)} {st : List gj_V} {σ : gj_S} (hO : gj_O E X own cc nL rt fr lo)   {idx : Nat} {x : (Int32 × gj_S)} (hf : f_X9_step  σ = some x) (hl : Cond.methodLink own idx yX9_step ∈ gj_gw) (hf1 : 6 ≤ fr) (hf2 : 137 ≤ lo) (hcat : ((st.map (gj_tv E.2.1)).map fun v => v.category).sum ≤ 8) (hd : decode cc pc = .ok (.invokevirtual idx, 3)) (k : gj_G E X nL r τ (pc + 3) lv ((gj_i x.1) :: st) x.2) : gj_G E X nL r τ pc lv (gj_r 188 :: st) σ :=
  gj_callV hO (o := 188) (vs := []) (m_X9_step  hf) hl wk_867 wk_868 wk_607 wk_869 kl_188 kd_188 (by decide) (ci := 9) rfl (n := 0) (by decide +kernel) rfl hf1 hf2 rfl hcat hd k
def fb_X9_run_l34 (b1 : Int32) (a4 : (Int32 × gj_S)) : Option ((Int32 × gj_S) ⊕ (Int32 × gj_S)) := (if b1 ≤ a4.1 then some (.inl (a4.1, a4.2)) else ((f_X9_pivot a4.2).bind fun x6 => (if x6.1 = (-1 : Int32) then some (.inl (a4.1, x6.2)) else some (.inr ((a4.1 + 1), x6.2)))))
def f_X9_run (b1 : Int32) (σ : gj_S) : Option (Int32 × gj_S) := ((f_X9_within (Int32.toInt64 b1) (1 : Int64) (99 : Int64)).bind fun x1 => (if x1 = 0 then some ((-1 : Int32), (gj_sI σ 188 (upd (σ.1 188) 0 (0 : Int32)))) else ((f_X9_isEnd (gj_sI σ 188 (upd (σ.1 188) 0 (0 : Int32)))).bind fun x2 => (if x2.1 = 0 then ((f_X9_keeps x2.2).bind fun x3 => ((gj_lp (fb_X9_run_l34 b1) 5000 ((0 : Int32), x3)).bind fun z4 => some (z4.1, z4.2))) else some ((0 : Int32), x2.2)))))
set_option maxHeartbeats 4000000 in
set_option maxRecDepth 100000 in
theorem sb_X9_run_l34 {E : gj_E} {X : gj_X} {r : Option gj_V} {τ : gj_S} (hO : gj_O E X RX9 cX9_run 3 (some .int) 5 117) {b1 : Int32} {a4 : (Int32 × gj_S)} {x : (Int32 × gj_S) ⊕ (Int32 × gj_S)} (hf : fb_X9_run_l34 b1 a4 = some x) (K : gj_K (fun z4 => gj_G E X 3 r τ 53 [(2, gj_i z4.1)] [] z4.2) (fun a4 => gj_G E X 3 r τ 34 [(0, gj_r 188), (1, gj_i b1), (2, gj_i a4.1)] [] a4.2) x) : gj_G E X 3 r τ 34 [(0, gj_r 188), (1, gj_i b1), (2, gj_i a4.1)] [] a4.2 := by
  unfold fb_X9_run_l34 at hf
  refine gj_iload_n hO 2 dX9_run_34 rfl rfl ?_
  refine gj_iload_n hO 1 dX9_run_35 rfl rfl ?_
  refine gj_icmp_ge (tgt := 53) hO dX9_run_36 (by decide) (fun h => ?_) (fun h => ?_)
  · replace hf := gj_t h hf
    obtain rfl := Option.some.inj hf
    refine gj_sub [2] rfl ?_
    exact K
  · replace hf := gj_f h hf
    refine gj_aload_n hO 0 dX9_run_39 rfl rfl ?_
    obtain ⟨x6, hc6, hf⟩ := gj_b hf
    refine ca_X9_pivot hO  hc6 wk_866 (by decide) (by decide) (Nat.le_of_ble_eq_true rfl) dX9_run_40 ?_
    refine gj_iconst (v := (-1)) hO dX9_run_43 (by decide) ?_
    refine gj_icmp_eq (tgt := 53) hO dX9_run_44 (by decide) (fun h => ?_) (fun h => ?_)
    · replace hf := gj_t h hf
      obtain rfl := Option.some.inj hf
      refine gj_sub [2] rfl ?_
      exact K
    · replace hf := gj_f h hf
      refine gj_iinc (v := (a4.1 + 1)) (lv2 := [(2, gj_i (a4.1 + 1)), (0, gj_r 188), (1, gj_i b1)]) hO 2 dX9_run_47 rfl rfl (by decide) rfl ?_
      refine gj_goto (tgt := 34) hO dX9_run_50 (by decide) ?_
      obtain rfl := Option.some.inj hf
      refine gj_sub [1, 2, 0] rfl ?_
      exact K
set_option maxHeartbeats 4000000 in
set_option maxRecDepth 100000 in
theorem m_X9_run {E : gj_E} {σ : gj_S} {b1 : Int32}  {x : (Int32 × gj_S)} (hf : f_X9_run b1 σ = some x) : gj_M E yX9_run cX9_run 3 (some .int) 5 117 [gj_r 188, gj_i b1] σ (some (gj_i x.1)) x.2 := by
  refine gj_body (lv := [(0, gj_r 188), (1, gj_i b1)]) (by decide +kernel) (Nat.le_of_ble_eq_true rfl) rfl (fun X hO => ?_)
  replace hO : gj_O E X RX9 cX9_run 3 (some .int) 5 117 := hO
  unfold f_X9_run at hf
  refine gj_aload_n hO 0 dX9_run_0 rfl rfl ?_
  refine gj_iconst (v := 0) hO dX9_run_1 (by decide) ?_
  refine pt_X9_0 hO wk_604 dX9_run_2 ?_
  refine gj_iload_n hO 1 dX9_run_5 rfl rfl ?_
  refine gj_i2l hO dX9_run_6 ?_
  refine gj_lconst (v := 1) hO dX9_run_7 (by decide) ?_
  refine gj_ldc2 hO wk_870 dX9_run_8 ?_
  obtain ⟨x1, hc1, hf⟩ := gj_b hf
  refine ca_X9_within hO  hc1 wk_632 (by decide) (by decide) (Nat.le_of_ble_eq_true rfl) dX9_run_11 ?_
  refine gj_if_ne (tgt := 19) hO dX9_run_14 (by decide) (fun h => ?_) (fun h => ?_)
  · replace hf := gj_f h hf
    refine gj_aload_n hO 0 dX9_run_19 rfl rfl ?_
    obtain ⟨x2, hc2, hf⟩ := gj_b hf
    refine ca_X9_isEnd hO  hc2 wk_864 (by decide) (by decide) (Nat.le_of_ble_eq_true rfl) dX9_run_20 ?_
    refine gj_if_eq (tgt := 28) hO dX9_run_23 (by decide) (fun h => ?_) (fun h => ?_)
    · replace hf := gj_t h hf
      refine gj_aload_n hO 0 dX9_run_28 rfl rfl ?_
      obtain ⟨x3, hc3, hf⟩ := gj_b hf
      refine ca_X9_keeps hO  hc3 wk_865 (by decide) (by decide) (Nat.le_of_ble_eq_true rfl) dX9_run_29 ?_
      refine gj_iconst (v := 0) hO dX9_run_32 (by decide) ?_
      refine gj_istore_n (lv2 := [(2, gj_i (0 : Int32)), (0, gj_r 188), (1, gj_i b1)]) hO dX9_run_33 rfl (by decide) rfl ?_
      obtain ⟨z4, hz4, hf⟩ := gj_b hf
      have J4 : gj_G E X 3 (some (gj_i x.1)) x.2 53 [(2, gj_i z4.1)] [] z4.2 := by
        refine gj_iload_n hO 0 dX9_run_53 rfl rfl ?_
        obtain rfl := Option.some.inj hf
        exact gj_iret hO dX9_run_54
      refine gj_sub [1, 2, 0] rfl ?_
      exact gj_loop (head := fun a4 => gj_G E X 3 (some (gj_i x.1)) x.2 34 [(0, gj_r 188), (1, gj_i b1), (2, gj_i a4.1)] [] a4.2) (exit := fun z4 => gj_G E X 3 (some (gj_i x.1)) x.2 53 [(2, gj_i z4.1)] [] z4.2) (fun a4 x hf K => sb_X9_run_l34 hO hf K) _ _ _ hz4 J4
    · replace hf := gj_f h hf
      refine gj_iconst (v := 0) hO dX9_run_26 (by decide) ?_
      obtain rfl := Option.some.inj hf
      exact gj_iret hO dX9_run_27
  · replace hf := gj_t h hf
    refine gj_iconst (v := (-1)) hO dX9_run_17 (by decide) ?_
    obtain rfl := Option.some.inj hf
    exact gj_iret hO dX9_run_18
set_option maxHeartbeats 4000000 in
set_option maxRecDepth 100000 in
theorem ca_X9_run {E : gj_E} {X : gj_X} {own : String} {cc : ByteArray} {nL : Nat} {rt : Option FieldType} {fr lo : Nat} {r : Option gj_V} {τ : gj_S} {pc : Nat} {lv : List (Nat × gj_V)} {st : List gj_V} {σ : gj_S} (hO : gj_O E X own cc nL rt fr lo) {b1 : Int32}  {idx : Nat} {x : (Int32 × gj_S)} (hf : f_X9_run b1 σ = some x) (hl : Cond.methodLink own idx yX9_run ∈ gj_gw) (hf1 : 6 ≤ fr) (hf2 : 139 ≤ lo) (hcat : ((st.map (gj_tv E.2.1)).map fun v => v.category).sum ≤ 8) (hd : decode cc pc = .ok (.invokevirtual idx, 3)) (k : gj_G E X nL r τ (pc + 3) lv ((gj_i x.1) :: st) x.2) : gj_G E X nL r τ pc lv (gj_i b1 :: gj_r 188 :: st) σ :=
  gj_callV hO (o := 188) (vs := [gj_i b1]) (m_X9_run  hf) hl wk_871 wk_872 wk_607 wk_873 kl_188 kd_188 (by decide) (ci := 9) rfl (n := 1) (by decide +kernel) rfl hf1 hf2 rfl hcat hd k
def f_X9_log (b1 : Int32) (b2 : Int32) (σ : gj_S) : Option (Int32 × gj_S) := (if gj_in (99 : Int32) 180 then ((f_X9_within (Int32.toInt64 b1) (0 : Int64) (Int32.toInt64 ((σ.1 198 (Int32.toNatClampNeg (99 : Int32))) - (1 : Int32)))).bind fun x2 => ((if x2 = 0 then some (1 : Int32) else ((f_X9_within (Int32.toInt64 b2) (0 : Int64) (4 : Int64)).bind fun x4 => (if x4 = 0 then some (1 : Int32) else some (0 : Int32))) : Option Int32).bind fun z3 => (if ((gj_sI σ 188 (upd (σ.1 188) 0 z3)).1 188 0) = (1 : Int32) then some ((0 : Int32), (gj_sI σ 188 (upd (σ.1 188) 0 z3))) else (if gj_in (((100 : Int32) + ((5 : Int32) * b1)) + b2) 180 then some (((gj_sI σ 188 (upd (σ.1 188) 0 z3)).1 198 (Int32.toNatClampNeg (((100 : Int32) + ((5 : Int32) * b1)) + b2))), (gj_sI σ 188 (upd (σ.1 188) 0 z3))) else none)))) else none)
set_option maxHeartbeats 4000000 in
set_option maxRecDepth 100000 in
theorem m_X9_log {E : gj_E} {σ : gj_S} {b1 : Int32} {b2 : Int32}  {x : (Int32 × gj_S)} (hf : f_X9_log b1 b2 σ = some x) : gj_M E yX9_log cX9_log 3 (some .int) 1 25 [gj_r 188, gj_i b1, gj_i b2] σ (some (gj_i x.1)) x.2 := by
  refine gj_body (lv := [(0, gj_r 188), (1, gj_i b1), (2, gj_i b2)]) (by decide +kernel) (Nat.le_of_ble_eq_true rfl) rfl (fun X hO => ?_)
  replace hO : gj_O E X RX9 cX9_log 3 (some .int) 1 25 := hO
  unfold f_X9_log at hf
  refine gj_aload_n hO 0 dX9_log_0 rfl rfl ?_
  refine gj_iload_n hO 1 dX9_log_1 rfl rfl ?_
  refine gj_i2l hO dX9_log_2 ?_
  refine gj_lconst (v := 0) hO dX9_log_3 (by decide) ?_
  refine gj_aload_n hO 0 dX9_log_4 rfl rfl ?_
  refine gt_X9_21 hO wk_704 dX9_log_5 ?_
  refine gj_bipush (v := 99) hO dX9_log_8 (by decide) ?_
  obtain ⟨hb1, hf⟩ := gj_c hf
  refine gj_iald hO kl_198 kd_198 hb1 dX9_log_10 ?_
  refine gj_iconst (v := 1) hO dX9_log_11 (by decide) ?_
  refine gj_isub hO dX9_log_12 ?_
  refine gj_i2l hO dX9_log_13 ?_
  obtain ⟨x2, hc2, hf⟩ := gj_b hf
  refine ca_X9_within hO  hc2 wk_632 (by decide) (by decide) (Nat.le_of_ble_eq_true rfl) dX9_log_14 ?_
  obtain ⟨z3, hz3, hf⟩ := gj_b hf
  have J3 : gj_G E X 3 (some (gj_i x.1)) x.2 37 [(0, gj_r 188), (1, gj_i b1), (2, gj_i b2)] [gj_i z3, gj_r 188] σ := by
    refine pt_X9_0 hO wk_604 dX9_log_37 ?_
    refine gj_aload_n hO 0 dX9_log_40 rfl rfl ?_
    refine gt_X9_0 hO wk_604 dX9_log_41 ?_
    refine gj_iconst (v := 1) hO dX9_log_44 (by decide) ?_
    refine gj_icmp_ne (tgt := 52) hO dX9_log_45 (by decide) (fun h => ?_) (fun h => ?_)
    · replace hf := gj_f h hf
      refine gj_aload_n hO 0 dX9_log_52 rfl rfl ?_
      refine gt_X9_21 hO wk_704 dX9_log_53 ?_
      refine gj_bipush (v := 100) hO dX9_log_56 (by decide) ?_
      refine gj_iconst (v := 5) hO dX9_log_58 (by decide) ?_
      refine gj_iload_n hO 1 dX9_log_59 rfl rfl ?_
      refine gj_imul hO dX9_log_60 ?_
      refine gj_iadd hO dX9_log_61 ?_
      refine gj_iload_n hO 2 dX9_log_62 rfl rfl ?_
      refine gj_iadd hO dX9_log_63 ?_
      obtain ⟨hb5, hf⟩ := gj_c hf
      refine gj_iald hO kl_198 kd_198 hb5 dX9_log_64 ?_
      obtain rfl := Option.some.inj hf
      exact gj_iret hO dX9_log_65
    · replace hf := gj_t h hf
      refine gj_iconst (v := 0) hO dX9_log_48 (by decide) ?_
      refine gj_goto (tgt := 65) hO dX9_log_49 (by decide) ?_
      obtain rfl := Option.some.inj hf
      exact gj_iret hO dX9_log_65
  refine gj_if_eq (tgt := 36) hO dX9_log_17 (by decide) (fun h => ?_) (fun h => ?_)
  · replace hz3 := gj_t h hz3
    refine gj_iconst (v := 1) hO dX9_log_36 (by decide) ?_
    obtain rfl := Option.some.inj hz3
    refine gj_sub [0, 1, 2] rfl ?_
    exact J3
  · replace hz3 := gj_f h hz3
    refine gj_iload_n hO 2 dX9_log_20 rfl rfl ?_
    refine gj_i2l hO dX9_log_21 ?_
    refine gj_lconst (v := 0) hO dX9_log_22 (by decide) ?_
    refine gj_ldc2 hO wk_874 dX9_log_23 ?_
    obtain ⟨x4, hc4, hz3⟩ := gj_b hz3
    refine ca_X9_within hO  hc4 wk_632 (by decide) (by decide) (Nat.le_of_ble_eq_true rfl) dX9_log_26 ?_
    refine gj_if_eq (tgt := 36) hO dX9_log_29 (by decide) (fun h => ?_) (fun h => ?_)
    · replace hz3 := gj_t h hz3
      refine gj_iconst (v := 1) hO dX9_log_36 (by decide) ?_
      obtain rfl := Option.some.inj hz3
      refine gj_sub [0, 1, 2] rfl ?_
      exact J3
    · replace hz3 := gj_f h hz3
      refine gj_iconst (v := 0) hO dX9_log_32 (by decide) ?_
      refine gj_goto (tgt := 37) hO dX9_log_33 (by decide) ?_
      obtain rfl := Option.some.inj hz3
      refine gj_sub [0, 1, 2] rfl ?_
      exact J3
set_option maxHeartbeats 4000000 in
set_option maxRecDepth 100000 in
theorem ca_X9_log {E : gj_E} {X : gj_X} {own : String} {cc : ByteArray} {nL : Nat} {rt : Option FieldType} {fr lo : Nat} {r : Option gj_V} {τ : gj_S} {pc : Nat} {lv : List (Nat × gj_V)} {st : List gj_V} {σ : gj_S} (hO : gj_O E X own cc nL rt fr lo) {b1 : Int32} {b2 : Int32}  {idx : Nat} {x : (Int32 × gj_S)} (hf : f_X9_log b1 b2 σ = some x) (hl : Cond.methodLink own idx yX9_log ∈ gj_gw) (hf1 : 2 ≤ fr) (hf2 : 47 ≤ lo) (hcat : ((st.map (gj_tv E.2.1)).map fun v => v.category).sum ≤ 8) (hd : decode cc pc = .ok (.invokevirtual idx, 3)) (k : gj_G E X nL r τ (pc + 3) lv ((gj_i x.1) :: st) x.2) : gj_G E X nL r τ pc lv (gj_i b2 :: gj_i b1 :: gj_r 188 :: st) σ :=
  gj_callV hO (o := 188) (vs := [gj_i b1, gj_i b2]) (m_X9_log  hf) hl wk_875 wk_876 wk_607 wk_877 kl_188 kd_188 (by decide) (ci := 9) rfl (n := 2) (by decide +kernel) rfl hf1 hf2 rfl hcat hd k
def fb_X9_costNow_l4 (σ : gj_S) (a1 : (Int32 × Int32)) : Option (Int32 ⊕ (Int32 × Int32)) := (if gj_in (0 : Int32) 2 then (if (σ.1 191 (Int32.toNatClampNeg (0 : Int32))) ≤ a1.2 then some (.inl a1.1) else (if gj_in ((50 : Int32) + a1.2) 180 then (if gj_in ((8 : Int32) + a1.2) 180 then some (.inr ((a1.1 + ((σ.1 198 (Int32.toNatClampNeg ((50 : Int32) + a1.2))) * (σ.1 198 (Int32.toNatClampNeg ((8 : Int32) + a1.2))))), (a1.2 + 1))) else none) else none)) else none)
def f_X9_costNow  (σ : gj_S) : Option Int32 := ((gj_lp (fb_X9_costNow_l4 σ) 5000 ((0 : Int32), (0 : Int32))).bind fun z1 => some z1)
set_option maxHeartbeats 4000000 in
set_option maxRecDepth 100000 in
theorem sb_X9_costNow_l4 {E : gj_E} {X : gj_X} {r : Option gj_V} {τ : gj_S} (hO : gj_O E X RX9 cX9_costNow 3 (some .int) 0 0) {σ : gj_S} {a1 : (Int32 × Int32)} {x : Int32 ⊕ (Int32 × Int32)} (hf : fb_X9_costNow_l4 σ a1 = some x) (K : gj_K (fun z1 => gj_G E X 3 r τ 42 [(1, gj_i z1)] [] σ) (fun a1 => gj_G E X 3 r τ 4 [(0, gj_r 188), (1, gj_i a1.1), (2, gj_i a1.2)] [] σ) x) : gj_G E X 3 r τ 4 [(0, gj_r 188), (1, gj_i a1.1), (2, gj_i a1.2)] [] σ := by
  unfold fb_X9_costNow_l4 at hf
  refine gj_iload_n hO 2 dX9_costNow_4 rfl rfl ?_
  refine gj_aload_n hO 0 dX9_costNow_5 rfl rfl ?_
  refine gt_X9_12 hO wk_672 dX9_costNow_6 ?_
  refine gj_iconst (v := 0) hO dX9_costNow_9 (by decide) ?_
  obtain ⟨hb3, hf⟩ := gj_c hf
  refine gj_iald hO kl_191 kd_191 hb3 dX9_costNow_10 ?_
  refine gj_icmp_ge (tgt := 42) hO dX9_costNow_11 (by decide) (fun h => ?_) (fun h => ?_)
  · replace hf := gj_t h hf
    obtain rfl := Option.some.inj hf
    refine gj_sub [1] rfl ?_
    exact K
  · replace hf := gj_f h hf
    refine gj_iload_n hO 1 dX9_costNow_14 rfl rfl ?_
    refine gj_aload_n hO 0 dX9_costNow_15 rfl rfl ?_
    refine gt_X9_21 hO wk_704 dX9_costNow_16 ?_
    refine gj_bipush (v := 50) hO dX9_costNow_19 (by decide) ?_
    refine gj_iload_n hO 2 dX9_costNow_21 rfl rfl ?_
    refine gj_iadd hO dX9_costNow_22 ?_
    obtain ⟨hb4, hf⟩ := gj_c hf
    refine gj_iald hO kl_198 kd_198 hb4 dX9_costNow_23 ?_
    refine gj_aload_n hO 0 dX9_costNow_24 rfl rfl ?_
    refine gt_X9_21 hO wk_704 dX9_costNow_25 ?_
    refine gj_bipush (v := 8) hO dX9_costNow_28 (by decide) ?_
    refine gj_iload_n hO 2 dX9_costNow_30 rfl rfl ?_
    refine gj_iadd hO dX9_costNow_31 ?_
    obtain ⟨hb5, hf⟩ := gj_c hf
    refine gj_iald hO kl_198 kd_198 hb5 dX9_costNow_32 ?_
    refine gj_imul hO dX9_costNow_33 ?_
    refine gj_iadd hO dX9_costNow_34 ?_
    refine gj_istore_n (lv2 := [(1, gj_i (a1.1 + ((σ.1 198 (Int32.toNatClampNeg ((50 : Int32) + a1.2))) * (σ.1 198 (Int32.toNatClampNeg ((8 : Int32) + a1.2)))))), (0, gj_r 188), (2, gj_i a1.2)]) hO dX9_costNow_35 rfl (by decide) rfl ?_
    refine gj_iinc (v := (a1.2 + 1)) (lv2 := [(2, gj_i (a1.2 + 1)), (1, gj_i (a1.1 + ((σ.1 198 (Int32.toNatClampNeg ((50 : Int32) + a1.2))) * (σ.1 198 (Int32.toNatClampNeg ((8 : Int32) + a1.2)))))), (0, gj_r 188)]) hO 2 dX9_costNow_36 rfl rfl (by decide) rfl ?_
    refine gj_goto (tgt := 4) hO dX9_costNow_39 (by decide) ?_
    obtain rfl := Option.some.inj hf
    refine gj_sub [2, 1, 0] rfl ?_
    exact K
set_option maxHeartbeats 4000000 in
set_option maxRecDepth 100000 in
theorem m_X9_costNow {E : gj_E} {σ : gj_S}   {x : Int32} (hf : f_X9_costNow  σ = some x) : gj_M E yX9_costNow cX9_costNow 3 (some .int) 0 0 [gj_r 188] σ (some (gj_i x)) σ := by
  refine gj_body (lv := [(0, gj_r 188)]) (by decide +kernel) (Nat.le_of_ble_eq_true rfl) rfl (fun X hO => ?_)
  replace hO : gj_O E X RX9 cX9_costNow 3 (some .int) 0 0 := hO
  unfold f_X9_costNow at hf
  refine gj_iconst (v := 0) hO dX9_costNow_0 (by decide) ?_
  refine gj_istore_n (lv2 := [(1, gj_i (0 : Int32)), (0, gj_r 188)]) hO dX9_costNow_1 rfl (by decide) rfl ?_
  refine gj_iconst (v := 0) hO dX9_costNow_2 (by decide) ?_
  refine gj_istore_n (lv2 := [(2, gj_i (0 : Int32)), (1, gj_i (0 : Int32)), (0, gj_r 188)]) hO dX9_costNow_3 rfl (by decide) rfl ?_
  obtain ⟨z1, hz1, hf⟩ := gj_b hf
  have J1 : gj_G E X 3 (some (gj_i x)) σ 42 [(1, gj_i z1)] [] σ := by
    refine gj_iload_n hO 0 dX9_costNow_42 rfl rfl ?_
    obtain rfl := Option.some.inj hf
    exact gj_iret hO dX9_costNow_43
  refine gj_sub [2, 1, 0] rfl ?_
  exact gj_loop (head := fun a1 => gj_G E X 3 (some (gj_i x)) σ 4 [(0, gj_r 188), (1, gj_i a1.1), (2, gj_i a1.2)] [] σ) (exit := fun z1 => gj_G E X 3 (some (gj_i x)) σ 42 [(1, gj_i z1)] [] σ) (fun a1 x hf K => sb_X9_costNow_l4 hO hf K) _ _ _ hz1 J1
set_option maxHeartbeats 4000000 in
set_option maxRecDepth 100000 in
theorem ca_X9_costNow {E : gj_E} {X : gj_X} {own : String} {cc : ByteArray} {nL : Nat} {rt : Option FieldType} {fr lo : Nat} {r : Option gj_V} {τ : gj_S} {pc : Nat} {lv : List (Nat × gj_V)} {st : List gj_V} {σ : gj_S} (hO : gj_O E X own cc nL rt fr lo)   {idx : Nat} {x : Int32} (hf : f_X9_costNow  σ = some x) (hl : Cond.methodLink own idx yX9_costNow ∈ gj_gw) (hf1 : 1 ≤ fr) (hf2 : 22 ≤ lo) (hcat : ((st.map (gj_tv E.2.1)).map fun v => v.category).sum ≤ 8) (hd : decode cc pc = .ok (.invokevirtual idx, 3)) (k : gj_G E X nL r τ (pc + 3) lv ((gj_i x) :: st) σ) : gj_G E X nL r τ pc lv (gj_r 188 :: st) σ :=
  gj_callV hO (o := 188) (vs := []) (m_X9_costNow  hf) hl wk_878 wk_879 wk_607 wk_880 kl_188 kd_188 (by decide) (ci := 9) rfl (n := 0) (by decide +kernel) rfl hf1 hf2 rfl hcat hd k
