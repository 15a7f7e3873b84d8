def f_X9_is (b1 : Nat) (σ : gj_S) : Option Int32 := (if (σ.1 188 9) = 0 then (if (σ.1 188 6) = (1 : Int32) then ((f_X9_spelled b1).bind fun x1 => (if (lg_cmp (σ.2.1 188 8) x1) = 0 then some (1 : Int32) else some (0 : Int32))) else some (0 : Int32)) else some (0 : Int32))
set_option maxHeartbeats 4000000 in
set_option maxRecDepth 100000 in
theorem m_X9_is {E : gj_E} {σ : gj_S} {b1 : Nat}  {x : Int32} (hf : f_X9_is b1 σ = some x) : gj_M E yX9_is cX9_is 2 (some .boolean) 7 223 [gj_r 188, gj_r b1] σ (some (gj_i x)) σ := by
  refine gj_body (lv := [(0, gj_r 188), (1, gj_r b1)]) (by decide +kernel) (Nat.le_of_ble_eq_true rfl) rfl (fun X hO => ?_)
  replace hO : gj_O E X RX9 cX9_is 2 (some .boolean) 7 223 := hO
  unfold f_X9_is at hf
  refine gj_aload_n hO 0 dX9_is_0 rfl rfl ?_
  refine gt_X9_9 hO wk_639 dX9_is_1 ?_
  refine gj_if_ne (tgt := 31) hO dX9_is_4 (by decide) (fun h => ?_) (fun h => ?_)
  · replace hf := gj_f h hf
    refine gj_iconst (v := 0) hO dX9_is_31 (by decide) ?_
    obtain rfl := Option.some.inj hf
    exact gj_zret hO (Or.inl rfl) dX9_is_32
  · replace hf := gj_t h hf
    refine gj_aload_n hO 0 dX9_is_7 rfl rfl ?_
    refine gt_X9_6 hO wk_627 dX9_is_8 ?_
    refine gj_iconst (v := 1) hO dX9_is_11 (by decide) ?_
    refine gj_icmp_ne (tgt := 31) hO dX9_is_12 (by decide) (fun h => ?_) (fun h => ?_)
    · replace hf := gj_f h hf
      refine gj_iconst (v := 0) hO dX9_is_31 (by decide) ?_
      obtain rfl := Option.some.inj hf
      exact gj_zret hO (Or.inl rfl) dX9_is_32
    · replace hf := gj_t h hf
      refine gj_aload_n hO 0 dX9_is_15 rfl rfl ?_
      refine gt_X9_8 hO wk_629 dX9_is_16 ?_
      refine gj_aload_n hO 1 dX9_is_19 rfl rfl ?_
      obtain ⟨x1, hc1, hf⟩ := gj_b hf
      refine ca_X9_spelled hO  hc1 wk_644 (by decide) (by decide) (Nat.le_of_ble_eq_true rfl) dX9_is_20 ?_
      refine gj_lcmp hO dX9_is_23 ?_
      refine gj_if_ne (tgt := 31) hO dX9_is_24 (by decide) (fun h => ?_) (fun h => ?_)
      · replace hf := gj_f h hf
        refine gj_iconst (v := 0) hO dX9_is_31 (by decide) ?_
        obtain rfl := Option.some.inj hf
        exact gj_zret hO (Or.inl rfl) dX9_is_32
      · replace hf := gj_t h hf
        refine gj_iconst (v := 1) hO dX9_is_27 (by decide) ?_
        refine gj_goto (tgt := 32) hO dX9_is_28 (by decide) ?_
        obtain rfl := Option.some.inj hf
        exact gj_zret hO (Or.inr rfl) dX9_is_32
set_option maxHeartbeats 4000000 in
set_option maxRecDepth 100000 in
theorem ca_X9_is {E : gj_E} {X : gj_X} {own : String} {cc : ByteArray} {nL : Nat} {rt : Option FieldType} {fr lo : Nat} {r : Option gj_V} {τ : gj_S} {pc : Nat} {lv : List (Nat × gj_V)} {st : List gj_V} {σ : gj_S} (hO : gj_O E X own cc nL rt fr lo) {b1 : Nat}  {idx : Nat} {x : Int32} (hf : f_X9_is b1 σ = some x) (hl : Cond.methodLink own idx yX9_is ∈ gj_gw) (hf1 : 8 ≤ fr) (hf2 : 244 ≤ lo) (hcat : ((st.map (gj_tv E.2.1)).map fun v => v.category).sum ≤ 8) (hd : decode cc pc = .ok (.invokevirtual idx, 3)) (k : gj_G E X nL r τ (pc + 3) lv ((gj_i x) :: st) σ) : gj_G E X nL r τ pc lv (gj_r b1 :: gj_r 188 :: st) σ :=
  gj_callV hO (o := 188) (vs := [gj_r b1]) (m_X9_is  hf) hl wk_645 wk_646 wk_607 wk_647 kl_188 kd_188 (by decide) (ci := 9) rfl (n := 1) (by decide +kernel) rfl hf1 hf2 rfl hcat hd k
def f_X9_isOwn  (σ : gj_S) : Option Int32 := ((f_X9_is 1000 σ).bind fun x1 => (if x1 = 0 then ((f_X9_is 1001 σ).bind fun x2 => (if x2 = 0 then ((f_X9_is 1002 σ).bind fun x3 => (if x3 = 0 then ((f_X9_is 1003 σ).bind fun x4 => (if x4 = 0 then ((f_X9_is 1004 σ).bind fun x5 => (if x5 = 0 then ((f_X9_is 1005 σ).bind fun x6 => (if x6 = 0 then ((f_X9_is 1006 σ).bind fun x7 => (if x7 = 0 then some (0 : Int32) else some (1 : Int32))) else some (1 : Int32))) else some (1 : Int32))) else some (1 : Int32))) else some (1 : Int32))) else some (1 : Int32))) else some (1 : Int32)))
set_option maxHeartbeats 4000000 in
set_option maxRecDepth 100000 in
theorem m_X9_isOwn {E : gj_E} {σ : gj_S}   {x : Int32} (hf : f_X9_isOwn  σ = some x) : gj_M E yX9_isOwn cX9_isOwn 1 (some .boolean) 8 244 [gj_r 188] σ (some (gj_i x)) σ := by
  refine gj_body (lv := [(0, gj_r 188)]) (by decide +kernel) (Nat.le_of_ble_eq_true rfl) rfl (fun X hO => ?_)
  replace hO : gj_O E X RX9 cX9_isOwn 1 (some .boolean) 8 244 := hO
  unfold f_X9_isOwn at hf
  refine gj_aload_n hO 0 dX9_isOwn_0 rfl rfl ?_
  refine gj_ldcS_1000 hO sw_X9_150 dX9_isOwn_1 ?_
  obtain ⟨x1, hc1, hf⟩ := gj_b hf
  refine ca_X9_is hO  hc1 wk_648 (by decide) (by decide) (Nat.le_of_ble_eq_true rfl) dX9_isOwn_3 ?_
  refine gj_if_ne (tgt := 63) hO dX9_isOwn_6 (by decide) (fun h => ?_) (fun h => ?_)
  · replace hf := gj_f h hf
    refine gj_iconst (v := 1) hO dX9_isOwn_63 (by decide) ?_
    refine gj_goto (tgt := 68) hO dX9_isOwn_64 (by decide) ?_
    obtain rfl := Option.some.inj hf
    exact gj_zret hO (Or.inr rfl) dX9_isOwn_68
  · replace hf := gj_t h hf
    refine gj_aload_n hO 0 dX9_isOwn_9 rfl rfl ?_
    refine gj_ldcS_1001 hO sw_X9_156 dX9_isOwn_10 ?_
    obtain ⟨x2, hc2, hf⟩ := gj_b hf
    refine ca_X9_is hO  hc2 wk_648 (by decide) (by decide) (Nat.le_of_ble_eq_true rfl) dX9_isOwn_12 ?_
    refine gj_if_ne (tgt := 63) hO dX9_isOwn_15 (by decide) (fun h => ?_) (fun h => ?_)
    · replace hf := gj_f h hf
      refine gj_iconst (v := 1) hO dX9_isOwn_63 (by decide) ?_
      refine gj_goto (tgt := 68) hO dX9_isOwn_64 (by decide) ?_
      obtain rfl := Option.some.inj hf
      exact gj_zret hO (Or.inr rfl) dX9_isOwn_68
    · replace hf := gj_t h hf
      refine gj_aload_n hO 0 dX9_isOwn_18 rfl rfl ?_
      refine gj_ldcS_1002 hO sw_X9_157 dX9_isOwn_19 ?_
      obtain ⟨x3, hc3, hf⟩ := gj_b hf
      refine ca_X9_is hO  hc3 wk_648 (by decide) (by decide) (Nat.le_of_ble_eq_true rfl) dX9_isOwn_21 ?_
      refine gj_if_ne (tgt := 63) hO dX9_isOwn_24 (by decide) (fun h => ?_) (fun h => ?_)
      · replace hf := gj_f h hf
        refine gj_iconst (v := 1) hO dX9_isOwn_63 (by decide) ?_
        refine gj_goto (tgt := 68) hO dX9_isOwn_64 (by decide) ?_
        obtain rfl := Option.some.inj hf
        exact gj_zret hO (Or.inr rfl) dX9_isOwn_68
      · replace hf := gj_t h hf
        refine gj_aload_n hO 0 dX9_isOwn_27 rfl rfl ?_
        refine gj_ldcS_1003 hO sw_X9_159 dX9_isOwn_28 ?_
        obtain ⟨x4, hc4, hf⟩ := gj_b hf
        refine ca_X9_is hO  hc4 wk_648 (by decide) (by decide) (Nat.le_of_ble_eq_true rfl) dX9_isOwn_30 ?_
        refine gj_if_ne (tgt := 63) hO dX9_isOwn_33 (by decide) (fun h => ?_) (fun h => ?_)
        · replace hf := gj_f h hf
          refine gj_iconst (v := 1) hO dX9_isOwn_63 (by decide) ?_
          refine gj_goto (tgt := 68) hO dX9_isOwn_64 (by decide) ?_
          obtain rfl := Option.some.inj hf
          exact gj_zret hO (Or.inr rfl) dX9_isOwn_68
        · replace hf := gj_t h hf
          refine gj_aload_n hO 0 dX9_isOwn_36 rfl rfl ?_
          refine gj_ldcS_1004 hO sw_X9_161 dX9_isOwn_37 ?_
          obtain ⟨x5, hc5, hf⟩ := gj_b hf
          refine ca_X9_is hO  hc5 wk_648 (by decide) (by decide) (Nat.le_of_ble_eq_true rfl) dX9_isOwn_39 ?_
          refine gj_if_ne (tgt := 63) hO dX9_isOwn_42 (by decide) (fun h => ?_) (fun h => ?_)
          · replace hf := gj_f h hf
            refine gj_iconst (v := 1) hO dX9_isOwn_63 (by decide) ?_
            refine gj_goto (tgt := 68) hO dX9_isOwn_64 (by decide) ?_
            obtain rfl := Option.some.inj hf
            exact gj_zret hO (Or.inr rfl) dX9_isOwn_68
          · replace hf := gj_t h hf
            refine gj_aload_n hO 0 dX9_isOwn_45 rfl rfl ?_
            refine gj_ldcS_1005 hO sw_X9_162 dX9_isOwn_46 ?_
            obtain ⟨x6, hc6, hf⟩ := gj_b hf
            refine ca_X9_is hO  hc6 wk_648 (by decide) (by decide) (Nat.le_of_ble_eq_true rfl) dX9_isOwn_48 ?_
            refine gj_if_ne (tgt := 63) hO dX9_isOwn_51 (by decide) (fun h => ?_) (fun h => ?_)
            · replace hf := gj_f h hf
              refine gj_iconst (v := 1) hO dX9_isOwn_63 (by decide) ?_
              refine gj_goto (tgt := 68) hO dX9_isOwn_64 (by decide) ?_
              obtain rfl := Option.some.inj hf
              exact gj_zret hO (Or.inr rfl) dX9_isOwn_68
            · replace hf := gj_t h hf
              refine gj_aload_n hO 0 dX9_isOwn_54 rfl rfl ?_
              refine gj_ldcS_1006 hO sw_X9_163 dX9_isOwn_55 ?_
              obtain ⟨x7, hc7, hf⟩ := gj_b hf
              refine ca_X9_is hO  hc7 wk_648 (by decide) (by decide) (Nat.le_of_ble_eq_true rfl) dX9_isOwn_57 ?_
              refine gj_if_eq (tgt := 67) hO dX9_isOwn_60 (by decide) (fun h => ?_) (fun h => ?_)
              · replace hf := gj_t h hf
                refine gj_iconst (v := 0) hO dX9_isOwn_67 (by decide) ?_
                obtain rfl := Option.some.inj hf
                exact gj_zret hO (Or.inl rfl) dX9_isOwn_68
              · replace hf := gj_f h hf
                refine gj_iconst (v := 1) hO dX9_isOwn_63 (by decide) ?_
                refine gj_goto (tgt := 68) hO dX9_isOwn_64 (by decide) ?_
                obtain rfl := Option.some.inj hf
                exact gj_zret hO (Or.inr rfl) dX9_isOwn_68
set_option maxHeartbeats 4000000 in
set_option maxRecDepth 100000 in
theorem ca_X9_isOwn {E : gj_E} {X : gj_X} {own : String} {cc : ByteArray} {nL : Nat} {rt : Option FieldType} {fr lo : Nat} {r : Option gj_V} {τ : gj_S} {pc : Nat} {lv : List (Nat × gj_V)} {st : List gj_V} {σ : gj_S} (hO : gj_O E X own cc nL rt fr lo)   {idx : Nat} {x : Int32} (hf : f_X9_isOwn  σ = some x) (hl : Cond.methodLink own idx yX9_isOwn ∈ gj_gw) (hf1 : 9 ≤ fr) (hf2 : 264 ≤ lo) (hcat : ((st.map (gj_tv E.2.1)).map fun v => v.category).sum ≤ 8) (hd : decode cc pc = .ok (.invokevirtual idx, 3)) (k : gj_G E X nL r τ (pc + 3) lv ((gj_i x) :: st) σ) : gj_G E X nL r τ pc lv (gj_r 188 :: st) σ :=
  gj_callV hO (o := 188) (vs := []) (m_X9_isOwn  hf) hl wk_649 wk_650 wk_607 wk_651 kl_188 kd_188 (by decide) (ci := 9) rfl (n := 0) (by decide +kernel) rfl hf1 hf2 rfl hcat hd k
def f_X9_isName  (σ : gj_S) : Option Int32 := (if (σ.1 188 6) = (1 : Int32) then ((f_X9_isOwn σ).bind fun x1 => (if x1 = 0 then some (1 : Int32) else some (0 : Int32))) else some (0 : Int32))
set_option maxHeartbeats 4000000 in
set_option maxRecDepth 100000 in
theorem m_X9_isName {E : gj_E} {σ : gj_S}   {x : Int32} (hf : f_X9_isName  σ = some x) : gj_M E yX9_isName cX9_isName 1 (some .boolean) 9 264 [gj_r 188] σ (some (gj_i x)) σ := by
  refine gj_body (lv := [(0, gj_r 188)]) (by decide +kernel) (Nat.le_of_ble_eq_true rfl) rfl (fun X hO => ?_)
  replace hO : gj_O E X RX9 cX9_isName 1 (some .boolean) 9 264 := hO
  unfold f_X9_isName at hf
  refine gj_aload_n hO 0 dX9_isName_0 rfl rfl ?_
  refine gt_X9_6 hO wk_627 dX9_isName_1 ?_
  refine gj_iconst (v := 1) hO dX9_isName_4 (by decide) ?_
  refine gj_icmp_ne (tgt := 19) hO dX9_isName_5 (by decide) (fun h => ?_) (fun h => ?_)
  · replace hf := gj_f h hf
    refine gj_iconst (v := 0) hO dX9_isName_19 (by decide) ?_
    obtain rfl := Option.some.inj hf
    exact gj_zret hO (Or.inl rfl) dX9_isName_20
  · replace hf := gj_t h hf
    refine gj_aload_n hO 0 dX9_isName_8 rfl rfl ?_
    obtain ⟨x1, hc1, hf⟩ := gj_b hf
    refine ca_X9_isOwn hO  hc1 wk_652 (by decide) (by decide) (Nat.le_of_ble_eq_true rfl) dX9_isName_9 ?_
    refine gj_if_ne (tgt := 19) hO dX9_isName_12 (by decide) (fun h => ?_) (fun h => ?_)
    · replace hf := gj_f h hf
      refine gj_iconst (v := 0) hO dX9_isName_19 (by decide) ?_
      obtain rfl := Option.some.inj hf
      exact gj_zret hO (Or.inl rfl) dX9_isName_20
    · replace hf := gj_t h hf
      refine gj_iconst (v := 1) hO dX9_isName_15 (by decide) ?_
      refine gj_goto (tgt := 20) hO dX9_isName_16 (by decide) ?_
      obtain rfl := Option.some.inj hf
      exact gj_zret hO (Or.inr rfl) dX9_isName_20
set_option maxHeartbeats 4000000 in
set_option maxRecDepth 100000 in
theorem ca_X9_isName {E : gj_E} {X : gj_X} {own : String} {cc : ByteArray} {nL : Nat} {rt : Option FieldType} {fr lo : Nat} {r : Option gj_V} {τ : gj_S} {pc : Nat} {lv : List (Nat × gj_V)} {st : List gj_V} {σ : gj_S} (hO : gj_O E X own cc nL rt fr lo)   {idx : Nat} {x : Int32} (hf : f_X9_isName  σ = some x) (hl : Cond.methodLink own idx yX9_isName ∈ gj_gw) (hf1 : 10 ≤ fr) (hf2 : 284 ≤ lo) (hcat : ((st.map (gj_tv E.2.1)).map fun v => v.category).sum ≤ 8) (hd : decode cc pc = .ok (.invokevirtual idx, 3)) (k : gj_G E X nL r τ (pc + 3) lv ((gj_i x) :: st) σ) : gj_G E X nL r τ pc lv (gj_r 188 :: st) σ :=
  gj_callV hO (o := 188) (vs := []) (m_X9_isName  hf) hl wk_653 wk_654 wk_607 wk_655 kl_188 kd_188 (by decide) (ci := 9) rfl (n := 0) (by decide +kernel) rfl hf1 hf2 rfl hcat hd k
def f_X9_behind (b1 : Nat) (b2 : Int32) (b3 : Int32) (σ : gj_S) : Option (Int32 × gj_S) := ((f_X9_is b1 σ).bind fun x1 => ((f_X9_must x1 (1 : Int32) σ).bind fun x2 => (if x2.1 = 0 then ((f_X9_number b2 b3 x2.2).bind fun x3 => some (x3.1, x3.2)) else ((f_X9_goesOn x2.2).bind fun x4 => ((f_X9_number b2 b3 x4).bind fun x5 => some (x5.1, x5.2))))))
set_option maxHeartbeats 4000000 in
set_option maxRecDepth 100000 in
theorem m_X9_behind {E : gj_E} {σ : gj_S} {b1 : Nat} {b2 : Int32} {b3 : Int32}  {x : (Int32 × gj_S)} (hf : f_X9_behind b1 b2 b3 σ = some x) : gj_M E yX9_behind cX9_behind 4 (some .int) 8 244 [gj_r 188, gj_r b1, gj_i b2, gj_i b3] σ (some (gj_i x.1)) x.2 := by
  refine gj_body (lv := [(0, gj_r 188), (1, gj_r b1), (2, gj_i b2), (3, gj_i b3)]) (by decide +kernel) (Nat.le_of_ble_eq_true rfl) rfl (fun X hO => ?_)
  replace hO : gj_O E X RX9 cX9_behind 4 (some .int) 8 244 := hO
  unfold f_X9_behind at hf
  refine gj_aload_n hO 0 dX9_behind_0 rfl rfl ?_
  refine gj_aload_n hO 0 dX9_behind_1 rfl rfl ?_
  refine gj_aload_n hO 1 dX9_behind_2 rfl rfl ?_
  obtain ⟨x1, hc1, hf⟩ := gj_b hf
  refine ca_X9_is hO  hc1 wk_648 (by decide) (by decide) (Nat.le_of_ble_eq_true rfl) dX9_behind_3 ?_
  refine gj_iconst (v := 1) hO dX9_behind_6 (by decide) ?_
  obtain ⟨x2, hc2, hf⟩ := gj_b hf
  refine ca_X9_must hO  hc2 wk_656 (by decide) (by decide) (Nat.le_of_ble_eq_true rfl) dX9_behind_7 ?_
  refine gj_if_eq (tgt := 17) hO dX9_behind_10 (by decide) (fun h => ?_) (fun h => ?_)
  · replace hf := gj_t h hf
    refine gj_aload_n hO 0 dX9_behind_17 rfl rfl ?_
    refine gj_iload_n hO 2 dX9_behind_18 rfl rfl ?_
    refine gj_iload_n hO 3 dX9_behind_19 rfl rfl ?_
    obtain ⟨x3, hc3, hf⟩ := gj_b hf
    refine ca_X9_number hO  hc3 wk_661 (by decide) (by decide) (Nat.le_of_ble_eq_true rfl) dX9_behind_20 ?_
    obtain rfl := Option.some.inj hf
    exact gj_iret hO dX9_behind_23
  · replace hf := gj_f h hf
    refine gj_aload_n hO 0 dX9_behind_13 rfl rfl ?_
    obtain ⟨x4, hc4, hf⟩ := gj_b hf
    refine ca_X9_goesOn hO  hc4 wk_657 (by decide) (by decide) (Nat.le_of_ble_eq_true rfl) dX9_behind_14 ?_
    refine gj_aload_n hO 0 dX9_behind_17 rfl rfl ?_
    refine gj_iload_n hO 2 dX9_behind_18 rfl rfl ?_
    refine gj_iload_n hO 3 dX9_behind_19 rfl rfl ?_
    obtain ⟨x5, hc5, hf⟩ := gj_b hf
    refine ca_X9_number hO  hc5 wk_661 (by decide) (by decide) (Nat.le_of_ble_eq_true rfl) dX9_behind_20 ?_
    obtain rfl := Option.some.inj hf
    exact gj_iret hO dX9_behind_23
set_option maxHeartbeats 4000000 in
set_option maxRecDepth 100000 in
theorem ca_X9_behind {E : gj_E} {X : gj_X} {own : String} {cc : ByteArray} {nL : Nat} {rt : Option FieldType} {fr lo : Nat} {r : Option gj_V} {τ : gj_S} {pc : Nat} {lv : List (Nat × gj_V)} {st : List gj_V} {σ : gj_S} (hO : gj_O E X own cc nL rt fr lo) {b1 : Nat} {b2 : Int32} {b3 : Int32}  {idx : Nat} {x : (Int32 × gj_S)} (hf : f_X9_behind b1 b2 b3 σ = some x) (hl : Cond.methodLink own idx yX9_behind ∈ gj_gw) (hf1 : 9 ≤ fr) (hf2 : 267 ≤ lo) (hcat : ((st.map (gj_tv E.2.1)).map fun v => v.category).sum ≤ 8) (hd : decode cc pc = .ok (.invokevirtual idx, 3)) (k : gj_G E X nL r τ (pc + 3) lv ((gj_i x.1) :: st) x.2) : gj_G E X nL r τ pc lv (gj_i b3 :: gj_i b2 :: gj_r b1 :: gj_r 188 :: st) σ :=
  gj_callV hO (o := 188) (vs := [gj_r b1, gj_i b2, gj_i b3]) (m_X9_behind  hf) hl wk_662 wk_663 wk_607 wk_664 kl_188 kd_188 (by decide) (ci := 9) rfl (n := 3) (by decide +kernel) rfl hf1 hf2 rfl hcat hd k
def f_X9_newName (b1 : Int32) (σ : gj_S) : Option gj_S := ((f_X9_isName σ).bind fun x1 => ((f_X9_must x1 (1 : Int32) σ).bind fun x2 => (if x2.1 = 0 then some x2.2 else (if gj_in (1 : Int32) 2 then ((f_X9_findRead (0 : Int32) (x2.2.1 190 (Int32.toNatClampNeg (1 : Int32))) x2.2).bind fun x4 => ((if 0 ≤ x4 then some (0 : Int32) else (if gj_in (1 : Int32) 2 then ((f_X9_findRead (8 : Int32) (x2.2.1 191 (Int32.toNatClampNeg (1 : Int32))) x2.2).bind fun x7 => (if 0 ≤ x7 then some (0 : Int32) else some (1 : Int32))) else none) : Option Int32).bind fun z5 => ((f_X9_must z5 (2 : Int32) x2.2).bind fun x8 => (if x8.1 = 0 then some x8.2 else (if gj_in ((24 : Int32) + b1) 48 then ((f_X9_goesOn (gj_sJ x8.2 192 (vp_updL (x8.2.2.1 192) (Int32.toNatClampNeg ((24 : Int32) + b1)) (x8.2.2.1 188 8)))).bind fun x10 => some x10) else none))))) else none))))
set_option maxHeartbeats 4000000 in
set_option maxRecDepth 100000 in
theorem m_X9_newName {E : gj_E} {σ : gj_S} {b1 : Int32}  {x : gj_S} (hf : f_X9_newName b1 σ = some x) : gj_M E yX9_newName cX9_newName 2 none 10 284 [gj_r 188, gj_i b1] σ none x := by
  refine gj_body (lv := [(0, gj_r 188), (1, gj_i b1)]) (by decide +kernel) (Nat.le_of_ble_eq_true rfl) rfl (fun X hO => ?_)
  replace hO : gj_O E X RX9 cX9_newName 2 none 10 284 := hO
  unfold f_X9_newName at hf
  refine gj_aload_n hO 0 dX9_newName_0 rfl rfl ?_
  refine gj_aload_n hO 0 dX9_newName_1 rfl rfl ?_
  obtain ⟨x1, hc1, hf⟩ := gj_b hf
  refine ca_X9_isName hO  hc1 wk_669 (by decide) (by decide) (Nat.le_of_ble_eq_true rfl) dX9_newName_2 ?_
  refine gj_iconst (v := 1) hO dX9_newName_5 (by decide) ?_
  obtain ⟨x2, hc2, hf⟩ := gj_b hf
  refine ca_X9_must hO  hc2 wk_656 (by decide) (by decide) (Nat.le_of_ble_eq_true rfl) dX9_newName_6 ?_
  refine gj_if_eq (tgt := 54) hO dX9_newName_9 (by decide) (fun h => ?_) (fun h => ?_)
  · replace hf := gj_t h hf
    obtain rfl := Option.some.inj hf
    exact gj_vret hO dX9_newName_54
  · replace hf := gj_f h hf
    refine gj_aload_n hO 0 dX9_newName_12 rfl rfl ?_
    refine gj_aload_n hO 0 dX9_newName_13 rfl rfl ?_
    refine gj_iconst (v := 0) hO dX9_newName_14 (by decide) ?_
    refine gj_aload_n hO 0 dX9_newName_15 rfl rfl ?_
    refine gt_X9_11 hO wk_670 dX9_newName_16 ?_
    refine gj_iconst (v := 1) hO dX9_newName_19 (by decide) ?_
    obtain ⟨hb3, hf⟩ := gj_c hf
    refine gj_iald hO kl_190 kd_190 hb3 dX9_newName_20 ?_
    obtain ⟨x4, hc4, hf⟩ := gj_b hf
    refine ca_X9_findRead hO  hc4 wk_671 (by decide) (by decide) (Nat.le_of_ble_eq_true rfl) dX9_newName_21 ?_
    obtain ⟨z5, hz5, hf⟩ := gj_b hf
    have J5 : gj_G E X 2 none x 47 [(0, gj_r 188), (1, gj_i b1)] [gj_i z5, gj_r 188] x2.2 := by
      refine gj_iconst (v := 2) hO dX9_newName_47 (by decide) ?_
      obtain ⟨x8, hc8, hf⟩ := gj_b hf
      refine ca_X9_must hO  hc8 wk_656 (by decide) (by decide) (Nat.le_of_ble_eq_true rfl) dX9_newName_48 ?_
      refine gj_if_ne (tgt := 55) hO dX9_newName_51 (by decide) (fun h => ?_) (fun h => ?_)
      · replace hf := gj_f h hf
        refine gj_aload_n hO 0 dX9_newName_55 rfl rfl ?_
        refine gt_X9_13 hO wk_665 dX9_newName_56 ?_
        refine gj_bipush (v := 24) hO dX9_newName_59 (by decide) ?_
        refine gj_iload_n hO 1 dX9_newName_61 rfl rfl ?_
        refine gj_iadd hO dX9_newName_62 ?_
        refine gj_aload_n hO 0 dX9_newName_63 rfl rfl ?_
        refine gt_X9_8 hO wk_629 dX9_newName_64 ?_
        obtain ⟨hb9, hf⟩ := gj_c hf
        refine gj_last hO kl_192 kd_192 hb9 dX9_newName_67 ?_
        refine gj_aload_n hO 0 dX9_newName_68 rfl rfl ?_
        obtain ⟨x10, hc10, hf⟩ := gj_b hf
        refine ca_X9_goesOn hO  hc10 wk_657 (by decide) (by decide) (Nat.le_of_ble_eq_true rfl) dX9_newName_69 ?_
        obtain rfl := Option.some.inj hf
        exact gj_vret hO dX9_newName_72
      · replace hf := gj_t h hf
        obtain rfl := Option.some.inj hf
        exact gj_vret hO dX9_newName_54
    refine gj_if_ge (tgt := 46) hO dX9_newName_24 (by decide) (fun h => ?_) (fun h => ?_)
    · replace hz5 := gj_t h hz5
      refine gj_iconst (v := 0) hO dX9_newName_46 (by decide) ?_
      obtain rfl := Option.some.inj hz5
      refine gj_sub [0, 1] rfl ?_
      exact J5
    · replace hz5 := gj_f h hz5
      refine gj_aload_n hO 0 dX9_newName_27 rfl rfl ?_
      refine gj_bipush (v := 8) hO dX9_newName_28 (by decide) ?_
      refine gj_aload_n hO 0 dX9_newName_30 rfl rfl ?_
      refine gt_X9_12 hO wk_672 dX9_newName_31 ?_
      refine gj_iconst (v := 1) hO dX9_newName_34 (by decide) ?_
      obtain ⟨hb6, hz5⟩ := gj_c hz5
      refine gj_iald hO kl_191 kd_191 hb6 dX9_newName_35 ?_
      obtain ⟨x7, hc7, hz5⟩ := gj_b hz5
      refine ca_X9_findRead hO  hc7 wk_671 (by decide) (by decide) (Nat.le_of_ble_eq_true rfl) dX9_newName_36 ?_
      refine gj_if_ge (tgt := 46) hO dX9_newName_39 (by decide) (fun h => ?_) (fun h => ?_)
      · replace hz5 := gj_t h hz5
        refine gj_iconst (v := 0) hO dX9_newName_46 (by decide) ?_
        obtain rfl := Option.some.inj hz5
        refine gj_sub [0, 1] rfl ?_
        exact J5
      · replace hz5 := gj_f h hz5
        refine gj_iconst (v := 1) hO dX9_newName_42 (by decide) ?_
        refine gj_goto (tgt := 47) hO dX9_newName_43 (by decide) ?_
        obtain rfl := Option.some.inj hz5
        refine gj_sub [0, 1] rfl ?_
        exact J5
set_option maxHeartbeats 4000000 in
set_option maxRecDepth 100000 in
theorem ca_X9_newName {E : gj_E} {X : gj_X} {own : String} {cc : ByteArray} {nL : Nat} {rt : Option FieldType} {fr lo : Nat} {r : Option gj_V} {τ : gj_S} {pc : Nat} {lv : List (Nat × gj_V)} {st : List gj_V} {σ : gj_S} (hO : gj_O E X own cc nL rt fr lo) {b1 : Int32}  {idx : Nat} {x : gj_S} (hf : f_X9_newName b1 σ = some x) (hl : Cond.methodLink own idx yX9_newName ∈ gj_gw) (hf1 : 11 ≤ fr) (hf2 : 305 ≤ lo) (hcat : ((st.map (gj_tv E.2.1)).map fun v => v.category).sum ≤ 8) (hd : decode cc pc = .ok (.invokevirtual idx, 3)) (k : gj_G E X nL r τ (pc + 3) lv (st) x) : gj_G E X nL r τ pc lv (gj_i b1 :: gj_r 188 :: st) σ :=
  gj_callV hO (o := 188) (vs := [gj_i b1]) (m_X9_newName  hf) hl wk_673 wk_674 wk_607 wk_675 kl_188 kd_188 (by decide) (ci := 9) rfl (n := 1) (by decide +kernel) rfl hf1 hf2 rfl hcat hd k
def f_X9_readDock (b1 : Int32) (σ : gj_S) : Option (Int32 × gj_S) := ((f_X9_isName σ).bind fun x1 => ((f_X9_must x1 (1 : Int32) σ).bind fun x2 => (if x2.1 = 0 then some ((0 : Int32), x2.2) else (if gj_in (1 : Int32) 2 then ((f_X9_findRead (0 : Int32) (x2.2.1 190 (Int32.toNatClampNeg (1 : Int32))) x2.2).bind fun x4 => ((if x4 < 0 then some (0 : Int32) else (if x4 = b1 then some (0 : Int32) else some (1 : Int32)) : Option Int32).bind fun z5 => ((f_X9_must z5 (4 : Int32) x2.2).bind fun x6 => (if x6.1 = 0 then some ((0 : Int32), x6.2) else ((f_X9_goesOn x6.2).bind fun x7 => some (x4, x7)))))) else none))))
set_option maxHeartbeats 4000000 in
set_option maxRecDepth 100000 in
theorem m_X9_readDock {E : gj_E} {σ : gj_S} {b1 : Int32}  {x : (Int32 × gj_S)} (hf : f_X9_readDock b1 σ = some x) : gj_M E yX9_readDock cX9_readDock 3 (some .int) 10 284 [gj_r 188, gj_i b1] σ (some (gj_i x.1)) x.2 := by
  refine gj_body (lv := [(0, gj_r 188), (1, gj_i b1)]) (by decide +kernel) (Nat.le_of_ble_eq_true rfl) rfl (fun X hO => ?_)
  replace hO : gj_O E X RX9 cX9_readDock 3 (some .int) 10 284 := hO
  unfold f_X9_readDock at hf
  refine gj_aload_n hO 0 dX9_readDock_0 rfl rfl ?_
  refine gj_aload_n hO 0 dX9_readDock_1 rfl rfl ?_
  obtain ⟨x1, hc1, hf⟩ := gj_b hf
  refine ca_X9_isName hO  hc1 wk_669 (by decide) (by decide) (Nat.le_of_ble_eq_true rfl) dX9_readDock_2 ?_
  refine gj_iconst (v := 1) hO dX9_readDock_5 (by decide) ?_
  obtain ⟨x2, hc2, hf⟩ := gj_b hf
  refine ca_X9_must hO  hc2 wk_656 (by decide) (by decide) (Nat.le_of_ble_eq_true rfl) dX9_readDock_6 ?_
  refine gj_if_ne (tgt := 14) hO dX9_readDock_9 (by decide) (fun h => ?_) (fun h => ?_)
  · replace hf := gj_f h hf
    refine gj_aload_n hO 0 dX9_readDock_14 rfl rfl ?_
    refine gj_iconst (v := 0) hO dX9_readDock_15 (by decide) ?_
    refine gj_aload_n hO 0 dX9_readDock_16 rfl rfl ?_
    refine gt_X9_11 hO wk_670 dX9_readDock_17 ?_
    refine gj_iconst (v := 1) hO dX9_readDock_20 (by decide) ?_
    obtain ⟨hb3, hf⟩ := gj_c hf
    refine gj_iald hO kl_190 kd_190 hb3 dX9_readDock_21 ?_
    obtain ⟨x4, hc4, hf⟩ := gj_b hf
    refine ca_X9_findRead hO  hc4 wk_671 (by decide) (by decide) (Nat.le_of_ble_eq_true rfl) dX9_readDock_22 ?_
    refine gj_istore_n (lv2 := [(2, gj_i x4), (0, gj_r 188), (1, gj_i b1)]) hO dX9_readDock_25 rfl (by decide) rfl ?_
    refine gj_aload_n hO 1 dX9_readDock_26 rfl rfl ?_
    refine gj_iload_n hO 0 dX9_readDock_27 rfl rfl ?_
    obtain ⟨z5, hz5, hf⟩ := gj_b hf
    have J5 : gj_G E X 3 (some (gj_i x.1)) x.2 41 [(0, gj_r 188), (2, gj_i x4)] [gj_i z5, gj_r 188] x2.2 := by
      refine gj_iconst (v := 4) hO dX9_readDock_41 (by decide) ?_
      obtain ⟨x6, hc6, hf⟩ := gj_b hf
      refine ca_X9_must hO  hc6 wk_656 (by decide) (by decide) (Nat.le_of_ble_eq_true rfl) dX9_readDock_42 ?_
      refine gj_if_ne (tgt := 50) hO dX9_readDock_45 (by decide) (fun h => ?_) (fun h => ?_)
      · replace hf := gj_f h hf
        refine gj_aload_n hO 0 dX9_readDock_50 rfl rfl ?_
        obtain ⟨x7, hc7, hf⟩ := gj_b hf
        refine ca_X9_goesOn hO  hc7 wk_657 (by decide) (by decide) (Nat.le_of_ble_eq_true rfl) dX9_readDock_51 ?_
        refine gj_iload_n hO 1 dX9_readDock_54 rfl rfl ?_
        obtain rfl := Option.some.inj hf
        exact gj_iret hO dX9_readDock_55
      · replace hf := gj_t h hf
        refine gj_iconst (v := 0) hO dX9_readDock_48 (by decide) ?_
        obtain rfl := Option.some.inj hf
        exact gj_iret hO dX9_readDock_49
    refine gj_if_lt (tgt := 40) hO dX9_readDock_28 (by decide) (fun h => ?_) (fun h => ?_)
    · replace hz5 := gj_t h hz5
      refine gj_iconst (v := 0) hO dX9_readDock_40 (by decide) ?_
      obtain rfl := Option.some.inj hz5
      refine gj_sub [1, 0] rfl ?_
      exact J5
    · replace hz5 := gj_f h hz5
      refine gj_iload_n hO 0 dX9_readDock_31 rfl rfl ?_
      refine gj_iload_n hO 2 dX9_readDock_32 rfl rfl ?_
      refine gj_icmp_eq (tgt := 40) hO dX9_readDock_33 (by decide) (fun h => ?_) (fun h => ?_)
      · replace hz5 := gj_t h hz5
        refine gj_iconst (v := 0) hO dX9_readDock_40 (by decide) ?_
        obtain rfl := Option.some.inj hz5
        refine gj_sub [1, 0] rfl ?_
        exact J5
      · replace hz5 := gj_f h hz5
        refine gj_iconst (v := 1) hO dX9_readDock_36 (by decide) ?_
        refine gj_goto (tgt := 41) hO dX9_readDock_37 (by decide) ?_
        obtain rfl := Option.some.inj hz5
        refine gj_sub [1, 0] rfl ?_
        exact J5
  · replace hf := gj_t h hf
    refine gj_iconst (v := 0) hO dX9_readDock_12 (by decide) ?_
    obtain rfl := Option.some.inj hf
    exact gj_iret hO dX9_readDock_13
set_option maxHeartbeats 4000000 in
set_option maxRecDepth 100000 in
theorem ca_X9_readDock {E : gj_E} {X : gj_X} {own : String} {cc : ByteArray} {nL : Nat} {rt : Option FieldType} {fr lo : Nat} {r : Option gj_V} {τ : gj_S} {pc : Nat} {lv : List (Nat × gj_V)} {st : List gj_V} {σ : gj_S} (hO : gj_O E X own cc nL rt fr lo) {b1 : Int32}  {idx : Nat} {x : (Int32 × gj_S)} (hf : f_X9_readDock b1 σ = some x) (hl : Cond.methodLink own idx yX9_readDock ∈ gj_gw) (hf1 : 11 ≤ fr) (hf2 : 306 ≤ lo) (hcat : ((st.map (gj_tv E.2.1)).map fun v => v.category).sum ≤ 8) (hd : decode cc pc = .ok (.invokevirtual idx, 3)) (k : gj_G E X nL r τ (pc + 3) lv ((gj_i x.1) :: st) x.2) : gj_G E X nL r τ pc lv (gj_i b1 :: gj_r 188 :: st) σ :=
  gj_callV hO (o := 188) (vs := [gj_i b1]) (m_X9_readDock  hf) hl wk_676 wk_677 wk_607 wk_678 kl_188 kd_188 (by decide) (ci := 9) rfl (n := 1) (by decide +kernel) rfl hf1 hf2 rfl hcat hd k
def f_X9_dockLine  (σ : gj_S) : Option gj_S := (if gj_in (1 : Int32) 2 then ((if (8 : Int32) ≤ (σ.1 190 (Int32.toNatClampNeg (1 : Int32))) then some (0 : Int32) else some (1 : Int32) : Option Int32).bind fun z2 => ((f_X9_must z2 (5 : Int32) σ).bind fun x3 => (if x3.1 = 0 then some x3.2 else ((f_X9_goesOn x3.2).bind fun x4 => (if gj_in (1 : Int32) 2 then ((f_X9_newName (x4.1 190 (Int32.toNatClampNeg (1 : Int32))) x4).bind fun x6 => ((f_X9_is 1001 x6).bind fun x7 => ((if x7 = 0 then ((f_X9_is 1002 x6).bind fun x9 => (if x9 = 0 then some ((0 : Int32), x6) else ((f_X9_behind 1002 (0 : Int32) (999 : Int32) x6).bind fun x10 => some ((0 - x10.1), x10.2)))) else ((f_X9_behind 1001 (0 : Int32) (999 : Int32) x6).bind fun x11 => some (x11.1, x11.2)) : Option (Int32 × gj_S)).bind fun z8 => (if (z8.2.1 188 9) = 0 then (if gj_in (1 : Int32) 2 then (if gj_in ((8 : Int32) + (z8.2.1 190 (Int32.toNatClampNeg (1 : Int32)))) 16 then (if gj_in (1 : Int32) 2 then (if gj_in (1 : Int32) 2 then ((some (gj_sI (gj_sI z8.2 193 (upd (z8.2.1 193) (Int32.toNatClampNeg ((8 : Int32) + (z8.2.1 190 (Int32.toNatClampNeg (1 : Int32))))) z8.1)) 190 (upd ((gj_sI z8.2 193 (upd (z8.2.1 193) (Int32.toNatClampNeg ((8 : Int32) + (z8.2.1 190 (Int32.toNatClampNeg (1 : Int32))))) z8.1)).1 190) (Int32.toNatClampNeg (1 : Int32)) (((gj_sI z8.2 193 (upd (z8.2.1 193) (Int32.toNatClampNeg ((8 : Int32) + (z8.2.1 190 (Int32.toNatClampNeg (1 : Int32))))) z8.1)).1 190 (Int32.toNatClampNeg (1 : Int32))) + (1 : Int32))))).bind fun s16 => some s16) else none) else none) else none) else none) else some z8.2)))) else none))))) else none)
set_option maxHeartbeats 4000000 in
set_option maxRecDepth 100000 in
theorem m_X9_dockLine {E : gj_E} {σ : gj_S}   {x : gj_S} (hf : f_X9_dockLine  σ = some x) : gj_M E yX9_dockLine cX9_dockLine 2 none 11 305 [gj_r 188] σ none x := by
  refine gj_body (lv := [(0, gj_r 188)]) (by decide +kernel) (Nat.le_of_ble_eq_true rfl) rfl (fun X hO => ?_)
  replace hO : gj_O E X RX9 cX9_dockLine 2 none 11 305 := hO
  unfold f_X9_dockLine at hf
  refine gj_aload_n hO 0 dX9_dockLine_0 rfl rfl ?_
  refine gj_aload_n hO 0 dX9_dockLine_1 rfl rfl ?_
  refine gt_X9_11 hO wk_670 dX9_dockLine_2 ?_
  refine gj_iconst (v := 1) hO dX9_dockLine_5 (by decide) ?_
  obtain ⟨hb1, hf⟩ := gj_c hf
  refine gj_iald hO kl_190 kd_190 hb1 dX9_dockLine_6 ?_
  refine gj_bipush (v := 8) hO dX9_dockLine_7 (by decide) ?_
  obtain ⟨z2, hz2, hf⟩ := gj_b hf
  have J2 : gj_G E X 2 none x 17 [(0, gj_r 188)] [gj_i z2, gj_r 188] σ := by
    refine gj_iconst (v := 5) hO dX9_dockLine_17 (by decide) ?_
    obtain ⟨x3, hc3, hf⟩ := gj_b hf
    refine ca_X9_must hO  hc3 wk_656 (by decide) (by decide) (Nat.le_of_ble_eq_true rfl) dX9_dockLine_18 ?_
    refine gj_if_ne (tgt := 25) hO dX9_dockLine_21 (by decide) (fun h => ?_) (fun h => ?_)
    · replace hf := gj_f h hf
      refine gj_aload_n hO 0 dX9_dockLine_25 rfl rfl ?_
      obtain ⟨x4, hc4, hf⟩ := gj_b hf
      refine ca_X9_goesOn hO  hc4 wk_657 (by decide) (by decide) (Nat.le_of_ble_eq_true rfl) dX9_dockLine_26 ?_
      refine gj_aload_n hO 0 dX9_dockLine_29 rfl rfl ?_
      refine gj_aload_n hO 0 dX9_dockLine_30 rfl rfl ?_
      refine gt_X9_11 hO wk_670 dX9_dockLine_31 ?_
      refine gj_iconst (v := 1) hO dX9_dockLine_34 (by decide) ?_
      obtain ⟨hb5, hf⟩ := gj_c hf
      refine gj_iald hO kl_190 kd_190 hb5 dX9_dockLine_35 ?_
      obtain ⟨x6, hc6, hf⟩ := gj_b hf
      refine ca_X9_newName hO  hc6 wk_679 (by decide) (by decide) (Nat.le_of_ble_eq_true rfl) dX9_dockLine_36 ?_
      refine gj_iconst (v := 0) hO dX9_dockLine_39 (by decide) ?_
      refine gj_istore_n (lv2 := [(1, gj_i (0 : Int32)), (0, gj_r 188)]) hO dX9_dockLine_40 rfl (by decide) rfl ?_
      refine gj_aload_n hO 1 dX9_dockLine_41 rfl rfl ?_
      refine gj_ldcS_1001 hO sw_X9_156 dX9_dockLine_42 ?_
      obtain ⟨x7, hc7, hf⟩ := gj_b hf
      refine ca_X9_is hO  hc7 wk_648 (by decide) (by decide) (Nat.le_of_ble_eq_true rfl) dX9_dockLine_44 ?_
      obtain ⟨z8, hz8, hf⟩ := gj_b hf
      have J8 : gj_G E X 2 none x 85 [(0, gj_r 188), (1, gj_i z8.1)] [] z8.2 := by
        refine gj_aload_n hO 0 dX9_dockLine_85 rfl rfl ?_
        refine gt_X9_9 hO wk_639 dX9_dockLine_86 ?_
        refine gj_if_eq (tgt := 93) hO dX9_dockLine_89 (by decide) (fun h => ?_) (fun h => ?_)
        · replace hf := gj_t h hf
          refine gj_aload_n hO 0 dX9_dockLine_93 rfl rfl ?_
          refine gt_X9_14 hO wk_681 dX9_dockLine_94 ?_
          refine gj_bipush (v := 8) hO dX9_dockLine_97 (by decide) ?_
          refine gj_aload_n hO 0 dX9_dockLine_99 rfl rfl ?_
          refine gt_X9_11 hO wk_670 dX9_dockLine_100 ?_
          refine gj_iconst (v := 1) hO dX9_dockLine_103 (by decide) ?_
          obtain ⟨hb12, hf⟩ := gj_c hf
          refine gj_iald hO kl_190 kd_190 hb12 dX9_dockLine_104 ?_
          refine gj_iadd hO dX9_dockLine_105 ?_
          refine gj_iload_n hO 1 dX9_dockLine_106 rfl rfl ?_
          obtain ⟨hb13, hf⟩ := gj_c hf
          refine gj_iast hO kl_193 kd_193 hb13 dX9_dockLine_107 ?_
          refine gj_aload_n hO 0 dX9_dockLine_108 rfl rfl ?_
          refine gt_X9_11 hO wk_670 dX9_dockLine_109 ?_
          refine gj_iconst (v := 1) hO dX9_dockLine_112 (by decide) ?_
          refine gj_dup2 hO dX9_dockLine_113 trivial trivial ?_
          obtain ⟨hb14, hf⟩ := gj_c hf
          refine gj_iald hO kl_190 kd_190 hb14 dX9_dockLine_114 ?_
          refine gj_iconst (v := 1) hO dX9_dockLine_115 (by decide) ?_
          refine gj_iadd hO dX9_dockLine_116 ?_
          obtain ⟨hb15, hf⟩ := gj_c hf
          refine gj_iast hO kl_190 kd_190 hb15 dX9_dockLine_117 ?_
          obtain ⟨s16, e16, hf⟩ := gj_b hf
          refine gj_eqS (Option.some.inj e16) ?_
          obtain rfl := Option.some.inj hf
          exact gj_vret hO dX9_dockLine_118
        · replace hf := gj_f h hf
          obtain rfl := Option.some.inj hf
          exact gj_vret hO dX9_dockLine_92
      refine gj_if_eq (tgt := 64) hO dX9_dockLine_47 (by decide) (fun h => ?_) (fun h => ?_)
      · replace hz8 := gj_t h hz8
        refine gj_aload_n hO 1 dX9_dockLine_64 rfl rfl ?_
        refine gj_ldcS_1002 hO sw_X9_157 dX9_dockLine_65 ?_
        obtain ⟨x9, hc9, hz8⟩ := gj_b hz8
        refine ca_X9_is hO  hc9 wk_648 (by decide) (by decide) (Nat.le_of_ble_eq_true rfl) dX9_dockLine_67 ?_
        refine gj_if_eq (tgt := 85) hO dX9_dockLine_70 (by decide) (fun h => ?_) (fun h => ?_)
        · replace hz8 := gj_t h hz8
          obtain rfl := Option.some.inj hz8
          refine gj_sub [1, 0] rfl ?_
          exact J8
        · replace hz8 := gj_f h hz8
          refine gj_aload_n hO 1 dX9_dockLine_73 rfl rfl ?_
          refine gj_ldcS_1002 hO sw_X9_157 dX9_dockLine_74 ?_
          refine gj_iconst (v := 0) hO dX9_dockLine_76 (by decide) ?_
          refine gj_sipush (v := 999) hO dX9_dockLine_77 (by decide) ?_
          obtain ⟨x10, hc10, hz8⟩ := gj_b hz8
          refine ca_X9_behind hO  hc10 wk_680 (by decide) (by decide) (Nat.le_of_ble_eq_true rfl) dX9_dockLine_80 ?_
          refine gj_ineg hO dX9_dockLine_83 ?_
          refine gj_istore_n (lv2 := [(1, gj_i (0 - x10.1)), (0, gj_r 188)]) hO dX9_dockLine_84 rfl (by decide) rfl ?_
          obtain rfl := Option.some.inj hz8
          refine gj_sub [1, 0] rfl ?_
          exact J8
      · replace hz8 := gj_f h hz8
        refine gj_aload_n hO 1 dX9_dockLine_50 rfl rfl ?_
        refine gj_ldcS_1001 hO sw_X9_156 dX9_dockLine_51 ?_
        refine gj_iconst (v := 0) hO dX9_dockLine_53 (by decide) ?_
        refine gj_sipush (v := 999) hO dX9_dockLine_54 (by decide) ?_
        obtain ⟨x11, hc11, hz8⟩ := gj_b hz8
        refine ca_X9_behind hO  hc11 wk_680 (by decide) (by decide) (Nat.le_of_ble_eq_true rfl) dX9_dockLine_57 ?_
        refine gj_istore_n (lv2 := [(1, gj_i x11.1), (0, gj_r 188)]) hO dX9_dockLine_60 rfl (by decide) rfl ?_
        refine gj_goto (tgt := 85) hO dX9_dockLine_61 (by decide) ?_
        obtain rfl := Option.some.inj hz8
        refine gj_sub [1, 0] rfl ?_
        exact J8
    · replace hf := gj_t h hf
      obtain rfl := Option.some.inj hf
      exact gj_vret hO dX9_dockLine_24
  refine gj_icmp_ge (tgt := 16) hO dX9_dockLine_9 (by decide) (fun h => ?_) (fun h => ?_)
  · replace hz2 := gj_t h hz2
    refine gj_iconst (v := 0) hO dX9_dockLine_16 (by decide) ?_
    obtain rfl := Option.some.inj hz2
    refine gj_sub [0] rfl ?_
    exact J2
  · replace hz2 := gj_f h hz2
    refine gj_iconst (v := 1) hO dX9_dockLine_12 (by decide) ?_
    refine gj_goto (tgt := 17) hO dX9_dockLine_13 (by decide) ?_
    obtain rfl := Option.some.inj hz2
    refine gj_sub [0] rfl ?_
    exact J2
set_option maxHeartbeats 4000000 in
set_option maxRecDepth 100000 in
theorem ca_X9_dockLine {E : gj_E} {X : gj_X} {own : String} {cc : ByteArray} {nL : Nat} {rt : Option FieldType} {fr lo : Nat} {r : Option gj_V} {τ : gj_S} {pc : Nat} {lv : List (Nat × gj_V)} {st : List gj_V} {σ : gj_S} (hO : gj_O E X own cc nL rt fr lo)   {idx : Nat} {x : gj_S} (hf : f_X9_dockLine  σ = some x) (hl : Cond.methodLink own idx yX9_dockLine ∈ gj_gw) (hf1 : 12 ≤ fr) (hf2 : 326 ≤ lo) (hcat : ((st.map (gj_tv E.2.1)).map fun v => v.category).sum ≤ 8) (hd : decode cc pc = .ok (.invokevirtual idx, 3)) (k : gj_G E X nL r τ (pc + 3) lv (st) x) : gj_G E X nL r τ pc lv (gj_r 188 :: st) σ :=
  gj_callV hO (o := 188) (vs := []) (m_X9_dockLine  hf) hl wk_682 wk_683 wk_607 wk_684 kl_188 kd_188 (by decide) (ci := 9) rfl (n := 0) (by decide +kernel) rfl hf1 hf2 rfl hcat hd k
def f_X9_routeLine  (σ : gj_S) : Option gj_S := (if gj_in (1 : Int32) 2 then ((if (16 : Int32) ≤ (σ.1 191 (Int32.toNatClampNeg (1 : Int32))) then some (0 : Int32) else some (1 : Int32) : Option Int32).bind fun z2 => ((f_X9_must z2 (5 : Int32) σ).bind fun x3 => (if x3.1 = 0 then some x3.2 else ((f_X9_goesOn x3.2).bind fun x4 => (if gj_in (1 : Int32) 2 then ((f_X9_newName ((8 : Int32) + (x4.1 191 (Int32.toNatClampNeg (1 : Int32)))) x4).bind fun x6 => (if gj_in (1 : Int32) 2 then ((f_X9_readDock (-1 : Int32) x6).bind fun x8 => (if gj_in ((16 : Int32) + (x6.1 191 (Int32.toNatClampNeg (1 : Int32)))) 32 then (if gj_in ((16 : Int32) + (x6.1 191 (Int32.toNatClampNeg (1 : Int32)))) 32 then ((f_X9_readDock ((gj_sI x8.2 194 (upd (x8.2.1 194) (Int32.toNatClampNeg ((16 : Int32) + (x6.1 191 (Int32.toNatClampNeg (1 : Int32))))) x8.1)).1 194 (Int32.toNatClampNeg ((16 : Int32) + (x6.1 191 (Int32.toNatClampNeg (1 : Int32)))))) (gj_sI x8.2 194 (upd (x8.2.1 194) (Int32.toNatClampNeg ((16 : Int32) + (x6.1 191 (Int32.toNatClampNeg (1 : Int32))))) x8.1))).bind fun x11 => (if gj_in ((16 : Int32) + (x6.1 191 (Int32.toNatClampNeg (1 : Int32)))) 32 then ((f_X9_behind 1004 (0 : Int32) (999 : Int32) (gj_sI x11.2 195 (upd (x11.2.1 195) (Int32.toNatClampNeg ((16 : Int32) + (x6.1 191 (Int32.toNatClampNeg (1 : Int32))))) x11.1))).bind fun x13 => (if gj_in ((16 : Int32) + (x6.1 191 (Int32.toNatClampNeg (1 : Int32)))) 32 then ((f_X9_behind 1005 (1 : Int32) (999 : Int32) (gj_sI x13.2 196 (upd (x13.2.1 196) (Int32.toNatClampNeg ((16 : Int32) + (x6.1 191 (Int32.toNatClampNeg (1 : Int32))))) x13.1))).bind fun x15 => (if gj_in ((16 : Int32) + (x6.1 191 (Int32.toNatClampNeg (1 : Int32)))) 32 then (if ((gj_sI x15.2 197 (upd (x15.2.1 197) (Int32.toNatClampNeg ((16 : Int32) + (x6.1 191 (Int32.toNatClampNeg (1 : Int32))))) x15.1)).1 188 9) = 0 then (if gj_in (1 : Int32) 2 then (if gj_in (1 : Int32) 2 then ((some (gj_sI (gj_sI x15.2 197 (upd (x15.2.1 197) (Int32.toNatClampNeg ((16 : Int32) + (x6.1 191 (Int32.toNatClampNeg (1 : Int32))))) x15.1)) 191 (upd ((gj_sI x15.2 197 (upd (x15.2.1 197) (Int32.toNatClampNeg ((16 : Int32) + (x6.1 191 (Int32.toNatClampNeg (1 : Int32))))) x15.1)).1 191) (Int32.toNatClampNeg (1 : Int32)) (((gj_sI x15.2 197 (upd (x15.2.1 197) (Int32.toNatClampNeg ((16 : Int32) + (x6.1 191 (Int32.toNatClampNeg (1 : Int32))))) x15.1)).1 191 (Int32.toNatClampNeg (1 : Int32))) + (1 : Int32))))).bind fun s19 => some s19) else none) else none) else some (gj_sI x15.2 197 (upd (x15.2.1 197) (Int32.toNatClampNeg ((16 : Int32) + (x6.1 191 (Int32.toNatClampNeg (1 : Int32))))) x15.1))) else none)) else none)) else none)) else none) else none)) else none)) else none))))) else none)
set_option maxHeartbeats 4000000 in
set_option maxRecDepth 100000 in
theorem m_X9_routeLine {E : gj_E} {σ : gj_S}   {x : gj_S} (hf : f_X9_routeLine  σ = some x) : gj_M E yX9_routeLine cX9_routeLine 2 none 11 306 [gj_r 188] σ none x := by
  refine gj_body (lv := [(0, gj_r 188)]) (by decide +kernel) (Nat.le_of_ble_eq_true rfl) rfl (fun X hO => ?_)
  replace hO : gj_O E X RX9 cX9_routeLine 2 none 11 306 := hO
  unfold f_X9_routeLine at hf
  refine gj_aload_n hO 0 dX9_routeLine_0 rfl rfl ?_
  refine gj_aload_n hO 0 dX9_routeLine_1 rfl rfl ?_
  refine gt_X9_12 hO wk_672 dX9_routeLine_2 ?_
  refine gj_iconst (v := 1) hO dX9_routeLine_5 (by decide) ?_
  obtain ⟨hb1, hf⟩ := gj_c hf
  refine gj_iald hO kl_191 kd_191 hb1 dX9_routeLine_6 ?_
  refine gj_bipush (v := 16) hO dX9_routeLine_7 (by decide) ?_
  obtain ⟨z2, hz2, hf⟩ := gj_b hf
  have J2 : gj_G E X 2 none x 17 [(0, gj_r 188)] [gj_i z2, gj_r 188] σ := by
    refine gj_iconst (v := 5) hO dX9_routeLine_17 (by decide) ?_
    obtain ⟨x3, hc3, hf⟩ := gj_b hf
    refine ca_X9_must hO  hc3 wk_656 (by decide) (by decide) (Nat.le_of_ble_eq_true rfl) dX9_routeLine_18 ?_
    refine gj_if_ne (tgt := 25) hO dX9_routeLine_21 (by decide) (fun h => ?_) (fun h => ?_)
    · replace hf := gj_f h hf
      refine gj_aload_n hO 0 dX9_routeLine_25 rfl rfl ?_
      obtain ⟨x4, hc4, hf⟩ := gj_b hf
      refine ca_X9_goesOn hO  hc4 wk_657 (by decide) (by decide) (Nat.le_of_ble_eq_true rfl) dX9_routeLine_26 ?_
      refine gj_aload_n hO 0 dX9_routeLine_29 rfl rfl ?_
      refine gj_bipush (v := 8) hO dX9_routeLine_30 (by decide) ?_
      refine gj_aload_n hO 0 dX9_routeLine_32 rfl rfl ?_
      refine gt_X9_12 hO wk_672 dX9_routeLine_33 ?_
      refine gj_iconst (v := 1) hO dX9_routeLine_36 (by decide) ?_
      obtain ⟨hb5, hf⟩ := gj_c hf
      refine gj_iald hO kl_191 kd_191 hb5 dX9_routeLine_37 ?_
      refine gj_iadd hO dX9_routeLine_38 ?_
      obtain ⟨x6, hc6, hf⟩ := gj_b hf
      refine ca_X9_newName hO  hc6 wk_679 (by decide) (by decide) (Nat.le_of_ble_eq_true rfl) dX9_routeLine_39 ?_
      refine gj_bipush (v := 16) hO dX9_routeLine_42 (by decide) ?_
      refine gj_aload_n hO 0 dX9_routeLine_44 rfl rfl ?_
      refine gt_X9_12 hO wk_672 dX9_routeLine_45 ?_
      refine gj_iconst (v := 1) hO dX9_routeLine_48 (by decide) ?_
      obtain ⟨hb7, hf⟩ := gj_c hf
      refine gj_iald hO kl_191 kd_191 hb7 dX9_routeLine_49 ?_
      refine gj_iadd hO dX9_routeLine_50 ?_
      refine gj_istore_n (lv2 := [(1, gj_i ((16 : Int32) + (x6.1 191 (Int32.toNatClampNeg (1 : Int32))))), (0, gj_r 188)]) hO dX9_routeLine_51 rfl (by decide) rfl ?_
      refine gj_aload_n hO 1 dX9_routeLine_52 rfl rfl ?_
      refine gt_X9_15 hO wk_685 dX9_routeLine_53 ?_
      refine gj_iload_n hO 0 dX9_routeLine_56 rfl rfl ?_
      refine gj_aload_n hO 1 dX9_routeLine_57 rfl rfl ?_
      refine gj_iconst (v := (-1)) hO dX9_routeLine_58 (by decide) ?_
      obtain ⟨x8, hc8, hf⟩ := gj_b hf
      refine ca_X9_readDock hO  hc8 wk_686 (by decide) (by decide) (Nat.le_of_ble_eq_true rfl) dX9_routeLine_59 ?_
      obtain ⟨hb9, hf⟩ := gj_c hf
      refine gj_iast hO kl_194 kd_194 hb9 dX9_routeLine_62 ?_
      refine gj_aload_n hO 1 dX9_routeLine_63 rfl rfl ?_
      refine gt_X9_16 hO wk_687 dX9_routeLine_64 ?_
      refine gj_iload_n hO 0 dX9_routeLine_67 rfl rfl ?_
      refine gj_aload_n hO 1 dX9_routeLine_68 rfl rfl ?_
      refine gj_aload_n hO 1 dX9_routeLine_69 rfl rfl ?_
      refine gt_X9_15 hO wk_685 dX9_routeLine_70 ?_
      refine gj_iload_n hO 0 dX9_routeLine_73 rfl rfl ?_
      obtain ⟨hb10, hf⟩ := gj_c hf
      refine gj_iald hO kl_194 kd_194 hb10 dX9_routeLine_74 ?_
      obtain ⟨x11, hc11, hf⟩ := gj_b hf
      refine ca_X9_readDock hO  hc11 wk_686 (by decide) (by decide) (Nat.le_of_ble_eq_true rfl) dX9_routeLine_75 ?_
      obtain ⟨hb12, hf⟩ := gj_c hf
      refine gj_iast hO kl_195 kd_195 hb12 dX9_routeLine_78 ?_
      refine gj_aload_n hO 1 dX9_routeLine_79 rfl rfl ?_
      refine gt_X9_17 hO wk_688 dX9_routeLine_80 ?_
      refine gj_iload_n hO 0 dX9_routeLine_83 rfl rfl ?_
      refine gj_aload_n hO 1 dX9_routeLine_84 rfl rfl ?_
      refine gj_ldcS_1004 hO sw_X9_161 dX9_routeLine_85 ?_
      refine gj_iconst (v := 0) hO dX9_routeLine_87 (by decide) ?_
      refine gj_sipush (v := 999) hO dX9_routeLine_88 (by decide) ?_
      obtain ⟨x13, hc13, hf⟩ := gj_b hf
      refine ca_X9_behind hO  hc13 wk_680 (by decide) (by decide) (Nat.le_of_ble_eq_true rfl) dX9_routeLine_91 ?_
      obtain ⟨hb14, hf⟩ := gj_c hf
      refine gj_iast hO kl_196 kd_196 hb14 dX9_routeLine_94 ?_
      refine gj_aload_n hO 1 dX9_routeLine_95 rfl rfl ?_
      refine gt_X9_18 hO wk_689 dX9_routeLine_96 ?_
      refine gj_iload_n hO 0 dX9_routeLine_99 rfl rfl ?_
      refine gj_aload_n hO 1 dX9_routeLine_100 rfl rfl ?_
      refine gj_ldcS_1005 hO sw_X9_162 dX9_routeLine_101 ?_
      refine gj_iconst (v := 1) hO dX9_routeLine_103 (by decide) ?_
      refine gj_sipush (v := 999) hO dX9_routeLine_104 (by decide) ?_
      obtain ⟨x15, hc15, hf⟩ := gj_b hf
      refine ca_X9_behind hO  hc15 wk_680 (by decide) (by decide) (Nat.le_of_ble_eq_true rfl) dX9_routeLine_107 ?_
      obtain ⟨hb16, hf⟩ := gj_c hf
      refine gj_iast hO kl_197 kd_197 hb16 dX9_routeLine_110 ?_
      refine gj_aload_n hO 1 dX9_routeLine_111 rfl rfl ?_
      refine gt_X9_9 hO wk_639 dX9_routeLine_112 ?_
      refine gj_if_ne (tgt := 128) hO dX9_routeLine_115 (by decide) (fun h => ?_) (fun h => ?_)
      · replace hf := gj_f h hf
        obtain rfl := Option.some.inj hf
        exact gj_vret hO dX9_routeLine_128
      · replace hf := gj_t h hf
        refine gj_aload_n hO 1 dX9_routeLine_118 rfl rfl ?_
        refine gt_X9_12 hO wk_672 dX9_routeLine_119 ?_
        refine gj_iconst (v := 1) hO dX9_routeLine_122 (by decide) ?_
        refine gj_dup2 hO dX9_routeLine_123 trivial trivial ?_
        obtain ⟨hb17, hf⟩ := gj_c hf
        refine gj_iald hO kl_191 kd_191 hb17 dX9_routeLine_124 ?_
        refine gj_iconst (v := 1) hO dX9_routeLine_125 (by decide) ?_
        refine gj_iadd hO dX9_routeLine_126 ?_
        obtain ⟨hb18, hf⟩ := gj_c hf
        refine gj_iast hO kl_191 kd_191 hb18 dX9_routeLine_127 ?_
        obtain ⟨s19, e19, hf⟩ := gj_b hf
        refine gj_eqS (Option.some.inj e19) ?_
        obtain rfl := Option.some.inj hf
        exact gj_vret hO dX9_routeLine_128
    · replace hf := gj_t h hf
      obtain rfl := Option.some.inj hf
      exact gj_vret hO dX9_routeLine_24
  refine gj_icmp_ge (tgt := 16) hO dX9_routeLine_9 (by decide) (fun h => ?_) (fun h => ?_)
  · replace hz2 := gj_t h hz2
    refine gj_iconst (v := 0) hO dX9_routeLine_16 (by decide) ?_
    obtain rfl := Option.some.inj hz2
    refine gj_sub [0] rfl ?_
    exact J2
  · replace hz2 := gj_f h hz2
    refine gj_iconst (v := 1) hO dX9_routeLine_12 (by decide) ?_
    refine gj_goto (tgt := 17) hO dX9_routeLine_13 (by decide) ?_
    obtain rfl := Option.some.inj hz2
    refine gj_sub [0] rfl ?_
    exact J2
set_option maxHeartbeats 4000000 in
set_option maxRecDepth 100000 in
theorem ca_X9_routeLine {E : gj_E} {X : gj_X} {own : String} {cc : ByteArray} {nL : Nat} {rt : Option FieldType} {fr lo : Nat} {r : Option gj_V} {τ : gj_S} {pc : Nat} {lv : List (Nat × gj_V)} {st : List gj_V} {σ : gj_S} (hO : gj_O E X own cc nL rt fr lo)   {idx : Nat} {x : gj_S} (hf : f_X9_routeLine  σ = some x) (hl : Cond.methodLink own idx yX9_routeLine ∈ gj_gw) (hf1 : 12 ≤ fr) (hf2 : 327 ≤ lo) (hcat : ((st.map (gj_tv E.2.1)).map fun v => v.category).sum ≤ 8) (hd : decode cc pc = .ok (.invokevirtual idx, 3)) (k : gj_G E X nL r τ (pc + 3) lv (st) x) : gj_G E X nL r τ pc lv (gj_r 188 :: st) σ :=
  gj_callV hO (o := 188) (vs := []) (m_X9_routeLine  hf) hl wk_690 wk_691 wk_607 wk_692 kl_188 kd_188 (by decide) (ci := 9) rfl (n := 0) (by decide +kernel) rfl hf1 hf2 rfl hcat hd k
def f_X9_lineHere  (σ : gj_S) : Option gj_S := ((f_X9_is 1000 σ).bind fun x1 => ((if x1 = 0 then ((f_X9_is 1003 σ).bind fun x3 => (if x3 = 0 then ((f_X9_is 1006 σ).bind fun x4 => (if x4 = 0 then ((f_X9_must (0 : Int32) (1 : Int32) σ).bind fun x5 => some x5.2) else ((f_X9_blockLine σ).bind fun x6 => some x6))) else ((f_X9_routeLine σ).bind fun x7 => some x7))) else ((f_X9_dockLine σ).bind fun x8 => some x8) : Option gj_S).bind fun z2 => ((if (z2.1 188 6) = (59 : Int32) then some (1 : Int32) else some (0 : Int32) : Option Int32).bind fun z9 => ((f_X9_must z9 (1 : Int32) z2).bind fun x10 => (if x10.1 = 0 then some x10.2 else ((f_X9_goesOn x10.2).bind fun x11 => some x11))))))
set_option maxHeartbeats 4000000 in
set_option maxRecDepth 100000 in
theorem m_X9_lineHere {E : gj_E} {σ : gj_S}   {x : gj_S} (hf : f_X9_lineHere  σ = some x) : gj_M E yX9_lineHere cX9_lineHere 1 none 12 327 [gj_r 188] σ none x := by
  refine gj_body (lv := [(0, gj_r 188)]) (by decide +kernel) (Nat.le_of_ble_eq_true rfl) rfl (fun X hO => ?_)
  replace hO : gj_O E X RX9 cX9_lineHere 1 none 12 327 := hO
  unfold f_X9_lineHere at hf
  refine gj_aload_n hO 0 dX9_lineHere_0 rfl rfl ?_
  refine gj_ldcS_1000 hO sw_X9_150 dX9_lineHere_1 ?_
  obtain ⟨x1, hc1, hf⟩ := gj_b hf
  refine ca_X9_is hO  hc1 wk_648 (by decide) (by decide) (Nat.le_of_ble_eq_true rfl) dX9_lineHere_3 ?_
  obtain ⟨z2, hz2, hf⟩ := gj_b hf
  have J2 : gj_G E X 1 none x 55 [(0, gj_r 188)] [] z2 := by
    refine gj_aload_n hO 0 dX9_lineHere_55 rfl rfl ?_
    refine gj_aload_n hO 0 dX9_lineHere_56 rfl rfl ?_
    refine gt_X9_6 hO wk_627 dX9_lineHere_57 ?_
    refine gj_bipush (v := 59) hO dX9_lineHere_60 (by decide) ?_
    obtain ⟨z9, hz9, hf⟩ := gj_b hf
    have J9 : gj_G E X 1 none x 70 [(0, gj_r 188)] [gj_i z9, gj_r 188] z2 := by
      refine gj_iconst (v := 1) hO dX9_lineHere_70 (by decide) ?_
      obtain ⟨x10, hc10, hf⟩ := gj_b hf
      refine ca_X9_must hO  hc10 wk_656 (by decide) (by decide) (Nat.le_of_ble_eq_true rfl) dX9_lineHere_71 ?_
      refine gj_if_eq (tgt := 81) hO dX9_lineHere_74 (by decide) (fun h => ?_) (fun h => ?_)
      · replace hf := gj_t h hf
        obtain rfl := Option.some.inj hf
        exact gj_vret hO dX9_lineHere_81
      · replace hf := gj_f h hf
        refine gj_aload_n hO 0 dX9_lineHere_77 rfl rfl ?_
        obtain ⟨x11, hc11, hf⟩ := gj_b hf
        refine ca_X9_goesOn hO  hc11 wk_657 (by decide) (by decide) (Nat.le_of_ble_eq_true rfl) dX9_lineHere_78 ?_
        obtain rfl := Option.some.inj hf
        exact gj_vret hO dX9_lineHere_81
    refine gj_icmp_ne (tgt := 69) hO dX9_lineHere_62 (by decide) (fun h => ?_) (fun h => ?_)
    · replace hz9 := gj_f h hz9
      refine gj_iconst (v := 0) hO dX9_lineHere_69 (by decide) ?_
      obtain rfl := Option.some.inj hz9
      refine gj_sub [0] rfl ?_
      exact J9
    · replace hz9 := gj_t h hz9
      refine gj_iconst (v := 1) hO dX9_lineHere_65 (by decide) ?_
      refine gj_goto (tgt := 70) hO dX9_lineHere_66 (by decide) ?_
      obtain rfl := Option.some.inj hz9
      refine gj_sub [0] rfl ?_
      exact J9
  refine gj_if_eq (tgt := 16) hO dX9_lineHere_6 (by decide) (fun h => ?_) (fun h => ?_)
  · replace hz2 := gj_t h hz2
    refine gj_aload_n hO 0 dX9_lineHere_16 rfl rfl ?_
    refine gj_ldcS_1003 hO sw_X9_159 dX9_lineHere_17 ?_
    obtain ⟨x3, hc3, hz2⟩ := gj_b hz2
    refine ca_X9_is hO  hc3 wk_648 (by decide) (by decide) (Nat.le_of_ble_eq_true rfl) dX9_lineHere_19 ?_
    refine gj_if_eq (tgt := 32) hO dX9_lineHere_22 (by decide) (fun h => ?_) (fun h => ?_)
    · replace hz2 := gj_t h hz2
      refine gj_aload_n hO 0 dX9_lineHere_32 rfl rfl ?_
      refine gj_ldcS_1006 hO sw_X9_163 dX9_lineHere_33 ?_
      obtain ⟨x4, hc4, hz2⟩ := gj_b hz2
      refine ca_X9_is hO  hc4 wk_648 (by decide) (by decide) (Nat.le_of_ble_eq_true rfl) dX9_lineHere_35 ?_
      refine gj_if_eq (tgt := 48) hO dX9_lineHere_38 (by decide) (fun h => ?_) (fun h => ?_)
      · replace hz2 := gj_t h hz2
        refine gj_aload_n hO 0 dX9_lineHere_48 rfl rfl ?_
        refine gj_iconst (v := 0) hO dX9_lineHere_49 (by decide) ?_
        refine gj_iconst (v := 1) hO dX9_lineHere_50 (by decide) ?_
        obtain ⟨x5, hc5, hz2⟩ := gj_b hz2
        refine ca_X9_must hO  hc5 wk_656 (by decide) (by decide) (Nat.le_of_ble_eq_true rfl) dX9_lineHere_51 ?_
        refine gj_pop hO dX9_lineHere_54 trivial ?_
        obtain rfl := Option.some.inj hz2
        refine gj_sub [0] rfl ?_
        exact J2
      · replace hz2 := gj_f h hz2
        refine gj_aload_n hO 0 dX9_lineHere_41 rfl rfl ?_
        obtain ⟨x6, hc6, hz2⟩ := gj_b hz2
        refine ca_X9_blockLine hO  hc6 wk_698 (by decide) (by decide) (Nat.le_of_ble_eq_true rfl) dX9_lineHere_42 ?_
        refine gj_goto (tgt := 55) hO dX9_lineHere_45 (by decide) ?_
        obtain rfl := Option.some.inj hz2
        refine gj_sub [0] rfl ?_
        exact J2
    · replace hz2 := gj_f h hz2
      refine gj_aload_n hO 0 dX9_lineHere_25 rfl rfl ?_
      obtain ⟨x7, hc7, hz2⟩ := gj_b hz2
      refine ca_X9_routeLine hO  hc7 wk_699 (by decide) (by decide) (Nat.le_of_ble_eq_true rfl) dX9_lineHere_26 ?_
      refine gj_goto (tgt := 55) hO dX9_lineHere_29 (by decide) ?_
      obtain rfl := Option.some.inj hz2
      refine gj_sub [0] rfl ?_
      exact J2
  · replace hz2 := gj_f h hz2
    refine gj_aload_n hO 0 dX9_lineHere_9 rfl rfl ?_
    obtain ⟨x8, hc8, hz2⟩ := gj_b hz2
    refine ca_X9_dockLine hO  hc8 wk_700 (by decide) (by decide) (Nat.le_of_ble_eq_true rfl) dX9_lineHere_10 ?_
    refine gj_goto (tgt := 55) hO dX9_lineHere_13 (by decide) ?_
    obtain rfl := Option.some.inj hz2
    refine gj_sub [0] rfl ?_
    exact J2
set_option maxHeartbeats 4000000 in
set_option maxRecDepth 100000 in
theorem ca_X9_lineHere {E : gj_E} {X : gj_X} {own : String} {cc : ByteArray} {nL : Nat} {rt : Option FieldType} {fr lo : Nat} {r : Option gj_V} {τ : gj_S} {pc : Nat} {lv : List (Nat × gj_V)} {st : List gj_V} {σ : gj_S} (hO : gj_O E X own cc nL rt fr lo)   {idx : Nat} {x : gj_S} (hf : f_X9_lineHere  σ = some x) (hl : Cond.methodLink own idx yX9_lineHere ∈ gj_gw) (hf1 : 13 ≤ fr) (hf2 : 347 ≤ lo) (hcat : ((st.map (gj_tv E.2.1)).map fun v => v.category).sum ≤ 8) (hd : decode cc pc = .ok (.invokevirtual idx, 3)) (k : gj_G E X nL r τ (pc + 3) lv (st) x) : gj_G E X nL r τ pc lv (gj_r 188 :: st) σ :=
  gj_callV hO (o := 188) (vs := []) (m_X9_lineHere  hf) hl wk_701 wk_702 wk_607 wk_703 kl_188 kd_188 (by decide) (ci := 9) rfl (n := 0) (by decide +kernel) rfl hf1 hf2 rfl hcat hd k
def fb_X9_text_l69  (a8 : gj_S) : Option (gj_S ⊕ gj_S) := (if (a8.1 188 9) = 0 then (if (a8.1 188 6) = 0 then some (.inl a8) else ((f_X9_lineHere a8).bind fun x10 => some (.inr x10))) else some (.inl a8))
def fb_X9_text_l139  (a16 : (Int32 × gj_S)) : Option (gj_S ⊕ (Int32 × gj_S)) := (if (24 : Int32) ≤ a16.1 then some (.inl a16.2) else (if gj_in ((24 : Int32) + a16.1) 48 then (if gj_in a16.1 48 then some (.inr ((a16.1 + 1), (gj_sJ a16.2 192 (vp_updL (a16.2.2.1 192) (Int32.toNatClampNeg a16.1) (a16.2.2.1 192 (Int32.toNatClampNeg ((24 : Int32) + a16.1))))))) else none) else none))
def fb_X9_text_l168  (a20 : (Int32 × gj_S)) : Option (gj_S ⊕ (Int32 × gj_S)) := (if (8 : Int32) ≤ a20.1 then some (.inl a20.2) else (if gj_in (0 : Int32) 2 then (if (a20.2.1 190 (Int32.toNatClampNeg (0 : Int32))) ≤ a20.1 then (if gj_in ((0 : Int32) + a20.1) 180 then some (.inr ((a20.1 + 1), (gj_sI a20.2 198 (upd (a20.2.1 198) (Int32.toNatClampNeg ((0 : Int32) + a20.1)) (0 : Int32))))) else none) else (if gj_in ((8 : Int32) + a20.1) 16 then (if gj_in ((0 : Int32) + a20.1) 180 then some (.inr ((a20.1 + 1), (gj_sI a20.2 198 (upd (a20.2.1 198) (Int32.toNatClampNeg ((0 : Int32) + a20.1)) (a20.2.1 193 (Int32.toNatClampNeg ((8 : Int32) + a20.1))))))) else none) else none)) else none))
def fb_X9_text_l213  (a26 : (Int32 × gj_S)) : Option (gj_S ⊕ (Int32 × gj_S)) := (if (16 : Int32) ≤ a26.1 then some (.inl a26.2) else (if gj_in ((16 : Int32) + a26.1) 32 then (if gj_in a26.1 32 then (if gj_in ((16 : Int32) + a26.1) 32 then (if gj_in a26.1 32 then ((some (gj_sI (gj_sI a26.2 194 (upd (a26.2.1 194) (Int32.toNatClampNeg a26.1) (a26.2.1 194 (Int32.toNatClampNeg ((16 : Int32) + a26.1))))) 195 (upd ((gj_sI a26.2 194 (upd (a26.2.1 194) (Int32.toNatClampNeg a26.1) (a26.2.1 194 (Int32.toNatClampNeg ((16 : Int32) + a26.1))))).1 195) (Int32.toNatClampNeg a26.1) ((gj_sI a26.2 194 (upd (a26.2.1 194) (Int32.toNatClampNeg a26.1) (a26.2.1 194 (Int32.toNatClampNeg ((16 : Int32) + a26.1))))).1 195 (Int32.toNatClampNeg ((16 : Int32) + a26.1)))))).bind fun s32 => (if gj_in (0 : Int32) 2 then ((if (s32.1 191 (Int32.toNatClampNeg (0 : Int32))) ≤ a26.1 then some (0 : Int32) else (if gj_in ((16 : Int32) + a26.1) 32 then some (s32.1 196 (Int32.toNatClampNeg ((16 : Int32) + a26.1))) else none) : Option Int32).bind fun z34 => (if gj_in ((8 : Int32) + a26.1) 180 then (if gj_in (0 : Int32) 2 then (if ((gj_sI s32 198 (upd (s32.1 198) (Int32.toNatClampNeg ((8 : Int32) + a26.1)) z34)).1 191 (Int32.toNatClampNeg (0 : Int32))) ≤ a26.1 then (if gj_in ((24 : Int32) + a26.1) 180 then ((some (gj_sI (gj_sI s32 198 (upd (s32.1 198) (Int32.toNatClampNeg ((8 : Int32) + a26.1)) z34)) 198 (upd ((gj_sI s32 198 (upd (s32.1 198) (Int32.toNatClampNeg ((8 : Int32) + a26.1)) z34)).1 198) (Int32.toNatClampNeg ((24 : Int32) + a26.1)) (0 : Int32)))).bind fun s39 => some (.inr ((a26.1 + 1), s39))) else none) else (if gj_in ((16 : Int32) + a26.1) 32 then (if gj_in ((24 : Int32) + a26.1) 180 then ((some (gj_sI (gj_sI s32 198 (upd (s32.1 198) (Int32.toNatClampNeg ((8 : Int32) + a26.1)) z34)) 198 (upd ((gj_sI s32 198 (upd (s32.1 198) (Int32.toNatClampNeg ((8 : Int32) + a26.1)) z34)).1 198) (Int32.toNatClampNeg ((24 : Int32) + a26.1)) ((gj_sI s32 198 (upd (s32.1 198) (Int32.toNatClampNeg ((8 : Int32) + a26.1)) z34)).1 197 (Int32.toNatClampNeg ((16 : Int32) + a26.1)))))).bind fun s42 => some (.inr ((a26.1 + 1), s42))) else none) else none)) else none) else none)) else none)) else none) else none) else none) else none))
def f_X9_text (b1 : Int32) (σ : gj_S) : Option (Int32 × gj_S) := ((f_X9_within (Int32.toInt64 b1) (0 : Int64) (Int32.toInt64 ((gj_sI σ 188 (upd (σ.1 188) 0 (0 : Int32))).1 188 2))).bind fun x1 => (if x1 = 0 then some ((-1 : Int32), (gj_sI σ 188 (upd (σ.1 188) 0 (0 : Int32)))) else ((some (gj_sI (gj_sI (gj_sI σ 188 (upd (σ.1 188) 0 (0 : Int32))) 188 (upd ((gj_sI σ 188 (upd (σ.1 188) 0 (0 : Int32))).1 188) 2 (0 : Int32))) 188 (upd ((gj_sI (gj_sI σ 188 (upd (σ.1 188) 0 (0 : Int32))) 188 (upd ((gj_sI σ 188 (upd (σ.1 188) 0 (0 : Int32))).1 188) 2 (0 : Int32))).1 188) 3 b1))).bind fun s2 => (if gj_in (1 : Int32) 2 then ((some (gj_sI (gj_sI (gj_sI s2 188 (upd (s2.1 188) 5 (0 : Int32))) 188 (upd ((gj_sI s2 188 (upd (s2.1 188) 5 (0 : Int32))).1 188) 9 (0 : Int32))) 190 (upd ((gj_sI (gj_sI s2 188 (upd (s2.1 188) 5 (0 : Int32))) 188 (upd ((gj_sI s2 188 (upd (s2.1 188) 5 (0 : Int32))).1 188) 9 (0 : Int32))).1 190) (Int32.toNatClampNeg (1 : Int32)) (0 : Int32)))).bind fun s4 => (if gj_in (1 : Int32) 2 then ((some (gj_sI (gj_sI s4 191 (upd (s4.1 191) (Int32.toNatClampNeg (1 : Int32)) (0 : Int32))) 188 (upd ((gj_sI s4 191 (upd (s4.1 191) (Int32.toNatClampNeg (1 : Int32)) (0 : Int32))).1 188) 20 (0 : Int32)))).bind fun s6 => ((f_X9_goesOn (gj_sI s6 188 (upd (s6.1 188) 19 (4 : Int32)))).bind fun x7 => ((gj_lp (fb_X9_text_l69) 5000 x7).bind fun z8 => (if (z8.1 188 9) = 0 then (if gj_in (1 : Int32) 2 then (if gj_in (0 : Int32) 2 then (if gj_in (1 : Int32) 2 then (if gj_in (0 : Int32) 2 then ((some (gj_sI (gj_sI z8 190 (upd (z8.1 190) (Int32.toNatClampNeg (0 : Int32)) (z8.1 190 (Int32.toNatClampNeg (1 : Int32))))) 191 (upd ((gj_sI z8 190 (upd (z8.1 190) (Int32.toNatClampNeg (0 : Int32)) (z8.1 190 (Int32.toNatClampNeg (1 : Int32))))).1 191) (Int32.toNatClampNeg (0 : Int32)) ((gj_sI z8 190 (upd (z8.1 190) (Int32.toNatClampNeg (0 : Int32)) (z8.1 190 (Int32.toNatClampNeg (1 : Int32))))).1 191 (Int32.toNatClampNeg (1 : Int32)))))).bind fun s15 => ((gj_lp (fb_X9_text_l139) 5000 ((0 : Int32), s15)).bind fun z16 => ((gj_lp (fb_X9_text_l168) 5000 ((0 : Int32), z16)).bind fun z20 => ((gj_lp (fb_X9_text_l213) 5000 ((0 : Int32), z20)).bind fun z26 => (if gj_in (40 : Int32) 180 then ((f_X9_begins (gj_sI z26 198 (upd (z26.1 198) (Int32.toNatClampNeg (40 : Int32)) (z26.1 188 19)))).bind fun x44 => (if gj_in (0 : Int32) 2 then ((some (gj_sI (gj_sI x44 188 (upd (x44.1 188) 23 (0 : Int32))) 201 (upd ((gj_sI x44 188 (upd (x44.1 188) 23 (0 : Int32))).1 201) (Int32.toNatClampNeg (0 : Int32)) (vp_nar .boolean (0 : Int32))))).bind fun s46 => (if gj_in (1 : Int32) 2 then (if gj_in (0 : Int32) 2 then some (((gj_sI s46 201 (upd (s46.1 201) (Int32.toNatClampNeg (1 : Int32)) (vp_nar .boolean (0 : Int32)))).1 190 (Int32.toNatClampNeg (0 : Int32))), (gj_sI s46 201 (upd (s46.1 201) (Int32.toNatClampNeg (1 : Int32)) (vp_nar .boolean (0 : Int32))))) else none) else none)) else none)) else none))))) else none) else none) else none) else none) else some (((-2 : Int32) - (((8 : Int32) * (z8.1 188 10)) + (z8.1 188 9))), z8))))) else none)) else none))))
set_option maxHeartbeats 4000000 in
set_option maxRecDepth 100000 in
theorem sb_X9_text_l69 {E : gj_E} {X : gj_X} {r : Option gj_V} {τ : gj_S} (hO : gj_O E X RX9 cX9_text 3 (some .int) 13 347)  {a8 : gj_S} {x : gj_S ⊕ gj_S} (hf : fb_X9_text_l69  a8 = some x) (K : gj_K (fun z8 => gj_G E X 3 r τ 90 [(0, gj_r 188)] [] z8) (fun a8 => gj_G E X 3 r τ 69 [(0, gj_r 188)] [] a8) x) : gj_G E X 3 r τ 69 [(0, gj_r 188)] [] a8 := by
  unfold fb_X9_text_l69 at hf
  refine gj_aload_n hO 0 dX9_text_69 rfl rfl ?_
  refine gt_X9_9 hO wk_639 dX9_text_70 ?_
  refine gj_if_ne (tgt := 90) hO dX9_text_73 (by decide) (fun h => ?_) (fun h => ?_)
  · replace hf := gj_f h hf
    obtain rfl := Option.some.inj hf
    refine gj_sub [0] rfl ?_
    exact K
  · replace hf := gj_t h hf
    refine gj_aload_n hO 0 dX9_text_76 rfl rfl ?_
    refine gt_X9_6 hO wk_627 dX9_text_77 ?_
    refine gj_if_eq (tgt := 90) hO dX9_text_80 (by decide) (fun h => ?_) (fun h => ?_)
    · replace hf := gj_t h hf
      obtain rfl := Option.some.inj hf
      refine gj_sub [0] rfl ?_
      exact K
    · replace hf := gj_f h hf
      refine gj_aload_n hO 0 dX9_text_83 rfl rfl ?_
      obtain ⟨x10, hc10, hf⟩ := gj_b hf
      refine ca_X9_lineHere hO  hc10 wk_708 (by decide) (by decide) (Nat.le_of_ble_eq_true rfl) dX9_text_84 ?_
      refine gj_goto (tgt := 69) hO dX9_text_87 (by decide) ?_
      obtain rfl := Option.some.inj hf
      refine gj_sub [0] rfl ?_
      exact K
set_option maxHeartbeats 4000000 in
set_option maxRecDepth 100000 in
theorem sb_X9_text_l139 {E : gj_E} {X : gj_X} {r : Option gj_V} {τ : gj_S} (hO : gj_O E X RX9 cX9_text 3 (some .int) 13 347)  {a16 : (Int32 × gj_S)} {x : gj_S ⊕ (Int32 × gj_S)} (hf : fb_X9_text_l139  a16 = some x) (K : gj_K (fun z16 => gj_G E X 3 r τ 166 [(0, gj_r 188)] [] z16) (fun a16 => gj_G E X 3 r τ 139 [(0, gj_r 188), (2, gj_i a16.1)] [] a16.2) x) : gj_G E X 3 r τ 139 [(0, gj_r 188), (2, gj_i a16.1)] [] a16.2 := by
  unfold fb_X9_text_l139 at hf
  refine gj_iload_n hO 1 dX9_text_139 rfl rfl ?_
  refine gj_bipush (v := 24) hO dX9_text_140 (by decide) ?_
  refine gj_icmp_ge (tgt := 166) hO dX9_text_142 (by decide) (fun h => ?_) (fun h => ?_)
  · replace hf := gj_t h hf
    obtain rfl := Option.some.inj hf
    refine gj_sub [0] rfl ?_
    exact K
  · replace hf := gj_f h hf
    refine gj_aload_n hO 0 dX9_text_145 rfl rfl ?_
    refine gt_X9_13 hO wk_665 dX9_text_146 ?_
    refine gj_iload_n hO 1 dX9_text_149 rfl rfl ?_
    refine gj_aload_n hO 0 dX9_text_150 rfl rfl ?_
    refine gt_X9_13 hO wk_665 dX9_text_151 ?_
    refine gj_bipush (v := 24) hO dX9_text_154 (by decide) ?_
    refine gj_iload_n hO 1 dX9_text_156 rfl rfl ?_
    refine gj_iadd hO dX9_text_157 ?_
    obtain ⟨hb18, hf⟩ := gj_c hf
    refine gj_lald hO kl_192 kd_192 hb18 dX9_text_158 ?_
    obtain ⟨hb19, hf⟩ := gj_c hf
    refine gj_last hO kl_192 kd_192 hb19 dX9_text_159 ?_
    refine gj_iinc (v := (a16.1 + 1)) (lv2 := [(2, gj_i (a16.1 + 1)), (0, gj_r 188)]) hO 1 dX9_text_160 rfl rfl (by decide) rfl ?_
    refine gj_goto (tgt := 139) hO dX9_text_163 (by decide) ?_
    obtain rfl := Option.some.inj hf
    refine gj_sub [1, 0] rfl ?_
    exact K
set_option maxHeartbeats 4000000 in
set_option maxRecDepth 100000 in
theorem sb_X9_text_l168 {E : gj_E} {X : gj_X} {r : Option gj_V} {τ : gj_S} (hO : gj_O E X RX9 cX9_text 3 (some .int) 13 347)  {a20 : (Int32 × gj_S)} {x : gj_S ⊕ (Int32 × gj_S)} (hf : fb_X9_text_l168  a20 = some x) (K : gj_K (fun z20 => gj_G E X 3 r τ 211 [(0, gj_r 188)] [] z20) (fun a20 => gj_G E X 3 r τ 168 [(0, gj_r 188), (2, gj_i a20.1)] [] a20.2) x) : gj_G E X 3 r τ 168 [(0, gj_r 188), (2, gj_i a20.1)] [] a20.2 := by
  unfold fb_X9_text_l168 at hf
  refine gj_iload_n hO 1 dX9_text_168 rfl rfl ?_
  refine gj_bipush (v := 8) hO dX9_text_169 (by decide) ?_
  refine gj_icmp_ge (tgt := 211) hO dX9_text_171 (by decide) (fun h => ?_) (fun h => ?_)
  · replace hf := gj_t h hf
    obtain rfl := Option.some.inj hf
    refine gj_sub [0] rfl ?_
    exact K
  · replace hf := gj_f h hf
    refine gj_aload_n hO 0 dX9_text_174 rfl rfl ?_
    refine gt_X9_21 hO wk_704 dX9_text_175 ?_
    refine gj_iconst (v := 0) hO dX9_text_178 (by decide) ?_
    refine gj_iload_n hO 1 dX9_text_179 rfl rfl ?_
    refine gj_iadd hO dX9_text_180 ?_
    refine gj_iload_n hO 1 dX9_text_181 rfl rfl ?_
    refine gj_aload_n hO 0 dX9_text_182 rfl rfl ?_
    refine gt_X9_11 hO wk_670 dX9_text_183 ?_
    refine gj_iconst (v := 0) hO dX9_text_186 (by decide) ?_
    obtain ⟨hb22, hf⟩ := gj_c hf
    refine gj_iald hO kl_190 kd_190 hb22 dX9_text_187 ?_
    refine gj_icmp_ge (tgt := 203) hO dX9_text_188 (by decide) (fun h => ?_) (fun h => ?_)
    · replace hf := gj_t h hf
      refine gj_iconst (v := 0) hO dX9_text_203 (by decide) ?_
      obtain ⟨hb23, hf⟩ := gj_c hf
      refine gj_iast hO kl_198 kd_198 hb23 dX9_text_204 ?_
      refine gj_iinc (v := (a20.1 + 1)) (lv2 := [(2, gj_i (a20.1 + 1)), (0, gj_r 188)]) hO 1 dX9_text_205 rfl rfl (by decide) rfl ?_
      refine gj_goto (tgt := 168) hO dX9_text_208 (by decide) ?_
      obtain rfl := Option.some.inj hf
      refine gj_sub [1, 0] rfl ?_
      exact K
    · replace hf := gj_f h hf
      refine gj_aload_n hO 0 dX9_text_191 rfl rfl ?_
      refine gt_X9_14 hO wk_681 dX9_text_192 ?_
      refine gj_bipush (v := 8) hO dX9_text_195 (by decide) ?_
      refine gj_iload_n hO 1 dX9_text_197 rfl rfl ?_
      refine gj_iadd hO dX9_text_198 ?_
      obtain ⟨hb24, hf⟩ := gj_c hf
      refine gj_iald hO kl_193 kd_193 hb24 dX9_text_199 ?_
      refine gj_goto (tgt := 204) hO dX9_text_200 (by decide) ?_
      obtain ⟨hb25, hf⟩ := gj_c hf
      refine gj_iast hO kl_198 kd_198 hb25 dX9_text_204 ?_
      refine gj_iinc (v := (a20.1 + 1)) (lv2 := [(2, gj_i (a20.1 + 1)), (0, gj_r 188)]) hO 1 dX9_text_205 rfl rfl (by decide) rfl ?_
      refine gj_goto (tgt := 168) hO dX9_text_208 (by decide) ?_
      obtain rfl := Option.some.inj hf
      refine gj_sub [1, 0] rfl ?_
      exact K
set_option maxHeartbeats 4000000 in
set_option maxRecDepth 100000 in
theorem sb_X9_text_l213 {E : gj_E} {X : gj_X} {r : Option gj_V} {τ : gj_S} (hO : gj_O E X RX9 cX9_text 3 (some .int) 13 347)  {a26 : (Int32 × gj_S)} {x : gj_S ⊕ (Int32 × gj_S)} (hf : fb_X9_text_l213  a26 = some x) (K : gj_K (fun z26 => gj_G E X 3 r τ 319 [(0, gj_r 188)] [] z26) (fun a26 => gj_G E X 3 r τ 213 [(0, gj_r 188), (2, gj_i a26.1)] [] a26.2) x) : gj_G E X 3 r τ 213 [(0, gj_r 188), (2, gj_i a26.1)] [] a26.2 := by
  unfold fb_X9_text_l213 at hf
  refine gj_iload_n hO 1 dX9_text_213 rfl rfl ?_
  refine gj_bipush (v := 16) hO dX9_text_214 (by decide) ?_
  refine gj_icmp_ge (tgt := 319) hO dX9_text_216 (by decide) (fun h => ?_) (fun h => ?_)
  · replace hf := gj_t h hf
    obtain rfl := Option.some.inj hf
    refine gj_sub [0] rfl ?_
    exact K
  · replace hf := gj_f h hf
    refine gj_aload_n hO 0 dX9_text_219 rfl rfl ?_
    refine gt_X9_15 hO wk_685 dX9_text_220 ?_
    refine gj_iload_n hO 1 dX9_text_223 rfl rfl ?_
    refine gj_aload_n hO 0 dX9_text_224 rfl rfl ?_
    refine gt_X9_15 hO wk_685 dX9_text_225 ?_
    refine gj_bipush (v := 16) hO dX9_text_228 (by decide) ?_
    refine gj_iload_n hO 1 dX9_text_230 rfl rfl ?_
    refine gj_iadd hO dX9_text_231 ?_
    obtain ⟨hb28, hf⟩ := gj_c hf
    refine gj_iald hO kl_194 kd_194 hb28 dX9_text_232 ?_
    obtain ⟨hb29, hf⟩ := gj_c hf
    refine gj_iast hO kl_194 kd_194 hb29 dX9_text_233 ?_
    refine gj_aload_n hO 0 dX9_text_234 rfl rfl ?_
    refine gt_X9_16 hO wk_687 dX9_text_235 ?_
    refine gj_iload_n hO 1 dX9_text_238 rfl rfl ?_
    refine gj_aload_n hO 0 dX9_text_239 rfl rfl ?_
    refine gt_X9_16 hO wk_687 dX9_text_240 ?_
    refine gj_bipush (v := 16) hO dX9_text_243 (by decide) ?_
    refine gj_iload_n hO 1 dX9_text_245 rfl rfl ?_
    refine gj_iadd hO dX9_text_246 ?_
    obtain ⟨hb30, hf⟩ := gj_c hf
    refine gj_iald hO kl_195 kd_195 hb30 dX9_text_247 ?_
    obtain ⟨hb31, hf⟩ := gj_c hf
    refine gj_iast hO kl_195 kd_195 hb31 dX9_text_248 ?_
    obtain ⟨s32, e32, hf⟩ := gj_b hf
    refine gj_eqS (Option.some.inj e32) ?_
    refine gj_aload_n hO 0 dX9_text_249 rfl rfl ?_
    refine gt_X9_21 hO wk_704 dX9_text_250 ?_
    refine gj_bipush (v := 8) hO dX9_text_253 (by decide) ?_
    refine gj_iload_n hO 1 dX9_text_255 rfl rfl ?_
    refine gj_iadd hO dX9_text_256 ?_
    refine gj_iload_n hO 1 dX9_text_257 rfl rfl ?_
    refine gj_aload_n hO 0 dX9_text_258 rfl rfl ?_
    refine gt_X9_12 hO wk_672 dX9_text_259 ?_
    refine gj_iconst (v := 0) hO dX9_text_262 (by decide) ?_
    obtain ⟨hb33, hf⟩ := gj_c hf
    refine gj_iald hO kl_191 kd_191 hb33 dX9_text_263 ?_
    obtain ⟨z34, hz34, hf⟩ := gj_b hf
    have J34 : gj_G E X 3 r τ 280 [(0, gj_r 188), (2, gj_i a26.1)] [gj_i z34, gj_i ((8 : Int32) + a26.1), gj_r 198] s32 := by
      obtain ⟨hb36, hf⟩ := gj_c hf
      refine gj_iast hO kl_198 kd_198 hb36 dX9_text_280 ?_
      refine gj_aload_n hO 0 dX9_text_281 rfl rfl ?_
      refine gt_X9_21 hO wk_704 dX9_text_282 ?_
      refine gj_bipush (v := 24) hO dX9_text_285 (by decide) ?_
      refine gj_iload_n hO 1 dX9_text_287 rfl rfl ?_
      refine gj_iadd hO dX9_text_288 ?_
      refine gj_iload_n hO 1 dX9_text_289 rfl rfl ?_
      refine gj_aload_n hO 0 dX9_text_290 rfl rfl ?_
      refine gt_X9_12 hO wk_672 dX9_text_291 ?_
      refine gj_iconst (v := 0) hO dX9_text_294 (by decide) ?_
      obtain ⟨hb37, hf⟩ := gj_c hf
      refine gj_iald hO kl_191 kd_191 hb37 dX9_text_295 ?_
      refine gj_icmp_ge (tgt := 311) hO dX9_text_296 (by decide) (fun h => ?_) (fun h => ?_)
      · replace hf := gj_t h hf
        refine gj_iconst (v := 0) hO dX9_text_311 (by decide) ?_
        obtain ⟨hb38, hf⟩ := gj_c hf
        refine gj_iast hO kl_198 kd_198 hb38 dX9_text_312 ?_
        obtain ⟨s39, e39, hf⟩ := gj_b hf
        refine gj_eqS (Option.some.inj e39) ?_
        refine gj_iinc (v := (a26.1 + 1)) (lv2 := [(2, gj_i (a26.1 + 1)), (0, gj_r 188)]) hO 1 dX9_text_313 rfl rfl (by decide) rfl ?_
        refine gj_goto (tgt := 213) hO dX9_text_316 (by decide) ?_
        obtain rfl := Option.some.inj hf
        refine gj_sub [1, 0] rfl ?_
        exact K
      · replace hf := gj_f h hf
        refine gj_aload_n hO 0 dX9_text_299 rfl rfl ?_
        refine gt_X9_18 hO wk_689 dX9_text_300 ?_
        refine gj_bipush (v := 16) hO dX9_text_303 (by decide) ?_
        refine gj_iload_n hO 1 dX9_text_305 rfl rfl ?_
        refine gj_iadd hO dX9_text_306 ?_
        obtain ⟨hb40, hf⟩ := gj_c hf
        refine gj_iald hO kl_197 kd_197 hb40 dX9_text_307 ?_
        refine gj_goto (tgt := 312) hO dX9_text_308 (by decide) ?_
        obtain ⟨hb41, hf⟩ := gj_c hf
        refine gj_iast hO kl_198 kd_198 hb41 dX9_text_312 ?_
        obtain ⟨s42, e42, hf⟩ := gj_b hf
        refine gj_eqS (Option.some.inj e42) ?_
        refine gj_iinc (v := (a26.1 + 1)) (lv2 := [(2, gj_i (a26.1 + 1)), (0, gj_r 188)]) hO 1 dX9_text_313 rfl rfl (by decide) rfl ?_
        refine gj_goto (tgt := 213) hO dX9_text_316 (by decide) ?_
        obtain rfl := Option.some.inj hf
        refine gj_sub [1, 0] rfl ?_
        exact K
    refine gj_icmp_ge (tgt := 279) hO dX9_text_264 (by decide) (fun h => ?_) (fun h => ?_)
    · replace hz34 := gj_t h hz34
      refine gj_iconst (v := 0) hO dX9_text_279 (by decide) ?_
      obtain rfl := Option.some.inj hz34
      refine gj_sub [0, 1] rfl ?_
      exact J34
    · replace hz34 := gj_f h hz34
      refine gj_aload_n hO 0 dX9_text_267 rfl rfl ?_
      refine gt_X9_17 hO wk_688 dX9_text_268 ?_
      refine gj_bipush (v := 16) hO dX9_text_271 (by decide) ?_
      refine gj_iload_n hO 1 dX9_text_273 rfl rfl ?_
      refine gj_iadd hO dX9_text_274 ?_
      obtain ⟨hb35, hz34⟩ := gj_c hz34
      refine gj_iald hO kl_196 kd_196 hb35 dX9_text_275 ?_
      refine gj_goto (tgt := 280) hO dX9_text_276 (by decide) ?_
      obtain rfl := Option.some.inj hz34
      refine gj_sub [0, 1] rfl ?_
      exact J34
set_option maxHeartbeats 4000000 in
set_option maxRecDepth 100000 in
theorem m_X9_text {E : gj_E} {σ : gj_S} {b1 : Int32}  {x : (Int32 × gj_S)} (hf : f_X9_text b1 σ = some x) : gj_M E yX9_text cX9_text 3 (some .int) 13 347 [gj_r 188, gj_i b1] σ (some (gj_i x.1)) x.2 := by
  refine gj_body (lv := [(0, gj_r 188), (1, gj_i b1)]) (by decide +kernel) (Nat.le_of_ble_eq_true rfl) rfl (fun X hO => ?_)
  replace hO : gj_O E X RX9 cX9_text 3 (some .int) 13 347 := hO
  unfold f_X9_text at hf
  refine gj_aload_n hO 0 dX9_text_0 rfl rfl ?_
  refine gj_iconst (v := 0) hO dX9_text_1 (by decide) ?_
  refine pt_X9_0 hO wk_604 dX9_text_2 ?_
  refine gj_iload_n hO 1 dX9_text_5 rfl rfl ?_
  refine gj_i2l hO dX9_text_6 ?_
  refine gj_lconst (v := 0) hO dX9_text_7 (by decide) ?_
  refine gj_aload_n hO 0 dX9_text_8 rfl rfl ?_
  refine gt_X9_2 hO wk_612 dX9_text_9 ?_
  refine gj_i2l hO dX9_text_12 ?_
  obtain ⟨x1, hc1, hf⟩ := gj_b hf
  refine ca_X9_within hO  hc1 wk_632 (by decide) (by decide) (Nat.le_of_ble_eq_true rfl) dX9_text_13 ?_
  refine gj_if_ne (tgt := 21) hO dX9_text_16 (by decide) (fun h => ?_) (fun h => ?_)
  · replace hf := gj_f h hf
    refine gj_aload_n hO 0 dX9_text_21 rfl rfl ?_
    refine gj_iconst (v := 0) hO dX9_text_22 (by decide) ?_
    refine pt_X9_2 hO wk_612 dX9_text_23 ?_
    refine gj_aload_n hO 0 dX9_text_26 rfl rfl ?_
    refine gj_iload_n hO 1 dX9_text_27 rfl rfl ?_
    refine pt_X9_3 hO wk_620 dX9_text_28 ?_
    obtain ⟨s2, e2, hf⟩ := gj_b hf
    refine gj_eqS (Option.some.inj e2) ?_
    refine gj_aload_n hO 0 dX9_text_31 rfl rfl ?_
    refine gj_iconst (v := 0) hO dX9_text_32 (by decide) ?_
    refine pt_X9_5 hO wk_624 dX9_text_33 ?_
    refine gj_aload_n hO 0 dX9_text_36 rfl rfl ?_
    refine gj_iconst (v := 0) hO dX9_text_37 (by decide) ?_
    refine pt_X9_9 hO wk_639 dX9_text_38 ?_
    refine gj_aload_n hO 0 dX9_text_41 rfl rfl ?_
    refine gt_X9_11 hO wk_670 dX9_text_42 ?_
    refine gj_iconst (v := 1) hO dX9_text_45 (by decide) ?_
    refine gj_iconst (v := 0) hO dX9_text_46 (by decide) ?_
    obtain ⟨hb3, hf⟩ := gj_c hf
    refine gj_iast hO kl_190 kd_190 hb3 dX9_text_47 ?_
    obtain ⟨s4, e4, hf⟩ := gj_b hf
    refine gj_eqS (Option.some.inj e4) ?_
    refine gj_aload_n hO 0 dX9_text_48 rfl rfl ?_
    refine gt_X9_12 hO wk_672 dX9_text_49 ?_
    refine gj_iconst (v := 1) hO dX9_text_52 (by decide) ?_
    refine gj_iconst (v := 0) hO dX9_text_53 (by decide) ?_
    obtain ⟨hb5, hf⟩ := gj_c hf
    refine gj_iast hO kl_191 kd_191 hb5 dX9_text_54 ?_
    refine gj_aload_n hO 0 dX9_text_55 rfl rfl ?_
    refine gj_iconst (v := 0) hO dX9_text_56 (by decide) ?_
    refine pt_X9_20 hO (Or.inl rfl) wk_693 dX9_text_57 ?_
    obtain ⟨s6, e6, hf⟩ := gj_b hf
    refine gj_eqS (Option.some.inj e6) ?_
    refine gj_aload_n hO 0 dX9_text_60 rfl rfl ?_
    refine gj_iconst (v := 4) hO dX9_text_61 (by decide) ?_
    refine pt_X9_19 hO wk_694 dX9_text_62 ?_
    refine gj_aload_n hO 0 dX9_text_65 rfl rfl ?_
    obtain ⟨x7, hc7, hf⟩ := gj_b hf
    refine ca_X9_goesOn hO  hc7 wk_657 (by decide) (by decide) (Nat.le_of_ble_eq_true rfl) dX9_text_66 ?_
    obtain ⟨z8, hz8, hf⟩ := gj_b hf
    have J8 : gj_G E X 3 (some (gj_i x.1)) x.2 90 [(0, gj_r 188)] [] z8 := by
      refine gj_aload_n hO 0 dX9_text_90 rfl rfl ?_
      refine gt_X9_9 hO wk_639 dX9_text_91 ?_
      refine gj_if_eq (tgt := 113) hO dX9_text_94 (by decide) (fun h => ?_) (fun h => ?_)
      · replace hf := gj_t h hf
        refine gj_aload_n hO 0 dX9_text_113 rfl rfl ?_
        refine gt_X9_11 hO wk_670 dX9_text_114 ?_
        refine gj_iconst (v := 0) hO dX9_text_117 (by decide) ?_
        refine gj_aload_n hO 0 dX9_text_118 rfl rfl ?_
        refine gt_X9_11 hO wk_670 dX9_text_119 ?_
        refine gj_iconst (v := 1) hO dX9_text_122 (by decide) ?_
        obtain ⟨hb11, hf⟩ := gj_c hf
        refine gj_iald hO kl_190 kd_190 hb11 dX9_text_123 ?_
        obtain ⟨hb12, hf⟩ := gj_c hf
        refine gj_iast hO kl_190 kd_190 hb12 dX9_text_124 ?_
        refine gj_aload_n hO 0 dX9_text_125 rfl rfl ?_
        refine gt_X9_12 hO wk_672 dX9_text_126 ?_
        refine gj_iconst (v := 0) hO dX9_text_129 (by decide) ?_
        refine gj_aload_n hO 0 dX9_text_130 rfl rfl ?_
        refine gt_X9_12 hO wk_672 dX9_text_131 ?_
        refine gj_iconst (v := 1) hO dX9_text_134 (by decide) ?_
        obtain ⟨hb13, hf⟩ := gj_c hf
        refine gj_iald hO kl_191 kd_191 hb13 dX9_text_135 ?_
        obtain ⟨hb14, hf⟩ := gj_c hf
        refine gj_iast hO kl_191 kd_191 hb14 dX9_text_136 ?_
        obtain ⟨s15, e15, hf⟩ := gj_b hf
        refine gj_eqS (Option.some.inj e15) ?_
        refine gj_iconst (v := 0) hO dX9_text_137 (by decide) ?_
        refine gj_istore_n (lv2 := [(2, gj_i (0 : Int32)), (0, gj_r 188)]) hO dX9_text_138 rfl (by decide) rfl ?_
        obtain ⟨z16, hz16, hf⟩ := gj_b hf
        have J16 : gj_G E X 3 (some (gj_i x.1)) x.2 166 [(0, gj_r 188)] [] z16 := by
          refine gj_iconst (v := 0) hO dX9_text_166 (by decide) ?_
          refine gj_istore_n (lv2 := [(2, gj_i (0 : Int32)), (0, gj_r 188)]) hO dX9_text_167 rfl (by decide) rfl ?_
          obtain ⟨z20, hz20, hf⟩ := gj_b hf
          have J20 : gj_G E X 3 (some (gj_i x.1)) x.2 211 [(0, gj_r 188)] [] z20 := by
            refine gj_iconst (v := 0) hO dX9_text_211 (by decide) ?_
            refine gj_istore_n (lv2 := [(2, gj_i (0 : Int32)), (0, gj_r 188)]) hO dX9_text_212 rfl (by decide) rfl ?_
            obtain ⟨z26, hz26, hf⟩ := gj_b hf
            have J26 : gj_G E X 3 (some (gj_i x.1)) x.2 319 [(0, gj_r 188)] [] z26 := by
              refine gj_aload_n hO 0 dX9_text_319 rfl rfl ?_
              refine gt_X9_21 hO wk_704 dX9_text_320 ?_
              refine gj_bipush (v := 40) hO dX9_text_323 (by decide) ?_
              refine gj_aload_n hO 0 dX9_text_325 rfl rfl ?_
              refine gt_X9_19 hO wk_694 dX9_text_326 ?_
              obtain ⟨hb43, hf⟩ := gj_c hf
              refine gj_iast hO kl_198 kd_198 hb43 dX9_text_329 ?_
              refine gj_aload_n hO 0 dX9_text_330 rfl rfl ?_
              obtain ⟨x44, hc44, hf⟩ := gj_b hf
              refine ca_X9_begins hO  hc44 wk_709 (by decide) (by decide) (Nat.le_of_ble_eq_true rfl) dX9_text_331 ?_
              refine gj_aload_n hO 0 dX9_text_334 rfl rfl ?_
              refine gj_iconst (v := 0) hO dX9_text_335 (by decide) ?_
              refine pt_X9_23 hO wk_710 dX9_text_336 ?_
              refine gj_aload_n hO 0 dX9_text_339 rfl rfl ?_
              refine gt_X9_25 hO wk_711 dX9_text_340 ?_
              refine gj_iconst (v := 0) hO dX9_text_343 (by decide) ?_
              refine gj_iconst (v := 0) hO dX9_text_344 (by decide) ?_
              obtain ⟨hb45, hf⟩ := gj_c hf
              refine gj_zast hO kl_201 kd_201 hb45 dX9_text_345 ?_
              obtain ⟨s46, e46, hf⟩ := gj_b hf
              refine gj_eqS (Option.some.inj e46) ?_
              refine gj_aload_n hO 0 dX9_text_346 rfl rfl ?_
              refine gt_X9_25 hO wk_711 dX9_text_347 ?_
              refine gj_iconst (v := 1) hO dX9_text_350 (by decide) ?_
              refine gj_iconst (v := 0) hO dX9_text_351 (by decide) ?_
              obtain ⟨hb47, hf⟩ := gj_c hf
              refine gj_zast hO kl_201 kd_201 hb47 dX9_text_352 ?_
              refine gj_aload_n hO 0 dX9_text_353 rfl rfl ?_
              refine gt_X9_11 hO wk_670 dX9_text_354 ?_
              refine gj_iconst (v := 0) hO dX9_text_357 (by decide) ?_
              obtain ⟨hb48, hf⟩ := gj_c hf
              refine gj_iald hO kl_190 kd_190 hb48 dX9_text_358 ?_
              obtain rfl := Option.some.inj hf
              exact gj_iret hO dX9_text_359
            refine gj_sub [1, 0] rfl ?_
            exact gj_loop (head := fun a26 => gj_G E X 3 (some (gj_i x.1)) x.2 213 [(0, gj_r 188), (2, gj_i a26.1)] [] a26.2) (exit := fun z26 => gj_G E X 3 (some (gj_i x.1)) x.2 319 [(0, gj_r 188)] [] z26) (fun a26 x hf K => sb_X9_text_l213 hO hf K) _ _ _ hz26 J26
          refine gj_sub [1, 0] rfl ?_
          exact gj_loop (head := fun a20 => gj_G E X 3 (some (gj_i x.1)) x.2 168 [(0, gj_r 188), (2, gj_i a20.1)] [] a20.2) (exit := fun z20 => gj_G E X 3 (some (gj_i x.1)) x.2 211 [(0, gj_r 188)] [] z20) (fun a20 x hf K => sb_X9_text_l168 hO hf K) _ _ _ hz20 J20
        refine gj_sub [1, 0] rfl ?_
        exact gj_loop (head := fun a16 => gj_G E X 3 (some (gj_i x.1)) x.2 139 [(0, gj_r 188), (2, gj_i a16.1)] [] a16.2) (exit := fun z16 => gj_G E X 3 (some (gj_i x.1)) x.2 166 [(0, gj_r 188)] [] z16) (fun a16 x hf K => sb_X9_text_l139 hO hf K) _ _ _ hz16 J16
      · replace hf := gj_f h hf
        refine gj_bipush (v := (-2)) hO dX9_text_97 (by decide) ?_
        refine gj_bipush (v := 8) hO dX9_text_99 (by decide) ?_
        refine gj_aload_n hO 0 dX9_text_101 rfl rfl ?_
        refine gt_X9_10 hO wk_640 dX9_text_102 ?_
        refine gj_imul hO dX9_text_105 ?_
        refine gj_aload_n hO 0 dX9_text_106 rfl rfl ?_
        refine gt_X9_9 hO wk_639 dX9_text_107 ?_
        refine gj_iadd hO dX9_text_110 ?_
        refine gj_isub hO dX9_text_111 ?_
        obtain rfl := Option.some.inj hf
        exact gj_iret hO dX9_text_112
    refine gj_sub [0] rfl ?_
    exact gj_loop (head := fun a8 => gj_G E X 3 (some (gj_i x.1)) x.2 69 [(0, gj_r 188)] [] a8) (exit := fun z8 => gj_G E X 3 (some (gj_i x.1)) x.2 90 [(0, gj_r 188)] [] z8) (fun a8 x hf K => sb_X9_text_l69 hO hf K) _ _ _ hz8 J8
  · replace hf := gj_t h hf
    refine gj_iconst (v := (-1)) hO dX9_text_19 (by decide) ?_
    obtain rfl := Option.some.inj hf
    exact gj_iret hO dX9_text_20
set_option maxHeartbeats 4000000 in
set_option maxRecDepth 100000 in
theorem ca_X9_text {E : gj_E} {X : gj_X} {own : String} {cc : ByteArray} {nL : Nat} {rt : Option FieldType} {fr lo : Nat} {r : Option gj_V} {τ : gj_S} {pc : Nat} {lv : List (Nat × gj_V)} {st : List gj_V} {σ : gj_S} (hO : gj_O E X own cc nL rt fr lo) {b1 : Int32}  {idx : Nat} {x : (Int32 × gj_S)} (hf : f_X9_text b1 σ = some x) (hl : Cond.methodLink own idx yX9_text ∈ gj_gw) (hf1 : 14 ≤ fr) (hf2 : 369 ≤ lo) (hcat : ((st.map (gj_tv E.2.1)).map fun v => v.category).sum ≤ 8) (hd : decode cc pc = .ok (.invokevirtual idx, 3)) (k : gj_G E X nL r τ (pc + 3) lv ((gj_i x.1) :: st) x.2) : gj_G E X nL r τ pc lv (gj_i b1 :: gj_r 188 :: st) σ :=
  gj_callV hO (o := 188) (vs := [gj_i b1]) (m_X9_text  hf) hl wk_712 wk_713 wk_607 wk_714 kl_188 kd_188 (by decide) (ci := 9) rfl (n := 1) (by decide +kernel) rfl hf1 hf2 rfl hcat hd k
