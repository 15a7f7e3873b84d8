def fb_X8_putBytes_l3 (b1 : Int32) (a1 : (Int32 × gj_S)) : Option (gj_S ⊕ (Int32 × gj_S)) := (if a1.1 < 0 then some (.inl a1.2) else (if (600 : Int32) ≤ (a1.2.1 0 1) then some (.inl a1.2) else (if gj_in (a1.2.1 0 1) 600 then ((some (gj_sI (gj_sI a1.2 1 (upd (a1.2.1 1) (Int32.toNatClampNeg (a1.2.1 0 1)) (vp_nar .byte (Int8.toInt32 (Int32.toInt8 (b1 >>> (a1.1 &&& 31))))))) 0 (upd ((gj_sI a1.2 1 (upd (a1.2.1 1) (Int32.toNatClampNeg (a1.2.1 0 1)) (vp_nar .byte (Int8.toInt32 (Int32.toInt8 (b1 >>> (a1.1 &&& 31))))))).1 0) 1 (((gj_sI a1.2 1 (upd (a1.2.1 1) (Int32.toNatClampNeg (a1.2.1 0 1)) (vp_nar .byte (Int8.toInt32 (Int32.toInt8 (b1 >>> (a1.1 &&& 31))))))).1 0 1) + (1 : Int32))))).bind fun s4 => some (.inr ((a1.1 + (-8)), s4))) else none)))
def f_X8_putBytes (b1 : Int32) (σ : gj_S) : Option gj_S := ((gj_lp (fb_X8_putBytes_l3 b1) 5000 ((24 : Int32), σ)).bind fun z1 => some z1)
set_option maxHeartbeats 4000000 in
set_option maxRecDepth 100000 in
theorem sb_X8_putBytes_l3 {E : gj_E} {X : gj_X} {r : Option gj_V} {τ : gj_S} (hO : gj_O E X RX8 cX8_putBytes 3 none 0 0) {b1 : Int32} {a1 : (Int32 × gj_S)} {x : gj_S ⊕ (Int32 × gj_S)} (hf : fb_X8_putBytes_l3 b1 a1 = some x) (K : gj_K (fun z1 => gj_G E X 3 r τ 46 [] [] z1) (fun a1 => gj_G E X 3 r τ 3 [(0, gj_r 0), (1, gj_i b1), (2, gj_i a1.1)] [] a1.2) x) : gj_G E X 3 r τ 3 [(0, gj_r 0), (1, gj_i b1), (2, gj_i a1.1)] [] a1.2 := by
  unfold fb_X8_putBytes_l3 at hf
  refine gj_iload_n hO 2 dX8_putBytes_3 rfl rfl ?_
  refine gj_if_lt (tgt := 46) hO dX8_putBytes_4 (by decide) (fun h => ?_) (fun h => ?_)
  · replace hf := gj_t h hf
    obtain rfl := Option.some.inj hf
    refine gj_sub [] rfl ?_
    exact K
  · replace hf := gj_f h hf
    refine gj_aload_n hO 0 dX8_putBytes_7 rfl rfl ?_
    refine gt_X8_1 hO wk_0 dX8_putBytes_8 ?_
    refine gj_sipush (v := 600) hO dX8_putBytes_11 (by decide) ?_
    refine gj_icmp_ge (tgt := 46) hO dX8_putBytes_14 (by decide) (fun h => ?_) (fun h => ?_)
    · replace hf := gj_t h hf
      obtain rfl := Option.some.inj hf
      refine gj_sub [] rfl ?_
      exact K
    · replace hf := gj_f h hf
      refine gj_aload_n hO 0 dX8_putBytes_17 rfl rfl ?_
      refine gt_X8_0 hO wk_1 dX8_putBytes_18 ?_
      refine gj_aload_n hO 0 dX8_putBytes_21 rfl rfl ?_
      refine gt_X8_1 hO wk_0 dX8_putBytes_22 ?_
      refine gj_iload_n hO 1 dX8_putBytes_25 rfl rfl ?_
      refine gj_iload_n hO 2 dX8_putBytes_26 rfl rfl ?_
      refine gj_ishr hO dX8_putBytes_27 ?_
      refine gj_i2b hO dX8_putBytes_28 ?_
      obtain ⟨hb3, hf⟩ := gj_c hf
      refine gj_bast hO kl_1 kd_1 hb3 dX8_putBytes_29 ?_
      refine gj_aload_n hO 0 dX8_putBytes_30 rfl rfl ?_
      refine gj_dup hO dX8_putBytes_31 trivial ?_
      refine gt_X8_1 hO wk_0 dX8_putBytes_32 ?_
      refine gj_iconst (v := 1) hO dX8_putBytes_35 (by decide) ?_
      refine gj_iadd hO dX8_putBytes_36 ?_
      refine pt_X8_1 hO wk_0 dX8_putBytes_37 ?_
      obtain ⟨s4, e4, hf⟩ := gj_b hf
      refine gj_eqS (Option.some.inj e4) ?_
      refine gj_iinc (v := (a1.1 + (-8))) (lv2 := [(2, gj_i (a1.1 + (-8))), (0, gj_r 0), (1, gj_i b1)]) hO 2 dX8_putBytes_40 rfl rfl (by decide) rfl ?_
      refine gj_goto (tgt := 3) hO dX8_putBytes_43 (by decide) ?_
      obtain rfl := Option.some.inj hf
      refine gj_sub [1, 2, 0] rfl ?_
      exact K
set_option maxHeartbeats 4000000 in
set_option maxRecDepth 100000 in
theorem m_X8_putBytes {E : gj_E} {σ : gj_S} {b1 : Int32}  {x : gj_S} (hf : f_X8_putBytes b1 σ = some x) : gj_M E yX8_putBytes cX8_putBytes 3 none 0 0 [gj_r 0, gj_i b1] σ none x := by
  refine gj_body (lv := [(0, gj_r 0), (1, gj_i b1)]) (by decide +kernel) (Nat.le_of_ble_eq_true rfl) rfl (fun X hO => ?_)
  replace hO : gj_O E X RX8 cX8_putBytes 3 none 0 0 := hO
  unfold f_X8_putBytes at hf
  refine gj_bipush (v := 24) hO dX8_putBytes_0 (by decide) ?_
  refine gj_istore_n (lv2 := [(2, gj_i (24 : Int32)), (0, gj_r 0), (1, gj_i b1)]) hO dX8_putBytes_2 rfl (by decide) rfl ?_
  obtain ⟨z1, hz1, hf⟩ := gj_b hf
  have J1 : gj_G E X 3 none x 46 [] [] z1 := by
    obtain rfl := Option.some.inj hf
    exact gj_vret hO dX8_putBytes_46
  refine gj_sub [1, 2, 0] rfl ?_
  exact gj_loop (head := fun a1 => gj_G E X 3 none x 3 [(0, gj_r 0), (1, gj_i b1), (2, gj_i a1.1)] [] a1.2) (exit := fun z1 => gj_G E X 3 none x 46 [] [] z1) (fun a1 x hf K => sb_X8_putBytes_l3 hO hf K) _ _ _ hz1 J1
set_option maxHeartbeats 4000000 in
set_option maxRecDepth 100000 in
theorem ca_X8_putBytes {E : gj_E} {X : gj_X} {own : String} {cc : ByteArray} {nL : Nat} {rt : Option FieldType} {fr lo : Nat} {r : Option gj_V} {τ : gj_S} {pc : Nat} {lv : List (Nat × gj_V)} {st : List gj_V} {σ : gj_S} (hO : gj_O E X own cc nL rt fr lo) {b1 : Int32}  {idx : Nat} {x : gj_S} (hf : f_X8_putBytes b1 σ = some x) (hl : Cond.methodLink own idx yX8_putBytes ∈ gj_gw) (hf1 : 1 ≤ fr) (hf2 : 22 ≤ lo) (hcat : ((st.map (gj_tv E.2.1)).map fun v => v.category).sum ≤ 8) (hd : decode cc pc = .ok (.invokevirtual idx, 3)) (k : gj_G E X nL r τ (pc + 3) lv (st) x) : gj_G E X nL r τ pc lv (gj_i b1 :: gj_r 0 :: st) σ :=
  gj_callV hO (o := 0) (vs := [gj_i b1]) (m_X8_putBytes  hf) hl wk_2 wk_3 wk_4 wk_5 kl_0 kd_0 (by decide) (ci := 8) rfl (n := 1) (by decide +kernel) rfl hf1 hf2 rfl hcat hd k
def f_X8_feed (b1 : Int32) (b2 : Int32) (b3 : Int32) (b4 : Int32) (b5 : Int32) (σ : gj_S) : Option (Int32 × gj_S) := (if ((σ.1 0 1) + (20 : Int32)) ≤ (600 : Int32) then ((f_X8_putBytes b1 σ).bind fun x1 => ((f_X8_putBytes b2 x1).bind fun x2 => ((f_X8_putBytes b3 x2).bind fun x3 => ((f_X8_putBytes b4 x3).bind fun x4 => ((f_X8_putBytes b5 x4).bind fun x5 => some ((x5.1 0 1), x5)))))) else some ((-1 : Int32), σ))
set_option maxHeartbeats 4000000 in
set_option maxRecDepth 100000 in
theorem m_X8_feed {E : gj_E} {σ : gj_S} {b1 : Int32} {b2 : Int32} {b3 : Int32} {b4 : Int32} {b5 : Int32}  {x : (Int32 × gj_S)} (hf : f_X8_feed b1 b2 b3 b4 b5 σ = some x) : gj_M E yX8_feed cX8_feed 6 (some .int) 1 22 [gj_r 0, gj_i b1, gj_i b2, gj_i b3, gj_i b4, gj_i b5] σ (some (gj_i x.1)) x.2 := by
  refine gj_body (lv := [(0, gj_r 0), (1, gj_i b1), (2, gj_i b2), (3, gj_i b3), (4, gj_i b4), (5, gj_i b5)]) (by decide +kernel) (Nat.le_of_ble_eq_true rfl) rfl (fun X hO => ?_)
  replace hO : gj_O E X RX8 cX8_feed 6 (some .int) 1 22 := hO
  unfold f_X8_feed at hf
  refine gj_aload_n hO 0 dX8_feed_0 rfl rfl ?_
  refine gt_X8_1 hO wk_0 dX8_feed_1 ?_
  refine gj_bipush (v := 20) hO dX8_feed_4 (by decide) ?_
  refine gj_iadd hO dX8_feed_6 ?_
  refine gj_sipush (v := 600) hO dX8_feed_7 (by decide) ?_
  refine gj_icmp_le (tgt := 15) hO dX8_feed_10 (by decide) (fun h => ?_) (fun h => ?_)
  · replace hf := gj_t h hf
    refine gj_aload_n hO 0 dX8_feed_15 rfl rfl ?_
    refine gj_iload_n hO 1 dX8_feed_16 rfl rfl ?_
    obtain ⟨x1, hc1, hf⟩ := gj_b hf
    refine ca_X8_putBytes hO  hc1 wk_6 (by decide) (by decide) (Nat.le_of_ble_eq_true rfl) dX8_feed_17 ?_
    refine gj_aload_n hO 0 dX8_feed_20 rfl rfl ?_
    refine gj_iload_n hO 2 dX8_feed_21 rfl rfl ?_
    obtain ⟨x2, hc2, hf⟩ := gj_b hf
    refine ca_X8_putBytes hO  hc2 wk_6 (by decide) (by decide) (Nat.le_of_ble_eq_true rfl) dX8_feed_22 ?_
    refine gj_aload_n hO 0 dX8_feed_25 rfl rfl ?_
    refine gj_iload_n hO 3 dX8_feed_26 rfl rfl ?_
    obtain ⟨x3, hc3, hf⟩ := gj_b hf
    refine ca_X8_putBytes hO  hc3 wk_6 (by decide) (by decide) (Nat.le_of_ble_eq_true rfl) dX8_feed_27 ?_
    refine gj_aload_n hO 0 dX8_feed_30 rfl rfl ?_
    refine gj_iload hO 4 dX8_feed_31 rfl ?_
    obtain ⟨x4, hc4, hf⟩ := gj_b hf
    refine ca_X8_putBytes hO  hc4 wk_6 (by decide) (by decide) (Nat.le_of_ble_eq_true rfl) dX8_feed_33 ?_
    refine gj_aload_n hO 0 dX8_feed_36 rfl rfl ?_
    refine gj_iload hO 5 dX8_feed_37 rfl ?_
    obtain ⟨x5, hc5, hf⟩ := gj_b hf
    refine ca_X8_putBytes hO  hc5 wk_6 (by decide) (by decide) (Nat.le_of_ble_eq_true rfl) dX8_feed_39 ?_
    refine gj_aload_n hO 0 dX8_feed_42 rfl rfl ?_
    refine gt_X8_1 hO wk_0 dX8_feed_43 ?_
    obtain rfl := Option.some.inj hf
    exact gj_iret hO dX8_feed_46
  · replace hf := gj_f h hf
    refine gj_iconst (v := (-1)) hO dX8_feed_13 (by decide) ?_
    obtain rfl := Option.some.inj hf
    exact gj_iret hO dX8_feed_14
set_option maxHeartbeats 4000000 in
set_option maxRecDepth 100000 in
theorem ca_X8_feed {E : gj_E} {X : gj_X} {own : String} {cc : ByteArray} {nL : Nat} {rt : Option FieldType} {fr lo : Nat} {r : Option gj_V} {τ : gj_S} {pc : Nat} {lv : List (Nat × gj_V)} {st : List gj_V} {σ : gj_S} (hO : gj_O E X own cc nL rt fr lo) {b1 : Int32} {b2 : Int32} {b3 : Int32} {b4 : Int32} {b5 : Int32}  {idx : Nat} {x : (Int32 × gj_S)} (hf : f_X8_feed b1 b2 b3 b4 b5 σ = some x) (hl : Cond.methodLink own idx yX8_feed ∈ gj_gw) (hf1 : 2 ≤ fr) (hf2 : 47 ≤ lo) (hcat : ((st.map (gj_tv E.2.1)).map fun v => v.category).sum ≤ 8) (hd : decode cc pc = .ok (.invokevirtual idx, 3)) (k : gj_G E X nL r τ (pc + 3) lv ((gj_i x.1) :: st) x.2) : gj_G E X nL r τ pc lv (gj_i b5 :: gj_i b4 :: gj_i b3 :: gj_i b2 :: gj_i b1 :: gj_r 0 :: st) σ :=
  gj_callV hO (o := 0) (vs := [gj_i b1, gj_i b2, gj_i b3, gj_i b4, gj_i b5]) (m_X8_feed  hf) hl wk_7 wk_8 wk_4 wk_9 kl_0 kd_0 (by decide) (ci := 8) rfl (n := 5) (by decide +kernel) rfl hf1 hf2 rfl hcat hd k
def f_X1_tellNothing (b0 : Nat) (σ : gj_S) : Option gj_S := ((some (gj_sI (gj_sI (gj_sI σ b0 (upd (σ.1 b0) 0 (0 : Int32))) b0 (upd ((gj_sI σ b0 (upd (σ.1 b0) 0 (0 : Int32))).1 b0) 1 (0 : Int32))) b0 (upd ((gj_sI (gj_sI σ b0 (upd (σ.1 b0) 0 (0 : Int32))) b0 (upd ((gj_sI σ b0 (upd (σ.1 b0) 0 (0 : Int32))).1 b0) 1 (0 : Int32))).1 b0) 2 (4 : Int32)))).bind fun s1 => some s1)
set_option maxHeartbeats 4000000 in
set_option maxRecDepth 100000 in
theorem m_X1_tellNothing {E : gj_E} {σ : gj_S} {b0 : Nat} (g0 : isP b0) {x : gj_S} (hf : f_X1_tellNothing b0 σ = some x) : gj_M E yX1_tellNothing cX1_tellNothing 1 none 0 0 [gj_r b0] σ none x := by
  refine gj_body (lv := [(0, gj_r b0)]) (by decide +kernel) (Nat.le_of_ble_eq_true rfl) rfl (fun X hO => ?_)
  replace hO : gj_O E X RX1 cX1_tellNothing 1 none 0 0 := hO
  unfold f_X1_tellNothing at hf
  refine gj_aload_n hO 0 dX1_tellNothing_0 rfl rfl ?_
  refine gj_iconst (v := 0) hO dX1_tellNothing_1 (by decide) ?_
  refine pt_X1_0 hO (kdP_0 g0) (klP_0 g0) wk_10 dX1_tellNothing_2 ?_
  refine gj_aload_n hO 0 dX1_tellNothing_5 rfl rfl ?_
  refine gj_iconst (v := 0) hO dX1_tellNothing_6 (by decide) ?_
  refine pt_X1_1 hO (kdP_0 g0) (klP_0 g0) wk_11 dX1_tellNothing_7 ?_
  refine gj_aload_n hO 0 dX1_tellNothing_10 rfl rfl ?_
  refine gj_iconst (v := 4) hO dX1_tellNothing_11 (by decide) ?_
  refine pt_X1_2 hO (kdP_0 g0) (klP_0 g0) wk_12 dX1_tellNothing_12 ?_
  obtain ⟨s1, e1, hf⟩ := gj_b hf
  refine gj_eqS (Option.some.inj e1) ?_
  obtain rfl := Option.some.inj hf
  exact gj_vret hO dX1_tellNothing_15
set_option maxHeartbeats 4000000 in
set_option maxRecDepth 100000 in
theorem ca_X1_tellNothing {E : gj_E} {X : gj_X} {own : String} {cc : ByteArray} {nL : Nat} {rt : Option FieldType} {fr lo : Nat} {r : Option gj_V} {τ : gj_S} {pc : Nat} {lv : List (Nat × gj_V)} {st : List gj_V} {σ : gj_S} (hO : gj_O E X own cc nL rt fr lo) {b0 : Nat} (g0 : isP b0) {idx : Nat} {x : gj_S} (hf : f_X1_tellNothing b0 σ = some x) (hl : Cond.methodLink own idx yX1_tellNothing ∈ gj_gw) (hf1 : 1 ≤ fr) (hf2 : 20 ≤ lo) (hcat : ((st.map (gj_tv E.2.1)).map fun v => v.category).sum ≤ 8) (hd : decode cc pc = .ok (.invokevirtual idx, 3)) (k : gj_G E X nL r τ (pc + 3) lv (st) x) : gj_G E X nL r τ pc lv (gj_r b0 :: st) σ :=
  gj_callV hO (o := b0) (vs := []) (m_X1_tellNothing g0 hf) hl wk_13 wk_14 wk_15 wk_16 (klP_0 g0) (kdP_0 g0) (by decide) (ci := 1) rfl (n := 0) (by decide +kernel) rfl hf1 hf2 rfl hcat hd k
def f_X2_kindOf (b0 : Int32) : Option Int32 := (if b0 < (97 : Int32) then (if b0 < (48 : Int32) then (if b0 = (59 : Int32) then some (2 : Int32) else some (4 : Int32)) else (if (57 : Int32) < b0 then (if b0 = (59 : Int32) then some (2 : Int32) else some (4 : Int32)) else some (1 : Int32))) else (if (122 : Int32) < b0 then (if b0 < (48 : Int32) then (if b0 = (59 : Int32) then some (2 : Int32) else some (4 : Int32)) else (if (57 : Int32) < b0 then (if b0 = (59 : Int32) then some (2 : Int32) else some (4 : Int32)) else some (1 : Int32))) else some (0 : Int32)))
set_option maxHeartbeats 4000000 in
set_option maxRecDepth 100000 in
theorem m_X2_kindOf {E : gj_E} {σ : gj_S} {b0 : Int32}  {x : Int32} (hf : f_X2_kindOf b0 = some x) : gj_M E yX2_kindOf cX2_kindOf 1 (some .int) 0 0 [gj_i b0] σ (some (gj_i x)) σ := by
  refine gj_body (lv := [(0, gj_i b0)]) (by decide +kernel) (Nat.le_of_ble_eq_true rfl) rfl (fun X hO => ?_)
  replace hO : gj_O E X RX2 cX2_kindOf 1 (some .int) 0 0 := hO
  unfold f_X2_kindOf at hf
  refine gj_iload_n hO 0 dX2_kindOf_0 rfl rfl ?_
  refine gj_bipush (v := 97) hO dX2_kindOf_1 (by decide) ?_
  refine gj_icmp_lt (tgt := 14) hO dX2_kindOf_3 (by decide) (fun h => ?_) (fun h => ?_)
  · replace hf := gj_t h hf
    refine gj_iload_n hO 0 dX2_kindOf_14 rfl rfl ?_
    refine gj_bipush (v := 48) hO dX2_kindOf_15 (by decide) ?_
    refine gj_icmp_lt (tgt := 28) hO dX2_kindOf_17 (by decide) (fun h => ?_) (fun h => ?_)
    · replace hf := gj_t h hf
      refine gj_iload_n hO 0 dX2_kindOf_28 rfl rfl ?_
      refine gj_bipush (v := 59) hO dX2_kindOf_29 (by decide) ?_
      refine gj_icmp_ne (tgt := 38) hO dX2_kindOf_31 (by decide) (fun h => ?_) (fun h => ?_)
      · replace hf := gj_f h hf
        refine gj_iconst (v := 4) hO dX2_kindOf_38 (by decide) ?_
        obtain rfl := Option.some.inj hf
        exact gj_iret hO dX2_kindOf_39
      · replace hf := gj_t h hf
        refine gj_iconst (v := 2) hO dX2_kindOf_34 (by decide) ?_
        refine gj_goto (tgt := 39) hO dX2_kindOf_35 (by decide) ?_
        obtain rfl := Option.some.inj hf
        exact gj_iret hO dX2_kindOf_39
    · replace hf := gj_f h hf
      refine gj_iload_n hO 0 dX2_kindOf_20 rfl rfl ?_
      refine gj_bipush (v := 57) hO dX2_kindOf_21 (by decide) ?_
      refine gj_icmp_gt (tgt := 28) hO dX2_kindOf_23 (by decide) (fun h => ?_) (fun h => ?_)
      · replace hf := gj_t h hf
        refine gj_iload_n hO 0 dX2_kindOf_28 rfl rfl ?_
        refine gj_bipush (v := 59) hO dX2_kindOf_29 (by decide) ?_
        refine gj_icmp_ne (tgt := 38) hO dX2_kindOf_31 (by decide) (fun h => ?_) (fun h => ?_)
        · replace hf := gj_f h hf
          refine gj_iconst (v := 4) hO dX2_kindOf_38 (by decide) ?_
          obtain rfl := Option.some.inj hf
          exact gj_iret hO dX2_kindOf_39
        · replace hf := gj_t h hf
          refine gj_iconst (v := 2) hO dX2_kindOf_34 (by decide) ?_
          refine gj_goto (tgt := 39) hO dX2_kindOf_35 (by decide) ?_
          obtain rfl := Option.some.inj hf
          exact gj_iret hO dX2_kindOf_39
      · replace hf := gj_f h hf
        refine gj_iconst (v := 1) hO dX2_kindOf_26 (by decide) ?_
        obtain rfl := Option.some.inj hf
        exact gj_iret hO dX2_kindOf_27
  · replace hf := gj_f h hf
    refine gj_iload_n hO 0 dX2_kindOf_6 rfl rfl ?_
    refine gj_bipush (v := 122) hO dX2_kindOf_7 (by decide) ?_
    refine gj_icmp_gt (tgt := 14) hO dX2_kindOf_9 (by decide) (fun h => ?_) (fun h => ?_)
    · replace hf := gj_t h hf
      refine gj_iload_n hO 0 dX2_kindOf_14 rfl rfl ?_
      refine gj_bipush (v := 48) hO dX2_kindOf_15 (by decide) ?_
      refine gj_icmp_lt (tgt := 28) hO dX2_kindOf_17 (by decide) (fun h => ?_) (fun h => ?_)
      · replace hf := gj_t h hf
        refine gj_iload_n hO 0 dX2_kindOf_28 rfl rfl ?_
        refine gj_bipush (v := 59) hO dX2_kindOf_29 (by decide) ?_
        refine gj_icmp_ne (tgt := 38) hO dX2_kindOf_31 (by decide) (fun h => ?_) (fun h => ?_)
        · replace hf := gj_f h hf
          refine gj_iconst (v := 4) hO dX2_kindOf_38 (by decide) ?_
          obtain rfl := Option.some.inj hf
          exact gj_iret hO dX2_kindOf_39
        · replace hf := gj_t h hf
          refine gj_iconst (v := 2) hO dX2_kindOf_34 (by decide) ?_
          refine gj_goto (tgt := 39) hO dX2_kindOf_35 (by decide) ?_
          obtain rfl := Option.some.inj hf
          exact gj_iret hO dX2_kindOf_39
      · replace hf := gj_f h hf
        refine gj_iload_n hO 0 dX2_kindOf_20 rfl rfl ?_
        refine gj_bipush (v := 57) hO dX2_kindOf_21 (by decide) ?_
        refine gj_icmp_gt (tgt := 28) hO dX2_kindOf_23 (by decide) (fun h => ?_) (fun h => ?_)
        · replace hf := gj_t h hf
          refine gj_iload_n hO 0 dX2_kindOf_28 rfl rfl ?_
          refine gj_bipush (v := 59) hO dX2_kindOf_29 (by decide) ?_
          refine gj_icmp_ne (tgt := 38) hO dX2_kindOf_31 (by decide) (fun h => ?_) (fun h => ?_)
          · replace hf := gj_f h hf
            refine gj_iconst (v := 4) hO dX2_kindOf_38 (by decide) ?_
            obtain rfl := Option.some.inj hf
            exact gj_iret hO dX2_kindOf_39
          · replace hf := gj_t h hf
            refine gj_iconst (v := 2) hO dX2_kindOf_34 (by decide) ?_
            refine gj_goto (tgt := 39) hO dX2_kindOf_35 (by decide) ?_
            obtain rfl := Option.some.inj hf
            exact gj_iret hO dX2_kindOf_39
        · replace hf := gj_f h hf
          refine gj_iconst (v := 1) hO dX2_kindOf_26 (by decide) ?_
          obtain rfl := Option.some.inj hf
          exact gj_iret hO dX2_kindOf_27
    · replace hf := gj_f h hf
      refine gj_iconst (v := 0) hO dX2_kindOf_12 (by decide) ?_
      obtain rfl := Option.some.inj hf
      exact gj_iret hO dX2_kindOf_13
set_option maxHeartbeats 4000000 in
set_option maxRecDepth 100000 in
theorem ca_X2_kindOf {E : gj_E} {X : gj_X} {own : String} {cc : ByteArray} {nL : Nat} {rt : Option FieldType} {fr lo : Nat} {r : Option gj_V} {τ : gj_S} {pc : Nat} {lv : List (Nat × gj_V)} {st : List gj_V} {σ : gj_S} (hO : gj_O E X own cc nL rt fr lo) {b0 : Int32}  {idx : Nat} {x : Int32} (hf : f_X2_kindOf b0 = some x) (hl : Cond.methodLink own idx yX2_kindOf ∈ gj_gw) (hf1 : 1 ≤ fr) (hf2 : 20 ≤ lo) (hcat : ((st.map (gj_tv E.2.1)).map fun v => v.category).sum ≤ 8) (hd : decode cc pc = .ok (.invokestatic idx, 3)) (k : gj_G E X nL r τ (pc + 3) lv ((gj_i x) :: st) σ) : gj_G E X nL r τ pc lv (gj_i b0 :: st) σ :=
  gj_callS hO (vs := [gj_i b0]) (m_X2_kindOf (σ := σ)  hf) hl wk_17 wk_18 wk_19 (n := 1) (by decide +kernel) rfl hf1 hf2 rfl hcat hd k
def fb_X2_readToken_l0  (a1 : gj_S) : Option (gj_S ⊕ gj_S) := (if (a1.1 2 6) ≤ (a1.1 2 5) then some (.inl a1) else (if a1.2.2 = 1 then (if gj_in (a1.1 2 5) 600 then (if (a1.1 1 (Int32.toNatClampNeg (a1.1 2 5))) = (32 : Int32) then some (.inr (gj_sI a1 2 (upd (a1.1 2) 5 ((a1.1 2 5) + (1 : Int32))))) else (if a1.2.2 = 1 then (if gj_in (a1.1 2 5) 600 then (if (a1.1 1 (Int32.toNatClampNeg (a1.1 2 5))) = (10 : Int32) then some (.inr (gj_sI a1 2 (upd (a1.1 2) 5 ((a1.1 2 5) + (1 : Int32))))) else some (.inl a1)) else none) else none)) else none) else none))
def fb_X2_readToken_l122  (a13 : gj_S) : Option (gj_S ⊕ gj_S) := (if (a13.1 2 6) ≤ (a13.1 2 5) then some (.inl a13) else (if (a13.1 2 7) = 0 then (if a13.2.2 = 1 then (if gj_in (a13.1 2 5) 600 then ((f_X2_kindOf (a13.1 1 (Int32.toNatClampNeg (a13.1 2 5)))).bind fun x17 => (if x17 = (a13.1 2 7) then ((if (a13.1 2 7) = 0 then (if a13.2.2 = 1 then (if gj_in (a13.1 2 5) 600 then some (((a13.2.1 2 9) <<< (Int32.toInt64 (8 : Int32) &&& 63)) ||| (Int32.toInt64 (a13.1 1 (Int32.toNatClampNeg (a13.1 2 5))))) else none) else none) else (if a13.2.2 = 1 then (if gj_in (a13.1 2 5) 600 then some ((((a13.2.1 2 9) * (10 : Int64)) + (Int32.toInt64 (a13.1 1 (Int32.toNatClampNeg (a13.1 2 5))))) - (48 : Int64)) else none) else none) : Option Int64).bind fun z18 => ((some (gj_sI (gj_sJ a13 2 (vp_updL (a13.2.1 2) 9 z18)) 2 (upd ((gj_sJ a13 2 (vp_updL (a13.2.1 2) 9 z18)).1 2) 5 (((gj_sJ a13 2 (vp_updL (a13.2.1 2) 9 z18)).1 2 5) + (1 : Int32))))).bind fun s23 => some (.inr s23))) else some (.inl a13))) else none) else none) else (if (a13.1 2 7) = (1 : Int32) then (if a13.2.2 = 1 then (if gj_in (a13.1 2 5) 600 then ((f_X2_kindOf (a13.1 1 (Int32.toNatClampNeg (a13.1 2 5)))).bind fun x26 => (if x26 = (a13.1 2 7) then ((if (a13.1 2 7) = 0 then (if a13.2.2 = 1 then (if gj_in (a13.1 2 5) 600 then some (((a13.2.1 2 9) <<< (Int32.toInt64 (8 : Int32) &&& 63)) ||| (Int32.toInt64 (a13.1 1 (Int32.toNatClampNeg (a13.1 2 5))))) else none) else none) else (if a13.2.2 = 1 then (if gj_in (a13.1 2 5) 600 then some ((((a13.2.1 2 9) * (10 : Int64)) + (Int32.toInt64 (a13.1 1 (Int32.toNatClampNeg (a13.1 2 5))))) - (48 : Int64)) else none) else none) : Option Int64).bind fun z27 => ((some (gj_sI (gj_sJ a13 2 (vp_updL (a13.2.1 2) 9 z27)) 2 (upd ((gj_sJ a13 2 (vp_updL (a13.2.1 2) 9 z27)).1 2) 5 (((gj_sJ a13 2 (vp_updL (a13.2.1 2) 9 z27)).1 2 5) + (1 : Int32))))).bind fun s32 => some (.inr s32))) else some (.inl a13))) else none) else none) else some (.inl a13))))
def f_X2_readToken  (σ : gj_S) : Option gj_S := ((gj_lp (fb_X2_readToken_l0) 5000 σ).bind fun z1 => ((if ((gj_sJ (gj_sI z1 2 (upd (z1.1 2) 8 (z1.1 2 5))) 2 (vp_updL ((gj_sI z1 2 (upd (z1.1 2) 8 (z1.1 2 5))).2.1 2) 9 (0 : Int64))).1 2 6) ≤ ((gj_sJ (gj_sI z1 2 (upd (z1.1 2) 8 (z1.1 2 5))) 2 (vp_updL ((gj_sI z1 2 (upd (z1.1 2) 8 (z1.1 2 5))).2.1 2) 9 (0 : Int64))).1 2 5) then some (3 : Int32) else (if (gj_sJ (gj_sI z1 2 (upd (z1.1 2) 8 (z1.1 2 5))) 2 (vp_updL ((gj_sI z1 2 (upd (z1.1 2) 8 (z1.1 2 5))).2.1 2) 9 (0 : Int64))).2.2 = 1 then (if gj_in ((gj_sJ (gj_sI z1 2 (upd (z1.1 2) 8 (z1.1 2 5))) 2 (vp_updL ((gj_sI z1 2 (upd (z1.1 2) 8 (z1.1 2 5))).2.1 2) 9 (0 : Int64))).1 2 5) 600 then ((f_X2_kindOf ((gj_sJ (gj_sI z1 2 (upd (z1.1 2) 8 (z1.1 2 5))) 2 (vp_updL ((gj_sI z1 2 (upd (z1.1 2) 8 (z1.1 2 5))).2.1 2) 9 (0 : Int64))).1 1 (Int32.toNatClampNeg ((gj_sJ (gj_sI z1 2 (upd (z1.1 2) 8 (z1.1 2 5))) 2 (vp_updL ((gj_sI z1 2 (upd (z1.1 2) 8 (z1.1 2 5))).2.1 2) 9 (0 : Int64))).1 2 5)))).bind fun x10 => some x10) else none) else none) : Option Int32).bind fun z7 => ((some (gj_sI (gj_sJ (gj_sI z1 2 (upd (z1.1 2) 8 (z1.1 2 5))) 2 (vp_updL ((gj_sI z1 2 (upd (z1.1 2) 8 (z1.1 2 5))).2.1 2) 9 (0 : Int64))) 2 (upd ((gj_sJ (gj_sI z1 2 (upd (z1.1 2) 8 (z1.1 2 5))) 2 (vp_updL ((gj_sI z1 2 (upd (z1.1 2) 8 (z1.1 2 5))).2.1 2) 9 (0 : Int64))).1 2) 7 z7))).bind fun s11 => ((if (s11.1 2 7) = (2 : Int32) then some (gj_sI s11 2 (upd (s11.1 2) 5 ((s11.1 2 5) + (1 : Int32)))) else (if (s11.1 2 7) = (4 : Int32) then some (gj_sI s11 2 (upd (s11.1 2) 5 ((s11.1 2 5) + (1 : Int32)))) else some s11) : Option gj_S).bind fun z12 => ((gj_lp (fb_X2_readToken_l122) 5000 z12).bind fun z13 => ((if (z13.1 2 7) = (1 : Int32) then some (4 : Int32) else some (6 : Int32) : Option Int32).bind fun z33 => (if ((z13.1 2 5) - (z13.1 2 8)) ≤ z33 then some z13 else some (gj_sI z13 2 (upd (z13.1 2) 7 (4 : Int32))))))))))
set_option maxHeartbeats 4000000 in
set_option maxRecDepth 100000 in
theorem sb_X2_readToken_l0 {E : gj_E} {X : gj_X} {r : Option gj_V} {τ : gj_S} (hO : gj_O E X RX2 cX2_readToken 2 none 1 20)  {a1 : gj_S} {x : gj_S ⊕ gj_S} (hf : fb_X2_readToken_l0  a1 = some x) (K : gj_K (fun z1 => gj_G E X 2 r τ 52 [(0, gj_r 2)] [] z1) (fun a1 => gj_G E X 2 r τ 0 [(0, gj_r 2)] [] a1) x) : gj_G E X 2 r τ 0 [(0, gj_r 2)] [] a1 := by
  unfold fb_X2_readToken_l0 at hf
  refine gj_aload_n hO 0 dX2_readToken_0 rfl rfl ?_
  refine gt_X2_5 hO wk_20 dX2_readToken_1 ?_
  refine gj_aload_n hO 0 dX2_readToken_4 rfl rfl ?_
  refine gt_X2_6 hO wk_21 dX2_readToken_5 ?_
  refine gj_icmp_ge (tgt := 52) hO dX2_readToken_8 (by decide) (fun h => ?_) (fun h => ?_)
  · replace hf := gj_t h hf
    obtain rfl := Option.some.inj hf
    refine gj_sub [0] rfl ?_
    exact K
  · replace hf := gj_f h hf
    refine gj_aload_n hO 0 dX2_readToken_11 rfl rfl ?_
    obtain ⟨hb3, hf⟩ := gj_c hf
    refine gt_X2_10 hO hb3 wk_22 dX2_readToken_12 ?_
    refine gj_aload_n hO 0 dX2_readToken_15 rfl rfl ?_
    refine gt_X2_5 hO wk_20 dX2_readToken_16 ?_
    obtain ⟨hb4, hf⟩ := gj_c hf
    refine gj_bald hO kl_1 kd_1 hb4 dX2_readToken_19 ?_
    refine gj_bipush (v := 32) hO dX2_readToken_20 (by decide) ?_
    refine gj_icmp_eq (tgt := 39) hO dX2_readToken_22 (by decide) (fun h => ?_) (fun h => ?_)
    · replace hf := gj_t h hf
      refine gj_aload_n hO 0 dX2_readToken_39 rfl rfl ?_
      refine gj_dup hO dX2_readToken_40 trivial ?_
      refine gt_X2_5 hO wk_20 dX2_readToken_41 ?_
      refine gj_iconst (v := 1) hO dX2_readToken_44 (by decide) ?_
      refine gj_iadd hO dX2_readToken_45 ?_
      refine pt_X2_5 hO wk_20 dX2_readToken_46 ?_
      refine gj_goto (tgt := 0) hO dX2_readToken_49 (by decide) ?_
      obtain rfl := Option.some.inj hf
      refine gj_sub [0] rfl ?_
      exact K
    · replace hf := gj_f h hf
      refine gj_aload_n hO 0 dX2_readToken_25 rfl rfl ?_
      obtain ⟨hb5, hf⟩ := gj_c hf
      refine gt_X2_10 hO hb5 wk_22 dX2_readToken_26 ?_
      refine gj_aload_n hO 0 dX2_readToken_29 rfl rfl ?_
      refine gt_X2_5 hO wk_20 dX2_readToken_30 ?_
      obtain ⟨hb6, hf⟩ := gj_c hf
      refine gj_bald hO kl_1 kd_1 hb6 dX2_readToken_33 ?_
      refine gj_bipush (v := 10) hO dX2_readToken_34 (by decide) ?_
      refine gj_icmp_ne (tgt := 52) hO dX2_readToken_36 (by decide) (fun h => ?_) (fun h => ?_)
      · replace hf := gj_f h hf
        obtain rfl := Option.some.inj hf
        refine gj_sub [0] rfl ?_
        exact K
      · replace hf := gj_t h hf
        refine gj_aload_n hO 0 dX2_readToken_39 rfl rfl ?_
        refine gj_dup hO dX2_readToken_40 trivial ?_
        refine gt_X2_5 hO wk_20 dX2_readToken_41 ?_
        refine gj_iconst (v := 1) hO dX2_readToken_44 (by decide) ?_
        refine gj_iadd hO dX2_readToken_45 ?_
        refine pt_X2_5 hO wk_20 dX2_readToken_46 ?_
        refine gj_goto (tgt := 0) hO dX2_readToken_49 (by decide) ?_
        obtain rfl := Option.some.inj hf
        refine gj_sub [0] rfl ?_
        exact K
set_option maxHeartbeats 4000000 in
set_option maxRecDepth 100000 in
theorem sb_X2_readToken_l122 {E : gj_E} {X : gj_X} {r : Option gj_V} {τ : gj_S} (hO : gj_O E X RX2 cX2_readToken 2 none 1 20)  {a13 : gj_S} {x : gj_S ⊕ gj_S} (hf : fb_X2_readToken_l122  a13 = some x) (K : gj_K (fun z13 => gj_G E X 2 r τ 235 [(0, gj_r 2)] [] z13) (fun a13 => gj_G E X 2 r τ 122 [(0, gj_r 2)] [] a13) x) : gj_G E X 2 r τ 122 [(0, gj_r 2)] [] a13 := by
  unfold fb_X2_readToken_l122 at hf
  refine gj_aload_n hO 0 dX2_readToken_122 rfl rfl ?_
  refine gt_X2_5 hO wk_20 dX2_readToken_123 ?_
  refine gj_aload_n hO 0 dX2_readToken_126 rfl rfl ?_
  refine gt_X2_6 hO wk_21 dX2_readToken_127 ?_
  refine gj_icmp_ge (tgt := 235) hO dX2_readToken_130 (by decide) (fun h => ?_) (fun h => ?_)
  · replace hf := gj_t h hf
    obtain rfl := Option.some.inj hf
    refine gj_sub [0] rfl ?_
    exact K
  · replace hf := gj_f h hf
    refine gj_aload_n hO 0 dX2_readToken_133 rfl rfl ?_
    refine gt_X2_7 hO wk_26 dX2_readToken_134 ?_
    refine gj_if_eq (tgt := 148) hO dX2_readToken_137 (by decide) (fun h => ?_) (fun h => ?_)
    · replace hf := gj_t h hf
      refine gj_aload_n hO 0 dX2_readToken_148 rfl rfl ?_
      obtain ⟨hb15, hf⟩ := gj_c hf
      refine gt_X2_10 hO hb15 wk_22 dX2_readToken_149 ?_
      refine gj_aload_n hO 0 dX2_readToken_152 rfl rfl ?_
      refine gt_X2_5 hO wk_20 dX2_readToken_153 ?_
      obtain ⟨hb16, hf⟩ := gj_c hf
      refine gj_bald hO kl_1 kd_1 hb16 dX2_readToken_156 ?_
      obtain ⟨x17, hc17, hf⟩ := gj_b hf
      refine ca_X2_kindOf hO  hc17 wk_25 (by decide) (by decide) (Nat.le_of_ble_eq_true rfl) dX2_readToken_157 ?_
      refine gj_aload_n hO 0 dX2_readToken_160 rfl rfl ?_
      refine gt_X2_7 hO wk_26 dX2_readToken_161 ?_
      refine gj_icmp_ne (tgt := 235) hO dX2_readToken_164 (by decide) (fun h => ?_) (fun h => ?_)
      · replace hf := gj_f h hf
        obtain rfl := Option.some.inj hf
        refine gj_sub [0] rfl ?_
        exact K
      · replace hf := gj_t h hf
        refine gj_aload_n hO 0 dX2_readToken_167 rfl rfl ?_
        refine gj_aload_n hO 0 dX2_readToken_168 rfl rfl ?_
        refine gt_X2_7 hO wk_26 dX2_readToken_169 ?_
        obtain ⟨z18, hz18, hf⟩ := gj_b hf
        have J18 : gj_G E X 2 r τ 219 [(0, gj_r 2)] [gj_l z18, gj_r 2] a13 := by
          refine pt_X2_9 hO wk_24 dX2_readToken_219 ?_
          refine gj_aload_n hO 0 dX2_readToken_222 rfl rfl ?_
          refine gj_dup hO dX2_readToken_223 trivial ?_
          refine gt_X2_5 hO wk_20 dX2_readToken_224 ?_
          refine gj_iconst (v := 1) hO dX2_readToken_227 (by decide) ?_
          refine gj_iadd hO dX2_readToken_228 ?_
          refine pt_X2_5 hO wk_20 dX2_readToken_229 ?_
          obtain ⟨s23, e23, hf⟩ := gj_b hf
          refine gj_eqS (Option.some.inj e23) ?_
          refine gj_goto (tgt := 122) hO dX2_readToken_232 (by decide) ?_
          obtain rfl := Option.some.inj hf
          refine gj_sub [0] rfl ?_
          exact K
        refine gj_if_ne (tgt := 196) hO dX2_readToken_172 (by decide) (fun h => ?_) (fun h => ?_)
        · replace hz18 := gj_f h hz18
          refine gj_aload_n hO 0 dX2_readToken_196 rfl rfl ?_
          refine gt_X2_9 hO wk_24 dX2_readToken_197 ?_
          refine gj_ldc2 hO wk_27 dX2_readToken_200 ?_
          refine gj_lmul hO dX2_readToken_203 ?_
          refine gj_aload_n hO 0 dX2_readToken_204 rfl rfl ?_
          obtain ⟨hb19, hz18⟩ := gj_c hz18
          refine gt_X2_10 hO hb19 wk_22 dX2_readToken_205 ?_
          refine gj_aload_n hO 0 dX2_readToken_208 rfl rfl ?_
          refine gt_X2_5 hO wk_20 dX2_readToken_209 ?_
          obtain ⟨hb20, hz18⟩ := gj_c hz18
          refine gj_bald hO kl_1 kd_1 hb20 dX2_readToken_212 ?_
          refine gj_i2l hO dX2_readToken_213 ?_
          refine gj_ladd hO dX2_readToken_214 ?_
          refine gj_ldc2 hO wk_28 dX2_readToken_215 ?_
          refine gj_lsub hO dX2_readToken_218 ?_
          obtain rfl := Option.some.inj hz18
          refine gj_sub [0] rfl ?_
          exact J18
        · replace hz18 := gj_t h hz18
          refine gj_aload_n hO 0 dX2_readToken_175 rfl rfl ?_
          refine gt_X2_9 hO wk_24 dX2_readToken_176 ?_
          refine gj_bipush (v := 8) hO dX2_readToken_179 (by decide) ?_
          refine gj_lshl hO dX2_readToken_181 ?_
          refine gj_aload_n hO 0 dX2_readToken_182 rfl rfl ?_
          obtain ⟨hb21, hz18⟩ := gj_c hz18
          refine gt_X2_10 hO hb21 wk_22 dX2_readToken_183 ?_
          refine gj_aload_n hO 0 dX2_readToken_186 rfl rfl ?_
          refine gt_X2_5 hO wk_20 dX2_readToken_187 ?_
          obtain ⟨hb22, hz18⟩ := gj_c hz18
          refine gj_bald hO kl_1 kd_1 hb22 dX2_readToken_190 ?_
          refine gj_i2l hO dX2_readToken_191 ?_
          refine gj_lor hO dX2_readToken_192 ?_
          refine gj_goto (tgt := 219) hO dX2_readToken_193 (by decide) ?_
          obtain rfl := Option.some.inj hz18
          refine gj_sub [0] rfl ?_
          exact J18
    · replace hf := gj_f h hf
      refine gj_aload_n hO 0 dX2_readToken_140 rfl rfl ?_
      refine gt_X2_7 hO wk_26 dX2_readToken_141 ?_
      refine gj_iconst (v := 1) hO dX2_readToken_144 (by decide) ?_
      refine gj_icmp_ne (tgt := 235) hO dX2_readToken_145 (by decide) (fun h => ?_) (fun h => ?_)
      · replace hf := gj_f h hf
        obtain rfl := Option.some.inj hf
        refine gj_sub [0] rfl ?_
        exact K
      · replace hf := gj_t h hf
        refine gj_aload_n hO 0 dX2_readToken_148 rfl rfl ?_
        obtain ⟨hb24, hf⟩ := gj_c hf
        refine gt_X2_10 hO hb24 wk_22 dX2_readToken_149 ?_
        refine gj_aload_n hO 0 dX2_readToken_152 rfl rfl ?_
        refine gt_X2_5 hO wk_20 dX2_readToken_153 ?_
        obtain ⟨hb25, hf⟩ := gj_c hf
        refine gj_bald hO kl_1 kd_1 hb25 dX2_readToken_156 ?_
        obtain ⟨x26, hc26, hf⟩ := gj_b hf
        refine ca_X2_kindOf hO  hc26 wk_25 (by decide) (by decide) (Nat.le_of_ble_eq_true rfl) dX2_readToken_157 ?_
        refine gj_aload_n hO 0 dX2_readToken_160 rfl rfl ?_
        refine gt_X2_7 hO wk_26 dX2_readToken_161 ?_
        refine gj_icmp_ne (tgt := 235) hO dX2_readToken_164 (by decide) (fun h => ?_) (fun h => ?_)
        · replace hf := gj_f h hf
          obtain rfl := Option.some.inj hf
          refine gj_sub [0] rfl ?_
          exact K
        · replace hf := gj_t h hf
          refine gj_aload_n hO 0 dX2_readToken_167 rfl rfl ?_
          refine gj_aload_n hO 0 dX2_readToken_168 rfl rfl ?_
          refine gt_X2_7 hO wk_26 dX2_readToken_169 ?_
          obtain ⟨z27, hz27, hf⟩ := gj_b hf
          have J27 : gj_G E X 2 r τ 219 [(0, gj_r 2)] [gj_l z27, gj_r 2] a13 := by
            refine pt_X2_9 hO wk_24 dX2_readToken_219 ?_
            refine gj_aload_n hO 0 dX2_readToken_222 rfl rfl ?_
            refine gj_dup hO dX2_readToken_223 trivial ?_
            refine gt_X2_5 hO wk_20 dX2_readToken_224 ?_
            refine gj_iconst (v := 1) hO dX2_readToken_227 (by decide) ?_
            refine gj_iadd hO dX2_readToken_228 ?_
            refine pt_X2_5 hO wk_20 dX2_readToken_229 ?_
            obtain ⟨s32, e32, hf⟩ := gj_b hf
            refine gj_eqS (Option.some.inj e32) ?_
            refine gj_goto (tgt := 122) hO dX2_readToken_232 (by decide) ?_
            obtain rfl := Option.some.inj hf
            refine gj_sub [0] rfl ?_
            exact K
          refine gj_if_ne (tgt := 196) hO dX2_readToken_172 (by decide) (fun h => ?_) (fun h => ?_)
          · replace hz27 := gj_f h hz27
            refine gj_aload_n hO 0 dX2_readToken_196 rfl rfl ?_
            refine gt_X2_9 hO wk_24 dX2_readToken_197 ?_
            refine gj_ldc2 hO wk_27 dX2_readToken_200 ?_
            refine gj_lmul hO dX2_readToken_203 ?_
            refine gj_aload_n hO 0 dX2_readToken_204 rfl rfl ?_
            obtain ⟨hb28, hz27⟩ := gj_c hz27
            refine gt_X2_10 hO hb28 wk_22 dX2_readToken_205 ?_
            refine gj_aload_n hO 0 dX2_readToken_208 rfl rfl ?_
            refine gt_X2_5 hO wk_20 dX2_readToken_209 ?_
            obtain ⟨hb29, hz27⟩ := gj_c hz27
            refine gj_bald hO kl_1 kd_1 hb29 dX2_readToken_212 ?_
            refine gj_i2l hO dX2_readToken_213 ?_
            refine gj_ladd hO dX2_readToken_214 ?_
            refine gj_ldc2 hO wk_28 dX2_readToken_215 ?_
            refine gj_lsub hO dX2_readToken_218 ?_
            obtain rfl := Option.some.inj hz27
            refine gj_sub [0] rfl ?_
            exact J27
          · replace hz27 := gj_t h hz27
            refine gj_aload_n hO 0 dX2_readToken_175 rfl rfl ?_
            refine gt_X2_9 hO wk_24 dX2_readToken_176 ?_
            refine gj_bipush (v := 8) hO dX2_readToken_179 (by decide) ?_
            refine gj_lshl hO dX2_readToken_181 ?_
            refine gj_aload_n hO 0 dX2_readToken_182 rfl rfl ?_
            obtain ⟨hb30, hz27⟩ := gj_c hz27
            refine gt_X2_10 hO hb30 wk_22 dX2_readToken_183 ?_
            refine gj_aload_n hO 0 dX2_readToken_186 rfl rfl ?_
            refine gt_X2_5 hO wk_20 dX2_readToken_187 ?_
            obtain ⟨hb31, hz27⟩ := gj_c hz27
            refine gj_bald hO kl_1 kd_1 hb31 dX2_readToken_190 ?_
            refine gj_i2l hO dX2_readToken_191 ?_
            refine gj_lor hO dX2_readToken_192 ?_
            refine gj_goto (tgt := 219) hO dX2_readToken_193 (by decide) ?_
            obtain rfl := Option.some.inj hz27
            refine gj_sub [0] rfl ?_
            exact J27
set_option maxHeartbeats 4000000 in
set_option maxRecDepth 100000 in
theorem m_X2_readToken {E : gj_E} {σ : gj_S}   {x : gj_S} (hf : f_X2_readToken  σ = some x) : gj_M E yX2_readToken cX2_readToken 2 none 1 20 [gj_r 2] σ none x := by
  refine gj_body (lv := [(0, gj_r 2)]) (by decide +kernel) (Nat.le_of_ble_eq_true rfl) rfl (fun X hO => ?_)
  replace hO : gj_O E X RX2 cX2_readToken 2 none 1 20 := hO
  unfold f_X2_readToken at hf
  obtain ⟨z1, hz1, hf⟩ := gj_b hf
  have J1 : gj_G E X 2 none x 52 [(0, gj_r 2)] [] z1 := by
    refine gj_aload_n hO 0 dX2_readToken_52 rfl rfl ?_
    refine gj_aload_n hO 0 dX2_readToken_53 rfl rfl ?_
    refine gt_X2_5 hO wk_20 dX2_readToken_54 ?_
    refine pt_X2_8 hO wk_23 dX2_readToken_57 ?_
    refine gj_aload_n hO 0 dX2_readToken_60 rfl rfl ?_
    refine gj_lconst (v := 0) hO dX2_readToken_61 (by decide) ?_
    refine pt_X2_9 hO wk_24 dX2_readToken_62 ?_
    refine gj_aload_n hO 0 dX2_readToken_65 rfl rfl ?_
    refine gj_aload_n hO 0 dX2_readToken_66 rfl rfl ?_
    refine gt_X2_5 hO wk_20 dX2_readToken_67 ?_
    refine gj_aload_n hO 0 dX2_readToken_70 rfl rfl ?_
    refine gt_X2_6 hO wk_21 dX2_readToken_71 ?_
    obtain ⟨z7, hz7, hf⟩ := gj_b hf
    have J7 : gj_G E X 2 none x 93 [(0, gj_r 2)] [gj_i z7, gj_r 2] (gj_sJ (gj_sI z1 2 (upd (z1.1 2) 8 (z1.1 2 5))) 2 (vp_updL ((gj_sI z1 2 (upd (z1.1 2) 8 (z1.1 2 5))).2.1 2) 9 (0 : Int64))) := by
      refine pt_X2_7 hO wk_26 dX2_readToken_93 ?_
      obtain ⟨s11, e11, hf⟩ := gj_b hf
      refine gj_eqS (Option.some.inj e11) ?_
      refine gj_aload_n hO 0 dX2_readToken_96 rfl rfl ?_
      refine gt_X2_7 hO wk_26 dX2_readToken_97 ?_
      refine gj_iconst (v := 2) hO dX2_readToken_100 (by decide) ?_
      obtain ⟨z12, hz12, hf⟩ := gj_b hf
      have J12 : gj_G E X 2 none x 122 [(0, gj_r 2)] [] z12 := by
        obtain ⟨z13, hz13, hf⟩ := gj_b hf
        have J13 : gj_G E X 2 none x 235 [(0, gj_r 2)] [] z13 := by
          refine gj_aload_n hO 0 dX2_readToken_235 rfl rfl ?_
          refine gt_X2_7 hO wk_26 dX2_readToken_236 ?_
          refine gj_iconst (v := 1) hO dX2_readToken_239 (by decide) ?_
          obtain ⟨z33, hz33, hf⟩ := gj_b hf
          have J33 : gj_G E X 2 none x 249 [(0, gj_r 2)] [gj_i z33] z13 := by
            refine gj_istore_n (lv2 := [(1, gj_i z33), (0, gj_r 2)]) hO dX2_readToken_249 rfl (by decide) rfl ?_
            refine gj_aload_n hO 1 dX2_readToken_250 rfl rfl ?_
            refine gt_X2_5 hO wk_20 dX2_readToken_251 ?_
            refine gj_aload_n hO 1 dX2_readToken_254 rfl rfl ?_
            refine gt_X2_8 hO wk_23 dX2_readToken_255 ?_
            refine gj_isub hO dX2_readToken_258 ?_
            refine gj_iload_n hO 0 dX2_readToken_259 rfl rfl ?_
            refine gj_icmp_le (tgt := 268) hO dX2_readToken_260 (by decide) (fun h => ?_) (fun h => ?_)
            · replace hf := gj_t h hf
              obtain rfl := Option.some.inj hf
              exact gj_vret hO dX2_readToken_268
            · replace hf := gj_f h hf
              refine gj_aload_n hO 1 dX2_readToken_263 rfl rfl ?_
              refine gj_iconst (v := 4) hO dX2_readToken_264 (by decide) ?_
              refine pt_X2_7 hO wk_26 dX2_readToken_265 ?_
              obtain rfl := Option.some.inj hf
              exact gj_vret hO dX2_readToken_268
          refine gj_icmp_ne (tgt := 247) hO dX2_readToken_240 (by decide) (fun h => ?_) (fun h => ?_)
          · replace hz33 := gj_f h hz33
            refine gj_bipush (v := 6) hO dX2_readToken_247 (by decide) ?_
            obtain rfl := Option.some.inj hz33
            refine gj_sub [0] rfl ?_
            exact J33
          · replace hz33 := gj_t h hz33
            refine gj_iconst (v := 4) hO dX2_readToken_243 (by decide) ?_
            refine gj_goto (tgt := 249) hO dX2_readToken_244 (by decide) ?_
            obtain rfl := Option.some.inj hz33
            refine gj_sub [0] rfl ?_
            exact J33
        refine gj_sub [0] rfl ?_
        exact gj_loop (head := fun a13 => gj_G E X 2 none x 122 [(0, gj_r 2)] [] a13) (exit := fun z13 => gj_G E X 2 none x 235 [(0, gj_r 2)] [] z13) (fun a13 x hf K => sb_X2_readToken_l122 hO hf K) _ _ _ hz13 J13
      refine gj_icmp_eq (tgt := 112) hO dX2_readToken_101 (by decide) (fun h => ?_) (fun h => ?_)
      · replace hz12 := gj_t h hz12
        refine gj_aload_n hO 0 dX2_readToken_112 rfl rfl ?_
        refine gj_dup hO dX2_readToken_113 trivial ?_
        refine gt_X2_5 hO wk_20 dX2_readToken_114 ?_
        refine gj_iconst (v := 1) hO dX2_readToken_117 (by decide) ?_
        refine gj_iadd hO dX2_readToken_118 ?_
        refine pt_X2_5 hO wk_20 dX2_readToken_119 ?_
        obtain rfl := Option.some.inj hz12
        refine gj_sub [0] rfl ?_
        exact J12
      · replace hz12 := gj_f h hz12
        refine gj_aload_n hO 0 dX2_readToken_104 rfl rfl ?_
        refine gt_X2_7 hO wk_26 dX2_readToken_105 ?_
        refine gj_iconst (v := 4) hO dX2_readToken_108 (by decide) ?_
        refine gj_icmp_ne (tgt := 122) hO dX2_readToken_109 (by decide) (fun h => ?_) (fun h => ?_)
        · replace hz12 := gj_f h hz12
          obtain rfl := Option.some.inj hz12
          refine gj_sub [0] rfl ?_
          exact J12
        · replace hz12 := gj_t h hz12
          refine gj_aload_n hO 0 dX2_readToken_112 rfl rfl ?_
          refine gj_dup hO dX2_readToken_113 trivial ?_
          refine gt_X2_5 hO wk_20 dX2_readToken_114 ?_
          refine gj_iconst (v := 1) hO dX2_readToken_117 (by decide) ?_
          refine gj_iadd hO dX2_readToken_118 ?_
          refine pt_X2_5 hO wk_20 dX2_readToken_119 ?_
          obtain rfl := Option.some.inj hz12
          refine gj_sub [0] rfl ?_
          exact J12
    refine gj_icmp_ge (tgt := 92) hO dX2_readToken_74 (by decide) (fun h => ?_) (fun h => ?_)
    · replace hz7 := gj_t h hz7
      refine gj_iconst (v := 3) hO dX2_readToken_92 (by decide) ?_
      obtain rfl := Option.some.inj hz7
      refine gj_sub [0] rfl ?_
      exact J7
    · replace hz7 := gj_f h hz7
      refine gj_aload_n hO 0 dX2_readToken_77 rfl rfl ?_
      obtain ⟨hb8, hz7⟩ := gj_c hz7
      refine gt_X2_10 hO hb8 wk_22 dX2_readToken_78 ?_
      refine gj_aload_n hO 0 dX2_readToken_81 rfl rfl ?_
      refine gt_X2_5 hO wk_20 dX2_readToken_82 ?_
      obtain ⟨hb9, hz7⟩ := gj_c hz7
      refine gj_bald hO kl_1 kd_1 hb9 dX2_readToken_85 ?_
      obtain ⟨x10, hc10, hz7⟩ := gj_b hz7
      refine ca_X2_kindOf hO  hc10 wk_25 (by decide) (by decide) (Nat.le_of_ble_eq_true rfl) dX2_readToken_86 ?_
      refine gj_goto (tgt := 93) hO dX2_readToken_89 (by decide) ?_
      obtain rfl := Option.some.inj hz7
      refine gj_sub [0] rfl ?_
      exact J7
  refine gj_sub [0] rfl ?_
  exact gj_loop (head := fun a1 => gj_G E X 2 none x 0 [(0, gj_r 2)] [] a1) (exit := fun z1 => gj_G E X 2 none x 52 [(0, gj_r 2)] [] z1) (fun a1 x hf K => sb_X2_readToken_l0 hO hf K) _ _ _ hz1 J1
set_option maxHeartbeats 4000000 in
set_option maxRecDepth 100000 in
theorem ca_X2_readToken {E : gj_E} {X : gj_X} {own : String} {cc : ByteArray} {nL : Nat} {rt : Option FieldType} {fr lo : Nat} {r : Option gj_V} {τ : gj_S} {pc : Nat} {lv : List (Nat × gj_V)} {st : List gj_V} {σ : gj_S} (hO : gj_O E X own cc nL rt fr lo)   {idx : Nat} {x : gj_S} (hf : f_X2_readToken  σ = some x) (hl : Cond.methodLink own idx yX2_readToken ∈ gj_gw) (hf1 : 2 ≤ fr) (hf2 : 41 ≤ lo) (hcat : ((st.map (gj_tv E.2.1)).map fun v => v.category).sum ≤ 8) (hd : decode cc pc = .ok (.invokevirtual idx, 3)) (k : gj_G E X nL r τ (pc + 3) lv (st) x) : gj_G E X nL r τ pc lv (gj_r 2 :: st) σ :=
  gj_callV hO (o := 2) (vs := []) (m_X2_readToken  hf) hl wk_29 wk_30 wk_18 wk_31 kl_2 kd_2 (by decide) (ci := 2) rfl (n := 0) (by decide +kernel) rfl hf1 hf2 rfl hcat hd k
def f_X2_isWord (b1 : Int64) (σ : gj_S) : Option Int32 := (if (σ.1 2 7) = 0 then (if (lg_cmp (σ.2.1 2 9) b1) = 0 then some (1 : Int32) else some (0 : Int32)) else some (0 : Int32))
set_option maxHeartbeats 4000000 in
set_option maxRecDepth 100000 in
theorem m_X2_isWord {E : gj_E} {σ : gj_S} {b1 : Int64}  {x : Int32} (hf : f_X2_isWord b1 σ = some x) : gj_M E yX2_isWord cX2_isWord 3 (some .boolean) 0 0 [gj_r 2, gj_l b1] σ (some (gj_i x)) σ := by
  refine gj_body (lv := [(0, gj_r 2), (1, gj_l b1)]) (by decide +kernel) (Nat.le_of_ble_eq_true rfl) rfl (fun X hO => ?_)
  replace hO : gj_O E X RX2 cX2_isWord 3 (some .boolean) 0 0 := hO
  unfold f_X2_isWord at hf
  refine gj_aload_n hO 0 dX2_isWord_0 rfl rfl ?_
  refine gt_X2_7 hO wk_26 dX2_isWord_1 ?_
  refine gj_if_ne (tgt := 20) hO dX2_isWord_4 (by decide) (fun h => ?_) (fun h => ?_)
  · replace hf := gj_f h hf
    refine gj_iconst (v := 0) hO dX2_isWord_20 (by decide) ?_
    obtain rfl := Option.some.inj hf
    exact gj_zret hO (Or.inl rfl) dX2_isWord_21
  · replace hf := gj_t h hf
    refine gj_aload_n hO 0 dX2_isWord_7 rfl rfl ?_
    refine gt_X2_9 hO wk_24 dX2_isWord_8 ?_
    refine gj_lload_n hO 1 dX2_isWord_11 rfl rfl ?_
    refine gj_lcmp hO dX2_isWord_12 ?_
    refine gj_if_ne (tgt := 20) hO dX2_isWord_13 (by decide) (fun h => ?_) (fun h => ?_)
    · replace hf := gj_f h hf
      refine gj_iconst (v := 0) hO dX2_isWord_20 (by decide) ?_
      obtain rfl := Option.some.inj hf
      exact gj_zret hO (Or.inl rfl) dX2_isWord_21
    · replace hf := gj_t h hf
      refine gj_iconst (v := 1) hO dX2_isWord_16 (by decide) ?_
      refine gj_goto (tgt := 21) hO dX2_isWord_17 (by decide) ?_
      obtain rfl := Option.some.inj hf
      exact gj_zret hO (Or.inr rfl) dX2_isWord_21
set_option maxHeartbeats 4000000 in
set_option maxRecDepth 100000 in
theorem ca_X2_isWord {E : gj_E} {X : gj_X} {own : String} {cc : ByteArray} {nL : Nat} {rt : Option FieldType} {fr lo : Nat} {r : Option gj_V} {τ : gj_S} {pc : Nat} {lv : List (Nat × gj_V)} {st : List gj_V} {σ : gj_S} (hO : gj_O E X own cc nL rt fr lo) {b1 : Int64}  {idx : Nat} {x : Int32} (hf : f_X2_isWord b1 σ = some x) (hl : Cond.methodLink own idx yX2_isWord ∈ gj_gw) (hf1 : 1 ≤ fr) (hf2 : 22 ≤ lo) (hcat : ((st.map (gj_tv E.2.1)).map fun v => v.category).sum ≤ 8) (hd : decode cc pc = .ok (.invokevirtual idx, 3)) (k : gj_G E X nL r τ (pc + 3) lv ((gj_i x) :: st) σ) : gj_G E X nL r τ pc lv (gj_l b1 :: gj_r 2 :: st) σ :=
  gj_callV hO (o := 2) (vs := [gj_l b1]) (m_X2_isWord  hf) hl wk_32 wk_33 wk_18 wk_34 kl_2 kd_2 (by decide) (ci := 2) rfl (n := 1) (by decide +kernel) rfl hf1 hf2 rfl hcat hd k
def f_X2_fails (b1 : Int32) (σ : gj_S) : Option (Int32 × gj_S) := some ((0 : Int32), (gj_sI σ 2 (upd (σ.1 2) 4 (((8 : Int32) * (σ.1 2 8)) + b1))))
set_option maxHeartbeats 4000000 in
set_option maxRecDepth 100000 in
theorem m_X2_fails {E : gj_E} {σ : gj_S} {b1 : Int32}  {x : (Int32 × gj_S)} (hf : f_X2_fails b1 σ = some x) : gj_M E yX2_fails cX2_fails 2 (some .boolean) 0 0 [gj_r 2, gj_i b1] σ (some (gj_i x.1)) x.2 := by
  refine gj_body (lv := [(0, gj_r 2), (1, gj_i b1)]) (by decide +kernel) (Nat.le_of_ble_eq_true rfl) rfl (fun X hO => ?_)
  replace hO : gj_O E X RX2 cX2_fails 2 (some .boolean) 0 0 := hO
  unfold f_X2_fails at hf
  refine gj_aload_n hO 0 dX2_fails_0 rfl rfl ?_
  refine gj_bipush (v := 8) hO dX2_fails_1 (by decide) ?_
  refine gj_aload_n hO 0 dX2_fails_3 rfl rfl ?_
  refine gt_X2_8 hO wk_23 dX2_fails_4 ?_
  refine gj_imul hO dX2_fails_7 ?_
  refine gj_iload_n hO 1 dX2_fails_8 rfl rfl ?_
  refine gj_iadd hO dX2_fails_9 ?_
  refine pt_X2_4 hO wk_35 dX2_fails_10 ?_
  refine gj_iconst (v := 0) hO dX2_fails_13 (by decide) ?_
  obtain rfl := Option.some.inj hf
  exact gj_zret hO (Or.inl rfl) dX2_fails_14
set_option maxHeartbeats 4000000 in
set_option maxRecDepth 100000 in
theorem ca_X2_fails {E : gj_E} {X : gj_X} {own : String} {cc : ByteArray} {nL : Nat} {rt : Option FieldType} {fr lo : Nat} {r : Option gj_V} {τ : gj_S} {pc : Nat} {lv : List (Nat × gj_V)} {st : List gj_V} {σ : gj_S} (hO : gj_O E X own cc nL rt fr lo) {b1 : Int32}  {idx : Nat} {x : (Int32 × gj_S)} (hf : f_X2_fails b1 σ = some x) (hl : Cond.methodLink own idx yX2_fails ∈ gj_gw) (hf1 : 1 ≤ fr) (hf2 : 21 ≤ lo) (hcat : ((st.map (gj_tv E.2.1)).map fun v => v.category).sum ≤ 8) (hd : decode cc pc = .ok (.invokevirtual idx, 3)) (k : gj_G E X nL r τ (pc + 3) lv ((gj_i x.1) :: st) x.2) : gj_G E X nL r τ pc lv (gj_i b1 :: gj_r 2 :: st) σ :=
  gj_callV hO (o := 2) (vs := [gj_i b1]) (m_X2_fails  hf) hl wk_36 wk_37 wk_18 wk_38 kl_2 kd_2 (by decide) (ci := 2) rfl (n := 1) (by decide +kernel) rfl hf1 hf2 rfl hcat hd k
def f_X2_isName  (σ : gj_S) : Option Int32 := (if (σ.1 2 7) = 0 then (if (lg_cmp (σ.2.1 2 9) (1685021547 : Int64)) = 0 then some (0 : Int32) else (if (lg_cmp (σ.2.1 2 9) (444150998387 : Int64)) = 0 then some (0 : Int32) else (if (lg_cmp (σ.2.1 2 9) (499850634611 : Int64)) = 0 then some (0 : Int32) else (if (lg_cmp (σ.2.1 2 9) (491496240229 : Int64)) = 0 then some (0 : Int32) else (if (lg_cmp (σ.2.1 2 9) (427071599731 : Int64)) = 0 then some (0 : Int32) else (if (lg_cmp (σ.2.1 2 9) (448545973363 : Int64)) = 0 then some (0 : Int32) else (if (lg_cmp (σ.2.1 2 9) (422726034283 : Int64)) = 0 then some (0 : Int32) else some (1 : Int32)))))))) else some (0 : Int32))
set_option maxHeartbeats 4000000 in
set_option maxRecDepth 100000 in
theorem m_X2_isName {E : gj_E} {σ : gj_S}   {x : Int32} (hf : f_X2_isName  σ = some x) : gj_M E yX2_isName cX2_isName 1 (some .boolean) 0 0 [gj_r 2] σ (some (gj_i x)) σ := by
  refine gj_body (lv := [(0, gj_r 2)]) (by decide +kernel) (Nat.le_of_ble_eq_true rfl) rfl (fun X hO => ?_)
  replace hO : gj_O E X RX2 cX2_isName 1 (some .boolean) 0 0 := hO
  unfold f_X2_isName at hf
  refine gj_aload_n hO 0 dX2_isName_0 rfl rfl ?_
  refine gt_X2_7 hO wk_26 dX2_isName_1 ?_
  refine gj_if_ne (tgt := 88) hO dX2_isName_4 (by decide) (fun h => ?_) (fun h => ?_)
  · replace hf := gj_f h hf
    refine gj_iconst (v := 0) hO dX2_isName_88 (by decide) ?_
    obtain rfl := Option.some.inj hf
    exact gj_zret hO (Or.inl rfl) dX2_isName_89
  · replace hf := gj_t h hf
    refine gj_aload_n hO 0 dX2_isName_7 rfl rfl ?_
    refine gt_X2_9 hO wk_24 dX2_isName_8 ?_
    refine gj_ldc2 hO wk_39 dX2_isName_11 ?_
    refine gj_lcmp hO dX2_isName_14 ?_
    refine gj_if_eq (tgt := 88) hO dX2_isName_15 (by decide) (fun h => ?_) (fun h => ?_)
    · replace hf := gj_t h hf
      refine gj_iconst (v := 0) hO dX2_isName_88 (by decide) ?_
      obtain rfl := Option.some.inj hf
      exact gj_zret hO (Or.inl rfl) dX2_isName_89
    · replace hf := gj_f h hf
      refine gj_aload_n hO 0 dX2_isName_18 rfl rfl ?_
      refine gt_X2_9 hO wk_24 dX2_isName_19 ?_
      refine gj_ldc2 hO wk_40 dX2_isName_22 ?_
      refine gj_lcmp hO dX2_isName_25 ?_
      refine gj_if_eq (tgt := 88) hO dX2_isName_26 (by decide) (fun h => ?_) (fun h => ?_)
      · replace hf := gj_t h hf
        refine gj_iconst (v := 0) hO dX2_isName_88 (by decide) ?_
        obtain rfl := Option.some.inj hf
        exact gj_zret hO (Or.inl rfl) dX2_isName_89
      · replace hf := gj_f h hf
        refine gj_aload_n hO 0 dX2_isName_29 rfl rfl ?_
        refine gt_X2_9 hO wk_24 dX2_isName_30 ?_
        refine gj_ldc2 hO wk_41 dX2_isName_33 ?_
        refine gj_lcmp hO dX2_isName_36 ?_
        refine gj_if_eq (tgt := 88) hO dX2_isName_37 (by decide) (fun h => ?_) (fun h => ?_)
        · replace hf := gj_t h hf
          refine gj_iconst (v := 0) hO dX2_isName_88 (by decide) ?_
          obtain rfl := Option.some.inj hf
          exact gj_zret hO (Or.inl rfl) dX2_isName_89
        · replace hf := gj_f h hf
          refine gj_aload_n hO 0 dX2_isName_40 rfl rfl ?_
          refine gt_X2_9 hO wk_24 dX2_isName_41 ?_
          refine gj_ldc2 hO wk_42 dX2_isName_44 ?_
          refine gj_lcmp hO dX2_isName_47 ?_
          refine gj_if_eq (tgt := 88) hO dX2_isName_48 (by decide) (fun h => ?_) (fun h => ?_)
          · replace hf := gj_t h hf
            refine gj_iconst (v := 0) hO dX2_isName_88 (by decide) ?_
            obtain rfl := Option.some.inj hf
            exact gj_zret hO (Or.inl rfl) dX2_isName_89
          · replace hf := gj_f h hf
            refine gj_aload_n hO 0 dX2_isName_51 rfl rfl ?_
            refine gt_X2_9 hO wk_24 dX2_isName_52 ?_
            refine gj_ldc2 hO wk_43 dX2_isName_55 ?_
            refine gj_lcmp hO dX2_isName_58 ?_
            refine gj_if_eq (tgt := 88) hO dX2_isName_59 (by decide) (fun h => ?_) (fun h => ?_)
            · replace hf := gj_t h hf
              refine gj_iconst (v := 0) hO dX2_isName_88 (by decide) ?_
              obtain rfl := Option.some.inj hf
              exact gj_zret hO (Or.inl rfl) dX2_isName_89
            · replace hf := gj_f h hf
              refine gj_aload_n hO 0 dX2_isName_62 rfl rfl ?_
              refine gt_X2_9 hO wk_24 dX2_isName_63 ?_
              refine gj_ldc2 hO wk_44 dX2_isName_66 ?_
              refine gj_lcmp hO dX2_isName_69 ?_
              refine gj_if_eq (tgt := 88) hO dX2_isName_70 (by decide) (fun h => ?_) (fun h => ?_)
              · replace hf := gj_t h hf
                refine gj_iconst (v := 0) hO dX2_isName_88 (by decide) ?_
                obtain rfl := Option.some.inj hf
                exact gj_zret hO (Or.inl rfl) dX2_isName_89
              · replace hf := gj_f h hf
                refine gj_aload_n hO 0 dX2_isName_73 rfl rfl ?_
                refine gt_X2_9 hO wk_24 dX2_isName_74 ?_
                refine gj_ldc2 hO wk_45 dX2_isName_77 ?_
                refine gj_lcmp hO dX2_isName_80 ?_
                refine gj_if_eq (tgt := 88) hO dX2_isName_81 (by decide) (fun h => ?_) (fun h => ?_)
                · replace hf := gj_t h hf
                  refine gj_iconst (v := 0) hO dX2_isName_88 (by decide) ?_
                  obtain rfl := Option.some.inj hf
                  exact gj_zret hO (Or.inl rfl) dX2_isName_89
                · replace hf := gj_f h hf
                  refine gj_iconst (v := 1) hO dX2_isName_84 (by decide) ?_
                  refine gj_goto (tgt := 89) hO dX2_isName_85 (by decide) ?_
                  obtain rfl := Option.some.inj hf
                  exact gj_zret hO (Or.inr rfl) dX2_isName_89
set_option maxHeartbeats 4000000 in
set_option maxRecDepth 100000 in
theorem ca_X2_isName {E : gj_E} {X : gj_X} {own : String} {cc : ByteArray} {nL : Nat} {rt : Option FieldType} {fr lo : Nat} {r : Option gj_V} {τ : gj_S} {pc : Nat} {lv : List (Nat × gj_V)} {st : List gj_V} {σ : gj_S} (hO : gj_O E X own cc nL rt fr lo)   {idx : Nat} {x : Int32} (hf : f_X2_isName  σ = some x) (hl : Cond.methodLink own idx yX2_isName ∈ gj_gw) (hf1 : 1 ≤ fr) (hf2 : 20 ≤ lo) (hcat : ((st.map (gj_tv E.2.1)).map fun v => v.category).sum ≤ 8) (hd : decode cc pc = .ok (.invokevirtual idx, 3)) (k : gj_G E X nL r τ (pc + 3) lv ((gj_i x) :: st) σ) : gj_G E X nL r τ pc lv (gj_r 2 :: st) σ :=
  gj_callV hO (o := 2) (vs := []) (m_X2_isName  hf) hl wk_46 wk_47 wk_18 wk_48 kl_2 kd_2 (by decide) (ci := 2) rfl (n := 0) (by decide +kernel) rfl hf1 hf2 rfl hcat hd k
def fb_X2_numberOfDock_l2 (σ : gj_S) (a1 : Int32) : Option ((Int32 ⊕ Unit) ⊕ Int32) := (if (σ.1 3 0) ≤ a1 then some (.inl (.inr ())) else (if gj_in a1 8 then (if (lg_cmp (σ.2.1 13 (Int32.toNatClampNeg a1)) (σ.2.1 2 9)) = 0 then some (.inl (.inl a1)) else some (.inr (a1 + 1))) else none))
def f_X2_numberOfDock  (σ : gj_S) : Option Int32 := ((gj_lp (fb_X2_numberOfDock_l2 σ) 5000 (0 : Int32)).bind fun y1 => Sum.elim (fun q => some q) (fun z1 => some (-1 : Int32)) y1)
set_option maxHeartbeats 4000000 in
set_option maxRecDepth 100000 in
theorem sb_X2_numberOfDock_l2 {E : gj_E} {X : gj_X} {r : Option gj_V} {τ : gj_S} (hO : gj_O E X RX2 cX2_numberOfDock 2 (some .int) 0 0) {σ : gj_S} {a1 : Int32} {x : (Int32 ⊕ Unit) ⊕ Int32} (hf : fb_X2_numberOfDock_l2 σ a1 = some x) (K : gj_K (fun y1 => gj_K (fun q => r = (some (gj_i q)) ∧ τ = σ) (fun z1 => gj_G E X 2 r τ 35 [] [] σ) y1) (fun a1 => gj_G E X 2 r τ 2 [(0, gj_r 2), (1, gj_i a1)] [] σ) x) : gj_G E X 2 r τ 2 [(0, gj_r 2), (1, gj_i a1)] [] σ := by
  unfold fb_X2_numberOfDock_l2 at hf
  refine gj_iload_n hO 1 dX2_numberOfDock_2 rfl rfl ?_
  refine gj_aload_n hO 0 dX2_numberOfDock_3 rfl rfl ?_
  refine gt_X2_0 hO wk_49 dX2_numberOfDock_4 ?_
  refine gt_X1_0 hO kd_3 kl_3 wk_50 dX2_numberOfDock_7 ?_
  refine gj_icmp_ge (tgt := 35) hO dX2_numberOfDock_10 (by decide) (fun h => ?_) (fun h => ?_)
  · replace hf := gj_t h hf
    obtain rfl := Option.some.inj hf
    refine gj_sub [] rfl ?_
    exact K
  · replace hf := gj_f h hf
    refine gj_aload_n hO 0 dX2_numberOfDock_13 rfl rfl ?_
    refine gt_X2_2 hO wk_51 dX2_numberOfDock_14 ?_
    refine gj_iload_n hO 1 dX2_numberOfDock_17 rfl rfl ?_
    obtain ⟨hb3, hf⟩ := gj_c hf
    refine gj_lald hO kl_13 kd_13 hb3 dX2_numberOfDock_18 ?_
    refine gj_aload_n hO 0 dX2_numberOfDock_19 rfl rfl ?_
    refine gt_X2_9 hO wk_24 dX2_numberOfDock_20 ?_
    refine gj_lcmp hO dX2_numberOfDock_23 ?_
    refine gj_if_ne (tgt := 29) hO dX2_numberOfDock_24 (by decide) (fun h => ?_) (fun h => ?_)
    · replace hf := gj_f h hf
      refine gj_iinc (v := (a1 + 1)) (lv2 := [(1, gj_i (a1 + 1)), (0, gj_r 2)]) hO 1 dX2_numberOfDock_29 rfl rfl (by decide) rfl ?_
      refine gj_goto (tgt := 2) hO dX2_numberOfDock_32 (by decide) ?_
      obtain rfl := Option.some.inj hf
      refine gj_sub [1, 0] rfl ?_
      exact K
    · replace hf := gj_t h hf
      refine gj_iload_n hO 1 dX2_numberOfDock_27 rfl rfl ?_
      obtain rfl := Option.some.inj hf
      obtain ⟨rfl, rfl⟩ := K
      exact gj_iret hO dX2_numberOfDock_28
set_option maxHeartbeats 4000000 in
set_option maxRecDepth 100000 in
theorem m_X2_numberOfDock {E : gj_E} {σ : gj_S}   {x : Int32} (hf : f_X2_numberOfDock  σ = some x) : gj_M E yX2_numberOfDock cX2_numberOfDock 2 (some .int) 0 0 [gj_r 2] σ (some (gj_i x)) σ := by
  refine gj_body (lv := [(0, gj_r 2)]) (by decide +kernel) (Nat.le_of_ble_eq_true rfl) rfl (fun X hO => ?_)
  replace hO : gj_O E X RX2 cX2_numberOfDock 2 (some .int) 0 0 := hO
  unfold f_X2_numberOfDock at hf
  refine gj_iconst (v := 0) hO dX2_numberOfDock_0 (by decide) ?_
  refine gj_istore_n (lv2 := [(1, gj_i (0 : Int32)), (0, gj_r 2)]) hO dX2_numberOfDock_1 rfl (by decide) rfl ?_
  obtain ⟨y1, hz1, hf⟩ := gj_b hf
  have J1 : (fun y1 => gj_K (fun q => (some (gj_i x)) = (some (gj_i q)) ∧ σ = σ) (fun z1 => gj_G E X 2 (some (gj_i x)) σ 35 [] [] σ) y1) y1 := by
    rcases y1 with q | z1
    · have hf : some q = some x := hf
      obtain rfl := Option.some.inj hf
      exact ⟨rfl, rfl⟩
    · refine gj_iconst (v := (-1)) hO dX2_numberOfDock_35 (by decide) ?_
      obtain rfl := Option.some.inj hf
      exact gj_iret hO dX2_numberOfDock_36
  refine gj_sub [1, 0] rfl ?_
  exact gj_loop (head := fun a1 => gj_G E X 2 (some (gj_i x)) σ 2 [(0, gj_r 2), (1, gj_i a1)] [] σ) (exit := fun y1 => gj_K (fun q => (some (gj_i x)) = (some (gj_i q)) ∧ σ = σ) (fun z1 => gj_G E X 2 (some (gj_i x)) σ 35 [] [] σ) y1) (fun a1 x hf K => sb_X2_numberOfDock_l2 hO hf K) _ _ _ hz1 J1
set_option maxHeartbeats 4000000 in
set_option maxRecDepth 100000 in
theorem ca_X2_numberOfDock {E : gj_E} {X : gj_X} {own : String} {cc : ByteArray} {nL : Nat} {rt : Option FieldType} {fr lo : Nat} {r : Option gj_V} {τ : gj_S} {pc : Nat} {lv : List (Nat × gj_V)} {st : List gj_V} {σ : gj_S} (hO : gj_O E X own cc nL rt fr lo)   {idx : Nat} {x : Int32} (hf : f_X2_numberOfDock  σ = some x) (hl : Cond.methodLink own idx yX2_numberOfDock ∈ gj_gw) (hf1 : 1 ≤ fr) (hf2 : 21 ≤ lo) (hcat : ((st.map (gj_tv E.2.1)).map fun v => v.category).sum ≤ 8) (hd : decode cc pc = .ok (.invokevirtual idx, 3)) (k : gj_G E X nL r τ (pc + 3) lv ((gj_i x) :: st) σ) : gj_G E X nL r τ pc lv (gj_r 2 :: st) σ :=
  gj_callV hO (o := 2) (vs := []) (m_X2_numberOfDock  hf) hl wk_52 wk_53 wk_18 wk_54 kl_2 kd_2 (by decide) (ci := 2) rfl (n := 0) (by decide +kernel) rfl hf1 hf2 rfl hcat hd k
def fb_X2_isNewName_l29  (a3 : (Int32 × gj_S)) : Option (((Int32 × gj_S) ⊕ gj_S) ⊕ (Int32 × gj_S)) := (if (a3.2.1 3 1) ≤ a3.1 then some (.inl (.inr a3.2)) else (if gj_in a3.1 16 then (if (lg_cmp (a3.2.2.1 12 (Int32.toNatClampNeg a3.1)) (a3.2.2.1 2 9)) = 0 then ((f_X2_fails (2 : Int32) a3.2).bind fun x6 => (if x6.1 = 0 ∨ x6.1 = 1 then some (.inl (.inl (x6.1, x6.2))) else none)) else some (.inr ((a3.1 + 1), a3.2))) else none))
def f_X2_isNewName  (σ : gj_S) : Option (Int32 × gj_S) := ((f_X2_isName σ).bind fun x1 => (if x1 = 0 then ((f_X2_fails (1 : Int32) σ).bind fun x10 => (if x10.1 = 0 ∨ x10.1 = 1 then some (x10.1, x10.2) else none)) else ((f_X2_numberOfDock σ).bind fun x2 => (if x2 = (-1 : Int32) then ((gj_lp (fb_X2_isNewName_l29) 5000 ((0 : Int32), σ)).bind fun y3 => Sum.elim (fun q => some q) (fun z3 => some ((1 : Int32), z3)) y3) else ((f_X2_fails (2 : Int32) σ).bind fun x8 => (if x8.1 = 0 ∨ x8.1 = 1 then some (x8.1, x8.2) else none))))))
set_option maxHeartbeats 4000000 in
set_option maxRecDepth 100000 in
theorem sb_X2_isNewName_l29 {E : gj_E} {X : gj_X} {r : Option gj_V} {τ : gj_S} (hO : gj_O E X RX2 cX2_isNewName 2 (some .boolean) 1 21)  {a3 : (Int32 × gj_S)} {x : ((Int32 × gj_S) ⊕ gj_S) ⊕ (Int32 × gj_S)} (hf : fb_X2_isNewName_l29  a3 = some x) (K : gj_K (fun y3 => gj_K (fun q => r = (some (gj_i q.1)) ∧ τ = q.2) (fun z3 => gj_G E X 2 r τ 66 [] [] z3) y3) (fun a3 => gj_G E X 2 r τ 29 [(0, gj_r 2), (1, gj_i a3.1)] [] a3.2) x) : gj_G E X 2 r τ 29 [(0, gj_r 2), (1, gj_i a3.1)] [] a3.2 := by
  unfold fb_X2_isNewName_l29 at hf
  refine gj_iload_n hO 1 dX2_isNewName_29 rfl rfl ?_
  refine gj_aload_n hO 0 dX2_isNewName_30 rfl rfl ?_
  refine gt_X2_0 hO wk_49 dX2_isNewName_31 ?_
  refine gt_X1_1 hO kd_3 kl_3 wk_57 dX2_isNewName_34 ?_
  refine gj_icmp_ge (tgt := 66) hO dX2_isNewName_37 (by decide) (fun h => ?_) (fun h => ?_)
  · replace hf := gj_t h hf
    obtain rfl := Option.some.inj hf
    refine gj_sub [] rfl ?_
    exact K
  · replace hf := gj_f h hf
    refine gj_aload_n hO 0 dX2_isNewName_40 rfl rfl ?_
    refine gt_X2_1 hO wk_58 dX2_isNewName_41 ?_
    refine gj_iload_n hO 1 dX2_isNewName_44 rfl rfl ?_
    obtain ⟨hb5, hf⟩ := gj_c hf
    refine gj_lald hO kl_12 kd_12 hb5 dX2_isNewName_45 ?_
    refine gj_aload_n hO 0 dX2_isNewName_46 rfl rfl ?_
    refine gt_X2_9 hO wk_24 dX2_isNewName_47 ?_
    refine gj_lcmp hO dX2_isNewName_50 ?_
    refine gj_if_ne (tgt := 60) hO dX2_isNewName_51 (by decide) (fun h => ?_) (fun h => ?_)
    · replace hf := gj_f h hf
      refine gj_iinc (v := (a3.1 + 1)) (lv2 := [(1, gj_i (a3.1 + 1)), (0, gj_r 2)]) hO 1 dX2_isNewName_60 rfl rfl (by decide) rfl ?_
      refine gj_goto (tgt := 29) hO dX2_isNewName_63 (by decide) ?_
      obtain rfl := Option.some.inj hf
      refine gj_sub [1, 0] rfl ?_
      exact K
    · replace hf := gj_t h hf
      refine gj_aload_n hO 0 dX2_isNewName_54 rfl rfl ?_
      refine gj_iconst (v := 2) hO dX2_isNewName_55 (by decide) ?_
      obtain ⟨x6, hc6, hf⟩ := gj_b hf
      refine ca_X2_fails hO  hc6 wk_59 (by decide) (by decide) (Nat.le_of_ble_eq_true rfl) dX2_isNewName_56 ?_
      obtain ⟨hb7, hf⟩ := gj_c hf
      obtain rfl := Option.some.inj hf
      obtain ⟨rfl, rfl⟩ := K
      exact gj_zret hO hb7 dX2_isNewName_59
set_option maxHeartbeats 4000000 in
set_option maxRecDepth 100000 in
theorem m_X2_isNewName {E : gj_E} {σ : gj_S}   {x : (Int32 × gj_S)} (hf : f_X2_isNewName  σ = some x) : gj_M E yX2_isNewName cX2_isNewName 2 (some .boolean) 1 21 [gj_r 2] σ (some (gj_i x.1)) x.2 := by
  refine gj_body (lv := [(0, gj_r 2)]) (by decide +kernel) (Nat.le_of_ble_eq_true rfl) rfl (fun X hO => ?_)
  replace hO : gj_O E X RX2 cX2_isNewName 2 (some .boolean) 1 21 := hO
  unfold f_X2_isNewName at hf
  refine gj_aload_n hO 0 dX2_isNewName_0 rfl rfl ?_
  obtain ⟨x1, hc1, hf⟩ := gj_b hf
  refine ca_X2_isName hO  hc1 wk_55 (by decide) (by decide) (Nat.le_of_ble_eq_true rfl) dX2_isNewName_1 ?_
  refine gj_if_ne (tgt := 13) hO dX2_isNewName_4 (by decide) (fun h => ?_) (fun h => ?_)
  · replace hf := gj_f h hf
    refine gj_aload_n hO 0 dX2_isNewName_13 rfl rfl ?_
    obtain ⟨x2, hc2, hf⟩ := gj_b hf
    refine ca_X2_numberOfDock hO  hc2 wk_56 (by decide) (by decide) (Nat.le_of_ble_eq_true rfl) dX2_isNewName_14 ?_
    refine gj_iconst (v := (-1)) hO dX2_isNewName_17 (by decide) ?_
    refine gj_icmp_eq (tgt := 27) hO dX2_isNewName_18 (by decide) (fun h => ?_) (fun h => ?_)
    · replace hf := gj_t h hf
      refine gj_iconst (v := 0) hO dX2_isNewName_27 (by decide) ?_
      refine gj_istore_n (lv2 := [(1, gj_i (0 : Int32)), (0, gj_r 2)]) hO dX2_isNewName_28 rfl (by decide) rfl ?_
      obtain ⟨y3, hz3, hf⟩ := gj_b hf
      have J3 : (fun y3 => gj_K (fun q => (some (gj_i x.1)) = (some (gj_i q.1)) ∧ x.2 = q.2) (fun z3 => gj_G E X 2 (some (gj_i x.1)) x.2 66 [] [] z3) y3) y3 := by
        rcases y3 with q | z3
        · have hf : some q = some x := hf
          obtain rfl := Option.some.inj hf
          exact ⟨rfl, rfl⟩
        · refine gj_iconst (v := 1) hO dX2_isNewName_66 (by decide) ?_
          obtain rfl := Option.some.inj hf
          exact gj_zret hO (Or.inr rfl) dX2_isNewName_67
      refine gj_sub [1, 0] rfl ?_
      exact gj_loop (head := fun a3 => gj_G E X 2 (some (gj_i x.1)) x.2 29 [(0, gj_r 2), (1, gj_i a3.1)] [] a3.2) (exit := fun y3 => gj_K (fun q => (some (gj_i x.1)) = (some (gj_i q.1)) ∧ x.2 = q.2) (fun z3 => gj_G E X 2 (some (gj_i x.1)) x.2 66 [] [] z3) y3) (fun a3 x hf K => sb_X2_isNewName_l29 hO hf K) _ _ _ hz3 J3
    · replace hf := gj_f h hf
      refine gj_aload_n hO 0 dX2_isNewName_21 rfl rfl ?_
      refine gj_iconst (v := 2) hO dX2_isNewName_22 (by decide) ?_
      obtain ⟨x8, hc8, hf⟩ := gj_b hf
      refine ca_X2_fails hO  hc8 wk_59 (by decide) (by decide) (Nat.le_of_ble_eq_true rfl) dX2_isNewName_23 ?_
      obtain ⟨hb9, hf⟩ := gj_c hf
      obtain rfl := Option.some.inj hf
      exact gj_zret hO hb9 dX2_isNewName_26
  · replace hf := gj_t h hf
    refine gj_aload_n hO 0 dX2_isNewName_7 rfl rfl ?_
    refine gj_iconst (v := 1) hO dX2_isNewName_8 (by decide) ?_
    obtain ⟨x10, hc10, hf⟩ := gj_b hf
    refine ca_X2_fails hO  hc10 wk_59 (by decide) (by decide) (Nat.le_of_ble_eq_true rfl) dX2_isNewName_9 ?_
    obtain ⟨hb11, hf⟩ := gj_c hf
    obtain rfl := Option.some.inj hf
    exact gj_zret hO hb11 dX2_isNewName_12
set_option maxHeartbeats 4000000 in
set_option maxRecDepth 100000 in
theorem ca_X2_isNewName {E : gj_E} {X : gj_X} {own : String} {cc : ByteArray} {nL : Nat} {rt : Option FieldType} {fr lo : Nat} {r : Option gj_V} {τ : gj_S} {pc : Nat} {lv : List (Nat × gj_V)} {st : List gj_V} {σ : gj_S} (hO : gj_O E X own cc nL rt fr lo)   {idx : Nat} {x : (Int32 × gj_S)} (hf : f_X2_isNewName  σ = some x) (hl : Cond.methodLink own idx yX2_isNewName ∈ gj_gw) (hf1 : 2 ≤ fr) (hf2 : 42 ≤ lo) (hcat : ((st.map (gj_tv E.2.1)).map fun v => v.category).sum ≤ 8) (hd : decode cc pc = .ok (.invokevirtual idx, 3)) (k : gj_G E X nL r τ (pc + 3) lv ((gj_i x.1) :: st) x.2) : gj_G E X nL r τ pc lv (gj_r 2 :: st) σ :=
  gj_callV hO (o := 2) (vs := []) (m_X2_isNewName  hf) hl wk_60 wk_61 wk_18 wk_62 kl_2 kd_2 (by decide) (ci := 2) rfl (n := 0) (by decide +kernel) rfl hf1 hf2 rfl hcat hd k
def f_X2_isNumber (b1 : Int32) (b2 : Int32) (σ : gj_S) : Option (Int32 × gj_S) := (if (σ.1 2 7) = (1 : Int32) then (if (lg_cmp (σ.2.1 2 9) (Int32.toInt64 b1)) < 0 then ((f_X2_fails (3 : Int32) σ).bind fun x1 => (if x1.1 = 0 then some ((0 : Int32), x1.2) else some ((1 : Int32), x1.2))) else (if (lg_cmp (σ.2.1 2 9) (Int32.toInt64 b2)) ≤ 0 then some ((1 : Int32), σ) else ((f_X2_fails (3 : Int32) σ).bind fun x2 => (if x2.1 = 0 then some ((0 : Int32), x2.2) else some ((1 : Int32), x2.2))))) else ((f_X2_fails (1 : Int32) σ).bind fun x3 => (if x3.1 = 0 ∨ x3.1 = 1 then some (x3.1, x3.2) else none)))
set_option maxHeartbeats 4000000 in
set_option maxRecDepth 100000 in
theorem m_X2_isNumber {E : gj_E} {σ : gj_S} {b1 : Int32} {b2 : Int32}  {x : (Int32 × gj_S)} (hf : f_X2_isNumber b1 b2 σ = some x) : gj_M E yX2_isNumber cX2_isNumber 3 (some .boolean) 1 21 [gj_r 2, gj_i b1, gj_i b2] σ (some (gj_i x.1)) x.2 := by
  refine gj_body (lv := [(0, gj_r 2), (1, gj_i b1), (2, gj_i b2)]) (by decide +kernel) (Nat.le_of_ble_eq_true rfl) rfl (fun X hO => ?_)
  replace hO : gj_O E X RX2 cX2_isNumber 3 (some .boolean) 1 21 := hO
  unfold f_X2_isNumber at hf
  refine gj_aload_n hO 0 dX2_isNumber_0 rfl rfl ?_
  refine gt_X2_7 hO wk_26 dX2_isNumber_1 ?_
  refine gj_iconst (v := 1) hO dX2_isNumber_4 (by decide) ?_
  refine gj_icmp_eq (tgt := 14) hO dX2_isNumber_5 (by decide) (fun h => ?_) (fun h => ?_)
  · replace hf := gj_t h hf
    refine gj_aload_n hO 0 dX2_isNumber_14 rfl rfl ?_
    refine gt_X2_9 hO wk_24 dX2_isNumber_15 ?_
    refine gj_iload_n hO 1 dX2_isNumber_18 rfl rfl ?_
    refine gj_i2l hO dX2_isNumber_19 ?_
    refine gj_lcmp hO dX2_isNumber_20 ?_
    refine gj_if_lt (tgt := 34) hO dX2_isNumber_21 (by decide) (fun h => ?_) (fun h => ?_)
    · replace hf := gj_t h hf
      refine gj_aload_n hO 0 dX2_isNumber_34 rfl rfl ?_
      refine gj_iconst (v := 3) hO dX2_isNumber_35 (by decide) ?_
      obtain ⟨x1, hc1, hf⟩ := gj_b hf
      refine ca_X2_fails hO  hc1 wk_59 (by decide) (by decide) (Nat.le_of_ble_eq_true rfl) dX2_isNumber_36 ?_
      refine gj_if_eq (tgt := 46) hO dX2_isNumber_39 (by decide) (fun h => ?_) (fun h => ?_)
      · replace hf := gj_t h hf
        refine gj_iconst (v := 0) hO dX2_isNumber_46 (by decide) ?_
        obtain rfl := Option.some.inj hf
        exact gj_zret hO (Or.inl rfl) dX2_isNumber_47
      · replace hf := gj_f h hf
        refine gj_iconst (v := 1) hO dX2_isNumber_42 (by decide) ?_
        refine gj_goto (tgt := 47) hO dX2_isNumber_43 (by decide) ?_
        obtain rfl := Option.some.inj hf
        exact gj_zret hO (Or.inr rfl) dX2_isNumber_47
    · replace hf := gj_f h hf
      refine gj_aload_n hO 0 dX2_isNumber_24 rfl rfl ?_
      refine gt_X2_9 hO wk_24 dX2_isNumber_25 ?_
      refine gj_iload_n hO 2 dX2_isNumber_28 rfl rfl ?_
      refine gj_i2l hO dX2_isNumber_29 ?_
      refine gj_lcmp hO dX2_isNumber_30 ?_
      refine gj_if_le (tgt := 42) hO dX2_isNumber_31 (by decide) (fun h => ?_) (fun h => ?_)
      · replace hf := gj_t h hf
        refine gj_iconst (v := 1) hO dX2_isNumber_42 (by decide) ?_
        refine gj_goto (tgt := 47) hO dX2_isNumber_43 (by decide) ?_
        obtain rfl := Option.some.inj hf
        exact gj_zret hO (Or.inr rfl) dX2_isNumber_47
      · replace hf := gj_f h hf
        refine gj_aload_n hO 0 dX2_isNumber_34 rfl rfl ?_
        refine gj_iconst (v := 3) hO dX2_isNumber_35 (by decide) ?_
        obtain ⟨x2, hc2, hf⟩ := gj_b hf
        refine ca_X2_fails hO  hc2 wk_59 (by decide) (by decide) (Nat.le_of_ble_eq_true rfl) dX2_isNumber_36 ?_
        refine gj_if_eq (tgt := 46) hO dX2_isNumber_39 (by decide) (fun h => ?_) (fun h => ?_)
        · replace hf := gj_t h hf
          refine gj_iconst (v := 0) hO dX2_isNumber_46 (by decide) ?_
          obtain rfl := Option.some.inj hf
          exact gj_zret hO (Or.inl rfl) dX2_isNumber_47
        · replace hf := gj_f h hf
          refine gj_iconst (v := 1) hO dX2_isNumber_42 (by decide) ?_
          refine gj_goto (tgt := 47) hO dX2_isNumber_43 (by decide) ?_
          obtain rfl := Option.some.inj hf
          exact gj_zret hO (Or.inr rfl) dX2_isNumber_47
  · replace hf := gj_f h hf
    refine gj_aload_n hO 0 dX2_isNumber_8 rfl rfl ?_
    refine gj_iconst (v := 1) hO dX2_isNumber_9 (by decide) ?_
    obtain ⟨x3, hc3, hf⟩ := gj_b hf
    refine ca_X2_fails hO  hc3 wk_59 (by decide) (by decide) (Nat.le_of_ble_eq_true rfl) dX2_isNumber_10 ?_
    obtain ⟨hb4, hf⟩ := gj_c hf
    obtain rfl := Option.some.inj hf
    exact gj_zret hO hb4 dX2_isNumber_13
set_option maxHeartbeats 4000000 in
set_option maxRecDepth 100000 in
theorem ca_X2_isNumber {E : gj_E} {X : gj_X} {own : String} {cc : ByteArray} {nL : Nat} {rt : Option FieldType} {fr lo : Nat} {r : Option gj_V} {τ : gj_S} {pc : Nat} {lv : List (Nat × gj_V)} {st : List gj_V} {σ : gj_S} (hO : gj_O E X own cc nL rt fr lo) {b1 : Int32} {b2 : Int32}  {idx : Nat} {x : (Int32 × gj_S)} (hf : f_X2_isNumber b1 b2 σ = some x) (hl : Cond.methodLink own idx yX2_isNumber ∈ gj_gw) (hf1 : 2 ≤ fr) (hf2 : 43 ≤ lo) (hcat : ((st.map (gj_tv E.2.1)).map fun v => v.category).sum ≤ 8) (hd : decode cc pc = .ok (.invokevirtual idx, 3)) (k : gj_G E X nL r τ (pc + 3) lv ((gj_i x.1) :: st) x.2) : gj_G E X nL r τ pc lv (gj_i b2 :: gj_i b1 :: gj_r 2 :: st) σ :=
  gj_callV hO (o := 2) (vs := [gj_i b1, gj_i b2]) (m_X2_isNumber  hf) hl wk_63 wk_64 wk_18 wk_65 kl_2 kd_2 (by decide) (ci := 2) rfl (n := 2) (by decide +kernel) rfl hf1 hf2 rfl hcat hd k
def f_X2_readDock  (σ : gj_S) : Option (Int32 × gj_S) := (if (σ.1 3 0) < (8 : Int32) then ((f_X2_readToken σ).bind fun x1 => ((f_X2_isNewName x1).bind fun x2 => (if x2.1 = 0 then some ((0 : Int32), x2.2) else (if gj_in (x2.2.1 3 0) 8 then (if gj_in (x2.2.1 3 0) 8 then ((some (gj_sI (gj_sJ x2.2 13 (vp_updL (x2.2.2.1 13) (Int32.toNatClampNeg (x2.2.1 3 0)) (x2.2.2.1 2 9))) 4 (upd ((gj_sJ x2.2 13 (vp_updL (x2.2.2.1 13) (Int32.toNatClampNeg (x2.2.1 3 0)) (x2.2.2.1 2 9))).1 4) (Int32.toNatClampNeg (x2.2.1 3 0)) (0 : Int32)))).bind fun s5 => ((f_X2_readToken (gj_sI s5 3 (upd (s5.1 3) 0 ((s5.1 3 0) + (1 : Int32))))).bind fun x6 => ((f_X2_isWord (444150998387 : Int64) x6).bind fun x7 => (if x7 = 0 then ((f_X2_isWord (499850634611 : Int64) x6).bind fun x14 => (if x14 = 0 then some ((1 : Int32), x6) else ((f_X2_isWord (444150998387 : Int64) x6).bind fun x15 => ((if x15 = 0 then some (-1 : Int32) else some (1 : Int32) : Option Int32).bind fun z16 => ((f_X2_readToken x6).bind fun x17 => ((f_X2_isNumber (0 : Int32) (999 : Int32) x17).bind fun x18 => (if x18.1 = 0 then some ((0 : Int32), x18.2) else (if gj_in (x2.2.1 3 0) 8 then ((f_X2_readToken (gj_sI x18.2 4 (upd (x18.2.1 4) (Int32.toNatClampNeg (x2.2.1 3 0)) (z16 * (Int64.toInt32 (x18.2.2.1 2 9)))))).bind fun x20 => some ((1 : Int32), x20)) else none)))))))) else ((f_X2_isWord (444150998387 : Int64) x6).bind fun x8 => ((if x8 = 0 then some (-1 : Int32) else some (1 : Int32) : Option Int32).bind fun z9 => ((f_X2_readToken x6).bind fun x10 => ((f_X2_isNumber (0 : Int32) (999 : Int32) x10).bind fun x11 => (if x11.1 = 0 then some ((0 : Int32), x11.2) else (if gj_in (x2.2.1 3 0) 8 then ((f_X2_readToken (gj_sI x11.2 4 (upd (x11.2.1 4) (Int32.toNatClampNeg (x2.2.1 3 0)) (z9 * (Int64.toInt32 (x11.2.2.1 2 9)))))).bind fun x13 => some ((1 : Int32), x13)) else none)))))))))) else none) else none)))) else ((f_X2_fails (5 : Int32) σ).bind fun x21 => (if x21.1 = 0 ∨ x21.1 = 1 then some (x21.1, x21.2) else none)))
set_option maxHeartbeats 4000000 in
set_option maxRecDepth 100000 in
theorem m_X2_readDock {E : gj_E} {σ : gj_S}   {x : (Int32 × gj_S)} (hf : f_X2_readDock  σ = some x) : gj_M E yX2_readDock cX2_readDock 3 (some .boolean) 2 43 [gj_r 2] σ (some (gj_i x.1)) x.2 := by
  refine gj_body (lv := [(0, gj_r 2)]) (by decide +kernel) (Nat.le_of_ble_eq_true rfl) rfl (fun X hO => ?_)
  replace hO : gj_O E X RX2 cX2_readDock 3 (some .boolean) 2 43 := hO
  unfold f_X2_readDock at hf
  refine gj_aload_n hO 0 dX2_readDock_0 rfl rfl ?_
  refine gt_X2_0 hO wk_49 dX2_readDock_1 ?_
  refine gt_X1_0 hO kd_3 kl_3 wk_50 dX2_readDock_4 ?_
  refine gj_bipush (v := 8) hO dX2_readDock_7 (by decide) ?_
  refine gj_icmp_lt (tgt := 18) hO dX2_readDock_9 (by decide) (fun h => ?_) (fun h => ?_)
  · replace hf := gj_t h hf
    refine gj_aload_n hO 0 dX2_readDock_18 rfl rfl ?_
    obtain ⟨x1, hc1, hf⟩ := gj_b hf
    refine ca_X2_readToken hO  hc1 wk_66 (by decide) (by decide) (Nat.le_of_ble_eq_true rfl) dX2_readDock_19 ?_
    refine gj_aload_n hO 0 dX2_readDock_22 rfl rfl ?_
    obtain ⟨x2, hc2, hf⟩ := gj_b hf
    refine ca_X2_isNewName hO  hc2 wk_67 (by decide) (by decide) (Nat.le_of_ble_eq_true rfl) dX2_readDock_23 ?_
    refine gj_if_ne (tgt := 31) hO dX2_readDock_26 (by decide) (fun h => ?_) (fun h => ?_)
    · replace hf := gj_f h hf
      refine gj_aload_n hO 0 dX2_readDock_31 rfl rfl ?_
      refine gt_X2_0 hO wk_49 dX2_readDock_32 ?_
      refine gt_X1_0 hO kd_3 kl_3 wk_50 dX2_readDock_35 ?_
      refine gj_istore_n (lv2 := [(1, gj_i (x2.2.1 3 0)), (0, gj_r 2)]) hO dX2_readDock_38 rfl (by decide) rfl ?_
      refine gj_aload_n hO 1 dX2_readDock_39 rfl rfl ?_
      refine gt_X2_2 hO wk_51 dX2_readDock_40 ?_
      refine gj_iload_n hO 0 dX2_readDock_43 rfl rfl ?_
      refine gj_aload_n hO 1 dX2_readDock_44 rfl rfl ?_
      refine gt_X2_9 hO wk_24 dX2_readDock_45 ?_
      obtain ⟨hb3, hf⟩ := gj_c hf
      refine gj_last hO kl_13 kd_13 hb3 dX2_readDock_48 ?_
      refine gj_aload_n hO 1 dX2_readDock_49 rfl rfl ?_
      refine gt_X2_0 hO wk_49 dX2_readDock_50 ?_
      refine gt_X1_5 hO kd_3 kl_3 wk_68 dX2_readDock_53 ?_
      refine gj_iload_n hO 0 dX2_readDock_56 rfl rfl ?_
      refine gj_iconst (v := 0) hO dX2_readDock_57 (by decide) ?_
      obtain ⟨hb4, hf⟩ := gj_c hf
      refine gj_iast hO kl_4 kd_4 hb4 dX2_readDock_58 ?_
      obtain ⟨s5, e5, hf⟩ := gj_b hf
      refine gj_eqS (Option.some.inj e5) ?_
      refine gj_aload_n hO 1 dX2_readDock_59 rfl rfl ?_
      refine gt_X2_0 hO wk_49 dX2_readDock_60 ?_
      refine gj_dup hO dX2_readDock_63 trivial ?_
      refine gt_X1_0 hO kd_3 kl_3 wk_50 dX2_readDock_64 ?_
      refine gj_iconst (v := 1) hO dX2_readDock_67 (by decide) ?_
      refine gj_iadd hO dX2_readDock_68 ?_
      refine pt_X1_0 hO kd_3 kl_3 wk_50 dX2_readDock_69 ?_
      refine gj_aload_n hO 1 dX2_readDock_72 rfl rfl ?_
      obtain ⟨x6, hc6, hf⟩ := gj_b hf
      refine ca_X2_readToken hO  hc6 wk_66 (by decide) (by decide) (Nat.le_of_ble_eq_true rfl) dX2_readDock_73 ?_
      refine gj_aload_n hO 1 dX2_readDock_76 rfl rfl ?_
      refine gj_ldc2 hO wk_40 dX2_readDock_77 ?_
      obtain ⟨x7, hc7, hf⟩ := gj_b hf
      refine ca_X2_isWord hO  hc7 wk_69 (by decide) (by decide) (Nat.le_of_ble_eq_true rfl) dX2_readDock_80 ?_
      refine gj_if_ne (tgt := 98) hO dX2_readDock_83 (by decide) (fun h => ?_) (fun h => ?_)
      · replace hf := gj_f h hf
        refine gj_aload_n hO 1 dX2_readDock_98 rfl rfl ?_
        refine gj_ldc2 hO wk_40 dX2_readDock_99 ?_
        obtain ⟨x8, hc8, hf⟩ := gj_b hf
        refine ca_X2_isWord hO  hc8 wk_69 (by decide) (by decide) (Nat.le_of_ble_eq_true rfl) dX2_readDock_102 ?_
        obtain ⟨z9, hz9, hf⟩ := gj_b hf
        have J9 : gj_G E X 3 (some (gj_i x.1)) x.2 113 [(0, gj_r 2), (1, gj_i (x2.2.1 3 0))] [gj_i z9] x6 := by
          refine gj_istore_n (lv2 := [(2, gj_i z9), (0, gj_r 2), (1, gj_i (x2.2.1 3 0))]) hO dX2_readDock_113 rfl (by decide) rfl ?_
          refine gj_aload_n hO 1 dX2_readDock_114 rfl rfl ?_
          obtain ⟨x10, hc10, hf⟩ := gj_b hf
          refine ca_X2_readToken hO  hc10 wk_66 (by decide) (by decide) (Nat.le_of_ble_eq_true rfl) dX2_readDock_115 ?_
          refine gj_aload_n hO 1 dX2_readDock_118 rfl rfl ?_
          refine gj_iconst (v := 0) hO dX2_readDock_119 (by decide) ?_
          refine gj_sipush (v := 999) hO dX2_readDock_120 (by decide) ?_
          obtain ⟨x11, hc11, hf⟩ := gj_b hf
          refine ca_X2_isNumber hO  hc11 wk_70 (by decide) (by decide) (Nat.le_of_ble_eq_true rfl) dX2_readDock_123 ?_
          refine gj_if_ne (tgt := 131) hO dX2_readDock_126 (by decide) (fun h => ?_) (fun h => ?_)
          · replace hf := gj_f h hf
            refine gj_aload_n hO 1 dX2_readDock_131 rfl rfl ?_
            refine gt_X2_0 hO wk_49 dX2_readDock_132 ?_
            refine gt_X1_5 hO kd_3 kl_3 wk_68 dX2_readDock_135 ?_
            refine gj_iload_n hO 2 dX2_readDock_138 rfl rfl ?_
            refine gj_iload_n hO 0 dX2_readDock_139 rfl rfl ?_
            refine gj_aload_n hO 1 dX2_readDock_140 rfl rfl ?_
            refine gt_X2_9 hO wk_24 dX2_readDock_141 ?_
            refine gj_l2i hO dX2_readDock_144 ?_
            refine gj_imul hO dX2_readDock_145 ?_
            obtain ⟨hb12, hf⟩ := gj_c hf
            refine gj_iast hO kl_4 kd_4 hb12 dX2_readDock_146 ?_
            refine gj_aload_n hO 1 dX2_readDock_147 rfl rfl ?_
            obtain ⟨x13, hc13, hf⟩ := gj_b hf
            refine ca_X2_readToken hO  hc13 wk_66 (by decide) (by decide) (Nat.le_of_ble_eq_true rfl) dX2_readDock_148 ?_
            refine gj_iconst (v := 1) hO dX2_readDock_151 (by decide) ?_
            obtain rfl := Option.some.inj hf
            exact gj_zret hO (Or.inr rfl) dX2_readDock_152
          · replace hf := gj_t h hf
            refine gj_iconst (v := 0) hO dX2_readDock_129 (by decide) ?_
            obtain rfl := Option.some.inj hf
            exact gj_zret hO (Or.inl rfl) dX2_readDock_130
        refine gj_if_eq (tgt := 112) hO dX2_readDock_105 (by decide) (fun h => ?_) (fun h => ?_)
        · replace hz9 := gj_t h hz9
          refine gj_iconst (v := (-1)) hO dX2_readDock_112 (by decide) ?_
          obtain rfl := Option.some.inj hz9
          refine gj_sub [1, 0] rfl ?_
          exact J9
        · replace hz9 := gj_f h hz9
          refine gj_iconst (v := 1) hO dX2_readDock_108 (by decide) ?_
          refine gj_goto (tgt := 113) hO dX2_readDock_109 (by decide) ?_
          obtain rfl := Option.some.inj hz9
          refine gj_sub [1, 0] rfl ?_
          exact J9
      · replace hf := gj_t h hf
        refine gj_aload_n hO 1 dX2_readDock_86 rfl rfl ?_
        refine gj_ldc2 hO wk_41 dX2_readDock_87 ?_
        obtain ⟨x14, hc14, hf⟩ := gj_b hf
        refine ca_X2_isWord hO  hc14 wk_69 (by decide) (by decide) (Nat.le_of_ble_eq_true rfl) dX2_readDock_90 ?_
        refine gj_if_ne (tgt := 98) hO dX2_readDock_93 (by decide) (fun h => ?_) (fun h => ?_)
        · replace hf := gj_f h hf
          refine gj_aload_n hO 1 dX2_readDock_98 rfl rfl ?_
          refine gj_ldc2 hO wk_40 dX2_readDock_99 ?_
          obtain ⟨x15, hc15, hf⟩ := gj_b hf
          refine ca_X2_isWord hO  hc15 wk_69 (by decide) (by decide) (Nat.le_of_ble_eq_true rfl) dX2_readDock_102 ?_
          obtain ⟨z16, hz16, hf⟩ := gj_b hf
          have J16 : gj_G E X 3 (some (gj_i x.1)) x.2 113 [(0, gj_r 2), (1, gj_i (x2.2.1 3 0))] [gj_i z16] x6 := by
            refine gj_istore_n (lv2 := [(2, gj_i z16), (0, gj_r 2), (1, gj_i (x2.2.1 3 0))]) hO dX2_readDock_113 rfl (by decide) rfl ?_
            refine gj_aload_n hO 1 dX2_readDock_114 rfl rfl ?_
            obtain ⟨x17, hc17, hf⟩ := gj_b hf
            refine ca_X2_readToken hO  hc17 wk_66 (by decide) (by decide) (Nat.le_of_ble_eq_true rfl) dX2_readDock_115 ?_
            refine gj_aload_n hO 1 dX2_readDock_118 rfl rfl ?_
            refine gj_iconst (v := 0) hO dX2_readDock_119 (by decide) ?_
            refine gj_sipush (v := 999) hO dX2_readDock_120 (by decide) ?_
            obtain ⟨x18, hc18, hf⟩ := gj_b hf
            refine ca_X2_isNumber hO  hc18 wk_70 (by decide) (by decide) (Nat.le_of_ble_eq_true rfl) dX2_readDock_123 ?_
            refine gj_if_ne (tgt := 131) hO dX2_readDock_126 (by decide) (fun h => ?_) (fun h => ?_)
            · replace hf := gj_f h hf
              refine gj_aload_n hO 1 dX2_readDock_131 rfl rfl ?_
              refine gt_X2_0 hO wk_49 dX2_readDock_132 ?_
              refine gt_X1_5 hO kd_3 kl_3 wk_68 dX2_readDock_135 ?_
              refine gj_iload_n hO 2 dX2_readDock_138 rfl rfl ?_
              refine gj_iload_n hO 0 dX2_readDock_139 rfl rfl ?_
              refine gj_aload_n hO 1 dX2_readDock_140 rfl rfl ?_
              refine gt_X2_9 hO wk_24 dX2_readDock_141 ?_
              refine gj_l2i hO dX2_readDock_144 ?_
              refine gj_imul hO dX2_readDock_145 ?_
              obtain ⟨hb19, hf⟩ := gj_c hf
              refine gj_iast hO kl_4 kd_4 hb19 dX2_readDock_146 ?_
              refine gj_aload_n hO 1 dX2_readDock_147 rfl rfl ?_
              obtain ⟨x20, hc20, hf⟩ := gj_b hf
              refine ca_X2_readToken hO  hc20 wk_66 (by decide) (by decide) (Nat.le_of_ble_eq_true rfl) dX2_readDock_148 ?_
              refine gj_iconst (v := 1) hO dX2_readDock_151 (by decide) ?_
              obtain rfl := Option.some.inj hf
              exact gj_zret hO (Or.inr rfl) dX2_readDock_152
            · replace hf := gj_t h hf
              refine gj_iconst (v := 0) hO dX2_readDock_129 (by decide) ?_
              obtain rfl := Option.some.inj hf
              exact gj_zret hO (Or.inl rfl) dX2_readDock_130
          refine gj_if_eq (tgt := 112) hO dX2_readDock_105 (by decide) (fun h => ?_) (fun h => ?_)
          · replace hz16 := gj_t h hz16
            refine gj_iconst (v := (-1)) hO dX2_readDock_112 (by decide) ?_
            obtain rfl := Option.some.inj hz16
            refine gj_sub [1, 0] rfl ?_
            exact J16
          · replace hz16 := gj_f h hz16
            refine gj_iconst (v := 1) hO dX2_readDock_108 (by decide) ?_
            refine gj_goto (tgt := 113) hO dX2_readDock_109 (by decide) ?_
            obtain rfl := Option.some.inj hz16
            refine gj_sub [1, 0] rfl ?_
            exact J16
        · replace hf := gj_t h hf
          refine gj_iconst (v := 1) hO dX2_readDock_96 (by decide) ?_
          obtain rfl := Option.some.inj hf
          exact gj_zret hO (Or.inr rfl) dX2_readDock_97
    · replace hf := gj_t h hf
      refine gj_iconst (v := 0) hO dX2_readDock_29 (by decide) ?_
      obtain rfl := Option.some.inj hf
      exact gj_zret hO (Or.inl rfl) dX2_readDock_30
  · replace hf := gj_f h hf
    refine gj_aload_n hO 0 dX2_readDock_12 rfl rfl ?_
    refine gj_iconst (v := 5) hO dX2_readDock_13 (by decide) ?_
    obtain ⟨x21, hc21, hf⟩ := gj_b hf
    refine ca_X2_fails hO  hc21 wk_59 (by decide) (by decide) (Nat.le_of_ble_eq_true rfl) dX2_readDock_14 ?_
    obtain ⟨hb22, hf⟩ := gj_c hf
    obtain rfl := Option.some.inj hf
    exact gj_zret hO hb22 dX2_readDock_17
set_option maxHeartbeats 4000000 in
set_option maxRecDepth 100000 in
theorem ca_X2_readDock {E : gj_E} {X : gj_X} {own : String} {cc : ByteArray} {nL : Nat} {rt : Option FieldType} {fr lo : Nat} {r : Option gj_V} {τ : gj_S} {pc : Nat} {lv : List (Nat × gj_V)} {st : List gj_V} {σ : gj_S} (hO : gj_O E X own cc nL rt fr lo)   {idx : Nat} {x : (Int32 × gj_S)} (hf : f_X2_readDock  σ = some x) (hl : Cond.methodLink own idx yX2_readDock ∈ gj_gw) (hf1 : 3 ≤ fr) (hf2 : 65 ≤ lo) (hcat : ((st.map (gj_tv E.2.1)).map fun v => v.category).sum ≤ 8) (hd : decode cc pc = .ok (.invokevirtual idx, 3)) (k : gj_G E X nL r τ (pc + 3) lv ((gj_i x.1) :: st) x.2) : gj_G E X nL r τ pc lv (gj_r 2 :: st) σ :=
  gj_callV hO (o := 2) (vs := []) (m_X2_readDock  hf) hl wk_71 wk_72 wk_18 wk_73 kl_2 kd_2 (by decide) (ci := 2) rfl (n := 0) (by decide +kernel) rfl hf1 hf2 rfl hcat hd k
def f_X2_findDock (b1 : Int32) (σ : gj_S) : Option (Int32 × gj_S) := ((f_X2_isName σ).bind fun x1 => ((if x1 = 0 then some (-1 : Int32) else ((f_X2_numberOfDock σ).bind fun x3 => some x3) : Option Int32).bind fun z2 => (if z2 = (-1 : Int32) then ((f_X2_isName σ).bind fun x4 => (if x4 = 0 then ((f_X2_fails (1 : Int32) σ).bind fun x5 => some ((-1 : Int32), x5.2)) else ((f_X2_fails (4 : Int32) σ).bind fun x6 => some ((-1 : Int32), x6.2)))) else (if z2 = b1 then ((f_X2_isName σ).bind fun x7 => (if x7 = 0 then ((f_X2_fails (1 : Int32) σ).bind fun x8 => some ((-1 : Int32), x8.2)) else ((f_X2_fails (4 : Int32) σ).bind fun x9 => some ((-1 : Int32), x9.2)))) else some (z2, σ)))))
set_option maxHeartbeats 4000000 in
set_option maxRecDepth 100000 in
theorem m_X2_findDock {E : gj_E} {σ : gj_S} {b1 : Int32}  {x : (Int32 × gj_S)} (hf : f_X2_findDock b1 σ = some x) : gj_M E yX2_findDock cX2_findDock 3 (some .int) 1 21 [gj_r 2, gj_i b1] σ (some (gj_i x.1)) x.2 := by
  refine gj_body (lv := [(0, gj_r 2), (1, gj_i b1)]) (by decide +kernel) (Nat.le_of_ble_eq_true rfl) rfl (fun X hO => ?_)
  replace hO : gj_O E X RX2 cX2_findDock 3 (some .int) 1 21 := hO
  unfold f_X2_findDock at hf
  refine gj_aload_n hO 0 dX2_findDock_0 rfl rfl ?_
  obtain ⟨x1, hc1, hf⟩ := gj_b hf
  refine ca_X2_isName hO  hc1 wk_55 (by decide) (by decide) (Nat.le_of_ble_eq_true rfl) dX2_findDock_1 ?_
  obtain ⟨z2, hz2, hf⟩ := gj_b hf
  have J2 : gj_G E X 3 (some (gj_i x.1)) x.2 15 [(0, gj_r 2), (1, gj_i b1)] [gj_i z2] σ := by
    refine gj_istore_n (lv2 := [(2, gj_i z2), (0, gj_r 2), (1, gj_i b1)]) hO dX2_findDock_15 rfl (by decide) rfl ?_
    refine gj_iload_n hO 0 dX2_findDock_16 rfl rfl ?_
    refine gj_iconst (v := (-1)) hO dX2_findDock_17 (by decide) ?_
    refine gj_icmp_eq (tgt := 26) hO dX2_findDock_18 (by decide) (fun h => ?_) (fun h => ?_)
    · replace hf := gj_t h hf
      refine gj_aload_n hO 1 dX2_findDock_26 rfl rfl ?_
      refine gj_aload_n hO 1 dX2_findDock_27 rfl rfl ?_
      obtain ⟨x4, hc4, hf⟩ := gj_b hf
      refine ca_X2_isName hO  hc4 wk_55 (by decide) (by decide) (Nat.le_of_ble_eq_true rfl) dX2_findDock_28 ?_
      refine gj_if_eq (tgt := 38) hO dX2_findDock_31 (by decide) (fun h => ?_) (fun h => ?_)
      · replace hf := gj_t h hf
        refine gj_iconst (v := 1) hO dX2_findDock_38 (by decide) ?_
        obtain ⟨x5, hc5, hf⟩ := gj_b hf
        refine ca_X2_fails hO  hc5 wk_59 (by decide) (by decide) (Nat.le_of_ble_eq_true rfl) dX2_findDock_39 ?_
        refine gj_pop hO dX2_findDock_42 trivial ?_
        refine gj_iconst (v := (-1)) hO dX2_findDock_43 (by decide) ?_
        obtain rfl := Option.some.inj hf
        exact gj_iret hO dX2_findDock_44
      · replace hf := gj_f h hf
        refine gj_iconst (v := 4) hO dX2_findDock_34 (by decide) ?_
        refine gj_goto (tgt := 39) hO dX2_findDock_35 (by decide) ?_
        obtain ⟨x6, hc6, hf⟩ := gj_b hf
        refine ca_X2_fails hO  hc6 wk_59 (by decide) (by decide) (Nat.le_of_ble_eq_true rfl) dX2_findDock_39 ?_
        refine gj_pop hO dX2_findDock_42 trivial ?_
        refine gj_iconst (v := (-1)) hO dX2_findDock_43 (by decide) ?_
        obtain rfl := Option.some.inj hf
        exact gj_iret hO dX2_findDock_44
    · replace hf := gj_f h hf
      refine gj_iload_n hO 0 dX2_findDock_21 rfl rfl ?_
      refine gj_iload_n hO 2 dX2_findDock_22 rfl rfl ?_
      refine gj_icmp_ne (tgt := 45) hO dX2_findDock_23 (by decide) (fun h => ?_) (fun h => ?_)
      · replace hf := gj_f h hf
        refine gj_iload_n hO 0 dX2_findDock_45 rfl rfl ?_
        obtain rfl := Option.some.inj hf
        exact gj_iret hO dX2_findDock_46
      · replace hf := gj_t h hf
        refine gj_aload_n hO 1 dX2_findDock_26 rfl rfl ?_
        refine gj_aload_n hO 1 dX2_findDock_27 rfl rfl ?_
        obtain ⟨x7, hc7, hf⟩ := gj_b hf
        refine ca_X2_isName hO  hc7 wk_55 (by decide) (by decide) (Nat.le_of_ble_eq_true rfl) dX2_findDock_28 ?_
        refine gj_if_eq (tgt := 38) hO dX2_findDock_31 (by decide) (fun h => ?_) (fun h => ?_)
        · replace hf := gj_t h hf
          refine gj_iconst (v := 1) hO dX2_findDock_38 (by decide) ?_
          obtain ⟨x8, hc8, hf⟩ := gj_b hf
          refine ca_X2_fails hO  hc8 wk_59 (by decide) (by decide) (Nat.le_of_ble_eq_true rfl) dX2_findDock_39 ?_
          refine gj_pop hO dX2_findDock_42 trivial ?_
          refine gj_iconst (v := (-1)) hO dX2_findDock_43 (by decide) ?_
          obtain rfl := Option.some.inj hf
          exact gj_iret hO dX2_findDock_44
        · replace hf := gj_f h hf
          refine gj_iconst (v := 4) hO dX2_findDock_34 (by decide) ?_
          refine gj_goto (tgt := 39) hO dX2_findDock_35 (by decide) ?_
          obtain ⟨x9, hc9, hf⟩ := gj_b hf
          refine ca_X2_fails hO  hc9 wk_59 (by decide) (by decide) (Nat.le_of_ble_eq_true rfl) dX2_findDock_39 ?_
          refine gj_pop hO dX2_findDock_42 trivial ?_
          refine gj_iconst (v := (-1)) hO dX2_findDock_43 (by decide) ?_
          obtain rfl := Option.some.inj hf
          exact gj_iret hO dX2_findDock_44
  refine gj_if_eq (tgt := 14) hO dX2_findDock_4 (by decide) (fun h => ?_) (fun h => ?_)
  · replace hz2 := gj_t h hz2
    refine gj_iconst (v := (-1)) hO dX2_findDock_14 (by decide) ?_
    obtain rfl := Option.some.inj hz2
    refine gj_sub [0, 1] rfl ?_
    exact J2
  · replace hz2 := gj_f h hz2
    refine gj_aload_n hO 0 dX2_findDock_7 rfl rfl ?_
    obtain ⟨x3, hc3, hz2⟩ := gj_b hz2
    refine ca_X2_numberOfDock hO  hc3 wk_56 (by decide) (by decide) (Nat.le_of_ble_eq_true rfl) dX2_findDock_8 ?_
    refine gj_goto (tgt := 15) hO dX2_findDock_11 (by decide) ?_
    obtain rfl := Option.some.inj hz2
    refine gj_sub [0, 1] rfl ?_
    exact J2
set_option maxHeartbeats 4000000 in
set_option maxRecDepth 100000 in
theorem ca_X2_findDock {E : gj_E} {X : gj_X} {own : String} {cc : ByteArray} {nL : Nat} {rt : Option FieldType} {fr lo : Nat} {r : Option gj_V} {τ : gj_S} {pc : Nat} {lv : List (Nat × gj_V)} {st : List gj_V} {σ : gj_S} (hO : gj_O E X own cc nL rt fr lo) {b1 : Int32}  {idx : Nat} {x : (Int32 × gj_S)} (hf : f_X2_findDock b1 σ = some x) (hl : Cond.methodLink own idx yX2_findDock ∈ gj_gw) (hf1 : 2 ≤ fr) (hf2 : 43 ≤ lo) (hcat : ((st.map (gj_tv E.2.1)).map fun v => v.category).sum ≤ 8) (hd : decode cc pc = .ok (.invokevirtual idx, 3)) (k : gj_G E X nL r τ (pc + 3) lv ((gj_i x.1) :: st) x.2) : gj_G E X nL r τ pc lv (gj_i b1 :: gj_r 2 :: st) σ :=
  gj_callV hO (o := 2) (vs := [gj_i b1]) (m_X2_findDock  hf) hl wk_74 wk_75 wk_18 wk_76 kl_2 kd_2 (by decide) (ci := 2) rfl (n := 1) (by decide +kernel) rfl hf1 hf2 rfl hcat hd k
