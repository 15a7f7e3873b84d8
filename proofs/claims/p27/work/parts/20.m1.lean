def fb_X8_putBytes_l3 (b1 : Int32) (a10003 : (Int32 × gj_S)) : Option (gj_S ⊕ (Int32 × gj_S)) := (if a10003.1 < 0 then some (.inl a10003.2) else (if (600 : Int32) ≤ (a10003.2.1 0 1) then some (.inl a10003.2) else (if gj_in (a10003.2.1 0 1) 600 then ((some (gj_sI (gj_sI a10003.2 1 (upd (a10003.2.1 1) (Int32.toNatClampNeg (a10003.2.1 0 1)) (vp_nar .byte (Int8.toInt32 (Int32.toInt8 (b1 >>> (a10003.1 &&& 31))))))) 0 (upd ((gj_sI a10003.2 1 (upd (a10003.2.1 1) (Int32.toNatClampNeg (a10003.2.1 0 1)) (vp_nar .byte (Int8.toInt32 (Int32.toInt8 (b1 >>> (a10003.1 &&& 31))))))).1 0) 1 (((gj_sI a10003.2 1 (upd (a10003.2.1 1) (Int32.toNatClampNeg (a10003.2.1 0 1)) (vp_nar .byte (Int8.toInt32 (Int32.toInt8 (b1 >>> (a10003.1 &&& 31))))))).1 0 1) + (1 : Int32))))).bind fun s10302 => some (.inr ((a10003.1 + (-8)), s10302))) else none)))
def f_X8_putBytes (b1 : Int32) (σ : gj_S) : Option gj_S := ((gj_lp (fb_X8_putBytes_l3 b1) 5000 ((24 : Int32), σ)).bind fun z1 => some z1)
set_option maxHeartbeats 4000000 in
set_option maxRecDepth 100000 in
theorem sb_X8_putBytes_l3 {E : gj_E} {X : gj_X} {r : Option gj_V} {τ : gj_S} (hO : gj_O E X RX8 cX8_putBytes 3 none 0 0) {b1 : Int32} {a10003_0 : Int32} {a10003_1 : gj_S} {x : gj_S ⊕ (Int32 × gj_S)} (hf : fb_X8_putBytes_l3 b1 (a10003_0, a10003_1) = some x) (K : gj_K (fun z1 => gj_G E X 3 r τ 46 [] [] z1) (fun a10003 => gj_G E X 3 r τ 3 [(0, gj_r 0), (1, gj_i b1), (2, gj_i a10003.1)] [] a10003.2) x) : gj_G E X 3 r τ 3 [(0, gj_r 0), (1, gj_i b1), (2, gj_i a10003_0)] [] a10003_1 := by
  unfold fb_X8_putBytes_l3 at hf
  dsimp only at hf
  refine gj_iload_n hO 2 dX8_putBytes_3 rfl rfl ?_
  refine gj_if_lt (tgt := 46) hO dX8_putBytes_4 (by decide) (fun h => ?_) (fun h => ?_)
  · replace hf := gj_t h hf
    obtain rfl := Option.some.inj hf
    refine gj_sub (lv2 := []) [] rfl ?_
    exact K
  · replace hf := gj_f h hf
    refine gj_aload_n hO 0 dX8_putBytes_7 rfl rfl ?_
    refine gt_X8_1 hO wk_0 dX8_putBytes_8 ?_
    refine gj_sipush (v := 600) hO dX8_putBytes_11 (by decide) ?_
    refine gj_icmp_ge (tgt := 46) hO dX8_putBytes_14 (by decide) (fun h => ?_) (fun h => ?_)
    · replace hf := gj_t h hf
      obtain rfl := Option.some.inj hf
      refine gj_sub (lv2 := []) [] rfl ?_
      exact K
    · replace hf := gj_f h hf
      refine gj_aload_n hO 0 dX8_putBytes_17 rfl rfl ?_
      refine gt_X8_0 hO wk_1 dX8_putBytes_18 ?_
      refine gj_aload_n hO 0 dX8_putBytes_21 rfl rfl ?_
      refine gt_X8_1 hO wk_0 dX8_putBytes_22 ?_
      refine gj_iload_n hO 1 dX8_putBytes_25 rfl rfl ?_
      refine gj_iload_n hO 2 dX8_putBytes_26 rfl rfl ?_
      refine gj_ishr hO dX8_putBytes_27 ?_
      refine gj_i2b hO dX8_putBytes_28 ?_
      obtain ⟨hb10301, hf⟩ := gj_c hf
      refine gj_bast hO kl_1 kd_1 hb10301 dX8_putBytes_29 ?_
      refine gj_aload_n hO 0 dX8_putBytes_30 rfl rfl ?_
      refine gj_dup hO dX8_putBytes_31 trivial ?_
      refine gt_X8_1 hO wk_0 dX8_putBytes_32 ?_
      refine gj_iconst (v := 1) hO dX8_putBytes_35 (by decide) ?_
      refine gj_iadd hO dX8_putBytes_36 ?_
      refine pt_X8_1 hO wk_0 dX8_putBytes_37 ?_
      obtain ⟨s10302, e10302, hf⟩ := gj_b hf
      refine gj_eqS (Option.some.inj e10302) ?_
      refine gj_iinc (v := (a10003_0 + (-8))) (lv2 := [(2, gj_i (a10003_0 + (-8))), (0, gj_r 0), (1, gj_i b1)]) hO 2 dX8_putBytes_40 rfl rfl (by decide) rfl ?_
      refine gj_goto (tgt := 3) hO dX8_putBytes_43 (by decide) ?_
      obtain rfl := Option.some.inj hf
      refine gj_sub (lv2 := [(0, gj_r 0), (1, gj_i b1), (2, gj_i (a10003_0 + (-8)))]) [1, 2, 0] rfl ?_
      exact K
set_option maxHeartbeats 4000000 in
set_option maxRecDepth 100000 in
theorem m_X8_putBytes {E : gj_E} {σ : gj_S} {b1 : Int32}  {x : gj_S} (hf : f_X8_putBytes b1 σ = some x) : gj_M E yX8_putBytes cX8_putBytes 3 none 0 0 [gj_r 0, gj_i b1] σ none x := by
  refine gj_body (lv := [(0, gj_r 0), (1, gj_i b1)]) (by decide +kernel) (Nat.le_of_ble_eq_true rfl) rfl (fun X hO => ?_)
  replace hO : gj_O E X RX8 cX8_putBytes 3 none 0 0 := hO
  unfold f_X8_putBytes at hf
  refine gj_bipush (v := 24) hO dX8_putBytes_0 (by decide) ?_
  refine gj_istore_n (lv2 := [(2, gj_i (24 : Int32)), (0, gj_r 0), (1, gj_i b1)]) hO dX8_putBytes_2 rfl (by decide) rfl ?_
  obtain ⟨z1, hz1, hf⟩ := gj_b hf
  have J1 : gj_G E X 3 none x 46 [] [] z1 := by
    obtain rfl := Option.some.inj hf
    exact gj_vret hO dX8_putBytes_46
  refine gj_sub (lv2 := [(0, gj_r 0), (1, gj_i b1), (2, gj_i (24 : Int32))]) [1, 2, 0] rfl ?_
  exact gj_loop (head := fun a10003 => gj_G E X 3 none x 3 [(0, gj_r 0), (1, gj_i b1), (2, gj_i a10003.1)] [] a10003.2) (exit := fun z1 => gj_G E X 3 none x 46 [] [] z1) (fun a10003 x hf K => by obtain ⟨a10003_0, a10003_1⟩ := a10003; exact sb_X8_putBytes_l3 hO hf K) _ _ _ hz1 J1
set_option maxHeartbeats 4000000 in
set_option maxRecDepth 100000 in
theorem ca_X8_putBytes {E : gj_E} {X : gj_X} {own : String} {cc : ByteArray} {nL : Nat} {rt : Option FieldType} {fr lo : Nat} {ce sl : Nat} {Q : State → Prop} {pc : Nat} {lv : List (Nat × gj_V)} {st : List gj_V} {σ : gj_S} (hO : gj_O E X own cc nL rt fr lo) {b1 : Int32}  {idx : Nat} {x : gj_S} (hf : f_X8_putBytes b1 σ = some x) (hl : Cond.methodLink own idx yX8_putBytes ∈ gj_gw) (hf1 : 1 ≤ fr) (hf2 : 22 ≤ lo) (hcat : ((st.map (gj_tv E.2.1)).map fun v => v.category).sum ≤ 8) (hd : decode cc pc = .ok (.invokevirtual idx, 3)) (k : gj_H E X nL ce sl Q (pc + 3) lv (st) x) : gj_H E X nL ce sl Q pc lv (gj_i b1 :: gj_r 0 :: st) σ :=
  gj_callV hO (o := 0) (vs := [gj_i b1]) (m_X8_putBytes  hf) (gj_Iany (by decide)) hl wk_2 wk_3 wk_4 wk_5 kl_0 kd_0 (by decide) (ci := 8) rfl (n := 1) (by decide +kernel) rfl hf1 hf2 rfl hcat hd k
def f_X8_feed (b1 : Int32) (b2 : Int32) (b3 : Int32) (b4 : Int32) (b5 : Int32) (σ : gj_S) : Option (Int32 × gj_S) := (if ((σ.1 0 1) + (20 : Int32)) ≤ (600 : Int32) then ((f_X8_putBytes b1 σ).bind fun x1 => ((f_X8_putBytes b2 x1).bind fun x2 => ((f_X8_putBytes b3 x2).bind fun x3 => ((f_X8_putBytes b4 x3).bind fun x4 => ((f_X8_putBytes b5 x4).bind fun x5 => some ((x5.1 0 1), x5)))))) else some ((-1 : Int32), σ))
set_option maxHeartbeats 4000000 in
set_option maxRecDepth 100000 in
theorem m_X8_feed {E : gj_E} {σ : gj_S} {b1 : Int32} {b2 : Int32} {b3 : Int32} {b4 : Int32} {b5 : Int32}  {x : Int32} {y : gj_S} (hf : f_X8_feed b1 b2 b3 b4 b5 σ = some (x, y)) : gj_M E yX8_feed cX8_feed 6 (some .int) 1 22 [gj_r 0, gj_i b1, gj_i b2, gj_i b3, gj_i b4, gj_i b5] σ (some (gj_i x)) y := by
  refine gj_body (lv := [(0, gj_r 0), (1, gj_i b1), (2, gj_i b2), (3, gj_i b3), (4, gj_i b4), (5, gj_i b5)]) (by decide +kernel) (Nat.le_of_ble_eq_true rfl) rfl (fun X hO => ?_)
  replace hO : gj_O E X RX8 cX8_feed 6 (some .int) 1 22 := hO
  unfold f_X8_feed at hf
  refine gj_aload_n hO 0 dX8_feed_0 rfl rfl ?_
  refine gt_X8_1 hO wk_0 dX8_feed_1 ?_
  refine gj_bipush (v := 20) hO dX8_feed_4 (by decide) ?_
  refine gj_iadd hO dX8_feed_6 ?_
  refine gj_sipush (v := 600) hO dX8_feed_7 (by decide) ?_
  refine gj_icmp_le (tgt := 15) hO dX8_feed_10 (by decide) (fun h => ?_) (fun h => ?_)
  · replace hf := gj_t h hf
    refine gj_aload_n hO 0 dX8_feed_15 rfl rfl ?_
    refine gj_iload_n hO 1 dX8_feed_16 rfl rfl ?_
    obtain ⟨x1, hc1, hf⟩ := gj_b hf
    refine ca_X8_putBytes hO  hc1 wk_6 (by decide) (by decide) (Nat.le_of_ble_eq_true rfl) dX8_feed_17 ?_
    refine gj_aload_n hO 0 dX8_feed_20 rfl rfl ?_
    refine gj_iload_n hO 2 dX8_feed_21 rfl rfl ?_
    obtain ⟨x2, hc2, hf⟩ := gj_b hf
    refine ca_X8_putBytes hO  hc2 wk_6 (by decide) (by decide) (Nat.le_of_ble_eq_true rfl) dX8_feed_22 ?_
    refine gj_aload_n hO 0 dX8_feed_25 rfl rfl ?_
    refine gj_iload_n hO 3 dX8_feed_26 rfl rfl ?_
    obtain ⟨x3, hc3, hf⟩ := gj_b hf
    refine ca_X8_putBytes hO  hc3 wk_6 (by decide) (by decide) (Nat.le_of_ble_eq_true rfl) dX8_feed_27 ?_
    refine gj_aload_n hO 0 dX8_feed_30 rfl rfl ?_
    refine gj_iload hO 4 dX8_feed_31 rfl ?_
    obtain ⟨x4, hc4, hf⟩ := gj_b hf
    refine ca_X8_putBytes hO  hc4 wk_6 (by decide) (by decide) (Nat.le_of_ble_eq_true rfl) dX8_feed_33 ?_
    refine gj_aload_n hO 0 dX8_feed_36 rfl rfl ?_
    refine gj_iload hO 5 dX8_feed_37 rfl ?_
    obtain ⟨x5, hc5, hf⟩ := gj_b hf
    refine ca_X8_putBytes hO  hc5 wk_6 (by decide) (by decide) (Nat.le_of_ble_eq_true rfl) dX8_feed_39 ?_
    refine gj_aload_n hO 0 dX8_feed_42 rfl rfl ?_
    refine gt_X8_1 hO wk_0 dX8_feed_43 ?_
    replace hf := Option.some.inj hf
    simp only [Prod.mk.injEq] at hf
    obtain ⟨rfl, rfl⟩ := hf
    exact gj_iret hO dX8_feed_46
  · replace hf := gj_f h hf
    refine gj_iconst (v := (-1)) hO dX8_feed_13 (by decide) ?_
    replace hf := Option.some.inj hf
    simp only [Prod.mk.injEq] at hf
    obtain ⟨rfl, rfl⟩ := hf
    exact gj_iret hO dX8_feed_14
set_option maxHeartbeats 4000000 in
set_option maxRecDepth 100000 in
theorem ca_X8_feed {E : gj_E} {X : gj_X} {own : String} {cc : ByteArray} {nL : Nat} {rt : Option FieldType} {fr lo : Nat} {ce sl : Nat} {Q : State → Prop} {pc : Nat} {lv : List (Nat × gj_V)} {st : List gj_V} {σ : gj_S} (hO : gj_O E X own cc nL rt fr lo) {b1 : Int32} {b2 : Int32} {b3 : Int32} {b4 : Int32} {b5 : Int32}  {idx : Nat} {x : Int32} {y : gj_S} (hf : f_X8_feed b1 b2 b3 b4 b5 σ = some (x, y)) (hl : Cond.methodLink own idx yX8_feed ∈ gj_gw) (hf1 : 2 ≤ fr) (hf2 : 47 ≤ lo) (hcat : ((st.map (gj_tv E.2.1)).map fun v => v.category).sum ≤ 8) (hd : decode cc pc = .ok (.invokevirtual idx, 3)) (k : gj_H E X nL ce sl Q (pc + 3) lv ((gj_i x) :: st) y) : gj_H E X nL ce sl Q pc lv (gj_i b5 :: gj_i b4 :: gj_i b3 :: gj_i b2 :: gj_i b1 :: gj_r 0 :: st) σ :=
  gj_callV hO (o := 0) (vs := [gj_i b1, gj_i b2, gj_i b3, gj_i b4, gj_i b5]) (m_X8_feed  hf) (gj_Iany (by decide)) hl wk_7 wk_8 wk_4 wk_9 kl_0 kd_0 (by decide) (ci := 8) rfl (n := 5) (by decide +kernel) rfl hf1 hf2 rfl hcat hd k
def f_X1_tellNothing (b0 : Nat) (σ : gj_S) : Option gj_S := ((some (gj_sI (gj_sI (gj_sI σ b0 (upd (σ.1 b0) 0 (0 : Int32))) b0 (upd ((gj_sI σ b0 (upd (σ.1 b0) 0 (0 : Int32))).1 b0) 1 (0 : Int32))) b0 (upd ((gj_sI (gj_sI σ b0 (upd (σ.1 b0) 0 (0 : Int32))) b0 (upd ((gj_sI σ b0 (upd (σ.1 b0) 0 (0 : Int32))).1 b0) 1 (0 : Int32))).1 b0) 2 (4 : Int32)))).bind fun s1 => some s1)
set_option maxHeartbeats 4000000 in
set_option maxRecDepth 100000 in
theorem m_X1_tellNothing {E : gj_E} {σ : gj_S} {b0 : Nat} (g0 : isP b0) {x : gj_S} (hf : f_X1_tellNothing b0 σ = some x) : gj_M E yX1_tellNothing cX1_tellNothing 1 none 0 0 [gj_r b0] σ none x := by
  refine gj_body (lv := [(0, gj_r b0)]) (by decide +kernel) (Nat.le_of_ble_eq_true rfl) rfl (fun X hO => ?_)
  replace hO : gj_O E X RX1 cX1_tellNothing 1 none 0 0 := hO
  unfold f_X1_tellNothing at hf
  refine gj_aload_n hO 0 dX1_tellNothing_0 rfl rfl ?_
  refine gj_iconst (v := 0) hO dX1_tellNothing_1 (by decide) ?_
  refine pt_X1_0 hO (kdP_0 g0) (klP_0 g0) wk_10 dX1_tellNothing_2 ?_
  refine gj_aload_n hO 0 dX1_tellNothing_5 rfl rfl ?_
  refine gj_iconst (v := 0) hO dX1_tellNothing_6 (by decide) ?_
  refine pt_X1_1 hO (kdP_0 g0) (klP_0 g0) wk_11 dX1_tellNothing_7 ?_
  refine gj_aload_n hO 0 dX1_tellNothing_10 rfl rfl ?_
  refine gj_iconst (v := 4) hO dX1_tellNothing_11 (by decide) ?_
  refine pt_X1_2 hO (kdP_0 g0) (klP_0 g0) wk_12 dX1_tellNothing_12 ?_
  obtain ⟨s1, e1, hf⟩ := gj_b hf
  refine gj_eqS (Option.some.inj e1) ?_
  obtain rfl := Option.some.inj hf
  exact gj_vret hO dX1_tellNothing_15
set_option maxHeartbeats 4000000 in
set_option maxRecDepth 100000 in
theorem ca_X1_tellNothing {E : gj_E} {X : gj_X} {own : String} {cc : ByteArray} {nL : Nat} {rt : Option FieldType} {fr lo : Nat} {ce sl : Nat} {Q : State → Prop} {pc : Nat} {lv : List (Nat × gj_V)} {st : List gj_V} {σ : gj_S} (hO : gj_O E X own cc nL rt fr lo) {b0 : Nat} (g0 : isP b0) {idx : Nat} {x : gj_S} (hf : f_X1_tellNothing b0 σ = some x) (hl : Cond.methodLink own idx yX1_tellNothing ∈ gj_gw) (hf1 : 1 ≤ fr) (hf2 : 20 ≤ lo) (hcat : ((st.map (gj_tv E.2.1)).map fun v => v.category).sum ≤ 8) (hd : decode cc pc = .ok (.invokevirtual idx, 3)) (k : gj_H E X nL ce sl Q (pc + 3) lv (st) x) : gj_H E X nL ce sl Q pc lv (gj_r b0 :: st) σ :=
  gj_callV hO (o := b0) (vs := []) (m_X1_tellNothing g0 hf) (gj_Iany (by decide)) hl wk_13 wk_14 wk_15 wk_16 (klP_0 g0) (kdP_0 g0) (by decide) (ci := 1) rfl (n := 0) (by decide +kernel) rfl hf1 hf2 rfl hcat hd k
def f_X2_kindOf (b0 : Int32) : Option Int32 := (if b0 < (97 : Int32) then (if b0 < (48 : Int32) then (if b0 = (59 : Int32) then some (2 : Int32) else some (4 : Int32)) else (if (57 : Int32) < b0 then (if b0 = (59 : Int32) then some (2 : Int32) else some (4 : Int32)) else some (1 : Int32))) else (if (122 : Int32) < b0 then (if b0 < (48 : Int32) then (if b0 = (59 : Int32) then some (2 : Int32) else some (4 : Int32)) else (if (57 : Int32) < b0 then (if b0 = (59 : Int32) then some (2 : Int32) else some (4 : Int32)) else some (1 : Int32))) else some (0 : Int32)))
set_option maxHeartbeats 4000000 in
set_option maxRecDepth 100000 in
theorem m_X2_kindOf {E : gj_E} {σ : gj_S} {b0 : Int32}  {x : Int32} (hf : f_X2_kindOf b0 = some x) : gj_M E yX2_kindOf cX2_kindOf 1 (some .int) 0 0 [gj_i b0] σ (some (gj_i x)) σ := by
  refine gj_body (lv := [(0, gj_i b0)]) (by decide +kernel) (Nat.le_of_ble_eq_true rfl) rfl (fun X hO => ?_)
  replace hO : gj_O E X RX2 cX2_kindOf 1 (some .int) 0 0 := hO
  unfold f_X2_kindOf at hf
  refine gj_iload_n hO 0 dX2_kindOf_0 rfl rfl ?_
  refine gj_bipush (v := 97) hO dX2_kindOf_1 (by decide) ?_
  refine gj_icmp_lt (tgt := 14) hO dX2_kindOf_3 (by decide) (fun h => ?_) (fun h => ?_)
  · replace hf := gj_t h hf
    refine gj_iload_n hO 0 dX2_kindOf_14 rfl rfl ?_
    refine gj_bipush (v := 48) hO dX2_kindOf_15 (by decide) ?_
    refine gj_icmp_lt (tgt := 28) hO dX2_kindOf_17 (by decide) (fun h => ?_) (fun h => ?_)
    · replace hf := gj_t h hf
      refine gj_iload_n hO 0 dX2_kindOf_28 rfl rfl ?_
      refine gj_bipush (v := 59) hO dX2_kindOf_29 (by decide) ?_
      refine gj_icmp_ne (tgt := 38) hO dX2_kindOf_31 (by decide) (fun h => ?_) (fun h => ?_)
      · replace hf := gj_f h hf
        refine gj_iconst (v := 4) hO dX2_kindOf_38 (by decide) ?_
        obtain rfl := Option.some.inj hf
        exact gj_iret hO dX2_kindOf_39
      · replace hf := gj_t h hf
        refine gj_iconst (v := 2) hO dX2_kindOf_34 (by decide) ?_
        refine gj_goto (tgt := 39) hO dX2_kindOf_35 (by decide) ?_
        obtain rfl := Option.some.inj hf
        exact gj_iret hO dX2_kindOf_39
    · replace hf := gj_f h hf
      refine gj_iload_n hO 0 dX2_kindOf_20 rfl rfl ?_
      refine gj_bipush (v := 57) hO dX2_kindOf_21 (by decide) ?_
      refine gj_icmp_gt (tgt := 28) hO dX2_kindOf_23 (by decide) (fun h => ?_) (fun h => ?_)
      · replace hf := gj_t h hf
        refine gj_iload_n hO 0 dX2_kindOf_28 rfl rfl ?_
        refine gj_bipush (v := 59) hO dX2_kindOf_29 (by decide) ?_
        refine gj_icmp_ne (tgt := 38) hO dX2_kindOf_31 (by decide) (fun h => ?_) (fun h => ?_)
        · replace hf := gj_f h hf
          refine gj_iconst (v := 4) hO dX2_kindOf_38 (by decide) ?_
          obtain rfl := Option.some.inj hf
          exact gj_iret hO dX2_kindOf_39
        · replace hf := gj_t h hf
          refine gj_iconst (v := 2) hO dX2_kindOf_34 (by decide) ?_
          refine gj_goto (tgt := 39) hO dX2_kindOf_35 (by decide) ?_
          obtain rfl := Option.some.inj hf
          exact gj_iret hO dX2_kindOf_39
      · replace hf := gj_f h hf
        refine gj_iconst (v := 1) hO dX2_kindOf_26 (by decide) ?_
        obtain rfl := Option.some.inj hf
        exact gj_iret hO dX2_kindOf_27
  · replace hf := gj_f h hf
    refine gj_iload_n hO 0 dX2_kindOf_6 rfl rfl ?_
    refine gj_bipush (v := 122) hO dX2_kindOf_7 (by decide) ?_
    refine gj_icmp_gt (tgt := 14) hO dX2_kindOf_9 (by decide) (fun h => ?_) (fun h => ?_)
    · replace hf := gj_t h hf
      refine gj_iload_n hO 0 dX2_kindOf_14 rfl rfl ?_
      refine gj_bipush (v := 48) hO dX2_kindOf_15 (by decide) ?_
      refine gj_icmp_lt (tgt := 28) hO dX2_kindOf_17 (by decide) (fun h => ?_) (fun h => ?_)
      · replace hf := gj_t h hf
        refine gj_iload_n hO 0 dX2_kindOf_28 rfl rfl ?_
        refine gj_bipush (v := 59) hO dX2_kindOf_29 (by decide) ?_
        refine gj_icmp_ne (tgt := 38) hO dX2_kindOf_31 (by decide) (fun h => ?_) (fun h => ?_)
        · replace hf := gj_f h hf
          refine gj_iconst (v := 4) hO dX2_kindOf_38 (by decide) ?_
          obtain rfl := Option.some.inj hf
          exact gj_iret hO dX2_kindOf_39
        · replace hf := gj_t h hf
          refine gj_iconst (v := 2) hO dX2_kindOf_34 (by decide) ?_
          refine gj_goto (tgt := 39) hO dX2_kindOf_35 (by decide) ?_
          obtain rfl := Option.some.inj hf
          exact gj_iret hO dX2_kindOf_39
      · replace hf := gj_f h hf
        refine gj_iload_n hO 0 dX2_kindOf_20 rfl rfl ?_
        refine gj_bipush (v := 57) hO dX2_kindOf_21 (by decide) ?_
        refine gj_icmp_gt (tgt := 28) hO dX2_kindOf_23 (by decide) (fun h => ?_) (fun h => ?_)
        · replace hf := gj_t h hf
          refine gj_iload_n hO 0 dX2_kindOf_28 rfl rfl ?_
          refine gj_bipush (v := 59) hO dX2_kindOf_29 (by decide) ?_
          refine gj_icmp_ne (tgt := 38) hO dX2_kindOf_31 (by decide) (fun h => ?_) (fun h => ?_)
          · replace hf := gj_f h hf
            refine gj_iconst (v := 4) hO dX2_kindOf_38 (by decide) ?_
            obtain rfl := Option.some.inj hf
            exact gj_iret hO dX2_kindOf_39
          · replace hf := gj_t h hf
            refine gj_iconst (v := 2) hO dX2_kindOf_34 (by decide) ?_
            refine gj_goto (tgt := 39) hO dX2_kindOf_35 (by decide) ?_
            obtain rfl := Option.some.inj hf
            exact gj_iret hO dX2_kindOf_39
        · replace hf := gj_f h hf
          refine gj_iconst (v := 1) hO dX2_kindOf_26 (by decide) ?_
          obtain rfl := Option.some.inj hf
          exact gj_iret hO dX2_kindOf_27
    · replace hf := gj_f h hf
      refine gj_iconst (v := 0) hO dX2_kindOf_12 (by decide) ?_
      obtain rfl := Option.some.inj hf
      exact gj_iret hO dX2_kindOf_13
set_option maxHeartbeats 4000000 in
set_option maxRecDepth 100000 in
theorem ca_X2_kindOf {E : gj_E} {X : gj_X} {own : String} {cc : ByteArray} {nL : Nat} {rt : Option FieldType} {fr lo : Nat} {ce sl : Nat} {Q : State → Prop} {pc : Nat} {lv : List (Nat × gj_V)} {st : List gj_V} {σ : gj_S} (hO : gj_O E X own cc nL rt fr lo) {b0 : Int32}  {idx : Nat} {x : Int32} (hf : f_X2_kindOf b0 = some x) (hl : Cond.methodLink own idx yX2_kindOf ∈ gj_gw) (hf1 : 1 ≤ fr) (hf2 : 20 ≤ lo) (hcat : ((st.map (gj_tv E.2.1)).map fun v => v.category).sum ≤ 8) (hd : decode cc pc = .ok (.invokestatic idx, 3)) (k : gj_H E X nL ce sl Q (pc + 3) lv ((gj_i x) :: st) σ) : gj_H E X nL ce sl Q pc lv (gj_i b0 :: st) σ :=
  gj_callS hO (vs := [gj_i b0]) (m_X2_kindOf (σ := σ)  hf) (gj_Iany (by decide)) hl wk_17 wk_18 wk_19 (n := 1) (by decide +kernel) rfl hf1 hf2 rfl hcat hd k
def fb_X2_readToken_l0  (a10000 : gj_S) : Option (gj_S ⊕ gj_S) := (if (a10000.1 2 6) ≤ (a10000.1 2 5) then some (.inl a10000) else (if a10000.2.2 = 1 then (if gj_in (a10000.1 2 5) 600 then (if (a10000.1 1 (Int32.toNatClampNeg (a10000.1 2 5))) = (32 : Int32) then some (.inr (gj_sI a10000 2 (upd (a10000.1 2) 5 ((a10000.1 2 5) + (1 : Int32))))) else (if a10000.2.2 = 1 then (if gj_in (a10000.1 2 5) 600 then (if (a10000.1 1 (Int32.toNatClampNeg (a10000.1 2 5))) = (10 : Int32) then some (.inr (gj_sI a10000 2 (upd (a10000.1 2) 5 ((a10000.1 2 5) + (1 : Int32))))) else some (.inl a10000)) else none) else none)) else none) else none))
def fb_X2_readToken_l122  (a10122 : gj_S) : Option (gj_S ⊕ gj_S) := (if (a10122.1 2 6) ≤ (a10122.1 2 5) then some (.inl a10122) else (if (a10122.1 2 7) = 0 then (if a10122.2.2 = 1 then (if gj_in (a10122.1 2 5) 600 then ((f_X2_kindOf (a10122.1 1 (Int32.toNatClampNeg (a10122.1 2 5)))).bind fun x22203 => (if x22203 = (a10122.1 2 7) then ((if (a10122.1 2 7) = 0 then (if a10122.2.2 = 1 then (if gj_in (a10122.1 2 5) 600 then some (((a10122.2.1 2 9) <<< (Int32.toInt64 (8 : Int32) &&& 63)) ||| (Int32.toInt64 (a10122.1 1 (Int32.toNatClampNeg (a10122.1 2 5))))) else none) else none) else (if a10122.2.2 = 1 then (if gj_in (a10122.1 2 5) 600 then some ((((a10122.2.1 2 9) * (10 : Int64)) + (Int32.toInt64 (a10122.1 1 (Int32.toNatClampNeg (a10122.1 2 5))))) - (48 : Int64)) else none) else none) : Option Int64).bind fun z22204 => ((some (gj_sI (gj_sJ a10122 2 (vp_updL (a10122.2.1 2) 9 z22204)) 2 (upd ((gj_sJ a10122 2 (vp_updL (a10122.2.1 2) 9 z22204)).1 2) 5 (((gj_sJ a10122 2 (vp_updL (a10122.2.1 2) 9 z22204)).1 2 5) + (1 : Int32))))).bind fun s22209 => some (.inr s22209))) else some (.inl a10122))) else none) else none) else (if (a10122.1 2 7) = (1 : Int32) then (if a10122.2.2 = 1 then (if gj_in (a10122.1 2 5) 600 then ((f_X2_kindOf (a10122.1 1 (Int32.toNatClampNeg (a10122.1 2 5)))).bind fun x22212 => (if x22212 = (a10122.1 2 7) then ((if (a10122.1 2 7) = 0 then (if a10122.2.2 = 1 then (if gj_in (a10122.1 2 5) 600 then some (((a10122.2.1 2 9) <<< (Int32.toInt64 (8 : Int32) &&& 63)) ||| (Int32.toInt64 (a10122.1 1 (Int32.toNatClampNeg (a10122.1 2 5))))) else none) else none) else (if a10122.2.2 = 1 then (if gj_in (a10122.1 2 5) 600 then some ((((a10122.2.1 2 9) * (10 : Int64)) + (Int32.toInt64 (a10122.1 1 (Int32.toNatClampNeg (a10122.1 2 5))))) - (48 : Int64)) else none) else none) : Option Int64).bind fun z22213 => ((some (gj_sI (gj_sJ a10122 2 (vp_updL (a10122.2.1 2) 9 z22213)) 2 (upd ((gj_sJ a10122 2 (vp_updL (a10122.2.1 2) 9 z22213)).1 2) 5 (((gj_sJ a10122 2 (vp_updL (a10122.2.1 2) 9 z22213)).1 2 5) + (1 : Int32))))).bind fun s22218 => some (.inr s22218))) else some (.inl a10122))) else none) else none) else some (.inl a10122))))
def f_X2_readToken  (σ : gj_S) : Option gj_S := ((gj_lp (fb_X2_readToken_l0) 5000 σ).bind fun z1 => ((if ((gj_sJ (gj_sI z1 2 (upd (z1.1 2) 8 (z1.1 2 5))) 2 (vp_updL ((gj_sI z1 2 (upd (z1.1 2) 8 (z1.1 2 5))).2.1 2) 9 (0 : Int64))).1 2 6) ≤ ((gj_sJ (gj_sI z1 2 (upd (z1.1 2) 8 (z1.1 2 5))) 2 (vp_updL ((gj_sI z1 2 (upd (z1.1 2) 8 (z1.1 2 5))).2.1 2) 9 (0 : Int64))).1 2 5) then some (3 : Int32) else (if (gj_sJ (gj_sI z1 2 (upd (z1.1 2) 8 (z1.1 2 5))) 2 (vp_updL ((gj_sI z1 2 (upd (z1.1 2) 8 (z1.1 2 5))).2.1 2) 9 (0 : Int64))).2.2 = 1 then (if gj_in ((gj_sJ (gj_sI z1 2 (upd (z1.1 2) 8 (z1.1 2 5))) 2 (vp_updL ((gj_sI z1 2 (upd (z1.1 2) 8 (z1.1 2 5))).2.1 2) 9 (0 : Int64))).1 2 5) 600 then ((f_X2_kindOf ((gj_sJ (gj_sI z1 2 (upd (z1.1 2) 8 (z1.1 2 5))) 2 (vp_updL ((gj_sI z1 2 (upd (z1.1 2) 8 (z1.1 2 5))).2.1 2) 9 (0 : Int64))).1 1 (Int32.toNatClampNeg ((gj_sJ (gj_sI z1 2 (upd (z1.1 2) 8 (z1.1 2 5))) 2 (vp_updL ((gj_sI z1 2 (upd (z1.1 2) 8 (z1.1 2 5))).2.1 2) 9 (0 : Int64))).1 2 5)))).bind fun x5 => some x5) else none) else none) : Option Int32).bind fun z2 => ((some (gj_sI (gj_sJ (gj_sI z1 2 (upd (z1.1 2) 8 (z1.1 2 5))) 2 (vp_updL ((gj_sI z1 2 (upd (z1.1 2) 8 (z1.1 2 5))).2.1 2) 9 (0 : Int64))) 2 (upd ((gj_sJ (gj_sI z1 2 (upd (z1.1 2) 8 (z1.1 2 5))) 2 (vp_updL ((gj_sI z1 2 (upd (z1.1 2) 8 (z1.1 2 5))).2.1 2) 9 (0 : Int64))).1 2) 7 z2))).bind fun s6 => ((if (s6.1 2 7) = (2 : Int32) then some (gj_sI s6 2 (upd (s6.1 2) 5 ((s6.1 2 5) + (1 : Int32)))) else (if (s6.1 2 7) = (4 : Int32) then some (gj_sI s6 2 (upd (s6.1 2) 5 ((s6.1 2 5) + (1 : Int32)))) else some s6) : Option gj_S).bind fun z7 => ((gj_lp (fb_X2_readToken_l122) 5000 z7).bind fun z8 => ((if (z8.1 2 7) = (1 : Int32) then some (4 : Int32) else some (6 : Int32) : Option Int32).bind fun z9 => (if ((z8.1 2 5) - (z8.1 2 8)) ≤ z9 then some z8 else some (gj_sI z8 2 (upd (z8.1 2) 7 (4 : Int32))))))))))
set_option maxHeartbeats 4000000 in
set_option maxRecDepth 100000 in
theorem sb_X2_readToken_l0 {E : gj_E} {X : gj_X} {r : Option gj_V} {τ : gj_S} (hO : gj_O E X RX2 cX2_readToken 2 none 1 20)  {a10000 : gj_S} {x : gj_S ⊕ gj_S} (hf : fb_X2_readToken_l0  a10000 = some x) (K : gj_K (fun z1 => gj_G E X 2 r τ 52 [(0, gj_r 2)] [] z1) (fun a10000 => gj_G E X 2 r τ 0 [(0, gj_r 2)] [] a10000) x) : gj_G E X 2 r τ 0 [(0, gj_r 2)] [] a10000 := by
  unfold fb_X2_readToken_l0 at hf
  refine gj_aload_n hO 0 dX2_readToken_0 rfl rfl ?_
  refine gt_X2_5 hO wk_20 dX2_readToken_1 ?_
  refine gj_aload_n hO 0 dX2_readToken_4 rfl rfl ?_
  refine gt_X2_6 hO wk_21 dX2_readToken_5 ?_
  refine gj_icmp_ge (tgt := 52) hO dX2_readToken_8 (by decide) (fun h => ?_) (fun h => ?_)
  · replace hf := gj_t h hf
    obtain rfl := Option.some.inj hf
    refine gj_sub (lv2 := [(0, gj_r 2)]) [0] rfl ?_
    exact K
  · replace hf := gj_f h hf
    refine gj_aload_n hO 0 dX2_readToken_11 rfl rfl ?_
    obtain ⟨hb10001, hf⟩ := gj_c hf
    refine gt_X2_10 hO hb10001 wk_22 dX2_readToken_12 ?_
    refine gj_aload_n hO 0 dX2_readToken_15 rfl rfl ?_
    refine gt_X2_5 hO wk_20 dX2_readToken_16 ?_
    obtain ⟨hb10002, hf⟩ := gj_c hf
    refine gj_bald hO kl_1 kd_1 hb10002 dX2_readToken_19 ?_
    refine gj_bipush (v := 32) hO dX2_readToken_20 (by decide) ?_
    refine gj_icmp_eq (tgt := 39) hO dX2_readToken_22 (by decide) (fun h => ?_) (fun h => ?_)
    · replace hf := gj_t h hf
      refine gj_aload_n hO 0 dX2_readToken_39 rfl rfl ?_
      refine gj_dup hO dX2_readToken_40 trivial ?_
      refine gt_X2_5 hO wk_20 dX2_readToken_41 ?_
      refine gj_iconst (v := 1) hO dX2_readToken_44 (by decide) ?_
      refine gj_iadd hO dX2_readToken_45 ?_
      refine pt_X2_5 hO wk_20 dX2_readToken_46 ?_
      refine gj_goto (tgt := 0) hO dX2_readToken_49 (by decide) ?_
      obtain rfl := Option.some.inj hf
      refine gj_sub (lv2 := [(0, gj_r 2)]) [0] rfl ?_
      exact K
    · replace hf := gj_f h hf
      refine gj_aload_n hO 0 dX2_readToken_25 rfl rfl ?_
      obtain ⟨hb10003, hf⟩ := gj_c hf
      refine gt_X2_10 hO hb10003 wk_22 dX2_readToken_26 ?_
      refine gj_aload_n hO 0 dX2_readToken_29 rfl rfl ?_
      refine gt_X2_5 hO wk_20 dX2_readToken_30 ?_
      obtain ⟨hb10004, hf⟩ := gj_c hf
      refine gj_bald hO kl_1 kd_1 hb10004 dX2_readToken_33 ?_
      refine gj_bipush (v := 10) hO dX2_readToken_34 (by decide) ?_
      refine gj_icmp_ne (tgt := 52) hO dX2_readToken_36 (by decide) (fun h => ?_) (fun h => ?_)
      · replace hf := gj_f h hf
        obtain rfl := Option.some.inj hf
        refine gj_sub (lv2 := [(0, gj_r 2)]) [0] rfl ?_
        exact K
      · replace hf := gj_t h hf
        refine gj_aload_n hO 0 dX2_readToken_39 rfl rfl ?_
        refine gj_dup hO dX2_readToken_40 trivial ?_
        refine gt_X2_5 hO wk_20 dX2_readToken_41 ?_
        refine gj_iconst (v := 1) hO dX2_readToken_44 (by decide) ?_
        refine gj_iadd hO dX2_readToken_45 ?_
        refine pt_X2_5 hO wk_20 dX2_readToken_46 ?_
        refine gj_goto (tgt := 0) hO dX2_readToken_49 (by decide) ?_
        obtain rfl := Option.some.inj hf
        refine gj_sub (lv2 := [(0, gj_r 2)]) [0] rfl ?_
        exact K
set_option maxHeartbeats 4000000 in
set_option maxRecDepth 100000 in
theorem sb_X2_readToken_l122 {E : gj_E} {X : gj_X} {r : Option gj_V} {τ : gj_S} (hO : gj_O E X RX2 cX2_readToken 2 none 1 20)  {a10122 : gj_S} {x : gj_S ⊕ gj_S} (hf : fb_X2_readToken_l122  a10122 = some x) (K : gj_K (fun z8 => gj_G E X 2 r τ 235 [(0, gj_r 2)] [] z8) (fun a10122 => gj_G E X 2 r τ 122 [(0, gj_r 2)] [] a10122) x) : gj_G E X 2 r τ 122 [(0, gj_r 2)] [] a10122 := by
  unfold fb_X2_readToken_l122 at hf
  refine gj_aload_n hO 0 dX2_readToken_122 rfl rfl ?_
  refine gt_X2_5 hO wk_20 dX2_readToken_123 ?_
  refine gj_aload_n hO 0 dX2_readToken_126 rfl rfl ?_
  refine gt_X2_6 hO wk_21 dX2_readToken_127 ?_
  refine gj_icmp_ge (tgt := 235) hO dX2_readToken_130 (by decide) (fun h => ?_) (fun h => ?_)
  · replace hf := gj_t h hf
    obtain rfl := Option.some.inj hf
    refine gj_sub (lv2 := [(0, gj_r 2)]) [0] rfl ?_
    exact K
  · replace hf := gj_f h hf
    refine gj_aload_n hO 0 dX2_readToken_133 rfl rfl ?_
    refine gt_X2_7 hO wk_26 dX2_readToken_134 ?_
    refine gj_if_eq (tgt := 148) hO dX2_readToken_137 (by decide) (fun h => ?_) (fun h => ?_)
    · replace hf := gj_t h hf
      refine gj_aload_n hO 0 dX2_readToken_148 rfl rfl ?_
      obtain ⟨hb22201, hf⟩ := gj_c hf
      refine gt_X2_10 hO hb22201 wk_22 dX2_readToken_149 ?_
      refine gj_aload_n hO 0 dX2_readToken_152 rfl rfl ?_
      refine gt_X2_5 hO wk_20 dX2_readToken_153 ?_
      obtain ⟨hb22202, hf⟩ := gj_c hf
      refine gj_bald hO kl_1 kd_1 hb22202 dX2_readToken_156 ?_
      obtain ⟨x22203, hc22203, hf⟩ := gj_b hf
      refine ca_X2_kindOf hO  hc22203 wk_25 (by decide) (by decide) (Nat.le_of_ble_eq_true rfl) dX2_readToken_157 ?_
      refine gj_aload_n hO 0 dX2_readToken_160 rfl rfl ?_
      refine gt_X2_7 hO wk_26 dX2_readToken_161 ?_
      refine gj_icmp_ne (tgt := 235) hO dX2_readToken_164 (by decide) (fun h => ?_) (fun h => ?_)
      · replace hf := gj_f h hf
        obtain rfl := Option.some.inj hf
        refine gj_sub (lv2 := [(0, gj_r 2)]) [0] rfl ?_
        exact K
      · replace hf := gj_t h hf
        refine gj_aload_n hO 0 dX2_readToken_167 rfl rfl ?_
        refine gj_aload_n hO 0 dX2_readToken_168 rfl rfl ?_
        refine gt_X2_7 hO wk_26 dX2_readToken_169 ?_
        obtain ⟨z22204, hz22204, hf⟩ := gj_b hf
        have J22204 : gj_G E X 2 r τ 219 [(0, gj_r 2)] [gj_l z22204, gj_r 2] a10122 := by
          refine pt_X2_9 hO wk_24 dX2_readToken_219 ?_
          refine gj_aload_n hO 0 dX2_readToken_222 rfl rfl ?_
          refine gj_dup hO dX2_readToken_223 trivial ?_
          refine gt_X2_5 hO wk_20 dX2_readToken_224 ?_
          refine gj_iconst (v := 1) hO dX2_readToken_227 (by decide) ?_
          refine gj_iadd hO dX2_readToken_228 ?_
          refine pt_X2_5 hO wk_20 dX2_readToken_229 ?_
          obtain ⟨s22209, e22209, hf⟩ := gj_b hf
          refine gj_eqS (Option.some.inj e22209) ?_
          refine gj_goto (tgt := 122) hO dX2_readToken_232 (by decide) ?_
          obtain rfl := Option.some.inj hf
          refine gj_sub (lv2 := [(0, gj_r 2)]) [0] rfl ?_
          exact K
        refine gj_if_ne (tgt := 196) hO dX2_readToken_172 (by decide) (fun h => ?_) (fun h => ?_)
        · replace hz22204 := gj_f h hz22204
          refine gj_aload_n hO 0 dX2_readToken_196 rfl rfl ?_
          refine gt_X2_9 hO wk_24 dX2_readToken_197 ?_
          refine gj_ldc2 hO wk_27 dX2_readToken_200 ?_
          refine gj_lmul hO dX2_readToken_203 ?_
          refine gj_aload_n hO 0 dX2_readToken_204 rfl rfl ?_
          obtain ⟨hb22205, hz22204⟩ := gj_c hz22204
          refine gt_X2_10 hO hb22205 wk_22 dX2_readToken_205 ?_
          refine gj_aload_n hO 0 dX2_readToken_208 rfl rfl ?_
          refine gt_X2_5 hO wk_20 dX2_readToken_209 ?_
          obtain ⟨hb22206, hz22204⟩ := gj_c hz22204
          refine gj_bald hO kl_1 kd_1 hb22206 dX2_readToken_212 ?_
          refine gj_i2l hO dX2_readToken_213 ?_
          refine gj_ladd hO dX2_readToken_214 ?_
          refine gj_ldc2 hO wk_28 dX2_readToken_215 ?_
          refine gj_lsub hO dX2_readToken_218 ?_
          obtain rfl := Option.some.inj hz22204
          refine gj_sub (lv2 := [(0, gj_r 2)]) [0] rfl ?_
          exact J22204
        · replace hz22204 := gj_t h hz22204
          refine gj_aload_n hO 0 dX2_readToken_175 rfl rfl ?_
          refine gt_X2_9 hO wk_24 dX2_readToken_176 ?_
          refine gj_bipush (v := 8) hO dX2_readToken_179 (by decide) ?_
          refine gj_lshl hO dX2_readToken_181 ?_
          refine gj_aload_n hO 0 dX2_readToken_182 rfl rfl ?_
          obtain ⟨hb22207, hz22204⟩ := gj_c hz22204
          refine gt_X2_10 hO hb22207 wk_22 dX2_readToken_183 ?_
          refine gj_aload_n hO 0 dX2_readToken_186 rfl rfl ?_
          refine gt_X2_5 hO wk_20 dX2_readToken_187 ?_
          obtain ⟨hb22208, hz22204⟩ := gj_c hz22204
          refine gj_bald hO kl_1 kd_1 hb22208 dX2_readToken_190 ?_
          refine gj_i2l hO dX2_readToken_191 ?_
          refine gj_lor hO dX2_readToken_192 ?_
          refine gj_goto (tgt := 219) hO dX2_readToken_193 (by decide) ?_
          obtain rfl := Option.some.inj hz22204
          refine gj_sub (lv2 := [(0, gj_r 2)]) [0] rfl ?_
          exact J22204
    · replace hf := gj_f h hf
      refine gj_aload_n hO 0 dX2_readToken_140 rfl rfl ?_
      refine gt_X2_7 hO wk_26 dX2_readToken_141 ?_
      refine gj_iconst (v := 1) hO dX2_readToken_144 (by decide) ?_
      refine gj_icmp_ne (tgt := 235) hO dX2_readToken_145 (by decide) (fun h => ?_) (fun h => ?_)
      · replace hf := gj_f h hf
        obtain rfl := Option.some.inj hf
        refine gj_sub (lv2 := [(0, gj_r 2)]) [0] rfl ?_
        exact K
      · replace hf := gj_t h hf
        refine gj_aload_n hO 0 dX2_readToken_148 rfl rfl ?_
        obtain ⟨hb22210, hf⟩ := gj_c hf
        refine gt_X2_10 hO hb22210 wk_22 dX2_readToken_149 ?_
        refine gj_aload_n hO 0 dX2_readToken_152 rfl rfl ?_
        refine gt_X2_5 hO wk_20 dX2_readToken_153 ?_
        obtain ⟨hb22211, hf⟩ := gj_c hf
        refine gj_bald hO kl_1 kd_1 hb22211 dX2_readToken_156 ?_
        obtain ⟨x22212, hc22212, hf⟩ := gj_b hf
        refine ca_X2_kindOf hO  hc22212 wk_25 (by decide) (by decide) (Nat.le_of_ble_eq_true rfl) dX2_readToken_157 ?_
        refine gj_aload_n hO 0 dX2_readToken_160 rfl rfl ?_
        refine gt_X2_7 hO wk_26 dX2_readToken_161 ?_
        refine gj_icmp_ne (tgt := 235) hO dX2_readToken_164 (by decide) (fun h => ?_) (fun h => ?_)
        · replace hf := gj_f h hf
          obtain rfl := Option.some.inj hf
          refine gj_sub (lv2 := [(0, gj_r 2)]) [0] rfl ?_
          exact K
        · replace hf := gj_t h hf
          refine gj_aload_n hO 0 dX2_readToken_167 rfl rfl ?_
          refine gj_aload_n hO 0 dX2_readToken_168 rfl rfl ?_
          refine gt_X2_7 hO wk_26 dX2_readToken_169 ?_
          obtain ⟨z22213, hz22213, hf⟩ := gj_b hf
          have J22213 : gj_G E X 2 r τ 219 [(0, gj_r 2)] [gj_l z22213, gj_r 2] a10122 := by
            refine pt_X2_9 hO wk_24 dX2_readToken_219 ?_
            refine gj_aload_n hO 0 dX2_readToken_222 rfl rfl ?_
            refine gj_dup hO dX2_readToken_223 trivial ?_
            refine gt_X2_5 hO wk_20 dX2_readToken_224 ?_
            refine gj_iconst (v := 1) hO dX2_readToken_227 (by decide) ?_
            refine gj_iadd hO dX2_readToken_228 ?_
            refine pt_X2_5 hO wk_20 dX2_readToken_229 ?_
            obtain ⟨s22218, e22218, hf⟩ := gj_b hf
            refine gj_eqS (Option.some.inj e22218) ?_
            refine gj_goto (tgt := 122) hO dX2_readToken_232 (by decide) ?_
            obtain rfl := Option.some.inj hf
            refine gj_sub (lv2 := [(0, gj_r 2)]) [0] rfl ?_
            exact K
          refine gj_if_ne (tgt := 196) hO dX2_readToken_172 (by decide) (fun h => ?_) (fun h => ?_)
          · replace hz22213 := gj_f h hz22213
            refine gj_aload_n hO 0 dX2_readToken_196 rfl rfl ?_
            refine gt_X2_9 hO wk_24 dX2_readToken_197 ?_
            refine gj_ldc2 hO wk_27 dX2_readToken_200 ?_
            refine gj_lmul hO dX2_readToken_203 ?_
            refine gj_aload_n hO 0 dX2_readToken_204 rfl rfl ?_
            obtain ⟨hb22214, hz22213⟩ := gj_c hz22213
            refine gt_X2_10 hO hb22214 wk_22 dX2_readToken_205 ?_
            refine gj_aload_n hO 0 dX2_readToken_208 rfl rfl ?_
            refine gt_X2_5 hO wk_20 dX2_readToken_209 ?_
            obtain ⟨hb22215, hz22213⟩ := gj_c hz22213
            refine gj_bald hO kl_1 kd_1 hb22215 dX2_readToken_212 ?_
            refine gj_i2l hO dX2_readToken_213 ?_
            refine gj_ladd hO dX2_readToken_214 ?_
            refine gj_ldc2 hO wk_28 dX2_readToken_215 ?_
            refine gj_lsub hO dX2_readToken_218 ?_
            obtain rfl := Option.some.inj hz22213
            refine gj_sub (lv2 := [(0, gj_r 2)]) [0] rfl ?_
            exact J22213
          · replace hz22213 := gj_t h hz22213
            refine gj_aload_n hO 0 dX2_readToken_175 rfl rfl ?_
            refine gt_X2_9 hO wk_24 dX2_readToken_176 ?_
            refine gj_bipush (v := 8) hO dX2_readToken_179 (by decide) ?_
            refine gj_lshl hO dX2_readToken_181 ?_
            refine gj_aload_n hO 0 dX2_readToken_182 rfl rfl ?_
            obtain ⟨hb22216, hz22213⟩ := gj_c hz22213
            refine gt_X2_10 hO hb22216 wk_22 dX2_readToken_183 ?_
            refine gj_aload_n hO 0 dX2_readToken_186 rfl rfl ?_
            refine gt_X2_5 hO wk_20 dX2_readToken_187 ?_
            obtain ⟨hb22217, hz22213⟩ := gj_c hz22213
            refine gj_bald hO kl_1 kd_1 hb22217 dX2_readToken_190 ?_
            refine gj_i2l hO dX2_readToken_191 ?_
            refine gj_lor hO dX2_readToken_192 ?_
            refine gj_goto (tgt := 219) hO dX2_readToken_193 (by decide) ?_
            obtain rfl := Option.some.inj hz22213
            refine gj_sub (lv2 := [(0, gj_r 2)]) [0] rfl ?_
            exact J22213
set_option maxHeartbeats 4000000 in
set_option maxRecDepth 100000 in
theorem m_X2_readToken {E : gj_E} {σ : gj_S}   {x : gj_S} (hf : f_X2_readToken  σ = some x) : gj_M E yX2_readToken cX2_readToken 2 none 1 20 [gj_r 2] σ none x := by
  refine gj_body (lv := [(0, gj_r 2)]) (by decide +kernel) (Nat.le_of_ble_eq_true rfl) rfl (fun X hO => ?_)
  replace hO : gj_O E X RX2 cX2_readToken 2 none 1 20 := hO
  unfold f_X2_readToken at hf
  obtain ⟨z1, hz1, hf⟩ := gj_b hf
  have J1 : gj_G E X 2 none x 52 [(0, gj_r 2)] [] z1 := by
    refine gj_aload_n hO 0 dX2_readToken_52 rfl rfl ?_
    refine gj_aload_n hO 0 dX2_readToken_53 rfl rfl ?_
    refine gt_X2_5 hO wk_20 dX2_readToken_54 ?_
    refine pt_X2_8 hO wk_23 dX2_readToken_57 ?_
    refine gj_aload_n hO 0 dX2_readToken_60 rfl rfl ?_
    refine gj_lconst (v := 0) hO dX2_readToken_61 (by decide) ?_
    refine pt_X2_9 hO wk_24 dX2_readToken_62 ?_
    refine gj_aload_n hO 0 dX2_readToken_65 rfl rfl ?_
    refine gj_aload_n hO 0 dX2_readToken_66 rfl rfl ?_
    refine gt_X2_5 hO wk_20 dX2_readToken_67 ?_
    refine gj_aload_n hO 0 dX2_readToken_70 rfl rfl ?_
    refine gt_X2_6 hO wk_21 dX2_readToken_71 ?_
    obtain ⟨z2, hz2, hf⟩ := gj_b hf
    have J2 : gj_G E X 2 none x 93 [(0, gj_r 2)] [gj_i z2, gj_r 2] (gj_sJ (gj_sI z1 2 (upd (z1.1 2) 8 (z1.1 2 5))) 2 (vp_updL ((gj_sI z1 2 (upd (z1.1 2) 8 (z1.1 2 5))).2.1 2) 9 (0 : Int64))) := by
      refine pt_X2_7 hO wk_26 dX2_readToken_93 ?_
      obtain ⟨s6, e6, hf⟩ := gj_b hf
      refine gj_eqS (Option.some.inj e6) ?_
      refine gj_aload_n hO 0 dX2_readToken_96 rfl rfl ?_
      refine gt_X2_7 hO wk_26 dX2_readToken_97 ?_
      refine gj_iconst (v := 2) hO dX2_readToken_100 (by decide) ?_
      obtain ⟨z7, hz7, hf⟩ := gj_b hf
      have J7 : gj_G E X 2 none x 122 [(0, gj_r 2)] [] z7 := by
        obtain ⟨z8, hz8, hf⟩ := gj_b hf
        have J8 : gj_G E X 2 none x 235 [(0, gj_r 2)] [] z8 := by
          refine gj_aload_n hO 0 dX2_readToken_235 rfl rfl ?_
          refine gt_X2_7 hO wk_26 dX2_readToken_236 ?_
          refine gj_iconst (v := 1) hO dX2_readToken_239 (by decide) ?_
          obtain ⟨z9, hz9, hf⟩ := gj_b hf
          have J9 : gj_G E X 2 none x 249 [(0, gj_r 2)] [gj_i z9] z8 := by
            refine gj_istore_n (lv2 := [(1, gj_i z9), (0, gj_r 2)]) hO dX2_readToken_249 rfl (by decide) rfl ?_
            refine gj_aload_n hO 1 dX2_readToken_250 rfl rfl ?_
            refine gt_X2_5 hO wk_20 dX2_readToken_251 ?_
            refine gj_aload_n hO 1 dX2_readToken_254 rfl rfl ?_
            refine gt_X2_8 hO wk_23 dX2_readToken_255 ?_
            refine gj_isub hO dX2_readToken_258 ?_
            refine gj_iload_n hO 0 dX2_readToken_259 rfl rfl ?_
            refine gj_icmp_le (tgt := 268) hO dX2_readToken_260 (by decide) (fun h => ?_) (fun h => ?_)
            · replace hf := gj_t h hf
              obtain rfl := Option.some.inj hf
              exact gj_vret hO dX2_readToken_268
            · replace hf := gj_f h hf
              refine gj_aload_n hO 1 dX2_readToken_263 rfl rfl ?_
              refine gj_iconst (v := 4) hO dX2_readToken_264 (by decide) ?_
              refine pt_X2_7 hO wk_26 dX2_readToken_265 ?_
              obtain rfl := Option.some.inj hf
              exact gj_vret hO dX2_readToken_268
          refine gj_icmp_ne (tgt := 247) hO dX2_readToken_240 (by decide) (fun h => ?_) (fun h => ?_)
          · replace hz9 := gj_f h hz9
            refine gj_bipush (v := 6) hO dX2_readToken_247 (by decide) ?_
            obtain rfl := Option.some.inj hz9
            refine gj_sub (lv2 := [(0, gj_r 2)]) [0] rfl ?_
            exact J9
          · replace hz9 := gj_t h hz9
            refine gj_iconst (v := 4) hO dX2_readToken_243 (by decide) ?_
            refine gj_goto (tgt := 249) hO dX2_readToken_244 (by decide) ?_
            obtain rfl := Option.some.inj hz9
            refine gj_sub (lv2 := [(0, gj_r 2)]) [0] rfl ?_
            exact J9
        refine gj_sub (lv2 := [(0, gj_r 2)]) [0] rfl ?_
        exact gj_loop (head := fun a10122 => gj_G E X 2 none x 122 [(0, gj_r 2)] [] a10122) (exit := fun z8 => gj_G E X 2 none x 235 [(0, gj_r 2)] [] z8) (fun a10122 x hf K => sb_X2_readToken_l122 hO hf K) _ _ _ hz8 J8
      refine gj_icmp_eq (tgt := 112) hO dX2_readToken_101 (by decide) (fun h => ?_) (fun h => ?_)
      · replace hz7 := gj_t h hz7
        refine gj_aload_n hO 0 dX2_readToken_112 rfl rfl ?_
        refine gj_dup hO dX2_readToken_113 trivial ?_
        refine gt_X2_5 hO wk_20 dX2_readToken_114 ?_
        refine gj_iconst (v := 1) hO dX2_readToken_117 (by decide) ?_
        refine gj_iadd hO dX2_readToken_118 ?_
        refine pt_X2_5 hO wk_20 dX2_readToken_119 ?_
        obtain rfl := Option.some.inj hz7
        refine gj_sub (lv2 := [(0, gj_r 2)]) [0] rfl ?_
        exact J7
      · replace hz7 := gj_f h hz7
        refine gj_aload_n hO 0 dX2_readToken_104 rfl rfl ?_
        refine gt_X2_7 hO wk_26 dX2_readToken_105 ?_
        refine gj_iconst (v := 4) hO dX2_readToken_108 (by decide) ?_
        refine gj_icmp_ne (tgt := 122) hO dX2_readToken_109 (by decide) (fun h => ?_) (fun h => ?_)
        · replace hz7 := gj_f h hz7
          obtain rfl := Option.some.inj hz7
          refine gj_sub (lv2 := [(0, gj_r 2)]) [0] rfl ?_
          exact J7
        · replace hz7 := gj_t h hz7
          refine gj_aload_n hO 0 dX2_readToken_112 rfl rfl ?_
          refine gj_dup hO dX2_readToken_113 trivial ?_
          refine gt_X2_5 hO wk_20 dX2_readToken_114 ?_
          refine gj_iconst (v := 1) hO dX2_readToken_117 (by decide) ?_
          refine gj_iadd hO dX2_readToken_118 ?_
          refine pt_X2_5 hO wk_20 dX2_readToken_119 ?_
          obtain rfl := Option.some.inj hz7
          refine gj_sub (lv2 := [(0, gj_r 2)]) [0] rfl ?_
          exact J7
    refine gj_icmp_ge (tgt := 92) hO dX2_readToken_74 (by decide) (fun h => ?_) (fun h => ?_)
    · replace hz2 := gj_t h hz2
      refine gj_iconst (v := 3) hO dX2_readToken_92 (by decide) ?_
      obtain rfl := Option.some.inj hz2
      refine gj_sub (lv2 := [(0, gj_r 2)]) [0] rfl ?_
      exact J2
    · replace hz2 := gj_f h hz2
      refine gj_aload_n hO 0 dX2_readToken_77 rfl rfl ?_
      obtain ⟨hb3, hz2⟩ := gj_c hz2
      refine gt_X2_10 hO hb3 wk_22 dX2_readToken_78 ?_
      refine gj_aload_n hO 0 dX2_readToken_81 rfl rfl ?_
      refine gt_X2_5 hO wk_20 dX2_readToken_82 ?_
      obtain ⟨hb4, hz2⟩ := gj_c hz2
      refine gj_bald hO kl_1 kd_1 hb4 dX2_readToken_85 ?_
      obtain ⟨x5, hc5, hz2⟩ := gj_b hz2
      refine ca_X2_kindOf hO  hc5 wk_25 (by decide) (by decide) (Nat.le_of_ble_eq_true rfl) dX2_readToken_86 ?_
      refine gj_goto (tgt := 93) hO dX2_readToken_89 (by decide) ?_
      obtain rfl := Option.some.inj hz2
      refine gj_sub (lv2 := [(0, gj_r 2)]) [0] rfl ?_
      exact J2
  refine gj_sub (lv2 := [(0, gj_r 2)]) [0] rfl ?_
  exact gj_loop (head := fun a10000 => gj_G E X 2 none x 0 [(0, gj_r 2)] [] a10000) (exit := fun z1 => gj_G E X 2 none x 52 [(0, gj_r 2)] [] z1) (fun a10000 x hf K => sb_X2_readToken_l0 hO hf K) _ _ _ hz1 J1
set_option maxHeartbeats 4000000 in
set_option maxRecDepth 100000 in
theorem ca_X2_readToken {E : gj_E} {X : gj_X} {own : String} {cc : ByteArray} {nL : Nat} {rt : Option FieldType} {fr lo : Nat} {ce sl : Nat} {Q : State → Prop} {pc : Nat} {lv : List (Nat × gj_V)} {st : List gj_V} {σ : gj_S} (hO : gj_O E X own cc nL rt fr lo)   {idx : Nat} {x : gj_S} (hf : f_X2_readToken  σ = some x) (hl : Cond.methodLink own idx yX2_readToken ∈ gj_gw) (hf1 : 2 ≤ fr) (hf2 : 41 ≤ lo) (hcat : ((st.map (gj_tv E.2.1)).map fun v => v.category).sum ≤ 8) (hd : decode cc pc = .ok (.invokevirtual idx, 3)) (k : gj_H E X nL ce sl Q (pc + 3) lv (st) x) : gj_H E X nL ce sl Q pc lv (gj_r 2 :: st) σ :=
  gj_callV hO (o := 2) (vs := []) (m_X2_readToken  hf) (gj_Iany (by decide)) hl wk_29 wk_30 wk_18 wk_31 kl_2 kd_2 (by decide) (ci := 2) rfl (n := 0) (by decide +kernel) rfl hf1 hf2 rfl hcat hd k
def f_X2_isWord (b1 : Int64) (σ : gj_S) : Option Int32 := (if (σ.1 2 7) = 0 then (if (lg_cmp (σ.2.1 2 9) b1) = 0 then some (1 : Int32) else some (0 : Int32)) else some (0 : Int32))
set_option maxHeartbeats 4000000 in
set_option maxRecDepth 100000 in
theorem m_X2_isWord {E : gj_E} {σ : gj_S} {b1 : Int64}  {x : Int32} (hf : f_X2_isWord b1 σ = some x) : gj_M E yX2_isWord cX2_isWord 3 (some .boolean) 0 0 [gj_r 2, gj_l b1] σ (some (gj_i x)) σ := by
  refine gj_body (lv := [(0, gj_r 2), (1, gj_l b1)]) (by decide +kernel) (Nat.le_of_ble_eq_true rfl) rfl (fun X hO => ?_)
  replace hO : gj_O E X RX2 cX2_isWord 3 (some .boolean) 0 0 := hO
  unfold f_X2_isWord at hf
  refine gj_aload_n hO 0 dX2_isWord_0 rfl rfl ?_
  refine gt_X2_7 hO wk_26 dX2_isWord_1 ?_
  refine gj_if_ne (tgt := 20) hO dX2_isWord_4 (by decide) (fun h => ?_) (fun h => ?_)
  · replace hf := gj_f h hf
    refine gj_iconst (v := 0) hO dX2_isWord_20 (by decide) ?_
    obtain rfl := Option.some.inj hf
    exact gj_zret hO (Or.inl rfl) dX2_isWord_21
  · replace hf := gj_t h hf
    refine gj_aload_n hO 0 dX2_isWord_7 rfl rfl ?_
    refine gt_X2_9 hO wk_24 dX2_isWord_8 ?_
    refine gj_lload_n hO 1 dX2_isWord_11 rfl rfl ?_
    refine gj_lcmp hO dX2_isWord_12 ?_
    refine gj_if_ne (tgt := 20) hO dX2_isWord_13 (by decide) (fun h => ?_) (fun h => ?_)
    · replace hf := gj_f h hf
      refine gj_iconst (v := 0) hO dX2_isWord_20 (by decide) ?_
      obtain rfl := Option.some.inj hf
      exact gj_zret hO (Or.inl rfl) dX2_isWord_21
    · replace hf := gj_t h hf
      refine gj_iconst (v := 1) hO dX2_isWord_16 (by decide) ?_
      refine gj_goto (tgt := 21) hO dX2_isWord_17 (by decide) ?_
      obtain rfl := Option.some.inj hf
      exact gj_zret hO (Or.inr rfl) dX2_isWord_21
set_option maxHeartbeats 4000000 in
set_option maxRecDepth 100000 in
theorem ca_X2_isWord {E : gj_E} {X : gj_X} {own : String} {cc : ByteArray} {nL : Nat} {rt : Option FieldType} {fr lo : Nat} {ce sl : Nat} {Q : State → Prop} {pc : Nat} {lv : List (Nat × gj_V)} {st : List gj_V} {σ : gj_S} (hO : gj_O E X own cc nL rt fr lo) {b1 : Int64}  {idx : Nat} {x : Int32} (hf : f_X2_isWord b1 σ = some x) (hl : Cond.methodLink own idx yX2_isWord ∈ gj_gw) (hf1 : 1 ≤ fr) (hf2 : 22 ≤ lo) (hcat : ((st.map (gj_tv E.2.1)).map fun v => v.category).sum ≤ 8) (hd : decode cc pc = .ok (.invokevirtual idx, 3)) (k : gj_H E X nL ce sl Q (pc + 3) lv ((gj_i x) :: st) σ) : gj_H E X nL ce sl Q pc lv (gj_l b1 :: gj_r 2 :: st) σ :=
  gj_callV hO (o := 2) (vs := [gj_l b1]) (m_X2_isWord  hf) (gj_Iany (by decide)) hl wk_32 wk_33 wk_18 wk_34 kl_2 kd_2 (by decide) (ci := 2) rfl (n := 1) (by decide +kernel) rfl hf1 hf2 rfl hcat hd k
def f_X2_fails (b1 : Int32) (σ : gj_S) : Option (Int32 × gj_S) := some ((0 : Int32), (gj_sI σ 2 (upd (σ.1 2) 4 (((8 : Int32) * (σ.1 2 8)) + b1))))
set_option maxHeartbeats 4000000 in
set_option maxRecDepth 100000 in
theorem m_X2_fails {E : gj_E} {σ : gj_S} {b1 : Int32}  {x : Int32} {y : gj_S} (hf : f_X2_fails b1 σ = some (x, y)) : gj_M E yX2_fails cX2_fails 2 (some .boolean) 0 0 [gj_r 2, gj_i b1] σ (some (gj_i x)) y := by
  refine gj_body (lv := [(0, gj_r 2), (1, gj_i b1)]) (by decide +kernel) (Nat.le_of_ble_eq_true rfl) rfl (fun X hO => ?_)
  replace hO : gj_O E X RX2 cX2_fails 2 (some .boolean) 0 0 := hO
  unfold f_X2_fails at hf
  refine gj_aload_n hO 0 dX2_fails_0 rfl rfl ?_
  refine gj_bipush (v := 8) hO dX2_fails_1 (by decide) ?_
  refine gj_aload_n hO 0 dX2_fails_3 rfl rfl ?_
  refine gt_X2_8 hO wk_23 dX2_fails_4 ?_
  refine gj_imul hO dX2_fails_7 ?_
  refine gj_iload_n hO 1 dX2_fails_8 rfl rfl ?_
  refine gj_iadd hO dX2_fails_9 ?_
  refine pt_X2_4 hO wk_35 dX2_fails_10 ?_
  refine gj_iconst (v := 0) hO dX2_fails_13 (by decide) ?_
  replace hf := Option.some.inj hf
  simp only [Prod.mk.injEq] at hf
  obtain ⟨rfl, rfl⟩ := hf
  exact gj_zret hO (Or.inl rfl) dX2_fails_14
set_option maxHeartbeats 4000000 in
set_option maxRecDepth 100000 in
theorem ca_X2_fails {E : gj_E} {X : gj_X} {own : String} {cc : ByteArray} {nL : Nat} {rt : Option FieldType} {fr lo : Nat} {ce sl : Nat} {Q : State → Prop} {pc : Nat} {lv : List (Nat × gj_V)} {st : List gj_V} {σ : gj_S} (hO : gj_O E X own cc nL rt fr lo) {b1 : Int32}  {idx : Nat} {x : Int32} {y : gj_S} (hf : f_X2_fails b1 σ = some (x, y)) (hl : Cond.methodLink own idx yX2_fails ∈ gj_gw) (hf1 : 1 ≤ fr) (hf2 : 21 ≤ lo) (hcat : ((st.map (gj_tv E.2.1)).map fun v => v.category).sum ≤ 8) (hd : decode cc pc = .ok (.invokevirtual idx, 3)) (k : gj_H E X nL ce sl Q (pc + 3) lv ((gj_i x) :: st) y) : gj_H E X nL ce sl Q pc lv (gj_i b1 :: gj_r 2 :: st) σ :=
  gj_callV hO (o := 2) (vs := [gj_i b1]) (m_X2_fails  hf) (gj_Iany (by decide)) hl wk_36 wk_37 wk_18 wk_38 kl_2 kd_2 (by decide) (ci := 2) rfl (n := 1) (by decide +kernel) rfl hf1 hf2 rfl hcat hd k
def f_X2_isName  (σ : gj_S) : Option Int32 := (if (σ.1 2 7) = 0 then (if (lg_cmp (σ.2.1 2 9) (1685021547 : Int64)) = 0 then some (0 : Int32) else (if (lg_cmp (σ.2.1 2 9) (444150998387 : Int64)) = 0 then some (0 : Int32) else (if (lg_cmp (σ.2.1 2 9) (499850634611 : Int64)) = 0 then some (0 : Int32) else (if (lg_cmp (σ.2.1 2 9) (491496240229 : Int64)) = 0 then some (0 : Int32) else (if (lg_cmp (σ.2.1 2 9) (427071599731 : Int64)) = 0 then some (0 : Int32) else (if (lg_cmp (σ.2.1 2 9) (448545973363 : Int64)) = 0 then some (0 : Int32) else (if (lg_cmp (σ.2.1 2 9) (422726034283 : Int64)) = 0 then some (0 : Int32) else some (1 : Int32)))))))) else some (0 : Int32))
set_option maxHeartbeats 4000000 in
set_option maxRecDepth 100000 in
theorem m_X2_isName {E : gj_E} {σ : gj_S}   {x : Int32} (hf : f_X2_isName  σ = some x) : gj_M E yX2_isName cX2_isName 1 (some .boolean) 0 0 [gj_r 2] σ (some (gj_i x)) σ := by
  refine gj_body (lv := [(0, gj_r 2)]) (by decide +kernel) (Nat.le_of_ble_eq_true rfl) rfl (fun X hO => ?_)
  replace hO : gj_O E X RX2 cX2_isName 1 (some .boolean) 0 0 := hO
  unfold f_X2_isName at hf
  refine gj_aload_n hO 0 dX2_isName_0 rfl rfl ?_
  refine gt_X2_7 hO wk_26 dX2_isName_1 ?_
  refine gj_if_ne (tgt := 88) hO dX2_isName_4 (by decide) (fun h => ?_) (fun h => ?_)
  · replace hf := gj_f h hf
    refine gj_iconst (v := 0) hO dX2_isName_88 (by decide) ?_
    obtain rfl := Option.some.inj hf
    exact gj_zret hO (Or.inl rfl) dX2_isName_89
  · replace hf := gj_t h hf
    refine gj_aload_n hO 0 dX2_isName_7 rfl rfl ?_
    refine gt_X2_9 hO wk_24 dX2_isName_8 ?_
    refine gj_ldc2 hO wk_39 dX2_isName_11 ?_
    refine gj_lcmp hO dX2_isName_14 ?_
    refine gj_if_eq (tgt := 88) hO dX2_isName_15 (by decide) (fun h => ?_) (fun h => ?_)
    · replace hf := gj_t h hf
      refine gj_iconst (v := 0) hO dX2_isName_88 (by decide) ?_
      obtain rfl := Option.some.inj hf
      exact gj_zret hO (Or.inl rfl) dX2_isName_89
    · replace hf := gj_f h hf
      refine gj_aload_n hO 0 dX2_isName_18 rfl rfl ?_
      refine gt_X2_9 hO wk_24 dX2_isName_19 ?_
      refine gj_ldc2 hO wk_40 dX2_isName_22 ?_
      refine gj_lcmp hO dX2_isName_25 ?_
      refine gj_if_eq (tgt := 88) hO dX2_isName_26 (by decide) (fun h => ?_) (fun h => ?_)
      · replace hf := gj_t h hf
        refine gj_iconst (v := 0) hO dX2_isName_88 (by decide) ?_
        obtain rfl := Option.some.inj hf
        exact gj_zret hO (Or.inl rfl) dX2_isName_89
      · replace hf := gj_f h hf
        refine gj_aload_n hO 0 dX2_isName_29 rfl rfl ?_
        refine gt_X2_9 hO wk_24 dX2_isName_30 ?_
        refine gj_ldc2 hO wk_41 dX2_isName_33 ?_
        refine gj_lcmp hO dX2_isName_36 ?_
        refine gj_if_eq (tgt := 88) hO dX2_isName_37 (by decide) (fun h => ?_) (fun h => ?_)
        · replace hf := gj_t h hf
          refine gj_iconst (v := 0) hO dX2_isName_88 (by decide) ?_
          obtain rfl := Option.some.inj hf
          exact gj_zret hO (Or.inl rfl) dX2_isName_89
        · replace hf := gj_f h hf
          refine gj_aload_n hO 0 dX2_isName_40 rfl rfl ?_
          refine gt_X2_9 hO wk_24 dX2_isName_41 ?_
          refine gj_ldc2 hO wk_42 dX2_isName_44 ?_
          refine gj_lcmp hO dX2_isName_47 ?_
          refine gj_if_eq (tgt := 88) hO dX2_isName_48 (by decide) (fun h => ?_) (fun h => ?_)
          · replace hf := gj_t h hf
            refine gj_iconst (v := 0) hO dX2_isName_88 (by decide) ?_
            obtain rfl := Option.some.inj hf
            exact gj_zret hO (Or.inl rfl) dX2_isName_89
          · replace hf := gj_f h hf
            refine gj_aload_n hO 0 dX2_isName_51 rfl rfl ?_
            refine gt_X2_9 hO wk_24 dX2_isName_52 ?_
            refine gj_ldc2 hO wk_43 dX2_isName_55 ?_
            refine gj_lcmp hO dX2_isName_58 ?_
            refine gj_if_eq (tgt := 88) hO dX2_isName_59 (by decide) (fun h => ?_) (fun h => ?_)
            · replace hf := gj_t h hf
              refine gj_iconst (v := 0) hO dX2_isName_88 (by decide) ?_
              obtain rfl := Option.some.inj hf
              exact gj_zret hO (Or.inl rfl) dX2_isName_89
            · replace hf := gj_f h hf
              refine gj_aload_n hO 0 dX2_isName_62 rfl rfl ?_
              refine gt_X2_9 hO wk_24 dX2_isName_63 ?_
              refine gj_ldc2 hO wk_44 dX2_isName_66 ?_
              refine gj_lcmp hO dX2_isName_69 ?_
              refine gj_if_eq (tgt := 88) hO dX2_isName_70 (by decide) (fun h => ?_) (fun h => ?_)
              · replace hf := gj_t h hf
                refine gj_iconst (v := 0) hO dX2_isName_88 (by decide) ?_
                obtain rfl := Option.some.inj hf
                exact gj_zret hO (Or.inl rfl) dX2_isName_89
              · replace hf := gj_f h hf
                refine gj_aload_n hO 0 dX2_isName_73 rfl rfl ?_
                refine gt_X2_9 hO wk_24 dX2_isName_74 ?_
                refine gj_ldc2 hO wk_45 dX2_isName_77 ?_
                refine gj_lcmp hO dX2_isName_80 ?_
                refine gj_if_eq (tgt := 88) hO dX2_isName_81 (by decide) (fun h => ?_) (fun h => ?_)
                · replace hf := gj_t h hf
                  refine gj_iconst (v := 0) hO dX2_isName_88 (by decide) ?_
                  obtain rfl := Option.some.inj hf
                  exact gj_zret hO (Or.inl rfl) dX2_isName_89
                · replace hf := gj_f h hf
                  refine gj_iconst (v := 1) hO dX2_isName_84 (by decide) ?_
                  refine gj_goto (tgt := 89) hO dX2_isName_85 (by decide) ?_
                  obtain rfl := Option.some.inj hf
                  exact gj_zret hO (Or.inr rfl) dX2_isName_89
set_option maxHeartbeats 4000000 in
set_option maxRecDepth 100000 in
theorem ca_X2_isName {E : gj_E} {X : gj_X} {own : String} {cc : ByteArray} {nL : Nat} {rt : Option FieldType} {fr lo : Nat} {ce sl : Nat} {Q : State → Prop} {pc : Nat} {lv : List (Nat × gj_V)} {st : List gj_V} {σ : gj_S} (hO : gj_O E X own cc nL rt fr lo)   {idx : Nat} {x : Int32} (hf : f_X2_isName  σ = some x) (hl : Cond.methodLink own idx yX2_isName ∈ gj_gw) (hf1 : 1 ≤ fr) (hf2 : 20 ≤ lo) (hcat : ((st.map (gj_tv E.2.1)).map fun v => v.category).sum ≤ 8) (hd : decode cc pc = .ok (.invokevirtual idx, 3)) (k : gj_H E X nL ce sl Q (pc + 3) lv ((gj_i x) :: st) σ) : gj_H E X nL ce sl Q pc lv (gj_r 2 :: st) σ :=
  gj_callV hO (o := 2) (vs := []) (m_X2_isName  hf) (gj_Iany (by decide)) hl wk_46 wk_47 wk_18 wk_48 kl_2 kd_2 (by decide) (ci := 2) rfl (n := 0) (by decide +kernel) rfl hf1 hf2 rfl hcat hd k
def fb_X2_numberOfDock_l2 (σ : gj_S) (a10002 : Int32) : Option ((Int32 ⊕ Unit) ⊕ Int32) := (if (σ.1 3 0) ≤ a10002 then some (.inl (.inr ())) else (if gj_in a10002 8 then (if (lg_cmp (σ.2.1 13 (Int32.toNatClampNeg a10002)) (σ.2.1 2 9)) = 0 then some (.inl (.inl a10002)) else some (.inr (a10002 + 1))) else none))
def f_X2_numberOfDock  (σ : gj_S) : Option Int32 := ((gj_lp (fb_X2_numberOfDock_l2 σ) 5000 (0 : Int32)).bind fun y1 => Sum.elim (fun q => some q) (fun z1 => some (-1 : Int32)) y1)
set_option maxHeartbeats 4000000 in
set_option maxRecDepth 100000 in
theorem sb_X2_numberOfDock_l2 {E : gj_E} {X : gj_X} {r : Option gj_V} {τ : gj_S} (hO : gj_O E X RX2 cX2_numberOfDock 2 (some .int) 0 0) {σ : gj_S} {a10002 : Int32} {x : (Int32 ⊕ Unit) ⊕ Int32} (hf : fb_X2_numberOfDock_l2 σ a10002 = some x) (K : gj_K (fun y1 => gj_K (fun q => r = (some (gj_i q)) ∧ τ = σ) (fun z1 => gj_G E X 2 r τ 35 [] [] σ) y1) (fun a10002 => gj_G E X 2 r τ 2 [(0, gj_r 2), (1, gj_i a10002)] [] σ) x) : gj_G E X 2 r τ 2 [(0, gj_r 2), (1, gj_i a10002)] [] σ := by
  unfold fb_X2_numberOfDock_l2 at hf
  refine gj_iload_n hO 1 dX2_numberOfDock_2 rfl rfl ?_
  refine gj_aload_n hO 0 dX2_numberOfDock_3 rfl rfl ?_
  refine gt_X2_0 hO wk_49 dX2_numberOfDock_4 ?_
  refine gt_X1_0 hO kd_3 kl_3 wk_50 dX2_numberOfDock_7 ?_
  refine gj_icmp_ge (tgt := 35) hO dX2_numberOfDock_10 (by decide) (fun h => ?_) (fun h => ?_)
  · replace hf := gj_t h hf
    obtain rfl := Option.some.inj hf
    refine gj_sub (lv2 := []) [] rfl ?_
    exact K
  · replace hf := gj_f h hf
    refine gj_aload_n hO 0 dX2_numberOfDock_13 rfl rfl ?_
    refine gt_X2_2 hO wk_51 dX2_numberOfDock_14 ?_
    refine gj_iload_n hO 1 dX2_numberOfDock_17 rfl rfl ?_
    obtain ⟨hb10201, hf⟩ := gj_c hf
    refine gj_lald hO kl_13 kd_13 hb10201 dX2_numberOfDock_18 ?_
    refine gj_aload_n hO 0 dX2_numberOfDock_19 rfl rfl ?_
    refine gt_X2_9 hO wk_24 dX2_numberOfDock_20 ?_
    refine gj_lcmp hO dX2_numberOfDock_23 ?_
    refine gj_if_ne (tgt := 29) hO dX2_numberOfDock_24 (by decide) (fun h => ?_) (fun h => ?_)
    · replace hf := gj_f h hf
      refine gj_iinc (v := (a10002 + 1)) (lv2 := [(1, gj_i (a10002 + 1)), (0, gj_r 2)]) hO 1 dX2_numberOfDock_29 rfl rfl (by decide) rfl ?_
      refine gj_goto (tgt := 2) hO dX2_numberOfDock_32 (by decide) ?_
      obtain rfl := Option.some.inj hf
      refine gj_sub (lv2 := [(0, gj_r 2), (1, gj_i (a10002 + 1))]) [1, 0] rfl ?_
      exact K
    · replace hf := gj_t h hf
      refine gj_iload_n hO 1 dX2_numberOfDock_27 rfl rfl ?_
      obtain rfl := Option.some.inj hf
      obtain ⟨rfl, rfl⟩ := K
      exact gj_iret hO dX2_numberOfDock_28
set_option maxHeartbeats 4000000 in
set_option maxRecDepth 100000 in
theorem m_X2_numberOfDock {E : gj_E} {σ : gj_S}   {x : Int32} (hf : f_X2_numberOfDock  σ = some x) : gj_M E yX2_numberOfDock cX2_numberOfDock 2 (some .int) 0 0 [gj_r 2] σ (some (gj_i x)) σ := by
  refine gj_body (lv := [(0, gj_r 2)]) (by decide +kernel) (Nat.le_of_ble_eq_true rfl) rfl (fun X hO => ?_)
  replace hO : gj_O E X RX2 cX2_numberOfDock 2 (some .int) 0 0 := hO
  unfold f_X2_numberOfDock at hf
  refine gj_iconst (v := 0) hO dX2_numberOfDock_0 (by decide) ?_
  refine gj_istore_n (lv2 := [(1, gj_i (0 : Int32)), (0, gj_r 2)]) hO dX2_numberOfDock_1 rfl (by decide) rfl ?_
  obtain ⟨y1, hz1, hf⟩ := gj_b hf
  have J1 : (fun y1 => gj_K (fun q => (some (gj_i x)) = (some (gj_i q)) ∧ σ = σ) (fun z1 => gj_G E X 2 (some (gj_i x)) σ 35 [] [] σ) y1) y1 := by
    rcases y1 with q | z1
    · have hf : some q = some x := hf
      obtain rfl := Option.some.inj hf
      exact ⟨rfl, rfl⟩
    · dsimp only [Sum.elim] at hf
      refine gj_iconst (v := (-1)) hO dX2_numberOfDock_35 (by decide) ?_
      obtain rfl := Option.some.inj hf
      exact gj_iret hO dX2_numberOfDock_36
  refine gj_sub (lv2 := [(0, gj_r 2), (1, gj_i (0 : Int32))]) [1, 0] rfl ?_
  exact gj_loop (head := fun a10002 => gj_G E X 2 (some (gj_i x)) σ 2 [(0, gj_r 2), (1, gj_i a10002)] [] σ) (exit := fun y1 => gj_K (fun q => (some (gj_i x)) = (some (gj_i q)) ∧ σ = σ) (fun z1 => gj_G E X 2 (some (gj_i x)) σ 35 [] [] σ) y1) (fun a10002 x hf K => sb_X2_numberOfDock_l2 hO hf K) _ _ _ hz1 J1
set_option maxHeartbeats 4000000 in
set_option maxRecDepth 100000 in
theorem ca_X2_numberOfDock {E : gj_E} {X : gj_X} {own : String} {cc : ByteArray} {nL : Nat} {rt : Option FieldType} {fr lo : Nat} {ce sl : Nat} {Q : State → Prop} {pc : Nat} {lv : List (Nat × gj_V)} {st : List gj_V} {σ : gj_S} (hO : gj_O E X own cc nL rt fr lo)   {idx : Nat} {x : Int32} (hf : f_X2_numberOfDock  σ = some x) (hl : Cond.methodLink own idx yX2_numberOfDock ∈ gj_gw) (hf1 : 1 ≤ fr) (hf2 : 21 ≤ lo) (hcat : ((st.map (gj_tv E.2.1)).map fun v => v.category).sum ≤ 8) (hd : decode cc pc = .ok (.invokevirtual idx, 3)) (k : gj_H E X nL ce sl Q (pc + 3) lv ((gj_i x) :: st) σ) : gj_H E X nL ce sl Q pc lv (gj_r 2 :: st) σ :=
  gj_callV hO (o := 2) (vs := []) (m_X2_numberOfDock  hf) (gj_Iany (by decide)) hl wk_52 wk_53 wk_18 wk_54 kl_2 kd_2 (by decide) (ci := 2) rfl (n := 0) (by decide +kernel) rfl hf1 hf2 rfl hcat hd k
def fb_X2_isNewName_l29  (a10029 : (Int32 × gj_S)) : Option (((Int32 × gj_S) ⊕ gj_S) ⊕ (Int32 × gj_S)) := (if (a10029.2.1 3 1) ≤ a10029.1 then some (.inl (.inr a10029.2)) else (if gj_in a10029.1 16 then (if (lg_cmp (a10029.2.2.1 12 (Int32.toNatClampNeg a10029.1)) (a10029.2.2.1 2 9)) = 0 then ((f_X2_fails (2 : Int32) a10029.2).bind fun x12902 => (if x12902.1 = 0 ∨ x12902.1 = 1 then some (.inl (.inl (x12902.1, x12902.2))) else none)) else some (.inr ((a10029.1 + 1), a10029.2))) else none))
def f_X2_isNewName  (σ : gj_S) : Option (Int32 × gj_S) := ((f_X2_isName σ).bind fun x1 => (if x1 = 0 then ((f_X2_fails (1 : Int32) σ).bind fun x6 => (if x6.1 = 0 ∨ x6.1 = 1 then some (x6.1, x6.2) else none)) else ((f_X2_numberOfDock σ).bind fun x2 => (if x2 = (-1 : Int32) then ((gj_lp (fb_X2_isNewName_l29) 5000 ((0 : Int32), σ)).bind fun y3 => Sum.elim (fun q => some q) (fun z3 => some ((1 : Int32), z3)) y3) else ((f_X2_fails (2 : Int32) σ).bind fun x4 => (if x4.1 = 0 ∨ x4.1 = 1 then some (x4.1, x4.2) else none))))))
set_option maxHeartbeats 4000000 in
set_option maxRecDepth 100000 in
theorem sb_X2_isNewName_l29 {E : gj_E} {X : gj_X} {r : Option gj_V} {τ : gj_S} (hO : gj_O E X RX2 cX2_isNewName 2 (some .boolean) 1 21)  {a10029_0 : Int32} {a10029_1 : gj_S} {x : ((Int32 × gj_S) ⊕ gj_S) ⊕ (Int32 × gj_S)} (hf : fb_X2_isNewName_l29  (a10029_0, a10029_1) = some x) (K : gj_K (fun y3 => gj_K (fun q => r = (some (gj_i q.1)) ∧ τ = q.2) (fun z3 => gj_G E X 2 r τ 66 [] [] z3) y3) (fun a10029 => gj_G E X 2 r τ 29 [(0, gj_r 2), (1, gj_i a10029.1)] [] a10029.2) x) : gj_G E X 2 r τ 29 [(0, gj_r 2), (1, gj_i a10029_0)] [] a10029_1 := by
  unfold fb_X2_isNewName_l29 at hf
  dsimp only at hf
  refine gj_iload_n hO 1 dX2_isNewName_29 rfl rfl ?_
  refine gj_aload_n hO 0 dX2_isNewName_30 rfl rfl ?_
  refine gt_X2_0 hO wk_49 dX2_isNewName_31 ?_
  refine gt_X1_1 hO kd_3 kl_3 wk_57 dX2_isNewName_34 ?_
  refine gj_icmp_ge (tgt := 66) hO dX2_isNewName_37 (by decide) (fun h => ?_) (fun h => ?_)
  · replace hf := gj_t h hf
    obtain rfl := Option.some.inj hf
    refine gj_sub (lv2 := []) [] rfl ?_
    exact K
  · replace hf := gj_f h hf
    refine gj_aload_n hO 0 dX2_isNewName_40 rfl rfl ?_
    refine gt_X2_1 hO wk_58 dX2_isNewName_41 ?_
    refine gj_iload_n hO 1 dX2_isNewName_44 rfl rfl ?_
    obtain ⟨hb12901, hf⟩ := gj_c hf
    refine gj_lald hO kl_12 kd_12 hb12901 dX2_isNewName_45 ?_
    refine gj_aload_n hO 0 dX2_isNewName_46 rfl rfl ?_
    refine gt_X2_9 hO wk_24 dX2_isNewName_47 ?_
    refine gj_lcmp hO dX2_isNewName_50 ?_
    refine gj_if_ne (tgt := 60) hO dX2_isNewName_51 (by decide) (fun h => ?_) (fun h => ?_)
    · replace hf := gj_f h hf
      refine gj_iinc (v := (a10029_0 + 1)) (lv2 := [(1, gj_i (a10029_0 + 1)), (0, gj_r 2)]) hO 1 dX2_isNewName_60 rfl rfl (by decide) rfl ?_
      refine gj_goto (tgt := 29) hO dX2_isNewName_63 (by decide) ?_
      obtain rfl := Option.some.inj hf
      refine gj_sub (lv2 := [(0, gj_r 2), (1, gj_i (a10029_0 + 1))]) [1, 0] rfl ?_
      exact K
    · replace hf := gj_t h hf
      refine gj_aload_n hO 0 dX2_isNewName_54 rfl rfl ?_
      refine gj_iconst (v := 2) hO dX2_isNewName_55 (by decide) ?_
      obtain ⟨⟨x12902_v, x12902_s⟩, hc12902, hf⟩ := gj_b hf
      dsimp only at hf
      refine ca_X2_fails hO  hc12902 wk_59 (by decide) (by decide) (Nat.le_of_ble_eq_true rfl) dX2_isNewName_56 ?_
      obtain ⟨hb12903, hf⟩ := gj_c hf
      obtain rfl := Option.some.inj hf
      obtain ⟨rfl, rfl⟩ := K
      exact gj_zret hO hb12903 dX2_isNewName_59
set_option maxHeartbeats 4000000 in
set_option maxRecDepth 100000 in
theorem m_X2_isNewName {E : gj_E} {σ : gj_S}   {x : Int32} {y : gj_S} (hf : f_X2_isNewName  σ = some (x, y)) : gj_M E yX2_isNewName cX2_isNewName 2 (some .boolean) 1 21 [gj_r 2] σ (some (gj_i x)) y := by
  refine gj_body (lv := [(0, gj_r 2)]) (by decide +kernel) (Nat.le_of_ble_eq_true rfl) rfl (fun X hO => ?_)
  replace hO : gj_O E X RX2 cX2_isNewName 2 (some .boolean) 1 21 := hO
  unfold f_X2_isNewName at hf
  refine gj_aload_n hO 0 dX2_isNewName_0 rfl rfl ?_
  obtain ⟨x1, hc1, hf⟩ := gj_b hf
  refine ca_X2_isName hO  hc1 wk_55 (by decide) (by decide) (Nat.le_of_ble_eq_true rfl) dX2_isNewName_1 ?_
  refine gj_if_ne (tgt := 13) hO dX2_isNewName_4 (by decide) (fun h => ?_) (fun h => ?_)
  · replace hf := gj_f h hf
    refine gj_aload_n hO 0 dX2_isNewName_13 rfl rfl ?_
    obtain ⟨x2, hc2, hf⟩ := gj_b hf
    refine ca_X2_numberOfDock hO  hc2 wk_56 (by decide) (by decide) (Nat.le_of_ble_eq_true rfl) dX2_isNewName_14 ?_
    refine gj_iconst (v := (-1)) hO dX2_isNewName_17 (by decide) ?_
    refine gj_icmp_eq (tgt := 27) hO dX2_isNewName_18 (by decide) (fun h => ?_) (fun h => ?_)
    · replace hf := gj_t h hf
      refine gj_iconst (v := 0) hO dX2_isNewName_27 (by decide) ?_
      refine gj_istore_n (lv2 := [(1, gj_i (0 : Int32)), (0, gj_r 2)]) hO dX2_isNewName_28 rfl (by decide) rfl ?_
      obtain ⟨y3, hz3, hf⟩ := gj_b hf
      have J3 : (fun y3 => gj_K (fun q => (some (gj_i x)) = (some (gj_i q.1)) ∧ y = q.2) (fun z3 => gj_G E X 2 (some (gj_i x)) y 66 [] [] z3) y3) y3 := by
        rcases y3 with q | z3
        · have hf : some q = some (x, y) := hf
          obtain rfl := Option.some.inj hf
          exact ⟨rfl, rfl⟩
        · dsimp only [Sum.elim] at hf
          refine gj_iconst (v := 1) hO dX2_isNewName_66 (by decide) ?_
          replace hf := Option.some.inj hf
          simp only [Prod.mk.injEq] at hf
          obtain ⟨rfl, rfl⟩ := hf
          exact gj_zret hO (Or.inr rfl) dX2_isNewName_67
      refine gj_sub (lv2 := [(0, gj_r 2), (1, gj_i (0 : Int32))]) [1, 0] rfl ?_
      exact gj_loop (head := fun a10029 => gj_G E X 2 (some (gj_i x)) y 29 [(0, gj_r 2), (1, gj_i a10029.1)] [] a10029.2) (exit := fun y3 => gj_K (fun q => (some (gj_i x)) = (some (gj_i q.1)) ∧ y = q.2) (fun z3 => gj_G E X 2 (some (gj_i x)) y 66 [] [] z3) y3) (fun a10029 x hf K => by obtain ⟨a10029_0, a10029_1⟩ := a10029; exact sb_X2_isNewName_l29 hO hf K) _ _ _ hz3 J3
    · replace hf := gj_f h hf
      refine gj_aload_n hO 0 dX2_isNewName_21 rfl rfl ?_
      refine gj_iconst (v := 2) hO dX2_isNewName_22 (by decide) ?_
      obtain ⟨⟨x4_v, x4_s⟩, hc4, hf⟩ := gj_b hf
      dsimp only at hf
      refine ca_X2_fails hO  hc4 wk_59 (by decide) (by decide) (Nat.le_of_ble_eq_true rfl) dX2_isNewName_23 ?_
      obtain ⟨hb5, hf⟩ := gj_c hf
      replace hf := Option.some.inj hf
      simp only [Prod.mk.injEq] at hf
      obtain ⟨rfl, rfl⟩ := hf
      exact gj_zret hO hb5 dX2_isNewName_26
  · replace hf := gj_t h hf
    refine gj_aload_n hO 0 dX2_isNewName_7 rfl rfl ?_
    refine gj_iconst (v := 1) hO dX2_isNewName_8 (by decide) ?_
    obtain ⟨⟨x6_v, x6_s⟩, hc6, hf⟩ := gj_b hf
    dsimp only at hf
    refine ca_X2_fails hO  hc6 wk_59 (by decide) (by decide) (Nat.le_of_ble_eq_true rfl) dX2_isNewName_9 ?_
    obtain ⟨hb7, hf⟩ := gj_c hf
    replace hf := Option.some.inj hf
    simp only [Prod.mk.injEq] at hf
    obtain ⟨rfl, rfl⟩ := hf
    exact gj_zret hO hb7 dX2_isNewName_12
set_option maxHeartbeats 4000000 in
set_option maxRecDepth 100000 in
theorem ca_X2_isNewName {E : gj_E} {X : gj_X} {own : String} {cc : ByteArray} {nL : Nat} {rt : Option FieldType} {fr lo : Nat} {ce sl : Nat} {Q : State → Prop} {pc : Nat} {lv : List (Nat × gj_V)} {st : List gj_V} {σ : gj_S} (hO : gj_O E X own cc nL rt fr lo)   {idx : Nat} {x : Int32} {y : gj_S} (hf : f_X2_isNewName  σ = some (x, y)) (hl : Cond.methodLink own idx yX2_isNewName ∈ gj_gw) (hf1 : 2 ≤ fr) (hf2 : 42 ≤ lo) (hcat : ((st.map (gj_tv E.2.1)).map fun v => v.category).sum ≤ 8) (hd : decode cc pc = .ok (.invokevirtual idx, 3)) (k : gj_H E X nL ce sl Q (pc + 3) lv ((gj_i x) :: st) y) : gj_H E X nL ce sl Q pc lv (gj_r 2 :: st) σ :=
  gj_callV hO (o := 2) (vs := []) (m_X2_isNewName  hf) (gj_Iany (by decide)) hl wk_60 wk_61 wk_18 wk_62 kl_2 kd_2 (by decide) (ci := 2) rfl (n := 0) (by decide +kernel) rfl hf1 hf2 rfl hcat hd k
