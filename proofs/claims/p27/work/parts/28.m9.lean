def fb_X7_leastRoomUp_l9 (b0 : Nat) (b2 : Int32) (σ : gj_S) (a10009 : (Int32 × Int32 × Int32)) : Option (Int32 ⊕ (Int32 × Int32 × Int32)) := (if (9 : Int32) ≤ a10009.2.2 then some (.inl a10009.1) else (if a10009.2.1 = (8 : Int32) then some (.inl a10009.1) else ((f_X7_roomUp b0 a10009.2.1 b2 σ).bind fun x10901 => (if gj_in a10009.2.1 9 then some (.inr ((if x10901 < a10009.1 then x10901 else a10009.1), (σ.1 ((b0 + 10) + 2) (Int32.toNatClampNeg a10009.2.1)), (a10009.2.2 + 1))) else none))))
def f_X7_leastRoomUp (b0 : Nat) (b1 : Int32) (b2 : Int32) (σ : gj_S) : Option Int32 := ((gj_lp (fb_X7_leastRoomUp_l9 b0 b2 σ) 5000 ((1000000 : Int32), b1, (0 : Int32))).bind fun z1 => some z1)
set_option maxHeartbeats 4000000 in
set_option maxRecDepth 100000 in
theorem sb_X7_leastRoomUp_l9 {E : gj_E} {X : gj_X} {r : Option gj_V} {τ : gj_S} (hO : gj_O E X RX7 cX7_leastRoomUp 6 (some .int) 2 45) {b0 : Nat} {b2 : Int32} {σ : gj_S} (g0 : isY b0) {a10009_0 : Int32} {a10009_1 : Int32} {a10009_2 : Int32} {x : Int32 ⊕ (Int32 × Int32 × Int32)} (hf : fb_X7_leastRoomUp_l9 b0 b2 σ (a10009_0, a10009_1, a10009_2) = some x) (K : gj_K (fun z1 => gj_G E X 6 r τ 53 [(3, gj_i z1)] [] σ) (fun a10009 => gj_G E X 6 r τ 9 [(0, gj_r b0), (2, gj_i b2), (3, gj_i a10009.1), (4, gj_i a10009.2.1), (5, gj_i a10009.2.2)] [] σ) x) : gj_G E X 6 r τ 9 [(0, gj_r b0), (2, gj_i b2), (3, gj_i a10009_0), (4, gj_i a10009_1), (5, gj_i a10009_2)] [] σ := by
  unfold fb_X7_leastRoomUp_l9 at hf
  dsimp only at hf
  refine gj_iload hO 4 dX7_leastRoomUp_9 rfl ?_
  refine gj_bipush (v := 9) hO dX7_leastRoomUp_11 (by decide) ?_
  refine gj_icmp_ge (tgt := 53) hO dX7_leastRoomUp_13 (by decide) (fun h => ?_) (fun h => ?_)
  · replace hf := gj_t h hf
    obtain rfl := Option.some.inj hf
    refine gj_sub (lv2 := [(3, gj_i a10009_0)]) [2] rfl ?_
    exact K
  · replace hf := gj_f h hf
    refine gj_iload hO 3 dX7_leastRoomUp_16 rfl ?_
    refine gj_bipush (v := 8) hO dX7_leastRoomUp_18 (by decide) ?_
    refine gj_icmp_eq (tgt := 53) hO dX7_leastRoomUp_20 (by decide) (fun h => ?_) (fun h => ?_)
    · replace hf := gj_t h hf
      obtain rfl := Option.some.inj hf
      refine gj_sub (lv2 := [(3, gj_i a10009_0)]) [2] rfl ?_
      exact K
    · replace hf := gj_f h hf
      refine gj_iload_n hO 2 dX7_leastRoomUp_23 rfl rfl ?_
      refine gj_aload_n hO 0 dX7_leastRoomUp_24 rfl rfl ?_
      refine gj_iload hO 3 dX7_leastRoomUp_25 rfl ?_
      refine gj_iload_n hO 1 dX7_leastRoomUp_27 rfl rfl ?_
      obtain ⟨x10901, hc10901, hf⟩ := gj_b hf
      refine ca_X7_roomUp hO g0 hc10901 wk_540 (by decide) (by decide) (Nat.le_of_ble_eq_true rfl) dX7_leastRoomUp_28 ?_
      refine gj_mmin hO wk_452 (by decide) (by decide) (Nat.le_of_ble_eq_true rfl) dX7_leastRoomUp_31 ?_
      refine gj_istore_n (lv2 := [(3, gj_i (if x10901 < a10009_0 then x10901 else a10009_0)), (0, gj_r b0), (2, gj_i b2), (4, gj_i a10009_1), (5, gj_i a10009_2)]) hO dX7_leastRoomUp_34 rfl (by decide) rfl ?_
      refine gj_aload_n hO 1 dX7_leastRoomUp_35 rfl rfl ?_
      refine gt_X7_1 hO (kdY_0 g0) (klY_0 g0) wk_166 dX7_leastRoomUp_36 ?_
      refine gt_X5_1 hO (kdT_0 (isY_T g0)) (klT_0 (isY_T g0)) wk_541 dX7_leastRoomUp_39 ?_
      refine gj_iload hO 3 dX7_leastRoomUp_42 rfl ?_
      obtain ⟨hb10902, hf⟩ := gj_c hf
      refine gj_iald hO (klT_2 (isY_T g0)) (kdT_2 (isY_T g0)) hb10902 dX7_leastRoomUp_44 ?_
      refine gj_istore (lv2 := [(4, gj_i (σ.1 ((b0 + 10) + 2) (Int32.toNatClampNeg a10009_1))), (3, gj_i (if x10901 < a10009_0 then x10901 else a10009_0)), (0, gj_r b0), (2, gj_i b2), (5, gj_i a10009_2)]) hO dX7_leastRoomUp_45 (by decide) rfl ?_
      refine gj_iinc (v := (a10009_2 + 1)) (lv2 := [(5, gj_i (a10009_2 + 1)), (4, gj_i (σ.1 ((b0 + 10) + 2) (Int32.toNatClampNeg a10009_1))), (3, gj_i (if x10901 < a10009_0 then x10901 else a10009_0)), (0, gj_r b0), (2, gj_i b2)]) hO 4 dX7_leastRoomUp_47 rfl rfl (by decide) rfl ?_
      refine gj_goto (tgt := 9) hO dX7_leastRoomUp_50 (by decide) ?_
      obtain rfl := Option.some.inj hf
      refine gj_sub (lv2 := [(0, gj_r b0), (2, gj_i b2), (3, gj_i (if x10901 < a10009_0 then x10901 else a10009_0)), (4, gj_i (σ.1 ((b0 + 10) + 2) (Int32.toNatClampNeg a10009_1))), (5, gj_i (a10009_2 + 1))]) [3, 4, 2, 1, 0] rfl ?_
      exact K
set_option maxHeartbeats 4000000 in
set_option maxRecDepth 100000 in
theorem m_X7_leastRoomUp {E : gj_E} {σ : gj_S} {b0 : Nat} {b1 : Int32} {b2 : Int32} (g0 : isY b0) {x : Int32} (hf : f_X7_leastRoomUp b0 b1 b2 σ = some x) : gj_M E yX7_leastRoomUp cX7_leastRoomUp 6 (some .int) 2 45 [gj_r b0, gj_i b1, gj_i b2] σ (some (gj_i x)) σ := by
  refine gj_body (lv := [(0, gj_r b0), (1, gj_i b1), (2, gj_i b2)]) (by decide +kernel) (Nat.le_of_ble_eq_true rfl) rfl (fun X hO => ?_)
  replace hO : gj_O E X RX7 cX7_leastRoomUp 6 (some .int) 2 45 := hO
  unfold f_X7_leastRoomUp at hf
  refine gj_ldc hO wk_553 dX7_leastRoomUp_0 ?_
  refine gj_istore_n (lv2 := [(3, gj_i (1000000 : Int32)), (0, gj_r b0), (1, gj_i b1), (2, gj_i b2)]) hO dX7_leastRoomUp_2 rfl (by decide) rfl ?_
  refine gj_iload_n hO 2 dX7_leastRoomUp_3 rfl rfl ?_
  refine gj_istore (lv2 := [(4, gj_i b1), (3, gj_i (1000000 : Int32)), (0, gj_r b0), (1, gj_i b1), (2, gj_i b2)]) hO dX7_leastRoomUp_4 (by decide) rfl ?_
  refine gj_iconst (v := 0) hO dX7_leastRoomUp_6 (by decide) ?_
  refine gj_istore (lv2 := [(5, gj_i (0 : Int32)), (4, gj_i b1), (3, gj_i (1000000 : Int32)), (0, gj_r b0), (1, gj_i b1), (2, gj_i b2)]) hO dX7_leastRoomUp_7 (by decide) rfl ?_
  obtain ⟨z1, hz1, hf⟩ := gj_b hf
  have J1 : gj_G E X 6 (some (gj_i x)) σ 53 [(3, gj_i z1)] [] σ := by
    refine gj_iload_n hO 0 dX7_leastRoomUp_53 rfl rfl ?_
    obtain rfl := Option.some.inj hf
    exact gj_iret hO dX7_leastRoomUp_54
  refine gj_sub (lv2 := [(0, gj_r b0), (2, gj_i b2), (3, gj_i (1000000 : Int32)), (4, gj_i b1), (5, gj_i (0 : Int32))]) [3, 5, 2, 1, 0] rfl ?_
  exact gj_loop (head := fun a10009 => gj_G E X 6 (some (gj_i x)) σ 9 [(0, gj_r b0), (2, gj_i b2), (3, gj_i a10009.1), (4, gj_i a10009.2.1), (5, gj_i a10009.2.2)] [] σ) (exit := fun z1 => gj_G E X 6 (some (gj_i x)) σ 53 [(3, gj_i z1)] [] σ) (fun a10009 x hf K => by obtain ⟨a10009_0, a10009_1, a10009_2⟩ := a10009; exact sb_X7_leastRoomUp_l9 hO g0 hf K) _ _ _ hz1 J1
set_option maxHeartbeats 4000000 in
set_option maxRecDepth 100000 in
theorem ca_X7_leastRoomUp {E : gj_E} {X : gj_X} {own : String} {cc : ByteArray} {nL : Nat} {rt : Option FieldType} {fr lo : Nat} {ce sl : Nat} {Q : State → Prop} {pc : Nat} {lv : List (Nat × gj_V)} {st : List gj_V} {σ : gj_S} (hO : gj_O E X own cc nL rt fr lo) {b0 : Nat} {b1 : Int32} {b2 : Int32} (g0 : isY b0) {idx : Nat} {x : Int32} (hf : f_X7_leastRoomUp b0 b1 b2 σ = some x) (hl : Cond.methodLink own idx yX7_leastRoomUp ∈ gj_gw) (hf1 : 3 ≤ fr) (hf2 : 70 ≤ lo) (hcat : ((st.map (gj_tv E.2.1)).map fun v => v.category).sum ≤ 8) (hd : decode cc pc = .ok (.invokevirtual idx, 3)) (k : gj_H E X nL ce sl Q (pc + 3) lv ((gj_i x) :: st) σ) : gj_H E X nL ce sl Q pc lv (gj_i b2 :: gj_i b1 :: gj_r b0 :: st) σ :=
  gj_callV hO (o := b0) (vs := [gj_i b1, gj_i b2]) (m_X7_leastRoomUp g0 hf) (gj_Iany (by decide)) hl wk_554 wk_555 wk_171 wk_556 (klY_0 g0) (kdY_0 g0) (by decide) (ci := 7) rfl (n := 2) (by decide +kernel) rfl hf1 hf2 rfl hcat hd k
def f_X8_spare (b1 : Int32) (b2 : Int32) (σ : gj_S) : Option Int32 := ((f_X1_hasDock 17 b1 σ).bind fun x1 => (if x1 = 0 then some (-1 : Int32) else (if b2 = 0 then ((f_X7_leastRoomUp 16 b1 (1 : Int32) σ).bind fun x3 => some x3) else ((f_X7_leastRoomUp 16 b1 (0 : Int32) σ).bind fun x2 => some x2))))
set_option maxHeartbeats 4000000 in
set_option maxRecDepth 100000 in
theorem m_X8_spare {E : gj_E} {σ : gj_S} {b1 : Int32} {b2 : Int32}  {x : Int32} (hf : f_X8_spare b1 b2 σ = some x) : gj_M E yX8_spare cX8_spare 3 (some .int) 3 70 [gj_r 0, gj_i b1, gj_i b2] σ (some (gj_i x)) σ := by
  refine gj_body (lv := [(0, gj_r 0), (1, gj_i b1), (2, gj_i b2)]) (by decide +kernel) (Nat.le_of_ble_eq_true rfl) rfl (fun X hO => ?_)
  replace hO : gj_O E X RX8 cX8_spare 3 (some .int) 3 70 := hO
  unfold f_X8_spare at hf
  refine gj_aload_n hO 0 dX8_spare_0 rfl rfl ?_
  refine gt_X8_4 hO wk_185 dX8_spare_1 ?_
  refine gt_X7_0 hO kd_16 kl_16 wk_186 dX8_spare_4 ?_
  refine gj_iload_n hO 1 dX8_spare_7 rfl rfl ?_
  obtain ⟨x1, hc1, hf⟩ := gj_b hf
  refine ca_X1_hasDock hO isP_17 hc1 wk_217 (by decide) (by decide) (Nat.le_of_ble_eq_true rfl) dX8_spare_8 ?_
  refine gj_if_ne (tgt := 16) hO dX8_spare_11 (by decide) (fun h => ?_) (fun h => ?_)
  · replace hf := gj_f h hf
    refine gj_aload_n hO 0 dX8_spare_16 rfl rfl ?_
    refine gt_X8_4 hO wk_185 dX8_spare_17 ?_
    refine gj_iload_n hO 1 dX8_spare_20 rfl rfl ?_
    refine gj_iload_n hO 2 dX8_spare_21 rfl rfl ?_
    refine gj_if_ne (tgt := 29) hO dX8_spare_22 (by decide) (fun h => ?_) (fun h => ?_)
    · replace hf := gj_f h hf
      refine gj_iconst (v := 0) hO dX8_spare_29 (by decide) ?_
      obtain ⟨x2, hc2, hf⟩ := gj_b hf
      refine ca_X7_leastRoomUp hO isY_16 hc2 wk_557 (by decide) (by decide) (Nat.le_of_ble_eq_true rfl) dX8_spare_30 ?_
      obtain rfl := Option.some.inj hf
      exact gj_iret hO dX8_spare_33
    · replace hf := gj_t h hf
      refine gj_iconst (v := 1) hO dX8_spare_25 (by decide) ?_
      refine gj_goto (tgt := 30) hO dX8_spare_26 (by decide) ?_
      obtain ⟨x3, hc3, hf⟩ := gj_b hf
      refine ca_X7_leastRoomUp hO isY_16 hc3 wk_557 (by decide) (by decide) (Nat.le_of_ble_eq_true rfl) dX8_spare_30 ?_
      obtain rfl := Option.some.inj hf
      exact gj_iret hO dX8_spare_33
  · replace hf := gj_t h hf
    refine gj_iconst (v := (-1)) hO dX8_spare_14 (by decide) ?_
    obtain rfl := Option.some.inj hf
    exact gj_iret hO dX8_spare_15
set_option maxHeartbeats 4000000 in
set_option maxRecDepth 100000 in
theorem ca_X8_spare {E : gj_E} {X : gj_X} {own : String} {cc : ByteArray} {nL : Nat} {rt : Option FieldType} {fr lo : Nat} {ce sl : Nat} {Q : State → Prop} {pc : Nat} {lv : List (Nat × gj_V)} {st : List gj_V} {σ : gj_S} (hO : gj_O E X own cc nL rt fr lo) {b1 : Int32} {b2 : Int32}  {idx : Nat} {x : Int32} (hf : f_X8_spare b1 b2 σ = some x) (hl : Cond.methodLink own idx yX8_spare ∈ gj_gw) (hf1 : 4 ≤ fr) (hf2 : 92 ≤ lo) (hcat : ((st.map (gj_tv E.2.1)).map fun v => v.category).sum ≤ 8) (hd : decode cc pc = .ok (.invokevirtual idx, 3)) (k : gj_H E X nL ce sl Q (pc + 3) lv ((gj_i x) :: st) σ) : gj_H E X nL ce sl Q pc lv (gj_i b2 :: gj_i b1 :: gj_r 0 :: st) σ :=
  gj_callV hO (o := 0) (vs := [gj_i b1, gj_i b2]) (m_X8_spare  hf) (gj_Iany (by decide)) hl wk_558 wk_559 wk_4 wk_560 kl_0 kd_0 (by decide) (ci := 8) rfl (n := 2) (by decide +kernel) rfl hf1 hf2 rfl hcat hd k
def f_X8_toll (b1 : Int32) (b2 : Int32) (σ : gj_S) : Option (Int32 × gj_S) := ((f_X1_hasRoute 17 b1 σ).bind fun x1 => (if x1 = 0 then some ((-1 : Int32), σ) else (if b2 < 0 then some ((-1 : Int32), σ) else (if (999 : Int32) < b2 then some ((-1 : Int32), σ) else (if gj_in b1 24 then (if b2 = (σ.1 21 (Int32.toNatClampNeg b1)) then some ((-1 : Int32), σ) else ((f_X0_remember σ).bind fun x3 => (if gj_in b1 24 then (if gj_in b1 24 then ((f_X7_regrow 16 (gj_sI x3 21 (upd (x3.1 21) (Int32.toNatClampNeg b1) b2))).bind fun x6 => some ((x3.1 21 (Int32.toNatClampNeg b1)), x6)) else none) else none))) else none)))))
set_option maxHeartbeats 4000000 in
set_option maxRecDepth 100000 in
theorem m_X8_toll {E : gj_E} {σ : gj_S} {b1 : Int32} {b2 : Int32}  {x : Int32} {y : gj_S} (hf : f_X8_toll b1 b2 σ = some (x, y)) : gj_M E yX8_toll cX8_toll 5 (some .int) 4 162 [gj_r 0, gj_i b1, gj_i b2] σ (some (gj_i x)) y := by
  refine gj_body (lv := [(0, gj_r 0), (1, gj_i b1), (2, gj_i b2)]) (by decide +kernel) (Nat.le_of_ble_eq_true rfl) rfl (fun X hO => ?_)
  replace hO : gj_O E X RX8 cX8_toll 5 (some .int) 4 162 := hO
  unfold f_X8_toll at hf
  refine gj_aload_n hO 0 dX8_toll_0 rfl rfl ?_
  refine gt_X8_4 hO wk_185 dX8_toll_1 ?_
  refine gt_X7_0 hO kd_16 kl_16 wk_186 dX8_toll_4 ?_
  refine gj_astore_n (lv2 := [(3, gj_r 17), (0, gj_r 0), (1, gj_i b1), (2, gj_i b2)]) hO dX8_toll_7 rfl (by decide) rfl ?_
  refine gj_aload_n hO 0 dX8_toll_8 rfl rfl ?_
  refine gj_iload_n hO 2 dX8_toll_9 rfl rfl ?_
  obtain ⟨x1, hc1, hf⟩ := gj_b hf
  refine ca_X1_hasRoute hO isP_17 hc1 wk_247 (by decide) (by decide) (Nat.le_of_ble_eq_true rfl) dX8_toll_10 ?_
  refine gj_if_eq (tgt := 37) hO dX8_toll_13 (by decide) (fun h => ?_) (fun h => ?_)
  · replace hf := gj_t h hf
    refine gj_iconst (v := (-1)) hO dX8_toll_37 (by decide) ?_
    replace hf := Option.some.inj hf
    simp only [Prod.mk.injEq] at hf
    obtain ⟨rfl, rfl⟩ := hf
    exact gj_iret hO dX8_toll_38
  · replace hf := gj_f h hf
    refine gj_iload_n hO 3 dX8_toll_16 rfl rfl ?_
    refine gj_if_lt (tgt := 37) hO dX8_toll_17 (by decide) (fun h => ?_) (fun h => ?_)
    · replace hf := gj_t h hf
      refine gj_iconst (v := (-1)) hO dX8_toll_37 (by decide) ?_
      replace hf := Option.some.inj hf
      simp only [Prod.mk.injEq] at hf
      obtain ⟨rfl, rfl⟩ := hf
      exact gj_iret hO dX8_toll_38
    · replace hf := gj_f h hf
      refine gj_iload_n hO 3 dX8_toll_20 rfl rfl ?_
      refine gj_sipush (v := 999) hO dX8_toll_21 (by decide) ?_
      refine gj_icmp_gt (tgt := 37) hO dX8_toll_24 (by decide) (fun h => ?_) (fun h => ?_)
      · replace hf := gj_t h hf
        refine gj_iconst (v := (-1)) hO dX8_toll_37 (by decide) ?_
        replace hf := Option.some.inj hf
        simp only [Prod.mk.injEq] at hf
        obtain ⟨rfl, rfl⟩ := hf
        exact gj_iret hO dX8_toll_38
      · replace hf := gj_f h hf
        refine gj_iload_n hO 3 dX8_toll_27 rfl rfl ?_
        refine gj_aload_n hO 0 dX8_toll_28 rfl rfl ?_
        refine gt_X1_8 hO kd_17 kl_17 wk_246 dX8_toll_29 ?_
        refine gj_iload_n hO 2 dX8_toll_32 rfl rfl ?_
        obtain ⟨hb2, hf⟩ := gj_c hf
        refine gj_iald hO kl_21 kd_21 hb2 dX8_toll_33 ?_
        refine gj_icmp_ne (tgt := 39) hO dX8_toll_34 (by decide) (fun h => ?_) (fun h => ?_)
        · replace hf := gj_f h hf
          refine gj_aload_n hO 1 dX8_toll_39 rfl rfl ?_
          refine gt_X8_6 hO wk_193 dX8_toll_40 ?_
          refine gj_aload_n hO 0 dX8_toll_43 rfl rfl ?_
          obtain ⟨x3, hc3, hf⟩ := gj_b hf
          refine ca_X0_remember hO  hc3 wk_399 (by decide) (by decide) (Nat.le_of_ble_eq_true rfl) dX8_toll_44 ?_
          refine gj_aload_n hO 0 dX8_toll_47 rfl rfl ?_
          refine gt_X1_8 hO kd_17 kl_17 wk_246 dX8_toll_48 ?_
          refine gj_iload_n hO 2 dX8_toll_51 rfl rfl ?_
          obtain ⟨hb4, hf⟩ := gj_c hf
          refine gj_iald hO kl_21 kd_21 hb4 dX8_toll_52 ?_
          refine gj_istore (lv2 := [(4, gj_i (x3.1 21 (Int32.toNatClampNeg b1))), (3, gj_r 17), (0, gj_r 0), (1, gj_i b1), (2, gj_i b2)]) hO dX8_toll_53 (by decide) rfl ?_
          refine gj_aload_n hO 1 dX8_toll_55 rfl rfl ?_
          refine gt_X1_8 hO kd_17 kl_17 wk_246 dX8_toll_56 ?_
          refine gj_iload_n hO 3 dX8_toll_59 rfl rfl ?_
          refine gj_iload_n hO 4 dX8_toll_60 rfl rfl ?_
          obtain ⟨hb5, hf⟩ := gj_c hf
          refine gj_iast hO kl_21 kd_21 hb5 dX8_toll_61 ?_
          refine gj_aload_n hO 2 dX8_toll_62 rfl rfl ?_
          refine gt_X8_4 hO wk_185 dX8_toll_63 ?_
          obtain ⟨x6, hc6, hf⟩ := gj_b hf
          refine ca_X7_regrow hO isY_16 hc6 wk_561 (by decide) (by decide) (Nat.le_of_ble_eq_true rfl) dX8_toll_66 ?_
          refine gj_iload hO 0 dX8_toll_69 rfl ?_
          replace hf := Option.some.inj hf
          simp only [Prod.mk.injEq] at hf
          obtain ⟨rfl, rfl⟩ := hf
          exact gj_iret hO dX8_toll_71
        · replace hf := gj_t h hf
          refine gj_iconst (v := (-1)) hO dX8_toll_37 (by decide) ?_
          replace hf := Option.some.inj hf
          simp only [Prod.mk.injEq] at hf
          obtain ⟨rfl, rfl⟩ := hf
          exact gj_iret hO dX8_toll_38
set_option maxHeartbeats 4000000 in
set_option maxRecDepth 100000 in
theorem ca_X8_toll {E : gj_E} {X : gj_X} {own : String} {cc : ByteArray} {nL : Nat} {rt : Option FieldType} {fr lo : Nat} {ce sl : Nat} {Q : State → Prop} {pc : Nat} {lv : List (Nat × gj_V)} {st : List gj_V} {σ : gj_S} (hO : gj_O E X own cc nL rt fr lo) {b1 : Int32} {b2 : Int32}  {idx : Nat} {x : Int32} {y : gj_S} (hf : f_X8_toll b1 b2 σ = some (x, y)) (hl : Cond.methodLink own idx yX8_toll ∈ gj_gw) (hf1 : 5 ≤ fr) (hf2 : 186 ≤ lo) (hcat : ((st.map (gj_tv E.2.1)).map fun v => v.category).sum ≤ 8) (hd : decode cc pc = .ok (.invokevirtual idx, 3)) (k : gj_H E X nL ce sl Q (pc + 3) lv ((gj_i x) :: st) y) : gj_H E X nL ce sl Q pc lv (gj_i b2 :: gj_i b1 :: gj_r 0 :: st) σ :=
  gj_callV hO (o := 0) (vs := [gj_i b1, gj_i b2]) (m_X8_toll  hf) (gj_Iany (by decide)) hl wk_562 wk_563 wk_4 wk_564 kl_0 kd_0 (by decide) (ci := 8) rfl (n := 2) (by decide +kernel) rfl hf1 hf2 rfl hcat hd k
def f_X8_hold (b1 : Int32) (b2 : Int32) (σ : gj_S) : Option (Int32 × gj_S) := ((f_X1_hasRoute 17 b1 σ).bind fun x1 => (if x1 = 0 then some ((-1 : Int32), σ) else (if b2 < (1 : Int32) then some ((-1 : Int32), σ) else (if (999 : Int32) < b2 then some ((-1 : Int32), σ) else (if gj_in b1 24 then (if b2 = (σ.1 22 (Int32.toNatClampNeg b1)) then some ((-1 : Int32), σ) else (if gj_in b1 24 then (if (σ.1 24 (Int32.toNatClampNeg b1)) = (2 : Int32) then some ((-2 : Int32), σ) else (if gj_in b1 24 then (if (σ.1 23 (Int32.toNatClampNeg b1)) ≤ b2 then ((f_X0_remember σ).bind fun x5 => (if gj_in b1 24 then (if gj_in b1 24 then some ((x5.1 22 (Int32.toNatClampNeg b1)), (gj_sI x5 22 (upd (x5.1 22) (Int32.toNatClampNeg b1) b2))) else none) else none)) else some ((-2 : Int32), σ)) else none)) else none)) else none)))))
set_option maxHeartbeats 4000000 in
set_option maxRecDepth 100000 in
theorem m_X8_hold {E : gj_E} {σ : gj_S} {b1 : Int32} {b2 : Int32}  {x : Int32} {y : gj_S} (hf : f_X8_hold b1 b2 σ = some (x, y)) : gj_M E yX8_hold cX8_hold 5 (some .int) 3 162 [gj_r 0, gj_i b1, gj_i b2] σ (some (gj_i x)) y := by
  refine gj_body (lv := [(0, gj_r 0), (1, gj_i b1), (2, gj_i b2)]) (by decide +kernel) (Nat.le_of_ble_eq_true rfl) rfl (fun X hO => ?_)
  replace hO : gj_O E X RX8 cX8_hold 5 (some .int) 3 162 := hO
  unfold f_X8_hold at hf
  refine gj_aload_n hO 0 dX8_hold_0 rfl rfl ?_
  refine gt_X8_4 hO wk_185 dX8_hold_1 ?_
  refine gt_X7_0 hO kd_16 kl_16 wk_186 dX8_hold_4 ?_
  refine gj_astore_n (lv2 := [(3, gj_r 17), (0, gj_r 0), (1, gj_i b1), (2, gj_i b2)]) hO dX8_hold_7 rfl (by decide) rfl ?_
  refine gj_aload_n hO 0 dX8_hold_8 rfl rfl ?_
  refine gj_iload_n hO 2 dX8_hold_9 rfl rfl ?_
  obtain ⟨x1, hc1, hf⟩ := gj_b hf
  refine ca_X1_hasRoute hO isP_17 hc1 wk_247 (by decide) (by decide) (Nat.le_of_ble_eq_true rfl) dX8_hold_10 ?_
  refine gj_if_eq (tgt := 38) hO dX8_hold_13 (by decide) (fun h => ?_) (fun h => ?_)
  · replace hf := gj_t h hf
    refine gj_iconst (v := (-1)) hO dX8_hold_38 (by decide) ?_
    replace hf := Option.some.inj hf
    simp only [Prod.mk.injEq] at hf
    obtain ⟨rfl, rfl⟩ := hf
    exact gj_iret hO dX8_hold_39
  · replace hf := gj_f h hf
    refine gj_iload_n hO 3 dX8_hold_16 rfl rfl ?_
    refine gj_iconst (v := 1) hO dX8_hold_17 (by decide) ?_
    refine gj_icmp_lt (tgt := 38) hO dX8_hold_18 (by decide) (fun h => ?_) (fun h => ?_)
    · replace hf := gj_t h hf
      refine gj_iconst (v := (-1)) hO dX8_hold_38 (by decide) ?_
      replace hf := Option.some.inj hf
      simp only [Prod.mk.injEq] at hf
      obtain ⟨rfl, rfl⟩ := hf
      exact gj_iret hO dX8_hold_39
    · replace hf := gj_f h hf
      refine gj_iload_n hO 3 dX8_hold_21 rfl rfl ?_
      refine gj_sipush (v := 999) hO dX8_hold_22 (by decide) ?_
      refine gj_icmp_gt (tgt := 38) hO dX8_hold_25 (by decide) (fun h => ?_) (fun h => ?_)
      · replace hf := gj_t h hf
        refine gj_iconst (v := (-1)) hO dX8_hold_38 (by decide) ?_
        replace hf := Option.some.inj hf
        simp only [Prod.mk.injEq] at hf
        obtain ⟨rfl, rfl⟩ := hf
        exact gj_iret hO dX8_hold_39
      · replace hf := gj_f h hf
        refine gj_iload_n hO 3 dX8_hold_28 rfl rfl ?_
        refine gj_aload_n hO 0 dX8_hold_29 rfl rfl ?_
        refine gt_X1_9 hO kd_17 kl_17 wk_248 dX8_hold_30 ?_
        refine gj_iload_n hO 2 dX8_hold_33 rfl rfl ?_
        obtain ⟨hb2, hf⟩ := gj_c hf
        refine gj_iald hO kl_22 kd_22 hb2 dX8_hold_34 ?_
        refine gj_icmp_ne (tgt := 40) hO dX8_hold_35 (by decide) (fun h => ?_) (fun h => ?_)
        · replace hf := gj_f h hf
          refine gj_aload_n hO 0 dX8_hold_40 rfl rfl ?_
          refine gt_X1_11 hO kd_17 kl_17 wk_250 dX8_hold_41 ?_
          refine gj_iload_n hO 2 dX8_hold_44 rfl rfl ?_
          obtain ⟨hb3, hf⟩ := gj_c hf
          refine gj_iald hO kl_24 kd_24 hb3 dX8_hold_45 ?_
          refine gj_iconst (v := 2) hO dX8_hold_46 (by decide) ?_
          refine gj_icmp_eq (tgt := 60) hO dX8_hold_47 (by decide) (fun h => ?_) (fun h => ?_)
          · replace hf := gj_t h hf
            refine gj_bipush (v := (-2)) hO dX8_hold_60 (by decide) ?_
            replace hf := Option.some.inj hf
            simp only [Prod.mk.injEq] at hf
            obtain ⟨rfl, rfl⟩ := hf
            exact gj_iret hO dX8_hold_62
          · replace hf := gj_f h hf
            refine gj_aload_n hO 0 dX8_hold_50 rfl rfl ?_
            refine gt_X1_10 hO kd_17 kl_17 wk_249 dX8_hold_51 ?_
            refine gj_iload_n hO 2 dX8_hold_54 rfl rfl ?_
            obtain ⟨hb4, hf⟩ := gj_c hf
            refine gj_iald hO kl_23 kd_23 hb4 dX8_hold_55 ?_
            refine gj_iload_n hO 3 dX8_hold_56 rfl rfl ?_
            refine gj_icmp_le (tgt := 63) hO dX8_hold_57 (by decide) (fun h => ?_) (fun h => ?_)
            · replace hf := gj_t h hf
              refine gj_aload_n hO 1 dX8_hold_63 rfl rfl ?_
              refine gt_X8_6 hO wk_193 dX8_hold_64 ?_
              refine gj_aload_n hO 0 dX8_hold_67 rfl rfl ?_
              obtain ⟨x5, hc5, hf⟩ := gj_b hf
              refine ca_X0_remember hO  hc5 wk_399 (by decide) (by decide) (Nat.le_of_ble_eq_true rfl) dX8_hold_68 ?_
              refine gj_aload_n hO 0 dX8_hold_71 rfl rfl ?_
              refine gt_X1_9 hO kd_17 kl_17 wk_248 dX8_hold_72 ?_
              refine gj_iload_n hO 2 dX8_hold_75 rfl rfl ?_
              obtain ⟨hb6, hf⟩ := gj_c hf
              refine gj_iald hO kl_22 kd_22 hb6 dX8_hold_76 ?_
              refine gj_istore (lv2 := [(4, gj_i (x5.1 22 (Int32.toNatClampNeg b1))), (3, gj_r 17), (0, gj_r 0), (1, gj_i b1), (2, gj_i b2)]) hO dX8_hold_77 (by decide) rfl ?_
              refine gj_aload_n hO 1 dX8_hold_79 rfl rfl ?_
              refine gt_X1_9 hO kd_17 kl_17 wk_248 dX8_hold_80 ?_
              refine gj_iload_n hO 3 dX8_hold_83 rfl rfl ?_
              refine gj_iload_n hO 4 dX8_hold_84 rfl rfl ?_
              obtain ⟨hb7, hf⟩ := gj_c hf
              refine gj_iast hO kl_22 kd_22 hb7 dX8_hold_85 ?_
              refine gj_iload hO 0 dX8_hold_86 rfl ?_
              replace hf := Option.some.inj hf
              simp only [Prod.mk.injEq] at hf
              obtain ⟨rfl, rfl⟩ := hf
              exact gj_iret hO dX8_hold_88
            · replace hf := gj_f h hf
              refine gj_bipush (v := (-2)) hO dX8_hold_60 (by decide) ?_
              replace hf := Option.some.inj hf
              simp only [Prod.mk.injEq] at hf
              obtain ⟨rfl, rfl⟩ := hf
              exact gj_iret hO dX8_hold_62
        · replace hf := gj_t h hf
          refine gj_iconst (v := (-1)) hO dX8_hold_38 (by decide) ?_
          replace hf := Option.some.inj hf
          simp only [Prod.mk.injEq] at hf
          obtain ⟨rfl, rfl⟩ := hf
          exact gj_iret hO dX8_hold_39
set_option maxHeartbeats 4000000 in
set_option maxRecDepth 100000 in
theorem ca_X8_hold {E : gj_E} {X : gj_X} {own : String} {cc : ByteArray} {nL : Nat} {rt : Option FieldType} {fr lo : Nat} {ce sl : Nat} {Q : State → Prop} {pc : Nat} {lv : List (Nat × gj_V)} {st : List gj_V} {σ : gj_S} (hO : gj_O E X own cc nL rt fr lo) {b1 : Int32} {b2 : Int32}  {idx : Nat} {x : Int32} {y : gj_S} (hf : f_X8_hold b1 b2 σ = some (x, y)) (hl : Cond.methodLink own idx yX8_hold ∈ gj_gw) (hf1 : 4 ≤ fr) (hf2 : 186 ≤ lo) (hcat : ((st.map (gj_tv E.2.1)).map fun v => v.category).sum ≤ 8) (hd : decode cc pc = .ok (.invokevirtual idx, 3)) (k : gj_H E X nL ce sl Q (pc + 3) lv ((gj_i x) :: st) y) : gj_H E X nL ce sl Q pc lv (gj_i b2 :: gj_i b1 :: gj_r 0 :: st) σ :=
  gj_callV hO (o := 0) (vs := [gj_i b1, gj_i b2]) (m_X8_hold  hf) (gj_Iany (by decide)) hl wk_565 wk_566 wk_4 wk_567 kl_0 kd_0 (by decide) (ci := 8) rfl (n := 2) (by decide +kernel) rfl hf1 hf2 rfl hcat hd k
def f_X8_block (b1 : Int32) (σ : gj_S) : Option (Int32 × gj_S) := (if b1 < (1 : Int32) then some ((-1 : Int32), σ) else (if (24 : Int32) < b1 then some ((-1 : Int32), σ) else (if b1 = (σ.1 17 2) then some ((-1 : Int32), σ) else ((f_X0_remember σ).bind fun x1 => some ((x1.1 17 2), (gj_sI x1 17 (upd (x1.1 17) 2 b1)))))))
set_option maxHeartbeats 4000000 in
set_option maxRecDepth 100000 in
theorem m_X8_block {E : gj_E} {σ : gj_S} {b1 : Int32}  {x : Int32} {y : gj_S} (hf : f_X8_block b1 σ = some (x, y)) : gj_M E yX8_block cX8_block 4 (some .int) 3 162 [gj_r 0, gj_i b1] σ (some (gj_i x)) y := by
  refine gj_body (lv := [(0, gj_r 0), (1, gj_i b1)]) (by decide +kernel) (Nat.le_of_ble_eq_true rfl) rfl (fun X hO => ?_)
  replace hO : gj_O E X RX8 cX8_block 4 (some .int) 3 162 := hO
  unfold f_X8_block at hf
  refine gj_aload_n hO 0 dX8_block_0 rfl rfl ?_
  refine gt_X8_4 hO wk_185 dX8_block_1 ?_
  refine gt_X7_0 hO kd_16 kl_16 wk_186 dX8_block_4 ?_
  refine gj_astore_n (lv2 := [(2, gj_r 17), (0, gj_r 0), (1, gj_i b1)]) hO dX8_block_7 rfl (by decide) rfl ?_
  refine gj_iload_n hO 2 dX8_block_8 rfl rfl ?_
  refine gj_iconst (v := 1) hO dX8_block_9 (by decide) ?_
  refine gj_icmp_lt (tgt := 27) hO dX8_block_10 (by decide) (fun h => ?_) (fun h => ?_)
  · replace hf := gj_t h hf
    refine gj_iconst (v := (-1)) hO dX8_block_27 (by decide) ?_
    replace hf := Option.some.inj hf
    simp only [Prod.mk.injEq] at hf
    obtain ⟨rfl, rfl⟩ := hf
    exact gj_iret hO dX8_block_28
  · replace hf := gj_f h hf
    refine gj_iload_n hO 2 dX8_block_13 rfl rfl ?_
    refine gj_bipush (v := 24) hO dX8_block_14 (by decide) ?_
    refine gj_icmp_gt (tgt := 27) hO dX8_block_16 (by decide) (fun h => ?_) (fun h => ?_)
    · replace hf := gj_t h hf
      refine gj_iconst (v := (-1)) hO dX8_block_27 (by decide) ?_
      replace hf := Option.some.inj hf
      simp only [Prod.mk.injEq] at hf
      obtain ⟨rfl, rfl⟩ := hf
      exact gj_iret hO dX8_block_28
    · replace hf := gj_f h hf
      refine gj_iload_n hO 2 dX8_block_19 rfl rfl ?_
      refine gj_aload_n hO 0 dX8_block_20 rfl rfl ?_
      refine gt_X1_2 hO kd_17 kl_17 wk_568 dX8_block_21 ?_
      refine gj_icmp_ne (tgt := 29) hO dX8_block_24 (by decide) (fun h => ?_) (fun h => ?_)
      · replace hf := gj_f h hf
        refine gj_aload_n hO 1 dX8_block_29 rfl rfl ?_
        refine gt_X8_6 hO wk_193 dX8_block_30 ?_
        refine gj_aload_n hO 0 dX8_block_33 rfl rfl ?_
        obtain ⟨x1, hc1, hf⟩ := gj_b hf
        refine ca_X0_remember hO  hc1 wk_399 (by decide) (by decide) (Nat.le_of_ble_eq_true rfl) dX8_block_34 ?_
        refine gj_aload_n hO 0 dX8_block_37 rfl rfl ?_
        refine gt_X1_2 hO kd_17 kl_17 wk_568 dX8_block_38 ?_
        refine gj_istore_n (lv2 := [(3, gj_i (x1.1 17 2)), (2, gj_r 17), (0, gj_r 0), (1, gj_i b1)]) hO dX8_block_41 rfl (by decide) rfl ?_
        refine gj_aload_n hO 1 dX8_block_42 rfl rfl ?_
        refine gj_iload_n hO 3 dX8_block_43 rfl rfl ?_
        refine pt_X1_2 hO kd_17 kl_17 wk_568 dX8_block_44 ?_
        refine gj_iload_n hO 0 dX8_block_47 rfl rfl ?_
        replace hf := Option.some.inj hf
        simp only [Prod.mk.injEq] at hf
        obtain ⟨rfl, rfl⟩ := hf
        exact gj_iret hO dX8_block_48
      · replace hf := gj_t h hf
        refine gj_iconst (v := (-1)) hO dX8_block_27 (by decide) ?_
        replace hf := Option.some.inj hf
        simp only [Prod.mk.injEq] at hf
        obtain ⟨rfl, rfl⟩ := hf
        exact gj_iret hO dX8_block_28
set_option maxHeartbeats 4000000 in
set_option maxRecDepth 100000 in
theorem ca_X8_block {E : gj_E} {X : gj_X} {own : String} {cc : ByteArray} {nL : Nat} {rt : Option FieldType} {fr lo : Nat} {ce sl : Nat} {Q : State → Prop} {pc : Nat} {lv : List (Nat × gj_V)} {st : List gj_V} {σ : gj_S} (hO : gj_O E X own cc nL rt fr lo) {b1 : Int32}  {idx : Nat} {x : Int32} {y : gj_S} (hf : f_X8_block b1 σ = some (x, y)) (hl : Cond.methodLink own idx yX8_block ∈ gj_gw) (hf1 : 4 ≤ fr) (hf2 : 185 ≤ lo) (hcat : ((st.map (gj_tv E.2.1)).map fun v => v.category).sum ≤ 8) (hd : decode cc pc = .ok (.invokevirtual idx, 3)) (k : gj_H E X nL ce sl Q (pc + 3) lv ((gj_i x) :: st) y) : gj_H E X nL ce sl Q pc lv (gj_i b1 :: gj_r 0 :: st) σ :=
  gj_callV hO (o := 0) (vs := [gj_i b1]) (m_X8_block  hf) (gj_Iany (by decide)) hl wk_569 wk_570 wk_4 wk_571 kl_0 kd_0 (by decide) (ci := 8) rfl (n := 1) (by decide +kernel) rfl hf1 hf2 rfl hcat hd k
def f_X8_anew  (σ : gj_S) : Option (Int32 × gj_S) := ((f_X0_remember σ).bind fun x1 => ((f_X7_beginAll 16 x1).bind fun x2 => some ((x1.1 17 4), x2)))
set_option maxHeartbeats 4000000 in
set_option maxRecDepth 100000 in
theorem m_X8_anew {E : gj_E} {σ : gj_S}   {x : Int32} {y : gj_S} (hf : f_X8_anew  σ = some (x, y)) : gj_M E yX8_anew cX8_anew 2 (some .int) 5 162 [gj_r 0] σ (some (gj_i x)) y := by
  refine gj_body (lv := [(0, gj_r 0)]) (by decide +kernel) (Nat.le_of_ble_eq_true rfl) rfl (fun X hO => ?_)
  replace hO : gj_O E X RX8 cX8_anew 2 (some .int) 5 162 := hO
  unfold f_X8_anew at hf
  refine gj_aload_n hO 0 dX8_anew_0 rfl rfl ?_
  refine gt_X8_6 hO wk_193 dX8_anew_1 ?_
  refine gj_aload_n hO 0 dX8_anew_4 rfl rfl ?_
  refine gt_X8_4 hO wk_185 dX8_anew_5 ?_
  refine gt_X7_0 hO kd_16 kl_16 wk_186 dX8_anew_8 ?_
  obtain ⟨x1, hc1, hf⟩ := gj_b hf
  refine ca_X0_remember hO  hc1 wk_399 (by decide) (by decide) (Nat.le_of_ble_eq_true rfl) dX8_anew_11 ?_
  refine gj_aload_n hO 0 dX8_anew_14 rfl rfl ?_
  refine gt_X8_4 hO wk_185 dX8_anew_15 ?_
  refine gt_X7_0 hO kd_16 kl_16 wk_186 dX8_anew_18 ?_
  refine gt_X1_4 hO kd_17 kl_17 wk_572 dX8_anew_21 ?_
  refine gj_istore_n (lv2 := [(1, gj_i (x1.1 17 4)), (0, gj_r 0)]) hO dX8_anew_24 rfl (by decide) rfl ?_
  refine gj_aload_n hO 1 dX8_anew_25 rfl rfl ?_
  refine gt_X8_4 hO wk_185 dX8_anew_26 ?_
  obtain ⟨x2, hc2, hf⟩ := gj_b hf
  refine ca_X7_beginAll hO isY_16 hc2 wk_192 (by decide) (by decide) (Nat.le_of_ble_eq_true rfl) dX8_anew_29 ?_
  refine gj_iload_n hO 0 dX8_anew_32 rfl rfl ?_
  replace hf := Option.some.inj hf
  simp only [Prod.mk.injEq] at hf
  obtain ⟨rfl, rfl⟩ := hf
  exact gj_iret hO dX8_anew_33
set_option maxHeartbeats 4000000 in
set_option maxRecDepth 100000 in
theorem ca_X8_anew {E : gj_E} {X : gj_X} {own : String} {cc : ByteArray} {nL : Nat} {rt : Option FieldType} {fr lo : Nat} {ce sl : Nat} {Q : State → Prop} {pc : Nat} {lv : List (Nat × gj_V)} {st : List gj_V} {σ : gj_S} (hO : gj_O E X own cc nL rt fr lo)   {idx : Nat} {x : Int32} {y : gj_S} (hf : f_X8_anew  σ = some (x, y)) (hl : Cond.methodLink own idx yX8_anew ∈ gj_gw) (hf1 : 6 ≤ fr) (hf2 : 183 ≤ lo) (hcat : ((st.map (gj_tv E.2.1)).map fun v => v.category).sum ≤ 8) (hd : decode cc pc = .ok (.invokevirtual idx, 3)) (k : gj_H E X nL ce sl Q (pc + 3) lv ((gj_i x) :: st) y) : gj_H E X nL ce sl Q pc lv (gj_r 0 :: st) σ :=
  gj_callV hO (o := 0) (vs := []) (m_X8_anew  hf) (gj_Iany (by decide)) hl wk_573 wk_574 wk_4 wk_575 kl_0 kd_0 (by decide) (ci := 8) rfl (n := 0) (by decide +kernel) rfl hf1 hf2 rfl hcat hd k
def f_X4_put (b1 : Int32) (σ : gj_S) : Option gj_S := (if (192 : Int32) ≤ (σ.1 168 1) then some σ else (if gj_in (σ.1 168 1) 192 then ((some (gj_sI (gj_sI σ 169 (upd (σ.1 169) (Int32.toNatClampNeg (σ.1 168 1)) (vp_nar .byte (Int8.toInt32 (Int32.toInt8 b1))))) 168 (upd ((gj_sI σ 169 (upd (σ.1 169) (Int32.toNatClampNeg (σ.1 168 1)) (vp_nar .byte (Int8.toInt32 (Int32.toInt8 b1))))).1 168) 1 (((gj_sI σ 169 (upd (σ.1 169) (Int32.toNatClampNeg (σ.1 168 1)) (vp_nar .byte (Int8.toInt32 (Int32.toInt8 b1))))).1 168 1) + (1 : Int32))))).bind fun s2 => some s2) else none))
set_option maxHeartbeats 4000000 in
set_option maxRecDepth 100000 in
theorem m_X4_put {E : gj_E} {σ : gj_S} {b1 : Int32}  {x : gj_S} (hf : f_X4_put b1 σ = some x) : gj_M E yX4_put cX4_put 2 none 0 0 [gj_r 168, gj_i b1] σ none x := by
  refine gj_body (lv := [(0, gj_r 168), (1, gj_i b1)]) (by decide +kernel) (Nat.le_of_ble_eq_true rfl) rfl (fun X hO => ?_)
  replace hO : gj_O E X RX4 cX4_put 2 none 0 0 := hO
  unfold f_X4_put at hf
  refine gj_aload_n hO 0 dX4_put_0 rfl rfl ?_
  refine gt_X4_1 hO wk_576 dX4_put_1 ?_
  refine gj_sipush (v := 192) hO dX4_put_4 (by decide) ?_
  refine gj_icmp_ge (tgt := 31) hO dX4_put_7 (by decide) (fun h => ?_) (fun h => ?_)
  · replace hf := gj_t h hf
    obtain rfl := Option.some.inj hf
    exact gj_vret hO dX4_put_31
  · replace hf := gj_f h hf
    refine gj_aload_n hO 0 dX4_put_10 rfl rfl ?_
    refine gt_X4_0 hO wk_577 dX4_put_11 ?_
    refine gj_aload_n hO 0 dX4_put_14 rfl rfl ?_
    refine gt_X4_1 hO wk_576 dX4_put_15 ?_
    refine gj_iload_n hO 1 dX4_put_18 rfl rfl ?_
    refine gj_i2b hO dX4_put_19 ?_
    obtain ⟨hb1, hf⟩ := gj_c hf
    refine gj_bast hO kl_169 kd_169 hb1 dX4_put_20 ?_
    refine gj_aload_n hO 0 dX4_put_21 rfl rfl ?_
    refine gj_dup hO dX4_put_22 trivial ?_
    refine gt_X4_1 hO wk_576 dX4_put_23 ?_
    refine gj_iconst (v := 1) hO dX4_put_26 (by decide) ?_
    refine gj_iadd hO dX4_put_27 ?_
    refine pt_X4_1 hO wk_576 dX4_put_28 ?_
    obtain ⟨s2, e2, hf⟩ := gj_b hf
    refine gj_eqS (Option.some.inj e2) ?_
    obtain rfl := Option.some.inj hf
    exact gj_vret hO dX4_put_31
set_option maxHeartbeats 4000000 in
set_option maxRecDepth 100000 in
theorem ca_X4_put {E : gj_E} {X : gj_X} {own : String} {cc : ByteArray} {nL : Nat} {rt : Option FieldType} {fr lo : Nat} {ce sl : Nat} {Q : State → Prop} {pc : Nat} {lv : List (Nat × gj_V)} {st : List gj_V} {σ : gj_S} (hO : gj_O E X own cc nL rt fr lo) {b1 : Int32}  {idx : Nat} {x : gj_S} (hf : f_X4_put b1 σ = some x) (hl : Cond.methodLink own idx yX4_put ∈ gj_gw) (hf1 : 1 ≤ fr) (hf2 : 21 ≤ lo) (hcat : ((st.map (gj_tv E.2.1)).map fun v => v.category).sum ≤ 8) (hd : decode cc pc = .ok (.invokevirtual idx, 3)) (k : gj_H E X nL ce sl Q (pc + 3) lv (st) x) : gj_H E X nL ce sl Q pc lv (gj_i b1 :: gj_r 168 :: st) σ :=
  gj_callV hO (o := 168) (vs := [gj_i b1]) (m_X4_put  hf) (gj_Iany (by decide)) hl wk_578 wk_579 wk_580 wk_581 kl_168 kd_168 (by decide) (ci := 4) rfl (n := 1) (by decide +kernel) rfl hf1 hf2 rfl hcat hd k
def fb_X4_writeName_l3 (b1 : Int64) (a10003 : (Int32 × gj_S)) : Option (gj_S ⊕ (Int32 × gj_S)) := (if a10003.1 < 0 then some (.inl a10003.2) else (if ((Int64.toInt32 (b1 >>> (Int32.toInt64 a10003.1 &&& 63))) &&& (255 : Int32)) = 0 then some (.inr ((a10003.1 + (-8)), a10003.2)) else ((f_X4_put ((Int64.toInt32 (b1 >>> (Int32.toInt64 a10003.1 &&& 63))) &&& (255 : Int32)) a10003.2).bind fun x10301 => some (.inr ((a10003.1 + (-8)), x10301)))))
def f_X4_writeName (b1 : Int64) (σ : gj_S) : Option gj_S := ((gj_lp (fb_X4_writeName_l3 b1) 5000 ((40 : Int32), σ)).bind fun z1 => some z1)
set_option maxHeartbeats 4000000 in
set_option maxRecDepth 100000 in
theorem sb_X4_writeName_l3 {E : gj_E} {X : gj_X} {r : Option gj_V} {τ : gj_S} (hO : gj_O E X RX4 cX4_writeName 5 none 1 21) {b1 : Int64} {a10003_0 : Int32} {a10003_1 : gj_S} {x : gj_S ⊕ (Int32 × gj_S)} (hf : fb_X4_writeName_l3 b1 (a10003_0, a10003_1) = some x) (K : gj_K (fun z1 => gj_G E X 5 r τ 34 [] [] z1) (fun a10003 => gj_G E X 5 r τ 3 [(0, gj_r 168), (1, gj_l b1), (3, gj_i a10003.1)] [] a10003.2) x) : gj_G E X 5 r τ 3 [(0, gj_r 168), (1, gj_l b1), (3, gj_i a10003_0)] [] a10003_1 := by
  unfold fb_X4_writeName_l3 at hf
  dsimp only at hf
  refine gj_iload_n hO 2 dX4_writeName_3 rfl rfl ?_
  refine gj_if_lt (tgt := 34) hO dX4_writeName_4 (by decide) (fun h => ?_) (fun h => ?_)
  · replace hf := gj_t h hf
    obtain rfl := Option.some.inj hf
    refine gj_sub (lv2 := []) [] rfl ?_
    exact K
  · replace hf := gj_f h hf
    refine gj_lload_n hO 1 dX4_writeName_7 rfl rfl ?_
    refine gj_iload_n hO 2 dX4_writeName_8 rfl rfl ?_
    refine gj_lshr hO dX4_writeName_9 ?_
    refine gj_l2i hO dX4_writeName_10 ?_
    refine gj_sipush (v := 255) hO dX4_writeName_11 (by decide) ?_
    refine gj_iand hO dX4_writeName_14 ?_
    refine gj_istore (lv2 := [(4, gj_i ((Int64.toInt32 (b1 >>> (Int32.toInt64 a10003_0 &&& 63))) &&& (255 : Int32))), (0, gj_r 168), (1, gj_l b1), (3, gj_i a10003_0)]) hO dX4_writeName_15 (by decide) rfl ?_
    refine gj_iload hO 0 dX4_writeName_17 rfl ?_
    refine gj_if_eq (tgt := 28) hO dX4_writeName_19 (by decide) (fun h => ?_) (fun h => ?_)
    · replace hf := gj_t h hf
      refine gj_iinc (v := (a10003_0 + (-8))) (lv2 := [(3, gj_i (a10003_0 + (-8))), (4, gj_i ((Int64.toInt32 (b1 >>> (Int32.toInt64 a10003_0 &&& 63))) &&& (255 : Int32))), (0, gj_r 168), (1, gj_l b1)]) hO 3 dX4_writeName_28 rfl rfl (by decide) rfl ?_
      refine gj_goto (tgt := 3) hO dX4_writeName_31 (by decide) ?_
      obtain rfl := Option.some.inj hf
      refine gj_sub (lv2 := [(0, gj_r 168), (1, gj_l b1), (3, gj_i (a10003_0 + (-8)))]) [2, 3, 0] rfl ?_
      exact K
    · replace hf := gj_f h hf
      refine gj_aload_n hO 1 dX4_writeName_22 rfl rfl ?_
      refine gj_iload hO 0 dX4_writeName_23 rfl ?_
      obtain ⟨x10301, hc10301, hf⟩ := gj_b hf
      refine ca_X4_put hO  hc10301 wk_582 (by decide) (by decide) (Nat.le_of_ble_eq_true rfl) dX4_writeName_25 ?_
      refine gj_iinc (v := (a10003_0 + (-8))) (lv2 := [(3, gj_i (a10003_0 + (-8))), (4, gj_i ((Int64.toInt32 (b1 >>> (Int32.toInt64 a10003_0 &&& 63))) &&& (255 : Int32))), (0, gj_r 168), (1, gj_l b1)]) hO 3 dX4_writeName_28 rfl rfl (by decide) rfl ?_
      refine gj_goto (tgt := 3) hO dX4_writeName_31 (by decide) ?_
      obtain rfl := Option.some.inj hf
      refine gj_sub (lv2 := [(0, gj_r 168), (1, gj_l b1), (3, gj_i (a10003_0 + (-8)))]) [2, 3, 0] rfl ?_
      exact K
set_option maxHeartbeats 4000000 in
set_option maxRecDepth 100000 in
theorem m_X4_writeName {E : gj_E} {σ : gj_S} {b1 : Int64}  {x : gj_S} (hf : f_X4_writeName b1 σ = some x) : gj_M E yX4_writeName cX4_writeName 5 none 1 21 [gj_r 168, gj_l b1] σ none x := by
  refine gj_body (lv := [(0, gj_r 168), (1, gj_l b1)]) (by decide +kernel) (Nat.le_of_ble_eq_true rfl) rfl (fun X hO => ?_)
  replace hO : gj_O E X RX4 cX4_writeName 5 none 1 21 := hO
  unfold f_X4_writeName at hf
  refine gj_bipush (v := 40) hO dX4_writeName_0 (by decide) ?_
  refine gj_istore_n (lv2 := [(3, gj_i (40 : Int32)), (0, gj_r 168), (1, gj_l b1)]) hO dX4_writeName_2 rfl (by decide) rfl ?_
  obtain ⟨z1, hz1, hf⟩ := gj_b hf
  have J1 : gj_G E X 5 none x 34 [] [] z1 := by
    obtain rfl := Option.some.inj hf
    exact gj_vret hO dX4_writeName_34
  refine gj_sub (lv2 := [(0, gj_r 168), (1, gj_l b1), (3, gj_i (40 : Int32))]) [1, 2, 0] rfl ?_
  exact gj_loop (head := fun a10003 => gj_G E X 5 none x 3 [(0, gj_r 168), (1, gj_l b1), (3, gj_i a10003.1)] [] a10003.2) (exit := fun z1 => gj_G E X 5 none x 34 [] [] z1) (fun a10003 x hf K => by obtain ⟨a10003_0, a10003_1⟩ := a10003; exact sb_X4_writeName_l3 hO hf K) _ _ _ hz1 J1
set_option maxHeartbeats 4000000 in
set_option maxRecDepth 100000 in
theorem ca_X4_writeName {E : gj_E} {X : gj_X} {own : String} {cc : ByteArray} {nL : Nat} {rt : Option FieldType} {fr lo : Nat} {ce sl : Nat} {Q : State → Prop} {pc : Nat} {lv : List (Nat × gj_V)} {st : List gj_V} {σ : gj_S} (hO : gj_O E X own cc nL rt fr lo) {b1 : Int64}  {idx : Nat} {x : gj_S} (hf : f_X4_writeName b1 σ = some x) (hl : Cond.methodLink own idx yX4_writeName ∈ gj_gw) (hf1 : 2 ≤ fr) (hf2 : 45 ≤ lo) (hcat : ((st.map (gj_tv E.2.1)).map fun v => v.category).sum ≤ 8) (hd : decode cc pc = .ok (.invokevirtual idx, 3)) (k : gj_H E X nL ce sl Q (pc + 3) lv (st) x) : gj_H E X nL ce sl Q pc lv (gj_l b1 :: gj_r 168 :: st) σ :=
  gj_callV hO (o := 168) (vs := [gj_l b1]) (m_X4_writeName  hf) (gj_Iany (by decide)) hl wk_583 wk_584 wk_580 wk_585 kl_168 kd_168 (by decide) (ci := 4) rfl (n := 1) (by decide +kernel) rfl hf1 hf2 rfl hcat hd k
def fb_X4_writeNumber_l6 (b1 : Int32) (a10006 : (Int32 × Int32 × gj_S)) : Option (gj_S ⊕ (Int32 × Int32 × gj_S)) := (if a10006.2.1 < (1 : Int32) then some (.inl a10006.2.2) else (if ¬ a10006.2.1 = 0 then ((if a10006.1 = 0 then (if ((b1 / a10006.2.1) - (b1 / a10006.2.1) / (10 : Int32) * (10 : Int32)) ≤ 0 then some (0 : Int32) else some (1 : Int32)) else some (1 : Int32) : Option Int32).bind fun z10602 => (if z10602 = 0 then some (.inr (z10602, (a10006.2.1 / (10 : Int32)), a10006.2.2)) else ((f_X4_put ((48 : Int32) + ((b1 / a10006.2.1) - (b1 / a10006.2.1) / (10 : Int32) * (10 : Int32))) a10006.2.2).bind fun x10603 => some (.inr (z10602, (a10006.2.1 / (10 : Int32)), x10603))))) else none))
def f_X4_writeNumber (b1 : Int32) (σ : gj_S) : Option gj_S := ((gj_lp (fb_X4_writeNumber_l6 b1) 5000 ((0 : Int32), (1000 : Int32), σ)).bind fun z1 => some z1)
set_option maxHeartbeats 4000000 in
set_option maxRecDepth 100000 in
theorem sb_X4_writeNumber_l6 {E : gj_E} {X : gj_X} {r : Option gj_V} {τ : gj_S} (hO : gj_O E X RX4 cX4_writeNumber 5 none 1 21) {b1 : Int32} {a10006_0 : Int32} {a10006_1 : Int32} {a10006_2 : gj_S} {x : gj_S ⊕ (Int32 × Int32 × gj_S)} (hf : fb_X4_writeNumber_l6 b1 (a10006_0, a10006_1, a10006_2) = some x) (K : gj_K (fun z1 => gj_G E X 5 r τ 55 [] [] z1) (fun a10006 => gj_G E X 5 r τ 6 [(0, gj_r 168), (1, gj_i b1), (2, gj_i a10006.1), (3, gj_i a10006.2.1)] [] a10006.2.2) x) : gj_G E X 5 r τ 6 [(0, gj_r 168), (1, gj_i b1), (2, gj_i a10006_0), (3, gj_i a10006_1)] [] a10006_2 := by
  unfold fb_X4_writeNumber_l6 at hf
  dsimp only at hf
  refine gj_iload_n hO 3 dX4_writeNumber_6 rfl rfl ?_
  refine gj_iconst (v := 1) hO dX4_writeNumber_7 (by decide) ?_
  refine gj_icmp_lt (tgt := 55) hO dX4_writeNumber_8 (by decide) (fun h => ?_) (fun h => ?_)
  · replace hf := gj_t h hf
    obtain rfl := Option.some.inj hf
    refine gj_sub (lv2 := []) [] rfl ?_
    exact K
  · replace hf := gj_f h hf
    refine gj_iload_n hO 1 dX4_writeNumber_11 rfl rfl ?_
    refine gj_iload_n hO 3 dX4_writeNumber_12 rfl rfl ?_
    obtain ⟨hb10601, hf⟩ := gj_c hf
    refine gj_idiv hO dX4_writeNumber_13 hb10601 ?_
    refine gj_bipush (v := 10) hO dX4_writeNumber_14 (by decide) ?_
    refine gj_irem hO dX4_writeNumber_16 (by decide) ?_
    refine gj_istore (lv2 := [(4, gj_i ((b1 / a10006_1) - (b1 / a10006_1) / (10 : Int32) * (10 : Int32))), (0, gj_r 168), (1, gj_i b1), (2, gj_i a10006_0), (3, gj_i a10006_1)]) hO dX4_writeNumber_17 (by decide) rfl ?_
    refine gj_iload_n hO 3 dX4_writeNumber_19 rfl rfl ?_
    obtain ⟨z10602, hz10602, hf⟩ := gj_b hf
    have J10602 : gj_G E X 5 r τ 33 [(0, gj_r 168), (1, gj_i b1), (3, gj_i a10006_1), (4, gj_i ((b1 / a10006_1) - (b1 / a10006_1) / (10 : Int32) * (10 : Int32)))] [gj_i z10602] a10006_2 := by
      refine gj_istore_n (lv2 := [(2, gj_i z10602), (0, gj_r 168), (1, gj_i b1), (3, gj_i a10006_1), (4, gj_i ((b1 / a10006_1) - (b1 / a10006_1) / (10 : Int32) * (10 : Int32)))]) hO dX4_writeNumber_33 rfl (by decide) rfl ?_
      refine gj_iload_n hO 0 dX4_writeNumber_34 rfl rfl ?_
      refine gj_if_eq (tgt := 47) hO dX4_writeNumber_35 (by decide) (fun h => ?_) (fun h => ?_)
      · replace hf := gj_t h hf
        refine gj_iload_n hO 3 dX4_writeNumber_47 rfl rfl ?_
        refine gj_bipush (v := 10) hO dX4_writeNumber_48 (by decide) ?_
        refine gj_idiv hO dX4_writeNumber_50 (by decide) ?_
        refine gj_istore_n (lv2 := [(3, gj_i (a10006_1 / (10 : Int32))), (2, gj_i z10602), (0, gj_r 168), (1, gj_i b1), (4, gj_i ((b1 / a10006_1) - (b1 / a10006_1) / (10 : Int32) * (10 : Int32)))]) hO dX4_writeNumber_51 rfl (by decide) rfl ?_
        refine gj_goto (tgt := 6) hO dX4_writeNumber_52 (by decide) ?_
        obtain rfl := Option.some.inj hf
        refine gj_sub (lv2 := [(0, gj_r 168), (1, gj_i b1), (2, gj_i z10602), (3, gj_i (a10006_1 / (10 : Int32)))]) [2, 3, 1, 0] rfl ?_
        exact K
      · replace hf := gj_f h hf
        refine gj_aload_n hO 1 dX4_writeNumber_38 rfl rfl ?_
        refine gj_bipush (v := 48) hO dX4_writeNumber_39 (by decide) ?_
        refine gj_iload hO 4 dX4_writeNumber_41 rfl ?_
        refine gj_iadd hO dX4_writeNumber_43 ?_
        obtain ⟨x10603, hc10603, hf⟩ := gj_b hf
        refine ca_X4_put hO  hc10603 wk_582 (by decide) (by decide) (Nat.le_of_ble_eq_true rfl) dX4_writeNumber_44 ?_
        refine gj_iload_n hO 3 dX4_writeNumber_47 rfl rfl ?_
        refine gj_bipush (v := 10) hO dX4_writeNumber_48 (by decide) ?_
        refine gj_idiv hO dX4_writeNumber_50 (by decide) ?_
        refine gj_istore_n (lv2 := [(3, gj_i (a10006_1 / (10 : Int32))), (2, gj_i z10602), (0, gj_r 168), (1, gj_i b1), (4, gj_i ((b1 / a10006_1) - (b1 / a10006_1) / (10 : Int32) * (10 : Int32)))]) hO dX4_writeNumber_51 rfl (by decide) rfl ?_
        refine gj_goto (tgt := 6) hO dX4_writeNumber_52 (by decide) ?_
        obtain rfl := Option.some.inj hf
        refine gj_sub (lv2 := [(0, gj_r 168), (1, gj_i b1), (2, gj_i z10602), (3, gj_i (a10006_1 / (10 : Int32)))]) [2, 3, 1, 0] rfl ?_
        exact K
    refine gj_if_ne (tgt := 28) hO dX4_writeNumber_20 (by decide) (fun h => ?_) (fun h => ?_)
    · replace hz10602 := gj_f h hz10602
      refine gj_iconst (v := 1) hO dX4_writeNumber_28 (by decide) ?_
      refine gj_goto (tgt := 33) hO dX4_writeNumber_29 (by decide) ?_
      obtain rfl := Option.some.inj hz10602
      refine gj_sub (lv2 := [(0, gj_r 168), (1, gj_i b1), (3, gj_i a10006_1), (4, gj_i ((b1 / a10006_1) - (b1 / a10006_1) / (10 : Int32) * (10 : Int32)))]) [1, 2, 4, 0] rfl ?_
      exact J10602
    · replace hz10602 := gj_t h hz10602
      refine gj_iload hO 0 dX4_writeNumber_23 rfl ?_
      refine gj_if_le (tgt := 32) hO dX4_writeNumber_25 (by decide) (fun h => ?_) (fun h => ?_)
      · replace hz10602 := gj_t h hz10602
        refine gj_iconst (v := 0) hO dX4_writeNumber_32 (by decide) ?_
        obtain rfl := Option.some.inj hz10602
        refine gj_sub (lv2 := [(0, gj_r 168), (1, gj_i b1), (3, gj_i a10006_1), (4, gj_i ((b1 / a10006_1) - (b1 / a10006_1) / (10 : Int32) * (10 : Int32)))]) [1, 2, 4, 0] rfl ?_
        exact J10602
      · replace hz10602 := gj_f h hz10602
        refine gj_iconst (v := 1) hO dX4_writeNumber_28 (by decide) ?_
        refine gj_goto (tgt := 33) hO dX4_writeNumber_29 (by decide) ?_
        obtain rfl := Option.some.inj hz10602
        refine gj_sub (lv2 := [(0, gj_r 168), (1, gj_i b1), (3, gj_i a10006_1), (4, gj_i ((b1 / a10006_1) - (b1 / a10006_1) / (10 : Int32) * (10 : Int32)))]) [1, 2, 4, 0] rfl ?_
        exact J10602
set_option maxHeartbeats 4000000 in
set_option maxRecDepth 100000 in
theorem m_X4_writeNumber {E : gj_E} {σ : gj_S} {b1 : Int32}  {x : gj_S} (hf : f_X4_writeNumber b1 σ = some x) : gj_M E yX4_writeNumber cX4_writeNumber 5 none 1 21 [gj_r 168, gj_i b1] σ none x := by
  refine gj_body (lv := [(0, gj_r 168), (1, gj_i b1)]) (by decide +kernel) (Nat.le_of_ble_eq_true rfl) rfl (fun X hO => ?_)
  replace hO : gj_O E X RX4 cX4_writeNumber 5 none 1 21 := hO
  unfold f_X4_writeNumber at hf
  refine gj_iconst (v := 0) hO dX4_writeNumber_0 (by decide) ?_
  refine gj_istore_n (lv2 := [(2, gj_i (0 : Int32)), (0, gj_r 168), (1, gj_i b1)]) hO dX4_writeNumber_1 rfl (by decide) rfl ?_
  refine gj_sipush (v := 1000) hO dX4_writeNumber_2 (by decide) ?_
  refine gj_istore_n (lv2 := [(3, gj_i (1000 : Int32)), (2, gj_i (0 : Int32)), (0, gj_r 168), (1, gj_i b1)]) hO dX4_writeNumber_5 rfl (by decide) rfl ?_
  obtain ⟨z1, hz1, hf⟩ := gj_b hf
  have J1 : gj_G E X 5 none x 55 [] [] z1 := by
    obtain rfl := Option.some.inj hf
    exact gj_vret hO dX4_writeNumber_55
  refine gj_sub (lv2 := [(0, gj_r 168), (1, gj_i b1), (2, gj_i (0 : Int32)), (3, gj_i (1000 : Int32))]) [2, 3, 1, 0] rfl ?_
  exact gj_loop (head := fun a10006 => gj_G E X 5 none x 6 [(0, gj_r 168), (1, gj_i b1), (2, gj_i a10006.1), (3, gj_i a10006.2.1)] [] a10006.2.2) (exit := fun z1 => gj_G E X 5 none x 55 [] [] z1) (fun a10006 x hf K => by obtain ⟨a10006_0, a10006_1, a10006_2⟩ := a10006; exact sb_X4_writeNumber_l6 hO hf K) _ _ _ hz1 J1
set_option maxHeartbeats 4000000 in
set_option maxRecDepth 100000 in
theorem ca_X4_writeNumber {E : gj_E} {X : gj_X} {own : String} {cc : ByteArray} {nL : Nat} {rt : Option FieldType} {fr lo : Nat} {ce sl : Nat} {Q : State → Prop} {pc : Nat} {lv : List (Nat × gj_V)} {st : List gj_V} {σ : gj_S} (hO : gj_O E X own cc nL rt fr lo) {b1 : Int32}  {idx : Nat} {x : gj_S} (hf : f_X4_writeNumber b1 σ = some x) (hl : Cond.methodLink own idx yX4_writeNumber ∈ gj_gw) (hf1 : 2 ≤ fr) (hf2 : 45 ≤ lo) (hcat : ((st.map (gj_tv E.2.1)).map fun v => v.category).sum ≤ 8) (hd : decode cc pc = .ok (.invokevirtual idx, 3)) (k : gj_H E X nL ce sl Q (pc + 3) lv (st) x) : gj_H E X nL ce sl Q pc lv (gj_i b1 :: gj_r 168 :: st) σ :=
  gj_callV hO (o := 168) (vs := [gj_i b1]) (m_X4_writeNumber  hf) (gj_Iany (by decide)) hl wk_586 wk_587 wk_580 wk_588 kl_168 kd_168 (by decide) (ci := 4) rfl (n := 1) (by decide +kernel) rfl hf1 hf2 rfl hcat hd k
def fb_X4_write_l7  (a10007 : (Int32 × gj_S)) : Option (gj_S ⊕ (Int32 × gj_S)) := (if (a10007.2.1 17 1) ≤ a10007.1 then some (.inl a10007.2) else (if (16 : Int32) ≤ a10007.1 then some (.inl a10007.2) else (if gj_in a10007.1 24 then (if (a10007.2.1 23 (Int32.toNatClampNeg a10007.1)) ≤ 0 then some (.inr ((a10007.1 + 1), a10007.2)) else (if gj_in a10007.1 16 then ((f_X4_writeName (a10007.2.2.1 15 (Int32.toNatClampNeg a10007.1)) a10007.2).bind fun x10703 => ((f_X4_put (32 : Int32) x10703).bind fun x10704 => (if gj_in a10007.1 24 then ((f_X4_writeNumber (x10704.1 23 (Int32.toNatClampNeg a10007.1)) x10704).bind fun x10706 => ((f_X4_put (59 : Int32) x10706).bind fun x10707 => some (.inr ((a10007.1 + 1), x10707)))) else none))) else none)) else none)))
def f_X4_write  (σ : gj_S) : Option gj_S := ((gj_lp (fb_X4_write_l7) 5000 ((0 : Int32), (gj_sI σ 168 (upd (σ.1 168) 1 (0 : Int32))))).bind fun z1 => some z1)
set_option maxHeartbeats 4000000 in
set_option maxRecDepth 100000 in
theorem sb_X4_write_l7 {E : gj_E} {X : gj_X} {r : Option gj_V} {τ : gj_S} (hO : gj_O E X RX4 cX4_write 4 none 2 45)  {a10007_0 : Int32} {a10007_1 : gj_S} {x : gj_S ⊕ (Int32 × gj_S)} (hf : fb_X4_write_l7  (a10007_0, a10007_1) = some x) (K : gj_K (fun z1 => gj_G E X 4 r τ 65 [] [] z1) (fun a10007 => gj_G E X 4 r τ 7 [(0, gj_r 168), (1, gj_r 17), (2, gj_r 15), (3, gj_i a10007.1)] [] a10007.2) x) : gj_G E X 4 r τ 7 [(0, gj_r 168), (1, gj_r 17), (2, gj_r 15), (3, gj_i a10007_0)] [] a10007_1 := by
  unfold fb_X4_write_l7 at hf
  dsimp only at hf
  refine gj_iload_n hO 3 dX4_write_7 rfl rfl ?_
  refine gj_aload_n hO 1 dX4_write_8 rfl rfl ?_
  refine gt_X1_1 hO kd_17 kl_17 wk_589 dX4_write_9 ?_
  refine gj_icmp_ge (tgt := 65) hO dX4_write_12 (by decide) (fun h => ?_) (fun h => ?_)
  · replace hf := gj_t h hf
    obtain rfl := Option.some.inj hf
    refine gj_sub (lv2 := []) [] rfl ?_
    exact K
  · replace hf := gj_f h hf
    refine gj_iload_n hO 3 dX4_write_15 rfl rfl ?_
    refine gj_aload_n hO 2 dX4_write_16 rfl rfl ?_
    refine gj_alenJ (v := 16) hO kl_15 kd_15 (by decide) dX4_write_17 ?_
    refine gj_icmp_ge (tgt := 65) hO dX4_write_18 (by decide) (fun h => ?_) (fun h => ?_)
    · replace hf := gj_t h hf
      obtain rfl := Option.some.inj hf
      refine gj_sub (lv2 := []) [] rfl ?_
      exact K
    · replace hf := gj_f h hf
      refine gj_aload_n hO 1 dX4_write_21 rfl rfl ?_
      refine gt_X1_10 hO kd_17 kl_17 wk_590 dX4_write_22 ?_
      refine gj_iload_n hO 3 dX4_write_25 rfl rfl ?_
      obtain ⟨hb10701, hf⟩ := gj_c hf
      refine gj_iald hO kl_23 kd_23 hb10701 dX4_write_26 ?_
      refine gj_if_le (tgt := 59) hO dX4_write_27 (by decide) (fun h => ?_) (fun h => ?_)
      · replace hf := gj_t h hf
        refine gj_iinc (v := (a10007_0 + 1)) (lv2 := [(3, gj_i (a10007_0 + 1)), (0, gj_r 168), (1, gj_r 17), (2, gj_r 15)]) hO 3 dX4_write_59 rfl rfl (by decide) rfl ?_
        refine gj_goto (tgt := 7) hO dX4_write_62 (by decide) ?_
        obtain rfl := Option.some.inj hf
        refine gj_sub (lv2 := [(0, gj_r 168), (1, gj_r 17), (2, gj_r 15), (3, gj_i (a10007_0 + 1))]) [1, 2, 3, 0] rfl ?_
        exact K
      · replace hf := gj_f h hf
        refine gj_aload_n hO 0 dX4_write_30 rfl rfl ?_
        refine gj_aload_n hO 2 dX4_write_31 rfl rfl ?_
        refine gj_iload_n hO 3 dX4_write_32 rfl rfl ?_
        obtain ⟨hb10702, hf⟩ := gj_c hf
        refine gj_lald hO kl_15 kd_15 hb10702 dX4_write_33 ?_
        obtain ⟨x10703, hc10703, hf⟩ := gj_b hf
        refine ca_X4_writeName hO  hc10703 wk_591 (by decide) (by decide) (Nat.le_of_ble_eq_true rfl) dX4_write_34 ?_
        refine gj_aload_n hO 0 dX4_write_37 rfl rfl ?_
        refine gj_bipush (v := 32) hO dX4_write_38 (by decide) ?_
        obtain ⟨x10704, hc10704, hf⟩ := gj_b hf
        refine ca_X4_put hO  hc10704 wk_582 (by decide) (by decide) (Nat.le_of_ble_eq_true rfl) dX4_write_40 ?_
        refine gj_aload_n hO 0 dX4_write_43 rfl rfl ?_
        refine gj_aload_n hO 1 dX4_write_44 rfl rfl ?_
        refine gt_X1_10 hO kd_17 kl_17 wk_590 dX4_write_45 ?_
        refine gj_iload_n hO 3 dX4_write_48 rfl rfl ?_
        obtain ⟨hb10705, hf⟩ := gj_c hf
        refine gj_iald hO kl_23 kd_23 hb10705 dX4_write_49 ?_
        obtain ⟨x10706, hc10706, hf⟩ := gj_b hf
        refine ca_X4_writeNumber hO  hc10706 wk_592 (by decide) (by decide) (Nat.le_of_ble_eq_true rfl) dX4_write_50 ?_
        refine gj_aload_n hO 0 dX4_write_53 rfl rfl ?_
        refine gj_bipush (v := 59) hO dX4_write_54 (by decide) ?_
        obtain ⟨x10707, hc10707, hf⟩ := gj_b hf
        refine ca_X4_put hO  hc10707 wk_582 (by decide) (by decide) (Nat.le_of_ble_eq_true rfl) dX4_write_56 ?_
        refine gj_iinc (v := (a10007_0 + 1)) (lv2 := [(3, gj_i (a10007_0 + 1)), (0, gj_r 168), (1, gj_r 17), (2, gj_r 15)]) hO 3 dX4_write_59 rfl rfl (by decide) rfl ?_
        refine gj_goto (tgt := 7) hO dX4_write_62 (by decide) ?_
        obtain rfl := Option.some.inj hf
        refine gj_sub (lv2 := [(0, gj_r 168), (1, gj_r 17), (2, gj_r 15), (3, gj_i (a10007_0 + 1))]) [1, 2, 3, 0] rfl ?_
        exact K
set_option maxHeartbeats 4000000 in
set_option maxRecDepth 100000 in
theorem m_X4_write {E : gj_E} {σ : gj_S}   {x : gj_S} (hf : f_X4_write  σ = some x) : gj_M E yX4_write cX4_write 4 none 2 45 [gj_r 168, gj_r 17, gj_r 15] σ none x := by
  refine gj_body (lv := [(0, gj_r 168), (1, gj_r 17), (2, gj_r 15)]) (by decide +kernel) (Nat.le_of_ble_eq_true rfl) rfl (fun X hO => ?_)
  replace hO : gj_O E X RX4 cX4_write 4 none 2 45 := hO
  unfold f_X4_write at hf
  refine gj_aload_n hO 0 dX4_write_0 rfl rfl ?_
  refine gj_iconst (v := 0) hO dX4_write_1 (by decide) ?_
  refine pt_X4_1 hO wk_576 dX4_write_2 ?_
  refine gj_iconst (v := 0) hO dX4_write_5 (by decide) ?_
  refine gj_istore_n (lv2 := [(3, gj_i (0 : Int32)), (0, gj_r 168), (1, gj_r 17), (2, gj_r 15)]) hO dX4_write_6 rfl (by decide) rfl ?_
  obtain ⟨z1, hz1, hf⟩ := gj_b hf
  have J1 : gj_G E X 4 none x 65 [] [] z1 := by
    obtain rfl := Option.some.inj hf
    exact gj_vret hO dX4_write_65
  refine gj_sub (lv2 := [(0, gj_r 168), (1, gj_r 17), (2, gj_r 15), (3, gj_i (0 : Int32))]) [1, 2, 3, 0] rfl ?_
  exact gj_loop (head := fun a10007 => gj_G E X 4 none x 7 [(0, gj_r 168), (1, gj_r 17), (2, gj_r 15), (3, gj_i a10007.1)] [] a10007.2) (exit := fun z1 => gj_G E X 4 none x 65 [] [] z1) (fun a10007 x hf K => by obtain ⟨a10007_0, a10007_1⟩ := a10007; exact sb_X4_write_l7 hO hf K) _ _ _ hz1 J1
set_option maxHeartbeats 4000000 in
set_option maxRecDepth 100000 in
theorem ca_X4_write {E : gj_E} {X : gj_X} {own : String} {cc : ByteArray} {nL : Nat} {rt : Option FieldType} {fr lo : Nat} {ce sl : Nat} {Q : State → Prop} {pc : Nat} {lv : List (Nat × gj_V)} {st : List gj_V} {σ : gj_S} (hO : gj_O E X own cc nL rt fr lo)   {idx : Nat} {x : gj_S} (hf : f_X4_write  σ = some x) (hl : Cond.methodLink own idx yX4_write ∈ gj_gw) (hf1 : 3 ≤ fr) (hf2 : 68 ≤ lo) (hcat : ((st.map (gj_tv E.2.1)).map fun v => v.category).sum ≤ 8) (hd : decode cc pc = .ok (.invokevirtual idx, 3)) (k : gj_H E X nL ce sl Q (pc + 3) lv (st) x) : gj_H E X nL ce sl Q pc lv (gj_r 15 :: gj_r 17 :: gj_r 168 :: st) σ :=
  gj_callV hO (o := 168) (vs := [gj_r 17, gj_r 15]) (m_X4_write  hf) (gj_Iany (by decide)) hl wk_593 wk_594 wk_580 wk_595 kl_168 kd_168 (by decide) (ci := 4) rfl (n := 2) (by decide +kernel) rfl hf1 hf2 rfl hcat hd k
def f_X8_sheet (b1 : Int32) (σ : gj_S) : Option (Int32 × gj_S) := (if (-1 : Int32) ≤ b1 then ((f_X4_write σ).bind fun x1 => (if b1 = (-1 : Int32) then some ((x1.1 168 1), x1) else (if (x1.1 168 1) ≤ b1 then some ((-2 : Int32), x1) else (if gj_in b1 192 then some ((x1.1 169 (Int32.toNatClampNeg b1)), x1) else none)))) else some ((-1 : Int32), σ))
set_option maxHeartbeats 4000000 in
set_option maxRecDepth 100000 in
theorem m_X8_sheet {E : gj_E} {σ : gj_S} {b1 : Int32}  {x : Int32} {y : gj_S} (hf : f_X8_sheet b1 σ = some (x, y)) : gj_M E yX8_sheet cX8_sheet 2 (some .int) 3 68 [gj_r 0, gj_i b1] σ (some (gj_i x)) y := by
  refine gj_body (lv := [(0, gj_r 0), (1, gj_i b1)]) (by decide +kernel) (Nat.le_of_ble_eq_true rfl) rfl (fun X hO => ?_)
  replace hO : gj_O E X RX8 cX8_sheet 2 (some .int) 3 68 := hO
  unfold f_X8_sheet at hf
  refine gj_iload_n hO 1 dX8_sheet_0 rfl rfl ?_
  refine gj_iconst (v := (-1)) hO dX8_sheet_1 (by decide) ?_
  refine gj_icmp_ge (tgt := 7) hO dX8_sheet_2 (by decide) (fun h => ?_) (fun h => ?_)
  · replace hf := gj_t h hf
    refine gj_aload_n hO 0 dX8_sheet_7 rfl rfl ?_
    refine gt_X8_10 hO wk_596 dX8_sheet_8 ?_
    refine gj_aload_n hO 0 dX8_sheet_11 rfl rfl ?_
    refine gt_X8_4 hO wk_185 dX8_sheet_12 ?_
    refine gt_X7_0 hO kd_16 kl_16 wk_186 dX8_sheet_15 ?_
    refine gj_aload_n hO 0 dX8_sheet_18 rfl rfl ?_
    refine gt_X8_3 hO wk_190 dX8_sheet_19 ?_
    obtain ⟨x1, hc1, hf⟩ := gj_b hf
    refine ca_X4_write hO  hc1 wk_597 (by decide) (by decide) (Nat.le_of_ble_eq_true rfl) dX8_sheet_22 ?_
    refine gj_iload_n hO 1 dX8_sheet_25 rfl rfl ?_
    refine gj_iconst (v := (-1)) hO dX8_sheet_26 (by decide) ?_
    refine gj_icmp_ne (tgt := 38) hO dX8_sheet_27 (by decide) (fun h => ?_) (fun h => ?_)
    · replace hf := gj_f h hf
      refine gj_iload_n hO 1 dX8_sheet_38 rfl rfl ?_
      refine gj_aload_n hO 0 dX8_sheet_39 rfl rfl ?_
      refine gt_X8_10 hO wk_596 dX8_sheet_40 ?_
      refine gt_X4_1 hO wk_598 dX8_sheet_43 ?_
      refine gj_icmp_ge (tgt := 61) hO dX8_sheet_46 (by decide) (fun h => ?_) (fun h => ?_)
      · replace hf := gj_t h hf
        refine gj_bipush (v := (-2)) hO dX8_sheet_61 (by decide) ?_
        replace hf := Option.some.inj hf
        simp only [Prod.mk.injEq] at hf
        obtain ⟨rfl, rfl⟩ := hf
        exact gj_iret hO dX8_sheet_63
      · replace hf := gj_f h hf
        refine gj_aload_n hO 0 dX8_sheet_49 rfl rfl ?_
        refine gt_X8_10 hO wk_596 dX8_sheet_50 ?_
        refine gt_X4_0 hO wk_599 dX8_sheet_53 ?_
        refine gj_iload_n hO 1 dX8_sheet_56 rfl rfl ?_
        obtain ⟨hb2, hf⟩ := gj_c hf
        refine gj_bald hO kl_169 kd_169 hb2 dX8_sheet_57 ?_
        refine gj_goto (tgt := 63) hO dX8_sheet_58 (by decide) ?_
        replace hf := Option.some.inj hf
        simp only [Prod.mk.injEq] at hf
        obtain ⟨rfl, rfl⟩ := hf
        exact gj_iret hO dX8_sheet_63
    · replace hf := gj_t h hf
      refine gj_aload_n hO 0 dX8_sheet_30 rfl rfl ?_
      refine gt_X8_10 hO wk_596 dX8_sheet_31 ?_
      refine gt_X4_1 hO wk_598 dX8_sheet_34 ?_
      replace hf := Option.some.inj hf
      simp only [Prod.mk.injEq] at hf
      obtain ⟨rfl, rfl⟩ := hf
      exact gj_iret hO dX8_sheet_37
  · replace hf := gj_f h hf
    refine gj_iconst (v := (-1)) hO dX8_sheet_5 (by decide) ?_
    replace hf := Option.some.inj hf
    simp only [Prod.mk.injEq] at hf
    obtain ⟨rfl, rfl⟩ := hf
    exact gj_iret hO dX8_sheet_6
set_option maxHeartbeats 4000000 in
set_option maxRecDepth 100000 in
theorem ca_X8_sheet {E : gj_E} {X : gj_X} {own : String} {cc : ByteArray} {nL : Nat} {rt : Option FieldType} {fr lo : Nat} {ce sl : Nat} {Q : State → Prop} {pc : Nat} {lv : List (Nat × gj_V)} {st : List gj_V} {σ : gj_S} (hO : gj_O E X own cc nL rt fr lo) {b1 : Int32}  {idx : Nat} {x : Int32} {y : gj_S} (hf : f_X8_sheet b1 σ = some (x, y)) (hl : Cond.methodLink own idx yX8_sheet ∈ gj_gw) (hf1 : 4 ≤ fr) (hf2 : 89 ≤ lo) (hcat : ((st.map (gj_tv E.2.1)).map fun v => v.category).sum ≤ 8) (hd : decode cc pc = .ok (.invokevirtual idx, 3)) (k : gj_H E X nL ce sl Q (pc + 3) lv ((gj_i x) :: st) y) : gj_H E X nL ce sl Q pc lv (gj_i b1 :: gj_r 0 :: st) σ :=
  gj_callV hO (o := 0) (vs := [gj_i b1]) (m_X8_sheet  hf) (gj_Iany (by decide)) hl wk_600 wk_601 wk_4 wk_602 kl_0 kd_0 (by decide) (ci := 8) rfl (n := 1) (by decide +kernel) rfl hf1 hf2 rfl hcat hd k
def f_X0_giveBack  (σ : gj_S) : Option gj_S := ((if (σ.1 54 1) ≤ 0 then some (11 : Int32) else some ((σ.1 54 1) - (1 : Int32)) : Option Int32).bind fun z1 => (if gj_in ((gj_sI (gj_sI σ 54 (upd (σ.1 54) 1 z1)) 54 (upd ((gj_sI σ 54 (upd (σ.1 54) 1 z1)).1 54) 2 (((gj_sI σ 54 (upd (σ.1 54) 1 z1)).1 54 2) - (1 : Int32)))).1 54 1) 12 then ((f_X1_copyFrom 17 (gj_pa 55 (Int32.toNatClampNeg ((gj_sI (gj_sI σ 54 (upd (σ.1 54) 1 z1)) 54 (upd ((gj_sI σ 54 (upd (σ.1 54) 1 z1)).1 54) 2 (((gj_sI σ 54 (upd (σ.1 54) 1 z1)).1 54 2) - (1 : Int32)))).1 54 1))) (gj_sI (gj_sI σ 54 (upd (σ.1 54) 1 z1)) 54 (upd ((gj_sI σ 54 (upd (σ.1 54) 1 z1)).1 54) 2 (((gj_sI σ 54 (upd (σ.1 54) 1 z1)).1 54 2) - (1 : Int32))))).bind fun x3 => some x3) else none))
set_option maxHeartbeats 4000000 in
set_option maxRecDepth 100000 in
theorem m_X0_giveBack {E : gj_E} {σ : gj_S}   {x : gj_S} (hf : f_X0_giveBack  σ = some x) : gj_M E yX0_giveBack cX0_giveBack 2 none 2 141 [gj_r 54, gj_r 17] σ none x := by
  refine gj_body (lv := [(0, gj_r 54), (1, gj_r 17)]) (by decide +kernel) (Nat.le_of_ble_eq_true rfl) rfl (fun X hO => ?_)
  replace hO : gj_O E X RX0 cX0_giveBack 2 none 2 141 := hO
  unfold f_X0_giveBack at hf
  refine gj_aload_n hO 0 dX0_giveBack_0 rfl rfl ?_
  refine gj_aload_n hO 0 dX0_giveBack_1 rfl rfl ?_
  refine gt_X0_1 hO wk_355 dX0_giveBack_2 ?_
  obtain ⟨z1, hz1, hf⟩ := gj_b hf
  have J1 : gj_G E X 2 none x 19 [(0, gj_r 54), (1, gj_r 17)] [gj_i z1, gj_r 54] σ := by
    refine pt_X0_1 hO wk_355 dX0_giveBack_19 ?_
    refine gj_aload_n hO 0 dX0_giveBack_22 rfl rfl ?_
    refine gj_dup hO dX0_giveBack_23 trivial ?_
    refine gt_X0_2 hO wk_178 dX0_giveBack_24 ?_
    refine gj_iconst (v := 1) hO dX0_giveBack_27 (by decide) ?_
    refine gj_isub hO dX0_giveBack_28 ?_
    refine pt_X0_2 hO wk_178 dX0_giveBack_29 ?_
    refine gj_aload_n hO 1 dX0_giveBack_32 rfl rfl ?_
    refine gj_aload_n hO 0 dX0_giveBack_33 rfl rfl ?_
    refine gt_X0_0 hO wk_354 dX0_giveBack_34 ?_
    refine gj_aload_n hO 0 dX0_giveBack_37 rfl rfl ?_
    refine gt_X0_1 hO wk_355 dX0_giveBack_38 ?_
    obtain ⟨hb2, hf⟩ := gj_c hf
    refine gj_aald hO kl_55 kd_55 hb2 dX0_giveBack_41 ?_
    obtain ⟨x3, hc3, hf⟩ := gj_b hf
    refine ca_X1_copyFrom hO isP_17 (pa_55 hb2.2) hc3 wk_356 (by decide) (by decide) (Nat.le_of_ble_eq_true rfl) dX0_giveBack_42 ?_
    obtain rfl := Option.some.inj hf
    exact gj_vret hO dX0_giveBack_45
  refine gj_if_le (tgt := 17) hO dX0_giveBack_5 (by decide) (fun h => ?_) (fun h => ?_)
  · replace hz1 := gj_t h hz1
    refine gj_bipush (v := 11) hO dX0_giveBack_17 (by decide) ?_
    obtain rfl := Option.some.inj hz1
    refine gj_sub (lv2 := [(0, gj_r 54), (1, gj_r 17)]) [0, 1] rfl ?_
    exact J1
  · replace hz1 := gj_f h hz1
    refine gj_aload_n hO 0 dX0_giveBack_8 rfl rfl ?_
    refine gt_X0_1 hO wk_355 dX0_giveBack_9 ?_
    refine gj_iconst (v := 1) hO dX0_giveBack_12 (by decide) ?_
    refine gj_isub hO dX0_giveBack_13 ?_
    refine gj_goto (tgt := 19) hO dX0_giveBack_14 (by decide) ?_
    obtain rfl := Option.some.inj hz1
    refine gj_sub (lv2 := [(0, gj_r 54), (1, gj_r 17)]) [0, 1] rfl ?_
    exact J1
set_option maxHeartbeats 4000000 in
set_option maxRecDepth 100000 in
theorem ca_X0_giveBack {E : gj_E} {X : gj_X} {own : String} {cc : ByteArray} {nL : Nat} {rt : Option FieldType} {fr lo : Nat} {ce sl : Nat} {Q : State → Prop} {pc : Nat} {lv : List (Nat × gj_V)} {st : List gj_V} {σ : gj_S} (hO : gj_O E X own cc nL rt fr lo)   {idx : Nat} {x : gj_S} (hf : f_X0_giveBack  σ = some x) (hl : Cond.methodLink own idx yX0_giveBack ∈ gj_gw) (hf1 : 3 ≤ fr) (hf2 : 162 ≤ lo) (hcat : ((st.map (gj_tv E.2.1)).map fun v => v.category).sum ≤ 8) (hd : decode cc pc = .ok (.invokevirtual idx, 3)) (k : gj_H E X nL ce sl Q (pc + 3) lv (st) x) : gj_H E X nL ce sl Q pc lv (gj_r 17 :: gj_r 54 :: st) σ :=
  gj_callV hO (o := 54) (vs := [gj_r 17]) (m_X0_giveBack  hf) (gj_Iany (by decide)) hl wk_603 wk_604 wk_181 wk_605 kl_54 kd_54 (by decide) (ci := 0) rfl (n := 1) (by decide +kernel) rfl hf1 hf2 rfl hcat hd k
def f_X8_undo  (σ : gj_S) : Option (Int32 × gj_S) := (if (σ.1 54 2) = 0 then some ((-1 : Int32), σ) else ((f_X0_giveBack σ).bind fun x1 => ((f_X7_regrow 16 x1).bind fun x2 => some ((x2.1 54 2), x2))))
set_option maxHeartbeats 4000000 in
set_option maxRecDepth 100000 in
theorem m_X8_undo {E : gj_E} {σ : gj_S}   {x : Int32} {y : gj_S} (hf : f_X8_undo  σ = some (x, y)) : gj_M E yX8_undo cX8_undo 1 (some .int) 4 162 [gj_r 0] σ (some (gj_i x)) y := by
  refine gj_body (lv := [(0, gj_r 0)]) (by decide +kernel) (Nat.le_of_ble_eq_true rfl) rfl (fun X hO => ?_)
  replace hO : gj_O E X RX8 cX8_undo 1 (some .int) 4 162 := hO
  unfold f_X8_undo at hf
  refine gj_aload_n hO 0 dX8_undo_0 rfl rfl ?_
  refine gt_X8_6 hO wk_193 dX8_undo_1 ?_
  refine gt_X0_2 hO wk_606 dX8_undo_4 ?_
  refine gj_if_ne (tgt := 12) hO dX8_undo_7 (by decide) (fun h => ?_) (fun h => ?_)
  · replace hf := gj_f h hf
    refine gj_aload_n hO 0 dX8_undo_12 rfl rfl ?_
    refine gt_X8_6 hO wk_193 dX8_undo_13 ?_
    refine gj_aload_n hO 0 dX8_undo_16 rfl rfl ?_
    refine gt_X8_4 hO wk_185 dX8_undo_17 ?_
    refine gt_X7_0 hO kd_16 kl_16 wk_186 dX8_undo_20 ?_
    obtain ⟨x1, hc1, hf⟩ := gj_b hf
    refine ca_X0_giveBack hO  hc1 wk_607 (by decide) (by decide) (Nat.le_of_ble_eq_true rfl) dX8_undo_23 ?_
    refine gj_aload_n hO 0 dX8_undo_26 rfl rfl ?_
    refine gt_X8_4 hO wk_185 dX8_undo_27 ?_
    obtain ⟨x2, hc2, hf⟩ := gj_b hf
    refine ca_X7_regrow hO isY_16 hc2 wk_561 (by decide) (by decide) (Nat.le_of_ble_eq_true rfl) dX8_undo_30 ?_
    refine gj_aload_n hO 0 dX8_undo_33 rfl rfl ?_
    refine gt_X8_6 hO wk_193 dX8_undo_34 ?_
    refine gt_X0_2 hO wk_606 dX8_undo_37 ?_
    replace hf := Option.some.inj hf
    simp only [Prod.mk.injEq] at hf
    obtain ⟨rfl, rfl⟩ := hf
    exact gj_iret hO dX8_undo_40
  · replace hf := gj_t h hf
    refine gj_iconst (v := (-1)) hO dX8_undo_10 (by decide) ?_
    replace hf := Option.some.inj hf
    simp only [Prod.mk.injEq] at hf
    obtain ⟨rfl, rfl⟩ := hf
    exact gj_iret hO dX8_undo_11
set_option maxHeartbeats 4000000 in
set_option maxRecDepth 100000 in
theorem ca_X8_undo {E : gj_E} {X : gj_X} {own : String} {cc : ByteArray} {nL : Nat} {rt : Option FieldType} {fr lo : Nat} {ce sl : Nat} {Q : State → Prop} {pc : Nat} {lv : List (Nat × gj_V)} {st : List gj_V} {σ : gj_S} (hO : gj_O E X own cc nL rt fr lo)   {idx : Nat} {x : Int32} {y : gj_S} (hf : f_X8_undo  σ = some (x, y)) (hl : Cond.methodLink own idx yX8_undo ∈ gj_gw) (hf1 : 5 ≤ fr) (hf2 : 182 ≤ lo) (hcat : ((st.map (gj_tv E.2.1)).map fun v => v.category).sum ≤ 8) (hd : decode cc pc = .ok (.invokevirtual idx, 3)) (k : gj_H E X nL ce sl Q (pc + 3) lv ((gj_i x) :: st) y) : gj_H E X nL ce sl Q pc lv (gj_r 0 :: st) σ :=
  gj_callV hO (o := 0) (vs := []) (m_X8_undo  hf) (gj_Iany (by decide)) hl wk_608 wk_609 wk_4 wk_610 kl_0 kd_0 (by decide) (ci := 8) rfl (n := 0) (by decide +kernel) rfl hf1 hf2 rfl hcat hd k
def f_X8_keep (b1 : Int32) (b2 : Int32) (σ : gj_S) : Option (Int32 × gj_S) := (if b1 < 0 then some ((0 : Int32), σ) else (if (2 : Int32) ≤ b1 then some ((0 : Int32), σ) else (if b2 = 0 then (if b2 = 0 then (if gj_in b1 2 then ((f_X1_copyFrom (gj_pa 164 (Int32.toNatClampNeg b1)) 17 σ).bind fun x2 => (if gj_in b1 2 then some ((1 : Int32), (gj_sI x2 165 (upd (x2.1 165) (Int32.toNatClampNeg b1) (vp_nar .boolean (1 : Int32))))) else none)) else none) else (if gj_in b1 2 then ((f_X1_copyFrom 17 (gj_pa 164 (Int32.toNatClampNeg b1)) σ).bind fun x5 => ((f_X7_regrow 16 x5).bind fun x6 => ((f_X0_forget x6).bind fun x7 => some ((1 : Int32), x7)))) else none)) else (if gj_in b1 2 then (if (σ.1 165 (Int32.toNatClampNeg b1)) = 0 then some ((0 : Int32), σ) else (if b2 = 0 then (if gj_in b1 2 then ((f_X1_copyFrom (gj_pa 164 (Int32.toNatClampNeg b1)) 17 σ).bind fun x10 => (if gj_in b1 2 then some ((1 : Int32), (gj_sI x10 165 (upd (x10.1 165) (Int32.toNatClampNeg b1) (vp_nar .boolean (1 : Int32))))) else none)) else none) else (if gj_in b1 2 then ((f_X1_copyFrom 17 (gj_pa 164 (Int32.toNatClampNeg b1)) σ).bind fun x13 => ((f_X7_regrow 16 x13).bind fun x14 => ((f_X0_forget x14).bind fun x15 => some ((1 : Int32), x15)))) else none))) else none))))
set_option maxHeartbeats 4000000 in
set_option maxRecDepth 100000 in
theorem m_X8_keep {E : gj_E} {σ : gj_S} {b1 : Int32} {b2 : Int32}  {x : Int32} {y : gj_S} (hf : f_X8_keep b1 b2 σ = some (x, y)) : gj_M E yX8_keep cX8_keep 3 (some .boolean) 4 141 [gj_r 0, gj_i b1, gj_i b2] σ (some (gj_i x)) y := by
  refine gj_body (lv := [(0, gj_r 0), (1, gj_i b1), (2, gj_i b2)]) (by decide +kernel) (Nat.le_of_ble_eq_true rfl) rfl (fun X hO => ?_)
  replace hO : gj_O E X RX8 cX8_keep 3 (some .boolean) 4 141 := hO
  unfold f_X8_keep at hf
  refine gj_iload_n hO 1 dX8_keep_0 rfl rfl ?_
  refine gj_if_lt (tgt := 22) hO dX8_keep_1 (by decide) (fun h => ?_) (fun h => ?_)
  · replace hf := gj_t h hf
    refine gj_iconst (v := 0) hO dX8_keep_22 (by decide) ?_
    replace hf := Option.some.inj hf
    simp only [Prod.mk.injEq] at hf
    obtain ⟨rfl, rfl⟩ := hf
    exact gj_zret hO (Or.inl rfl) dX8_keep_23
  · replace hf := gj_f h hf
    refine gj_iload_n hO 1 dX8_keep_4 rfl rfl ?_
    refine gj_iconst (v := 2) hO dX8_keep_5 (by decide) ?_
    refine gj_icmp_ge (tgt := 22) hO dX8_keep_6 (by decide) (fun h => ?_) (fun h => ?_)
    · replace hf := gj_t h hf
      refine gj_iconst (v := 0) hO dX8_keep_22 (by decide) ?_
      replace hf := Option.some.inj hf
      simp only [Prod.mk.injEq] at hf
      obtain ⟨rfl, rfl⟩ := hf
      exact gj_zret hO (Or.inl rfl) dX8_keep_23
    · replace hf := gj_f h hf
      refine gj_iload_n hO 2 dX8_keep_9 rfl rfl ?_
      refine gj_if_eq (tgt := 24) hO dX8_keep_10 (by decide) (fun h => ?_) (fun h => ?_)
      · replace hf := gj_t h hf
        refine gj_iload_n hO 2 dX8_keep_24 rfl rfl ?_
        refine gj_if_eq (tgt := 61) hO dX8_keep_25 (by decide) (fun h => ?_) (fun h => ?_)
        · replace hf := gj_t h hf
          refine gj_aload_n hO 0 dX8_keep_61 rfl rfl ?_
          refine gt_X8_7 hO wk_611 dX8_keep_62 ?_
          refine gj_iload_n hO 1 dX8_keep_65 rfl rfl ?_
          obtain ⟨hb1, hf⟩ := gj_c hf
          refine gj_aald hO kl_164 kd_164 hb1 dX8_keep_66 ?_
          refine gj_aload_n hO 0 dX8_keep_67 rfl rfl ?_
          refine gt_X8_4 hO wk_185 dX8_keep_68 ?_
          refine gt_X7_0 hO kd_16 kl_16 wk_186 dX8_keep_71 ?_
          obtain ⟨x2, hc2, hf⟩ := gj_b hf
          refine ca_X1_copyFrom hO (pa_164 hb1.2) isP_17 hc2 wk_188 (by decide) (by decide) (Nat.le_of_ble_eq_true rfl) dX8_keep_74 ?_
          refine gj_aload_n hO 0 dX8_keep_77 rfl rfl ?_
          refine gt_X8_8 hO wk_195 dX8_keep_78 ?_
          refine gj_iload_n hO 1 dX8_keep_81 rfl rfl ?_
          refine gj_iconst (v := 1) hO dX8_keep_82 (by decide) ?_
          obtain ⟨hb3, hf⟩ := gj_c hf
          refine gj_zast hO kl_165 kd_165 hb3 dX8_keep_83 ?_
          refine gj_iconst (v := 1) hO dX8_keep_84 (by decide) ?_
          replace hf := Option.some.inj hf
          simp only [Prod.mk.injEq] at hf
          obtain ⟨rfl, rfl⟩ := hf
          exact gj_zret hO (Or.inr rfl) dX8_keep_85
        · replace hf := gj_f h hf
          refine gj_aload_n hO 0 dX8_keep_28 rfl rfl ?_
          refine gt_X8_4 hO wk_185 dX8_keep_29 ?_
          refine gt_X7_0 hO kd_16 kl_16 wk_186 dX8_keep_32 ?_
          refine gj_aload_n hO 0 dX8_keep_35 rfl rfl ?_
          refine gt_X8_7 hO wk_611 dX8_keep_36 ?_
          refine gj_iload_n hO 1 dX8_keep_39 rfl rfl ?_
          obtain ⟨hb4, hf⟩ := gj_c hf
          refine gj_aald hO kl_164 kd_164 hb4 dX8_keep_40 ?_
          obtain ⟨x5, hc5, hf⟩ := gj_b hf
          refine ca_X1_copyFrom hO isP_17 (pa_164 hb4.2) hc5 wk_188 (by decide) (by decide) (Nat.le_of_ble_eq_true rfl) dX8_keep_41 ?_
          refine gj_aload_n hO 0 dX8_keep_44 rfl rfl ?_
          refine gt_X8_4 hO wk_185 dX8_keep_45 ?_
          obtain ⟨x6, hc6, hf⟩ := gj_b hf
          refine ca_X7_regrow hO isY_16 hc6 wk_561 (by decide) (by decide) (Nat.le_of_ble_eq_true rfl) dX8_keep_48 ?_
          refine gj_aload_n hO 0 dX8_keep_51 rfl rfl ?_
          refine gt_X8_6 hO wk_193 dX8_keep_52 ?_
          obtain ⟨x7, hc7, hf⟩ := gj_b hf
          refine ca_X0_forget hO  hc7 wk_194 (by decide) (by decide) (Nat.le_of_ble_eq_true rfl) dX8_keep_55 ?_
          refine gj_goto (tgt := 84) hO dX8_keep_58 (by decide) ?_
          refine gj_iconst (v := 1) hO dX8_keep_84 (by decide) ?_
          replace hf := Option.some.inj hf
          simp only [Prod.mk.injEq] at hf
          obtain ⟨rfl, rfl⟩ := hf
          exact gj_zret hO (Or.inr rfl) dX8_keep_85
      · replace hf := gj_f h hf
        refine gj_aload_n hO 0 dX8_keep_13 rfl rfl ?_
        refine gt_X8_8 hO wk_195 dX8_keep_14 ?_
        refine gj_iload_n hO 1 dX8_keep_17 rfl rfl ?_
        obtain ⟨hb8, hf⟩ := gj_c hf
        refine gj_zald hO kl_165 kd_165 hb8 dX8_keep_18 ?_
        refine gj_if_ne (tgt := 24) hO dX8_keep_19 (by decide) (fun h => ?_) (fun h => ?_)
        · replace hf := gj_f h hf
          refine gj_iload_n hO 2 dX8_keep_24 rfl rfl ?_
          refine gj_if_eq (tgt := 61) hO dX8_keep_25 (by decide) (fun h => ?_) (fun h => ?_)
          · replace hf := gj_t h hf
            refine gj_aload_n hO 0 dX8_keep_61 rfl rfl ?_
            refine gt_X8_7 hO wk_611 dX8_keep_62 ?_
            refine gj_iload_n hO 1 dX8_keep_65 rfl rfl ?_
            obtain ⟨hb9, hf⟩ := gj_c hf
            refine gj_aald hO kl_164 kd_164 hb9 dX8_keep_66 ?_
            refine gj_aload_n hO 0 dX8_keep_67 rfl rfl ?_
            refine gt_X8_4 hO wk_185 dX8_keep_68 ?_
            refine gt_X7_0 hO kd_16 kl_16 wk_186 dX8_keep_71 ?_
            obtain ⟨x10, hc10, hf⟩ := gj_b hf
            refine ca_X1_copyFrom hO (pa_164 hb9.2) isP_17 hc10 wk_188 (by decide) (by decide) (Nat.le_of_ble_eq_true rfl) dX8_keep_74 ?_
            refine gj_aload_n hO 0 dX8_keep_77 rfl rfl ?_
            refine gt_X8_8 hO wk_195 dX8_keep_78 ?_
            refine gj_iload_n hO 1 dX8_keep_81 rfl rfl ?_
            refine gj_iconst (v := 1) hO dX8_keep_82 (by decide) ?_
            obtain ⟨hb11, hf⟩ := gj_c hf
            refine gj_zast hO kl_165 kd_165 hb11 dX8_keep_83 ?_
            refine gj_iconst (v := 1) hO dX8_keep_84 (by decide) ?_
            replace hf := Option.some.inj hf
            simp only [Prod.mk.injEq] at hf
            obtain ⟨rfl, rfl⟩ := hf
            exact gj_zret hO (Or.inr rfl) dX8_keep_85
          · replace hf := gj_f h hf
            refine gj_aload_n hO 0 dX8_keep_28 rfl rfl ?_
            refine gt_X8_4 hO wk_185 dX8_keep_29 ?_
            refine gt_X7_0 hO kd_16 kl_16 wk_186 dX8_keep_32 ?_
            refine gj_aload_n hO 0 dX8_keep_35 rfl rfl ?_
            refine gt_X8_7 hO wk_611 dX8_keep_36 ?_
            refine gj_iload_n hO 1 dX8_keep_39 rfl rfl ?_
            obtain ⟨hb12, hf⟩ := gj_c hf
            refine gj_aald hO kl_164 kd_164 hb12 dX8_keep_40 ?_
            obtain ⟨x13, hc13, hf⟩ := gj_b hf
            refine ca_X1_copyFrom hO isP_17 (pa_164 hb12.2) hc13 wk_188 (by decide) (by decide) (Nat.le_of_ble_eq_true rfl) dX8_keep_41 ?_
            refine gj_aload_n hO 0 dX8_keep_44 rfl rfl ?_
            refine gt_X8_4 hO wk_185 dX8_keep_45 ?_
            obtain ⟨x14, hc14, hf⟩ := gj_b hf
            refine ca_X7_regrow hO isY_16 hc14 wk_561 (by decide) (by decide) (Nat.le_of_ble_eq_true rfl) dX8_keep_48 ?_
            refine gj_aload_n hO 0 dX8_keep_51 rfl rfl ?_
            refine gt_X8_6 hO wk_193 dX8_keep_52 ?_
            obtain ⟨x15, hc15, hf⟩ := gj_b hf
            refine ca_X0_forget hO  hc15 wk_194 (by decide) (by decide) (Nat.le_of_ble_eq_true rfl) dX8_keep_55 ?_
            refine gj_goto (tgt := 84) hO dX8_keep_58 (by decide) ?_
            refine gj_iconst (v := 1) hO dX8_keep_84 (by decide) ?_
            replace hf := Option.some.inj hf
            simp only [Prod.mk.injEq] at hf
            obtain ⟨rfl, rfl⟩ := hf
            exact gj_zret hO (Or.inr rfl) dX8_keep_85
        · replace hf := gj_t h hf
          refine gj_iconst (v := 0) hO dX8_keep_22 (by decide) ?_
          replace hf := Option.some.inj hf
          simp only [Prod.mk.injEq] at hf
          obtain ⟨rfl, rfl⟩ := hf
          exact gj_zret hO (Or.inl rfl) dX8_keep_23
set_option maxHeartbeats 4000000 in
set_option maxRecDepth 100000 in
theorem ca_X8_keep {E : gj_E} {X : gj_X} {own : String} {cc : ByteArray} {nL : Nat} {rt : Option FieldType} {fr lo : Nat} {ce sl : Nat} {Q : State → Prop} {pc : Nat} {lv : List (Nat × gj_V)} {st : List gj_V} {σ : gj_S} (hO : gj_O E X own cc nL rt fr lo) {b1 : Int32} {b2 : Int32}  {idx : Nat} {x : Int32} {y : gj_S} (hf : f_X8_keep b1 b2 σ = some (x, y)) (hl : Cond.methodLink own idx yX8_keep ∈ gj_gw) (hf1 : 5 ≤ fr) (hf2 : 163 ≤ lo) (hcat : ((st.map (gj_tv E.2.1)).map fun v => v.category).sum ≤ 8) (hd : decode cc pc = .ok (.invokevirtual idx, 3)) (k : gj_H E X nL ce sl Q (pc + 3) lv ((gj_i x) :: st) y) : gj_H E X nL ce sl Q pc lv (gj_i b2 :: gj_i b1 :: gj_r 0 :: st) σ :=
  gj_callV hO (o := 0) (vs := [gj_i b1, gj_i b2]) (m_X8_keep  hf) (gj_Iany (by decide)) hl wk_612 wk_613 wk_4 wk_614 kl_0 kd_0 (by decide) (ci := 8) rfl (n := 2) (by decide +kernel) rfl hf1 hf2 rfl hcat hd k
