def f_X7_limits (b0 : Nat) (b1 : Int32) (b2 : Int32) (b3 : Int32) (σ : gj_S) : Option Int32 := (if gj_in b1 24 then (if (σ.1 ((b0 + 1) + 7) (Int32.toNatClampNeg b1)) = 0 then some (0 : Int32) else ((if b3 = 0 then ((f_X7_gainMove b0 b1 b2 σ).bind fun x3 => some (0 - x3)) else ((f_X7_gainMove b0 b1 b2 σ).bind fun x4 => some x4) : Option Int32).bind fun z2 => (if gj_in b1 24 then (if (σ.1 ((b0 + 1) + 7) (Int32.toNatClampNeg b1)) = (2 : Int32) then (if z2 ≤ 0 then some (0 : Int32) else some (1 : Int32)) else (if 0 ≤ z2 then some (0 : Int32) else some (1 : Int32))) else none))) else none)
set_option maxHeartbeats 4000000 in
set_option maxRecDepth 100000 in
theorem m_X7_limits {E : gj_E} {σ : gj_S} {b0 : Nat} {b1 : Int32} {b2 : Int32} {b3 : Int32} (g0 : isY b0) {x : Int32} (hf : f_X7_limits b0 b1 b2 b3 σ = some x) : gj_M E yX7_limits cX7_limits 5 (some .boolean) 2 49 [gj_r b0, gj_i b1, gj_i b2, gj_i b3] σ (some (gj_i x)) σ := by
  refine gj_body (lv := [(0, gj_r b0), (1, gj_i b1), (2, gj_i b2), (3, gj_i b3)]) (by decide +kernel) (Nat.le_of_ble_eq_true rfl) rfl (fun X hO => ?_)
  replace hO : gj_O E X RX7 cX7_limits 5 (some .boolean) 2 49 := hO
  unfold f_X7_limits at hf
  refine gj_aload_n hO 0 dX7_limits_0 rfl rfl ?_
  refine gt_X7_0 hO (kdY_0 g0) (klY_0 g0) wk_167 dX7_limits_1 ?_
  refine gt_X1_11 hO (kdP_0 (isY_P g0)) (klP_0 (isY_P g0)) wk_263 dX7_limits_4 ?_
  refine gj_iload_n hO 1 dX7_limits_7 rfl rfl ?_
  obtain ⟨hb1, hf⟩ := gj_c hf
  refine gj_iald hO (klP_7 (isY_P g0)) (kdP_7 (isY_P g0)) hb1 dX7_limits_8 ?_
  refine gj_if_ne (tgt := 14) hO dX7_limits_9 (by decide) (fun h => ?_) (fun h => ?_)
  · replace hf := gj_f h hf
    refine gj_iload_n hO 3 dX7_limits_14 rfl rfl ?_
    obtain ⟨z2, hz2, hf⟩ := gj_b hf
    have J2 : gj_G E X 5 (some (gj_i x)) σ 34 [(0, gj_r b0), (1, gj_i b1)] [gj_i z2] σ := by
      refine gj_istore (lv2 := [(4, gj_i z2), (0, gj_r b0), (1, gj_i b1)]) hO dX7_limits_34 (by decide) rfl ?_
      refine gj_aload_n hO 1 dX7_limits_36 rfl rfl ?_
      refine gt_X7_0 hO (kdY_0 g0) (klY_0 g0) wk_167 dX7_limits_37 ?_
      refine gt_X1_11 hO (kdP_0 (isY_P g0)) (klP_0 (isY_P g0)) wk_263 dX7_limits_40 ?_
      refine gj_iload_n hO 2 dX7_limits_43 rfl rfl ?_
      obtain ⟨hb5, hf⟩ := gj_c hf
      refine gj_iald hO (klP_7 (isY_P g0)) (kdP_7 (isY_P g0)) hb5 dX7_limits_44 ?_
      refine gj_iconst (v := 2) hO dX7_limits_45 (by decide) ?_
      refine gj_icmp_ne (tgt := 62) hO dX7_limits_46 (by decide) (fun h => ?_) (fun h => ?_)
      · replace hf := gj_f h hf
        refine gj_iload hO 0 dX7_limits_62 rfl ?_
        refine gj_if_ge (tgt := 71) hO dX7_limits_64 (by decide) (fun h => ?_) (fun h => ?_)
        · replace hf := gj_t h hf
          refine gj_iconst (v := 0) hO dX7_limits_71 (by decide) ?_
          obtain rfl := Option.some.inj hf
          exact gj_zret hO (Or.inl rfl) dX7_limits_72
        · replace hf := gj_f h hf
          refine gj_iconst (v := 1) hO dX7_limits_67 (by decide) ?_
          refine gj_goto (tgt := 72) hO dX7_limits_68 (by decide) ?_
          obtain rfl := Option.some.inj hf
          exact gj_zret hO (Or.inr rfl) dX7_limits_72
      · replace hf := gj_t h hf
        refine gj_iload hO 0 dX7_limits_49 rfl ?_
        refine gj_if_le (tgt := 58) hO dX7_limits_51 (by decide) (fun h => ?_) (fun h => ?_)
        · replace hf := gj_t h hf
          refine gj_iconst (v := 0) hO dX7_limits_58 (by decide) ?_
          refine gj_goto (tgt := 72) hO dX7_limits_59 (by decide) ?_
          obtain rfl := Option.some.inj hf
          exact gj_zret hO (Or.inl rfl) dX7_limits_72
        · replace hf := gj_f h hf
          refine gj_iconst (v := 1) hO dX7_limits_54 (by decide) ?_
          refine gj_goto (tgt := 72) hO dX7_limits_55 (by decide) ?_
          obtain rfl := Option.some.inj hf
          exact gj_zret hO (Or.inr rfl) dX7_limits_72
    refine gj_if_eq (tgt := 27) hO dX7_limits_15 (by decide) (fun h => ?_) (fun h => ?_)
    · replace hz2 := gj_t h hz2
      refine gj_aload_n hO 0 dX7_limits_27 rfl rfl ?_
      refine gj_iload_n hO 1 dX7_limits_28 rfl rfl ?_
      refine gj_iload_n hO 2 dX7_limits_29 rfl rfl ?_
      obtain ⟨x3, hc3, hz2⟩ := gj_b hz2
      refine ca_X7_gainMove hO g0 hc3 wk_502 (by decide) (by decide) (Nat.le_of_ble_eq_true rfl) dX7_limits_30 ?_
      refine gj_ineg hO dX7_limits_33 ?_
      obtain rfl := Option.some.inj hz2
      refine gj_sub (lv2 := [(0, gj_r b0), (1, gj_i b1)]) [0, 1] rfl ?_
      exact J2
    · replace hz2 := gj_f h hz2
      refine gj_aload_n hO 0 dX7_limits_18 rfl rfl ?_
      refine gj_iload_n hO 1 dX7_limits_19 rfl rfl ?_
      refine gj_iload_n hO 2 dX7_limits_20 rfl rfl ?_
      obtain ⟨x4, hc4, hz2⟩ := gj_b hz2
      refine ca_X7_gainMove hO g0 hc4 wk_502 (by decide) (by decide) (Nat.le_of_ble_eq_true rfl) dX7_limits_21 ?_
      refine gj_goto (tgt := 34) hO dX7_limits_24 (by decide) ?_
      obtain rfl := Option.some.inj hz2
      refine gj_sub (lv2 := [(0, gj_r b0), (1, gj_i b1)]) [0, 1] rfl ?_
      exact J2
  · replace hf := gj_t h hf
    refine gj_iconst (v := 0) hO dX7_limits_12 (by decide) ?_
    obtain rfl := Option.some.inj hf
    exact gj_zret hO (Or.inl rfl) dX7_limits_13
set_option maxHeartbeats 4000000 in
set_option maxRecDepth 100000 in
theorem ca_X7_limits {E : gj_E} {X : gj_X} {own : String} {cc : ByteArray} {nL : Nat} {rt : Option FieldType} {fr lo : Nat} {ce sl : Nat} {Q : State → Prop} {pc : Nat} {lv : List (Nat × gj_V)} {st : List gj_V} {σ : gj_S} (hO : gj_O E X own cc nL rt fr lo) {b0 : Nat} {b1 : Int32} {b2 : Int32} {b3 : Int32} (g0 : isY b0) {idx : Nat} {x : Int32} (hf : f_X7_limits b0 b1 b2 b3 σ = some x) (hl : Cond.methodLink own idx yX7_limits ∈ gj_gw) (hf1 : 3 ≤ fr) (hf2 : 73 ≤ lo) (hcat : ((st.map (gj_tv E.2.1)).map fun v => v.category).sum ≤ 8) (hd : decode cc pc = .ok (.invokevirtual idx, 3)) (k : gj_H E X nL ce sl Q (pc + 3) lv ((gj_i x) :: st) σ) : gj_H E X nL ce sl Q pc lv (gj_i b3 :: gj_i b2 :: gj_i b1 :: gj_r b0 :: st) σ :=
  gj_callV hO (o := b0) (vs := [gj_i b1, gj_i b2, gj_i b3]) (m_X7_limits g0 hf) (gj_Iany (by decide)) hl wk_503 wk_504 wk_171 wk_505 (klY_0 g0) (kdY_0 g0) (by decide) (ci := 7) rfl (n := 3) (by decide +kernel) rfl hf1 hf2 rfl hcat hd k
def fb_X7_shiftAllowed_l6 (b0 : Nat) (b1 : Int32) (b2 : Int32) (σ : gj_S) (a10006 : (Int32 × Int32)) : Option (Int32 ⊕ (Int32 × Int32)) := ((f_X1_countWays (b0 + 1) σ).bind fun x10601 => (if x10601 ≤ a10006.2 then some (.inl a10006.1) else ((f_X7_limits b0 a10006.2 b1 b2 σ).bind fun x10602 => (if x10602 = 0 then some (.inr (a10006.1, (a10006.2 + 1))) else ((f_X7_gainOf b0 a10006.2 σ).bind fun x10603 => some (.inr ((if (if 0 ≤ x10603 then x10603 else 0 - x10603) < a10006.1 then (if 0 ≤ x10603 then x10603 else 0 - x10603) else a10006.1), (a10006.2 + 1))))))))
def f_X7_shiftAllowed (b0 : Nat) (b1 : Int32) (b2 : Int32) (b3 : Int32) (σ : gj_S) : Option Int32 := ((gj_lp (fb_X7_shiftAllowed_l6 b0 b1 b2 σ) 5000 (b3, (0 : Int32))).bind fun z1 => some z1)
set_option maxHeartbeats 4000000 in
set_option maxRecDepth 100000 in
theorem sb_X7_shiftAllowed_l6 {E : gj_E} {X : gj_X} {r : Option gj_V} {τ : gj_S} (hO : gj_O E X RX7 cX7_shiftAllowed 6 (some .int) 3 73) {b0 : Nat} {b1 : Int32} {b2 : Int32} {σ : gj_S} (g0 : isY b0) {a10006_0 : Int32} {a10006_1 : Int32} {x : Int32 ⊕ (Int32 × Int32)} (hf : fb_X7_shiftAllowed_l6 b0 b1 b2 σ (a10006_0, a10006_1) = some x) (K : gj_K (fun z1 => gj_G E X 6 r τ 51 [(4, gj_i z1)] [] σ) (fun a10006 => gj_G E X 6 r τ 6 [(0, gj_r b0), (1, gj_i b1), (2, gj_i b2), (4, gj_i a10006.1), (5, gj_i a10006.2)] [] σ) x) : gj_G E X 6 r τ 6 [(0, gj_r b0), (1, gj_i b1), (2, gj_i b2), (4, gj_i a10006_0), (5, gj_i a10006_1)] [] σ := by
  unfold fb_X7_shiftAllowed_l6 at hf
  dsimp only at hf
  refine gj_iload hO 4 dX7_shiftAllowed_6 rfl ?_
  refine gj_aload_n hO 0 dX7_shiftAllowed_8 rfl rfl ?_
  refine gt_X7_0 hO (kdY_0 g0) (klY_0 g0) wk_167 dX7_shiftAllowed_9 ?_
  obtain ⟨x10601, hc10601, hf⟩ := gj_b hf
  refine ca_X1_countWays hO (isY_P g0) hc10601 wk_267 (by decide) (by decide) (Nat.le_of_ble_eq_true rfl) dX7_shiftAllowed_12 ?_
  refine gj_icmp_ge (tgt := 51) hO dX7_shiftAllowed_15 (by decide) (fun h => ?_) (fun h => ?_)
  · replace hf := gj_t h hf
    obtain rfl := Option.some.inj hf
    refine gj_sub (lv2 := [(4, gj_i a10006_0)]) [3] rfl ?_
    exact K
  · replace hf := gj_f h hf
    refine gj_aload_n hO 0 dX7_shiftAllowed_18 rfl rfl ?_
    refine gj_iload hO 4 dX7_shiftAllowed_19 rfl ?_
    refine gj_iload_n hO 1 dX7_shiftAllowed_21 rfl rfl ?_
    refine gj_iload_n hO 2 dX7_shiftAllowed_22 rfl rfl ?_
    obtain ⟨x10602, hc10602, hf⟩ := gj_b hf
    refine ca_X7_limits hO g0 hc10602 wk_506 (by decide) (by decide) (Nat.le_of_ble_eq_true rfl) dX7_shiftAllowed_23 ?_
    refine gj_if_eq (tgt := 45) hO dX7_shiftAllowed_26 (by decide) (fun h => ?_) (fun h => ?_)
    · replace hf := gj_t h hf
      refine gj_iinc (v := (a10006_1 + 1)) (lv2 := [(5, gj_i (a10006_1 + 1)), (0, gj_r b0), (1, gj_i b1), (2, gj_i b2), (4, gj_i a10006_0)]) hO 4 dX7_shiftAllowed_45 rfl rfl (by decide) rfl ?_
      refine gj_goto (tgt := 6) hO dX7_shiftAllowed_48 (by decide) ?_
      obtain rfl := Option.some.inj hf
      refine gj_sub (lv2 := [(0, gj_r b0), (1, gj_i b1), (2, gj_i b2), (4, gj_i a10006_0), (5, gj_i (a10006_1 + 1))]) [1, 2, 3, 4, 0] rfl ?_
      exact K
    · replace hf := gj_f h hf
      refine gj_iload hO 3 dX7_shiftAllowed_29 rfl ?_
      refine gj_aload_n hO 0 dX7_shiftAllowed_31 rfl rfl ?_
      refine gj_iload hO 4 dX7_shiftAllowed_32 rfl ?_
      obtain ⟨x10603, hc10603, hf⟩ := gj_b hf
      refine ca_X7_gainOf hO g0 hc10603 wk_262 (by decide) (by decide) (Nat.le_of_ble_eq_true rfl) dX7_shiftAllowed_34 ?_
      refine gj_mabs hO wk_507 (by decide) (by decide) (Nat.le_of_ble_eq_true rfl) dX7_shiftAllowed_37 ?_
      refine gj_mmin hO wk_452 (by decide) (by decide) (Nat.le_of_ble_eq_true rfl) dX7_shiftAllowed_40 ?_
      refine gj_istore (lv2 := [(4, gj_i (if (if 0 ≤ x10603 then x10603 else 0 - x10603) < a10006_0 then (if 0 ≤ x10603 then x10603 else 0 - x10603) else a10006_0)), (0, gj_r b0), (1, gj_i b1), (2, gj_i b2), (5, gj_i a10006_1)]) hO dX7_shiftAllowed_43 (by decide) rfl ?_
      refine gj_iinc (v := (a10006_1 + 1)) (lv2 := [(5, gj_i (a10006_1 + 1)), (4, gj_i (if (if 0 ≤ x10603 then x10603 else 0 - x10603) < a10006_0 then (if 0 ≤ x10603 then x10603 else 0 - x10603) else a10006_0)), (0, gj_r b0), (1, gj_i b1), (2, gj_i b2)]) hO 4 dX7_shiftAllowed_45 rfl rfl (by decide) rfl ?_
      refine gj_goto (tgt := 6) hO dX7_shiftAllowed_48 (by decide) ?_
      obtain rfl := Option.some.inj hf
      refine gj_sub (lv2 := [(0, gj_r b0), (1, gj_i b1), (2, gj_i b2), (4, gj_i (if (if 0 ≤ x10603 then x10603 else 0 - x10603) < a10006_0 then (if 0 ≤ x10603 then x10603 else 0 - x10603) else a10006_0)), (5, gj_i (a10006_1 + 1))]) [2, 3, 4, 1, 0] rfl ?_
      exact K
set_option maxHeartbeats 4000000 in
set_option maxRecDepth 100000 in
theorem m_X7_shiftAllowed {E : gj_E} {σ : gj_S} {b0 : Nat} {b1 : Int32} {b2 : Int32} {b3 : Int32} (g0 : isY b0) {x : Int32} (hf : f_X7_shiftAllowed b0 b1 b2 b3 σ = some x) : gj_M E yX7_shiftAllowed cX7_shiftAllowed 6 (some .int) 3 73 [gj_r b0, gj_i b1, gj_i b2, gj_i b3] σ (some (gj_i x)) σ := by
  refine gj_body (lv := [(0, gj_r b0), (1, gj_i b1), (2, gj_i b2), (3, gj_i b3)]) (by decide +kernel) (Nat.le_of_ble_eq_true rfl) rfl (fun X hO => ?_)
  replace hO : gj_O E X RX7 cX7_shiftAllowed 6 (some .int) 3 73 := hO
  unfold f_X7_shiftAllowed at hf
  refine gj_iload_n hO 3 dX7_shiftAllowed_0 rfl rfl ?_
  refine gj_istore (lv2 := [(4, gj_i b3), (0, gj_r b0), (1, gj_i b1), (2, gj_i b2), (3, gj_i b3)]) hO dX7_shiftAllowed_1 (by decide) rfl ?_
  refine gj_iconst (v := 0) hO dX7_shiftAllowed_3 (by decide) ?_
  refine gj_istore (lv2 := [(5, gj_i (0 : Int32)), (4, gj_i b3), (0, gj_r b0), (1, gj_i b1), (2, gj_i b2), (3, gj_i b3)]) hO dX7_shiftAllowed_4 (by decide) rfl ?_
  obtain ⟨z1, hz1, hf⟩ := gj_b hf
  have J1 : gj_G E X 6 (some (gj_i x)) σ 51 [(4, gj_i z1)] [] σ := by
    refine gj_iload hO 0 dX7_shiftAllowed_51 rfl ?_
    obtain rfl := Option.some.inj hf
    exact gj_iret hO dX7_shiftAllowed_53
  refine gj_sub (lv2 := [(0, gj_r b0), (1, gj_i b1), (2, gj_i b2), (4, gj_i b3), (5, gj_i (0 : Int32))]) [2, 3, 4, 1, 0] rfl ?_
  exact gj_loop (head := fun a10006 => gj_G E X 6 (some (gj_i x)) σ 6 [(0, gj_r b0), (1, gj_i b1), (2, gj_i b2), (4, gj_i a10006.1), (5, gj_i a10006.2)] [] σ) (exit := fun z1 => gj_G E X 6 (some (gj_i x)) σ 51 [(4, gj_i z1)] [] σ) (fun a10006 x hf K => by obtain ⟨a10006_0, a10006_1⟩ := a10006; exact sb_X7_shiftAllowed_l6 hO g0 hf K) _ _ _ hz1 J1
set_option maxHeartbeats 4000000 in
set_option maxRecDepth 100000 in
theorem ca_X7_shiftAllowed {E : gj_E} {X : gj_X} {own : String} {cc : ByteArray} {nL : Nat} {rt : Option FieldType} {fr lo : Nat} {ce sl : Nat} {Q : State → Prop} {pc : Nat} {lv : List (Nat × gj_V)} {st : List gj_V} {σ : gj_S} (hO : gj_O E X own cc nL rt fr lo) {b0 : Nat} {b1 : Int32} {b2 : Int32} {b3 : Int32} (g0 : isY b0) {idx : Nat} {x : Int32} (hf : f_X7_shiftAllowed b0 b1 b2 b3 σ = some x) (hl : Cond.methodLink own idx yX7_shiftAllowed ∈ gj_gw) (hf1 : 4 ≤ fr) (hf2 : 98 ≤ lo) (hcat : ((st.map (gj_tv E.2.1)).map fun v => v.category).sum ≤ 8) (hd : decode cc pc = .ok (.invokevirtual idx, 3)) (k : gj_H E X nL ce sl Q (pc + 3) lv ((gj_i x) :: st) σ) : gj_H E X nL ce sl Q pc lv (gj_i b3 :: gj_i b2 :: gj_i b1 :: gj_r b0 :: st) σ :=
  gj_callV hO (o := b0) (vs := [gj_i b1, gj_i b2, gj_i b3]) (m_X7_shiftAllowed g0 hf) (gj_Iany (by decide)) hl wk_508 wk_509 wk_171 wk_510 (klY_0 g0) (kdY_0 g0) (by decide) (ci := 7) rfl (n := 3) (by decide +kernel) rfl hf1 hf2 rfl hcat hd k
def f_X7_greatestCost (b0 : Nat) (b1 : Int32) (σ : gj_S) : Option Int32 := (if gj_in b1 24 then (if gj_in b1 24 then ((f_X7_shiftAllowed b0 b1 (1 : Int32) ((999 : Int32) - (σ.1 ((b0 + 1) + 4) (Int32.toNatClampNeg b1))) σ).bind fun x3 => some ((σ.1 ((b0 + 1) + 4) (Int32.toNatClampNeg b1)) + x3)) else none) else none)
set_option maxHeartbeats 4000000 in
set_option maxRecDepth 100000 in
theorem m_X7_greatestCost {E : gj_E} {σ : gj_S} {b0 : Nat} {b1 : Int32} (g0 : isY b0) {x : Int32} (hf : f_X7_greatestCost b0 b1 σ = some x) : gj_M E yX7_greatestCost cX7_greatestCost 2 (some .int) 4 98 [gj_r b0, gj_i b1] σ (some (gj_i x)) σ := by
  refine gj_body (lv := [(0, gj_r b0), (1, gj_i b1)]) (by decide +kernel) (Nat.le_of_ble_eq_true rfl) rfl (fun X hO => ?_)
  replace hO : gj_O E X RX7 cX7_greatestCost 2 (some .int) 4 98 := hO
  unfold f_X7_greatestCost at hf
  refine gj_aload_n hO 0 dX7_greatestCost_0 rfl rfl ?_
  refine gt_X7_0 hO (kdY_0 g0) (klY_0 g0) wk_167 dX7_greatestCost_1 ?_
  refine gt_X1_8 hO (kdP_0 (isY_P g0)) (klP_0 (isY_P g0)) wk_236 dX7_greatestCost_4 ?_
  refine gj_iload_n hO 1 dX7_greatestCost_7 rfl rfl ?_
  obtain ⟨hb1, hf⟩ := gj_c hf
  refine gj_iald hO (klP_4 (isY_P g0)) (kdP_4 (isY_P g0)) hb1 dX7_greatestCost_8 ?_
  refine gj_aload_n hO 0 dX7_greatestCost_9 rfl rfl ?_
  refine gj_iload_n hO 1 dX7_greatestCost_10 rfl rfl ?_
  refine gj_iconst (v := 1) hO dX7_greatestCost_11 (by decide) ?_
  refine gj_sipush (v := 999) hO dX7_greatestCost_12 (by decide) ?_
  refine gj_aload_n hO 0 dX7_greatestCost_15 rfl rfl ?_
  refine gt_X7_0 hO (kdY_0 g0) (klY_0 g0) wk_167 dX7_greatestCost_16 ?_
  refine gt_X1_8 hO (kdP_0 (isY_P g0)) (klP_0 (isY_P g0)) wk_236 dX7_greatestCost_19 ?_
  refine gj_iload_n hO 1 dX7_greatestCost_22 rfl rfl ?_
  obtain ⟨hb2, hf⟩ := gj_c hf
  refine gj_iald hO (klP_4 (isY_P g0)) (kdP_4 (isY_P g0)) hb2 dX7_greatestCost_23 ?_
  refine gj_isub hO dX7_greatestCost_24 ?_
  obtain ⟨x3, hc3, hf⟩ := gj_b hf
  refine ca_X7_shiftAllowed hO g0 hc3 wk_511 (by decide) (by decide) (Nat.le_of_ble_eq_true rfl) dX7_greatestCost_25 ?_
  refine gj_iadd hO dX7_greatestCost_28 ?_
  obtain rfl := Option.some.inj hf
  exact gj_iret hO dX7_greatestCost_29
set_option maxHeartbeats 4000000 in
set_option maxRecDepth 100000 in
theorem ca_X7_greatestCost {E : gj_E} {X : gj_X} {own : String} {cc : ByteArray} {nL : Nat} {rt : Option FieldType} {fr lo : Nat} {ce sl : Nat} {Q : State → Prop} {pc : Nat} {lv : List (Nat × gj_V)} {st : List gj_V} {σ : gj_S} (hO : gj_O E X own cc nL rt fr lo) {b0 : Nat} {b1 : Int32} (g0 : isY b0) {idx : Nat} {x : Int32} (hf : f_X7_greatestCost b0 b1 σ = some x) (hl : Cond.methodLink own idx yX7_greatestCost ∈ gj_gw) (hf1 : 5 ≤ fr) (hf2 : 119 ≤ lo) (hcat : ((st.map (gj_tv E.2.1)).map fun v => v.category).sum ≤ 8) (hd : decode cc pc = .ok (.invokevirtual idx, 3)) (k : gj_H E X nL ce sl Q (pc + 3) lv ((gj_i x) :: st) σ) : gj_H E X nL ce sl Q pc lv (gj_i b1 :: gj_r b0 :: st) σ :=
  gj_callV hO (o := b0) (vs := [gj_i b1]) (m_X7_greatestCost g0 hf) (gj_Iany (by decide)) hl wk_512 wk_513 wk_171 wk_514 (klY_0 g0) (kdY_0 g0) (by decide) (ci := 7) rfl (n := 1) (by decide +kernel) rfl hf1 hf2 rfl hcat hd k
def f_X7_leastCost (b0 : Nat) (b1 : Int32) (σ : gj_S) : Option Int32 := (if gj_in b1 24 then (if gj_in b1 24 then ((f_X7_shiftAllowed b0 b1 (0 : Int32) (σ.1 ((b0 + 1) + 4) (Int32.toNatClampNeg b1)) σ).bind fun x3 => some ((σ.1 ((b0 + 1) + 4) (Int32.toNatClampNeg b1)) - x3)) else none) else none)
set_option maxHeartbeats 4000000 in
set_option maxRecDepth 100000 in
theorem m_X7_leastCost {E : gj_E} {σ : gj_S} {b0 : Nat} {b1 : Int32} (g0 : isY b0) {x : Int32} (hf : f_X7_leastCost b0 b1 σ = some x) : gj_M E yX7_leastCost cX7_leastCost 2 (some .int) 4 98 [gj_r b0, gj_i b1] σ (some (gj_i x)) σ := by
  refine gj_body (lv := [(0, gj_r b0), (1, gj_i b1)]) (by decide +kernel) (Nat.le_of_ble_eq_true rfl) rfl (fun X hO => ?_)
  replace hO : gj_O E X RX7 cX7_leastCost 2 (some .int) 4 98 := hO
  unfold f_X7_leastCost at hf
  refine gj_aload_n hO 0 dX7_leastCost_0 rfl rfl ?_
  refine gt_X7_0 hO (kdY_0 g0) (klY_0 g0) wk_167 dX7_leastCost_1 ?_
  refine gt_X1_8 hO (kdP_0 (isY_P g0)) (klP_0 (isY_P g0)) wk_236 dX7_leastCost_4 ?_
  refine gj_iload_n hO 1 dX7_leastCost_7 rfl rfl ?_
  obtain ⟨hb1, hf⟩ := gj_c hf
  refine gj_iald hO (klP_4 (isY_P g0)) (kdP_4 (isY_P g0)) hb1 dX7_leastCost_8 ?_
  refine gj_aload_n hO 0 dX7_leastCost_9 rfl rfl ?_
  refine gj_iload_n hO 1 dX7_leastCost_10 rfl rfl ?_
  refine gj_iconst (v := 0) hO dX7_leastCost_11 (by decide) ?_
  refine gj_aload_n hO 0 dX7_leastCost_12 rfl rfl ?_
  refine gt_X7_0 hO (kdY_0 g0) (klY_0 g0) wk_167 dX7_leastCost_13 ?_
  refine gt_X1_8 hO (kdP_0 (isY_P g0)) (klP_0 (isY_P g0)) wk_236 dX7_leastCost_16 ?_
  refine gj_iload_n hO 1 dX7_leastCost_19 rfl rfl ?_
  obtain ⟨hb2, hf⟩ := gj_c hf
  refine gj_iald hO (klP_4 (isY_P g0)) (kdP_4 (isY_P g0)) hb2 dX7_leastCost_20 ?_
  obtain ⟨x3, hc3, hf⟩ := gj_b hf
  refine ca_X7_shiftAllowed hO g0 hc3 wk_511 (by decide) (by decide) (Nat.le_of_ble_eq_true rfl) dX7_leastCost_21 ?_
  refine gj_isub hO dX7_leastCost_24 ?_
  obtain rfl := Option.some.inj hf
  exact gj_iret hO dX7_leastCost_25
set_option maxHeartbeats 4000000 in
set_option maxRecDepth 100000 in
theorem ca_X7_leastCost {E : gj_E} {X : gj_X} {own : String} {cc : ByteArray} {nL : Nat} {rt : Option FieldType} {fr lo : Nat} {ce sl : Nat} {Q : State → Prop} {pc : Nat} {lv : List (Nat × gj_V)} {st : List gj_V} {σ : gj_S} (hO : gj_O E X own cc nL rt fr lo) {b0 : Nat} {b1 : Int32} (g0 : isY b0) {idx : Nat} {x : Int32} (hf : f_X7_leastCost b0 b1 σ = some x) (hl : Cond.methodLink own idx yX7_leastCost ∈ gj_gw) (hf1 : 5 ≤ fr) (hf2 : 119 ≤ lo) (hcat : ((st.map (gj_tv E.2.1)).map fun v => v.category).sum ≤ 8) (hd : decode cc pc = .ok (.invokevirtual idx, 3)) (k : gj_H E X nL ce sl Q (pc + 3) lv ((gj_i x) :: st) σ) : gj_H E X nL ce sl Q pc lv (gj_i b1 :: gj_r b0 :: st) σ :=
  gj_callV hO (o := b0) (vs := [gj_i b1]) (m_X7_leastCost g0 hf) (gj_Iany (by decide)) hl wk_515 wk_516 wk_171 wk_517 (klY_0 g0) (kdY_0 g0) (by decide) (ci := 7) rfl (n := 1) (by decide +kernel) rfl hf1 hf2 rfl hcat hd k
def f_X8_range (b1 : Int32) (b2 : Int32) (σ : gj_S) : Option Int32 := ((f_X1_hasRoute 17 b1 σ).bind fun x1 => (if x1 = 0 then some (-1 : Int32) else ((f_X7_isEnd 16 σ).bind fun x2 => (if x2 = 0 then some (-2 : Int32) else (if b2 = 0 then ((f_X7_leastCost 16 b1 σ).bind fun x3 => some x3) else ((f_X7_greatestCost 16 b1 σ).bind fun x4 => some x4))))))
set_option maxHeartbeats 4000000 in
set_option maxRecDepth 100000 in
theorem m_X8_range {E : gj_E} {σ : gj_S} {b1 : Int32} {b2 : Int32}  {x : Int32} (hf : f_X8_range b1 b2 σ = some x) : gj_M E yX8_range cX8_range 3 (some .int) 5 119 [gj_r 0, gj_i b1, gj_i b2] σ (some (gj_i x)) σ := by
  refine gj_body (lv := [(0, gj_r 0), (1, gj_i b1), (2, gj_i b2)]) (by decide +kernel) (Nat.le_of_ble_eq_true rfl) rfl (fun X hO => ?_)
  replace hO : gj_O E X RX8 cX8_range 3 (some .int) 5 119 := hO
  unfold f_X8_range at hf
  refine gj_aload_n hO 0 dX8_range_0 rfl rfl ?_
  refine gt_X8_4 hO wk_185 dX8_range_1 ?_
  refine gt_X7_0 hO kd_16 kl_16 wk_186 dX8_range_4 ?_
  refine gj_iload_n hO 1 dX8_range_7 rfl rfl ?_
  obtain ⟨x1, hc1, hf⟩ := gj_b hf
  refine ca_X1_hasRoute hO isP_17 hc1 wk_247 (by decide) (by decide) (Nat.le_of_ble_eq_true rfl) dX8_range_8 ?_
  refine gj_if_ne (tgt := 16) hO dX8_range_11 (by decide) (fun h => ?_) (fun h => ?_)
  · replace hf := gj_f h hf
    refine gj_aload_n hO 0 dX8_range_16 rfl rfl ?_
    refine gt_X8_4 hO wk_185 dX8_range_17 ?_
    obtain ⟨x2, hc2, hf⟩ := gj_b hf
    refine ca_X7_isEnd hO isY_16 hc2 wk_398 (by decide) (by decide) (Nat.le_of_ble_eq_true rfl) dX8_range_20 ?_
    refine gj_if_ne (tgt := 29) hO dX8_range_23 (by decide) (fun h => ?_) (fun h => ?_)
    · replace hf := gj_f h hf
      refine gj_iload_n hO 2 dX8_range_29 rfl rfl ?_
      refine gj_if_eq (tgt := 44) hO dX8_range_30 (by decide) (fun h => ?_) (fun h => ?_)
      · replace hf := gj_t h hf
        refine gj_aload_n hO 0 dX8_range_44 rfl rfl ?_
        refine gt_X8_4 hO wk_185 dX8_range_45 ?_
        refine gj_iload_n hO 1 dX8_range_48 rfl rfl ?_
        obtain ⟨x3, hc3, hf⟩ := gj_b hf
        refine ca_X7_leastCost hO isY_16 hc3 wk_518 (by decide) (by decide) (Nat.le_of_ble_eq_true rfl) dX8_range_49 ?_
        obtain rfl := Option.some.inj hf
        exact gj_iret hO dX8_range_52
      · replace hf := gj_f h hf
        refine gj_aload_n hO 0 dX8_range_33 rfl rfl ?_
        refine gt_X8_4 hO wk_185 dX8_range_34 ?_
        refine gj_iload_n hO 1 dX8_range_37 rfl rfl ?_
        obtain ⟨x4, hc4, hf⟩ := gj_b hf
        refine ca_X7_greatestCost hO isY_16 hc4 wk_519 (by decide) (by decide) (Nat.le_of_ble_eq_true rfl) dX8_range_38 ?_
        refine gj_goto (tgt := 52) hO dX8_range_41 (by decide) ?_
        obtain rfl := Option.some.inj hf
        exact gj_iret hO dX8_range_52
    · replace hf := gj_t h hf
      refine gj_bipush (v := (-2)) hO dX8_range_26 (by decide) ?_
      obtain rfl := Option.some.inj hf
      exact gj_iret hO dX8_range_28
  · replace hf := gj_t h hf
    refine gj_iconst (v := (-1)) hO dX8_range_14 (by decide) ?_
    obtain rfl := Option.some.inj hf
    exact gj_iret hO dX8_range_15
set_option maxHeartbeats 4000000 in
set_option maxRecDepth 100000 in
theorem ca_X8_range {E : gj_E} {X : gj_X} {own : String} {cc : ByteArray} {nL : Nat} {rt : Option FieldType} {fr lo : Nat} {ce sl : Nat} {Q : State → Prop} {pc : Nat} {lv : List (Nat × gj_V)} {st : List gj_V} {σ : gj_S} (hO : gj_O E X own cc nL rt fr lo) {b1 : Int32} {b2 : Int32}  {idx : Nat} {x : Int32} (hf : f_X8_range b1 b2 σ = some x) (hl : Cond.methodLink own idx yX8_range ∈ gj_gw) (hf1 : 6 ≤ fr) (hf2 : 141 ≤ lo) (hcat : ((st.map (gj_tv E.2.1)).map fun v => v.category).sum ≤ 8) (hd : decode cc pc = .ok (.invokevirtual idx, 3)) (k : gj_H E X nL ce sl Q (pc + 3) lv ((gj_i x) :: st) σ) : gj_H E X nL ce sl Q pc lv (gj_i b2 :: gj_i b1 :: gj_r 0 :: st) σ :=
  gj_callV hO (o := 0) (vs := [gj_i b1, gj_i b2]) (m_X8_range  hf) (gj_Iany (by decide)) hl wk_520 wk_521 wk_4 wk_522 kl_0 kd_0 (by decide) (ci := 8) rfl (n := 2) (by decide +kernel) rfl hf1 hf2 rfl hcat hd k
def f_X8_isGift (b0 : Int64) : Option Int32 := (if (lg_cmp b0 (-999 : Int64)) < 0 then some (0 : Int32) else (if 0 < (lg_cmp b0 (999 : Int64)) then some (0 : Int32) else some (1 : Int32)))
set_option maxHeartbeats 4000000 in
set_option maxRecDepth 100000 in
theorem m_X8_isGift {E : gj_E} {σ : gj_S} {b0 : Int64}  {x : Int32} (hf : f_X8_isGift b0 = some x) : gj_M E yX8_isGift cX8_isGift 2 (some .boolean) 0 0 [gj_l b0] σ (some (gj_i x)) σ := by
  refine gj_body (lv := [(0, gj_l b0)]) (by decide +kernel) (Nat.le_of_ble_eq_true rfl) rfl (fun X hO => ?_)
  replace hO : gj_O E X RX8 cX8_isGift 2 (some .boolean) 0 0 := hO
  unfold f_X8_isGift at hf
  refine gj_lload_n hO 0 dX8_isGift_0 rfl rfl ?_
  refine gj_ldc2 hO wk_523 dX8_isGift_1 ?_
  refine gj_lcmp hO dX8_isGift_4 ?_
  refine gj_if_lt (tgt := 20) hO dX8_isGift_5 (by decide) (fun h => ?_) (fun h => ?_)
  · replace hf := gj_t h hf
    refine gj_iconst (v := 0) hO dX8_isGift_20 (by decide) ?_
    obtain rfl := Option.some.inj hf
    exact gj_zret hO (Or.inl rfl) dX8_isGift_21
  · replace hf := gj_f h hf
    refine gj_lload_n hO 0 dX8_isGift_8 rfl rfl ?_
    refine gj_ldc2 hO wk_524 dX8_isGift_9 ?_
    refine gj_lcmp hO dX8_isGift_12 ?_
    refine gj_if_gt (tgt := 20) hO dX8_isGift_13 (by decide) (fun h => ?_) (fun h => ?_)
    · replace hf := gj_t h hf
      refine gj_iconst (v := 0) hO dX8_isGift_20 (by decide) ?_
      obtain rfl := Option.some.inj hf
      exact gj_zret hO (Or.inl rfl) dX8_isGift_21
    · replace hf := gj_f h hf
      refine gj_iconst (v := 1) hO dX8_isGift_16 (by decide) ?_
      refine gj_goto (tgt := 21) hO dX8_isGift_17 (by decide) ?_
      obtain rfl := Option.some.inj hf
      exact gj_zret hO (Or.inr rfl) dX8_isGift_21
set_option maxHeartbeats 4000000 in
set_option maxRecDepth 100000 in
theorem ca_X8_isGift {E : gj_E} {X : gj_X} {own : String} {cc : ByteArray} {nL : Nat} {rt : Option FieldType} {fr lo : Nat} {ce sl : Nat} {Q : State → Prop} {pc : Nat} {lv : List (Nat × gj_V)} {st : List gj_V} {σ : gj_S} (hO : gj_O E X own cc nL rt fr lo) {b0 : Int64}  {idx : Nat} {x : Int32} (hf : f_X8_isGift b0 = some x) (hl : Cond.methodLink own idx yX8_isGift ∈ gj_gw) (hf1 : 1 ≤ fr) (hf2 : 21 ≤ lo) (hcat : ((st.map (gj_tv E.2.1)).map fun v => v.category).sum ≤ 8) (hd : decode cc pc = .ok (.invokestatic idx, 3)) (k : gj_H E X nL ce sl Q (pc + 3) lv ((gj_i x) :: st) σ) : gj_H E X nL ce sl Q pc lv (gj_l b0 :: st) σ :=
  gj_callS hO (vs := [gj_l b0]) (m_X8_isGift (σ := σ)  hf) (gj_Iany (by decide)) hl wk_525 wk_4 wk_526 (n := 1) (by decide +kernel) rfl hf1 hf2 rfl hcat hd k
def f_X8_canBeTried (b1 : Int32) (b2 : Int32) (b3 : Int32) (σ : gj_S) : Option Int32 := (if b1 = 0 then ((f_X1_hasRoute 17 b2 σ).bind fun x1 => (if x1 = 0 then some (0 : Int32) else (if b3 < 0 then some (0 : Int32) else (if (999 : Int32) < b3 then some (0 : Int32) else some (1 : Int32))))) else (if b1 = (1 : Int32) then ((f_X1_hasRoute 17 b2 σ).bind fun x4 => (if x4 = 0 then some (0 : Int32) else (if b3 < 0 then some (0 : Int32) else (if (999 : Int32) < b3 then some (0 : Int32) else some (1 : Int32))))) else (if b1 = (2 : Int32) then ((f_X1_hasDock 17 b2 σ).bind fun x2 => (if x2 = 0 then some (0 : Int32) else ((f_X8_isGift (Int32.toInt64 b3)).bind fun x3 => (if x3 = 0 then some (0 : Int32) else some (1 : Int32))))) else some (0 : Int32))))
set_option maxHeartbeats 4000000 in
set_option maxRecDepth 100000 in
theorem m_X8_canBeTried {E : gj_E} {σ : gj_S} {b1 : Int32} {b2 : Int32} {b3 : Int32}  {x : Int32} (hf : f_X8_canBeTried b1 b2 b3 σ = some x) : gj_M E yX8_canBeTried cX8_canBeTried 4 (some .boolean) 1 21 [gj_r 0, gj_i b1, gj_i b2, gj_i b3] σ (some (gj_i x)) σ := by
  refine gj_body (lv := [(0, gj_r 0), (1, gj_i b1), (2, gj_i b2), (3, gj_i b3)]) (by decide +kernel) (Nat.le_of_ble_eq_true rfl) rfl (fun X hO => ?_)
  replace hO : gj_O E X RX8 cX8_canBeTried 4 (some .boolean) 1 21 := hO
  unfold f_X8_canBeTried at hf
  refine gj_iload_n hO 1 dX8_canBeTried_0 rfl rfl ?_
  refine gj_if_eq (tgt := 9) hO dX8_canBeTried_1 (by decide) (fun h => ?_) (fun h => ?_)
  · replace hf := gj_t h hf
    refine gj_aload_n hO 0 dX8_canBeTried_9 rfl rfl ?_
    refine gt_X8_4 hO wk_185 dX8_canBeTried_10 ?_
    refine gt_X7_0 hO kd_16 kl_16 wk_186 dX8_canBeTried_13 ?_
    refine gj_iload_n hO 2 dX8_canBeTried_16 rfl rfl ?_
    obtain ⟨x1, hc1, hf⟩ := gj_b hf
    refine ca_X1_hasRoute hO isP_17 hc1 wk_247 (by decide) (by decide) (Nat.le_of_ble_eq_true rfl) dX8_canBeTried_17 ?_
    refine gj_if_eq (tgt := 38) hO dX8_canBeTried_20 (by decide) (fun h => ?_) (fun h => ?_)
    · replace hf := gj_t h hf
      refine gj_iconst (v := 0) hO dX8_canBeTried_38 (by decide) ?_
      obtain rfl := Option.some.inj hf
      exact gj_zret hO (Or.inl rfl) dX8_canBeTried_39
    · replace hf := gj_f h hf
      refine gj_iload_n hO 3 dX8_canBeTried_23 rfl rfl ?_
      refine gj_if_lt (tgt := 38) hO dX8_canBeTried_24 (by decide) (fun h => ?_) (fun h => ?_)
      · replace hf := gj_t h hf
        refine gj_iconst (v := 0) hO dX8_canBeTried_38 (by decide) ?_
        obtain rfl := Option.some.inj hf
        exact gj_zret hO (Or.inl rfl) dX8_canBeTried_39
      · replace hf := gj_f h hf
        refine gj_iload_n hO 3 dX8_canBeTried_27 rfl rfl ?_
        refine gj_sipush (v := 999) hO dX8_canBeTried_28 (by decide) ?_
        refine gj_icmp_gt (tgt := 38) hO dX8_canBeTried_31 (by decide) (fun h => ?_) (fun h => ?_)
        · replace hf := gj_t h hf
          refine gj_iconst (v := 0) hO dX8_canBeTried_38 (by decide) ?_
          obtain rfl := Option.some.inj hf
          exact gj_zret hO (Or.inl rfl) dX8_canBeTried_39
        · replace hf := gj_f h hf
          refine gj_iconst (v := 1) hO dX8_canBeTried_34 (by decide) ?_
          refine gj_goto (tgt := 39) hO dX8_canBeTried_35 (by decide) ?_
          obtain rfl := Option.some.inj hf
          exact gj_zret hO (Or.inr rfl) dX8_canBeTried_39
  · replace hf := gj_f h hf
    refine gj_iload_n hO 1 dX8_canBeTried_4 rfl rfl ?_
    refine gj_iconst (v := 1) hO dX8_canBeTried_5 (by decide) ?_
    refine gj_icmp_ne (tgt := 40) hO dX8_canBeTried_6 (by decide) (fun h => ?_) (fun h => ?_)
    · replace hf := gj_f h hf
      refine gj_iload_n hO 1 dX8_canBeTried_40 rfl rfl ?_
      refine gj_iconst (v := 2) hO dX8_canBeTried_41 (by decide) ?_
      refine gj_icmp_ne (tgt := 71) hO dX8_canBeTried_42 (by decide) (fun h => ?_) (fun h => ?_)
      · replace hf := gj_f h hf
        refine gj_iconst (v := 0) hO dX8_canBeTried_71 (by decide) ?_
        obtain rfl := Option.some.inj hf
        exact gj_zret hO (Or.inl rfl) dX8_canBeTried_72
      · replace hf := gj_t h hf
        refine gj_aload_n hO 0 dX8_canBeTried_45 rfl rfl ?_
        refine gt_X8_4 hO wk_185 dX8_canBeTried_46 ?_
        refine gt_X7_0 hO kd_16 kl_16 wk_186 dX8_canBeTried_49 ?_
        refine gj_iload_n hO 2 dX8_canBeTried_52 rfl rfl ?_
        obtain ⟨x2, hc2, hf⟩ := gj_b hf
        refine ca_X1_hasDock hO isP_17 hc2 wk_217 (by decide) (by decide) (Nat.le_of_ble_eq_true rfl) dX8_canBeTried_53 ?_
        refine gj_if_eq (tgt := 71) hO dX8_canBeTried_56 (by decide) (fun h => ?_) (fun h => ?_)
        · replace hf := gj_t h hf
          refine gj_iconst (v := 0) hO dX8_canBeTried_71 (by decide) ?_
          obtain rfl := Option.some.inj hf
          exact gj_zret hO (Or.inl rfl) dX8_canBeTried_72
        · replace hf := gj_f h hf
          refine gj_iload_n hO 3 dX8_canBeTried_59 rfl rfl ?_
          refine gj_i2l hO dX8_canBeTried_60 ?_
          obtain ⟨x3, hc3, hf⟩ := gj_b hf
          refine ca_X8_isGift hO  hc3 wk_527 (by decide) (by decide) (Nat.le_of_ble_eq_true rfl) dX8_canBeTried_61 ?_
          refine gj_if_eq (tgt := 71) hO dX8_canBeTried_64 (by decide) (fun h => ?_) (fun h => ?_)
          · replace hf := gj_t h hf
            refine gj_iconst (v := 0) hO dX8_canBeTried_71 (by decide) ?_
            obtain rfl := Option.some.inj hf
            exact gj_zret hO (Or.inl rfl) dX8_canBeTried_72
          · replace hf := gj_f h hf
            refine gj_iconst (v := 1) hO dX8_canBeTried_67 (by decide) ?_
            refine gj_goto (tgt := 72) hO dX8_canBeTried_68 (by decide) ?_
            obtain rfl := Option.some.inj hf
            exact gj_zret hO (Or.inr rfl) dX8_canBeTried_72
    · replace hf := gj_t h hf
      refine gj_aload_n hO 0 dX8_canBeTried_9 rfl rfl ?_
      refine gt_X8_4 hO wk_185 dX8_canBeTried_10 ?_
      refine gt_X7_0 hO kd_16 kl_16 wk_186 dX8_canBeTried_13 ?_
      refine gj_iload_n hO 2 dX8_canBeTried_16 rfl rfl ?_
      obtain ⟨x4, hc4, hf⟩ := gj_b hf
      refine ca_X1_hasRoute hO isP_17 hc4 wk_247 (by decide) (by decide) (Nat.le_of_ble_eq_true rfl) dX8_canBeTried_17 ?_
      refine gj_if_eq (tgt := 38) hO dX8_canBeTried_20 (by decide) (fun h => ?_) (fun h => ?_)
      · replace hf := gj_t h hf
        refine gj_iconst (v := 0) hO dX8_canBeTried_38 (by decide) ?_
        obtain rfl := Option.some.inj hf
        exact gj_zret hO (Or.inl rfl) dX8_canBeTried_39
      · replace hf := gj_f h hf
        refine gj_iload_n hO 3 dX8_canBeTried_23 rfl rfl ?_
        refine gj_if_lt (tgt := 38) hO dX8_canBeTried_24 (by decide) (fun h => ?_) (fun h => ?_)
        · replace hf := gj_t h hf
          refine gj_iconst (v := 0) hO dX8_canBeTried_38 (by decide) ?_
          obtain rfl := Option.some.inj hf
          exact gj_zret hO (Or.inl rfl) dX8_canBeTried_39
        · replace hf := gj_f h hf
          refine gj_iload_n hO 3 dX8_canBeTried_27 rfl rfl ?_
          refine gj_sipush (v := 999) hO dX8_canBeTried_28 (by decide) ?_
          refine gj_icmp_gt (tgt := 38) hO dX8_canBeTried_31 (by decide) (fun h => ?_) (fun h => ?_)
          · replace hf := gj_t h hf
            refine gj_iconst (v := 0) hO dX8_canBeTried_38 (by decide) ?_
            obtain rfl := Option.some.inj hf
            exact gj_zret hO (Or.inl rfl) dX8_canBeTried_39
          · replace hf := gj_f h hf
            refine gj_iconst (v := 1) hO dX8_canBeTried_34 (by decide) ?_
            refine gj_goto (tgt := 39) hO dX8_canBeTried_35 (by decide) ?_
            obtain rfl := Option.some.inj hf
            exact gj_zret hO (Or.inr rfl) dX8_canBeTried_39
set_option maxHeartbeats 4000000 in
set_option maxRecDepth 100000 in
theorem ca_X8_canBeTried {E : gj_E} {X : gj_X} {own : String} {cc : ByteArray} {nL : Nat} {rt : Option FieldType} {fr lo : Nat} {ce sl : Nat} {Q : State → Prop} {pc : Nat} {lv : List (Nat × gj_V)} {st : List gj_V} {σ : gj_S} (hO : gj_O E X own cc nL rt fr lo) {b1 : Int32} {b2 : Int32} {b3 : Int32}  {idx : Nat} {x : Int32} (hf : f_X8_canBeTried b1 b2 b3 σ = some x) (hl : Cond.methodLink own idx yX8_canBeTried ∈ gj_gw) (hf1 : 2 ≤ fr) (hf2 : 44 ≤ lo) (hcat : ((st.map (gj_tv E.2.1)).map fun v => v.category).sum ≤ 8) (hd : decode cc pc = .ok (.invokevirtual idx, 3)) (k : gj_H E X nL ce sl Q (pc + 3) lv ((gj_i x) :: st) σ) : gj_H E X nL ce sl Q pc lv (gj_i b3 :: gj_i b2 :: gj_i b1 :: gj_r 0 :: st) σ :=
  gj_callV hO (o := 0) (vs := [gj_i b1, gj_i b2, gj_i b3]) (m_X8_canBeTried  hf) (gj_Iany (by decide)) hl wk_528 wk_529 wk_4 wk_530 kl_0 kd_0 (by decide) (ci := 8) rfl (n := 3) (by decide +kernel) rfl hf1 hf2 rfl hcat hd k
def f_X8_tried (b1 : Int32) (b2 : Int32) (b3 : Int32) (b4 : Int32) (σ : gj_S) : Option (Int32 × gj_S) := ((f_X8_canBeTried b1 b2 b3 σ).bind fun x1 => (if x1 = 0 then some ((-1 : Int32), σ) else ((f_X1_copyFrom 36 17 σ).bind fun x2 => ((if b1 = 0 then (if gj_in b2 24 then some (gj_sI x2 40 (upd (x2.1 40) (Int32.toNatClampNeg b2) b3)) else none) else (if b1 = (1 : Int32) then (if gj_in b2 24 then some (gj_sI x2 41 (upd (x2.1 41) (Int32.toNatClampNeg b2) b3)) else none) else (if gj_in b2 8 then some (gj_sI x2 37 (upd (x2.1 37) (Int32.toNatClampNeg b2) b3)) else none)) : Option gj_S).bind fun z3 => ((f_X7_beginAll 35 z3).bind fun x7 => ((f_X7_makePivots 35 (1000000 : Int32) x7).bind fun x8 => (if b4 = 0 then ((f_X1_sumCost 36 x8.2).bind fun x9 => some (x9, x8.2)) else ((f_X1_sumLack 36 x8.2).bind fun x10 => some (x10, x8.2)))))))))
set_option maxHeartbeats 4000000 in
set_option maxRecDepth 100000 in
theorem m_X8_tried {E : gj_E} {σ : gj_S} {b1 : Int32} {b2 : Int32} {b3 : Int32} {b4 : Int32}  {x : Int32} {y : gj_S} (hf : f_X8_tried b1 b2 b3 b4 σ = some (x, y)) : gj_M E yX8_tried cX8_tried 6 (some .int) 6 141 [gj_r 0, gj_i b1, gj_i b2, gj_i b3, gj_i b4] σ (some (gj_i x)) y := by
  refine gj_body (lv := [(0, gj_r 0), (1, gj_i b1), (2, gj_i b2), (3, gj_i b3), (4, gj_i b4)]) (by decide +kernel) (Nat.le_of_ble_eq_true rfl) rfl (fun X hO => ?_)
  replace hO : gj_O E X RX8 cX8_tried 6 (some .int) 6 141 := hO
  unfold f_X8_tried at hf
  refine gj_aload_n hO 0 dX8_tried_0 rfl rfl ?_
  refine gj_iload_n hO 1 dX8_tried_1 rfl rfl ?_
  refine gj_iload_n hO 2 dX8_tried_2 rfl rfl ?_
  refine gj_iload_n hO 3 dX8_tried_3 rfl rfl ?_
  obtain ⟨x1, hc1, hf⟩ := gj_b hf
  refine ca_X8_canBeTried hO  hc1 wk_531 (by decide) (by decide) (Nat.le_of_ble_eq_true rfl) dX8_tried_4 ?_
  refine gj_if_ne (tgt := 12) hO dX8_tried_7 (by decide) (fun h => ?_) (fun h => ?_)
  · replace hf := gj_f h hf
    refine gj_aload_n hO 0 dX8_tried_12 rfl rfl ?_
    refine gt_X8_5 hO wk_532 dX8_tried_13 ?_
    refine gt_X7_0 hO kd_35 kl_35 wk_186 dX8_tried_16 ?_
    refine gj_astore (lv2 := [(5, gj_r 36), (0, gj_r 0), (1, gj_i b1), (2, gj_i b2), (3, gj_i b3), (4, gj_i b4)]) hO dX8_tried_19 (by decide) rfl ?_
    refine gj_aload hO 0 dX8_tried_21 rfl ?_
    refine gj_aload_n hO 1 dX8_tried_23 rfl rfl ?_
    refine gt_X8_4 hO wk_185 dX8_tried_24 ?_
    refine gt_X7_0 hO kd_16 kl_16 wk_186 dX8_tried_27 ?_
    obtain ⟨x2, hc2, hf⟩ := gj_b hf
    refine ca_X1_copyFrom hO isP_36 isP_17 hc2 wk_188 (by decide) (by decide) (Nat.le_of_ble_eq_true rfl) dX8_tried_30 ?_
    refine gj_iload_n hO 2 dX8_tried_33 rfl rfl ?_
    obtain ⟨z3, hz3, hf⟩ := gj_b hf
    have J3 : gj_G E X 6 (some (gj_i x)) y 72 [(0, gj_r 0), (4, gj_i b4), (5, gj_r 36)] [] z3 := by
      refine gj_aload_n hO 0 dX8_tried_72 rfl rfl ?_
      refine gt_X8_5 hO wk_532 dX8_tried_73 ?_
      obtain ⟨x7, hc7, hf⟩ := gj_b hf
      refine ca_X7_beginAll hO isY_35 hc7 wk_192 (by decide) (by decide) (Nat.le_of_ble_eq_true rfl) dX8_tried_76 ?_
      refine gj_aload_n hO 0 dX8_tried_79 rfl rfl ?_
      refine gt_X8_5 hO wk_532 dX8_tried_80 ?_
      refine gj_ldcw hO wk_533 dX8_tried_83 ?_
      obtain ⟨⟨x8_v, x8_s⟩, hc8, hf⟩ := gj_b hf
      dsimp only at hf
      refine ca_X7_makePivots hO isY_35 hc8 wk_408 (by decide) (by decide) (Nat.le_of_ble_eq_true rfl) dX8_tried_86 ?_
      refine gj_pop hO dX8_tried_89 trivial ?_
      refine gj_iload hO 1 dX8_tried_90 rfl ?_
      refine gj_if_eq (tgt := 103) hO dX8_tried_92 (by decide) (fun h => ?_) (fun h => ?_)
      · replace hf := gj_t h hf
        refine gj_aload hO 2 dX8_tried_103 rfl ?_
        obtain ⟨x9, hc9, hf⟩ := gj_b hf
        refine ca_X1_sumCost hO isP_36 hc9 wk_427 (by decide) (by decide) (Nat.le_of_ble_eq_true rfl) dX8_tried_105 ?_
        replace hf := Option.some.inj hf
        simp only [Prod.mk.injEq] at hf
        obtain ⟨rfl, rfl⟩ := hf
        exact gj_iret hO dX8_tried_108
      · replace hf := gj_f h hf
        refine gj_aload hO 2 dX8_tried_95 rfl ?_
        obtain ⟨x10, hc10, hf⟩ := gj_b hf
        refine ca_X1_sumLack hO isP_36 hc10 wk_446 (by decide) (by decide) (Nat.le_of_ble_eq_true rfl) dX8_tried_97 ?_
        refine gj_goto (tgt := 108) hO dX8_tried_100 (by decide) ?_
        replace hf := Option.some.inj hf
        simp only [Prod.mk.injEq] at hf
        obtain ⟨rfl, rfl⟩ := hf
        exact gj_iret hO dX8_tried_108
    refine gj_if_ne (tgt := 48) hO dX8_tried_34 (by decide) (fun h => ?_) (fun h => ?_)
    · replace hz3 := gj_f h hz3
      refine gj_iload_n hO 2 dX8_tried_48 rfl rfl ?_
      refine gj_iconst (v := 1) hO dX8_tried_49 (by decide) ?_
      refine gj_icmp_ne (tgt := 64) hO dX8_tried_50 (by decide) (fun h => ?_) (fun h => ?_)
      · replace hz3 := gj_f h hz3
        refine gj_aload hO 0 dX8_tried_64 rfl ?_
        refine gt_X1_5 hO kd_36 kl_36 wk_218 dX8_tried_66 ?_
        refine gj_iload_n hO 3 dX8_tried_69 rfl rfl ?_
        refine gj_iload_n hO 4 dX8_tried_70 rfl rfl ?_
        obtain ⟨hb4, hz3⟩ := gj_c hz3
        refine gj_iast hO kl_37 kd_37 hb4 dX8_tried_71 ?_
        obtain rfl := Option.some.inj hz3
        refine gj_sub (lv2 := [(0, gj_r 0), (4, gj_i b4), (5, gj_r 36)]) [1, 5, 0] rfl ?_
        exact J3
      · replace hz3 := gj_t h hz3
        refine gj_aload hO 0 dX8_tried_53 rfl ?_
        refine gt_X1_9 hO kd_36 kl_36 wk_248 dX8_tried_55 ?_
        refine gj_iload_n hO 3 dX8_tried_58 rfl rfl ?_
        refine gj_iload_n hO 4 dX8_tried_59 rfl rfl ?_
        obtain ⟨hb5, hz3⟩ := gj_c hz3
        refine gj_iast hO kl_41 kd_41 hb5 dX8_tried_60 ?_
        refine gj_goto (tgt := 72) hO dX8_tried_61 (by decide) ?_
        obtain rfl := Option.some.inj hz3
        refine gj_sub (lv2 := [(0, gj_r 0), (4, gj_i b4), (5, gj_r 36)]) [1, 5, 0] rfl ?_
        exact J3
    · replace hz3 := gj_t h hz3
      refine gj_aload hO 0 dX8_tried_37 rfl ?_
      refine gt_X1_8 hO kd_36 kl_36 wk_246 dX8_tried_39 ?_
      refine gj_iload_n hO 3 dX8_tried_42 rfl rfl ?_
      refine gj_iload_n hO 4 dX8_tried_43 rfl rfl ?_
      obtain ⟨hb6, hz3⟩ := gj_c hz3
      refine gj_iast hO kl_40 kd_40 hb6 dX8_tried_44 ?_
      refine gj_goto (tgt := 72) hO dX8_tried_45 (by decide) ?_
      obtain rfl := Option.some.inj hz3
      refine gj_sub (lv2 := [(0, gj_r 0), (4, gj_i b4), (5, gj_r 36)]) [1, 5, 0] rfl ?_
      exact J3
  · replace hf := gj_t h hf
    refine gj_iconst (v := (-1)) hO dX8_tried_10 (by decide) ?_
    replace hf := Option.some.inj hf
    simp only [Prod.mk.injEq] at hf
    obtain ⟨rfl, rfl⟩ := hf
    exact gj_iret hO dX8_tried_11
set_option maxHeartbeats 4000000 in
set_option maxRecDepth 100000 in
theorem ca_X8_tried {E : gj_E} {X : gj_X} {own : String} {cc : ByteArray} {nL : Nat} {rt : Option FieldType} {fr lo : Nat} {ce sl : Nat} {Q : State → Prop} {pc : Nat} {lv : List (Nat × gj_V)} {st : List gj_V} {σ : gj_S} (hO : gj_O E X own cc nL rt fr lo) {b1 : Int32} {b2 : Int32} {b3 : Int32} {b4 : Int32}  {idx : Nat} {x : Int32} {y : gj_S} (hf : f_X8_tried b1 b2 b3 b4 σ = some (x, y)) (hl : Cond.methodLink own idx yX8_tried ∈ gj_gw) (hf1 : 7 ≤ fr) (hf2 : 166 ≤ lo) (hcat : ((st.map (gj_tv E.2.1)).map fun v => v.category).sum ≤ 8) (hd : decode cc pc = .ok (.invokevirtual idx, 3)) (k : gj_H E X nL ce sl Q (pc + 3) lv ((gj_i x) :: st) y) : gj_H E X nL ce sl Q pc lv (gj_i b4 :: gj_i b3 :: gj_i b2 :: gj_i b1 :: gj_r 0 :: st) σ :=
  gj_callV hO (o := 0) (vs := [gj_i b1, gj_i b2, gj_i b3, gj_i b4]) (m_X8_tried  hf) (gj_Iany (by decide)) hl wk_534 wk_535 wk_4 wk_536 kl_0 kd_0 (by decide) (ci := 8) rfl (n := 4) (by decide +kernel) rfl hf1 hf2 rfl hcat hd k
def f_X7_roomUp (b0 : Nat) (b1 : Int32) (b2 : Int32) (σ : gj_S) : Option Int32 := (if gj_in b1 9 then (if gj_in (σ.1 ((b0 + 10) + 1) (Int32.toNatClampNeg b1)) 24 then ((if (σ.1 ((b0 + 1) + 2) (Int32.toNatClampNeg (σ.1 ((b0 + 10) + 1) (Int32.toNatClampNeg b1)))) = b1 then some (1 : Int32) else some (0 : Int32) : Option Int32).bind fun z3 => (if z3 = b2 then ((f_X1_roomOf (b0 + 1) (σ.1 ((b0 + 10) + 1) (Int32.toNatClampNeg b1)) (1 : Int32) σ).bind fun x5 => some x5) else ((f_X1_roomOf (b0 + 1) (σ.1 ((b0 + 10) + 1) (Int32.toNatClampNeg b1)) (0 : Int32) σ).bind fun x4 => some x4))) else none) else none)
set_option maxHeartbeats 4000000 in
set_option maxRecDepth 100000 in
theorem m_X7_roomUp {E : gj_E} {σ : gj_S} {b0 : Nat} {b1 : Int32} {b2 : Int32} (g0 : isY b0) {x : Int32} (hf : f_X7_roomUp b0 b1 b2 σ = some x) : gj_M E yX7_roomUp cX7_roomUp 4 (some .int) 1 22 [gj_r b0, gj_i b1, gj_i b2] σ (some (gj_i x)) σ := by
  refine gj_body (lv := [(0, gj_r b0), (1, gj_i b1), (2, gj_i b2)]) (by decide +kernel) (Nat.le_of_ble_eq_true rfl) rfl (fun X hO => ?_)
  replace hO : gj_O E X RX7 cX7_roomUp 4 (some .int) 1 22 := hO
  unfold f_X7_roomUp at hf
  refine gj_aload_n hO 0 dX7_roomUp_0 rfl rfl ?_
  refine gt_X7_1 hO (kdY_0 g0) (klY_0 g0) wk_166 dX7_roomUp_1 ?_
  refine gt_X5_0 hO (kdT_0 (isY_T g0)) (klT_0 (isY_T g0)) wk_341 dX7_roomUp_4 ?_
  refine gj_iload_n hO 1 dX7_roomUp_7 rfl rfl ?_
  obtain ⟨hb1, hf⟩ := gj_c hf
  refine gj_iald hO (klT_1 (isY_T g0)) (kdT_1 (isY_T g0)) hb1 dX7_roomUp_8 ?_
  refine gj_istore_n (lv2 := [(3, gj_i (σ.1 ((b0 + 10) + 1) (Int32.toNatClampNeg b1))), (0, gj_r b0), (1, gj_i b1), (2, gj_i b2)]) hO dX7_roomUp_9 rfl (by decide) rfl ?_
  refine gj_aload_n hO 1 dX7_roomUp_10 rfl rfl ?_
  refine gt_X7_0 hO (kdY_0 g0) (klY_0 g0) wk_167 dX7_roomUp_11 ?_
  refine gj_iload_n hO 0 dX7_roomUp_14 rfl rfl ?_
  refine gj_aload_n hO 1 dX7_roomUp_15 rfl rfl ?_
  refine gt_X7_0 hO (kdY_0 g0) (klY_0 g0) wk_167 dX7_roomUp_16 ?_
  refine gt_X1_6 hO (kdP_0 (isY_P g0)) (klP_0 (isY_P g0)) wk_238 dX7_roomUp_19 ?_
  refine gj_iload_n hO 0 dX7_roomUp_22 rfl rfl ?_
  obtain ⟨hb2, hf⟩ := gj_c hf
  refine gj_iald hO (klP_2 (isY_P g0)) (kdP_2 (isY_P g0)) hb2 dX7_roomUp_23 ?_
  refine gj_iload_n hO 2 dX7_roomUp_24 rfl rfl ?_
  obtain ⟨z3, hz3, hf⟩ := gj_b hf
  have J3 : gj_G E X 4 (some (gj_i x)) σ 33 [(2, gj_i b2)] [gj_i z3, gj_i (σ.1 ((b0 + 10) + 1) (Int32.toNatClampNeg b1)), gj_r (b0 + 1)] σ := by
    refine gj_iload_n hO 0 dX7_roomUp_33 rfl rfl ?_
    refine gj_icmp_ne (tgt := 41) hO dX7_roomUp_34 (by decide) (fun h => ?_) (fun h => ?_)
    · replace hf := gj_f h hf
      refine gj_iconst (v := 0) hO dX7_roomUp_41 (by decide) ?_
      obtain ⟨x4, hc4, hf⟩ := gj_b hf
      refine ca_X1_roomOf hO (isY_P g0) hc4 wk_342 (by decide) (by decide) (Nat.le_of_ble_eq_true rfl) dX7_roomUp_42 ?_
      obtain rfl := Option.some.inj hf
      exact gj_iret hO dX7_roomUp_45
    · replace hf := gj_t h hf
      refine gj_iconst (v := 1) hO dX7_roomUp_37 (by decide) ?_
      refine gj_goto (tgt := 42) hO dX7_roomUp_38 (by decide) ?_
      obtain ⟨x5, hc5, hf⟩ := gj_b hf
      refine ca_X1_roomOf hO (isY_P g0) hc5 wk_342 (by decide) (by decide) (Nat.le_of_ble_eq_true rfl) dX7_roomUp_42 ?_
      obtain rfl := Option.some.inj hf
      exact gj_iret hO dX7_roomUp_45
  refine gj_icmp_ne (tgt := 32) hO dX7_roomUp_25 (by decide) (fun h => ?_) (fun h => ?_)
  · replace hz3 := gj_f h hz3
    refine gj_iconst (v := 0) hO dX7_roomUp_32 (by decide) ?_
    obtain rfl := Option.some.inj hz3
    refine gj_sub (lv2 := [(2, gj_i b2)]) [3] rfl ?_
    exact J3
  · replace hz3 := gj_t h hz3
    refine gj_iconst (v := 1) hO dX7_roomUp_28 (by decide) ?_
    refine gj_goto (tgt := 33) hO dX7_roomUp_29 (by decide) ?_
    obtain rfl := Option.some.inj hz3
    refine gj_sub (lv2 := [(2, gj_i b2)]) [3] rfl ?_
    exact J3
set_option maxHeartbeats 4000000 in
set_option maxRecDepth 100000 in
theorem ca_X7_roomUp {E : gj_E} {X : gj_X} {own : String} {cc : ByteArray} {nL : Nat} {rt : Option FieldType} {fr lo : Nat} {ce sl : Nat} {Q : State → Prop} {pc : Nat} {lv : List (Nat × gj_V)} {st : List gj_V} {σ : gj_S} (hO : gj_O E X own cc nL rt fr lo) {b0 : Nat} {b1 : Int32} {b2 : Int32} (g0 : isY b0) {idx : Nat} {x : Int32} (hf : f_X7_roomUp b0 b1 b2 σ = some x) (hl : Cond.methodLink own idx yX7_roomUp ∈ gj_gw) (hf1 : 2 ≤ fr) (hf2 : 45 ≤ lo) (hcat : ((st.map (gj_tv E.2.1)).map fun v => v.category).sum ≤ 8) (hd : decode cc pc = .ok (.invokevirtual idx, 3)) (k : gj_H E X nL ce sl Q (pc + 3) lv ((gj_i x) :: st) σ) : gj_H E X nL ce sl Q pc lv (gj_i b2 :: gj_i b1 :: gj_r b0 :: st) σ :=
  gj_callV hO (o := b0) (vs := [gj_i b1, gj_i b2]) (m_X7_roomUp g0 hf) (gj_Iany (by decide)) hl wk_537 wk_538 wk_171 wk_539 (klY_0 g0) (kdY_0 g0) (by decide) (ci := 7) rfl (n := 2) (by decide +kernel) rfl hf1 hf2 rfl hcat hd k
def fb_X7_findRefusing_l5 (b0 : Nat) (b2 : Int32) (σ : gj_S) (a10005 : (Int32 × Int32)) : Option ((Int32 ⊕ Unit) ⊕ (Int32 × Int32)) := (if (9 : Int32) ≤ a10005.2 then some (.inl (.inr ())) else (if a10005.1 = (8 : Int32) then some (.inl (.inr ())) else ((if b2 ≤ 0 then some (0 : Int32) else some (1 : Int32) : Option Int32).bind fun z10501 => ((f_X7_roomUp b0 a10005.1 z10501 σ).bind fun x10502 => (if (if 0 ≤ b2 then b2 else 0 - b2) ≤ x10502 then (if gj_in a10005.1 9 then some (.inr ((σ.1 ((b0 + 10) + 2) (Int32.toNatClampNeg a10005.1)), (a10005.2 + 1))) else none) else (if gj_in a10005.1 9 then some (.inl (.inl (σ.1 ((b0 + 10) + 1) (Int32.toNatClampNeg a10005.1)))) else none))))))
def f_X7_findRefusing (b0 : Nat) (b1 : Int32) (b2 : Int32) (σ : gj_S) : Option Int32 := ((gj_lp (fb_X7_findRefusing_l5 b0 b2 σ) 5000 (b1, (0 : Int32))).bind fun y1 => Sum.elim (fun q => some q) (fun z1 => some (-1 : Int32)) y1)
set_option maxHeartbeats 4000000 in
set_option maxRecDepth 100000 in
theorem sb_X7_findRefusing_l5 {E : gj_E} {X : gj_X} {r : Option gj_V} {τ : gj_S} (hO : gj_O E X RX7 cX7_findRefusing 5 (some .int) 2 45) {b0 : Nat} {b2 : Int32} {σ : gj_S} (g0 : isY b0) {a10005_0 : Int32} {a10005_1 : Int32} {x : (Int32 ⊕ Unit) ⊕ (Int32 × Int32)} (hf : fb_X7_findRefusing_l5 b0 b2 σ (a10005_0, a10005_1) = some x) (K : gj_K (fun y1 => gj_K (fun q => r = (some (gj_i q)) ∧ τ = σ) (fun z1 => gj_G E X 5 r τ 65 [] [] σ) y1) (fun a10005 => gj_G E X 5 r τ 5 [(0, gj_r b0), (2, gj_i b2), (3, gj_i a10005.1), (4, gj_i a10005.2)] [] σ) x) : gj_G E X 5 r τ 5 [(0, gj_r b0), (2, gj_i b2), (3, gj_i a10005_0), (4, gj_i a10005_1)] [] σ := by
  unfold fb_X7_findRefusing_l5 at hf
  dsimp only at hf
  refine gj_iload hO 3 dX7_findRefusing_5 rfl ?_
  refine gj_bipush (v := 9) hO dX7_findRefusing_7 (by decide) ?_
  refine gj_icmp_ge (tgt := 65) hO dX7_findRefusing_9 (by decide) (fun h => ?_) (fun h => ?_)
  · replace hf := gj_t h hf
    obtain rfl := Option.some.inj hf
    refine gj_sub (lv2 := []) [] rfl ?_
    exact K
  · replace hf := gj_f h hf
    refine gj_iload_n hO 2 dX7_findRefusing_12 rfl rfl ?_
    refine gj_bipush (v := 8) hO dX7_findRefusing_13 (by decide) ?_
    refine gj_icmp_eq (tgt := 65) hO dX7_findRefusing_15 (by decide) (fun h => ?_) (fun h => ?_)
    · replace hf := gj_t h hf
      obtain rfl := Option.some.inj hf
      refine gj_sub (lv2 := []) [] rfl ?_
      exact K
    · replace hf := gj_f h hf
      refine gj_aload_n hO 0 dX7_findRefusing_18 rfl rfl ?_
      refine gj_iload_n hO 2 dX7_findRefusing_19 rfl rfl ?_
      refine gj_iload_n hO 1 dX7_findRefusing_20 rfl rfl ?_
      obtain ⟨z10501, hz10501, hf⟩ := gj_b hf
      have J10501 : gj_G E X 5 r τ 29 [(0, gj_r b0), (2, gj_i b2), (3, gj_i a10005_0), (4, gj_i a10005_1)] [gj_i z10501, gj_i a10005_0, gj_r b0] σ := by
        obtain ⟨x10502, hc10502, hf⟩ := gj_b hf
        refine ca_X7_roomUp hO g0 hc10502 wk_540 (by decide) (by decide) (Nat.le_of_ble_eq_true rfl) dX7_findRefusing_29 ?_
        refine gj_iload_n hO 1 dX7_findRefusing_32 rfl rfl ?_
        refine gj_mabs hO wk_507 (by decide) (by decide) (Nat.le_of_ble_eq_true rfl) dX7_findRefusing_33 ?_
        refine gj_icmp_ge (tgt := 49) hO dX7_findRefusing_36 (by decide) (fun h => ?_) (fun h => ?_)
        · replace hf := gj_t h hf
          refine gj_aload_n hO 0 dX7_findRefusing_49 rfl rfl ?_
          refine gt_X7_1 hO (kdY_0 g0) (klY_0 g0) wk_166 dX7_findRefusing_50 ?_
          refine gt_X5_1 hO (kdT_0 (isY_T g0)) (klT_0 (isY_T g0)) wk_541 dX7_findRefusing_53 ?_
          refine gj_iload_n hO 2 dX7_findRefusing_56 rfl rfl ?_
          obtain ⟨hb10503, hf⟩ := gj_c hf
          refine gj_iald hO (klT_2 (isY_T g0)) (kdT_2 (isY_T g0)) hb10503 dX7_findRefusing_57 ?_
          refine gj_istore_n (lv2 := [(3, gj_i (σ.1 ((b0 + 10) + 2) (Int32.toNatClampNeg a10005_0))), (0, gj_r b0), (2, gj_i b2), (4, gj_i a10005_1)]) hO dX7_findRefusing_58 rfl (by decide) rfl ?_
          refine gj_iinc (v := (a10005_1 + 1)) (lv2 := [(4, gj_i (a10005_1 + 1)), (3, gj_i (σ.1 ((b0 + 10) + 2) (Int32.toNatClampNeg a10005_0))), (0, gj_r b0), (2, gj_i b2)]) hO 3 dX7_findRefusing_59 rfl rfl (by decide) rfl ?_
          refine gj_goto (tgt := 5) hO dX7_findRefusing_62 (by decide) ?_
          obtain rfl := Option.some.inj hf
          refine gj_sub (lv2 := [(0, gj_r b0), (2, gj_i b2), (3, gj_i (σ.1 ((b0 + 10) + 2) (Int32.toNatClampNeg a10005_0))), (4, gj_i (a10005_1 + 1))]) [2, 3, 1, 0] rfl ?_
          exact K
        · replace hf := gj_f h hf
          refine gj_aload_n hO 0 dX7_findRefusing_39 rfl rfl ?_
          refine gt_X7_1 hO (kdY_0 g0) (klY_0 g0) wk_166 dX7_findRefusing_40 ?_
          refine gt_X5_0 hO (kdT_0 (isY_T g0)) (klT_0 (isY_T g0)) wk_341 dX7_findRefusing_43 ?_
          refine gj_iload_n hO 2 dX7_findRefusing_46 rfl rfl ?_
          obtain ⟨hb10504, hf⟩ := gj_c hf
          refine gj_iald hO (klT_1 (isY_T g0)) (kdT_1 (isY_T g0)) hb10504 dX7_findRefusing_47 ?_
          obtain rfl := Option.some.inj hf
          obtain ⟨rfl, rfl⟩ := K
          exact gj_iret hO dX7_findRefusing_48
      refine gj_if_le (tgt := 28) hO dX7_findRefusing_21 (by decide) (fun h => ?_) (fun h => ?_)
      · replace hz10501 := gj_t h hz10501
        refine gj_iconst (v := 0) hO dX7_findRefusing_28 (by decide) ?_
        obtain rfl := Option.some.inj hz10501
        refine gj_sub (lv2 := [(0, gj_r b0), (2, gj_i b2), (3, gj_i a10005_0), (4, gj_i a10005_1)]) [0, 1, 2, 3] rfl ?_
        exact J10501
      · replace hz10501 := gj_f h hz10501
        refine gj_iconst (v := 1) hO dX7_findRefusing_24 (by decide) ?_
        refine gj_goto (tgt := 29) hO dX7_findRefusing_25 (by decide) ?_
        obtain rfl := Option.some.inj hz10501
        refine gj_sub (lv2 := [(0, gj_r b0), (2, gj_i b2), (3, gj_i a10005_0), (4, gj_i a10005_1)]) [0, 1, 2, 3] rfl ?_
        exact J10501
set_option maxHeartbeats 4000000 in
set_option maxRecDepth 100000 in
theorem m_X7_findRefusing {E : gj_E} {σ : gj_S} {b0 : Nat} {b1 : Int32} {b2 : Int32} (g0 : isY b0) {x : Int32} (hf : f_X7_findRefusing b0 b1 b2 σ = some x) : gj_M E yX7_findRefusing cX7_findRefusing 5 (some .int) 2 45 [gj_r b0, gj_i b1, gj_i b2] σ (some (gj_i x)) σ := by
  refine gj_body (lv := [(0, gj_r b0), (1, gj_i b1), (2, gj_i b2)]) (by decide +kernel) (Nat.le_of_ble_eq_true rfl) rfl (fun X hO => ?_)
  replace hO : gj_O E X RX7 cX7_findRefusing 5 (some .int) 2 45 := hO
  unfold f_X7_findRefusing at hf
  refine gj_iload_n hO 1 dX7_findRefusing_0 rfl rfl ?_
  refine gj_istore_n (lv2 := [(3, gj_i b1), (0, gj_r b0), (1, gj_i b1), (2, gj_i b2)]) hO dX7_findRefusing_1 rfl (by decide) rfl ?_
  refine gj_iconst (v := 0) hO dX7_findRefusing_2 (by decide) ?_
  refine gj_istore (lv2 := [(4, gj_i (0 : Int32)), (3, gj_i b1), (0, gj_r b0), (1, gj_i b1), (2, gj_i b2)]) hO dX7_findRefusing_3 (by decide) rfl ?_
  obtain ⟨y1, hz1, hf⟩ := gj_b hf
  have J1 : (fun y1 => gj_K (fun q => (some (gj_i x)) = (some (gj_i q)) ∧ σ = σ) (fun z1 => gj_G E X 5 (some (gj_i x)) σ 65 [] [] σ) y1) y1 := by
    rcases y1 with q | z1
    · have hf : some q = some x := hf
      obtain rfl := Option.some.inj hf
      exact ⟨rfl, rfl⟩
    · dsimp only [Sum.elim] at hf
      refine gj_iconst (v := (-1)) hO dX7_findRefusing_65 (by decide) ?_
      obtain rfl := Option.some.inj hf
      exact gj_iret hO dX7_findRefusing_66
  refine gj_sub (lv2 := [(0, gj_r b0), (2, gj_i b2), (3, gj_i b1), (4, gj_i (0 : Int32))]) [2, 4, 1, 0] rfl ?_
  exact gj_loop (head := fun a10005 => gj_G E X 5 (some (gj_i x)) σ 5 [(0, gj_r b0), (2, gj_i b2), (3, gj_i a10005.1), (4, gj_i a10005.2)] [] σ) (exit := fun y1 => gj_K (fun q => (some (gj_i x)) = (some (gj_i q)) ∧ σ = σ) (fun z1 => gj_G E X 5 (some (gj_i x)) σ 65 [] [] σ) y1) (fun a10005 x hf K => by obtain ⟨a10005_0, a10005_1⟩ := a10005; exact sb_X7_findRefusing_l5 hO g0 hf K) _ _ _ hz1 J1
set_option maxHeartbeats 4000000 in
set_option maxRecDepth 100000 in
theorem ca_X7_findRefusing {E : gj_E} {X : gj_X} {own : String} {cc : ByteArray} {nL : Nat} {rt : Option FieldType} {fr lo : Nat} {ce sl : Nat} {Q : State → Prop} {pc : Nat} {lv : List (Nat × gj_V)} {st : List gj_V} {σ : gj_S} (hO : gj_O E X own cc nL rt fr lo) {b0 : Nat} {b1 : Int32} {b2 : Int32} (g0 : isY b0) {idx : Nat} {x : Int32} (hf : f_X7_findRefusing b0 b1 b2 σ = some x) (hl : Cond.methodLink own idx yX7_findRefusing ∈ gj_gw) (hf1 : 3 ≤ fr) (hf2 : 69 ≤ lo) (hcat : ((st.map (gj_tv E.2.1)).map fun v => v.category).sum ≤ 8) (hd : decode cc pc = .ok (.invokevirtual idx, 3)) (k : gj_H E X nL ce sl Q (pc + 3) lv ((gj_i x) :: st) σ) : gj_H E X nL ce sl Q pc lv (gj_i b2 :: gj_i b1 :: gj_r b0 :: st) σ :=
  gj_callV hO (o := b0) (vs := [gj_i b1, gj_i b2]) (m_X7_findRefusing g0 hf) (gj_Iany (by decide)) hl wk_542 wk_543 wk_171 wk_544 (klY_0 g0) (kdY_0 g0) (by decide) (ci := 7) rfl (n := 2) (by decide +kernel) rfl hf1 hf2 rfl hcat hd k
def fb_X7_shiftGift_l18 (b0 : Nat) (b2 : Int32) (a10018 : (Int32 × Int32 × gj_S)) : Option (gj_S ⊕ (Int32 × Int32 × gj_S)) := (if (9 : Int32) ≤ a10018.2.1 then some (.inl a10018.2.2) else (if a10018.1 = (8 : Int32) then some (.inl a10018.2.2) else (if gj_in a10018.1 9 then (if gj_in (a10018.2.2.1 ((b0 + 10) + 1) (Int32.toNatClampNeg a10018.1)) 24 then (if gj_in (a10018.2.2.1 ((b0 + 10) + 1) (Int32.toNatClampNeg a10018.1)) 24 then ((if (a10018.2.2.1 ((b0 + 1) + 2) (Int32.toNatClampNeg (a10018.2.2.1 ((b0 + 10) + 1) (Int32.toNatClampNeg a10018.1)))) = a10018.1 then some b2 else some (0 - b2) : Option Int32).bind fun z11804 => (if gj_in (a10018.2.2.1 ((b0 + 10) + 1) (Int32.toNatClampNeg a10018.1)) 24 then ((some (gj_sI a10018.2.2 ((b0 + 1) + 6) (upd (a10018.2.2.1 ((b0 + 1) + 6)) (Int32.toNatClampNeg (a10018.2.2.1 ((b0 + 10) + 1) (Int32.toNatClampNeg a10018.1))) ((a10018.2.2.1 ((b0 + 1) + 6) (Int32.toNatClampNeg (a10018.2.2.1 ((b0 + 10) + 1) (Int32.toNatClampNeg a10018.1)))) + z11804)))).bind fun s11806 => (if gj_in a10018.1 9 then some (.inr ((s11806.1 ((b0 + 10) + 2) (Int32.toNatClampNeg a10018.1)), (a10018.2.1 + 1), s11806)) else none)) else none)) else none) else none) else none)))
def f_X7_shiftGift (b0 : Nat) (b1 : Int32) (b2 : Int32) (σ : gj_S) : Option gj_S := (if gj_in b1 8 then (if gj_in b1 8 then ((gj_lp (fb_X7_shiftGift_l18 b0 b2) 5000 (b1, (0 : Int32), (gj_sI σ ((b0 + 1) + 1) (upd (σ.1 ((b0 + 1) + 1)) (Int32.toNatClampNeg b1) ((σ.1 ((b0 + 1) + 1) (Int32.toNatClampNeg b1)) + b2))))).bind fun z3 => some z3) else none) else none)
set_option maxHeartbeats 4000000 in
set_option maxRecDepth 100000 in
theorem sb_X7_shiftGift_l18 {E : gj_E} {X : gj_X} {r : Option gj_V} {τ : gj_S} (hO : gj_O E X RX7 cX7_shiftGift 6 none 0 0) {b0 : Nat} {b2 : Int32} (g0 : isY b0) {a10018_0 : Int32} {a10018_1 : Int32} {a10018_2 : gj_S} {x : gj_S ⊕ (Int32 × Int32 × gj_S)} (hf : fb_X7_shiftGift_l18 b0 b2 (a10018_0, a10018_1, a10018_2) = some x) (K : gj_K (fun z3 => gj_G E X 6 r τ 91 [] [] z3) (fun a10018 => gj_G E X 6 r τ 18 [(0, gj_r b0), (2, gj_i b2), (3, gj_i a10018.1), (4, gj_i a10018.2.1)] [] a10018.2.2) x) : gj_G E X 6 r τ 18 [(0, gj_r b0), (2, gj_i b2), (3, gj_i a10018_0), (4, gj_i a10018_1)] [] a10018_2 := by
  unfold fb_X7_shiftGift_l18 at hf
  dsimp only at hf
  refine gj_iload hO 3 dX7_shiftGift_18 rfl ?_
  refine gj_bipush (v := 9) hO dX7_shiftGift_20 (by decide) ?_
  refine gj_icmp_ge (tgt := 91) hO dX7_shiftGift_22 (by decide) (fun h => ?_) (fun h => ?_)
  · replace hf := gj_t h hf
    obtain rfl := Option.some.inj hf
    refine gj_sub (lv2 := []) [] rfl ?_
    exact K
  · replace hf := gj_f h hf
    refine gj_iload_n hO 2 dX7_shiftGift_25 rfl rfl ?_
    refine gj_bipush (v := 8) hO dX7_shiftGift_26 (by decide) ?_
    refine gj_icmp_eq (tgt := 91) hO dX7_shiftGift_28 (by decide) (fun h => ?_) (fun h => ?_)
    · replace hf := gj_t h hf
      obtain rfl := Option.some.inj hf
      refine gj_sub (lv2 := []) [] rfl ?_
      exact K
    · replace hf := gj_f h hf
      refine gj_aload_n hO 0 dX7_shiftGift_31 rfl rfl ?_
      refine gt_X7_1 hO (kdY_0 g0) (klY_0 g0) wk_166 dX7_shiftGift_32 ?_
      refine gt_X5_0 hO (kdT_0 (isY_T g0)) (klT_0 (isY_T g0)) wk_341 dX7_shiftGift_35 ?_
      refine gj_iload_n hO 2 dX7_shiftGift_38 rfl rfl ?_
      obtain ⟨hb11801, hf⟩ := gj_c hf
      refine gj_iald hO (klT_1 (isY_T g0)) (kdT_1 (isY_T g0)) hb11801 dX7_shiftGift_39 ?_
      refine gj_istore (lv2 := [(5, gj_i (a10018_2.1 ((b0 + 10) + 1) (Int32.toNatClampNeg a10018_0))), (0, gj_r b0), (2, gj_i b2), (3, gj_i a10018_0), (4, gj_i a10018_1)]) hO dX7_shiftGift_40 (by decide) rfl ?_
      refine gj_aload_n hO 1 dX7_shiftGift_42 rfl rfl ?_
      refine gt_X7_0 hO (kdY_0 g0) (klY_0 g0) wk_167 dX7_shiftGift_43 ?_
      refine gt_X1_10 hO (kdP_0 (isY_P g0)) (klP_0 (isY_P g0)) wk_362 dX7_shiftGift_46 ?_
      refine gj_iload hO 0 dX7_shiftGift_49 rfl ?_
      refine gj_dup2 hO dX7_shiftGift_51 trivial trivial ?_
      obtain ⟨hb11802, hf⟩ := gj_c hf
      refine gj_iald hO (klP_6 (isY_P g0)) (kdP_6 (isY_P g0)) hb11802 dX7_shiftGift_52 ?_
      refine gj_aload_n hO 1 dX7_shiftGift_53 rfl rfl ?_
      refine gt_X7_0 hO (kdY_0 g0) (klY_0 g0) wk_167 dX7_shiftGift_54 ?_
      refine gt_X1_6 hO (kdP_0 (isY_P g0)) (klP_0 (isY_P g0)) wk_238 dX7_shiftGift_57 ?_
      refine gj_iload hO 0 dX7_shiftGift_60 rfl ?_
      obtain ⟨hb11803, hf⟩ := gj_c hf
      refine gj_iald hO (klP_2 (isY_P g0)) (kdP_2 (isY_P g0)) hb11803 dX7_shiftGift_62 ?_
      refine gj_iload_n hO 3 dX7_shiftGift_63 rfl rfl ?_
      obtain ⟨z11804, hz11804, hf⟩ := gj_b hf
      have J11804 : gj_G E X 6 r τ 73 [(0, gj_r b0), (2, gj_i b2), (3, gj_i a10018_0), (4, gj_i a10018_1)] [gj_i z11804, gj_i (a10018_2.1 ((b0 + 1) + 6) (Int32.toNatClampNeg (a10018_2.1 ((b0 + 10) + 1) (Int32.toNatClampNeg a10018_0)))), gj_i (a10018_2.1 ((b0 + 10) + 1) (Int32.toNatClampNeg a10018_0)), gj_r ((b0 + 1) + 6)] a10018_2 := by
        refine gj_iadd hO dX7_shiftGift_73 ?_
        obtain ⟨hb11805, hf⟩ := gj_c hf
        refine gj_iast hO (klP_6 (isY_P g0)) (kdP_6 (isY_P g0)) hb11805 dX7_shiftGift_74 ?_
        obtain ⟨s11806, e11806, hf⟩ := gj_b hf
        refine gj_eqS (Option.some.inj e11806) ?_
        refine gj_aload_n hO 0 dX7_shiftGift_75 rfl rfl ?_
        refine gt_X7_1 hO (kdY_0 g0) (klY_0 g0) wk_166 dX7_shiftGift_76 ?_
        refine gt_X5_1 hO (kdT_0 (isY_T g0)) (klT_0 (isY_T g0)) wk_541 dX7_shiftGift_79 ?_
        refine gj_iload_n hO 2 dX7_shiftGift_82 rfl rfl ?_
        obtain ⟨hb11807, hf⟩ := gj_c hf
        refine gj_iald hO (klT_2 (isY_T g0)) (kdT_2 (isY_T g0)) hb11807 dX7_shiftGift_83 ?_
        refine gj_istore_n (lv2 := [(3, gj_i (s11806.1 ((b0 + 10) + 2) (Int32.toNatClampNeg a10018_0))), (0, gj_r b0), (2, gj_i b2), (4, gj_i a10018_1)]) hO dX7_shiftGift_84 rfl (by decide) rfl ?_
        refine gj_iinc (v := (a10018_1 + 1)) (lv2 := [(4, gj_i (a10018_1 + 1)), (3, gj_i (s11806.1 ((b0 + 10) + 2) (Int32.toNatClampNeg a10018_0))), (0, gj_r b0), (2, gj_i b2)]) hO 3 dX7_shiftGift_85 rfl rfl (by decide) rfl ?_
        refine gj_goto (tgt := 18) hO dX7_shiftGift_88 (by decide) ?_
        obtain rfl := Option.some.inj hf
        refine gj_sub (lv2 := [(0, gj_r b0), (2, gj_i b2), (3, gj_i (s11806.1 ((b0 + 10) + 2) (Int32.toNatClampNeg a10018_0))), (4, gj_i (a10018_1 + 1))]) [2, 3, 1, 0] rfl ?_
        exact K
      refine gj_icmp_ne (tgt := 71) hO dX7_shiftGift_64 (by decide) (fun h => ?_) (fun h => ?_)
      · replace hz11804 := gj_f h hz11804
        refine gj_iload_n hO 2 dX7_shiftGift_71 rfl rfl ?_
        refine gj_ineg hO dX7_shiftGift_72 ?_
        obtain rfl := Option.some.inj hz11804
        refine gj_sub (lv2 := [(0, gj_r b0), (2, gj_i b2), (3, gj_i a10018_0), (4, gj_i a10018_1)]) [1, 2, 3, 4] rfl ?_
        exact J11804
      · replace hz11804 := gj_t h hz11804
        refine gj_iload_n hO 2 dX7_shiftGift_67 rfl rfl ?_
        refine gj_goto (tgt := 73) hO dX7_shiftGift_68 (by decide) ?_
        obtain rfl := Option.some.inj hz11804
        refine gj_sub (lv2 := [(0, gj_r b0), (2, gj_i b2), (3, gj_i a10018_0), (4, gj_i a10018_1)]) [1, 2, 3, 4] rfl ?_
        exact J11804
set_option maxHeartbeats 4000000 in
set_option maxRecDepth 100000 in
theorem m_X7_shiftGift {E : gj_E} {σ : gj_S} {b0 : Nat} {b1 : Int32} {b2 : Int32} (g0 : isY b0) {x : gj_S} (hf : f_X7_shiftGift b0 b1 b2 σ = some x) : gj_M E yX7_shiftGift cX7_shiftGift 6 none 0 0 [gj_r b0, gj_i b1, gj_i b2] σ none x := by
  refine gj_body (lv := [(0, gj_r b0), (1, gj_i b1), (2, gj_i b2)]) (by decide +kernel) (Nat.le_of_ble_eq_true rfl) rfl (fun X hO => ?_)
  replace hO : gj_O E X RX7 cX7_shiftGift 6 none 0 0 := hO
  unfold f_X7_shiftGift at hf
  refine gj_aload_n hO 0 dX7_shiftGift_0 rfl rfl ?_
  refine gt_X7_0 hO (kdY_0 g0) (klY_0 g0) wk_167 dX7_shiftGift_1 ?_
  refine gt_X1_5 hO (kdP_0 (isY_P g0)) (klP_0 (isY_P g0)) wk_454 dX7_shiftGift_4 ?_
  refine gj_iload_n hO 1 dX7_shiftGift_7 rfl rfl ?_
  refine gj_dup2 hO dX7_shiftGift_8 trivial trivial ?_
  obtain ⟨hb1, hf⟩ := gj_c hf
  refine gj_iald hO (klP_1 (isY_P g0)) (kdP_1 (isY_P g0)) hb1 dX7_shiftGift_9 ?_
  refine gj_iload_n hO 2 dX7_shiftGift_10 rfl rfl ?_
  refine gj_iadd hO dX7_shiftGift_11 ?_
  obtain ⟨hb2, hf⟩ := gj_c hf
  refine gj_iast hO (klP_1 (isY_P g0)) (kdP_1 (isY_P g0)) hb2 dX7_shiftGift_12 ?_
  refine gj_iload_n hO 1 dX7_shiftGift_13 rfl rfl ?_
  refine gj_istore_n (lv2 := [(3, gj_i b1), (0, gj_r b0), (1, gj_i b1), (2, gj_i b2)]) hO dX7_shiftGift_14 rfl (by decide) rfl ?_
  refine gj_iconst (v := 0) hO dX7_shiftGift_15 (by decide) ?_
  refine gj_istore (lv2 := [(4, gj_i (0 : Int32)), (3, gj_i b1), (0, gj_r b0), (1, gj_i b1), (2, gj_i b2)]) hO dX7_shiftGift_16 (by decide) rfl ?_
  obtain ⟨z3, hz3, hf⟩ := gj_b hf
  have J3 : gj_G E X 6 none x 91 [] [] z3 := by
    obtain rfl := Option.some.inj hf
    exact gj_vret hO dX7_shiftGift_91
  refine gj_sub (lv2 := [(0, gj_r b0), (2, gj_i b2), (3, gj_i b1), (4, gj_i (0 : Int32))]) [2, 4, 1, 0] rfl ?_
  exact gj_loop (head := fun a10018 => gj_G E X 6 none x 18 [(0, gj_r b0), (2, gj_i b2), (3, gj_i a10018.1), (4, gj_i a10018.2.1)] [] a10018.2.2) (exit := fun z3 => gj_G E X 6 none x 91 [] [] z3) (fun a10018 x hf K => by obtain ⟨a10018_0, a10018_1, a10018_2⟩ := a10018; exact sb_X7_shiftGift_l18 hO g0 hf K) _ _ _ hz3 J3
set_option maxHeartbeats 4000000 in
set_option maxRecDepth 100000 in
theorem ca_X7_shiftGift {E : gj_E} {X : gj_X} {own : String} {cc : ByteArray} {nL : Nat} {rt : Option FieldType} {fr lo : Nat} {ce sl : Nat} {Q : State → Prop} {pc : Nat} {lv : List (Nat × gj_V)} {st : List gj_V} {σ : gj_S} (hO : gj_O E X own cc nL rt fr lo) {b0 : Nat} {b1 : Int32} {b2 : Int32} (g0 : isY b0) {idx : Nat} {x : gj_S} (hf : f_X7_shiftGift b0 b1 b2 σ = some x) (hl : Cond.methodLink own idx yX7_shiftGift ∈ gj_gw) (hf1 : 1 ≤ fr) (hf2 : 25 ≤ lo) (hcat : ((st.map (gj_tv E.2.1)).map fun v => v.category).sum ≤ 8) (hd : decode cc pc = .ok (.invokevirtual idx, 3)) (k : gj_H E X nL ce sl Q (pc + 3) lv (st) x) : gj_H E X nL ce sl Q pc lv (gj_i b2 :: gj_i b1 :: gj_r b0 :: st) σ :=
  gj_callV hO (o := b0) (vs := [gj_i b1, gj_i b2]) (m_X7_shiftGift g0 hf) (gj_Iany (by decide)) hl wk_545 wk_546 wk_171 wk_547 (klY_0 g0) (kdY_0 g0) (by decide) (ci := 7) rfl (n := 2) (by decide +kernel) rfl hf1 hf2 rfl hcat hd k
def f_X8_load (b1 : Int32) (b2 : Int32) (σ : gj_S) : Option (Int32 × gj_S) := ((f_X1_hasDock 17 b1 σ).bind fun x1 => (if x1 = 0 then some ((-1 : Int32), σ) else (if b2 = 0 then some ((-1 : Int32), σ) else (if gj_in b1 8 then ((f_X8_isGift ((Int32.toInt64 (σ.1 18 (Int32.toNatClampNeg b1))) + (Int32.toInt64 b2))).bind fun x3 => (if x3 = 0 then some ((-1 : Int32), σ) else ((f_X7_findRefusing 16 b1 b2 σ).bind fun x4 => (if x4 = (-1 : Int32) then ((f_X0_remember σ).bind fun x5 => ((f_X7_shiftGift 16 b1 b2 x5).bind fun x6 => (if gj_in b1 9 then some ((x6.1 29 (Int32.toNatClampNeg b1)), x6) else none))) else some (((-2 : Int32) - x4), σ))))) else none))))
set_option maxHeartbeats 4000000 in
set_option maxRecDepth 100000 in
theorem m_X8_load {E : gj_E} {σ : gj_S} {b1 : Int32} {b2 : Int32}  {x : Int32} {y : gj_S} (hf : f_X8_load b1 b2 σ = some (x, y)) : gj_M E yX8_load cX8_load 4 (some .int) 3 162 [gj_r 0, gj_i b1, gj_i b2] σ (some (gj_i x)) y := by
  refine gj_body (lv := [(0, gj_r 0), (1, gj_i b1), (2, gj_i b2)]) (by decide +kernel) (Nat.le_of_ble_eq_true rfl) rfl (fun X hO => ?_)
  replace hO : gj_O E X RX8 cX8_load 4 (some .int) 3 162 := hO
  unfold f_X8_load at hf
  refine gj_aload_n hO 0 dX8_load_0 rfl rfl ?_
  refine gt_X8_4 hO wk_185 dX8_load_1 ?_
  refine gt_X7_0 hO kd_16 kl_16 wk_186 dX8_load_4 ?_
  refine gj_iload_n hO 1 dX8_load_7 rfl rfl ?_
  obtain ⟨x1, hc1, hf⟩ := gj_b hf
  refine ca_X1_hasDock hO isP_17 hc1 wk_217 (by decide) (by decide) (Nat.le_of_ble_eq_true rfl) dX8_load_8 ?_
  refine gj_if_eq (tgt := 40) hO dX8_load_11 (by decide) (fun h => ?_) (fun h => ?_)
  · replace hf := gj_t h hf
    refine gj_iconst (v := (-1)) hO dX8_load_40 (by decide) ?_
    replace hf := Option.some.inj hf
    simp only [Prod.mk.injEq] at hf
    obtain ⟨rfl, rfl⟩ := hf
    exact gj_iret hO dX8_load_41
  · replace hf := gj_f h hf
    refine gj_iload_n hO 2 dX8_load_14 rfl rfl ?_
    refine gj_if_eq (tgt := 40) hO dX8_load_15 (by decide) (fun h => ?_) (fun h => ?_)
    · replace hf := gj_t h hf
      refine gj_iconst (v := (-1)) hO dX8_load_40 (by decide) ?_
      replace hf := Option.some.inj hf
      simp only [Prod.mk.injEq] at hf
      obtain ⟨rfl, rfl⟩ := hf
      exact gj_iret hO dX8_load_41
    · replace hf := gj_f h hf
      refine gj_aload_n hO 0 dX8_load_18 rfl rfl ?_
      refine gt_X8_4 hO wk_185 dX8_load_19 ?_
      refine gt_X7_0 hO kd_16 kl_16 wk_186 dX8_load_22 ?_
      refine gt_X1_5 hO kd_17 kl_17 wk_218 dX8_load_25 ?_
      refine gj_iload_n hO 1 dX8_load_28 rfl rfl ?_
      obtain ⟨hb2, hf⟩ := gj_c hf
      refine gj_iald hO kl_18 kd_18 hb2 dX8_load_29 ?_
      refine gj_i2l hO dX8_load_30 ?_
      refine gj_iload_n hO 2 dX8_load_31 rfl rfl ?_
      refine gj_i2l hO dX8_load_32 ?_
      refine gj_ladd hO dX8_load_33 ?_
      obtain ⟨x3, hc3, hf⟩ := gj_b hf
      refine ca_X8_isGift hO  hc3 wk_527 (by decide) (by decide) (Nat.le_of_ble_eq_true rfl) dX8_load_34 ?_
      refine gj_if_ne (tgt := 42) hO dX8_load_37 (by decide) (fun h => ?_) (fun h => ?_)
      · replace hf := gj_f h hf
        refine gj_aload_n hO 0 dX8_load_42 rfl rfl ?_
        refine gt_X8_4 hO wk_185 dX8_load_43 ?_
        refine gj_iload_n hO 1 dX8_load_46 rfl rfl ?_
        refine gj_iload_n hO 2 dX8_load_47 rfl rfl ?_
        obtain ⟨x4, hc4, hf⟩ := gj_b hf
        refine ca_X7_findRefusing hO isY_16 hc4 wk_548 (by decide) (by decide) (Nat.le_of_ble_eq_true rfl) dX8_load_48 ?_
        refine gj_istore_n (lv2 := [(3, gj_i x4), (0, gj_r 0), (1, gj_i b1), (2, gj_i b2)]) hO dX8_load_51 rfl (by decide) rfl ?_
        refine gj_iload_n hO 0 dX8_load_52 rfl rfl ?_
        refine gj_iconst (v := (-1)) hO dX8_load_53 (by decide) ?_
        refine gj_icmp_eq (tgt := 62) hO dX8_load_54 (by decide) (fun h => ?_) (fun h => ?_)
        · replace hf := gj_t h hf
          refine gj_aload_n hO 1 dX8_load_62 rfl rfl ?_
          refine gt_X8_6 hO wk_193 dX8_load_63 ?_
          refine gj_aload_n hO 1 dX8_load_66 rfl rfl ?_
          refine gt_X8_4 hO wk_185 dX8_load_67 ?_
          refine gt_X7_0 hO kd_16 kl_16 wk_186 dX8_load_70 ?_
          obtain ⟨x5, hc5, hf⟩ := gj_b hf
          refine ca_X0_remember hO  hc5 wk_399 (by decide) (by decide) (Nat.le_of_ble_eq_true rfl) dX8_load_73 ?_
          refine gj_aload_n hO 1 dX8_load_76 rfl rfl ?_
          refine gt_X8_4 hO wk_185 dX8_load_77 ?_
          refine gj_iload_n hO 2 dX8_load_80 rfl rfl ?_
          refine gj_iload_n hO 3 dX8_load_81 rfl rfl ?_
          obtain ⟨x6, hc6, hf⟩ := gj_b hf
          refine ca_X7_shiftGift hO isY_16 hc6 wk_549 (by decide) (by decide) (Nat.le_of_ble_eq_true rfl) dX8_load_82 ?_
          refine gj_aload_n hO 1 dX8_load_85 rfl rfl ?_
          refine gt_X8_4 hO wk_185 dX8_load_86 ?_
          refine gt_X7_1 hO kd_16 kl_16 wk_219 dX8_load_89 ?_
          refine gt_X5_2 hO kd_26 kl_26 wk_221 dX8_load_92 ?_
          refine gj_iload_n hO 2 dX8_load_95 rfl rfl ?_
          obtain ⟨hb7, hf⟩ := gj_c hf
          refine gj_iald hO kl_29 kd_29 hb7 dX8_load_96 ?_
          replace hf := Option.some.inj hf
          simp only [Prod.mk.injEq] at hf
          obtain ⟨rfl, rfl⟩ := hf
          exact gj_iret hO dX8_load_97
        · replace hf := gj_f h hf
          refine gj_bipush (v := (-2)) hO dX8_load_57 (by decide) ?_
          refine gj_iload_n hO 0 dX8_load_59 rfl rfl ?_
          refine gj_isub hO dX8_load_60 ?_
          replace hf := Option.some.inj hf
          simp only [Prod.mk.injEq] at hf
          obtain ⟨rfl, rfl⟩ := hf
          exact gj_iret hO dX8_load_61
      · replace hf := gj_t h hf
        refine gj_iconst (v := (-1)) hO dX8_load_40 (by decide) ?_
        replace hf := Option.some.inj hf
        simp only [Prod.mk.injEq] at hf
        obtain ⟨rfl, rfl⟩ := hf
        exact gj_iret hO dX8_load_41
set_option maxHeartbeats 4000000 in
set_option maxRecDepth 100000 in
theorem ca_X8_load {E : gj_E} {X : gj_X} {own : String} {cc : ByteArray} {nL : Nat} {rt : Option FieldType} {fr lo : Nat} {ce sl : Nat} {Q : State → Prop} {pc : Nat} {lv : List (Nat × gj_V)} {st : List gj_V} {σ : gj_S} (hO : gj_O E X own cc nL rt fr lo) {b1 : Int32} {b2 : Int32}  {idx : Nat} {x : Int32} {y : gj_S} (hf : f_X8_load b1 b2 σ = some (x, y)) (hl : Cond.methodLink own idx yX8_load ∈ gj_gw) (hf1 : 4 ≤ fr) (hf2 : 185 ≤ lo) (hcat : ((st.map (gj_tv E.2.1)).map fun v => v.category).sum ≤ 8) (hd : decode cc pc = .ok (.invokevirtual idx, 3)) (k : gj_H E X nL ce sl Q (pc + 3) lv ((gj_i x) :: st) y) : gj_H E X nL ce sl Q pc lv (gj_i b2 :: gj_i b1 :: gj_r 0 :: st) σ :=
  gj_callV hO (o := 0) (vs := [gj_i b1, gj_i b2]) (m_X8_load  hf) (gj_Iany (by decide)) hl wk_550 wk_551 wk_4 wk_552 kl_0 kd_0 (by decide) (ci := 8) rfl (n := 2) (by decide +kernel) rfl hf1 hf2 rfl hcat hd k
