def fb_X1_countFull_l4 (b0 : Nat) (σ : gj_S) (a10004 : (Int32 × Int32)) : Option (Int32 ⊕ (Int32 × Int32)) := ((f_X1_countWays b0 σ).bind fun x10401 => (if x10401 ≤ a10004.2 then some (.inl a10004.1) else (if gj_in a10004.2 24 then (if (σ.1 (b0 + 7) (Int32.toNatClampNeg a10004.2)) = (2 : Int32) then some (.inr ((a10004.1 + (1 : Int32)), (a10004.2 + 1))) else some (.inr ((a10004.1 + (0 : Int32)), (a10004.2 + 1)))) else none)))
def f_X1_countFull (b0 : Nat) (σ : gj_S) : Option Int32 := ((gj_lp (fb_X1_countFull_l4 b0 σ) 5000 ((0 : Int32), (0 : Int32))).bind fun z1 => some z1)
set_option maxHeartbeats 4000000 in
set_option maxRecDepth 100000 in
theorem sb_X1_countFull_l4 {E : gj_E} {X : gj_X} {r : Option gj_V} {τ : gj_S} (hO : gj_O E X RX1 cX1_countFull 3 (some .int) 1 20) {b0 : Nat} {σ : gj_S} (g0 : isP b0) {a10004_0 : Int32} {a10004_1 : Int32} {x : Int32 ⊕ (Int32 × Int32)} (hf : fb_X1_countFull_l4 b0 σ (a10004_0, a10004_1) = some x) (K : gj_K (fun z1 => gj_G E X 3 r τ 36 [(1, gj_i z1)] [] σ) (fun a10004 => gj_G E X 3 r τ 4 [(0, gj_r b0), (1, gj_i a10004.1), (2, gj_i a10004.2)] [] σ) x) : gj_G E X 3 r τ 4 [(0, gj_r b0), (1, gj_i a10004_0), (2, gj_i a10004_1)] [] σ := by
  unfold fb_X1_countFull_l4 at hf
  dsimp only at hf
  refine gj_iload_n hO 2 dX1_countFull_4 rfl rfl ?_
  refine gj_aload_n hO 0 dX1_countFull_5 rfl rfl ?_
  obtain ⟨x10401, hc10401, hf⟩ := gj_b hf
  refine ca_X1_countWays hO g0 hc10401 wk_229 (by decide) (by decide) (Nat.le_of_ble_eq_true rfl) dX1_countFull_6 ?_
  refine gj_icmp_ge (tgt := 36) hO dX1_countFull_9 (by decide) (fun h => ?_) (fun h => ?_)
  · replace hf := gj_t h hf
    obtain rfl := Option.some.inj hf
    refine gj_sub (lv2 := [(1, gj_i a10004_0)]) [1] rfl ?_
    exact K
  · replace hf := gj_f h hf
    refine gj_iload_n hO 1 dX1_countFull_12 rfl rfl ?_
    refine gj_aload_n hO 0 dX1_countFull_13 rfl rfl ?_
    refine gt_X1_11 hO (kdP_0 g0) (klP_0 g0) wk_127 dX1_countFull_14 ?_
    refine gj_iload_n hO 2 dX1_countFull_17 rfl rfl ?_
    obtain ⟨hb10402, hf⟩ := gj_c hf
    refine gj_iald hO (klP_7 g0) (kdP_7 g0) hb10402 dX1_countFull_18 ?_
    refine gj_iconst (v := 2) hO dX1_countFull_19 (by decide) ?_
    refine gj_icmp_ne (tgt := 27) hO dX1_countFull_20 (by decide) (fun h => ?_) (fun h => ?_)
    · replace hf := gj_f h hf
      refine gj_iconst (v := 0) hO dX1_countFull_27 (by decide) ?_
      refine gj_iadd hO dX1_countFull_28 ?_
      refine gj_istore_n (lv2 := [(1, gj_i (a10004_0 + (0 : Int32))), (0, gj_r b0), (2, gj_i a10004_1)]) hO dX1_countFull_29 rfl (by decide) rfl ?_
      refine gj_iinc (v := (a10004_1 + 1)) (lv2 := [(2, gj_i (a10004_1 + 1)), (1, gj_i (a10004_0 + (0 : Int32))), (0, gj_r b0)]) hO 2 dX1_countFull_30 rfl rfl (by decide) rfl ?_
      refine gj_goto (tgt := 4) hO dX1_countFull_33 (by decide) ?_
      obtain rfl := Option.some.inj hf
      refine gj_sub (lv2 := [(0, gj_r b0), (1, gj_i (a10004_0 + (0 : Int32))), (2, gj_i (a10004_1 + 1))]) [2, 1, 0] rfl ?_
      exact K
    · replace hf := gj_t h hf
      refine gj_iconst (v := 1) hO dX1_countFull_23 (by decide) ?_
      refine gj_goto (tgt := 28) hO dX1_countFull_24 (by decide) ?_
      refine gj_iadd hO dX1_countFull_28 ?_
      refine gj_istore_n (lv2 := [(1, gj_i (a10004_0 + (1 : Int32))), (0, gj_r b0), (2, gj_i a10004_1)]) hO dX1_countFull_29 rfl (by decide) rfl ?_
      refine gj_iinc (v := (a10004_1 + 1)) (lv2 := [(2, gj_i (a10004_1 + 1)), (1, gj_i (a10004_0 + (1 : Int32))), (0, gj_r b0)]) hO 2 dX1_countFull_30 rfl rfl (by decide) rfl ?_
      refine gj_goto (tgt := 4) hO dX1_countFull_33 (by decide) ?_
      obtain rfl := Option.some.inj hf
      refine gj_sub (lv2 := [(0, gj_r b0), (1, gj_i (a10004_0 + (1 : Int32))), (2, gj_i (a10004_1 + 1))]) [2, 1, 0] rfl ?_
      exact K
set_option maxHeartbeats 4000000 in
set_option maxRecDepth 100000 in
theorem m_X1_countFull {E : gj_E} {σ : gj_S} {b0 : Nat} (g0 : isP b0) {x : Int32} (hf : f_X1_countFull b0 σ = some x) : gj_M E yX1_countFull cX1_countFull 3 (some .int) 1 20 [gj_r b0] σ (some (gj_i x)) σ := by
  refine gj_body (lv := [(0, gj_r b0)]) (by decide +kernel) (Nat.le_of_ble_eq_true rfl) rfl (fun X hO => ?_)
  replace hO : gj_O E X RX1 cX1_countFull 3 (some .int) 1 20 := hO
  unfold f_X1_countFull at hf
  refine gj_iconst (v := 0) hO dX1_countFull_0 (by decide) ?_
  refine gj_istore_n (lv2 := [(1, gj_i (0 : Int32)), (0, gj_r b0)]) hO dX1_countFull_1 rfl (by decide) rfl ?_
  refine gj_iconst (v := 0) hO dX1_countFull_2 (by decide) ?_
  refine gj_istore_n (lv2 := [(2, gj_i (0 : Int32)), (1, gj_i (0 : Int32)), (0, gj_r b0)]) hO dX1_countFull_3 rfl (by decide) rfl ?_
  obtain ⟨z1, hz1, hf⟩ := gj_b hf
  have J1 : gj_G E X 3 (some (gj_i x)) σ 36 [(1, gj_i z1)] [] σ := by
    refine gj_iload_n hO 0 dX1_countFull_36 rfl rfl ?_
    obtain rfl := Option.some.inj hf
    exact gj_iret hO dX1_countFull_37
  refine gj_sub (lv2 := [(0, gj_r b0), (1, gj_i (0 : Int32)), (2, gj_i (0 : Int32))]) [2, 1, 0] rfl ?_
  exact gj_loop (head := fun a10004 => gj_G E X 3 (some (gj_i x)) σ 4 [(0, gj_r b0), (1, gj_i a10004.1), (2, gj_i a10004.2)] [] σ) (exit := fun z1 => gj_G E X 3 (some (gj_i x)) σ 36 [(1, gj_i z1)] [] σ) (fun a10004 x hf K => by obtain ⟨a10004_0, a10004_1⟩ := a10004; exact sb_X1_countFull_l4 hO g0 hf K) _ _ _ hz1 J1
set_option maxHeartbeats 4000000 in
set_option maxRecDepth 100000 in
theorem ca_X1_countFull {E : gj_E} {X : gj_X} {own : String} {cc : ByteArray} {nL : Nat} {rt : Option FieldType} {fr lo : Nat} {ce sl : Nat} {Q : State → Prop} {pc : Nat} {lv : List (Nat × gj_V)} {st : List gj_V} {σ : gj_S} (hO : gj_O E X own cc nL rt fr lo) {b0 : Nat} (g0 : isP b0) {idx : Nat} {x : Int32} (hf : f_X1_countFull b0 σ = some x) (hl : Cond.methodLink own idx yX1_countFull ∈ gj_gw) (hf1 : 2 ≤ fr) (hf2 : 42 ≤ lo) (hcat : ((st.map (gj_tv E.2.1)).map fun v => v.category).sum ≤ 8) (hd : decode cc pc = .ok (.invokevirtual idx, 3)) (k : gj_H E X nL ce sl Q (pc + 3) lv ((gj_i x) :: st) σ) : gj_H E X nL ce sl Q pc lv (gj_r b0 :: st) σ :=
  gj_callV hO (o := b0) (vs := []) (m_X1_countFull g0 hf) (gj_Iany (by decide)) hl wk_615 wk_616 wk_15 wk_617 (klP_0 g0) (kdP_0 g0) (by decide) (ci := 1) rfl (n := 0) (by decide +kernel) rfl hf1 hf2 rfl hcat hd k
def fb_X1_countRoutesInTree_l4 (b0 : Nat) (σ : gj_S) (a10004 : (Int32 × Int32)) : Option (Int32 ⊕ (Int32 × Int32)) := (if (σ.1 b0 1) ≤ a10004.2 then some (.inl a10004.1) else (if gj_in a10004.2 24 then (if (σ.1 (b0 + 7) (Int32.toNatClampNeg a10004.2)) = 0 then some (.inr ((a10004.1 + (1 : Int32)), (a10004.2 + 1))) else some (.inr ((a10004.1 + (0 : Int32)), (a10004.2 + 1)))) else none))
def f_X1_countRoutesInTree (b0 : Nat) (σ : gj_S) : Option Int32 := ((gj_lp (fb_X1_countRoutesInTree_l4 b0 σ) 5000 ((0 : Int32), (0 : Int32))).bind fun z1 => some z1)
set_option maxHeartbeats 4000000 in
set_option maxRecDepth 100000 in
theorem sb_X1_countRoutesInTree_l4 {E : gj_E} {X : gj_X} {r : Option gj_V} {τ : gj_S} (hO : gj_O E X RX1 cX1_countRoutesInTree 3 (some .int) 0 0) {b0 : Nat} {σ : gj_S} (g0 : isP b0) {a10004_0 : Int32} {a10004_1 : Int32} {x : Int32 ⊕ (Int32 × Int32)} (hf : fb_X1_countRoutesInTree_l4 b0 σ (a10004_0, a10004_1) = some x) (K : gj_K (fun z1 => gj_G E X 3 r τ 35 [(1, gj_i z1)] [] σ) (fun a10004 => gj_G E X 3 r τ 4 [(0, gj_r b0), (1, gj_i a10004.1), (2, gj_i a10004.2)] [] σ) x) : gj_G E X 3 r τ 4 [(0, gj_r b0), (1, gj_i a10004_0), (2, gj_i a10004_1)] [] σ := by
  unfold fb_X1_countRoutesInTree_l4 at hf
  dsimp only at hf
  refine gj_iload_n hO 2 dX1_countRoutesInTree_4 rfl rfl ?_
  refine gj_aload_n hO 0 dX1_countRoutesInTree_5 rfl rfl ?_
  refine gt_X1_1 hO (kdP_0 g0) (klP_0 g0) wk_11 dX1_countRoutesInTree_6 ?_
  refine gj_icmp_ge (tgt := 35) hO dX1_countRoutesInTree_9 (by decide) (fun h => ?_) (fun h => ?_)
  · replace hf := gj_t h hf
    obtain rfl := Option.some.inj hf
    refine gj_sub (lv2 := [(1, gj_i a10004_0)]) [1] rfl ?_
    exact K
  · replace hf := gj_f h hf
    refine gj_iload_n hO 1 dX1_countRoutesInTree_12 rfl rfl ?_
    refine gj_aload_n hO 0 dX1_countRoutesInTree_13 rfl rfl ?_
    refine gt_X1_11 hO (kdP_0 g0) (klP_0 g0) wk_127 dX1_countRoutesInTree_14 ?_
    refine gj_iload_n hO 2 dX1_countRoutesInTree_17 rfl rfl ?_
    obtain ⟨hb10401, hf⟩ := gj_c hf
    refine gj_iald hO (klP_7 g0) (kdP_7 g0) hb10401 dX1_countRoutesInTree_18 ?_
    refine gj_if_ne (tgt := 26) hO dX1_countRoutesInTree_19 (by decide) (fun h => ?_) (fun h => ?_)
    · replace hf := gj_f h hf
      refine gj_iconst (v := 0) hO dX1_countRoutesInTree_26 (by decide) ?_
      refine gj_iadd hO dX1_countRoutesInTree_27 ?_
      refine gj_istore_n (lv2 := [(1, gj_i (a10004_0 + (0 : Int32))), (0, gj_r b0), (2, gj_i a10004_1)]) hO dX1_countRoutesInTree_28 rfl (by decide) rfl ?_
      refine gj_iinc (v := (a10004_1 + 1)) (lv2 := [(2, gj_i (a10004_1 + 1)), (1, gj_i (a10004_0 + (0 : Int32))), (0, gj_r b0)]) hO 2 dX1_countRoutesInTree_29 rfl rfl (by decide) rfl ?_
      refine gj_goto (tgt := 4) hO dX1_countRoutesInTree_32 (by decide) ?_
      obtain rfl := Option.some.inj hf
      refine gj_sub (lv2 := [(0, gj_r b0), (1, gj_i (a10004_0 + (0 : Int32))), (2, gj_i (a10004_1 + 1))]) [2, 1, 0] rfl ?_
      exact K
    · replace hf := gj_t h hf
      refine gj_iconst (v := 1) hO dX1_countRoutesInTree_22 (by decide) ?_
      refine gj_goto (tgt := 27) hO dX1_countRoutesInTree_23 (by decide) ?_
      refine gj_iadd hO dX1_countRoutesInTree_27 ?_
      refine gj_istore_n (lv2 := [(1, gj_i (a10004_0 + (1 : Int32))), (0, gj_r b0), (2, gj_i a10004_1)]) hO dX1_countRoutesInTree_28 rfl (by decide) rfl ?_
      refine gj_iinc (v := (a10004_1 + 1)) (lv2 := [(2, gj_i (a10004_1 + 1)), (1, gj_i (a10004_0 + (1 : Int32))), (0, gj_r b0)]) hO 2 dX1_countRoutesInTree_29 rfl rfl (by decide) rfl ?_
      refine gj_goto (tgt := 4) hO dX1_countRoutesInTree_32 (by decide) ?_
      obtain rfl := Option.some.inj hf
      refine gj_sub (lv2 := [(0, gj_r b0), (1, gj_i (a10004_0 + (1 : Int32))), (2, gj_i (a10004_1 + 1))]) [2, 1, 0] rfl ?_
      exact K
set_option maxHeartbeats 4000000 in
set_option maxRecDepth 100000 in
theorem m_X1_countRoutesInTree {E : gj_E} {σ : gj_S} {b0 : Nat} (g0 : isP b0) {x : Int32} (hf : f_X1_countRoutesInTree b0 σ = some x) : gj_M E yX1_countRoutesInTree cX1_countRoutesInTree 3 (some .int) 0 0 [gj_r b0] σ (some (gj_i x)) σ := by
  refine gj_body (lv := [(0, gj_r b0)]) (by decide +kernel) (Nat.le_of_ble_eq_true rfl) rfl (fun X hO => ?_)
  replace hO : gj_O E X RX1 cX1_countRoutesInTree 3 (some .int) 0 0 := hO
  unfold f_X1_countRoutesInTree at hf
  refine gj_iconst (v := 0) hO dX1_countRoutesInTree_0 (by decide) ?_
  refine gj_istore_n (lv2 := [(1, gj_i (0 : Int32)), (0, gj_r b0)]) hO dX1_countRoutesInTree_1 rfl (by decide) rfl ?_
  refine gj_iconst (v := 0) hO dX1_countRoutesInTree_2 (by decide) ?_
  refine gj_istore_n (lv2 := [(2, gj_i (0 : Int32)), (1, gj_i (0 : Int32)), (0, gj_r b0)]) hO dX1_countRoutesInTree_3 rfl (by decide) rfl ?_
  obtain ⟨z1, hz1, hf⟩ := gj_b hf
  have J1 : gj_G E X 3 (some (gj_i x)) σ 35 [(1, gj_i z1)] [] σ := by
    refine gj_iload_n hO 0 dX1_countRoutesInTree_35 rfl rfl ?_
    obtain rfl := Option.some.inj hf
    exact gj_iret hO dX1_countRoutesInTree_36
  refine gj_sub (lv2 := [(0, gj_r b0), (1, gj_i (0 : Int32)), (2, gj_i (0 : Int32))]) [2, 1, 0] rfl ?_
  exact gj_loop (head := fun a10004 => gj_G E X 3 (some (gj_i x)) σ 4 [(0, gj_r b0), (1, gj_i a10004.1), (2, gj_i a10004.2)] [] σ) (exit := fun z1 => gj_G E X 3 (some (gj_i x)) σ 35 [(1, gj_i z1)] [] σ) (fun a10004 x hf K => by obtain ⟨a10004_0, a10004_1⟩ := a10004; exact sb_X1_countRoutesInTree_l4 hO g0 hf K) _ _ _ hz1 J1
set_option maxHeartbeats 4000000 in
set_option maxRecDepth 100000 in
theorem ca_X1_countRoutesInTree {E : gj_E} {X : gj_X} {own : String} {cc : ByteArray} {nL : Nat} {rt : Option FieldType} {fr lo : Nat} {ce sl : Nat} {Q : State → Prop} {pc : Nat} {lv : List (Nat × gj_V)} {st : List gj_V} {σ : gj_S} (hO : gj_O E X own cc nL rt fr lo) {b0 : Nat} (g0 : isP b0) {idx : Nat} {x : Int32} (hf : f_X1_countRoutesInTree b0 σ = some x) (hl : Cond.methodLink own idx yX1_countRoutesInTree ∈ gj_gw) (hf1 : 1 ≤ fr) (hf2 : 22 ≤ lo) (hcat : ((st.map (gj_tv E.2.1)).map fun v => v.category).sum ≤ 8) (hd : decode cc pc = .ok (.invokevirtual idx, 3)) (k : gj_H E X nL ce sl Q (pc + 3) lv ((gj_i x) :: st) σ) : gj_H E X nL ce sl Q pc lv (gj_r b0 :: st) σ :=
  gj_callV hO (o := b0) (vs := []) (m_X1_countRoutesInTree g0 hf) (gj_Iany (by decide)) hl wk_618 wk_619 wk_15 wk_620 (klP_0 g0) (kdP_0 g0) (by decide) (ci := 1) rfl (n := 0) (by decide +kernel) rfl hf1 hf2 rfl hcat hd k
def f_X8_count (b1 : Int32) (σ : gj_S) : Option Int32 := (if b1 = 0 then some (σ.1 17 0) else (if b1 = 1 then some (σ.1 17 1) else (if b1 = 2 then some (σ.1 17 2) else (if b1 = 3 then some (σ.1 17 3) else (if b1 = 4 then ((f_X1_countLogged 17 σ).bind fun x1 => some x1) else (if b1 = 5 then some (σ.1 17 4) else (if b1 = 6 then some (σ.1 54 2) else (if b1 = 7 then some (σ.1 0 1) else (if b1 = 8 then ((f_X7_isEnd 16 σ).bind fun x2 => (if x2 = 0 then some (0 : Int32) else some (1 : Int32))) else (if b1 = 9 then ((f_X1_countFull 17 σ).bind fun x3 => some x3) else (if b1 = 10 then ((f_X1_countRoutesInTree 17 σ).bind fun x4 => some x4) else some (-1 : Int32))))))))))))
set_option maxHeartbeats 4000000 in
set_option maxRecDepth 100000 in
theorem m_X8_count {E : gj_E} {σ : gj_S} {b1 : Int32}  {x : Int32} (hf : f_X8_count b1 σ = some x) : gj_M E yX8_count cX8_count 3 (some .int) 4 85 [gj_r 0, gj_i b1] σ (some (gj_i x)) σ := by
  refine gj_body (lv := [(0, gj_r 0), (1, gj_i b1)]) (by decide +kernel) (Nat.le_of_ble_eq_true rfl) rfl (fun X hO => ?_)
  replace hO : gj_O E X RX8 cX8_count 3 (some .int) 4 85 := hO
  unfold f_X8_count at hf
  refine gj_aload_n hO 0 dX8_count_0 rfl rfl ?_
  refine gt_X8_4 hO wk_185 dX8_count_1 ?_
  refine gt_X7_0 hO kd_16 kl_16 wk_186 dX8_count_4 ?_
  refine gj_astore_n (lv2 := [(2, gj_r 17), (0, gj_r 0), (1, gj_i b1)]) hO dX8_count_7 rfl (by decide) rfl ?_
  refine gj_iload_n hO 2 dX8_count_8 rfl rfl ?_
  by_cases hs0 : b1 = 0
  · replace hf := gj_t hs0 hf
    refine gj_tblAt 0 (tgt := 68) hO dX8_count_9 hs0 (by decide) (by decide) rfl (by decide) ?_
    refine gj_aload_n hO 0 dX8_count_68 rfl rfl ?_
    refine gt_X1_0 hO kd_17 kl_17 wk_196 dX8_count_69 ?_
    obtain rfl := Option.some.inj hf
    exact gj_iret hO dX8_count_72
  · replace hf := gj_f hs0 hf
    by_cases hs1 : b1 = 1
    · replace hf := gj_t hs1 hf
      refine gj_tblAt 1 (tgt := 73) hO dX8_count_9 hs1 (by decide) (by decide) rfl (by decide) ?_
      refine gj_aload_n hO 0 dX8_count_73 rfl rfl ?_
      refine gt_X1_1 hO kd_17 kl_17 wk_621 dX8_count_74 ?_
      obtain rfl := Option.some.inj hf
      exact gj_iret hO dX8_count_77
    · replace hf := gj_f hs1 hf
      by_cases hs2 : b1 = 2
      · replace hf := gj_t hs2 hf
        refine gj_tblAt 2 (tgt := 78) hO dX8_count_9 hs2 (by decide) (by decide) rfl (by decide) ?_
        refine gj_aload_n hO 0 dX8_count_78 rfl rfl ?_
        refine gt_X1_2 hO kd_17 kl_17 wk_568 dX8_count_79 ?_
        obtain rfl := Option.some.inj hf
        exact gj_iret hO dX8_count_82
      · replace hf := gj_f hs2 hf
        by_cases hs3 : b1 = 3
        · replace hf := gj_t hs3 hf
          refine gj_tblAt 3 (tgt := 83) hO dX8_count_9 hs3 (by decide) (by decide) rfl (by decide) ?_
          refine gj_aload_n hO 0 dX8_count_83 rfl rfl ?_
          refine gt_X1_3 hO kd_17 kl_17 wk_622 dX8_count_84 ?_
          obtain rfl := Option.some.inj hf
          exact gj_iret hO dX8_count_87
        · replace hf := gj_f hs3 hf
          by_cases hs4 : b1 = 4
          · replace hf := gj_t hs4 hf
            refine gj_tblAt 4 (tgt := 88) hO dX8_count_9 hs4 (by decide) (by decide) rfl (by decide) ?_
            refine gj_aload_n hO 0 dX8_count_88 rfl rfl ?_
            obtain ⟨x1, hc1, hf⟩ := gj_b hf
            refine ca_X1_countLogged hO isP_17 hc1 wk_419 (by decide) (by decide) (Nat.le_of_ble_eq_true rfl) dX8_count_89 ?_
            obtain rfl := Option.some.inj hf
            exact gj_iret hO dX8_count_92
          · replace hf := gj_f hs4 hf
            by_cases hs5 : b1 = 5
            · replace hf := gj_t hs5 hf
              refine gj_tblAt 5 (tgt := 93) hO dX8_count_9 hs5 (by decide) (by decide) rfl (by decide) ?_
              refine gj_aload_n hO 0 dX8_count_93 rfl rfl ?_
              refine gt_X1_4 hO kd_17 kl_17 wk_572 dX8_count_94 ?_
              obtain rfl := Option.some.inj hf
              exact gj_iret hO dX8_count_97
            · replace hf := gj_f hs5 hf
              by_cases hs6 : b1 = 6
              · replace hf := gj_t hs6 hf
                refine gj_tblAt 6 (tgt := 98) hO dX8_count_9 hs6 (by decide) (by decide) rfl (by decide) ?_
                refine gj_aload_n hO 1 dX8_count_98 rfl rfl ?_
                refine gt_X8_6 hO wk_193 dX8_count_99 ?_
                refine gt_X0_2 hO wk_606 dX8_count_102 ?_
                obtain rfl := Option.some.inj hf
                exact gj_iret hO dX8_count_105
              · replace hf := gj_f hs6 hf
                by_cases hs7 : b1 = 7
                · replace hf := gj_t hs7 hf
                  refine gj_tblAt 7 (tgt := 106) hO dX8_count_9 hs7 (by decide) (by decide) rfl (by decide) ?_
                  refine gj_aload_n hO 1 dX8_count_106 rfl rfl ?_
                  refine gt_X8_1 hO wk_0 dX8_count_107 ?_
                  obtain rfl := Option.some.inj hf
                  exact gj_iret hO dX8_count_110
                · replace hf := gj_f hs7 hf
                  by_cases hs8 : b1 = 8
                  · replace hf := gj_t hs8 hf
                    refine gj_tblAt 8 (tgt := 111) hO dX8_count_9 hs8 (by decide) (by decide) rfl (by decide) ?_
                    refine gj_aload_n hO 1 dX8_count_111 rfl rfl ?_
                    refine gt_X8_4 hO wk_185 dX8_count_112 ?_
                    obtain ⟨x2, hc2, hf⟩ := gj_b hf
                    refine ca_X7_isEnd hO isY_16 hc2 wk_398 (by decide) (by decide) (Nat.le_of_ble_eq_true rfl) dX8_count_115 ?_
                    refine gj_if_eq (tgt := 125) hO dX8_count_118 (by decide) (fun h => ?_) (fun h => ?_)
                    · replace hf := gj_t h hf
                      refine gj_iconst (v := 0) hO dX8_count_125 (by decide) ?_
                      obtain rfl := Option.some.inj hf
                      exact gj_iret hO dX8_count_126
                    · replace hf := gj_f h hf
                      refine gj_iconst (v := 1) hO dX8_count_121 (by decide) ?_
                      refine gj_goto (tgt := 126) hO dX8_count_122 (by decide) ?_
                      obtain rfl := Option.some.inj hf
                      exact gj_iret hO dX8_count_126
                  · replace hf := gj_f hs8 hf
                    by_cases hs9 : b1 = 9
                    · replace hf := gj_t hs9 hf
                      refine gj_tblAt 9 (tgt := 127) hO dX8_count_9 hs9 (by decide) (by decide) rfl (by decide) ?_
                      refine gj_aload_n hO 0 dX8_count_127 rfl rfl ?_
                      obtain ⟨x3, hc3, hf⟩ := gj_b hf
                      refine ca_X1_countFull hO isP_17 hc3 wk_623 (by decide) (by decide) (Nat.le_of_ble_eq_true rfl) dX8_count_128 ?_
                      obtain rfl := Option.some.inj hf
                      exact gj_iret hO dX8_count_131
                    · replace hf := gj_f hs9 hf
                      by_cases hs10 : b1 = 10
                      · replace hf := gj_t hs10 hf
                        refine gj_tblAt 10 (tgt := 132) hO dX8_count_9 hs10 (by decide) (by decide) rfl (by decide) ?_
                        refine gj_aload_n hO 0 dX8_count_132 rfl rfl ?_
                        obtain ⟨x4, hc4, hf⟩ := gj_b hf
                        refine ca_X1_countRoutesInTree hO isP_17 hc4 wk_624 (by decide) (by decide) (Nat.le_of_ble_eq_true rfl) dX8_count_133 ?_
                        obtain rfl := Option.some.inj hf
                        exact gj_iret hO dX8_count_136
                      · replace hf := gj_f hs10 hf
                        refine gj_tblOut (tgt := 137) hO dX8_count_9 (gj_out10 hs0 hs1 hs2 hs3 hs4 hs5 hs6 hs7 hs8 hs9 hs10) (by decide) ?_
                        refine gj_iconst (v := (-1)) hO dX8_count_137 (by decide) ?_
                        obtain rfl := Option.some.inj hf
                        exact gj_iret hO dX8_count_138
set_option maxHeartbeats 4000000 in
set_option maxRecDepth 100000 in
theorem ca_X8_count {E : gj_E} {X : gj_X} {own : String} {cc : ByteArray} {nL : Nat} {rt : Option FieldType} {fr lo : Nat} {ce sl : Nat} {Q : State → Prop} {pc : Nat} {lv : List (Nat × gj_V)} {st : List gj_V} {σ : gj_S} (hO : gj_O E X own cc nL rt fr lo) {b1 : Int32}  {idx : Nat} {x : Int32} (hf : f_X8_count b1 σ = some x) (hl : Cond.methodLink own idx yX8_count ∈ gj_gw) (hf1 : 5 ≤ fr) (hf2 : 107 ≤ lo) (hcat : ((st.map (gj_tv E.2.1)).map fun v => v.category).sum ≤ 8) (hd : decode cc pc = .ok (.invokevirtual idx, 3)) (k : gj_H E X nL ce sl Q (pc + 3) lv ((gj_i x) :: st) σ) : gj_H E X nL ce sl Q pc lv (gj_i b1 :: gj_r 0 :: st) σ :=
  gj_callV hO (o := 0) (vs := [gj_i b1]) (m_X8_count  hf) (gj_Iany (by decide)) hl wk_625 wk_626 wk_4 wk_627 kl_0 kd_0 (by decide) (ci := 8) rfl (n := 1) (by decide +kernel) rfl hf1 hf2 rfl hcat hd k
def f_X9_within (b0 : Int64) (b2 : Int64) (b4 : Int64) : Option Int32 := (if (lg_cmp b0 b2) < 0 then some (0 : Int32) else (if 0 < (lg_cmp b0 b4) then some (0 : Int32) else some (1 : Int32)))
set_option maxHeartbeats 4000000 in
set_option maxRecDepth 100000 in
theorem m_X9_within {E : gj_E} {σ : gj_S} {b0 : Int64} {b2 : Int64} {b4 : Int64}  {x : Int32} (hf : f_X9_within b0 b2 b4 = some x) : gj_M E yX9_within cX9_within 6 (some .boolean) 0 0 [gj_l b0, gj_l b2, gj_l b4] σ (some (gj_i x)) σ := by
  refine gj_body (lv := [(0, gj_l b0), (2, gj_l b2), (4, gj_l b4)]) (by decide +kernel) (Nat.le_of_ble_eq_true rfl) rfl (fun X hO => ?_)
  replace hO : gj_O E X RX9 cX9_within 6 (some .boolean) 0 0 := hO
  unfold f_X9_within at hf
  refine gj_lload_n hO 0 dX9_within_0 rfl rfl ?_
  refine gj_lload_n hO 1 dX9_within_1 rfl rfl ?_
  refine gj_lcmp hO dX9_within_2 ?_
  refine gj_if_lt (tgt := 17) hO dX9_within_3 (by decide) (fun h => ?_) (fun h => ?_)
  · replace hf := gj_t h hf
    refine gj_iconst (v := 0) hO dX9_within_17 (by decide) ?_
    obtain rfl := Option.some.inj hf
    exact gj_zret hO (Or.inl rfl) dX9_within_18
  · replace hf := gj_f h hf
    refine gj_lload_n hO 0 dX9_within_6 rfl rfl ?_
    refine gj_lload hO 2 dX9_within_7 rfl ?_
    refine gj_lcmp hO dX9_within_9 ?_
    refine gj_if_gt (tgt := 17) hO dX9_within_10 (by decide) (fun h => ?_) (fun h => ?_)
    · replace hf := gj_t h hf
      refine gj_iconst (v := 0) hO dX9_within_17 (by decide) ?_
      obtain rfl := Option.some.inj hf
      exact gj_zret hO (Or.inl rfl) dX9_within_18
    · replace hf := gj_f h hf
      refine gj_iconst (v := 1) hO dX9_within_13 (by decide) ?_
      refine gj_goto (tgt := 18) hO dX9_within_14 (by decide) ?_
      obtain rfl := Option.some.inj hf
      exact gj_zret hO (Or.inr rfl) dX9_within_18
set_option maxHeartbeats 4000000 in
set_option maxRecDepth 100000 in
theorem ca_X9_within {E : gj_E} {X : gj_X} {own : String} {cc : ByteArray} {nL : Nat} {rt : Option FieldType} {fr lo : Nat} {ce sl : Nat} {Q : State → Prop} {pc : Nat} {lv : List (Nat × gj_V)} {st : List gj_V} {σ : gj_S} (hO : gj_O E X own cc nL rt fr lo) (hw : gj_lt own 188) {b0 : Int64} {b2 : Int64} {b4 : Int64}  {idx : Nat} {x : Int32} (hf : f_X9_within b0 b2 b4 = some x) (hl : Cond.methodLink own idx yX9_within ∈ gj_gw) (hf1 : 1 ≤ fr) (hf2 : 25 ≤ lo) (hcat : ((st.map (gj_tv E.2.1)).map fun v => v.category).sum ≤ 8) (hd : decode cc pc = .ok (.invokestatic idx, 3)) (k : gj_H E X nL ce sl Q (pc + 3) lv ((gj_i x) :: st) σ) : gj_H E X nL ce sl Q pc lv (gj_l b4 :: gj_l b2 :: gj_l b0 :: st) σ :=
  gj_callS hO (vs := [gj_l b0, gj_l b2, gj_l b4]) (m_X9_within (σ := σ)  hf) (gj_I9 hw) hl wk_628 wk_629 wk_630 (n := 3) (by decide +kernel) rfl hf1 hf2 rfl hcat hd k
def fb_X9_puts_l3 (b1 : Int32) (a10003 : (Int32 × gj_S)) : Option (gj_S ⊕ (Int32 × gj_S)) := (if a10003.1 < 0 then some (.inl a10003.2) else (if gj_in (a10003.2.1 188 2) 600 then ((some (gj_sI (gj_sI a10003.2 189 (upd (a10003.2.1 189) (Int32.toNatClampNeg (a10003.2.1 188 2)) (vp_nar .byte (Int8.toInt32 (Int32.toInt8 (b1 >>> (a10003.1 &&& 31))))))) 188 (upd ((gj_sI a10003.2 189 (upd (a10003.2.1 189) (Int32.toNatClampNeg (a10003.2.1 188 2)) (vp_nar .byte (Int8.toInt32 (Int32.toInt8 (b1 >>> (a10003.1 &&& 31))))))).1 188) 2 (((gj_sI a10003.2 189 (upd (a10003.2.1 189) (Int32.toNatClampNeg (a10003.2.1 188 2)) (vp_nar .byte (Int8.toInt32 (Int32.toInt8 (b1 >>> (a10003.1 &&& 31))))))).1 188 2) + (1 : Int32))))).bind fun s10302 => some (.inr ((a10003.1 + (-8)), s10302))) else none))
def f_X9_puts (b1 : Int32) (σ : gj_S) : Option gj_S := ((gj_lp (fb_X9_puts_l3 b1) 5000 ((24 : Int32), σ)).bind fun z1 => some z1)
set_option maxHeartbeats 4000000 in
set_option maxRecDepth 100000 in
theorem sb_X9_puts_l3 {E : gj_E} {X : gj_X} {r : Option gj_V} {τ : gj_S} (hO : gj_O E X RX9 cX9_puts 3 none 0 0) {b1 : Int32} {a10003_0 : Int32} {a10003_1 : gj_S} {x : gj_S ⊕ (Int32 × gj_S)} (hf : fb_X9_puts_l3 b1 (a10003_0, a10003_1) = some x) (K : gj_K (fun z1 => gj_G E X 3 r τ 36 [] [] z1) (fun a10003 => gj_G E X 3 r τ 3 [(0, gj_r 188), (1, gj_i b1), (2, gj_i a10003.1)] [] a10003.2) x) : gj_G E X 3 r τ 3 [(0, gj_r 188), (1, gj_i b1), (2, gj_i a10003_0)] [] a10003_1 := by
  unfold fb_X9_puts_l3 at hf
  dsimp only at hf
  refine gj_iload_n hO 2 dX9_puts_3 rfl rfl ?_
  refine gj_if_lt (tgt := 36) hO dX9_puts_4 (by decide) (fun h => ?_) (fun h => ?_)
  · replace hf := gj_t h hf
    obtain rfl := Option.some.inj hf
    refine gj_sub (lv2 := []) [] rfl ?_
    exact K
  · replace hf := gj_f h hf
    refine gj_aload_n hO 0 dX9_puts_7 rfl rfl ?_
    refine gt_X9_1 hO wk_631 dX9_puts_8 ?_
    refine gj_aload_n hO 0 dX9_puts_11 rfl rfl ?_
    refine gt_X9_2 hO wk_632 dX9_puts_12 ?_
    refine gj_iload_n hO 1 dX9_puts_15 rfl rfl ?_
    refine gj_iload_n hO 2 dX9_puts_16 rfl rfl ?_
    refine gj_ishr hO dX9_puts_17 ?_
    refine gj_i2b hO dX9_puts_18 ?_
    obtain ⟨hb10301, hf⟩ := gj_c hf
    refine gj_bast hO kl_189 kd_189 hb10301 dX9_puts_19 ?_
    refine gj_aload_n hO 0 dX9_puts_20 rfl rfl ?_
    refine gj_dup hO dX9_puts_21 trivial ?_
    refine gt_X9_2 hO wk_632 dX9_puts_22 ?_
    refine gj_iconst (v := 1) hO dX9_puts_25 (by decide) ?_
    refine gj_iadd hO dX9_puts_26 ?_
    refine pt_X9_2 hO wk_632 dX9_puts_27 ?_
    obtain ⟨s10302, e10302, hf⟩ := gj_b hf
    refine gj_eqS (Option.some.inj e10302) ?_
    refine gj_iinc (v := (a10003_0 + (-8))) (lv2 := [(2, gj_i (a10003_0 + (-8))), (0, gj_r 188), (1, gj_i b1)]) hO 2 dX9_puts_30 rfl rfl (by decide) rfl ?_
    refine gj_goto (tgt := 3) hO dX9_puts_33 (by decide) ?_
    obtain rfl := Option.some.inj hf
    refine gj_sub (lv2 := [(0, gj_r 188), (1, gj_i b1), (2, gj_i (a10003_0 + (-8)))]) [1, 2, 0] rfl ?_
    exact K
set_option maxHeartbeats 4000000 in
set_option maxRecDepth 100000 in
theorem m_X9_puts {E : gj_E} {σ : gj_S} {b1 : Int32}  {x : gj_S} (hf : f_X9_puts b1 σ = some x) : gj_M E yX9_puts cX9_puts 3 none 0 0 [gj_r 188, gj_i b1] σ none x := by
  refine gj_body (lv := [(0, gj_r 188), (1, gj_i b1)]) (by decide +kernel) (Nat.le_of_ble_eq_true rfl) rfl (fun X hO => ?_)
  replace hO : gj_O E X RX9 cX9_puts 3 none 0 0 := hO
  unfold f_X9_puts at hf
  refine gj_bipush (v := 24) hO dX9_puts_0 (by decide) ?_
  refine gj_istore_n (lv2 := [(2, gj_i (24 : Int32)), (0, gj_r 188), (1, gj_i b1)]) hO dX9_puts_2 rfl (by decide) rfl ?_
  obtain ⟨z1, hz1, hf⟩ := gj_b hf
  have J1 : gj_G E X 3 none x 36 [] [] z1 := by
    obtain rfl := Option.some.inj hf
    exact gj_vret hO dX9_puts_36
  refine gj_sub (lv2 := [(0, gj_r 188), (1, gj_i b1), (2, gj_i (24 : Int32))]) [1, 2, 0] rfl ?_
  exact gj_loop (head := fun a10003 => gj_G E X 3 none x 3 [(0, gj_r 188), (1, gj_i b1), (2, gj_i a10003.1)] [] a10003.2) (exit := fun z1 => gj_G E X 3 none x 36 [] [] z1) (fun a10003 x hf K => by obtain ⟨a10003_0, a10003_1⟩ := a10003; exact sb_X9_puts_l3 hO hf K) _ _ _ hz1 J1
set_option maxHeartbeats 4000000 in
set_option maxRecDepth 100000 in
theorem ca_X9_puts {E : gj_E} {X : gj_X} {own : String} {cc : ByteArray} {nL : Nat} {rt : Option FieldType} {fr lo : Nat} {ce sl : Nat} {Q : State → Prop} {pc : Nat} {lv : List (Nat × gj_V)} {st : List gj_V} {σ : gj_S} (hO : gj_O E X own cc nL rt fr lo) (hw : gj_lt own 188) {b1 : Int32}  {idx : Nat} {x : gj_S} (hf : f_X9_puts b1 σ = some x) (hl : Cond.methodLink own idx yX9_puts ∈ gj_gw) (hf1 : 1 ≤ fr) (hf2 : 22 ≤ lo) (hcat : ((st.map (gj_tv E.2.1)).map fun v => v.category).sum ≤ 8) (hd : decode cc pc = .ok (.invokevirtual idx, 3)) (k : gj_H E X nL ce sl Q (pc + 3) lv (st) x) : gj_H E X nL ce sl Q pc lv (gj_i b1 :: gj_r 188 :: st) σ :=
  gj_callV hO (o := 188) (vs := [gj_i b1]) (m_X9_puts  hf) (gj_I9 hw) hl wk_633 wk_634 wk_629 wk_635 hw kd_188 (by decide) (ci := 9) rfl (n := 1) (by decide +kernel) rfl hf1 hf2 rfl hcat hd k
def f_X9_feed (b1 : Int32) (b2 : Int32) (b3 : Int32) (b4 : Int32) (b5 : Int32) (σ : gj_S) : Option (Int32 × gj_S) := (if (((gj_sI σ 188 (upd (σ.1 188) 0 (0 : Int32))).1 188 2) + (20 : Int32)) ≤ (600 : Int32) then ((f_X9_puts b1 (gj_sI σ 188 (upd (σ.1 188) 0 (0 : Int32)))).bind fun x1 => ((f_X9_puts b2 x1).bind fun x2 => ((f_X9_puts b3 x2).bind fun x3 => ((f_X9_puts b4 x3).bind fun x4 => ((f_X9_puts b5 x4).bind fun x5 => some ((x5.1 188 2), x5)))))) else some ((-1 : Int32), (gj_sI σ 188 (upd (σ.1 188) 0 (0 : Int32)))))
set_option maxHeartbeats 4000000 in
set_option maxRecDepth 100000 in
theorem m_X9_feed {E : gj_E} {σ : gj_S} {b1 : Int32} {b2 : Int32} {b3 : Int32} {b4 : Int32} {b5 : Int32}  {x : Int32} {y : gj_S} (hf : f_X9_feed b1 b2 b3 b4 b5 σ = some (x, y)) : gj_M E yX9_feed cX9_feed 6 (some .int) 1 22 [gj_r 188, gj_i b1, gj_i b2, gj_i b3, gj_i b4, gj_i b5] σ (some (gj_i x)) y := by
  refine gj_body (lv := [(0, gj_r 188), (1, gj_i b1), (2, gj_i b2), (3, gj_i b3), (4, gj_i b4), (5, gj_i b5)]) (by decide +kernel) (Nat.le_of_ble_eq_true rfl) rfl (fun X hO => ?_)
  replace hO : gj_O E X RX9 cX9_feed 6 (some .int) 1 22 := hO
  unfold f_X9_feed at hf
  refine gj_aload_n hO 0 dX9_feed_0 rfl rfl ?_
  refine gj_iconst (v := 0) hO dX9_feed_1 (by decide) ?_
  refine pt_X9_0 hO wk_636 dX9_feed_2 ?_
  refine gj_aload_n hO 0 dX9_feed_5 rfl rfl ?_
  refine gt_X9_2 hO wk_632 dX9_feed_6 ?_
  refine gj_bipush (v := 20) hO dX9_feed_9 (by decide) ?_
  refine gj_iadd hO dX9_feed_11 ?_
  refine gj_sipush (v := 600) hO dX9_feed_12 (by decide) ?_
  refine gj_icmp_le (tgt := 20) hO dX9_feed_15 (by decide) (fun h => ?_) (fun h => ?_)
  · replace hf := gj_t h hf
    refine gj_aload_n hO 0 dX9_feed_20 rfl rfl ?_
    refine gj_iload_n hO 1 dX9_feed_21 rfl rfl ?_
    obtain ⟨x1, hc1, hf⟩ := gj_b hf
    refine ca_X9_puts hO kl_188  hc1 wk_637 (by decide) (by decide) (Nat.le_of_ble_eq_true rfl) dX9_feed_22 ?_
    refine gj_aload_n hO 0 dX9_feed_25 rfl rfl ?_
    refine gj_iload_n hO 2 dX9_feed_26 rfl rfl ?_
    obtain ⟨x2, hc2, hf⟩ := gj_b hf
    refine ca_X9_puts hO kl_188  hc2 wk_637 (by decide) (by decide) (Nat.le_of_ble_eq_true rfl) dX9_feed_27 ?_
    refine gj_aload_n hO 0 dX9_feed_30 rfl rfl ?_
    refine gj_iload_n hO 3 dX9_feed_31 rfl rfl ?_
    obtain ⟨x3, hc3, hf⟩ := gj_b hf
    refine ca_X9_puts hO kl_188  hc3 wk_637 (by decide) (by decide) (Nat.le_of_ble_eq_true rfl) dX9_feed_32 ?_
    refine gj_aload_n hO 0 dX9_feed_35 rfl rfl ?_
    refine gj_iload hO 4 dX9_feed_36 rfl ?_
    obtain ⟨x4, hc4, hf⟩ := gj_b hf
    refine ca_X9_puts hO kl_188  hc4 wk_637 (by decide) (by decide) (Nat.le_of_ble_eq_true rfl) dX9_feed_38 ?_
    refine gj_aload_n hO 0 dX9_feed_41 rfl rfl ?_
    refine gj_iload hO 5 dX9_feed_42 rfl ?_
    obtain ⟨x5, hc5, hf⟩ := gj_b hf
    refine ca_X9_puts hO kl_188  hc5 wk_637 (by decide) (by decide) (Nat.le_of_ble_eq_true rfl) dX9_feed_44 ?_
    refine gj_aload_n hO 0 dX9_feed_47 rfl rfl ?_
    refine gt_X9_2 hO wk_632 dX9_feed_48 ?_
    replace hf := Option.some.inj hf
    simp only [Prod.mk.injEq] at hf
    obtain ⟨rfl, rfl⟩ := hf
    exact gj_iret hO dX9_feed_51
  · replace hf := gj_f h hf
    refine gj_iconst (v := (-1)) hO dX9_feed_18 (by decide) ?_
    replace hf := Option.some.inj hf
    simp only [Prod.mk.injEq] at hf
    obtain ⟨rfl, rfl⟩ := hf
    exact gj_iret hO dX9_feed_19
set_option maxHeartbeats 4000000 in
set_option maxRecDepth 100000 in
theorem ca_X9_feed {E : gj_E} {X : gj_X} {own : String} {cc : ByteArray} {nL : Nat} {rt : Option FieldType} {fr lo : Nat} {ce sl : Nat} {Q : State → Prop} {pc : Nat} {lv : List (Nat × gj_V)} {st : List gj_V} {σ : gj_S} (hO : gj_O E X own cc nL rt fr lo) (hw : gj_lt own 188) {b1 : Int32} {b2 : Int32} {b3 : Int32} {b4 : Int32} {b5 : Int32}  {idx : Nat} {x : Int32} {y : gj_S} (hf : f_X9_feed b1 b2 b3 b4 b5 σ = some (x, y)) (hl : Cond.methodLink own idx yX9_feed ∈ gj_gw) (hf1 : 2 ≤ fr) (hf2 : 47 ≤ lo) (hcat : ((st.map (gj_tv E.2.1)).map fun v => v.category).sum ≤ 8) (hd : decode cc pc = .ok (.invokevirtual idx, 3)) (k : gj_H E X nL ce sl Q (pc + 3) lv ((gj_i x) :: st) y) : gj_H E X nL ce sl Q pc lv (gj_i b5 :: gj_i b4 :: gj_i b3 :: gj_i b2 :: gj_i b1 :: gj_r 188 :: st) σ :=
  gj_callV hO (o := 188) (vs := [gj_i b1, gj_i b2, gj_i b3, gj_i b4, gj_i b5]) (m_X9_feed  hf) (gj_I9 hw) hl wk_638 wk_639 wk_629 wk_640 hw kd_188 (by decide) (ci := 9) rfl (n := 5) (by decide +kernel) rfl hf1 hf2 rfl hcat hd k
def f_X9_see (b1 : Int32) (σ : gj_S) : Option Int32 := (if (σ.1 188 3) ≤ b1 then some (-1 : Int32) else (if gj_in b1 600 then some ((σ.1 189 (Int32.toNatClampNeg b1)) &&& (255 : Int32)) else none))
set_option maxHeartbeats 4000000 in
set_option maxRecDepth 100000 in
theorem m_X9_see {E : gj_E} {σ : gj_S} {b1 : Int32}  {x : Int32} (hf : f_X9_see b1 σ = some x) : gj_M E yX9_see cX9_see 2 (some .int) 0 0 [gj_r 188, gj_i b1] σ (some (gj_i x)) σ := by
  refine gj_body (lv := [(0, gj_r 188), (1, gj_i b1)]) (by decide +kernel) (Nat.le_of_ble_eq_true rfl) rfl (fun X hO => ?_)
  replace hO : gj_O E X RX9 cX9_see 2 (some .int) 0 0 := hO
  unfold f_X9_see at hf
  refine gj_iload_n hO 1 dX9_see_0 rfl rfl ?_
  refine gj_aload_n hO 0 dX9_see_1 rfl rfl ?_
  refine gt_X9_3 hO wk_641 dX9_see_2 ?_
  refine gj_icmp_ge (tgt := 21) hO dX9_see_5 (by decide) (fun h => ?_) (fun h => ?_)
  · replace hf := gj_t h hf
    refine gj_iconst (v := (-1)) hO dX9_see_21 (by decide) ?_
    obtain rfl := Option.some.inj hf
    exact gj_iret hO dX9_see_22
  · replace hf := gj_f h hf
    refine gj_aload_n hO 0 dX9_see_8 rfl rfl ?_
    refine gt_X9_1 hO wk_631 dX9_see_9 ?_
    refine gj_iload_n hO 1 dX9_see_12 rfl rfl ?_
    obtain ⟨hb1, hf⟩ := gj_c hf
    refine gj_bald hO kl_189 kd_189 hb1 dX9_see_13 ?_
    refine gj_sipush (v := 255) hO dX9_see_14 (by decide) ?_
    refine gj_iand hO dX9_see_17 ?_
    refine gj_goto (tgt := 22) hO dX9_see_18 (by decide) ?_
    obtain rfl := Option.some.inj hf
    exact gj_iret hO dX9_see_22
set_option maxHeartbeats 4000000 in
set_option maxRecDepth 100000 in
theorem ca_X9_see {E : gj_E} {X : gj_X} {own : String} {cc : ByteArray} {nL : Nat} {rt : Option FieldType} {fr lo : Nat} {ce sl : Nat} {Q : State → Prop} {pc : Nat} {lv : List (Nat × gj_V)} {st : List gj_V} {σ : gj_S} (hO : gj_O E X own cc nL rt fr lo) (hw : gj_lt own 188) {b1 : Int32}  {idx : Nat} {x : Int32} (hf : f_X9_see b1 σ = some x) (hl : Cond.methodLink own idx yX9_see ∈ gj_gw) (hf1 : 1 ≤ fr) (hf2 : 21 ≤ lo) (hcat : ((st.map (gj_tv E.2.1)).map fun v => v.category).sum ≤ 8) (hd : decode cc pc = .ok (.invokevirtual idx, 3)) (k : gj_H E X nL ce sl Q (pc + 3) lv ((gj_i x) :: st) σ) : gj_H E X nL ce sl Q pc lv (gj_i b1 :: gj_r 188 :: st) σ :=
  gj_callV hO (o := 188) (vs := [gj_i b1]) (m_X9_see  hf) (gj_I9 hw) hl wk_642 wk_643 wk_629 wk_644 hw kd_188 (by decide) (ci := 9) rfl (n := 1) (by decide +kernel) rfl hf1 hf2 rfl hcat hd k
def fb_X9_goesOn_l8  (a10008 : gj_S) : Option (gj_S ⊕ gj_S) := ((f_X9_see (a10008.1 188 4) a10008).bind fun x10801 => (if x10801 = (32 : Int32) then some (.inr (gj_sI a10008 188 (upd (a10008.1 188) 4 ((a10008.1 188 4) + (1 : Int32))))) else ((f_X9_see (a10008.1 188 4) a10008).bind fun x10802 => (if x10802 = (10 : Int32) then some (.inr (gj_sI a10008 188 (upd (a10008.1 188) 4 ((a10008.1 188 4) + (1 : Int32))))) else some (.inl a10008)))))
def fb_X9_goesOn_l265  (a10265 : gj_S) : Option (gj_S ⊕ gj_S) := ((f_X9_see (a10265.1 188 5) a10265).bind fun x36501 => ((f_X9_within (Int32.toInt64 x36501) (48 : Int64) (57 : Int64)).bind fun x36502 => (if x36502 = 0 then some (.inl a10265) else ((if (4 : Int32) ≤ ((a10265.1 188 5) - (a10265.1 188 4)) then some (a10265.1 188 7) else ((f_X9_see (a10265.1 188 5) a10265).bind fun x36504 => some ((((10 : Int32) * (a10265.1 188 7)) + x36504) - (48 : Int32))) : Option Int32).bind fun z36503 => ((some (gj_sI (gj_sI a10265 188 (upd (a10265.1 188) 7 z36503)) 188 (upd ((gj_sI a10265 188 (upd (a10265.1 188) 7 z36503)).1 188) 5 (((gj_sI a10265 188 (upd (a10265.1 188) 7 z36503)).1 188 5) + (1 : Int32))))).bind fun s36505 => some (.inr s36505))))))
def fb_X9_goesOn_l138  (a10138 : gj_S) : Option (gj_S ⊕ gj_S) := ((f_X9_see (a10138.1 188 5) a10138).bind fun x23801 => ((f_X9_within (Int32.toInt64 x23801) (97 : Int64) (122 : Int64)).bind fun x23802 => (if x23802 = 0 then some (.inl a10138) else ((if (6 : Int32) ≤ ((a10138.1 188 5) - (a10138.1 188 4)) then some (a10138.2.1 188 8) else ((f_X9_see (a10138.1 188 5) a10138).bind fun x23804 => some (((a10138.2.1 188 8) <<< (Int32.toInt64 (5 : Int32) &&& 63)) ||| ((Int32.toInt64 x23804) - (96 : Int64)))) : Option Int64).bind fun z23803 => ((some (gj_sI (gj_sJ a10138 188 (vp_updL (a10138.2.1 188) 8 z23803)) 188 (upd ((gj_sJ a10138 188 (vp_updL (a10138.2.1 188) 8 z23803)).1 188) 5 (((gj_sJ a10138 188 (vp_updL (a10138.2.1 188) 8 z23803)).1 188 5) + (1 : Int32))))).bind fun s23805 => some (.inr s23805))))))
def f_X9_goesOn  (σ : gj_S) : Option gj_S := ((gj_lp (fb_X9_goesOn_l8) 5000 (gj_sI σ 188 (upd (σ.1 188) 4 (σ.1 188 5)))).bind fun z1 => ((f_X9_see (z1.1 188 4) z1).bind fun x2 => ((some (gj_sI (gj_sI z1 188 (upd (z1.1 188) 5 ((z1.1 188 4) + (1 : Int32)))) 188 (upd ((gj_sI z1 188 (upd (z1.1 188) 5 ((z1.1 188 4) + (1 : Int32)))).1 188) 6 (3 : Int32)))).bind fun s3 => (if x2 = (-1 : Int32) then ((some (gj_sI (gj_sJ (gj_sI s3 188 (upd (s3.1 188) 7 (0 : Int32))) 188 (vp_updL ((gj_sI s3 188 (upd (s3.1 188) 7 (0 : Int32))).2.1 188) 8 (0 : Int64))) 188 (upd ((gj_sJ (gj_sI s3 188 (upd (s3.1 188) 7 (0 : Int32))) 188 (vp_updL ((gj_sI s3 188 (upd (s3.1 188) 7 (0 : Int32))).2.1 188) 8 (0 : Int64))).1 188) 5 ((gj_sJ (gj_sI s3 188 (upd (s3.1 188) 7 (0 : Int32))) 188 (vp_updL ((gj_sI s3 188 (upd (s3.1 188) 7 (0 : Int32))).2.1 188) 8 (0 : Int64))).1 188 4)))).bind fun s11 => some (gj_sI s11 188 (upd (s11.1 188) 6 (0 : Int32)))) else (if x2 = (59 : Int32) then ((some (gj_sI (gj_sJ (gj_sI s3 188 (upd (s3.1 188) 7 (0 : Int32))) 188 (vp_updL ((gj_sI s3 188 (upd (s3.1 188) 7 (0 : Int32))).2.1 188) 8 (0 : Int64))) 188 (upd ((gj_sJ (gj_sI s3 188 (upd (s3.1 188) 7 (0 : Int32))) 188 (vp_updL ((gj_sI s3 188 (upd (s3.1 188) 7 (0 : Int32))).2.1 188) 8 (0 : Int64))).1 188) 6 x2))).bind fun s10 => some s10) else ((f_X9_within (Int32.toInt64 x2) (97 : Int64) (122 : Int64)).bind fun x4 => (if x4 = 0 then ((f_X9_within (Int32.toInt64 x2) (48 : Int64) (57 : Int64)).bind fun x5 => (if x5 = 0 then some (gj_sJ (gj_sI s3 188 (upd (s3.1 188) 7 (0 : Int32))) 188 (vp_updL ((gj_sI s3 188 (upd (s3.1 188) 7 (0 : Int32))).2.1 188) 8 (0 : Int64))) else ((some (gj_sI (gj_sJ (gj_sI s3 188 (upd (s3.1 188) 7 (0 : Int32))) 188 (vp_updL ((gj_sI s3 188 (upd (s3.1 188) 7 (0 : Int32))).2.1 188) 8 (0 : Int64))) 188 (upd ((gj_sJ (gj_sI s3 188 (upd (s3.1 188) 7 (0 : Int32))) 188 (vp_updL ((gj_sI s3 188 (upd (s3.1 188) 7 (0 : Int32))).2.1 188) 8 (0 : Int64))).1 188) 5 ((gj_sJ (gj_sI s3 188 (upd (s3.1 188) 7 (0 : Int32))) 188 (vp_updL ((gj_sI s3 188 (upd (s3.1 188) 7 (0 : Int32))).2.1 188) 8 (0 : Int64))).1 188 4)))).bind fun s6 => ((gj_lp (fb_X9_goesOn_l265) 5000 s6).bind fun z7 => (if (5 : Int32) ≤ ((z7.1 188 5) - (z7.1 188 4)) then some (gj_sI z7 188 (upd (z7.1 188) 6 (3 : Int32))) else some (gj_sI z7 188 (upd (z7.1 188) 6 (2 : Int32)))))))) else ((some (gj_sI (gj_sJ (gj_sI s3 188 (upd (s3.1 188) 7 (0 : Int32))) 188 (vp_updL ((gj_sI s3 188 (upd (s3.1 188) 7 (0 : Int32))).2.1 188) 8 (0 : Int64))) 188 (upd ((gj_sJ (gj_sI s3 188 (upd (s3.1 188) 7 (0 : Int32))) 188 (vp_updL ((gj_sI s3 188 (upd (s3.1 188) 7 (0 : Int32))).2.1 188) 8 (0 : Int64))).1 188) 5 ((gj_sJ (gj_sI s3 188 (upd (s3.1 188) 7 (0 : Int32))) 188 (vp_updL ((gj_sI s3 188 (upd (s3.1 188) 7 (0 : Int32))).2.1 188) 8 (0 : Int64))).1 188 4)))).bind fun s8 => ((gj_lp (fb_X9_goesOn_l138) 5000 s8).bind fun z9 => (if (7 : Int32) ≤ ((z9.1 188 5) - (z9.1 188 4)) then some (gj_sI z9 188 (upd (z9.1 188) 6 (3 : Int32))) else some (gj_sI z9 188 (upd (z9.1 188) 6 (1 : Int32)))))))))))))
set_option maxHeartbeats 4000000 in
set_option maxRecDepth 100000 in
theorem sb_X9_goesOn_l8 {E : gj_E} {X : gj_X} {r : Option gj_V} {τ : gj_S} (hO : gj_O E X RX9 cX9_goesOn 2 none 1 25)  {a10008 : gj_S} {x : gj_S ⊕ gj_S} (hf : fb_X9_goesOn_l8  a10008 = some x) (K : gj_K (fun z1 => gj_G E X 2 r τ 47 [(0, gj_r 188)] [] z1) (fun a10008 => gj_G E X 2 r τ 8 [(0, gj_r 188)] [] a10008) x) : gj_G E X 2 r τ 8 [(0, gj_r 188)] [] a10008 := by
  unfold fb_X9_goesOn_l8 at hf
  refine gj_aload_n hO 0 dX9_goesOn_8 rfl rfl ?_
  refine gj_aload_n hO 0 dX9_goesOn_9 rfl rfl ?_
  refine gt_X9_4 hO wk_646 dX9_goesOn_10 ?_
  obtain ⟨x10801, hc10801, hf⟩ := gj_b hf
  refine ca_X9_see hO kl_188  hc10801 wk_647 (by decide) (by decide) (Nat.le_of_ble_eq_true rfl) dX9_goesOn_13 ?_
  refine gj_bipush (v := 32) hO dX9_goesOn_16 (by decide) ?_
  refine gj_icmp_eq (tgt := 34) hO dX9_goesOn_18 (by decide) (fun h => ?_) (fun h => ?_)
  · replace hf := gj_t h hf
    refine gj_aload_n hO 0 dX9_goesOn_34 rfl rfl ?_
    refine gj_dup hO dX9_goesOn_35 trivial ?_
    refine gt_X9_4 hO wk_646 dX9_goesOn_36 ?_
    refine gj_iconst (v := 1) hO dX9_goesOn_39 (by decide) ?_
    refine gj_iadd hO dX9_goesOn_40 ?_
    refine pt_X9_4 hO wk_646 dX9_goesOn_41 ?_
    refine gj_goto (tgt := 8) hO dX9_goesOn_44 (by decide) ?_
    obtain rfl := Option.some.inj hf
    refine gj_sub (lv2 := [(0, gj_r 188)]) [0] rfl ?_
    exact K
  · replace hf := gj_f h hf
    refine gj_aload_n hO 0 dX9_goesOn_21 rfl rfl ?_
    refine gj_aload_n hO 0 dX9_goesOn_22 rfl rfl ?_
    refine gt_X9_4 hO wk_646 dX9_goesOn_23 ?_
    obtain ⟨x10802, hc10802, hf⟩ := gj_b hf
    refine ca_X9_see hO kl_188  hc10802 wk_647 (by decide) (by decide) (Nat.le_of_ble_eq_true rfl) dX9_goesOn_26 ?_
    refine gj_bipush (v := 10) hO dX9_goesOn_29 (by decide) ?_
    refine gj_icmp_ne (tgt := 47) hO dX9_goesOn_31 (by decide) (fun h => ?_) (fun h => ?_)
    · replace hf := gj_f h hf
      obtain rfl := Option.some.inj hf
      refine gj_sub (lv2 := [(0, gj_r 188)]) [0] rfl ?_
      exact K
    · replace hf := gj_t h hf
      refine gj_aload_n hO 0 dX9_goesOn_34 rfl rfl ?_
      refine gj_dup hO dX9_goesOn_35 trivial ?_
      refine gt_X9_4 hO wk_646 dX9_goesOn_36 ?_
      refine gj_iconst (v := 1) hO dX9_goesOn_39 (by decide) ?_
      refine gj_iadd hO dX9_goesOn_40 ?_
      refine pt_X9_4 hO wk_646 dX9_goesOn_41 ?_
      refine gj_goto (tgt := 8) hO dX9_goesOn_44 (by decide) ?_
      obtain rfl := Option.some.inj hf
      refine gj_sub (lv2 := [(0, gj_r 188)]) [0] rfl ?_
      exact K
set_option maxHeartbeats 4000000 in
set_option maxRecDepth 100000 in
theorem sb_X9_goesOn_l265 {E : gj_E} {X : gj_X} {r : Option gj_V} {τ : gj_S} (hO : gj_O E X RX9 cX9_goesOn 2 none 1 25)  {a10265 : gj_S} {x : gj_S ⊕ gj_S} (hf : fb_X9_goesOn_l265  a10265 = some x) (K : gj_K (fun z7 => gj_G E X 2 r τ 342 [(0, gj_r 188)] [] z7) (fun a10265 => gj_G E X 2 r τ 265 [(0, gj_r 188)] [] a10265) x) : gj_G E X 2 r τ 265 [(0, gj_r 188)] [] a10265 := by
  unfold fb_X9_goesOn_l265 at hf
  refine gj_aload_n hO 0 dX9_goesOn_265 rfl rfl ?_
  refine gj_aload_n hO 0 dX9_goesOn_266 rfl rfl ?_
  refine gt_X9_5 hO wk_645 dX9_goesOn_267 ?_
  obtain ⟨x36501, hc36501, hf⟩ := gj_b hf
  refine ca_X9_see hO kl_188  hc36501 wk_647 (by decide) (by decide) (Nat.le_of_ble_eq_true rfl) dX9_goesOn_270 ?_
  refine gj_i2l hO dX9_goesOn_273 ?_
  refine gj_ldc2 hO wk_654 dX9_goesOn_274 ?_
  refine gj_ldc2 hO wk_655 dX9_goesOn_277 ?_
  obtain ⟨x36502, hc36502, hf⟩ := gj_b hf
  refine ca_X9_within hO kl_188  hc36502 wk_653 (by decide) (by decide) (Nat.le_of_ble_eq_true rfl) dX9_goesOn_280 ?_
  refine gj_if_eq (tgt := 342) hO dX9_goesOn_283 (by decide) (fun h => ?_) (fun h => ?_)
  · replace hf := gj_t h hf
    obtain rfl := Option.some.inj hf
    refine gj_sub (lv2 := [(0, gj_r 188)]) [0] rfl ?_
    exact K
  · replace hf := gj_f h hf
    refine gj_aload_n hO 0 dX9_goesOn_286 rfl rfl ?_
    refine gj_aload_n hO 0 dX9_goesOn_287 rfl rfl ?_
    refine gt_X9_5 hO wk_645 dX9_goesOn_288 ?_
    refine gj_aload_n hO 0 dX9_goesOn_291 rfl rfl ?_
    refine gt_X9_4 hO wk_646 dX9_goesOn_292 ?_
    refine gj_isub hO dX9_goesOn_295 ?_
    refine gj_iconst (v := 4) hO dX9_goesOn_296 (by decide) ?_
    obtain ⟨z36503, hz36503, hf⟩ := gj_b hf
    have J36503 : gj_G E X 2 r τ 326 [(0, gj_r 188)] [gj_i z36503, gj_r 188] a10265 := by
      refine pt_X9_7 hO wk_649 dX9_goesOn_326 ?_
      refine gj_aload_n hO 0 dX9_goesOn_329 rfl rfl ?_
      refine gj_dup hO dX9_goesOn_330 trivial ?_
      refine gt_X9_5 hO wk_645 dX9_goesOn_331 ?_
      refine gj_iconst (v := 1) hO dX9_goesOn_334 (by decide) ?_
      refine gj_iadd hO dX9_goesOn_335 ?_
      refine pt_X9_5 hO wk_645 dX9_goesOn_336 ?_
      obtain ⟨s36505, e36505, hf⟩ := gj_b hf
      refine gj_eqS (Option.some.inj e36505) ?_
      refine gj_goto (tgt := 265) hO dX9_goesOn_339 (by decide) ?_
      obtain rfl := Option.some.inj hf
      refine gj_sub (lv2 := [(0, gj_r 188)]) [0] rfl ?_
      exact K
    refine gj_icmp_ge (tgt := 322) hO dX9_goesOn_297 (by decide) (fun h => ?_) (fun h => ?_)
    · replace hz36503 := gj_t h hz36503
      refine gj_aload_n hO 0 dX9_goesOn_322 rfl rfl ?_
      refine gt_X9_7 hO wk_649 dX9_goesOn_323 ?_
      obtain rfl := Option.some.inj hz36503
      refine gj_sub (lv2 := [(0, gj_r 188)]) [0] rfl ?_
      exact J36503
    · replace hz36503 := gj_f h hz36503
      refine gj_bipush (v := 10) hO dX9_goesOn_300 (by decide) ?_
      refine gj_aload_n hO 0 dX9_goesOn_302 rfl rfl ?_
      refine gt_X9_7 hO wk_649 dX9_goesOn_303 ?_
      refine gj_imul hO dX9_goesOn_306 ?_
      refine gj_aload_n hO 0 dX9_goesOn_307 rfl rfl ?_
      refine gj_aload_n hO 0 dX9_goesOn_308 rfl rfl ?_
      refine gt_X9_5 hO wk_645 dX9_goesOn_309 ?_
      obtain ⟨x36504, hc36504, hz36503⟩ := gj_b hz36503
      refine ca_X9_see hO kl_188  hc36504 wk_647 (by decide) (by decide) (Nat.le_of_ble_eq_true rfl) dX9_goesOn_312 ?_
      refine gj_iadd hO dX9_goesOn_315 ?_
      refine gj_bipush (v := 48) hO dX9_goesOn_316 (by decide) ?_
      refine gj_isub hO dX9_goesOn_318 ?_
      refine gj_goto (tgt := 326) hO dX9_goesOn_319 (by decide) ?_
      obtain rfl := Option.some.inj hz36503
      refine gj_sub (lv2 := [(0, gj_r 188)]) [0] rfl ?_
      exact J36503
set_option maxHeartbeats 4000000 in
set_option maxRecDepth 100000 in
theorem sb_X9_goesOn_l138 {E : gj_E} {X : gj_X} {r : Option gj_V} {τ : gj_S} (hO : gj_O E X RX9 cX9_goesOn 2 none 1 25)  {a10138 : gj_S} {x : gj_S ⊕ gj_S} (hf : fb_X9_goesOn_l138  a10138 = some x) (K : gj_K (fun z9 => gj_G E X 2 r τ 217 [(0, gj_r 188)] [] z9) (fun a10138 => gj_G E X 2 r τ 138 [(0, gj_r 188)] [] a10138) x) : gj_G E X 2 r τ 138 [(0, gj_r 188)] [] a10138 := by
  unfold fb_X9_goesOn_l138 at hf
  refine gj_aload_n hO 0 dX9_goesOn_138 rfl rfl ?_
  refine gj_aload_n hO 0 dX9_goesOn_139 rfl rfl ?_
  refine gt_X9_5 hO wk_645 dX9_goesOn_140 ?_
  obtain ⟨x23801, hc23801, hf⟩ := gj_b hf
  refine ca_X9_see hO kl_188  hc23801 wk_647 (by decide) (by decide) (Nat.le_of_ble_eq_true rfl) dX9_goesOn_143 ?_
  refine gj_i2l hO dX9_goesOn_146 ?_
  refine gj_ldc2 hO wk_651 dX9_goesOn_147 ?_
  refine gj_ldc2 hO wk_652 dX9_goesOn_150 ?_
  obtain ⟨x23802, hc23802, hf⟩ := gj_b hf
  refine ca_X9_within hO kl_188  hc23802 wk_653 (by decide) (by decide) (Nat.le_of_ble_eq_true rfl) dX9_goesOn_153 ?_
  refine gj_if_eq (tgt := 217) hO dX9_goesOn_156 (by decide) (fun h => ?_) (fun h => ?_)
  · replace hf := gj_t h hf
    obtain rfl := Option.some.inj hf
    refine gj_sub (lv2 := [(0, gj_r 188)]) [0] rfl ?_
    exact K
  · replace hf := gj_f h hf
    refine gj_aload_n hO 0 dX9_goesOn_159 rfl rfl ?_
    refine gj_aload_n hO 0 dX9_goesOn_160 rfl rfl ?_
    refine gt_X9_5 hO wk_645 dX9_goesOn_161 ?_
    refine gj_aload_n hO 0 dX9_goesOn_164 rfl rfl ?_
    refine gt_X9_4 hO wk_646 dX9_goesOn_165 ?_
    refine gj_isub hO dX9_goesOn_168 ?_
    refine gj_bipush (v := 6) hO dX9_goesOn_169 (by decide) ?_
    obtain ⟨z23803, hz23803, hf⟩ := gj_b hf
    have J23803 : gj_G E X 2 r τ 201 [(0, gj_r 188)] [gj_l z23803, gj_r 188] a10138 := by
      refine pt_X9_8 hO wk_650 dX9_goesOn_201 ?_
      refine gj_aload_n hO 0 dX9_goesOn_204 rfl rfl ?_
      refine gj_dup hO dX9_goesOn_205 trivial ?_
      refine gt_X9_5 hO wk_645 dX9_goesOn_206 ?_
      refine gj_iconst (v := 1) hO dX9_goesOn_209 (by decide) ?_
      refine gj_iadd hO dX9_goesOn_210 ?_
      refine pt_X9_5 hO wk_645 dX9_goesOn_211 ?_
      obtain ⟨s23805, e23805, hf⟩ := gj_b hf
      refine gj_eqS (Option.some.inj e23805) ?_
      refine gj_goto (tgt := 138) hO dX9_goesOn_214 (by decide) ?_
      obtain rfl := Option.some.inj hf
      refine gj_sub (lv2 := [(0, gj_r 188)]) [0] rfl ?_
      exact K
    refine gj_icmp_ge (tgt := 197) hO dX9_goesOn_171 (by decide) (fun h => ?_) (fun h => ?_)
    · replace hz23803 := gj_t h hz23803
      refine gj_aload_n hO 0 dX9_goesOn_197 rfl rfl ?_
      refine gt_X9_8 hO wk_650 dX9_goesOn_198 ?_
      obtain rfl := Option.some.inj hz23803
      refine gj_sub (lv2 := [(0, gj_r 188)]) [0] rfl ?_
      exact J23803
    · replace hz23803 := gj_f h hz23803
      refine gj_aload_n hO 0 dX9_goesOn_174 rfl rfl ?_
      refine gt_X9_8 hO wk_650 dX9_goesOn_175 ?_
      refine gj_iconst (v := 5) hO dX9_goesOn_178 (by decide) ?_
      refine gj_lshl hO dX9_goesOn_179 ?_
      refine gj_aload_n hO 0 dX9_goesOn_180 rfl rfl ?_
      refine gj_aload_n hO 0 dX9_goesOn_181 rfl rfl ?_
      refine gt_X9_5 hO wk_645 dX9_goesOn_182 ?_
      obtain ⟨x23804, hc23804, hz23803⟩ := gj_b hz23803
      refine ca_X9_see hO kl_188  hc23804 wk_647 (by decide) (by decide) (Nat.le_of_ble_eq_true rfl) dX9_goesOn_185 ?_
      refine gj_i2l hO dX9_goesOn_188 ?_
      refine gj_ldc2 hO wk_656 dX9_goesOn_189 ?_
      refine gj_lsub hO dX9_goesOn_192 ?_
      refine gj_lor hO dX9_goesOn_193 ?_
      refine gj_goto (tgt := 201) hO dX9_goesOn_194 (by decide) ?_
      obtain rfl := Option.some.inj hz23803
      refine gj_sub (lv2 := [(0, gj_r 188)]) [0] rfl ?_
      exact J23803
set_option maxHeartbeats 4000000 in
set_option maxRecDepth 100000 in
theorem m_X9_goesOn {E : gj_E} {σ : gj_S}   {x : gj_S} (hf : f_X9_goesOn  σ = some x) : gj_M E yX9_goesOn cX9_goesOn 2 none 1 25 [gj_r 188] σ none x := by
  refine gj_body (lv := [(0, gj_r 188)]) (by decide +kernel) (Nat.le_of_ble_eq_true rfl) rfl (fun X hO => ?_)
  replace hO : gj_O E X RX9 cX9_goesOn 2 none 1 25 := hO
  unfold f_X9_goesOn at hf
  refine gj_aload_n hO 0 dX9_goesOn_0 rfl rfl ?_
  refine gj_aload_n hO 0 dX9_goesOn_1 rfl rfl ?_
  refine gt_X9_5 hO wk_645 dX9_goesOn_2 ?_
  refine pt_X9_4 hO wk_646 dX9_goesOn_5 ?_
  obtain ⟨z1, hz1, hf⟩ := gj_b hf
  have J1 : gj_G E X 2 none x 47 [(0, gj_r 188)] [] z1 := by
    refine gj_aload_n hO 0 dX9_goesOn_47 rfl rfl ?_
    refine gj_aload_n hO 0 dX9_goesOn_48 rfl rfl ?_
    refine gt_X9_4 hO wk_646 dX9_goesOn_49 ?_
    obtain ⟨x2, hc2, hf⟩ := gj_b hf
    refine ca_X9_see hO kl_188  hc2 wk_647 (by decide) (by decide) (Nat.le_of_ble_eq_true rfl) dX9_goesOn_52 ?_
    refine gj_istore_n (lv2 := [(1, gj_i x2), (0, gj_r 188)]) hO dX9_goesOn_55 rfl (by decide) rfl ?_
    refine gj_aload_n hO 1 dX9_goesOn_56 rfl rfl ?_
    refine gj_aload_n hO 1 dX9_goesOn_57 rfl rfl ?_
    refine gt_X9_4 hO wk_646 dX9_goesOn_58 ?_
    refine gj_iconst (v := 1) hO dX9_goesOn_61 (by decide) ?_
    refine gj_iadd hO dX9_goesOn_62 ?_
    refine pt_X9_5 hO wk_645 dX9_goesOn_63 ?_
    refine gj_aload_n hO 1 dX9_goesOn_66 rfl rfl ?_
    refine gj_iconst (v := 3) hO dX9_goesOn_67 (by decide) ?_
    refine pt_X9_6 hO wk_648 dX9_goesOn_68 ?_
    obtain ⟨s3, e3, hf⟩ := gj_b hf
    refine gj_eqS (Option.some.inj e3) ?_
    refine gj_aload_n hO 1 dX9_goesOn_71 rfl rfl ?_
    refine gj_iconst (v := 0) hO dX9_goesOn_72 (by decide) ?_
    refine pt_X9_7 hO wk_649 dX9_goesOn_73 ?_
    refine gj_aload_n hO 1 dX9_goesOn_76 rfl rfl ?_
    refine gj_lconst (v := 0) hO dX9_goesOn_77 (by decide) ?_
    refine pt_X9_8 hO wk_650 dX9_goesOn_78 ?_
    refine gj_iload_n hO 0 dX9_goesOn_81 rfl rfl ?_
    refine gj_iconst (v := (-1)) hO dX9_goesOn_82 (by decide) ?_
    refine gj_icmp_ne (tgt := 102) hO dX9_goesOn_83 (by decide) (fun h => ?_) (fun h => ?_)
    · replace hf := gj_f h hf
      refine gj_iload_n hO 0 dX9_goesOn_102 rfl rfl ?_
      refine gj_bipush (v := 59) hO dX9_goesOn_103 (by decide) ?_
      refine gj_icmp_ne (tgt := 116) hO dX9_goesOn_105 (by decide) (fun h => ?_) (fun h => ?_)
      · replace hf := gj_f h hf
        refine gj_iload_n hO 0 dX9_goesOn_116 rfl rfl ?_
        refine gj_i2l hO dX9_goesOn_117 ?_
        refine gj_ldc2 hO wk_651 dX9_goesOn_118 ?_
        refine gj_ldc2 hO wk_652 dX9_goesOn_121 ?_
        obtain ⟨x4, hc4, hf⟩ := gj_b hf
        refine ca_X9_within hO kl_188  hc4 wk_653 (by decide) (by decide) (Nat.le_of_ble_eq_true rfl) dX9_goesOn_124 ?_
        refine gj_if_eq (tgt := 243) hO dX9_goesOn_127 (by decide) (fun h => ?_) (fun h => ?_)
        · replace hf := gj_t h hf
          refine gj_iload_n hO 0 dX9_goesOn_243 rfl rfl ?_
          refine gj_i2l hO dX9_goesOn_244 ?_
          refine gj_ldc2 hO wk_654 dX9_goesOn_245 ?_
          refine gj_ldc2 hO wk_655 dX9_goesOn_248 ?_
          obtain ⟨x5, hc5, hf⟩ := gj_b hf
          refine ca_X9_within hO kl_188  hc5 wk_653 (by decide) (by decide) (Nat.le_of_ble_eq_true rfl) dX9_goesOn_251 ?_
          refine gj_if_eq (tgt := 364) hO dX9_goesOn_254 (by decide) (fun h => ?_) (fun h => ?_)
          · replace hf := gj_t h hf
            obtain rfl := Option.some.inj hf
            exact gj_vret hO dX9_goesOn_364
          · replace hf := gj_f h hf
            refine gj_aload_n hO 1 dX9_goesOn_257 rfl rfl ?_
            refine gj_aload_n hO 1 dX9_goesOn_258 rfl rfl ?_
            refine gt_X9_4 hO wk_646 dX9_goesOn_259 ?_
            refine pt_X9_5 hO wk_645 dX9_goesOn_262 ?_
            obtain ⟨s6, e6, hf⟩ := gj_b hf
            refine gj_eqS (Option.some.inj e6) ?_
            obtain ⟨z7, hz7, hf⟩ := gj_b hf
            have J7 : gj_G E X 2 none x 342 [(0, gj_r 188)] [] z7 := by
              refine gj_aload_n hO 0 dX9_goesOn_342 rfl rfl ?_
              refine gj_aload_n hO 0 dX9_goesOn_343 rfl rfl ?_
              refine gt_X9_5 hO wk_645 dX9_goesOn_344 ?_
              refine gj_aload_n hO 0 dX9_goesOn_347 rfl rfl ?_
              refine gt_X9_4 hO wk_646 dX9_goesOn_348 ?_
              refine gj_isub hO dX9_goesOn_351 ?_
              refine gj_iconst (v := 5) hO dX9_goesOn_352 (by decide) ?_
              refine gj_icmp_ge (tgt := 360) hO dX9_goesOn_353 (by decide) (fun h => ?_) (fun h => ?_)
              · replace hf := gj_t h hf
                refine gj_iconst (v := 3) hO dX9_goesOn_360 (by decide) ?_
                refine pt_X9_6 hO wk_648 dX9_goesOn_361 ?_
                obtain rfl := Option.some.inj hf
                exact gj_vret hO dX9_goesOn_364
              · replace hf := gj_f h hf
                refine gj_iconst (v := 2) hO dX9_goesOn_356 (by decide) ?_
                refine gj_goto (tgt := 361) hO dX9_goesOn_357 (by decide) ?_
                refine pt_X9_6 hO wk_648 dX9_goesOn_361 ?_
                obtain rfl := Option.some.inj hf
                exact gj_vret hO dX9_goesOn_364
            refine gj_sub (lv2 := [(0, gj_r 188)]) [1] rfl ?_
            exact gj_loop (head := fun a10265 => gj_G E X 2 none x 265 [(0, gj_r 188)] [] a10265) (exit := fun z7 => gj_G E X 2 none x 342 [(0, gj_r 188)] [] z7) (fun a10265 x hf K => sb_X9_goesOn_l265 hO hf K) _ _ _ hz7 J7
        · replace hf := gj_f h hf
          refine gj_aload_n hO 1 dX9_goesOn_130 rfl rfl ?_
          refine gj_aload_n hO 1 dX9_goesOn_131 rfl rfl ?_
          refine gt_X9_4 hO wk_646 dX9_goesOn_132 ?_
          refine pt_X9_5 hO wk_645 dX9_goesOn_135 ?_
          obtain ⟨s8, e8, hf⟩ := gj_b hf
          refine gj_eqS (Option.some.inj e8) ?_
          obtain ⟨z9, hz9, hf⟩ := gj_b hf
          have J9 : gj_G E X 2 none x 217 [(0, gj_r 188)] [] z9 := by
            refine gj_aload_n hO 0 dX9_goesOn_217 rfl rfl ?_
            refine gj_aload_n hO 0 dX9_goesOn_218 rfl rfl ?_
            refine gt_X9_5 hO wk_645 dX9_goesOn_219 ?_
            refine gj_aload_n hO 0 dX9_goesOn_222 rfl rfl ?_
            refine gt_X9_4 hO wk_646 dX9_goesOn_223 ?_
            refine gj_isub hO dX9_goesOn_226 ?_
            refine gj_bipush (v := 7) hO dX9_goesOn_227 (by decide) ?_
            refine gj_icmp_ge (tgt := 236) hO dX9_goesOn_229 (by decide) (fun h => ?_) (fun h => ?_)
            · replace hf := gj_t h hf
              refine gj_iconst (v := 3) hO dX9_goesOn_236 (by decide) ?_
              refine pt_X9_6 hO wk_648 dX9_goesOn_237 ?_
              refine gj_goto (tgt := 364) hO dX9_goesOn_240 (by decide) ?_
              obtain rfl := Option.some.inj hf
              exact gj_vret hO dX9_goesOn_364
            · replace hf := gj_f h hf
              refine gj_iconst (v := 1) hO dX9_goesOn_232 (by decide) ?_
              refine gj_goto (tgt := 237) hO dX9_goesOn_233 (by decide) ?_
              refine pt_X9_6 hO wk_648 dX9_goesOn_237 ?_
              refine gj_goto (tgt := 364) hO dX9_goesOn_240 (by decide) ?_
              obtain rfl := Option.some.inj hf
              exact gj_vret hO dX9_goesOn_364
          refine gj_sub (lv2 := [(0, gj_r 188)]) [1] rfl ?_
          exact gj_loop (head := fun a10138 => gj_G E X 2 none x 138 [(0, gj_r 188)] [] a10138) (exit := fun z9 => gj_G E X 2 none x 217 [(0, gj_r 188)] [] z9) (fun a10138 x hf K => sb_X9_goesOn_l138 hO hf K) _ _ _ hz9 J9
      · replace hf := gj_t h hf
        refine gj_aload_n hO 1 dX9_goesOn_108 rfl rfl ?_
        refine gj_iload_n hO 0 dX9_goesOn_109 rfl rfl ?_
        refine pt_X9_6 hO wk_648 dX9_goesOn_110 ?_
        obtain ⟨s10, e10, hf⟩ := gj_b hf
        refine gj_eqS (Option.some.inj e10) ?_
        refine gj_goto (tgt := 364) hO dX9_goesOn_113 (by decide) ?_
        obtain rfl := Option.some.inj hf
        exact gj_vret hO dX9_goesOn_364
    · replace hf := gj_t h hf
      refine gj_aload_n hO 1 dX9_goesOn_86 rfl rfl ?_
      refine gj_aload_n hO 1 dX9_goesOn_87 rfl rfl ?_
      refine gt_X9_4 hO wk_646 dX9_goesOn_88 ?_
      refine pt_X9_5 hO wk_645 dX9_goesOn_91 ?_
      obtain ⟨s11, e11, hf⟩ := gj_b hf
      refine gj_eqS (Option.some.inj e11) ?_
      refine gj_aload_n hO 1 dX9_goesOn_94 rfl rfl ?_
      refine gj_iconst (v := 0) hO dX9_goesOn_95 (by decide) ?_
      refine pt_X9_6 hO wk_648 dX9_goesOn_96 ?_
      refine gj_goto (tgt := 364) hO dX9_goesOn_99 (by decide) ?_
      obtain rfl := Option.some.inj hf
      exact gj_vret hO dX9_goesOn_364
  refine gj_sub (lv2 := [(0, gj_r 188)]) [0] rfl ?_
  exact gj_loop (head := fun a10008 => gj_G E X 2 none x 8 [(0, gj_r 188)] [] a10008) (exit := fun z1 => gj_G E X 2 none x 47 [(0, gj_r 188)] [] z1) (fun a10008 x hf K => sb_X9_goesOn_l8 hO hf K) _ _ _ hz1 J1
set_option maxHeartbeats 4000000 in
set_option maxRecDepth 100000 in
theorem ca_X9_goesOn {E : gj_E} {X : gj_X} {own : String} {cc : ByteArray} {nL : Nat} {rt : Option FieldType} {fr lo : Nat} {ce sl : Nat} {Q : State → Prop} {pc : Nat} {lv : List (Nat × gj_V)} {st : List gj_V} {σ : gj_S} (hO : gj_O E X own cc nL rt fr lo) (hw : gj_lt own 188)   {idx : Nat} {x : gj_S} (hf : f_X9_goesOn  σ = some x) (hl : Cond.methodLink own idx yX9_goesOn ∈ gj_gw) (hf1 : 2 ≤ fr) (hf2 : 46 ≤ lo) (hcat : ((st.map (gj_tv E.2.1)).map fun v => v.category).sum ≤ 8) (hd : decode cc pc = .ok (.invokevirtual idx, 3)) (k : gj_H E X nL ce sl Q (pc + 3) lv (st) x) : gj_H E X nL ce sl Q pc lv (gj_r 188 :: st) σ :=
  gj_callV hO (o := 188) (vs := []) (m_X9_goesOn  hf) (gj_I9 hw) hl wk_657 wk_658 wk_629 wk_659 hw kd_188 (by decide) (ci := 9) rfl (n := 0) (by decide +kernel) rfl hf1 hf2 rfl hcat hd k
def f_X9_must (b1 : Int32) (b2 : Int32) (σ : gj_S) : Option (Int32 × gj_S) := ((if (σ.1 188 9) = 0 then (if b1 = 0 then some (gj_sI (gj_sI σ 188 (upd (σ.1 188) 9 b2)) 188 (upd ((gj_sI σ 188 (upd (σ.1 188) 9 b2)).1 188) 10 ((gj_sI σ 188 (upd (σ.1 188) 9 b2)).1 188 4))) else some σ) else some σ : Option gj_S).bind fun z1 => (if (z1.1 188 9) = 0 then some ((1 : Int32), z1) else some ((0 : Int32), z1)))
set_option maxHeartbeats 4000000 in
set_option maxRecDepth 100000 in
theorem m_X9_must {E : gj_E} {σ : gj_S} {b1 : Int32} {b2 : Int32}  {x : Int32} {y : gj_S} (hf : f_X9_must b1 b2 σ = some (x, y)) : gj_M E yX9_must cX9_must 3 (some .boolean) 0 0 [gj_r 188, gj_i b1, gj_i b2] σ (some (gj_i x)) y := by
  refine gj_body (lv := [(0, gj_r 188), (1, gj_i b1), (2, gj_i b2)]) (by decide +kernel) (Nat.le_of_ble_eq_true rfl) rfl (fun X hO => ?_)
  replace hO : gj_O E X RX9 cX9_must 3 (some .boolean) 0 0 := hO
  unfold f_X9_must at hf
  refine gj_aload_n hO 0 dX9_must_0 rfl rfl ?_
  refine gt_X9_9 hO wk_660 dX9_must_1 ?_
  obtain ⟨z1, hz1, hf⟩ := gj_b hf
  have J1 : gj_G E X 3 (some (gj_i x)) y 24 [(0, gj_r 188)] [] z1 := by
    refine gj_aload_n hO 0 dX9_must_24 rfl rfl ?_
    refine gt_X9_9 hO wk_660 dX9_must_25 ?_
    refine gj_if_ne (tgt := 35) hO dX9_must_28 (by decide) (fun h => ?_) (fun h => ?_)
    · replace hf := gj_f h hf
      refine gj_iconst (v := 0) hO dX9_must_35 (by decide) ?_
      replace hf := Option.some.inj hf
      simp only [Prod.mk.injEq] at hf
      obtain ⟨rfl, rfl⟩ := hf
      exact gj_zret hO (Or.inl rfl) dX9_must_36
    · replace hf := gj_t h hf
      refine gj_iconst (v := 1) hO dX9_must_31 (by decide) ?_
      refine gj_goto (tgt := 36) hO dX9_must_32 (by decide) ?_
      replace hf := Option.some.inj hf
      simp only [Prod.mk.injEq] at hf
      obtain ⟨rfl, rfl⟩ := hf
      exact gj_zret hO (Or.inr rfl) dX9_must_36
  refine gj_if_ne (tgt := 24) hO dX9_must_4 (by decide) (fun h => ?_) (fun h => ?_)
  · replace hz1 := gj_f h hz1
    obtain rfl := Option.some.inj hz1
    refine gj_sub (lv2 := [(0, gj_r 188)]) [0] rfl ?_
    exact J1
  · replace hz1 := gj_t h hz1
    refine gj_iload_n hO 1 dX9_must_7 rfl rfl ?_
    refine gj_if_ne (tgt := 24) hO dX9_must_8 (by decide) (fun h => ?_) (fun h => ?_)
    · replace hz1 := gj_f h hz1
      obtain rfl := Option.some.inj hz1
      refine gj_sub (lv2 := [(0, gj_r 188)]) [0] rfl ?_
      exact J1
    · replace hz1 := gj_t h hz1
      refine gj_aload_n hO 0 dX9_must_11 rfl rfl ?_
      refine gj_iload_n hO 2 dX9_must_12 rfl rfl ?_
      refine pt_X9_9 hO wk_660 dX9_must_13 ?_
      refine gj_aload_n hO 0 dX9_must_16 rfl rfl ?_
      refine gj_aload_n hO 0 dX9_must_17 rfl rfl ?_
      refine gt_X9_4 hO wk_646 dX9_must_18 ?_
      refine pt_X9_10 hO wk_661 dX9_must_21 ?_
      obtain rfl := Option.some.inj hz1
      refine gj_sub (lv2 := [(0, gj_r 188)]) [0] rfl ?_
      exact J1
set_option maxHeartbeats 4000000 in
set_option maxRecDepth 100000 in
theorem ca_X9_must {E : gj_E} {X : gj_X} {own : String} {cc : ByteArray} {nL : Nat} {rt : Option FieldType} {fr lo : Nat} {ce sl : Nat} {Q : State → Prop} {pc : Nat} {lv : List (Nat × gj_V)} {st : List gj_V} {σ : gj_S} (hO : gj_O E X own cc nL rt fr lo) (hw : gj_lt own 188) {b1 : Int32} {b2 : Int32}  {idx : Nat} {x : Int32} {y : gj_S} (hf : f_X9_must b1 b2 σ = some (x, y)) (hl : Cond.methodLink own idx yX9_must ∈ gj_gw) (hf1 : 1 ≤ fr) (hf2 : 22 ≤ lo) (hcat : ((st.map (gj_tv E.2.1)).map fun v => v.category).sum ≤ 8) (hd : decode cc pc = .ok (.invokevirtual idx, 3)) (k : gj_H E X nL ce sl Q (pc + 3) lv ((gj_i x) :: st) y) : gj_H E X nL ce sl Q pc lv (gj_i b2 :: gj_i b1 :: gj_r 188 :: st) σ :=
  gj_callV hO (o := 188) (vs := [gj_i b1, gj_i b2]) (m_X9_must  hf) (gj_I9 hw) hl wk_662 wk_663 wk_629 wk_664 hw kd_188 (by decide) (ci := 9) rfl (n := 2) (by decide +kernel) rfl hf1 hf2 rfl hcat hd k
def f_X9_number (b1 : Int32) (b2 : Int32) (σ : gj_S) : Option (Int32 × gj_S) := ((if (σ.1 188 6) = (2 : Int32) then some (1 : Int32) else some (0 : Int32) : Option Int32).bind fun z1 => ((f_X9_must z1 (1 : Int32) σ).bind fun x2 => (if x2.1 = 0 then some (b1, x2.2) else ((f_X9_within (Int32.toInt64 (x2.2.1 188 7)) (Int32.toInt64 b1) (Int32.toInt64 b2)).bind fun x3 => ((f_X9_must x3 (3 : Int32) x2.2).bind fun x4 => (if x4.1 = 0 then some (b1, x4.2) else ((f_X9_goesOn x4.2).bind fun x5 => some ((x4.2.1 188 7), x5))))))))
set_option maxHeartbeats 4000000 in
set_option maxRecDepth 100000 in
theorem m_X9_number {E : gj_E} {σ : gj_S} {b1 : Int32} {b2 : Int32}  {x : Int32} {y : gj_S} (hf : f_X9_number b1 b2 σ = some (x, y)) : gj_M E yX9_number cX9_number 4 (some .int) 2 46 [gj_r 188, gj_i b1, gj_i b2] σ (some (gj_i x)) y := by
  refine gj_body (lv := [(0, gj_r 188), (1, gj_i b1), (2, gj_i b2)]) (by decide +kernel) (Nat.le_of_ble_eq_true rfl) rfl (fun X hO => ?_)
  replace hO : gj_O E X RX9 cX9_number 4 (some .int) 2 46 := hO
  unfold f_X9_number at hf
  refine gj_aload_n hO 0 dX9_number_0 rfl rfl ?_
  refine gj_aload_n hO 0 dX9_number_1 rfl rfl ?_
  refine gt_X9_6 hO wk_648 dX9_number_2 ?_
  refine gj_iconst (v := 2) hO dX9_number_5 (by decide) ?_
  obtain ⟨z1, hz1, hf⟩ := gj_b hf
  have J1 : gj_G E X 4 (some (gj_i x)) y 14 [(0, gj_r 188), (1, gj_i b1), (2, gj_i b2)] [gj_i z1, gj_r 188] σ := by
    refine gj_iconst (v := 1) hO dX9_number_14 (by decide) ?_
    obtain ⟨⟨x2_v, x2_s⟩, hc2, hf⟩ := gj_b hf
    dsimp only at hf
    refine ca_X9_must hO kl_188  hc2 wk_677 (by decide) (by decide) (Nat.le_of_ble_eq_true rfl) dX9_number_15 ?_
    refine gj_if_eq (tgt := 41) hO dX9_number_18 (by decide) (fun h => ?_) (fun h => ?_)
    · replace hf := gj_t h hf
      refine gj_iload_n hO 1 dX9_number_41 rfl rfl ?_
      replace hf := Option.some.inj hf
      simp only [Prod.mk.injEq] at hf
      obtain ⟨rfl, rfl⟩ := hf
      exact gj_iret hO dX9_number_42
    · replace hf := gj_f h hf
      refine gj_aload_n hO 0 dX9_number_21 rfl rfl ?_
      refine gj_aload_n hO 0 dX9_number_22 rfl rfl ?_
      refine gt_X9_7 hO wk_649 dX9_number_23 ?_
      refine gj_i2l hO dX9_number_26 ?_
      refine gj_iload_n hO 1 dX9_number_27 rfl rfl ?_
      refine gj_i2l hO dX9_number_28 ?_
      refine gj_iload_n hO 2 dX9_number_29 rfl rfl ?_
      refine gj_i2l hO dX9_number_30 ?_
      obtain ⟨x3, hc3, hf⟩ := gj_b hf
      refine ca_X9_within hO kl_188  hc3 wk_653 (by decide) (by decide) (Nat.le_of_ble_eq_true rfl) dX9_number_31 ?_
      refine gj_iconst (v := 3) hO dX9_number_34 (by decide) ?_
      obtain ⟨⟨x4_v, x4_s⟩, hc4, hf⟩ := gj_b hf
      dsimp only at hf
      refine ca_X9_must hO kl_188  hc4 wk_677 (by decide) (by decide) (Nat.le_of_ble_eq_true rfl) dX9_number_35 ?_
      refine gj_if_ne (tgt := 43) hO dX9_number_38 (by decide) (fun h => ?_) (fun h => ?_)
      · replace hf := gj_f h hf
        refine gj_aload_n hO 0 dX9_number_43 rfl rfl ?_
        refine gt_X9_7 hO wk_649 dX9_number_44 ?_
        refine gj_istore_n (lv2 := [(3, gj_i (x4_s.1 188 7)), (0, gj_r 188), (1, gj_i b1), (2, gj_i b2)]) hO dX9_number_47 rfl (by decide) rfl ?_
        refine gj_aload_n hO 1 dX9_number_48 rfl rfl ?_
        obtain ⟨x5, hc5, hf⟩ := gj_b hf
        refine ca_X9_goesOn hO kl_188  hc5 wk_678 (by decide) (by decide) (Nat.le_of_ble_eq_true rfl) dX9_number_49 ?_
        refine gj_iload_n hO 0 dX9_number_52 rfl rfl ?_
        replace hf := Option.some.inj hf
        simp only [Prod.mk.injEq] at hf
        obtain ⟨rfl, rfl⟩ := hf
        exact gj_iret hO dX9_number_53
      · replace hf := gj_t h hf
        refine gj_iload_n hO 1 dX9_number_41 rfl rfl ?_
        replace hf := Option.some.inj hf
        simp only [Prod.mk.injEq] at hf
        obtain ⟨rfl, rfl⟩ := hf
        exact gj_iret hO dX9_number_42
  refine gj_icmp_ne (tgt := 13) hO dX9_number_6 (by decide) (fun h => ?_) (fun h => ?_)
  · replace hz1 := gj_f h hz1
    refine gj_iconst (v := 0) hO dX9_number_13 (by decide) ?_
    obtain rfl := Option.some.inj hz1
    refine gj_sub (lv2 := [(0, gj_r 188), (1, gj_i b1), (2, gj_i b2)]) [0, 1, 2] rfl ?_
    exact J1
  · replace hz1 := gj_t h hz1
    refine gj_iconst (v := 1) hO dX9_number_9 (by decide) ?_
    refine gj_goto (tgt := 14) hO dX9_number_10 (by decide) ?_
    obtain rfl := Option.some.inj hz1
    refine gj_sub (lv2 := [(0, gj_r 188), (1, gj_i b1), (2, gj_i b2)]) [0, 1, 2] rfl ?_
    exact J1
set_option maxHeartbeats 4000000 in
set_option maxRecDepth 100000 in
theorem ca_X9_number {E : gj_E} {X : gj_X} {own : String} {cc : ByteArray} {nL : Nat} {rt : Option FieldType} {fr lo : Nat} {ce sl : Nat} {Q : State → Prop} {pc : Nat} {lv : List (Nat × gj_V)} {st : List gj_V} {σ : gj_S} (hO : gj_O E X own cc nL rt fr lo) (hw : gj_lt own 188) {b1 : Int32} {b2 : Int32}  {idx : Nat} {x : Int32} {y : gj_S} (hf : f_X9_number b1 b2 σ = some (x, y)) (hl : Cond.methodLink own idx yX9_number ∈ gj_gw) (hf1 : 3 ≤ fr) (hf2 : 69 ≤ lo) (hcat : ((st.map (gj_tv E.2.1)).map fun v => v.category).sum ≤ 8) (hd : decode cc pc = .ok (.invokevirtual idx, 3)) (k : gj_H E X nL ce sl Q (pc + 3) lv ((gj_i x) :: st) y) : gj_H E X nL ce sl Q pc lv (gj_i b2 :: gj_i b1 :: gj_r 188 :: st) σ :=
  gj_callV hO (o := 188) (vs := [gj_i b1, gj_i b2]) (m_X9_number  hf) (gj_I9 hw) hl wk_679 wk_680 wk_629 wk_681 hw kd_188 (by decide) (ci := 9) rfl (n := 2) (by decide +kernel) rfl hf1 hf2 rfl hcat hd k
