def f_X8_enters  (σ : gj_S) : Option (Int32 × gj_S) := ((f_X7_findEntering 16 σ).bind fun x1 => (if x1.1 = (-1 : Int32) then some ((-2 : Int32), x1.2) else some (x1.1, x1.2)))
set_option maxHeartbeats 4000000 in
set_option maxRecDepth 100000 in
theorem m_X8_enters {E : gj_E} {σ : gj_S}   {x : Int32} {y : gj_S} (hf : f_X8_enters  σ = some (x, y)) : gj_M E yX8_enters cX8_enters 2 (some .int) 3 70 [gj_r 0] σ (some (gj_i x)) y := by
  refine gj_body (lv := [(0, gj_r 0)]) (by decide +kernel) (Nat.le_of_ble_eq_true rfl) rfl (fun X hO => ?_)
  replace hO : gj_O E X RX8 cX8_enters 2 (some .int) 3 70 := hO
  unfold f_X8_enters at hf
  refine gj_aload_n hO 0 dX8_enters_0 rfl rfl ?_
  refine gt_X8_4 hO wk_185 dX8_enters_1 ?_
  obtain ⟨⟨x1_v, x1_s⟩, hc1, hf⟩ := gj_b hf
  dsimp only at hf
  refine ca_X7_findEntering hO isY_16 hc1 wk_282 (by decide) (by decide) (Nat.le_of_ble_eq_true rfl) dX8_enters_4 ?_
  refine gj_istore_n (lv2 := [(1, gj_i x1_v), (0, gj_r 0)]) hO dX8_enters_7 rfl (by decide) rfl ?_
  refine gj_iload_n hO 0 dX8_enters_8 rfl rfl ?_
  refine gj_iconst (v := (-1)) hO dX8_enters_9 (by decide) ?_
  refine gj_icmp_ne (tgt := 18) hO dX8_enters_10 (by decide) (fun h => ?_) (fun h => ?_)
  · replace hf := gj_f h hf
    refine gj_iload_n hO 0 dX8_enters_18 rfl rfl ?_
    replace hf := Option.some.inj hf
    simp only [Prod.mk.injEq] at hf
    obtain ⟨rfl, rfl⟩ := hf
    exact gj_iret hO dX8_enters_19
  · replace hf := gj_t h hf
    refine gj_bipush (v := (-2)) hO dX8_enters_13 (by decide) ?_
    refine gj_goto (tgt := 19) hO dX8_enters_15 (by decide) ?_
    replace hf := Option.some.inj hf
    simp only [Prod.mk.injEq] at hf
    obtain ⟨rfl, rfl⟩ := hf
    exact gj_iret hO dX8_enters_19
set_option maxHeartbeats 4000000 in
set_option maxRecDepth 100000 in
theorem ca_X8_enters {E : gj_E} {X : gj_X} {own : String} {cc : ByteArray} {nL : Nat} {rt : Option FieldType} {fr lo : Nat} {ce sl : Nat} {Q : State → Prop} {pc : Nat} {lv : List (Nat × gj_V)} {st : List gj_V} {σ : gj_S} (hO : gj_O E X own cc nL rt fr lo)   {idx : Nat} {x : Int32} {y : gj_S} (hf : f_X8_enters  σ = some (x, y)) (hl : Cond.methodLink own idx yX8_enters ∈ gj_gw) (hf1 : 4 ≤ fr) (hf2 : 91 ≤ lo) (hcat : ((st.map (gj_tv E.2.1)).map fun v => v.category).sum ≤ 8) (hd : decode cc pc = .ok (.invokevirtual idx, 3)) (k : gj_H E X nL ce sl Q (pc + 3) lv ((gj_i x) :: st) y) : gj_H E X nL ce sl Q pc lv (gj_r 0 :: st) σ :=
  gj_callV hO (o := 0) (vs := []) (m_X8_enters  hf) (gj_Iany (by decide)) hl wk_283 wk_284 wk_4 wk_285 kl_0 kd_0 (by decide) (ci := 8) rfl (n := 0) (by decide +kernel) rfl hf1 hf2 rfl hcat hd k
def fb_X5_findApex_l8 (b0 : Nat) (σ : gj_S) (a10008 : (Int32 × Int32 × Int32)) : Option (Int32 ⊕ (Int32 × Int32 × Int32)) := (if (18 : Int32) ≤ a10008.2.2 then some (.inl a10008.1) else (if a10008.1 = a10008.2.1 then some (.inl a10008.1) else (if gj_in a10008.1 9 then (if gj_in a10008.2.1 9 then (if (σ.1 (b0 + 3) (Int32.toNatClampNeg a10008.1)) ≤ (σ.1 (b0 + 3) (Int32.toNatClampNeg a10008.2.1)) then (if gj_in a10008.2.1 9 then some (.inr (a10008.1, (σ.1 (b0 + 2) (Int32.toNatClampNeg a10008.2.1)), (a10008.2.2 + 1))) else none) else (if gj_in a10008.1 9 then some (.inr ((σ.1 (b0 + 2) (Int32.toNatClampNeg a10008.1)), a10008.2.1, (a10008.2.2 + 1))) else none)) else none) else none)))
def f_X5_findApex (b0 : Nat) (b1 : Int32) (b2 : Int32) (σ : gj_S) : Option Int32 := ((gj_lp (fb_X5_findApex_l8 b0 σ) 5000 (b1, b2, (0 : Int32))).bind fun z1 => some z1)
set_option maxHeartbeats 4000000 in
set_option maxRecDepth 100000 in
theorem sb_X5_findApex_l8 {E : gj_E} {X : gj_X} {r : Option gj_V} {τ : gj_S} (hO : gj_O E X RX5 cX5_findApex 6 (some .int) 0 0) {b0 : Nat} {σ : gj_S} (g0 : isT b0) {a10008_0 : Int32} {a10008_1 : Int32} {a10008_2 : Int32} {x : Int32 ⊕ (Int32 × Int32 × Int32)} (hf : fb_X5_findApex_l8 b0 σ (a10008_0, a10008_1, a10008_2) = some x) (K : gj_K (fun z1 => gj_G E X 6 r τ 62 [(3, gj_i z1)] [] σ) (fun a10008 => gj_G E X 6 r τ 8 [(0, gj_r b0), (3, gj_i a10008.1), (4, gj_i a10008.2.1), (5, gj_i a10008.2.2)] [] σ) x) : gj_G E X 6 r τ 8 [(0, gj_r b0), (3, gj_i a10008_0), (4, gj_i a10008_1), (5, gj_i a10008_2)] [] σ := by
  unfold fb_X5_findApex_l8 at hf
  dsimp only at hf
  refine gj_iload hO 3 dX5_findApex_8 rfl ?_
  refine gj_bipush (v := 18) hO dX5_findApex_10 (by decide) ?_
  refine gj_icmp_ge (tgt := 62) hO dX5_findApex_12 (by decide) (fun h => ?_) (fun h => ?_)
  · replace hf := gj_t h hf
    obtain rfl := Option.some.inj hf
    refine gj_sub (lv2 := [(3, gj_i a10008_0)]) [1] rfl ?_
    exact K
  · replace hf := gj_f h hf
    refine gj_iload_n hO 1 dX5_findApex_15 rfl rfl ?_
    refine gj_iload hO 2 dX5_findApex_16 rfl ?_
    refine gj_icmp_eq (tgt := 62) hO dX5_findApex_18 (by decide) (fun h => ?_) (fun h => ?_)
    · replace hf := gj_t h hf
      obtain rfl := Option.some.inj hf
      refine gj_sub (lv2 := [(3, gj_i a10008_0)]) [1] rfl ?_
      exact K
    · replace hf := gj_f h hf
      refine gj_aload_n hO 0 dX5_findApex_21 rfl rfl ?_
      refine gt_X5_2 hO (kdT_0 g0) (klT_0 g0) wk_145 dX5_findApex_22 ?_
      refine gj_iload_n hO 1 dX5_findApex_25 rfl rfl ?_
      obtain ⟨hb10801, hf⟩ := gj_c hf
      refine gj_iald hO (klT_3 g0) (kdT_3 g0) hb10801 dX5_findApex_26 ?_
      refine gj_aload_n hO 0 dX5_findApex_27 rfl rfl ?_
      refine gt_X5_2 hO (kdT_0 g0) (klT_0 g0) wk_145 dX5_findApex_28 ?_
      refine gj_iload hO 2 dX5_findApex_31 rfl ?_
      obtain ⟨hb10802, hf⟩ := gj_c hf
      refine gj_iald hO (klT_3 g0) (kdT_3 g0) hb10802 dX5_findApex_33 ?_
      refine gj_icmp_le (tgt := 47) hO dX5_findApex_34 (by decide) (fun h => ?_) (fun h => ?_)
      · replace hf := gj_t h hf
        refine gj_aload_n hO 0 dX5_findApex_47 rfl rfl ?_
        refine gt_X5_1 hO (kdT_0 g0) (klT_0 g0) wk_144 dX5_findApex_48 ?_
        refine gj_iload hO 2 dX5_findApex_51 rfl ?_
        obtain ⟨hb10803, hf⟩ := gj_c hf
        refine gj_iald hO (klT_2 g0) (kdT_2 g0) hb10803 dX5_findApex_53 ?_
        refine gj_istore (lv2 := [(4, gj_i (σ.1 (b0 + 2) (Int32.toNatClampNeg a10008_1))), (0, gj_r b0), (3, gj_i a10008_0), (5, gj_i a10008_2)]) hO dX5_findApex_54 (by decide) rfl ?_
        refine gj_iinc (v := (a10008_2 + 1)) (lv2 := [(5, gj_i (a10008_2 + 1)), (4, gj_i (σ.1 (b0 + 2) (Int32.toNatClampNeg a10008_1))), (0, gj_r b0), (3, gj_i a10008_0)]) hO 3 dX5_findApex_56 rfl rfl (by decide) rfl ?_
        refine gj_goto (tgt := 8) hO dX5_findApex_59 (by decide) ?_
        obtain rfl := Option.some.inj hf
        refine gj_sub (lv2 := [(0, gj_r b0), (3, gj_i a10008_0), (4, gj_i (σ.1 (b0 + 2) (Int32.toNatClampNeg a10008_1))), (5, gj_i (a10008_2 + 1))]) [2, 3, 1, 0] rfl ?_
        exact K
      · replace hf := gj_f h hf
        refine gj_aload_n hO 0 dX5_findApex_37 rfl rfl ?_
        refine gt_X5_1 hO (kdT_0 g0) (klT_0 g0) wk_144 dX5_findApex_38 ?_
        refine gj_iload_n hO 1 dX5_findApex_41 rfl rfl ?_
        obtain ⟨hb10804, hf⟩ := gj_c hf
        refine gj_iald hO (klT_2 g0) (kdT_2 g0) hb10804 dX5_findApex_42 ?_
        refine gj_istore_n (lv2 := [(3, gj_i (σ.1 (b0 + 2) (Int32.toNatClampNeg a10008_0))), (0, gj_r b0), (4, gj_i a10008_1), (5, gj_i a10008_2)]) hO dX5_findApex_43 rfl (by decide) rfl ?_
        refine gj_goto (tgt := 56) hO dX5_findApex_44 (by decide) ?_
        refine gj_iinc (v := (a10008_2 + 1)) (lv2 := [(5, gj_i (a10008_2 + 1)), (3, gj_i (σ.1 (b0 + 2) (Int32.toNatClampNeg a10008_0))), (0, gj_r b0), (4, gj_i a10008_1)]) hO 3 dX5_findApex_56 rfl rfl (by decide) rfl ?_
        refine gj_goto (tgt := 8) hO dX5_findApex_59 (by decide) ?_
        obtain rfl := Option.some.inj hf
        refine gj_sub (lv2 := [(0, gj_r b0), (3, gj_i (σ.1 (b0 + 2) (Int32.toNatClampNeg a10008_0))), (4, gj_i a10008_1), (5, gj_i (a10008_2 + 1))]) [2, 1, 3, 0] rfl ?_
        exact K
set_option maxHeartbeats 4000000 in
set_option maxRecDepth 100000 in
theorem m_X5_findApex {E : gj_E} {σ : gj_S} {b0 : Nat} {b1 : Int32} {b2 : Int32} (g0 : isT b0) {x : Int32} (hf : f_X5_findApex b0 b1 b2 σ = some x) : gj_M E yX5_findApex cX5_findApex 6 (some .int) 0 0 [gj_r b0, gj_i b1, gj_i b2] σ (some (gj_i x)) σ := by
  refine gj_body (lv := [(0, gj_r b0), (1, gj_i b1), (2, gj_i b2)]) (by decide +kernel) (Nat.le_of_ble_eq_true rfl) rfl (fun X hO => ?_)
  replace hO : gj_O E X RX5 cX5_findApex 6 (some .int) 0 0 := hO
  unfold f_X5_findApex at hf
  refine gj_iload_n hO 1 dX5_findApex_0 rfl rfl ?_
  refine gj_istore_n (lv2 := [(3, gj_i b1), (0, gj_r b0), (1, gj_i b1), (2, gj_i b2)]) hO dX5_findApex_1 rfl (by decide) rfl ?_
  refine gj_iload_n hO 3 dX5_findApex_2 rfl rfl ?_
  refine gj_istore (lv2 := [(4, gj_i b2), (3, gj_i b1), (0, gj_r b0), (1, gj_i b1), (2, gj_i b2)]) hO dX5_findApex_3 (by decide) rfl ?_
  refine gj_iconst (v := 0) hO dX5_findApex_5 (by decide) ?_
  refine gj_istore (lv2 := [(5, gj_i (0 : Int32)), (4, gj_i b2), (3, gj_i b1), (0, gj_r b0), (1, gj_i b1), (2, gj_i b2)]) hO dX5_findApex_6 (by decide) rfl ?_
  obtain ⟨z1, hz1, hf⟩ := gj_b hf
  have J1 : gj_G E X 6 (some (gj_i x)) σ 62 [(3, gj_i z1)] [] σ := by
    refine gj_iload_n hO 0 dX5_findApex_62 rfl rfl ?_
    obtain rfl := Option.some.inj hf
    exact gj_iret hO dX5_findApex_63
  refine gj_sub (lv2 := [(0, gj_r b0), (3, gj_i b1), (4, gj_i b2), (5, gj_i (0 : Int32))]) [3, 2, 1, 0] rfl ?_
  exact gj_loop (head := fun a10008 => gj_G E X 6 (some (gj_i x)) σ 8 [(0, gj_r b0), (3, gj_i a10008.1), (4, gj_i a10008.2.1), (5, gj_i a10008.2.2)] [] σ) (exit := fun z1 => gj_G E X 6 (some (gj_i x)) σ 62 [(3, gj_i z1)] [] σ) (fun a10008 x hf K => by obtain ⟨a10008_0, a10008_1, a10008_2⟩ := a10008; exact sb_X5_findApex_l8 hO g0 hf K) _ _ _ hz1 J1
set_option maxHeartbeats 4000000 in
set_option maxRecDepth 100000 in
theorem ca_X5_findApex {E : gj_E} {X : gj_X} {own : String} {cc : ByteArray} {nL : Nat} {rt : Option FieldType} {fr lo : Nat} {ce sl : Nat} {Q : State → Prop} {pc : Nat} {lv : List (Nat × gj_V)} {st : List gj_V} {σ : gj_S} (hO : gj_O E X own cc nL rt fr lo) {b0 : Nat} {b1 : Int32} {b2 : Int32} (g0 : isT b0) {idx : Nat} {x : Int32} (hf : f_X5_findApex b0 b1 b2 σ = some x) (hl : Cond.methodLink own idx yX5_findApex ∈ gj_gw) (hf1 : 1 ≤ fr) (hf2 : 25 ≤ lo) (hcat : ((st.map (gj_tv E.2.1)).map fun v => v.category).sum ≤ 8) (hd : decode cc pc = .ok (.invokevirtual idx, 3)) (k : gj_H E X nL ce sl Q (pc + 3) lv ((gj_i x) :: st) σ) : gj_H E X nL ce sl Q pc lv (gj_i b2 :: gj_i b1 :: gj_r b0 :: st) σ :=
  gj_callV hO (o := b0) (vs := [gj_i b1, gj_i b2]) (m_X5_findApex g0 hf) (gj_Iany (by decide)) hl wk_286 wk_287 wk_149 wk_288 (klT_0 g0) (kdT_0 g0) (by decide) (ci := 5) rfl (n := 2) (by decide +kernel) rfl hf1 hf2 rfl hcat hd k
def f_X3_put (b0 : Nat) (b1 : Int32) (b2 : Int32) (b3 : Int32) (σ : gj_S) : Option gj_S := (if gj_in b1 17 then (if gj_in b1 17 then ((some (gj_sI (gj_sI σ (b0 + 1) (upd (σ.1 (b0 + 1)) (Int32.toNatClampNeg b1) b2)) (b0 + 2) (upd ((gj_sI σ (b0 + 1) (upd (σ.1 (b0 + 1)) (Int32.toNatClampNeg b1) b2)).1 (b0 + 2)) (Int32.toNatClampNeg b1) (vp_nar .boolean b3)))).bind fun s3 => some (gj_sI s3 b0 (upd (s3.1 b0) 0 ((s3.1 b0 0) + (1 : Int32))))) else none) else none)
set_option maxHeartbeats 4000000 in
set_option maxRecDepth 100000 in
theorem m_X3_put {E : gj_E} {σ : gj_S} {b0 : Nat} {b1 : Int32} {b2 : Int32} {b3 : Int32} (g0 : isR b0) {x : gj_S} (hf : f_X3_put b0 b1 b2 b3 σ = some x) : gj_M E yX3_put cX3_put 4 none 0 0 [gj_r b0, gj_i b1, gj_i b2, gj_i b3] σ none x := by
  refine gj_body (lv := [(0, gj_r b0), (1, gj_i b1), (2, gj_i b2), (3, gj_i b3)]) (by decide +kernel) (Nat.le_of_ble_eq_true rfl) rfl (fun X hO => ?_)
  replace hO : gj_O E X RX3 cX3_put 4 none 0 0 := hO
  unfold f_X3_put at hf
  refine gj_aload_n hO 0 dX3_put_0 rfl rfl ?_
  refine gt_X3_3 hO (kdR_0 g0) (klR_0 g0) wk_289 dX3_put_1 ?_
  refine gj_iload_n hO 1 dX3_put_4 rfl rfl ?_
  refine gj_iload_n hO 2 dX3_put_5 rfl rfl ?_
  obtain ⟨hb1, hf⟩ := gj_c hf
  refine gj_iast hO (klR_1 g0) (kdR_1 g0) hb1 dX3_put_6 ?_
  refine gj_aload_n hO 0 dX3_put_7 rfl rfl ?_
  refine gt_X3_4 hO (kdR_0 g0) (klR_0 g0) wk_290 dX3_put_8 ?_
  refine gj_iload_n hO 1 dX3_put_11 rfl rfl ?_
  refine gj_iload_n hO 3 dX3_put_12 rfl rfl ?_
  obtain ⟨hb2, hf⟩ := gj_c hf
  refine gj_zast hO (klR_2 g0) (kdR_2 g0) hb2 dX3_put_13 ?_
  obtain ⟨s3, e3, hf⟩ := gj_b hf
  refine gj_eqS (Option.some.inj e3) ?_
  refine gj_aload_n hO 0 dX3_put_14 rfl rfl ?_
  refine gj_dup hO dX3_put_15 trivial ?_
  refine gt_X3_0 hO (kdR_0 g0) (klR_0 g0) wk_291 dX3_put_16 ?_
  refine gj_iconst (v := 1) hO dX3_put_19 (by decide) ?_
  refine gj_iadd hO dX3_put_20 ?_
  refine pt_X3_0 hO (kdR_0 g0) (klR_0 g0) wk_291 dX3_put_21 ?_
  obtain rfl := Option.some.inj hf
  exact gj_vret hO dX3_put_24
set_option maxHeartbeats 4000000 in
set_option maxRecDepth 100000 in
theorem ca_X3_put {E : gj_E} {X : gj_X} {own : String} {cc : ByteArray} {nL : Nat} {rt : Option FieldType} {fr lo : Nat} {ce sl : Nat} {Q : State → Prop} {pc : Nat} {lv : List (Nat × gj_V)} {st : List gj_V} {σ : gj_S} (hO : gj_O E X own cc nL rt fr lo) {b0 : Nat} {b1 : Int32} {b2 : Int32} {b3 : Int32} (g0 : isR b0) {idx : Nat} {x : gj_S} (hf : f_X3_put b0 b1 b2 b3 σ = some x) (hl : Cond.methodLink own idx yX3_put ∈ gj_gw) (hf1 : 1 ≤ fr) (hf2 : 23 ≤ lo) (hcat : ((st.map (gj_tv E.2.1)).map fun v => v.category).sum ≤ 8) (hd : decode cc pc = .ok (.invokevirtual idx, 3)) (k : gj_H E X nL ce sl Q (pc + 3) lv (st) x) : gj_H E X nL ce sl Q pc lv (gj_i b3 :: gj_i b2 :: gj_i b1 :: gj_r b0 :: st) σ :=
  gj_callV hO (o := b0) (vs := [gj_i b1, gj_i b2, gj_i b3]) (m_X3_put g0 hf) (gj_Iany (by decide)) hl wk_292 wk_293 wk_294 wk_295 (klR_0 g0) (kdR_0 g0) (by decide) (ci := 3) rfl (n := 3) (by decide +kernel) rfl hf1 hf2 rfl hcat hd k
def f_X1_roomOf (b0 : Nat) (b1 : Int32) (b2 : Int32) (σ : gj_S) : Option Int32 := (if b2 = 0 then (if gj_in b1 24 then some (σ.1 (b0 + 6) (Int32.toNatClampNeg b1)) else none) else (if gj_in b1 24 then (if (σ.1 (b0 + 5) (Int32.toNatClampNeg b1)) = (1000000 : Int32) then some (1000000 : Int32) else (if gj_in b1 24 then (if gj_in b1 24 then some ((σ.1 (b0 + 5) (Int32.toNatClampNeg b1)) - (σ.1 (b0 + 6) (Int32.toNatClampNeg b1))) else none) else none)) else none))
set_option maxHeartbeats 4000000 in
set_option maxRecDepth 100000 in
theorem m_X1_roomOf {E : gj_E} {σ : gj_S} {b0 : Nat} {b1 : Int32} {b2 : Int32} (g0 : isP b0) {x : Int32} (hf : f_X1_roomOf b0 b1 b2 σ = some x) : gj_M E yX1_roomOf cX1_roomOf 3 (some .int) 0 0 [gj_r b0, gj_i b1, gj_i b2] σ (some (gj_i x)) σ := by
  refine gj_body (lv := [(0, gj_r b0), (1, gj_i b1), (2, gj_i b2)]) (by decide +kernel) (Nat.le_of_ble_eq_true rfl) rfl (fun X hO => ?_)
  replace hO : gj_O E X RX1 cX1_roomOf 3 (some .int) 0 0 := hO
  unfold f_X1_roomOf at hf
  refine gj_iload_n hO 2 dX1_roomOf_0 rfl rfl ?_
  refine gj_if_ne (tgt := 11) hO dX1_roomOf_1 (by decide) (fun h => ?_) (fun h => ?_)
  · replace hf := gj_f h hf
    refine gj_aload_n hO 0 dX1_roomOf_11 rfl rfl ?_
    refine gt_X1_9 hO (kdP_0 g0) (klP_0 g0) wk_125 dX1_roomOf_12 ?_
    refine gj_iload_n hO 1 dX1_roomOf_15 rfl rfl ?_
    obtain ⟨hb1, hf⟩ := gj_c hf
    refine gj_iald hO (klP_5 g0) (kdP_5 g0) hb1 dX1_roomOf_16 ?_
    refine gj_ldc hO wk_132 dX1_roomOf_17 ?_
    refine gj_icmp_ne (tgt := 27) hO dX1_roomOf_19 (by decide) (fun h => ?_) (fun h => ?_)
    · replace hf := gj_f h hf
      refine gj_aload_n hO 0 dX1_roomOf_27 rfl rfl ?_
      refine gt_X1_9 hO (kdP_0 g0) (klP_0 g0) wk_125 dX1_roomOf_28 ?_
      refine gj_iload_n hO 1 dX1_roomOf_31 rfl rfl ?_
      obtain ⟨hb2, hf⟩ := gj_c hf
      refine gj_iald hO (klP_5 g0) (kdP_5 g0) hb2 dX1_roomOf_32 ?_
      refine gj_aload_n hO 0 dX1_roomOf_33 rfl rfl ?_
      refine gt_X1_10 hO (kdP_0 g0) (klP_0 g0) wk_126 dX1_roomOf_34 ?_
      refine gj_iload_n hO 1 dX1_roomOf_37 rfl rfl ?_
      obtain ⟨hb3, hf⟩ := gj_c hf
      refine gj_iald hO (klP_6 g0) (kdP_6 g0) hb3 dX1_roomOf_38 ?_
      refine gj_isub hO dX1_roomOf_39 ?_
      obtain rfl := Option.some.inj hf
      exact gj_iret hO dX1_roomOf_40
    · replace hf := gj_t h hf
      refine gj_ldc hO wk_132 dX1_roomOf_22 ?_
      refine gj_goto (tgt := 40) hO dX1_roomOf_24 (by decide) ?_
      obtain rfl := Option.some.inj hf
      exact gj_iret hO dX1_roomOf_40
  · replace hf := gj_t h hf
    refine gj_aload_n hO 0 dX1_roomOf_4 rfl rfl ?_
    refine gt_X1_10 hO (kdP_0 g0) (klP_0 g0) wk_126 dX1_roomOf_5 ?_
    refine gj_iload_n hO 1 dX1_roomOf_8 rfl rfl ?_
    obtain ⟨hb4, hf⟩ := gj_c hf
    refine gj_iald hO (klP_6 g0) (kdP_6 g0) hb4 dX1_roomOf_9 ?_
    obtain rfl := Option.some.inj hf
    exact gj_iret hO dX1_roomOf_10
set_option maxHeartbeats 4000000 in
set_option maxRecDepth 100000 in
theorem ca_X1_roomOf {E : gj_E} {X : gj_X} {own : String} {cc : ByteArray} {nL : Nat} {rt : Option FieldType} {fr lo : Nat} {ce sl : Nat} {Q : State → Prop} {pc : Nat} {lv : List (Nat × gj_V)} {st : List gj_V} {σ : gj_S} (hO : gj_O E X own cc nL rt fr lo) {b0 : Nat} {b1 : Int32} {b2 : Int32} (g0 : isP b0) {idx : Nat} {x : Int32} (hf : f_X1_roomOf b0 b1 b2 σ = some x) (hl : Cond.methodLink own idx yX1_roomOf ∈ gj_gw) (hf1 : 1 ≤ fr) (hf2 : 22 ≤ lo) (hcat : ((st.map (gj_tv E.2.1)).map fun v => v.category).sum ≤ 8) (hd : decode cc pc = .ok (.invokevirtual idx, 3)) (k : gj_H E X nL ce sl Q (pc + 3) lv ((gj_i x) :: st) σ) : gj_H E X nL ce sl Q pc lv (gj_i b2 :: gj_i b1 :: gj_r b0 :: st) σ :=
  gj_callV hO (o := b0) (vs := [gj_i b1, gj_i b2]) (m_X1_roomOf g0 hf) (gj_Iany (by decide)) hl wk_296 wk_297 wk_15 wk_298 (klP_0 g0) (kdP_0 g0) (by decide) (ci := 1) rfl (n := 2) (by decide +kernel) rfl hf1 hf2 rfl hcat hd k
def fb_X3_findLeaving_l13 (b0 : Nat) (b1 : Nat) (b2 : Int32) (a10013 : (Int32 × gj_S)) : Option (gj_S ⊕ (Int32 × gj_S)) := (if (a10013.2.1 b0 0) ≤ a10013.1 then some (.inl a10013.2) else (if gj_in a10013.1 17 then ((if (a10013.2.1 (b0 + 1) (Int32.toNatClampNeg a10013.1)) = b2 then (if gj_in (a10013.2.1 (b0 + 1) (Int32.toNatClampNeg a10013.1)) 24 then some (a10013.2.1 (b1 + 5) (Int32.toNatClampNeg (a10013.2.1 (b0 + 1) (Int32.toNatClampNeg a10013.1)))) else none) else (if gj_in a10013.1 17 then ((f_X1_roomOf b1 (a10013.2.1 (b0 + 1) (Int32.toNatClampNeg a10013.1)) (a10013.2.1 (b0 + 2) (Int32.toNatClampNeg a10013.1)) a10013.2).bind fun x11304 => some x11304) else none) : Option Int32).bind fun z11302 => (if (a10013.2.1 b0 2) < z11302 then some (.inr ((a10013.1 + 1), a10013.2)) else some (.inr ((a10013.1 + 1), (gj_sI (gj_sI a10013.2 b0 (upd (a10013.2.1 b0) 2 z11302)) b0 (upd ((gj_sI a10013.2 b0 (upd (a10013.2.1 b0) 2 z11302)).1 b0) 5 a10013.1)))))) else none))
def f_X3_findLeaving (b0 : Nat) (b1 : Nat) (b2 : Int32) (σ : gj_S) : Option gj_S := ((gj_lp (fb_X3_findLeaving_l13 b0 b1 b2) 5000 ((0 : Int32), (gj_sI (gj_sI σ b0 (upd (σ.1 b0) 2 (1000000 : Int32))) b0 (upd ((gj_sI σ b0 (upd (σ.1 b0) 2 (1000000 : Int32))).1 b0) 5 (0 : Int32))))).bind fun z1 => some z1)
set_option maxHeartbeats 4000000 in
set_option maxRecDepth 100000 in
theorem sb_X3_findLeaving_l13 {E : gj_E} {X : gj_X} {r : Option gj_V} {τ : gj_S} (hO : gj_O E X RX3 cX3_findLeaving 6 none 1 22) {b0 : Nat} {b1 : Nat} {b2 : Int32} (g0 : isR b0) (g1 : isP b1) {a10013_0 : Int32} {a10013_1 : gj_S} {x : gj_S ⊕ (Int32 × gj_S)} (hf : fb_X3_findLeaving_l13 b0 b1 b2 (a10013_0, a10013_1) = some x) (K : gj_K (fun z1 => gj_G E X 6 r τ 85 [] [] z1) (fun a10013 => gj_G E X 6 r τ 13 [(0, gj_r b0), (1, gj_r b1), (2, gj_i b2), (3, gj_i a10013.1)] [] a10013.2) x) : gj_G E X 6 r τ 13 [(0, gj_r b0), (1, gj_r b1), (2, gj_i b2), (3, gj_i a10013_0)] [] a10013_1 := by
  unfold fb_X3_findLeaving_l13 at hf
  dsimp only at hf
  refine gj_iload_n hO 3 dX3_findLeaving_13 rfl rfl ?_
  refine gj_aload_n hO 0 dX3_findLeaving_14 rfl rfl ?_
  refine gt_X3_0 hO (kdR_0 g0) (klR_0 g0) wk_291 dX3_findLeaving_15 ?_
  refine gj_icmp_ge (tgt := 85) hO dX3_findLeaving_18 (by decide) (fun h => ?_) (fun h => ?_)
  · replace hf := gj_t h hf
    obtain rfl := Option.some.inj hf
    refine gj_sub (lv2 := []) [] rfl ?_
    exact K
  · replace hf := gj_f h hf
    refine gj_aload_n hO 0 dX3_findLeaving_21 rfl rfl ?_
    refine gt_X3_3 hO (kdR_0 g0) (klR_0 g0) wk_289 dX3_findLeaving_22 ?_
    refine gj_iload_n hO 3 dX3_findLeaving_25 rfl rfl ?_
    obtain ⟨hb11301, hf⟩ := gj_c hf
    refine gj_iald hO (klR_1 g0) (kdR_1 g0) hb11301 dX3_findLeaving_26 ?_
    refine gj_istore (lv2 := [(4, gj_i (a10013_1.1 (b0 + 1) (Int32.toNatClampNeg a10013_0))), (0, gj_r b0), (1, gj_r b1), (2, gj_i b2), (3, gj_i a10013_0)]) hO dX3_findLeaving_27 (by decide) rfl ?_
    refine gj_iload hO 0 dX3_findLeaving_29 rfl ?_
    refine gj_iload_n hO 3 dX3_findLeaving_31 rfl rfl ?_
    obtain ⟨z11302, hz11302, hf⟩ := gj_b hf
    have J11302 : gj_G E X 6 r τ 57 [(0, gj_r b0), (1, gj_r b1), (2, gj_i b2), (3, gj_i a10013_0)] [gj_i z11302] a10013_1 := by
      refine gj_istore (lv2 := [(5, gj_i z11302), (0, gj_r b0), (1, gj_r b1), (2, gj_i b2), (3, gj_i a10013_0)]) hO dX3_findLeaving_57 (by decide) rfl ?_
      refine gj_iload hO 0 dX3_findLeaving_59 rfl ?_
      refine gj_aload_n hO 1 dX3_findLeaving_61 rfl rfl ?_
      refine gt_X3_2 hO (kdR_0 g0) (klR_0 g0) wk_300 dX3_findLeaving_62 ?_
      refine gj_icmp_gt (tgt := 79) hO dX3_findLeaving_65 (by decide) (fun h => ?_) (fun h => ?_)
      · replace hf := gj_t h hf
        refine gj_iinc (v := (a10013_0 + 1)) (lv2 := [(3, gj_i (a10013_0 + 1)), (5, gj_i z11302), (0, gj_r b0), (1, gj_r b1), (2, gj_i b2)]) hO 4 dX3_findLeaving_79 rfl rfl (by decide) rfl ?_
        refine gj_goto (tgt := 13) hO dX3_findLeaving_82 (by decide) ?_
        obtain rfl := Option.some.inj hf
        refine gj_sub (lv2 := [(0, gj_r b0), (1, gj_r b1), (2, gj_i b2), (3, gj_i (a10013_0 + 1))]) [2, 3, 4, 0] rfl ?_
        exact K
      · replace hf := gj_f h hf
        refine gj_aload_n hO 1 dX3_findLeaving_68 rfl rfl ?_
        refine gj_iload hO 0 dX3_findLeaving_69 rfl ?_
        refine pt_X3_2 hO (kdR_0 g0) (klR_0 g0) wk_300 dX3_findLeaving_71 ?_
        refine gj_aload_n hO 1 dX3_findLeaving_74 rfl rfl ?_
        refine gj_iload_n hO 4 dX3_findLeaving_75 rfl rfl ?_
        refine pt_X3_5 hO (kdR_0 g0) (klR_0 g0) wk_301 dX3_findLeaving_76 ?_
        refine gj_iinc (v := (a10013_0 + 1)) (lv2 := [(3, gj_i (a10013_0 + 1)), (5, gj_i z11302), (0, gj_r b0), (1, gj_r b1), (2, gj_i b2)]) hO 4 dX3_findLeaving_79 rfl rfl (by decide) rfl ?_
        refine gj_goto (tgt := 13) hO dX3_findLeaving_82 (by decide) ?_
        obtain rfl := Option.some.inj hf
        refine gj_sub (lv2 := [(0, gj_r b0), (1, gj_r b1), (2, gj_i b2), (3, gj_i (a10013_0 + 1))]) [2, 3, 4, 0] rfl ?_
        exact K
    refine gj_icmp_ne (tgt := 45) hO dX3_findLeaving_32 (by decide) (fun h => ?_) (fun h => ?_)
    · replace hz11302 := gj_f h hz11302
      refine gj_aload_n hO 2 dX3_findLeaving_45 rfl rfl ?_
      refine gj_iload hO 0 dX3_findLeaving_46 rfl ?_
      refine gj_aload_n hO 1 dX3_findLeaving_48 rfl rfl ?_
      refine gt_X3_4 hO (kdR_0 g0) (klR_0 g0) wk_290 dX3_findLeaving_49 ?_
      refine gj_iload_n hO 4 dX3_findLeaving_52 rfl rfl ?_
      obtain ⟨hb11303, hz11302⟩ := gj_c hz11302
      refine gj_zald hO (klR_2 g0) (kdR_2 g0) hb11303 dX3_findLeaving_53 ?_
      obtain ⟨x11304, hc11304, hz11302⟩ := gj_b hz11302
      refine ca_X1_roomOf hO g1 hc11304 wk_302 (by decide) (by decide) (Nat.le_of_ble_eq_true rfl) dX3_findLeaving_54 ?_
      obtain rfl := Option.some.inj hz11302
      refine gj_sub (lv2 := [(0, gj_r b0), (1, gj_r b1), (2, gj_i b2), (3, gj_i a10013_0)]) [1, 2, 3, 4] rfl ?_
      exact J11302
    · replace hz11302 := gj_t h hz11302
      refine gj_aload_n hO 2 dX3_findLeaving_35 rfl rfl ?_
      refine gt_X1_9 hO (kdP_0 g1) (klP_0 g1) wk_303 dX3_findLeaving_36 ?_
      refine gj_iload hO 0 dX3_findLeaving_39 rfl ?_
      obtain ⟨hb11305, hz11302⟩ := gj_c hz11302
      refine gj_iald hO (klP_5 g1) (kdP_5 g1) hb11305 dX3_findLeaving_41 ?_
      refine gj_goto (tgt := 57) hO dX3_findLeaving_42 (by decide) ?_
      obtain rfl := Option.some.inj hz11302
      refine gj_sub (lv2 := [(0, gj_r b0), (1, gj_r b1), (2, gj_i b2), (3, gj_i a10013_0)]) [1, 2, 3, 4] rfl ?_
      exact J11302
set_option maxHeartbeats 4000000 in
set_option maxRecDepth 100000 in
theorem m_X3_findLeaving {E : gj_E} {σ : gj_S} {b0 : Nat} {b1 : Nat} {b2 : Int32} (g0 : isR b0) (g1 : isP b1) {x : gj_S} (hf : f_X3_findLeaving b0 b1 b2 σ = some x) : gj_M E yX3_findLeaving cX3_findLeaving 6 none 1 22 [gj_r b0, gj_r b1, gj_i b2] σ none x := by
  refine gj_body (lv := [(0, gj_r b0), (1, gj_r b1), (2, gj_i b2)]) (by decide +kernel) (Nat.le_of_ble_eq_true rfl) rfl (fun X hO => ?_)
  replace hO : gj_O E X RX3 cX3_findLeaving 6 none 1 22 := hO
  unfold f_X3_findLeaving at hf
  refine gj_aload_n hO 0 dX3_findLeaving_0 rfl rfl ?_
  refine gj_ldc hO wk_299 dX3_findLeaving_1 ?_
  refine pt_X3_2 hO (kdR_0 g0) (klR_0 g0) wk_300 dX3_findLeaving_3 ?_
  refine gj_aload_n hO 0 dX3_findLeaving_6 rfl rfl ?_
  refine gj_iconst (v := 0) hO dX3_findLeaving_7 (by decide) ?_
  refine pt_X3_5 hO (kdR_0 g0) (klR_0 g0) wk_301 dX3_findLeaving_8 ?_
  refine gj_iconst (v := 0) hO dX3_findLeaving_11 (by decide) ?_
  refine gj_istore_n (lv2 := [(3, gj_i (0 : Int32)), (0, gj_r b0), (1, gj_r b1), (2, gj_i b2)]) hO dX3_findLeaving_12 rfl (by decide) rfl ?_
  obtain ⟨z1, hz1, hf⟩ := gj_b hf
  have J1 : gj_G E X 6 none x 85 [] [] z1 := by
    obtain rfl := Option.some.inj hf
    exact gj_vret hO dX3_findLeaving_85
  refine gj_sub (lv2 := [(0, gj_r b0), (1, gj_r b1), (2, gj_i b2), (3, gj_i (0 : Int32))]) [1, 2, 3, 0] rfl ?_
  exact gj_loop (head := fun a10013 => gj_G E X 6 none x 13 [(0, gj_r b0), (1, gj_r b1), (2, gj_i b2), (3, gj_i a10013.1)] [] a10013.2) (exit := fun z1 => gj_G E X 6 none x 85 [] [] z1) (fun a10013 x hf K => by obtain ⟨a10013_0, a10013_1⟩ := a10013; exact sb_X3_findLeaving_l13 hO g0 g1 hf K) _ _ _ hz1 J1
set_option maxHeartbeats 4000000 in
set_option maxRecDepth 100000 in
theorem ca_X3_findLeaving {E : gj_E} {X : gj_X} {own : String} {cc : ByteArray} {nL : Nat} {rt : Option FieldType} {fr lo : Nat} {ce sl : Nat} {Q : State → Prop} {pc : Nat} {lv : List (Nat × gj_V)} {st : List gj_V} {σ : gj_S} (hO : gj_O E X own cc nL rt fr lo) {b0 : Nat} {b1 : Nat} {b2 : Int32} (g0 : isR b0) (g1 : isP b1) {idx : Nat} {x : gj_S} (hf : f_X3_findLeaving b0 b1 b2 σ = some x) (hl : Cond.methodLink own idx yX3_findLeaving ∈ gj_gw) (hf1 : 2 ≤ fr) (hf2 : 47 ≤ lo) (hcat : ((st.map (gj_tv E.2.1)).map fun v => v.category).sum ≤ 8) (hd : decode cc pc = .ok (.invokevirtual idx, 3)) (k : gj_H E X nL ce sl Q (pc + 3) lv (st) x) : gj_H E X nL ce sl Q pc lv (gj_i b2 :: gj_r b1 :: gj_r b0 :: st) σ :=
  gj_callV hO (o := b0) (vs := [gj_r b1, gj_i b2]) (m_X3_findLeaving g0 g1 hf) (gj_Iany (by decide)) hl wk_304 wk_305 wk_294 wk_306 (klR_0 g0) (kdR_0 g0) (by decide) (ci := 3) rfl (n := 2) (by decide +kernel) rfl hf1 hf2 rfl hcat hd k
def fb_X3_trace_l111 (b0 : Nat) (b1 : Nat) (b2 : Nat) (b3 : Int32) (b4 : Int32) (b6 : Int32) (b7 : Int32) (a10111 : (Int32 × Int32 × gj_S)) : Option (gj_S ⊕ (Int32 × Int32 × gj_S)) := (if a10111.2.1 < 0 then some (.inl a10111.2.2) else (if a10111.1 = (8 : Int32) then some (.inl a10111.2.2) else (if gj_in a10111.1 9 then (if gj_in (a10111.2.2.1 (b2 + 1) (Int32.toNatClampNeg a10111.1)) 24 then ((if (a10111.2.2.1 (b1 + 3) (Int32.toNatClampNeg (a10111.2.2.1 (b2 + 1) (Int32.toNatClampNeg a10111.1)))) = a10111.1 then some (1 : Int32) else some (0 : Int32) : Option Int32).bind fun z21103 => ((f_X3_put b0 a10111.2.1 (a10111.2.2.1 (b2 + 1) (Int32.toNatClampNeg a10111.1)) z21103 a10111.2.2).bind fun x21104 => (if gj_in a10111.1 9 then some (.inr ((x21104.1 (b2 + 2) (Int32.toNatClampNeg a10111.1)), (a10111.2.1 + (-1)), x21104)) else none))) else none) else none)))
def fb_X3_trace_l191 (b0 : Nat) (b1 : Nat) (b2 : Nat) (b3 : Int32) (a10191 : (Int32 × Int32 × gj_S)) : Option (gj_S ⊕ (Int32 × Int32 × gj_S)) := (if (17 : Int32) ≤ a10191.2.1 then some (.inl a10191.2.2) else (if a10191.1 = (a10191.2.2.1 b0 1) then some (.inl a10191.2.2) else (if a10191.1 = (8 : Int32) then some (.inl a10191.2.2) else (if gj_in a10191.1 9 then (if gj_in (a10191.2.2.1 (b2 + 1) (Int32.toNatClampNeg a10191.1)) 24 then ((if (a10191.2.2.1 (b1 + 2) (Int32.toNatClampNeg (a10191.2.2.1 (b2 + 1) (Int32.toNatClampNeg a10191.1)))) = a10191.1 then some (1 : Int32) else some (0 : Int32) : Option Int32).bind fun z29103 => ((f_X3_put b0 a10191.2.1 (a10191.2.2.1 (b2 + 1) (Int32.toNatClampNeg a10191.1)) z29103 a10191.2.2).bind fun x29104 => (if gj_in a10191.1 9 then some (.inr ((x29104.1 (b2 + 2) (Int32.toNatClampNeg a10191.1)), (a10191.2.1 + 1), x29104)) else none))) else none) else none))))
def f_X3_trace (b0 : Nat) (b1 : Nat) (b2 : Nat) (b3 : Int32) (σ : gj_S) : Option gj_S := (if gj_in b3 24 then ((if (σ.1 (b1 + 7) (Int32.toNatClampNeg b3)) = (2 : Int32) then some (0 : Int32) else some (1 : Int32) : Option Int32).bind fun z2 => ((if z2 = 0 then (if gj_in b3 24 then some (σ.1 (b1 + 3) (Int32.toNatClampNeg b3)) else none) else (if gj_in b3 24 then some (σ.1 (b1 + 2) (Int32.toNatClampNeg b3)) else none) : Option Int32).bind fun z3 => ((if z2 = 0 then (if gj_in b3 24 then some (σ.1 (b1 + 2) (Int32.toNatClampNeg b3)) else none) else (if gj_in b3 24 then some (σ.1 (b1 + 3) (Int32.toNatClampNeg b3)) else none) : Option Int32).bind fun z6 => ((f_X5_findApex b2 z3 z6 σ).bind fun x9 => (if gj_in z3 9 then (if gj_in ((gj_sI σ b0 (upd (σ.1 b0) 1 x9)).1 b0 1) 9 then ((gj_lp (fb_X3_trace_l111 b0 b1 b2 b3 z2 z6 (gj_max (0 : Int32) (((gj_sI σ b0 (upd (σ.1 b0) 1 x9)).1 (b2 + 3) (Int32.toNatClampNeg z3)) - ((gj_sI σ b0 (upd (σ.1 b0) 1 x9)).1 (b2 + 3) (Int32.toNatClampNeg ((gj_sI σ b0 (upd (σ.1 b0) 1 x9)).1 b0 1)))))) 5000 (z3, ((gj_max (0 : Int32) (((gj_sI σ b0 (upd (σ.1 b0) 1 x9)).1 (b2 + 3) (Int32.toNatClampNeg z3)) - ((gj_sI σ b0 (upd (σ.1 b0) 1 x9)).1 (b2 + 3) (Int32.toNatClampNeg ((gj_sI σ b0 (upd (σ.1 b0) 1 x9)).1 b0 1))))) - (1 : Int32)), (gj_sI (gj_sI σ b0 (upd (σ.1 b0) 1 x9)) b0 (upd ((gj_sI σ b0 (upd (σ.1 b0) 1 x9)).1 b0) 0 (0 : Int32))))).bind fun z12 => ((f_X3_put b0 (gj_max (0 : Int32) (((gj_sI σ b0 (upd (σ.1 b0) 1 x9)).1 (b2 + 3) (Int32.toNatClampNeg z3)) - ((gj_sI σ b0 (upd (σ.1 b0) 1 x9)).1 (b2 + 3) (Int32.toNatClampNeg ((gj_sI σ b0 (upd (σ.1 b0) 1 x9)).1 b0 1))))) b3 z2 z12).bind fun x13 => ((gj_lp (fb_X3_trace_l191 b0 b1 b2 b3) 5000 (z6, ((gj_max (0 : Int32) (((gj_sI σ b0 (upd (σ.1 b0) 1 x9)).1 (b2 + 3) (Int32.toNatClampNeg z3)) - ((gj_sI σ b0 (upd (σ.1 b0) 1 x9)).1 (b2 + 3) (Int32.toNatClampNeg ((gj_sI σ b0 (upd (σ.1 b0) 1 x9)).1 b0 1))))) + (1 : Int32)), x13)).bind fun z14 => ((f_X3_findLeaving b0 b1 b3 z14).bind fun x15 => some x15)))) else none) else none))))) else none)
set_option maxHeartbeats 4000000 in
set_option maxRecDepth 100000 in
theorem sb_X3_trace_l111 {E : gj_E} {X : gj_X} {r : Option gj_V} {τ : gj_S} (hO : gj_O E X RX3 cX3_trace 11 none 2 47) {b0 : Nat} {b1 : Nat} {b2 : Nat} {b3 : Int32} {b4 : Int32} {b6 : Int32} {b7 : Int32} (g0 : isR b0) (g1 : isP b1) (g2 : isT b2) {a10111_0 : Int32} {a10111_1 : Int32} {a10111_2 : gj_S} {x : gj_S ⊕ (Int32 × Int32 × gj_S)} (hf : fb_X3_trace_l111 b0 b1 b2 b3 b4 b6 b7 (a10111_0, a10111_1, a10111_2) = some x) (K : gj_K (fun z12 => gj_G E X 11 r τ 172 [(0, gj_r b0), (1, gj_r b1), (2, gj_r b2), (3, gj_i b3), (4, gj_i b4), (6, gj_i b6), (7, gj_i b7)] [] z12) (fun a10111 => gj_G E X 11 r τ 111 [(0, gj_r b0), (1, gj_r b1), (2, gj_r b2), (3, gj_i b3), (4, gj_i b4), (6, gj_i b6), (7, gj_i b7), (8, gj_i a10111.1), (9, gj_i a10111.2.1)] [] a10111.2.2) x) : gj_G E X 11 r τ 111 [(0, gj_r b0), (1, gj_r b1), (2, gj_r b2), (3, gj_i b3), (4, gj_i b4), (6, gj_i b6), (7, gj_i b7), (8, gj_i a10111_0), (9, gj_i a10111_1)] [] a10111_2 := by
  unfold fb_X3_trace_l111 at hf
  dsimp only at hf
  refine gj_iload hO 8 dX3_trace_111 rfl ?_
  refine gj_if_lt (tgt := 172) hO dX3_trace_113 (by decide) (fun h => ?_) (fun h => ?_)
  · replace hf := gj_t h hf
    obtain rfl := Option.some.inj hf
    refine gj_sub (lv2 := [(0, gj_r b0), (1, gj_r b1), (2, gj_r b2), (3, gj_i b3), (4, gj_i b4), (6, gj_i b6), (7, gj_i b7)]) [0, 1, 2, 3, 4, 5, 6] rfl ?_
    exact K
  · replace hf := gj_f h hf
    refine gj_iload hO 7 dX3_trace_116 rfl ?_
    refine gj_bipush (v := 8) hO dX3_trace_118 (by decide) ?_
    refine gj_icmp_eq (tgt := 172) hO dX3_trace_120 (by decide) (fun h => ?_) (fun h => ?_)
    · replace hf := gj_t h hf
      obtain rfl := Option.some.inj hf
      refine gj_sub (lv2 := [(0, gj_r b0), (1, gj_r b1), (2, gj_r b2), (3, gj_i b3), (4, gj_i b4), (6, gj_i b6), (7, gj_i b7)]) [0, 1, 2, 3, 4, 5, 6] rfl ?_
      exact K
    · replace hf := gj_f h hf
      refine gj_aload_n hO 2 dX3_trace_123 rfl rfl ?_
      refine gt_X5_0 hO (kdT_0 g2) (klT_0 g2) wk_314 dX3_trace_124 ?_
      refine gj_iload hO 7 dX3_trace_127 rfl ?_
      obtain ⟨hb21101, hf⟩ := gj_c hf
      refine gj_iald hO (klT_1 g2) (kdT_1 g2) hb21101 dX3_trace_129 ?_
      refine gj_istore (lv2 := [(10, gj_i (a10111_2.1 (b2 + 1) (Int32.toNatClampNeg a10111_0))), (0, gj_r b0), (1, gj_r b1), (2, gj_r b2), (3, gj_i b3), (4, gj_i b4), (6, gj_i b6), (7, gj_i b7), (8, gj_i a10111_0), (9, gj_i a10111_1)]) hO dX3_trace_130 (by decide) rfl ?_
      refine gj_aload_n hO 1 dX3_trace_132 rfl rfl ?_
      refine gj_iload hO 9 dX3_trace_133 rfl ?_
      refine gj_iload hO 0 dX3_trace_135 rfl ?_
      refine gj_aload_n hO 2 dX3_trace_137 rfl rfl ?_
      refine gt_X1_7 hO (kdP_0 g1) (klP_0 g1) wk_308 dX3_trace_138 ?_
      refine gj_iload hO 0 dX3_trace_141 rfl ?_
      obtain ⟨hb21102, hf⟩ := gj_c hf
      refine gj_iald hO (klP_3 g1) (kdP_3 g1) hb21102 dX3_trace_143 ?_
      refine gj_iload hO 8 dX3_trace_144 rfl ?_
      obtain ⟨z21103, hz21103, hf⟩ := gj_b hf
      have J21103 : gj_G E X 11 r τ 154 [(0, gj_r b0), (1, gj_r b1), (2, gj_r b2), (3, gj_i b3), (4, gj_i b4), (6, gj_i b6), (7, gj_i b7), (8, gj_i a10111_0), (9, gj_i a10111_1)] [gj_i z21103, gj_i (a10111_2.1 (b2 + 1) (Int32.toNatClampNeg a10111_0)), gj_i a10111_1, gj_r b0] a10111_2 := by
        obtain ⟨x21104, hc21104, hf⟩ := gj_b hf
        refine ca_X3_put hO g0 hc21104 wk_315 (by decide) (by decide) (Nat.le_of_ble_eq_true rfl) dX3_trace_154 ?_
        refine gj_aload_n hO 2 dX3_trace_157 rfl rfl ?_
        refine gt_X5_1 hO (kdT_0 g2) (klT_0 g2) wk_316 dX3_trace_158 ?_
        refine gj_iload hO 7 dX3_trace_161 rfl ?_
        obtain ⟨hb21105, hf⟩ := gj_c hf
        refine gj_iald hO (klT_2 g2) (kdT_2 g2) hb21105 dX3_trace_163 ?_
        refine gj_istore (lv2 := [(8, gj_i (x21104.1 (b2 + 2) (Int32.toNatClampNeg a10111_0))), (0, gj_r b0), (1, gj_r b1), (2, gj_r b2), (3, gj_i b3), (4, gj_i b4), (6, gj_i b6), (7, gj_i b7), (9, gj_i a10111_1)]) hO dX3_trace_164 (by decide) rfl ?_
        refine gj_iinc (v := (a10111_1 + (-1))) (lv2 := [(9, gj_i (a10111_1 + (-1))), (8, gj_i (x21104.1 (b2 + 2) (Int32.toNatClampNeg a10111_0))), (0, gj_r b0), (1, gj_r b1), (2, gj_r b2), (3, gj_i b3), (4, gj_i b4), (6, gj_i b6), (7, gj_i b7)]) hO 8 dX3_trace_166 rfl rfl (by decide) rfl ?_
        refine gj_goto (tgt := 111) hO dX3_trace_169 (by decide) ?_
        obtain rfl := Option.some.inj hf
        refine gj_sub (lv2 := [(0, gj_r b0), (1, gj_r b1), (2, gj_r b2), (3, gj_i b3), (4, gj_i b4), (6, gj_i b6), (7, gj_i b7), (8, gj_i (x21104.1 (b2 + 2) (Int32.toNatClampNeg a10111_0))), (9, gj_i (a10111_1 + (-1)))]) [2, 3, 4, 5, 6, 7, 8, 1, 0] rfl ?_
        exact K
      refine gj_icmp_ne (tgt := 153) hO dX3_trace_146 (by decide) (fun h => ?_) (fun h => ?_)
      · replace hz21103 := gj_f h hz21103
        refine gj_iconst (v := 0) hO dX3_trace_153 (by decide) ?_
        obtain rfl := Option.some.inj hz21103
        refine gj_sub (lv2 := [(0, gj_r b0), (1, gj_r b1), (2, gj_r b2), (3, gj_i b3), (4, gj_i b4), (6, gj_i b6), (7, gj_i b7), (8, gj_i a10111_0), (9, gj_i a10111_1)]) [1, 2, 3, 4, 5, 6, 7, 8, 9] rfl ?_
        exact J21103
      · replace hz21103 := gj_t h hz21103
        refine gj_iconst (v := 1) hO dX3_trace_149 (by decide) ?_
        refine gj_goto (tgt := 154) hO dX3_trace_150 (by decide) ?_
        obtain rfl := Option.some.inj hz21103
        refine gj_sub (lv2 := [(0, gj_r b0), (1, gj_r b1), (2, gj_r b2), (3, gj_i b3), (4, gj_i b4), (6, gj_i b6), (7, gj_i b7), (8, gj_i a10111_0), (9, gj_i a10111_1)]) [1, 2, 3, 4, 5, 6, 7, 8, 9] rfl ?_
        exact J21103
set_option maxHeartbeats 4000000 in
set_option maxRecDepth 100000 in
theorem sb_X3_trace_l191 {E : gj_E} {X : gj_X} {r : Option gj_V} {τ : gj_S} (hO : gj_O E X RX3 cX3_trace 11 none 2 47) {b0 : Nat} {b1 : Nat} {b2 : Nat} {b3 : Int32} (g0 : isR b0) (g1 : isP b1) (g2 : isT b2) {a10191_0 : Int32} {a10191_1 : Int32} {a10191_2 : gj_S} {x : gj_S ⊕ (Int32 × Int32 × gj_S)} (hf : fb_X3_trace_l191 b0 b1 b2 b3 (a10191_0, a10191_1, a10191_2) = some x) (K : gj_K (fun z14 => gj_G E X 11 r τ 263 [(0, gj_r b0), (1, gj_r b1), (3, gj_i b3)] [] z14) (fun a10191 => gj_G E X 11 r τ 191 [(0, gj_r b0), (1, gj_r b1), (2, gj_r b2), (3, gj_i b3), (8, gj_i a10191.1), (9, gj_i a10191.2.1)] [] a10191.2.2) x) : gj_G E X 11 r τ 191 [(0, gj_r b0), (1, gj_r b1), (2, gj_r b2), (3, gj_i b3), (8, gj_i a10191_0), (9, gj_i a10191_1)] [] a10191_2 := by
  unfold fb_X3_trace_l191 at hf
  dsimp only at hf
  refine gj_iload hO 5 dX3_trace_191 rfl ?_
  refine gj_bipush (v := 17) hO dX3_trace_193 (by decide) ?_
  refine gj_icmp_ge (tgt := 263) hO dX3_trace_195 (by decide) (fun h => ?_) (fun h => ?_)
  · replace hf := gj_t h hf
    obtain rfl := Option.some.inj hf
    refine gj_sub (lv2 := [(0, gj_r b0), (1, gj_r b1), (3, gj_i b3)]) [0, 1, 3] rfl ?_
    exact K
  · replace hf := gj_f h hf
    refine gj_iload hO 4 dX3_trace_198 rfl ?_
    refine gj_aload_n hO 0 dX3_trace_200 rfl rfl ?_
    refine gt_X3_1 hO (kdR_0 g0) (klR_0 g0) wk_311 dX3_trace_201 ?_
    refine gj_icmp_eq (tgt := 263) hO dX3_trace_204 (by decide) (fun h => ?_) (fun h => ?_)
    · replace hf := gj_t h hf
      obtain rfl := Option.some.inj hf
      refine gj_sub (lv2 := [(0, gj_r b0), (1, gj_r b1), (3, gj_i b3)]) [0, 1, 3] rfl ?_
      exact K
    · replace hf := gj_f h hf
      refine gj_iload hO 4 dX3_trace_207 rfl ?_
      refine gj_bipush (v := 8) hO dX3_trace_209 (by decide) ?_
      refine gj_icmp_eq (tgt := 263) hO dX3_trace_211 (by decide) (fun h => ?_) (fun h => ?_)
      · replace hf := gj_t h hf
        obtain rfl := Option.some.inj hf
        refine gj_sub (lv2 := [(0, gj_r b0), (1, gj_r b1), (3, gj_i b3)]) [0, 1, 3] rfl ?_
        exact K
      · replace hf := gj_f h hf
        refine gj_aload_n hO 2 dX3_trace_214 rfl rfl ?_
        refine gt_X5_0 hO (kdT_0 g2) (klT_0 g2) wk_314 dX3_trace_215 ?_
        refine gj_iload hO 4 dX3_trace_218 rfl ?_
        obtain ⟨hb29101, hf⟩ := gj_c hf
        refine gj_iald hO (klT_1 g2) (kdT_1 g2) hb29101 dX3_trace_220 ?_
        refine gj_istore (lv2 := [(10, gj_i (a10191_2.1 (b2 + 1) (Int32.toNatClampNeg a10191_0))), (0, gj_r b0), (1, gj_r b1), (2, gj_r b2), (3, gj_i b3), (8, gj_i a10191_0), (9, gj_i a10191_1)]) hO dX3_trace_221 (by decide) rfl ?_
        refine gj_aload_n hO 1 dX3_trace_223 rfl rfl ?_
        refine gj_iload hO 6 dX3_trace_224 rfl ?_
        refine gj_iload hO 0 dX3_trace_226 rfl ?_
        refine gj_aload_n hO 2 dX3_trace_228 rfl rfl ?_
        refine gt_X1_6 hO (kdP_0 g1) (klP_0 g1) wk_309 dX3_trace_229 ?_
        refine gj_iload hO 0 dX3_trace_232 rfl ?_
        obtain ⟨hb29102, hf⟩ := gj_c hf
        refine gj_iald hO (klP_2 g1) (kdP_2 g1) hb29102 dX3_trace_234 ?_
        refine gj_iload hO 5 dX3_trace_235 rfl ?_
        obtain ⟨z29103, hz29103, hf⟩ := gj_b hf
        have J29103 : gj_G E X 11 r τ 245 [(0, gj_r b0), (1, gj_r b1), (2, gj_r b2), (3, gj_i b3), (8, gj_i a10191_0), (9, gj_i a10191_1)] [gj_i z29103, gj_i (a10191_2.1 (b2 + 1) (Int32.toNatClampNeg a10191_0)), gj_i a10191_1, gj_r b0] a10191_2 := by
          obtain ⟨x29104, hc29104, hf⟩ := gj_b hf
          refine ca_X3_put hO g0 hc29104 wk_315 (by decide) (by decide) (Nat.le_of_ble_eq_true rfl) dX3_trace_245 ?_
          refine gj_aload_n hO 2 dX3_trace_248 rfl rfl ?_
          refine gt_X5_1 hO (kdT_0 g2) (klT_0 g2) wk_316 dX3_trace_249 ?_
          refine gj_iload hO 4 dX3_trace_252 rfl ?_
          obtain ⟨hb29105, hf⟩ := gj_c hf
          refine gj_iald hO (klT_2 g2) (kdT_2 g2) hb29105 dX3_trace_254 ?_
          refine gj_istore (lv2 := [(8, gj_i (x29104.1 (b2 + 2) (Int32.toNatClampNeg a10191_0))), (0, gj_r b0), (1, gj_r b1), (2, gj_r b2), (3, gj_i b3), (9, gj_i a10191_1)]) hO dX3_trace_255 (by decide) rfl ?_
          refine gj_iinc (v := (a10191_1 + 1)) (lv2 := [(9, gj_i (a10191_1 + 1)), (8, gj_i (x29104.1 (b2 + 2) (Int32.toNatClampNeg a10191_0))), (0, gj_r b0), (1, gj_r b1), (2, gj_r b2), (3, gj_i b3)]) hO 5 dX3_trace_257 rfl rfl (by decide) rfl ?_
          refine gj_goto (tgt := 191) hO dX3_trace_260 (by decide) ?_
          obtain rfl := Option.some.inj hf
          refine gj_sub (lv2 := [(0, gj_r b0), (1, gj_r b1), (2, gj_r b2), (3, gj_i b3), (8, gj_i (x29104.1 (b2 + 2) (Int32.toNatClampNeg a10191_0))), (9, gj_i (a10191_1 + 1))]) [2, 3, 4, 5, 1, 0] rfl ?_
          exact K
        refine gj_icmp_ne (tgt := 244) hO dX3_trace_237 (by decide) (fun h => ?_) (fun h => ?_)
        · replace hz29103 := gj_f h hz29103
          refine gj_iconst (v := 0) hO dX3_trace_244 (by decide) ?_
          obtain rfl := Option.some.inj hz29103
          refine gj_sub (lv2 := [(0, gj_r b0), (1, gj_r b1), (2, gj_r b2), (3, gj_i b3), (8, gj_i a10191_0), (9, gj_i a10191_1)]) [1, 2, 3, 4, 5, 6] rfl ?_
          exact J29103
        · replace hz29103 := gj_t h hz29103
          refine gj_iconst (v := 1) hO dX3_trace_240 (by decide) ?_
          refine gj_goto (tgt := 245) hO dX3_trace_241 (by decide) ?_
          obtain rfl := Option.some.inj hz29103
          refine gj_sub (lv2 := [(0, gj_r b0), (1, gj_r b1), (2, gj_r b2), (3, gj_i b3), (8, gj_i a10191_0), (9, gj_i a10191_1)]) [1, 2, 3, 4, 5, 6] rfl ?_
          exact J29103
set_option maxHeartbeats 4000000 in
set_option maxRecDepth 100000 in
theorem m_X3_trace {E : gj_E} {σ : gj_S} {b0 : Nat} {b1 : Nat} {b2 : Nat} {b3 : Int32} (g0 : isR b0) (g1 : isP b1) (g2 : isT b2) {x : gj_S} (hf : f_X3_trace b0 b1 b2 b3 σ = some x) : gj_M E yX3_trace cX3_trace 11 none 2 47 [gj_r b0, gj_r b1, gj_r b2, gj_i b3] σ none x := by
  refine gj_body (lv := [(0, gj_r b0), (1, gj_r b1), (2, gj_r b2), (3, gj_i b3)]) (by decide +kernel) (Nat.le_of_ble_eq_true rfl) rfl (fun X hO => ?_)
  replace hO : gj_O E X RX3 cX3_trace 11 none 2 47 := hO
  unfold f_X3_trace at hf
  refine gj_aload_n hO 1 dX3_trace_0 rfl rfl ?_
  refine gt_X1_11 hO (kdP_0 g1) (klP_0 g1) wk_307 dX3_trace_1 ?_
  refine gj_iload_n hO 3 dX3_trace_4 rfl rfl ?_
  obtain ⟨hb1, hf⟩ := gj_c hf
  refine gj_iald hO (klP_7 g1) (kdP_7 g1) hb1 dX3_trace_5 ?_
  refine gj_iconst (v := 2) hO dX3_trace_6 (by decide) ?_
  obtain ⟨z2, hz2, hf⟩ := gj_b hf
  have J2 : gj_G E X 11 none x 15 [(0, gj_r b0), (1, gj_r b1), (2, gj_r b2), (3, gj_i b3)] [gj_i z2] σ := by
    refine gj_istore (lv2 := [(4, gj_i z2), (0, gj_r b0), (1, gj_r b1), (2, gj_r b2), (3, gj_i b3)]) hO dX3_trace_15 (by decide) rfl ?_
    refine gj_iload hO 0 dX3_trace_17 rfl ?_
    obtain ⟨z3, hz3, hf⟩ := gj_b hf
    have J3 : gj_G E X 11 none x 37 [(0, gj_r b0), (1, gj_r b1), (2, gj_r b2), (3, gj_i b3), (4, gj_i z2)] [gj_i z3] σ := by
      refine gj_istore (lv2 := [(5, gj_i z3), (0, gj_r b0), (1, gj_r b1), (2, gj_r b2), (3, gj_i b3), (4, gj_i z2)]) hO dX3_trace_37 (by decide) rfl ?_
      refine gj_iload hO 5 dX3_trace_39 rfl ?_
      obtain ⟨z6, hz6, hf⟩ := gj_b hf
      have J6 : gj_G E X 11 none x 59 [(0, gj_r b0), (1, gj_r b1), (2, gj_r b2), (3, gj_i b3), (4, gj_i z2), (5, gj_i z3)] [gj_i z6] σ := by
        refine gj_istore (lv2 := [(6, gj_i z6), (0, gj_r b0), (1, gj_r b1), (2, gj_r b2), (3, gj_i b3), (4, gj_i z2), (5, gj_i z3)]) hO dX3_trace_59 (by decide) rfl ?_
        refine gj_aload_n hO 1 dX3_trace_61 rfl rfl ?_
        refine gj_aload_n hO 3 dX3_trace_62 rfl rfl ?_
        refine gj_iload hO 6 dX3_trace_63 rfl ?_
        refine gj_iload hO 0 dX3_trace_65 rfl ?_
        obtain ⟨x9, hc9, hf⟩ := gj_b hf
        refine ca_X5_findApex hO g2 hc9 wk_310 (by decide) (by decide) (Nat.le_of_ble_eq_true rfl) dX3_trace_67 ?_
        refine pt_X3_1 hO (kdR_0 g0) (klR_0 g0) wk_311 dX3_trace_70 ?_
        refine gj_iconst (v := 0) hO dX3_trace_73 (by decide) ?_
        refine gj_aload_n hO 3 dX3_trace_74 rfl rfl ?_
        refine gt_X5_2 hO (kdT_0 g2) (klT_0 g2) wk_312 dX3_trace_75 ?_
        refine gj_iload hO 6 dX3_trace_78 rfl ?_
        obtain ⟨hb10, hf⟩ := gj_c hf
        refine gj_iald hO (klT_3 g2) (kdT_3 g2) hb10 dX3_trace_80 ?_
        refine gj_aload_n hO 3 dX3_trace_81 rfl rfl ?_
        refine gt_X5_2 hO (kdT_0 g2) (klT_0 g2) wk_312 dX3_trace_82 ?_
        refine gj_aload_n hO 1 dX3_trace_85 rfl rfl ?_
        refine gt_X3_1 hO (kdR_0 g0) (klR_0 g0) wk_311 dX3_trace_86 ?_
        obtain ⟨hb11, hf⟩ := gj_c hf
        refine gj_iald hO (klT_3 g2) (kdT_3 g2) hb11 dX3_trace_89 ?_
        refine gj_isub hO dX3_trace_90 ?_
        refine gj_mmax hO wk_313 (by decide) (by decide) (Nat.le_of_ble_eq_true rfl) dX3_trace_91 ?_
        refine gj_istore (lv2 := [(7, gj_i (gj_max (0 : Int32) (((gj_sI σ b0 (upd (σ.1 b0) 1 x9)).1 (b2 + 3) (Int32.toNatClampNeg z3)) - ((gj_sI σ b0 (upd (σ.1 b0) 1 x9)).1 (b2 + 3) (Int32.toNatClampNeg ((gj_sI σ b0 (upd (σ.1 b0) 1 x9)).1 b0 1)))))), (6, gj_i z6), (0, gj_r b0), (1, gj_r b1), (2, gj_r b2), (3, gj_i b3), (4, gj_i z2), (5, gj_i z3)]) hO dX3_trace_94 (by decide) rfl ?_
        refine gj_aload_n hO 2 dX3_trace_96 rfl rfl ?_
        refine gj_iconst (v := 0) hO dX3_trace_97 (by decide) ?_
        refine pt_X3_0 hO (kdR_0 g0) (klR_0 g0) wk_291 dX3_trace_98 ?_
        refine gj_iload hO 7 dX3_trace_101 rfl ?_
        refine gj_istore (lv2 := [(8, gj_i z3), (7, gj_i (gj_max (0 : Int32) (((gj_sI σ b0 (upd (σ.1 b0) 1 x9)).1 (b2 + 3) (Int32.toNatClampNeg z3)) - ((gj_sI σ b0 (upd (σ.1 b0) 1 x9)).1 (b2 + 3) (Int32.toNatClampNeg ((gj_sI σ b0 (upd (σ.1 b0) 1 x9)).1 b0 1)))))), (6, gj_i z6), (0, gj_r b0), (1, gj_r b1), (2, gj_r b2), (3, gj_i b3), (4, gj_i z2), (5, gj_i z3)]) hO dX3_trace_103 (by decide) rfl ?_
        refine gj_iload hO 1 dX3_trace_105 rfl ?_
        refine gj_iconst (v := 1) hO dX3_trace_107 (by decide) ?_
        refine gj_isub hO dX3_trace_108 ?_
        refine gj_istore (lv2 := [(9, gj_i ((gj_max (0 : Int32) (((gj_sI σ b0 (upd (σ.1 b0) 1 x9)).1 (b2 + 3) (Int32.toNatClampNeg z3)) - ((gj_sI σ b0 (upd (σ.1 b0) 1 x9)).1 (b2 + 3) (Int32.toNatClampNeg ((gj_sI σ b0 (upd (σ.1 b0) 1 x9)).1 b0 1))))) - (1 : Int32))), (8, gj_i z3), (7, gj_i (gj_max (0 : Int32) (((gj_sI σ b0 (upd (σ.1 b0) 1 x9)).1 (b2 + 3) (Int32.toNatClampNeg z3)) - ((gj_sI σ b0 (upd (σ.1 b0) 1 x9)).1 (b2 + 3) (Int32.toNatClampNeg ((gj_sI σ b0 (upd (σ.1 b0) 1 x9)).1 b0 1)))))), (6, gj_i z6), (0, gj_r b0), (1, gj_r b1), (2, gj_r b2), (3, gj_i b3), (4, gj_i z2), (5, gj_i z3)]) hO dX3_trace_109 (by decide) rfl ?_
        obtain ⟨z12, hz12, hf⟩ := gj_b hf
        have J12 : gj_G E X 11 none x 172 [(0, gj_r b0), (1, gj_r b1), (2, gj_r b2), (3, gj_i b3), (4, gj_i z2), (6, gj_i z6), (7, gj_i (gj_max (0 : Int32) (((gj_sI σ b0 (upd (σ.1 b0) 1 x9)).1 (b2 + 3) (Int32.toNatClampNeg z3)) - ((gj_sI σ b0 (upd (σ.1 b0) 1 x9)).1 (b2 + 3) (Int32.toNatClampNeg ((gj_sI σ b0 (upd (σ.1 b0) 1 x9)).1 b0 1))))))] [] z12 := by
          refine gj_aload_n hO 0 dX3_trace_172 rfl rfl ?_
          refine gj_iload hO 6 dX3_trace_173 rfl ?_
          refine gj_iload_n hO 3 dX3_trace_175 rfl rfl ?_
          refine gj_iload hO 4 dX3_trace_176 rfl ?_
          obtain ⟨x13, hc13, hf⟩ := gj_b hf
          refine ca_X3_put hO g0 hc13 wk_315 (by decide) (by decide) (Nat.le_of_ble_eq_true rfl) dX3_trace_178 ?_
          refine gj_iload hO 5 dX3_trace_181 rfl ?_
          refine gj_istore (lv2 := [(8, gj_i z6), (0, gj_r b0), (1, gj_r b1), (2, gj_r b2), (3, gj_i b3), (4, gj_i z2), (6, gj_i z6), (7, gj_i (gj_max (0 : Int32) (((gj_sI σ b0 (upd (σ.1 b0) 1 x9)).1 (b2 + 3) (Int32.toNatClampNeg z3)) - ((gj_sI σ b0 (upd (σ.1 b0) 1 x9)).1 (b2 + 3) (Int32.toNatClampNeg ((gj_sI σ b0 (upd (σ.1 b0) 1 x9)).1 b0 1))))))]) hO dX3_trace_183 (by decide) rfl ?_
          refine gj_iload hO 7 dX3_trace_185 rfl ?_
          refine gj_iconst (v := 1) hO dX3_trace_187 (by decide) ?_
          refine gj_iadd hO dX3_trace_188 ?_
          refine gj_istore (lv2 := [(9, gj_i ((gj_max (0 : Int32) (((gj_sI σ b0 (upd (σ.1 b0) 1 x9)).1 (b2 + 3) (Int32.toNatClampNeg z3)) - ((gj_sI σ b0 (upd (σ.1 b0) 1 x9)).1 (b2 + 3) (Int32.toNatClampNeg ((gj_sI σ b0 (upd (σ.1 b0) 1 x9)).1 b0 1))))) + (1 : Int32))), (8, gj_i z6), (0, gj_r b0), (1, gj_r b1), (2, gj_r b2), (3, gj_i b3), (4, gj_i z2), (6, gj_i z6), (7, gj_i (gj_max (0 : Int32) (((gj_sI σ b0 (upd (σ.1 b0) 1 x9)).1 (b2 + 3) (Int32.toNatClampNeg z3)) - ((gj_sI σ b0 (upd (σ.1 b0) 1 x9)).1 (b2 + 3) (Int32.toNatClampNeg ((gj_sI σ b0 (upd (σ.1 b0) 1 x9)).1 b0 1))))))]) hO dX3_trace_189 (by decide) rfl ?_
          obtain ⟨z14, hz14, hf⟩ := gj_b hf
          have J14 : gj_G E X 11 none x 263 [(0, gj_r b0), (1, gj_r b1), (3, gj_i b3)] [] z14 := by
            refine gj_aload_n hO 0 dX3_trace_263 rfl rfl ?_
            refine gj_aload_n hO 1 dX3_trace_264 rfl rfl ?_
            refine gj_iload_n hO 2 dX3_trace_265 rfl rfl ?_
            obtain ⟨x15, hc15, hf⟩ := gj_b hf
            refine ca_X3_findLeaving hO g0 g1 hc15 wk_317 (by decide) (by decide) (Nat.le_of_ble_eq_true rfl) dX3_trace_266 ?_
            obtain rfl := Option.some.inj hf
            exact gj_vret hO dX3_trace_269
          refine gj_sub (lv2 := [(0, gj_r b0), (1, gj_r b1), (2, gj_r b2), (3, gj_i b3), (8, gj_i z6), (9, gj_i ((gj_max (0 : Int32) (((gj_sI σ b0 (upd (σ.1 b0) 1 x9)).1 (b2 + 3) (Int32.toNatClampNeg z3)) - ((gj_sI σ b0 (upd (σ.1 b0) 1 x9)).1 (b2 + 3) (Int32.toNatClampNeg ((gj_sI σ b0 (upd (σ.1 b0) 1 x9)).1 b0 1))))) + (1 : Int32)))]) [2, 3, 4, 5, 1, 0] rfl ?_
          exact gj_loop (head := fun a10191 => gj_G E X 11 none x 191 [(0, gj_r b0), (1, gj_r b1), (2, gj_r b2), (3, gj_i b3), (8, gj_i a10191.1), (9, gj_i a10191.2.1)] [] a10191.2.2) (exit := fun z14 => gj_G E X 11 none x 263 [(0, gj_r b0), (1, gj_r b1), (3, gj_i b3)] [] z14) (fun a10191 x hf K => by obtain ⟨a10191_0, a10191_1, a10191_2⟩ := a10191; exact sb_X3_trace_l191 hO g0 g1 g2 hf K) _ _ _ hz14 J14
        refine gj_sub (lv2 := [(0, gj_r b0), (1, gj_r b1), (2, gj_r b2), (3, gj_i b3), (4, gj_i z2), (6, gj_i z6), (7, gj_i (gj_max (0 : Int32) (((gj_sI σ b0 (upd (σ.1 b0) 1 x9)).1 (b2 + 3) (Int32.toNatClampNeg z3)) - ((gj_sI σ b0 (upd (σ.1 b0) 1 x9)).1 (b2 + 3) (Int32.toNatClampNeg ((gj_sI σ b0 (upd (σ.1 b0) 1 x9)).1 b0 1)))))), (8, gj_i z3), (9, gj_i ((gj_max (0 : Int32) (((gj_sI σ b0 (upd (σ.1 b0) 1 x9)).1 (b2 + 3) (Int32.toNatClampNeg z3)) - ((gj_sI σ b0 (upd (σ.1 b0) 1 x9)).1 (b2 + 3) (Int32.toNatClampNeg ((gj_sI σ b0 (upd (σ.1 b0) 1 x9)).1 b0 1))))) - (1 : Int32)))]) [4, 5, 6, 7, 8, 3, 2, 1, 0] rfl ?_
        exact gj_loop (head := fun a10111 => gj_G E X 11 none x 111 [(0, gj_r b0), (1, gj_r b1), (2, gj_r b2), (3, gj_i b3), (4, gj_i z2), (6, gj_i z6), (7, gj_i (gj_max (0 : Int32) (((gj_sI σ b0 (upd (σ.1 b0) 1 x9)).1 (b2 + 3) (Int32.toNatClampNeg z3)) - ((gj_sI σ b0 (upd (σ.1 b0) 1 x9)).1 (b2 + 3) (Int32.toNatClampNeg ((gj_sI σ b0 (upd (σ.1 b0) 1 x9)).1 b0 1)))))), (8, gj_i a10111.1), (9, gj_i a10111.2.1)] [] a10111.2.2) (exit := fun z12 => gj_G E X 11 none x 172 [(0, gj_r b0), (1, gj_r b1), (2, gj_r b2), (3, gj_i b3), (4, gj_i z2), (6, gj_i z6), (7, gj_i (gj_max (0 : Int32) (((gj_sI σ b0 (upd (σ.1 b0) 1 x9)).1 (b2 + 3) (Int32.toNatClampNeg z3)) - ((gj_sI σ b0 (upd (σ.1 b0) 1 x9)).1 (b2 + 3) (Int32.toNatClampNeg ((gj_sI σ b0 (upd (σ.1 b0) 1 x9)).1 b0 1))))))] [] z12) (fun a10111 x hf K => by obtain ⟨a10111_0, a10111_1, a10111_2⟩ := a10111; exact sb_X3_trace_l111 hO g0 g1 g2 hf K) _ _ _ hz12 J12
      refine gj_if_eq (tgt := 53) hO dX3_trace_41 (by decide) (fun h => ?_) (fun h => ?_)
      · replace hz6 := gj_t h hz6
        refine gj_aload_n hO 2 dX3_trace_53 rfl rfl ?_
        refine gt_X1_6 hO (kdP_0 g1) (klP_0 g1) wk_309 dX3_trace_54 ?_
        refine gj_iload_n hO 4 dX3_trace_57 rfl rfl ?_
        obtain ⟨hb7, hz6⟩ := gj_c hz6
        refine gj_iald hO (klP_2 g1) (kdP_2 g1) hb7 dX3_trace_58 ?_
        obtain rfl := Option.some.inj hz6
        refine gj_sub (lv2 := [(0, gj_r b0), (1, gj_r b1), (2, gj_r b2), (3, gj_i b3), (4, gj_i z2), (5, gj_i z3)]) [1, 2, 3, 4, 5, 0] rfl ?_
        exact J6
      · replace hz6 := gj_f h hz6
        refine gj_aload_n hO 2 dX3_trace_44 rfl rfl ?_
        refine gt_X1_7 hO (kdP_0 g1) (klP_0 g1) wk_308 dX3_trace_45 ?_
        refine gj_iload_n hO 4 dX3_trace_48 rfl rfl ?_
        obtain ⟨hb8, hz6⟩ := gj_c hz6
        refine gj_iald hO (klP_3 g1) (kdP_3 g1) hb8 dX3_trace_49 ?_
        refine gj_goto (tgt := 59) hO dX3_trace_50 (by decide) ?_
        obtain rfl := Option.some.inj hz6
        refine gj_sub (lv2 := [(0, gj_r b0), (1, gj_r b1), (2, gj_r b2), (3, gj_i b3), (4, gj_i z2), (5, gj_i z3)]) [1, 2, 3, 4, 5, 0] rfl ?_
        exact J6
    refine gj_if_eq (tgt := 31) hO dX3_trace_19 (by decide) (fun h => ?_) (fun h => ?_)
    · replace hz3 := gj_t h hz3
      refine gj_aload_n hO 2 dX3_trace_31 rfl rfl ?_
      refine gt_X1_7 hO (kdP_0 g1) (klP_0 g1) wk_308 dX3_trace_32 ?_
      refine gj_iload_n hO 4 dX3_trace_35 rfl rfl ?_
      obtain ⟨hb4, hz3⟩ := gj_c hz3
      refine gj_iald hO (klP_3 g1) (kdP_3 g1) hb4 dX3_trace_36 ?_
      obtain rfl := Option.some.inj hz3
      refine gj_sub (lv2 := [(0, gj_r b0), (1, gj_r b1), (2, gj_r b2), (3, gj_i b3), (4, gj_i z2)]) [1, 2, 3, 4, 0] rfl ?_
      exact J3
    · replace hz3 := gj_f h hz3
      refine gj_aload_n hO 2 dX3_trace_22 rfl rfl ?_
      refine gt_X1_6 hO (kdP_0 g1) (klP_0 g1) wk_309 dX3_trace_23 ?_
      refine gj_iload_n hO 4 dX3_trace_26 rfl rfl ?_
      obtain ⟨hb5, hz3⟩ := gj_c hz3
      refine gj_iald hO (klP_2 g1) (kdP_2 g1) hb5 dX3_trace_27 ?_
      refine gj_goto (tgt := 37) hO dX3_trace_28 (by decide) ?_
      obtain rfl := Option.some.inj hz3
      refine gj_sub (lv2 := [(0, gj_r b0), (1, gj_r b1), (2, gj_r b2), (3, gj_i b3), (4, gj_i z2)]) [1, 2, 3, 4, 0] rfl ?_
      exact J3
  refine gj_icmp_eq (tgt := 14) hO dX3_trace_7 (by decide) (fun h => ?_) (fun h => ?_)
  · replace hz2 := gj_t h hz2
    refine gj_iconst (v := 0) hO dX3_trace_14 (by decide) ?_
    obtain rfl := Option.some.inj hz2
    refine gj_sub (lv2 := [(0, gj_r b0), (1, gj_r b1), (2, gj_r b2), (3, gj_i b3)]) [0, 1, 2, 3] rfl ?_
    exact J2
  · replace hz2 := gj_f h hz2
    refine gj_iconst (v := 1) hO dX3_trace_10 (by decide) ?_
    refine gj_goto (tgt := 15) hO dX3_trace_11 (by decide) ?_
    obtain rfl := Option.some.inj hz2
    refine gj_sub (lv2 := [(0, gj_r b0), (1, gj_r b1), (2, gj_r b2), (3, gj_i b3)]) [0, 1, 2, 3] rfl ?_
    exact J2
set_option maxHeartbeats 4000000 in
set_option maxRecDepth 100000 in
theorem ca_X3_trace {E : gj_E} {X : gj_X} {own : String} {cc : ByteArray} {nL : Nat} {rt : Option FieldType} {fr lo : Nat} {ce sl : Nat} {Q : State → Prop} {pc : Nat} {lv : List (Nat × gj_V)} {st : List gj_V} {σ : gj_S} (hO : gj_O E X own cc nL rt fr lo) {b0 : Nat} {b1 : Nat} {b2 : Nat} {b3 : Int32} (g0 : isR b0) (g1 : isP b1) (g2 : isT b2) {idx : Nat} {x : gj_S} (hf : f_X3_trace b0 b1 b2 b3 σ = some x) (hl : Cond.methodLink own idx yX3_trace ∈ gj_gw) (hf1 : 3 ≤ fr) (hf2 : 77 ≤ lo) (hcat : ((st.map (gj_tv E.2.1)).map fun v => v.category).sum ≤ 8) (hd : decode cc pc = .ok (.invokevirtual idx, 3)) (k : gj_H E X nL ce sl Q (pc + 3) lv (st) x) : gj_H E X nL ce sl Q pc lv (gj_i b3 :: gj_r b2 :: gj_r b1 :: gj_r b0 :: st) σ :=
  gj_callV hO (o := b0) (vs := [gj_r b1, gj_r b2, gj_i b3]) (m_X3_trace g0 g1 g2 hf) (gj_Iany (by decide)) hl wk_318 wk_319 wk_294 wk_320 (klR_0 g0) (kdR_0 g0) (by decide) (ci := 3) rfl (n := 3) (by decide +kernel) rfl hf1 hf2 rfl hcat hd k
def f_X7_traceRing (b0 : Nat) (b1 : Int32) (σ : gj_S) : Option (Nat × gj_S) := ((f_X3_trace (b0 + 16) (b0 + 1) (b0 + 10) b1 σ).bind fun x1 => some ((b0 + 16), x1))
set_option maxHeartbeats 4000000 in
set_option maxRecDepth 100000 in
theorem m_X7_traceRing {E : gj_E} {σ : gj_S} {b0 : Nat} {b1 : Int32} (g0 : isY b0) {x : Nat} {y : gj_S} (hf : f_X7_traceRing b0 b1 σ = some (x, y)) : gj_M E yX7_traceRing cX7_traceRing 2 (some (.object "PivotDocks$Ring")) 3 77 [gj_r b0, gj_i b1] σ (some (gj_r x)) y := by
  refine gj_body (lv := [(0, gj_r b0), (1, gj_i b1)]) (by decide +kernel) (Nat.le_of_ble_eq_true rfl) rfl (fun X hO => ?_)
  replace hO : gj_O E X RX7 cX7_traceRing 2 (some (.object "PivotDocks$Ring")) 3 77 := hO
  unfold f_X7_traceRing at hf
  refine gj_aload_n hO 0 dX7_traceRing_0 rfl rfl ?_
  refine gt_X7_2 hO (kdY_0 g0) (klY_0 g0) wk_321 dX7_traceRing_1 ?_
  refine gj_aload_n hO 0 dX7_traceRing_4 rfl rfl ?_
  refine gt_X7_0 hO (kdY_0 g0) (klY_0 g0) wk_167 dX7_traceRing_5 ?_
  refine gj_aload_n hO 0 dX7_traceRing_8 rfl rfl ?_
  refine gt_X7_1 hO (kdY_0 g0) (klY_0 g0) wk_166 dX7_traceRing_9 ?_
  refine gj_iload_n hO 1 dX7_traceRing_12 rfl rfl ?_
  obtain ⟨x1, hc1, hf⟩ := gj_b hf
  refine ca_X3_trace hO (isY_R g0) (isY_P g0) (isY_T g0) hc1 wk_322 (by decide) (by decide) (Nat.le_of_ble_eq_true rfl) dX7_traceRing_13 ?_
  refine gj_aload_n hO 0 dX7_traceRing_16 rfl rfl ?_
  refine gt_X7_2 hO (kdY_0 g0) (klY_0 g0) wk_321 dX7_traceRing_17 ?_
  replace hf := Option.some.inj hf
  simp only [Prod.mk.injEq] at hf
  obtain ⟨rfl, rfl⟩ := hf
  exact gj_aret hO dX7_traceRing_20
set_option maxHeartbeats 4000000 in
set_option maxRecDepth 100000 in
theorem ca_X7_traceRing {E : gj_E} {X : gj_X} {own : String} {cc : ByteArray} {nL : Nat} {rt : Option FieldType} {fr lo : Nat} {ce sl : Nat} {Q : State → Prop} {pc : Nat} {lv : List (Nat × gj_V)} {st : List gj_V} {σ : gj_S} (hO : gj_O E X own cc nL rt fr lo) {b0 : Nat} {b1 : Int32} (g0 : isY b0) {idx : Nat} {x : Nat} {y : gj_S} (hf : f_X7_traceRing b0 b1 σ = some (x, y)) (hl : Cond.methodLink own idx yX7_traceRing ∈ gj_gw) (hf1 : 4 ≤ fr) (hf2 : 98 ≤ lo) (hcat : ((st.map (gj_tv E.2.1)).map fun v => v.category).sum ≤ 8) (hd : decode cc pc = .ok (.invokevirtual idx, 3)) (k : gj_H E X nL ce sl Q (pc + 3) lv ((gj_r x) :: st) y) : gj_H E X nL ce sl Q pc lv (gj_i b1 :: gj_r b0 :: st) σ :=
  gj_callV hO (o := b0) (vs := [gj_i b1]) (m_X7_traceRing g0 hf) (gj_Iany (by decide)) hl wk_323 wk_324 wk_171 wk_325 (klY_0 g0) (kdY_0 g0) (by decide) (ci := 7) rfl (n := 1) (by decide +kernel) rfl hf1 hf2 rfl hcat hd k
def f_X8_ring (b1 : Int32) (b2 : Int32) (σ : gj_S) : Option (Int32 × gj_S) := ((f_X1_hasWay 17 b1 σ).bind fun x1 => (if x1 = 0 then some ((-1 : Int32), σ) else (if (-1 : Int32) ≤ b2 then (if gj_in b1 24 then (if (σ.1 24 (Int32.toNatClampNeg b1)) = 0 then some ((-2 : Int32), σ) else ((f_X7_traceRing 16 b1 σ).bind fun x3 => (if x3.1 = 32 then (if b2 = (-1 : Int32) then some ((x3.2.1 32 0), x3.2) else (if (x3.2.1 32 0) ≤ b2 then some ((-2 : Int32), x3.2) else (if gj_in b2 17 then some ((x3.2.1 33 (Int32.toNatClampNeg b2)), x3.2) else none))) else none))) else none) else some ((-1 : Int32), σ))))
set_option maxHeartbeats 4000000 in
set_option maxRecDepth 100000 in
theorem m_X8_ring {E : gj_E} {σ : gj_S} {b1 : Int32} {b2 : Int32}  {x : Int32} {y : gj_S} (hf : f_X8_ring b1 b2 σ = some (x, y)) : gj_M E yX8_ring cX8_ring 4 (some .int) 4 98 [gj_r 0, gj_i b1, gj_i b2] σ (some (gj_i x)) y := by
  refine gj_body (lv := [(0, gj_r 0), (1, gj_i b1), (2, gj_i b2)]) (by decide +kernel) (Nat.le_of_ble_eq_true rfl) rfl (fun X hO => ?_)
  replace hO : gj_O E X RX8 cX8_ring 4 (some .int) 4 98 := hO
  unfold f_X8_ring at hf
  refine gj_aload_n hO 0 dX8_ring_0 rfl rfl ?_
  refine gt_X8_4 hO wk_185 dX8_ring_1 ?_
  refine gt_X7_0 hO kd_16 kl_16 wk_186 dX8_ring_4 ?_
  refine gj_iload_n hO 1 dX8_ring_7 rfl rfl ?_
  obtain ⟨x1, hc1, hf⟩ := gj_b hf
  refine ca_X1_hasWay hO isP_17 hc1 wk_243 (by decide) (by decide) (Nat.le_of_ble_eq_true rfl) dX8_ring_8 ?_
  refine gj_if_eq (tgt := 19) hO dX8_ring_11 (by decide) (fun h => ?_) (fun h => ?_)
  · replace hf := gj_t h hf
    refine gj_iconst (v := (-1)) hO dX8_ring_19 (by decide) ?_
    replace hf := Option.some.inj hf
    simp only [Prod.mk.injEq] at hf
    obtain ⟨rfl, rfl⟩ := hf
    exact gj_iret hO dX8_ring_20
  · replace hf := gj_f h hf
    refine gj_iload_n hO 2 dX8_ring_14 rfl rfl ?_
    refine gj_iconst (v := (-1)) hO dX8_ring_15 (by decide) ?_
    refine gj_icmp_ge (tgt := 21) hO dX8_ring_16 (by decide) (fun h => ?_) (fun h => ?_)
    · replace hf := gj_t h hf
      refine gj_aload_n hO 0 dX8_ring_21 rfl rfl ?_
      refine gt_X8_4 hO wk_185 dX8_ring_22 ?_
      refine gt_X7_0 hO kd_16 kl_16 wk_186 dX8_ring_25 ?_
      refine gt_X1_11 hO kd_17 kl_17 wk_250 dX8_ring_28 ?_
      refine gj_iload_n hO 1 dX8_ring_31 rfl rfl ?_
      obtain ⟨hb2, hf⟩ := gj_c hf
      refine gj_iald hO kl_24 kd_24 hb2 dX8_ring_32 ?_
      refine gj_if_ne (tgt := 39) hO dX8_ring_33 (by decide) (fun h => ?_) (fun h => ?_)
      · replace hf := gj_f h hf
        refine gj_aload_n hO 0 dX8_ring_39 rfl rfl ?_
        refine gt_X8_4 hO wk_185 dX8_ring_40 ?_
        refine gj_iload_n hO 1 dX8_ring_43 rfl rfl ?_
        obtain ⟨⟨x3_v, x3_s⟩, hc3, hf⟩ := gj_b hf
        dsimp only at hf
        refine ca_X7_traceRing hO isY_16 hc3 wk_326 (by decide) (by decide) (Nat.le_of_ble_eq_true rfl) dX8_ring_44 ?_
        obtain ⟨hb4, hf⟩ := gj_c hf
        rw [hb4]
        refine gj_astore_n (lv2 := [(3, gj_r 32), (0, gj_r 0), (1, gj_i b1), (2, gj_i b2)]) hO dX8_ring_47 rfl (by decide) rfl ?_
        refine gj_iload_n hO 3 dX8_ring_48 rfl rfl ?_
        refine gj_iconst (v := (-1)) hO dX8_ring_49 (by decide) ?_
        refine gj_icmp_ne (tgt := 58) hO dX8_ring_50 (by decide) (fun h => ?_) (fun h => ?_)
        · replace hf := gj_f h hf
          refine gj_iload_n hO 3 dX8_ring_58 rfl rfl ?_
          refine gj_aload_n hO 0 dX8_ring_59 rfl rfl ?_
          refine gt_X3_0 hO kd_32 kl_32 wk_327 dX8_ring_60 ?_
          refine gj_icmp_ge (tgt := 75) hO dX8_ring_63 (by decide) (fun h => ?_) (fun h => ?_)
          · replace hf := gj_t h hf
            refine gj_bipush (v := (-2)) hO dX8_ring_75 (by decide) ?_
            replace hf := Option.some.inj hf
            simp only [Prod.mk.injEq] at hf
            obtain ⟨rfl, rfl⟩ := hf
            exact gj_iret hO dX8_ring_77
          · replace hf := gj_f h hf
            refine gj_aload_n hO 0 dX8_ring_66 rfl rfl ?_
            refine gt_X3_3 hO kd_32 kl_32 wk_328 dX8_ring_67 ?_
            refine gj_iload_n hO 3 dX8_ring_70 rfl rfl ?_
            obtain ⟨hb5, hf⟩ := gj_c hf
            refine gj_iald hO kl_33 kd_33 hb5 dX8_ring_71 ?_
            refine gj_goto (tgt := 77) hO dX8_ring_72 (by decide) ?_
            replace hf := Option.some.inj hf
            simp only [Prod.mk.injEq] at hf
            obtain ⟨rfl, rfl⟩ := hf
            exact gj_iret hO dX8_ring_77
        · replace hf := gj_t h hf
          refine gj_aload_n hO 0 dX8_ring_53 rfl rfl ?_
          refine gt_X3_0 hO kd_32 kl_32 wk_327 dX8_ring_54 ?_
          replace hf := Option.some.inj hf
          simp only [Prod.mk.injEq] at hf
          obtain ⟨rfl, rfl⟩ := hf
          exact gj_iret hO dX8_ring_57
      · replace hf := gj_t h hf
        refine gj_bipush (v := (-2)) hO dX8_ring_36 (by decide) ?_
        replace hf := Option.some.inj hf
        simp only [Prod.mk.injEq] at hf
        obtain ⟨rfl, rfl⟩ := hf
        exact gj_iret hO dX8_ring_38
    · replace hf := gj_f h hf
      refine gj_iconst (v := (-1)) hO dX8_ring_19 (by decide) ?_
      replace hf := Option.some.inj hf
      simp only [Prod.mk.injEq] at hf
      obtain ⟨rfl, rfl⟩ := hf
      exact gj_iret hO dX8_ring_20
set_option maxHeartbeats 4000000 in
set_option maxRecDepth 100000 in
theorem ca_X8_ring {E : gj_E} {X : gj_X} {own : String} {cc : ByteArray} {nL : Nat} {rt : Option FieldType} {fr lo : Nat} {ce sl : Nat} {Q : State → Prop} {pc : Nat} {lv : List (Nat × gj_V)} {st : List gj_V} {σ : gj_S} (hO : gj_O E X own cc nL rt fr lo) {b1 : Int32} {b2 : Int32}  {idx : Nat} {x : Int32} {y : gj_S} (hf : f_X8_ring b1 b2 σ = some (x, y)) (hl : Cond.methodLink own idx yX8_ring ∈ gj_gw) (hf1 : 5 ≤ fr) (hf2 : 121 ≤ lo) (hcat : ((st.map (gj_tv E.2.1)).map fun v => v.category).sum ≤ 8) (hd : decode cc pc = .ok (.invokevirtual idx, 3)) (k : gj_H E X nL ce sl Q (pc + 3) lv ((gj_i x) :: st) y) : gj_H E X nL ce sl Q pc lv (gj_i b2 :: gj_i b1 :: gj_r 0 :: st) σ :=
  gj_callV hO (o := 0) (vs := [gj_i b1, gj_i b2]) (m_X8_ring  hf) (gj_Iany (by decide)) hl wk_329 wk_330 wk_4 wk_331 kl_0 kd_0 (by decide) (ci := 8) rfl (n := 2) (by decide +kernel) rfl hf1 hf2 rfl hcat hd k
def f_X3_leavingWay (b0 : Nat) (σ : gj_S) : Option Int32 := (if gj_in (σ.1 b0 5) 17 then some (σ.1 (b0 + 1) (Int32.toNatClampNeg (σ.1 b0 5))) else none)
set_option maxHeartbeats 4000000 in
set_option maxRecDepth 100000 in
theorem m_X3_leavingWay {E : gj_E} {σ : gj_S} {b0 : Nat} (g0 : isR b0) {x : Int32} (hf : f_X3_leavingWay b0 σ = some x) : gj_M E yX3_leavingWay cX3_leavingWay 1 (some .int) 0 0 [gj_r b0] σ (some (gj_i x)) σ := by
  refine gj_body (lv := [(0, gj_r b0)]) (by decide +kernel) (Nat.le_of_ble_eq_true rfl) rfl (fun X hO => ?_)
  replace hO : gj_O E X RX3 cX3_leavingWay 1 (some .int) 0 0 := hO
  unfold f_X3_leavingWay at hf
  refine gj_aload_n hO 0 dX3_leavingWay_0 rfl rfl ?_
  refine gt_X3_3 hO (kdR_0 g0) (klR_0 g0) wk_289 dX3_leavingWay_1 ?_
  refine gj_aload_n hO 0 dX3_leavingWay_4 rfl rfl ?_
  refine gt_X3_5 hO (kdR_0 g0) (klR_0 g0) wk_301 dX3_leavingWay_5 ?_
  obtain ⟨hb1, hf⟩ := gj_c hf
  refine gj_iald hO (klR_1 g0) (kdR_1 g0) hb1 dX3_leavingWay_8 ?_
  obtain rfl := Option.some.inj hf
  exact gj_iret hO dX3_leavingWay_9
set_option maxHeartbeats 4000000 in
set_option maxRecDepth 100000 in
theorem ca_X3_leavingWay {E : gj_E} {X : gj_X} {own : String} {cc : ByteArray} {nL : Nat} {rt : Option FieldType} {fr lo : Nat} {ce sl : Nat} {Q : State → Prop} {pc : Nat} {lv : List (Nat × gj_V)} {st : List gj_V} {σ : gj_S} (hO : gj_O E X own cc nL rt fr lo) {b0 : Nat} (g0 : isR b0) {idx : Nat} {x : Int32} (hf : f_X3_leavingWay b0 σ = some x) (hl : Cond.methodLink own idx yX3_leavingWay ∈ gj_gw) (hf1 : 1 ≤ fr) (hf2 : 20 ≤ lo) (hcat : ((st.map (gj_tv E.2.1)).map fun v => v.category).sum ≤ 8) (hd : decode cc pc = .ok (.invokevirtual idx, 3)) (k : gj_H E X nL ce sl Q (pc + 3) lv ((gj_i x) :: st) σ) : gj_H E X nL ce sl Q pc lv (gj_r b0 :: st) σ :=
  gj_callV hO (o := b0) (vs := []) (m_X3_leavingWay g0 hf) (gj_Iany (by decide)) hl wk_332 wk_333 wk_294 wk_334 (klR_0 g0) (kdR_0 g0) (by decide) (ci := 3) rfl (n := 0) (by decide +kernel) rfl hf1 hf2 rfl hcat hd k
def f_X8_closes (b1 : Int32) (b2 : Int32) (σ : gj_S) : Option (Int32 × gj_S) := ((f_X1_hasWay 17 b1 σ).bind fun x1 => (if x1 = 0 then some ((-1 : Int32), σ) else (if b2 < 0 then some ((-1 : Int32), σ) else (if b2 ≤ (2 : Int32) then (if gj_in b1 24 then (if (σ.1 24 (Int32.toNatClampNeg b1)) = 0 then some ((-2 : Int32), σ) else ((f_X7_traceRing 16 b1 σ).bind fun x3 => (if x3.1 = 32 then (if b2 = 0 then some ((x3.2.1 32 2), x3.2) else (if b2 = (1 : Int32) then ((f_X3_leavingWay 32 x3.2).bind fun x5 => some (x5, x3.2)) else (if (x3.2.1 32 1) = (8 : Int32) then some ((100 : Int32), x3.2) else some ((x3.2.1 32 1), x3.2)))) else none))) else none) else some ((-1 : Int32), σ)))))
set_option maxHeartbeats 4000000 in
set_option maxRecDepth 100000 in
theorem m_X8_closes {E : gj_E} {σ : gj_S} {b1 : Int32} {b2 : Int32}  {x : Int32} {y : gj_S} (hf : f_X8_closes b1 b2 σ = some (x, y)) : gj_M E yX8_closes cX8_closes 4 (some .int) 4 98 [gj_r 0, gj_i b1, gj_i b2] σ (some (gj_i x)) y := by
  refine gj_body (lv := [(0, gj_r 0), (1, gj_i b1), (2, gj_i b2)]) (by decide +kernel) (Nat.le_of_ble_eq_true rfl) rfl (fun X hO => ?_)
  replace hO : gj_O E X RX8 cX8_closes 4 (some .int) 4 98 := hO
  unfold f_X8_closes at hf
  refine gj_aload_n hO 0 dX8_closes_0 rfl rfl ?_
  refine gt_X8_4 hO wk_185 dX8_closes_1 ?_
  refine gt_X7_0 hO kd_16 kl_16 wk_186 dX8_closes_4 ?_
  refine gj_iload_n hO 1 dX8_closes_7 rfl rfl ?_
  obtain ⟨x1, hc1, hf⟩ := gj_b hf
  refine ca_X1_hasWay hO isP_17 hc1 wk_243 (by decide) (by decide) (Nat.le_of_ble_eq_true rfl) dX8_closes_8 ?_
  refine gj_if_eq (tgt := 23) hO dX8_closes_11 (by decide) (fun h => ?_) (fun h => ?_)
  · replace hf := gj_t h hf
    refine gj_iconst (v := (-1)) hO dX8_closes_23 (by decide) ?_
    replace hf := Option.some.inj hf
    simp only [Prod.mk.injEq] at hf
    obtain ⟨rfl, rfl⟩ := hf
    exact gj_iret hO dX8_closes_24
  · replace hf := gj_f h hf
    refine gj_iload_n hO 2 dX8_closes_14 rfl rfl ?_
    refine gj_if_lt (tgt := 23) hO dX8_closes_15 (by decide) (fun h => ?_) (fun h => ?_)
    · replace hf := gj_t h hf
      refine gj_iconst (v := (-1)) hO dX8_closes_23 (by decide) ?_
      replace hf := Option.some.inj hf
      simp only [Prod.mk.injEq] at hf
      obtain ⟨rfl, rfl⟩ := hf
      exact gj_iret hO dX8_closes_24
    · replace hf := gj_f h hf
      refine gj_iload_n hO 2 dX8_closes_18 rfl rfl ?_
      refine gj_iconst (v := 2) hO dX8_closes_19 (by decide) ?_
      refine gj_icmp_le (tgt := 25) hO dX8_closes_20 (by decide) (fun h => ?_) (fun h => ?_)
      · replace hf := gj_t h hf
        refine gj_aload_n hO 0 dX8_closes_25 rfl rfl ?_
        refine gt_X8_4 hO wk_185 dX8_closes_26 ?_
        refine gt_X7_0 hO kd_16 kl_16 wk_186 dX8_closes_29 ?_
        refine gt_X1_11 hO kd_17 kl_17 wk_250 dX8_closes_32 ?_
        refine gj_iload_n hO 1 dX8_closes_35 rfl rfl ?_
        obtain ⟨hb2, hf⟩ := gj_c hf
        refine gj_iald hO kl_24 kd_24 hb2 dX8_closes_36 ?_
        refine gj_if_ne (tgt := 43) hO dX8_closes_37 (by decide) (fun h => ?_) (fun h => ?_)
        · replace hf := gj_f h hf
          refine gj_aload_n hO 0 dX8_closes_43 rfl rfl ?_
          refine gt_X8_4 hO wk_185 dX8_closes_44 ?_
          refine gj_iload_n hO 1 dX8_closes_47 rfl rfl ?_
          obtain ⟨⟨x3_v, x3_s⟩, hc3, hf⟩ := gj_b hf
          dsimp only at hf
          refine ca_X7_traceRing hO isY_16 hc3 wk_326 (by decide) (by decide) (Nat.le_of_ble_eq_true rfl) dX8_closes_48 ?_
          obtain ⟨hb4, hf⟩ := gj_c hf
          rw [hb4]
          refine gj_astore_n (lv2 := [(3, gj_r 32), (0, gj_r 0), (1, gj_i b1), (2, gj_i b2)]) hO dX8_closes_51 rfl (by decide) rfl ?_
          refine gj_iload_n hO 3 dX8_closes_52 rfl rfl ?_
          refine gj_if_ne (tgt := 61) hO dX8_closes_53 (by decide) (fun h => ?_) (fun h => ?_)
          · replace hf := gj_f h hf
            refine gj_iload_n hO 3 dX8_closes_61 rfl rfl ?_
            refine gj_iconst (v := 1) hO dX8_closes_62 (by decide) ?_
            refine gj_icmp_ne (tgt := 71) hO dX8_closes_63 (by decide) (fun h => ?_) (fun h => ?_)
            · replace hf := gj_f h hf
              refine gj_aload_n hO 0 dX8_closes_71 rfl rfl ?_
              refine gt_X3_1 hO kd_32 kl_32 wk_335 dX8_closes_72 ?_
              refine gj_bipush (v := 8) hO dX8_closes_75 (by decide) ?_
              refine gj_icmp_ne (tgt := 85) hO dX8_closes_77 (by decide) (fun h => ?_) (fun h => ?_)
              · replace hf := gj_f h hf
                refine gj_aload_n hO 0 dX8_closes_85 rfl rfl ?_
                refine gt_X3_1 hO kd_32 kl_32 wk_335 dX8_closes_86 ?_
                replace hf := Option.some.inj hf
                simp only [Prod.mk.injEq] at hf
                obtain ⟨rfl, rfl⟩ := hf
                exact gj_iret hO dX8_closes_89
              · replace hf := gj_t h hf
                refine gj_bipush (v := 100) hO dX8_closes_80 (by decide) ?_
                refine gj_goto (tgt := 89) hO dX8_closes_82 (by decide) ?_
                replace hf := Option.some.inj hf
                simp only [Prod.mk.injEq] at hf
                obtain ⟨rfl, rfl⟩ := hf
                exact gj_iret hO dX8_closes_89
            · replace hf := gj_t h hf
              refine gj_aload_n hO 0 dX8_closes_66 rfl rfl ?_
              obtain ⟨x5, hc5, hf⟩ := gj_b hf
              refine ca_X3_leavingWay hO isR_32 hc5 wk_336 (by decide) (by decide) (Nat.le_of_ble_eq_true rfl) dX8_closes_67 ?_
              replace hf := Option.some.inj hf
              simp only [Prod.mk.injEq] at hf
              obtain ⟨rfl, rfl⟩ := hf
              exact gj_iret hO dX8_closes_70
          · replace hf := gj_t h hf
            refine gj_aload_n hO 0 dX8_closes_56 rfl rfl ?_
            refine gt_X3_2 hO kd_32 kl_32 wk_337 dX8_closes_57 ?_
            replace hf := Option.some.inj hf
            simp only [Prod.mk.injEq] at hf
            obtain ⟨rfl, rfl⟩ := hf
            exact gj_iret hO dX8_closes_60
        · replace hf := gj_t h hf
          refine gj_bipush (v := (-2)) hO dX8_closes_40 (by decide) ?_
          replace hf := Option.some.inj hf
          simp only [Prod.mk.injEq] at hf
          obtain ⟨rfl, rfl⟩ := hf
          exact gj_iret hO dX8_closes_42
      · replace hf := gj_f h hf
        refine gj_iconst (v := (-1)) hO dX8_closes_23 (by decide) ?_
        replace hf := Option.some.inj hf
        simp only [Prod.mk.injEq] at hf
        obtain ⟨rfl, rfl⟩ := hf
        exact gj_iret hO dX8_closes_24
set_option maxHeartbeats 4000000 in
set_option maxRecDepth 100000 in
theorem ca_X8_closes {E : gj_E} {X : gj_X} {own : String} {cc : ByteArray} {nL : Nat} {rt : Option FieldType} {fr lo : Nat} {ce sl : Nat} {Q : State → Prop} {pc : Nat} {lv : List (Nat × gj_V)} {st : List gj_V} {σ : gj_S} (hO : gj_O E X own cc nL rt fr lo) {b1 : Int32} {b2 : Int32}  {idx : Nat} {x : Int32} {y : gj_S} (hf : f_X8_closes b1 b2 σ = some (x, y)) (hl : Cond.methodLink own idx yX8_closes ∈ gj_gw) (hf1 : 5 ≤ fr) (hf2 : 121 ≤ lo) (hcat : ((st.map (gj_tv E.2.1)).map fun v => v.category).sum ≤ 8) (hd : decode cc pc = .ok (.invokevirtual idx, 3)) (k : gj_H E X nL ce sl Q (pc + 3) lv ((gj_i x) :: st) y) : gj_H E X nL ce sl Q pc lv (gj_i b2 :: gj_i b1 :: gj_r 0 :: st) σ :=
  gj_callV hO (o := 0) (vs := [gj_i b1, gj_i b2]) (m_X8_closes  hf) (gj_Iany (by decide)) hl wk_338 wk_339 wk_4 wk_340 kl_0 kd_0 (by decide) (ci := 8) rfl (n := 2) (by decide +kernel) rfl hf1 hf2 rfl hcat hd k
def fb_X7_isStrong_l2 (b0 : Nat) (σ : gj_S) (a10002 : Int32) : Option ((Int32 ⊕ Unit) ⊕ Int32) := (if (σ.1 (b0 + 1) 0) ≤ a10002 then some (.inl (.inr ())) else (if gj_in a10002 9 then (if gj_in (σ.1 ((b0 + 10) + 1) (Int32.toNatClampNeg a10002)) 24 then ((if (σ.1 ((b0 + 1) + 2) (Int32.toNatClampNeg (σ.1 ((b0 + 10) + 1) (Int32.toNatClampNeg a10002)))) = a10002 then some (1 : Int32) else some (0 : Int32) : Option Int32).bind fun z10203 => ((f_X1_roomOf (b0 + 1) (σ.1 ((b0 + 10) + 1) (Int32.toNatClampNeg a10002)) z10203 σ).bind fun x10204 => (if x10204 = 0 then some (.inl (.inl (0 : Int32))) else some (.inr (a10002 + 1))))) else none) else none))
def f_X7_isStrong (b0 : Nat) (σ : gj_S) : Option Int32 := ((gj_lp (fb_X7_isStrong_l2 b0 σ) 5000 (0 : Int32)).bind fun y1 => Sum.elim (fun q => some q) (fun z1 => some (1 : Int32)) y1)
set_option maxHeartbeats 4000000 in
set_option maxRecDepth 100000 in
theorem sb_X7_isStrong_l2 {E : gj_E} {X : gj_X} {r : Option gj_V} {τ : gj_S} (hO : gj_O E X RX7 cX7_isStrong 4 (some .boolean) 1 22) {b0 : Nat} {σ : gj_S} (g0 : isY b0) {a10002 : Int32} {x : (Int32 ⊕ Unit) ⊕ Int32} (hf : fb_X7_isStrong_l2 b0 σ a10002 = some x) (K : gj_K (fun y1 => gj_K (fun q => r = (some (gj_i q)) ∧ τ = σ) (fun z1 => gj_G E X 4 r τ 62 [] [] σ) y1) (fun a10002 => gj_G E X 4 r τ 2 [(0, gj_r b0), (1, gj_i a10002)] [] σ) x) : gj_G E X 4 r τ 2 [(0, gj_r b0), (1, gj_i a10002)] [] σ := by
  unfold fb_X7_isStrong_l2 at hf
  refine gj_iload_n hO 1 dX7_isStrong_2 rfl rfl ?_
  refine gj_aload_n hO 0 dX7_isStrong_3 rfl rfl ?_
  refine gt_X7_0 hO (kdY_0 g0) (klY_0 g0) wk_167 dX7_isStrong_4 ?_
  refine gt_X1_0 hO (kdP_0 (isY_P g0)) (klP_0 (isY_P g0)) wk_206 dX7_isStrong_7 ?_
  refine gj_icmp_ge (tgt := 62) hO dX7_isStrong_10 (by decide) (fun h => ?_) (fun h => ?_)
  · replace hf := gj_t h hf
    obtain rfl := Option.some.inj hf
    refine gj_sub (lv2 := []) [] rfl ?_
    exact K
  · replace hf := gj_f h hf
    refine gj_aload_n hO 0 dX7_isStrong_13 rfl rfl ?_
    refine gt_X7_1 hO (kdY_0 g0) (klY_0 g0) wk_166 dX7_isStrong_14 ?_
    refine gt_X5_0 hO (kdT_0 (isY_T g0)) (klT_0 (isY_T g0)) wk_341 dX7_isStrong_17 ?_
    refine gj_iload_n hO 1 dX7_isStrong_20 rfl rfl ?_
    obtain ⟨hb10201, hf⟩ := gj_c hf
    refine gj_iald hO (klT_1 (isY_T g0)) (kdT_1 (isY_T g0)) hb10201 dX7_isStrong_21 ?_
    refine gj_istore_n (lv2 := [(2, gj_i (σ.1 ((b0 + 10) + 1) (Int32.toNatClampNeg a10002))), (0, gj_r b0), (1, gj_i a10002)]) hO dX7_isStrong_22 rfl (by decide) rfl ?_
    refine gj_aload_n hO 1 dX7_isStrong_23 rfl rfl ?_
    refine gt_X7_0 hO (kdY_0 g0) (klY_0 g0) wk_167 dX7_isStrong_24 ?_
    refine gt_X1_6 hO (kdP_0 (isY_P g0)) (klP_0 (isY_P g0)) wk_238 dX7_isStrong_27 ?_
    refine gj_iload_n hO 0 dX7_isStrong_30 rfl rfl ?_
    obtain ⟨hb10202, hf⟩ := gj_c hf
    refine gj_iald hO (klP_2 (isY_P g0)) (kdP_2 (isY_P g0)) hb10202 dX7_isStrong_31 ?_
    refine gj_iload_n hO 2 dX7_isStrong_32 rfl rfl ?_
    obtain ⟨z10203, hz10203, hf⟩ := gj_b hf
    have J10203 : gj_G E X 4 r τ 41 [(0, gj_r b0), (1, gj_i a10002), (2, gj_i (σ.1 ((b0 + 10) + 1) (Int32.toNatClampNeg a10002)))] [gj_i z10203] σ := by
      refine gj_istore_n (lv2 := [(3, gj_i z10203), (0, gj_r b0), (1, gj_i a10002), (2, gj_i (σ.1 ((b0 + 10) + 1) (Int32.toNatClampNeg a10002)))]) hO dX7_isStrong_41 rfl (by decide) rfl ?_
      refine gj_aload_n hO 1 dX7_isStrong_42 rfl rfl ?_
      refine gt_X7_0 hO (kdY_0 g0) (klY_0 g0) wk_167 dX7_isStrong_43 ?_
      refine gj_iload_n hO 3 dX7_isStrong_46 rfl rfl ?_
      refine gj_iload_n hO 0 dX7_isStrong_47 rfl rfl ?_
      obtain ⟨x10204, hc10204, hf⟩ := gj_b hf
      refine ca_X1_roomOf hO (isY_P g0) hc10204 wk_342 (by decide) (by decide) (Nat.le_of_ble_eq_true rfl) dX7_isStrong_48 ?_
      refine gj_if_ne (tgt := 56) hO dX7_isStrong_51 (by decide) (fun h => ?_) (fun h => ?_)
      · replace hf := gj_f h hf
        refine gj_iinc (v := (a10002 + 1)) (lv2 := [(1, gj_i (a10002 + 1)), (3, gj_i z10203), (0, gj_r b0), (2, gj_i (σ.1 ((b0 + 10) + 1) (Int32.toNatClampNeg a10002)))]) hO 2 dX7_isStrong_56 rfl rfl (by decide) rfl ?_
        refine gj_goto (tgt := 2) hO dX7_isStrong_59 (by decide) ?_
        obtain rfl := Option.some.inj hf
        refine gj_sub (lv2 := [(0, gj_r b0), (1, gj_i (a10002 + 1))]) [2, 0] rfl ?_
        exact K
      · replace hf := gj_t h hf
        refine gj_iconst (v := 0) hO dX7_isStrong_54 (by decide) ?_
        obtain rfl := Option.some.inj hf
        obtain ⟨rfl, rfl⟩ := K
        exact gj_zret hO (Or.inl rfl) dX7_isStrong_55
    refine gj_icmp_ne (tgt := 40) hO dX7_isStrong_33 (by decide) (fun h => ?_) (fun h => ?_)
    · replace hz10203 := gj_f h hz10203
      refine gj_iconst (v := 0) hO dX7_isStrong_40 (by decide) ?_
      obtain rfl := Option.some.inj hz10203
      refine gj_sub (lv2 := [(0, gj_r b0), (1, gj_i a10002), (2, gj_i (σ.1 ((b0 + 10) + 1) (Int32.toNatClampNeg a10002)))]) [1, 2, 0] rfl ?_
      exact J10203
    · replace hz10203 := gj_t h hz10203
      refine gj_iconst (v := 1) hO dX7_isStrong_36 (by decide) ?_
      refine gj_goto (tgt := 41) hO dX7_isStrong_37 (by decide) ?_
      obtain rfl := Option.some.inj hz10203
      refine gj_sub (lv2 := [(0, gj_r b0), (1, gj_i a10002), (2, gj_i (σ.1 ((b0 + 10) + 1) (Int32.toNatClampNeg a10002)))]) [1, 2, 0] rfl ?_
      exact J10203
set_option maxHeartbeats 4000000 in
set_option maxRecDepth 100000 in
theorem m_X7_isStrong {E : gj_E} {σ : gj_S} {b0 : Nat} (g0 : isY b0) {x : Int32} (hf : f_X7_isStrong b0 σ = some x) : gj_M E yX7_isStrong cX7_isStrong 4 (some .boolean) 1 22 [gj_r b0] σ (some (gj_i x)) σ := by
  refine gj_body (lv := [(0, gj_r b0)]) (by decide +kernel) (Nat.le_of_ble_eq_true rfl) rfl (fun X hO => ?_)
  replace hO : gj_O E X RX7 cX7_isStrong 4 (some .boolean) 1 22 := hO
  unfold f_X7_isStrong at hf
  refine gj_iconst (v := 0) hO dX7_isStrong_0 (by decide) ?_
  refine gj_istore_n (lv2 := [(1, gj_i (0 : Int32)), (0, gj_r b0)]) hO dX7_isStrong_1 rfl (by decide) rfl ?_
  obtain ⟨y1, hz1, hf⟩ := gj_b hf
  have J1 : (fun y1 => gj_K (fun q => (some (gj_i x)) = (some (gj_i q)) ∧ σ = σ) (fun z1 => gj_G E X 4 (some (gj_i x)) σ 62 [] [] σ) y1) y1 := by
    rcases y1 with q | z1
    · have hf : some q = some x := hf
      obtain rfl := Option.some.inj hf
      exact ⟨rfl, rfl⟩
    · dsimp only [Sum.elim] at hf
      refine gj_iconst (v := 1) hO dX7_isStrong_62 (by decide) ?_
      obtain rfl := Option.some.inj hf
      exact gj_zret hO (Or.inr rfl) dX7_isStrong_63
  refine gj_sub (lv2 := [(0, gj_r b0), (1, gj_i (0 : Int32))]) [1, 0] rfl ?_
  exact gj_loop (head := fun a10002 => gj_G E X 4 (some (gj_i x)) σ 2 [(0, gj_r b0), (1, gj_i a10002)] [] σ) (exit := fun y1 => gj_K (fun q => (some (gj_i x)) = (some (gj_i q)) ∧ σ = σ) (fun z1 => gj_G E X 4 (some (gj_i x)) σ 62 [] [] σ) y1) (fun a10002 x hf K => sb_X7_isStrong_l2 hO g0 hf K) _ _ _ hz1 J1
set_option maxHeartbeats 4000000 in
set_option maxRecDepth 100000 in
theorem ca_X7_isStrong {E : gj_E} {X : gj_X} {own : String} {cc : ByteArray} {nL : Nat} {rt : Option FieldType} {fr lo : Nat} {ce sl : Nat} {Q : State → Prop} {pc : Nat} {lv : List (Nat × gj_V)} {st : List gj_V} {σ : gj_S} (hO : gj_O E X own cc nL rt fr lo) {b0 : Nat} (g0 : isY b0) {idx : Nat} {x : Int32} (hf : f_X7_isStrong b0 σ = some x) (hl : Cond.methodLink own idx yX7_isStrong ∈ gj_gw) (hf1 : 2 ≤ fr) (hf2 : 45 ≤ lo) (hcat : ((st.map (gj_tv E.2.1)).map fun v => v.category).sum ≤ 8) (hd : decode cc pc = .ok (.invokevirtual idx, 3)) (k : gj_H E X nL ce sl Q (pc + 3) lv ((gj_i x) :: st) σ) : gj_H E X nL ce sl Q pc lv (gj_r b0 :: st) σ :=
  gj_callV hO (o := b0) (vs := []) (m_X7_isStrong g0 hf) (gj_Iany (by decide)) hl wk_343 wk_344 wk_171 wk_345 (klY_0 g0) (kdY_0 g0) (by decide) (ci := 7) rfl (n := 0) (by decide +kernel) rfl hf1 hf2 rfl hcat hd k
