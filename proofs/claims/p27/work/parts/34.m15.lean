def f_X9_log (b1 : Int32) (b2 : Int32) (σ : gj_S) : Option (Int32 × gj_S) := (if gj_in (99 : Int32) 180 then ((f_X9_within (Int32.toInt64 b1) (0 : Int64) (Int32.toInt64 ((σ.1 198 (Int32.toNatClampNeg (99 : Int32))) - (1 : Int32)))).bind fun x2 => ((if x2 = 0 then some (1 : Int32) else ((f_X9_within (Int32.toInt64 b2) (0 : Int64) (4 : Int64)).bind fun x4 => (if x4 = 0 then some (1 : Int32) else some (0 : Int32))) : Option Int32).bind fun z3 => (if ((gj_sI σ 188 (upd (σ.1 188) 0 z3)).1 188 0) = (1 : Int32) then some ((0 : Int32), (gj_sI σ 188 (upd (σ.1 188) 0 z3))) else (if gj_in (((100 : Int32) + ((5 : Int32) * b1)) + b2) 180 then some (((gj_sI σ 188 (upd (σ.1 188) 0 z3)).1 198 (Int32.toNatClampNeg (((100 : Int32) + ((5 : Int32) * b1)) + b2))), (gj_sI σ 188 (upd (σ.1 188) 0 z3))) else none)))) else none)
set_option maxHeartbeats 4000000 in
set_option maxRecDepth 100000 in
theorem m_X9_log {E : gj_E} {σ : gj_S} {b1 : Int32} {b2 : Int32}  {x : Int32} {y : gj_S} (hf : f_X9_log b1 b2 σ = some (x, y)) : gj_M E yX9_log cX9_log 3 (some .int) 1 25 [gj_r 188, gj_i b1, gj_i b2] σ (some (gj_i x)) y := by
  refine gj_body (lv := [(0, gj_r 188), (1, gj_i b1), (2, gj_i b2)]) (by decide +kernel) (Nat.le_of_ble_eq_true rfl) rfl (fun X hO => ?_)
  replace hO : gj_O E X RX9 cX9_log 3 (some .int) 1 25 := hO
  unfold f_X9_log at hf
  refine gj_aload_n hO 0 dX9_log_0 rfl rfl ?_
  refine gj_iload_n hO 1 dX9_log_1 rfl rfl ?_
  refine gj_i2l hO dX9_log_2 ?_
  refine gj_lconst (v := 0) hO dX9_log_3 (by decide) ?_
  refine gj_aload_n hO 0 dX9_log_4 rfl rfl ?_
  refine gt_X9_21 hO wk_725 dX9_log_5 ?_
  refine gj_bipush (v := 99) hO dX9_log_8 (by decide) ?_
  obtain ⟨hb1, hf⟩ := gj_c hf
  refine gj_iald hO kl_198 kd_198 hb1 dX9_log_10 ?_
  refine gj_iconst (v := 1) hO dX9_log_11 (by decide) ?_
  refine gj_isub hO dX9_log_12 ?_
  refine gj_i2l hO dX9_log_13 ?_
  obtain ⟨x2, hc2, hf⟩ := gj_b hf
  refine ca_X9_within hO kl_188  hc2 wk_653 (by decide) (by decide) (Nat.le_of_ble_eq_true rfl) dX9_log_14 ?_
  obtain ⟨z3, hz3, hf⟩ := gj_b hf
  have J3 : gj_G E X 3 (some (gj_i x)) y 37 [(0, gj_r 188), (1, gj_i b1), (2, gj_i b2)] [gj_i z3, gj_r 188] σ := by
    refine pt_X9_0 hO wk_636 dX9_log_37 ?_
    refine gj_aload_n hO 0 dX9_log_40 rfl rfl ?_
    refine gt_X9_0 hO wk_636 dX9_log_41 ?_
    refine gj_iconst (v := 1) hO dX9_log_44 (by decide) ?_
    refine gj_icmp_ne (tgt := 52) hO dX9_log_45 (by decide) (fun h => ?_) (fun h => ?_)
    · replace hf := gj_f h hf
      refine gj_aload_n hO 0 dX9_log_52 rfl rfl ?_
      refine gt_X9_21 hO wk_725 dX9_log_53 ?_
      refine gj_bipush (v := 100) hO dX9_log_56 (by decide) ?_
      refine gj_iconst (v := 5) hO dX9_log_58 (by decide) ?_
      refine gj_iload_n hO 1 dX9_log_59 rfl rfl ?_
      refine gj_imul hO dX9_log_60 ?_
      refine gj_iadd hO dX9_log_61 ?_
      refine gj_iload_n hO 2 dX9_log_62 rfl rfl ?_
      refine gj_iadd hO dX9_log_63 ?_
      obtain ⟨hb5, hf⟩ := gj_c hf
      refine gj_iald hO kl_198 kd_198 hb5 dX9_log_64 ?_
      replace hf := Option.some.inj hf
      simp only [Prod.mk.injEq] at hf
      obtain ⟨rfl, rfl⟩ := hf
      exact gj_iret hO dX9_log_65
    · replace hf := gj_t h hf
      refine gj_iconst (v := 0) hO dX9_log_48 (by decide) ?_
      refine gj_goto (tgt := 65) hO dX9_log_49 (by decide) ?_
      replace hf := Option.some.inj hf
      simp only [Prod.mk.injEq] at hf
      obtain ⟨rfl, rfl⟩ := hf
      exact gj_iret hO dX9_log_65
  refine gj_if_eq (tgt := 36) hO dX9_log_17 (by decide) (fun h => ?_) (fun h => ?_)
  · replace hz3 := gj_t h hz3
    refine gj_iconst (v := 1) hO dX9_log_36 (by decide) ?_
    obtain rfl := Option.some.inj hz3
    refine gj_sub (lv2 := [(0, gj_r 188), (1, gj_i b1), (2, gj_i b2)]) [0, 1, 2] rfl ?_
    exact J3
  · replace hz3 := gj_f h hz3
    refine gj_iload_n hO 2 dX9_log_20 rfl rfl ?_
    refine gj_i2l hO dX9_log_21 ?_
    refine gj_lconst (v := 0) hO dX9_log_22 (by decide) ?_
    refine gj_ldc2 hO wk_895 dX9_log_23 ?_
    obtain ⟨x4, hc4, hz3⟩ := gj_b hz3
    refine ca_X9_within hO kl_188  hc4 wk_653 (by decide) (by decide) (Nat.le_of_ble_eq_true rfl) dX9_log_26 ?_
    refine gj_if_eq (tgt := 36) hO dX9_log_29 (by decide) (fun h => ?_) (fun h => ?_)
    · replace hz3 := gj_t h hz3
      refine gj_iconst (v := 1) hO dX9_log_36 (by decide) ?_
      obtain rfl := Option.some.inj hz3
      refine gj_sub (lv2 := [(0, gj_r 188), (1, gj_i b1), (2, gj_i b2)]) [0, 1, 2] rfl ?_
      exact J3
    · replace hz3 := gj_f h hz3
      refine gj_iconst (v := 0) hO dX9_log_32 (by decide) ?_
      refine gj_goto (tgt := 37) hO dX9_log_33 (by decide) ?_
      obtain rfl := Option.some.inj hz3
      refine gj_sub (lv2 := [(0, gj_r 188), (1, gj_i b1), (2, gj_i b2)]) [0, 1, 2] rfl ?_
      exact J3
set_option maxHeartbeats 4000000 in
set_option maxRecDepth 100000 in
theorem ca_X9_log {E : gj_E} {X : gj_X} {own : String} {cc : ByteArray} {nL : Nat} {rt : Option FieldType} {fr lo : Nat} {ce sl : Nat} {Q : State → Prop} {pc : Nat} {lv : List (Nat × gj_V)} {st : List gj_V} {σ : gj_S} (hO : gj_O E X own cc nL rt fr lo) (hw : gj_lt own 188) {b1 : Int32} {b2 : Int32}  {idx : Nat} {x : Int32} {y : gj_S} (hf : f_X9_log b1 b2 σ = some (x, y)) (hl : Cond.methodLink own idx yX9_log ∈ gj_gw) (hf1 : 2 ≤ fr) (hf2 : 47 ≤ lo) (hcat : ((st.map (gj_tv E.2.1)).map fun v => v.category).sum ≤ 8) (hd : decode cc pc = .ok (.invokevirtual idx, 3)) (k : gj_H E X nL ce sl Q (pc + 3) lv ((gj_i x) :: st) y) : gj_H E X nL ce sl Q pc lv (gj_i b2 :: gj_i b1 :: gj_r 188 :: st) σ :=
  gj_callV hO (o := 188) (vs := [gj_i b1, gj_i b2]) (m_X9_log  hf) (gj_I9 hw) hl wk_896 wk_897 wk_629 wk_898 hw kd_188 (by decide) (ci := 9) rfl (n := 2) (by decide +kernel) rfl hf1 hf2 rfl hcat hd k
def fb_X9_costNow_l4 (σ : gj_S) (a10004 : (Int32 × Int32)) : Option (Int32 ⊕ (Int32 × Int32)) := (if gj_in (0 : Int32) 2 then (if (σ.1 191 (Int32.toNatClampNeg (0 : Int32))) ≤ a10004.2 then some (.inl a10004.1) else (if gj_in ((50 : Int32) + a10004.2) 180 then (if gj_in ((8 : Int32) + a10004.2) 180 then some (.inr ((a10004.1 + ((σ.1 198 (Int32.toNatClampNeg ((50 : Int32) + a10004.2))) * (σ.1 198 (Int32.toNatClampNeg ((8 : Int32) + a10004.2))))), (a10004.2 + 1))) else none) else none)) else none)
def f_X9_costNow  (σ : gj_S) : Option Int32 := ((gj_lp (fb_X9_costNow_l4 σ) 5000 ((0 : Int32), (0 : Int32))).bind fun z1 => some z1)
set_option maxHeartbeats 4000000 in
set_option maxRecDepth 100000 in
theorem sb_X9_costNow_l4 {E : gj_E} {X : gj_X} {r : Option gj_V} {τ : gj_S} (hO : gj_O E X RX9 cX9_costNow 3 (some .int) 0 0) {σ : gj_S} {a10004_0 : Int32} {a10004_1 : Int32} {x : Int32 ⊕ (Int32 × Int32)} (hf : fb_X9_costNow_l4 σ (a10004_0, a10004_1) = some x) (K : gj_K (fun z1 => gj_G E X 3 r τ 42 [(1, gj_i z1)] [] σ) (fun a10004 => gj_G E X 3 r τ 4 [(0, gj_r 188), (1, gj_i a10004.1), (2, gj_i a10004.2)] [] σ) x) : gj_G E X 3 r τ 4 [(0, gj_r 188), (1, gj_i a10004_0), (2, gj_i a10004_1)] [] σ := by
  unfold fb_X9_costNow_l4 at hf
  dsimp only at hf
  refine gj_iload_n hO 2 dX9_costNow_4 rfl rfl ?_
  refine gj_aload_n hO 0 dX9_costNow_5 rfl rfl ?_
  refine gt_X9_12 hO wk_693 dX9_costNow_6 ?_
  refine gj_iconst (v := 0) hO dX9_costNow_9 (by decide) ?_
  obtain ⟨hb10401, hf⟩ := gj_c hf
  refine gj_iald hO kl_191 kd_191 hb10401 dX9_costNow_10 ?_
  refine gj_icmp_ge (tgt := 42) hO dX9_costNow_11 (by decide) (fun h => ?_) (fun h => ?_)
  · replace hf := gj_t h hf
    obtain rfl := Option.some.inj hf
    refine gj_sub (lv2 := [(1, gj_i a10004_0)]) [1] rfl ?_
    exact K
  · replace hf := gj_f h hf
    refine gj_iload_n hO 1 dX9_costNow_14 rfl rfl ?_
    refine gj_aload_n hO 0 dX9_costNow_15 rfl rfl ?_
    refine gt_X9_21 hO wk_725 dX9_costNow_16 ?_
    refine gj_bipush (v := 50) hO dX9_costNow_19 (by decide) ?_
    refine gj_iload_n hO 2 dX9_costNow_21 rfl rfl ?_
    refine gj_iadd hO dX9_costNow_22 ?_
    obtain ⟨hb10402, hf⟩ := gj_c hf
    refine gj_iald hO kl_198 kd_198 hb10402 dX9_costNow_23 ?_
    refine gj_aload_n hO 0 dX9_costNow_24 rfl rfl ?_
    refine gt_X9_21 hO wk_725 dX9_costNow_25 ?_
    refine gj_bipush (v := 8) hO dX9_costNow_28 (by decide) ?_
    refine gj_iload_n hO 2 dX9_costNow_30 rfl rfl ?_
    refine gj_iadd hO dX9_costNow_31 ?_
    obtain ⟨hb10403, hf⟩ := gj_c hf
    refine gj_iald hO kl_198 kd_198 hb10403 dX9_costNow_32 ?_
    refine gj_imul hO dX9_costNow_33 ?_
    refine gj_iadd hO dX9_costNow_34 ?_
    refine gj_istore_n (lv2 := [(1, gj_i (a10004_0 + ((σ.1 198 (Int32.toNatClampNeg ((50 : Int32) + a10004_1))) * (σ.1 198 (Int32.toNatClampNeg ((8 : Int32) + a10004_1)))))), (0, gj_r 188), (2, gj_i a10004_1)]) hO dX9_costNow_35 rfl (by decide) rfl ?_
    refine gj_iinc (v := (a10004_1 + 1)) (lv2 := [(2, gj_i (a10004_1 + 1)), (1, gj_i (a10004_0 + ((σ.1 198 (Int32.toNatClampNeg ((50 : Int32) + a10004_1))) * (σ.1 198 (Int32.toNatClampNeg ((8 : Int32) + a10004_1)))))), (0, gj_r 188)]) hO 2 dX9_costNow_36 rfl rfl (by decide) rfl ?_
    refine gj_goto (tgt := 4) hO dX9_costNow_39 (by decide) ?_
    obtain rfl := Option.some.inj hf
    refine gj_sub (lv2 := [(0, gj_r 188), (1, gj_i (a10004_0 + ((σ.1 198 (Int32.toNatClampNeg ((50 : Int32) + a10004_1))) * (σ.1 198 (Int32.toNatClampNeg ((8 : Int32) + a10004_1)))))), (2, gj_i (a10004_1 + 1))]) [2, 1, 0] rfl ?_
    exact K
set_option maxHeartbeats 4000000 in
set_option maxRecDepth 100000 in
theorem m_X9_costNow {E : gj_E} {σ : gj_S}   {x : Int32} (hf : f_X9_costNow  σ = some x) : gj_M E yX9_costNow cX9_costNow 3 (some .int) 0 0 [gj_r 188] σ (some (gj_i x)) σ := by
  refine gj_body (lv := [(0, gj_r 188)]) (by decide +kernel) (Nat.le_of_ble_eq_true rfl) rfl (fun X hO => ?_)
  replace hO : gj_O E X RX9 cX9_costNow 3 (some .int) 0 0 := hO
  unfold f_X9_costNow at hf
  refine gj_iconst (v := 0) hO dX9_costNow_0 (by decide) ?_
  refine gj_istore_n (lv2 := [(1, gj_i (0 : Int32)), (0, gj_r 188)]) hO dX9_costNow_1 rfl (by decide) rfl ?_
  refine gj_iconst (v := 0) hO dX9_costNow_2 (by decide) ?_
  refine gj_istore_n (lv2 := [(2, gj_i (0 : Int32)), (1, gj_i (0 : Int32)), (0, gj_r 188)]) hO dX9_costNow_3 rfl (by decide) rfl ?_
  obtain ⟨z1, hz1, hf⟩ := gj_b hf
  have J1 : gj_G E X 3 (some (gj_i x)) σ 42 [(1, gj_i z1)] [] σ := by
    refine gj_iload_n hO 0 dX9_costNow_42 rfl rfl ?_
    obtain rfl := Option.some.inj hf
    exact gj_iret hO dX9_costNow_43
  refine gj_sub (lv2 := [(0, gj_r 188), (1, gj_i (0 : Int32)), (2, gj_i (0 : Int32))]) [2, 1, 0] rfl ?_
  exact gj_loop (head := fun a10004 => gj_G E X 3 (some (gj_i x)) σ 4 [(0, gj_r 188), (1, gj_i a10004.1), (2, gj_i a10004.2)] [] σ) (exit := fun z1 => gj_G E X 3 (some (gj_i x)) σ 42 [(1, gj_i z1)] [] σ) (fun a10004 x hf K => by obtain ⟨a10004_0, a10004_1⟩ := a10004; exact sb_X9_costNow_l4 hO hf K) _ _ _ hz1 J1
set_option maxHeartbeats 4000000 in
set_option maxRecDepth 100000 in
theorem ca_X9_costNow {E : gj_E} {X : gj_X} {own : String} {cc : ByteArray} {nL : Nat} {rt : Option FieldType} {fr lo : Nat} {ce sl : Nat} {Q : State → Prop} {pc : Nat} {lv : List (Nat × gj_V)} {st : List gj_V} {σ : gj_S} (hO : gj_O E X own cc nL rt fr lo) (hw : gj_lt own 188)   {idx : Nat} {x : Int32} (hf : f_X9_costNow  σ = some x) (hl : Cond.methodLink own idx yX9_costNow ∈ gj_gw) (hf1 : 1 ≤ fr) (hf2 : 22 ≤ lo) (hcat : ((st.map (gj_tv E.2.1)).map fun v => v.category).sum ≤ 8) (hd : decode cc pc = .ok (.invokevirtual idx, 3)) (k : gj_H E X nL ce sl Q (pc + 3) lv ((gj_i x) :: st) σ) : gj_H E X nL ce sl Q pc lv (gj_r 188 :: st) σ :=
  gj_callV hO (o := 188) (vs := []) (m_X9_costNow  hf) (gj_I9 hw) hl wk_899 wk_900 wk_629 wk_901 hw kd_188 (by decide) (ci := 9) rfl (n := 0) (by decide +kernel) rfl hf1 hf2 rfl hcat hd k
def f_X9_cost  (σ : gj_S) : Option (Int32 × gj_S) := ((f_X9_costNow (gj_sI σ 188 (upd (σ.1 188) 0 (0 : Int32)))).bind fun x1 => some (x1, (gj_sI σ 188 (upd (σ.1 188) 0 (0 : Int32)))))
set_option maxHeartbeats 4000000 in
set_option maxRecDepth 100000 in
theorem m_X9_cost {E : gj_E} {σ : gj_S}   {x : Int32} {y : gj_S} (hf : f_X9_cost  σ = some (x, y)) : gj_M E yX9_cost cX9_cost 1 (some .int) 1 22 [gj_r 188] σ (some (gj_i x)) y := by
  refine gj_body (lv := [(0, gj_r 188)]) (by decide +kernel) (Nat.le_of_ble_eq_true rfl) rfl (fun X hO => ?_)
  replace hO : gj_O E X RX9 cX9_cost 1 (some .int) 1 22 := hO
  unfold f_X9_cost at hf
  refine gj_aload_n hO 0 dX9_cost_0 rfl rfl ?_
  refine gj_iconst (v := 0) hO dX9_cost_1 (by decide) ?_
  refine pt_X9_0 hO wk_636 dX9_cost_2 ?_
  refine gj_aload_n hO 0 dX9_cost_5 rfl rfl ?_
  obtain ⟨x1, hc1, hf⟩ := gj_b hf
  refine ca_X9_costNow hO kl_188  hc1 wk_902 (by decide) (by decide) (Nat.le_of_ble_eq_true rfl) dX9_cost_6 ?_
  replace hf := Option.some.inj hf
  simp only [Prod.mk.injEq] at hf
  obtain ⟨rfl, rfl⟩ := hf
  exact gj_iret hO dX9_cost_9
set_option maxHeartbeats 4000000 in
set_option maxRecDepth 100000 in
theorem ca_X9_cost {E : gj_E} {X : gj_X} {own : String} {cc : ByteArray} {nL : Nat} {rt : Option FieldType} {fr lo : Nat} {ce sl : Nat} {Q : State → Prop} {pc : Nat} {lv : List (Nat × gj_V)} {st : List gj_V} {σ : gj_S} (hO : gj_O E X own cc nL rt fr lo) (hw : gj_lt own 188)   {idx : Nat} {x : Int32} {y : gj_S} (hf : f_X9_cost  σ = some (x, y)) (hl : Cond.methodLink own idx yX9_cost ∈ gj_gw) (hf1 : 2 ≤ fr) (hf2 : 42 ≤ lo) (hcat : ((st.map (gj_tv E.2.1)).map fun v => v.category).sum ≤ 8) (hd : decode cc pc = .ok (.invokevirtual idx, 3)) (k : gj_H E X nL ce sl Q (pc + 3) lv ((gj_i x) :: st) y) : gj_H E X nL ce sl Q pc lv (gj_r 188 :: st) σ :=
  gj_callV hO (o := 188) (vs := []) (m_X9_cost  hf) (gj_I9 hw) hl wk_903 wk_904 wk_629 wk_905 hw kd_188 (by decide) (ci := 9) rfl (n := 0) (by decide +kernel) rfl hf1 hf2 rfl hcat hd k
def f_X9_bill (b1 : Int32) (b2 : Int32) (σ : gj_S) : Option (Int32 × gj_S) := ((f_X9_costNow (gj_sI σ 188 (upd (σ.1 188) 0 (0 : Int32)))).bind fun x1 => ((f_X9_within (((Int32.toInt64 x1) * (Int32.toInt64 b1)) + (Int32.toInt64 b2)) (-2147483648 : Int64) (2147483647 : Int64)).bind fun x2 => (if x2 = 0 then some ((-2147483648 : Int32), (gj_sI σ 188 (upd (σ.1 188) 0 (0 : Int32)))) else some ((Int64.toInt32 (((Int32.toInt64 x1) * (Int32.toInt64 b1)) + (Int32.toInt64 b2))), (gj_sI σ 188 (upd (σ.1 188) 0 (0 : Int32)))))))
set_option maxHeartbeats 4000000 in
set_option maxRecDepth 100000 in
theorem m_X9_bill {E : gj_E} {σ : gj_S} {b1 : Int32} {b2 : Int32}  {x : Int32} {y : gj_S} (hf : f_X9_bill b1 b2 σ = some (x, y)) : gj_M E yX9_bill cX9_bill 5 (some .int) 1 25 [gj_r 188, gj_i b1, gj_i b2] σ (some (gj_i x)) y := by
  refine gj_body (lv := [(0, gj_r 188), (1, gj_i b1), (2, gj_i b2)]) (by decide +kernel) (Nat.le_of_ble_eq_true rfl) rfl (fun X hO => ?_)
  replace hO : gj_O E X RX9 cX9_bill 5 (some .int) 1 25 := hO
  unfold f_X9_bill at hf
  refine gj_aload_n hO 0 dX9_bill_0 rfl rfl ?_
  refine gj_iconst (v := 0) hO dX9_bill_1 (by decide) ?_
  refine pt_X9_0 hO wk_636 dX9_bill_2 ?_
  refine gj_aload_n hO 0 dX9_bill_5 rfl rfl ?_
  obtain ⟨x1, hc1, hf⟩ := gj_b hf
  refine ca_X9_costNow hO kl_188  hc1 wk_902 (by decide) (by decide) (Nat.le_of_ble_eq_true rfl) dX9_bill_6 ?_
  refine gj_i2l hO dX9_bill_9 ?_
  refine gj_iload_n hO 1 dX9_bill_10 rfl rfl ?_
  refine gj_i2l hO dX9_bill_11 ?_
  refine gj_lmul hO dX9_bill_12 ?_
  refine gj_iload_n hO 2 dX9_bill_13 rfl rfl ?_
  refine gj_i2l hO dX9_bill_14 ?_
  refine gj_ladd hO dX9_bill_15 ?_
  refine gj_lstore_n (lv2 := [(3, gj_l (((Int32.toInt64 x1) * (Int32.toInt64 b1)) + (Int32.toInt64 b2))), (0, gj_r 188), (1, gj_i b1), (2, gj_i b2)]) hO dX9_bill_16 rfl (by decide) rfl ?_
  refine gj_lload_n hO 0 dX9_bill_17 rfl rfl ?_
  refine gj_ldc2 hO wk_906 dX9_bill_18 ?_
  refine gj_ldc2 hO wk_907 dX9_bill_21 ?_
  obtain ⟨x2, hc2, hf⟩ := gj_b hf
  refine ca_X9_within hO kl_188  hc2 wk_653 (by decide) (by decide) (Nat.le_of_ble_eq_true rfl) dX9_bill_24 ?_
  refine gj_if_eq (tgt := 35) hO dX9_bill_27 (by decide) (fun h => ?_) (fun h => ?_)
  · replace hf := gj_t h hf
    refine gj_ldcw hO wk_908 dX9_bill_35 ?_
    replace hf := Option.some.inj hf
    simp only [Prod.mk.injEq] at hf
    obtain ⟨rfl, rfl⟩ := hf
    exact gj_iret hO dX9_bill_38
  · replace hf := gj_f h hf
    refine gj_lload_n hO 0 dX9_bill_30 rfl rfl ?_
    refine gj_l2i hO dX9_bill_31 ?_
    refine gj_goto (tgt := 38) hO dX9_bill_32 (by decide) ?_
    replace hf := Option.some.inj hf
    simp only [Prod.mk.injEq] at hf
    obtain ⟨rfl, rfl⟩ := hf
    exact gj_iret hO dX9_bill_38
set_option maxHeartbeats 4000000 in
set_option maxRecDepth 100000 in
theorem ca_X9_bill {E : gj_E} {X : gj_X} {own : String} {cc : ByteArray} {nL : Nat} {rt : Option FieldType} {fr lo : Nat} {ce sl : Nat} {Q : State → Prop} {pc : Nat} {lv : List (Nat × gj_V)} {st : List gj_V} {σ : gj_S} (hO : gj_O E X own cc nL rt fr lo) (hw : gj_lt own 188) {b1 : Int32} {b2 : Int32}  {idx : Nat} {x : Int32} {y : gj_S} (hf : f_X9_bill b1 b2 σ = some (x, y)) (hl : Cond.methodLink own idx yX9_bill ∈ gj_gw) (hf1 : 2 ≤ fr) (hf2 : 49 ≤ lo) (hcat : ((st.map (gj_tv E.2.1)).map fun v => v.category).sum ≤ 8) (hd : decode cc pc = .ok (.invokevirtual idx, 3)) (k : gj_H E X nL ce sl Q (pc + 3) lv ((gj_i x) :: st) y) : gj_H E X nL ce sl Q pc lv (gj_i b2 :: gj_i b1 :: gj_r 188 :: st) σ :=
  gj_callV hO (o := 188) (vs := [gj_i b1, gj_i b2]) (m_X9_bill  hf) (gj_I9 hw) hl wk_909 wk_910 wk_629 wk_911 hw kd_188 (by decide) (ci := 9) rfl (n := 2) (by decide +kernel) rfl hf1 hf2 rfl hcat hd k
def fb_X9_total_l13 (σ : gj_S) (a10013 : (Int64 × Int32)) : Option (Int64 ⊕ (Int64 × Int32)) := (if gj_in (0 : Int32) 2 then (if (σ.1 190 (Int32.toNatClampNeg (0 : Int32))) ≤ a10013.2 then some (.inl a10013.1) else (if gj_in (0 : Int32) 2 then (if gj_in (((50 : Int32) + (σ.1 191 (Int32.toNatClampNeg (0 : Int32)))) + a10013.2) 180 then some (.inr ((a10013.1 + ((10000 : Int64) * (Int32.toInt64 (σ.1 198 (Int32.toNatClampNeg (((50 : Int32) + (σ.1 191 (Int32.toNatClampNeg (0 : Int32)))) + a10013.2)))))), (a10013.2 + 1))) else none) else none)) else none)
def f_X9_total  (σ : gj_S) : Option (Int64 × gj_S) := ((f_X9_costNow (gj_sI σ 188 (upd (σ.1 188) 0 (0 : Int32)))).bind fun x1 => ((gj_lp (fb_X9_total_l13 (gj_sI σ 188 (upd (σ.1 188) 0 (0 : Int32)))) 5000 ((Int32.toInt64 x1), (0 : Int32))).bind fun z2 => some (z2, (gj_sI σ 188 (upd (σ.1 188) 0 (0 : Int32))))))
set_option maxHeartbeats 4000000 in
set_option maxRecDepth 100000 in
theorem sb_X9_total_l13 {E : gj_E} {X : gj_X} {r : Option gj_V} {τ : gj_S} (hO : gj_O E X RX9 cX9_total 4 (some .long) 1 22) {σ : gj_S} {a10013_0 : Int64} {a10013_1 : Int32} {x : Int64 ⊕ (Int64 × Int32)} (hf : fb_X9_total_l13 σ (a10013_0, a10013_1) = some x) (K : gj_K (fun z2 => gj_G E X 4 r τ 53 [(1, gj_l z2)] [] σ) (fun a10013 => gj_G E X 4 r τ 13 [(0, gj_r 188), (1, gj_l a10013.1), (3, gj_i a10013.2)] [] σ) x) : gj_G E X 4 r τ 13 [(0, gj_r 188), (1, gj_l a10013_0), (3, gj_i a10013_1)] [] σ := by
  unfold fb_X9_total_l13 at hf
  dsimp only at hf
  refine gj_iload_n hO 2 dX9_total_13 rfl rfl ?_
  refine gj_aload_n hO 0 dX9_total_14 rfl rfl ?_
  refine gt_X9_11 hO wk_691 dX9_total_15 ?_
  refine gj_iconst (v := 0) hO dX9_total_18 (by decide) ?_
  obtain ⟨hb11301, hf⟩ := gj_c hf
  refine gj_iald hO kl_190 kd_190 hb11301 dX9_total_19 ?_
  refine gj_icmp_ge (tgt := 53) hO dX9_total_20 (by decide) (fun h => ?_) (fun h => ?_)
  · replace hf := gj_t h hf
    obtain rfl := Option.some.inj hf
    refine gj_sub (lv2 := [(1, gj_l a10013_0)]) [1] rfl ?_
    exact K
  · replace hf := gj_f h hf
    refine gj_lload_n hO 1 dX9_total_23 rfl rfl ?_
    refine gj_ldc2 hO wk_912 dX9_total_24 ?_
    refine gj_aload_n hO 0 dX9_total_27 rfl rfl ?_
    refine gt_X9_21 hO wk_725 dX9_total_28 ?_
    refine gj_bipush (v := 50) hO dX9_total_31 (by decide) ?_
    refine gj_aload_n hO 0 dX9_total_33 rfl rfl ?_
    refine gt_X9_12 hO wk_693 dX9_total_34 ?_
    refine gj_iconst (v := 0) hO dX9_total_37 (by decide) ?_
    obtain ⟨hb11302, hf⟩ := gj_c hf
    refine gj_iald hO kl_191 kd_191 hb11302 dX9_total_38 ?_
    refine gj_iadd hO dX9_total_39 ?_
    refine gj_iload_n hO 2 dX9_total_40 rfl rfl ?_
    refine gj_iadd hO dX9_total_41 ?_
    obtain ⟨hb11303, hf⟩ := gj_c hf
    refine gj_iald hO kl_198 kd_198 hb11303 dX9_total_42 ?_
    refine gj_i2l hO dX9_total_43 ?_
    refine gj_lmul hO dX9_total_44 ?_
    refine gj_ladd hO dX9_total_45 ?_
    refine gj_lstore_n (lv2 := [(1, gj_l (a10013_0 + ((10000 : Int64) * (Int32.toInt64 (σ.1 198 (Int32.toNatClampNeg (((50 : Int32) + (σ.1 191 (Int32.toNatClampNeg (0 : Int32)))) + a10013_1))))))), (0, gj_r 188), (3, gj_i a10013_1)]) hO dX9_total_46 rfl (by decide) rfl ?_
    refine gj_iinc (v := (a10013_1 + 1)) (lv2 := [(3, gj_i (a10013_1 + 1)), (1, gj_l (a10013_0 + ((10000 : Int64) * (Int32.toInt64 (σ.1 198 (Int32.toNatClampNeg (((50 : Int32) + (σ.1 191 (Int32.toNatClampNeg (0 : Int32)))) + a10013_1))))))), (0, gj_r 188)]) hO 2 dX9_total_47 rfl rfl (by decide) rfl ?_
    refine gj_goto (tgt := 13) hO dX9_total_50 (by decide) ?_
    obtain rfl := Option.some.inj hf
    refine gj_sub (lv2 := [(0, gj_r 188), (1, gj_l (a10013_0 + ((10000 : Int64) * (Int32.toInt64 (σ.1 198 (Int32.toNatClampNeg (((50 : Int32) + (σ.1 191 (Int32.toNatClampNeg (0 : Int32)))) + a10013_1))))))), (3, gj_i (a10013_1 + 1))]) [2, 1, 0] rfl ?_
    exact K
set_option maxHeartbeats 4000000 in
set_option maxRecDepth 100000 in
theorem m_X9_total {E : gj_E} {σ : gj_S}   {x : Int64} {y : gj_S} (hf : f_X9_total  σ = some (x, y)) : gj_M E yX9_total cX9_total 4 (some .long) 1 22 [gj_r 188] σ (some (gj_l x)) y := by
  refine gj_body (lv := [(0, gj_r 188)]) (by decide +kernel) (Nat.le_of_ble_eq_true rfl) rfl (fun X hO => ?_)
  replace hO : gj_O E X RX9 cX9_total 4 (some .long) 1 22 := hO
  unfold f_X9_total at hf
  refine gj_aload_n hO 0 dX9_total_0 rfl rfl ?_
  refine gj_iconst (v := 0) hO dX9_total_1 (by decide) ?_
  refine pt_X9_0 hO wk_636 dX9_total_2 ?_
  refine gj_aload_n hO 0 dX9_total_5 rfl rfl ?_
  obtain ⟨x1, hc1, hf⟩ := gj_b hf
  refine ca_X9_costNow hO kl_188  hc1 wk_902 (by decide) (by decide) (Nat.le_of_ble_eq_true rfl) dX9_total_6 ?_
  refine gj_i2l hO dX9_total_9 ?_
  refine gj_lstore_n (lv2 := [(1, gj_l (Int32.toInt64 x1)), (0, gj_r 188)]) hO dX9_total_10 rfl (by decide) rfl ?_
  refine gj_iconst (v := 0) hO dX9_total_11 (by decide) ?_
  refine gj_istore_n (lv2 := [(3, gj_i (0 : Int32)), (1, gj_l (Int32.toInt64 x1)), (0, gj_r 188)]) hO dX9_total_12 rfl (by decide) rfl ?_
  obtain ⟨z2, hz2, hf⟩ := gj_b hf
  have J2 : gj_G E X 4 (some (gj_l x)) y 53 [(1, gj_l z2)] [] (gj_sI σ 188 (upd (σ.1 188) 0 (0 : Int32))) := by
    refine gj_lload_n hO 0 dX9_total_53 rfl rfl ?_
    replace hf := Option.some.inj hf
    simp only [Prod.mk.injEq] at hf
    obtain ⟨rfl, rfl⟩ := hf
    exact gj_lret hO dX9_total_54
  refine gj_sub (lv2 := [(0, gj_r 188), (1, gj_l (Int32.toInt64 x1)), (3, gj_i (0 : Int32))]) [2, 1, 0] rfl ?_
  exact gj_loop (head := fun a10013 => gj_G E X 4 (some (gj_l x)) y 13 [(0, gj_r 188), (1, gj_l a10013.1), (3, gj_i a10013.2)] [] (gj_sI σ 188 (upd (σ.1 188) 0 (0 : Int32)))) (exit := fun z2 => gj_G E X 4 (some (gj_l x)) y 53 [(1, gj_l z2)] [] (gj_sI σ 188 (upd (σ.1 188) 0 (0 : Int32)))) (fun a10013 x hf K => by obtain ⟨a10013_0, a10013_1⟩ := a10013; exact sb_X9_total_l13 hO hf K) _ _ _ hz2 J2
set_option maxHeartbeats 4000000 in
set_option maxRecDepth 100000 in
theorem ca_X9_total {E : gj_E} {X : gj_X} {own : String} {cc : ByteArray} {nL : Nat} {rt : Option FieldType} {fr lo : Nat} {ce sl : Nat} {Q : State → Prop} {pc : Nat} {lv : List (Nat × gj_V)} {st : List gj_V} {σ : gj_S} (hO : gj_O E X own cc nL rt fr lo) (hw : gj_lt own 188)   {idx : Nat} {x : Int64} {y : gj_S} (hf : f_X9_total  σ = some (x, y)) (hl : Cond.methodLink own idx yX9_total ∈ gj_gw) (hf1 : 2 ≤ fr) (hf2 : 45 ≤ lo) (hcat : ((st.map (gj_tv E.2.1)).map fun v => v.category).sum ≤ 8) (hd : decode cc pc = .ok (.invokevirtual idx, 3)) (k : gj_H E X nL ce sl Q (pc + 3) lv ((gj_l x) :: st) y) : gj_H E X nL ce sl Q pc lv (gj_r 188 :: st) σ :=
  gj_callV hO (o := 188) (vs := []) (m_X9_total  hf) (gj_I9 hw) hl wk_913 wk_914 wk_629 wk_915 hw kd_188 (by decide) (ci := 9) rfl (n := 0) (by decide +kernel) rfl hf1 hf2 rfl hcat hd k
def fb_X9_proof_l13 (σ : gj_S) (a10013 : (Int64 × Int32)) : Option (Int64 ⊕ (Int64 × Int32)) := (if gj_in (0 : Int32) 2 then (if (σ.1 190 (Int32.toNatClampNeg (0 : Int32))) ≤ a10013.2 then some (.inl a10013.1) else (if gj_in ((0 : Int32) + a10013.2) 180 then (if gj_in a10013.2 9 then some (.inr ((a10013.1 - ((Int32.toInt64 (σ.1 198 (Int32.toNatClampNeg ((0 : Int32) + a10013.2)))) * (Int32.toInt64 (σ.1 205 (Int32.toNatClampNeg a10013.2))))), (a10013.2 + 1))) else none) else none)) else none)
def fb_X9_proof_l51 (σ : gj_S) (a10051 : (Int64 × Int32)) : Option (Int64 ⊕ (Int64 × Int32)) := (if gj_in (0 : Int32) 2 then (if (σ.1 191 (Int32.toNatClampNeg (0 : Int32))) ≤ a10051.2 then some (.inl a10051.1) else ((f_X9_gainOf a10051.2 σ).bind fun x15102 => (if 0 ≤ x15102 then some (.inr ((a10051.1 + (0 : Int64)), (a10051.2 + 1))) else ((f_X9_gainOf a10051.2 σ).bind fun x15103 => (if gj_in ((24 : Int32) + a10051.2) 180 then some (.inr ((a10051.1 + ((Int32.toInt64 x15103) * (Int32.toInt64 (σ.1 198 (Int32.toNatClampNeg ((24 : Int32) + a10051.2)))))), (a10051.2 + 1))) else none))))) else none)
def f_X9_proof  (σ : gj_S) : Option (Int64 × gj_S) := ((f_X9_laysTree (gj_sI σ 188 (upd (σ.1 188) 0 (0 : Int32)))).bind fun x1 => ((gj_lp (fb_X9_proof_l13 x1) 5000 ((0 : Int64), (0 : Int32))).bind fun z2 => ((gj_lp (fb_X9_proof_l51 x1) 5000 (z2, (0 : Int32))).bind fun z3 => some (z3, x1))))
set_option maxHeartbeats 4000000 in
set_option maxRecDepth 100000 in
theorem sb_X9_proof_l13 {E : gj_E} {X : gj_X} {r : Option gj_V} {τ : gj_S} (hO : gj_O E X RX9 cX9_proof 4 (some .long) 2 48) {σ : gj_S} {a10013_0 : Int64} {a10013_1 : Int32} {x : Int64 ⊕ (Int64 × Int32)} (hf : fb_X9_proof_l13 σ (a10013_0, a10013_1) = some x) (K : gj_K (fun z2 => gj_G E X 4 r τ 49 [(0, gj_r 188), (1, gj_l z2)] [] σ) (fun a10013 => gj_G E X 4 r τ 13 [(0, gj_r 188), (1, gj_l a10013.1), (3, gj_i a10013.2)] [] σ) x) : gj_G E X 4 r τ 13 [(0, gj_r 188), (1, gj_l a10013_0), (3, gj_i a10013_1)] [] σ := by
  unfold fb_X9_proof_l13 at hf
  dsimp only at hf
  refine gj_iload_n hO 2 dX9_proof_13 rfl rfl ?_
  refine gj_aload_n hO 0 dX9_proof_14 rfl rfl ?_
  refine gt_X9_11 hO wk_691 dX9_proof_15 ?_
  refine gj_iconst (v := 0) hO dX9_proof_18 (by decide) ?_
  obtain ⟨hb11301, hf⟩ := gj_c hf
  refine gj_iald hO kl_190 kd_190 hb11301 dX9_proof_19 ?_
  refine gj_icmp_ge (tgt := 49) hO dX9_proof_20 (by decide) (fun h => ?_) (fun h => ?_)
  · replace hf := gj_t h hf
    obtain rfl := Option.some.inj hf
    refine gj_sub (lv2 := [(0, gj_r 188), (1, gj_l a10013_0)]) [0, 1] rfl ?_
    exact K
  · replace hf := gj_f h hf
    refine gj_lload_n hO 1 dX9_proof_23 rfl rfl ?_
    refine gj_aload_n hO 0 dX9_proof_24 rfl rfl ?_
    refine gt_X9_21 hO wk_725 dX9_proof_25 ?_
    refine gj_iconst (v := 0) hO dX9_proof_28 (by decide) ?_
    refine gj_iload_n hO 2 dX9_proof_29 rfl rfl ?_
    refine gj_iadd hO dX9_proof_30 ?_
    obtain ⟨hb11302, hf⟩ := gj_c hf
    refine gj_iald hO kl_198 kd_198 hb11302 dX9_proof_31 ?_
    refine gj_i2l hO dX9_proof_32 ?_
    refine gj_aload_n hO 0 dX9_proof_33 rfl rfl ?_
    refine gt_X9_29 hO wk_764 dX9_proof_34 ?_
    refine gj_iload_n hO 2 dX9_proof_37 rfl rfl ?_
    obtain ⟨hb11303, hf⟩ := gj_c hf
    refine gj_iald hO kl_205 kd_205 hb11303 dX9_proof_38 ?_
    refine gj_i2l hO dX9_proof_39 ?_
    refine gj_lmul hO dX9_proof_40 ?_
    refine gj_lsub hO dX9_proof_41 ?_
    refine gj_lstore_n (lv2 := [(1, gj_l (a10013_0 - ((Int32.toInt64 (σ.1 198 (Int32.toNatClampNeg ((0 : Int32) + a10013_1)))) * (Int32.toInt64 (σ.1 205 (Int32.toNatClampNeg a10013_1)))))), (0, gj_r 188), (3, gj_i a10013_1)]) hO dX9_proof_42 rfl (by decide) rfl ?_
    refine gj_iinc (v := (a10013_1 + 1)) (lv2 := [(3, gj_i (a10013_1 + 1)), (1, gj_l (a10013_0 - ((Int32.toInt64 (σ.1 198 (Int32.toNatClampNeg ((0 : Int32) + a10013_1)))) * (Int32.toInt64 (σ.1 205 (Int32.toNatClampNeg a10013_1)))))), (0, gj_r 188)]) hO 2 dX9_proof_43 rfl rfl (by decide) rfl ?_
    refine gj_goto (tgt := 13) hO dX9_proof_46 (by decide) ?_
    obtain rfl := Option.some.inj hf
    refine gj_sub (lv2 := [(0, gj_r 188), (1, gj_l (a10013_0 - ((Int32.toInt64 (σ.1 198 (Int32.toNatClampNeg ((0 : Int32) + a10013_1)))) * (Int32.toInt64 (σ.1 205 (Int32.toNatClampNeg a10013_1)))))), (3, gj_i (a10013_1 + 1))]) [2, 1, 0] rfl ?_
    exact K
set_option maxHeartbeats 4000000 in
set_option maxRecDepth 100000 in
theorem sb_X9_proof_l51 {E : gj_E} {X : gj_X} {r : Option gj_V} {τ : gj_S} (hO : gj_O E X RX9 cX9_proof 4 (some .long) 2 48) {σ : gj_S} {a10051_0 : Int64} {a10051_1 : Int32} {x : Int64 ⊕ (Int64 × Int32)} (hf : fb_X9_proof_l51 σ (a10051_0, a10051_1) = some x) (K : gj_K (fun z3 => gj_G E X 4 r τ 99 [(1, gj_l z3)] [] σ) (fun a10051 => gj_G E X 4 r τ 51 [(0, gj_r 188), (1, gj_l a10051.1), (3, gj_i a10051.2)] [] σ) x) : gj_G E X 4 r τ 51 [(0, gj_r 188), (1, gj_l a10051_0), (3, gj_i a10051_1)] [] σ := by
  unfold fb_X9_proof_l51 at hf
  dsimp only at hf
  refine gj_iload_n hO 2 dX9_proof_51 rfl rfl ?_
  refine gj_aload_n hO 0 dX9_proof_52 rfl rfl ?_
  refine gt_X9_12 hO wk_693 dX9_proof_53 ?_
  refine gj_iconst (v := 0) hO dX9_proof_56 (by decide) ?_
  obtain ⟨hb15101, hf⟩ := gj_c hf
  refine gj_iald hO kl_191 kd_191 hb15101 dX9_proof_57 ?_
  refine gj_icmp_ge (tgt := 99) hO dX9_proof_58 (by decide) (fun h => ?_) (fun h => ?_)
  · replace hf := gj_t h hf
    obtain rfl := Option.some.inj hf
    refine gj_sub (lv2 := [(1, gj_l a10051_0)]) [1] rfl ?_
    exact K
  · replace hf := gj_f h hf
    refine gj_lload_n hO 1 dX9_proof_61 rfl rfl ?_
    refine gj_aload_n hO 0 dX9_proof_62 rfl rfl ?_
    refine gj_iload_n hO 2 dX9_proof_63 rfl rfl ?_
    obtain ⟨x15102, hc15102, hf⟩ := gj_b hf
    refine ca_X9_gainOf hO kl_188  hc15102 wk_784 (by decide) (by decide) (Nat.le_of_ble_eq_true rfl) dX9_proof_64 ?_
    refine gj_if_ge (tgt := 90) hO dX9_proof_67 (by decide) (fun h => ?_) (fun h => ?_)
    · replace hf := gj_t h hf
      refine gj_lconst (v := 0) hO dX9_proof_90 (by decide) ?_
      refine gj_ladd hO dX9_proof_91 ?_
      refine gj_lstore_n (lv2 := [(1, gj_l (a10051_0 + (0 : Int64))), (0, gj_r 188), (3, gj_i a10051_1)]) hO dX9_proof_92 rfl (by decide) rfl ?_
      refine gj_iinc (v := (a10051_1 + 1)) (lv2 := [(3, gj_i (a10051_1 + 1)), (1, gj_l (a10051_0 + (0 : Int64))), (0, gj_r 188)]) hO 2 dX9_proof_93 rfl rfl (by decide) rfl ?_
      refine gj_goto (tgt := 51) hO dX9_proof_96 (by decide) ?_
      obtain rfl := Option.some.inj hf
      refine gj_sub (lv2 := [(0, gj_r 188), (1, gj_l (a10051_0 + (0 : Int64))), (3, gj_i (a10051_1 + 1))]) [2, 1, 0] rfl ?_
      exact K
    · replace hf := gj_f h hf
      refine gj_aload_n hO 0 dX9_proof_70 rfl rfl ?_
      refine gj_iload_n hO 2 dX9_proof_71 rfl rfl ?_
      obtain ⟨x15103, hc15103, hf⟩ := gj_b hf
      refine ca_X9_gainOf hO kl_188  hc15103 wk_784 (by decide) (by decide) (Nat.le_of_ble_eq_true rfl) dX9_proof_72 ?_
      refine gj_i2l hO dX9_proof_75 ?_
      refine gj_aload_n hO 0 dX9_proof_76 rfl rfl ?_
      refine gt_X9_21 hO wk_725 dX9_proof_77 ?_
      refine gj_bipush (v := 24) hO dX9_proof_80 (by decide) ?_
      refine gj_iload_n hO 2 dX9_proof_82 rfl rfl ?_
      refine gj_iadd hO dX9_proof_83 ?_
      obtain ⟨hb15104, hf⟩ := gj_c hf
      refine gj_iald hO kl_198 kd_198 hb15104 dX9_proof_84 ?_
      refine gj_i2l hO dX9_proof_85 ?_
      refine gj_lmul hO dX9_proof_86 ?_
      refine gj_goto (tgt := 91) hO dX9_proof_87 (by decide) ?_
      refine gj_ladd hO dX9_proof_91 ?_
      refine gj_lstore_n (lv2 := [(1, gj_l (a10051_0 + ((Int32.toInt64 x15103) * (Int32.toInt64 (σ.1 198 (Int32.toNatClampNeg ((24 : Int32) + a10051_1))))))), (0, gj_r 188), (3, gj_i a10051_1)]) hO dX9_proof_92 rfl (by decide) rfl ?_
      refine gj_iinc (v := (a10051_1 + 1)) (lv2 := [(3, gj_i (a10051_1 + 1)), (1, gj_l (a10051_0 + ((Int32.toInt64 x15103) * (Int32.toInt64 (σ.1 198 (Int32.toNatClampNeg ((24 : Int32) + a10051_1))))))), (0, gj_r 188)]) hO 2 dX9_proof_93 rfl rfl (by decide) rfl ?_
      refine gj_goto (tgt := 51) hO dX9_proof_96 (by decide) ?_
      obtain rfl := Option.some.inj hf
      refine gj_sub (lv2 := [(0, gj_r 188), (1, gj_l (a10051_0 + ((Int32.toInt64 x15103) * (Int32.toInt64 (σ.1 198 (Int32.toNatClampNeg ((24 : Int32) + a10051_1))))))), (3, gj_i (a10051_1 + 1))]) [2, 1, 0] rfl ?_
      exact K
set_option maxHeartbeats 4000000 in
set_option maxRecDepth 100000 in
theorem m_X9_proof {E : gj_E} {σ : gj_S}   {x : Int64} {y : gj_S} (hf : f_X9_proof  σ = some (x, y)) : gj_M E yX9_proof cX9_proof 4 (some .long) 2 48 [gj_r 188] σ (some (gj_l x)) y := by
  refine gj_body (lv := [(0, gj_r 188)]) (by decide +kernel) (Nat.le_of_ble_eq_true rfl) rfl (fun X hO => ?_)
  replace hO : gj_O E X RX9 cX9_proof 4 (some .long) 2 48 := hO
  unfold f_X9_proof at hf
  refine gj_aload_n hO 0 dX9_proof_0 rfl rfl ?_
  refine gj_iconst (v := 0) hO dX9_proof_1 (by decide) ?_
  refine pt_X9_0 hO wk_636 dX9_proof_2 ?_
  refine gj_aload_n hO 0 dX9_proof_5 rfl rfl ?_
  obtain ⟨x1, hc1, hf⟩ := gj_b hf
  refine ca_X9_laysTree hO kl_188  hc1 wk_792 (by decide) (by decide) (Nat.le_of_ble_eq_true rfl) dX9_proof_6 ?_
  refine gj_lconst (v := 0) hO dX9_proof_9 (by decide) ?_
  refine gj_lstore_n (lv2 := [(1, gj_l (0 : Int64)), (0, gj_r 188)]) hO dX9_proof_10 rfl (by decide) rfl ?_
  refine gj_iconst (v := 0) hO dX9_proof_11 (by decide) ?_
  refine gj_istore_n (lv2 := [(3, gj_i (0 : Int32)), (1, gj_l (0 : Int64)), (0, gj_r 188)]) hO dX9_proof_12 rfl (by decide) rfl ?_
  obtain ⟨z2, hz2, hf⟩ := gj_b hf
  have J2 : gj_G E X 4 (some (gj_l x)) y 49 [(0, gj_r 188), (1, gj_l z2)] [] x1 := by
    refine gj_iconst (v := 0) hO dX9_proof_49 (by decide) ?_
    refine gj_istore_n (lv2 := [(3, gj_i (0 : Int32)), (0, gj_r 188), (1, gj_l z2)]) hO dX9_proof_50 rfl (by decide) rfl ?_
    obtain ⟨z3, hz3, hf⟩ := gj_b hf
    have J3 : gj_G E X 4 (some (gj_l x)) y 99 [(1, gj_l z3)] [] x1 := by
      refine gj_lload_n hO 0 dX9_proof_99 rfl rfl ?_
      replace hf := Option.some.inj hf
      simp only [Prod.mk.injEq] at hf
      obtain ⟨rfl, rfl⟩ := hf
      exact gj_lret hO dX9_proof_100
    refine gj_sub (lv2 := [(0, gj_r 188), (1, gj_l z2), (3, gj_i (0 : Int32))]) [1, 2, 0] rfl ?_
    exact gj_loop (head := fun a10051 => gj_G E X 4 (some (gj_l x)) y 51 [(0, gj_r 188), (1, gj_l a10051.1), (3, gj_i a10051.2)] [] x1) (exit := fun z3 => gj_G E X 4 (some (gj_l x)) y 99 [(1, gj_l z3)] [] x1) (fun a10051 x hf K => by obtain ⟨a10051_0, a10051_1⟩ := a10051; exact sb_X9_proof_l51 hO hf K) _ _ _ hz3 J3
  refine gj_sub (lv2 := [(0, gj_r 188), (1, gj_l (0 : Int64)), (3, gj_i (0 : Int32))]) [2, 1, 0] rfl ?_
  exact gj_loop (head := fun a10013 => gj_G E X 4 (some (gj_l x)) y 13 [(0, gj_r 188), (1, gj_l a10013.1), (3, gj_i a10013.2)] [] x1) (exit := fun z2 => gj_G E X 4 (some (gj_l x)) y 49 [(0, gj_r 188), (1, gj_l z2)] [] x1) (fun a10013 x hf K => by obtain ⟨a10013_0, a10013_1⟩ := a10013; exact sb_X9_proof_l13 hO hf K) _ _ _ hz2 J2
set_option maxHeartbeats 4000000 in
set_option maxRecDepth 100000 in
theorem ca_X9_proof {E : gj_E} {X : gj_X} {own : String} {cc : ByteArray} {nL : Nat} {rt : Option FieldType} {fr lo : Nat} {ce sl : Nat} {Q : State → Prop} {pc : Nat} {lv : List (Nat × gj_V)} {st : List gj_V} {σ : gj_S} (hO : gj_O E X own cc nL rt fr lo) (hw : gj_lt own 188)   {idx : Nat} {x : Int64} {y : gj_S} (hf : f_X9_proof  σ = some (x, y)) (hl : Cond.methodLink own idx yX9_proof ∈ gj_gw) (hf1 : 3 ≤ fr) (hf2 : 71 ≤ lo) (hcat : ((st.map (gj_tv E.2.1)).map fun v => v.category).sum ≤ 8) (hd : decode cc pc = .ok (.invokevirtual idx, 3)) (k : gj_H E X nL ce sl Q (pc + 3) lv ((gj_l x) :: st) y) : gj_H E X nL ce sl Q pc lv (gj_r 188 :: st) σ :=
  gj_callV hO (o := 188) (vs := []) (m_X9_proof  hf) (gj_I9 hw) hl wk_916 wk_917 wk_629 wk_918 hw kd_188 (by decide) (ci := 9) rfl (n := 0) (by decide +kernel) rfl hf1 hf2 rfl hcat hd k
def fb_X9_allLack_l4 (σ : gj_S) (a10004 : (Int32 × Int32)) : Option (Int32 ⊕ (Int32 × Int32)) := (if gj_in (0 : Int32) 2 then (if (σ.1 190 (Int32.toNatClampNeg (0 : Int32))) ≤ a10004.2 then some (.inl a10004.1) else ((f_X9_lackOf a10004.2 σ).bind fun x10402 => some (.inr ((a10004.1 + x10402), (a10004.2 + 1))))) else none)
def f_X9_allLack  (σ : gj_S) : Option Int32 := ((gj_lp (fb_X9_allLack_l4 σ) 5000 ((0 : Int32), (0 : Int32))).bind fun z1 => some z1)
set_option maxHeartbeats 4000000 in
set_option maxRecDepth 100000 in
theorem sb_X9_allLack_l4 {E : gj_E} {X : gj_X} {r : Option gj_V} {τ : gj_S} (hO : gj_O E X RX9 cX9_allLack 3 (some .int) 1 21) {σ : gj_S} {a10004_0 : Int32} {a10004_1 : Int32} {x : Int32 ⊕ (Int32 × Int32)} (hf : fb_X9_allLack_l4 σ (a10004_0, a10004_1) = some x) (K : gj_K (fun z1 => gj_G E X 3 r τ 28 [(1, gj_i z1)] [] σ) (fun a10004 => gj_G E X 3 r τ 4 [(0, gj_r 188), (1, gj_i a10004.1), (2, gj_i a10004.2)] [] σ) x) : gj_G E X 3 r τ 4 [(0, gj_r 188), (1, gj_i a10004_0), (2, gj_i a10004_1)] [] σ := by
  unfold fb_X9_allLack_l4 at hf
  dsimp only at hf
  refine gj_iload_n hO 2 dX9_allLack_4 rfl rfl ?_
  refine gj_aload_n hO 0 dX9_allLack_5 rfl rfl ?_
  refine gt_X9_11 hO wk_691 dX9_allLack_6 ?_
  refine gj_iconst (v := 0) hO dX9_allLack_9 (by decide) ?_
  obtain ⟨hb10401, hf⟩ := gj_c hf
  refine gj_iald hO kl_190 kd_190 hb10401 dX9_allLack_10 ?_
  refine gj_icmp_ge (tgt := 28) hO dX9_allLack_11 (by decide) (fun h => ?_) (fun h => ?_)
  · replace hf := gj_t h hf
    obtain rfl := Option.some.inj hf
    refine gj_sub (lv2 := [(1, gj_i a10004_0)]) [1] rfl ?_
    exact K
  · replace hf := gj_f h hf
    refine gj_iload_n hO 1 dX9_allLack_14 rfl rfl ?_
    refine gj_aload_n hO 0 dX9_allLack_15 rfl rfl ?_
    refine gj_iload_n hO 2 dX9_allLack_16 rfl rfl ?_
    obtain ⟨x10402, hc10402, hf⟩ := gj_b hf
    refine ca_X9_lackOf hO kl_188  hc10402 wk_810 (by decide) (by decide) (Nat.le_of_ble_eq_true rfl) dX9_allLack_17 ?_
    refine gj_iadd hO dX9_allLack_20 ?_
    refine gj_istore_n (lv2 := [(1, gj_i (a10004_0 + x10402)), (0, gj_r 188), (2, gj_i a10004_1)]) hO dX9_allLack_21 rfl (by decide) rfl ?_
    refine gj_iinc (v := (a10004_1 + 1)) (lv2 := [(2, gj_i (a10004_1 + 1)), (1, gj_i (a10004_0 + x10402)), (0, gj_r 188)]) hO 2 dX9_allLack_22 rfl rfl (by decide) rfl ?_
    refine gj_goto (tgt := 4) hO dX9_allLack_25 (by decide) ?_
    obtain rfl := Option.some.inj hf
    refine gj_sub (lv2 := [(0, gj_r 188), (1, gj_i (a10004_0 + x10402)), (2, gj_i (a10004_1 + 1))]) [2, 1, 0] rfl ?_
    exact K
set_option maxHeartbeats 4000000 in
set_option maxRecDepth 100000 in
theorem m_X9_allLack {E : gj_E} {σ : gj_S}   {x : Int32} (hf : f_X9_allLack  σ = some x) : gj_M E yX9_allLack cX9_allLack 3 (some .int) 1 21 [gj_r 188] σ (some (gj_i x)) σ := by
  refine gj_body (lv := [(0, gj_r 188)]) (by decide +kernel) (Nat.le_of_ble_eq_true rfl) rfl (fun X hO => ?_)
  replace hO : gj_O E X RX9 cX9_allLack 3 (some .int) 1 21 := hO
  unfold f_X9_allLack at hf
  refine gj_iconst (v := 0) hO dX9_allLack_0 (by decide) ?_
  refine gj_istore_n (lv2 := [(1, gj_i (0 : Int32)), (0, gj_r 188)]) hO dX9_allLack_1 rfl (by decide) rfl ?_
  refine gj_iconst (v := 0) hO dX9_allLack_2 (by decide) ?_
  refine gj_istore_n (lv2 := [(2, gj_i (0 : Int32)), (1, gj_i (0 : Int32)), (0, gj_r 188)]) hO dX9_allLack_3 rfl (by decide) rfl ?_
  obtain ⟨z1, hz1, hf⟩ := gj_b hf
  have J1 : gj_G E X 3 (some (gj_i x)) σ 28 [(1, gj_i z1)] [] σ := by
    refine gj_iload_n hO 0 dX9_allLack_28 rfl rfl ?_
    obtain rfl := Option.some.inj hf
    exact gj_iret hO dX9_allLack_29
  refine gj_sub (lv2 := [(0, gj_r 188), (1, gj_i (0 : Int32)), (2, gj_i (0 : Int32))]) [2, 1, 0] rfl ?_
  exact gj_loop (head := fun a10004 => gj_G E X 3 (some (gj_i x)) σ 4 [(0, gj_r 188), (1, gj_i a10004.1), (2, gj_i a10004.2)] [] σ) (exit := fun z1 => gj_G E X 3 (some (gj_i x)) σ 28 [(1, gj_i z1)] [] σ) (fun a10004 x hf K => by obtain ⟨a10004_0, a10004_1⟩ := a10004; exact sb_X9_allLack_l4 hO hf K) _ _ _ hz1 J1
set_option maxHeartbeats 4000000 in
set_option maxRecDepth 100000 in
theorem ca_X9_allLack {E : gj_E} {X : gj_X} {own : String} {cc : ByteArray} {nL : Nat} {rt : Option FieldType} {fr lo : Nat} {ce sl : Nat} {Q : State → Prop} {pc : Nat} {lv : List (Nat × gj_V)} {st : List gj_V} {σ : gj_S} (hO : gj_O E X own cc nL rt fr lo) (hw : gj_lt own 188)   {idx : Nat} {x : Int32} (hf : f_X9_allLack  σ = some x) (hl : Cond.methodLink own idx yX9_allLack ∈ gj_gw) (hf1 : 2 ≤ fr) (hf2 : 43 ≤ lo) (hcat : ((st.map (gj_tv E.2.1)).map fun v => v.category).sum ≤ 8) (hd : decode cc pc = .ok (.invokevirtual idx, 3)) (k : gj_H E X nL ce sl Q (pc + 3) lv ((gj_i x) :: st) σ) : gj_H E X nL ce sl Q pc lv (gj_r 188 :: st) σ :=
  gj_callV hO (o := 188) (vs := []) (m_X9_allLack  hf) (gj_I9 hw) hl wk_919 wk_920 wk_629 wk_921 hw kd_188 (by decide) (ci := 9) rfl (n := 0) (by decide +kernel) rfl hf1 hf2 rfl hcat hd k
