def f_X9_cost  (σ : gj_S) : Option (Int32 × gj_S) := ((f_X9_costNow (gj_sI σ 188 (upd (σ.1 188) 0 (0 : Int32)))).bind fun x1 => some (x1, (gj_sI σ 188 (upd (σ.1 188) 0 (0 : Int32)))))
set_option maxHeartbeats 4000000 in
set_option maxRecDepth 100000 in
theorem m_X9_cost {E : gj_E} {σ : gj_S}   {x : (Int32 × gj_S)} (hf : f_X9_cost  σ = some x) : gj_M E yX9_cost cX9_cost 1 (some .int) 1 22 [gj_r 188] σ (some (gj_i x.1)) x.2 := by
  refine gj_body (lv := [(0, gj_r 188)]) (by decide +kernel) (Nat.le_of_ble_eq_true rfl) rfl (fun X hO => ?_)
  replace hO : gj_O E X RX9 cX9_cost 1 (some .int) 1 22 := hO
  unfold f_X9_cost at hf
  refine gj_aload_n hO 0 dX9_cost_0 rfl rfl ?_
  refine gj_iconst (v := 0) hO dX9_cost_1 (by decide) ?_
  refine pt_X9_0 hO wk_604 dX9_cost_2 ?_
  refine gj_aload_n hO 0 dX9_cost_5 rfl rfl ?_
  obtain ⟨x1, hc1, hf⟩ := gj_b hf
  refine ca_X9_costNow hO  hc1 wk_881 (by decide) (by decide) (Nat.le_of_ble_eq_true rfl) dX9_cost_6 ?_
  obtain rfl := Option.some.inj hf
  exact gj_iret hO dX9_cost_9
set_option maxHeartbeats 4000000 in
set_option maxRecDepth 100000 in
theorem ca_X9_cost {E : gj_E} {X : gj_X} {own : String} {cc : ByteArray} {nL : Nat} {rt : Option FieldType} {fr lo : Nat} {r : Option gj_V} {τ : gj_S} {pc : Nat} {lv : List (Nat × gj_V)} {st : List gj_V} {σ : gj_S} (hO : gj_O E X own cc nL rt fr lo)   {idx : Nat} {x : (Int32 × gj_S)} (hf : f_X9_cost  σ = some x) (hl : Cond.methodLink own idx yX9_cost ∈ gj_gw) (hf1 : 2 ≤ fr) (hf2 : 42 ≤ lo) (hcat : ((st.map (gj_tv E.2.1)).map fun v => v.category).sum ≤ 8) (hd : decode cc pc = .ok (.invokevirtual idx, 3)) (k : gj_G E X nL r τ (pc + 3) lv ((gj_i x.1) :: st) x.2) : gj_G E X nL r τ pc lv (gj_r 188 :: st) σ :=
  gj_callV hO (o := 188) (vs := []) (m_X9_cost  hf) hl wk_882 wk_883 wk_607 wk_884 kl_188 kd_188 (by decide) (ci := 9) rfl (n := 0) (by decide +kernel) rfl hf1 hf2 rfl hcat hd k
def f_X9_bill (b1 : Int32) (b2 : Int32) (σ : gj_S) : Option (Int32 × gj_S) := ((f_X9_costNow (gj_sI σ 188 (upd (σ.1 188) 0 (0 : Int32)))).bind fun x1 => ((f_X9_within (((Int32.toInt64 x1) * (Int32.toInt64 b1)) + (Int32.toInt64 b2)) (-2147483648 : Int64) (2147483647 : Int64)).bind fun x2 => (if x2 = 0 then some ((-2147483648 : Int32), (gj_sI σ 188 (upd (σ.1 188) 0 (0 : Int32)))) else some ((Int64.toInt32 (((Int32.toInt64 x1) * (Int32.toInt64 b1)) + (Int32.toInt64 b2))), (gj_sI σ 188 (upd (σ.1 188) 0 (0 : Int32)))))))
set_option maxHeartbeats 4000000 in
set_option maxRecDepth 100000 in
theorem m_X9_bill {E : gj_E} {σ : gj_S} {b1 : Int32} {b2 : Int32}  {x : (Int32 × gj_S)} (hf : f_X9_bill b1 b2 σ = some x) : gj_M E yX9_bill cX9_bill 5 (some .int) 1 25 [gj_r 188, gj_i b1, gj_i b2] σ (some (gj_i x.1)) x.2 := by
  refine gj_body (lv := [(0, gj_r 188), (1, gj_i b1), (2, gj_i b2)]) (by decide +kernel) (Nat.le_of_ble_eq_true rfl) rfl (fun X hO => ?_)
  replace hO : gj_O E X RX9 cX9_bill 5 (some .int) 1 25 := hO
  unfold f_X9_bill at hf
  refine gj_aload_n hO 0 dX9_bill_0 rfl rfl ?_
  refine gj_iconst (v := 0) hO dX9_bill_1 (by decide) ?_
  refine pt_X9_0 hO wk_604 dX9_bill_2 ?_
  refine gj_aload_n hO 0 dX9_bill_5 rfl rfl ?_
  obtain ⟨x1, hc1, hf⟩ := gj_b hf
  refine ca_X9_costNow hO  hc1 wk_881 (by decide) (by decide) (Nat.le_of_ble_eq_true rfl) dX9_bill_6 ?_
  refine gj_i2l hO dX9_bill_9 ?_
  refine gj_iload_n hO 1 dX9_bill_10 rfl rfl ?_
  refine gj_i2l hO dX9_bill_11 ?_
  refine gj_lmul hO dX9_bill_12 ?_
  refine gj_iload_n hO 2 dX9_bill_13 rfl rfl ?_
  refine gj_i2l hO dX9_bill_14 ?_
  refine gj_ladd hO dX9_bill_15 ?_
  refine gj_lstore_n (lv2 := [(3, gj_l (((Int32.toInt64 x1) * (Int32.toInt64 b1)) + (Int32.toInt64 b2))), (0, gj_r 188), (1, gj_i b1), (2, gj_i b2)]) hO dX9_bill_16 rfl (by decide) rfl ?_
  refine gj_lload_n hO 0 dX9_bill_17 rfl rfl ?_
  refine gj_ldc2 hO wk_885 dX9_bill_18 ?_
  refine gj_ldc2 hO wk_886 dX9_bill_21 ?_
  obtain ⟨x2, hc2, hf⟩ := gj_b hf
  refine ca_X9_within hO  hc2 wk_632 (by decide) (by decide) (Nat.le_of_ble_eq_true rfl) dX9_bill_24 ?_
  refine gj_if_eq (tgt := 35) hO dX9_bill_27 (by decide) (fun h => ?_) (fun h => ?_)
  · replace hf := gj_t h hf
    refine gj_ldcw hO wk_887 dX9_bill_35 ?_
    obtain rfl := Option.some.inj hf
    exact gj_iret hO dX9_bill_38
  · replace hf := gj_f h hf
    refine gj_lload_n hO 0 dX9_bill_30 rfl rfl ?_
    refine gj_l2i hO dX9_bill_31 ?_
    refine gj_goto (tgt := 38) hO dX9_bill_32 (by decide) ?_
    obtain rfl := Option.some.inj hf
    exact gj_iret hO dX9_bill_38
set_option maxHeartbeats 4000000 in
set_option maxRecDepth 100000 in
theorem ca_X9_bill {E : gj_E} {X : gj_X} {own : String} {cc : ByteArray} {nL : Nat} {rt : Option FieldType} {fr lo : Nat} {r : Option gj_V} {τ : gj_S} {pc : Nat} {lv : List (Nat × gj_V)} {st : List gj_V} {σ : gj_S} (hO : gj_O E X own cc nL rt fr lo) {b1 : Int32} {b2 : Int32}  {idx : Nat} {x : (Int32 × gj_S)} (hf : f_X9_bill b1 b2 σ = some x) (hl : Cond.methodLink own idx yX9_bill ∈ gj_gw) (hf1 : 2 ≤ fr) (hf2 : 49 ≤ lo) (hcat : ((st.map (gj_tv E.2.1)).map fun v => v.category).sum ≤ 8) (hd : decode cc pc = .ok (.invokevirtual idx, 3)) (k : gj_G E X nL r τ (pc + 3) lv ((gj_i x.1) :: st) x.2) : gj_G E X nL r τ pc lv (gj_i b2 :: gj_i b1 :: gj_r 188 :: st) σ :=
  gj_callV hO (o := 188) (vs := [gj_i b1, gj_i b2]) (m_X9_bill  hf) hl wk_888 wk_889 wk_607 wk_890 kl_188 kd_188 (by decide) (ci := 9) rfl (n := 2) (by decide +kernel) rfl hf1 hf2 rfl hcat hd k
def fb_X9_total_l13 (σ : gj_S) (a2 : (Int64 × Int32)) : Option (Int64 ⊕ (Int64 × Int32)) := (if gj_in (0 : Int32) 2 then (if (σ.1 190 (Int32.toNatClampNeg (0 : Int32))) ≤ a2.2 then some (.inl a2.1) else (if gj_in (0 : Int32) 2 then (if gj_in (((50 : Int32) + (σ.1 191 (Int32.toNatClampNeg (0 : Int32)))) + a2.2) 180 then some (.inr ((a2.1 + ((10000 : Int64) * (Int32.toInt64 (σ.1 198 (Int32.toNatClampNeg (((50 : Int32) + (σ.1 191 (Int32.toNatClampNeg (0 : Int32)))) + a2.2)))))), (a2.2 + 1))) else none) else none)) else none)
def f_X9_total  (σ : gj_S) : Option (Int64 × gj_S) := ((f_X9_costNow (gj_sI σ 188 (upd (σ.1 188) 0 (0 : Int32)))).bind fun x1 => ((gj_lp (fb_X9_total_l13 (gj_sI σ 188 (upd (σ.1 188) 0 (0 : Int32)))) 5000 ((Int32.toInt64 x1), (0 : Int32))).bind fun z2 => some (z2, (gj_sI σ 188 (upd (σ.1 188) 0 (0 : Int32))))))
set_option maxHeartbeats 4000000 in
set_option maxRecDepth 100000 in
theorem sb_X9_total_l13 {E : gj_E} {X : gj_X} {r : Option gj_V} {τ : gj_S} (hO : gj_O E X RX9 cX9_total 4 (some .long) 1 22) {σ : gj_S} {a2 : (Int64 × Int32)} {x : Int64 ⊕ (Int64 × Int32)} (hf : fb_X9_total_l13 σ a2 = some x) (K : gj_K (fun z2 => gj_G E X 4 r τ 53 [(1, gj_l z2)] [] σ) (fun a2 => gj_G E X 4 r τ 13 [(0, gj_r 188), (1, gj_l a2.1), (3, gj_i a2.2)] [] σ) x) : gj_G E X 4 r τ 13 [(0, gj_r 188), (1, gj_l a2.1), (3, gj_i a2.2)] [] σ := by
  unfold fb_X9_total_l13 at hf
  refine gj_iload_n hO 2 dX9_total_13 rfl rfl ?_
  refine gj_aload_n hO 0 dX9_total_14 rfl rfl ?_
  refine gt_X9_11 hO wk_670 dX9_total_15 ?_
  refine gj_iconst (v := 0) hO dX9_total_18 (by decide) ?_
  obtain ⟨hb4, hf⟩ := gj_c hf
  refine gj_iald hO kl_190 kd_190 hb4 dX9_total_19 ?_
  refine gj_icmp_ge (tgt := 53) hO dX9_total_20 (by decide) (fun h => ?_) (fun h => ?_)
  · replace hf := gj_t h hf
    obtain rfl := Option.some.inj hf
    refine gj_sub [1] rfl ?_
    exact K
  · replace hf := gj_f h hf
    refine gj_lload_n hO 1 dX9_total_23 rfl rfl ?_
    refine gj_ldc2 hO wk_891 dX9_total_24 ?_
    refine gj_aload_n hO 0 dX9_total_27 rfl rfl ?_
    refine gt_X9_21 hO wk_704 dX9_total_28 ?_
    refine gj_bipush (v := 50) hO dX9_total_31 (by decide) ?_
    refine gj_aload_n hO 0 dX9_total_33 rfl rfl ?_
    refine gt_X9_12 hO wk_672 dX9_total_34 ?_
    refine gj_iconst (v := 0) hO dX9_total_37 (by decide) ?_
    obtain ⟨hb5, hf⟩ := gj_c hf
    refine gj_iald hO kl_191 kd_191 hb5 dX9_total_38 ?_
    refine gj_iadd hO dX9_total_39 ?_
    refine gj_iload_n hO 2 dX9_total_40 rfl rfl ?_
    refine gj_iadd hO dX9_total_41 ?_
    obtain ⟨hb6, hf⟩ := gj_c hf
    refine gj_iald hO kl_198 kd_198 hb6 dX9_total_42 ?_
    refine gj_i2l hO dX9_total_43 ?_
    refine gj_lmul hO dX9_total_44 ?_
    refine gj_ladd hO dX9_total_45 ?_
    refine gj_lstore_n (lv2 := [(1, gj_l (a2.1 + ((10000 : Int64) * (Int32.toInt64 (σ.1 198 (Int32.toNatClampNeg (((50 : Int32) + (σ.1 191 (Int32.toNatClampNeg (0 : Int32)))) + a2.2))))))), (0, gj_r 188), (3, gj_i a2.2)]) hO dX9_total_46 rfl (by decide) rfl ?_
    refine gj_iinc (v := (a2.2 + 1)) (lv2 := [(3, gj_i (a2.2 + 1)), (1, gj_l (a2.1 + ((10000 : Int64) * (Int32.toInt64 (σ.1 198 (Int32.toNatClampNeg (((50 : Int32) + (σ.1 191 (Int32.toNatClampNeg (0 : Int32)))) + a2.2))))))), (0, gj_r 188)]) hO 2 dX9_total_47 rfl rfl (by decide) rfl ?_
    refine gj_goto (tgt := 13) hO dX9_total_50 (by decide) ?_
    obtain rfl := Option.some.inj hf
    refine gj_sub [2, 1, 0] rfl ?_
    exact K
set_option maxHeartbeats 4000000 in
set_option maxRecDepth 100000 in
theorem m_X9_total {E : gj_E} {σ : gj_S}   {x : (Int64 × gj_S)} (hf : f_X9_total  σ = some x) : gj_M E yX9_total cX9_total 4 (some .long) 1 22 [gj_r 188] σ (some (gj_l x.1)) x.2 := by
  refine gj_body (lv := [(0, gj_r 188)]) (by decide +kernel) (Nat.le_of_ble_eq_true rfl) rfl (fun X hO => ?_)
  replace hO : gj_O E X RX9 cX9_total 4 (some .long) 1 22 := hO
  unfold f_X9_total at hf
  refine gj_aload_n hO 0 dX9_total_0 rfl rfl ?_
  refine gj_iconst (v := 0) hO dX9_total_1 (by decide) ?_
  refine pt_X9_0 hO wk_604 dX9_total_2 ?_
  refine gj_aload_n hO 0 dX9_total_5 rfl rfl ?_
  obtain ⟨x1, hc1, hf⟩ := gj_b hf
  refine ca_X9_costNow hO  hc1 wk_881 (by decide) (by decide) (Nat.le_of_ble_eq_true rfl) dX9_total_6 ?_
  refine gj_i2l hO dX9_total_9 ?_
  refine gj_lstore_n (lv2 := [(1, gj_l (Int32.toInt64 x1)), (0, gj_r 188)]) hO dX9_total_10 rfl (by decide) rfl ?_
  refine gj_iconst (v := 0) hO dX9_total_11 (by decide) ?_
  refine gj_istore_n (lv2 := [(3, gj_i (0 : Int32)), (1, gj_l (Int32.toInt64 x1)), (0, gj_r 188)]) hO dX9_total_12 rfl (by decide) rfl ?_
  obtain ⟨z2, hz2, hf⟩ := gj_b hf
  have J2 : gj_G E X 4 (some (gj_l x.1)) x.2 53 [(1, gj_l z2)] [] (gj_sI σ 188 (upd (σ.1 188) 0 (0 : Int32))) := by
    refine gj_lload_n hO 0 dX9_total_53 rfl rfl ?_
    obtain rfl := Option.some.inj hf
    exact gj_lret hO dX9_total_54
  refine gj_sub [2, 1, 0] rfl ?_
  exact gj_loop (head := fun a2 => gj_G E X 4 (some (gj_l x.1)) x.2 13 [(0, gj_r 188), (1, gj_l a2.1), (3, gj_i a2.2)] [] (gj_sI σ 188 (upd (σ.1 188) 0 (0 : Int32)))) (exit := fun z2 => gj_G E X 4 (some (gj_l x.1)) x.2 53 [(1, gj_l z2)] [] (gj_sI σ 188 (upd (σ.1 188) 0 (0 : Int32)))) (fun a2 x hf K => sb_X9_total_l13 hO hf K) _ _ _ hz2 J2
set_option maxHeartbeats 4000000 in
set_option maxRecDepth 100000 in
theorem ca_X9_total {E : gj_E} {X : gj_X} {own : String} {cc : ByteArray} {nL : Nat} {rt : Option FieldType} {fr lo : Nat} {r : Option gj_V} {τ : gj_S} {pc : Nat} {lv : List (Nat × gj_V)} {st : List gj_V} {σ : gj_S} (hO : gj_O E X own cc nL rt fr lo)   {idx : Nat} {x : (Int64 × gj_S)} (hf : f_X9_total  σ = some x) (hl : Cond.methodLink own idx yX9_total ∈ gj_gw) (hf1 : 2 ≤ fr) (hf2 : 45 ≤ lo) (hcat : ((st.map (gj_tv E.2.1)).map fun v => v.category).sum ≤ 8) (hd : decode cc pc = .ok (.invokevirtual idx, 3)) (k : gj_G E X nL r τ (pc + 3) lv ((gj_l x.1) :: st) x.2) : gj_G E X nL r τ pc lv (gj_r 188 :: st) σ :=
  gj_callV hO (o := 188) (vs := []) (m_X9_total  hf) hl wk_892 wk_893 wk_607 wk_894 kl_188 kd_188 (by decide) (ci := 9) rfl (n := 0) (by decide +kernel) rfl hf1 hf2 rfl hcat hd k
def fb_X9_proof_l13 (σ : gj_S) (a2 : (Int64 × Int32)) : Option (Int64 ⊕ (Int64 × Int32)) := (if gj_in (0 : Int32) 2 then (if (σ.1 190 (Int32.toNatClampNeg (0 : Int32))) ≤ a2.2 then some (.inl a2.1) else (if gj_in ((0 : Int32) + a2.2) 180 then (if gj_in a2.2 9 then some (.inr ((a2.1 - ((Int32.toInt64 (σ.1 198 (Int32.toNatClampNeg ((0 : Int32) + a2.2)))) * (Int32.toInt64 (σ.1 205 (Int32.toNatClampNeg a2.2))))), (a2.2 + 1))) else none) else none)) else none)
def fb_X9_proof_l51 (σ : gj_S) (a7 : (Int64 × Int32)) : Option (Int64 ⊕ (Int64 × Int32)) := (if gj_in (0 : Int32) 2 then (if (σ.1 191 (Int32.toNatClampNeg (0 : Int32))) ≤ a7.2 then some (.inl a7.1) else ((f_X9_gainOf a7.2 σ).bind fun x10 => (if 0 ≤ x10 then some (.inr ((a7.1 + (0 : Int64)), (a7.2 + 1))) else ((f_X9_gainOf a7.2 σ).bind fun x11 => (if gj_in ((24 : Int32) + a7.2) 180 then some (.inr ((a7.1 + ((Int32.toInt64 x11) * (Int32.toInt64 (σ.1 198 (Int32.toNatClampNeg ((24 : Int32) + a7.2)))))), (a7.2 + 1))) else none))))) else none)
def f_X9_proof  (σ : gj_S) : Option (Int64 × gj_S) := ((f_X9_laysTree (gj_sI σ 188 (upd (σ.1 188) 0 (0 : Int32)))).bind fun x1 => ((gj_lp (fb_X9_proof_l13 x1) 5000 ((0 : Int64), (0 : Int32))).bind fun z2 => ((gj_lp (fb_X9_proof_l51 x1) 5000 (z2, (0 : Int32))).bind fun z7 => some (z7, x1))))
set_option maxHeartbeats 4000000 in
set_option maxRecDepth 100000 in
theorem sb_X9_proof_l13 {E : gj_E} {X : gj_X} {r : Option gj_V} {τ : gj_S} (hO : gj_O E X RX9 cX9_proof 4 (some .long) 2 48) {σ : gj_S} {a2 : (Int64 × Int32)} {x : Int64 ⊕ (Int64 × Int32)} (hf : fb_X9_proof_l13 σ a2 = some x) (K : gj_K (fun z2 => gj_G E X 4 r τ 49 [(0, gj_r 188), (1, gj_l z2)] [] σ) (fun a2 => gj_G E X 4 r τ 13 [(0, gj_r 188), (1, gj_l a2.1), (3, gj_i a2.2)] [] σ) x) : gj_G E X 4 r τ 13 [(0, gj_r 188), (1, gj_l a2.1), (3, gj_i a2.2)] [] σ := by
  unfold fb_X9_proof_l13 at hf
  refine gj_iload_n hO 2 dX9_proof_13 rfl rfl ?_
  refine gj_aload_n hO 0 dX9_proof_14 rfl rfl ?_
  refine gt_X9_11 hO wk_670 dX9_proof_15 ?_
  refine gj_iconst (v := 0) hO dX9_proof_18 (by decide) ?_
  obtain ⟨hb4, hf⟩ := gj_c hf
  refine gj_iald hO kl_190 kd_190 hb4 dX9_proof_19 ?_
  refine gj_icmp_ge (tgt := 49) hO dX9_proof_20 (by decide) (fun h => ?_) (fun h => ?_)
  · replace hf := gj_t h hf
    obtain rfl := Option.some.inj hf
    refine gj_sub [0, 1] rfl ?_
    exact K
  · replace hf := gj_f h hf
    refine gj_lload_n hO 1 dX9_proof_23 rfl rfl ?_
    refine gj_aload_n hO 0 dX9_proof_24 rfl rfl ?_
    refine gt_X9_21 hO wk_704 dX9_proof_25 ?_
    refine gj_iconst (v := 0) hO dX9_proof_28 (by decide) ?_
    refine gj_iload_n hO 2 dX9_proof_29 rfl rfl ?_
    refine gj_iadd hO dX9_proof_30 ?_
    obtain ⟨hb5, hf⟩ := gj_c hf
    refine gj_iald hO kl_198 kd_198 hb5 dX9_proof_31 ?_
    refine gj_i2l hO dX9_proof_32 ?_
    refine gj_aload_n hO 0 dX9_proof_33 rfl rfl ?_
    refine gt_X9_29 hO wk_743 dX9_proof_34 ?_
    refine gj_iload_n hO 2 dX9_proof_37 rfl rfl ?_
    obtain ⟨hb6, hf⟩ := gj_c hf
    refine gj_iald hO kl_205 kd_205 hb6 dX9_proof_38 ?_
    refine gj_i2l hO dX9_proof_39 ?_
    refine gj_lmul hO dX9_proof_40 ?_
    refine gj_lsub hO dX9_proof_41 ?_
    refine gj_lstore_n (lv2 := [(1, gj_l (a2.1 - ((Int32.toInt64 (σ.1 198 (Int32.toNatClampNeg ((0 : Int32) + a2.2)))) * (Int32.toInt64 (σ.1 205 (Int32.toNatClampNeg a2.2)))))), (0, gj_r 188), (3, gj_i a2.2)]) hO dX9_proof_42 rfl (by decide) rfl ?_
    refine gj_iinc (v := (a2.2 + 1)) (lv2 := [(3, gj_i (a2.2 + 1)), (1, gj_l (a2.1 - ((Int32.toInt64 (σ.1 198 (Int32.toNatClampNeg ((0 : Int32) + a2.2)))) * (Int32.toInt64 (σ.1 205 (Int32.toNatClampNeg a2.2)))))), (0, gj_r 188)]) hO 2 dX9_proof_43 rfl rfl (by decide) rfl ?_
    refine gj_goto (tgt := 13) hO dX9_proof_46 (by decide) ?_
    obtain rfl := Option.some.inj hf
    refine gj_sub [2, 1, 0] rfl ?_
    exact K
set_option maxHeartbeats 4000000 in
set_option maxRecDepth 100000 in
theorem sb_X9_proof_l51 {E : gj_E} {X : gj_X} {r : Option gj_V} {τ : gj_S} (hO : gj_O E X RX9 cX9_proof 4 (some .long) 2 48) {σ : gj_S} {a7 : (Int64 × Int32)} {x : Int64 ⊕ (Int64 × Int32)} (hf : fb_X9_proof_l51 σ a7 = some x) (K : gj_K (fun z7 => gj_G E X 4 r τ 99 [(1, gj_l z7)] [] σ) (fun a7 => gj_G E X 4 r τ 51 [(0, gj_r 188), (1, gj_l a7.1), (3, gj_i a7.2)] [] σ) x) : gj_G E X 4 r τ 51 [(0, gj_r 188), (1, gj_l a7.1), (3, gj_i a7.2)] [] σ := by
  unfold fb_X9_proof_l51 at hf
  refine gj_iload_n hO 2 dX9_proof_51 rfl rfl ?_
  refine gj_aload_n hO 0 dX9_proof_52 rfl rfl ?_
  refine gt_X9_12 hO wk_672 dX9_proof_53 ?_
  refine gj_iconst (v := 0) hO dX9_proof_56 (by decide) ?_
  obtain ⟨hb9, hf⟩ := gj_c hf
  refine gj_iald hO kl_191 kd_191 hb9 dX9_proof_57 ?_
  refine gj_icmp_ge (tgt := 99) hO dX9_proof_58 (by decide) (fun h => ?_) (fun h => ?_)
  · replace hf := gj_t h hf
    obtain rfl := Option.some.inj hf
    refine gj_sub [1] rfl ?_
    exact K
  · replace hf := gj_f h hf
    refine gj_lload_n hO 1 dX9_proof_61 rfl rfl ?_
    refine gj_aload_n hO 0 dX9_proof_62 rfl rfl ?_
    refine gj_iload_n hO 2 dX9_proof_63 rfl rfl ?_
    obtain ⟨x10, hc10, hf⟩ := gj_b hf
    refine ca_X9_gainOf hO  hc10 wk_763 (by decide) (by decide) (Nat.le_of_ble_eq_true rfl) dX9_proof_64 ?_
    refine gj_if_ge (tgt := 90) hO dX9_proof_67 (by decide) (fun h => ?_) (fun h => ?_)
    · replace hf := gj_t h hf
      refine gj_lconst (v := 0) hO dX9_proof_90 (by decide) ?_
      refine gj_ladd hO dX9_proof_91 ?_
      refine gj_lstore_n (lv2 := [(1, gj_l (a7.1 + (0 : Int64))), (0, gj_r 188), (3, gj_i a7.2)]) hO dX9_proof_92 rfl (by decide) rfl ?_
      refine gj_iinc (v := (a7.2 + 1)) (lv2 := [(3, gj_i (a7.2 + 1)), (1, gj_l (a7.1 + (0 : Int64))), (0, gj_r 188)]) hO 2 dX9_proof_93 rfl rfl (by decide) rfl ?_
      refine gj_goto (tgt := 51) hO dX9_proof_96 (by decide) ?_
      obtain rfl := Option.some.inj hf
      refine gj_sub [2, 1, 0] rfl ?_
      exact K
    · replace hf := gj_f h hf
      refine gj_aload_n hO 0 dX9_proof_70 rfl rfl ?_
      refine gj_iload_n hO 2 dX9_proof_71 rfl rfl ?_
      obtain ⟨x11, hc11, hf⟩ := gj_b hf
      refine ca_X9_gainOf hO  hc11 wk_763 (by decide) (by decide) (Nat.le_of_ble_eq_true rfl) dX9_proof_72 ?_
      refine gj_i2l hO dX9_proof_75 ?_
      refine gj_aload_n hO 0 dX9_proof_76 rfl rfl ?_
      refine gt_X9_21 hO wk_704 dX9_proof_77 ?_
      refine gj_bipush (v := 24) hO dX9_proof_80 (by decide) ?_
      refine gj_iload_n hO 2 dX9_proof_82 rfl rfl ?_
      refine gj_iadd hO dX9_proof_83 ?_
      obtain ⟨hb12, hf⟩ := gj_c hf
      refine gj_iald hO kl_198 kd_198 hb12 dX9_proof_84 ?_
      refine gj_i2l hO dX9_proof_85 ?_
      refine gj_lmul hO dX9_proof_86 ?_
      refine gj_goto (tgt := 91) hO dX9_proof_87 (by decide) ?_
      refine gj_ladd hO dX9_proof_91 ?_
      refine gj_lstore_n (lv2 := [(1, gj_l (a7.1 + ((Int32.toInt64 x11) * (Int32.toInt64 (σ.1 198 (Int32.toNatClampNeg ((24 : Int32) + a7.2))))))), (0, gj_r 188), (3, gj_i a7.2)]) hO dX9_proof_92 rfl (by decide) rfl ?_
      refine gj_iinc (v := (a7.2 + 1)) (lv2 := [(3, gj_i (a7.2 + 1)), (1, gj_l (a7.1 + ((Int32.toInt64 x11) * (Int32.toInt64 (σ.1 198 (Int32.toNatClampNeg ((24 : Int32) + a7.2))))))), (0, gj_r 188)]) hO 2 dX9_proof_93 rfl rfl (by decide) rfl ?_
      refine gj_goto (tgt := 51) hO dX9_proof_96 (by decide) ?_
      obtain rfl := Option.some.inj hf
      refine gj_sub [2, 1, 0] rfl ?_
      exact K
set_option maxHeartbeats 4000000 in
set_option maxRecDepth 100000 in
theorem m_X9_proof {E : gj_E} {σ : gj_S}   {x : (Int64 × gj_S)} (hf : f_X9_proof  σ = some x) : gj_M E yX9_proof cX9_proof 4 (some .long) 2 48 [gj_r 188] σ (some (gj_l x.1)) x.2 := by
  refine gj_body (lv := [(0, gj_r 188)]) (by decide +kernel) (Nat.le_of_ble_eq_true rfl) rfl (fun X hO => ?_)
  replace hO : gj_O E X RX9 cX9_proof 4 (some .long) 2 48 := hO
  unfold f_X9_proof at hf
  refine gj_aload_n hO 0 dX9_proof_0 rfl rfl ?_
  refine gj_iconst (v := 0) hO dX9_proof_1 (by decide) ?_
  refine pt_X9_0 hO wk_604 dX9_proof_2 ?_
  refine gj_aload_n hO 0 dX9_proof_5 rfl rfl ?_
  obtain ⟨x1, hc1, hf⟩ := gj_b hf
  refine ca_X9_laysTree hO  hc1 wk_771 (by decide) (by decide) (Nat.le_of_ble_eq_true rfl) dX9_proof_6 ?_
  refine gj_lconst (v := 0) hO dX9_proof_9 (by decide) ?_
  refine gj_lstore_n (lv2 := [(1, gj_l (0 : Int64)), (0, gj_r 188)]) hO dX9_proof_10 rfl (by decide) rfl ?_
  refine gj_iconst (v := 0) hO dX9_proof_11 (by decide) ?_
  refine gj_istore_n (lv2 := [(3, gj_i (0 : Int32)), (1, gj_l (0 : Int64)), (0, gj_r 188)]) hO dX9_proof_12 rfl (by decide) rfl ?_
  obtain ⟨z2, hz2, hf⟩ := gj_b hf
  have J2 : gj_G E X 4 (some (gj_l x.1)) x.2 49 [(0, gj_r 188), (1, gj_l z2)] [] x1 := by
    refine gj_iconst (v := 0) hO dX9_proof_49 (by decide) ?_
    refine gj_istore_n (lv2 := [(3, gj_i (0 : Int32)), (0, gj_r 188), (1, gj_l z2)]) hO dX9_proof_50 rfl (by decide) rfl ?_
    obtain ⟨z7, hz7, hf⟩ := gj_b hf
    have J7 : gj_G E X 4 (some (gj_l x.1)) x.2 99 [(1, gj_l z7)] [] x1 := by
      refine gj_lload_n hO 0 dX9_proof_99 rfl rfl ?_
      obtain rfl := Option.some.inj hf
      exact gj_lret hO dX9_proof_100
    refine gj_sub [1, 2, 0] rfl ?_
    exact gj_loop (head := fun a7 => gj_G E X 4 (some (gj_l x.1)) x.2 51 [(0, gj_r 188), (1, gj_l a7.1), (3, gj_i a7.2)] [] x1) (exit := fun z7 => gj_G E X 4 (some (gj_l x.1)) x.2 99 [(1, gj_l z7)] [] x1) (fun a7 x hf K => sb_X9_proof_l51 hO hf K) _ _ _ hz7 J7
  refine gj_sub [2, 1, 0] rfl ?_
  exact gj_loop (head := fun a2 => gj_G E X 4 (some (gj_l x.1)) x.2 13 [(0, gj_r 188), (1, gj_l a2.1), (3, gj_i a2.2)] [] x1) (exit := fun z2 => gj_G E X 4 (some (gj_l x.1)) x.2 49 [(0, gj_r 188), (1, gj_l z2)] [] x1) (fun a2 x hf K => sb_X9_proof_l13 hO hf K) _ _ _ hz2 J2
set_option maxHeartbeats 4000000 in
set_option maxRecDepth 100000 in
theorem ca_X9_proof {E : gj_E} {X : gj_X} {own : String} {cc : ByteArray} {nL : Nat} {rt : Option FieldType} {fr lo : Nat} {r : Option gj_V} {τ : gj_S} {pc : Nat} {lv : List (Nat × gj_V)} {st : List gj_V} {σ : gj_S} (hO : gj_O E X own cc nL rt fr lo)   {idx : Nat} {x : (Int64 × gj_S)} (hf : f_X9_proof  σ = some x) (hl : Cond.methodLink own idx yX9_proof ∈ gj_gw) (hf1 : 3 ≤ fr) (hf2 : 71 ≤ lo) (hcat : ((st.map (gj_tv E.2.1)).map fun v => v.category).sum ≤ 8) (hd : decode cc pc = .ok (.invokevirtual idx, 3)) (k : gj_G E X nL r τ (pc + 3) lv ((gj_l x.1) :: st) x.2) : gj_G E X nL r τ pc lv (gj_r 188 :: st) σ :=
  gj_callV hO (o := 188) (vs := []) (m_X9_proof  hf) hl wk_895 wk_896 wk_607 wk_897 kl_188 kd_188 (by decide) (ci := 9) rfl (n := 0) (by decide +kernel) rfl hf1 hf2 rfl hcat hd k
def fb_X9_allLack_l4 (σ : gj_S) (a1 : (Int32 × Int32)) : Option (Int32 ⊕ (Int32 × Int32)) := (if gj_in (0 : Int32) 2 then (if (σ.1 190 (Int32.toNatClampNeg (0 : Int32))) ≤ a1.2 then some (.inl a1.1) else ((f_X9_lackOf a1.2 σ).bind fun x4 => some (.inr ((a1.1 + x4), (a1.2 + 1))))) else none)
def f_X9_allLack  (σ : gj_S) : Option Int32 := ((gj_lp (fb_X9_allLack_l4 σ) 5000 ((0 : Int32), (0 : Int32))).bind fun z1 => some z1)
set_option maxHeartbeats 4000000 in
set_option maxRecDepth 100000 in
theorem sb_X9_allLack_l4 {E : gj_E} {X : gj_X} {r : Option gj_V} {τ : gj_S} (hO : gj_O E X RX9 cX9_allLack 3 (some .int) 1 21) {σ : gj_S} {a1 : (Int32 × Int32)} {x : Int32 ⊕ (Int32 × Int32)} (hf : fb_X9_allLack_l4 σ a1 = some x) (K : gj_K (fun z1 => gj_G E X 3 r τ 28 [(1, gj_i z1)] [] σ) (fun a1 => gj_G E X 3 r τ 4 [(0, gj_r 188), (1, gj_i a1.1), (2, gj_i a1.2)] [] σ) x) : gj_G E X 3 r τ 4 [(0, gj_r 188), (1, gj_i a1.1), (2, gj_i a1.2)] [] σ := by
  unfold fb_X9_allLack_l4 at hf
  refine gj_iload_n hO 2 dX9_allLack_4 rfl rfl ?_
  refine gj_aload_n hO 0 dX9_allLack_5 rfl rfl ?_
  refine gt_X9_11 hO wk_670 dX9_allLack_6 ?_
  refine gj_iconst (v := 0) hO dX9_allLack_9 (by decide) ?_
  obtain ⟨hb3, hf⟩ := gj_c hf
  refine gj_iald hO kl_190 kd_190 hb3 dX9_allLack_10 ?_
  refine gj_icmp_ge (tgt := 28) hO dX9_allLack_11 (by decide) (fun h => ?_) (fun h => ?_)
  · replace hf := gj_t h hf
    obtain rfl := Option.some.inj hf
    refine gj_sub [1] rfl ?_
    exact K
  · replace hf := gj_f h hf
    refine gj_iload_n hO 1 dX9_allLack_14 rfl rfl ?_
    refine gj_aload_n hO 0 dX9_allLack_15 rfl rfl ?_
    refine gj_iload_n hO 2 dX9_allLack_16 rfl rfl ?_
    obtain ⟨x4, hc4, hf⟩ := gj_b hf
    refine ca_X9_lackOf hO  hc4 wk_789 (by decide) (by decide) (Nat.le_of_ble_eq_true rfl) dX9_allLack_17 ?_
    refine gj_iadd hO dX9_allLack_20 ?_
    refine gj_istore_n (lv2 := [(1, gj_i (a1.1 + x4)), (0, gj_r 188), (2, gj_i a1.2)]) hO dX9_allLack_21 rfl (by decide) rfl ?_
    refine gj_iinc (v := (a1.2 + 1)) (lv2 := [(2, gj_i (a1.2 + 1)), (1, gj_i (a1.1 + x4)), (0, gj_r 188)]) hO 2 dX9_allLack_22 rfl rfl (by decide) rfl ?_
    refine gj_goto (tgt := 4) hO dX9_allLack_25 (by decide) ?_
    obtain rfl := Option.some.inj hf
    refine gj_sub [2, 1, 0] rfl ?_
    exact K
set_option maxHeartbeats 4000000 in
set_option maxRecDepth 100000 in
theorem m_X9_allLack {E : gj_E} {σ : gj_S}   {x : Int32} (hf : f_X9_allLack  σ = some x) : gj_M E yX9_allLack cX9_allLack 3 (some .int) 1 21 [gj_r 188] σ (some (gj_i x)) σ := by
  refine gj_body (lv := [(0, gj_r 188)]) (by decide +kernel) (Nat.le_of_ble_eq_true rfl) rfl (fun X hO => ?_)
  replace hO : gj_O E X RX9 cX9_allLack 3 (some .int) 1 21 := hO
  unfold f_X9_allLack at hf
  refine gj_iconst (v := 0) hO dX9_allLack_0 (by decide) ?_
  refine gj_istore_n (lv2 := [(1, gj_i (0 : Int32)), (0, gj_r 188)]) hO dX9_allLack_1 rfl (by decide) rfl ?_
  refine gj_iconst (v := 0) hO dX9_allLack_2 (by decide) ?_
  refine gj_istore_n (lv2 := [(2, gj_i (0 : Int32)), (1, gj_i (0 : Int32)), (0, gj_r 188)]) hO dX9_allLack_3 rfl (by decide) rfl ?_
  obtain ⟨z1, hz1, hf⟩ := gj_b hf
  have J1 : gj_G E X 3 (some (gj_i x)) σ 28 [(1, gj_i z1)] [] σ := by
    refine gj_iload_n hO 0 dX9_allLack_28 rfl rfl ?_
    obtain rfl := Option.some.inj hf
    exact gj_iret hO dX9_allLack_29
  refine gj_sub [2, 1, 0] rfl ?_
  exact gj_loop (head := fun a1 => gj_G E X 3 (some (gj_i x)) σ 4 [(0, gj_r 188), (1, gj_i a1.1), (2, gj_i a1.2)] [] σ) (exit := fun z1 => gj_G E X 3 (some (gj_i x)) σ 28 [(1, gj_i z1)] [] σ) (fun a1 x hf K => sb_X9_allLack_l4 hO hf K) _ _ _ hz1 J1
set_option maxHeartbeats 4000000 in
set_option maxRecDepth 100000 in
theorem ca_X9_allLack {E : gj_E} {X : gj_X} {own : String} {cc : ByteArray} {nL : Nat} {rt : Option FieldType} {fr lo : Nat} {r : Option gj_V} {τ : gj_S} {pc : Nat} {lv : List (Nat × gj_V)} {st : List gj_V} {σ : gj_S} (hO : gj_O E X own cc nL rt fr lo)   {idx : Nat} {x : Int32} (hf : f_X9_allLack  σ = some x) (hl : Cond.methodLink own idx yX9_allLack ∈ gj_gw) (hf1 : 2 ≤ fr) (hf2 : 43 ≤ lo) (hcat : ((st.map (gj_tv E.2.1)).map fun v => v.category).sum ≤ 8) (hd : decode cc pc = .ok (.invokevirtual idx, 3)) (k : gj_G E X nL r τ (pc + 3) lv ((gj_i x) :: st) σ) : gj_G E X nL r τ pc lv (gj_r 188 :: st) σ :=
  gj_callV hO (o := 188) (vs := []) (m_X9_allLack  hf) hl wk_898 wk_899 wk_607 wk_900 kl_188 kd_188 (by decide) (ci := 9) rfl (n := 0) (by decide +kernel) rfl hf1 hf2 rfl hcat hd k
def fb_X9_lack_l34 (b1 : Int32) (σ : gj_S) (a3 : (Int32 × Int32 × Int32)) : Option ((Int32 × Int32) ⊕ (Int32 × Int32 × Int32)) := (if a3.2.2 < 0 then some (.inl (a3.1, a3.2.1)) else ((if (2 : Int32) ≤ b1 then ((f_X9_stuckOf a3.2.2 σ).bind fun x6 => some x6) else ((f_X9_lackOf a3.2.2 σ).bind fun x7 => some x7) : Option Int32).bind fun z5 => (if z5 ≤ 0 then some (.inr ((a3.1 + z5), a3.2.1, (a3.2.2 + (-1)))) else some (.inr ((a3.1 + z5), a3.2.2, (a3.2.2 + (-1)))))))
def f_X9_lack (b1 : Int32) (σ : gj_S) : Option (Int32 × gj_S) := ((f_X9_within (Int32.toInt64 b1) (0 : Int64) (3 : Int64)).bind fun x1 => (if x1 = 0 then some ((-1 : Int32), (gj_sI σ 188 (upd (σ.1 188) 0 (0 : Int32)))) else (if gj_in (0 : Int32) 2 then ((gj_lp (fb_X9_lack_l34 b1 (gj_sI σ 188 (upd (σ.1 188) 0 (0 : Int32)))) 5000 ((0 : Int32), (-2 : Int32), (((gj_sI σ 188 (upd (σ.1 188) 0 (0 : Int32))).1 190 (Int32.toNatClampNeg (0 : Int32))) - (1 : Int32)))).bind fun z3 => (if (b1 - b1 / (2 : Int32) * (2 : Int32)) = 0 then some (z3.1, (gj_sI σ 188 (upd (σ.1 188) 0 (0 : Int32)))) else some (z3.2, (gj_sI σ 188 (upd (σ.1 188) 0 (0 : Int32)))))) else none)))
set_option maxHeartbeats 4000000 in
set_option maxRecDepth 100000 in
theorem sb_X9_lack_l34 {E : gj_E} {X : gj_X} {r : Option gj_V} {τ : gj_S} (hO : gj_O E X RX9 cX9_lack 6 (some .int) 1 25) {b1 : Int32} {σ : gj_S} {a3 : (Int32 × Int32 × Int32)} {x : (Int32 × Int32) ⊕ (Int32 × Int32 × Int32)} (hf : fb_X9_lack_l34 b1 σ a3 = some x) (K : gj_K (fun z3 => gj_G E X 6 r τ 84 [(1, gj_i b1), (2, gj_i z3.1), (3, gj_i z3.2)] [] σ) (fun a3 => gj_G E X 6 r τ 34 [(0, gj_r 188), (1, gj_i b1), (2, gj_i a3.1), (3, gj_i a3.2.1), (4, gj_i a3.2.2)] [] σ) x) : gj_G E X 6 r τ 34 [(0, gj_r 188), (1, gj_i b1), (2, gj_i a3.1), (3, gj_i a3.2.1), (4, gj_i a3.2.2)] [] σ := by
  unfold fb_X9_lack_l34 at hf
  refine gj_iload hO 4 dX9_lack_34 rfl ?_
  refine gj_if_lt (tgt := 84) hO dX9_lack_36 (by decide) (fun h => ?_) (fun h => ?_)
  · replace hf := gj_t h hf
    obtain rfl := Option.some.inj hf
    refine gj_sub [1, 2, 3] rfl ?_
    exact K
  · replace hf := gj_f h hf
    refine gj_iload_n hO 1 dX9_lack_39 rfl rfl ?_
    refine gj_iconst (v := 2) hO dX9_lack_40 (by decide) ?_
    obtain ⟨z5, hz5, hf⟩ := gj_b hf
    have J5 : gj_G E X 6 r τ 59 [(0, gj_r 188), (1, gj_i b1), (2, gj_i a3.1), (3, gj_i a3.2.1), (4, gj_i a3.2.2)] [gj_i z5] σ := by
      refine gj_istore (lv2 := [(5, gj_i z5), (0, gj_r 188), (1, gj_i b1), (2, gj_i a3.1), (3, gj_i a3.2.1), (4, gj_i a3.2.2)]) hO dX9_lack_59 (by decide) rfl ?_
      refine gj_iload_n hO 3 dX9_lack_61 rfl rfl ?_
      refine gj_iload hO 0 dX9_lack_62 rfl ?_
      refine gj_iadd hO dX9_lack_64 ?_
      refine gj_istore_n (lv2 := [(2, gj_i (a3.1 + z5)), (5, gj_i z5), (0, gj_r 188), (1, gj_i b1), (3, gj_i a3.2.1), (4, gj_i a3.2.2)]) hO dX9_lack_65 rfl (by decide) rfl ?_
      refine gj_iload hO 1 dX9_lack_66 rfl ?_
      refine gj_if_le (tgt := 76) hO dX9_lack_68 (by decide) (fun h => ?_) (fun h => ?_)
      · replace hf := gj_t h hf
        refine gj_iload_n hO 4 dX9_lack_76 rfl rfl ?_
        refine gj_istore_n (lv2 := [(3, gj_i a3.2.1), (2, gj_i (a3.1 + z5)), (5, gj_i z5), (0, gj_r 188), (1, gj_i b1), (4, gj_i a3.2.2)]) hO dX9_lack_77 rfl (by decide) rfl ?_
        refine gj_iinc (v := (a3.2.2 + (-1))) (lv2 := [(4, gj_i (a3.2.2 + (-1))), (3, gj_i a3.2.1), (2, gj_i (a3.1 + z5)), (5, gj_i z5), (0, gj_r 188), (1, gj_i b1)]) hO 5 dX9_lack_78 rfl rfl (by decide) rfl ?_
        refine gj_goto (tgt := 34) hO dX9_lack_81 (by decide) ?_
        obtain rfl := Option.some.inj hf
        refine gj_sub [4, 5, 2, 1, 0] rfl ?_
        exact K
      · replace hf := gj_f h hf
        refine gj_iload hO 5 dX9_lack_71 rfl ?_
        refine gj_goto (tgt := 77) hO dX9_lack_73 (by decide) ?_
        refine gj_istore_n (lv2 := [(3, gj_i a3.2.2), (2, gj_i (a3.1 + z5)), (5, gj_i z5), (0, gj_r 188), (1, gj_i b1), (4, gj_i a3.2.2)]) hO dX9_lack_77 rfl (by decide) rfl ?_
        refine gj_iinc (v := (a3.2.2 + (-1))) (lv2 := [(4, gj_i (a3.2.2 + (-1))), (3, gj_i a3.2.2), (2, gj_i (a3.1 + z5)), (5, gj_i z5), (0, gj_r 188), (1, gj_i b1)]) hO 5 dX9_lack_78 rfl rfl (by decide) rfl ?_
        refine gj_goto (tgt := 34) hO dX9_lack_81 (by decide) ?_
        obtain rfl := Option.some.inj hf
        refine gj_sub [4, 5, 2, 1, 0] rfl ?_
        exact K
    refine gj_icmp_ge (tgt := 53) hO dX9_lack_41 (by decide) (fun h => ?_) (fun h => ?_)
    · replace hz5 := gj_t h hz5
      refine gj_aload_n hO 0 dX9_lack_53 rfl rfl ?_
      refine gj_iload hO 4 dX9_lack_54 rfl ?_
      obtain ⟨x6, hc6, hz5⟩ := gj_b hz5
      refine ca_X9_stuckOf hO  hc6 wk_790 (by decide) (by decide) (Nat.le_of_ble_eq_true rfl) dX9_lack_56 ?_
      obtain rfl := Option.some.inj hz5
      refine gj_sub [0, 1, 2, 3, 4] rfl ?_
      exact J5
    · replace hz5 := gj_f h hz5
      refine gj_aload_n hO 0 dX9_lack_44 rfl rfl ?_
      refine gj_iload hO 4 dX9_lack_45 rfl ?_
      obtain ⟨x7, hc7, hz5⟩ := gj_b hz5
      refine ca_X9_lackOf hO  hc7 wk_789 (by decide) (by decide) (Nat.le_of_ble_eq_true rfl) dX9_lack_47 ?_
      refine gj_goto (tgt := 59) hO dX9_lack_50 (by decide) ?_
      obtain rfl := Option.some.inj hz5
      refine gj_sub [0, 1, 2, 3, 4] rfl ?_
      exact J5
set_option maxHeartbeats 4000000 in
set_option maxRecDepth 100000 in
theorem m_X9_lack {E : gj_E} {σ : gj_S} {b1 : Int32}  {x : (Int32 × gj_S)} (hf : f_X9_lack b1 σ = some x) : gj_M E yX9_lack cX9_lack 6 (some .int) 1 25 [gj_r 188, gj_i b1] σ (some (gj_i x.1)) x.2 := by
  refine gj_body (lv := [(0, gj_r 188), (1, gj_i b1)]) (by decide +kernel) (Nat.le_of_ble_eq_true rfl) rfl (fun X hO => ?_)
  replace hO : gj_O E X RX9 cX9_lack 6 (some .int) 1 25 := hO
  unfold f_X9_lack at hf
  refine gj_aload_n hO 0 dX9_lack_0 rfl rfl ?_
  refine gj_iconst (v := 0) hO dX9_lack_1 (by decide) ?_
  refine pt_X9_0 hO wk_604 dX9_lack_2 ?_
  refine gj_iload_n hO 1 dX9_lack_5 rfl rfl ?_
  refine gj_i2l hO dX9_lack_6 ?_
  refine gj_lconst (v := 0) hO dX9_lack_7 (by decide) ?_
  refine gj_ldc2 hO wk_901 dX9_lack_8 ?_
  obtain ⟨x1, hc1, hf⟩ := gj_b hf
  refine ca_X9_within hO  hc1 wk_632 (by decide) (by decide) (Nat.le_of_ble_eq_true rfl) dX9_lack_11 ?_
  refine gj_if_ne (tgt := 19) hO dX9_lack_14 (by decide) (fun h => ?_) (fun h => ?_)
  · replace hf := gj_f h hf
    refine gj_iconst (v := 0) hO dX9_lack_19 (by decide) ?_
    refine gj_istore_n (lv2 := [(2, gj_i (0 : Int32)), (0, gj_r 188), (1, gj_i b1)]) hO dX9_lack_20 rfl (by decide) rfl ?_
    refine gj_bipush (v := (-2)) hO dX9_lack_21 (by decide) ?_
    refine gj_istore_n (lv2 := [(3, gj_i (-2 : Int32)), (2, gj_i (0 : Int32)), (0, gj_r 188), (1, gj_i b1)]) hO dX9_lack_23 rfl (by decide) rfl ?_
    refine gj_aload_n hO 2 dX9_lack_24 rfl rfl ?_
    refine gt_X9_11 hO wk_670 dX9_lack_25 ?_
    refine gj_iconst (v := 0) hO dX9_lack_28 (by decide) ?_
    obtain ⟨hb2, hf⟩ := gj_c hf
    refine gj_iald hO kl_190 kd_190 hb2 dX9_lack_29 ?_
    refine gj_iconst (v := 1) hO dX9_lack_30 (by decide) ?_
    refine gj_isub hO dX9_lack_31 ?_
    refine gj_istore (lv2 := [(4, gj_i (((gj_sI σ 188 (upd (σ.1 188) 0 (0 : Int32))).1 190 (Int32.toNatClampNeg (0 : Int32))) - (1 : Int32))), (3, gj_i (-2 : Int32)), (2, gj_i (0 : Int32)), (0, gj_r 188), (1, gj_i b1)]) hO dX9_lack_32 (by decide) rfl ?_
    obtain ⟨z3, hz3, hf⟩ := gj_b hf
    have J3 : gj_G E X 6 (some (gj_i x.1)) x.2 84 [(1, gj_i b1), (2, gj_i z3.1), (3, gj_i z3.2)] [] (gj_sI σ 188 (upd (σ.1 188) 0 (0 : Int32))) := by
      refine gj_iload_n hO 0 dX9_lack_84 rfl rfl ?_
      refine gj_iconst (v := 2) hO dX9_lack_85 (by decide) ?_
      refine gj_irem hO dX9_lack_86 (by decide) ?_
      refine gj_if_ne (tgt := 94) hO dX9_lack_87 (by decide) (fun h => ?_) (fun h => ?_)
      · replace hf := gj_f h hf
        refine gj_iload_n hO 2 dX9_lack_94 rfl rfl ?_
        obtain rfl := Option.some.inj hf
        exact gj_iret hO dX9_lack_95
      · replace hf := gj_t h hf
        refine gj_iload_n hO 1 dX9_lack_90 rfl rfl ?_
        refine gj_goto (tgt := 95) hO dX9_lack_91 (by decide) ?_
        obtain rfl := Option.some.inj hf
        exact gj_iret hO dX9_lack_95
    refine gj_sub [3, 4, 2, 1, 0] rfl ?_
    exact gj_loop (head := fun a3 => gj_G E X 6 (some (gj_i x.1)) x.2 34 [(0, gj_r 188), (1, gj_i b1), (2, gj_i a3.1), (3, gj_i a3.2.1), (4, gj_i a3.2.2)] [] (gj_sI σ 188 (upd (σ.1 188) 0 (0 : Int32)))) (exit := fun z3 => gj_G E X 6 (some (gj_i x.1)) x.2 84 [(1, gj_i b1), (2, gj_i z3.1), (3, gj_i z3.2)] [] (gj_sI σ 188 (upd (σ.1 188) 0 (0 : Int32)))) (fun a3 x hf K => sb_X9_lack_l34 hO hf K) _ _ _ hz3 J3
  · replace hf := gj_t h hf
    refine gj_iconst (v := (-1)) hO dX9_lack_17 (by decide) ?_
    obtain rfl := Option.some.inj hf
    exact gj_iret hO dX9_lack_18
set_option maxHeartbeats 4000000 in
set_option maxRecDepth 100000 in
theorem ca_X9_lack {E : gj_E} {X : gj_X} {own : String} {cc : ByteArray} {nL : Nat} {rt : Option FieldType} {fr lo : Nat} {r : Option gj_V} {τ : gj_S} {pc : Nat} {lv : List (Nat × gj_V)} {st : List gj_V} {σ : gj_S} (hO : gj_O E X own cc nL rt fr lo) {b1 : Int32}  {idx : Nat} {x : (Int32 × gj_S)} (hf : f_X9_lack b1 σ = some x) (hl : Cond.methodLink own idx yX9_lack ∈ gj_gw) (hf1 : 2 ≤ fr) (hf2 : 50 ≤ lo) (hcat : ((st.map (gj_tv E.2.1)).map fun v => v.category).sum ≤ 8) (hd : decode cc pc = .ok (.invokevirtual idx, 3)) (k : gj_G E X nL r τ (pc + 3) lv ((gj_i x.1) :: st) x.2) : gj_G E X nL r τ pc lv (gj_i b1 :: gj_r 188 :: st) σ :=
  gj_callV hO (o := 188) (vs := [gj_i b1]) (m_X9_lack  hf) hl wk_902 wk_903 wk_607 wk_904 kl_188 kd_188 (by decide) (ci := 9) rfl (n := 1) (by decide +kernel) rfl hf1 hf2 rfl hcat hd k
def f_X9_cheaper (b1 : Int32) (b2 : Int32) (b3 : Int32) (σ : gj_S) : Option gj_S := (if gj_in b1 8 then (if (1000000000 : Int32) ≤ (σ.1 209 (Int32.toNatClampNeg b1)) then some σ else (if gj_in b1 8 then (if gj_in b2 8 then (if (σ.1 209 (Int32.toNatClampNeg b2)) ≤ ((σ.1 209 (Int32.toNatClampNeg b1)) + b3) then some σ else (if gj_in b1 8 then (if gj_in b2 8 then some (gj_sI σ 209 (upd (σ.1 209) (Int32.toNatClampNeg b2) ((σ.1 209 (Int32.toNatClampNeg b1)) + b3))) else none) else none)) else none) else none)) else none)
set_option maxHeartbeats 4000000 in
set_option maxRecDepth 100000 in
theorem m_X9_cheaper {E : gj_E} {σ : gj_S} {b1 : Int32} {b2 : Int32} {b3 : Int32}  {x : gj_S} (hf : f_X9_cheaper b1 b2 b3 σ = some x) : gj_M E yX9_cheaper cX9_cheaper 4 none 0 0 [gj_r 188, gj_i b1, gj_i b2, gj_i b3] σ none x := by
  refine gj_body (lv := [(0, gj_r 188), (1, gj_i b1), (2, gj_i b2), (3, gj_i b3)]) (by decide +kernel) (Nat.le_of_ble_eq_true rfl) rfl (fun X hO => ?_)
  replace hO : gj_O E X RX9 cX9_cheaper 4 none 0 0 := hO
  unfold f_X9_cheaper at hf
  refine gj_aload_n hO 0 dX9_cheaper_0 rfl rfl ?_
  refine gt_X9_38 hO wk_905 dX9_cheaper_1 ?_
  refine gj_iload_n hO 1 dX9_cheaper_4 rfl rfl ?_
  obtain ⟨hb1, hf⟩ := gj_c hf
  refine gj_iald hO kl_209 kd_209 hb1 dX9_cheaper_5 ?_
  refine gj_ldc hO wk_737 dX9_cheaper_6 ?_
  refine gj_icmp_ge (tgt := 42) hO dX9_cheaper_8 (by decide) (fun h => ?_) (fun h => ?_)
  · replace hf := gj_t h hf
    obtain rfl := Option.some.inj hf
    exact gj_vret hO dX9_cheaper_42
  · replace hf := gj_f h hf
    refine gj_aload_n hO 0 dX9_cheaper_11 rfl rfl ?_
    refine gt_X9_38 hO wk_905 dX9_cheaper_12 ?_
    refine gj_iload_n hO 1 dX9_cheaper_15 rfl rfl ?_
    obtain ⟨hb2, hf⟩ := gj_c hf
    refine gj_iald hO kl_209 kd_209 hb2 dX9_cheaper_16 ?_
    refine gj_iload_n hO 3 dX9_cheaper_17 rfl rfl ?_
    refine gj_iadd hO dX9_cheaper_18 ?_
    refine gj_aload_n hO 0 dX9_cheaper_19 rfl rfl ?_
    refine gt_X9_38 hO wk_905 dX9_cheaper_20 ?_
    refine gj_iload_n hO 2 dX9_cheaper_23 rfl rfl ?_
    obtain ⟨hb3, hf⟩ := gj_c hf
    refine gj_iald hO kl_209 kd_209 hb3 dX9_cheaper_24 ?_
    refine gj_icmp_ge (tgt := 42) hO dX9_cheaper_25 (by decide) (fun h => ?_) (fun h => ?_)
    · replace hf := gj_t h hf
      obtain rfl := Option.some.inj hf
      exact gj_vret hO dX9_cheaper_42
    · replace hf := gj_f h hf
      refine gj_aload_n hO 0 dX9_cheaper_28 rfl rfl ?_
      refine gt_X9_38 hO wk_905 dX9_cheaper_29 ?_
      refine gj_iload_n hO 2 dX9_cheaper_32 rfl rfl ?_
      refine gj_aload_n hO 0 dX9_cheaper_33 rfl rfl ?_
      refine gt_X9_38 hO wk_905 dX9_cheaper_34 ?_
      refine gj_iload_n hO 1 dX9_cheaper_37 rfl rfl ?_
      obtain ⟨hb4, hf⟩ := gj_c hf
      refine gj_iald hO kl_209 kd_209 hb4 dX9_cheaper_38 ?_
      refine gj_iload_n hO 3 dX9_cheaper_39 rfl rfl ?_
      refine gj_iadd hO dX9_cheaper_40 ?_
      obtain ⟨hb5, hf⟩ := gj_c hf
      refine gj_iast hO kl_209 kd_209 hb5 dX9_cheaper_41 ?_
      obtain rfl := Option.some.inj hf
      exact gj_vret hO dX9_cheaper_42
set_option maxHeartbeats 4000000 in
set_option maxRecDepth 100000 in
theorem ca_X9_cheaper {E : gj_E} {X : gj_X} {own : String} {cc : ByteArray} {nL : Nat} {rt : Option FieldType} {fr lo : Nat} {r : Option gj_V} {τ : gj_S} {pc : Nat} {lv : List (Nat × gj_V)} {st : List gj_V} {σ : gj_S} (hO : gj_O E X own cc nL rt fr lo) {b1 : Int32} {b2 : Int32} {b3 : Int32}  {idx : Nat} {x : gj_S} (hf : f_X9_cheaper b1 b2 b3 σ = some x) (hl : Cond.methodLink own idx yX9_cheaper ∈ gj_gw) (hf1 : 1 ≤ fr) (hf2 : 23 ≤ lo) (hcat : ((st.map (gj_tv E.2.1)).map fun v => v.category).sum ≤ 8) (hd : decode cc pc = .ok (.invokevirtual idx, 3)) (k : gj_G E X nL r τ (pc + 3) lv (st) x) : gj_G E X nL r τ pc lv (gj_i b3 :: gj_i b2 :: gj_i b1 :: gj_r 188 :: st) σ :=
  gj_callV hO (o := 188) (vs := [gj_i b1, gj_i b2, gj_i b3]) (m_X9_cheaper  hf) hl wk_906 wk_907 wk_607 wk_908 kl_188 kd_188 (by decide) (ci := 9) rfl (n := 3) (by decide +kernel) rfl hf1 hf2 rfl hcat hd k
def fb_X9_unit_l34 (b1 : Int32) (b2 : Int32) (a4 : (Int32 × gj_S)) : Option (gj_S ⊕ (Int32 × gj_S)) := (if (8 : Int32) ≤ a4.1 then some (.inl a4.2) else (if a4.1 = b1 then (if gj_in a4.1 8 then some (.inr ((a4.1 + 1), (gj_sI a4.2 209 (upd (a4.2.1 209) (Int32.toNatClampNeg a4.1) (0 : Int32))))) else none) else (if gj_in a4.1 8 then some (.inr ((a4.1 + 1), (gj_sI a4.2 209 (upd (a4.2.1 209) (Int32.toNatClampNeg a4.1) (1000000000 : Int32))))) else none)))
def fb_X9_unit_l78 (b2 : Int32) (b3 : Int32) (a11 : (Int32 × gj_S)) : Option (gj_S ⊕ (Int32 × gj_S)) := (if gj_in (0 : Int32) 2 then (if (a11.2.1 191 (Int32.toNatClampNeg (0 : Int32))) ≤ a11.1 then some (.inl a11.2) else (if gj_in ((50 : Int32) + a11.1) 180 then (if gj_in ((24 : Int32) + a11.1) 180 then ((if (a11.2.1 198 (Int32.toNatClampNeg ((24 : Int32) + a11.1))) ≤ (a11.2.1 198 (Int32.toNatClampNeg ((50 : Int32) + a11.1))) then some a11.2 else (if gj_in a11.1 32 then (if gj_in a11.1 32 then (if gj_in ((8 : Int32) + a11.1) 180 then ((f_X9_cheaper (a11.2.1 194 (Int32.toNatClampNeg a11.1)) (a11.2.1 195 (Int32.toNatClampNeg a11.1)) (a11.2.1 198 (Int32.toNatClampNeg ((8 : Int32) + a11.1))) a11.2).bind fun x20 => some x20) else none) else none) else none) : Option gj_S).bind fun z16 => (if gj_in ((50 : Int32) + a11.1) 180 then (if (z16.1 198 (Int32.toNatClampNeg ((50 : Int32) + a11.1))) ≤ 0 then some (.inr ((a11.1 + 1), z16)) else (if gj_in a11.1 32 then (if gj_in a11.1 32 then (if gj_in ((8 : Int32) + a11.1) 180 then ((f_X9_cheaper (z16.1 195 (Int32.toNatClampNeg a11.1)) (z16.1 194 (Int32.toNatClampNeg a11.1)) (0 - (z16.1 198 (Int32.toNatClampNeg ((8 : Int32) + a11.1)))) z16).bind fun x25 => some (.inr ((a11.1 + 1), x25))) else none) else none) else none)) else none)) else none) else none)) else none)
def fb_X9_unit_l65 (b2 : Int32) (a8 : (Int32 × gj_S)) : Option (gj_S ⊕ (Int32 × gj_S)) := (if gj_in (0 : Int32) 2 then (if (a8.2.1 190 (Int32.toNatClampNeg (0 : Int32))) ≤ a8.1 then some (.inl a8.2) else ((gj_lp (fb_X9_unit_l78 b2 a8.1) 5000 ((0 : Int32), a8.2)).bind fun z11 => some (.inr ((a8.1 + 1), z11)))) else none)
def f_X9_unit (b1 : Int32) (b2 : Int32) (σ : gj_S) : Option (Int32 × gj_S) := ((f_X9_isDock b1 (gj_sI σ 188 (upd (σ.1 188) 0 (0 : Int32)))).bind fun x1 => (if x1 = 0 then some ((-2147483648 : Int32), (gj_sI σ 188 (upd (σ.1 188) 0 (0 : Int32)))) else ((f_X9_isDock b2 (gj_sI σ 188 (upd (σ.1 188) 0 (0 : Int32)))).bind fun x2 => (if x2 = 0 then some ((-2147483648 : Int32), (gj_sI σ 188 (upd (σ.1 188) 0 (0 : Int32)))) else ((f_X9_isEnd (gj_sI σ 188 (upd (σ.1 188) 0 (0 : Int32)))).bind fun x3 => (if x3.1 = 0 then some ((-2147483648 : Int32), x3.2) else ((gj_lp (fb_X9_unit_l34 b1 b2) 5000 ((0 : Int32), x3.2)).bind fun z4 => ((gj_lp (fb_X9_unit_l65 b2) 5000 ((0 : Int32), z4)).bind fun z8 => (if gj_in b2 8 then (if (z8.1 209 (Int32.toNatClampNeg b2)) = (1000000000 : Int32) then some ((-2147483648 : Int32), z8) else (if gj_in b2 8 then some ((z8.1 209 (Int32.toNatClampNeg b2)), z8) else none)) else none)))))))))
set_option maxHeartbeats 4000000 in
set_option maxRecDepth 100000 in
theorem sb_X9_unit_l34 {E : gj_E} {X : gj_X} {r : Option gj_V} {τ : gj_S} (hO : gj_O E X RX9 cX9_unit 5 (some .int) 5 106) {b1 : Int32} {b2 : Int32} {a4 : (Int32 × gj_S)} {x : gj_S ⊕ (Int32 × gj_S)} (hf : fb_X9_unit_l34 b1 b2 a4 = some x) (K : gj_K (fun z4 => gj_G E X 5 r τ 63 [(0, gj_r 188), (2, gj_i b2)] [] z4) (fun a4 => gj_G E X 5 r τ 34 [(0, gj_r 188), (1, gj_i b1), (2, gj_i b2), (3, gj_i a4.1)] [] a4.2) x) : gj_G E X 5 r τ 34 [(0, gj_r 188), (1, gj_i b1), (2, gj_i b2), (3, gj_i a4.1)] [] a4.2 := by
  unfold fb_X9_unit_l34 at hf
  refine gj_iload_n hO 3 dX9_unit_34 rfl rfl ?_
  refine gj_bipush (v := 8) hO dX9_unit_35 (by decide) ?_
  refine gj_icmp_ge (tgt := 63) hO dX9_unit_37 (by decide) (fun h => ?_) (fun h => ?_)
  · replace hf := gj_t h hf
    obtain rfl := Option.some.inj hf
    refine gj_sub [0, 2] rfl ?_
    exact K
  · replace hf := gj_f h hf
    refine gj_aload_n hO 0 dX9_unit_40 rfl rfl ?_
    refine gt_X9_38 hO wk_905 dX9_unit_41 ?_
    refine gj_iload_n hO 3 dX9_unit_44 rfl rfl ?_
    refine gj_iload_n hO 3 dX9_unit_45 rfl rfl ?_
    refine gj_iload_n hO 1 dX9_unit_46 rfl rfl ?_
    refine gj_icmp_ne (tgt := 54) hO dX9_unit_47 (by decide) (fun h => ?_) (fun h => ?_)
    · replace hf := gj_f h hf
      refine gj_ldc hO wk_737 dX9_unit_54 ?_
      obtain ⟨hb6, hf⟩ := gj_c hf
      refine gj_iast hO kl_209 kd_209 hb6 dX9_unit_56 ?_
      refine gj_iinc (v := (a4.1 + 1)) (lv2 := [(3, gj_i (a4.1 + 1)), (0, gj_r 188), (1, gj_i b1), (2, gj_i b2)]) hO 3 dX9_unit_57 rfl rfl (by decide) rfl ?_
      refine gj_goto (tgt := 34) hO dX9_unit_60 (by decide) ?_
      obtain rfl := Option.some.inj hf
      refine gj_sub [1, 2, 3, 0] rfl ?_
      exact K
    · replace hf := gj_t h hf
      refine gj_iconst (v := 0) hO dX9_unit_50 (by decide) ?_
      refine gj_goto (tgt := 56) hO dX9_unit_51 (by decide) ?_
      obtain ⟨hb7, hf⟩ := gj_c hf
      refine gj_iast hO kl_209 kd_209 hb7 dX9_unit_56 ?_
      refine gj_iinc (v := (a4.1 + 1)) (lv2 := [(3, gj_i (a4.1 + 1)), (0, gj_r 188), (1, gj_i b1), (2, gj_i b2)]) hO 3 dX9_unit_57 rfl rfl (by decide) rfl ?_
      refine gj_goto (tgt := 34) hO dX9_unit_60 (by decide) ?_
      obtain rfl := Option.some.inj hf
      refine gj_sub [1, 2, 3, 0] rfl ?_
      exact K
set_option maxHeartbeats 4000000 in
set_option maxRecDepth 100000 in
theorem sb_X9_unit_l78 {E : gj_E} {X : gj_X} {r : Option gj_V} {τ : gj_S} (hO : gj_O E X RX9 cX9_unit 5 (some .int) 5 106) {b2 : Int32} {b3 : Int32} {a11 : (Int32 × gj_S)} {x : gj_S ⊕ (Int32 × gj_S)} (hf : fb_X9_unit_l78 b2 b3 a11 = some x) (K : gj_K (fun z11 => gj_G E X 5 r τ 188 [(0, gj_r 188), (2, gj_i b2), (3, gj_i b3)] [] z11) (fun a11 => gj_G E X 5 r τ 78 [(0, gj_r 188), (2, gj_i b2), (3, gj_i b3), (4, gj_i a11.1)] [] a11.2) x) : gj_G E X 5 r τ 78 [(0, gj_r 188), (2, gj_i b2), (3, gj_i b3), (4, gj_i a11.1)] [] a11.2 := by
  unfold fb_X9_unit_l78 at hf
  refine gj_iload hO 3 dX9_unit_78 rfl ?_
  refine gj_aload_n hO 0 dX9_unit_80 rfl rfl ?_
  refine gt_X9_12 hO wk_672 dX9_unit_81 ?_
  refine gj_iconst (v := 0) hO dX9_unit_84 (by decide) ?_
  obtain ⟨hb13, hf⟩ := gj_c hf
  refine gj_iald hO kl_191 kd_191 hb13 dX9_unit_85 ?_
  refine gj_icmp_ge (tgt := 188) hO dX9_unit_86 (by decide) (fun h => ?_) (fun h => ?_)
  · replace hf := gj_t h hf
    obtain rfl := Option.some.inj hf
    refine gj_sub [0, 1, 2] rfl ?_
    exact K
  · replace hf := gj_f h hf
    refine gj_aload_n hO 0 dX9_unit_89 rfl rfl ?_
    refine gt_X9_21 hO wk_704 dX9_unit_90 ?_
    refine gj_bipush (v := 50) hO dX9_unit_93 (by decide) ?_
    refine gj_iload hO 3 dX9_unit_95 rfl ?_
    refine gj_iadd hO dX9_unit_97 ?_
    obtain ⟨hb14, hf⟩ := gj_c hf
    refine gj_iald hO kl_198 kd_198 hb14 dX9_unit_98 ?_
    refine gj_aload_n hO 0 dX9_unit_99 rfl rfl ?_
    refine gt_X9_21 hO wk_704 dX9_unit_100 ?_
    refine gj_bipush (v := 24) hO dX9_unit_103 (by decide) ?_
    refine gj_iload hO 3 dX9_unit_105 rfl ?_
    refine gj_iadd hO dX9_unit_107 ?_
    obtain ⟨hb15, hf⟩ := gj_c hf
    refine gj_iald hO kl_198 kd_198 hb15 dX9_unit_108 ?_
    obtain ⟨z16, hz16, hf⟩ := gj_b hf
    have J16 : gj_G E X 5 r τ 140 [(0, gj_r 188), (2, gj_i b2), (3, gj_i b3), (4, gj_i a11.1)] [] z16 := by
      refine gj_aload_n hO 0 dX9_unit_140 rfl rfl ?_
      refine gt_X9_21 hO wk_704 dX9_unit_141 ?_
      refine gj_bipush (v := 50) hO dX9_unit_144 (by decide) ?_
      refine gj_iload hO 3 dX9_unit_146 rfl ?_
      refine gj_iadd hO dX9_unit_148 ?_
      obtain ⟨hb21, hf⟩ := gj_c hf
      refine gj_iald hO kl_198 kd_198 hb21 dX9_unit_149 ?_
      refine gj_if_le (tgt := 182) hO dX9_unit_150 (by decide) (fun h => ?_) (fun h => ?_)
      · replace hf := gj_t h hf
        refine gj_iinc (v := (a11.1 + 1)) (lv2 := [(4, gj_i (a11.1 + 1)), (0, gj_r 188), (2, gj_i b2), (3, gj_i b3)]) hO 3 dX9_unit_182 rfl rfl (by decide) rfl ?_
        refine gj_goto (tgt := 78) hO dX9_unit_185 (by decide) ?_
        obtain rfl := Option.some.inj hf
        refine gj_sub [1, 2, 3, 0] rfl ?_
        exact K
      · replace hf := gj_f h hf
        refine gj_aload_n hO 0 dX9_unit_153 rfl rfl ?_
        refine gj_aload_n hO 0 dX9_unit_154 rfl rfl ?_
        refine gt_X9_16 hO wk_687 dX9_unit_155 ?_
        refine gj_iload hO 3 dX9_unit_158 rfl ?_
        obtain ⟨hb22, hf⟩ := gj_c hf
        refine gj_iald hO kl_195 kd_195 hb22 dX9_unit_160 ?_
        refine gj_aload_n hO 0 dX9_unit_161 rfl rfl ?_
        refine gt_X9_15 hO wk_685 dX9_unit_162 ?_
        refine gj_iload hO 3 dX9_unit_165 rfl ?_
        obtain ⟨hb23, hf⟩ := gj_c hf
        refine gj_iald hO kl_194 kd_194 hb23 dX9_unit_167 ?_
        refine gj_aload_n hO 0 dX9_unit_168 rfl rfl ?_
        refine gt_X9_21 hO wk_704 dX9_unit_169 ?_
        refine gj_bipush (v := 8) hO dX9_unit_172 (by decide) ?_
        refine gj_iload hO 3 dX9_unit_174 rfl ?_
        refine gj_iadd hO dX9_unit_176 ?_
        obtain ⟨hb24, hf⟩ := gj_c hf
        refine gj_iald hO kl_198 kd_198 hb24 dX9_unit_177 ?_
        refine gj_ineg hO dX9_unit_178 ?_
        obtain ⟨x25, hc25, hf⟩ := gj_b hf
        refine ca_X9_cheaper hO  hc25 wk_909 (by decide) (by decide) (Nat.le_of_ble_eq_true rfl) dX9_unit_179 ?_
        refine gj_iinc (v := (a11.1 + 1)) (lv2 := [(4, gj_i (a11.1 + 1)), (0, gj_r 188), (2, gj_i b2), (3, gj_i b3)]) hO 3 dX9_unit_182 rfl rfl (by decide) rfl ?_
        refine gj_goto (tgt := 78) hO dX9_unit_185 (by decide) ?_
        obtain rfl := Option.some.inj hf
        refine gj_sub [1, 2, 3, 0] rfl ?_
        exact K
    refine gj_icmp_ge (tgt := 140) hO dX9_unit_109 (by decide) (fun h => ?_) (fun h => ?_)
    · replace hz16 := gj_t h hz16
      obtain rfl := Option.some.inj hz16
      refine gj_sub [0, 1, 2, 3] rfl ?_
      exact J16
    · replace hz16 := gj_f h hz16
      refine gj_aload_n hO 0 dX9_unit_112 rfl rfl ?_
      refine gj_aload_n hO 0 dX9_unit_113 rfl rfl ?_
      refine gt_X9_15 hO wk_685 dX9_unit_114 ?_
      refine gj_iload hO 3 dX9_unit_117 rfl ?_
      obtain ⟨hb17, hz16⟩ := gj_c hz16
      refine gj_iald hO kl_194 kd_194 hb17 dX9_unit_119 ?_
      refine gj_aload_n hO 0 dX9_unit_120 rfl rfl ?_
      refine gt_X9_16 hO wk_687 dX9_unit_121 ?_
      refine gj_iload hO 3 dX9_unit_124 rfl ?_
      obtain ⟨hb18, hz16⟩ := gj_c hz16
      refine gj_iald hO kl_195 kd_195 hb18 dX9_unit_126 ?_
      refine gj_aload_n hO 0 dX9_unit_127 rfl rfl ?_
      refine gt_X9_21 hO wk_704 dX9_unit_128 ?_
      refine gj_bipush (v := 8) hO dX9_unit_131 (by decide) ?_
      refine gj_iload hO 3 dX9_unit_133 rfl ?_
      refine gj_iadd hO dX9_unit_135 ?_
      obtain ⟨hb19, hz16⟩ := gj_c hz16
      refine gj_iald hO kl_198 kd_198 hb19 dX9_unit_136 ?_
      obtain ⟨x20, hc20, hz16⟩ := gj_b hz16
      refine ca_X9_cheaper hO  hc20 wk_909 (by decide) (by decide) (Nat.le_of_ble_eq_true rfl) dX9_unit_137 ?_
      obtain rfl := Option.some.inj hz16
      refine gj_sub [0, 1, 2, 3] rfl ?_
      exact J16
set_option maxHeartbeats 4000000 in
set_option maxRecDepth 100000 in
theorem sb_X9_unit_l65 {E : gj_E} {X : gj_X} {r : Option gj_V} {τ : gj_S} (hO : gj_O E X RX9 cX9_unit 5 (some .int) 5 106) {b2 : Int32} {a8 : (Int32 × gj_S)} {x : gj_S ⊕ (Int32 × gj_S)} (hf : fb_X9_unit_l65 b2 a8 = some x) (K : gj_K (fun z8 => gj_G E X 5 r τ 194 [(0, gj_r 188), (2, gj_i b2)] [] z8) (fun a8 => gj_G E X 5 r τ 65 [(0, gj_r 188), (2, gj_i b2), (3, gj_i a8.1)] [] a8.2) x) : gj_G E X 5 r τ 65 [(0, gj_r 188), (2, gj_i b2), (3, gj_i a8.1)] [] a8.2 := by
  unfold fb_X9_unit_l65 at hf
  refine gj_iload_n hO 2 dX9_unit_65 rfl rfl ?_
  refine gj_aload_n hO 0 dX9_unit_66 rfl rfl ?_
  refine gt_X9_11 hO wk_670 dX9_unit_67 ?_
  refine gj_iconst (v := 0) hO dX9_unit_70 (by decide) ?_
  obtain ⟨hb10, hf⟩ := gj_c hf
  refine gj_iald hO kl_190 kd_190 hb10 dX9_unit_71 ?_
  refine gj_icmp_ge (tgt := 194) hO dX9_unit_72 (by decide) (fun h => ?_) (fun h => ?_)
  · replace hf := gj_t h hf
    obtain rfl := Option.some.inj hf
    refine gj_sub [0, 1] rfl ?_
    exact K
  · replace hf := gj_f h hf
    refine gj_iconst (v := 0) hO dX9_unit_75 (by decide) ?_
    refine gj_istore (lv2 := [(4, gj_i (0 : Int32)), (0, gj_r 188), (2, gj_i b2), (3, gj_i a8.1)]) hO dX9_unit_76 (by decide) rfl ?_
    obtain ⟨z11, hz11, hf⟩ := gj_b hf
    have J11 : gj_G E X 5 r τ 188 [(0, gj_r 188), (2, gj_i b2), (3, gj_i a8.1)] [] z11 := by
      refine gj_iinc (v := (a8.1 + 1)) (lv2 := [(3, gj_i (a8.1 + 1)), (0, gj_r 188), (2, gj_i b2)]) hO 2 dX9_unit_188 rfl rfl (by decide) rfl ?_
      refine gj_goto (tgt := 65) hO dX9_unit_191 (by decide) ?_
      obtain rfl := Option.some.inj hf
      refine gj_sub [1, 2, 0] rfl ?_
      exact K
    refine gj_sub [1, 2, 3, 0] rfl ?_
    exact gj_loop (head := fun a11 => gj_G E X 5 r τ 78 [(0, gj_r 188), (2, gj_i b2), (3, gj_i a8.1), (4, gj_i a11.1)] [] a11.2) (exit := fun z11 => gj_G E X 5 r τ 188 [(0, gj_r 188), (2, gj_i b2), (3, gj_i a8.1)] [] z11) (fun a11 x hf K => sb_X9_unit_l78 hO hf K) _ _ _ hz11 J11
set_option maxHeartbeats 4000000 in
set_option maxRecDepth 100000 in
theorem m_X9_unit {E : gj_E} {σ : gj_S} {b1 : Int32} {b2 : Int32}  {x : (Int32 × gj_S)} (hf : f_X9_unit b1 b2 σ = some x) : gj_M E yX9_unit cX9_unit 5 (some .int) 5 106 [gj_r 188, gj_i b1, gj_i b2] σ (some (gj_i x.1)) x.2 := by
  refine gj_body (lv := [(0, gj_r 188), (1, gj_i b1), (2, gj_i b2)]) (by decide +kernel) (Nat.le_of_ble_eq_true rfl) rfl (fun X hO => ?_)
  replace hO : gj_O E X RX9 cX9_unit 5 (some .int) 5 106 := hO
  unfold f_X9_unit at hf
  refine gj_aload_n hO 0 dX9_unit_0 rfl rfl ?_
  refine gj_iconst (v := 0) hO dX9_unit_1 (by decide) ?_
  refine pt_X9_0 hO wk_604 dX9_unit_2 ?_
  refine gj_aload_n hO 0 dX9_unit_5 rfl rfl ?_
  refine gj_iload_n hO 1 dX9_unit_6 rfl rfl ?_
  obtain ⟨x1, hc1, hf⟩ := gj_b hf
  refine ca_X9_isDock hO  hc1 wk_786 (by decide) (by decide) (Nat.le_of_ble_eq_true rfl) dX9_unit_7 ?_
  refine gj_if_eq (tgt := 28) hO dX9_unit_10 (by decide) (fun h => ?_) (fun h => ?_)
  · replace hf := gj_t h hf
    refine gj_ldcw hO wk_887 dX9_unit_28 ?_
    obtain rfl := Option.some.inj hf
    exact gj_iret hO dX9_unit_31
  · replace hf := gj_f h hf
    refine gj_aload_n hO 0 dX9_unit_13 rfl rfl ?_
    refine gj_iload_n hO 2 dX9_unit_14 rfl rfl ?_
    obtain ⟨x2, hc2, hf⟩ := gj_b hf
    refine ca_X9_isDock hO  hc2 wk_786 (by decide) (by decide) (Nat.le_of_ble_eq_true rfl) dX9_unit_15 ?_
    refine gj_if_eq (tgt := 28) hO dX9_unit_18 (by decide) (fun h => ?_) (fun h => ?_)
    · replace hf := gj_t h hf
      refine gj_ldcw hO wk_887 dX9_unit_28 ?_
      obtain rfl := Option.some.inj hf
      exact gj_iret hO dX9_unit_31
    · replace hf := gj_f h hf
      refine gj_aload_n hO 0 dX9_unit_21 rfl rfl ?_
      obtain ⟨x3, hc3, hf⟩ := gj_b hf
      refine ca_X9_isEnd hO  hc3 wk_864 (by decide) (by decide) (Nat.le_of_ble_eq_true rfl) dX9_unit_22 ?_
      refine gj_if_ne (tgt := 32) hO dX9_unit_25 (by decide) (fun h => ?_) (fun h => ?_)
      · replace hf := gj_f h hf
        refine gj_iconst (v := 0) hO dX9_unit_32 (by decide) ?_
        refine gj_istore_n (lv2 := [(3, gj_i (0 : Int32)), (0, gj_r 188), (1, gj_i b1), (2, gj_i b2)]) hO dX9_unit_33 rfl (by decide) rfl ?_
        obtain ⟨z4, hz4, hf⟩ := gj_b hf
        have J4 : gj_G E X 5 (some (gj_i x.1)) x.2 63 [(0, gj_r 188), (2, gj_i b2)] [] z4 := by
          refine gj_iconst (v := 0) hO dX9_unit_63 (by decide) ?_
          refine gj_istore_n (lv2 := [(3, gj_i (0 : Int32)), (0, gj_r 188), (2, gj_i b2)]) hO dX9_unit_64 rfl (by decide) rfl ?_
          obtain ⟨z8, hz8, hf⟩ := gj_b hf
          have J8 : gj_G E X 5 (some (gj_i x.1)) x.2 194 [(0, gj_r 188), (2, gj_i b2)] [] z8 := by
            refine gj_aload_n hO 0 dX9_unit_194 rfl rfl ?_
            refine gt_X9_38 hO wk_905 dX9_unit_195 ?_
            refine gj_iload_n hO 1 dX9_unit_198 rfl rfl ?_
            obtain ⟨hb26, hf⟩ := gj_c hf
            refine gj_iald hO kl_209 kd_209 hb26 dX9_unit_199 ?_
            refine gj_ldc hO wk_737 dX9_unit_200 ?_
            refine gj_icmp_ne (tgt := 211) hO dX9_unit_202 (by decide) (fun h => ?_) (fun h => ?_)
            · replace hf := gj_f h hf
              refine gj_aload_n hO 0 dX9_unit_211 rfl rfl ?_
              refine gt_X9_38 hO wk_905 dX9_unit_212 ?_
              refine gj_iload_n hO 1 dX9_unit_215 rfl rfl ?_
              obtain ⟨hb27, hf⟩ := gj_c hf
              refine gj_iald hO kl_209 kd_209 hb27 dX9_unit_216 ?_
              obtain rfl := Option.some.inj hf
              exact gj_iret hO dX9_unit_217
            · replace hf := gj_t h hf
              refine gj_ldcw hO wk_887 dX9_unit_205 ?_
              refine gj_goto (tgt := 217) hO dX9_unit_208 (by decide) ?_
              obtain rfl := Option.some.inj hf
              exact gj_iret hO dX9_unit_217
          refine gj_sub [1, 2, 0] rfl ?_
          exact gj_loop (head := fun a8 => gj_G E X 5 (some (gj_i x.1)) x.2 65 [(0, gj_r 188), (2, gj_i b2), (3, gj_i a8.1)] [] a8.2) (exit := fun z8 => gj_G E X 5 (some (gj_i x.1)) x.2 194 [(0, gj_r 188), (2, gj_i b2)] [] z8) (fun a8 x hf K => sb_X9_unit_l65 hO hf K) _ _ _ hz8 J8
        refine gj_sub [1, 2, 3, 0] rfl ?_
        exact gj_loop (head := fun a4 => gj_G E X 5 (some (gj_i x.1)) x.2 34 [(0, gj_r 188), (1, gj_i b1), (2, gj_i b2), (3, gj_i a4.1)] [] a4.2) (exit := fun z4 => gj_G E X 5 (some (gj_i x.1)) x.2 63 [(0, gj_r 188), (2, gj_i b2)] [] z4) (fun a4 x hf K => sb_X9_unit_l34 hO hf K) _ _ _ hz4 J4
      · replace hf := gj_t h hf
        refine gj_ldcw hO wk_887 dX9_unit_28 ?_
        obtain rfl := Option.some.inj hf
        exact gj_iret hO dX9_unit_31
set_option maxHeartbeats 4000000 in
set_option maxRecDepth 100000 in
theorem ca_X9_unit {E : gj_E} {X : gj_X} {own : String} {cc : ByteArray} {nL : Nat} {rt : Option FieldType} {fr lo : Nat} {r : Option gj_V} {τ : gj_S} {pc : Nat} {lv : List (Nat × gj_V)} {st : List gj_V} {σ : gj_S} (hO : gj_O E X own cc nL rt fr lo) {b1 : Int32} {b2 : Int32}  {idx : Nat} {x : (Int32 × gj_S)} (hf : f_X9_unit b1 b2 σ = some x) (hl : Cond.methodLink own idx yX9_unit ∈ gj_gw) (hf1 : 6 ≤ fr) (hf2 : 130 ≤ lo) (hcat : ((st.map (gj_tv E.2.1)).map fun v => v.category).sum ≤ 8) (hd : decode cc pc = .ok (.invokevirtual idx, 3)) (k : gj_G E X nL r τ (pc + 3) lv ((gj_i x.1) :: st) x.2) : gj_G E X nL r τ pc lv (gj_i b2 :: gj_i b1 :: gj_r 188 :: st) σ :=
  gj_callV hO (o := 188) (vs := [gj_i b1, gj_i b2]) (m_X9_unit  hf) hl wk_910 wk_911 wk_607 wk_912 kl_188 kd_188 (by decide) (ci := 9) rfl (n := 2) (by decide +kernel) rfl hf1 hf2 rfl hcat hd k
def fb_X9_range_l41 (b1 : Int32) (b2 : Int32) (b3 : Int32) (a4 : (Int32 × Int32 × gj_S)) : Option ((Int32 × gj_S) ⊕ (Int32 × Int32 × gj_S)) := (if (999 : Int32) < a4.2.1 then some (.inl (a4.1, a4.2.2)) else (if a4.1 = (-1 : Int32) then ((if b2 = 0 then some a4.2.1 else some ((999 : Int32) - a4.2.1) : Option Int32).bind fun z6 => (if gj_in ((8 : Int32) + b1) 180 then ((f_X9_isEnd (gj_sI a4.2.2 198 (upd (a4.2.2.1 198) (Int32.toNatClampNeg ((8 : Int32) + b1)) z6))).bind fun x8 => (if x8.1 = 0 then some (.inr (a4.1, (a4.2.1 + 1), x8.2)) else some (.inr (z6, (a4.2.1 + 1), x8.2)))) else none)) else some (.inl (a4.1, a4.2.2))))
def f_X9_range (b1 : Int32) (b2 : Int32) (σ : gj_S) : Option (Int32 × gj_S) := ((f_X9_isRoute b1 (gj_sI σ 188 (upd (σ.1 188) 0 (0 : Int32)))).bind fun x1 => (if x1 = 0 then some ((-1 : Int32), (gj_sI σ 188 (upd (σ.1 188) 0 (0 : Int32)))) else ((f_X9_isEnd (gj_sI σ 188 (upd (σ.1 188) 0 (0 : Int32)))).bind fun x2 => (if x2.1 = 0 then some ((-2 : Int32), x2.2) else (if gj_in ((8 : Int32) + b1) 180 then ((gj_lp (fb_X9_range_l41 b1 b2 (x2.2.1 198 (Int32.toNatClampNeg ((8 : Int32) + b1)))) 5000 ((-1 : Int32), (0 : Int32), x2.2)).bind fun z4 => (if gj_in ((8 : Int32) + b1) 180 then some (z4.1, (gj_sI z4.2 198 (upd (z4.2.1 198) (Int32.toNatClampNeg ((8 : Int32) + b1)) (x2.2.1 198 (Int32.toNatClampNeg ((8 : Int32) + b1)))))) else none)) else none)))))
set_option maxHeartbeats 4000000 in
set_option maxRecDepth 100000 in
theorem sb_X9_range_l41 {E : gj_E} {X : gj_X} {r : Option gj_V} {τ : gj_S} (hO : gj_O E X RX9 cX9_range 7 (some .int) 5 106) {b1 : Int32} {b2 : Int32} {b3 : Int32} {a4 : (Int32 × Int32 × gj_S)} {x : (Int32 × gj_S) ⊕ (Int32 × Int32 × gj_S)} (hf : fb_X9_range_l41 b1 b2 b3 a4 = some x) (K : gj_K (fun z4 => gj_G E X 7 r τ 100 [(0, gj_r 188), (1, gj_i b1), (3, gj_i b3), (4, gj_i z4.1)] [] z4.2) (fun a4 => gj_G E X 7 r τ 41 [(0, gj_r 188), (1, gj_i b1), (2, gj_i b2), (3, gj_i b3), (4, gj_i a4.1), (5, gj_i a4.2.1)] [] a4.2.2) x) : gj_G E X 7 r τ 41 [(0, gj_r 188), (1, gj_i b1), (2, gj_i b2), (3, gj_i b3), (4, gj_i a4.1), (5, gj_i a4.2.1)] [] a4.2.2 := by
  unfold fb_X9_range_l41 at hf
  refine gj_iload hO 5 dX9_range_41 rfl ?_
  refine gj_sipush (v := 999) hO dX9_range_43 (by decide) ?_
  refine gj_icmp_gt (tgt := 100) hO dX9_range_46 (by decide) (fun h => ?_) (fun h => ?_)
  · replace hf := gj_t h hf
    obtain rfl := Option.some.inj hf
    refine gj_sub [0, 1, 3, 4] rfl ?_
    exact K
  · replace hf := gj_f h hf
    refine gj_iload hO 4 dX9_range_49 rfl ?_
    refine gj_iconst (v := (-1)) hO dX9_range_51 (by decide) ?_
    refine gj_icmp_ne (tgt := 100) hO dX9_range_52 (by decide) (fun h => ?_) (fun h => ?_)
    · replace hf := gj_f h hf
      obtain rfl := Option.some.inj hf
      refine gj_sub [0, 1, 3, 4] rfl ?_
      exact K
    · replace hf := gj_t h hf
      refine gj_iload_n hO 2 dX9_range_55 rfl rfl ?_
      obtain ⟨z6, hz6, hf⟩ := gj_b hf
      have J6 : gj_G E X 7 r τ 70 [(0, gj_r 188), (1, gj_i b1), (2, gj_i b2), (3, gj_i b3), (4, gj_i a4.1), (5, gj_i a4.2.1)] [gj_i z6] a4.2.2 := by
        refine gj_istore (lv2 := [(6, gj_i z6), (0, gj_r 188), (1, gj_i b1), (2, gj_i b2), (3, gj_i b3), (4, gj_i a4.1), (5, gj_i a4.2.1)]) hO dX9_range_70 (by decide) rfl ?_
        refine gj_aload_n hO 1 dX9_range_72 rfl rfl ?_
        refine gt_X9_21 hO wk_704 dX9_range_73 ?_
        refine gj_bipush (v := 8) hO dX9_range_76 (by decide) ?_
        refine gj_iload_n hO 2 dX9_range_78 rfl rfl ?_
        refine gj_iadd hO dX9_range_79 ?_
        refine gj_iload hO 0 dX9_range_80 rfl ?_
        obtain ⟨hb7, hf⟩ := gj_c hf
        refine gj_iast hO kl_198 kd_198 hb7 dX9_range_82 ?_
        refine gj_aload_n hO 1 dX9_range_83 rfl rfl ?_
        obtain ⟨x8, hc8, hf⟩ := gj_b hf
        refine ca_X9_isEnd hO  hc8 wk_864 (by decide) (by decide) (Nat.le_of_ble_eq_true rfl) dX9_range_84 ?_
        refine gj_if_eq (tgt := 94) hO dX9_range_87 (by decide) (fun h => ?_) (fun h => ?_)
        · replace hf := gj_t h hf
          refine gj_iinc (v := (a4.2.1 + 1)) (lv2 := [(5, gj_i (a4.2.1 + 1)), (6, gj_i z6), (0, gj_r 188), (1, gj_i b1), (2, gj_i b2), (3, gj_i b3), (4, gj_i a4.1)]) hO 6 dX9_range_94 rfl rfl (by decide) rfl ?_
          refine gj_goto (tgt := 41) hO dX9_range_97 (by decide) ?_
          obtain rfl := Option.some.inj hf
          refine gj_sub [2, 3, 4, 5, 6, 0] rfl ?_
          exact K
        · replace hf := gj_f h hf
          refine gj_iload hO 0 dX9_range_90 rfl ?_
          refine gj_istore (lv2 := [(4, gj_i z6), (6, gj_i z6), (0, gj_r 188), (1, gj_i b1), (2, gj_i b2), (3, gj_i b3), (5, gj_i a4.2.1)]) hO dX9_range_92 (by decide) rfl ?_
          refine gj_iinc (v := (a4.2.1 + 1)) (lv2 := [(5, gj_i (a4.2.1 + 1)), (4, gj_i z6), (6, gj_i z6), (0, gj_r 188), (1, gj_i b1), (2, gj_i b2), (3, gj_i b3)]) hO 6 dX9_range_94 rfl rfl (by decide) rfl ?_
          refine gj_goto (tgt := 41) hO dX9_range_97 (by decide) ?_
          obtain rfl := Option.some.inj hf
          refine gj_sub [3, 4, 5, 6, 1, 0] rfl ?_
          exact K
      refine gj_if_eq (tgt := 68) hO dX9_range_56 (by decide) (fun h => ?_) (fun h => ?_)
      · replace hz6 := gj_t h hz6
        refine gj_iload hO 5 dX9_range_68 rfl ?_
        obtain rfl := Option.some.inj hz6
        refine gj_sub [0, 1, 2, 3, 4, 5] rfl ?_
        exact J6
      · replace hz6 := gj_f h hz6
        refine gj_sipush (v := 999) hO dX9_range_59 (by decide) ?_
        refine gj_iload hO 5 dX9_range_62 rfl ?_
        refine gj_isub hO dX9_range_64 ?_
        refine gj_goto (tgt := 70) hO dX9_range_65 (by decide) ?_
        obtain rfl := Option.some.inj hz6
        refine gj_sub [0, 1, 2, 3, 4, 5] rfl ?_
        exact J6
set_option maxHeartbeats 4000000 in
set_option maxRecDepth 100000 in
theorem m_X9_range {E : gj_E} {σ : gj_S} {b1 : Int32} {b2 : Int32}  {x : (Int32 × gj_S)} (hf : f_X9_range b1 b2 σ = some x) : gj_M E yX9_range cX9_range 7 (some .int) 5 106 [gj_r 188, gj_i b1, gj_i b2] σ (some (gj_i x.1)) x.2 := by
  refine gj_body (lv := [(0, gj_r 188), (1, gj_i b1), (2, gj_i b2)]) (by decide +kernel) (Nat.le_of_ble_eq_true rfl) rfl (fun X hO => ?_)
  replace hO : gj_O E X RX9 cX9_range 7 (some .int) 5 106 := hO
  unfold f_X9_range at hf
  refine gj_aload_n hO 0 dX9_range_0 rfl rfl ?_
  refine gj_iconst (v := 0) hO dX9_range_1 (by decide) ?_
  refine pt_X9_0 hO wk_604 dX9_range_2 ?_
  refine gj_aload_n hO 0 dX9_range_5 rfl rfl ?_
  refine gj_iload_n hO 1 dX9_range_6 rfl rfl ?_
  obtain ⟨x1, hc1, hf⟩ := gj_b hf
  refine ca_X9_isRoute hO  hc1 wk_913 (by decide) (by decide) (Nat.le_of_ble_eq_true rfl) dX9_range_7 ?_
  refine gj_if_ne (tgt := 15) hO dX9_range_10 (by decide) (fun h => ?_) (fun h => ?_)
  · replace hf := gj_f h hf
    refine gj_aload_n hO 0 dX9_range_15 rfl rfl ?_
    obtain ⟨x2, hc2, hf⟩ := gj_b hf
    refine ca_X9_isEnd hO  hc2 wk_864 (by decide) (by decide) (Nat.le_of_ble_eq_true rfl) dX9_range_16 ?_
    refine gj_if_ne (tgt := 25) hO dX9_range_19 (by decide) (fun h => ?_) (fun h => ?_)
    · replace hf := gj_f h hf
      refine gj_aload_n hO 0 dX9_range_25 rfl rfl ?_
      refine gt_X9_21 hO wk_704 dX9_range_26 ?_
      refine gj_bipush (v := 8) hO dX9_range_29 (by decide) ?_
      refine gj_iload_n hO 1 dX9_range_31 rfl rfl ?_
      refine gj_iadd hO dX9_range_32 ?_
      obtain ⟨hb3, hf⟩ := gj_c hf
      refine gj_iald hO kl_198 kd_198 hb3 dX9_range_33 ?_
      refine gj_istore_n (lv2 := [(3, gj_i (x2.2.1 198 (Int32.toNatClampNeg ((8 : Int32) + b1)))), (0, gj_r 188), (1, gj_i b1), (2, gj_i b2)]) hO dX9_range_34 rfl (by decide) rfl ?_
      refine gj_iconst (v := (-1)) hO dX9_range_35 (by decide) ?_
      refine gj_istore (lv2 := [(4, gj_i (-1 : Int32)), (3, gj_i (x2.2.1 198 (Int32.toNatClampNeg ((8 : Int32) + b1)))), (0, gj_r 188), (1, gj_i b1), (2, gj_i b2)]) hO dX9_range_36 (by decide) rfl ?_
      refine gj_iconst (v := 0) hO dX9_range_38 (by decide) ?_
      refine gj_istore (lv2 := [(5, gj_i (0 : Int32)), (4, gj_i (-1 : Int32)), (3, gj_i (x2.2.1 198 (Int32.toNatClampNeg ((8 : Int32) + b1)))), (0, gj_r 188), (1, gj_i b1), (2, gj_i b2)]) hO dX9_range_39 (by decide) rfl ?_
      obtain ⟨z4, hz4, hf⟩ := gj_b hf
      have J4 : gj_G E X 7 (some (gj_i x.1)) x.2 100 [(0, gj_r 188), (1, gj_i b1), (3, gj_i (x2.2.1 198 (Int32.toNatClampNeg ((8 : Int32) + b1)))), (4, gj_i z4.1)] [] z4.2 := by
        refine gj_aload_n hO 0 dX9_range_100 rfl rfl ?_
        refine gt_X9_21 hO wk_704 dX9_range_101 ?_
        refine gj_bipush (v := 8) hO dX9_range_104 (by decide) ?_
        refine gj_iload_n hO 1 dX9_range_106 rfl rfl ?_
        refine gj_iadd hO dX9_range_107 ?_
        refine gj_iload_n hO 2 dX9_range_108 rfl rfl ?_
        obtain ⟨hb9, hf⟩ := gj_c hf
        refine gj_iast hO kl_198 kd_198 hb9 dX9_range_109 ?_
        refine gj_iload hO 3 dX9_range_110 rfl ?_
        obtain rfl := Option.some.inj hf
        exact gj_iret hO dX9_range_112
      refine gj_sub [3, 4, 5, 2, 1, 0] rfl ?_
      exact gj_loop (head := fun a4 => gj_G E X 7 (some (gj_i x.1)) x.2 41 [(0, gj_r 188), (1, gj_i b1), (2, gj_i b2), (3, gj_i (x2.2.1 198 (Int32.toNatClampNeg ((8 : Int32) + b1)))), (4, gj_i a4.1), (5, gj_i a4.2.1)] [] a4.2.2) (exit := fun z4 => gj_G E X 7 (some (gj_i x.1)) x.2 100 [(0, gj_r 188), (1, gj_i b1), (3, gj_i (x2.2.1 198 (Int32.toNatClampNeg ((8 : Int32) + b1)))), (4, gj_i z4.1)] [] z4.2) (fun a4 x hf K => sb_X9_range_l41 hO hf K) _ _ _ hz4 J4
    · replace hf := gj_t h hf
      refine gj_bipush (v := (-2)) hO dX9_range_22 (by decide) ?_
      obtain rfl := Option.some.inj hf
      exact gj_iret hO dX9_range_24
  · replace hf := gj_t h hf
    refine gj_iconst (v := (-1)) hO dX9_range_13 (by decide) ?_
    obtain rfl := Option.some.inj hf
    exact gj_iret hO dX9_range_14
set_option maxHeartbeats 4000000 in
set_option maxRecDepth 100000 in
theorem ca_X9_range {E : gj_E} {X : gj_X} {own : String} {cc : ByteArray} {nL : Nat} {rt : Option FieldType} {fr lo : Nat} {r : Option gj_V} {τ : gj_S} {pc : Nat} {lv : List (Nat × gj_V)} {st : List gj_V} {σ : gj_S} (hO : gj_O E X own cc nL rt fr lo) {b1 : Int32} {b2 : Int32}  {idx : Nat} {x : (Int32 × gj_S)} (hf : f_X9_range b1 b2 σ = some x) (hl : Cond.methodLink own idx yX9_range ∈ gj_gw) (hf1 : 6 ≤ fr) (hf2 : 132 ≤ lo) (hcat : ((st.map (gj_tv E.2.1)).map fun v => v.category).sum ≤ 8) (hd : decode cc pc = .ok (.invokevirtual idx, 3)) (k : gj_G E X nL r τ (pc + 3) lv ((gj_i x.1) :: st) x.2) : gj_G E X nL r τ pc lv (gj_i b2 :: gj_i b1 :: gj_r 188 :: st) σ :=
  gj_callV hO (o := 188) (vs := [gj_i b1, gj_i b2]) (m_X9_range  hf) hl wk_914 wk_915 wk_607 wk_916 kl_188 kd_188 (by decide) (ci := 9) rfl (n := 2) (by decide +kernel) rfl hf1 hf2 rfl hcat hd k
def fb_X9_tried_l72 (b1 : Int32) (b2 : Int32) (b3 : Int32) (b4 : Int32) (a4 : (Int32 × gj_S)) : Option (gj_S ⊕ (Int32 × gj_S)) := (if (180 : Int32) ≤ a4.1 then some (.inl a4.2) else (if gj_in a4.1 180 then (if gj_in a4.1 180 then some (.inr ((a4.1 + 1), (gj_sI a4.2 202 (upd (a4.2.1 202) (Int32.toNatClampNeg a4.1) (a4.2.1 198 (Int32.toNatClampNeg a4.1)))))) else none) else none))
def fb_X9_tried_l135 (b4 : Int32) (a11 : (Int32 × gj_S)) : Option (gj_S ⊕ (Int32 × gj_S)) := (if a11.1 = 0 then some (.inl a11.2) else ((f_X9_pivot a11.2).bind fun x13 => (if x13.1 = (-1 : Int32) then some (.inr ((0 : Int32), x13.2)) else some (.inr ((1 : Int32), x13.2)))))
def fb_X9_tried_l179 (b6 : Int32) (a17 : (Int32 × gj_S)) : Option (gj_S ⊕ (Int32 × gj_S)) := (if (180 : Int32) ≤ a17.1 then some (.inl a17.2) else (if gj_in a17.1 180 then (if gj_in a17.1 180 then some (.inr ((a17.1 + 1), (gj_sI a17.2 198 (upd (a17.2.1 198) (Int32.toNatClampNeg a17.1) (a17.2.1 202 (Int32.toNatClampNeg a17.1)))))) else none) else none))
def fb_X9_tried_l72 (b1 : Int32) (b2 : Int32) (b3 : Int32) (b4 : Int32) (a23 : (Int32 × gj_S)) : Option (gj_S ⊕ (Int32 × gj_S)) := (if (180 : Int32) ≤ a23.1 then some (.inl a23.2) else (if gj_in a23.1 180 then (if gj_in a23.1 180 then some (.inr ((a23.1 + 1), (gj_sI a23.2 202 (upd (a23.2.1 202) (Int32.toNatClampNeg a23.1) (a23.2.1 198 (Int32.toNatClampNeg a23.1)))))) else none) else none))
def fb_X9_tried_l135 (b4 : Int32) (a30 : (Int32 × gj_S)) : Option (gj_S ⊕ (Int32 × gj_S)) := (if a30.1 = 0 then some (.inl a30.2) else ((f_X9_pivot a30.2).bind fun x32 => (if x32.1 = (-1 : Int32) then some (.inr ((0 : Int32), x32.2)) else some (.inr ((1 : Int32), x32.2)))))
def fb_X9_tried_l179 (b6 : Int32) (a36 : (Int32 × gj_S)) : Option (gj_S ⊕ (Int32 × gj_S)) := (if (180 : Int32) ≤ a36.1 then some (.inl a36.2) else (if gj_in a36.1 180 then (if gj_in a36.1 180 then some (.inr ((a36.1 + 1), (gj_sI a36.2 198 (upd (a36.2.1 198) (Int32.toNatClampNeg a36.1) (a36.2.1 202 (Int32.toNatClampNeg a36.1)))))) else none) else none))
def f_X9_tried (b1 : Int32) (b2 : Int32) (b3 : Int32) (b4 : Int32) (σ : gj_S) : Option (Int32 × gj_S) := ((f_X9_within (Int32.toInt64 b1) (0 : Int64) (2 : Int64)).bind fun x1 => (if x1 = 0 then some ((-1 : Int32), (gj_sI σ 188 (upd (σ.1 188) 0 (0 : Int32)))) else (if (2 : Int32) ≤ b1 then ((f_X9_isDock b2 (gj_sI σ 188 (upd (σ.1 188) 0 (0 : Int32)))).bind fun x2 => (if x2 = 0 then some ((-1 : Int32), (gj_sI σ 188 (upd (σ.1 188) 0 (0 : Int32)))) else ((f_X9_within (Int32.toInt64 b3) (-999 : Int64) (999 : Int64)).bind fun x3 => (if x3 = 0 then some ((-1 : Int32), (gj_sI σ 188 (upd (σ.1 188) 0 (0 : Int32)))) else ((gj_lp (fb_X9_tried_l72 b1 b2 b3 b4) 5000 ((0 : Int32), (gj_sI σ 188 (upd (σ.1 188) 0 (0 : Int32))))).bind fun z4 => ((if b1 = 0 then some (8 : Int32) else (if b1 = (1 : Int32) then some (24 : Int32) else some (0 : Int32)) : Option Int32).bind fun z8 => (if gj_in (z8 + b2) 180 then ((f_X9_begins (gj_sI z4 198 (upd (z4.1 198) (Int32.toNatClampNeg (z8 + b2)) b3))).bind fun x10 => ((gj_lp (fb_X9_tried_l135 b4) 1000000000 ((1 : Int32), x10)).bind fun z11 => ((if b4 = 0 then ((f_X9_costNow z11).bind fun x15 => some x15) else ((f_X9_allLack z11).bind fun x16 => some x16) : Option Int32).bind fun z14 => ((gj_lp (fb_X9_tried_l179 z14) 5000 ((0 : Int32), z11)).bind fun z17 => some (z14, z17))))) else none))))))) else ((f_X9_isRoute b2 (gj_sI σ 188 (upd (σ.1 188) 0 (0 : Int32)))).bind fun x21 => (if x21 = 0 then some ((-1 : Int32), (gj_sI σ 188 (upd (σ.1 188) 0 (0 : Int32)))) else ((f_X9_within (Int32.toInt64 b3) (0 : Int64) (999 : Int64)).bind fun x22 => (if x22 = 0 then some ((-1 : Int32), (gj_sI σ 188 (upd (σ.1 188) 0 (0 : Int32)))) else ((gj_lp (fb_X9_tried_l72 b1 b2 b3 b4) 5000 ((0 : Int32), (gj_sI σ 188 (upd (σ.1 188) 0 (0 : Int32))))).bind fun z23 => ((if b1 = 0 then some (8 : Int32) else (if b1 = (1 : Int32) then some (24 : Int32) else some (0 : Int32)) : Option Int32).bind fun z27 => (if gj_in (z27 + b2) 180 then ((f_X9_begins (gj_sI z23 198 (upd (z23.1 198) (Int32.toNatClampNeg (z27 + b2)) b3))).bind fun x29 => ((gj_lp (fb_X9_tried_l135 b4) 1000000000 ((1 : Int32), x29)).bind fun z30 => ((if b4 = 0 then ((f_X9_costNow z30).bind fun x34 => some x34) else ((f_X9_allLack z30).bind fun x35 => some x35) : Option Int32).bind fun z33 => ((gj_lp (fb_X9_tried_l179 z33) 5000 ((0 : Int32), z30)).bind fun z36 => some (z33, z36))))) else none))))))))))
set_option maxHeartbeats 4000000 in
set_option maxRecDepth 100000 in
theorem sb_X9_tried_l72 {E : gj_E} {X : gj_X} {r : Option gj_V} {τ : gj_S} (hO : gj_O E X RX9 cX9_tried 8 (some .int) 5 117) {b1 : Int32} {b2 : Int32} {b3 : Int32} {b4 : Int32} {a4 : (Int32 × gj_S)} {x : gj_S ⊕ (Int32 × gj_S)} (hf : fb_X9_tried_l72 b1 b2 b3 b4 a4 = some x) (K : gj_K (fun z4 => gj_G E X 8 r τ 100 [(0, gj_r 188), (1, gj_i b1), (2, gj_i b2), (3, gj_i b3), (4, gj_i b4)] [] z4) (fun a4 => gj_G E X 8 r τ 72 [(0, gj_r 188), (1, gj_i b1), (2, gj_i b2), (3, gj_i b3), (4, gj_i b4), (5, gj_i a4.1)] [] a4.2) x) : gj_G E X 8 r τ 72 [(0, gj_r 188), (1, gj_i b1), (2, gj_i b2), (3, gj_i b3), (4, gj_i b4), (5, gj_i a4.1)] [] a4.2 := by
  unfold fb_X9_tried_l72 at hf
  refine gj_iload hO 5 dX9_tried_72 rfl ?_
  refine gj_sipush (v := 180) hO dX9_tried_74 (by decide) ?_
  refine gj_icmp_ge (tgt := 100) hO dX9_tried_77 (by decide) (fun h => ?_) (fun h => ?_)
  · replace hf := gj_t h hf
    obtain rfl := Option.some.inj hf
    refine gj_sub [0, 1, 2, 3, 4] rfl ?_
    exact K
  · replace hf := gj_f h hf
    refine gj_aload_n hO 0 dX9_tried_80 rfl rfl ?_
    refine gt_X9_26 hO wk_919 dX9_tried_81 ?_
    refine gj_iload hO 5 dX9_tried_84 rfl ?_
    refine gj_aload_n hO 0 dX9_tried_86 rfl rfl ?_
    refine gt_X9_21 hO wk_704 dX9_tried_87 ?_
    refine gj_iload hO 5 dX9_tried_90 rfl ?_
    obtain ⟨hb6, hf⟩ := gj_c hf
    refine gj_iald hO kl_198 kd_198 hb6 dX9_tried_92 ?_
    obtain ⟨hb7, hf⟩ := gj_c hf
    refine gj_iast hO kl_202 kd_202 hb7 dX9_tried_93 ?_
    refine gj_iinc (v := (a4.1 + 1)) (lv2 := [(5, gj_i (a4.1 + 1)), (0, gj_r 188), (1, gj_i b1), (2, gj_i b2), (3, gj_i b3), (4, gj_i b4)]) hO 5 dX9_tried_94 rfl rfl (by decide) rfl ?_
    refine gj_goto (tgt := 72) hO dX9_tried_97 (by decide) ?_
    obtain rfl := Option.some.inj hf
    refine gj_sub [1, 2, 3, 4, 5, 0] rfl ?_
    exact K
set_option maxHeartbeats 4000000 in
set_option maxRecDepth 100000 in
theorem sb_X9_tried_l135 {E : gj_E} {X : gj_X} {r : Option gj_V} {τ : gj_S} (hO : gj_O E X RX9 cX9_tried 8 (some .int) 5 117) {b4 : Int32} {a11 : (Int32 × gj_S)} {x : gj_S ⊕ (Int32 × gj_S)} (hf : fb_X9_tried_l135 b4 a11 = some x) (K : gj_K (fun z11 => gj_G E X 8 r τ 158 [(0, gj_r 188), (4, gj_i b4)] [] z11) (fun a11 => gj_G E X 8 r τ 135 [(0, gj_r 188), (4, gj_i b4), (5, gj_i a11.1)] [] a11.2) x) : gj_G E X 8 r τ 135 [(0, gj_r 188), (4, gj_i b4), (5, gj_i a11.1)] [] a11.2 := by
  unfold fb_X9_tried_l135 at hf
  refine gj_iload hO 2 dX9_tried_135 rfl ?_
  refine gj_if_eq (tgt := 158) hO dX9_tried_137 (by decide) (fun h => ?_) (fun h => ?_)
  · replace hf := gj_t h hf
    obtain rfl := Option.some.inj hf
    refine gj_sub [0, 1] rfl ?_
    exact K
  · replace hf := gj_f h hf
    refine gj_aload_n hO 0 dX9_tried_140 rfl rfl ?_
    obtain ⟨x13, hc13, hf⟩ := gj_b hf
    refine ca_X9_pivot hO  hc13 wk_866 (by decide) (by decide) (Nat.le_of_ble_eq_true rfl) dX9_tried_141 ?_
    refine gj_iconst (v := (-1)) hO dX9_tried_144 (by decide) ?_
    refine gj_icmp_eq (tgt := 152) hO dX9_tried_145 (by decide) (fun h => ?_) (fun h => ?_)
    · replace hf := gj_t h hf
      refine gj_iconst (v := 0) hO dX9_tried_152 (by decide) ?_
      refine gj_istore (lv2 := [(5, gj_i (0 : Int32)), (0, gj_r 188), (4, gj_i b4)]) hO dX9_tried_153 (by decide) rfl ?_
      refine gj_goto (tgt := 135) hO dX9_tried_155 (by decide) ?_
      obtain rfl := Option.some.inj hf
      refine gj_sub [1, 2, 0] rfl ?_
      exact K
    · replace hf := gj_f h hf
      refine gj_iconst (v := 1) hO dX9_tried_148 (by decide) ?_
      refine gj_goto (tgt := 153) hO dX9_tried_149 (by decide) ?_
      refine gj_istore (lv2 := [(5, gj_i (1 : Int32)), (0, gj_r 188), (4, gj_i b4)]) hO dX9_tried_153 (by decide) rfl ?_
      refine gj_goto (tgt := 135) hO dX9_tried_155 (by decide) ?_
      obtain rfl := Option.some.inj hf
      refine gj_sub [1, 2, 0] rfl ?_
      exact K
set_option maxHeartbeats 4000000 in
set_option maxRecDepth 100000 in
theorem sb_X9_tried_l179 {E : gj_E} {X : gj_X} {r : Option gj_V} {τ : gj_S} (hO : gj_O E X RX9 cX9_tried 8 (some .int) 5 117) {b6 : Int32} {a17 : (Int32 × gj_S)} {x : gj_S ⊕ (Int32 × gj_S)} (hf : fb_X9_tried_l179 b6 a17 = some x) (K : gj_K (fun z17 => gj_G E X 8 r τ 207 [(6, gj_i b6)] [] z17) (fun a17 => gj_G E X 8 r τ 179 [(0, gj_r 188), (6, gj_i b6), (7, gj_i a17.1)] [] a17.2) x) : gj_G E X 8 r τ 179 [(0, gj_r 188), (6, gj_i b6), (7, gj_i a17.1)] [] a17.2 := by
  unfold fb_X9_tried_l179 at hf
  refine gj_iload hO 2 dX9_tried_179 rfl ?_
  refine gj_sipush (v := 180) hO dX9_tried_181 (by decide) ?_
  refine gj_icmp_ge (tgt := 207) hO dX9_tried_184 (by decide) (fun h => ?_) (fun h => ?_)
  · replace hf := gj_t h hf
    obtain rfl := Option.some.inj hf
    refine gj_sub [1] rfl ?_
    exact K
  · replace hf := gj_f h hf
    refine gj_aload_n hO 0 dX9_tried_187 rfl rfl ?_
    refine gt_X9_21 hO wk_704 dX9_tried_188 ?_
    refine gj_iload hO 2 dX9_tried_191 rfl ?_
    refine gj_aload_n hO 0 dX9_tried_193 rfl rfl ?_
    refine gt_X9_26 hO wk_919 dX9_tried_194 ?_
    refine gj_iload hO 2 dX9_tried_197 rfl ?_
    obtain ⟨hb19, hf⟩ := gj_c hf
    refine gj_iald hO kl_202 kd_202 hb19 dX9_tried_199 ?_
    obtain ⟨hb20, hf⟩ := gj_c hf
    refine gj_iast hO kl_198 kd_198 hb20 dX9_tried_200 ?_
    refine gj_iinc (v := (a17.1 + 1)) (lv2 := [(7, gj_i (a17.1 + 1)), (0, gj_r 188), (6, gj_i b6)]) hO 2 dX9_tried_201 rfl rfl (by decide) rfl ?_
    refine gj_goto (tgt := 179) hO dX9_tried_204 (by decide) ?_
    obtain rfl := Option.some.inj hf
    refine gj_sub [1, 2, 0] rfl ?_
    exact K
set_option maxHeartbeats 4000000 in
set_option maxRecDepth 100000 in
theorem sb_X9_tried_l72 {E : gj_E} {X : gj_X} {r : Option gj_V} {τ : gj_S} (hO : gj_O E X RX9 cX9_tried 8 (some .int) 5 117) {b1 : Int32} {b2 : Int32} {b3 : Int32} {b4 : Int32} {a23 : (Int32 × gj_S)} {x : gj_S ⊕ (Int32 × gj_S)} (hf : fb_X9_tried_l72 b1 b2 b3 b4 a23 = some x) (K : gj_K (fun z23 => gj_G E X 8 r τ 100 [(0, gj_r 188), (1, gj_i b1), (2, gj_i b2), (3, gj_i b3), (4, gj_i b4)] [] z23) (fun a23 => gj_G E X 8 r τ 72 [(0, gj_r 188), (1, gj_i b1), (2, gj_i b2), (3, gj_i b3), (4, gj_i b4), (5, gj_i a23.1)] [] a23.2) x) : gj_G E X 8 r τ 72 [(0, gj_r 188), (1, gj_i b1), (2, gj_i b2), (3, gj_i b3), (4, gj_i b4), (5, gj_i a23.1)] [] a23.2 := by
  unfold fb_X9_tried_l72 at hf
  refine gj_iload hO 5 dX9_tried_72 rfl ?_
  refine gj_sipush (v := 180) hO dX9_tried_74 (by decide) ?_
  refine gj_icmp_ge (tgt := 100) hO dX9_tried_77 (by decide) (fun h => ?_) (fun h => ?_)
  · replace hf := gj_t h hf
    obtain rfl := Option.some.inj hf
    refine gj_sub [0, 1, 2, 3, 4] rfl ?_
    exact K
  · replace hf := gj_f h hf
    refine gj_aload_n hO 0 dX9_tried_80 rfl rfl ?_
    refine gt_X9_26 hO wk_919 dX9_tried_81 ?_
    refine gj_iload hO 5 dX9_tried_84 rfl ?_
    refine gj_aload_n hO 0 dX9_tried_86 rfl rfl ?_
    refine gt_X9_21 hO wk_704 dX9_tried_87 ?_
    refine gj_iload hO 5 dX9_tried_90 rfl ?_
    obtain ⟨hb25, hf⟩ := gj_c hf
    refine gj_iald hO kl_198 kd_198 hb25 dX9_tried_92 ?_
    obtain ⟨hb26, hf⟩ := gj_c hf
    refine gj_iast hO kl_202 kd_202 hb26 dX9_tried_93 ?_
    refine gj_iinc (v := (a23.1 + 1)) (lv2 := [(5, gj_i (a23.1 + 1)), (0, gj_r 188), (1, gj_i b1), (2, gj_i b2), (3, gj_i b3), (4, gj_i b4)]) hO 5 dX9_tried_94 rfl rfl (by decide) rfl ?_
    refine gj_goto (tgt := 72) hO dX9_tried_97 (by decide) ?_
    obtain rfl := Option.some.inj hf
    refine gj_sub [1, 2, 3, 4, 5, 0] rfl ?_
    exact K
set_option maxHeartbeats 4000000 in
set_option maxRecDepth 100000 in
theorem sb_X9_tried_l135 {E : gj_E} {X : gj_X} {r : Option gj_V} {τ : gj_S} (hO : gj_O E X RX9 cX9_tried 8 (some .int) 5 117) {b4 : Int32} {a30 : (Int32 × gj_S)} {x : gj_S ⊕ (Int32 × gj_S)} (hf : fb_X9_tried_l135 b4 a30 = some x) (K : gj_K (fun z30 => gj_G E X 8 r τ 158 [(0, gj_r 188), (4, gj_i b4)] [] z30) (fun a30 => gj_G E X 8 r τ 135 [(0, gj_r 188), (4, gj_i b4), (5, gj_i a30.1)] [] a30.2) x) : gj_G E X 8 r τ 135 [(0, gj_r 188), (4, gj_i b4), (5, gj_i a30.1)] [] a30.2 := by
  unfold fb_X9_tried_l135 at hf
  refine gj_iload hO 2 dX9_tried_135 rfl ?_
  refine gj_if_eq (tgt := 158) hO dX9_tried_137 (by decide) (fun h => ?_) (fun h => ?_)
  · replace hf := gj_t h hf
    obtain rfl := Option.some.inj hf
    refine gj_sub [0, 1] rfl ?_
    exact K
  · replace hf := gj_f h hf
    refine gj_aload_n hO 0 dX9_tried_140 rfl rfl ?_
    obtain ⟨x32, hc32, hf⟩ := gj_b hf
    refine ca_X9_pivot hO  hc32 wk_866 (by decide) (by decide) (Nat.le_of_ble_eq_true rfl) dX9_tried_141 ?_
    refine gj_iconst (v := (-1)) hO dX9_tried_144 (by decide) ?_
    refine gj_icmp_eq (tgt := 152) hO dX9_tried_145 (by decide) (fun h => ?_) (fun h => ?_)
    · replace hf := gj_t h hf
      refine gj_iconst (v := 0) hO dX9_tried_152 (by decide) ?_
      refine gj_istore (lv2 := [(5, gj_i (0 : Int32)), (0, gj_r 188), (4, gj_i b4)]) hO dX9_tried_153 (by decide) rfl ?_
      refine gj_goto (tgt := 135) hO dX9_tried_155 (by decide) ?_
      obtain rfl := Option.some.inj hf
      refine gj_sub [1, 2, 0] rfl ?_
      exact K
    · replace hf := gj_f h hf
      refine gj_iconst (v := 1) hO dX9_tried_148 (by decide) ?_
      refine gj_goto (tgt := 153) hO dX9_tried_149 (by decide) ?_
      refine gj_istore (lv2 := [(5, gj_i (1 : Int32)), (0, gj_r 188), (4, gj_i b4)]) hO dX9_tried_153 (by decide) rfl ?_
      refine gj_goto (tgt := 135) hO dX9_tried_155 (by decide) ?_
      obtain rfl := Option.some.inj hf
      refine gj_sub [1, 2, 0] rfl ?_
      exact K
set_option maxHeartbeats 4000000 in
set_option maxRecDepth 100000 in
theorem sb_X9_tried_l179 {E : gj_E} {X : gj_X} {r : Option gj_V} {τ : gj_S} (hO : gj_O E X RX9 cX9_tried 8 (some .int) 5 117) {b6 : Int32} {a36 : (Int32 × gj_S)} {x : gj_S ⊕ (Int32 × gj_S)} (hf : fb_X9_tried_l179 b6 a36 = some x) (K : gj_K (fun z36 => gj_G E X 8 r τ 207 [(6, gj_i b6)] [] z36) (fun a36 => gj_G E X 8 r τ 179 [(0, gj_r 188), (6, gj_i b6), (7, gj_i a36.1)] [] a36.2) x) : gj_G E X 8 r τ 179 [(0, gj_r 188), (6, gj_i b6), (7, gj_i a36.1)] [] a36.2 := by
  unfold fb_X9_tried_l179 at hf
  refine gj_iload hO 2 dX9_tried_179 rfl ?_
  refine gj_sipush (v := 180) hO dX9_tried_181 (by decide) ?_
  refine gj_icmp_ge (tgt := 207) hO dX9_tried_184 (by decide) (fun h => ?_) (fun h => ?_)
  · replace hf := gj_t h hf
    obtain rfl := Option.some.inj hf
    refine gj_sub [1] rfl ?_
    exact K
  · replace hf := gj_f h hf
    refine gj_aload_n hO 0 dX9_tried_187 rfl rfl ?_
    refine gt_X9_21 hO wk_704 dX9_tried_188 ?_
    refine gj_iload hO 2 dX9_tried_191 rfl ?_
    refine gj_aload_n hO 0 dX9_tried_193 rfl rfl ?_
    refine gt_X9_26 hO wk_919 dX9_tried_194 ?_
    refine gj_iload hO 2 dX9_tried_197 rfl ?_
    obtain ⟨hb38, hf⟩ := gj_c hf
    refine gj_iald hO kl_202 kd_202 hb38 dX9_tried_199 ?_
    obtain ⟨hb39, hf⟩ := gj_c hf
    refine gj_iast hO kl_198 kd_198 hb39 dX9_tried_200 ?_
    refine gj_iinc (v := (a36.1 + 1)) (lv2 := [(7, gj_i (a36.1 + 1)), (0, gj_r 188), (6, gj_i b6)]) hO 2 dX9_tried_201 rfl rfl (by decide) rfl ?_
    refine gj_goto (tgt := 179) hO dX9_tried_204 (by decide) ?_
    obtain rfl := Option.some.inj hf
    refine gj_sub [1, 2, 0] rfl ?_
    exact K
set_option maxHeartbeats 4000000 in
set_option maxRecDepth 100000 in
theorem m_X9_tried {E : gj_E} {σ : gj_S} {b1 : Int32} {b2 : Int32} {b3 : Int32} {b4 : Int32}  {x : (Int32 × gj_S)} (hf : f_X9_tried b1 b2 b3 b4 σ = some x) : gj_M E yX9_tried cX9_tried 8 (some .int) 5 117 [gj_r 188, gj_i b1, gj_i b2, gj_i b3, gj_i b4] σ (some (gj_i x.1)) x.2 := by
  refine gj_body (lv := [(0, gj_r 188), (1, gj_i b1), (2, gj_i b2), (3, gj_i b3), (4, gj_i b4)]) (by decide +kernel) (Nat.le_of_ble_eq_true rfl) rfl (fun X hO => ?_)
  replace hO : gj_O E X RX9 cX9_tried 8 (some .int) 5 117 := hO
  unfold f_X9_tried at hf
  refine gj_aload_n hO 0 dX9_tried_0 rfl rfl ?_
  refine gj_iconst (v := 0) hO dX9_tried_1 (by decide) ?_
  refine pt_X9_0 hO wk_604 dX9_tried_2 ?_
  refine gj_iload_n hO 1 dX9_tried_5 rfl rfl ?_
  refine gj_i2l hO dX9_tried_6 ?_
  refine gj_lconst (v := 0) hO dX9_tried_7 (by decide) ?_
  refine gj_ldc2 hO wk_841 dX9_tried_8 ?_
  obtain ⟨x1, hc1, hf⟩ := gj_b hf
  refine ca_X9_within hO  hc1 wk_632 (by decide) (by decide) (Nat.le_of_ble_eq_true rfl) dX9_tried_11 ?_
  refine gj_if_eq (tgt := 67) hO dX9_tried_14 (by decide) (fun h => ?_) (fun h => ?_)
  · replace hf := gj_t h hf
    refine gj_iconst (v := (-1)) hO dX9_tried_67 (by decide) ?_
    obtain rfl := Option.some.inj hf
    exact gj_iret hO dX9_tried_68
  · replace hf := gj_f h hf
    refine gj_iload_n hO 1 dX9_tried_17 rfl rfl ?_
    refine gj_iconst (v := 2) hO dX9_tried_18 (by decide) ?_
    refine gj_icmp_ge (tgt := 45) hO dX9_tried_19 (by decide) (fun h => ?_) (fun h => ?_)
    · replace hf := gj_t h hf
      refine gj_aload_n hO 0 dX9_tried_45 rfl rfl ?_
      refine gj_iload_n hO 2 dX9_tried_46 rfl rfl ?_
      obtain ⟨x2, hc2, hf⟩ := gj_b hf
      refine ca_X9_isDock hO  hc2 wk_786 (by decide) (by decide) (Nat.le_of_ble_eq_true rfl) dX9_tried_47 ?_
      refine gj_if_eq (tgt := 67) hO dX9_tried_50 (by decide) (fun h => ?_) (fun h => ?_)
      · replace hf := gj_t h hf
        refine gj_iconst (v := (-1)) hO dX9_tried_67 (by decide) ?_
        obtain rfl := Option.some.inj hf
        exact gj_iret hO dX9_tried_68
      · replace hf := gj_f h hf
        refine gj_iload_n hO 3 dX9_tried_53 rfl rfl ?_
        refine gj_i2l hO dX9_tried_54 ?_
        refine gj_ldc2 hO wk_917 dX9_tried_55 ?_
        refine gj_ldc2 hO wk_918 dX9_tried_58 ?_
        obtain ⟨x3, hc3, hf⟩ := gj_b hf
        refine ca_X9_within hO  hc3 wk_632 (by decide) (by decide) (Nat.le_of_ble_eq_true rfl) dX9_tried_61 ?_
        refine gj_if_ne (tgt := 69) hO dX9_tried_64 (by decide) (fun h => ?_) (fun h => ?_)
        · replace hf := gj_f h hf
          refine gj_iconst (v := 0) hO dX9_tried_69 (by decide) ?_
          refine gj_istore (lv2 := [(5, gj_i (0 : Int32)), (0, gj_r 188), (1, gj_i b1), (2, gj_i b2), (3, gj_i b3), (4, gj_i b4)]) hO dX9_tried_70 (by decide) rfl ?_
          obtain ⟨z4, hz4, hf⟩ := gj_b hf
          have J4 : gj_G E X 8 (some (gj_i x.1)) x.2 100 [(0, gj_r 188), (1, gj_i b1), (2, gj_i b2), (3, gj_i b3), (4, gj_i b4)] [] z4 := by
            refine gj_aload_n hO 0 dX9_tried_100 rfl rfl ?_
            refine gt_X9_21 hO wk_704 dX9_tried_101 ?_
            refine gj_iload_n hO 1 dX9_tried_104 rfl rfl ?_
            obtain ⟨z8, hz8, hf⟩ := gj_b hf
            have J8 : gj_G E X 8 (some (gj_i x.1)) x.2 124 [(0, gj_r 188), (2, gj_i b2), (3, gj_i b3), (4, gj_i b4)] [gj_i z8, gj_r 198] z4 := by
              refine gj_iload_n hO 1 dX9_tried_124 rfl rfl ?_
              refine gj_iadd hO dX9_tried_125 ?_
              refine gj_iload_n hO 2 dX9_tried_126 rfl rfl ?_
              obtain ⟨hb9, hf⟩ := gj_c hf
              refine gj_iast hO kl_198 kd_198 hb9 dX9_tried_127 ?_
              refine gj_aload_n hO 0 dX9_tried_128 rfl rfl ?_
              obtain ⟨x10, hc10, hf⟩ := gj_b hf
              refine ca_X9_begins hO  hc10 wk_709 (by decide) (by decide) (Nat.le_of_ble_eq_true rfl) dX9_tried_129 ?_
              refine gj_iconst (v := 1) hO dX9_tried_132 (by decide) ?_
              refine gj_istore (lv2 := [(5, gj_i (1 : Int32)), (0, gj_r 188), (2, gj_i b2), (3, gj_i b3), (4, gj_i b4)]) hO dX9_tried_133 (by decide) rfl ?_
              obtain ⟨z11, hz11, hf⟩ := gj_b hf
              have J11 : gj_G E X 8 (some (gj_i x.1)) x.2 158 [(0, gj_r 188), (4, gj_i b4)] [] z11 := by
                refine gj_iload hO 1 dX9_tried_158 rfl ?_
                obtain ⟨z14, hz14, hf⟩ := gj_b hf
                have J14 : gj_G E X 8 (some (gj_i x.1)) x.2 174 [(0, gj_r 188)] [gj_i z14] z11 := by
                  refine gj_istore (lv2 := [(6, gj_i z14), (0, gj_r 188)]) hO dX9_tried_174 (by decide) rfl ?_
                  refine gj_iconst (v := 0) hO dX9_tried_176 (by decide) ?_
                  refine gj_istore (lv2 := [(7, gj_i (0 : Int32)), (6, gj_i z14), (0, gj_r 188)]) hO dX9_tried_177 (by decide) rfl ?_
                  obtain ⟨z17, hz17, hf⟩ := gj_b hf
                  have J17 : gj_G E X 8 (some (gj_i x.1)) x.2 207 [(6, gj_i z14)] [] z17 := by
                    refine gj_iload hO 0 dX9_tried_207 rfl ?_
                    obtain rfl := Option.some.inj hf
                    exact gj_iret hO dX9_tried_209
                  refine gj_sub [2, 1, 0] rfl ?_
                  exact gj_loop (head := fun a17 => gj_G E X 8 (some (gj_i x.1)) x.2 179 [(0, gj_r 188), (6, gj_i z14), (7, gj_i a17.1)] [] a17.2) (exit := fun z17 => gj_G E X 8 (some (gj_i x.1)) x.2 207 [(6, gj_i z14)] [] z17) (fun a17 x hf K => sb_X9_tried_l179 hO hf K) _ _ _ hz17 J17
                refine gj_if_eq (tgt := 170) hO dX9_tried_160 (by decide) (fun h => ?_) (fun h => ?_)
                · replace hz14 := gj_t h hz14
                  refine gj_aload_n hO 0 dX9_tried_170 rfl rfl ?_
                  obtain ⟨x15, hc15, hz14⟩ := gj_b hz14
                  refine ca_X9_costNow hO  hc15 wk_881 (by decide) (by decide) (Nat.le_of_ble_eq_true rfl) dX9_tried_171 ?_
                  obtain rfl := Option.some.inj hz14
                  refine gj_sub [0] rfl ?_
                  exact J14
                · replace hz14 := gj_f h hz14
                  refine gj_aload_n hO 0 dX9_tried_163 rfl rfl ?_
                  obtain ⟨x16, hc16, hz14⟩ := gj_b hz14
                  refine ca_X9_allLack hO  hc16 wk_920 (by decide) (by decide) (Nat.le_of_ble_eq_true rfl) dX9_tried_164 ?_
                  refine gj_goto (tgt := 174) hO dX9_tried_167 (by decide) ?_
                  obtain rfl := Option.some.inj hz14
                  refine gj_sub [0] rfl ?_
                  exact J14
              refine gj_sub [1, 4, 0] rfl ?_
              exact gj_loop (head := fun a11 => gj_G E X 8 (some (gj_i x.1)) x.2 135 [(0, gj_r 188), (4, gj_i b4), (5, gj_i a11.1)] [] a11.2) (exit := fun z11 => gj_G E X 8 (some (gj_i x.1)) x.2 158 [(0, gj_r 188), (4, gj_i b4)] [] z11) (fun a11 x hf K => sb_X9_tried_l135 hO hf K) _ _ _ hz11 J11
            refine gj_if_ne (tgt := 113) hO dX9_tried_105 (by decide) (fun h => ?_) (fun h => ?_)
            · replace hz8 := gj_f h hz8
              refine gj_iload_n hO 1 dX9_tried_113 rfl rfl ?_
              refine gj_iconst (v := 1) hO dX9_tried_114 (by decide) ?_
              refine gj_icmp_ne (tgt := 123) hO dX9_tried_115 (by decide) (fun h => ?_) (fun h => ?_)
              · replace hz8 := gj_f h hz8
                refine gj_iconst (v := 0) hO dX9_tried_123 (by decide) ?_
                obtain rfl := Option.some.inj hz8
                refine gj_sub [0, 2, 3, 4] rfl ?_
                exact J8
              · replace hz8 := gj_t h hz8
                refine gj_bipush (v := 24) hO dX9_tried_118 (by decide) ?_
                refine gj_goto (tgt := 124) hO dX9_tried_120 (by decide) ?_
                obtain rfl := Option.some.inj hz8
                refine gj_sub [0, 2, 3, 4] rfl ?_
                exact J8
            · replace hz8 := gj_t h hz8
              refine gj_bipush (v := 8) hO dX9_tried_108 (by decide) ?_
              refine gj_goto (tgt := 124) hO dX9_tried_110 (by decide) ?_
              obtain rfl := Option.some.inj hz8
              refine gj_sub [0, 2, 3, 4] rfl ?_
              exact J8
          refine gj_sub [1, 2, 3, 4, 5, 0] rfl ?_
          exact gj_loop (head := fun a4 => gj_G E X 8 (some (gj_i x.1)) x.2 72 [(0, gj_r 188), (1, gj_i b1), (2, gj_i b2), (3, gj_i b3), (4, gj_i b4), (5, gj_i a4.1)] [] a4.2) (exit := fun z4 => gj_G E X 8 (some (gj_i x.1)) x.2 100 [(0, gj_r 188), (1, gj_i b1), (2, gj_i b2), (3, gj_i b3), (4, gj_i b4)] [] z4) (fun a4 x hf K => sb_X9_tried_l72 hO hf K) _ _ _ hz4 J4
        · replace hf := gj_t h hf
          refine gj_iconst (v := (-1)) hO dX9_tried_67 (by decide) ?_
          obtain rfl := Option.some.inj hf
          exact gj_iret hO dX9_tried_68
    · replace hf := gj_f h hf
      refine gj_aload_n hO 0 dX9_tried_22 rfl rfl ?_
      refine gj_iload_n hO 2 dX9_tried_23 rfl rfl ?_
      obtain ⟨x21, hc21, hf⟩ := gj_b hf
      refine ca_X9_isRoute hO  hc21 wk_913 (by decide) (by decide) (Nat.le_of_ble_eq_true rfl) dX9_tried_24 ?_
      refine gj_if_eq (tgt := 67) hO dX9_tried_27 (by decide) (fun h => ?_) (fun h => ?_)
      · replace hf := gj_t h hf
        refine gj_iconst (v := (-1)) hO dX9_tried_67 (by decide) ?_
        obtain rfl := Option.some.inj hf
        exact gj_iret hO dX9_tried_68
      · replace hf := gj_f h hf
        refine gj_iload_n hO 3 dX9_tried_30 rfl rfl ?_
        refine gj_i2l hO dX9_tried_31 ?_
        refine gj_lconst (v := 0) hO dX9_tried_32 (by decide) ?_
        refine gj_ldc2 hO wk_918 dX9_tried_33 ?_
        obtain ⟨x22, hc22, hf⟩ := gj_b hf
        refine ca_X9_within hO  hc22 wk_632 (by decide) (by decide) (Nat.le_of_ble_eq_true rfl) dX9_tried_36 ?_
        refine gj_if_eq (tgt := 67) hO dX9_tried_39 (by decide) (fun h => ?_) (fun h => ?_)
        · replace hf := gj_t h hf
          refine gj_iconst (v := (-1)) hO dX9_tried_67 (by decide) ?_
          obtain rfl := Option.some.inj hf
          exact gj_iret hO dX9_tried_68
        · replace hf := gj_f h hf
          refine gj_goto (tgt := 69) hO dX9_tried_42 (by decide) ?_
          refine gj_iconst (v := 0) hO dX9_tried_69 (by decide) ?_
          refine gj_istore (lv2 := [(5, gj_i (0 : Int32)), (0, gj_r 188), (1, gj_i b1), (2, gj_i b2), (3, gj_i b3), (4, gj_i b4)]) hO dX9_tried_70 (by decide) rfl ?_
          obtain ⟨z23, hz23, hf⟩ := gj_b hf
          have J23 : gj_G E X 8 (some (gj_i x.1)) x.2 100 [(0, gj_r 188), (1, gj_i b1), (2, gj_i b2), (3, gj_i b3), (4, gj_i b4)] [] z23 := by
            refine gj_aload_n hO 0 dX9_tried_100 rfl rfl ?_
            refine gt_X9_21 hO wk_704 dX9_tried_101 ?_
            refine gj_iload_n hO 1 dX9_tried_104 rfl rfl ?_
            obtain ⟨z27, hz27, hf⟩ := gj_b hf
            have J27 : gj_G E X 8 (some (gj_i x.1)) x.2 124 [(0, gj_r 188), (2, gj_i b2), (3, gj_i b3), (4, gj_i b4)] [gj_i z27, gj_r 198] z23 := by
              refine gj_iload_n hO 1 dX9_tried_124 rfl rfl ?_
              refine gj_iadd hO dX9_tried_125 ?_
              refine gj_iload_n hO 2 dX9_tried_126 rfl rfl ?_
              obtain ⟨hb28, hf⟩ := gj_c hf
              refine gj_iast hO kl_198 kd_198 hb28 dX9_tried_127 ?_
              refine gj_aload_n hO 0 dX9_tried_128 rfl rfl ?_
              obtain ⟨x29, hc29, hf⟩ := gj_b hf
              refine ca_X9_begins hO  hc29 wk_709 (by decide) (by decide) (Nat.le_of_ble_eq_true rfl) dX9_tried_129 ?_
              refine gj_iconst (v := 1) hO dX9_tried_132 (by decide) ?_
              refine gj_istore (lv2 := [(5, gj_i (1 : Int32)), (0, gj_r 188), (2, gj_i b2), (3, gj_i b3), (4, gj_i b4)]) hO dX9_tried_133 (by decide) rfl ?_
              obtain ⟨z30, hz30, hf⟩ := gj_b hf
              have J30 : gj_G E X 8 (some (gj_i x.1)) x.2 158 [(0, gj_r 188), (4, gj_i b4)] [] z30 := by
                refine gj_iload hO 1 dX9_tried_158 rfl ?_
                obtain ⟨z33, hz33, hf⟩ := gj_b hf
                have J33 : gj_G E X 8 (some (gj_i x.1)) x.2 174 [(0, gj_r 188)] [gj_i z33] z30 := by
                  refine gj_istore (lv2 := [(6, gj_i z33), (0, gj_r 188)]) hO dX9_tried_174 (by decide) rfl ?_
                  refine gj_iconst (v := 0) hO dX9_tried_176 (by decide) ?_
                  refine gj_istore (lv2 := [(7, gj_i (0 : Int32)), (6, gj_i z33), (0, gj_r 188)]) hO dX9_tried_177 (by decide) rfl ?_
                  obtain ⟨z36, hz36, hf⟩ := gj_b hf
                  have J36 : gj_G E X 8 (some (gj_i x.1)) x.2 207 [(6, gj_i z33)] [] z36 := by
                    refine gj_iload hO 0 dX9_tried_207 rfl ?_
                    obtain rfl := Option.some.inj hf
                    exact gj_iret hO dX9_tried_209
                  refine gj_sub [2, 1, 0] rfl ?_
                  exact gj_loop (head := fun a36 => gj_G E X 8 (some (gj_i x.1)) x.2 179 [(0, gj_r 188), (6, gj_i z33), (7, gj_i a36.1)] [] a36.2) (exit := fun z36 => gj_G E X 8 (some (gj_i x.1)) x.2 207 [(6, gj_i z33)] [] z36) (fun a36 x hf K => sb_X9_tried_l179 hO hf K) _ _ _ hz36 J36
                refine gj_if_eq (tgt := 170) hO dX9_tried_160 (by decide) (fun h => ?_) (fun h => ?_)
                · replace hz33 := gj_t h hz33
                  refine gj_aload_n hO 0 dX9_tried_170 rfl rfl ?_
                  obtain ⟨x34, hc34, hz33⟩ := gj_b hz33
                  refine ca_X9_costNow hO  hc34 wk_881 (by decide) (by decide) (Nat.le_of_ble_eq_true rfl) dX9_tried_171 ?_
                  obtain rfl := Option.some.inj hz33
                  refine gj_sub [0] rfl ?_
                  exact J33
                · replace hz33 := gj_f h hz33
                  refine gj_aload_n hO 0 dX9_tried_163 rfl rfl ?_
                  obtain ⟨x35, hc35, hz33⟩ := gj_b hz33
                  refine ca_X9_allLack hO  hc35 wk_920 (by decide) (by decide) (Nat.le_of_ble_eq_true rfl) dX9_tried_164 ?_
                  refine gj_goto (tgt := 174) hO dX9_tried_167 (by decide) ?_
                  obtain rfl := Option.some.inj hz33
                  refine gj_sub [0] rfl ?_
                  exact J33
              refine gj_sub [1, 4, 0] rfl ?_
              exact gj_loop (head := fun a30 => gj_G E X 8 (some (gj_i x.1)) x.2 135 [(0, gj_r 188), (4, gj_i b4), (5, gj_i a30.1)] [] a30.2) (exit := fun z30 => gj_G E X 8 (some (gj_i x.1)) x.2 158 [(0, gj_r 188), (4, gj_i b4)] [] z30) (fun a30 x hf K => sb_X9_tried_l135 hO hf K) _ _ _ hz30 J30
            refine gj_if_ne (tgt := 113) hO dX9_tried_105 (by decide) (fun h => ?_) (fun h => ?_)
            · replace hz27 := gj_f h hz27
              refine gj_iload_n hO 1 dX9_tried_113 rfl rfl ?_
              refine gj_iconst (v := 1) hO dX9_tried_114 (by decide) ?_
              refine gj_icmp_ne (tgt := 123) hO dX9_tried_115 (by decide) (fun h => ?_) (fun h => ?_)
              · replace hz27 := gj_f h hz27
                refine gj_iconst (v := 0) hO dX9_tried_123 (by decide) ?_
                obtain rfl := Option.some.inj hz27
                refine gj_sub [0, 2, 3, 4] rfl ?_
                exact J27
              · replace hz27 := gj_t h hz27
                refine gj_bipush (v := 24) hO dX9_tried_118 (by decide) ?_
                refine gj_goto (tgt := 124) hO dX9_tried_120 (by decide) ?_
                obtain rfl := Option.some.inj hz27
                refine gj_sub [0, 2, 3, 4] rfl ?_
                exact J27
            · replace hz27 := gj_t h hz27
              refine gj_bipush (v := 8) hO dX9_tried_108 (by decide) ?_
              refine gj_goto (tgt := 124) hO dX9_tried_110 (by decide) ?_
              obtain rfl := Option.some.inj hz27
              refine gj_sub [0, 2, 3, 4] rfl ?_
              exact J27
          refine gj_sub [1, 2, 3, 4, 5, 0] rfl ?_
          exact gj_loop (head := fun a23 => gj_G E X 8 (some (gj_i x.1)) x.2 72 [(0, gj_r 188), (1, gj_i b1), (2, gj_i b2), (3, gj_i b3), (4, gj_i b4), (5, gj_i a23.1)] [] a23.2) (exit := fun z23 => gj_G E X 8 (some (gj_i x.1)) x.2 100 [(0, gj_r 188), (1, gj_i b1), (2, gj_i b2), (3, gj_i b3), (4, gj_i b4)] [] z23) (fun a23 x hf K => sb_X9_tried_l72 hO hf K) _ _ _ hz23 J23
set_option maxHeartbeats 4000000 in
set_option maxRecDepth 100000 in
theorem ca_X9_tried {E : gj_E} {X : gj_X} {own : String} {cc : ByteArray} {nL : Nat} {rt : Option FieldType} {fr lo : Nat} {r : Option gj_V} {τ : gj_S} {pc : Nat} {lv : List (Nat × gj_V)} {st : List gj_V} {σ : gj_S} (hO : gj_O E X own cc nL rt fr lo) {b1 : Int32} {b2 : Int32} {b3 : Int32} {b4 : Int32}  {idx : Nat} {x : (Int32 × gj_S)} (hf : f_X9_tried b1 b2 b3 b4 σ = some x) (hl : Cond.methodLink own idx yX9_tried ∈ gj_gw) (hf1 : 6 ≤ fr) (hf2 : 144 ≤ lo) (hcat : ((st.map (gj_tv E.2.1)).map fun v => v.category).sum ≤ 8) (hd : decode cc pc = .ok (.invokevirtual idx, 3)) (k : gj_G E X nL r τ (pc + 3) lv ((gj_i x.1) :: st) x.2) : gj_G E X nL r τ pc lv (gj_i b4 :: gj_i b3 :: gj_i b2 :: gj_i b1 :: gj_r 188 :: st) σ :=
  gj_callV hO (o := 188) (vs := [gj_i b1, gj_i b2, gj_i b3, gj_i b4]) (m_X9_tried  hf) hl wk_921 wk_922 wk_607 wk_923 kl_188 kd_188 (by decide) (ci := 9) rfl (n := 4) (by decide +kernel) rfl hf1 hf2 rfl hcat hd k
