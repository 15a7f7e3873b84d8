def fb_X9_findRead_l2 (b1 : Int32) (b2 : Int32) (σ : gj_S) (a10002 : Int32) : Option ((Int32 ⊕ Unit) ⊕ Int32) := (if b2 ≤ a10002 then some (.inl (.inr ())) else (if gj_in (((24 : Int32) + b1) + a10002) 48 then (if (lg_cmp (σ.2.1 192 (Int32.toNatClampNeg (((24 : Int32) + b1) + a10002))) (σ.2.1 188 8)) = 0 then some (.inl (.inl a10002)) else some (.inr (a10002 + 1))) else none))
def f_X9_findRead (b1 : Int32) (b2 : Int32) (σ : gj_S) : Option Int32 := ((gj_lp (fb_X9_findRead_l2 b1 b2 σ) 5000 (0 : Int32)).bind fun y1 => Sum.elim (fun q => some q) (fun z1 => some (-1 : Int32)) y1)
set_option maxHeartbeats 4000000 in
set_option maxRecDepth 100000 in
theorem sb_X9_findRead_l2 {E : gj_E} {X : gj_X} {r : Option gj_V} {τ : gj_S} (hO : gj_O E X RX9 cX9_findRead 4 (some .int) 0 0) {b1 : Int32} {b2 : Int32} {σ : gj_S} {a10002 : Int32} {x : (Int32 ⊕ Unit) ⊕ Int32} (hf : fb_X9_findRead_l2 b1 b2 σ a10002 = some x) (K : gj_K (fun y1 => gj_K (fun q => r = (some (gj_i q)) ∧ τ = σ) (fun z1 => gj_G E X 4 r τ 34 [] [] σ) y1) (fun a10002 => gj_G E X 4 r τ 2 [(0, gj_r 188), (1, gj_i b1), (2, gj_i b2), (3, gj_i a10002)] [] σ) x) : gj_G E X 4 r τ 2 [(0, gj_r 188), (1, gj_i b1), (2, gj_i b2), (3, gj_i a10002)] [] σ := by
  unfold fb_X9_findRead_l2 at hf
  refine gj_iload_n hO 3 dX9_findRead_2 rfl rfl ?_
  refine gj_iload_n hO 2 dX9_findRead_3 rfl rfl ?_
  refine gj_icmp_ge (tgt := 34) hO dX9_findRead_4 (by decide) (fun h => ?_) (fun h => ?_)
  · replace hf := gj_t h hf
    obtain rfl := Option.some.inj hf
    refine gj_sub (lv2 := []) [] rfl ?_
    exact K
  · replace hf := gj_f h hf
    refine gj_aload_n hO 0 dX9_findRead_7 rfl rfl ?_
    refine gt_X9_13 hO wk_686 dX9_findRead_8 ?_
    refine gj_bipush (v := 24) hO dX9_findRead_11 (by decide) ?_
    refine gj_iload_n hO 1 dX9_findRead_13 rfl rfl ?_
    refine gj_iadd hO dX9_findRead_14 ?_
    refine gj_iload_n hO 3 dX9_findRead_15 rfl rfl ?_
    refine gj_iadd hO dX9_findRead_16 ?_
    obtain ⟨hb10201, hf⟩ := gj_c hf
    refine gj_lald hO kl_192 kd_192 hb10201 dX9_findRead_17 ?_
    refine gj_aload_n hO 0 dX9_findRead_18 rfl rfl ?_
    refine gt_X9_8 hO wk_650 dX9_findRead_19 ?_
    refine gj_lcmp hO dX9_findRead_22 ?_
    refine gj_if_ne (tgt := 28) hO dX9_findRead_23 (by decide) (fun h => ?_) (fun h => ?_)
    · replace hf := gj_f h hf
      refine gj_iinc (v := (a10002 + 1)) (lv2 := [(3, gj_i (a10002 + 1)), (0, gj_r 188), (1, gj_i b1), (2, gj_i b2)]) hO 3 dX9_findRead_28 rfl rfl (by decide) rfl ?_
      refine gj_goto (tgt := 2) hO dX9_findRead_31 (by decide) ?_
      obtain rfl := Option.some.inj hf
      refine gj_sub (lv2 := [(0, gj_r 188), (1, gj_i b1), (2, gj_i b2), (3, gj_i (a10002 + 1))]) [1, 2, 3, 0] rfl ?_
      exact K
    · replace hf := gj_t h hf
      refine gj_iload_n hO 3 dX9_findRead_26 rfl rfl ?_
      obtain rfl := Option.some.inj hf
      obtain ⟨rfl, rfl⟩ := K
      exact gj_iret hO dX9_findRead_27
set_option maxHeartbeats 4000000 in
set_option maxRecDepth 100000 in
theorem m_X9_findRead {E : gj_E} {σ : gj_S} {b1 : Int32} {b2 : Int32}  {x : Int32} (hf : f_X9_findRead b1 b2 σ = some x) : gj_M E yX9_findRead cX9_findRead 4 (some .int) 0 0 [gj_r 188, gj_i b1, gj_i b2] σ (some (gj_i x)) σ := by
  refine gj_body (lv := [(0, gj_r 188), (1, gj_i b1), (2, gj_i b2)]) (by decide +kernel) (Nat.le_of_ble_eq_true rfl) rfl (fun X hO => ?_)
  replace hO : gj_O E X RX9 cX9_findRead 4 (some .int) 0 0 := hO
  unfold f_X9_findRead at hf
  refine gj_iconst (v := 0) hO dX9_findRead_0 (by decide) ?_
  refine gj_istore_n (lv2 := [(3, gj_i (0 : Int32)), (0, gj_r 188), (1, gj_i b1), (2, gj_i b2)]) hO dX9_findRead_1 rfl (by decide) rfl ?_
  obtain ⟨y1, hz1, hf⟩ := gj_b hf
  have J1 : (fun y1 => gj_K (fun q => (some (gj_i x)) = (some (gj_i q)) ∧ σ = σ) (fun z1 => gj_G E X 4 (some (gj_i x)) σ 34 [] [] σ) y1) y1 := by
    rcases y1 with q | z1
    · have hf : some q = some x := hf
      obtain rfl := Option.some.inj hf
      exact ⟨rfl, rfl⟩
    · dsimp only [Sum.elim] at hf
      refine gj_iconst (v := (-1)) hO dX9_findRead_34 (by decide) ?_
      obtain rfl := Option.some.inj hf
      exact gj_iret hO dX9_findRead_35
  refine gj_sub (lv2 := [(0, gj_r 188), (1, gj_i b1), (2, gj_i b2), (3, gj_i (0 : Int32))]) [1, 2, 3, 0] rfl ?_
  exact gj_loop (head := fun a10002 => gj_G E X 4 (some (gj_i x)) σ 2 [(0, gj_r 188), (1, gj_i b1), (2, gj_i b2), (3, gj_i a10002)] [] σ) (exit := fun y1 => gj_K (fun q => (some (gj_i x)) = (some (gj_i q)) ∧ σ = σ) (fun z1 => gj_G E X 4 (some (gj_i x)) σ 34 [] [] σ) y1) (fun a10002 x hf K => sb_X9_findRead_l2 hO hf K) _ _ _ hz1 J1
set_option maxHeartbeats 4000000 in
set_option maxRecDepth 100000 in
theorem ca_X9_findRead {E : gj_E} {X : gj_X} {own : String} {cc : ByteArray} {nL : Nat} {rt : Option FieldType} {fr lo : Nat} {ce sl : Nat} {Q : State → Prop} {pc : Nat} {lv : List (Nat × gj_V)} {st : List gj_V} {σ : gj_S} (hO : gj_O E X own cc nL rt fr lo) (hw : gj_lt own 188) {b1 : Int32} {b2 : Int32}  {idx : Nat} {x : Int32} (hf : f_X9_findRead b1 b2 σ = some x) (hl : Cond.methodLink own idx yX9_findRead ∈ gj_gw) (hf1 : 1 ≤ fr) (hf2 : 23 ≤ lo) (hcat : ((st.map (gj_tv E.2.1)).map fun v => v.category).sum ≤ 8) (hd : decode cc pc = .ok (.invokevirtual idx, 3)) (k : gj_H E X nL ce sl Q (pc + 3) lv ((gj_i x) :: st) σ) : gj_H E X nL ce sl Q pc lv (gj_i b2 :: gj_i b1 :: gj_r 188 :: st) σ :=
  gj_callV hO (o := 188) (vs := [gj_i b1, gj_i b2]) (m_X9_findRead  hf) (gj_I9 hw) hl wk_687 wk_688 wk_629 wk_689 hw kd_188 (by decide) (ci := 9) rfl (n := 2) (by decide +kernel) rfl hf1 hf2 rfl hcat hd k
def f_X9_blockLine  (σ : gj_S) : Option gj_S := ((if (σ.1 188 20) = 0 then some (1 : Int32) else some (0 : Int32) : Option Int32).bind fun z1 => ((f_X9_must z1 (2 : Int32) σ).bind fun x2 => (if x2.1 = 0 then some x2.2 else ((f_X9_goesOn (gj_sI x2.2 188 (upd (x2.2.1 188) 20 (1 : Int32)))).bind fun x3 => ((f_X9_number (1 : Int32) (24 : Int32) x3).bind fun x4 => some (gj_sI x4.2 188 (upd (x4.2.1 188) 19 x4.1)))))))
set_option maxHeartbeats 4000000 in
set_option maxRecDepth 100000 in
theorem m_X9_blockLine {E : gj_E} {σ : gj_S}   {x : gj_S} (hf : f_X9_blockLine  σ = some x) : gj_M E yX9_blockLine cX9_blockLine 1 none 3 69 [gj_r 188] σ none x := by
  refine gj_body (lv := [(0, gj_r 188)]) (by decide +kernel) (Nat.le_of_ble_eq_true rfl) rfl (fun X hO => ?_)
  replace hO : gj_O E X RX9 cX9_blockLine 1 none 3 69 := hO
  unfold f_X9_blockLine at hf
  refine gj_aload_n hO 0 dX9_blockLine_0 rfl rfl ?_
  refine gj_aload_n hO 0 dX9_blockLine_1 rfl rfl ?_
  refine gt_X9_20 hO wk_714 dX9_blockLine_2 ?_
  obtain ⟨z1, hz1, hf⟩ := gj_b hf
  have J1 : gj_G E X 1 none x 13 [(0, gj_r 188)] [gj_i z1, gj_r 188] σ := by
    refine gj_iconst (v := 2) hO dX9_blockLine_13 (by decide) ?_
    obtain ⟨⟨x2_v, x2_s⟩, hc2, hf⟩ := gj_b hf
    dsimp only at hf
    refine ca_X9_must hO kl_188  hc2 wk_677 (by decide) (by decide) (Nat.le_of_ble_eq_true rfl) dX9_blockLine_14 ?_
    refine gj_if_ne (tgt := 21) hO dX9_blockLine_17 (by decide) (fun h => ?_) (fun h => ?_)
    · replace hf := gj_f h hf
      refine gj_aload_n hO 0 dX9_blockLine_21 rfl rfl ?_
      refine gj_iconst (v := 1) hO dX9_blockLine_22 (by decide) ?_
      refine pt_X9_20 hO (Or.inr rfl) wk_714 dX9_blockLine_23 ?_
      refine gj_aload_n hO 0 dX9_blockLine_26 rfl rfl ?_
      obtain ⟨x3, hc3, hf⟩ := gj_b hf
      refine ca_X9_goesOn hO kl_188  hc3 wk_678 (by decide) (by decide) (Nat.le_of_ble_eq_true rfl) dX9_blockLine_27 ?_
      refine gj_aload_n hO 0 dX9_blockLine_30 rfl rfl ?_
      refine gj_aload_n hO 0 dX9_blockLine_31 rfl rfl ?_
      refine gj_iconst (v := 1) hO dX9_blockLine_32 (by decide) ?_
      refine gj_bipush (v := 24) hO dX9_blockLine_33 (by decide) ?_
      obtain ⟨⟨x4_v, x4_s⟩, hc4, hf⟩ := gj_b hf
      dsimp only at hf
      refine ca_X9_number hO kl_188  hc4 wk_682 (by decide) (by decide) (Nat.le_of_ble_eq_true rfl) dX9_blockLine_35 ?_
      refine pt_X9_19 hO wk_715 dX9_blockLine_38 ?_
      obtain rfl := Option.some.inj hf
      exact gj_vret hO dX9_blockLine_41
    · replace hf := gj_t h hf
      obtain rfl := Option.some.inj hf
      exact gj_vret hO dX9_blockLine_20
  refine gj_if_ne (tgt := 12) hO dX9_blockLine_5 (by decide) (fun h => ?_) (fun h => ?_)
  · replace hz1 := gj_f h hz1
    refine gj_iconst (v := 0) hO dX9_blockLine_12 (by decide) ?_
    obtain rfl := Option.some.inj hz1
    refine gj_sub (lv2 := [(0, gj_r 188)]) [0] rfl ?_
    exact J1
  · replace hz1 := gj_t h hz1
    refine gj_iconst (v := 1) hO dX9_blockLine_8 (by decide) ?_
    refine gj_goto (tgt := 13) hO dX9_blockLine_9 (by decide) ?_
    obtain rfl := Option.some.inj hz1
    refine gj_sub (lv2 := [(0, gj_r 188)]) [0] rfl ?_
    exact J1
set_option maxHeartbeats 4000000 in
set_option maxRecDepth 100000 in
theorem ca_X9_blockLine {E : gj_E} {X : gj_X} {own : String} {cc : ByteArray} {nL : Nat} {rt : Option FieldType} {fr lo : Nat} {ce sl : Nat} {Q : State → Prop} {pc : Nat} {lv : List (Nat × gj_V)} {st : List gj_V} {σ : gj_S} (hO : gj_O E X own cc nL rt fr lo) (hw : gj_lt own 188)   {idx : Nat} {x : gj_S} (hf : f_X9_blockLine  σ = some x) (hl : Cond.methodLink own idx yX9_blockLine ∈ gj_gw) (hf1 : 4 ≤ fr) (hf2 : 89 ≤ lo) (hcat : ((st.map (gj_tv E.2.1)).map fun v => v.category).sum ≤ 8) (hd : decode cc pc = .ok (.invokevirtual idx, 3)) (k : gj_H E X nL ce sl Q (pc + 3) lv (st) x) : gj_H E X nL ce sl Q pc lv (gj_r 188 :: st) σ :=
  gj_callV hO (o := 188) (vs := []) (m_X9_blockLine  hf) (gj_I9 hw) hl wk_716 wk_717 wk_629 wk_718 hw kd_188 (by decide) (ci := 9) rfl (n := 0) (by decide +kernel) rfl hf1 hf2 rfl hcat hd k
def fb_X9_begins_l2  (a10002 : (Int32 × gj_S)) : Option (gj_S ⊕ (Int32 × gj_S)) := (if (24 : Int32) ≤ a10002.1 then some (.inl a10002.2) else (if gj_in ((50 : Int32) + a10002.1) 180 then (if gj_in ((74 : Int32) + a10002.1) 180 then ((some (gj_sI (gj_sI a10002.2 198 (upd (a10002.2.1 198) (Int32.toNatClampNeg ((50 : Int32) + a10002.1)) (0 : Int32))) 198 (upd ((gj_sI a10002.2 198 (upd (a10002.2.1 198) (Int32.toNatClampNeg ((50 : Int32) + a10002.1)) (0 : Int32))).1 198) (Int32.toNatClampNeg ((74 : Int32) + a10002.1)) (1 : Int32)))).bind fun s10203 => some (.inr ((a10002.1 + 1), s10203))) else none) else none))
def fb_X9_begins_l36  (a10036 : (Int32 × gj_S)) : Option (gj_S ⊕ (Int32 × gj_S)) := (if gj_in (0 : Int32) 2 then (if (a10036.2.1 190 (Int32.toNatClampNeg (0 : Int32))) ≤ a10036.1 then some (.inl a10036.2) else (if gj_in ((0 : Int32) + a10036.1) 180 then ((if (a10036.2.1 198 (Int32.toNatClampNeg ((0 : Int32) + a10036.1))) < 0 then some (0 : Int32) else some (1 : Int32) : Option Int32).bind fun z13603 => (if gj_in ((42 : Int32) + a10036.1) 180 then (if gj_in (0 : Int32) 2 then ((if (a10036.2.1 198 (Int32.toNatClampNeg ((0 : Int32) + a10036.1))) < 0 then some (0 - (a10036.2.1 198 (Int32.toNatClampNeg ((0 : Int32) + a10036.1)))) else some (a10036.2.1 198 (Int32.toNatClampNeg ((0 : Int32) + a10036.1))) : Option Int32).bind fun z13606 => (if gj_in (((50 : Int32) + ((gj_sI a10036.2 198 (upd (a10036.2.1 198) (Int32.toNatClampNeg ((42 : Int32) + a10036.1)) z13603)).1 191 (Int32.toNatClampNeg (0 : Int32)))) + a10036.1) 180 then ((some (gj_sI (gj_sI a10036.2 198 (upd (a10036.2.1 198) (Int32.toNatClampNeg ((42 : Int32) + a10036.1)) z13603)) 198 (upd ((gj_sI a10036.2 198 (upd (a10036.2.1 198) (Int32.toNatClampNeg ((42 : Int32) + a10036.1)) z13603)).1 198) (Int32.toNatClampNeg (((50 : Int32) + ((gj_sI a10036.2 198 (upd (a10036.2.1 198) (Int32.toNatClampNeg ((42 : Int32) + a10036.1)) z13603)).1 191 (Int32.toNatClampNeg (0 : Int32)))) + a10036.1)) z13606))).bind fun s13608 => (if gj_in (0 : Int32) 2 then (if gj_in (((74 : Int32) + (s13608.1 191 (Int32.toNatClampNeg (0 : Int32)))) + a10036.1) 180 then some (.inr ((a10036.1 + 1), (gj_sI s13608 198 (upd (s13608.1 198) (Int32.toNatClampNeg (((74 : Int32) + (s13608.1 191 (Int32.toNatClampNeg (0 : Int32)))) + a10036.1)) (0 : Int32))))) else none) else none)) else none)) else none) else none)) else none)) else none)
def fb_X9_begins_l141  (a10141 : (Int32 × gj_S)) : Option (gj_S ⊕ (Int32 × gj_S)) := (if (180 : Int32) ≤ a10141.1 then some (.inl a10141.2) else (if gj_in a10141.1 180 then some (.inr ((a10141.1 + 1), (gj_sI a10141.2 198 (upd (a10141.2.1 198) (Int32.toNatClampNeg a10141.1) (0 : Int32))))) else none))
def f_X9_begins  (σ : gj_S) : Option gj_S := ((gj_lp (fb_X9_begins_l2) 5000 ((0 : Int32), σ)).bind fun z1 => ((gj_lp (fb_X9_begins_l36) 5000 ((0 : Int32), z1)).bind fun z2 => (if gj_in (41 : Int32) 180 then (if gj_in (98 : Int32) 180 then ((some (gj_sI (gj_sI z2 198 (upd (z2.1 198) (Int32.toNatClampNeg (41 : Int32)) (0 : Int32))) 198 (upd ((gj_sI z2 198 (upd (z2.1 198) (Int32.toNatClampNeg (41 : Int32)) (0 : Int32))).1 198) (Int32.toNatClampNeg (98 : Int32)) (0 : Int32)))).bind fun s5 => ((gj_lp (fb_X9_begins_l141) 5000 ((99 : Int32), s5)).bind fun z6 => some z6)) else none) else none)))
set_option maxHeartbeats 4000000 in
set_option maxRecDepth 100000 in
theorem sb_X9_begins_l2 {E : gj_E} {X : gj_X} {r : Option gj_V} {τ : gj_S} (hO : gj_O E X RX9 cX9_begins 3 none 0 0)  {a10002_0 : Int32} {a10002_1 : gj_S} {x : gj_S ⊕ (Int32 × gj_S)} (hf : fb_X9_begins_l2  (a10002_0, a10002_1) = some x) (K : gj_K (fun z1 => gj_G E X 3 r τ 34 [(0, gj_r 188)] [] z1) (fun a10002 => gj_G E X 3 r τ 2 [(0, gj_r 188), (1, gj_i a10002.1)] [] a10002.2) x) : gj_G E X 3 r τ 2 [(0, gj_r 188), (1, gj_i a10002_0)] [] a10002_1 := by
  unfold fb_X9_begins_l2 at hf
  dsimp only at hf
  refine gj_iload_n hO 1 dX9_begins_2 rfl rfl ?_
  refine gj_bipush (v := 24) hO dX9_begins_3 (by decide) ?_
  refine gj_icmp_ge (tgt := 34) hO dX9_begins_5 (by decide) (fun h => ?_) (fun h => ?_)
  · replace hf := gj_t h hf
    obtain rfl := Option.some.inj hf
    refine gj_sub (lv2 := [(0, gj_r 188)]) [0] rfl ?_
    exact K
  · replace hf := gj_f h hf
    refine gj_aload_n hO 0 dX9_begins_8 rfl rfl ?_
    refine gt_X9_21 hO wk_725 dX9_begins_9 ?_
    refine gj_bipush (v := 50) hO dX9_begins_12 (by decide) ?_
    refine gj_iload_n hO 1 dX9_begins_14 rfl rfl ?_
    refine gj_iadd hO dX9_begins_15 ?_
    refine gj_iconst (v := 0) hO dX9_begins_16 (by decide) ?_
    obtain ⟨hb10201, hf⟩ := gj_c hf
    refine gj_iast hO kl_198 kd_198 hb10201 dX9_begins_17 ?_
    refine gj_aload_n hO 0 dX9_begins_18 rfl rfl ?_
    refine gt_X9_21 hO wk_725 dX9_begins_19 ?_
    refine gj_bipush (v := 74) hO dX9_begins_22 (by decide) ?_
    refine gj_iload_n hO 1 dX9_begins_24 rfl rfl ?_
    refine gj_iadd hO dX9_begins_25 ?_
    refine gj_iconst (v := 1) hO dX9_begins_26 (by decide) ?_
    obtain ⟨hb10202, hf⟩ := gj_c hf
    refine gj_iast hO kl_198 kd_198 hb10202 dX9_begins_27 ?_
    obtain ⟨s10203, e10203, hf⟩ := gj_b hf
    refine gj_eqS (Option.some.inj e10203) ?_
    refine gj_iinc (v := (a10002_0 + 1)) (lv2 := [(1, gj_i (a10002_0 + 1)), (0, gj_r 188)]) hO 1 dX9_begins_28 rfl rfl (by decide) rfl ?_
    refine gj_goto (tgt := 2) hO dX9_begins_31 (by decide) ?_
    obtain rfl := Option.some.inj hf
    refine gj_sub (lv2 := [(0, gj_r 188), (1, gj_i (a10002_0 + 1))]) [1, 0] rfl ?_
    exact K
set_option maxHeartbeats 4000000 in
set_option maxRecDepth 100000 in
theorem sb_X9_begins_l36 {E : gj_E} {X : gj_X} {r : Option gj_V} {τ : gj_S} (hO : gj_O E X RX9 cX9_begins 3 none 0 0)  {a10036_0 : Int32} {a10036_1 : gj_S} {x : gj_S ⊕ (Int32 × gj_S)} (hf : fb_X9_begins_l36  (a10036_0, a10036_1) = some x) (K : gj_K (fun z2 => gj_G E X 3 r τ 122 [(0, gj_r 188)] [] z2) (fun a10036 => gj_G E X 3 r τ 36 [(0, gj_r 188), (1, gj_i a10036.1)] [] a10036.2) x) : gj_G E X 3 r τ 36 [(0, gj_r 188), (1, gj_i a10036_0)] [] a10036_1 := by
  unfold fb_X9_begins_l36 at hf
  dsimp only at hf
  refine gj_iload_n hO 1 dX9_begins_36 rfl rfl ?_
  refine gj_aload_n hO 0 dX9_begins_37 rfl rfl ?_
  refine gt_X9_11 hO wk_691 dX9_begins_38 ?_
  refine gj_iconst (v := 0) hO dX9_begins_41 (by decide) ?_
  obtain ⟨hb13601, hf⟩ := gj_c hf
  refine gj_iald hO kl_190 kd_190 hb13601 dX9_begins_42 ?_
  refine gj_icmp_ge (tgt := 122) hO dX9_begins_43 (by decide) (fun h => ?_) (fun h => ?_)
  · replace hf := gj_t h hf
    obtain rfl := Option.some.inj hf
    refine gj_sub (lv2 := [(0, gj_r 188)]) [0] rfl ?_
    exact K
  · replace hf := gj_f h hf
    refine gj_aload_n hO 0 dX9_begins_46 rfl rfl ?_
    refine gt_X9_21 hO wk_725 dX9_begins_47 ?_
    refine gj_iconst (v := 0) hO dX9_begins_50 (by decide) ?_
    refine gj_iload_n hO 1 dX9_begins_51 rfl rfl ?_
    refine gj_iadd hO dX9_begins_52 ?_
    obtain ⟨hb13602, hf⟩ := gj_c hf
    refine gj_iald hO kl_198 kd_198 hb13602 dX9_begins_53 ?_
    refine gj_istore_n (lv2 := [(2, gj_i (a10036_1.1 198 (Int32.toNatClampNeg ((0 : Int32) + a10036_0)))), (0, gj_r 188), (1, gj_i a10036_0)]) hO dX9_begins_54 rfl (by decide) rfl ?_
    refine gj_aload_n hO 1 dX9_begins_55 rfl rfl ?_
    refine gt_X9_21 hO wk_725 dX9_begins_56 ?_
    refine gj_bipush (v := 42) hO dX9_begins_59 (by decide) ?_
    refine gj_iload_n hO 2 dX9_begins_61 rfl rfl ?_
    refine gj_iadd hO dX9_begins_62 ?_
    refine gj_iload_n hO 0 dX9_begins_63 rfl rfl ?_
    obtain ⟨z13603, hz13603, hf⟩ := gj_b hf
    have J13603 : gj_G E X 3 r τ 72 [(0, gj_r 188), (1, gj_i a10036_0), (2, gj_i (a10036_1.1 198 (Int32.toNatClampNeg ((0 : Int32) + a10036_0))))] [gj_i z13603, gj_i ((42 : Int32) + a10036_0), gj_r 198] a10036_1 := by
      obtain ⟨hb13604, hf⟩ := gj_c hf
      refine gj_iast hO kl_198 kd_198 hb13604 dX9_begins_72 ?_
      refine gj_aload_n hO 0 dX9_begins_73 rfl rfl ?_
      refine gt_X9_21 hO wk_725 dX9_begins_74 ?_
      refine gj_bipush (v := 50) hO dX9_begins_77 (by decide) ?_
      refine gj_aload_n hO 0 dX9_begins_79 rfl rfl ?_
      refine gt_X9_12 hO wk_693 dX9_begins_80 ?_
      refine gj_iconst (v := 0) hO dX9_begins_83 (by decide) ?_
      obtain ⟨hb13605, hf⟩ := gj_c hf
      refine gj_iald hO kl_191 kd_191 hb13605 dX9_begins_84 ?_
      refine gj_iadd hO dX9_begins_85 ?_
      refine gj_iload_n hO 1 dX9_begins_86 rfl rfl ?_
      refine gj_iadd hO dX9_begins_87 ?_
      refine gj_iload_n hO 2 dX9_begins_88 rfl rfl ?_
      obtain ⟨z13606, hz13606, hf⟩ := gj_b hf
      have J13606 : gj_G E X 3 r τ 98 [(0, gj_r 188), (1, gj_i a10036_0)] [gj_i z13606, gj_i (((50 : Int32) + ((gj_sI a10036_1 198 (upd (a10036_1.1 198) (Int32.toNatClampNeg ((42 : Int32) + a10036_0)) z13603)).1 191 (Int32.toNatClampNeg (0 : Int32)))) + a10036_0), gj_r 198] (gj_sI a10036_1 198 (upd (a10036_1.1 198) (Int32.toNatClampNeg ((42 : Int32) + a10036_0)) z13603)) := by
        obtain ⟨hb13607, hf⟩ := gj_c hf
        refine gj_iast hO kl_198 kd_198 hb13607 dX9_begins_98 ?_
        obtain ⟨s13608, e13608, hf⟩ := gj_b hf
        refine gj_eqS (Option.some.inj e13608) ?_
        refine gj_aload_n hO 0 dX9_begins_99 rfl rfl ?_
        refine gt_X9_21 hO wk_725 dX9_begins_100 ?_
        refine gj_bipush (v := 74) hO dX9_begins_103 (by decide) ?_
        refine gj_aload_n hO 0 dX9_begins_105 rfl rfl ?_
        refine gt_X9_12 hO wk_693 dX9_begins_106 ?_
        refine gj_iconst (v := 0) hO dX9_begins_109 (by decide) ?_
        obtain ⟨hb13609, hf⟩ := gj_c hf
        refine gj_iald hO kl_191 kd_191 hb13609 dX9_begins_110 ?_
        refine gj_iadd hO dX9_begins_111 ?_
        refine gj_iload_n hO 1 dX9_begins_112 rfl rfl ?_
        refine gj_iadd hO dX9_begins_113 ?_
        refine gj_iconst (v := 0) hO dX9_begins_114 (by decide) ?_
        obtain ⟨hb13610, hf⟩ := gj_c hf
        refine gj_iast hO kl_198 kd_198 hb13610 dX9_begins_115 ?_
        refine gj_iinc (v := (a10036_0 + 1)) (lv2 := [(1, gj_i (a10036_0 + 1)), (0, gj_r 188)]) hO 1 dX9_begins_116 rfl rfl (by decide) rfl ?_
        refine gj_goto (tgt := 36) hO dX9_begins_119 (by decide) ?_
        obtain rfl := Option.some.inj hf
        refine gj_sub (lv2 := [(0, gj_r 188), (1, gj_i (a10036_0 + 1))]) [1, 0] rfl ?_
        exact K
      refine gj_if_lt (tgt := 96) hO dX9_begins_89 (by decide) (fun h => ?_) (fun h => ?_)
      · replace hz13606 := gj_t h hz13606
        refine gj_iload_n hO 2 dX9_begins_96 rfl rfl ?_
        refine gj_ineg hO dX9_begins_97 ?_
        obtain rfl := Option.some.inj hz13606
        refine gj_sub (lv2 := [(0, gj_r 188), (1, gj_i a10036_0)]) [0, 1] rfl ?_
        exact J13606
      · replace hz13606 := gj_f h hz13606
        refine gj_iload_n hO 2 dX9_begins_92 rfl rfl ?_
        refine gj_goto (tgt := 98) hO dX9_begins_93 (by decide) ?_
        obtain rfl := Option.some.inj hz13606
        refine gj_sub (lv2 := [(0, gj_r 188), (1, gj_i a10036_0)]) [0, 1] rfl ?_
        exact J13606
    refine gj_if_lt (tgt := 71) hO dX9_begins_64 (by decide) (fun h => ?_) (fun h => ?_)
    · replace hz13603 := gj_t h hz13603
      refine gj_iconst (v := 0) hO dX9_begins_71 (by decide) ?_
      obtain rfl := Option.some.inj hz13603
      refine gj_sub (lv2 := [(0, gj_r 188), (1, gj_i a10036_0), (2, gj_i (a10036_1.1 198 (Int32.toNatClampNeg ((0 : Int32) + a10036_0))))]) [1, 2, 0] rfl ?_
      exact J13603
    · replace hz13603 := gj_f h hz13603
      refine gj_iconst (v := 1) hO dX9_begins_67 (by decide) ?_
      refine gj_goto (tgt := 72) hO dX9_begins_68 (by decide) ?_
      obtain rfl := Option.some.inj hz13603
      refine gj_sub (lv2 := [(0, gj_r 188), (1, gj_i a10036_0), (2, gj_i (a10036_1.1 198 (Int32.toNatClampNeg ((0 : Int32) + a10036_0))))]) [1, 2, 0] rfl ?_
      exact J13603
set_option maxHeartbeats 4000000 in
set_option maxRecDepth 100000 in
theorem sb_X9_begins_l141 {E : gj_E} {X : gj_X} {r : Option gj_V} {τ : gj_S} (hO : gj_O E X RX9 cX9_begins 3 none 0 0)  {a10141_0 : Int32} {a10141_1 : gj_S} {x : gj_S ⊕ (Int32 × gj_S)} (hf : fb_X9_begins_l141  (a10141_0, a10141_1) = some x) (K : gj_K (fun z6 => gj_G E X 3 r τ 161 [] [] z6) (fun a10141 => gj_G E X 3 r τ 141 [(0, gj_r 188), (1, gj_i a10141.1)] [] a10141.2) x) : gj_G E X 3 r τ 141 [(0, gj_r 188), (1, gj_i a10141_0)] [] a10141_1 := by
  unfold fb_X9_begins_l141 at hf
  dsimp only at hf
  refine gj_iload_n hO 1 dX9_begins_141 rfl rfl ?_
  refine gj_sipush (v := 180) hO dX9_begins_142 (by decide) ?_
  refine gj_icmp_ge (tgt := 161) hO dX9_begins_145 (by decide) (fun h => ?_) (fun h => ?_)
  · replace hf := gj_t h hf
    obtain rfl := Option.some.inj hf
    refine gj_sub (lv2 := []) [] rfl ?_
    exact K
  · replace hf := gj_f h hf
    refine gj_aload_n hO 0 dX9_begins_148 rfl rfl ?_
    refine gt_X9_21 hO wk_725 dX9_begins_149 ?_
    refine gj_iload_n hO 1 dX9_begins_152 rfl rfl ?_
    refine gj_iconst (v := 0) hO dX9_begins_153 (by decide) ?_
    obtain ⟨hb24101, hf⟩ := gj_c hf
    refine gj_iast hO kl_198 kd_198 hb24101 dX9_begins_154 ?_
    refine gj_iinc (v := (a10141_0 + 1)) (lv2 := [(1, gj_i (a10141_0 + 1)), (0, gj_r 188)]) hO 1 dX9_begins_155 rfl rfl (by decide) rfl ?_
    refine gj_goto (tgt := 141) hO dX9_begins_158 (by decide) ?_
    obtain rfl := Option.some.inj hf
    refine gj_sub (lv2 := [(0, gj_r 188), (1, gj_i (a10141_0 + 1))]) [1, 0] rfl ?_
    exact K
set_option maxHeartbeats 4000000 in
set_option maxRecDepth 100000 in
theorem m_X9_begins {E : gj_E} {σ : gj_S}   {x : gj_S} (hf : f_X9_begins  σ = some x) : gj_M E yX9_begins cX9_begins 3 none 0 0 [gj_r 188] σ none x := by
  refine gj_body (lv := [(0, gj_r 188)]) (by decide +kernel) (Nat.le_of_ble_eq_true rfl) rfl (fun X hO => ?_)
  replace hO : gj_O E X RX9 cX9_begins 3 none 0 0 := hO
  unfold f_X9_begins at hf
  refine gj_iconst (v := 0) hO dX9_begins_0 (by decide) ?_
  refine gj_istore_n (lv2 := [(1, gj_i (0 : Int32)), (0, gj_r 188)]) hO dX9_begins_1 rfl (by decide) rfl ?_
  obtain ⟨z1, hz1, hf⟩ := gj_b hf
  have J1 : gj_G E X 3 none x 34 [(0, gj_r 188)] [] z1 := by
    refine gj_iconst (v := 0) hO dX9_begins_34 (by decide) ?_
    refine gj_istore_n (lv2 := [(1, gj_i (0 : Int32)), (0, gj_r 188)]) hO dX9_begins_35 rfl (by decide) rfl ?_
    obtain ⟨z2, hz2, hf⟩ := gj_b hf
    have J2 : gj_G E X 3 none x 122 [(0, gj_r 188)] [] z2 := by
      refine gj_aload_n hO 0 dX9_begins_122 rfl rfl ?_
      refine gt_X9_21 hO wk_725 dX9_begins_123 ?_
      refine gj_bipush (v := 41) hO dX9_begins_126 (by decide) ?_
      refine gj_iconst (v := 0) hO dX9_begins_128 (by decide) ?_
      obtain ⟨hb3, hf⟩ := gj_c hf
      refine gj_iast hO kl_198 kd_198 hb3 dX9_begins_129 ?_
      refine gj_aload_n hO 0 dX9_begins_130 rfl rfl ?_
      refine gt_X9_21 hO wk_725 dX9_begins_131 ?_
      refine gj_bipush (v := 98) hO dX9_begins_134 (by decide) ?_
      refine gj_iconst (v := 0) hO dX9_begins_136 (by decide) ?_
      obtain ⟨hb4, hf⟩ := gj_c hf
      refine gj_iast hO kl_198 kd_198 hb4 dX9_begins_137 ?_
      obtain ⟨s5, e5, hf⟩ := gj_b hf
      refine gj_eqS (Option.some.inj e5) ?_
      refine gj_bipush (v := 99) hO dX9_begins_138 (by decide) ?_
      refine gj_istore_n (lv2 := [(1, gj_i (99 : Int32)), (0, gj_r 188)]) hO dX9_begins_140 rfl (by decide) rfl ?_
      obtain ⟨z6, hz6, hf⟩ := gj_b hf
      have J6 : gj_G E X 3 none x 161 [] [] z6 := by
        obtain rfl := Option.some.inj hf
        exact gj_vret hO dX9_begins_161
      refine gj_sub (lv2 := [(0, gj_r 188), (1, gj_i (99 : Int32))]) [1, 0] rfl ?_
      exact gj_loop (head := fun a10141 => gj_G E X 3 none x 141 [(0, gj_r 188), (1, gj_i a10141.1)] [] a10141.2) (exit := fun z6 => gj_G E X 3 none x 161 [] [] z6) (fun a10141 x hf K => by obtain ⟨a10141_0, a10141_1⟩ := a10141; exact sb_X9_begins_l141 hO hf K) _ _ _ hz6 J6
    refine gj_sub (lv2 := [(0, gj_r 188), (1, gj_i (0 : Int32))]) [1, 0] rfl ?_
    exact gj_loop (head := fun a10036 => gj_G E X 3 none x 36 [(0, gj_r 188), (1, gj_i a10036.1)] [] a10036.2) (exit := fun z2 => gj_G E X 3 none x 122 [(0, gj_r 188)] [] z2) (fun a10036 x hf K => by obtain ⟨a10036_0, a10036_1⟩ := a10036; exact sb_X9_begins_l36 hO hf K) _ _ _ hz2 J2
  refine gj_sub (lv2 := [(0, gj_r 188), (1, gj_i (0 : Int32))]) [1, 0] rfl ?_
  exact gj_loop (head := fun a10002 => gj_G E X 3 none x 2 [(0, gj_r 188), (1, gj_i a10002.1)] [] a10002.2) (exit := fun z1 => gj_G E X 3 none x 34 [(0, gj_r 188)] [] z1) (fun a10002 x hf K => by obtain ⟨a10002_0, a10002_1⟩ := a10002; exact sb_X9_begins_l2 hO hf K) _ _ _ hz1 J1
set_option maxHeartbeats 4000000 in
set_option maxRecDepth 100000 in
theorem ca_X9_begins {E : gj_E} {X : gj_X} {own : String} {cc : ByteArray} {nL : Nat} {rt : Option FieldType} {fr lo : Nat} {ce sl : Nat} {Q : State → Prop} {pc : Nat} {lv : List (Nat × gj_V)} {st : List gj_V} {σ : gj_S} (hO : gj_O E X own cc nL rt fr lo) (hw : gj_lt own 188)   {idx : Nat} {x : gj_S} (hf : f_X9_begins  σ = some x) (hl : Cond.methodLink own idx yX9_begins ∈ gj_gw) (hf1 : 1 ≤ fr) (hf2 : 22 ≤ lo) (hcat : ((st.map (gj_tv E.2.1)).map fun v => v.category).sum ≤ 8) (hd : decode cc pc = .ok (.invokevirtual idx, 3)) (k : gj_H E X nL ce sl Q (pc + 3) lv (st) x) : gj_H E X nL ce sl Q pc lv (gj_r 188 :: st) σ :=
  gj_callV hO (o := 188) (vs := []) (m_X9_begins  hf) (gj_I9 hw) hl wk_726 wk_727 wk_629 wk_728 hw kd_188 (by decide) (ci := 9) rfl (n := 0) (by decide +kernel) rfl hf1 hf2 rfl hcat hd k
def f_X9_ways  (σ : gj_S) : Option Int32 := (if gj_in (0 : Int32) 2 then (if gj_in (0 : Int32) 2 then some ((σ.1 191 (Int32.toNatClampNeg (0 : Int32))) + (σ.1 190 (Int32.toNatClampNeg (0 : Int32)))) else none) else none)
set_option maxHeartbeats 4000000 in
set_option maxRecDepth 100000 in
theorem m_X9_ways {E : gj_E} {σ : gj_S}   {x : Int32} (hf : f_X9_ways  σ = some x) : gj_M E yX9_ways cX9_ways 1 (some .int) 0 0 [gj_r 188] σ (some (gj_i x)) σ := by
  refine gj_body (lv := [(0, gj_r 188)]) (by decide +kernel) (Nat.le_of_ble_eq_true rfl) rfl (fun X hO => ?_)
  replace hO : gj_O E X RX9 cX9_ways 1 (some .int) 0 0 := hO
  unfold f_X9_ways at hf
  refine gj_aload_n hO 0 dX9_ways_0 rfl rfl ?_
  refine gt_X9_12 hO wk_693 dX9_ways_1 ?_
  refine gj_iconst (v := 0) hO dX9_ways_4 (by decide) ?_
  obtain ⟨hb1, hf⟩ := gj_c hf
  refine gj_iald hO kl_191 kd_191 hb1 dX9_ways_5 ?_
  refine gj_aload_n hO 0 dX9_ways_6 rfl rfl ?_
  refine gt_X9_11 hO wk_691 dX9_ways_7 ?_
  refine gj_iconst (v := 0) hO dX9_ways_10 (by decide) ?_
  obtain ⟨hb2, hf⟩ := gj_c hf
  refine gj_iald hO kl_190 kd_190 hb2 dX9_ways_11 ?_
  refine gj_iadd hO dX9_ways_12 ?_
  obtain rfl := Option.some.inj hf
  exact gj_iret hO dX9_ways_13
set_option maxHeartbeats 4000000 in
set_option maxRecDepth 100000 in
theorem ca_X9_ways {E : gj_E} {X : gj_X} {own : String} {cc : ByteArray} {nL : Nat} {rt : Option FieldType} {fr lo : Nat} {ce sl : Nat} {Q : State → Prop} {pc : Nat} {lv : List (Nat × gj_V)} {st : List gj_V} {σ : gj_S} (hO : gj_O E X own cc nL rt fr lo) (hw : gj_lt own 188)   {idx : Nat} {x : Int32} (hf : f_X9_ways  σ = some x) (hl : Cond.methodLink own idx yX9_ways ∈ gj_gw) (hf1 : 1 ≤ fr) (hf2 : 20 ≤ lo) (hcat : ((st.map (gj_tv E.2.1)).map fun v => v.category).sum ≤ 8) (hd : decode cc pc = .ok (.invokevirtual idx, 3)) (k : gj_H E X nL ce sl Q (pc + 3) lv ((gj_i x) :: st) σ) : gj_H E X nL ce sl Q pc lv (gj_r 188 :: st) σ :=
  gj_callV hO (o := 188) (vs := []) (m_X9_ways  hf) (gj_I9 hw) hl wk_736 wk_737 wk_629 wk_738 hw kd_188 (by decide) (ci := 9) rfl (n := 0) (by decide +kernel) rfl hf1 hf2 rfl hcat hd k
def f_X9_isDock (b1 : Int32) (σ : gj_S) : Option Int32 := (if gj_in (0 : Int32) 2 then ((f_X9_within (Int32.toInt64 b1) (0 : Int64) (Int32.toInt64 ((σ.1 190 (Int32.toNatClampNeg (0 : Int32))) - (1 : Int32)))).bind fun x2 => (if x2 = 0 ∨ x2 = 1 then some x2 else none)) else none)
set_option maxHeartbeats 4000000 in
set_option maxRecDepth 100000 in
theorem m_X9_isDock {E : gj_E} {σ : gj_S} {b1 : Int32}  {x : Int32} (hf : f_X9_isDock b1 σ = some x) : gj_M E yX9_isDock cX9_isDock 2 (some .boolean) 1 25 [gj_r 188, gj_i b1] σ (some (gj_i x)) σ := by
  refine gj_body (lv := [(0, gj_r 188), (1, gj_i b1)]) (by decide +kernel) (Nat.le_of_ble_eq_true rfl) rfl (fun X hO => ?_)
  replace hO : gj_O E X RX9 cX9_isDock 2 (some .boolean) 1 25 := hO
  unfold f_X9_isDock at hf
  refine gj_iload_n hO 1 dX9_isDock_0 rfl rfl ?_
  refine gj_i2l hO dX9_isDock_1 ?_
  refine gj_lconst (v := 0) hO dX9_isDock_2 (by decide) ?_
  refine gj_aload_n hO 0 dX9_isDock_3 rfl rfl ?_
  refine gt_X9_11 hO wk_691 dX9_isDock_4 ?_
  refine gj_iconst (v := 0) hO dX9_isDock_7 (by decide) ?_
  obtain ⟨hb1, hf⟩ := gj_c hf
  refine gj_iald hO kl_190 kd_190 hb1 dX9_isDock_8 ?_
  refine gj_iconst (v := 1) hO dX9_isDock_9 (by decide) ?_
  refine gj_isub hO dX9_isDock_10 ?_
  refine gj_i2l hO dX9_isDock_11 ?_
  obtain ⟨x2, hc2, hf⟩ := gj_b hf
  refine ca_X9_within hO kl_188  hc2 wk_653 (by decide) (by decide) (Nat.le_of_ble_eq_true rfl) dX9_isDock_12 ?_
  obtain ⟨hb3, hf⟩ := gj_c hf
  obtain rfl := Option.some.inj hf
  exact gj_zret hO hb3 dX9_isDock_15
set_option maxHeartbeats 4000000 in
set_option maxRecDepth 100000 in
theorem ca_X9_isDock {E : gj_E} {X : gj_X} {own : String} {cc : ByteArray} {nL : Nat} {rt : Option FieldType} {fr lo : Nat} {ce sl : Nat} {Q : State → Prop} {pc : Nat} {lv : List (Nat × gj_V)} {st : List gj_V} {σ : gj_S} (hO : gj_O E X own cc nL rt fr lo) (hw : gj_lt own 188) {b1 : Int32}  {idx : Nat} {x : Int32} (hf : f_X9_isDock b1 σ = some x) (hl : Cond.methodLink own idx yX9_isDock ∈ gj_gw) (hf1 : 2 ≤ fr) (hf2 : 46 ≤ lo) (hcat : ((st.map (gj_tv E.2.1)).map fun v => v.category).sum ≤ 8) (hd : decode cc pc = .ok (.invokevirtual idx, 3)) (k : gj_H E X nL ce sl Q (pc + 3) lv ((gj_i x) :: st) σ) : gj_H E X nL ce sl Q pc lv (gj_i b1 :: gj_r 188 :: st) σ :=
  gj_callV hO (o := 188) (vs := [gj_i b1]) (m_X9_isDock  hf) (gj_I9 hw) hl wk_739 wk_740 wk_629 wk_741 hw kd_188 (by decide) (ci := 9) rfl (n := 1) (by decide +kernel) rfl hf1 hf2 rfl hcat hd k
def f_X9_isRoute (b1 : Int32) (σ : gj_S) : Option Int32 := (if gj_in (0 : Int32) 2 then ((f_X9_within (Int32.toInt64 b1) (0 : Int64) (Int32.toInt64 ((σ.1 191 (Int32.toNatClampNeg (0 : Int32))) - (1 : Int32)))).bind fun x2 => (if x2 = 0 ∨ x2 = 1 then some x2 else none)) else none)
set_option maxHeartbeats 4000000 in
set_option maxRecDepth 100000 in
theorem m_X9_isRoute {E : gj_E} {σ : gj_S} {b1 : Int32}  {x : Int32} (hf : f_X9_isRoute b1 σ = some x) : gj_M E yX9_isRoute cX9_isRoute 2 (some .boolean) 1 25 [gj_r 188, gj_i b1] σ (some (gj_i x)) σ := by
  refine gj_body (lv := [(0, gj_r 188), (1, gj_i b1)]) (by decide +kernel) (Nat.le_of_ble_eq_true rfl) rfl (fun X hO => ?_)
  replace hO : gj_O E X RX9 cX9_isRoute 2 (some .boolean) 1 25 := hO
  unfold f_X9_isRoute at hf
  refine gj_iload_n hO 1 dX9_isRoute_0 rfl rfl ?_
  refine gj_i2l hO dX9_isRoute_1 ?_
  refine gj_lconst (v := 0) hO dX9_isRoute_2 (by decide) ?_
  refine gj_aload_n hO 0 dX9_isRoute_3 rfl rfl ?_
  refine gt_X9_12 hO wk_693 dX9_isRoute_4 ?_
  refine gj_iconst (v := 0) hO dX9_isRoute_7 (by decide) ?_
  obtain ⟨hb1, hf⟩ := gj_c hf
  refine gj_iald hO kl_191 kd_191 hb1 dX9_isRoute_8 ?_
  refine gj_iconst (v := 1) hO dX9_isRoute_9 (by decide) ?_
  refine gj_isub hO dX9_isRoute_10 ?_
  refine gj_i2l hO dX9_isRoute_11 ?_
  obtain ⟨x2, hc2, hf⟩ := gj_b hf
  refine ca_X9_within hO kl_188  hc2 wk_653 (by decide) (by decide) (Nat.le_of_ble_eq_true rfl) dX9_isRoute_12 ?_
  obtain ⟨hb3, hf⟩ := gj_c hf
  obtain rfl := Option.some.inj hf
  exact gj_zret hO hb3 dX9_isRoute_15
set_option maxHeartbeats 4000000 in
set_option maxRecDepth 100000 in
theorem ca_X9_isRoute {E : gj_E} {X : gj_X} {own : String} {cc : ByteArray} {nL : Nat} {rt : Option FieldType} {fr lo : Nat} {ce sl : Nat} {Q : State → Prop} {pc : Nat} {lv : List (Nat × gj_V)} {st : List gj_V} {σ : gj_S} (hO : gj_O E X own cc nL rt fr lo) (hw : gj_lt own 188) {b1 : Int32}  {idx : Nat} {x : Int32} (hf : f_X9_isRoute b1 σ = some x) (hl : Cond.methodLink own idx yX9_isRoute ∈ gj_gw) (hf1 : 2 ≤ fr) (hf2 : 46 ≤ lo) (hcat : ((st.map (gj_tv E.2.1)).map fun v => v.category).sum ≤ 8) (hd : decode cc pc = .ok (.invokevirtual idx, 3)) (k : gj_H E X nL ce sl Q (pc + 3) lv ((gj_i x) :: st) σ) : gj_H E X nL ce sl Q pc lv (gj_i b1 :: gj_r 188 :: st) σ :=
  gj_callV hO (o := 188) (vs := [gj_i b1]) (m_X9_isRoute  hf) (gj_I9 hw) hl wk_742 wk_743 wk_629 wk_744 hw kd_188 (by decide) (ci := 9) rfl (n := 1) (by decide +kernel) rfl hf1 hf2 rfl hcat hd k
def f_X9_isWay (b1 : Int32) (σ : gj_S) : Option Int32 := ((f_X9_ways σ).bind fun x1 => ((f_X9_within (Int32.toInt64 b1) (0 : Int64) (Int32.toInt64 (x1 - (1 : Int32)))).bind fun x2 => (if x2 = 0 ∨ x2 = 1 then some x2 else none)))
set_option maxHeartbeats 4000000 in
set_option maxRecDepth 100000 in
theorem m_X9_isWay {E : gj_E} {σ : gj_S} {b1 : Int32}  {x : Int32} (hf : f_X9_isWay b1 σ = some x) : gj_M E yX9_isWay cX9_isWay 2 (some .boolean) 1 25 [gj_r 188, gj_i b1] σ (some (gj_i x)) σ := by
  refine gj_body (lv := [(0, gj_r 188), (1, gj_i b1)]) (by decide +kernel) (Nat.le_of_ble_eq_true rfl) rfl (fun X hO => ?_)
  replace hO : gj_O E X RX9 cX9_isWay 2 (some .boolean) 1 25 := hO
  unfold f_X9_isWay at hf
  refine gj_iload_n hO 1 dX9_isWay_0 rfl rfl ?_
  refine gj_i2l hO dX9_isWay_1 ?_
  refine gj_lconst (v := 0) hO dX9_isWay_2 (by decide) ?_
  refine gj_aload_n hO 0 dX9_isWay_3 rfl rfl ?_
  obtain ⟨x1, hc1, hf⟩ := gj_b hf
  refine ca_X9_ways hO kl_188  hc1 wk_745 (by decide) (by decide) (Nat.le_of_ble_eq_true rfl) dX9_isWay_4 ?_
  refine gj_iconst (v := 1) hO dX9_isWay_7 (by decide) ?_
  refine gj_isub hO dX9_isWay_8 ?_
  refine gj_i2l hO dX9_isWay_9 ?_
  obtain ⟨x2, hc2, hf⟩ := gj_b hf
  refine ca_X9_within hO kl_188  hc2 wk_653 (by decide) (by decide) (Nat.le_of_ble_eq_true rfl) dX9_isWay_10 ?_
  obtain ⟨hb3, hf⟩ := gj_c hf
  obtain rfl := Option.some.inj hf
  exact gj_zret hO hb3 dX9_isWay_13
set_option maxHeartbeats 4000000 in
set_option maxRecDepth 100000 in
theorem ca_X9_isWay {E : gj_E} {X : gj_X} {own : String} {cc : ByteArray} {nL : Nat} {rt : Option FieldType} {fr lo : Nat} {ce sl : Nat} {Q : State → Prop} {pc : Nat} {lv : List (Nat × gj_V)} {st : List gj_V} {σ : gj_S} (hO : gj_O E X own cc nL rt fr lo) (hw : gj_lt own 188) {b1 : Int32}  {idx : Nat} {x : Int32} (hf : f_X9_isWay b1 σ = some x) (hl : Cond.methodLink own idx yX9_isWay ∈ gj_gw) (hf1 : 2 ≤ fr) (hf2 : 46 ≤ lo) (hcat : ((st.map (gj_tv E.2.1)).map fun v => v.category).sum ≤ 8) (hd : decode cc pc = .ok (.invokevirtual idx, 3)) (k : gj_H E X nL ce sl Q (pc + 3) lv ((gj_i x) :: st) σ) : gj_H E X nL ce sl Q pc lv (gj_i b1 :: gj_r 188 :: st) σ :=
  gj_callV hO (o := 188) (vs := [gj_i b1]) (m_X9_isWay  hf) (gj_I9 hw) hl wk_746 wk_747 wk_629 wk_748 hw kd_188 (by decide) (ci := 9) rfl (n := 1) (by decide +kernel) rfl hf1 hf2 rfl hcat hd k
def f_X9_beginOf (b1 : Int32) (σ : gj_S) : Option Int32 := (if gj_in (0 : Int32) 2 then (if (σ.1 191 (Int32.toNatClampNeg (0 : Int32))) ≤ b1 then (if gj_in (0 : Int32) 2 then (if gj_in ((42 : Int32) + (b1 - (σ.1 191 (Int32.toNatClampNeg (0 : Int32))))) 180 then (if (σ.1 198 (Int32.toNatClampNeg ((42 : Int32) + (b1 - (σ.1 191 (Int32.toNatClampNeg (0 : Int32))))))) = (1 : Int32) then some (b1 - (σ.1 191 (Int32.toNatClampNeg (0 : Int32)))) else some (8 : Int32)) else none) else none) else (if gj_in b1 32 then some (σ.1 194 (Int32.toNatClampNeg b1)) else none)) else none)
set_option maxHeartbeats 4000000 in
set_option maxRecDepth 100000 in
theorem m_X9_beginOf {E : gj_E} {σ : gj_S} {b1 : Int32}  {x : Int32} (hf : f_X9_beginOf b1 σ = some x) : gj_M E yX9_beginOf cX9_beginOf 3 (some .int) 0 0 [gj_r 188, gj_i b1] σ (some (gj_i x)) σ := by
  refine gj_body (lv := [(0, gj_r 188), (1, gj_i b1)]) (by decide +kernel) (Nat.le_of_ble_eq_true rfl) rfl (fun X hO => ?_)
  replace hO : gj_O E X RX9 cX9_beginOf 3 (some .int) 0 0 := hO
  unfold f_X9_beginOf at hf
  refine gj_iload_n hO 1 dX9_beginOf_0 rfl rfl ?_
  refine gj_aload_n hO 0 dX9_beginOf_1 rfl rfl ?_
  refine gt_X9_12 hO wk_693 dX9_beginOf_2 ?_
  refine gj_iconst (v := 0) hO dX9_beginOf_5 (by decide) ?_
  obtain ⟨hb1, hf⟩ := gj_c hf
  refine gj_iald hO kl_191 kd_191 hb1 dX9_beginOf_6 ?_
  refine gj_icmp_ge (tgt := 17) hO dX9_beginOf_7 (by decide) (fun h => ?_) (fun h => ?_)
  · replace hf := gj_t h hf
    refine gj_iload_n hO 1 dX9_beginOf_17 rfl rfl ?_
    refine gj_aload_n hO 0 dX9_beginOf_18 rfl rfl ?_
    refine gt_X9_12 hO wk_693 dX9_beginOf_19 ?_
    refine gj_iconst (v := 0) hO dX9_beginOf_22 (by decide) ?_
    obtain ⟨hb2, hf⟩ := gj_c hf
    refine gj_iald hO kl_191 kd_191 hb2 dX9_beginOf_23 ?_
    refine gj_isub hO dX9_beginOf_24 ?_
    refine gj_istore_n (lv2 := [(2, gj_i (b1 - (σ.1 191 (Int32.toNatClampNeg (0 : Int32))))), (0, gj_r 188), (1, gj_i b1)]) hO dX9_beginOf_25 rfl (by decide) rfl ?_
    refine gj_aload_n hO 1 dX9_beginOf_26 rfl rfl ?_
    refine gt_X9_21 hO wk_725 dX9_beginOf_27 ?_
    refine gj_bipush (v := 42) hO dX9_beginOf_30 (by decide) ?_
    refine gj_iload_n hO 0 dX9_beginOf_32 rfl rfl ?_
    refine gj_iadd hO dX9_beginOf_33 ?_
    obtain ⟨hb3, hf⟩ := gj_c hf
    refine gj_iald hO kl_198 kd_198 hb3 dX9_beginOf_34 ?_
    refine gj_iconst (v := 1) hO dX9_beginOf_35 (by decide) ?_
    refine gj_icmp_ne (tgt := 43) hO dX9_beginOf_36 (by decide) (fun h => ?_) (fun h => ?_)
    · replace hf := gj_f h hf
      refine gj_bipush (v := 8) hO dX9_beginOf_43 (by decide) ?_
      obtain rfl := Option.some.inj hf
      exact gj_iret hO dX9_beginOf_45
    · replace hf := gj_t h hf
      refine gj_iload_n hO 0 dX9_beginOf_39 rfl rfl ?_
      refine gj_goto (tgt := 45) hO dX9_beginOf_40 (by decide) ?_
      obtain rfl := Option.some.inj hf
      exact gj_iret hO dX9_beginOf_45
  · replace hf := gj_f h hf
    refine gj_aload_n hO 0 dX9_beginOf_10 rfl rfl ?_
    refine gt_X9_15 hO wk_706 dX9_beginOf_11 ?_
    refine gj_iload_n hO 1 dX9_beginOf_14 rfl rfl ?_
    obtain ⟨hb4, hf⟩ := gj_c hf
    refine gj_iald hO kl_194 kd_194 hb4 dX9_beginOf_15 ?_
    obtain rfl := Option.some.inj hf
    exact gj_iret hO dX9_beginOf_16
set_option maxHeartbeats 4000000 in
set_option maxRecDepth 100000 in
theorem ca_X9_beginOf {E : gj_E} {X : gj_X} {own : String} {cc : ByteArray} {nL : Nat} {rt : Option FieldType} {fr lo : Nat} {ce sl : Nat} {Q : State → Prop} {pc : Nat} {lv : List (Nat × gj_V)} {st : List gj_V} {σ : gj_S} (hO : gj_O E X own cc nL rt fr lo) (hw : gj_lt own 188) {b1 : Int32}  {idx : Nat} {x : Int32} (hf : f_X9_beginOf b1 σ = some x) (hl : Cond.methodLink own idx yX9_beginOf ∈ gj_gw) (hf1 : 1 ≤ fr) (hf2 : 22 ≤ lo) (hcat : ((st.map (gj_tv E.2.1)).map fun v => v.category).sum ≤ 8) (hd : decode cc pc = .ok (.invokevirtual idx, 3)) (k : gj_H E X nL ce sl Q (pc + 3) lv ((gj_i x) :: st) σ) : gj_H E X nL ce sl Q pc lv (gj_i b1 :: gj_r 188 :: st) σ :=
  gj_callV hO (o := 188) (vs := [gj_i b1]) (m_X9_beginOf  hf) (gj_I9 hw) hl wk_749 wk_750 wk_629 wk_751 hw kd_188 (by decide) (ci := 9) rfl (n := 1) (by decide +kernel) rfl hf1 hf2 rfl hcat hd k
def f_X9_endOf (b1 : Int32) (σ : gj_S) : Option Int32 := (if gj_in (0 : Int32) 2 then (if (σ.1 191 (Int32.toNatClampNeg (0 : Int32))) ≤ b1 then (if gj_in (0 : Int32) 2 then (if gj_in ((42 : Int32) + (b1 - (σ.1 191 (Int32.toNatClampNeg (0 : Int32))))) 180 then (if (σ.1 198 (Int32.toNatClampNeg ((42 : Int32) + (b1 - (σ.1 191 (Int32.toNatClampNeg (0 : Int32))))))) = (1 : Int32) then some (8 : Int32) else some (b1 - (σ.1 191 (Int32.toNatClampNeg (0 : Int32))))) else none) else none) else (if gj_in b1 32 then some (σ.1 195 (Int32.toNatClampNeg b1)) else none)) else none)
set_option maxHeartbeats 4000000 in
set_option maxRecDepth 100000 in
theorem m_X9_endOf {E : gj_E} {σ : gj_S} {b1 : Int32}  {x : Int32} (hf : f_X9_endOf b1 σ = some x) : gj_M E yX9_endOf cX9_endOf 3 (some .int) 0 0 [gj_r 188, gj_i b1] σ (some (gj_i x)) σ := by
  refine gj_body (lv := [(0, gj_r 188), (1, gj_i b1)]) (by decide +kernel) (Nat.le_of_ble_eq_true rfl) rfl (fun X hO => ?_)
  replace hO : gj_O E X RX9 cX9_endOf 3 (some .int) 0 0 := hO
  unfold f_X9_endOf at hf
  refine gj_iload_n hO 1 dX9_endOf_0 rfl rfl ?_
  refine gj_aload_n hO 0 dX9_endOf_1 rfl rfl ?_
  refine gt_X9_12 hO wk_693 dX9_endOf_2 ?_
  refine gj_iconst (v := 0) hO dX9_endOf_5 (by decide) ?_
  obtain ⟨hb1, hf⟩ := gj_c hf
  refine gj_iald hO kl_191 kd_191 hb1 dX9_endOf_6 ?_
  refine gj_icmp_ge (tgt := 17) hO dX9_endOf_7 (by decide) (fun h => ?_) (fun h => ?_)
  · replace hf := gj_t h hf
    refine gj_iload_n hO 1 dX9_endOf_17 rfl rfl ?_
    refine gj_aload_n hO 0 dX9_endOf_18 rfl rfl ?_
    refine gt_X9_12 hO wk_693 dX9_endOf_19 ?_
    refine gj_iconst (v := 0) hO dX9_endOf_22 (by decide) ?_
    obtain ⟨hb2, hf⟩ := gj_c hf
    refine gj_iald hO kl_191 kd_191 hb2 dX9_endOf_23 ?_
    refine gj_isub hO dX9_endOf_24 ?_
    refine gj_istore_n (lv2 := [(2, gj_i (b1 - (σ.1 191 (Int32.toNatClampNeg (0 : Int32))))), (0, gj_r 188), (1, gj_i b1)]) hO dX9_endOf_25 rfl (by decide) rfl ?_
    refine gj_aload_n hO 1 dX9_endOf_26 rfl rfl ?_
    refine gt_X9_21 hO wk_725 dX9_endOf_27 ?_
    refine gj_bipush (v := 42) hO dX9_endOf_30 (by decide) ?_
    refine gj_iload_n hO 0 dX9_endOf_32 rfl rfl ?_
    refine gj_iadd hO dX9_endOf_33 ?_
    obtain ⟨hb3, hf⟩ := gj_c hf
    refine gj_iald hO kl_198 kd_198 hb3 dX9_endOf_34 ?_
    refine gj_iconst (v := 1) hO dX9_endOf_35 (by decide) ?_
    refine gj_icmp_ne (tgt := 44) hO dX9_endOf_36 (by decide) (fun h => ?_) (fun h => ?_)
    · replace hf := gj_f h hf
      refine gj_iload_n hO 0 dX9_endOf_44 rfl rfl ?_
      obtain rfl := Option.some.inj hf
      exact gj_iret hO dX9_endOf_45
    · replace hf := gj_t h hf
      refine gj_bipush (v := 8) hO dX9_endOf_39 (by decide) ?_
      refine gj_goto (tgt := 45) hO dX9_endOf_41 (by decide) ?_
      obtain rfl := Option.some.inj hf
      exact gj_iret hO dX9_endOf_45
  · replace hf := gj_f h hf
    refine gj_aload_n hO 0 dX9_endOf_10 rfl rfl ?_
    refine gt_X9_16 hO wk_708 dX9_endOf_11 ?_
    refine gj_iload_n hO 1 dX9_endOf_14 rfl rfl ?_
    obtain ⟨hb4, hf⟩ := gj_c hf
    refine gj_iald hO kl_195 kd_195 hb4 dX9_endOf_15 ?_
    obtain rfl := Option.some.inj hf
    exact gj_iret hO dX9_endOf_16
set_option maxHeartbeats 4000000 in
set_option maxRecDepth 100000 in
theorem ca_X9_endOf {E : gj_E} {X : gj_X} {own : String} {cc : ByteArray} {nL : Nat} {rt : Option FieldType} {fr lo : Nat} {ce sl : Nat} {Q : State → Prop} {pc : Nat} {lv : List (Nat × gj_V)} {st : List gj_V} {σ : gj_S} (hO : gj_O E X own cc nL rt fr lo) (hw : gj_lt own 188) {b1 : Int32}  {idx : Nat} {x : Int32} (hf : f_X9_endOf b1 σ = some x) (hl : Cond.methodLink own idx yX9_endOf ∈ gj_gw) (hf1 : 1 ≤ fr) (hf2 : 22 ≤ lo) (hcat : ((st.map (gj_tv E.2.1)).map fun v => v.category).sum ≤ 8) (hd : decode cc pc = .ok (.invokevirtual idx, 3)) (k : gj_H E X nL ce sl Q (pc + 3) lv ((gj_i x) :: st) σ) : gj_H E X nL ce sl Q pc lv (gj_i b1 :: gj_r 188 :: st) σ :=
  gj_callV hO (o := 188) (vs := [gj_i b1]) (m_X9_endOf  hf) (gj_I9 hw) hl wk_752 wk_753 wk_629 wk_754 hw kd_188 (by decide) (ci := 9) rfl (n := 1) (by decide +kernel) rfl hf1 hf2 rfl hcat hd k
def f_X9_costOf (b1 : Int32) (σ : gj_S) : Option Int32 := (if gj_in (0 : Int32) 2 then (if (σ.1 191 (Int32.toNatClampNeg (0 : Int32))) ≤ b1 then some (10000 : Int32) else (if gj_in ((8 : Int32) + b1) 180 then some (σ.1 198 (Int32.toNatClampNeg ((8 : Int32) + b1))) else none)) else none)
set_option maxHeartbeats 4000000 in
set_option maxRecDepth 100000 in
theorem m_X9_costOf {E : gj_E} {σ : gj_S} {b1 : Int32}  {x : Int32} (hf : f_X9_costOf b1 σ = some x) : gj_M E yX9_costOf cX9_costOf 2 (some .int) 0 0 [gj_r 188, gj_i b1] σ (some (gj_i x)) σ := by
  refine gj_body (lv := [(0, gj_r 188), (1, gj_i b1)]) (by decide +kernel) (Nat.le_of_ble_eq_true rfl) rfl (fun X hO => ?_)
  replace hO : gj_O E X RX9 cX9_costOf 2 (some .int) 0 0 := hO
  unfold f_X9_costOf at hf
  refine gj_iload_n hO 1 dX9_costOf_0 rfl rfl ?_
  refine gj_aload_n hO 0 dX9_costOf_1 rfl rfl ?_
  refine gt_X9_12 hO wk_693 dX9_costOf_2 ?_
  refine gj_iconst (v := 0) hO dX9_costOf_5 (by decide) ?_
  obtain ⟨hb1, hf⟩ := gj_c hf
  refine gj_iald hO kl_191 kd_191 hb1 dX9_costOf_6 ?_
  refine gj_icmp_ge (tgt := 22) hO dX9_costOf_7 (by decide) (fun h => ?_) (fun h => ?_)
  · replace hf := gj_t h hf
    refine gj_sipush (v := 10000) hO dX9_costOf_22 (by decide) ?_
    obtain rfl := Option.some.inj hf
    exact gj_iret hO dX9_costOf_25
  · replace hf := gj_f h hf
    refine gj_aload_n hO 0 dX9_costOf_10 rfl rfl ?_
    refine gt_X9_21 hO wk_725 dX9_costOf_11 ?_
    refine gj_bipush (v := 8) hO dX9_costOf_14 (by decide) ?_
    refine gj_iload_n hO 1 dX9_costOf_16 rfl rfl ?_
    refine gj_iadd hO dX9_costOf_17 ?_
    obtain ⟨hb2, hf⟩ := gj_c hf
    refine gj_iald hO kl_198 kd_198 hb2 dX9_costOf_18 ?_
    refine gj_goto (tgt := 25) hO dX9_costOf_19 (by decide) ?_
    obtain rfl := Option.some.inj hf
    exact gj_iret hO dX9_costOf_25
set_option maxHeartbeats 4000000 in
set_option maxRecDepth 100000 in
theorem ca_X9_costOf {E : gj_E} {X : gj_X} {own : String} {cc : ByteArray} {nL : Nat} {rt : Option FieldType} {fr lo : Nat} {ce sl : Nat} {Q : State → Prop} {pc : Nat} {lv : List (Nat × gj_V)} {st : List gj_V} {σ : gj_S} (hO : gj_O E X own cc nL rt fr lo) (hw : gj_lt own 188) {b1 : Int32}  {idx : Nat} {x : Int32} (hf : f_X9_costOf b1 σ = some x) (hl : Cond.methodLink own idx yX9_costOf ∈ gj_gw) (hf1 : 1 ≤ fr) (hf2 : 21 ≤ lo) (hcat : ((st.map (gj_tv E.2.1)).map fun v => v.category).sum ≤ 8) (hd : decode cc pc = .ok (.invokevirtual idx, 3)) (k : gj_H E X nL ce sl Q (pc + 3) lv ((gj_i x) :: st) σ) : gj_H E X nL ce sl Q pc lv (gj_i b1 :: gj_r 188 :: st) σ :=
  gj_callV hO (o := 188) (vs := [gj_i b1]) (m_X9_costOf  hf) (gj_I9 hw) hl wk_755 wk_756 wk_629 wk_757 hw kd_188 (by decide) (ci := 9) rfl (n := 1) (by decide +kernel) rfl hf1 hf2 rfl hcat hd k
def f_X9_holdsOf (b1 : Int32) (σ : gj_S) : Option Int32 := (if gj_in (0 : Int32) 2 then (if (σ.1 191 (Int32.toNatClampNeg (0 : Int32))) ≤ b1 then some (1000000000 : Int32) else (if gj_in ((24 : Int32) + b1) 180 then some (σ.1 198 (Int32.toNatClampNeg ((24 : Int32) + b1))) else none)) else none)
set_option maxHeartbeats 4000000 in
set_option maxRecDepth 100000 in
theorem m_X9_holdsOf {E : gj_E} {σ : gj_S} {b1 : Int32}  {x : Int32} (hf : f_X9_holdsOf b1 σ = some x) : gj_M E yX9_holdsOf cX9_holdsOf 2 (some .int) 0 0 [gj_r 188, gj_i b1] σ (some (gj_i x)) σ := by
  refine gj_body (lv := [(0, gj_r 188), (1, gj_i b1)]) (by decide +kernel) (Nat.le_of_ble_eq_true rfl) rfl (fun X hO => ?_)
  replace hO : gj_O E X RX9 cX9_holdsOf 2 (some .int) 0 0 := hO
  unfold f_X9_holdsOf at hf
  refine gj_iload_n hO 1 dX9_holdsOf_0 rfl rfl ?_
  refine gj_aload_n hO 0 dX9_holdsOf_1 rfl rfl ?_
  refine gt_X9_12 hO wk_693 dX9_holdsOf_2 ?_
  refine gj_iconst (v := 0) hO dX9_holdsOf_5 (by decide) ?_
  obtain ⟨hb1, hf⟩ := gj_c hf
  refine gj_iald hO kl_191 kd_191 hb1 dX9_holdsOf_6 ?_
  refine gj_icmp_ge (tgt := 22) hO dX9_holdsOf_7 (by decide) (fun h => ?_) (fun h => ?_)
  · replace hf := gj_t h hf
    refine gj_ldc hO wk_758 dX9_holdsOf_22 ?_
    obtain rfl := Option.some.inj hf
    exact gj_iret hO dX9_holdsOf_24
  · replace hf := gj_f h hf
    refine gj_aload_n hO 0 dX9_holdsOf_10 rfl rfl ?_
    refine gt_X9_21 hO wk_725 dX9_holdsOf_11 ?_
    refine gj_bipush (v := 24) hO dX9_holdsOf_14 (by decide) ?_
    refine gj_iload_n hO 1 dX9_holdsOf_16 rfl rfl ?_
    refine gj_iadd hO dX9_holdsOf_17 ?_
    obtain ⟨hb2, hf⟩ := gj_c hf
    refine gj_iald hO kl_198 kd_198 hb2 dX9_holdsOf_18 ?_
    refine gj_goto (tgt := 24) hO dX9_holdsOf_19 (by decide) ?_
    obtain rfl := Option.some.inj hf
    exact gj_iret hO dX9_holdsOf_24
set_option maxHeartbeats 4000000 in
set_option maxRecDepth 100000 in
theorem ca_X9_holdsOf {E : gj_E} {X : gj_X} {own : String} {cc : ByteArray} {nL : Nat} {rt : Option FieldType} {fr lo : Nat} {ce sl : Nat} {Q : State → Prop} {pc : Nat} {lv : List (Nat × gj_V)} {st : List gj_V} {σ : gj_S} (hO : gj_O E X own cc nL rt fr lo) (hw : gj_lt own 188) {b1 : Int32}  {idx : Nat} {x : Int32} (hf : f_X9_holdsOf b1 σ = some x) (hl : Cond.methodLink own idx yX9_holdsOf ∈ gj_gw) (hf1 : 1 ≤ fr) (hf2 : 21 ≤ lo) (hcat : ((st.map (gj_tv E.2.1)).map fun v => v.category).sum ≤ 8) (hd : decode cc pc = .ok (.invokevirtual idx, 3)) (k : gj_H E X nL ce sl Q (pc + 3) lv ((gj_i x) :: st) σ) : gj_H E X nL ce sl Q pc lv (gj_i b1 :: gj_r 188 :: st) σ :=
  gj_callV hO (o := 188) (vs := [gj_i b1]) (m_X9_holdsOf  hf) (gj_I9 hw) hl wk_759 wk_760 wk_629 wk_761 hw kd_188 (by decide) (ci := 9) rfl (n := 1) (by decide +kernel) rfl hf1 hf2 rfl hcat hd k
def f_X9_hangs (b1 : Int32) (b2 : Int32) (b3 : Int32) (b4 : Int32) (σ : gj_S) : Option gj_S := (if gj_in b1 9 then (if gj_in b2 9 then (if gj_in b1 9 then ((some (gj_sI (gj_sI σ 203 (upd (σ.1 203) (Int32.toNatClampNeg b1) b3)) 204 (upd ((gj_sI σ 203 (upd (σ.1 203) (Int32.toNatClampNeg b1) b3)).1 204) (Int32.toNatClampNeg b1) (((gj_sI σ 203 (upd (σ.1 203) (Int32.toNatClampNeg b1) b3)).1 204 (Int32.toNatClampNeg b2)) + (1 : Int32))))).bind fun s4 => (if gj_in b2 9 then (if gj_in b1 9 then some (gj_sI s4 205 (upd (s4.1 205) (Int32.toNatClampNeg b1) ((s4.1 205 (Int32.toNatClampNeg b2)) + b4))) else none) else none)) else none) else none) else none)
set_option maxHeartbeats 4000000 in
set_option maxRecDepth 100000 in
theorem m_X9_hangs {E : gj_E} {σ : gj_S} {b1 : Int32} {b2 : Int32} {b3 : Int32} {b4 : Int32}  {x : gj_S} (hf : f_X9_hangs b1 b2 b3 b4 σ = some x) : gj_M E yX9_hangs cX9_hangs 5 none 0 0 [gj_r 188, gj_i b1, gj_i b2, gj_i b3, gj_i b4] σ none x := by
  refine gj_body (lv := [(0, gj_r 188), (1, gj_i b1), (2, gj_i b2), (3, gj_i b3), (4, gj_i b4)]) (by decide +kernel) (Nat.le_of_ble_eq_true rfl) rfl (fun X hO => ?_)
  replace hO : gj_O E X RX9 cX9_hangs 5 none 0 0 := hO
  unfold f_X9_hangs at hf
  refine gj_aload_n hO 0 dX9_hangs_0 rfl rfl ?_
  refine gt_X9_27 hO wk_762 dX9_hangs_1 ?_
  refine gj_iload_n hO 1 dX9_hangs_4 rfl rfl ?_
  refine gj_iload_n hO 3 dX9_hangs_5 rfl rfl ?_
  obtain ⟨hb1, hf⟩ := gj_c hf
  refine gj_iast hO kl_203 kd_203 hb1 dX9_hangs_6 ?_
  refine gj_aload_n hO 0 dX9_hangs_7 rfl rfl ?_
  refine gt_X9_28 hO wk_763 dX9_hangs_8 ?_
  refine gj_iload_n hO 1 dX9_hangs_11 rfl rfl ?_
  refine gj_aload_n hO 0 dX9_hangs_12 rfl rfl ?_
  refine gt_X9_28 hO wk_763 dX9_hangs_13 ?_
  refine gj_iload_n hO 2 dX9_hangs_16 rfl rfl ?_
  obtain ⟨hb2, hf⟩ := gj_c hf
  refine gj_iald hO kl_204 kd_204 hb2 dX9_hangs_17 ?_
  refine gj_iconst (v := 1) hO dX9_hangs_18 (by decide) ?_
  refine gj_iadd hO dX9_hangs_19 ?_
  obtain ⟨hb3, hf⟩ := gj_c hf
  refine gj_iast hO kl_204 kd_204 hb3 dX9_hangs_20 ?_
  obtain ⟨s4, e4, hf⟩ := gj_b hf
  refine gj_eqS (Option.some.inj e4) ?_
  refine gj_aload_n hO 0 dX9_hangs_21 rfl rfl ?_
  refine gt_X9_29 hO wk_764 dX9_hangs_22 ?_
  refine gj_iload_n hO 1 dX9_hangs_25 rfl rfl ?_
  refine gj_aload_n hO 0 dX9_hangs_26 rfl rfl ?_
  refine gt_X9_29 hO wk_764 dX9_hangs_27 ?_
  refine gj_iload_n hO 2 dX9_hangs_30 rfl rfl ?_
  obtain ⟨hb5, hf⟩ := gj_c hf
  refine gj_iald hO kl_205 kd_205 hb5 dX9_hangs_31 ?_
  refine gj_iload hO 4 dX9_hangs_32 rfl ?_
  refine gj_iadd hO dX9_hangs_34 ?_
  obtain ⟨hb6, hf⟩ := gj_c hf
  refine gj_iast hO kl_205 kd_205 hb6 dX9_hangs_35 ?_
  obtain rfl := Option.some.inj hf
  exact gj_vret hO dX9_hangs_36
set_option maxHeartbeats 4000000 in
set_option maxRecDepth 100000 in
theorem ca_X9_hangs {E : gj_E} {X : gj_X} {own : String} {cc : ByteArray} {nL : Nat} {rt : Option FieldType} {fr lo : Nat} {ce sl : Nat} {Q : State → Prop} {pc : Nat} {lv : List (Nat × gj_V)} {st : List gj_V} {σ : gj_S} (hO : gj_O E X own cc nL rt fr lo) (hw : gj_lt own 188) {b1 : Int32} {b2 : Int32} {b3 : Int32} {b4 : Int32}  {idx : Nat} {x : gj_S} (hf : f_X9_hangs b1 b2 b3 b4 σ = some x) (hl : Cond.methodLink own idx yX9_hangs ∈ gj_gw) (hf1 : 1 ≤ fr) (hf2 : 24 ≤ lo) (hcat : ((st.map (gj_tv E.2.1)).map fun v => v.category).sum ≤ 8) (hd : decode cc pc = .ok (.invokevirtual idx, 3)) (k : gj_H E X nL ce sl Q (pc + 3) lv (st) x) : gj_H E X nL ce sl Q pc lv (gj_i b4 :: gj_i b3 :: gj_i b2 :: gj_i b1 :: gj_r 188 :: st) σ :=
  gj_callV hO (o := 188) (vs := [gj_i b1, gj_i b2, gj_i b3, gj_i b4]) (m_X9_hangs  hf) (gj_I9 hw) hl wk_765 wk_766 wk_629 wk_767 hw kd_188 (by decide) (ci := 9) rfl (n := 4) (by decide +kernel) rfl hf1 hf2 rfl hcat hd k
def fb_X9_laysTree_l2  (a10002 : (Int32 × gj_S)) : Option (gj_S ⊕ (Int32 × gj_S)) := (if (9 : Int32) ≤ a10002.1 then some (.inl a10002.2) else (if gj_in a10002.1 9 then some (.inr ((a10002.1 + 1), (gj_sI a10002.2 204 (upd (a10002.2.1 204) (Int32.toNatClampNeg a10002.1) (-1 : Int32))))) else none))
def fb_X9_laysTree_l55  (a10055 : (Int32 × Int32 × gj_S)) : Option ((Int32 × gj_S) ⊕ (Int32 × Int32 × gj_S)) := ((f_X9_ways a10055.2.2).bind fun x15501 => (if x15501 ≤ a10055.2.1 then some (.inl (a10055.1, a10055.2.2)) else (if gj_in ((74 : Int32) + a10055.2.1) 180 then (if (a10055.2.2.1 198 (Int32.toNatClampNeg ((74 : Int32) + a10055.2.1))) = 0 then ((f_X9_beginOf a10055.2.1 a10055.2.2).bind fun x15503 => ((f_X9_endOf a10055.2.1 a10055.2.2).bind fun x15504 => (if gj_in x15503 9 then ((if 0 ≤ (a10055.2.2.1 204 (Int32.toNatClampNeg x15503)) then some (0 : Int32) else some (1 : Int32) : Option Int32).bind fun z15506 => (if gj_in x15504 9 then ((if 0 ≤ (a10055.2.2.1 204 (Int32.toNatClampNeg x15504)) then some (0 : Int32) else some (1 : Int32) : Option Int32).bind fun z15508 => (if z15506 = z15508 then some (.inr (a10055.1, (a10055.2.1 + 1), a10055.2.2)) else (if gj_in x15503 9 then (if (a10055.2.2.1 204 (Int32.toNatClampNeg x15503)) < 0 then ((f_X9_costOf a10055.2.1 a10055.2.2).bind fun x15510 => ((f_X9_hangs x15503 x15504 a10055.2.1 (0 - x15510) a10055.2.2).bind fun x15511 => some (.inr ((1 : Int32), (a10055.2.1 + 1), x15511)))) else ((f_X9_costOf a10055.2.1 a10055.2.2).bind fun x15512 => ((f_X9_hangs x15504 x15503 a10055.2.1 x15512 a10055.2.2).bind fun x15513 => some (.inr ((1 : Int32), (a10055.2.1 + 1), x15513))))) else none))) else none)) else none))) else some (.inr (a10055.1, (a10055.2.1 + 1), a10055.2.2))) else none)))
def fb_X9_laysTree_l47  (a10047 : (Int32 × gj_S)) : Option (gj_S ⊕ (Int32 × gj_S)) := (if a10047.1 = 0 then some (.inl a10047.2) else ((gj_lp (fb_X9_laysTree_l55) 5000 ((0 : Int32), (0 : Int32), a10047.2)).bind fun z14701 => some (.inr (z14701.1, z14701.2))))
def f_X9_laysTree  (σ : gj_S) : Option gj_S := ((gj_lp (fb_X9_laysTree_l2) 5000 ((0 : Int32), σ)).bind fun z1 => (if gj_in (8 : Int32) 9 then (if gj_in (8 : Int32) 9 then ((some (gj_sI (gj_sI z1 204 (upd (z1.1 204) (Int32.toNatClampNeg (8 : Int32)) (0 : Int32))) 205 (upd ((gj_sI z1 204 (upd (z1.1 204) (Int32.toNatClampNeg (8 : Int32)) (0 : Int32))).1 205) (Int32.toNatClampNeg (8 : Int32)) (0 : Int32)))).bind fun s4 => (if gj_in (8 : Int32) 9 then ((gj_lp (fb_X9_laysTree_l47) 5000 ((1 : Int32), (gj_sI s4 203 (upd (s4.1 203) (Int32.toNatClampNeg (8 : Int32)) (-1 : Int32))))).bind fun z6 => some z6) else none)) else none) else none))
set_option maxHeartbeats 4000000 in
set_option maxRecDepth 100000 in
theorem sb_X9_laysTree_l2 {E : gj_E} {X : gj_X} {r : Option gj_V} {τ : gj_S} (hO : gj_O E X RX9 cX9_laysTree 5 none 1 24)  {a10002_0 : Int32} {a10002_1 : gj_S} {x : gj_S ⊕ (Int32 × gj_S)} (hf : fb_X9_laysTree_l2  (a10002_0, a10002_1) = some x) (K : gj_K (fun z1 => gj_G E X 5 r τ 21 [(0, gj_r 188)] [] z1) (fun a10002 => gj_G E X 5 r τ 2 [(0, gj_r 188), (1, gj_i a10002.1)] [] a10002.2) x) : gj_G E X 5 r τ 2 [(0, gj_r 188), (1, gj_i a10002_0)] [] a10002_1 := by
  unfold fb_X9_laysTree_l2 at hf
  dsimp only at hf
  refine gj_iload_n hO 1 dX9_laysTree_2 rfl rfl ?_
  refine gj_bipush (v := 9) hO dX9_laysTree_3 (by decide) ?_
  refine gj_icmp_ge (tgt := 21) hO dX9_laysTree_5 (by decide) (fun h => ?_) (fun h => ?_)
  · replace hf := gj_t h hf
    obtain rfl := Option.some.inj hf
    refine gj_sub (lv2 := [(0, gj_r 188)]) [0] rfl ?_
    exact K
  · replace hf := gj_f h hf
    refine gj_aload_n hO 0 dX9_laysTree_8 rfl rfl ?_
    refine gt_X9_28 hO wk_763 dX9_laysTree_9 ?_
    refine gj_iload_n hO 1 dX9_laysTree_12 rfl rfl ?_
    refine gj_iconst (v := (-1)) hO dX9_laysTree_13 (by decide) ?_
    obtain ⟨hb10201, hf⟩ := gj_c hf
    refine gj_iast hO kl_204 kd_204 hb10201 dX9_laysTree_14 ?_
    refine gj_iinc (v := (a10002_0 + 1)) (lv2 := [(1, gj_i (a10002_0 + 1)), (0, gj_r 188)]) hO 1 dX9_laysTree_15 rfl rfl (by decide) rfl ?_
    refine gj_goto (tgt := 2) hO dX9_laysTree_18 (by decide) ?_
    obtain rfl := Option.some.inj hf
    refine gj_sub (lv2 := [(0, gj_r 188), (1, gj_i (a10002_0 + 1))]) [1, 0] rfl ?_
    exact K
set_option maxHeartbeats 4000000 in
set_option maxRecDepth 100000 in
theorem sb_X9_laysTree_l55 {E : gj_E} {X : gj_X} {r : Option gj_V} {τ : gj_S} (hO : gj_O E X RX9 cX9_laysTree 5 none 1 24)  {a10055_0 : Int32} {a10055_1 : Int32} {a10055_2 : gj_S} {x : (Int32 × gj_S) ⊕ (Int32 × Int32 × gj_S)} (hf : fb_X9_laysTree_l55  (a10055_0, a10055_1, a10055_2) = some x) (K : gj_K (fun z14701 => gj_G E X 5 r τ 173 [(0, gj_r 188), (1, gj_i z14701.1)] [] z14701.2) (fun a10055 => gj_G E X 5 r τ 55 [(0, gj_r 188), (1, gj_i a10055.1), (2, gj_i a10055.2.1)] [] a10055.2.2) x) : gj_G E X 5 r τ 55 [(0, gj_r 188), (1, gj_i a10055_0), (2, gj_i a10055_1)] [] a10055_2 := by
  unfold fb_X9_laysTree_l55 at hf
  dsimp only at hf
  refine gj_iload_n hO 2 dX9_laysTree_55 rfl rfl ?_
  refine gj_aload_n hO 0 dX9_laysTree_56 rfl rfl ?_
  obtain ⟨x15501, hc15501, hf⟩ := gj_b hf
  refine ca_X9_ways hO kl_188  hc15501 wk_745 (by decide) (by decide) (Nat.le_of_ble_eq_true rfl) dX9_laysTree_57 ?_
  refine gj_icmp_ge (tgt := 173) hO dX9_laysTree_60 (by decide) (fun h => ?_) (fun h => ?_)
  · replace hf := gj_t h hf
    obtain rfl := Option.some.inj hf
    refine gj_sub (lv2 := [(0, gj_r 188), (1, gj_i a10055_0)]) [0, 1] rfl ?_
    exact K
  · replace hf := gj_f h hf
    refine gj_aload_n hO 0 dX9_laysTree_63 rfl rfl ?_
    refine gt_X9_21 hO wk_725 dX9_laysTree_64 ?_
    refine gj_bipush (v := 74) hO dX9_laysTree_67 (by decide) ?_
    refine gj_iload_n hO 2 dX9_laysTree_69 rfl rfl ?_
    refine gj_iadd hO dX9_laysTree_70 ?_
    obtain ⟨hb15502, hf⟩ := gj_c hf
    refine gj_iald hO kl_198 kd_198 hb15502 dX9_laysTree_71 ?_
    refine gj_if_eq (tgt := 78) hO dX9_laysTree_72 (by decide) (fun h => ?_) (fun h => ?_)
    · replace hf := gj_t h hf
      refine gj_aload_n hO 0 dX9_laysTree_78 rfl rfl ?_
      refine gj_iload_n hO 2 dX9_laysTree_79 rfl rfl ?_
      obtain ⟨x15503, hc15503, hf⟩ := gj_b hf
      refine ca_X9_beginOf hO kl_188  hc15503 wk_768 (by decide) (by decide) (Nat.le_of_ble_eq_true rfl) dX9_laysTree_80 ?_
      refine gj_istore_n (lv2 := [(3, gj_i x15503), (0, gj_r 188), (1, gj_i a10055_0), (2, gj_i a10055_1)]) hO dX9_laysTree_83 rfl (by decide) rfl ?_
      refine gj_aload_n hO 1 dX9_laysTree_84 rfl rfl ?_
      refine gj_iload_n hO 3 dX9_laysTree_85 rfl rfl ?_
      obtain ⟨x15504, hc15504, hf⟩ := gj_b hf
      refine ca_X9_endOf hO kl_188  hc15504 wk_769 (by decide) (by decide) (Nat.le_of_ble_eq_true rfl) dX9_laysTree_86 ?_
      refine gj_istore (lv2 := [(4, gj_i x15504), (3, gj_i x15503), (0, gj_r 188), (1, gj_i a10055_0), (2, gj_i a10055_1)]) hO dX9_laysTree_89 (by decide) rfl ?_
      refine gj_aload_n hO 2 dX9_laysTree_91 rfl rfl ?_
      refine gt_X9_28 hO wk_763 dX9_laysTree_92 ?_
      refine gj_iload_n hO 1 dX9_laysTree_95 rfl rfl ?_
      obtain ⟨hb15505, hf⟩ := gj_c hf
      refine gj_iald hO kl_204 kd_204 hb15505 dX9_laysTree_96 ?_
      obtain ⟨z15506, hz15506, hf⟩ := gj_b hf
      have J15506 : gj_G E X 5 r τ 105 [(0, gj_r 188), (1, gj_i a10055_0), (2, gj_i a10055_1), (3, gj_i x15503), (4, gj_i x15504)] [gj_i z15506] a10055_2 := by
        refine gj_aload_n hO 0 dX9_laysTree_105 rfl rfl ?_
        refine gt_X9_28 hO wk_763 dX9_laysTree_106 ?_
        refine gj_iload hO 4 dX9_laysTree_109 rfl ?_
        obtain ⟨hb15507, hf⟩ := gj_c hf
        refine gj_iald hO kl_204 kd_204 hb15507 dX9_laysTree_111 ?_
        obtain ⟨z15508, hz15508, hf⟩ := gj_b hf
        have J15508 : gj_G E X 5 r τ 120 [(0, gj_r 188), (1, gj_i a10055_0), (2, gj_i a10055_1), (3, gj_i x15503), (4, gj_i x15504)] [gj_i z15508, gj_i z15506] a10055_2 := by
          refine gj_icmp_ne (tgt := 126) hO dX9_laysTree_120 (by decide) (fun h => ?_) (fun h => ?_)
          · replace hf := gj_f h hf
            refine gj_iconst (v := 1) hO dX9_laysTree_126 (by decide) ?_
            refine gj_istore_n (lv2 := [(1, gj_i (1 : Int32)), (0, gj_r 188), (2, gj_i a10055_1), (3, gj_i x15503), (4, gj_i x15504)]) hO dX9_laysTree_127 rfl (by decide) rfl ?_
            refine gj_aload_n hO 1 dX9_laysTree_128 rfl rfl ?_
            refine gt_X9_28 hO wk_763 dX9_laysTree_129 ?_
            refine gj_iload_n hO 3 dX9_laysTree_132 rfl rfl ?_
            obtain ⟨hb15509, hf⟩ := gj_c hf
            refine gj_iald hO kl_204 kd_204 hb15509 dX9_laysTree_133 ?_
            refine gj_if_lt (tgt := 153) hO dX9_laysTree_134 (by decide) (fun h => ?_) (fun h => ?_)
            · replace hf := gj_t h hf
              refine gj_aload_n hO 1 dX9_laysTree_153 rfl rfl ?_
              refine gj_iload_n hO 3 dX9_laysTree_154 rfl rfl ?_
              refine gj_iload hO 4 dX9_laysTree_155 rfl ?_
              refine gj_iload_n hO 2 dX9_laysTree_157 rfl rfl ?_
              refine gj_aload_n hO 1 dX9_laysTree_158 rfl rfl ?_
              refine gj_iload_n hO 2 dX9_laysTree_159 rfl rfl ?_
              obtain ⟨x15510, hc15510, hf⟩ := gj_b hf
              refine ca_X9_costOf hO kl_188  hc15510 wk_770 (by decide) (by decide) (Nat.le_of_ble_eq_true rfl) dX9_laysTree_160 ?_
              refine gj_ineg hO dX9_laysTree_163 ?_
              obtain ⟨x15511, hc15511, hf⟩ := gj_b hf
              refine ca_X9_hangs hO kl_188  hc15511 wk_771 (by decide) (by decide) (Nat.le_of_ble_eq_true rfl) dX9_laysTree_164 ?_
              refine gj_iinc (v := (a10055_1 + 1)) (lv2 := [(2, gj_i (a10055_1 + 1)), (1, gj_i (1 : Int32)), (0, gj_r 188), (3, gj_i x15503), (4, gj_i x15504)]) hO 2 dX9_laysTree_167 rfl rfl (by decide) rfl ?_
              refine gj_goto (tgt := 55) hO dX9_laysTree_170 (by decide) ?_
              obtain rfl := Option.some.inj hf
              refine gj_sub (lv2 := [(0, gj_r 188), (1, gj_i (1 : Int32)), (2, gj_i (a10055_1 + 1))]) [2, 1, 0] rfl ?_
              exact K
            · replace hf := gj_f h hf
              refine gj_aload_n hO 1 dX9_laysTree_137 rfl rfl ?_
              refine gj_iload hO 4 dX9_laysTree_138 rfl ?_
              refine gj_iload_n hO 3 dX9_laysTree_140 rfl rfl ?_
              refine gj_iload_n hO 2 dX9_laysTree_141 rfl rfl ?_
              refine gj_aload_n hO 1 dX9_laysTree_142 rfl rfl ?_
              refine gj_iload_n hO 2 dX9_laysTree_143 rfl rfl ?_
              obtain ⟨x15512, hc15512, hf⟩ := gj_b hf
              refine ca_X9_costOf hO kl_188  hc15512 wk_770 (by decide) (by decide) (Nat.le_of_ble_eq_true rfl) dX9_laysTree_144 ?_
              obtain ⟨x15513, hc15513, hf⟩ := gj_b hf
              refine ca_X9_hangs hO kl_188  hc15513 wk_771 (by decide) (by decide) (Nat.le_of_ble_eq_true rfl) dX9_laysTree_147 ?_
              refine gj_goto (tgt := 167) hO dX9_laysTree_150 (by decide) ?_
              refine gj_iinc (v := (a10055_1 + 1)) (lv2 := [(2, gj_i (a10055_1 + 1)), (1, gj_i (1 : Int32)), (0, gj_r 188), (3, gj_i x15503), (4, gj_i x15504)]) hO 2 dX9_laysTree_167 rfl rfl (by decide) rfl ?_
              refine gj_goto (tgt := 55) hO dX9_laysTree_170 (by decide) ?_
              obtain rfl := Option.some.inj hf
              refine gj_sub (lv2 := [(0, gj_r 188), (1, gj_i (1 : Int32)), (2, gj_i (a10055_1 + 1))]) [2, 1, 0] rfl ?_
              exact K
          · replace hf := gj_t h hf
            refine gj_goto (tgt := 167) hO dX9_laysTree_123 (by decide) ?_
            refine gj_iinc (v := (a10055_1 + 1)) (lv2 := [(2, gj_i (a10055_1 + 1)), (0, gj_r 188), (1, gj_i a10055_0), (3, gj_i x15503), (4, gj_i x15504)]) hO 2 dX9_laysTree_167 rfl rfl (by decide) rfl ?_
            refine gj_goto (tgt := 55) hO dX9_laysTree_170 (by decide) ?_
            obtain rfl := Option.some.inj hf
            refine gj_sub (lv2 := [(0, gj_r 188), (1, gj_i a10055_0), (2, gj_i (a10055_1 + 1))]) [1, 2, 0] rfl ?_
            exact K
        refine gj_if_ge (tgt := 119) hO dX9_laysTree_112 (by decide) (fun h => ?_) (fun h => ?_)
        · replace hz15508 := gj_t h hz15508
          refine gj_iconst (v := 0) hO dX9_laysTree_119 (by decide) ?_
          obtain rfl := Option.some.inj hz15508
          refine gj_sub (lv2 := [(0, gj_r 188), (1, gj_i a10055_0), (2, gj_i a10055_1), (3, gj_i x15503), (4, gj_i x15504)]) [0, 1, 2, 3, 4] rfl ?_
          exact J15508
        · replace hz15508 := gj_f h hz15508
          refine gj_iconst (v := 1) hO dX9_laysTree_115 (by decide) ?_
          refine gj_goto (tgt := 120) hO dX9_laysTree_116 (by decide) ?_
          obtain rfl := Option.some.inj hz15508
          refine gj_sub (lv2 := [(0, gj_r 188), (1, gj_i a10055_0), (2, gj_i a10055_1), (3, gj_i x15503), (4, gj_i x15504)]) [0, 1, 2, 3, 4] rfl ?_
          exact J15508
      refine gj_if_ge (tgt := 104) hO dX9_laysTree_97 (by decide) (fun h => ?_) (fun h => ?_)
      · replace hz15506 := gj_t h hz15506
        refine gj_iconst (v := 0) hO dX9_laysTree_104 (by decide) ?_
        obtain rfl := Option.some.inj hz15506
        refine gj_sub (lv2 := [(0, gj_r 188), (1, gj_i a10055_0), (2, gj_i a10055_1), (3, gj_i x15503), (4, gj_i x15504)]) [2, 3, 4, 1, 0] rfl ?_
        exact J15506
      · replace hz15506 := gj_f h hz15506
        refine gj_iconst (v := 1) hO dX9_laysTree_100 (by decide) ?_
        refine gj_goto (tgt := 105) hO dX9_laysTree_101 (by decide) ?_
        obtain rfl := Option.some.inj hz15506
        refine gj_sub (lv2 := [(0, gj_r 188), (1, gj_i a10055_0), (2, gj_i a10055_1), (3, gj_i x15503), (4, gj_i x15504)]) [2, 3, 4, 1, 0] rfl ?_
        exact J15506
    · replace hf := gj_f h hf
      refine gj_goto (tgt := 167) hO dX9_laysTree_75 (by decide) ?_
      refine gj_iinc (v := (a10055_1 + 1)) (lv2 := [(2, gj_i (a10055_1 + 1)), (0, gj_r 188), (1, gj_i a10055_0)]) hO 2 dX9_laysTree_167 rfl rfl (by decide) rfl ?_
      refine gj_goto (tgt := 55) hO dX9_laysTree_170 (by decide) ?_
      obtain rfl := Option.some.inj hf
      refine gj_sub (lv2 := [(0, gj_r 188), (1, gj_i a10055_0), (2, gj_i (a10055_1 + 1))]) [1, 2, 0] rfl ?_
      exact K
set_option maxHeartbeats 4000000 in
set_option maxRecDepth 100000 in
theorem sb_X9_laysTree_l47 {E : gj_E} {X : gj_X} {r : Option gj_V} {τ : gj_S} (hO : gj_O E X RX9 cX9_laysTree 5 none 1 24)  {a10047_0 : Int32} {a10047_1 : gj_S} {x : gj_S ⊕ (Int32 × gj_S)} (hf : fb_X9_laysTree_l47  (a10047_0, a10047_1) = some x) (K : gj_K (fun z6 => gj_G E X 5 r τ 176 [] [] z6) (fun a10047 => gj_G E X 5 r τ 47 [(0, gj_r 188), (1, gj_i a10047.1)] [] a10047.2) x) : gj_G E X 5 r τ 47 [(0, gj_r 188), (1, gj_i a10047_0)] [] a10047_1 := by
  unfold fb_X9_laysTree_l47 at hf
  dsimp only at hf
  refine gj_iload_n hO 1 dX9_laysTree_47 rfl rfl ?_
  refine gj_if_eq (tgt := 176) hO dX9_laysTree_48 (by decide) (fun h => ?_) (fun h => ?_)
  · replace hf := gj_t h hf
    obtain rfl := Option.some.inj hf
    refine gj_sub (lv2 := []) [] rfl ?_
    exact K
  · replace hf := gj_f h hf
    refine gj_iconst (v := 0) hO dX9_laysTree_51 (by decide) ?_
    refine gj_istore_n (lv2 := [(1, gj_i (0 : Int32)), (0, gj_r 188)]) hO dX9_laysTree_52 rfl (by decide) rfl ?_
    refine gj_iconst (v := 0) hO dX9_laysTree_53 (by decide) ?_
    refine gj_istore_n (lv2 := [(2, gj_i (0 : Int32)), (1, gj_i (0 : Int32)), (0, gj_r 188)]) hO dX9_laysTree_54 rfl (by decide) rfl ?_
    obtain ⟨⟨z14701_0, z14701_1⟩, hz14701, hf⟩ := gj_b hf
    dsimp only at hf
    have J14701 : gj_G E X 5 r τ 173 [(0, gj_r 188), (1, gj_i z14701_0)] [] z14701_1 := by
      refine gj_goto (tgt := 47) hO dX9_laysTree_173 (by decide) ?_
      obtain rfl := Option.some.inj hf
      refine gj_sub (lv2 := [(0, gj_r 188), (1, gj_i z14701_0)]) [0, 1] rfl ?_
      exact K
    refine gj_sub (lv2 := [(0, gj_r 188), (1, gj_i (0 : Int32)), (2, gj_i (0 : Int32))]) [2, 1, 0] rfl ?_
    exact gj_loop (head := fun a10055 => gj_G E X 5 r τ 55 [(0, gj_r 188), (1, gj_i a10055.1), (2, gj_i a10055.2.1)] [] a10055.2.2) (exit := fun z14701 => gj_G E X 5 r τ 173 [(0, gj_r 188), (1, gj_i z14701.1)] [] z14701.2) (fun a10055 x hf K => by obtain ⟨a10055_0, a10055_1, a10055_2⟩ := a10055; exact sb_X9_laysTree_l55 hO hf K) _ _ _ hz14701 J14701
set_option maxHeartbeats 4000000 in
set_option maxRecDepth 100000 in
theorem m_X9_laysTree {E : gj_E} {σ : gj_S}   {x : gj_S} (hf : f_X9_laysTree  σ = some x) : gj_M E yX9_laysTree cX9_laysTree 5 none 1 24 [gj_r 188] σ none x := by
  refine gj_body (lv := [(0, gj_r 188)]) (by decide +kernel) (Nat.le_of_ble_eq_true rfl) rfl (fun X hO => ?_)
  replace hO : gj_O E X RX9 cX9_laysTree 5 none 1 24 := hO
  unfold f_X9_laysTree at hf
  refine gj_iconst (v := 0) hO dX9_laysTree_0 (by decide) ?_
  refine gj_istore_n (lv2 := [(1, gj_i (0 : Int32)), (0, gj_r 188)]) hO dX9_laysTree_1 rfl (by decide) rfl ?_
  obtain ⟨z1, hz1, hf⟩ := gj_b hf
  have J1 : gj_G E X 5 none x 21 [(0, gj_r 188)] [] z1 := by
    refine gj_aload_n hO 0 dX9_laysTree_21 rfl rfl ?_
    refine gt_X9_28 hO wk_763 dX9_laysTree_22 ?_
    refine gj_bipush (v := 8) hO dX9_laysTree_25 (by decide) ?_
    refine gj_iconst (v := 0) hO dX9_laysTree_27 (by decide) ?_
    obtain ⟨hb2, hf⟩ := gj_c hf
    refine gj_iast hO kl_204 kd_204 hb2 dX9_laysTree_28 ?_
    refine gj_aload_n hO 0 dX9_laysTree_29 rfl rfl ?_
    refine gt_X9_29 hO wk_764 dX9_laysTree_30 ?_
    refine gj_bipush (v := 8) hO dX9_laysTree_33 (by decide) ?_
    refine gj_iconst (v := 0) hO dX9_laysTree_35 (by decide) ?_
    obtain ⟨hb3, hf⟩ := gj_c hf
    refine gj_iast hO kl_205 kd_205 hb3 dX9_laysTree_36 ?_
    obtain ⟨s4, e4, hf⟩ := gj_b hf
    refine gj_eqS (Option.some.inj e4) ?_
    refine gj_aload_n hO 0 dX9_laysTree_37 rfl rfl ?_
    refine gt_X9_27 hO wk_762 dX9_laysTree_38 ?_
    refine gj_bipush (v := 8) hO dX9_laysTree_41 (by decide) ?_
    refine gj_iconst (v := (-1)) hO dX9_laysTree_43 (by decide) ?_
    obtain ⟨hb5, hf⟩ := gj_c hf
    refine gj_iast hO kl_203 kd_203 hb5 dX9_laysTree_44 ?_
    refine gj_iconst (v := 1) hO dX9_laysTree_45 (by decide) ?_
    refine gj_istore_n (lv2 := [(1, gj_i (1 : Int32)), (0, gj_r 188)]) hO dX9_laysTree_46 rfl (by decide) rfl ?_
    obtain ⟨z6, hz6, hf⟩ := gj_b hf
    have J6 : gj_G E X 5 none x 176 [] [] z6 := by
      obtain rfl := Option.some.inj hf
      exact gj_vret hO dX9_laysTree_176
    refine gj_sub (lv2 := [(0, gj_r 188), (1, gj_i (1 : Int32))]) [1, 0] rfl ?_
    exact gj_loop (head := fun a10047 => gj_G E X 5 none x 47 [(0, gj_r 188), (1, gj_i a10047.1)] [] a10047.2) (exit := fun z6 => gj_G E X 5 none x 176 [] [] z6) (fun a10047 x hf K => by obtain ⟨a10047_0, a10047_1⟩ := a10047; exact sb_X9_laysTree_l47 hO hf K) _ _ _ hz6 J6
  refine gj_sub (lv2 := [(0, gj_r 188), (1, gj_i (0 : Int32))]) [1, 0] rfl ?_
  exact gj_loop (head := fun a10002 => gj_G E X 5 none x 2 [(0, gj_r 188), (1, gj_i a10002.1)] [] a10002.2) (exit := fun z1 => gj_G E X 5 none x 21 [(0, gj_r 188)] [] z1) (fun a10002 x hf K => by obtain ⟨a10002_0, a10002_1⟩ := a10002; exact sb_X9_laysTree_l2 hO hf K) _ _ _ hz1 J1
set_option maxHeartbeats 4000000 in
set_option maxRecDepth 100000 in
theorem ca_X9_laysTree {E : gj_E} {X : gj_X} {own : String} {cc : ByteArray} {nL : Nat} {rt : Option FieldType} {fr lo : Nat} {ce sl : Nat} {Q : State → Prop} {pc : Nat} {lv : List (Nat × gj_V)} {st : List gj_V} {σ : gj_S} (hO : gj_O E X own cc nL rt fr lo) (hw : gj_lt own 188)   {idx : Nat} {x : gj_S} (hf : f_X9_laysTree  σ = some x) (hl : Cond.methodLink own idx yX9_laysTree ∈ gj_gw) (hf1 : 2 ≤ fr) (hf2 : 48 ≤ lo) (hcat : ((st.map (gj_tv E.2.1)).map fun v => v.category).sum ≤ 8) (hd : decode cc pc = .ok (.invokevirtual idx, 3)) (k : gj_H E X nL ce sl Q (pc + 3) lv (st) x) : gj_H E X nL ce sl Q pc lv (gj_r 188 :: st) σ :=
  gj_callV hO (o := 188) (vs := []) (m_X9_laysTree  hf) (gj_I9 hw) hl wk_772 wk_773 wk_629 wk_774 hw kd_188 (by decide) (ci := 9) rfl (n := 0) (by decide +kernel) rfl hf1 hf2 rfl hcat hd k
