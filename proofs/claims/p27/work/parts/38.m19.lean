def fb_X9_undo_l26  (a10026 : (Int32 × gj_S)) : Option (gj_S ⊕ (Int32 × gj_S)) := (if (180 : Int32) ≤ a10026.1 then some (.inl a10026.2) else (if gj_in (((180 : Int32) * (a10026.2.1 188 23)) + a10026.1) 2160 then (if gj_in a10026.1 180 then ((some (gj_sI a10026.2 198 (upd (a10026.2.1 198) (Int32.toNatClampNeg a10026.1) (a10026.2.1 199 (Int32.toNatClampNeg (((180 : Int32) * (a10026.2.1 188 23)) + a10026.1)))))).bind fun s12603 => some (.inr ((a10026.1 + 1), s12603))) else none) else none))
def f_X9_undo  (σ : gj_S) : Option (Int32 × gj_S) := (if ((gj_sI σ 188 (upd (σ.1 188) 0 (0 : Int32))).1 188 23) = 0 then some ((-1 : Int32), (gj_sI σ 188 (upd (σ.1 188) 0 (0 : Int32)))) else ((some (gj_sI (gj_sI σ 188 (upd (σ.1 188) 0 (0 : Int32))) 188 (upd ((gj_sI σ 188 (upd (σ.1 188) 0 (0 : Int32))).1 188) 23 (((gj_sI σ 188 (upd (σ.1 188) 0 (0 : Int32))).1 188 23) - (1 : Int32))))).bind fun s1 => ((gj_lp (fb_X9_undo_l26) 5000 ((0 : Int32), s1)).bind fun z2 => some ((z2.1 188 23), z2))))
set_option maxHeartbeats 4000000 in
set_option maxRecDepth 100000 in
theorem sb_X9_undo_l26 {E : gj_E} {X : gj_X} {r : Option gj_V} {τ : gj_S} (hO : gj_O E X RX9 cX9_undo 2 (some .int) 0 0)  {a10026_0 : Int32} {a10026_1 : gj_S} {x : gj_S ⊕ (Int32 × gj_S)} (hf : fb_X9_undo_l26  (a10026_0, a10026_1) = some x) (K : gj_K (fun z2 => gj_G E X 2 r τ 60 [(0, gj_r 188)] [] z2) (fun a10026 => gj_G E X 2 r τ 26 [(0, gj_r 188), (1, gj_i a10026.1)] [] a10026.2) x) : gj_G E X 2 r τ 26 [(0, gj_r 188), (1, gj_i a10026_0)] [] a10026_1 := by
  unfold fb_X9_undo_l26 at hf
  dsimp only at hf
  refine gj_iload_n hO 1 dX9_undo_26 rfl rfl ?_
  refine gj_sipush (v := 180) hO dX9_undo_27 (by decide) ?_
  refine gj_icmp_ge (tgt := 60) hO dX9_undo_30 (by decide) (fun h => ?_) (fun h => ?_)
  · replace hf := gj_t h hf
    obtain rfl := Option.some.inj hf
    refine gj_sub (lv2 := [(0, gj_r 188)]) [0] rfl ?_
    exact K
  · replace hf := gj_f h hf
    refine gj_aload_n hO 0 dX9_undo_33 rfl rfl ?_
    refine gt_X9_21 hO wk_725 dX9_undo_34 ?_
    refine gj_iload_n hO 1 dX9_undo_37 rfl rfl ?_
    refine gj_aload_n hO 0 dX9_undo_38 rfl rfl ?_
    refine gt_X9_22 hO wk_881 dX9_undo_39 ?_
    refine gj_sipush (v := 180) hO dX9_undo_42 (by decide) ?_
    refine gj_aload_n hO 0 dX9_undo_45 rfl rfl ?_
    refine gt_X9_23 hO wk_731 dX9_undo_46 ?_
    refine gj_imul hO dX9_undo_49 ?_
    refine gj_iload_n hO 1 dX9_undo_50 rfl rfl ?_
    refine gj_iadd hO dX9_undo_51 ?_
    obtain ⟨hb12601, hf⟩ := gj_c hf
    refine gj_iald hO kl_199 kd_199 hb12601 dX9_undo_52 ?_
    obtain ⟨hb12602, hf⟩ := gj_c hf
    refine gj_iast hO kl_198 kd_198 hb12602 dX9_undo_53 ?_
    obtain ⟨s12603, e12603, hf⟩ := gj_b hf
    refine gj_eqS (Option.some.inj e12603) ?_
    refine gj_iinc (v := (a10026_0 + 1)) (lv2 := [(1, gj_i (a10026_0 + 1)), (0, gj_r 188)]) hO 1 dX9_undo_54 rfl rfl (by decide) rfl ?_
    refine gj_goto (tgt := 26) hO dX9_undo_57 (by decide) ?_
    obtain rfl := Option.some.inj hf
    refine gj_sub (lv2 := [(0, gj_r 188), (1, gj_i (a10026_0 + 1))]) [1, 0] rfl ?_
    exact K
set_option maxHeartbeats 4000000 in
set_option maxRecDepth 100000 in
theorem m_X9_undo {E : gj_E} {σ : gj_S}   {x : Int32} {y : gj_S} (hf : f_X9_undo  σ = some (x, y)) : gj_M E yX9_undo cX9_undo 2 (some .int) 0 0 [gj_r 188] σ (some (gj_i x)) y := by
  refine gj_body (lv := [(0, gj_r 188)]) (by decide +kernel) (Nat.le_of_ble_eq_true rfl) rfl (fun X hO => ?_)
  replace hO : gj_O E X RX9 cX9_undo 2 (some .int) 0 0 := hO
  unfold f_X9_undo at hf
  refine gj_aload_n hO 0 dX9_undo_0 rfl rfl ?_
  refine gj_iconst (v := 0) hO dX9_undo_1 (by decide) ?_
  refine pt_X9_0 hO wk_636 dX9_undo_2 ?_
  refine gj_aload_n hO 0 dX9_undo_5 rfl rfl ?_
  refine gt_X9_23 hO wk_731 dX9_undo_6 ?_
  refine gj_if_ne (tgt := 14) hO dX9_undo_9 (by decide) (fun h => ?_) (fun h => ?_)
  · replace hf := gj_f h hf
    refine gj_aload_n hO 0 dX9_undo_14 rfl rfl ?_
    refine gj_dup hO dX9_undo_15 trivial ?_
    refine gt_X9_23 hO wk_731 dX9_undo_16 ?_
    refine gj_iconst (v := 1) hO dX9_undo_19 (by decide) ?_
    refine gj_isub hO dX9_undo_20 ?_
    refine pt_X9_23 hO wk_731 dX9_undo_21 ?_
    obtain ⟨s1, e1, hf⟩ := gj_b hf
    refine gj_eqS (Option.some.inj e1) ?_
    refine gj_iconst (v := 0) hO dX9_undo_24 (by decide) ?_
    refine gj_istore_n (lv2 := [(1, gj_i (0 : Int32)), (0, gj_r 188)]) hO dX9_undo_25 rfl (by decide) rfl ?_
    obtain ⟨z2, hz2, hf⟩ := gj_b hf
    have J2 : gj_G E X 2 (some (gj_i x)) y 60 [(0, gj_r 188)] [] z2 := by
      refine gj_aload_n hO 0 dX9_undo_60 rfl rfl ?_
      refine gt_X9_23 hO wk_731 dX9_undo_61 ?_
      replace hf := Option.some.inj hf
      simp only [Prod.mk.injEq] at hf
      obtain ⟨rfl, rfl⟩ := hf
      exact gj_iret hO dX9_undo_64
    refine gj_sub (lv2 := [(0, gj_r 188), (1, gj_i (0 : Int32))]) [1, 0] rfl ?_
    exact gj_loop (head := fun a10026 => gj_G E X 2 (some (gj_i x)) y 26 [(0, gj_r 188), (1, gj_i a10026.1)] [] a10026.2) (exit := fun z2 => gj_G E X 2 (some (gj_i x)) y 60 [(0, gj_r 188)] [] z2) (fun a10026 x hf K => by obtain ⟨a10026_0, a10026_1⟩ := a10026; exact sb_X9_undo_l26 hO hf K) _ _ _ hz2 J2
  · replace hf := gj_t h hf
    refine gj_iconst (v := (-1)) hO dX9_undo_12 (by decide) ?_
    replace hf := Option.some.inj hf
    simp only [Prod.mk.injEq] at hf
    obtain ⟨rfl, rfl⟩ := hf
    exact gj_iret hO dX9_undo_13
set_option maxHeartbeats 4000000 in
set_option maxRecDepth 100000 in
theorem ca_X9_undo {E : gj_E} {X : gj_X} {own : String} {cc : ByteArray} {nL : Nat} {rt : Option FieldType} {fr lo : Nat} {ce sl : Nat} {Q : State → Prop} {pc : Nat} {lv : List (Nat × gj_V)} {st : List gj_V} {σ : gj_S} (hO : gj_O E X own cc nL rt fr lo) (hw : gj_lt own 188)   {idx : Nat} {x : Int32} {y : gj_S} (hf : f_X9_undo  σ = some (x, y)) (hl : Cond.methodLink own idx yX9_undo ∈ gj_gw) (hf1 : 1 ≤ fr) (hf2 : 21 ≤ lo) (hcat : ((st.map (gj_tv E.2.1)).map fun v => v.category).sum ≤ 8) (hd : decode cc pc = .ok (.invokevirtual idx, 3)) (k : gj_H E X nL ce sl Q (pc + 3) lv ((gj_i x) :: st) y) : gj_H E X nL ce sl Q pc lv (gj_r 188 :: st) σ :=
  gj_callV hO (o := 188) (vs := []) (m_X9_undo  hf) (gj_I9 hw) hl wk_993 wk_994 wk_629 wk_995 hw kd_188 (by decide) (ci := 9) rfl (n := 0) (by decide +kernel) rfl hf1 hf2 rfl hcat hd k
def fb_X9_keep_l32 (b1 : Int32) (b2 : Int32) (a10032 : (Int32 × gj_S)) : Option (gj_S ⊕ (Int32 × gj_S)) := (if (180 : Int32) ≤ a10032.1 then some (.inl a10032.2) else (if b2 = 0 then (if gj_in a10032.1 180 then (if gj_in (((180 : Int32) * b1) + a10032.1) 360 then some (.inr ((a10032.1 + 1), (gj_sI a10032.2 200 (upd (a10032.2.1 200) (Int32.toNatClampNeg (((180 : Int32) * b1) + a10032.1)) (a10032.2.1 198 (Int32.toNatClampNeg a10032.1)))))) else none) else none) else (if gj_in (((180 : Int32) * b1) + a10032.1) 360 then (if gj_in a10032.1 180 then some (.inr ((a10032.1 + 1), (gj_sI a10032.2 198 (upd (a10032.2.1 198) (Int32.toNatClampNeg a10032.1) (a10032.2.1 200 (Int32.toNatClampNeg (((180 : Int32) * b1) + a10032.1))))))) else none) else none)))
def f_X9_keep (b1 : Int32) (b2 : Int32) (σ : gj_S) : Option (Int32 × gj_S) := ((f_X9_within (Int32.toInt64 b1) (0 : Int64) (1 : Int64)).bind fun x1 => (if x1 = 0 then some ((0 : Int32), (gj_sI σ 188 (upd (σ.1 188) 0 (0 : Int32)))) else (if b2 = 0 then ((gj_lp (fb_X9_keep_l32 b1 b2) 5000 ((0 : Int32), (gj_sI σ 188 (upd (σ.1 188) 0 (0 : Int32))))).bind fun z2 => (if b2 = 0 then (if gj_in b1 2 then some ((1 : Int32), (gj_sI z2 201 (upd (z2.1 201) (Int32.toNatClampNeg b1) (vp_nar .boolean (1 : Int32))))) else none) else some ((1 : Int32), (gj_sI z2 188 (upd (z2.1 188) 23 (0 : Int32)))))) else (if gj_in b1 2 then (if ((gj_sI σ 188 (upd (σ.1 188) 0 (0 : Int32))).1 201 (Int32.toNatClampNeg b1)) = 0 then some ((0 : Int32), (gj_sI σ 188 (upd (σ.1 188) 0 (0 : Int32)))) else ((gj_lp (fb_X9_keep_l32 b1 b2) 5000 ((0 : Int32), (gj_sI σ 188 (upd (σ.1 188) 0 (0 : Int32))))).bind fun z5 => (if b2 = 0 then (if gj_in b1 2 then some ((1 : Int32), (gj_sI z5 201 (upd (z5.1 201) (Int32.toNatClampNeg b1) (vp_nar .boolean (1 : Int32))))) else none) else some ((1 : Int32), (gj_sI z5 188 (upd (z5.1 188) 23 (0 : Int32))))))) else none))))
set_option maxHeartbeats 4000000 in
set_option maxRecDepth 100000 in
theorem sb_X9_keep_l32 {E : gj_E} {X : gj_X} {r : Option gj_V} {τ : gj_S} (hO : gj_O E X RX9 cX9_keep 4 (some .boolean) 1 25) {b1 : Int32} {b2 : Int32} {a10032_0 : Int32} {a10032_1 : gj_S} {x : gj_S ⊕ (Int32 × gj_S)} (hf : fb_X9_keep_l32 b1 b2 (a10032_0, a10032_1) = some x) (K : gj_K (fun z2 => gj_G E X 4 r τ 88 [(0, gj_r 188), (1, gj_i b1), (2, gj_i b2)] [] z2) (fun a10032 => gj_G E X 4 r τ 32 [(0, gj_r 188), (1, gj_i b1), (2, gj_i b2), (3, gj_i a10032.1)] [] a10032.2) x) : gj_G E X 4 r τ 32 [(0, gj_r 188), (1, gj_i b1), (2, gj_i b2), (3, gj_i a10032_0)] [] a10032_1 := by
  unfold fb_X9_keep_l32 at hf
  dsimp only at hf
  refine gj_iload_n hO 3 dX9_keep_32 rfl rfl ?_
  refine gj_sipush (v := 180) hO dX9_keep_33 (by decide) ?_
  refine gj_icmp_ge (tgt := 88) hO dX9_keep_36 (by decide) (fun h => ?_) (fun h => ?_)
  · replace hf := gj_t h hf
    obtain rfl := Option.some.inj hf
    refine gj_sub (lv2 := [(0, gj_r 188), (1, gj_i b1), (2, gj_i b2)]) [0, 1, 2] rfl ?_
    exact K
  · replace hf := gj_f h hf
    refine gj_iload_n hO 2 dX9_keep_39 rfl rfl ?_
    refine gj_if_eq (tgt := 64) hO dX9_keep_40 (by decide) (fun h => ?_) (fun h => ?_)
    · replace hf := gj_t h hf
      refine gj_aload_n hO 0 dX9_keep_64 rfl rfl ?_
      refine gt_X9_24 hO wk_996 dX9_keep_65 ?_
      refine gj_sipush (v := 180) hO dX9_keep_68 (by decide) ?_
      refine gj_iload_n hO 1 dX9_keep_71 rfl rfl ?_
      refine gj_imul hO dX9_keep_72 ?_
      refine gj_iload_n hO 3 dX9_keep_73 rfl rfl ?_
      refine gj_iadd hO dX9_keep_74 ?_
      refine gj_aload_n hO 0 dX9_keep_75 rfl rfl ?_
      refine gt_X9_21 hO wk_725 dX9_keep_76 ?_
      refine gj_iload_n hO 3 dX9_keep_79 rfl rfl ?_
      obtain ⟨hb13201, hf⟩ := gj_c hf
      refine gj_iald hO kl_198 kd_198 hb13201 dX9_keep_80 ?_
      obtain ⟨hb13202, hf⟩ := gj_c hf
      refine gj_iast hO kl_200 kd_200 hb13202 dX9_keep_81 ?_
      refine gj_iinc (v := (a10032_0 + 1)) (lv2 := [(3, gj_i (a10032_0 + 1)), (0, gj_r 188), (1, gj_i b1), (2, gj_i b2)]) hO 3 dX9_keep_82 rfl rfl (by decide) rfl ?_
      refine gj_goto (tgt := 32) hO dX9_keep_85 (by decide) ?_
      obtain rfl := Option.some.inj hf
      refine gj_sub (lv2 := [(0, gj_r 188), (1, gj_i b1), (2, gj_i b2), (3, gj_i (a10032_0 + 1))]) [1, 2, 3, 0] rfl ?_
      exact K
    · replace hf := gj_f h hf
      refine gj_aload_n hO 0 dX9_keep_43 rfl rfl ?_
      refine gt_X9_21 hO wk_725 dX9_keep_44 ?_
      refine gj_iload_n hO 3 dX9_keep_47 rfl rfl ?_
      refine gj_aload_n hO 0 dX9_keep_48 rfl rfl ?_
      refine gt_X9_24 hO wk_996 dX9_keep_49 ?_
      refine gj_sipush (v := 180) hO dX9_keep_52 (by decide) ?_
      refine gj_iload_n hO 1 dX9_keep_55 rfl rfl ?_
      refine gj_imul hO dX9_keep_56 ?_
      refine gj_iload_n hO 3 dX9_keep_57 rfl rfl ?_
      refine gj_iadd hO dX9_keep_58 ?_
      obtain ⟨hb13203, hf⟩ := gj_c hf
      refine gj_iald hO kl_200 kd_200 hb13203 dX9_keep_59 ?_
      obtain ⟨hb13204, hf⟩ := gj_c hf
      refine gj_iast hO kl_198 kd_198 hb13204 dX9_keep_60 ?_
      refine gj_goto (tgt := 82) hO dX9_keep_61 (by decide) ?_
      refine gj_iinc (v := (a10032_0 + 1)) (lv2 := [(3, gj_i (a10032_0 + 1)), (0, gj_r 188), (1, gj_i b1), (2, gj_i b2)]) hO 3 dX9_keep_82 rfl rfl (by decide) rfl ?_
      refine gj_goto (tgt := 32) hO dX9_keep_85 (by decide) ?_
      obtain rfl := Option.some.inj hf
      refine gj_sub (lv2 := [(0, gj_r 188), (1, gj_i b1), (2, gj_i b2), (3, gj_i (a10032_0 + 1))]) [1, 2, 3, 0] rfl ?_
      exact K
set_option maxHeartbeats 4000000 in
set_option maxRecDepth 100000 in
theorem m_X9_keep {E : gj_E} {σ : gj_S} {b1 : Int32} {b2 : Int32}  {x : Int32} {y : gj_S} (hf : f_X9_keep b1 b2 σ = some (x, y)) : gj_M E yX9_keep cX9_keep 4 (some .boolean) 1 25 [gj_r 188, gj_i b1, gj_i b2] σ (some (gj_i x)) y := by
  refine gj_body (lv := [(0, gj_r 188), (1, gj_i b1), (2, gj_i b2)]) (by decide +kernel) (Nat.le_of_ble_eq_true rfl) rfl (fun X hO => ?_)
  replace hO : gj_O E X RX9 cX9_keep 4 (some .boolean) 1 25 := hO
  unfold f_X9_keep at hf
  refine gj_aload_n hO 0 dX9_keep_0 rfl rfl ?_
  refine gj_iconst (v := 0) hO dX9_keep_1 (by decide) ?_
  refine pt_X9_0 hO wk_636 dX9_keep_2 ?_
  refine gj_iload_n hO 1 dX9_keep_5 rfl rfl ?_
  refine gj_i2l hO dX9_keep_6 ?_
  refine gj_lconst (v := 0) hO dX9_keep_7 (by decide) ?_
  refine gj_lconst (v := 1) hO dX9_keep_8 (by decide) ?_
  obtain ⟨x1, hc1, hf⟩ := gj_b hf
  refine ca_X9_within hO kl_188  hc1 wk_653 (by decide) (by decide) (Nat.le_of_ble_eq_true rfl) dX9_keep_9 ?_
  refine gj_if_eq (tgt := 28) hO dX9_keep_12 (by decide) (fun h => ?_) (fun h => ?_)
  · replace hf := gj_t h hf
    refine gj_iconst (v := 0) hO dX9_keep_28 (by decide) ?_
    replace hf := Option.some.inj hf
    simp only [Prod.mk.injEq] at hf
    obtain ⟨rfl, rfl⟩ := hf
    exact gj_zret hO (Or.inl rfl) dX9_keep_29
  · replace hf := gj_f h hf
    refine gj_iload_n hO 2 dX9_keep_15 rfl rfl ?_
    refine gj_if_eq (tgt := 30) hO dX9_keep_16 (by decide) (fun h => ?_) (fun h => ?_)
    · replace hf := gj_t h hf
      refine gj_iconst (v := 0) hO dX9_keep_30 (by decide) ?_
      refine gj_istore_n (lv2 := [(3, gj_i (0 : Int32)), (0, gj_r 188), (1, gj_i b1), (2, gj_i b2)]) hO dX9_keep_31 rfl (by decide) rfl ?_
      obtain ⟨z2, hz2, hf⟩ := gj_b hf
      have J2 : gj_G E X 4 (some (gj_i x)) y 88 [(0, gj_r 188), (1, gj_i b1), (2, gj_i b2)] [] z2 := by
        refine gj_iload_n hO 2 dX9_keep_88 rfl rfl ?_
        refine gj_if_eq (tgt := 100) hO dX9_keep_89 (by decide) (fun h => ?_) (fun h => ?_)
        · replace hf := gj_t h hf
          refine gj_aload_n hO 0 dX9_keep_100 rfl rfl ?_
          refine gt_X9_25 hO wk_732 dX9_keep_101 ?_
          refine gj_iload_n hO 1 dX9_keep_104 rfl rfl ?_
          refine gj_iconst (v := 1) hO dX9_keep_105 (by decide) ?_
          obtain ⟨hb3, hf⟩ := gj_c hf
          refine gj_zast hO kl_201 kd_201 hb3 dX9_keep_106 ?_
          refine gj_iconst (v := 1) hO dX9_keep_107 (by decide) ?_
          replace hf := Option.some.inj hf
          simp only [Prod.mk.injEq] at hf
          obtain ⟨rfl, rfl⟩ := hf
          exact gj_zret hO (Or.inr rfl) dX9_keep_108
        · replace hf := gj_f h hf
          refine gj_aload_n hO 0 dX9_keep_92 rfl rfl ?_
          refine gj_iconst (v := 0) hO dX9_keep_93 (by decide) ?_
          refine pt_X9_23 hO wk_731 dX9_keep_94 ?_
          refine gj_goto (tgt := 107) hO dX9_keep_97 (by decide) ?_
          refine gj_iconst (v := 1) hO dX9_keep_107 (by decide) ?_
          replace hf := Option.some.inj hf
          simp only [Prod.mk.injEq] at hf
          obtain ⟨rfl, rfl⟩ := hf
          exact gj_zret hO (Or.inr rfl) dX9_keep_108
      refine gj_sub (lv2 := [(0, gj_r 188), (1, gj_i b1), (2, gj_i b2), (3, gj_i (0 : Int32))]) [1, 2, 3, 0] rfl ?_
      exact gj_loop (head := fun a10032 => gj_G E X 4 (some (gj_i x)) y 32 [(0, gj_r 188), (1, gj_i b1), (2, gj_i b2), (3, gj_i a10032.1)] [] a10032.2) (exit := fun z2 => gj_G E X 4 (some (gj_i x)) y 88 [(0, gj_r 188), (1, gj_i b1), (2, gj_i b2)] [] z2) (fun a10032 x hf K => by obtain ⟨a10032_0, a10032_1⟩ := a10032; exact sb_X9_keep_l32 hO hf K) _ _ _ hz2 J2
    · replace hf := gj_f h hf
      refine gj_aload_n hO 0 dX9_keep_19 rfl rfl ?_
      refine gt_X9_25 hO wk_732 dX9_keep_20 ?_
      refine gj_iload_n hO 1 dX9_keep_23 rfl rfl ?_
      obtain ⟨hb4, hf⟩ := gj_c hf
      refine gj_zald hO kl_201 kd_201 hb4 dX9_keep_24 ?_
      refine gj_if_ne (tgt := 30) hO dX9_keep_25 (by decide) (fun h => ?_) (fun h => ?_)
      · replace hf := gj_f h hf
        refine gj_iconst (v := 0) hO dX9_keep_30 (by decide) ?_
        refine gj_istore_n (lv2 := [(3, gj_i (0 : Int32)), (0, gj_r 188), (1, gj_i b1), (2, gj_i b2)]) hO dX9_keep_31 rfl (by decide) rfl ?_
        obtain ⟨z5, hz5, hf⟩ := gj_b hf
        have J5 : gj_G E X 4 (some (gj_i x)) y 88 [(0, gj_r 188), (1, gj_i b1), (2, gj_i b2)] [] z5 := by
          refine gj_iload_n hO 2 dX9_keep_88 rfl rfl ?_
          refine gj_if_eq (tgt := 100) hO dX9_keep_89 (by decide) (fun h => ?_) (fun h => ?_)
          · replace hf := gj_t h hf
            refine gj_aload_n hO 0 dX9_keep_100 rfl rfl ?_
            refine gt_X9_25 hO wk_732 dX9_keep_101 ?_
            refine gj_iload_n hO 1 dX9_keep_104 rfl rfl ?_
            refine gj_iconst (v := 1) hO dX9_keep_105 (by decide) ?_
            obtain ⟨hb6, hf⟩ := gj_c hf
            refine gj_zast hO kl_201 kd_201 hb6 dX9_keep_106 ?_
            refine gj_iconst (v := 1) hO dX9_keep_107 (by decide) ?_
            replace hf := Option.some.inj hf
            simp only [Prod.mk.injEq] at hf
            obtain ⟨rfl, rfl⟩ := hf
            exact gj_zret hO (Or.inr rfl) dX9_keep_108
          · replace hf := gj_f h hf
            refine gj_aload_n hO 0 dX9_keep_92 rfl rfl ?_
            refine gj_iconst (v := 0) hO dX9_keep_93 (by decide) ?_
            refine pt_X9_23 hO wk_731 dX9_keep_94 ?_
            refine gj_goto (tgt := 107) hO dX9_keep_97 (by decide) ?_
            refine gj_iconst (v := 1) hO dX9_keep_107 (by decide) ?_
            replace hf := Option.some.inj hf
            simp only [Prod.mk.injEq] at hf
            obtain ⟨rfl, rfl⟩ := hf
            exact gj_zret hO (Or.inr rfl) dX9_keep_108
        refine gj_sub (lv2 := [(0, gj_r 188), (1, gj_i b1), (2, gj_i b2), (3, gj_i (0 : Int32))]) [1, 2, 3, 0] rfl ?_
        exact gj_loop (head := fun a10032 => gj_G E X 4 (some (gj_i x)) y 32 [(0, gj_r 188), (1, gj_i b1), (2, gj_i b2), (3, gj_i a10032.1)] [] a10032.2) (exit := fun z5 => gj_G E X 4 (some (gj_i x)) y 88 [(0, gj_r 188), (1, gj_i b1), (2, gj_i b2)] [] z5) (fun a10032 x hf K => by obtain ⟨a10032_0, a10032_1⟩ := a10032; exact sb_X9_keep_l32 hO hf K) _ _ _ hz5 J5
      · replace hf := gj_t h hf
        refine gj_iconst (v := 0) hO dX9_keep_28 (by decide) ?_
        replace hf := Option.some.inj hf
        simp only [Prod.mk.injEq] at hf
        obtain ⟨rfl, rfl⟩ := hf
        exact gj_zret hO (Or.inl rfl) dX9_keep_29
set_option maxHeartbeats 4000000 in
set_option maxRecDepth 100000 in
theorem ca_X9_keep {E : gj_E} {X : gj_X} {own : String} {cc : ByteArray} {nL : Nat} {rt : Option FieldType} {fr lo : Nat} {ce sl : Nat} {Q : State → Prop} {pc : Nat} {lv : List (Nat × gj_V)} {st : List gj_V} {σ : gj_S} (hO : gj_O E X own cc nL rt fr lo) (hw : gj_lt own 188) {b1 : Int32} {b2 : Int32}  {idx : Nat} {x : Int32} {y : gj_S} (hf : f_X9_keep b1 b2 σ = some (x, y)) (hl : Cond.methodLink own idx yX9_keep ∈ gj_gw) (hf1 : 2 ≤ fr) (hf2 : 48 ≤ lo) (hcat : ((st.map (gj_tv E.2.1)).map fun v => v.category).sum ≤ 8) (hd : decode cc pc = .ok (.invokevirtual idx, 3)) (k : gj_H E X nL ce sl Q (pc + 3) lv ((gj_i x) :: st) y) : gj_H E X nL ce sl Q pc lv (gj_i b2 :: gj_i b1 :: gj_r 188 :: st) σ :=
  gj_callV hO (o := 188) (vs := [gj_i b1, gj_i b2]) (m_X9_keep  hf) (gj_I9 hw) hl wk_997 wk_998 wk_629 wk_999 hw kd_188 (by decide) (ci := 9) rfl (n := 2) (by decide +kernel) rfl hf1 hf2 rfl hcat hd k
def fb_X9_count_l139 (σ : gj_S) (a10139 : (Int32 × Int32)) : Option (Int32 ⊕ (Int32 × Int32)) := ((f_X9_ways σ).bind fun x23901 => (if x23901 ≤ a10139.2 then some (.inl a10139.1) else (if gj_in ((74 : Int32) + a10139.2) 180 then (if (σ.1 198 (Int32.toNatClampNeg ((74 : Int32) + a10139.2))) = (2 : Int32) then some (.inr ((a10139.1 + (1 : Int32)), (a10139.2 + 1))) else some (.inr ((a10139.1 + (0 : Int32)), (a10139.2 + 1)))) else none)))
def fb_X9_count_l178 (σ : gj_S) (a10178 : (Int32 × Int32)) : Option (Int32 ⊕ (Int32 × Int32)) := (if gj_in (0 : Int32) 2 then (if (σ.1 191 (Int32.toNatClampNeg (0 : Int32))) ≤ a10178.2 then some (.inl a10178.1) else (if gj_in ((74 : Int32) + a10178.2) 180 then (if (σ.1 198 (Int32.toNatClampNeg ((74 : Int32) + a10178.2))) = 0 then some (.inr ((a10178.1 + (1 : Int32)), (a10178.2 + 1))) else some (.inr ((a10178.1 + (0 : Int32)), (a10178.2 + 1)))) else none)) else none)
def f_X9_count (b1 : Int32) (σ : gj_S) : Option (Int32 × gj_S) := (if b1 = 0 then (if gj_in (0 : Int32) 2 then some (((gj_sI σ 188 (upd (σ.1 188) 0 (0 : Int32))).1 190 (Int32.toNatClampNeg (0 : Int32))), (gj_sI σ 188 (upd (σ.1 188) 0 (0 : Int32)))) else none) else (if b1 = 1 then (if gj_in (0 : Int32) 2 then some (((gj_sI σ 188 (upd (σ.1 188) 0 (0 : Int32))).1 191 (Int32.toNatClampNeg (0 : Int32))), (gj_sI σ 188 (upd (σ.1 188) 0 (0 : Int32)))) else none) else (if b1 = 2 then (if gj_in (40 : Int32) 180 then some (((gj_sI σ 188 (upd (σ.1 188) 0 (0 : Int32))).1 198 (Int32.toNatClampNeg (40 : Int32))), (gj_sI σ 188 (upd (σ.1 188) 0 (0 : Int32)))) else none) else (if b1 = 3 then (if gj_in (41 : Int32) 180 then some (((gj_sI σ 188 (upd (σ.1 188) 0 (0 : Int32))).1 198 (Int32.toNatClampNeg (41 : Int32))), (gj_sI σ 188 (upd (σ.1 188) 0 (0 : Int32)))) else none) else (if b1 = 4 then (if gj_in (99 : Int32) 180 then some (((gj_sI σ 188 (upd (σ.1 188) 0 (0 : Int32))).1 198 (Int32.toNatClampNeg (99 : Int32))), (gj_sI σ 188 (upd (σ.1 188) 0 (0 : Int32)))) else none) else (if b1 = 5 then (if gj_in (98 : Int32) 180 then some (((gj_sI σ 188 (upd (σ.1 188) 0 (0 : Int32))).1 198 (Int32.toNatClampNeg (98 : Int32))), (gj_sI σ 188 (upd (σ.1 188) 0 (0 : Int32)))) else none) else (if b1 = 6 then some (((gj_sI σ 188 (upd (σ.1 188) 0 (0 : Int32))).1 188 23), (gj_sI σ 188 (upd (σ.1 188) 0 (0 : Int32)))) else (if b1 = 7 then some (((gj_sI σ 188 (upd (σ.1 188) 0 (0 : Int32))).1 188 2), (gj_sI σ 188 (upd (σ.1 188) 0 (0 : Int32)))) else (if b1 = 8 then ((f_X9_isEnd (gj_sI σ 188 (upd (σ.1 188) 0 (0 : Int32)))).bind fun x7 => (if x7.1 = 0 then some ((0 : Int32), x7.2) else some ((1 : Int32), x7.2))) else (if b1 = 9 then ((gj_lp (fb_X9_count_l139 (gj_sI σ 188 (upd (σ.1 188) 0 (0 : Int32)))) 5000 ((0 : Int32), (0 : Int32))).bind fun z8 => some (z8, (gj_sI σ 188 (upd (σ.1 188) 0 (0 : Int32))))) else (if b1 = 10 then ((gj_lp (fb_X9_count_l178 (gj_sI σ 188 (upd (σ.1 188) 0 (0 : Int32)))) 5000 ((0 : Int32), (0 : Int32))).bind fun z9 => some (z9, (gj_sI σ 188 (upd (σ.1 188) 0 (0 : Int32))))) else some ((-1 : Int32), (gj_sI σ 188 (upd (σ.1 188) 0 (0 : Int32)))))))))))))))
set_option maxHeartbeats 4000000 in
set_option maxRecDepth 100000 in
theorem sb_X9_count_l139 {E : gj_E} {X : gj_X} {r : Option gj_V} {τ : gj_S} (hO : gj_O E X RX9 cX9_count 4 (some .int) 5 106) {σ : gj_S} {a10139_0 : Int32} {a10139_1 : Int32} {x : Int32 ⊕ (Int32 × Int32)} (hf : fb_X9_count_l139 σ (a10139_0, a10139_1) = some x) (K : gj_K (fun z8 => gj_G E X 4 r τ 174 [(2, gj_i z8)] [] σ) (fun a10139 => gj_G E X 4 r τ 139 [(0, gj_r 188), (2, gj_i a10139.1), (3, gj_i a10139.2)] [] σ) x) : gj_G E X 4 r τ 139 [(0, gj_r 188), (2, gj_i a10139_0), (3, gj_i a10139_1)] [] σ := by
  unfold fb_X9_count_l139 at hf
  dsimp only at hf
  refine gj_iload_n hO 2 dX9_count_139 rfl rfl ?_
  refine gj_aload_n hO 0 dX9_count_140 rfl rfl ?_
  obtain ⟨x23901, hc23901, hf⟩ := gj_b hf
  refine ca_X9_ways hO kl_188  hc23901 wk_745 (by decide) (by decide) (Nat.le_of_ble_eq_true rfl) dX9_count_141 ?_
  refine gj_icmp_ge (tgt := 174) hO dX9_count_144 (by decide) (fun h => ?_) (fun h => ?_)
  · replace hf := gj_t h hf
    obtain rfl := Option.some.inj hf
    refine gj_sub (lv2 := [(2, gj_i a10139_0)]) [1] rfl ?_
    exact K
  · replace hf := gj_f h hf
    refine gj_iload_n hO 1 dX9_count_147 rfl rfl ?_
    refine gj_aload_n hO 0 dX9_count_148 rfl rfl ?_
    refine gt_X9_21 hO wk_725 dX9_count_149 ?_
    refine gj_bipush (v := 74) hO dX9_count_152 (by decide) ?_
    refine gj_iload_n hO 2 dX9_count_154 rfl rfl ?_
    refine gj_iadd hO dX9_count_155 ?_
    obtain ⟨hb23902, hf⟩ := gj_c hf
    refine gj_iald hO kl_198 kd_198 hb23902 dX9_count_156 ?_
    refine gj_iconst (v := 2) hO dX9_count_157 (by decide) ?_
    refine gj_icmp_ne (tgt := 165) hO dX9_count_158 (by decide) (fun h => ?_) (fun h => ?_)
    · replace hf := gj_f h hf
      refine gj_iconst (v := 0) hO dX9_count_165 (by decide) ?_
      refine gj_iadd hO dX9_count_166 ?_
      refine gj_istore_n (lv2 := [(2, gj_i (a10139_0 + (0 : Int32))), (0, gj_r 188), (3, gj_i a10139_1)]) hO dX9_count_167 rfl (by decide) rfl ?_
      refine gj_iinc (v := (a10139_1 + 1)) (lv2 := [(3, gj_i (a10139_1 + 1)), (2, gj_i (a10139_0 + (0 : Int32))), (0, gj_r 188)]) hO 2 dX9_count_168 rfl rfl (by decide) rfl ?_
      refine gj_goto (tgt := 139) hO dX9_count_171 (by decide) ?_
      obtain rfl := Option.some.inj hf
      refine gj_sub (lv2 := [(0, gj_r 188), (2, gj_i (a10139_0 + (0 : Int32))), (3, gj_i (a10139_1 + 1))]) [2, 1, 0] rfl ?_
      exact K
    · replace hf := gj_t h hf
      refine gj_iconst (v := 1) hO dX9_count_161 (by decide) ?_
      refine gj_goto (tgt := 166) hO dX9_count_162 (by decide) ?_
      refine gj_iadd hO dX9_count_166 ?_
      refine gj_istore_n (lv2 := [(2, gj_i (a10139_0 + (1 : Int32))), (0, gj_r 188), (3, gj_i a10139_1)]) hO dX9_count_167 rfl (by decide) rfl ?_
      refine gj_iinc (v := (a10139_1 + 1)) (lv2 := [(3, gj_i (a10139_1 + 1)), (2, gj_i (a10139_0 + (1 : Int32))), (0, gj_r 188)]) hO 2 dX9_count_168 rfl rfl (by decide) rfl ?_
      refine gj_goto (tgt := 139) hO dX9_count_171 (by decide) ?_
      obtain rfl := Option.some.inj hf
      refine gj_sub (lv2 := [(0, gj_r 188), (2, gj_i (a10139_0 + (1 : Int32))), (3, gj_i (a10139_1 + 1))]) [2, 1, 0] rfl ?_
      exact K
set_option maxHeartbeats 4000000 in
set_option maxRecDepth 100000 in
theorem sb_X9_count_l178 {E : gj_E} {X : gj_X} {r : Option gj_V} {τ : gj_S} (hO : gj_O E X RX9 cX9_count 4 (some .int) 5 106) {σ : gj_S} {a10178_0 : Int32} {a10178_1 : Int32} {x : Int32 ⊕ (Int32 × Int32)} (hf : fb_X9_count_l178 σ (a10178_0, a10178_1) = some x) (K : gj_K (fun z9 => gj_G E X 4 r τ 214 [(2, gj_i z9)] [] σ) (fun a10178 => gj_G E X 4 r τ 178 [(0, gj_r 188), (2, gj_i a10178.1), (3, gj_i a10178.2)] [] σ) x) : gj_G E X 4 r τ 178 [(0, gj_r 188), (2, gj_i a10178_0), (3, gj_i a10178_1)] [] σ := by
  unfold fb_X9_count_l178 at hf
  dsimp only at hf
  refine gj_iload_n hO 2 dX9_count_178 rfl rfl ?_
  refine gj_aload_n hO 0 dX9_count_179 rfl rfl ?_
  refine gt_X9_12 hO wk_693 dX9_count_180 ?_
  refine gj_iconst (v := 0) hO dX9_count_183 (by decide) ?_
  obtain ⟨hb27801, hf⟩ := gj_c hf
  refine gj_iald hO kl_191 kd_191 hb27801 dX9_count_184 ?_
  refine gj_icmp_ge (tgt := 214) hO dX9_count_185 (by decide) (fun h => ?_) (fun h => ?_)
  · replace hf := gj_t h hf
    obtain rfl := Option.some.inj hf
    refine gj_sub (lv2 := [(2, gj_i a10178_0)]) [1] rfl ?_
    exact K
  · replace hf := gj_f h hf
    refine gj_iload_n hO 1 dX9_count_188 rfl rfl ?_
    refine gj_aload_n hO 0 dX9_count_189 rfl rfl ?_
    refine gt_X9_21 hO wk_725 dX9_count_190 ?_
    refine gj_bipush (v := 74) hO dX9_count_193 (by decide) ?_
    refine gj_iload_n hO 2 dX9_count_195 rfl rfl ?_
    refine gj_iadd hO dX9_count_196 ?_
    obtain ⟨hb27802, hf⟩ := gj_c hf
    refine gj_iald hO kl_198 kd_198 hb27802 dX9_count_197 ?_
    refine gj_if_ne (tgt := 205) hO dX9_count_198 (by decide) (fun h => ?_) (fun h => ?_)
    · replace hf := gj_f h hf
      refine gj_iconst (v := 0) hO dX9_count_205 (by decide) ?_
      refine gj_iadd hO dX9_count_206 ?_
      refine gj_istore_n (lv2 := [(2, gj_i (a10178_0 + (0 : Int32))), (0, gj_r 188), (3, gj_i a10178_1)]) hO dX9_count_207 rfl (by decide) rfl ?_
      refine gj_iinc (v := (a10178_1 + 1)) (lv2 := [(3, gj_i (a10178_1 + 1)), (2, gj_i (a10178_0 + (0 : Int32))), (0, gj_r 188)]) hO 2 dX9_count_208 rfl rfl (by decide) rfl ?_
      refine gj_goto (tgt := 178) hO dX9_count_211 (by decide) ?_
      obtain rfl := Option.some.inj hf
      refine gj_sub (lv2 := [(0, gj_r 188), (2, gj_i (a10178_0 + (0 : Int32))), (3, gj_i (a10178_1 + 1))]) [2, 1, 0] rfl ?_
      exact K
    · replace hf := gj_t h hf
      refine gj_iconst (v := 1) hO dX9_count_201 (by decide) ?_
      refine gj_goto (tgt := 206) hO dX9_count_202 (by decide) ?_
      refine gj_iadd hO dX9_count_206 ?_
      refine gj_istore_n (lv2 := [(2, gj_i (a10178_0 + (1 : Int32))), (0, gj_r 188), (3, gj_i a10178_1)]) hO dX9_count_207 rfl (by decide) rfl ?_
      refine gj_iinc (v := (a10178_1 + 1)) (lv2 := [(3, gj_i (a10178_1 + 1)), (2, gj_i (a10178_0 + (1 : Int32))), (0, gj_r 188)]) hO 2 dX9_count_208 rfl rfl (by decide) rfl ?_
      refine gj_goto (tgt := 178) hO dX9_count_211 (by decide) ?_
      obtain rfl := Option.some.inj hf
      refine gj_sub (lv2 := [(0, gj_r 188), (2, gj_i (a10178_0 + (1 : Int32))), (3, gj_i (a10178_1 + 1))]) [2, 1, 0] rfl ?_
      exact K
set_option maxHeartbeats 4000000 in
set_option maxRecDepth 100000 in
theorem m_X9_count {E : gj_E} {σ : gj_S} {b1 : Int32}  {x : Int32} {y : gj_S} (hf : f_X9_count b1 σ = some (x, y)) : gj_M E yX9_count cX9_count 4 (some .int) 5 106 [gj_r 188, gj_i b1] σ (some (gj_i x)) y := by
  refine gj_body (lv := [(0, gj_r 188), (1, gj_i b1)]) (by decide +kernel) (Nat.le_of_ble_eq_true rfl) rfl (fun X hO => ?_)
  replace hO : gj_O E X RX9 cX9_count 4 (some .int) 5 106 := hO
  unfold f_X9_count at hf
  refine gj_aload_n hO 0 dX9_count_0 rfl rfl ?_
  refine gj_iconst (v := 0) hO dX9_count_1 (by decide) ?_
  refine pt_X9_0 hO wk_636 dX9_count_2 ?_
  refine gj_iconst (v := 0) hO dX9_count_5 (by decide) ?_
  refine gj_istore_n (lv2 := [(2, gj_i (0 : Int32)), (0, gj_r 188), (1, gj_i b1)]) hO dX9_count_6 rfl (by decide) rfl ?_
  refine gj_iload_n hO 2 dX9_count_7 rfl rfl ?_
  by_cases hs0 : b1 = 0
  · replace hf := gj_t hs0 hf
    refine gj_tblAt 0 (tgt := 68) hO dX9_count_8 hs0 (by decide) (by decide) rfl (by decide) ?_
    refine gj_aload_n hO 1 dX9_count_68 rfl rfl ?_
    refine gt_X9_11 hO wk_691 dX9_count_69 ?_
    refine gj_iconst (v := 0) hO dX9_count_72 (by decide) ?_
    obtain ⟨hb1, hf⟩ := gj_c hf
    refine gj_iald hO kl_190 kd_190 hb1 dX9_count_73 ?_
    replace hf := Option.some.inj hf
    simp only [Prod.mk.injEq] at hf
    obtain ⟨rfl, rfl⟩ := hf
    exact gj_iret hO dX9_count_74
  · replace hf := gj_f hs0 hf
    by_cases hs1 : b1 = 1
    · replace hf := gj_t hs1 hf
      refine gj_tblAt 1 (tgt := 75) hO dX9_count_8 hs1 (by decide) (by decide) rfl (by decide) ?_
      refine gj_aload_n hO 1 dX9_count_75 rfl rfl ?_
      refine gt_X9_12 hO wk_693 dX9_count_76 ?_
      refine gj_iconst (v := 0) hO dX9_count_79 (by decide) ?_
      obtain ⟨hb2, hf⟩ := gj_c hf
      refine gj_iald hO kl_191 kd_191 hb2 dX9_count_80 ?_
      replace hf := Option.some.inj hf
      simp only [Prod.mk.injEq] at hf
      obtain ⟨rfl, rfl⟩ := hf
      exact gj_iret hO dX9_count_81
    · replace hf := gj_f hs1 hf
      by_cases hs2 : b1 = 2
      · replace hf := gj_t hs2 hf
        refine gj_tblAt 2 (tgt := 82) hO dX9_count_8 hs2 (by decide) (by decide) rfl (by decide) ?_
        refine gj_aload_n hO 1 dX9_count_82 rfl rfl ?_
        refine gt_X9_21 hO wk_725 dX9_count_83 ?_
        refine gj_bipush (v := 40) hO dX9_count_86 (by decide) ?_
        obtain ⟨hb3, hf⟩ := gj_c hf
        refine gj_iald hO kl_198 kd_198 hb3 dX9_count_88 ?_
        replace hf := Option.some.inj hf
        simp only [Prod.mk.injEq] at hf
        obtain ⟨rfl, rfl⟩ := hf
        exact gj_iret hO dX9_count_89
      · replace hf := gj_f hs2 hf
        by_cases hs3 : b1 = 3
        · replace hf := gj_t hs3 hf
          refine gj_tblAt 3 (tgt := 90) hO dX9_count_8 hs3 (by decide) (by decide) rfl (by decide) ?_
          refine gj_aload_n hO 1 dX9_count_90 rfl rfl ?_
          refine gt_X9_21 hO wk_725 dX9_count_91 ?_
          refine gj_bipush (v := 41) hO dX9_count_94 (by decide) ?_
          obtain ⟨hb4, hf⟩ := gj_c hf
          refine gj_iald hO kl_198 kd_198 hb4 dX9_count_96 ?_
          replace hf := Option.some.inj hf
          simp only [Prod.mk.injEq] at hf
          obtain ⟨rfl, rfl⟩ := hf
          exact gj_iret hO dX9_count_97
        · replace hf := gj_f hs3 hf
          by_cases hs4 : b1 = 4
          · replace hf := gj_t hs4 hf
            refine gj_tblAt 4 (tgt := 98) hO dX9_count_8 hs4 (by decide) (by decide) rfl (by decide) ?_
            refine gj_aload_n hO 1 dX9_count_98 rfl rfl ?_
            refine gt_X9_21 hO wk_725 dX9_count_99 ?_
            refine gj_bipush (v := 99) hO dX9_count_102 (by decide) ?_
            obtain ⟨hb5, hf⟩ := gj_c hf
            refine gj_iald hO kl_198 kd_198 hb5 dX9_count_104 ?_
            replace hf := Option.some.inj hf
            simp only [Prod.mk.injEq] at hf
            obtain ⟨rfl, rfl⟩ := hf
            exact gj_iret hO dX9_count_105
          · replace hf := gj_f hs4 hf
            by_cases hs5 : b1 = 5
            · replace hf := gj_t hs5 hf
              refine gj_tblAt 5 (tgt := 106) hO dX9_count_8 hs5 (by decide) (by decide) rfl (by decide) ?_
              refine gj_aload_n hO 1 dX9_count_106 rfl rfl ?_
              refine gt_X9_21 hO wk_725 dX9_count_107 ?_
              refine gj_bipush (v := 98) hO dX9_count_110 (by decide) ?_
              obtain ⟨hb6, hf⟩ := gj_c hf
              refine gj_iald hO kl_198 kd_198 hb6 dX9_count_112 ?_
              replace hf := Option.some.inj hf
              simp only [Prod.mk.injEq] at hf
              obtain ⟨rfl, rfl⟩ := hf
              exact gj_iret hO dX9_count_113
            · replace hf := gj_f hs5 hf
              by_cases hs6 : b1 = 6
              · replace hf := gj_t hs6 hf
                refine gj_tblAt 6 (tgt := 114) hO dX9_count_8 hs6 (by decide) (by decide) rfl (by decide) ?_
                refine gj_aload_n hO 1 dX9_count_114 rfl rfl ?_
                refine gt_X9_23 hO wk_731 dX9_count_115 ?_
                replace hf := Option.some.inj hf
                simp only [Prod.mk.injEq] at hf
                obtain ⟨rfl, rfl⟩ := hf
                exact gj_iret hO dX9_count_118
              · replace hf := gj_f hs6 hf
                by_cases hs7 : b1 = 7
                · replace hf := gj_t hs7 hf
                  refine gj_tblAt 7 (tgt := 119) hO dX9_count_8 hs7 (by decide) (by decide) rfl (by decide) ?_
                  refine gj_aload_n hO 1 dX9_count_119 rfl rfl ?_
                  refine gt_X9_2 hO wk_632 dX9_count_120 ?_
                  replace hf := Option.some.inj hf
                  simp only [Prod.mk.injEq] at hf
                  obtain ⟨rfl, rfl⟩ := hf
                  exact gj_iret hO dX9_count_123
                · replace hf := gj_f hs7 hf
                  by_cases hs8 : b1 = 8
                  · replace hf := gj_t hs8 hf
                    refine gj_tblAt 8 (tgt := 124) hO dX9_count_8 hs8 (by decide) (by decide) rfl (by decide) ?_
                    refine gj_aload_n hO 1 dX9_count_124 rfl rfl ?_
                    obtain ⟨⟨x7_v, x7_s⟩, hc7, hf⟩ := gj_b hf
                    dsimp only at hf
                    refine ca_X9_isEnd hO kl_188  hc7 wk_885 (by decide) (by decide) (Nat.le_of_ble_eq_true rfl) dX9_count_125 ?_
                    refine gj_if_eq (tgt := 135) hO dX9_count_128 (by decide) (fun h => ?_) (fun h => ?_)
                    · replace hf := gj_t h hf
                      refine gj_iconst (v := 0) hO dX9_count_135 (by decide) ?_
                      replace hf := Option.some.inj hf
                      simp only [Prod.mk.injEq] at hf
                      obtain ⟨rfl, rfl⟩ := hf
                      exact gj_iret hO dX9_count_136
                    · replace hf := gj_f h hf
                      refine gj_iconst (v := 1) hO dX9_count_131 (by decide) ?_
                      refine gj_goto (tgt := 136) hO dX9_count_132 (by decide) ?_
                      replace hf := Option.some.inj hf
                      simp only [Prod.mk.injEq] at hf
                      obtain ⟨rfl, rfl⟩ := hf
                      exact gj_iret hO dX9_count_136
                  · replace hf := gj_f hs8 hf
                    by_cases hs9 : b1 = 9
                    · replace hf := gj_t hs9 hf
                      refine gj_tblAt 9 (tgt := 137) hO dX9_count_8 hs9 (by decide) (by decide) rfl (by decide) ?_
                      refine gj_iconst (v := 0) hO dX9_count_137 (by decide) ?_
                      refine gj_istore_n (lv2 := [(3, gj_i (0 : Int32)), (2, gj_i (0 : Int32)), (0, gj_r 188), (1, gj_i b1)]) hO dX9_count_138 rfl (by decide) rfl ?_
                      obtain ⟨z8, hz8, hf⟩ := gj_b hf
                      have J8 : gj_G E X 4 (some (gj_i x)) y 174 [(2, gj_i z8)] [] (gj_sI σ 188 (upd (σ.1 188) 0 (0 : Int32))) := by
                        refine gj_iload_n hO 0 dX9_count_174 rfl rfl ?_
                        replace hf := Option.some.inj hf
                        simp only [Prod.mk.injEq] at hf
                        obtain ⟨rfl, rfl⟩ := hf
                        exact gj_iret hO dX9_count_175
                      refine gj_sub (lv2 := [(0, gj_r 188), (2, gj_i (0 : Int32)), (3, gj_i (0 : Int32))]) [2, 1, 0] rfl ?_
                      exact gj_loop (head := fun a10139 => gj_G E X 4 (some (gj_i x)) y 139 [(0, gj_r 188), (2, gj_i a10139.1), (3, gj_i a10139.2)] [] (gj_sI σ 188 (upd (σ.1 188) 0 (0 : Int32)))) (exit := fun z8 => gj_G E X 4 (some (gj_i x)) y 174 [(2, gj_i z8)] [] (gj_sI σ 188 (upd (σ.1 188) 0 (0 : Int32)))) (fun a10139 x hf K => by obtain ⟨a10139_0, a10139_1⟩ := a10139; exact sb_X9_count_l139 hO hf K) _ _ _ hz8 J8
                    · replace hf := gj_f hs9 hf
                      by_cases hs10 : b1 = 10
                      · replace hf := gj_t hs10 hf
                        refine gj_tblAt 10 (tgt := 176) hO dX9_count_8 hs10 (by decide) (by decide) rfl (by decide) ?_
                        refine gj_iconst (v := 0) hO dX9_count_176 (by decide) ?_
                        refine gj_istore_n (lv2 := [(3, gj_i (0 : Int32)), (2, gj_i (0 : Int32)), (0, gj_r 188), (1, gj_i b1)]) hO dX9_count_177 rfl (by decide) rfl ?_
                        obtain ⟨z9, hz9, hf⟩ := gj_b hf
                        have J9 : gj_G E X 4 (some (gj_i x)) y 214 [(2, gj_i z9)] [] (gj_sI σ 188 (upd (σ.1 188) 0 (0 : Int32))) := by
                          refine gj_iload_n hO 0 dX9_count_214 rfl rfl ?_
                          replace hf := Option.some.inj hf
                          simp only [Prod.mk.injEq] at hf
                          obtain ⟨rfl, rfl⟩ := hf
                          exact gj_iret hO dX9_count_215
                        refine gj_sub (lv2 := [(0, gj_r 188), (2, gj_i (0 : Int32)), (3, gj_i (0 : Int32))]) [2, 1, 0] rfl ?_
                        exact gj_loop (head := fun a10178 => gj_G E X 4 (some (gj_i x)) y 178 [(0, gj_r 188), (2, gj_i a10178.1), (3, gj_i a10178.2)] [] (gj_sI σ 188 (upd (σ.1 188) 0 (0 : Int32)))) (exit := fun z9 => gj_G E X 4 (some (gj_i x)) y 214 [(2, gj_i z9)] [] (gj_sI σ 188 (upd (σ.1 188) 0 (0 : Int32)))) (fun a10178 x hf K => by obtain ⟨a10178_0, a10178_1⟩ := a10178; exact sb_X9_count_l178 hO hf K) _ _ _ hz9 J9
                      · replace hf := gj_f hs10 hf
                        refine gj_tblOut (tgt := 216) hO dX9_count_8 (gj_out10 hs0 hs1 hs2 hs3 hs4 hs5 hs6 hs7 hs8 hs9 hs10) (by decide) ?_
                        refine gj_iconst (v := (-1)) hO dX9_count_216 (by decide) ?_
                        replace hf := Option.some.inj hf
                        simp only [Prod.mk.injEq] at hf
                        obtain ⟨rfl, rfl⟩ := hf
                        exact gj_iret hO dX9_count_217
set_option maxHeartbeats 4000000 in
set_option maxRecDepth 100000 in
theorem ca_X9_count {E : gj_E} {X : gj_X} {own : String} {cc : ByteArray} {nL : Nat} {rt : Option FieldType} {fr lo : Nat} {ce sl : Nat} {Q : State → Prop} {pc : Nat} {lv : List (Nat × gj_V)} {st : List gj_V} {σ : gj_S} (hO : gj_O E X own cc nL rt fr lo) (hw : gj_lt own 188) {b1 : Int32}  {idx : Nat} {x : Int32} {y : gj_S} (hf : f_X9_count b1 σ = some (x, y)) (hl : Cond.methodLink own idx yX9_count ∈ gj_gw) (hf1 : 6 ≤ fr) (hf2 : 129 ≤ lo) (hcat : ((st.map (gj_tv E.2.1)).map fun v => v.category).sum ≤ 8) (hd : decode cc pc = .ok (.invokevirtual idx, 3)) (k : gj_H E X nL ce sl Q (pc + 3) lv ((gj_i x) :: st) y) : gj_H E X nL ce sl Q pc lv (gj_i b1 :: gj_r 188 :: st) σ :=
  gj_callV hO (o := 188) (vs := [gj_i b1]) (m_X9_count  hf) (gj_I9 hw) hl wk_1000 wk_1001 wk_629 wk_1002 hw kd_188 (by decide) (ci := 9) rfl (n := 1) (by decide +kernel) rfl hf1 hf2 rfl hcat hd k
