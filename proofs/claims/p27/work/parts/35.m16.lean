def fb_X9_lack_l34 (b1 : Int32) (σ : gj_S) (a10034 : (Int32 × Int32 × Int32)) : Option ((Int32 × Int32) ⊕ (Int32 × Int32 × Int32)) := (if a10034.2.2 < 0 then some (.inl (a10034.1, a10034.2.1)) else ((if (2 : Int32) ≤ b1 then ((f_X9_stuckOf a10034.2.2 σ).bind fun x13402 => some x13402) else ((f_X9_lackOf a10034.2.2 σ).bind fun x13403 => some x13403) : Option Int32).bind fun z13401 => (if z13401 ≤ 0 then some (.inr ((a10034.1 + z13401), a10034.2.1, (a10034.2.2 + (-1)))) else some (.inr ((a10034.1 + z13401), a10034.2.2, (a10034.2.2 + (-1)))))))
def f_X9_lack (b1 : Int32) (σ : gj_S) : Option (Int32 × gj_S) := ((f_X9_within (Int32.toInt64 b1) (0 : Int64) (3 : Int64)).bind fun x1 => (if x1 = 0 then some ((-1 : Int32), (gj_sI σ 188 (upd (σ.1 188) 0 (0 : Int32)))) else (if gj_in (0 : Int32) 2 then ((gj_lp (fb_X9_lack_l34 b1 (gj_sI σ 188 (upd (σ.1 188) 0 (0 : Int32)))) 5000 ((0 : Int32), (-2 : Int32), (((gj_sI σ 188 (upd (σ.1 188) 0 (0 : Int32))).1 190 (Int32.toNatClampNeg (0 : Int32))) - (1 : Int32)))).bind fun z3 => (if (b1 - b1 / (2 : Int32) * (2 : Int32)) = 0 then some (z3.1, (gj_sI σ 188 (upd (σ.1 188) 0 (0 : Int32)))) else some (z3.2, (gj_sI σ 188 (upd (σ.1 188) 0 (0 : Int32)))))) else none)))
set_option maxHeartbeats 4000000 in
set_option maxRecDepth 100000 in
theorem sb_X9_lack_l34 {E : gj_E} {X : gj_X} {r : Option gj_V} {τ : gj_S} (hO : gj_O E X RX9 cX9_lack 6 (some .int) 1 25) {b1 : Int32} {σ : gj_S} {a10034_0 : Int32} {a10034_1 : Int32} {a10034_2 : Int32} {x : (Int32 × Int32) ⊕ (Int32 × Int32 × Int32)} (hf : fb_X9_lack_l34 b1 σ (a10034_0, a10034_1, a10034_2) = some x) (K : gj_K (fun z3 => gj_G E X 6 r τ 84 [(1, gj_i b1), (2, gj_i z3.1), (3, gj_i z3.2)] [] σ) (fun a10034 => gj_G E X 6 r τ 34 [(0, gj_r 188), (1, gj_i b1), (2, gj_i a10034.1), (3, gj_i a10034.2.1), (4, gj_i a10034.2.2)] [] σ) x) : gj_G E X 6 r τ 34 [(0, gj_r 188), (1, gj_i b1), (2, gj_i a10034_0), (3, gj_i a10034_1), (4, gj_i a10034_2)] [] σ := by
  unfold fb_X9_lack_l34 at hf
  dsimp only at hf
  refine gj_iload hO 4 dX9_lack_34 rfl ?_
  refine gj_if_lt (tgt := 84) hO dX9_lack_36 (by decide) (fun h => ?_) (fun h => ?_)
  · replace hf := gj_t h hf
    obtain rfl := Option.some.inj hf
    refine gj_sub (lv2 := [(1, gj_i b1), (2, gj_i a10034_0), (3, gj_i a10034_1)]) [1, 2, 3] rfl ?_
    exact K
  · replace hf := gj_f h hf
    refine gj_iload_n hO 1 dX9_lack_39 rfl rfl ?_
    refine gj_iconst (v := 2) hO dX9_lack_40 (by decide) ?_
    obtain ⟨z13401, hz13401, hf⟩ := gj_b hf
    have J13401 : gj_G E X 6 r τ 59 [(0, gj_r 188), (1, gj_i b1), (2, gj_i a10034_0), (3, gj_i a10034_1), (4, gj_i a10034_2)] [gj_i z13401] σ := by
      refine gj_istore (lv2 := [(5, gj_i z13401), (0, gj_r 188), (1, gj_i b1), (2, gj_i a10034_0), (3, gj_i a10034_1), (4, gj_i a10034_2)]) hO dX9_lack_59 (by decide) rfl ?_
      refine gj_iload_n hO 3 dX9_lack_61 rfl rfl ?_
      refine gj_iload hO 0 dX9_lack_62 rfl ?_
      refine gj_iadd hO dX9_lack_64 ?_
      refine gj_istore_n (lv2 := [(2, gj_i (a10034_0 + z13401)), (5, gj_i z13401), (0, gj_r 188), (1, gj_i b1), (3, gj_i a10034_1), (4, gj_i a10034_2)]) hO dX9_lack_65 rfl (by decide) rfl ?_
      refine gj_iload hO 1 dX9_lack_66 rfl ?_
      refine gj_if_le (tgt := 76) hO dX9_lack_68 (by decide) (fun h => ?_) (fun h => ?_)
      · replace hf := gj_t h hf
        refine gj_iload_n hO 4 dX9_lack_76 rfl rfl ?_
        refine gj_istore_n (lv2 := [(3, gj_i a10034_1), (2, gj_i (a10034_0 + z13401)), (5, gj_i z13401), (0, gj_r 188), (1, gj_i b1), (4, gj_i a10034_2)]) hO dX9_lack_77 rfl (by decide) rfl ?_
        refine gj_iinc (v := (a10034_2 + (-1))) (lv2 := [(4, gj_i (a10034_2 + (-1))), (3, gj_i a10034_1), (2, gj_i (a10034_0 + z13401)), (5, gj_i z13401), (0, gj_r 188), (1, gj_i b1)]) hO 5 dX9_lack_78 rfl rfl (by decide) rfl ?_
        refine gj_goto (tgt := 34) hO dX9_lack_81 (by decide) ?_
        obtain rfl := Option.some.inj hf
        refine gj_sub (lv2 := [(0, gj_r 188), (1, gj_i b1), (2, gj_i (a10034_0 + z13401)), (3, gj_i a10034_1), (4, gj_i (a10034_2 + (-1)))]) [4, 5, 2, 1, 0] rfl ?_
        exact K
      · replace hf := gj_f h hf
        refine gj_iload hO 5 dX9_lack_71 rfl ?_
        refine gj_goto (tgt := 77) hO dX9_lack_73 (by decide) ?_
        refine gj_istore_n (lv2 := [(3, gj_i a10034_2), (2, gj_i (a10034_0 + z13401)), (5, gj_i z13401), (0, gj_r 188), (1, gj_i b1), (4, gj_i a10034_2)]) hO dX9_lack_77 rfl (by decide) rfl ?_
        refine gj_iinc (v := (a10034_2 + (-1))) (lv2 := [(4, gj_i (a10034_2 + (-1))), (3, gj_i a10034_2), (2, gj_i (a10034_0 + z13401)), (5, gj_i z13401), (0, gj_r 188), (1, gj_i b1)]) hO 5 dX9_lack_78 rfl rfl (by decide) rfl ?_
        refine gj_goto (tgt := 34) hO dX9_lack_81 (by decide) ?_
        obtain rfl := Option.some.inj hf
        refine gj_sub (lv2 := [(0, gj_r 188), (1, gj_i b1), (2, gj_i (a10034_0 + z13401)), (3, gj_i a10034_2), (4, gj_i (a10034_2 + (-1)))]) [4, 5, 2, 1, 0] rfl ?_
        exact K
    refine gj_icmp_ge (tgt := 53) hO dX9_lack_41 (by decide) (fun h => ?_) (fun h => ?_)
    · replace hz13401 := gj_t h hz13401
      refine gj_aload_n hO 0 dX9_lack_53 rfl rfl ?_
      refine gj_iload hO 4 dX9_lack_54 rfl ?_
      obtain ⟨x13402, hc13402, hz13401⟩ := gj_b hz13401
      refine ca_X9_stuckOf hO kl_188  hc13402 wk_811 (by decide) (by decide) (Nat.le_of_ble_eq_true rfl) dX9_lack_56 ?_
      obtain rfl := Option.some.inj hz13401
      refine gj_sub (lv2 := [(0, gj_r 188), (1, gj_i b1), (2, gj_i a10034_0), (3, gj_i a10034_1), (4, gj_i a10034_2)]) [0, 1, 2, 3, 4] rfl ?_
      exact J13401
    · replace hz13401 := gj_f h hz13401
      refine gj_aload_n hO 0 dX9_lack_44 rfl rfl ?_
      refine gj_iload hO 4 dX9_lack_45 rfl ?_
      obtain ⟨x13403, hc13403, hz13401⟩ := gj_b hz13401
      refine ca_X9_lackOf hO kl_188  hc13403 wk_810 (by decide) (by decide) (Nat.le_of_ble_eq_true rfl) dX9_lack_47 ?_
      refine gj_goto (tgt := 59) hO dX9_lack_50 (by decide) ?_
      obtain rfl := Option.some.inj hz13401
      refine gj_sub (lv2 := [(0, gj_r 188), (1, gj_i b1), (2, gj_i a10034_0), (3, gj_i a10034_1), (4, gj_i a10034_2)]) [0, 1, 2, 3, 4] rfl ?_
      exact J13401
set_option maxHeartbeats 4000000 in
set_option maxRecDepth 100000 in
theorem m_X9_lack {E : gj_E} {σ : gj_S} {b1 : Int32}  {x : Int32} {y : gj_S} (hf : f_X9_lack b1 σ = some (x, y)) : gj_M E yX9_lack cX9_lack 6 (some .int) 1 25 [gj_r 188, gj_i b1] σ (some (gj_i x)) y := by
  refine gj_body (lv := [(0, gj_r 188), (1, gj_i b1)]) (by decide +kernel) (Nat.le_of_ble_eq_true rfl) rfl (fun X hO => ?_)
  replace hO : gj_O E X RX9 cX9_lack 6 (some .int) 1 25 := hO
  unfold f_X9_lack at hf
  refine gj_aload_n hO 0 dX9_lack_0 rfl rfl ?_
  refine gj_iconst (v := 0) hO dX9_lack_1 (by decide) ?_
  refine pt_X9_0 hO wk_636 dX9_lack_2 ?_
  refine gj_iload_n hO 1 dX9_lack_5 rfl rfl ?_
  refine gj_i2l hO dX9_lack_6 ?_
  refine gj_lconst (v := 0) hO dX9_lack_7 (by decide) ?_
  refine gj_ldc2 hO wk_922 dX9_lack_8 ?_
  obtain ⟨x1, hc1, hf⟩ := gj_b hf
  refine ca_X9_within hO kl_188  hc1 wk_653 (by decide) (by decide) (Nat.le_of_ble_eq_true rfl) dX9_lack_11 ?_
  refine gj_if_ne (tgt := 19) hO dX9_lack_14 (by decide) (fun h => ?_) (fun h => ?_)
  · replace hf := gj_f h hf
    refine gj_iconst (v := 0) hO dX9_lack_19 (by decide) ?_
    refine gj_istore_n (lv2 := [(2, gj_i (0 : Int32)), (0, gj_r 188), (1, gj_i b1)]) hO dX9_lack_20 rfl (by decide) rfl ?_
    refine gj_bipush (v := (-2)) hO dX9_lack_21 (by decide) ?_
    refine gj_istore_n (lv2 := [(3, gj_i (-2 : Int32)), (2, gj_i (0 : Int32)), (0, gj_r 188), (1, gj_i b1)]) hO dX9_lack_23 rfl (by decide) rfl ?_
    refine gj_aload_n hO 2 dX9_lack_24 rfl rfl ?_
    refine gt_X9_11 hO wk_691 dX9_lack_25 ?_
    refine gj_iconst (v := 0) hO dX9_lack_28 (by decide) ?_
    obtain ⟨hb2, hf⟩ := gj_c hf
    refine gj_iald hO kl_190 kd_190 hb2 dX9_lack_29 ?_
    refine gj_iconst (v := 1) hO dX9_lack_30 (by decide) ?_
    refine gj_isub hO dX9_lack_31 ?_
    refine gj_istore (lv2 := [(4, gj_i (((gj_sI σ 188 (upd (σ.1 188) 0 (0 : Int32))).1 190 (Int32.toNatClampNeg (0 : Int32))) - (1 : Int32))), (3, gj_i (-2 : Int32)), (2, gj_i (0 : Int32)), (0, gj_r 188), (1, gj_i b1)]) hO dX9_lack_32 (by decide) rfl ?_
    obtain ⟨⟨z3_0, z3_1⟩, hz3, hf⟩ := gj_b hf
    dsimp only at hf
    have J3 : gj_G E X 6 (some (gj_i x)) y 84 [(1, gj_i b1), (2, gj_i z3_0), (3, gj_i z3_1)] [] (gj_sI σ 188 (upd (σ.1 188) 0 (0 : Int32))) := by
      refine gj_iload_n hO 0 dX9_lack_84 rfl rfl ?_
      refine gj_iconst (v := 2) hO dX9_lack_85 (by decide) ?_
      refine gj_irem hO dX9_lack_86 (by decide) ?_
      refine gj_if_ne (tgt := 94) hO dX9_lack_87 (by decide) (fun h => ?_) (fun h => ?_)
      · replace hf := gj_f h hf
        refine gj_iload_n hO 2 dX9_lack_94 rfl rfl ?_
        replace hf := Option.some.inj hf
        simp only [Prod.mk.injEq] at hf
        obtain ⟨rfl, rfl⟩ := hf
        exact gj_iret hO dX9_lack_95
      · replace hf := gj_t h hf
        refine gj_iload_n hO 1 dX9_lack_90 rfl rfl ?_
        refine gj_goto (tgt := 95) hO dX9_lack_91 (by decide) ?_
        replace hf := Option.some.inj hf
        simp only [Prod.mk.injEq] at hf
        obtain ⟨rfl, rfl⟩ := hf
        exact gj_iret hO dX9_lack_95
    refine gj_sub (lv2 := [(0, gj_r 188), (1, gj_i b1), (2, gj_i (0 : Int32)), (3, gj_i (-2 : Int32)), (4, gj_i (((gj_sI σ 188 (upd (σ.1 188) 0 (0 : Int32))).1 190 (Int32.toNatClampNeg (0 : Int32))) - (1 : Int32)))]) [3, 4, 2, 1, 0] rfl ?_
    exact gj_loop (head := fun a10034 => gj_G E X 6 (some (gj_i x)) y 34 [(0, gj_r 188), (1, gj_i b1), (2, gj_i a10034.1), (3, gj_i a10034.2.1), (4, gj_i a10034.2.2)] [] (gj_sI σ 188 (upd (σ.1 188) 0 (0 : Int32)))) (exit := fun z3 => gj_G E X 6 (some (gj_i x)) y 84 [(1, gj_i b1), (2, gj_i z3.1), (3, gj_i z3.2)] [] (gj_sI σ 188 (upd (σ.1 188) 0 (0 : Int32)))) (fun a10034 x hf K => by obtain ⟨a10034_0, a10034_1, a10034_2⟩ := a10034; exact sb_X9_lack_l34 hO hf K) _ _ _ hz3 J3
  · replace hf := gj_t h hf
    refine gj_iconst (v := (-1)) hO dX9_lack_17 (by decide) ?_
    replace hf := Option.some.inj hf
    simp only [Prod.mk.injEq] at hf
    obtain ⟨rfl, rfl⟩ := hf
    exact gj_iret hO dX9_lack_18
set_option maxHeartbeats 4000000 in
set_option maxRecDepth 100000 in
theorem ca_X9_lack {E : gj_E} {X : gj_X} {own : String} {cc : ByteArray} {nL : Nat} {rt : Option FieldType} {fr lo : Nat} {ce sl : Nat} {Q : State → Prop} {pc : Nat} {lv : List (Nat × gj_V)} {st : List gj_V} {σ : gj_S} (hO : gj_O E X own cc nL rt fr lo) (hw : gj_lt own 188) {b1 : Int32}  {idx : Nat} {x : Int32} {y : gj_S} (hf : f_X9_lack b1 σ = some (x, y)) (hl : Cond.methodLink own idx yX9_lack ∈ gj_gw) (hf1 : 2 ≤ fr) (hf2 : 50 ≤ lo) (hcat : ((st.map (gj_tv E.2.1)).map fun v => v.category).sum ≤ 8) (hd : decode cc pc = .ok (.invokevirtual idx, 3)) (k : gj_H E X nL ce sl Q (pc + 3) lv ((gj_i x) :: st) y) : gj_H E X nL ce sl Q pc lv (gj_i b1 :: gj_r 188 :: st) σ :=
  gj_callV hO (o := 188) (vs := [gj_i b1]) (m_X9_lack  hf) (gj_I9 hw) hl wk_923 wk_924 wk_629 wk_925 hw kd_188 (by decide) (ci := 9) rfl (n := 1) (by decide +kernel) rfl hf1 hf2 rfl hcat hd k
