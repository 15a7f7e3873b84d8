def f_X9_cheaper (b1 : Int32) (b2 : Int32) (b3 : Int32) (σ : gj_S) : Option gj_S := (if gj_in b1 8 then (if (1000000000 : Int32) ≤ (σ.1 209 (Int32.toNatClampNeg b1)) then some σ else (if gj_in b1 8 then (if gj_in b2 8 then (if (σ.1 209 (Int32.toNatClampNeg b2)) ≤ ((σ.1 209 (Int32.toNatClampNeg b1)) + b3) then some σ else (if gj_in b1 8 then (if gj_in b2 8 then some (gj_sI σ 209 (upd (σ.1 209) (Int32.toNatClampNeg b2) ((σ.1 209 (Int32.toNatClampNeg b1)) + b3))) else none) else none)) else none) else none)) else none)
set_option maxHeartbeats 4000000 in
set_option maxRecDepth 100000 in
theorem m_X9_cheaper {E : gj_E} {σ : gj_S} {b1 : Int32} {b2 : Int32} {b3 : Int32}  {x : gj_S} (hf : f_X9_cheaper b1 b2 b3 σ = some x) : gj_M E yX9_cheaper cX9_cheaper 4 none 0 0 [gj_r 188, gj_i b1, gj_i b2, gj_i b3] σ none x := by
  refine gj_body (lv := [(0, gj_r 188), (1, gj_i b1), (2, gj_i b2), (3, gj_i b3)]) (by decide +kernel) (Nat.le_of_ble_eq_true rfl) rfl (fun X hO => ?_)
  replace hO : gj_O E X RX9 cX9_cheaper 4 none 0 0 := hO
  unfold f_X9_cheaper at hf
  refine gj_aload_n hO 0 dX9_cheaper_0 rfl rfl ?_
  refine gt_X9_38 hO wk_926 dX9_cheaper_1 ?_
  refine gj_iload_n hO 1 dX9_cheaper_4 rfl rfl ?_
  obtain ⟨hb1, hf⟩ := gj_c hf
  refine gj_iald hO kl_209 kd_209 hb1 dX9_cheaper_5 ?_
  refine gj_ldc hO wk_758 dX9_cheaper_6 ?_
  refine gj_icmp_ge (tgt := 42) hO dX9_cheaper_8 (by decide) (fun h => ?_) (fun h => ?_)
  · replace hf := gj_t h hf
    obtain rfl := Option.some.inj hf
    exact gj_vret hO dX9_cheaper_42
  · replace hf := gj_f h hf
    refine gj_aload_n hO 0 dX9_cheaper_11 rfl rfl ?_
    refine gt_X9_38 hO wk_926 dX9_cheaper_12 ?_
    refine gj_iload_n hO 1 dX9_cheaper_15 rfl rfl ?_
    obtain ⟨hb2, hf⟩ := gj_c hf
    refine gj_iald hO kl_209 kd_209 hb2 dX9_cheaper_16 ?_
    refine gj_iload_n hO 3 dX9_cheaper_17 rfl rfl ?_
    refine gj_iadd hO dX9_cheaper_18 ?_
    refine gj_aload_n hO 0 dX9_cheaper_19 rfl rfl ?_
    refine gt_X9_38 hO wk_926 dX9_cheaper_20 ?_
    refine gj_iload_n hO 2 dX9_cheaper_23 rfl rfl ?_
    obtain ⟨hb3, hf⟩ := gj_c hf
    refine gj_iald hO kl_209 kd_209 hb3 dX9_cheaper_24 ?_
    refine gj_icmp_ge (tgt := 42) hO dX9_cheaper_25 (by decide) (fun h => ?_) (fun h => ?_)
    · replace hf := gj_t h hf
      obtain rfl := Option.some.inj hf
      exact gj_vret hO dX9_cheaper_42
    · replace hf := gj_f h hf
      refine gj_aload_n hO 0 dX9_cheaper_28 rfl rfl ?_
      refine gt_X9_38 hO wk_926 dX9_cheaper_29 ?_
      refine gj_iload_n hO 2 dX9_cheaper_32 rfl rfl ?_
      refine gj_aload_n hO 0 dX9_cheaper_33 rfl rfl ?_
      refine gt_X9_38 hO wk_926 dX9_cheaper_34 ?_
      refine gj_iload_n hO 1 dX9_cheaper_37 rfl rfl ?_
      obtain ⟨hb4, hf⟩ := gj_c hf
      refine gj_iald hO kl_209 kd_209 hb4 dX9_cheaper_38 ?_
      refine gj_iload_n hO 3 dX9_cheaper_39 rfl rfl ?_
      refine gj_iadd hO dX9_cheaper_40 ?_
      obtain ⟨hb5, hf⟩ := gj_c hf
      refine gj_iast hO kl_209 kd_209 hb5 dX9_cheaper_41 ?_
      obtain rfl := Option.some.inj hf
      exact gj_vret hO dX9_cheaper_42
set_option maxHeartbeats 4000000 in
set_option maxRecDepth 100000 in
theorem ca_X9_cheaper {E : gj_E} {X : gj_X} {own : String} {cc : ByteArray} {nL : Nat} {rt : Option FieldType} {fr lo : Nat} {ce sl : Nat} {Q : State → Prop} {pc : Nat} {lv : List (Nat × gj_V)} {st : List gj_V} {σ : gj_S} (hO : gj_O E X own cc nL rt fr lo) (hw : gj_lt own 188) {b1 : Int32} {b2 : Int32} {b3 : Int32}  {idx : Nat} {x : gj_S} (hf : f_X9_cheaper b1 b2 b3 σ = some x) (hl : Cond.methodLink own idx yX9_cheaper ∈ gj_gw) (hf1 : 1 ≤ fr) (hf2 : 23 ≤ lo) (hcat : ((st.map (gj_tv E.2.1)).map fun v => v.category).sum ≤ 8) (hd : decode cc pc = .ok (.invokevirtual idx, 3)) (k : gj_H E X nL ce sl Q (pc + 3) lv (st) x) : gj_H E X nL ce sl Q pc lv (gj_i b3 :: gj_i b2 :: gj_i b1 :: gj_r 188 :: st) σ :=
  gj_callV hO (o := 188) (vs := [gj_i b1, gj_i b2, gj_i b3]) (m_X9_cheaper  hf) (gj_I9 hw) hl wk_927 wk_928 wk_629 wk_929 hw kd_188 (by decide) (ci := 9) rfl (n := 3) (by decide +kernel) rfl hf1 hf2 rfl hcat hd k
def fb_X9_unit_l34 (b1 : Int32) (b2 : Int32) (a10034 : (Int32 × gj_S)) : Option (gj_S ⊕ (Int32 × gj_S)) := (if (8 : Int32) ≤ a10034.1 then some (.inl a10034.2) else (if a10034.1 = b1 then (if gj_in a10034.1 8 then some (.inr ((a10034.1 + 1), (gj_sI a10034.2 209 (upd (a10034.2.1 209) (Int32.toNatClampNeg a10034.1) (0 : Int32))))) else none) else (if gj_in a10034.1 8 then some (.inr ((a10034.1 + 1), (gj_sI a10034.2 209 (upd (a10034.2.1 209) (Int32.toNatClampNeg a10034.1) (1000000000 : Int32))))) else none)))
def fb_X9_unit_l78 (b2 : Int32) (b3 : Int32) (a10078 : (Int32 × gj_S)) : Option (gj_S ⊕ (Int32 × gj_S)) := (if gj_in (0 : Int32) 2 then (if (a10078.2.1 191 (Int32.toNatClampNeg (0 : Int32))) ≤ a10078.1 then some (.inl a10078.2) else (if gj_in ((50 : Int32) + a10078.1) 180 then (if gj_in ((24 : Int32) + a10078.1) 180 then ((if (a10078.2.1 198 (Int32.toNatClampNeg ((24 : Int32) + a10078.1))) ≤ (a10078.2.1 198 (Int32.toNatClampNeg ((50 : Int32) + a10078.1))) then some a10078.2 else (if gj_in a10078.1 32 then (if gj_in a10078.1 32 then (if gj_in ((8 : Int32) + a10078.1) 180 then ((f_X9_cheaper (a10078.2.1 194 (Int32.toNatClampNeg a10078.1)) (a10078.2.1 195 (Int32.toNatClampNeg a10078.1)) (a10078.2.1 198 (Int32.toNatClampNeg ((8 : Int32) + a10078.1))) a10078.2).bind fun x17808 => some x17808) else none) else none) else none) : Option gj_S).bind fun z17804 => (if gj_in ((50 : Int32) + a10078.1) 180 then (if (z17804.1 198 (Int32.toNatClampNeg ((50 : Int32) + a10078.1))) ≤ 0 then some (.inr ((a10078.1 + 1), z17804)) else (if gj_in a10078.1 32 then (if gj_in a10078.1 32 then (if gj_in ((8 : Int32) + a10078.1) 180 then ((f_X9_cheaper (z17804.1 195 (Int32.toNatClampNeg a10078.1)) (z17804.1 194 (Int32.toNatClampNeg a10078.1)) (0 - (z17804.1 198 (Int32.toNatClampNeg ((8 : Int32) + a10078.1)))) z17804).bind fun x17813 => some (.inr ((a10078.1 + 1), x17813))) else none) else none) else none)) else none)) else none) else none)) else none)
def fb_X9_unit_l65 (b2 : Int32) (a10065 : (Int32 × gj_S)) : Option (gj_S ⊕ (Int32 × gj_S)) := (if gj_in (0 : Int32) 2 then (if (a10065.2.1 190 (Int32.toNatClampNeg (0 : Int32))) ≤ a10065.1 then some (.inl a10065.2) else ((gj_lp (fb_X9_unit_l78 b2 a10065.1) 5000 ((0 : Int32), a10065.2)).bind fun z16502 => some (.inr ((a10065.1 + 1), z16502)))) else none)
def f_X9_unit (b1 : Int32) (b2 : Int32) (σ : gj_S) : Option (Int32 × gj_S) := ((f_X9_isDock b1 (gj_sI σ 188 (upd (σ.1 188) 0 (0 : Int32)))).bind fun x1 => (if x1 = 0 then some ((-2147483648 : Int32), (gj_sI σ 188 (upd (σ.1 188) 0 (0 : Int32)))) else ((f_X9_isDock b2 (gj_sI σ 188 (upd (σ.1 188) 0 (0 : Int32)))).bind fun x2 => (if x2 = 0 then some ((-2147483648 : Int32), (gj_sI σ 188 (upd (σ.1 188) 0 (0 : Int32)))) else ((f_X9_isEnd (gj_sI σ 188 (upd (σ.1 188) 0 (0 : Int32)))).bind fun x3 => (if x3.1 = 0 then some ((-2147483648 : Int32), x3.2) else ((gj_lp (fb_X9_unit_l34 b1 b2) 5000 ((0 : Int32), x3.2)).bind fun z4 => ((gj_lp (fb_X9_unit_l65 b2) 5000 ((0 : Int32), z4)).bind fun z5 => (if gj_in b2 8 then (if (z5.1 209 (Int32.toNatClampNeg b2)) = (1000000000 : Int32) then some ((-2147483648 : Int32), z5) else (if gj_in b2 8 then some ((z5.1 209 (Int32.toNatClampNeg b2)), z5) else none)) else none)))))))))
set_option maxHeartbeats 4000000 in
set_option maxRecDepth 100000 in
theorem sb_X9_unit_l34 {E : gj_E} {X : gj_X} {r : Option gj_V} {τ : gj_S} (hO : gj_O E X RX9 cX9_unit 5 (some .int) 5 106) {b1 : Int32} {b2 : Int32} {a10034_0 : Int32} {a10034_1 : gj_S} {x : gj_S ⊕ (Int32 × gj_S)} (hf : fb_X9_unit_l34 b1 b2 (a10034_0, a10034_1) = some x) (K : gj_K (fun z4 => gj_G E X 5 r τ 63 [(0, gj_r 188), (2, gj_i b2)] [] z4) (fun a10034 => gj_G E X 5 r τ 34 [(0, gj_r 188), (1, gj_i b1), (2, gj_i b2), (3, gj_i a10034.1)] [] a10034.2) x) : gj_G E X 5 r τ 34 [(0, gj_r 188), (1, gj_i b1), (2, gj_i b2), (3, gj_i a10034_0)] [] a10034_1 := by
  unfold fb_X9_unit_l34 at hf
  dsimp only at hf
  refine gj_iload_n hO 3 dX9_unit_34 rfl rfl ?_
  refine gj_bipush (v := 8) hO dX9_unit_35 (by decide) ?_
  refine gj_icmp_ge (tgt := 63) hO dX9_unit_37 (by decide) (fun h => ?_) (fun h => ?_)
  · replace hf := gj_t h hf
    obtain rfl := Option.some.inj hf
    refine gj_sub (lv2 := [(0, gj_r 188), (2, gj_i b2)]) [0, 2] rfl ?_
    exact K
  · replace hf := gj_f h hf
    refine gj_aload_n hO 0 dX9_unit_40 rfl rfl ?_
    refine gt_X9_38 hO wk_926 dX9_unit_41 ?_
    refine gj_iload_n hO 3 dX9_unit_44 rfl rfl ?_
    refine gj_iload_n hO 3 dX9_unit_45 rfl rfl ?_
    refine gj_iload_n hO 1 dX9_unit_46 rfl rfl ?_
    refine gj_icmp_ne (tgt := 54) hO dX9_unit_47 (by decide) (fun h => ?_) (fun h => ?_)
    · replace hf := gj_f h hf
      refine gj_ldc hO wk_758 dX9_unit_54 ?_
      obtain ⟨hb13401, hf⟩ := gj_c hf
      refine gj_iast hO kl_209 kd_209 hb13401 dX9_unit_56 ?_
      refine gj_iinc (v := (a10034_0 + 1)) (lv2 := [(3, gj_i (a10034_0 + 1)), (0, gj_r 188), (1, gj_i b1), (2, gj_i b2)]) hO 3 dX9_unit_57 rfl rfl (by decide) rfl ?_
      refine gj_goto (tgt := 34) hO dX9_unit_60 (by decide) ?_
      obtain rfl := Option.some.inj hf
      refine gj_sub (lv2 := [(0, gj_r 188), (1, gj_i b1), (2, gj_i b2), (3, gj_i (a10034_0 + 1))]) [1, 2, 3, 0] rfl ?_
      exact K
    · replace hf := gj_t h hf
      refine gj_iconst (v := 0) hO dX9_unit_50 (by decide) ?_
      refine gj_goto (tgt := 56) hO dX9_unit_51 (by decide) ?_
      obtain ⟨hb13402, hf⟩ := gj_c hf
      refine gj_iast hO kl_209 kd_209 hb13402 dX9_unit_56 ?_
      refine gj_iinc (v := (a10034_0 + 1)) (lv2 := [(3, gj_i (a10034_0 + 1)), (0, gj_r 188), (1, gj_i b1), (2, gj_i b2)]) hO 3 dX9_unit_57 rfl rfl (by decide) rfl ?_
      refine gj_goto (tgt := 34) hO dX9_unit_60 (by decide) ?_
      obtain rfl := Option.some.inj hf
      refine gj_sub (lv2 := [(0, gj_r 188), (1, gj_i b1), (2, gj_i b2), (3, gj_i (a10034_0 + 1))]) [1, 2, 3, 0] rfl ?_
      exact K
set_option maxHeartbeats 4000000 in
set_option maxRecDepth 100000 in
theorem sb_X9_unit_l78 {E : gj_E} {X : gj_X} {r : Option gj_V} {τ : gj_S} (hO : gj_O E X RX9 cX9_unit 5 (some .int) 5 106) {b2 : Int32} {b3 : Int32} {a10078_0 : Int32} {a10078_1 : gj_S} {x : gj_S ⊕ (Int32 × gj_S)} (hf : fb_X9_unit_l78 b2 b3 (a10078_0, a10078_1) = some x) (K : gj_K (fun z16502 => gj_G E X 5 r τ 188 [(0, gj_r 188), (2, gj_i b2), (3, gj_i b3)] [] z16502) (fun a10078 => gj_G E X 5 r τ 78 [(0, gj_r 188), (2, gj_i b2), (3, gj_i b3), (4, gj_i a10078.1)] [] a10078.2) x) : gj_G E X 5 r τ 78 [(0, gj_r 188), (2, gj_i b2), (3, gj_i b3), (4, gj_i a10078_0)] [] a10078_1 := by
  unfold fb_X9_unit_l78 at hf
  dsimp only at hf
  refine gj_iload hO 3 dX9_unit_78 rfl ?_
  refine gj_aload_n hO 0 dX9_unit_80 rfl rfl ?_
  refine gt_X9_12 hO wk_693 dX9_unit_81 ?_
  refine gj_iconst (v := 0) hO dX9_unit_84 (by decide) ?_
  obtain ⟨hb17801, hf⟩ := gj_c hf
  refine gj_iald hO kl_191 kd_191 hb17801 dX9_unit_85 ?_
  refine gj_icmp_ge (tgt := 188) hO dX9_unit_86 (by decide) (fun h => ?_) (fun h => ?_)
  · replace hf := gj_t h hf
    obtain rfl := Option.some.inj hf
    refine gj_sub (lv2 := [(0, gj_r 188), (2, gj_i b2), (3, gj_i b3)]) [0, 1, 2] rfl ?_
    exact K
  · replace hf := gj_f h hf
    refine gj_aload_n hO 0 dX9_unit_89 rfl rfl ?_
    refine gt_X9_21 hO wk_725 dX9_unit_90 ?_
    refine gj_bipush (v := 50) hO dX9_unit_93 (by decide) ?_
    refine gj_iload hO 3 dX9_unit_95 rfl ?_
    refine gj_iadd hO dX9_unit_97 ?_
    obtain ⟨hb17802, hf⟩ := gj_c hf
    refine gj_iald hO kl_198 kd_198 hb17802 dX9_unit_98 ?_
    refine gj_aload_n hO 0 dX9_unit_99 rfl rfl ?_
    refine gt_X9_21 hO wk_725 dX9_unit_100 ?_
    refine gj_bipush (v := 24) hO dX9_unit_103 (by decide) ?_
    refine gj_iload hO 3 dX9_unit_105 rfl ?_
    refine gj_iadd hO dX9_unit_107 ?_
    obtain ⟨hb17803, hf⟩ := gj_c hf
    refine gj_iald hO kl_198 kd_198 hb17803 dX9_unit_108 ?_
    obtain ⟨z17804, hz17804, hf⟩ := gj_b hf
    have J17804 : gj_G E X 5 r τ 140 [(0, gj_r 188), (2, gj_i b2), (3, gj_i b3), (4, gj_i a10078_0)] [] z17804 := by
      refine gj_aload_n hO 0 dX9_unit_140 rfl rfl ?_
      refine gt_X9_21 hO wk_725 dX9_unit_141 ?_
      refine gj_bipush (v := 50) hO dX9_unit_144 (by decide) ?_
      refine gj_iload hO 3 dX9_unit_146 rfl ?_
      refine gj_iadd hO dX9_unit_148 ?_
      obtain ⟨hb17809, hf⟩ := gj_c hf
      refine gj_iald hO kl_198 kd_198 hb17809 dX9_unit_149 ?_
      refine gj_if_le (tgt := 182) hO dX9_unit_150 (by decide) (fun h => ?_) (fun h => ?_)
      · replace hf := gj_t h hf
        refine gj_iinc (v := (a10078_0 + 1)) (lv2 := [(4, gj_i (a10078_0 + 1)), (0, gj_r 188), (2, gj_i b2), (3, gj_i b3)]) hO 3 dX9_unit_182 rfl rfl (by decide) rfl ?_
        refine gj_goto (tgt := 78) hO dX9_unit_185 (by decide) ?_
        obtain rfl := Option.some.inj hf
        refine gj_sub (lv2 := [(0, gj_r 188), (2, gj_i b2), (3, gj_i b3), (4, gj_i (a10078_0 + 1))]) [1, 2, 3, 0] rfl ?_
        exact K
      · replace hf := gj_f h hf
        refine gj_aload_n hO 0 dX9_unit_153 rfl rfl ?_
        refine gj_aload_n hO 0 dX9_unit_154 rfl rfl ?_
        refine gt_X9_16 hO wk_708 dX9_unit_155 ?_
        refine gj_iload hO 3 dX9_unit_158 rfl ?_
        obtain ⟨hb17810, hf⟩ := gj_c hf
        refine gj_iald hO kl_195 kd_195 hb17810 dX9_unit_160 ?_
        refine gj_aload_n hO 0 dX9_unit_161 rfl rfl ?_
        refine gt_X9_15 hO wk_706 dX9_unit_162 ?_
        refine gj_iload hO 3 dX9_unit_165 rfl ?_
        obtain ⟨hb17811, hf⟩ := gj_c hf
        refine gj_iald hO kl_194 kd_194 hb17811 dX9_unit_167 ?_
        refine gj_aload_n hO 0 dX9_unit_168 rfl rfl ?_
        refine gt_X9_21 hO wk_725 dX9_unit_169 ?_
        refine gj_bipush (v := 8) hO dX9_unit_172 (by decide) ?_
        refine gj_iload hO 3 dX9_unit_174 rfl ?_
        refine gj_iadd hO dX9_unit_176 ?_
        obtain ⟨hb17812, hf⟩ := gj_c hf
        refine gj_iald hO kl_198 kd_198 hb17812 dX9_unit_177 ?_
        refine gj_ineg hO dX9_unit_178 ?_
        obtain ⟨x17813, hc17813, hf⟩ := gj_b hf
        refine ca_X9_cheaper hO kl_188  hc17813 wk_930 (by decide) (by decide) (Nat.le_of_ble_eq_true rfl) dX9_unit_179 ?_
        refine gj_iinc (v := (a10078_0 + 1)) (lv2 := [(4, gj_i (a10078_0 + 1)), (0, gj_r 188), (2, gj_i b2), (3, gj_i b3)]) hO 3 dX9_unit_182 rfl rfl (by decide) rfl ?_
        refine gj_goto (tgt := 78) hO dX9_unit_185 (by decide) ?_
        obtain rfl := Option.some.inj hf
        refine gj_sub (lv2 := [(0, gj_r 188), (2, gj_i b2), (3, gj_i b3), (4, gj_i (a10078_0 + 1))]) [1, 2, 3, 0] rfl ?_
        exact K
    refine gj_icmp_ge (tgt := 140) hO dX9_unit_109 (by decide) (fun h => ?_) (fun h => ?_)
    · replace hz17804 := gj_t h hz17804
      obtain rfl := Option.some.inj hz17804
      refine gj_sub (lv2 := [(0, gj_r 188), (2, gj_i b2), (3, gj_i b3), (4, gj_i a10078_0)]) [0, 1, 2, 3] rfl ?_
      exact J17804
    · replace hz17804 := gj_f h hz17804
      refine gj_aload_n hO 0 dX9_unit_112 rfl rfl ?_
      refine gj_aload_n hO 0 dX9_unit_113 rfl rfl ?_
      refine gt_X9_15 hO wk_706 dX9_unit_114 ?_
      refine gj_iload hO 3 dX9_unit_117 rfl ?_
      obtain ⟨hb17805, hz17804⟩ := gj_c hz17804
      refine gj_iald hO kl_194 kd_194 hb17805 dX9_unit_119 ?_
      refine gj_aload_n hO 0 dX9_unit_120 rfl rfl ?_
      refine gt_X9_16 hO wk_708 dX9_unit_121 ?_
      refine gj_iload hO 3 dX9_unit_124 rfl ?_
      obtain ⟨hb17806, hz17804⟩ := gj_c hz17804
      refine gj_iald hO kl_195 kd_195 hb17806 dX9_unit_126 ?_
      refine gj_aload_n hO 0 dX9_unit_127 rfl rfl ?_
      refine gt_X9_21 hO wk_725 dX9_unit_128 ?_
      refine gj_bipush (v := 8) hO dX9_unit_131 (by decide) ?_
      refine gj_iload hO 3 dX9_unit_133 rfl ?_
      refine gj_iadd hO dX9_unit_135 ?_
      obtain ⟨hb17807, hz17804⟩ := gj_c hz17804
      refine gj_iald hO kl_198 kd_198 hb17807 dX9_unit_136 ?_
      obtain ⟨x17808, hc17808, hz17804⟩ := gj_b hz17804
      refine ca_X9_cheaper hO kl_188  hc17808 wk_930 (by decide) (by decide) (Nat.le_of_ble_eq_true rfl) dX9_unit_137 ?_
      obtain rfl := Option.some.inj hz17804
      refine gj_sub (lv2 := [(0, gj_r 188), (2, gj_i b2), (3, gj_i b3), (4, gj_i a10078_0)]) [0, 1, 2, 3] rfl ?_
      exact J17804
set_option maxHeartbeats 4000000 in
set_option maxRecDepth 100000 in
theorem sb_X9_unit_l65 {E : gj_E} {X : gj_X} {r : Option gj_V} {τ : gj_S} (hO : gj_O E X RX9 cX9_unit 5 (some .int) 5 106) {b2 : Int32} {a10065_0 : Int32} {a10065_1 : gj_S} {x : gj_S ⊕ (Int32 × gj_S)} (hf : fb_X9_unit_l65 b2 (a10065_0, a10065_1) = some x) (K : gj_K (fun z5 => gj_G E X 5 r τ 194 [(0, gj_r 188), (2, gj_i b2)] [] z5) (fun a10065 => gj_G E X 5 r τ 65 [(0, gj_r 188), (2, gj_i b2), (3, gj_i a10065.1)] [] a10065.2) x) : gj_G E X 5 r τ 65 [(0, gj_r 188), (2, gj_i b2), (3, gj_i a10065_0)] [] a10065_1 := by
  unfold fb_X9_unit_l65 at hf
  dsimp only at hf
  refine gj_iload_n hO 2 dX9_unit_65 rfl rfl ?_
  refine gj_aload_n hO 0 dX9_unit_66 rfl rfl ?_
  refine gt_X9_11 hO wk_691 dX9_unit_67 ?_
  refine gj_iconst (v := 0) hO dX9_unit_70 (by decide) ?_
  obtain ⟨hb16501, hf⟩ := gj_c hf
  refine gj_iald hO kl_190 kd_190 hb16501 dX9_unit_71 ?_
  refine gj_icmp_ge (tgt := 194) hO dX9_unit_72 (by decide) (fun h => ?_) (fun h => ?_)
  · replace hf := gj_t h hf
    obtain rfl := Option.some.inj hf
    refine gj_sub (lv2 := [(0, gj_r 188), (2, gj_i b2)]) [0, 1] rfl ?_
    exact K
  · replace hf := gj_f h hf
    refine gj_iconst (v := 0) hO dX9_unit_75 (by decide) ?_
    refine gj_istore (lv2 := [(4, gj_i (0 : Int32)), (0, gj_r 188), (2, gj_i b2), (3, gj_i a10065_0)]) hO dX9_unit_76 (by decide) rfl ?_
    obtain ⟨z16502, hz16502, hf⟩ := gj_b hf
    have J16502 : gj_G E X 5 r τ 188 [(0, gj_r 188), (2, gj_i b2), (3, gj_i a10065_0)] [] z16502 := by
      refine gj_iinc (v := (a10065_0 + 1)) (lv2 := [(3, gj_i (a10065_0 + 1)), (0, gj_r 188), (2, gj_i b2)]) hO 2 dX9_unit_188 rfl rfl (by decide) rfl ?_
      refine gj_goto (tgt := 65) hO dX9_unit_191 (by decide) ?_
      obtain rfl := Option.some.inj hf
      refine gj_sub (lv2 := [(0, gj_r 188), (2, gj_i b2), (3, gj_i (a10065_0 + 1))]) [1, 2, 0] rfl ?_
      exact K
    refine gj_sub (lv2 := [(0, gj_r 188), (2, gj_i b2), (3, gj_i a10065_0), (4, gj_i (0 : Int32))]) [1, 2, 3, 0] rfl ?_
    exact gj_loop (head := fun a10078 => gj_G E X 5 r τ 78 [(0, gj_r 188), (2, gj_i b2), (3, gj_i a10065_0), (4, gj_i a10078.1)] [] a10078.2) (exit := fun z16502 => gj_G E X 5 r τ 188 [(0, gj_r 188), (2, gj_i b2), (3, gj_i a10065_0)] [] z16502) (fun a10078 x hf K => by obtain ⟨a10078_0, a10078_1⟩ := a10078; exact sb_X9_unit_l78 hO hf K) _ _ _ hz16502 J16502
set_option maxHeartbeats 4000000 in
set_option maxRecDepth 100000 in
theorem m_X9_unit {E : gj_E} {σ : gj_S} {b1 : Int32} {b2 : Int32}  {x : Int32} {y : gj_S} (hf : f_X9_unit b1 b2 σ = some (x, y)) : gj_M E yX9_unit cX9_unit 5 (some .int) 5 106 [gj_r 188, gj_i b1, gj_i b2] σ (some (gj_i x)) y := by
  refine gj_body (lv := [(0, gj_r 188), (1, gj_i b1), (2, gj_i b2)]) (by decide +kernel) (Nat.le_of_ble_eq_true rfl) rfl (fun X hO => ?_)
  replace hO : gj_O E X RX9 cX9_unit 5 (some .int) 5 106 := hO
  unfold f_X9_unit at hf
  refine gj_aload_n hO 0 dX9_unit_0 rfl rfl ?_
  refine gj_iconst (v := 0) hO dX9_unit_1 (by decide) ?_
  refine pt_X9_0 hO wk_636 dX9_unit_2 ?_
  refine gj_aload_n hO 0 dX9_unit_5 rfl rfl ?_
  refine gj_iload_n hO 1 dX9_unit_6 rfl rfl ?_
  obtain ⟨x1, hc1, hf⟩ := gj_b hf
  refine ca_X9_isDock hO kl_188  hc1 wk_807 (by decide) (by decide) (Nat.le_of_ble_eq_true rfl) dX9_unit_7 ?_
  refine gj_if_eq (tgt := 28) hO dX9_unit_10 (by decide) (fun h => ?_) (fun h => ?_)
  · replace hf := gj_t h hf
    refine gj_ldcw hO wk_908 dX9_unit_28 ?_
    replace hf := Option.some.inj hf
    simp only [Prod.mk.injEq] at hf
    obtain ⟨rfl, rfl⟩ := hf
    exact gj_iret hO dX9_unit_31
  · replace hf := gj_f h hf
    refine gj_aload_n hO 0 dX9_unit_13 rfl rfl ?_
    refine gj_iload_n hO 2 dX9_unit_14 rfl rfl ?_
    obtain ⟨x2, hc2, hf⟩ := gj_b hf
    refine ca_X9_isDock hO kl_188  hc2 wk_807 (by decide) (by decide) (Nat.le_of_ble_eq_true rfl) dX9_unit_15 ?_
    refine gj_if_eq (tgt := 28) hO dX9_unit_18 (by decide) (fun h => ?_) (fun h => ?_)
    · replace hf := gj_t h hf
      refine gj_ldcw hO wk_908 dX9_unit_28 ?_
      replace hf := Option.some.inj hf
      simp only [Prod.mk.injEq] at hf
      obtain ⟨rfl, rfl⟩ := hf
      exact gj_iret hO dX9_unit_31
    · replace hf := gj_f h hf
      refine gj_aload_n hO 0 dX9_unit_21 rfl rfl ?_
      obtain ⟨⟨x3_v, x3_s⟩, hc3, hf⟩ := gj_b hf
      dsimp only at hf
      refine ca_X9_isEnd hO kl_188  hc3 wk_885 (by decide) (by decide) (Nat.le_of_ble_eq_true rfl) dX9_unit_22 ?_
      refine gj_if_ne (tgt := 32) hO dX9_unit_25 (by decide) (fun h => ?_) (fun h => ?_)
      · replace hf := gj_f h hf
        refine gj_iconst (v := 0) hO dX9_unit_32 (by decide) ?_
        refine gj_istore_n (lv2 := [(3, gj_i (0 : Int32)), (0, gj_r 188), (1, gj_i b1), (2, gj_i b2)]) hO dX9_unit_33 rfl (by decide) rfl ?_
        obtain ⟨z4, hz4, hf⟩ := gj_b hf
        have J4 : gj_G E X 5 (some (gj_i x)) y 63 [(0, gj_r 188), (2, gj_i b2)] [] z4 := by
          refine gj_iconst (v := 0) hO dX9_unit_63 (by decide) ?_
          refine gj_istore_n (lv2 := [(3, gj_i (0 : Int32)), (0, gj_r 188), (2, gj_i b2)]) hO dX9_unit_64 rfl (by decide) rfl ?_
          obtain ⟨z5, hz5, hf⟩ := gj_b hf
          have J5 : gj_G E X 5 (some (gj_i x)) y 194 [(0, gj_r 188), (2, gj_i b2)] [] z5 := by
            refine gj_aload_n hO 0 dX9_unit_194 rfl rfl ?_
            refine gt_X9_38 hO wk_926 dX9_unit_195 ?_
            refine gj_iload_n hO 1 dX9_unit_198 rfl rfl ?_
            obtain ⟨hb6, hf⟩ := gj_c hf
            refine gj_iald hO kl_209 kd_209 hb6 dX9_unit_199 ?_
            refine gj_ldc hO wk_758 dX9_unit_200 ?_
            refine gj_icmp_ne (tgt := 211) hO dX9_unit_202 (by decide) (fun h => ?_) (fun h => ?_)
            · replace hf := gj_f h hf
              refine gj_aload_n hO 0 dX9_unit_211 rfl rfl ?_
              refine gt_X9_38 hO wk_926 dX9_unit_212 ?_
              refine gj_iload_n hO 1 dX9_unit_215 rfl rfl ?_
              obtain ⟨hb7, hf⟩ := gj_c hf
              refine gj_iald hO kl_209 kd_209 hb7 dX9_unit_216 ?_
              replace hf := Option.some.inj hf
              simp only [Prod.mk.injEq] at hf
              obtain ⟨rfl, rfl⟩ := hf
              exact gj_iret hO dX9_unit_217
            · replace hf := gj_t h hf
              refine gj_ldcw hO wk_908 dX9_unit_205 ?_
              refine gj_goto (tgt := 217) hO dX9_unit_208 (by decide) ?_
              replace hf := Option.some.inj hf
              simp only [Prod.mk.injEq] at hf
              obtain ⟨rfl, rfl⟩ := hf
              exact gj_iret hO dX9_unit_217
          refine gj_sub (lv2 := [(0, gj_r 188), (2, gj_i b2), (3, gj_i (0 : Int32))]) [1, 2, 0] rfl ?_
          exact gj_loop (head := fun a10065 => gj_G E X 5 (some (gj_i x)) y 65 [(0, gj_r 188), (2, gj_i b2), (3, gj_i a10065.1)] [] a10065.2) (exit := fun z5 => gj_G E X 5 (some (gj_i x)) y 194 [(0, gj_r 188), (2, gj_i b2)] [] z5) (fun a10065 x hf K => by obtain ⟨a10065_0, a10065_1⟩ := a10065; exact sb_X9_unit_l65 hO hf K) _ _ _ hz5 J5
        refine gj_sub (lv2 := [(0, gj_r 188), (1, gj_i b1), (2, gj_i b2), (3, gj_i (0 : Int32))]) [1, 2, 3, 0] rfl ?_
        exact gj_loop (head := fun a10034 => gj_G E X 5 (some (gj_i x)) y 34 [(0, gj_r 188), (1, gj_i b1), (2, gj_i b2), (3, gj_i a10034.1)] [] a10034.2) (exit := fun z4 => gj_G E X 5 (some (gj_i x)) y 63 [(0, gj_r 188), (2, gj_i b2)] [] z4) (fun a10034 x hf K => by obtain ⟨a10034_0, a10034_1⟩ := a10034; exact sb_X9_unit_l34 hO hf K) _ _ _ hz4 J4
      · replace hf := gj_t h hf
        refine gj_ldcw hO wk_908 dX9_unit_28 ?_
        replace hf := Option.some.inj hf
        simp only [Prod.mk.injEq] at hf
        obtain ⟨rfl, rfl⟩ := hf
        exact gj_iret hO dX9_unit_31
set_option maxHeartbeats 4000000 in
set_option maxRecDepth 100000 in
theorem ca_X9_unit {E : gj_E} {X : gj_X} {own : String} {cc : ByteArray} {nL : Nat} {rt : Option FieldType} {fr lo : Nat} {ce sl : Nat} {Q : State → Prop} {pc : Nat} {lv : List (Nat × gj_V)} {st : List gj_V} {σ : gj_S} (hO : gj_O E X own cc nL rt fr lo) (hw : gj_lt own 188) {b1 : Int32} {b2 : Int32}  {idx : Nat} {x : Int32} {y : gj_S} (hf : f_X9_unit b1 b2 σ = some (x, y)) (hl : Cond.methodLink own idx yX9_unit ∈ gj_gw) (hf1 : 6 ≤ fr) (hf2 : 130 ≤ lo) (hcat : ((st.map (gj_tv E.2.1)).map fun v => v.category).sum ≤ 8) (hd : decode cc pc = .ok (.invokevirtual idx, 3)) (k : gj_H E X nL ce sl Q (pc + 3) lv ((gj_i x) :: st) y) : gj_H E X nL ce sl Q pc lv (gj_i b2 :: gj_i b1 :: gj_r 188 :: st) σ :=
  gj_callV hO (o := 188) (vs := [gj_i b1, gj_i b2]) (m_X9_unit  hf) (gj_I9 hw) hl wk_931 wk_932 wk_629 wk_933 hw kd_188 (by decide) (ci := 9) rfl (n := 2) (by decide +kernel) rfl hf1 hf2 rfl hcat hd k
def fb_X9_range_l41 (b1 : Int32) (b2 : Int32) (b3 : Int32) (a10041 : (Int32 × Int32 × gj_S)) : Option ((Int32 × gj_S) ⊕ (Int32 × Int32 × gj_S)) := (if (999 : Int32) < a10041.2.1 then some (.inl (a10041.1, a10041.2.2)) else (if a10041.1 = (-1 : Int32) then ((if b2 = 0 then some a10041.2.1 else some ((999 : Int32) - a10041.2.1) : Option Int32).bind fun z14101 => (if gj_in ((8 : Int32) + b1) 180 then ((f_X9_isEnd (gj_sI a10041.2.2 198 (upd (a10041.2.2.1 198) (Int32.toNatClampNeg ((8 : Int32) + b1)) z14101))).bind fun x14103 => (if x14103.1 = 0 then some (.inr (a10041.1, (a10041.2.1 + 1), x14103.2)) else some (.inr (z14101, (a10041.2.1 + 1), x14103.2)))) else none)) else some (.inl (a10041.1, a10041.2.2))))
def f_X9_range (b1 : Int32) (b2 : Int32) (σ : gj_S) : Option (Int32 × gj_S) := ((f_X9_isRoute b1 (gj_sI σ 188 (upd (σ.1 188) 0 (0 : Int32)))).bind fun x1 => (if x1 = 0 then some ((-1 : Int32), (gj_sI σ 188 (upd (σ.1 188) 0 (0 : Int32)))) else ((f_X9_isEnd (gj_sI σ 188 (upd (σ.1 188) 0 (0 : Int32)))).bind fun x2 => (if x2.1 = 0 then some ((-2 : Int32), x2.2) else (if gj_in ((8 : Int32) + b1) 180 then ((gj_lp (fb_X9_range_l41 b1 b2 (x2.2.1 198 (Int32.toNatClampNeg ((8 : Int32) + b1)))) 5000 ((-1 : Int32), (0 : Int32), x2.2)).bind fun z4 => (if gj_in ((8 : Int32) + b1) 180 then some (z4.1, (gj_sI z4.2 198 (upd (z4.2.1 198) (Int32.toNatClampNeg ((8 : Int32) + b1)) (x2.2.1 198 (Int32.toNatClampNeg ((8 : Int32) + b1)))))) else none)) else none)))))
set_option maxHeartbeats 4000000 in
set_option maxRecDepth 100000 in
theorem sb_X9_range_l41 {E : gj_E} {X : gj_X} {r : Option gj_V} {τ : gj_S} (hO : gj_O E X RX9 cX9_range 7 (some .int) 5 106) {b1 : Int32} {b2 : Int32} {b3 : Int32} {a10041_0 : Int32} {a10041_1 : Int32} {a10041_2 : gj_S} {x : (Int32 × gj_S) ⊕ (Int32 × Int32 × gj_S)} (hf : fb_X9_range_l41 b1 b2 b3 (a10041_0, a10041_1, a10041_2) = some x) (K : gj_K (fun z4 => gj_G E X 7 r τ 100 [(0, gj_r 188), (1, gj_i b1), (3, gj_i b3), (4, gj_i z4.1)] [] z4.2) (fun a10041 => gj_G E X 7 r τ 41 [(0, gj_r 188), (1, gj_i b1), (2, gj_i b2), (3, gj_i b3), (4, gj_i a10041.1), (5, gj_i a10041.2.1)] [] a10041.2.2) x) : gj_G E X 7 r τ 41 [(0, gj_r 188), (1, gj_i b1), (2, gj_i b2), (3, gj_i b3), (4, gj_i a10041_0), (5, gj_i a10041_1)] [] a10041_2 := by
  unfold fb_X9_range_l41 at hf
  dsimp only at hf
  refine gj_iload hO 5 dX9_range_41 rfl ?_
  refine gj_sipush (v := 999) hO dX9_range_43 (by decide) ?_
  refine gj_icmp_gt (tgt := 100) hO dX9_range_46 (by decide) (fun h => ?_) (fun h => ?_)
  · replace hf := gj_t h hf
    obtain rfl := Option.some.inj hf
    refine gj_sub (lv2 := [(0, gj_r 188), (1, gj_i b1), (3, gj_i b3), (4, gj_i a10041_0)]) [0, 1, 3, 4] rfl ?_
    exact K
  · replace hf := gj_f h hf
    refine gj_iload hO 4 dX9_range_49 rfl ?_
    refine gj_iconst (v := (-1)) hO dX9_range_51 (by decide) ?_
    refine gj_icmp_ne (tgt := 100) hO dX9_range_52 (by decide) (fun h => ?_) (fun h => ?_)
    · replace hf := gj_f h hf
      obtain rfl := Option.some.inj hf
      refine gj_sub (lv2 := [(0, gj_r 188), (1, gj_i b1), (3, gj_i b3), (4, gj_i a10041_0)]) [0, 1, 3, 4] rfl ?_
      exact K
    · replace hf := gj_t h hf
      refine gj_iload_n hO 2 dX9_range_55 rfl rfl ?_
      obtain ⟨z14101, hz14101, hf⟩ := gj_b hf
      have J14101 : gj_G E X 7 r τ 70 [(0, gj_r 188), (1, gj_i b1), (2, gj_i b2), (3, gj_i b3), (4, gj_i a10041_0), (5, gj_i a10041_1)] [gj_i z14101] a10041_2 := by
        refine gj_istore (lv2 := [(6, gj_i z14101), (0, gj_r 188), (1, gj_i b1), (2, gj_i b2), (3, gj_i b3), (4, gj_i a10041_0), (5, gj_i a10041_1)]) hO dX9_range_70 (by decide) rfl ?_
        refine gj_aload_n hO 1 dX9_range_72 rfl rfl ?_
        refine gt_X9_21 hO wk_725 dX9_range_73 ?_
        refine gj_bipush (v := 8) hO dX9_range_76 (by decide) ?_
        refine gj_iload_n hO 2 dX9_range_78 rfl rfl ?_
        refine gj_iadd hO dX9_range_79 ?_
        refine gj_iload hO 0 dX9_range_80 rfl ?_
        obtain ⟨hb14102, hf⟩ := gj_c hf
        refine gj_iast hO kl_198 kd_198 hb14102 dX9_range_82 ?_
        refine gj_aload_n hO 1 dX9_range_83 rfl rfl ?_
        obtain ⟨⟨x14103_v, x14103_s⟩, hc14103, hf⟩ := gj_b hf
        dsimp only at hf
        refine ca_X9_isEnd hO kl_188  hc14103 wk_885 (by decide) (by decide) (Nat.le_of_ble_eq_true rfl) dX9_range_84 ?_
        refine gj_if_eq (tgt := 94) hO dX9_range_87 (by decide) (fun h => ?_) (fun h => ?_)
        · replace hf := gj_t h hf
          refine gj_iinc (v := (a10041_1 + 1)) (lv2 := [(5, gj_i (a10041_1 + 1)), (6, gj_i z14101), (0, gj_r 188), (1, gj_i b1), (2, gj_i b2), (3, gj_i b3), (4, gj_i a10041_0)]) hO 6 dX9_range_94 rfl rfl (by decide) rfl ?_
          refine gj_goto (tgt := 41) hO dX9_range_97 (by decide) ?_
          obtain rfl := Option.some.inj hf
          refine gj_sub (lv2 := [(0, gj_r 188), (1, gj_i b1), (2, gj_i b2), (3, gj_i b3), (4, gj_i a10041_0), (5, gj_i (a10041_1 + 1))]) [2, 3, 4, 5, 6, 0] rfl ?_
          exact K
        · replace hf := gj_f h hf
          refine gj_iload hO 0 dX9_range_90 rfl ?_
          refine gj_istore (lv2 := [(4, gj_i z14101), (6, gj_i z14101), (0, gj_r 188), (1, gj_i b1), (2, gj_i b2), (3, gj_i b3), (5, gj_i a10041_1)]) hO dX9_range_92 (by decide) rfl ?_
          refine gj_iinc (v := (a10041_1 + 1)) (lv2 := [(5, gj_i (a10041_1 + 1)), (4, gj_i z14101), (6, gj_i z14101), (0, gj_r 188), (1, gj_i b1), (2, gj_i b2), (3, gj_i b3)]) hO 6 dX9_range_94 rfl rfl (by decide) rfl ?_
          refine gj_goto (tgt := 41) hO dX9_range_97 (by decide) ?_
          obtain rfl := Option.some.inj hf
          refine gj_sub (lv2 := [(0, gj_r 188), (1, gj_i b1), (2, gj_i b2), (3, gj_i b3), (4, gj_i z14101), (5, gj_i (a10041_1 + 1))]) [3, 4, 5, 6, 1, 0] rfl ?_
          exact K
      refine gj_if_eq (tgt := 68) hO dX9_range_56 (by decide) (fun h => ?_) (fun h => ?_)
      · replace hz14101 := gj_t h hz14101
        refine gj_iload hO 5 dX9_range_68 rfl ?_
        obtain rfl := Option.some.inj hz14101
        refine gj_sub (lv2 := [(0, gj_r 188), (1, gj_i b1), (2, gj_i b2), (3, gj_i b3), (4, gj_i a10041_0), (5, gj_i a10041_1)]) [0, 1, 2, 3, 4, 5] rfl ?_
        exact J14101
      · replace hz14101 := gj_f h hz14101
        refine gj_sipush (v := 999) hO dX9_range_59 (by decide) ?_
        refine gj_iload hO 5 dX9_range_62 rfl ?_
        refine gj_isub hO dX9_range_64 ?_
        refine gj_goto (tgt := 70) hO dX9_range_65 (by decide) ?_
        obtain rfl := Option.some.inj hz14101
        refine gj_sub (lv2 := [(0, gj_r 188), (1, gj_i b1), (2, gj_i b2), (3, gj_i b3), (4, gj_i a10041_0), (5, gj_i a10041_1)]) [0, 1, 2, 3, 4, 5] rfl ?_
        exact J14101
set_option maxHeartbeats 4000000 in
set_option maxRecDepth 100000 in
theorem m_X9_range {E : gj_E} {σ : gj_S} {b1 : Int32} {b2 : Int32}  {x : Int32} {y : gj_S} (hf : f_X9_range b1 b2 σ = some (x, y)) : gj_M E yX9_range cX9_range 7 (some .int) 5 106 [gj_r 188, gj_i b1, gj_i b2] σ (some (gj_i x)) y := by
  refine gj_body (lv := [(0, gj_r 188), (1, gj_i b1), (2, gj_i b2)]) (by decide +kernel) (Nat.le_of_ble_eq_true rfl) rfl (fun X hO => ?_)
  replace hO : gj_O E X RX9 cX9_range 7 (some .int) 5 106 := hO
  unfold f_X9_range at hf
  refine gj_aload_n hO 0 dX9_range_0 rfl rfl ?_
  refine gj_iconst (v := 0) hO dX9_range_1 (by decide) ?_
  refine pt_X9_0 hO wk_636 dX9_range_2 ?_
  refine gj_aload_n hO 0 dX9_range_5 rfl rfl ?_
  refine gj_iload_n hO 1 dX9_range_6 rfl rfl ?_
  obtain ⟨x1, hc1, hf⟩ := gj_b hf
  refine ca_X9_isRoute hO kl_188  hc1 wk_934 (by decide) (by decide) (Nat.le_of_ble_eq_true rfl) dX9_range_7 ?_
  refine gj_if_ne (tgt := 15) hO dX9_range_10 (by decide) (fun h => ?_) (fun h => ?_)
  · replace hf := gj_f h hf
    refine gj_aload_n hO 0 dX9_range_15 rfl rfl ?_
    obtain ⟨⟨x2_v, x2_s⟩, hc2, hf⟩ := gj_b hf
    dsimp only at hf
    refine ca_X9_isEnd hO kl_188  hc2 wk_885 (by decide) (by decide) (Nat.le_of_ble_eq_true rfl) dX9_range_16 ?_
    refine gj_if_ne (tgt := 25) hO dX9_range_19 (by decide) (fun h => ?_) (fun h => ?_)
    · replace hf := gj_f h hf
      refine gj_aload_n hO 0 dX9_range_25 rfl rfl ?_
      refine gt_X9_21 hO wk_725 dX9_range_26 ?_
      refine gj_bipush (v := 8) hO dX9_range_29 (by decide) ?_
      refine gj_iload_n hO 1 dX9_range_31 rfl rfl ?_
      refine gj_iadd hO dX9_range_32 ?_
      obtain ⟨hb3, hf⟩ := gj_c hf
      refine gj_iald hO kl_198 kd_198 hb3 dX9_range_33 ?_
      refine gj_istore_n (lv2 := [(3, gj_i (x2_s.1 198 (Int32.toNatClampNeg ((8 : Int32) + b1)))), (0, gj_r 188), (1, gj_i b1), (2, gj_i b2)]) hO dX9_range_34 rfl (by decide) rfl ?_
      refine gj_iconst (v := (-1)) hO dX9_range_35 (by decide) ?_
      refine gj_istore (lv2 := [(4, gj_i (-1 : Int32)), (3, gj_i (x2_s.1 198 (Int32.toNatClampNeg ((8 : Int32) + b1)))), (0, gj_r 188), (1, gj_i b1), (2, gj_i b2)]) hO dX9_range_36 (by decide) rfl ?_
      refine gj_iconst (v := 0) hO dX9_range_38 (by decide) ?_
      refine gj_istore (lv2 := [(5, gj_i (0 : Int32)), (4, gj_i (-1 : Int32)), (3, gj_i (x2_s.1 198 (Int32.toNatClampNeg ((8 : Int32) + b1)))), (0, gj_r 188), (1, gj_i b1), (2, gj_i b2)]) hO dX9_range_39 (by decide) rfl ?_
      obtain ⟨⟨z4_0, z4_1⟩, hz4, hf⟩ := gj_b hf
      dsimp only at hf
      have J4 : gj_G E X 7 (some (gj_i x)) y 100 [(0, gj_r 188), (1, gj_i b1), (3, gj_i (x2_s.1 198 (Int32.toNatClampNeg ((8 : Int32) + b1)))), (4, gj_i z4_0)] [] z4_1 := by
        refine gj_aload_n hO 0 dX9_range_100 rfl rfl ?_
        refine gt_X9_21 hO wk_725 dX9_range_101 ?_
        refine gj_bipush (v := 8) hO dX9_range_104 (by decide) ?_
        refine gj_iload_n hO 1 dX9_range_106 rfl rfl ?_
        refine gj_iadd hO dX9_range_107 ?_
        refine gj_iload_n hO 2 dX9_range_108 rfl rfl ?_
        obtain ⟨hb5, hf⟩ := gj_c hf
        refine gj_iast hO kl_198 kd_198 hb5 dX9_range_109 ?_
        refine gj_iload hO 3 dX9_range_110 rfl ?_
        replace hf := Option.some.inj hf
        simp only [Prod.mk.injEq] at hf
        obtain ⟨rfl, rfl⟩ := hf
        exact gj_iret hO dX9_range_112
      refine gj_sub (lv2 := [(0, gj_r 188), (1, gj_i b1), (2, gj_i b2), (3, gj_i (x2_s.1 198 (Int32.toNatClampNeg ((8 : Int32) + b1)))), (4, gj_i (-1 : Int32)), (5, gj_i (0 : Int32))]) [3, 4, 5, 2, 1, 0] rfl ?_
      exact gj_loop (head := fun a10041 => gj_G E X 7 (some (gj_i x)) y 41 [(0, gj_r 188), (1, gj_i b1), (2, gj_i b2), (3, gj_i (x2_s.1 198 (Int32.toNatClampNeg ((8 : Int32) + b1)))), (4, gj_i a10041.1), (5, gj_i a10041.2.1)] [] a10041.2.2) (exit := fun z4 => gj_G E X 7 (some (gj_i x)) y 100 [(0, gj_r 188), (1, gj_i b1), (3, gj_i (x2_s.1 198 (Int32.toNatClampNeg ((8 : Int32) + b1)))), (4, gj_i z4.1)] [] z4.2) (fun a10041 x hf K => by obtain ⟨a10041_0, a10041_1, a10041_2⟩ := a10041; exact sb_X9_range_l41 hO hf K) _ _ _ hz4 J4
    · replace hf := gj_t h hf
      refine gj_bipush (v := (-2)) hO dX9_range_22 (by decide) ?_
      replace hf := Option.some.inj hf
      simp only [Prod.mk.injEq] at hf
      obtain ⟨rfl, rfl⟩ := hf
      exact gj_iret hO dX9_range_24
  · replace hf := gj_t h hf
    refine gj_iconst (v := (-1)) hO dX9_range_13 (by decide) ?_
    replace hf := Option.some.inj hf
    simp only [Prod.mk.injEq] at hf
    obtain ⟨rfl, rfl⟩ := hf
    exact gj_iret hO dX9_range_14
set_option maxHeartbeats 4000000 in
set_option maxRecDepth 100000 in
theorem ca_X9_range {E : gj_E} {X : gj_X} {own : String} {cc : ByteArray} {nL : Nat} {rt : Option FieldType} {fr lo : Nat} {ce sl : Nat} {Q : State → Prop} {pc : Nat} {lv : List (Nat × gj_V)} {st : List gj_V} {σ : gj_S} (hO : gj_O E X own cc nL rt fr lo) (hw : gj_lt own 188) {b1 : Int32} {b2 : Int32}  {idx : Nat} {x : Int32} {y : gj_S} (hf : f_X9_range b1 b2 σ = some (x, y)) (hl : Cond.methodLink own idx yX9_range ∈ gj_gw) (hf1 : 6 ≤ fr) (hf2 : 132 ≤ lo) (hcat : ((st.map (gj_tv E.2.1)).map fun v => v.category).sum ≤ 8) (hd : decode cc pc = .ok (.invokevirtual idx, 3)) (k : gj_H E X nL ce sl Q (pc + 3) lv ((gj_i x) :: st) y) : gj_H E X nL ce sl Q pc lv (gj_i b2 :: gj_i b1 :: gj_r 188 :: st) σ :=
  gj_callV hO (o := 188) (vs := [gj_i b1, gj_i b2]) (m_X9_range  hf) (gj_I9 hw) hl wk_935 wk_936 wk_629 wk_937 hw kd_188 (by decide) (ci := 9) rfl (n := 2) (by decide +kernel) rfl hf1 hf2 rfl hcat hd k
def fb_X9_tried_l72 (b1 : Int32) (b2 : Int32) (b3 : Int32) (b4 : Int32) (a10072 : (Int32 × gj_S)) : Option (gj_S ⊕ (Int32 × gj_S)) := (if (180 : Int32) ≤ a10072.1 then some (.inl a10072.2) else (if gj_in a10072.1 180 then (if gj_in a10072.1 180 then some (.inr ((a10072.1 + 1), (gj_sI a10072.2 202 (upd (a10072.2.1 202) (Int32.toNatClampNeg a10072.1) (a10072.2.1 198 (Int32.toNatClampNeg a10072.1)))))) else none) else none))
def fb_X9_tried_l135 (b4 : Int32) (a10135 : (Int32 × gj_S)) : Option (gj_S ⊕ (Int32 × gj_S)) := (if a10135.1 = 0 then some (.inl a10135.2) else ((f_X9_pivot a10135.2).bind fun x23501 => (if x23501.1 = (-1 : Int32) then some (.inr ((0 : Int32), x23501.2)) else some (.inr ((1 : Int32), x23501.2)))))
def fb_X9_tried_l179 (b6 : Int32) (a10179 : (Int32 × gj_S)) : Option (gj_S ⊕ (Int32 × gj_S)) := (if (180 : Int32) ≤ a10179.1 then some (.inl a10179.2) else (if gj_in a10179.1 180 then (if gj_in a10179.1 180 then some (.inr ((a10179.1 + 1), (gj_sI a10179.2 198 (upd (a10179.2.1 198) (Int32.toNatClampNeg a10179.1) (a10179.2.1 202 (Int32.toNatClampNeg a10179.1)))))) else none) else none))
def f_X9_tried (b1 : Int32) (b2 : Int32) (b3 : Int32) (b4 : Int32) (σ : gj_S) : Option (Int32 × gj_S) := ((f_X9_within (Int32.toInt64 b1) (0 : Int64) (2 : Int64)).bind fun x1 => (if x1 = 0 then some ((-1 : Int32), (gj_sI σ 188 (upd (σ.1 188) 0 (0 : Int32)))) else (if (2 : Int32) ≤ b1 then ((f_X9_isDock b2 (gj_sI σ 188 (upd (σ.1 188) 0 (0 : Int32)))).bind fun x2 => (if x2 = 0 then some ((-1 : Int32), (gj_sI σ 188 (upd (σ.1 188) 0 (0 : Int32)))) else ((f_X9_within (Int32.toInt64 b3) (-999 : Int64) (999 : Int64)).bind fun x3 => (if x3 = 0 then some ((-1 : Int32), (gj_sI σ 188 (upd (σ.1 188) 0 (0 : Int32)))) else ((gj_lp (fb_X9_tried_l72 b1 b2 b3 b4) 5000 ((0 : Int32), (gj_sI σ 188 (upd (σ.1 188) 0 (0 : Int32))))).bind fun z4 => ((if b1 = 0 then some (8 : Int32) else (if b1 = (1 : Int32) then some (24 : Int32) else some (0 : Int32)) : Option Int32).bind fun z5 => (if gj_in (z5 + b2) 180 then ((f_X9_begins (gj_sI z4 198 (upd (z4.1 198) (Int32.toNatClampNeg (z5 + b2)) b3))).bind fun x7 => ((gj_lp (fb_X9_tried_l135 b4) 1000000000000 ((1 : Int32), x7)).bind fun z8 => ((if b4 = 0 then ((f_X9_costNow z8).bind fun x10 => some x10) else ((f_X9_allLack z8).bind fun x11 => some x11) : Option Int32).bind fun z9 => ((gj_lp (fb_X9_tried_l179 z9) 5000 ((0 : Int32), z8)).bind fun z12 => some (z9, z12))))) else none))))))) else ((f_X9_isRoute b2 (gj_sI σ 188 (upd (σ.1 188) 0 (0 : Int32)))).bind fun x13 => (if x13 = 0 then some ((-1 : Int32), (gj_sI σ 188 (upd (σ.1 188) 0 (0 : Int32)))) else ((f_X9_within (Int32.toInt64 b3) (0 : Int64) (999 : Int64)).bind fun x14 => (if x14 = 0 then some ((-1 : Int32), (gj_sI σ 188 (upd (σ.1 188) 0 (0 : Int32)))) else ((gj_lp (fb_X9_tried_l72 b1 b2 b3 b4) 5000 ((0 : Int32), (gj_sI σ 188 (upd (σ.1 188) 0 (0 : Int32))))).bind fun z15 => ((if b1 = 0 then some (8 : Int32) else (if b1 = (1 : Int32) then some (24 : Int32) else some (0 : Int32)) : Option Int32).bind fun z16 => (if gj_in (z16 + b2) 180 then ((f_X9_begins (gj_sI z15 198 (upd (z15.1 198) (Int32.toNatClampNeg (z16 + b2)) b3))).bind fun x18 => ((gj_lp (fb_X9_tried_l135 b4) 1000000000000 ((1 : Int32), x18)).bind fun z19 => ((if b4 = 0 then ((f_X9_costNow z19).bind fun x21 => some x21) else ((f_X9_allLack z19).bind fun x22 => some x22) : Option Int32).bind fun z20 => ((gj_lp (fb_X9_tried_l179 z20) 5000 ((0 : Int32), z19)).bind fun z23 => some (z20, z23))))) else none))))))))))
set_option maxHeartbeats 4000000 in
set_option maxRecDepth 100000 in
theorem sb_X9_tried_l72 {E : gj_E} {X : gj_X} {r : Option gj_V} {τ : gj_S} (hO : gj_O E X RX9 cX9_tried 8 (some .int) 5 117) {b1 : Int32} {b2 : Int32} {b3 : Int32} {b4 : Int32} {a10072_0 : Int32} {a10072_1 : gj_S} {x : gj_S ⊕ (Int32 × gj_S)} (hf : fb_X9_tried_l72 b1 b2 b3 b4 (a10072_0, a10072_1) = some x) (K : gj_K (fun z4 => gj_G E X 8 r τ 100 [(0, gj_r 188), (1, gj_i b1), (2, gj_i b2), (3, gj_i b3), (4, gj_i b4)] [] z4) (fun a10072 => gj_G E X 8 r τ 72 [(0, gj_r 188), (1, gj_i b1), (2, gj_i b2), (3, gj_i b3), (4, gj_i b4), (5, gj_i a10072.1)] [] a10072.2) x) : gj_G E X 8 r τ 72 [(0, gj_r 188), (1, gj_i b1), (2, gj_i b2), (3, gj_i b3), (4, gj_i b4), (5, gj_i a10072_0)] [] a10072_1 := by
  unfold fb_X9_tried_l72 at hf
  dsimp only at hf
  refine gj_iload hO 5 dX9_tried_72 rfl ?_
  refine gj_sipush (v := 180) hO dX9_tried_74 (by decide) ?_
  refine gj_icmp_ge (tgt := 100) hO dX9_tried_77 (by decide) (fun h => ?_) (fun h => ?_)
  · replace hf := gj_t h hf
    obtain rfl := Option.some.inj hf
    refine gj_sub (lv2 := [(0, gj_r 188), (1, gj_i b1), (2, gj_i b2), (3, gj_i b3), (4, gj_i b4)]) [0, 1, 2, 3, 4] rfl ?_
    exact K
  · replace hf := gj_f h hf
    refine gj_aload_n hO 0 dX9_tried_80 rfl rfl ?_
    refine gt_X9_26 hO wk_940 dX9_tried_81 ?_
    refine gj_iload hO 5 dX9_tried_84 rfl ?_
    refine gj_aload_n hO 0 dX9_tried_86 rfl rfl ?_
    refine gt_X9_21 hO wk_725 dX9_tried_87 ?_
    refine gj_iload hO 5 dX9_tried_90 rfl ?_
    obtain ⟨hb17201, hf⟩ := gj_c hf
    refine gj_iald hO kl_198 kd_198 hb17201 dX9_tried_92 ?_
    obtain ⟨hb17202, hf⟩ := gj_c hf
    refine gj_iast hO kl_202 kd_202 hb17202 dX9_tried_93 ?_
    refine gj_iinc (v := (a10072_0 + 1)) (lv2 := [(5, gj_i (a10072_0 + 1)), (0, gj_r 188), (1, gj_i b1), (2, gj_i b2), (3, gj_i b3), (4, gj_i b4)]) hO 5 dX9_tried_94 rfl rfl (by decide) rfl ?_
    refine gj_goto (tgt := 72) hO dX9_tried_97 (by decide) ?_
    obtain rfl := Option.some.inj hf
    refine gj_sub (lv2 := [(0, gj_r 188), (1, gj_i b1), (2, gj_i b2), (3, gj_i b3), (4, gj_i b4), (5, gj_i (a10072_0 + 1))]) [1, 2, 3, 4, 5, 0] rfl ?_
    exact K
set_option maxHeartbeats 4000000 in
set_option maxRecDepth 100000 in
theorem sb_X9_tried_l135 {E : gj_E} {X : gj_X} {r : Option gj_V} {τ : gj_S} (hO : gj_O E X RX9 cX9_tried 8 (some .int) 5 117) {b4 : Int32} {a10135_0 : Int32} {a10135_1 : gj_S} {x : gj_S ⊕ (Int32 × gj_S)} (hf : fb_X9_tried_l135 b4 (a10135_0, a10135_1) = some x) (K : gj_K (fun z8 => gj_G E X 8 r τ 158 [(0, gj_r 188), (4, gj_i b4)] [] z8) (fun a10135 => gj_G E X 8 r τ 135 [(0, gj_r 188), (4, gj_i b4), (5, gj_i a10135.1)] [] a10135.2) x) : gj_G E X 8 r τ 135 [(0, gj_r 188), (4, gj_i b4), (5, gj_i a10135_0)] [] a10135_1 := by
  unfold fb_X9_tried_l135 at hf
  dsimp only at hf
  refine gj_iload hO 2 dX9_tried_135 rfl ?_
  refine gj_if_eq (tgt := 158) hO dX9_tried_137 (by decide) (fun h => ?_) (fun h => ?_)
  · replace hf := gj_t h hf
    obtain rfl := Option.some.inj hf
    refine gj_sub (lv2 := [(0, gj_r 188), (4, gj_i b4)]) [0, 1] rfl ?_
    exact K
  · replace hf := gj_f h hf
    refine gj_aload_n hO 0 dX9_tried_140 rfl rfl ?_
    obtain ⟨⟨x23501_v, x23501_s⟩, hc23501, hf⟩ := gj_b hf
    dsimp only at hf
    refine ca_X9_pivot hO kl_188  hc23501 wk_887 (by decide) (by decide) (Nat.le_of_ble_eq_true rfl) dX9_tried_141 ?_
    refine gj_iconst (v := (-1)) hO dX9_tried_144 (by decide) ?_
    refine gj_icmp_eq (tgt := 152) hO dX9_tried_145 (by decide) (fun h => ?_) (fun h => ?_)
    · replace hf := gj_t h hf
      refine gj_iconst (v := 0) hO dX9_tried_152 (by decide) ?_
      refine gj_istore (lv2 := [(5, gj_i (0 : Int32)), (0, gj_r 188), (4, gj_i b4)]) hO dX9_tried_153 (by decide) rfl ?_
      refine gj_goto (tgt := 135) hO dX9_tried_155 (by decide) ?_
      obtain rfl := Option.some.inj hf
      refine gj_sub (lv2 := [(0, gj_r 188), (4, gj_i b4), (5, gj_i (0 : Int32))]) [1, 2, 0] rfl ?_
      exact K
    · replace hf := gj_f h hf
      refine gj_iconst (v := 1) hO dX9_tried_148 (by decide) ?_
      refine gj_goto (tgt := 153) hO dX9_tried_149 (by decide) ?_
      refine gj_istore (lv2 := [(5, gj_i (1 : Int32)), (0, gj_r 188), (4, gj_i b4)]) hO dX9_tried_153 (by decide) rfl ?_
      refine gj_goto (tgt := 135) hO dX9_tried_155 (by decide) ?_
      obtain rfl := Option.some.inj hf
      refine gj_sub (lv2 := [(0, gj_r 188), (4, gj_i b4), (5, gj_i (1 : Int32))]) [1, 2, 0] rfl ?_
      exact K
set_option maxHeartbeats 4000000 in
set_option maxRecDepth 100000 in
theorem sb_X9_tried_l179 {E : gj_E} {X : gj_X} {r : Option gj_V} {τ : gj_S} (hO : gj_O E X RX9 cX9_tried 8 (some .int) 5 117) {b6 : Int32} {a10179_0 : Int32} {a10179_1 : gj_S} {x : gj_S ⊕ (Int32 × gj_S)} (hf : fb_X9_tried_l179 b6 (a10179_0, a10179_1) = some x) (K : gj_K (fun z12 => gj_G E X 8 r τ 207 [(6, gj_i b6)] [] z12) (fun a10179 => gj_G E X 8 r τ 179 [(0, gj_r 188), (6, gj_i b6), (7, gj_i a10179.1)] [] a10179.2) x) : gj_G E X 8 r τ 179 [(0, gj_r 188), (6, gj_i b6), (7, gj_i a10179_0)] [] a10179_1 := by
  unfold fb_X9_tried_l179 at hf
  dsimp only at hf
  refine gj_iload hO 2 dX9_tried_179 rfl ?_
  refine gj_sipush (v := 180) hO dX9_tried_181 (by decide) ?_
  refine gj_icmp_ge (tgt := 207) hO dX9_tried_184 (by decide) (fun h => ?_) (fun h => ?_)
  · replace hf := gj_t h hf
    obtain rfl := Option.some.inj hf
    refine gj_sub (lv2 := [(6, gj_i b6)]) [1] rfl ?_
    exact K
  · replace hf := gj_f h hf
    refine gj_aload_n hO 0 dX9_tried_187 rfl rfl ?_
    refine gt_X9_21 hO wk_725 dX9_tried_188 ?_
    refine gj_iload hO 2 dX9_tried_191 rfl ?_
    refine gj_aload_n hO 0 dX9_tried_193 rfl rfl ?_
    refine gt_X9_26 hO wk_940 dX9_tried_194 ?_
    refine gj_iload hO 2 dX9_tried_197 rfl ?_
    obtain ⟨hb27901, hf⟩ := gj_c hf
    refine gj_iald hO kl_202 kd_202 hb27901 dX9_tried_199 ?_
    obtain ⟨hb27902, hf⟩ := gj_c hf
    refine gj_iast hO kl_198 kd_198 hb27902 dX9_tried_200 ?_
    refine gj_iinc (v := (a10179_0 + 1)) (lv2 := [(7, gj_i (a10179_0 + 1)), (0, gj_r 188), (6, gj_i b6)]) hO 2 dX9_tried_201 rfl rfl (by decide) rfl ?_
    refine gj_goto (tgt := 179) hO dX9_tried_204 (by decide) ?_
    obtain rfl := Option.some.inj hf
    refine gj_sub (lv2 := [(0, gj_r 188), (6, gj_i b6), (7, gj_i (a10179_0 + 1))]) [1, 2, 0] rfl ?_
    exact K
set_option maxHeartbeats 4000000 in
set_option maxRecDepth 100000 in
theorem m_X9_tried {E : gj_E} {σ : gj_S} {b1 : Int32} {b2 : Int32} {b3 : Int32} {b4 : Int32}  {x : Int32} {y : gj_S} (hf : f_X9_tried b1 b2 b3 b4 σ = some (x, y)) : gj_M E yX9_tried cX9_tried 8 (some .int) 5 117 [gj_r 188, gj_i b1, gj_i b2, gj_i b3, gj_i b4] σ (some (gj_i x)) y := by
  refine gj_body (lv := [(0, gj_r 188), (1, gj_i b1), (2, gj_i b2), (3, gj_i b3), (4, gj_i b4)]) (by decide +kernel) (Nat.le_of_ble_eq_true rfl) rfl (fun X hO => ?_)
  replace hO : gj_O E X RX9 cX9_tried 8 (some .int) 5 117 := hO
  unfold f_X9_tried at hf
  refine gj_aload_n hO 0 dX9_tried_0 rfl rfl ?_
  refine gj_iconst (v := 0) hO dX9_tried_1 (by decide) ?_
  refine pt_X9_0 hO wk_636 dX9_tried_2 ?_
  refine gj_iload_n hO 1 dX9_tried_5 rfl rfl ?_
  refine gj_i2l hO dX9_tried_6 ?_
  refine gj_lconst (v := 0) hO dX9_tried_7 (by decide) ?_
  refine gj_ldc2 hO wk_862 dX9_tried_8 ?_
  obtain ⟨x1, hc1, hf⟩ := gj_b hf
  refine ca_X9_within hO kl_188  hc1 wk_653 (by decide) (by decide) (Nat.le_of_ble_eq_true rfl) dX9_tried_11 ?_
  refine gj_if_eq (tgt := 67) hO dX9_tried_14 (by decide) (fun h => ?_) (fun h => ?_)
  · replace hf := gj_t h hf
    refine gj_iconst (v := (-1)) hO dX9_tried_67 (by decide) ?_
    replace hf := Option.some.inj hf
    simp only [Prod.mk.injEq] at hf
    obtain ⟨rfl, rfl⟩ := hf
    exact gj_iret hO dX9_tried_68
  · replace hf := gj_f h hf
    refine gj_iload_n hO 1 dX9_tried_17 rfl rfl ?_
    refine gj_iconst (v := 2) hO dX9_tried_18 (by decide) ?_
    refine gj_icmp_ge (tgt := 45) hO dX9_tried_19 (by decide) (fun h => ?_) (fun h => ?_)
    · replace hf := gj_t h hf
      refine gj_aload_n hO 0 dX9_tried_45 rfl rfl ?_
      refine gj_iload_n hO 2 dX9_tried_46 rfl rfl ?_
      obtain ⟨x2, hc2, hf⟩ := gj_b hf
      refine ca_X9_isDock hO kl_188  hc2 wk_807 (by decide) (by decide) (Nat.le_of_ble_eq_true rfl) dX9_tried_47 ?_
      refine gj_if_eq (tgt := 67) hO dX9_tried_50 (by decide) (fun h => ?_) (fun h => ?_)
      · replace hf := gj_t h hf
        refine gj_iconst (v := (-1)) hO dX9_tried_67 (by decide) ?_
        replace hf := Option.some.inj hf
        simp only [Prod.mk.injEq] at hf
        obtain ⟨rfl, rfl⟩ := hf
        exact gj_iret hO dX9_tried_68
      · replace hf := gj_f h hf
        refine gj_iload_n hO 3 dX9_tried_53 rfl rfl ?_
        refine gj_i2l hO dX9_tried_54 ?_
        refine gj_ldc2 hO wk_938 dX9_tried_55 ?_
        refine gj_ldc2 hO wk_939 dX9_tried_58 ?_
        obtain ⟨x3, hc3, hf⟩ := gj_b hf
        refine ca_X9_within hO kl_188  hc3 wk_653 (by decide) (by decide) (Nat.le_of_ble_eq_true rfl) dX9_tried_61 ?_
        refine gj_if_ne (tgt := 69) hO dX9_tried_64 (by decide) (fun h => ?_) (fun h => ?_)
        · replace hf := gj_f h hf
          refine gj_iconst (v := 0) hO dX9_tried_69 (by decide) ?_
          refine gj_istore (lv2 := [(5, gj_i (0 : Int32)), (0, gj_r 188), (1, gj_i b1), (2, gj_i b2), (3, gj_i b3), (4, gj_i b4)]) hO dX9_tried_70 (by decide) rfl ?_
          obtain ⟨z4, hz4, hf⟩ := gj_b hf
          have J4 : gj_G E X 8 (some (gj_i x)) y 100 [(0, gj_r 188), (1, gj_i b1), (2, gj_i b2), (3, gj_i b3), (4, gj_i b4)] [] z4 := by
            refine gj_aload_n hO 0 dX9_tried_100 rfl rfl ?_
            refine gt_X9_21 hO wk_725 dX9_tried_101 ?_
            refine gj_iload_n hO 1 dX9_tried_104 rfl rfl ?_
            obtain ⟨z5, hz5, hf⟩ := gj_b hf
            have J5 : gj_G E X 8 (some (gj_i x)) y 124 [(0, gj_r 188), (2, gj_i b2), (3, gj_i b3), (4, gj_i b4)] [gj_i z5, gj_r 198] z4 := by
              refine gj_iload_n hO 1 dX9_tried_124 rfl rfl ?_
              refine gj_iadd hO dX9_tried_125 ?_
              refine gj_iload_n hO 2 dX9_tried_126 rfl rfl ?_
              obtain ⟨hb6, hf⟩ := gj_c hf
              refine gj_iast hO kl_198 kd_198 hb6 dX9_tried_127 ?_
              refine gj_aload_n hO 0 dX9_tried_128 rfl rfl ?_
              obtain ⟨x7, hc7, hf⟩ := gj_b hf
              refine ca_X9_begins hO kl_188  hc7 wk_730 (by decide) (by decide) (Nat.le_of_ble_eq_true rfl) dX9_tried_129 ?_
              refine gj_iconst (v := 1) hO dX9_tried_132 (by decide) ?_
              refine gj_istore (lv2 := [(5, gj_i (1 : Int32)), (0, gj_r 188), (2, gj_i b2), (3, gj_i b3), (4, gj_i b4)]) hO dX9_tried_133 (by decide) rfl ?_
              obtain ⟨z8, hz8, hf⟩ := gj_b hf
              have J8 : gj_G E X 8 (some (gj_i x)) y 158 [(0, gj_r 188), (4, gj_i b4)] [] z8 := by
                refine gj_iload hO 1 dX9_tried_158 rfl ?_
                obtain ⟨z9, hz9, hf⟩ := gj_b hf
                have J9 : gj_G E X 8 (some (gj_i x)) y 174 [(0, gj_r 188)] [gj_i z9] z8 := by
                  refine gj_istore (lv2 := [(6, gj_i z9), (0, gj_r 188)]) hO dX9_tried_174 (by decide) rfl ?_
                  refine gj_iconst (v := 0) hO dX9_tried_176 (by decide) ?_
                  refine gj_istore (lv2 := [(7, gj_i (0 : Int32)), (6, gj_i z9), (0, gj_r 188)]) hO dX9_tried_177 (by decide) rfl ?_
                  obtain ⟨z12, hz12, hf⟩ := gj_b hf
                  have J12 : gj_G E X 8 (some (gj_i x)) y 207 [(6, gj_i z9)] [] z12 := by
                    refine gj_iload hO 0 dX9_tried_207 rfl ?_
                    replace hf := Option.some.inj hf
                    simp only [Prod.mk.injEq] at hf
                    obtain ⟨rfl, rfl⟩ := hf
                    exact gj_iret hO dX9_tried_209
                  refine gj_sub (lv2 := [(0, gj_r 188), (6, gj_i z9), (7, gj_i (0 : Int32))]) [2, 1, 0] rfl ?_
                  exact gj_loop (head := fun a10179 => gj_G E X 8 (some (gj_i x)) y 179 [(0, gj_r 188), (6, gj_i z9), (7, gj_i a10179.1)] [] a10179.2) (exit := fun z12 => gj_G E X 8 (some (gj_i x)) y 207 [(6, gj_i z9)] [] z12) (fun a10179 x hf K => by obtain ⟨a10179_0, a10179_1⟩ := a10179; exact sb_X9_tried_l179 hO hf K) _ _ _ hz12 J12
                refine gj_if_eq (tgt := 170) hO dX9_tried_160 (by decide) (fun h => ?_) (fun h => ?_)
                · replace hz9 := gj_t h hz9
                  refine gj_aload_n hO 0 dX9_tried_170 rfl rfl ?_
                  obtain ⟨x10, hc10, hz9⟩ := gj_b hz9
                  refine ca_X9_costNow hO kl_188  hc10 wk_902 (by decide) (by decide) (Nat.le_of_ble_eq_true rfl) dX9_tried_171 ?_
                  obtain rfl := Option.some.inj hz9
                  refine gj_sub (lv2 := [(0, gj_r 188)]) [0] rfl ?_
                  exact J9
                · replace hz9 := gj_f h hz9
                  refine gj_aload_n hO 0 dX9_tried_163 rfl rfl ?_
                  obtain ⟨x11, hc11, hz9⟩ := gj_b hz9
                  refine ca_X9_allLack hO kl_188  hc11 wk_941 (by decide) (by decide) (Nat.le_of_ble_eq_true rfl) dX9_tried_164 ?_
                  refine gj_goto (tgt := 174) hO dX9_tried_167 (by decide) ?_
                  obtain rfl := Option.some.inj hz9
                  refine gj_sub (lv2 := [(0, gj_r 188)]) [0] rfl ?_
                  exact J9
              refine gj_sub (lv2 := [(0, gj_r 188), (4, gj_i b4), (5, gj_i (1 : Int32))]) [1, 4, 0] rfl ?_
              exact gj_loop (head := fun a10135 => gj_G E X 8 (some (gj_i x)) y 135 [(0, gj_r 188), (4, gj_i b4), (5, gj_i a10135.1)] [] a10135.2) (exit := fun z8 => gj_G E X 8 (some (gj_i x)) y 158 [(0, gj_r 188), (4, gj_i b4)] [] z8) (fun a10135 x hf K => by obtain ⟨a10135_0, a10135_1⟩ := a10135; exact sb_X9_tried_l135 hO hf K) _ _ _ hz8 J8
            refine gj_if_ne (tgt := 113) hO dX9_tried_105 (by decide) (fun h => ?_) (fun h => ?_)
            · replace hz5 := gj_f h hz5
              refine gj_iload_n hO 1 dX9_tried_113 rfl rfl ?_
              refine gj_iconst (v := 1) hO dX9_tried_114 (by decide) ?_
              refine gj_icmp_ne (tgt := 123) hO dX9_tried_115 (by decide) (fun h => ?_) (fun h => ?_)
              · replace hz5 := gj_f h hz5
                refine gj_iconst (v := 0) hO dX9_tried_123 (by decide) ?_
                obtain rfl := Option.some.inj hz5
                refine gj_sub (lv2 := [(0, gj_r 188), (2, gj_i b2), (3, gj_i b3), (4, gj_i b4)]) [0, 2, 3, 4] rfl ?_
                exact J5
              · replace hz5 := gj_t h hz5
                refine gj_bipush (v := 24) hO dX9_tried_118 (by decide) ?_
                refine gj_goto (tgt := 124) hO dX9_tried_120 (by decide) ?_
                obtain rfl := Option.some.inj hz5
                refine gj_sub (lv2 := [(0, gj_r 188), (2, gj_i b2), (3, gj_i b3), (4, gj_i b4)]) [0, 2, 3, 4] rfl ?_
                exact J5
            · replace hz5 := gj_t h hz5
              refine gj_bipush (v := 8) hO dX9_tried_108 (by decide) ?_
              refine gj_goto (tgt := 124) hO dX9_tried_110 (by decide) ?_
              obtain rfl := Option.some.inj hz5
              refine gj_sub (lv2 := [(0, gj_r 188), (2, gj_i b2), (3, gj_i b3), (4, gj_i b4)]) [0, 2, 3, 4] rfl ?_
              exact J5
          refine gj_sub (lv2 := [(0, gj_r 188), (1, gj_i b1), (2, gj_i b2), (3, gj_i b3), (4, gj_i b4), (5, gj_i (0 : Int32))]) [1, 2, 3, 4, 5, 0] rfl ?_
          exact gj_loop (head := fun a10072 => gj_G E X 8 (some (gj_i x)) y 72 [(0, gj_r 188), (1, gj_i b1), (2, gj_i b2), (3, gj_i b3), (4, gj_i b4), (5, gj_i a10072.1)] [] a10072.2) (exit := fun z4 => gj_G E X 8 (some (gj_i x)) y 100 [(0, gj_r 188), (1, gj_i b1), (2, gj_i b2), (3, gj_i b3), (4, gj_i b4)] [] z4) (fun a10072 x hf K => by obtain ⟨a10072_0, a10072_1⟩ := a10072; exact sb_X9_tried_l72 hO hf K) _ _ _ hz4 J4
        · replace hf := gj_t h hf
          refine gj_iconst (v := (-1)) hO dX9_tried_67 (by decide) ?_
          replace hf := Option.some.inj hf
          simp only [Prod.mk.injEq] at hf
          obtain ⟨rfl, rfl⟩ := hf
          exact gj_iret hO dX9_tried_68
    · replace hf := gj_f h hf
      refine gj_aload_n hO 0 dX9_tried_22 rfl rfl ?_
      refine gj_iload_n hO 2 dX9_tried_23 rfl rfl ?_
      obtain ⟨x13, hc13, hf⟩ := gj_b hf
      refine ca_X9_isRoute hO kl_188  hc13 wk_934 (by decide) (by decide) (Nat.le_of_ble_eq_true rfl) dX9_tried_24 ?_
      refine gj_if_eq (tgt := 67) hO dX9_tried_27 (by decide) (fun h => ?_) (fun h => ?_)
      · replace hf := gj_t h hf
        refine gj_iconst (v := (-1)) hO dX9_tried_67 (by decide) ?_
        replace hf := Option.some.inj hf
        simp only [Prod.mk.injEq] at hf
        obtain ⟨rfl, rfl⟩ := hf
        exact gj_iret hO dX9_tried_68
      · replace hf := gj_f h hf
        refine gj_iload_n hO 3 dX9_tried_30 rfl rfl ?_
        refine gj_i2l hO dX9_tried_31 ?_
        refine gj_lconst (v := 0) hO dX9_tried_32 (by decide) ?_
        refine gj_ldc2 hO wk_939 dX9_tried_33 ?_
        obtain ⟨x14, hc14, hf⟩ := gj_b hf
        refine ca_X9_within hO kl_188  hc14 wk_653 (by decide) (by decide) (Nat.le_of_ble_eq_true rfl) dX9_tried_36 ?_
        refine gj_if_eq (tgt := 67) hO dX9_tried_39 (by decide) (fun h => ?_) (fun h => ?_)
        · replace hf := gj_t h hf
          refine gj_iconst (v := (-1)) hO dX9_tried_67 (by decide) ?_
          replace hf := Option.some.inj hf
          simp only [Prod.mk.injEq] at hf
          obtain ⟨rfl, rfl⟩ := hf
          exact gj_iret hO dX9_tried_68
        · replace hf := gj_f h hf
          refine gj_goto (tgt := 69) hO dX9_tried_42 (by decide) ?_
          refine gj_iconst (v := 0) hO dX9_tried_69 (by decide) ?_
          refine gj_istore (lv2 := [(5, gj_i (0 : Int32)), (0, gj_r 188), (1, gj_i b1), (2, gj_i b2), (3, gj_i b3), (4, gj_i b4)]) hO dX9_tried_70 (by decide) rfl ?_
          obtain ⟨z15, hz15, hf⟩ := gj_b hf
          have J15 : gj_G E X 8 (some (gj_i x)) y 100 [(0, gj_r 188), (1, gj_i b1), (2, gj_i b2), (3, gj_i b3), (4, gj_i b4)] [] z15 := by
            refine gj_aload_n hO 0 dX9_tried_100 rfl rfl ?_
            refine gt_X9_21 hO wk_725 dX9_tried_101 ?_
            refine gj_iload_n hO 1 dX9_tried_104 rfl rfl ?_
            obtain ⟨z16, hz16, hf⟩ := gj_b hf
            have J16 : gj_G E X 8 (some (gj_i x)) y 124 [(0, gj_r 188), (2, gj_i b2), (3, gj_i b3), (4, gj_i b4)] [gj_i z16, gj_r 198] z15 := by
              refine gj_iload_n hO 1 dX9_tried_124 rfl rfl ?_
              refine gj_iadd hO dX9_tried_125 ?_
              refine gj_iload_n hO 2 dX9_tried_126 rfl rfl ?_
              obtain ⟨hb17, hf⟩ := gj_c hf
              refine gj_iast hO kl_198 kd_198 hb17 dX9_tried_127 ?_
              refine gj_aload_n hO 0 dX9_tried_128 rfl rfl ?_
              obtain ⟨x18, hc18, hf⟩ := gj_b hf
              refine ca_X9_begins hO kl_188  hc18 wk_730 (by decide) (by decide) (Nat.le_of_ble_eq_true rfl) dX9_tried_129 ?_
              refine gj_iconst (v := 1) hO dX9_tried_132 (by decide) ?_
              refine gj_istore (lv2 := [(5, gj_i (1 : Int32)), (0, gj_r 188), (2, gj_i b2), (3, gj_i b3), (4, gj_i b4)]) hO dX9_tried_133 (by decide) rfl ?_
              obtain ⟨z19, hz19, hf⟩ := gj_b hf
              have J19 : gj_G E X 8 (some (gj_i x)) y 158 [(0, gj_r 188), (4, gj_i b4)] [] z19 := by
                refine gj_iload hO 1 dX9_tried_158 rfl ?_
                obtain ⟨z20, hz20, hf⟩ := gj_b hf
                have J20 : gj_G E X 8 (some (gj_i x)) y 174 [(0, gj_r 188)] [gj_i z20] z19 := by
                  refine gj_istore (lv2 := [(6, gj_i z20), (0, gj_r 188)]) hO dX9_tried_174 (by decide) rfl ?_
                  refine gj_iconst (v := 0) hO dX9_tried_176 (by decide) ?_
                  refine gj_istore (lv2 := [(7, gj_i (0 : Int32)), (6, gj_i z20), (0, gj_r 188)]) hO dX9_tried_177 (by decide) rfl ?_
                  obtain ⟨z23, hz23, hf⟩ := gj_b hf
                  have J23 : gj_G E X 8 (some (gj_i x)) y 207 [(6, gj_i z20)] [] z23 := by
                    refine gj_iload hO 0 dX9_tried_207 rfl ?_
                    replace hf := Option.some.inj hf
                    simp only [Prod.mk.injEq] at hf
                    obtain ⟨rfl, rfl⟩ := hf
                    exact gj_iret hO dX9_tried_209
                  refine gj_sub (lv2 := [(0, gj_r 188), (6, gj_i z20), (7, gj_i (0 : Int32))]) [2, 1, 0] rfl ?_
                  exact gj_loop (head := fun a10179 => gj_G E X 8 (some (gj_i x)) y 179 [(0, gj_r 188), (6, gj_i z20), (7, gj_i a10179.1)] [] a10179.2) (exit := fun z23 => gj_G E X 8 (some (gj_i x)) y 207 [(6, gj_i z20)] [] z23) (fun a10179 x hf K => by obtain ⟨a10179_0, a10179_1⟩ := a10179; exact sb_X9_tried_l179 hO hf K) _ _ _ hz23 J23
                refine gj_if_eq (tgt := 170) hO dX9_tried_160 (by decide) (fun h => ?_) (fun h => ?_)
                · replace hz20 := gj_t h hz20
                  refine gj_aload_n hO 0 dX9_tried_170 rfl rfl ?_
                  obtain ⟨x21, hc21, hz20⟩ := gj_b hz20
                  refine ca_X9_costNow hO kl_188  hc21 wk_902 (by decide) (by decide) (Nat.le_of_ble_eq_true rfl) dX9_tried_171 ?_
                  obtain rfl := Option.some.inj hz20
                  refine gj_sub (lv2 := [(0, gj_r 188)]) [0] rfl ?_
                  exact J20
                · replace hz20 := gj_f h hz20
                  refine gj_aload_n hO 0 dX9_tried_163 rfl rfl ?_
                  obtain ⟨x22, hc22, hz20⟩ := gj_b hz20
                  refine ca_X9_allLack hO kl_188  hc22 wk_941 (by decide) (by decide) (Nat.le_of_ble_eq_true rfl) dX9_tried_164 ?_
                  refine gj_goto (tgt := 174) hO dX9_tried_167 (by decide) ?_
                  obtain rfl := Option.some.inj hz20
                  refine gj_sub (lv2 := [(0, gj_r 188)]) [0] rfl ?_
                  exact J20
              refine gj_sub (lv2 := [(0, gj_r 188), (4, gj_i b4), (5, gj_i (1 : Int32))]) [1, 4, 0] rfl ?_
              exact gj_loop (head := fun a10135 => gj_G E X 8 (some (gj_i x)) y 135 [(0, gj_r 188), (4, gj_i b4), (5, gj_i a10135.1)] [] a10135.2) (exit := fun z19 => gj_G E X 8 (some (gj_i x)) y 158 [(0, gj_r 188), (4, gj_i b4)] [] z19) (fun a10135 x hf K => by obtain ⟨a10135_0, a10135_1⟩ := a10135; exact sb_X9_tried_l135 hO hf K) _ _ _ hz19 J19
            refine gj_if_ne (tgt := 113) hO dX9_tried_105 (by decide) (fun h => ?_) (fun h => ?_)
            · replace hz16 := gj_f h hz16
              refine gj_iload_n hO 1 dX9_tried_113 rfl rfl ?_
              refine gj_iconst (v := 1) hO dX9_tried_114 (by decide) ?_
              refine gj_icmp_ne (tgt := 123) hO dX9_tried_115 (by decide) (fun h => ?_) (fun h => ?_)
              · replace hz16 := gj_f h hz16
                refine gj_iconst (v := 0) hO dX9_tried_123 (by decide) ?_
                obtain rfl := Option.some.inj hz16
                refine gj_sub (lv2 := [(0, gj_r 188), (2, gj_i b2), (3, gj_i b3), (4, gj_i b4)]) [0, 2, 3, 4] rfl ?_
                exact J16
              · replace hz16 := gj_t h hz16
                refine gj_bipush (v := 24) hO dX9_tried_118 (by decide) ?_
                refine gj_goto (tgt := 124) hO dX9_tried_120 (by decide) ?_
                obtain rfl := Option.some.inj hz16
                refine gj_sub (lv2 := [(0, gj_r 188), (2, gj_i b2), (3, gj_i b3), (4, gj_i b4)]) [0, 2, 3, 4] rfl ?_
                exact J16
            · replace hz16 := gj_t h hz16
              refine gj_bipush (v := 8) hO dX9_tried_108 (by decide) ?_
              refine gj_goto (tgt := 124) hO dX9_tried_110 (by decide) ?_
              obtain rfl := Option.some.inj hz16
              refine gj_sub (lv2 := [(0, gj_r 188), (2, gj_i b2), (3, gj_i b3), (4, gj_i b4)]) [0, 2, 3, 4] rfl ?_
              exact J16
          refine gj_sub (lv2 := [(0, gj_r 188), (1, gj_i b1), (2, gj_i b2), (3, gj_i b3), (4, gj_i b4), (5, gj_i (0 : Int32))]) [1, 2, 3, 4, 5, 0] rfl ?_
          exact gj_loop (head := fun a10072 => gj_G E X 8 (some (gj_i x)) y 72 [(0, gj_r 188), (1, gj_i b1), (2, gj_i b2), (3, gj_i b3), (4, gj_i b4), (5, gj_i a10072.1)] [] a10072.2) (exit := fun z15 => gj_G E X 8 (some (gj_i x)) y 100 [(0, gj_r 188), (1, gj_i b1), (2, gj_i b2), (3, gj_i b3), (4, gj_i b4)] [] z15) (fun a10072 x hf K => by obtain ⟨a10072_0, a10072_1⟩ := a10072; exact sb_X9_tried_l72 hO hf K) _ _ _ hz15 J15
set_option maxHeartbeats 4000000 in
set_option maxRecDepth 100000 in
theorem ca_X9_tried {E : gj_E} {X : gj_X} {own : String} {cc : ByteArray} {nL : Nat} {rt : Option FieldType} {fr lo : Nat} {ce sl : Nat} {Q : State → Prop} {pc : Nat} {lv : List (Nat × gj_V)} {st : List gj_V} {σ : gj_S} (hO : gj_O E X own cc nL rt fr lo) (hw : gj_lt own 188) {b1 : Int32} {b2 : Int32} {b3 : Int32} {b4 : Int32}  {idx : Nat} {x : Int32} {y : gj_S} (hf : f_X9_tried b1 b2 b3 b4 σ = some (x, y)) (hl : Cond.methodLink own idx yX9_tried ∈ gj_gw) (hf1 : 6 ≤ fr) (hf2 : 144 ≤ lo) (hcat : ((st.map (gj_tv E.2.1)).map fun v => v.category).sum ≤ 8) (hd : decode cc pc = .ok (.invokevirtual idx, 3)) (k : gj_H E X nL ce sl Q (pc + 3) lv ((gj_i x) :: st) y) : gj_H E X nL ce sl Q pc lv (gj_i b4 :: gj_i b3 :: gj_i b2 :: gj_i b1 :: gj_r 188 :: st) σ :=
  gj_callV hO (o := 188) (vs := [gj_i b1, gj_i b2, gj_i b3, gj_i b4]) (m_X9_tried  hf) (gj_I9 hw) hl wk_942 wk_943 wk_629 wk_944 hw kd_188 (by decide) (ci := 9) rfl (n := 4) (by decide +kernel) rfl hf1 hf2 rfl hcat hd k
def f_X9_spareOf (b1 : Int32) (b2 : Int32) (σ : gj_S) : Option Int32 := (if gj_in b1 9 then ((f_X9_isUpward b1 σ).bind fun x2 => (if x2 = b2 then (if gj_in ((50 : Int32) + (σ.1 203 (Int32.toNatClampNeg b1))) 180 then some (σ.1 198 (Int32.toNatClampNeg ((50 : Int32) + (σ.1 203 (Int32.toNatClampNeg b1))))) else none) else (if gj_in (0 : Int32) 2 then (if (σ.1 191 (Int32.toNatClampNeg (0 : Int32))) ≤ (σ.1 203 (Int32.toNatClampNeg b1)) then some (1000000 : Int32) else (if gj_in ((24 : Int32) + (σ.1 203 (Int32.toNatClampNeg b1))) 180 then (if gj_in ((50 : Int32) + (σ.1 203 (Int32.toNatClampNeg b1))) 180 then some ((σ.1 198 (Int32.toNatClampNeg ((24 : Int32) + (σ.1 203 (Int32.toNatClampNeg b1))))) - (σ.1 198 (Int32.toNatClampNeg ((50 : Int32) + (σ.1 203 (Int32.toNatClampNeg b1)))))) else none) else none)) else none))) else none)
set_option maxHeartbeats 4000000 in
set_option maxRecDepth 100000 in
theorem m_X9_spareOf {E : gj_E} {σ : gj_S} {b1 : Int32} {b2 : Int32}  {x : Int32} (hf : f_X9_spareOf b1 b2 σ = some x) : gj_M E yX9_spareOf cX9_spareOf 4 (some .int) 2 43 [gj_r 188, gj_i b1, gj_i b2] σ (some (gj_i x)) σ := by
  refine gj_body (lv := [(0, gj_r 188), (1, gj_i b1), (2, gj_i b2)]) (by decide +kernel) (Nat.le_of_ble_eq_true rfl) rfl (fun X hO => ?_)
  replace hO : gj_O E X RX9 cX9_spareOf 4 (some .int) 2 43 := hO
  unfold f_X9_spareOf at hf
  refine gj_aload_n hO 0 dX9_spareOf_0 rfl rfl ?_
  refine gt_X9_27 hO wk_762 dX9_spareOf_1 ?_
  refine gj_iload_n hO 1 dX9_spareOf_4 rfl rfl ?_
  obtain ⟨hb1, hf⟩ := gj_c hf
  refine gj_iald hO kl_203 kd_203 hb1 dX9_spareOf_5 ?_
  refine gj_istore_n (lv2 := [(3, gj_i (σ.1 203 (Int32.toNatClampNeg b1))), (0, gj_r 188), (1, gj_i b1), (2, gj_i b2)]) hO dX9_spareOf_6 rfl (by decide) rfl ?_
  refine gj_aload_n hO 1 dX9_spareOf_7 rfl rfl ?_
  refine gj_iload_n hO 2 dX9_spareOf_8 rfl rfl ?_
  obtain ⟨x2, hc2, hf⟩ := gj_b hf
  refine ca_X9_isUpward hO kl_188  hc2 wk_844 (by decide) (by decide) (Nat.le_of_ble_eq_true rfl) dX9_spareOf_9 ?_
  refine gj_iload_n hO 3 dX9_spareOf_12 rfl rfl ?_
  refine gj_icmp_ne (tgt := 26) hO dX9_spareOf_13 (by decide) (fun h => ?_) (fun h => ?_)
  · replace hf := gj_f h hf
    refine gj_iload_n hO 0 dX9_spareOf_26 rfl rfl ?_
    refine gj_aload_n hO 1 dX9_spareOf_27 rfl rfl ?_
    refine gt_X9_12 hO wk_693 dX9_spareOf_28 ?_
    refine gj_iconst (v := 0) hO dX9_spareOf_31 (by decide) ?_
    obtain ⟨hb3, hf⟩ := gj_c hf
    refine gj_iald hO kl_191 kd_191 hb3 dX9_spareOf_32 ?_
    refine gj_icmp_ge (tgt := 58) hO dX9_spareOf_33 (by decide) (fun h => ?_) (fun h => ?_)
    · replace hf := gj_t h hf
      refine gj_ldcw hO wk_945 dX9_spareOf_58 ?_
      obtain rfl := Option.some.inj hf
      exact gj_iret hO dX9_spareOf_61
    · replace hf := gj_f h hf
      refine gj_aload_n hO 1 dX9_spareOf_36 rfl rfl ?_
      refine gt_X9_21 hO wk_725 dX9_spareOf_37 ?_
      refine gj_bipush (v := 24) hO dX9_spareOf_40 (by decide) ?_
      refine gj_iload_n hO 0 dX9_spareOf_42 rfl rfl ?_
      refine gj_iadd hO dX9_spareOf_43 ?_
      obtain ⟨hb4, hf⟩ := gj_c hf
      refine gj_iald hO kl_198 kd_198 hb4 dX9_spareOf_44 ?_
      refine gj_aload_n hO 1 dX9_spareOf_45 rfl rfl ?_
      refine gt_X9_21 hO wk_725 dX9_spareOf_46 ?_
      refine gj_bipush (v := 50) hO dX9_spareOf_49 (by decide) ?_
      refine gj_iload_n hO 0 dX9_spareOf_51 rfl rfl ?_
      refine gj_iadd hO dX9_spareOf_52 ?_
      obtain ⟨hb5, hf⟩ := gj_c hf
      refine gj_iald hO kl_198 kd_198 hb5 dX9_spareOf_53 ?_
      refine gj_isub hO dX9_spareOf_54 ?_
      refine gj_goto (tgt := 61) hO dX9_spareOf_55 (by decide) ?_
      obtain rfl := Option.some.inj hf
      exact gj_iret hO dX9_spareOf_61
  · replace hf := gj_t h hf
    refine gj_aload_n hO 1 dX9_spareOf_16 rfl rfl ?_
    refine gt_X9_21 hO wk_725 dX9_spareOf_17 ?_
    refine gj_bipush (v := 50) hO dX9_spareOf_20 (by decide) ?_
    refine gj_iload_n hO 0 dX9_spareOf_22 rfl rfl ?_
    refine gj_iadd hO dX9_spareOf_23 ?_
    obtain ⟨hb6, hf⟩ := gj_c hf
    refine gj_iald hO kl_198 kd_198 hb6 dX9_spareOf_24 ?_
    obtain rfl := Option.some.inj hf
    exact gj_iret hO dX9_spareOf_25
set_option maxHeartbeats 4000000 in
set_option maxRecDepth 100000 in
theorem ca_X9_spareOf {E : gj_E} {X : gj_X} {own : String} {cc : ByteArray} {nL : Nat} {rt : Option FieldType} {fr lo : Nat} {ce sl : Nat} {Q : State → Prop} {pc : Nat} {lv : List (Nat × gj_V)} {st : List gj_V} {σ : gj_S} (hO : gj_O E X own cc nL rt fr lo) (hw : gj_lt own 188) {b1 : Int32} {b2 : Int32}  {idx : Nat} {x : Int32} (hf : f_X9_spareOf b1 b2 σ = some x) (hl : Cond.methodLink own idx yX9_spareOf ∈ gj_gw) (hf1 : 3 ≤ fr) (hf2 : 66 ≤ lo) (hcat : ((st.map (gj_tv E.2.1)).map fun v => v.category).sum ≤ 8) (hd : decode cc pc = .ok (.invokevirtual idx, 3)) (k : gj_H E X nL ce sl Q (pc + 3) lv ((gj_i x) :: st) σ) : gj_H E X nL ce sl Q pc lv (gj_i b2 :: gj_i b1 :: gj_r 188 :: st) σ :=
  gj_callV hO (o := 188) (vs := [gj_i b1, gj_i b2]) (m_X9_spareOf  hf) (gj_I9 hw) hl wk_946 wk_947 wk_629 wk_948 hw kd_188 (by decide) (ci := 9) rfl (n := 2) (by decide +kernel) rfl hf1 hf2 rfl hcat hd k
