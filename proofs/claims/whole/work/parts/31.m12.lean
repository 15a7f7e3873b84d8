def f_X9_spareOf (b1 : Int32) (b2 : Int32) (σ : gj_S) : Option Int32 := (if gj_in b1 9 then ((f_X9_isUpward b1 σ).bind fun x2 => (if x2 = b2 then (if gj_in ((50 : Int32) + (σ.1 203 (Int32.toNatClampNeg b1))) 180 then some (σ.1 198 (Int32.toNatClampNeg ((50 : Int32) + (σ.1 203 (Int32.toNatClampNeg b1))))) else none) else (if gj_in (0 : Int32) 2 then (if (σ.1 191 (Int32.toNatClampNeg (0 : Int32))) ≤ (σ.1 203 (Int32.toNatClampNeg b1)) then some (1000000 : Int32) else (if gj_in ((24 : Int32) + (σ.1 203 (Int32.toNatClampNeg b1))) 180 then (if gj_in ((50 : Int32) + (σ.1 203 (Int32.toNatClampNeg b1))) 180 then some ((σ.1 198 (Int32.toNatClampNeg ((24 : Int32) + (σ.1 203 (Int32.toNatClampNeg b1))))) - (σ.1 198 (Int32.toNatClampNeg ((50 : Int32) + (σ.1 203 (Int32.toNatClampNeg b1)))))) else none) else none)) else none))) else none)
set_option maxHeartbeats 4000000 in
set_option maxRecDepth 100000 in
theorem m_X9_spareOf {E : gj_E} {σ : gj_S} {b1 : Int32} {b2 : Int32}  {x : Int32} (hf : f_X9_spareOf b1 b2 σ = some x) : gj_M E yX9_spareOf cX9_spareOf 4 (some .int) 2 43 [gj_r 188, gj_i b1, gj_i b2] σ (some (gj_i x)) σ := by
  refine gj_body (lv := [(0, gj_r 188), (1, gj_i b1), (2, gj_i b2)]) (by decide +kernel) (Nat.le_of_ble_eq_true rfl) rfl (fun X hO => ?_)
  replace hO : gj_O E X RX9 cX9_spareOf 4 (some .int) 2 43 := hO
  unfold f_X9_spareOf at hf
  refine gj_aload_n hO 0 dX9_spareOf_0 rfl rfl ?_
  refine gt_X9_27 hO wk_741 dX9_spareOf_1 ?_
  refine gj_iload_n hO 1 dX9_spareOf_4 rfl rfl ?_
  obtain ⟨hb1, hf⟩ := gj_c hf
  refine gj_iald hO kl_203 kd_203 hb1 dX9_spareOf_5 ?_
  refine gj_istore_n (lv2 := [(3, gj_i (σ.1 203 (Int32.toNatClampNeg b1))), (0, gj_r 188), (1, gj_i b1), (2, gj_i b2)]) hO dX9_spareOf_6 rfl (by decide) rfl ?_
  refine gj_aload_n hO 1 dX9_spareOf_7 rfl rfl ?_
  refine gj_iload_n hO 2 dX9_spareOf_8 rfl rfl ?_
  obtain ⟨x2, hc2, hf⟩ := gj_b hf
  refine ca_X9_isUpward hO  hc2 wk_823 (by decide) (by decide) (Nat.le_of_ble_eq_true rfl) dX9_spareOf_9 ?_
  refine gj_iload_n hO 3 dX9_spareOf_12 rfl rfl ?_
  refine gj_icmp_ne (tgt := 26) hO dX9_spareOf_13 (by decide) (fun h => ?_) (fun h => ?_)
  · replace hf := gj_f h hf
    refine gj_iload_n hO 0 dX9_spareOf_26 rfl rfl ?_
    refine gj_aload_n hO 1 dX9_spareOf_27 rfl rfl ?_
    refine gt_X9_12 hO wk_672 dX9_spareOf_28 ?_
    refine gj_iconst (v := 0) hO dX9_spareOf_31 (by decide) ?_
    obtain ⟨hb3, hf⟩ := gj_c hf
    refine gj_iald hO kl_191 kd_191 hb3 dX9_spareOf_32 ?_
    refine gj_icmp_ge (tgt := 58) hO dX9_spareOf_33 (by decide) (fun h => ?_) (fun h => ?_)
    · replace hf := gj_t h hf
      refine gj_ldcw hO wk_924 dX9_spareOf_58 ?_
      obtain rfl := Option.some.inj hf
      exact gj_iret hO dX9_spareOf_61
    · replace hf := gj_f h hf
      refine gj_aload_n hO 1 dX9_spareOf_36 rfl rfl ?_
      refine gt_X9_21 hO wk_704 dX9_spareOf_37 ?_
      refine gj_bipush (v := 24) hO dX9_spareOf_40 (by decide) ?_
      refine gj_iload_n hO 0 dX9_spareOf_42 rfl rfl ?_
      refine gj_iadd hO dX9_spareOf_43 ?_
      obtain ⟨hb4, hf⟩ := gj_c hf
      refine gj_iald hO kl_198 kd_198 hb4 dX9_spareOf_44 ?_
      refine gj_aload_n hO 1 dX9_spareOf_45 rfl rfl ?_
      refine gt_X9_21 hO wk_704 dX9_spareOf_46 ?_
      refine gj_bipush (v := 50) hO dX9_spareOf_49 (by decide) ?_
      refine gj_iload_n hO 0 dX9_spareOf_51 rfl rfl ?_
      refine gj_iadd hO dX9_spareOf_52 ?_
      obtain ⟨hb5, hf⟩ := gj_c hf
      refine gj_iald hO kl_198 kd_198 hb5 dX9_spareOf_53 ?_
      refine gj_isub hO dX9_spareOf_54 ?_
      refine gj_goto (tgt := 61) hO dX9_spareOf_55 (by decide) ?_
      obtain rfl := Option.some.inj hf
      exact gj_iret hO dX9_spareOf_61
  · replace hf := gj_t h hf
    refine gj_aload_n hO 1 dX9_spareOf_16 rfl rfl ?_
    refine gt_X9_21 hO wk_704 dX9_spareOf_17 ?_
    refine gj_bipush (v := 50) hO dX9_spareOf_20 (by decide) ?_
    refine gj_iload_n hO 0 dX9_spareOf_22 rfl rfl ?_
    refine gj_iadd hO dX9_spareOf_23 ?_
    obtain ⟨hb6, hf⟩ := gj_c hf
    refine gj_iald hO kl_198 kd_198 hb6 dX9_spareOf_24 ?_
    obtain rfl := Option.some.inj hf
    exact gj_iret hO dX9_spareOf_25
set_option maxHeartbeats 4000000 in
set_option maxRecDepth 100000 in
theorem ca_X9_spareOf {E : gj_E} {X : gj_X} {own : String} {cc : ByteArray} {nL : Nat} {rt : Option FieldType} {fr lo : Nat} {r : Option gj_V} {τ : gj_S} {pc : Nat} {lv : List (Nat × gj_V)} {st : List gj_V} {σ : gj_S} (hO : gj_O E X own cc nL rt fr lo) {b1 : Int32} {b2 : Int32}  {idx : Nat} {x : Int32} (hf : f_X9_spareOf b1 b2 σ = some x) (hl : Cond.methodLink own idx yX9_spareOf ∈ gj_gw) (hf1 : 3 ≤ fr) (hf2 : 66 ≤ lo) (hcat : ((st.map (gj_tv E.2.1)).map fun v => v.category).sum ≤ 8) (hd : decode cc pc = .ok (.invokevirtual idx, 3)) (k : gj_G E X nL r τ (pc + 3) lv ((gj_i x) :: st) σ) : gj_G E X nL r τ pc lv (gj_i b2 :: gj_i b1 :: gj_r 188 :: st) σ :=
  gj_callV hO (o := 188) (vs := [gj_i b1, gj_i b2]) (m_X9_spareOf  hf) hl wk_925 wk_926 wk_607 wk_927 kl_188 kd_188 (by decide) (ci := 9) rfl (n := 2) (by decide +kernel) rfl hf1 hf2 rfl hcat hd k
def fb_X9_load_l62 (b1 : Int32) (b2 : Int32) (σ : gj_S) (a6 : Int32) : Option (((Int32 × gj_S) ⊕ Unit) ⊕ Int32) := (if a6 = (8 : Int32) then some (.inl (.inr ())) else ((if 0 ≤ b2 then some (0 : Int32) else some (1 : Int32) : Option Int32).bind fun z8 => ((f_X9_spareOf a6 z8 σ).bind fun x9 => ((f_X9_sizeOf b2).bind fun x10 => (if x10 ≤ x9 then ((f_X9_aboveOf a6 σ).bind fun x11 => some (.inr x11)) else (if gj_in a6 9 then some (.inl (.inl (((-2 : Int32) - (σ.1 203 (Int32.toNatClampNeg a6))), σ))) else none))))))
def fb_X9_load_l126 (b1 : Int32) (b2 : Int32) (a16 : (Int32 × gj_S)) : Option (gj_S ⊕ (Int32 × gj_S)) := (if a16.1 = (8 : Int32) then some (.inl a16.2) else (if gj_in a16.1 9 then (if gj_in ((50 : Int32) + (a16.2.1 203 (Int32.toNatClampNeg a16.1))) 180 then ((f_X9_isUpward a16.1 a16.2).bind fun x20 => ((if x20 = 0 then some (0 - b2) else some b2 : Option Int32).bind fun z21 => (if gj_in ((50 : Int32) + (a16.2.1 203 (Int32.toNatClampNeg a16.1))) 180 then ((some (gj_sI a16.2 198 (upd (a16.2.1 198) (Int32.toNatClampNeg ((50 : Int32) + (a16.2.1 203 (Int32.toNatClampNeg a16.1)))) ((a16.2.1 198 (Int32.toNatClampNeg ((50 : Int32) + (a16.2.1 203 (Int32.toNatClampNeg a16.1))))) + z21)))).bind fun s23 => ((f_X9_aboveOf a16.1 s23).bind fun x24 => some (.inr (x24, s23)))) else none))) else none) else none))
def f_X9_load (b1 : Int32) (b2 : Int32) (σ : gj_S) : Option (Int32 × gj_S) := ((f_X9_isDock b1 (gj_sI σ 188 (upd (σ.1 188) 0 (0 : Int32)))).bind fun x1 => (if x1 = 0 then some ((-1 : Int32), (gj_sI σ 188 (upd (σ.1 188) 0 (0 : Int32)))) else ((f_X9_within (Int32.toInt64 b2) (-1998 : Int64) (1998 : Int64)).bind fun x2 => (if x2 = 0 then some ((-1 : Int32), (gj_sI σ 188 (upd (σ.1 188) 0 (0 : Int32)))) else (if b2 = 0 then some ((-1 : Int32), (gj_sI σ 188 (upd (σ.1 188) 0 (0 : Int32)))) else (if gj_in ((0 : Int32) + b1) 180 then ((f_X9_within (Int32.toInt64 (((gj_sI σ 188 (upd (σ.1 188) 0 (0 : Int32))).1 198 (Int32.toNatClampNeg ((0 : Int32) + b1))) + b2)) (-999 : Int64) (999 : Int64)).bind fun x4 => (if x4 = 0 then some ((-1 : Int32), (gj_sI σ 188 (upd (σ.1 188) 0 (0 : Int32)))) else ((f_X9_laysTree (gj_sI σ 188 (upd (σ.1 188) 0 (0 : Int32)))).bind fun x5 => ((gj_lp (fb_X9_load_l62 b1 b2 x5) 5000 b1).bind fun y6 => Sum.elim (fun q => some q) (fun z6 => ((f_X9_keeps x5).bind fun x13 => (if gj_in ((0 : Int32) + b1) 180 then (if gj_in ((0 : Int32) + b1) 180 then ((gj_lp (fb_X9_load_l126 b1 b2) 5000 (b1, (gj_sI x13 198 (upd (x13.1 198) (Int32.toNatClampNeg ((0 : Int32) + b1)) ((x13.1 198 (Int32.toNatClampNeg ((0 : Int32) + b1))) + b2))))).bind fun z16 => (if gj_in b1 9 then some ((z16.1 204 (Int32.toNatClampNeg b1)), z16) else none)) else none) else none))) y6)))) else none))))))
set_option maxHeartbeats 4000000 in
set_option maxRecDepth 100000 in
theorem sb_X9_load_l62 {E : gj_E} {X : gj_X} {r : Option gj_V} {τ : gj_S} (hO : gj_O E X RX9 cX9_load 4 (some .int) 3 66) {b1 : Int32} {b2 : Int32} {σ : gj_S} {a6 : Int32} {x : ((Int32 × gj_S) ⊕ Unit) ⊕ Int32} (hf : fb_X9_load_l62 b1 b2 σ a6 = some x) (K : gj_K (fun y6 => gj_K (fun q => r = (some (gj_i q.1)) ∧ τ = q.2) (fun z6 => gj_G E X 4 r τ 108 [(0, gj_r 188), (1, gj_i b1), (2, gj_i b2)] [] σ) y6) (fun a6 => gj_G E X 4 r τ 62 [(0, gj_r 188), (1, gj_i b1), (2, gj_i b2), (3, gj_i a6)] [] σ) x) : gj_G E X 4 r τ 62 [(0, gj_r 188), (1, gj_i b1), (2, gj_i b2), (3, gj_i a6)] [] σ := by
  unfold fb_X9_load_l62 at hf
  refine gj_iload_n hO 3 dX9_load_62 rfl rfl ?_
  refine gj_bipush (v := 8) hO dX9_load_63 (by decide) ?_
  refine gj_icmp_eq (tgt := 108) hO dX9_load_65 (by decide) (fun h => ?_) (fun h => ?_)
  · replace hf := gj_t h hf
    obtain rfl := Option.some.inj hf
    refine gj_sub [0, 1, 2] rfl ?_
    exact K
  · replace hf := gj_f h hf
    refine gj_aload_n hO 0 dX9_load_68 rfl rfl ?_
    refine gj_iload_n hO 3 dX9_load_69 rfl rfl ?_
    refine gj_iload_n hO 2 dX9_load_70 rfl rfl ?_
    obtain ⟨z8, hz8, hf⟩ := gj_b hf
    have J8 : gj_G E X 4 r τ 79 [(0, gj_r 188), (1, gj_i b1), (2, gj_i b2), (3, gj_i a6)] [gj_i z8, gj_i a6, gj_r 188] σ := by
      obtain ⟨x9, hc9, hf⟩ := gj_b hf
      refine ca_X9_spareOf hO  hc9 wk_930 (by decide) (by decide) (Nat.le_of_ble_eq_true rfl) dX9_load_79 ?_
      refine gj_iload_n hO 2 dX9_load_82 rfl rfl ?_
      obtain ⟨x10, hc10, hf⟩ := gj_b hf
      refine ca_X9_sizeOf hO  hc10 wk_806 (by decide) (by decide) (Nat.le_of_ble_eq_true rfl) dX9_load_83 ?_
      refine gj_icmp_ge (tgt := 99) hO dX9_load_86 (by decide) (fun h => ?_) (fun h => ?_)
      · replace hf := gj_t h hf
        refine gj_aload_n hO 0 dX9_load_99 rfl rfl ?_
        refine gj_iload_n hO 3 dX9_load_100 rfl rfl ?_
        obtain ⟨x11, hc11, hf⟩ := gj_b hf
        refine ca_X9_aboveOf hO  hc11 wk_776 (by decide) (by decide) (Nat.le_of_ble_eq_true rfl) dX9_load_101 ?_
        refine gj_istore_n (lv2 := [(3, gj_i x11), (0, gj_r 188), (1, gj_i b1), (2, gj_i b2)]) hO dX9_load_104 rfl (by decide) rfl ?_
        refine gj_goto (tgt := 62) hO dX9_load_105 (by decide) ?_
        obtain rfl := Option.some.inj hf
        refine gj_sub [1, 2, 3, 0] rfl ?_
        exact K
      · replace hf := gj_f h hf
        refine gj_bipush (v := (-2)) hO dX9_load_89 (by decide) ?_
        refine gj_aload_n hO 0 dX9_load_91 rfl rfl ?_
        refine gt_X9_27 hO wk_741 dX9_load_92 ?_
        refine gj_iload_n hO 3 dX9_load_95 rfl rfl ?_
        obtain ⟨hb12, hf⟩ := gj_c hf
        refine gj_iald hO kl_203 kd_203 hb12 dX9_load_96 ?_
        refine gj_isub hO dX9_load_97 ?_
        obtain rfl := Option.some.inj hf
        obtain ⟨rfl, rfl⟩ := K
        exact gj_iret hO dX9_load_98
    refine gj_if_ge (tgt := 78) hO dX9_load_71 (by decide) (fun h => ?_) (fun h => ?_)
    · replace hz8 := gj_t h hz8
      refine gj_iconst (v := 0) hO dX9_load_78 (by decide) ?_
      obtain rfl := Option.some.inj hz8
      refine gj_sub [0, 1, 2, 3] rfl ?_
      exact J8
    · replace hz8 := gj_f h hz8
      refine gj_iconst (v := 1) hO dX9_load_74 (by decide) ?_
      refine gj_goto (tgt := 79) hO dX9_load_75 (by decide) ?_
      obtain rfl := Option.some.inj hz8
      refine gj_sub [0, 1, 2, 3] rfl ?_
      exact J8
set_option maxHeartbeats 4000000 in
set_option maxRecDepth 100000 in
theorem sb_X9_load_l126 {E : gj_E} {X : gj_X} {r : Option gj_V} {τ : gj_S} (hO : gj_O E X RX9 cX9_load 4 (some .int) 3 66) {b1 : Int32} {b2 : Int32} {a16 : (Int32 × gj_S)} {x : gj_S ⊕ (Int32 × gj_S)} (hf : fb_X9_load_l126 b1 b2 a16 = some x) (K : gj_K (fun z16 => gj_G E X 4 r τ 172 [(0, gj_r 188), (1, gj_i b1)] [] z16) (fun a16 => gj_G E X 4 r τ 126 [(0, gj_r 188), (1, gj_i b1), (2, gj_i b2), (3, gj_i a16.1)] [] a16.2) x) : gj_G E X 4 r τ 126 [(0, gj_r 188), (1, gj_i b1), (2, gj_i b2), (3, gj_i a16.1)] [] a16.2 := by
  unfold fb_X9_load_l126 at hf
  refine gj_iload_n hO 3 dX9_load_126 rfl rfl ?_
  refine gj_bipush (v := 8) hO dX9_load_127 (by decide) ?_
  refine gj_icmp_eq (tgt := 172) hO dX9_load_129 (by decide) (fun h => ?_) (fun h => ?_)
  · replace hf := gj_t h hf
    obtain rfl := Option.some.inj hf
    refine gj_sub [0, 1] rfl ?_
    exact K
  · replace hf := gj_f h hf
    refine gj_aload_n hO 0 dX9_load_132 rfl rfl ?_
    refine gt_X9_21 hO wk_704 dX9_load_133 ?_
    refine gj_bipush (v := 50) hO dX9_load_136 (by decide) ?_
    refine gj_aload_n hO 0 dX9_load_138 rfl rfl ?_
    refine gt_X9_27 hO wk_741 dX9_load_139 ?_
    refine gj_iload_n hO 3 dX9_load_142 rfl rfl ?_
    obtain ⟨hb18, hf⟩ := gj_c hf
    refine gj_iald hO kl_203 kd_203 hb18 dX9_load_143 ?_
    refine gj_iadd hO dX9_load_144 ?_
    refine gj_dup2 hO dX9_load_145 trivial trivial ?_
    obtain ⟨hb19, hf⟩ := gj_c hf
    refine gj_iald hO kl_198 kd_198 hb19 dX9_load_146 ?_
    refine gj_aload_n hO 0 dX9_load_147 rfl rfl ?_
    refine gj_iload_n hO 3 dX9_load_148 rfl rfl ?_
    obtain ⟨x20, hc20, hf⟩ := gj_b hf
    refine ca_X9_isUpward hO  hc20 wk_823 (by decide) (by decide) (Nat.le_of_ble_eq_true rfl) dX9_load_149 ?_
    obtain ⟨z21, hz21, hf⟩ := gj_b hf
    have J21 : gj_G E X 4 r τ 161 [(0, gj_r 188), (1, gj_i b1), (2, gj_i b2), (3, gj_i a16.1)] [gj_i z21, gj_i (a16.2.1 198 (Int32.toNatClampNeg ((50 : Int32) + (a16.2.1 203 (Int32.toNatClampNeg a16.1))))), gj_i ((50 : Int32) + (a16.2.1 203 (Int32.toNatClampNeg a16.1))), gj_r 198] a16.2 := by
      refine gj_iadd hO dX9_load_161 ?_
      obtain ⟨hb22, hf⟩ := gj_c hf
      refine gj_iast hO kl_198 kd_198 hb22 dX9_load_162 ?_
      obtain ⟨s23, e23, hf⟩ := gj_b hf
      refine gj_eqS (Option.some.inj e23) ?_
      refine gj_aload_n hO 0 dX9_load_163 rfl rfl ?_
      refine gj_iload_n hO 3 dX9_load_164 rfl rfl ?_
      obtain ⟨x24, hc24, hf⟩ := gj_b hf
      refine ca_X9_aboveOf hO  hc24 wk_776 (by decide) (by decide) (Nat.le_of_ble_eq_true rfl) dX9_load_165 ?_
      refine gj_istore_n (lv2 := [(3, gj_i x24), (0, gj_r 188), (1, gj_i b1), (2, gj_i b2)]) hO dX9_load_168 rfl (by decide) rfl ?_
      refine gj_goto (tgt := 126) hO dX9_load_169 (by decide) ?_
      obtain rfl := Option.some.inj hf
      refine gj_sub [1, 2, 3, 0] rfl ?_
      exact K
    refine gj_if_eq (tgt := 159) hO dX9_load_152 (by decide) (fun h => ?_) (fun h => ?_)
    · replace hz21 := gj_t h hz21
      refine gj_iload_n hO 2 dX9_load_159 rfl rfl ?_
      refine gj_ineg hO dX9_load_160 ?_
      obtain rfl := Option.some.inj hz21
      refine gj_sub [0, 1, 2, 3] rfl ?_
      exact J21
    · replace hz21 := gj_f h hz21
      refine gj_iload_n hO 2 dX9_load_155 rfl rfl ?_
      refine gj_goto (tgt := 161) hO dX9_load_156 (by decide) ?_
      obtain rfl := Option.some.inj hz21
      refine gj_sub [0, 1, 2, 3] rfl ?_
      exact J21
set_option maxHeartbeats 4000000 in
set_option maxRecDepth 100000 in
theorem m_X9_load {E : gj_E} {σ : gj_S} {b1 : Int32} {b2 : Int32}  {x : (Int32 × gj_S)} (hf : f_X9_load b1 b2 σ = some x) : gj_M E yX9_load cX9_load 4 (some .int) 3 66 [gj_r 188, gj_i b1, gj_i b2] σ (some (gj_i x.1)) x.2 := by
  refine gj_body (lv := [(0, gj_r 188), (1, gj_i b1), (2, gj_i b2)]) (by decide +kernel) (Nat.le_of_ble_eq_true rfl) rfl (fun X hO => ?_)
  replace hO : gj_O E X RX9 cX9_load 4 (some .int) 3 66 := hO
  unfold f_X9_load at hf
  refine gj_aload_n hO 0 dX9_load_0 rfl rfl ?_
  refine gj_iconst (v := 0) hO dX9_load_1 (by decide) ?_
  refine pt_X9_0 hO wk_604 dX9_load_2 ?_
  refine gj_aload_n hO 0 dX9_load_5 rfl rfl ?_
  refine gj_iload_n hO 1 dX9_load_6 rfl rfl ?_
  obtain ⟨x1, hc1, hf⟩ := gj_b hf
  refine ca_X9_isDock hO  hc1 wk_786 (by decide) (by decide) (Nat.le_of_ble_eq_true rfl) dX9_load_7 ?_
  refine gj_if_eq (tgt := 54) hO dX9_load_10 (by decide) (fun h => ?_) (fun h => ?_)
  · replace hf := gj_t h hf
    refine gj_iconst (v := (-1)) hO dX9_load_54 (by decide) ?_
    obtain rfl := Option.some.inj hf
    exact gj_iret hO dX9_load_55
  · replace hf := gj_f h hf
    refine gj_iload_n hO 2 dX9_load_13 rfl rfl ?_
    refine gj_i2l hO dX9_load_14 ?_
    refine gj_ldc2 hO wk_928 dX9_load_15 ?_
    refine gj_ldc2 hO wk_929 dX9_load_18 ?_
    obtain ⟨x2, hc2, hf⟩ := gj_b hf
    refine ca_X9_within hO  hc2 wk_632 (by decide) (by decide) (Nat.le_of_ble_eq_true rfl) dX9_load_21 ?_
    refine gj_if_eq (tgt := 54) hO dX9_load_24 (by decide) (fun h => ?_) (fun h => ?_)
    · replace hf := gj_t h hf
      refine gj_iconst (v := (-1)) hO dX9_load_54 (by decide) ?_
      obtain rfl := Option.some.inj hf
      exact gj_iret hO dX9_load_55
    · replace hf := gj_f h hf
      refine gj_iload_n hO 2 dX9_load_27 rfl rfl ?_
      refine gj_if_eq (tgt := 54) hO dX9_load_28 (by decide) (fun h => ?_) (fun h => ?_)
      · replace hf := gj_t h hf
        refine gj_iconst (v := (-1)) hO dX9_load_54 (by decide) ?_
        obtain rfl := Option.some.inj hf
        exact gj_iret hO dX9_load_55
      · replace hf := gj_f h hf
        refine gj_aload_n hO 0 dX9_load_31 rfl rfl ?_
        refine gt_X9_21 hO wk_704 dX9_load_32 ?_
        refine gj_iconst (v := 0) hO dX9_load_35 (by decide) ?_
        refine gj_iload_n hO 1 dX9_load_36 rfl rfl ?_
        refine gj_iadd hO dX9_load_37 ?_
        obtain ⟨hb3, hf⟩ := gj_c hf
        refine gj_iald hO kl_198 kd_198 hb3 dX9_load_38 ?_
        refine gj_iload_n hO 2 dX9_load_39 rfl rfl ?_
        refine gj_iadd hO dX9_load_40 ?_
        refine gj_i2l hO dX9_load_41 ?_
        refine gj_ldc2 hO wk_917 dX9_load_42 ?_
        refine gj_ldc2 hO wk_918 dX9_load_45 ?_
        obtain ⟨x4, hc4, hf⟩ := gj_b hf
        refine ca_X9_within hO  hc4 wk_632 (by decide) (by decide) (Nat.le_of_ble_eq_true rfl) dX9_load_48 ?_
        refine gj_if_ne (tgt := 56) hO dX9_load_51 (by decide) (fun h => ?_) (fun h => ?_)
        · replace hf := gj_f h hf
          refine gj_aload_n hO 0 dX9_load_56 rfl rfl ?_
          obtain ⟨x5, hc5, hf⟩ := gj_b hf
          refine ca_X9_laysTree hO  hc5 wk_771 (by decide) (by decide) (Nat.le_of_ble_eq_true rfl) dX9_load_57 ?_
          refine gj_iload_n hO 1 dX9_load_60 rfl rfl ?_
          refine gj_istore_n (lv2 := [(3, gj_i b1), (0, gj_r 188), (1, gj_i b1), (2, gj_i b2)]) hO dX9_load_61 rfl (by decide) rfl ?_
          obtain ⟨y6, hz6, hf⟩ := gj_b hf
          have J6 : (fun y6 => gj_K (fun q => (some (gj_i x.1)) = (some (gj_i q.1)) ∧ x.2 = q.2) (fun z6 => gj_G E X 4 (some (gj_i x.1)) x.2 108 [(0, gj_r 188), (1, gj_i b1), (2, gj_i b2)] [] x5) y6) y6 := by
            rcases y6 with q | z6
            · have hf : some q = some x := hf
              obtain rfl := Option.some.inj hf
              exact ⟨rfl, rfl⟩
            · refine gj_aload_n hO 0 dX9_load_108 rfl rfl ?_
              obtain ⟨x13, hc13, hf⟩ := gj_b hf
              refine ca_X9_keeps hO  hc13 wk_865 (by decide) (by decide) (Nat.le_of_ble_eq_true rfl) dX9_load_109 ?_
              refine gj_aload_n hO 0 dX9_load_112 rfl rfl ?_
              refine gt_X9_21 hO wk_704 dX9_load_113 ?_
              refine gj_iconst (v := 0) hO dX9_load_116 (by decide) ?_
              refine gj_iload_n hO 1 dX9_load_117 rfl rfl ?_
              refine gj_iadd hO dX9_load_118 ?_
              refine gj_dup2 hO dX9_load_119 trivial trivial ?_
              obtain ⟨hb14, hf⟩ := gj_c hf
              refine gj_iald hO kl_198 kd_198 hb14 dX9_load_120 ?_
              refine gj_iload_n hO 2 dX9_load_121 rfl rfl ?_
              refine gj_iadd hO dX9_load_122 ?_
              obtain ⟨hb15, hf⟩ := gj_c hf
              refine gj_iast hO kl_198 kd_198 hb15 dX9_load_123 ?_
              refine gj_iload_n hO 1 dX9_load_124 rfl rfl ?_
              refine gj_istore_n (lv2 := [(3, gj_i b1), (0, gj_r 188), (1, gj_i b1), (2, gj_i b2)]) hO dX9_load_125 rfl (by decide) rfl ?_
              obtain ⟨z16, hz16, hf⟩ := gj_b hf
              have J16 : gj_G E X 4 (some (gj_i x.1)) x.2 172 [(0, gj_r 188), (1, gj_i b1)] [] z16 := by
                refine gj_aload_n hO 0 dX9_load_172 rfl rfl ?_
                refine gt_X9_28 hO wk_742 dX9_load_173 ?_
                refine gj_iload_n hO 1 dX9_load_176 rfl rfl ?_
                obtain ⟨hb25, hf⟩ := gj_c hf
                refine gj_iald hO kl_204 kd_204 hb25 dX9_load_177 ?_
                obtain rfl := Option.some.inj hf
                exact gj_iret hO dX9_load_178
              refine gj_sub [1, 2, 3, 0] rfl ?_
              exact gj_loop (head := fun a16 => gj_G E X 4 (some (gj_i x.1)) x.2 126 [(0, gj_r 188), (1, gj_i b1), (2, gj_i b2), (3, gj_i a16.1)] [] a16.2) (exit := fun z16 => gj_G E X 4 (some (gj_i x.1)) x.2 172 [(0, gj_r 188), (1, gj_i b1)] [] z16) (fun a16 x hf K => sb_X9_load_l126 hO hf K) _ _ _ hz16 J16
          refine gj_sub [1, 2, 3, 0] rfl ?_
          exact gj_loop (head := fun a6 => gj_G E X 4 (some (gj_i x.1)) x.2 62 [(0, gj_r 188), (1, gj_i b1), (2, gj_i b2), (3, gj_i a6)] [] x5) (exit := fun y6 => gj_K (fun q => (some (gj_i x.1)) = (some (gj_i q.1)) ∧ x.2 = q.2) (fun z6 => gj_G E X 4 (some (gj_i x.1)) x.2 108 [(0, gj_r 188), (1, gj_i b1), (2, gj_i b2)] [] x5) y6) (fun a6 x hf K => sb_X9_load_l62 hO hf K) _ _ _ hz6 J6
        · replace hf := gj_t h hf
          refine gj_iconst (v := (-1)) hO dX9_load_54 (by decide) ?_
          obtain rfl := Option.some.inj hf
          exact gj_iret hO dX9_load_55
set_option maxHeartbeats 4000000 in
set_option maxRecDepth 100000 in
theorem ca_X9_load {E : gj_E} {X : gj_X} {own : String} {cc : ByteArray} {nL : Nat} {rt : Option FieldType} {fr lo : Nat} {r : Option gj_V} {τ : gj_S} {pc : Nat} {lv : List (Nat × gj_V)} {st : List gj_V} {σ : gj_S} (hO : gj_O E X own cc nL rt fr lo) {b1 : Int32} {b2 : Int32}  {idx : Nat} {x : (Int32 × gj_S)} (hf : f_X9_load b1 b2 σ = some x) (hl : Cond.methodLink own idx yX9_load ∈ gj_gw) (hf1 : 4 ≤ fr) (hf2 : 89 ≤ lo) (hcat : ((st.map (gj_tv E.2.1)).map fun v => v.category).sum ≤ 8) (hd : decode cc pc = .ok (.invokevirtual idx, 3)) (k : gj_G E X nL r τ (pc + 3) lv ((gj_i x.1) :: st) x.2) : gj_G E X nL r τ pc lv (gj_i b2 :: gj_i b1 :: gj_r 188 :: st) σ :=
  gj_callV hO (o := 188) (vs := [gj_i b1, gj_i b2]) (m_X9_load  hf) hl wk_931 wk_932 wk_607 wk_933 kl_188 kd_188 (by decide) (ci := 9) rfl (n := 2) (by decide +kernel) rfl hf1 hf2 rfl hcat hd k
def fb_X9_spare_l26 (b2 : Int32) (σ : gj_S) (a3 : (Int32 × Int32)) : Option (Int32 ⊕ (Int32 × Int32)) := (if a3.2 = (8 : Int32) then some (.inl a3.1) else ((f_X9_spareOf a3.2 b2 σ).bind fun x5 => ((if a3.1 ≤ x5 then some a3.1 else ((f_X9_spareOf a3.2 b2 σ).bind fun x7 => some x7) : Option Int32).bind fun z6 => ((f_X9_aboveOf a3.2 σ).bind fun x8 => some (.inr (z6, x8))))))
def f_X9_spare (b1 : Int32) (b2 : Int32) (σ : gj_S) : Option (Int32 × gj_S) := ((f_X9_isDock b1 (gj_sI σ 188 (upd (σ.1 188) 0 (0 : Int32)))).bind fun x1 => (if x1 = 0 then some ((-1 : Int32), (gj_sI σ 188 (upd (σ.1 188) 0 (0 : Int32)))) else ((f_X9_laysTree (gj_sI σ 188 (upd (σ.1 188) 0 (0 : Int32)))).bind fun x2 => ((gj_lp (fb_X9_spare_l26 b2 x2) 5000 ((1000000 : Int32), b1)).bind fun z3 => some (z3, x2)))))
set_option maxHeartbeats 4000000 in
set_option maxRecDepth 100000 in
theorem sb_X9_spare_l26 {E : gj_E} {X : gj_X} {r : Option gj_V} {τ : gj_S} (hO : gj_O E X RX9 cX9_spare 5 (some .int) 3 66) {b2 : Int32} {σ : gj_S} {a3 : (Int32 × Int32)} {x : Int32 ⊕ (Int32 × Int32)} (hf : fb_X9_spare_l26 b2 σ a3 = some x) (K : gj_K (fun z3 => gj_G E X 5 r τ 67 [(3, gj_i z3)] [] σ) (fun a3 => gj_G E X 5 r τ 26 [(0, gj_r 188), (2, gj_i b2), (3, gj_i a3.1), (4, gj_i a3.2)] [] σ) x) : gj_G E X 5 r τ 26 [(0, gj_r 188), (2, gj_i b2), (3, gj_i a3.1), (4, gj_i a3.2)] [] σ := by
  unfold fb_X9_spare_l26 at hf
  refine gj_iload hO 3 dX9_spare_26 rfl ?_
  refine gj_bipush (v := 8) hO dX9_spare_28 (by decide) ?_
  refine gj_icmp_eq (tgt := 67) hO dX9_spare_30 (by decide) (fun h => ?_) (fun h => ?_)
  · replace hf := gj_t h hf
    obtain rfl := Option.some.inj hf
    refine gj_sub [2] rfl ?_
    exact K
  · replace hf := gj_f h hf
    refine gj_aload_n hO 0 dX9_spare_33 rfl rfl ?_
    refine gj_iload hO 3 dX9_spare_34 rfl ?_
    refine gj_iload_n hO 1 dX9_spare_36 rfl rfl ?_
    obtain ⟨x5, hc5, hf⟩ := gj_b hf
    refine ca_X9_spareOf hO  hc5 wk_930 (by decide) (by decide) (Nat.le_of_ble_eq_true rfl) dX9_spare_37 ?_
    refine gj_iload_n hO 2 dX9_spare_40 rfl rfl ?_
    obtain ⟨z6, hz6, hf⟩ := gj_b hf
    have J6 : gj_G E X 5 r τ 55 [(0, gj_r 188), (2, gj_i b2), (4, gj_i a3.2)] [gj_i z6] σ := by
      refine gj_istore_n (lv2 := [(3, gj_i z6), (0, gj_r 188), (2, gj_i b2), (4, gj_i a3.2)]) hO dX9_spare_55 rfl (by decide) rfl ?_
      refine gj_aload_n hO 1 dX9_spare_56 rfl rfl ?_
      refine gj_iload hO 3 dX9_spare_57 rfl ?_
      obtain ⟨x8, hc8, hf⟩ := gj_b hf
      refine ca_X9_aboveOf hO  hc8 wk_776 (by decide) (by decide) (Nat.le_of_ble_eq_true rfl) dX9_spare_59 ?_
      refine gj_istore (lv2 := [(4, gj_i x8), (3, gj_i z6), (0, gj_r 188), (2, gj_i b2)]) hO dX9_spare_62 (by decide) rfl ?_
      refine gj_goto (tgt := 26) hO dX9_spare_64 (by decide) ?_
      obtain rfl := Option.some.inj hf
      refine gj_sub [2, 3, 1, 0] rfl ?_
      exact K
    refine gj_icmp_ge (tgt := 54) hO dX9_spare_41 (by decide) (fun h => ?_) (fun h => ?_)
    · replace hz6 := gj_t h hz6
      refine gj_iload_n hO 2 dX9_spare_54 rfl rfl ?_
      obtain rfl := Option.some.inj hz6
      refine gj_sub [0, 1, 3] rfl ?_
      exact J6
    · replace hz6 := gj_f h hz6
      refine gj_aload_n hO 0 dX9_spare_44 rfl rfl ?_
      refine gj_iload hO 3 dX9_spare_45 rfl ?_
      refine gj_iload_n hO 1 dX9_spare_47 rfl rfl ?_
      obtain ⟨x7, hc7, hz6⟩ := gj_b hz6
      refine ca_X9_spareOf hO  hc7 wk_930 (by decide) (by decide) (Nat.le_of_ble_eq_true rfl) dX9_spare_48 ?_
      refine gj_goto (tgt := 55) hO dX9_spare_51 (by decide) ?_
      obtain rfl := Option.some.inj hz6
      refine gj_sub [0, 1, 3] rfl ?_
      exact J6
set_option maxHeartbeats 4000000 in
set_option maxRecDepth 100000 in
theorem m_X9_spare {E : gj_E} {σ : gj_S} {b1 : Int32} {b2 : Int32}  {x : (Int32 × gj_S)} (hf : f_X9_spare b1 b2 σ = some x) : gj_M E yX9_spare cX9_spare 5 (some .int) 3 66 [gj_r 188, gj_i b1, gj_i b2] σ (some (gj_i x.1)) x.2 := by
  refine gj_body (lv := [(0, gj_r 188), (1, gj_i b1), (2, gj_i b2)]) (by decide +kernel) (Nat.le_of_ble_eq_true rfl) rfl (fun X hO => ?_)
  replace hO : gj_O E X RX9 cX9_spare 5 (some .int) 3 66 := hO
  unfold f_X9_spare at hf
  refine gj_aload_n hO 0 dX9_spare_0 rfl rfl ?_
  refine gj_iconst (v := 0) hO dX9_spare_1 (by decide) ?_
  refine pt_X9_0 hO wk_604 dX9_spare_2 ?_
  refine gj_aload_n hO 0 dX9_spare_5 rfl rfl ?_
  refine gj_iload_n hO 1 dX9_spare_6 rfl rfl ?_
  obtain ⟨x1, hc1, hf⟩ := gj_b hf
  refine ca_X9_isDock hO  hc1 wk_786 (by decide) (by decide) (Nat.le_of_ble_eq_true rfl) dX9_spare_7 ?_
  refine gj_if_ne (tgt := 15) hO dX9_spare_10 (by decide) (fun h => ?_) (fun h => ?_)
  · replace hf := gj_f h hf
    refine gj_aload_n hO 0 dX9_spare_15 rfl rfl ?_
    obtain ⟨x2, hc2, hf⟩ := gj_b hf
    refine ca_X9_laysTree hO  hc2 wk_771 (by decide) (by decide) (Nat.le_of_ble_eq_true rfl) dX9_spare_16 ?_
    refine gj_ldcw hO wk_924 dX9_spare_19 ?_
    refine gj_istore_n (lv2 := [(3, gj_i (1000000 : Int32)), (0, gj_r 188), (1, gj_i b1), (2, gj_i b2)]) hO dX9_spare_22 rfl (by decide) rfl ?_
    refine gj_iload_n hO 2 dX9_spare_23 rfl rfl ?_
    refine gj_istore (lv2 := [(4, gj_i b1), (3, gj_i (1000000 : Int32)), (0, gj_r 188), (1, gj_i b1), (2, gj_i b2)]) hO dX9_spare_24 (by decide) rfl ?_
    obtain ⟨z3, hz3, hf⟩ := gj_b hf
    have J3 : gj_G E X 5 (some (gj_i x.1)) x.2 67 [(3, gj_i z3)] [] x2 := by
      refine gj_iload_n hO 0 dX9_spare_67 rfl rfl ?_
      obtain rfl := Option.some.inj hf
      exact gj_iret hO dX9_spare_68
    refine gj_sub [2, 4, 1, 0] rfl ?_
    exact gj_loop (head := fun a3 => gj_G E X 5 (some (gj_i x.1)) x.2 26 [(0, gj_r 188), (2, gj_i b2), (3, gj_i a3.1), (4, gj_i a3.2)] [] x2) (exit := fun z3 => gj_G E X 5 (some (gj_i x.1)) x.2 67 [(3, gj_i z3)] [] x2) (fun a3 x hf K => sb_X9_spare_l26 hO hf K) _ _ _ hz3 J3
  · replace hf := gj_t h hf
    refine gj_iconst (v := (-1)) hO dX9_spare_13 (by decide) ?_
    obtain rfl := Option.some.inj hf
    exact gj_iret hO dX9_spare_14
set_option maxHeartbeats 4000000 in
set_option maxRecDepth 100000 in
theorem ca_X9_spare {E : gj_E} {X : gj_X} {own : String} {cc : ByteArray} {nL : Nat} {rt : Option FieldType} {fr lo : Nat} {r : Option gj_V} {τ : gj_S} {pc : Nat} {lv : List (Nat × gj_V)} {st : List gj_V} {σ : gj_S} (hO : gj_O E X own cc nL rt fr lo) {b1 : Int32} {b2 : Int32}  {idx : Nat} {x : (Int32 × gj_S)} (hf : f_X9_spare b1 b2 σ = some x) (hl : Cond.methodLink own idx yX9_spare ∈ gj_gw) (hf1 : 4 ≤ fr) (hf2 : 90 ≤ lo) (hcat : ((st.map (gj_tv E.2.1)).map fun v => v.category).sum ≤ 8) (hd : decode cc pc = .ok (.invokevirtual idx, 3)) (k : gj_G E X nL r τ (pc + 3) lv ((gj_i x.1) :: st) x.2) : gj_G E X nL r τ pc lv (gj_i b2 :: gj_i b1 :: gj_r 188 :: st) σ :=
  gj_callV hO (o := 188) (vs := [gj_i b1, gj_i b2]) (m_X9_spare  hf) hl wk_934 wk_935 wk_607 wk_936 kl_188 kd_188 (by decide) (ci := 9) rfl (n := 2) (by decide +kernel) rfl hf1 hf2 rfl hcat hd k
def f_X9_retold (b1 : Int32) (b2 : Int32) (σ : gj_S) : Option (Int32 × gj_S) := ((f_X9_keeps σ).bind fun x1 => (if gj_in b1 180 then (if gj_in b1 180 then some ((x1.1 198 (Int32.toNatClampNeg b1)), (gj_sI x1 198 (upd (x1.1 198) (Int32.toNatClampNeg b1) b2))) else none) else none))
set_option maxHeartbeats 4000000 in
set_option maxRecDepth 100000 in
theorem m_X9_retold {E : gj_E} {σ : gj_S} {b1 : Int32} {b2 : Int32}  {x : (Int32 × gj_S)} (hf : f_X9_retold b1 b2 σ = some x) : gj_M E yX9_retold cX9_retold 4 (some .int) 1 21 [gj_r 188, gj_i b1, gj_i b2] σ (some (gj_i x.1)) x.2 := by
  refine gj_body (lv := [(0, gj_r 188), (1, gj_i b1), (2, gj_i b2)]) (by decide +kernel) (Nat.le_of_ble_eq_true rfl) rfl (fun X hO => ?_)
  replace hO : gj_O E X RX9 cX9_retold 4 (some .int) 1 21 := hO
  unfold f_X9_retold at hf
  refine gj_aload_n hO 0 dX9_retold_0 rfl rfl ?_
  obtain ⟨x1, hc1, hf⟩ := gj_b hf
  refine ca_X9_keeps hO  hc1 wk_865 (by decide) (by decide) (Nat.le_of_ble_eq_true rfl) dX9_retold_1 ?_
  refine gj_aload_n hO 0 dX9_retold_4 rfl rfl ?_
  refine gt_X9_21 hO wk_704 dX9_retold_5 ?_
  refine gj_iload_n hO 1 dX9_retold_8 rfl rfl ?_
  obtain ⟨hb2, hf⟩ := gj_c hf
  refine gj_iald hO kl_198 kd_198 hb2 dX9_retold_9 ?_
  refine gj_istore_n (lv2 := [(3, gj_i (x1.1 198 (Int32.toNatClampNeg b1))), (0, gj_r 188), (1, gj_i b1), (2, gj_i b2)]) hO dX9_retold_10 rfl (by decide) rfl ?_
  refine gj_aload_n hO 1 dX9_retold_11 rfl rfl ?_
  refine gt_X9_21 hO wk_704 dX9_retold_12 ?_
  refine gj_iload_n hO 2 dX9_retold_15 rfl rfl ?_
  refine gj_iload_n hO 3 dX9_retold_16 rfl rfl ?_
  obtain ⟨hb3, hf⟩ := gj_c hf
  refine gj_iast hO kl_198 kd_198 hb3 dX9_retold_17 ?_
  refine gj_iload_n hO 0 dX9_retold_18 rfl rfl ?_
  obtain rfl := Option.some.inj hf
  exact gj_iret hO dX9_retold_19
set_option maxHeartbeats 4000000 in
set_option maxRecDepth 100000 in
theorem ca_X9_retold {E : gj_E} {X : gj_X} {own : String} {cc : ByteArray} {nL : Nat} {rt : Option FieldType} {fr lo : Nat} {r : Option gj_V} {τ : gj_S} {pc : Nat} {lv : List (Nat × gj_V)} {st : List gj_V} {σ : gj_S} (hO : gj_O E X own cc nL rt fr lo) {b1 : Int32} {b2 : Int32}  {idx : Nat} {x : (Int32 × gj_S)} (hf : f_X9_retold b1 b2 σ = some x) (hl : Cond.methodLink own idx yX9_retold ∈ gj_gw) (hf1 : 2 ≤ fr) (hf2 : 44 ≤ lo) (hcat : ((st.map (gj_tv E.2.1)).map fun v => v.category).sum ≤ 8) (hd : decode cc pc = .ok (.invokevirtual idx, 3)) (k : gj_G E X nL r τ (pc + 3) lv ((gj_i x.1) :: st) x.2) : gj_G E X nL r τ pc lv (gj_i b2 :: gj_i b1 :: gj_r 188 :: st) σ :=
  gj_callV hO (o := 188) (vs := [gj_i b1, gj_i b2]) (m_X9_retold  hf) hl wk_937 wk_938 wk_607 wk_939 kl_188 kd_188 (by decide) (ci := 9) rfl (n := 2) (by decide +kernel) rfl hf1 hf2 rfl hcat hd k
def f_X9_toll (b1 : Int32) (b2 : Int32) (σ : gj_S) : Option (Int32 × gj_S) := ((f_X9_isRoute b1 (gj_sI σ 188 (upd (σ.1 188) 0 (0 : Int32)))).bind fun x1 => (if x1 = 0 then some ((-1 : Int32), (gj_sI σ 188 (upd (σ.1 188) 0 (0 : Int32)))) else ((f_X9_within (Int32.toInt64 b2) (0 : Int64) (999 : Int64)).bind fun x2 => (if x2 = 0 then some ((-1 : Int32), (gj_sI σ 188 (upd (σ.1 188) 0 (0 : Int32)))) else (if gj_in ((8 : Int32) + b1) 180 then (if ((gj_sI σ 188 (upd (σ.1 188) 0 (0 : Int32))).1 198 (Int32.toNatClampNeg ((8 : Int32) + b1))) = b2 then some ((-1 : Int32), (gj_sI σ 188 (upd (σ.1 188) 0 (0 : Int32)))) else ((f_X9_retold ((8 : Int32) + b1) b2 (gj_sI σ 188 (upd (σ.1 188) 0 (0 : Int32)))).bind fun x4 => some (x4.1, x4.2))) else none)))))
set_option maxHeartbeats 4000000 in
set_option maxRecDepth 100000 in
theorem m_X9_toll {E : gj_E} {σ : gj_S} {b1 : Int32} {b2 : Int32}  {x : (Int32 × gj_S)} (hf : f_X9_toll b1 b2 σ = some x) : gj_M E yX9_toll cX9_toll 3 (some .int) 2 46 [gj_r 188, gj_i b1, gj_i b2] σ (some (gj_i x.1)) x.2 := by
  refine gj_body (lv := [(0, gj_r 188), (1, gj_i b1), (2, gj_i b2)]) (by decide +kernel) (Nat.le_of_ble_eq_true rfl) rfl (fun X hO => ?_)
  replace hO : gj_O E X RX9 cX9_toll 3 (some .int) 2 46 := hO
  unfold f_X9_toll at hf
  refine gj_aload_n hO 0 dX9_toll_0 rfl rfl ?_
  refine gj_iconst (v := 0) hO dX9_toll_1 (by decide) ?_
  refine pt_X9_0 hO wk_604 dX9_toll_2 ?_
  refine gj_aload_n hO 0 dX9_toll_5 rfl rfl ?_
  refine gj_iload_n hO 1 dX9_toll_6 rfl rfl ?_
  obtain ⟨x1, hc1, hf⟩ := gj_b hf
  refine ca_X9_isRoute hO  hc1 wk_913 (by decide) (by decide) (Nat.le_of_ble_eq_true rfl) dX9_toll_7 ?_
  refine gj_if_eq (tgt := 50) hO dX9_toll_10 (by decide) (fun h => ?_) (fun h => ?_)
  · replace hf := gj_t h hf
    refine gj_iconst (v := (-1)) hO dX9_toll_50 (by decide) ?_
    obtain rfl := Option.some.inj hf
    exact gj_iret hO dX9_toll_51
  · replace hf := gj_f h hf
    refine gj_iload_n hO 2 dX9_toll_13 rfl rfl ?_
    refine gj_i2l hO dX9_toll_14 ?_
    refine gj_lconst (v := 0) hO dX9_toll_15 (by decide) ?_
    refine gj_ldc2 hO wk_918 dX9_toll_16 ?_
    obtain ⟨x2, hc2, hf⟩ := gj_b hf
    refine ca_X9_within hO  hc2 wk_632 (by decide) (by decide) (Nat.le_of_ble_eq_true rfl) dX9_toll_19 ?_
    refine gj_if_eq (tgt := 50) hO dX9_toll_22 (by decide) (fun h => ?_) (fun h => ?_)
    · replace hf := gj_t h hf
      refine gj_iconst (v := (-1)) hO dX9_toll_50 (by decide) ?_
      obtain rfl := Option.some.inj hf
      exact gj_iret hO dX9_toll_51
    · replace hf := gj_f h hf
      refine gj_aload_n hO 0 dX9_toll_25 rfl rfl ?_
      refine gt_X9_21 hO wk_704 dX9_toll_26 ?_
      refine gj_bipush (v := 8) hO dX9_toll_29 (by decide) ?_
      refine gj_iload_n hO 1 dX9_toll_31 rfl rfl ?_
      refine gj_iadd hO dX9_toll_32 ?_
      obtain ⟨hb3, hf⟩ := gj_c hf
      refine gj_iald hO kl_198 kd_198 hb3 dX9_toll_33 ?_
      refine gj_iload_n hO 2 dX9_toll_34 rfl rfl ?_
      refine gj_icmp_eq (tgt := 50) hO dX9_toll_35 (by decide) (fun h => ?_) (fun h => ?_)
      · replace hf := gj_t h hf
        refine gj_iconst (v := (-1)) hO dX9_toll_50 (by decide) ?_
        obtain rfl := Option.some.inj hf
        exact gj_iret hO dX9_toll_51
      · replace hf := gj_f h hf
        refine gj_aload_n hO 0 dX9_toll_38 rfl rfl ?_
        refine gj_bipush (v := 8) hO dX9_toll_39 (by decide) ?_
        refine gj_iload_n hO 1 dX9_toll_41 rfl rfl ?_
        refine gj_iadd hO dX9_toll_42 ?_
        refine gj_iload_n hO 2 dX9_toll_43 rfl rfl ?_
        obtain ⟨x4, hc4, hf⟩ := gj_b hf
        refine ca_X9_retold hO  hc4 wk_940 (by decide) (by decide) (Nat.le_of_ble_eq_true rfl) dX9_toll_44 ?_
        refine gj_goto (tgt := 51) hO dX9_toll_47 (by decide) ?_
        obtain rfl := Option.some.inj hf
        exact gj_iret hO dX9_toll_51
set_option maxHeartbeats 4000000 in
set_option maxRecDepth 100000 in
theorem ca_X9_toll {E : gj_E} {X : gj_X} {own : String} {cc : ByteArray} {nL : Nat} {rt : Option FieldType} {fr lo : Nat} {r : Option gj_V} {τ : gj_S} {pc : Nat} {lv : List (Nat × gj_V)} {st : List gj_V} {σ : gj_S} (hO : gj_O E X own cc nL rt fr lo) {b1 : Int32} {b2 : Int32}  {idx : Nat} {x : (Int32 × gj_S)} (hf : f_X9_toll b1 b2 σ = some x) (hl : Cond.methodLink own idx yX9_toll ∈ gj_gw) (hf1 : 3 ≤ fr) (hf2 : 68 ≤ lo) (hcat : ((st.map (gj_tv E.2.1)).map fun v => v.category).sum ≤ 8) (hd : decode cc pc = .ok (.invokevirtual idx, 3)) (k : gj_G E X nL r τ (pc + 3) lv ((gj_i x.1) :: st) x.2) : gj_G E X nL r τ pc lv (gj_i b2 :: gj_i b1 :: gj_r 188 :: st) σ :=
  gj_callV hO (o := 188) (vs := [gj_i b1, gj_i b2]) (m_X9_toll  hf) hl wk_941 wk_942 wk_607 wk_943 kl_188 kd_188 (by decide) (ci := 9) rfl (n := 2) (by decide +kernel) rfl hf1 hf2 rfl hcat hd k
def f_X9_hold (b1 : Int32) (b2 : Int32) (σ : gj_S) : Option (Int32 × gj_S) := ((f_X9_isRoute b1 (gj_sI σ 188 (upd (σ.1 188) 0 (0 : Int32)))).bind fun x1 => (if x1 = 0 then some ((-1 : Int32), (gj_sI σ 188 (upd (σ.1 188) 0 (0 : Int32)))) else ((f_X9_within (Int32.toInt64 b2) (1 : Int64) (999 : Int64)).bind fun x2 => (if x2 = 0 then some ((-1 : Int32), (gj_sI σ 188 (upd (σ.1 188) 0 (0 : Int32)))) else (if gj_in ((24 : Int32) + b1) 180 then (if ((gj_sI σ 188 (upd (σ.1 188) 0 (0 : Int32))).1 198 (Int32.toNatClampNeg ((24 : Int32) + b1))) = b2 then some ((-1 : Int32), (gj_sI σ 188 (upd (σ.1 188) 0 (0 : Int32)))) else (if gj_in ((74 : Int32) + b1) 180 then (if ((gj_sI σ 188 (upd (σ.1 188) 0 (0 : Int32))).1 198 (Int32.toNatClampNeg ((74 : Int32) + b1))) = (2 : Int32) then some ((-2 : Int32), (gj_sI σ 188 (upd (σ.1 188) 0 (0 : Int32)))) else (if gj_in ((50 : Int32) + b1) 180 then (if ((gj_sI σ 188 (upd (σ.1 188) 0 (0 : Int32))).1 198 (Int32.toNatClampNeg ((50 : Int32) + b1))) ≤ b2 then ((f_X9_retold ((24 : Int32) + b1) b2 (gj_sI σ 188 (upd (σ.1 188) 0 (0 : Int32)))).bind fun x6 => some (x6.1, x6.2)) else some ((-2 : Int32), (gj_sI σ 188 (upd (σ.1 188) 0 (0 : Int32))))) else none)) else none)) else none)))))
set_option maxHeartbeats 4000000 in
set_option maxRecDepth 100000 in
theorem m_X9_hold {E : gj_E} {σ : gj_S} {b1 : Int32} {b2 : Int32}  {x : (Int32 × gj_S)} (hf : f_X9_hold b1 b2 σ = some x) : gj_M E yX9_hold cX9_hold 3 (some .int) 2 46 [gj_r 188, gj_i b1, gj_i b2] σ (some (gj_i x.1)) x.2 := by
  refine gj_body (lv := [(0, gj_r 188), (1, gj_i b1), (2, gj_i b2)]) (by decide +kernel) (Nat.le_of_ble_eq_true rfl) rfl (fun X hO => ?_)
  replace hO : gj_O E X RX9 cX9_hold 3 (some .int) 2 46 := hO
  unfold f_X9_hold at hf
  refine gj_aload_n hO 0 dX9_hold_0 rfl rfl ?_
  refine gj_iconst (v := 0) hO dX9_hold_1 (by decide) ?_
  refine pt_X9_0 hO wk_604 dX9_hold_2 ?_
  refine gj_aload_n hO 0 dX9_hold_5 rfl rfl ?_
  refine gj_iload_n hO 1 dX9_hold_6 rfl rfl ?_
  obtain ⟨x1, hc1, hf⟩ := gj_b hf
  refine ca_X9_isRoute hO  hc1 wk_913 (by decide) (by decide) (Nat.le_of_ble_eq_true rfl) dX9_hold_7 ?_
  refine gj_if_eq (tgt := 38) hO dX9_hold_10 (by decide) (fun h => ?_) (fun h => ?_)
  · replace hf := gj_t h hf
    refine gj_iconst (v := (-1)) hO dX9_hold_38 (by decide) ?_
    obtain rfl := Option.some.inj hf
    exact gj_iret hO dX9_hold_39
  · replace hf := gj_f h hf
    refine gj_iload_n hO 2 dX9_hold_13 rfl rfl ?_
    refine gj_i2l hO dX9_hold_14 ?_
    refine gj_lconst (v := 1) hO dX9_hold_15 (by decide) ?_
    refine gj_ldc2 hO wk_918 dX9_hold_16 ?_
    obtain ⟨x2, hc2, hf⟩ := gj_b hf
    refine ca_X9_within hO  hc2 wk_632 (by decide) (by decide) (Nat.le_of_ble_eq_true rfl) dX9_hold_19 ?_
    refine gj_if_eq (tgt := 38) hO dX9_hold_22 (by decide) (fun h => ?_) (fun h => ?_)
    · replace hf := gj_t h hf
      refine gj_iconst (v := (-1)) hO dX9_hold_38 (by decide) ?_
      obtain rfl := Option.some.inj hf
      exact gj_iret hO dX9_hold_39
    · replace hf := gj_f h hf
      refine gj_aload_n hO 0 dX9_hold_25 rfl rfl ?_
      refine gt_X9_21 hO wk_704 dX9_hold_26 ?_
      refine gj_bipush (v := 24) hO dX9_hold_29 (by decide) ?_
      refine gj_iload_n hO 1 dX9_hold_31 rfl rfl ?_
      refine gj_iadd hO dX9_hold_32 ?_
      obtain ⟨hb3, hf⟩ := gj_c hf
      refine gj_iald hO kl_198 kd_198 hb3 dX9_hold_33 ?_
      refine gj_iload_n hO 2 dX9_hold_34 rfl rfl ?_
      refine gj_icmp_ne (tgt := 40) hO dX9_hold_35 (by decide) (fun h => ?_) (fun h => ?_)
      · replace hf := gj_f h hf
        refine gj_aload_n hO 0 dX9_hold_40 rfl rfl ?_
        refine gt_X9_21 hO wk_704 dX9_hold_41 ?_
        refine gj_bipush (v := 74) hO dX9_hold_44 (by decide) ?_
        refine gj_iload_n hO 1 dX9_hold_46 rfl rfl ?_
        refine gj_iadd hO dX9_hold_47 ?_
        obtain ⟨hb4, hf⟩ := gj_c hf
        refine gj_iald hO kl_198 kd_198 hb4 dX9_hold_48 ?_
        refine gj_iconst (v := 2) hO dX9_hold_49 (by decide) ?_
        refine gj_icmp_eq (tgt := 66) hO dX9_hold_50 (by decide) (fun h => ?_) (fun h => ?_)
        · replace hf := gj_t h hf
          refine gj_bipush (v := (-2)) hO dX9_hold_66 (by decide) ?_
          refine gj_goto (tgt := 80) hO dX9_hold_68 (by decide) ?_
          obtain rfl := Option.some.inj hf
          exact gj_iret hO dX9_hold_80
        · replace hf := gj_f h hf
          refine gj_aload_n hO 0 dX9_hold_53 rfl rfl ?_
          refine gt_X9_21 hO wk_704 dX9_hold_54 ?_
          refine gj_bipush (v := 50) hO dX9_hold_57 (by decide) ?_
          refine gj_iload_n hO 1 dX9_hold_59 rfl rfl ?_
          refine gj_iadd hO dX9_hold_60 ?_
          obtain ⟨hb5, hf⟩ := gj_c hf
          refine gj_iald hO kl_198 kd_198 hb5 dX9_hold_61 ?_
          refine gj_iload_n hO 2 dX9_hold_62 rfl rfl ?_
          refine gj_icmp_le (tgt := 71) hO dX9_hold_63 (by decide) (fun h => ?_) (fun h => ?_)
          · replace hf := gj_t h hf
            refine gj_aload_n hO 0 dX9_hold_71 rfl rfl ?_
            refine gj_bipush (v := 24) hO dX9_hold_72 (by decide) ?_
            refine gj_iload_n hO 1 dX9_hold_74 rfl rfl ?_
            refine gj_iadd hO dX9_hold_75 ?_
            refine gj_iload_n hO 2 dX9_hold_76 rfl rfl ?_
            obtain ⟨x6, hc6, hf⟩ := gj_b hf
            refine ca_X9_retold hO  hc6 wk_940 (by decide) (by decide) (Nat.le_of_ble_eq_true rfl) dX9_hold_77 ?_
            obtain rfl := Option.some.inj hf
            exact gj_iret hO dX9_hold_80
          · replace hf := gj_f h hf
            refine gj_bipush (v := (-2)) hO dX9_hold_66 (by decide) ?_
            refine gj_goto (tgt := 80) hO dX9_hold_68 (by decide) ?_
            obtain rfl := Option.some.inj hf
            exact gj_iret hO dX9_hold_80
      · replace hf := gj_t h hf
        refine gj_iconst (v := (-1)) hO dX9_hold_38 (by decide) ?_
        obtain rfl := Option.some.inj hf
        exact gj_iret hO dX9_hold_39
set_option maxHeartbeats 4000000 in
set_option maxRecDepth 100000 in
theorem ca_X9_hold {E : gj_E} {X : gj_X} {own : String} {cc : ByteArray} {nL : Nat} {rt : Option FieldType} {fr lo : Nat} {r : Option gj_V} {τ : gj_S} {pc : Nat} {lv : List (Nat × gj_V)} {st : List gj_V} {σ : gj_S} (hO : gj_O E X own cc nL rt fr lo) {b1 : Int32} {b2 : Int32}  {idx : Nat} {x : (Int32 × gj_S)} (hf : f_X9_hold b1 b2 σ = some x) (hl : Cond.methodLink own idx yX9_hold ∈ gj_gw) (hf1 : 3 ≤ fr) (hf2 : 68 ≤ lo) (hcat : ((st.map (gj_tv E.2.1)).map fun v => v.category).sum ≤ 8) (hd : decode cc pc = .ok (.invokevirtual idx, 3)) (k : gj_G E X nL r τ (pc + 3) lv ((gj_i x.1) :: st) x.2) : gj_G E X nL r τ pc lv (gj_i b2 :: gj_i b1 :: gj_r 188 :: st) σ :=
  gj_callV hO (o := 188) (vs := [gj_i b1, gj_i b2]) (m_X9_hold  hf) hl wk_944 wk_945 wk_607 wk_946 kl_188 kd_188 (by decide) (ci := 9) rfl (n := 2) (by decide +kernel) rfl hf1 hf2 rfl hcat hd k
def f_X9_block (b1 : Int32) (σ : gj_S) : Option (Int32 × gj_S) := ((f_X9_within (Int32.toInt64 b1) (1 : Int64) (24 : Int64)).bind fun x1 => (if x1 = 0 then some ((-1 : Int32), (gj_sI σ 188 (upd (σ.1 188) 0 (0 : Int32)))) else (if gj_in (40 : Int32) 180 then (if ((gj_sI σ 188 (upd (σ.1 188) 0 (0 : Int32))).1 198 (Int32.toNatClampNeg (40 : Int32))) = b1 then some ((-1 : Int32), (gj_sI σ 188 (upd (σ.1 188) 0 (0 : Int32)))) else ((f_X9_retold (40 : Int32) b1 (gj_sI σ 188 (upd (σ.1 188) 0 (0 : Int32)))).bind fun x3 => some (x3.1, x3.2))) else none)))
set_option maxHeartbeats 4000000 in
set_option maxRecDepth 100000 in
theorem m_X9_block {E : gj_E} {σ : gj_S} {b1 : Int32}  {x : (Int32 × gj_S)} (hf : f_X9_block b1 σ = some x) : gj_M E yX9_block cX9_block 2 (some .int) 2 44 [gj_r 188, gj_i b1] σ (some (gj_i x.1)) x.2 := by
  refine gj_body (lv := [(0, gj_r 188), (1, gj_i b1)]) (by decide +kernel) (Nat.le_of_ble_eq_true rfl) rfl (fun X hO => ?_)
  replace hO : gj_O E X RX9 cX9_block 2 (some .int) 2 44 := hO
  unfold f_X9_block at hf
  refine gj_aload_n hO 0 dX9_block_0 rfl rfl ?_
  refine gj_iconst (v := 0) hO dX9_block_1 (by decide) ?_
  refine pt_X9_0 hO wk_604 dX9_block_2 ?_
  refine gj_iload_n hO 1 dX9_block_5 rfl rfl ?_
  refine gj_i2l hO dX9_block_6 ?_
  refine gj_lconst (v := 1) hO dX9_block_7 (by decide) ?_
  refine gj_ldc2 hO wk_947 dX9_block_8 ?_
  obtain ⟨x1, hc1, hf⟩ := gj_b hf
  refine ca_X9_within hO  hc1 wk_632 (by decide) (by decide) (Nat.le_of_ble_eq_true rfl) dX9_block_11 ?_
  refine gj_if_eq (tgt := 38) hO dX9_block_14 (by decide) (fun h => ?_) (fun h => ?_)
  · replace hf := gj_t h hf
    refine gj_iconst (v := (-1)) hO dX9_block_38 (by decide) ?_
    obtain rfl := Option.some.inj hf
    exact gj_iret hO dX9_block_39
  · replace hf := gj_f h hf
    refine gj_aload_n hO 0 dX9_block_17 rfl rfl ?_
    refine gt_X9_21 hO wk_704 dX9_block_18 ?_
    refine gj_bipush (v := 40) hO dX9_block_21 (by decide) ?_
    obtain ⟨hb2, hf⟩ := gj_c hf
    refine gj_iald hO kl_198 kd_198 hb2 dX9_block_23 ?_
    refine gj_iload_n hO 1 dX9_block_24 rfl rfl ?_
    refine gj_icmp_eq (tgt := 38) hO dX9_block_25 (by decide) (fun h => ?_) (fun h => ?_)
    · replace hf := gj_t h hf
      refine gj_iconst (v := (-1)) hO dX9_block_38 (by decide) ?_
      obtain rfl := Option.some.inj hf
      exact gj_iret hO dX9_block_39
    · replace hf := gj_f h hf
      refine gj_aload_n hO 0 dX9_block_28 rfl rfl ?_
      refine gj_bipush (v := 40) hO dX9_block_29 (by decide) ?_
      refine gj_iload_n hO 1 dX9_block_31 rfl rfl ?_
      obtain ⟨x3, hc3, hf⟩ := gj_b hf
      refine ca_X9_retold hO  hc3 wk_940 (by decide) (by decide) (Nat.le_of_ble_eq_true rfl) dX9_block_32 ?_
      refine gj_goto (tgt := 39) hO dX9_block_35 (by decide) ?_
      obtain rfl := Option.some.inj hf
      exact gj_iret hO dX9_block_39
set_option maxHeartbeats 4000000 in
set_option maxRecDepth 100000 in
theorem ca_X9_block {E : gj_E} {X : gj_X} {own : String} {cc : ByteArray} {nL : Nat} {rt : Option FieldType} {fr lo : Nat} {r : Option gj_V} {τ : gj_S} {pc : Nat} {lv : List (Nat × gj_V)} {st : List gj_V} {σ : gj_S} (hO : gj_O E X own cc nL rt fr lo) {b1 : Int32}  {idx : Nat} {x : (Int32 × gj_S)} (hf : f_X9_block b1 σ = some x) (hl : Cond.methodLink own idx yX9_block ∈ gj_gw) (hf1 : 3 ≤ fr) (hf2 : 65 ≤ lo) (hcat : ((st.map (gj_tv E.2.1)).map fun v => v.category).sum ≤ 8) (hd : decode cc pc = .ok (.invokevirtual idx, 3)) (k : gj_G E X nL r τ (pc + 3) lv ((gj_i x.1) :: st) x.2) : gj_G E X nL r τ pc lv (gj_i b1 :: gj_r 188 :: st) σ :=
  gj_callV hO (o := 188) (vs := [gj_i b1]) (m_X9_block  hf) hl wk_948 wk_949 wk_607 wk_950 kl_188 kd_188 (by decide) (ci := 9) rfl (n := 1) (by decide +kernel) rfl hf1 hf2 rfl hcat hd k
def f_X9_anew  (σ : gj_S) : Option (Int32 × gj_S) := ((f_X9_keeps (gj_sI σ 188 (upd (σ.1 188) 0 (0 : Int32)))).bind fun x1 => (if gj_in (98 : Int32) 180 then ((f_X9_begins x1).bind fun x3 => some ((x1.1 198 (Int32.toNatClampNeg (98 : Int32))), x3)) else none))
set_option maxHeartbeats 4000000 in
set_option maxRecDepth 100000 in
theorem m_X9_anew {E : gj_E} {σ : gj_S}   {x : (Int32 × gj_S)} (hf : f_X9_anew  σ = some x) : gj_M E yX9_anew cX9_anew 2 (some .int) 1 22 [gj_r 188] σ (some (gj_i x.1)) x.2 := by
  refine gj_body (lv := [(0, gj_r 188)]) (by decide +kernel) (Nat.le_of_ble_eq_true rfl) rfl (fun X hO => ?_)
  replace hO : gj_O E X RX9 cX9_anew 2 (some .int) 1 22 := hO
  unfold f_X9_anew at hf
  refine gj_aload_n hO 0 dX9_anew_0 rfl rfl ?_
  refine gj_iconst (v := 0) hO dX9_anew_1 (by decide) ?_
  refine pt_X9_0 hO wk_604 dX9_anew_2 ?_
  refine gj_aload_n hO 0 dX9_anew_5 rfl rfl ?_
  obtain ⟨x1, hc1, hf⟩ := gj_b hf
  refine ca_X9_keeps hO  hc1 wk_865 (by decide) (by decide) (Nat.le_of_ble_eq_true rfl) dX9_anew_6 ?_
  refine gj_aload_n hO 0 dX9_anew_9 rfl rfl ?_
  refine gt_X9_21 hO wk_704 dX9_anew_10 ?_
  refine gj_bipush (v := 98) hO dX9_anew_13 (by decide) ?_
  obtain ⟨hb2, hf⟩ := gj_c hf
  refine gj_iald hO kl_198 kd_198 hb2 dX9_anew_15 ?_
  refine gj_istore_n (lv2 := [(1, gj_i (x1.1 198 (Int32.toNatClampNeg (98 : Int32)))), (0, gj_r 188)]) hO dX9_anew_16 rfl (by decide) rfl ?_
  refine gj_aload_n hO 1 dX9_anew_17 rfl rfl ?_
  obtain ⟨x3, hc3, hf⟩ := gj_b hf
  refine ca_X9_begins hO  hc3 wk_709 (by decide) (by decide) (Nat.le_of_ble_eq_true rfl) dX9_anew_18 ?_
  refine gj_iload_n hO 0 dX9_anew_21 rfl rfl ?_
  obtain rfl := Option.some.inj hf
  exact gj_iret hO dX9_anew_22
set_option maxHeartbeats 4000000 in
set_option maxRecDepth 100000 in
theorem ca_X9_anew {E : gj_E} {X : gj_X} {own : String} {cc : ByteArray} {nL : Nat} {rt : Option FieldType} {fr lo : Nat} {r : Option gj_V} {τ : gj_S} {pc : Nat} {lv : List (Nat × gj_V)} {st : List gj_V} {σ : gj_S} (hO : gj_O E X own cc nL rt fr lo)   {idx : Nat} {x : (Int32 × gj_S)} (hf : f_X9_anew  σ = some x) (hl : Cond.methodLink own idx yX9_anew ∈ gj_gw) (hf1 : 2 ≤ fr) (hf2 : 43 ≤ lo) (hcat : ((st.map (gj_tv E.2.1)).map fun v => v.category).sum ≤ 8) (hd : decode cc pc = .ok (.invokevirtual idx, 3)) (k : gj_G E X nL r τ (pc + 3) lv ((gj_i x.1) :: st) x.2) : gj_G E X nL r τ pc lv (gj_r 188 :: st) σ :=
  gj_callV hO (o := 188) (vs := []) (m_X9_anew  hf) hl wk_951 wk_952 wk_607 wk_953 kl_188 kd_188 (by decide) (ci := 9) rfl (n := 0) (by decide +kernel) rfl hf1 hf2 rfl hcat hd k
def f_X9_writes (b1 : Int32) (σ : gj_S) : Option gj_S := (if gj_in (σ.1 188 40) 240 then ((some (gj_sI (gj_sI σ 210 (upd (σ.1 210) (Int32.toNatClampNeg (σ.1 188 40)) b1)) 188 (upd ((gj_sI σ 210 (upd (σ.1 210) (Int32.toNatClampNeg (σ.1 188 40)) b1)).1 188) 40 (((gj_sI σ 210 (upd (σ.1 210) (Int32.toNatClampNeg (σ.1 188 40)) b1)).1 188 40) + (1 : Int32))))).bind fun s2 => some s2) else none)
set_option maxHeartbeats 4000000 in
set_option maxRecDepth 100000 in
theorem m_X9_writes {E : gj_E} {σ : gj_S} {b1 : Int32}  {x : gj_S} (hf : f_X9_writes b1 σ = some x) : gj_M E yX9_writes cX9_writes 2 none 0 0 [gj_r 188, gj_i b1] σ none x := by
  refine gj_body (lv := [(0, gj_r 188), (1, gj_i b1)]) (by decide +kernel) (Nat.le_of_ble_eq_true rfl) rfl (fun X hO => ?_)
  replace hO : gj_O E X RX9 cX9_writes 2 none 0 0 := hO
  unfold f_X9_writes at hf
  refine gj_aload_n hO 0 dX9_writes_0 rfl rfl ?_
  refine gt_X9_39 hO wk_954 dX9_writes_1 ?_
  refine gj_aload_n hO 0 dX9_writes_4 rfl rfl ?_
  refine gt_X9_40 hO wk_955 dX9_writes_5 ?_
  refine gj_iload_n hO 1 dX9_writes_8 rfl rfl ?_
  obtain ⟨hb1, hf⟩ := gj_c hf
  refine gj_iast hO kl_210 kd_210 hb1 dX9_writes_9 ?_
  refine gj_aload_n hO 0 dX9_writes_10 rfl rfl ?_
  refine gj_dup hO dX9_writes_11 trivial ?_
  refine gt_X9_40 hO wk_955 dX9_writes_12 ?_
  refine gj_iconst (v := 1) hO dX9_writes_15 (by decide) ?_
  refine gj_iadd hO dX9_writes_16 ?_
  refine pt_X9_40 hO wk_955 dX9_writes_17 ?_
  obtain ⟨s2, e2, hf⟩ := gj_b hf
  refine gj_eqS (Option.some.inj e2) ?_
  obtain rfl := Option.some.inj hf
  exact gj_vret hO dX9_writes_20
set_option maxHeartbeats 4000000 in
set_option maxRecDepth 100000 in
theorem ca_X9_writes {E : gj_E} {X : gj_X} {own : String} {cc : ByteArray} {nL : Nat} {rt : Option FieldType} {fr lo : Nat} {r : Option gj_V} {τ : gj_S} {pc : Nat} {lv : List (Nat × gj_V)} {st : List gj_V} {σ : gj_S} (hO : gj_O E X own cc nL rt fr lo) {b1 : Int32}  {idx : Nat} {x : gj_S} (hf : f_X9_writes b1 σ = some x) (hl : Cond.methodLink own idx yX9_writes ∈ gj_gw) (hf1 : 1 ≤ fr) (hf2 : 21 ≤ lo) (hcat : ((st.map (gj_tv E.2.1)).map fun v => v.category).sum ≤ 8) (hd : decode cc pc = .ok (.invokevirtual idx, 3)) (k : gj_G E X nL r τ (pc + 3) lv (st) x) : gj_G E X nL r τ pc lv (gj_i b1 :: gj_r 188 :: st) σ :=
  gj_callV hO (o := 188) (vs := [gj_i b1]) (m_X9_writes  hf) hl wk_956 wk_957 wk_607 wk_958 kl_188 kd_188 (by decide) (ci := 9) rfl (n := 1) (by decide +kernel) rfl hf1 hf2 rfl hcat hd k
def fb_X9_writesName_l3 (b1 : Int64) (a1 : (Int32 × gj_S)) : Option (gj_S ⊕ (Int32 × gj_S)) := (if a1.1 < 0 then some (.inl a1.2) else (if (Int64.toInt32 ((b1 >>> (Int32.toInt64 a1.1 &&& 63)) &&& (31 : Int64))) ≤ 0 then some (.inr ((a1.1 + (-5)), a1.2)) else ((f_X9_writes ((96 : Int32) + (Int64.toInt32 ((b1 >>> (Int32.toInt64 a1.1 &&& 63)) &&& (31 : Int64)))) a1.2).bind fun x3 => some (.inr ((a1.1 + (-5)), x3)))))
def f_X9_writesName (b1 : Int64) (σ : gj_S) : Option gj_S := ((gj_lp (fb_X9_writesName_l3 b1) 5000 ((25 : Int32), σ)).bind fun z1 => some z1)
set_option maxHeartbeats 4000000 in
set_option maxRecDepth 100000 in
theorem sb_X9_writesName_l3 {E : gj_E} {X : gj_X} {r : Option gj_V} {τ : gj_S} (hO : gj_O E X RX9 cX9_writesName 5 none 1 21) {b1 : Int64} {a1 : (Int32 × gj_S)} {x : gj_S ⊕ (Int32 × gj_S)} (hf : fb_X9_writesName_l3 b1 a1 = some x) (K : gj_K (fun z1 => gj_G E X 5 r τ 37 [] [] z1) (fun a1 => gj_G E X 5 r τ 3 [(0, gj_r 188), (1, gj_l b1), (3, gj_i a1.1)] [] a1.2) x) : gj_G E X 5 r τ 3 [(0, gj_r 188), (1, gj_l b1), (3, gj_i a1.1)] [] a1.2 := by
  unfold fb_X9_writesName_l3 at hf
  refine gj_iload_n hO 2 dX9_writesName_3 rfl rfl ?_
  refine gj_if_lt (tgt := 37) hO dX9_writesName_4 (by decide) (fun h => ?_) (fun h => ?_)
  · replace hf := gj_t h hf
    obtain rfl := Option.some.inj hf
    refine gj_sub [] rfl ?_
    exact K
  · replace hf := gj_f h hf
    refine gj_lload_n hO 1 dX9_writesName_7 rfl rfl ?_
    refine gj_iload_n hO 2 dX9_writesName_8 rfl rfl ?_
    refine gj_lshr hO dX9_writesName_9 ?_
    refine gj_ldc2 hO wk_959 dX9_writesName_10 ?_
    refine gj_land hO dX9_writesName_13 ?_
    refine gj_l2i hO dX9_writesName_14 ?_
    refine gj_istore (lv2 := [(4, gj_i (Int64.toInt32 ((b1 >>> (Int32.toInt64 a1.1 &&& 63)) &&& (31 : Int64)))), (0, gj_r 188), (1, gj_l b1), (3, gj_i a1.1)]) hO dX9_writesName_15 (by decide) rfl ?_
    refine gj_iload hO 0 dX9_writesName_17 rfl ?_
    refine gj_if_le (tgt := 31) hO dX9_writesName_19 (by decide) (fun h => ?_) (fun h => ?_)
    · replace hf := gj_t h hf
      refine gj_iinc (v := (a1.1 + (-5))) (lv2 := [(3, gj_i (a1.1 + (-5))), (4, gj_i (Int64.toInt32 ((b1 >>> (Int32.toInt64 a1.1 &&& 63)) &&& (31 : Int64)))), (0, gj_r 188), (1, gj_l b1)]) hO 3 dX9_writesName_31 rfl rfl (by decide) rfl ?_
      refine gj_goto (tgt := 3) hO dX9_writesName_34 (by decide) ?_
      obtain rfl := Option.some.inj hf
      refine gj_sub [2, 3, 0] rfl ?_
      exact K
    · replace hf := gj_f h hf
      refine gj_aload_n hO 1 dX9_writesName_22 rfl rfl ?_
      refine gj_bipush (v := 96) hO dX9_writesName_23 (by decide) ?_
      refine gj_iload hO 0 dX9_writesName_25 rfl ?_
      refine gj_iadd hO dX9_writesName_27 ?_
      obtain ⟨x3, hc3, hf⟩ := gj_b hf
      refine ca_X9_writes hO  hc3 wk_960 (by decide) (by decide) (Nat.le_of_ble_eq_true rfl) dX9_writesName_28 ?_
      refine gj_iinc (v := (a1.1 + (-5))) (lv2 := [(3, gj_i (a1.1 + (-5))), (4, gj_i (Int64.toInt32 ((b1 >>> (Int32.toInt64 a1.1 &&& 63)) &&& (31 : Int64)))), (0, gj_r 188), (1, gj_l b1)]) hO 3 dX9_writesName_31 rfl rfl (by decide) rfl ?_
      refine gj_goto (tgt := 3) hO dX9_writesName_34 (by decide) ?_
      obtain rfl := Option.some.inj hf
      refine gj_sub [2, 3, 0] rfl ?_
      exact K
set_option maxHeartbeats 4000000 in
set_option maxRecDepth 100000 in
theorem m_X9_writesName {E : gj_E} {σ : gj_S} {b1 : Int64}  {x : gj_S} (hf : f_X9_writesName b1 σ = some x) : gj_M E yX9_writesName cX9_writesName 5 none 1 21 [gj_r 188, gj_l b1] σ none x := by
  refine gj_body (lv := [(0, gj_r 188), (1, gj_l b1)]) (by decide +kernel) (Nat.le_of_ble_eq_true rfl) rfl (fun X hO => ?_)
  replace hO : gj_O E X RX9 cX9_writesName 5 none 1 21 := hO
  unfold f_X9_writesName at hf
  refine gj_bipush (v := 25) hO dX9_writesName_0 (by decide) ?_
  refine gj_istore_n (lv2 := [(3, gj_i (25 : Int32)), (0, gj_r 188), (1, gj_l b1)]) hO dX9_writesName_2 rfl (by decide) rfl ?_
  obtain ⟨z1, hz1, hf⟩ := gj_b hf
  have J1 : gj_G E X 5 none x 37 [] [] z1 := by
    obtain rfl := Option.some.inj hf
    exact gj_vret hO dX9_writesName_37
  refine gj_sub [1, 2, 0] rfl ?_
  exact gj_loop (head := fun a1 => gj_G E X 5 none x 3 [(0, gj_r 188), (1, gj_l b1), (3, gj_i a1.1)] [] a1.2) (exit := fun z1 => gj_G E X 5 none x 37 [] [] z1) (fun a1 x hf K => sb_X9_writesName_l3 hO hf K) _ _ _ hz1 J1
set_option maxHeartbeats 4000000 in
set_option maxRecDepth 100000 in
theorem ca_X9_writesName {E : gj_E} {X : gj_X} {own : String} {cc : ByteArray} {nL : Nat} {rt : Option FieldType} {fr lo : Nat} {r : Option gj_V} {τ : gj_S} {pc : Nat} {lv : List (Nat × gj_V)} {st : List gj_V} {σ : gj_S} (hO : gj_O E X own cc nL rt fr lo) {b1 : Int64}  {idx : Nat} {x : gj_S} (hf : f_X9_writesName b1 σ = some x) (hl : Cond.methodLink own idx yX9_writesName ∈ gj_gw) (hf1 : 2 ≤ fr) (hf2 : 45 ≤ lo) (hcat : ((st.map (gj_tv E.2.1)).map fun v => v.category).sum ≤ 8) (hd : decode cc pc = .ok (.invokevirtual idx, 3)) (k : gj_G E X nL r τ (pc + 3) lv (st) x) : gj_G E X nL r τ pc lv (gj_l b1 :: gj_r 188 :: st) σ :=
  gj_callV hO (o := 188) (vs := [gj_l b1]) (m_X9_writesName  hf) hl wk_961 wk_962 wk_607 wk_963 kl_188 kd_188 (by decide) (ci := 9) rfl (n := 1) (by decide +kernel) rfl hf1 hf2 rfl hcat hd k
def f_X9_writesNumber (b1 : Int32) (σ : gj_S) : Option gj_S := ((if b1 ≤ (99 : Int32) then some σ else ((f_X9_writes ((48 : Int32) + (b1 / (100 : Int32))) σ).bind fun x2 => some x2) : Option gj_S).bind fun z1 => ((if b1 ≤ (9 : Int32) then some z1 else ((f_X9_writes ((48 : Int32) + ((b1 / (10 : Int32)) - (b1 / (10 : Int32)) / (10 : Int32) * (10 : Int32))) z1).bind fun x4 => some x4) : Option gj_S).bind fun z3 => ((f_X9_writes ((48 : Int32) + (b1 - b1 / (10 : Int32) * (10 : Int32))) z3).bind fun x5 => some x5)))
set_option maxHeartbeats 4000000 in
set_option maxRecDepth 100000 in
theorem m_X9_writesNumber {E : gj_E} {σ : gj_S} {b1 : Int32}  {x : gj_S} (hf : f_X9_writesNumber b1 σ = some x) : gj_M E yX9_writesNumber cX9_writesNumber 2 none 1 21 [gj_r 188, gj_i b1] σ none x := by
  refine gj_body (lv := [(0, gj_r 188), (1, gj_i b1)]) (by decide +kernel) (Nat.le_of_ble_eq_true rfl) rfl (fun X hO => ?_)
  replace hO : gj_O E X RX9 cX9_writesNumber 2 none 1 21 := hO
  unfold f_X9_writesNumber at hf
  refine gj_iload_n hO 1 dX9_writesNumber_0 rfl rfl ?_
  refine gj_bipush (v := 99) hO dX9_writesNumber_1 (by decide) ?_
  obtain ⟨z1, hz1, hf⟩ := gj_b hf
  have J1 : gj_G E X 2 none x 17 [(0, gj_r 188), (1, gj_i b1)] [] z1 := by
    refine gj_iload_n hO 1 dX9_writesNumber_17 rfl rfl ?_
    refine gj_bipush (v := 9) hO dX9_writesNumber_18 (by decide) ?_
    obtain ⟨z3, hz3, hf⟩ := gj_b hf
    have J3 : gj_G E X 2 none x 37 [(0, gj_r 188), (1, gj_i b1)] [] z3 := by
      refine gj_aload_n hO 0 dX9_writesNumber_37 rfl rfl ?_
      refine gj_bipush (v := 48) hO dX9_writesNumber_38 (by decide) ?_
      refine gj_iload_n hO 1 dX9_writesNumber_40 rfl rfl ?_
      refine gj_bipush (v := 10) hO dX9_writesNumber_41 (by decide) ?_
      refine gj_irem hO dX9_writesNumber_43 (by decide) ?_
      refine gj_iadd hO dX9_writesNumber_44 ?_
      obtain ⟨x5, hc5, hf⟩ := gj_b hf
      refine ca_X9_writes hO  hc5 wk_960 (by decide) (by decide) (Nat.le_of_ble_eq_true rfl) dX9_writesNumber_45 ?_
      obtain rfl := Option.some.inj hf
      exact gj_vret hO dX9_writesNumber_48
    refine gj_icmp_le (tgt := 37) hO dX9_writesNumber_20 (by decide) (fun h => ?_) (fun h => ?_)
    · replace hz3 := gj_t h hz3
      obtain rfl := Option.some.inj hz3
      refine gj_sub [0, 1] rfl ?_
      exact J3
    · replace hz3 := gj_f h hz3
      refine gj_aload_n hO 0 dX9_writesNumber_23 rfl rfl ?_
      refine gj_bipush (v := 48) hO dX9_writesNumber_24 (by decide) ?_
      refine gj_iload_n hO 1 dX9_writesNumber_26 rfl rfl ?_
      refine gj_bipush (v := 10) hO dX9_writesNumber_27 (by decide) ?_
      refine gj_idiv hO dX9_writesNumber_29 (by decide) ?_
      refine gj_bipush (v := 10) hO dX9_writesNumber_30 (by decide) ?_
      refine gj_irem hO dX9_writesNumber_32 (by decide) ?_
      refine gj_iadd hO dX9_writesNumber_33 ?_
      obtain ⟨x4, hc4, hz3⟩ := gj_b hz3
      refine ca_X9_writes hO  hc4 wk_960 (by decide) (by decide) (Nat.le_of_ble_eq_true rfl) dX9_writesNumber_34 ?_
      obtain rfl := Option.some.inj hz3
      refine gj_sub [0, 1] rfl ?_
      exact J3
  refine gj_icmp_le (tgt := 17) hO dX9_writesNumber_3 (by decide) (fun h => ?_) (fun h => ?_)
  · replace hz1 := gj_t h hz1
    obtain rfl := Option.some.inj hz1
    refine gj_sub [0, 1] rfl ?_
    exact J1
  · replace hz1 := gj_f h hz1
    refine gj_aload_n hO 0 dX9_writesNumber_6 rfl rfl ?_
    refine gj_bipush (v := 48) hO dX9_writesNumber_7 (by decide) ?_
    refine gj_iload_n hO 1 dX9_writesNumber_9 rfl rfl ?_
    refine gj_bipush (v := 100) hO dX9_writesNumber_10 (by decide) ?_
    refine gj_idiv hO dX9_writesNumber_12 (by decide) ?_
    refine gj_iadd hO dX9_writesNumber_13 ?_
    obtain ⟨x2, hc2, hz1⟩ := gj_b hz1
    refine ca_X9_writes hO  hc2 wk_960 (by decide) (by decide) (Nat.le_of_ble_eq_true rfl) dX9_writesNumber_14 ?_
    obtain rfl := Option.some.inj hz1
    refine gj_sub [0, 1] rfl ?_
    exact J1
set_option maxHeartbeats 4000000 in
set_option maxRecDepth 100000 in
theorem ca_X9_writesNumber {E : gj_E} {X : gj_X} {own : String} {cc : ByteArray} {nL : Nat} {rt : Option FieldType} {fr lo : Nat} {r : Option gj_V} {τ : gj_S} {pc : Nat} {lv : List (Nat × gj_V)} {st : List gj_V} {σ : gj_S} (hO : gj_O E X own cc nL rt fr lo) {b1 : Int32}  {idx : Nat} {x : gj_S} (hf : f_X9_writesNumber b1 σ = some x) (hl : Cond.methodLink own idx yX9_writesNumber ∈ gj_gw) (hf1 : 2 ≤ fr) (hf2 : 42 ≤ lo) (hcat : ((st.map (gj_tv E.2.1)).map fun v => v.category).sum ≤ 8) (hd : decode cc pc = .ok (.invokevirtual idx, 3)) (k : gj_G E X nL r τ (pc + 3) lv (st) x) : gj_G E X nL r τ pc lv (gj_i b1 :: gj_r 188 :: st) σ :=
  gj_callV hO (o := 188) (vs := [gj_i b1]) (m_X9_writesNumber  hf) hl wk_964 wk_965 wk_607 wk_966 kl_188 kd_188 (by decide) (ci := 9) rfl (n := 1) (by decide +kernel) rfl hf1 hf2 rfl hcat hd k
def fb_X9_sheet_l19 (b1 : Int32) (a1 : (Int32 × gj_S)) : Option (gj_S ⊕ (Int32 × gj_S)) := (if gj_in (0 : Int32) 2 then (if (a1.2.1 191 (Int32.toNatClampNeg (0 : Int32))) ≤ a1.1 then some (.inl a1.2) else (if gj_in ((50 : Int32) + a1.1) 180 then (if (a1.2.1 198 (Int32.toNatClampNeg ((50 : Int32) + a1.1))) = 0 then some (.inr ((a1.1 + 1), a1.2)) else (if gj_in ((8 : Int32) + a1.1) 48 then ((f_X9_writesName (a1.2.2.1 192 (Int32.toNatClampNeg ((8 : Int32) + a1.1))) a1.2).bind fun x6 => ((f_X9_writes (32 : Int32) x6).bind fun x7 => (if gj_in ((50 : Int32) + a1.1) 180 then ((f_X9_writesNumber (x7.1 198 (Int32.toNatClampNeg ((50 : Int32) + a1.1))) x7).bind fun x9 => ((f_X9_writes (59 : Int32) x9).bind fun x10 => some (.inr ((a1.1 + 1), x10)))) else none))) else none)) else none)) else none)
def f_X9_sheet (b1 : Int32) (σ : gj_S) : Option (Int32 × gj_S) := (if (-1 : Int32) ≤ b1 then ((gj_lp (fb_X9_sheet_l19 b1) 5000 ((0 : Int32), (gj_sI (gj_sI σ 188 (upd (σ.1 188) 0 (0 : Int32))) 188 (upd ((gj_sI σ 188 (upd (σ.1 188) 0 (0 : Int32))).1 188) 40 (0 : Int32))))).bind fun z1 => (if b1 = (-1 : Int32) then some ((z1.1 188 40), z1) else (if (z1.1 188 40) ≤ b1 then some ((-2 : Int32), z1) else (if gj_in b1 240 then some ((z1.1 210 (Int32.toNatClampNeg b1)), z1) else none)))) else some ((-1 : Int32), (gj_sI σ 188 (upd (σ.1 188) 0 (0 : Int32)))))
set_option maxHeartbeats 4000000 in
set_option maxRecDepth 100000 in
theorem sb_X9_sheet_l19 {E : gj_E} {X : gj_X} {r : Option gj_V} {τ : gj_S} (hO : gj_O E X RX9 cX9_sheet 3 (some .int) 2 45) {b1 : Int32} {a1 : (Int32 × gj_S)} {x : gj_S ⊕ (Int32 × gj_S)} (hf : fb_X9_sheet_l19 b1 a1 = some x) (K : gj_K (fun z1 => gj_G E X 3 r τ 88 [(0, gj_r 188), (1, gj_i b1)] [] z1) (fun a1 => gj_G E X 3 r τ 19 [(0, gj_r 188), (1, gj_i b1), (2, gj_i a1.1)] [] a1.2) x) : gj_G E X 3 r τ 19 [(0, gj_r 188), (1, gj_i b1), (2, gj_i a1.1)] [] a1.2 := by
  unfold fb_X9_sheet_l19 at hf
  refine gj_iload_n hO 2 dX9_sheet_19 rfl rfl ?_
  refine gj_aload_n hO 0 dX9_sheet_20 rfl rfl ?_
  refine gt_X9_12 hO wk_672 dX9_sheet_21 ?_
  refine gj_iconst (v := 0) hO dX9_sheet_24 (by decide) ?_
  obtain ⟨hb3, hf⟩ := gj_c hf
  refine gj_iald hO kl_191 kd_191 hb3 dX9_sheet_25 ?_
  refine gj_icmp_ge (tgt := 88) hO dX9_sheet_26 (by decide) (fun h => ?_) (fun h => ?_)
  · replace hf := gj_t h hf
    obtain rfl := Option.some.inj hf
    refine gj_sub [0, 1] rfl ?_
    exact K
  · replace hf := gj_f h hf
    refine gj_aload_n hO 0 dX9_sheet_29 rfl rfl ?_
    refine gt_X9_21 hO wk_704 dX9_sheet_30 ?_
    refine gj_bipush (v := 50) hO dX9_sheet_33 (by decide) ?_
    refine gj_iload_n hO 2 dX9_sheet_35 rfl rfl ?_
    refine gj_iadd hO dX9_sheet_36 ?_
    obtain ⟨hb4, hf⟩ := gj_c hf
    refine gj_iald hO kl_198 kd_198 hb4 dX9_sheet_37 ?_
    refine gj_if_ne (tgt := 44) hO dX9_sheet_38 (by decide) (fun h => ?_) (fun h => ?_)
    · replace hf := gj_f h hf
      refine gj_aload_n hO 0 dX9_sheet_44 rfl rfl ?_
      refine gj_aload_n hO 0 dX9_sheet_45 rfl rfl ?_
      refine gt_X9_13 hO wk_665 dX9_sheet_46 ?_
      refine gj_bipush (v := 8) hO dX9_sheet_49 (by decide) ?_
      refine gj_iload_n hO 2 dX9_sheet_51 rfl rfl ?_
      refine gj_iadd hO dX9_sheet_52 ?_
      obtain ⟨hb5, hf⟩ := gj_c hf
      refine gj_lald hO kl_192 kd_192 hb5 dX9_sheet_53 ?_
      obtain ⟨x6, hc6, hf⟩ := gj_b hf
      refine ca_X9_writesName hO  hc6 wk_967 (by decide) (by decide) (Nat.le_of_ble_eq_true rfl) dX9_sheet_54 ?_
      refine gj_aload_n hO 0 dX9_sheet_57 rfl rfl ?_
      refine gj_bipush (v := 32) hO dX9_sheet_58 (by decide) ?_
      obtain ⟨x7, hc7, hf⟩ := gj_b hf
      refine ca_X9_writes hO  hc7 wk_960 (by decide) (by decide) (Nat.le_of_ble_eq_true rfl) dX9_sheet_60 ?_
      refine gj_aload_n hO 0 dX9_sheet_63 rfl rfl ?_
      refine gj_aload_n hO 0 dX9_sheet_64 rfl rfl ?_
      refine gt_X9_21 hO wk_704 dX9_sheet_65 ?_
      refine gj_bipush (v := 50) hO dX9_sheet_68 (by decide) ?_
      refine gj_iload_n hO 2 dX9_sheet_70 rfl rfl ?_
      refine gj_iadd hO dX9_sheet_71 ?_
      obtain ⟨hb8, hf⟩ := gj_c hf
      refine gj_iald hO kl_198 kd_198 hb8 dX9_sheet_72 ?_
      obtain ⟨x9, hc9, hf⟩ := gj_b hf
      refine ca_X9_writesNumber hO  hc9 wk_968 (by decide) (by decide) (Nat.le_of_ble_eq_true rfl) dX9_sheet_73 ?_
      refine gj_aload_n hO 0 dX9_sheet_76 rfl rfl ?_
      refine gj_bipush (v := 59) hO dX9_sheet_77 (by decide) ?_
      obtain ⟨x10, hc10, hf⟩ := gj_b hf
      refine ca_X9_writes hO  hc10 wk_960 (by decide) (by decide) (Nat.le_of_ble_eq_true rfl) dX9_sheet_79 ?_
      refine gj_iinc (v := (a1.1 + 1)) (lv2 := [(2, gj_i (a1.1 + 1)), (0, gj_r 188), (1, gj_i b1)]) hO 2 dX9_sheet_82 rfl rfl (by decide) rfl ?_
      refine gj_goto (tgt := 19) hO dX9_sheet_85 (by decide) ?_
      obtain rfl := Option.some.inj hf
      refine gj_sub [1, 2, 0] rfl ?_
      exact K
    · replace hf := gj_t h hf
      refine gj_goto (tgt := 82) hO dX9_sheet_41 (by decide) ?_
      refine gj_iinc (v := (a1.1 + 1)) (lv2 := [(2, gj_i (a1.1 + 1)), (0, gj_r 188), (1, gj_i b1)]) hO 2 dX9_sheet_82 rfl rfl (by decide) rfl ?_
      refine gj_goto (tgt := 19) hO dX9_sheet_85 (by decide) ?_
      obtain rfl := Option.some.inj hf
      refine gj_sub [1, 2, 0] rfl ?_
      exact K
set_option maxHeartbeats 4000000 in
set_option maxRecDepth 100000 in
theorem m_X9_sheet {E : gj_E} {σ : gj_S} {b1 : Int32}  {x : (Int32 × gj_S)} (hf : f_X9_sheet b1 σ = some x) : gj_M E yX9_sheet cX9_sheet 3 (some .int) 2 45 [gj_r 188, gj_i b1] σ (some (gj_i x.1)) x.2 := by
  refine gj_body (lv := [(0, gj_r 188), (1, gj_i b1)]) (by decide +kernel) (Nat.le_of_ble_eq_true rfl) rfl (fun X hO => ?_)
  replace hO : gj_O E X RX9 cX9_sheet 3 (some .int) 2 45 := hO
  unfold f_X9_sheet at hf
  refine gj_aload_n hO 0 dX9_sheet_0 rfl rfl ?_
  refine gj_iconst (v := 0) hO dX9_sheet_1 (by decide) ?_
  refine pt_X9_0 hO wk_604 dX9_sheet_2 ?_
  refine gj_iload_n hO 1 dX9_sheet_5 rfl rfl ?_
  refine gj_iconst (v := (-1)) hO dX9_sheet_6 (by decide) ?_
  refine gj_icmp_ge (tgt := 12) hO dX9_sheet_7 (by decide) (fun h => ?_) (fun h => ?_)
  · replace hf := gj_t h hf
    refine gj_aload_n hO 0 dX9_sheet_12 rfl rfl ?_
    refine gj_iconst (v := 0) hO dX9_sheet_13 (by decide) ?_
    refine pt_X9_40 hO wk_955 dX9_sheet_14 ?_
    refine gj_iconst (v := 0) hO dX9_sheet_17 (by decide) ?_
    refine gj_istore_n (lv2 := [(2, gj_i (0 : Int32)), (0, gj_r 188), (1, gj_i b1)]) hO dX9_sheet_18 rfl (by decide) rfl ?_
    obtain ⟨z1, hz1, hf⟩ := gj_b hf
    have J1 : gj_G E X 3 (some (gj_i x.1)) x.2 88 [(0, gj_r 188), (1, gj_i b1)] [] z1 := by
      refine gj_iload_n hO 1 dX9_sheet_88 rfl rfl ?_
      refine gj_iconst (v := (-1)) hO dX9_sheet_89 (by decide) ?_
      refine gj_icmp_ne (tgt := 100) hO dX9_sheet_90 (by decide) (fun h => ?_) (fun h => ?_)
      · replace hf := gj_f h hf
        refine gj_iload_n hO 1 dX9_sheet_100 rfl rfl ?_
        refine gj_aload_n hO 0 dX9_sheet_101 rfl rfl ?_
        refine gt_X9_40 hO wk_955 dX9_sheet_102 ?_
        refine gj_icmp_ge (tgt := 117) hO dX9_sheet_105 (by decide) (fun h => ?_) (fun h => ?_)
        · replace hf := gj_t h hf
          refine gj_bipush (v := (-2)) hO dX9_sheet_117 (by decide) ?_
          obtain rfl := Option.some.inj hf
          exact gj_iret hO dX9_sheet_119
        · replace hf := gj_f h hf
          refine gj_aload_n hO 0 dX9_sheet_108 rfl rfl ?_
          refine gt_X9_39 hO wk_954 dX9_sheet_109 ?_
          refine gj_iload_n hO 1 dX9_sheet_112 rfl rfl ?_
          obtain ⟨hb11, hf⟩ := gj_c hf
          refine gj_iald hO kl_210 kd_210 hb11 dX9_sheet_113 ?_
          refine gj_goto (tgt := 119) hO dX9_sheet_114 (by decide) ?_
          obtain rfl := Option.some.inj hf
          exact gj_iret hO dX9_sheet_119
      · replace hf := gj_t h hf
        refine gj_aload_n hO 0 dX9_sheet_93 rfl rfl ?_
        refine gt_X9_40 hO wk_955 dX9_sheet_94 ?_
        refine gj_goto (tgt := 119) hO dX9_sheet_97 (by decide) ?_
        obtain rfl := Option.some.inj hf
        exact gj_iret hO dX9_sheet_119
    refine gj_sub [1, 2, 0] rfl ?_
    exact gj_loop (head := fun a1 => gj_G E X 3 (some (gj_i x.1)) x.2 19 [(0, gj_r 188), (1, gj_i b1), (2, gj_i a1.1)] [] a1.2) (exit := fun z1 => gj_G E X 3 (some (gj_i x.1)) x.2 88 [(0, gj_r 188), (1, gj_i b1)] [] z1) (fun a1 x hf K => sb_X9_sheet_l19 hO hf K) _ _ _ hz1 J1
  · replace hf := gj_f h hf
    refine gj_iconst (v := (-1)) hO dX9_sheet_10 (by decide) ?_
    obtain rfl := Option.some.inj hf
    exact gj_iret hO dX9_sheet_11
set_option maxHeartbeats 4000000 in
set_option maxRecDepth 100000 in
theorem ca_X9_sheet {E : gj_E} {X : gj_X} {own : String} {cc : ByteArray} {nL : Nat} {rt : Option FieldType} {fr lo : Nat} {r : Option gj_V} {τ : gj_S} {pc : Nat} {lv : List (Nat × gj_V)} {st : List gj_V} {σ : gj_S} (hO : gj_O E X own cc nL rt fr lo) {b1 : Int32}  {idx : Nat} {x : (Int32 × gj_S)} (hf : f_X9_sheet b1 σ = some x) (hl : Cond.methodLink own idx yX9_sheet ∈ gj_gw) (hf1 : 3 ≤ fr) (hf2 : 67 ≤ lo) (hcat : ((st.map (gj_tv E.2.1)).map fun v => v.category).sum ≤ 8) (hd : decode cc pc = .ok (.invokevirtual idx, 3)) (k : gj_G E X nL r τ (pc + 3) lv ((gj_i x.1) :: st) x.2) : gj_G E X nL r τ pc lv (gj_i b1 :: gj_r 188 :: st) σ :=
  gj_callV hO (o := 188) (vs := [gj_i b1]) (m_X9_sheet  hf) hl wk_969 wk_970 wk_607 wk_971 kl_188 kd_188 (by decide) (ci := 9) rfl (n := 1) (by decide +kernel) rfl hf1 hf2 rfl hcat hd k
def fb_X9_undo_l26  (a2 : (Int32 × gj_S)) : Option (gj_S ⊕ (Int32 × gj_S)) := (if (180 : Int32) ≤ a2.1 then some (.inl a2.2) else (if gj_in (((180 : Int32) * (a2.2.1 188 23)) + a2.1) 2160 then (if gj_in a2.1 180 then some (.inr ((a2.1 + 1), (gj_sI a2.2 198 (upd (a2.2.1 198) (Int32.toNatClampNeg a2.1) (a2.2.1 199 (Int32.toNatClampNeg (((180 : Int32) * (a2.2.1 188 23)) + a2.1))))))) else none) else none))
def f_X9_undo  (σ : gj_S) : Option (Int32 × gj_S) := (if ((gj_sI σ 188 (upd (σ.1 188) 0 (0 : Int32))).1 188 23) = 0 then some ((-1 : Int32), (gj_sI σ 188 (upd (σ.1 188) 0 (0 : Int32)))) else ((some (gj_sI (gj_sI σ 188 (upd (σ.1 188) 0 (0 : Int32))) 188 (upd ((gj_sI σ 188 (upd (σ.1 188) 0 (0 : Int32))).1 188) 23 (((gj_sI σ 188 (upd (σ.1 188) 0 (0 : Int32))).1 188 23) - (1 : Int32))))).bind fun s1 => ((gj_lp (fb_X9_undo_l26) 5000 ((0 : Int32), s1)).bind fun z2 => some ((z2.1 188 23), z2))))
set_option maxHeartbeats 4000000 in
set_option maxRecDepth 100000 in
theorem sb_X9_undo_l26 {E : gj_E} {X : gj_X} {r : Option gj_V} {τ : gj_S} (hO : gj_O E X RX9 cX9_undo 2 (some .int) 0 0)  {a2 : (Int32 × gj_S)} {x : gj_S ⊕ (Int32 × gj_S)} (hf : fb_X9_undo_l26  a2 = some x) (K : gj_K (fun z2 => gj_G E X 2 r τ 60 [(0, gj_r 188)] [] z2) (fun a2 => gj_G E X 2 r τ 26 [(0, gj_r 188), (1, gj_i a2.1)] [] a2.2) x) : gj_G E X 2 r τ 26 [(0, gj_r 188), (1, gj_i a2.1)] [] a2.2 := by
  unfold fb_X9_undo_l26 at hf
  refine gj_iload_n hO 1 dX9_undo_26 rfl rfl ?_
  refine gj_sipush (v := 180) hO dX9_undo_27 (by decide) ?_
  refine gj_icmp_ge (tgt := 60) hO dX9_undo_30 (by decide) (fun h => ?_) (fun h => ?_)
  · replace hf := gj_t h hf
    obtain rfl := Option.some.inj hf
    refine gj_sub [0] rfl ?_
    exact K
  · replace hf := gj_f h hf
    refine gj_aload_n hO 0 dX9_undo_33 rfl rfl ?_
    refine gt_X9_21 hO wk_704 dX9_undo_34 ?_
    refine gj_iload_n hO 1 dX9_undo_37 rfl rfl ?_
    refine gj_aload_n hO 0 dX9_undo_38 rfl rfl ?_
    refine gt_X9_22 hO wk_860 dX9_undo_39 ?_
    refine gj_sipush (v := 180) hO dX9_undo_42 (by decide) ?_
    refine gj_aload_n hO 0 dX9_undo_45 rfl rfl ?_
    refine gt_X9_23 hO wk_710 dX9_undo_46 ?_
    refine gj_imul hO dX9_undo_49 ?_
    refine gj_iload_n hO 1 dX9_undo_50 rfl rfl ?_
    refine gj_iadd hO dX9_undo_51 ?_
    obtain ⟨hb4, hf⟩ := gj_c hf
    refine gj_iald hO kl_199 kd_199 hb4 dX9_undo_52 ?_
    obtain ⟨hb5, hf⟩ := gj_c hf
    refine gj_iast hO kl_198 kd_198 hb5 dX9_undo_53 ?_
    refine gj_iinc (v := (a2.1 + 1)) (lv2 := [(1, gj_i (a2.1 + 1)), (0, gj_r 188)]) hO 1 dX9_undo_54 rfl rfl (by decide) rfl ?_
    refine gj_goto (tgt := 26) hO dX9_undo_57 (by decide) ?_
    obtain rfl := Option.some.inj hf
    refine gj_sub [1, 0] rfl ?_
    exact K
set_option maxHeartbeats 4000000 in
set_option maxRecDepth 100000 in
theorem m_X9_undo {E : gj_E} {σ : gj_S}   {x : (Int32 × gj_S)} (hf : f_X9_undo  σ = some x) : gj_M E yX9_undo cX9_undo 2 (some .int) 0 0 [gj_r 188] σ (some (gj_i x.1)) x.2 := by
  refine gj_body (lv := [(0, gj_r 188)]) (by decide +kernel) (Nat.le_of_ble_eq_true rfl) rfl (fun X hO => ?_)
  replace hO : gj_O E X RX9 cX9_undo 2 (some .int) 0 0 := hO
  unfold f_X9_undo at hf
  refine gj_aload_n hO 0 dX9_undo_0 rfl rfl ?_
  refine gj_iconst (v := 0) hO dX9_undo_1 (by decide) ?_
  refine pt_X9_0 hO wk_604 dX9_undo_2 ?_
  refine gj_aload_n hO 0 dX9_undo_5 rfl rfl ?_
  refine gt_X9_23 hO wk_710 dX9_undo_6 ?_
  refine gj_if_ne (tgt := 14) hO dX9_undo_9 (by decide) (fun h => ?_) (fun h => ?_)
  · replace hf := gj_f h hf
    refine gj_aload_n hO 0 dX9_undo_14 rfl rfl ?_
    refine gj_dup hO dX9_undo_15 trivial ?_
    refine gt_X9_23 hO wk_710 dX9_undo_16 ?_
    refine gj_iconst (v := 1) hO dX9_undo_19 (by decide) ?_
    refine gj_isub hO dX9_undo_20 ?_
    refine pt_X9_23 hO wk_710 dX9_undo_21 ?_
    obtain ⟨s1, e1, hf⟩ := gj_b hf
    refine gj_eqS (Option.some.inj e1) ?_
    refine gj_iconst (v := 0) hO dX9_undo_24 (by decide) ?_
    refine gj_istore_n (lv2 := [(1, gj_i (0 : Int32)), (0, gj_r 188)]) hO dX9_undo_25 rfl (by decide) rfl ?_
    obtain ⟨z2, hz2, hf⟩ := gj_b hf
    have J2 : gj_G E X 2 (some (gj_i x.1)) x.2 60 [(0, gj_r 188)] [] z2 := by
      refine gj_aload_n hO 0 dX9_undo_60 rfl rfl ?_
      refine gt_X9_23 hO wk_710 dX9_undo_61 ?_
      obtain rfl := Option.some.inj hf
      exact gj_iret hO dX9_undo_64
    refine gj_sub [1, 0] rfl ?_
    exact gj_loop (head := fun a2 => gj_G E X 2 (some (gj_i x.1)) x.2 26 [(0, gj_r 188), (1, gj_i a2.1)] [] a2.2) (exit := fun z2 => gj_G E X 2 (some (gj_i x.1)) x.2 60 [(0, gj_r 188)] [] z2) (fun a2 x hf K => sb_X9_undo_l26 hO hf K) _ _ _ hz2 J2
  · replace hf := gj_t h hf
    refine gj_iconst (v := (-1)) hO dX9_undo_12 (by decide) ?_
    obtain rfl := Option.some.inj hf
    exact gj_iret hO dX9_undo_13
set_option maxHeartbeats 4000000 in
set_option maxRecDepth 100000 in
theorem ca_X9_undo {E : gj_E} {X : gj_X} {own : String} {cc : ByteArray} {nL : Nat} {rt : Option FieldType} {fr lo : Nat} {r : Option gj_V} {τ : gj_S} {pc : Nat} {lv : List (Nat × gj_V)} {st : List gj_V} {σ : gj_S} (hO : gj_O E X own cc nL rt fr lo)   {idx : Nat} {x : (Int32 × gj_S)} (hf : f_X9_undo  σ = some x) (hl : Cond.methodLink own idx yX9_undo ∈ gj_gw) (hf1 : 1 ≤ fr) (hf2 : 21 ≤ lo) (hcat : ((st.map (gj_tv E.2.1)).map fun v => v.category).sum ≤ 8) (hd : decode cc pc = .ok (.invokevirtual idx, 3)) (k : gj_G E X nL r τ (pc + 3) lv ((gj_i x.1) :: st) x.2) : gj_G E X nL r τ pc lv (gj_r 188 :: st) σ :=
  gj_callV hO (o := 188) (vs := []) (m_X9_undo  hf) hl wk_972 wk_973 wk_607 wk_974 kl_188 kd_188 (by decide) (ci := 9) rfl (n := 0) (by decide +kernel) rfl hf1 hf2 rfl hcat hd k
def fb_X9_keep_l32 (b1 : Int32) (b2 : Int32) (a2 : (Int32 × gj_S)) : Option (gj_S ⊕ (Int32 × gj_S)) := (if (180 : Int32) ≤ a2.1 then some (.inl a2.2) else (if b2 = 0 then (if gj_in a2.1 180 then (if gj_in (((180 : Int32) * b1) + a2.1) 360 then some (.inr ((a2.1 + 1), (gj_sI a2.2 200 (upd (a2.2.1 200) (Int32.toNatClampNeg (((180 : Int32) * b1) + a2.1)) (a2.2.1 198 (Int32.toNatClampNeg a2.1)))))) else none) else none) else (if gj_in (((180 : Int32) * b1) + a2.1) 360 then (if gj_in a2.1 180 then some (.inr ((a2.1 + 1), (gj_sI a2.2 198 (upd (a2.2.1 198) (Int32.toNatClampNeg a2.1) (a2.2.1 200 (Int32.toNatClampNeg (((180 : Int32) * b1) + a2.1))))))) else none) else none)))
def fb_X9_keep_l32 (b1 : Int32) (b2 : Int32) (a10 : (Int32 × gj_S)) : Option (gj_S ⊕ (Int32 × gj_S)) := (if (180 : Int32) ≤ a10.1 then some (.inl a10.2) else (if b2 = 0 then (if gj_in a10.1 180 then (if gj_in (((180 : Int32) * b1) + a10.1) 360 then some (.inr ((a10.1 + 1), (gj_sI a10.2 200 (upd (a10.2.1 200) (Int32.toNatClampNeg (((180 : Int32) * b1) + a10.1)) (a10.2.1 198 (Int32.toNatClampNeg a10.1)))))) else none) else none) else (if gj_in (((180 : Int32) * b1) + a10.1) 360 then (if gj_in a10.1 180 then some (.inr ((a10.1 + 1), (gj_sI a10.2 198 (upd (a10.2.1 198) (Int32.toNatClampNeg a10.1) (a10.2.1 200 (Int32.toNatClampNeg (((180 : Int32) * b1) + a10.1))))))) else none) else none)))
def f_X9_keep (b1 : Int32) (b2 : Int32) (σ : gj_S) : Option (Int32 × gj_S) := ((f_X9_within (Int32.toInt64 b1) (0 : Int64) (1 : Int64)).bind fun x1 => (if x1 = 0 then some ((0 : Int32), (gj_sI σ 188 (upd (σ.1 188) 0 (0 : Int32)))) else (if b2 = 0 then ((gj_lp (fb_X9_keep_l32 b1 b2) 5000 ((0 : Int32), (gj_sI σ 188 (upd (σ.1 188) 0 (0 : Int32))))).bind fun z2 => (if b2 = 0 then (if gj_in b1 2 then some ((1 : Int32), (gj_sI z2 201 (upd (z2.1 201) (Int32.toNatClampNeg b1) (vp_nar .boolean (1 : Int32))))) else none) else some ((1 : Int32), (gj_sI z2 188 (upd (z2.1 188) 23 (0 : Int32)))))) else (if gj_in b1 2 then (if ((gj_sI σ 188 (upd (σ.1 188) 0 (0 : Int32))).1 201 (Int32.toNatClampNeg b1)) = 0 then some ((0 : Int32), (gj_sI σ 188 (upd (σ.1 188) 0 (0 : Int32)))) else ((gj_lp (fb_X9_keep_l32 b1 b2) 5000 ((0 : Int32), (gj_sI σ 188 (upd (σ.1 188) 0 (0 : Int32))))).bind fun z10 => (if b2 = 0 then (if gj_in b1 2 then some ((1 : Int32), (gj_sI z10 201 (upd (z10.1 201) (Int32.toNatClampNeg b1) (vp_nar .boolean (1 : Int32))))) else none) else some ((1 : Int32), (gj_sI z10 188 (upd (z10.1 188) 23 (0 : Int32))))))) else none))))
set_option maxHeartbeats 4000000 in
set_option maxRecDepth 100000 in
theorem sb_X9_keep_l32 {E : gj_E} {X : gj_X} {r : Option gj_V} {τ : gj_S} (hO : gj_O E X RX9 cX9_keep 4 (some .boolean) 1 25) {b1 : Int32} {b2 : Int32} {a2 : (Int32 × gj_S)} {x : gj_S ⊕ (Int32 × gj_S)} (hf : fb_X9_keep_l32 b1 b2 a2 = some x) (K : gj_K (fun z2 => gj_G E X 4 r τ 88 [(0, gj_r 188), (1, gj_i b1), (2, gj_i b2)] [] z2) (fun a2 => gj_G E X 4 r τ 32 [(0, gj_r 188), (1, gj_i b1), (2, gj_i b2), (3, gj_i a2.1)] [] a2.2) x) : gj_G E X 4 r τ 32 [(0, gj_r 188), (1, gj_i b1), (2, gj_i b2), (3, gj_i a2.1)] [] a2.2 := by
  unfold fb_X9_keep_l32 at hf
  refine gj_iload_n hO 3 dX9_keep_32 rfl rfl ?_
  refine gj_sipush (v := 180) hO dX9_keep_33 (by decide) ?_
  refine gj_icmp_ge (tgt := 88) hO dX9_keep_36 (by decide) (fun h => ?_) (fun h => ?_)
  · replace hf := gj_t h hf
    obtain rfl := Option.some.inj hf
    refine gj_sub [0, 1, 2] rfl ?_
    exact K
  · replace hf := gj_f h hf
    refine gj_iload_n hO 2 dX9_keep_39 rfl rfl ?_
    refine gj_if_eq (tgt := 64) hO dX9_keep_40 (by decide) (fun h => ?_) (fun h => ?_)
    · replace hf := gj_t h hf
      refine gj_aload_n hO 0 dX9_keep_64 rfl rfl ?_
      refine gt_X9_24 hO wk_975 dX9_keep_65 ?_
      refine gj_sipush (v := 180) hO dX9_keep_68 (by decide) ?_
      refine gj_iload_n hO 1 dX9_keep_71 rfl rfl ?_
      refine gj_imul hO dX9_keep_72 ?_
      refine gj_iload_n hO 3 dX9_keep_73 rfl rfl ?_
      refine gj_iadd hO dX9_keep_74 ?_
      refine gj_aload_n hO 0 dX9_keep_75 rfl rfl ?_
      refine gt_X9_21 hO wk_704 dX9_keep_76 ?_
      refine gj_iload_n hO 3 dX9_keep_79 rfl rfl ?_
      obtain ⟨hb4, hf⟩ := gj_c hf
      refine gj_iald hO kl_198 kd_198 hb4 dX9_keep_80 ?_
      obtain ⟨hb5, hf⟩ := gj_c hf
      refine gj_iast hO kl_200 kd_200 hb5 dX9_keep_81 ?_
      refine gj_iinc (v := (a2.1 + 1)) (lv2 := [(3, gj_i (a2.1 + 1)), (0, gj_r 188), (1, gj_i b1), (2, gj_i b2)]) hO 3 dX9_keep_82 rfl rfl (by decide) rfl ?_
      refine gj_goto (tgt := 32) hO dX9_keep_85 (by decide) ?_
      obtain rfl := Option.some.inj hf
      refine gj_sub [1, 2, 3, 0] rfl ?_
      exact K
    · replace hf := gj_f h hf
      refine gj_aload_n hO 0 dX9_keep_43 rfl rfl ?_
      refine gt_X9_21 hO wk_704 dX9_keep_44 ?_
      refine gj_iload_n hO 3 dX9_keep_47 rfl rfl ?_
      refine gj_aload_n hO 0 dX9_keep_48 rfl rfl ?_
      refine gt_X9_24 hO wk_975 dX9_keep_49 ?_
      refine gj_sipush (v := 180) hO dX9_keep_52 (by decide) ?_
      refine gj_iload_n hO 1 dX9_keep_55 rfl rfl ?_
      refine gj_imul hO dX9_keep_56 ?_
      refine gj_iload_n hO 3 dX9_keep_57 rfl rfl ?_
      refine gj_iadd hO dX9_keep_58 ?_
      obtain ⟨hb6, hf⟩ := gj_c hf
      refine gj_iald hO kl_200 kd_200 hb6 dX9_keep_59 ?_
      obtain ⟨hb7, hf⟩ := gj_c hf
      refine gj_iast hO kl_198 kd_198 hb7 dX9_keep_60 ?_
      refine gj_goto (tgt := 82) hO dX9_keep_61 (by decide) ?_
      refine gj_iinc (v := (a2.1 + 1)) (lv2 := [(3, gj_i (a2.1 + 1)), (0, gj_r 188), (1, gj_i b1), (2, gj_i b2)]) hO 3 dX9_keep_82 rfl rfl (by decide) rfl ?_
      refine gj_goto (tgt := 32) hO dX9_keep_85 (by decide) ?_
      obtain rfl := Option.some.inj hf
      refine gj_sub [1, 2, 3, 0] rfl ?_
      exact K
set_option maxHeartbeats 4000000 in
set_option maxRecDepth 100000 in
theorem sb_X9_keep_l32 {E : gj_E} {X : gj_X} {r : Option gj_V} {τ : gj_S} (hO : gj_O E X RX9 cX9_keep 4 (some .boolean) 1 25) {b1 : Int32} {b2 : Int32} {a10 : (Int32 × gj_S)} {x : gj_S ⊕ (Int32 × gj_S)} (hf : fb_X9_keep_l32 b1 b2 a10 = some x) (K : gj_K (fun z10 => gj_G E X 4 r τ 88 [(0, gj_r 188), (1, gj_i b1), (2, gj_i b2)] [] z10) (fun a10 => gj_G E X 4 r τ 32 [(0, gj_r 188), (1, gj_i b1), (2, gj_i b2), (3, gj_i a10.1)] [] a10.2) x) : gj_G E X 4 r τ 32 [(0, gj_r 188), (1, gj_i b1), (2, gj_i b2), (3, gj_i a10.1)] [] a10.2 := by
  unfold fb_X9_keep_l32 at hf
  refine gj_iload_n hO 3 dX9_keep_32 rfl rfl ?_
  refine gj_sipush (v := 180) hO dX9_keep_33 (by decide) ?_
  refine gj_icmp_ge (tgt := 88) hO dX9_keep_36 (by decide) (fun h => ?_) (fun h => ?_)
  · replace hf := gj_t h hf
    obtain rfl := Option.some.inj hf
    refine gj_sub [0, 1, 2] rfl ?_
    exact K
  · replace hf := gj_f h hf
    refine gj_iload_n hO 2 dX9_keep_39 rfl rfl ?_
    refine gj_if_eq (tgt := 64) hO dX9_keep_40 (by decide) (fun h => ?_) (fun h => ?_)
    · replace hf := gj_t h hf
      refine gj_aload_n hO 0 dX9_keep_64 rfl rfl ?_
      refine gt_X9_24 hO wk_975 dX9_keep_65 ?_
      refine gj_sipush (v := 180) hO dX9_keep_68 (by decide) ?_
      refine gj_iload_n hO 1 dX9_keep_71 rfl rfl ?_
      refine gj_imul hO dX9_keep_72 ?_
      refine gj_iload_n hO 3 dX9_keep_73 rfl rfl ?_
      refine gj_iadd hO dX9_keep_74 ?_
      refine gj_aload_n hO 0 dX9_keep_75 rfl rfl ?_
      refine gt_X9_21 hO wk_704 dX9_keep_76 ?_
      refine gj_iload_n hO 3 dX9_keep_79 rfl rfl ?_
      obtain ⟨hb12, hf⟩ := gj_c hf
      refine gj_iald hO kl_198 kd_198 hb12 dX9_keep_80 ?_
      obtain ⟨hb13, hf⟩ := gj_c hf
      refine gj_iast hO kl_200 kd_200 hb13 dX9_keep_81 ?_
      refine gj_iinc (v := (a10.1 + 1)) (lv2 := [(3, gj_i (a10.1 + 1)), (0, gj_r 188), (1, gj_i b1), (2, gj_i b2)]) hO 3 dX9_keep_82 rfl rfl (by decide) rfl ?_
      refine gj_goto (tgt := 32) hO dX9_keep_85 (by decide) ?_
      obtain rfl := Option.some.inj hf
      refine gj_sub [1, 2, 3, 0] rfl ?_
      exact K
    · replace hf := gj_f h hf
      refine gj_aload_n hO 0 dX9_keep_43 rfl rfl ?_
      refine gt_X9_21 hO wk_704 dX9_keep_44 ?_
      refine gj_iload_n hO 3 dX9_keep_47 rfl rfl ?_
      refine gj_aload_n hO 0 dX9_keep_48 rfl rfl ?_
      refine gt_X9_24 hO wk_975 dX9_keep_49 ?_
      refine gj_sipush (v := 180) hO dX9_keep_52 (by decide) ?_
      refine gj_iload_n hO 1 dX9_keep_55 rfl rfl ?_
      refine gj_imul hO dX9_keep_56 ?_
      refine gj_iload_n hO 3 dX9_keep_57 rfl rfl ?_
      refine gj_iadd hO dX9_keep_58 ?_
      obtain ⟨hb14, hf⟩ := gj_c hf
      refine gj_iald hO kl_200 kd_200 hb14 dX9_keep_59 ?_
      obtain ⟨hb15, hf⟩ := gj_c hf
      refine gj_iast hO kl_198 kd_198 hb15 dX9_keep_60 ?_
      refine gj_goto (tgt := 82) hO dX9_keep_61 (by decide) ?_
      refine gj_iinc (v := (a10.1 + 1)) (lv2 := [(3, gj_i (a10.1 + 1)), (0, gj_r 188), (1, gj_i b1), (2, gj_i b2)]) hO 3 dX9_keep_82 rfl rfl (by decide) rfl ?_
      refine gj_goto (tgt := 32) hO dX9_keep_85 (by decide) ?_
      obtain rfl := Option.some.inj hf
      refine gj_sub [1, 2, 3, 0] rfl ?_
      exact K
set_option maxHeartbeats 4000000 in
set_option maxRecDepth 100000 in
theorem m_X9_keep {E : gj_E} {σ : gj_S} {b1 : Int32} {b2 : Int32}  {x : (Int32 × gj_S)} (hf : f_X9_keep b1 b2 σ = some x) : gj_M E yX9_keep cX9_keep 4 (some .boolean) 1 25 [gj_r 188, gj_i b1, gj_i b2] σ (some (gj_i x.1)) x.2 := by
  refine gj_body (lv := [(0, gj_r 188), (1, gj_i b1), (2, gj_i b2)]) (by decide +kernel) (Nat.le_of_ble_eq_true rfl) rfl (fun X hO => ?_)
  replace hO : gj_O E X RX9 cX9_keep 4 (some .boolean) 1 25 := hO
  unfold f_X9_keep at hf
  refine gj_aload_n hO 0 dX9_keep_0 rfl rfl ?_
  refine gj_iconst (v := 0) hO dX9_keep_1 (by decide) ?_
  refine pt_X9_0 hO wk_604 dX9_keep_2 ?_
  refine gj_iload_n hO 1 dX9_keep_5 rfl rfl ?_
  refine gj_i2l hO dX9_keep_6 ?_
  refine gj_lconst (v := 0) hO dX9_keep_7 (by decide) ?_
  refine gj_lconst (v := 1) hO dX9_keep_8 (by decide) ?_
  obtain ⟨x1, hc1, hf⟩ := gj_b hf
  refine ca_X9_within hO  hc1 wk_632 (by decide) (by decide) (Nat.le_of_ble_eq_true rfl) dX9_keep_9 ?_
  refine gj_if_eq (tgt := 28) hO dX9_keep_12 (by decide) (fun h => ?_) (fun h => ?_)
  · replace hf := gj_t h hf
    refine gj_iconst (v := 0) hO dX9_keep_28 (by decide) ?_
    obtain rfl := Option.some.inj hf
    exact gj_zret hO (Or.inl rfl) dX9_keep_29
  · replace hf := gj_f h hf
    refine gj_iload_n hO 2 dX9_keep_15 rfl rfl ?_
    refine gj_if_eq (tgt := 30) hO dX9_keep_16 (by decide) (fun h => ?_) (fun h => ?_)
    · replace hf := gj_t h hf
      refine gj_iconst (v := 0) hO dX9_keep_30 (by decide) ?_
      refine gj_istore_n (lv2 := [(3, gj_i (0 : Int32)), (0, gj_r 188), (1, gj_i b1), (2, gj_i b2)]) hO dX9_keep_31 rfl (by decide) rfl ?_
      obtain ⟨z2, hz2, hf⟩ := gj_b hf
      have J2 : gj_G E X 4 (some (gj_i x.1)) x.2 88 [(0, gj_r 188), (1, gj_i b1), (2, gj_i b2)] [] z2 := by
        refine gj_iload_n hO 2 dX9_keep_88 rfl rfl ?_
        refine gj_if_eq (tgt := 100) hO dX9_keep_89 (by decide) (fun h => ?_) (fun h => ?_)
        · replace hf := gj_t h hf
          refine gj_aload_n hO 0 dX9_keep_100 rfl rfl ?_
          refine gt_X9_25 hO wk_711 dX9_keep_101 ?_
          refine gj_iload_n hO 1 dX9_keep_104 rfl rfl ?_
          refine gj_iconst (v := 1) hO dX9_keep_105 (by decide) ?_
          obtain ⟨hb8, hf⟩ := gj_c hf
          refine gj_zast hO kl_201 kd_201 hb8 dX9_keep_106 ?_
          refine gj_iconst (v := 1) hO dX9_keep_107 (by decide) ?_
          obtain rfl := Option.some.inj hf
          exact gj_zret hO (Or.inr rfl) dX9_keep_108
        · replace hf := gj_f h hf
          refine gj_aload_n hO 0 dX9_keep_92 rfl rfl ?_
          refine gj_iconst (v := 0) hO dX9_keep_93 (by decide) ?_
          refine pt_X9_23 hO wk_710 dX9_keep_94 ?_
          refine gj_goto (tgt := 107) hO dX9_keep_97 (by decide) ?_
          refine gj_iconst (v := 1) hO dX9_keep_107 (by decide) ?_
          obtain rfl := Option.some.inj hf
          exact gj_zret hO (Or.inr rfl) dX9_keep_108
      refine gj_sub [1, 2, 3, 0] rfl ?_
      exact gj_loop (head := fun a2 => gj_G E X 4 (some (gj_i x.1)) x.2 32 [(0, gj_r 188), (1, gj_i b1), (2, gj_i b2), (3, gj_i a2.1)] [] a2.2) (exit := fun z2 => gj_G E X 4 (some (gj_i x.1)) x.2 88 [(0, gj_r 188), (1, gj_i b1), (2, gj_i b2)] [] z2) (fun a2 x hf K => sb_X9_keep_l32 hO hf K) _ _ _ hz2 J2
    · replace hf := gj_f h hf
      refine gj_aload_n hO 0 dX9_keep_19 rfl rfl ?_
      refine gt_X9_25 hO wk_711 dX9_keep_20 ?_
      refine gj_iload_n hO 1 dX9_keep_23 rfl rfl ?_
      obtain ⟨hb9, hf⟩ := gj_c hf
      refine gj_zald hO kl_201 kd_201 hb9 dX9_keep_24 ?_
      refine gj_if_ne (tgt := 30) hO dX9_keep_25 (by decide) (fun h => ?_) (fun h => ?_)
      · replace hf := gj_f h hf
        refine gj_iconst (v := 0) hO dX9_keep_30 (by decide) ?_
        refine gj_istore_n (lv2 := [(3, gj_i (0 : Int32)), (0, gj_r 188), (1, gj_i b1), (2, gj_i b2)]) hO dX9_keep_31 rfl (by decide) rfl ?_
        obtain ⟨z10, hz10, hf⟩ := gj_b hf
        have J10 : gj_G E X 4 (some (gj_i x.1)) x.2 88 [(0, gj_r 188), (1, gj_i b1), (2, gj_i b2)] [] z10 := by
          refine gj_iload_n hO 2 dX9_keep_88 rfl rfl ?_
          refine gj_if_eq (tgt := 100) hO dX9_keep_89 (by decide) (fun h => ?_) (fun h => ?_)
          · replace hf := gj_t h hf
            refine gj_aload_n hO 0 dX9_keep_100 rfl rfl ?_
            refine gt_X9_25 hO wk_711 dX9_keep_101 ?_
            refine gj_iload_n hO 1 dX9_keep_104 rfl rfl ?_
            refine gj_iconst (v := 1) hO dX9_keep_105 (by decide) ?_
            obtain ⟨hb16, hf⟩ := gj_c hf
            refine gj_zast hO kl_201 kd_201 hb16 dX9_keep_106 ?_
            refine gj_iconst (v := 1) hO dX9_keep_107 (by decide) ?_
            obtain rfl := Option.some.inj hf
            exact gj_zret hO (Or.inr rfl) dX9_keep_108
          · replace hf := gj_f h hf
            refine gj_aload_n hO 0 dX9_keep_92 rfl rfl ?_
            refine gj_iconst (v := 0) hO dX9_keep_93 (by decide) ?_
            refine pt_X9_23 hO wk_710 dX9_keep_94 ?_
            refine gj_goto (tgt := 107) hO dX9_keep_97 (by decide) ?_
            refine gj_iconst (v := 1) hO dX9_keep_107 (by decide) ?_
            obtain rfl := Option.some.inj hf
            exact gj_zret hO (Or.inr rfl) dX9_keep_108
        refine gj_sub [1, 2, 3, 0] rfl ?_
        exact gj_loop (head := fun a10 => gj_G E X 4 (some (gj_i x.1)) x.2 32 [(0, gj_r 188), (1, gj_i b1), (2, gj_i b2), (3, gj_i a10.1)] [] a10.2) (exit := fun z10 => gj_G E X 4 (some (gj_i x.1)) x.2 88 [(0, gj_r 188), (1, gj_i b1), (2, gj_i b2)] [] z10) (fun a10 x hf K => sb_X9_keep_l32 hO hf K) _ _ _ hz10 J10
      · replace hf := gj_t h hf
        refine gj_iconst (v := 0) hO dX9_keep_28 (by decide) ?_
        obtain rfl := Option.some.inj hf
        exact gj_zret hO (Or.inl rfl) dX9_keep_29
set_option maxHeartbeats 4000000 in
set_option maxRecDepth 100000 in
theorem ca_X9_keep {E : gj_E} {X : gj_X} {own : String} {cc : ByteArray} {nL : Nat} {rt : Option FieldType} {fr lo : Nat} {r : Option gj_V} {τ : gj_S} {pc : Nat} {lv : List (Nat × gj_V)} {st : List gj_V} {σ : gj_S} (hO : gj_O E X own cc nL rt fr lo) {b1 : Int32} {b2 : Int32}  {idx : Nat} {x : (Int32 × gj_S)} (hf : f_X9_keep b1 b2 σ = some x) (hl : Cond.methodLink own idx yX9_keep ∈ gj_gw) (hf1 : 2 ≤ fr) (hf2 : 48 ≤ lo) (hcat : ((st.map (gj_tv E.2.1)).map fun v => v.category).sum ≤ 8) (hd : decode cc pc = .ok (.invokevirtual idx, 3)) (k : gj_G E X nL r τ (pc + 3) lv ((gj_i x.1) :: st) x.2) : gj_G E X nL r τ pc lv (gj_i b2 :: gj_i b1 :: gj_r 188 :: st) σ :=
  gj_callV hO (o := 188) (vs := [gj_i b1, gj_i b2]) (m_X9_keep  hf) hl wk_976 wk_977 wk_607 wk_978 kl_188 kd_188 (by decide) (ci := 9) rfl (n := 2) (by decide +kernel) rfl hf1 hf2 rfl hcat hd k
