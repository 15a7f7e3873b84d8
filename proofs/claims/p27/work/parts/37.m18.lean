def fb_X9_load_l62 (b1 : Int32) (b2 : Int32) (σ : gj_S) (a10062 : Int32) : Option (((Int32 × gj_S) ⊕ Unit) ⊕ Int32) := (if a10062 = (8 : Int32) then some (.inl (.inr ())) else ((if 0 ≤ b2 then some (0 : Int32) else some (1 : Int32) : Option Int32).bind fun z16201 => ((f_X9_spareOf a10062 z16201 σ).bind fun x16202 => ((f_X9_sizeOf b2).bind fun x16203 => (if x16203 ≤ x16202 then ((f_X9_aboveOf a10062 σ).bind fun x16204 => some (.inr x16204)) else (if gj_in a10062 9 then some (.inl (.inl (((-2 : Int32) - (σ.1 203 (Int32.toNatClampNeg a10062))), σ))) else none))))))
def fb_X9_load_l126 (b1 : Int32) (b2 : Int32) (a10126 : (Int32 × gj_S)) : Option (gj_S ⊕ (Int32 × gj_S)) := (if a10126.1 = (8 : Int32) then some (.inl a10126.2) else (if gj_in a10126.1 9 then (if gj_in ((50 : Int32) + (a10126.2.1 203 (Int32.toNatClampNeg a10126.1))) 180 then ((f_X9_isUpward a10126.1 a10126.2).bind fun x22603 => ((if x22603 = 0 then some (0 - b2) else some b2 : Option Int32).bind fun z22604 => (if gj_in ((50 : Int32) + (a10126.2.1 203 (Int32.toNatClampNeg a10126.1))) 180 then ((some (gj_sI a10126.2 198 (upd (a10126.2.1 198) (Int32.toNatClampNeg ((50 : Int32) + (a10126.2.1 203 (Int32.toNatClampNeg a10126.1)))) ((a10126.2.1 198 (Int32.toNatClampNeg ((50 : Int32) + (a10126.2.1 203 (Int32.toNatClampNeg a10126.1))))) + z22604)))).bind fun s22606 => ((f_X9_aboveOf a10126.1 s22606).bind fun x22607 => some (.inr (x22607, s22606)))) else none))) else none) else none))
def f_X9_load (b1 : Int32) (b2 : Int32) (σ : gj_S) : Option (Int32 × gj_S) := ((f_X9_isDock b1 (gj_sI σ 188 (upd (σ.1 188) 0 (0 : Int32)))).bind fun x1 => (if x1 = 0 then some ((-1 : Int32), (gj_sI σ 188 (upd (σ.1 188) 0 (0 : Int32)))) else ((f_X9_within (Int32.toInt64 b2) (-1998 : Int64) (1998 : Int64)).bind fun x2 => (if x2 = 0 then some ((-1 : Int32), (gj_sI σ 188 (upd (σ.1 188) 0 (0 : Int32)))) else (if b2 = 0 then some ((-1 : Int32), (gj_sI σ 188 (upd (σ.1 188) 0 (0 : Int32)))) else (if gj_in ((0 : Int32) + b1) 180 then ((f_X9_within (Int32.toInt64 (((gj_sI σ 188 (upd (σ.1 188) 0 (0 : Int32))).1 198 (Int32.toNatClampNeg ((0 : Int32) + b1))) + b2)) (-999 : Int64) (999 : Int64)).bind fun x4 => (if x4 = 0 then some ((-1 : Int32), (gj_sI σ 188 (upd (σ.1 188) 0 (0 : Int32)))) else ((f_X9_laysTree (gj_sI σ 188 (upd (σ.1 188) 0 (0 : Int32)))).bind fun x5 => ((gj_lp (fb_X9_load_l62 b1 b2 x5) 5000 b1).bind fun y6 => Sum.elim (fun q => some q) (fun z6 => ((f_X9_keeps x5).bind fun x7 => (if gj_in ((0 : Int32) + b1) 180 then (if gj_in ((0 : Int32) + b1) 180 then ((gj_lp (fb_X9_load_l126 b1 b2) 5000 (b1, (gj_sI x7 198 (upd (x7.1 198) (Int32.toNatClampNeg ((0 : Int32) + b1)) ((x7.1 198 (Int32.toNatClampNeg ((0 : Int32) + b1))) + b2))))).bind fun z10 => (if gj_in b1 9 then some ((z10.1 204 (Int32.toNatClampNeg b1)), z10) else none)) else none) else none))) y6)))) else none))))))
set_option maxHeartbeats 4000000 in
set_option maxRecDepth 100000 in
theorem sb_X9_load_l62 {E : gj_E} {X : gj_X} {r : Option gj_V} {τ : gj_S} (hO : gj_O E X RX9 cX9_load 4 (some .int) 3 66) {b1 : Int32} {b2 : Int32} {σ : gj_S} {a10062 : Int32} {x : ((Int32 × gj_S) ⊕ Unit) ⊕ Int32} (hf : fb_X9_load_l62 b1 b2 σ a10062 = some x) (K : gj_K (fun y6 => gj_K (fun q => r = (some (gj_i q.1)) ∧ τ = q.2) (fun z6 => gj_G E X 4 r τ 108 [(0, gj_r 188), (1, gj_i b1), (2, gj_i b2)] [] σ) y6) (fun a10062 => gj_G E X 4 r τ 62 [(0, gj_r 188), (1, gj_i b1), (2, gj_i b2), (3, gj_i a10062)] [] σ) x) : gj_G E X 4 r τ 62 [(0, gj_r 188), (1, gj_i b1), (2, gj_i b2), (3, gj_i a10062)] [] σ := by
  unfold fb_X9_load_l62 at hf
  refine gj_iload_n hO 3 dX9_load_62 rfl rfl ?_
  refine gj_bipush (v := 8) hO dX9_load_63 (by decide) ?_
  refine gj_icmp_eq (tgt := 108) hO dX9_load_65 (by decide) (fun h => ?_) (fun h => ?_)
  · replace hf := gj_t h hf
    obtain rfl := Option.some.inj hf
    refine gj_sub (lv2 := [(0, gj_r 188), (1, gj_i b1), (2, gj_i b2)]) [0, 1, 2] rfl ?_
    exact K
  · replace hf := gj_f h hf
    refine gj_aload_n hO 0 dX9_load_68 rfl rfl ?_
    refine gj_iload_n hO 3 dX9_load_69 rfl rfl ?_
    refine gj_iload_n hO 2 dX9_load_70 rfl rfl ?_
    obtain ⟨z16201, hz16201, hf⟩ := gj_b hf
    have J16201 : gj_G E X 4 r τ 79 [(0, gj_r 188), (1, gj_i b1), (2, gj_i b2), (3, gj_i a10062)] [gj_i z16201, gj_i a10062, gj_r 188] σ := by
      obtain ⟨x16202, hc16202, hf⟩ := gj_b hf
      refine ca_X9_spareOf hO kl_188  hc16202 wk_951 (by decide) (by decide) (Nat.le_of_ble_eq_true rfl) dX9_load_79 ?_
      refine gj_iload_n hO 2 dX9_load_82 rfl rfl ?_
      obtain ⟨x16203, hc16203, hf⟩ := gj_b hf
      refine ca_X9_sizeOf hO kl_188  hc16203 wk_827 (by decide) (by decide) (Nat.le_of_ble_eq_true rfl) dX9_load_83 ?_
      refine gj_icmp_ge (tgt := 99) hO dX9_load_86 (by decide) (fun h => ?_) (fun h => ?_)
      · replace hf := gj_t h hf
        refine gj_aload_n hO 0 dX9_load_99 rfl rfl ?_
        refine gj_iload_n hO 3 dX9_load_100 rfl rfl ?_
        obtain ⟨x16204, hc16204, hf⟩ := gj_b hf
        refine ca_X9_aboveOf hO kl_188  hc16204 wk_797 (by decide) (by decide) (Nat.le_of_ble_eq_true rfl) dX9_load_101 ?_
        refine gj_istore_n (lv2 := [(3, gj_i x16204), (0, gj_r 188), (1, gj_i b1), (2, gj_i b2)]) hO dX9_load_104 rfl (by decide) rfl ?_
        refine gj_goto (tgt := 62) hO dX9_load_105 (by decide) ?_
        obtain rfl := Option.some.inj hf
        refine gj_sub (lv2 := [(0, gj_r 188), (1, gj_i b1), (2, gj_i b2), (3, gj_i x16204)]) [1, 2, 3, 0] rfl ?_
        exact K
      · replace hf := gj_f h hf
        refine gj_bipush (v := (-2)) hO dX9_load_89 (by decide) ?_
        refine gj_aload_n hO 0 dX9_load_91 rfl rfl ?_
        refine gt_X9_27 hO wk_762 dX9_load_92 ?_
        refine gj_iload_n hO 3 dX9_load_95 rfl rfl ?_
        obtain ⟨hb16205, hf⟩ := gj_c hf
        refine gj_iald hO kl_203 kd_203 hb16205 dX9_load_96 ?_
        refine gj_isub hO dX9_load_97 ?_
        obtain rfl := Option.some.inj hf
        obtain ⟨rfl, rfl⟩ := K
        exact gj_iret hO dX9_load_98
    refine gj_if_ge (tgt := 78) hO dX9_load_71 (by decide) (fun h => ?_) (fun h => ?_)
    · replace hz16201 := gj_t h hz16201
      refine gj_iconst (v := 0) hO dX9_load_78 (by decide) ?_
      obtain rfl := Option.some.inj hz16201
      refine gj_sub (lv2 := [(0, gj_r 188), (1, gj_i b1), (2, gj_i b2), (3, gj_i a10062)]) [0, 1, 2, 3] rfl ?_
      exact J16201
    · replace hz16201 := gj_f h hz16201
      refine gj_iconst (v := 1) hO dX9_load_74 (by decide) ?_
      refine gj_goto (tgt := 79) hO dX9_load_75 (by decide) ?_
      obtain rfl := Option.some.inj hz16201
      refine gj_sub (lv2 := [(0, gj_r 188), (1, gj_i b1), (2, gj_i b2), (3, gj_i a10062)]) [0, 1, 2, 3] rfl ?_
      exact J16201
set_option maxHeartbeats 4000000 in
set_option maxRecDepth 100000 in
theorem sb_X9_load_l126 {E : gj_E} {X : gj_X} {r : Option gj_V} {τ : gj_S} (hO : gj_O E X RX9 cX9_load 4 (some .int) 3 66) {b1 : Int32} {b2 : Int32} {a10126_0 : Int32} {a10126_1 : gj_S} {x : gj_S ⊕ (Int32 × gj_S)} (hf : fb_X9_load_l126 b1 b2 (a10126_0, a10126_1) = some x) (K : gj_K (fun z10 => gj_G E X 4 r τ 172 [(0, gj_r 188), (1, gj_i b1)] [] z10) (fun a10126 => gj_G E X 4 r τ 126 [(0, gj_r 188), (1, gj_i b1), (2, gj_i b2), (3, gj_i a10126.1)] [] a10126.2) x) : gj_G E X 4 r τ 126 [(0, gj_r 188), (1, gj_i b1), (2, gj_i b2), (3, gj_i a10126_0)] [] a10126_1 := by
  unfold fb_X9_load_l126 at hf
  dsimp only at hf
  refine gj_iload_n hO 3 dX9_load_126 rfl rfl ?_
  refine gj_bipush (v := 8) hO dX9_load_127 (by decide) ?_
  refine gj_icmp_eq (tgt := 172) hO dX9_load_129 (by decide) (fun h => ?_) (fun h => ?_)
  · replace hf := gj_t h hf
    obtain rfl := Option.some.inj hf
    refine gj_sub (lv2 := [(0, gj_r 188), (1, gj_i b1)]) [0, 1] rfl ?_
    exact K
  · replace hf := gj_f h hf
    refine gj_aload_n hO 0 dX9_load_132 rfl rfl ?_
    refine gt_X9_21 hO wk_725 dX9_load_133 ?_
    refine gj_bipush (v := 50) hO dX9_load_136 (by decide) ?_
    refine gj_aload_n hO 0 dX9_load_138 rfl rfl ?_
    refine gt_X9_27 hO wk_762 dX9_load_139 ?_
    refine gj_iload_n hO 3 dX9_load_142 rfl rfl ?_
    obtain ⟨hb22601, hf⟩ := gj_c hf
    refine gj_iald hO kl_203 kd_203 hb22601 dX9_load_143 ?_
    refine gj_iadd hO dX9_load_144 ?_
    refine gj_dup2 hO dX9_load_145 trivial trivial ?_
    obtain ⟨hb22602, hf⟩ := gj_c hf
    refine gj_iald hO kl_198 kd_198 hb22602 dX9_load_146 ?_
    refine gj_aload_n hO 0 dX9_load_147 rfl rfl ?_
    refine gj_iload_n hO 3 dX9_load_148 rfl rfl ?_
    obtain ⟨x22603, hc22603, hf⟩ := gj_b hf
    refine ca_X9_isUpward hO kl_188  hc22603 wk_844 (by decide) (by decide) (Nat.le_of_ble_eq_true rfl) dX9_load_149 ?_
    obtain ⟨z22604, hz22604, hf⟩ := gj_b hf
    have J22604 : gj_G E X 4 r τ 161 [(0, gj_r 188), (1, gj_i b1), (2, gj_i b2), (3, gj_i a10126_0)] [gj_i z22604, gj_i (a10126_1.1 198 (Int32.toNatClampNeg ((50 : Int32) + (a10126_1.1 203 (Int32.toNatClampNeg a10126_0))))), gj_i ((50 : Int32) + (a10126_1.1 203 (Int32.toNatClampNeg a10126_0))), gj_r 198] a10126_1 := by
      refine gj_iadd hO dX9_load_161 ?_
      obtain ⟨hb22605, hf⟩ := gj_c hf
      refine gj_iast hO kl_198 kd_198 hb22605 dX9_load_162 ?_
      obtain ⟨s22606, e22606, hf⟩ := gj_b hf
      refine gj_eqS (Option.some.inj e22606) ?_
      refine gj_aload_n hO 0 dX9_load_163 rfl rfl ?_
      refine gj_iload_n hO 3 dX9_load_164 rfl rfl ?_
      obtain ⟨x22607, hc22607, hf⟩ := gj_b hf
      refine ca_X9_aboveOf hO kl_188  hc22607 wk_797 (by decide) (by decide) (Nat.le_of_ble_eq_true rfl) dX9_load_165 ?_
      refine gj_istore_n (lv2 := [(3, gj_i x22607), (0, gj_r 188), (1, gj_i b1), (2, gj_i b2)]) hO dX9_load_168 rfl (by decide) rfl ?_
      refine gj_goto (tgt := 126) hO dX9_load_169 (by decide) ?_
      obtain rfl := Option.some.inj hf
      refine gj_sub (lv2 := [(0, gj_r 188), (1, gj_i b1), (2, gj_i b2), (3, gj_i x22607)]) [1, 2, 3, 0] rfl ?_
      exact K
    refine gj_if_eq (tgt := 159) hO dX9_load_152 (by decide) (fun h => ?_) (fun h => ?_)
    · replace hz22604 := gj_t h hz22604
      refine gj_iload_n hO 2 dX9_load_159 rfl rfl ?_
      refine gj_ineg hO dX9_load_160 ?_
      obtain rfl := Option.some.inj hz22604
      refine gj_sub (lv2 := [(0, gj_r 188), (1, gj_i b1), (2, gj_i b2), (3, gj_i a10126_0)]) [0, 1, 2, 3] rfl ?_
      exact J22604
    · replace hz22604 := gj_f h hz22604
      refine gj_iload_n hO 2 dX9_load_155 rfl rfl ?_
      refine gj_goto (tgt := 161) hO dX9_load_156 (by decide) ?_
      obtain rfl := Option.some.inj hz22604
      refine gj_sub (lv2 := [(0, gj_r 188), (1, gj_i b1), (2, gj_i b2), (3, gj_i a10126_0)]) [0, 1, 2, 3] rfl ?_
      exact J22604
set_option maxHeartbeats 4000000 in
set_option maxRecDepth 100000 in
theorem m_X9_load {E : gj_E} {σ : gj_S} {b1 : Int32} {b2 : Int32}  {x : Int32} {y : gj_S} (hf : f_X9_load b1 b2 σ = some (x, y)) : gj_M E yX9_load cX9_load 4 (some .int) 3 66 [gj_r 188, gj_i b1, gj_i b2] σ (some (gj_i x)) y := by
  refine gj_body (lv := [(0, gj_r 188), (1, gj_i b1), (2, gj_i b2)]) (by decide +kernel) (Nat.le_of_ble_eq_true rfl) rfl (fun X hO => ?_)
  replace hO : gj_O E X RX9 cX9_load 4 (some .int) 3 66 := hO
  unfold f_X9_load at hf
  refine gj_aload_n hO 0 dX9_load_0 rfl rfl ?_
  refine gj_iconst (v := 0) hO dX9_load_1 (by decide) ?_
  refine pt_X9_0 hO wk_636 dX9_load_2 ?_
  refine gj_aload_n hO 0 dX9_load_5 rfl rfl ?_
  refine gj_iload_n hO 1 dX9_load_6 rfl rfl ?_
  obtain ⟨x1, hc1, hf⟩ := gj_b hf
  refine ca_X9_isDock hO kl_188  hc1 wk_807 (by decide) (by decide) (Nat.le_of_ble_eq_true rfl) dX9_load_7 ?_
  refine gj_if_eq (tgt := 54) hO dX9_load_10 (by decide) (fun h => ?_) (fun h => ?_)
  · replace hf := gj_t h hf
    refine gj_iconst (v := (-1)) hO dX9_load_54 (by decide) ?_
    replace hf := Option.some.inj hf
    simp only [Prod.mk.injEq] at hf
    obtain ⟨rfl, rfl⟩ := hf
    exact gj_iret hO dX9_load_55
  · replace hf := gj_f h hf
    refine gj_iload_n hO 2 dX9_load_13 rfl rfl ?_
    refine gj_i2l hO dX9_load_14 ?_
    refine gj_ldc2 hO wk_949 dX9_load_15 ?_
    refine gj_ldc2 hO wk_950 dX9_load_18 ?_
    obtain ⟨x2, hc2, hf⟩ := gj_b hf
    refine ca_X9_within hO kl_188  hc2 wk_653 (by decide) (by decide) (Nat.le_of_ble_eq_true rfl) dX9_load_21 ?_
    refine gj_if_eq (tgt := 54) hO dX9_load_24 (by decide) (fun h => ?_) (fun h => ?_)
    · replace hf := gj_t h hf
      refine gj_iconst (v := (-1)) hO dX9_load_54 (by decide) ?_
      replace hf := Option.some.inj hf
      simp only [Prod.mk.injEq] at hf
      obtain ⟨rfl, rfl⟩ := hf
      exact gj_iret hO dX9_load_55
    · replace hf := gj_f h hf
      refine gj_iload_n hO 2 dX9_load_27 rfl rfl ?_
      refine gj_if_eq (tgt := 54) hO dX9_load_28 (by decide) (fun h => ?_) (fun h => ?_)
      · replace hf := gj_t h hf
        refine gj_iconst (v := (-1)) hO dX9_load_54 (by decide) ?_
        replace hf := Option.some.inj hf
        simp only [Prod.mk.injEq] at hf
        obtain ⟨rfl, rfl⟩ := hf
        exact gj_iret hO dX9_load_55
      · replace hf := gj_f h hf
        refine gj_aload_n hO 0 dX9_load_31 rfl rfl ?_
        refine gt_X9_21 hO wk_725 dX9_load_32 ?_
        refine gj_iconst (v := 0) hO dX9_load_35 (by decide) ?_
        refine gj_iload_n hO 1 dX9_load_36 rfl rfl ?_
        refine gj_iadd hO dX9_load_37 ?_
        obtain ⟨hb3, hf⟩ := gj_c hf
        refine gj_iald hO kl_198 kd_198 hb3 dX9_load_38 ?_
        refine gj_iload_n hO 2 dX9_load_39 rfl rfl ?_
        refine gj_iadd hO dX9_load_40 ?_
        refine gj_i2l hO dX9_load_41 ?_
        refine gj_ldc2 hO wk_938 dX9_load_42 ?_
        refine gj_ldc2 hO wk_939 dX9_load_45 ?_
        obtain ⟨x4, hc4, hf⟩ := gj_b hf
        refine ca_X9_within hO kl_188  hc4 wk_653 (by decide) (by decide) (Nat.le_of_ble_eq_true rfl) dX9_load_48 ?_
        refine gj_if_ne (tgt := 56) hO dX9_load_51 (by decide) (fun h => ?_) (fun h => ?_)
        · replace hf := gj_f h hf
          refine gj_aload_n hO 0 dX9_load_56 rfl rfl ?_
          obtain ⟨x5, hc5, hf⟩ := gj_b hf
          refine ca_X9_laysTree hO kl_188  hc5 wk_792 (by decide) (by decide) (Nat.le_of_ble_eq_true rfl) dX9_load_57 ?_
          refine gj_iload_n hO 1 dX9_load_60 rfl rfl ?_
          refine gj_istore_n (lv2 := [(3, gj_i b1), (0, gj_r 188), (1, gj_i b1), (2, gj_i b2)]) hO dX9_load_61 rfl (by decide) rfl ?_
          obtain ⟨y6, hz6, hf⟩ := gj_b hf
          have J6 : (fun y6 => gj_K (fun q => (some (gj_i x)) = (some (gj_i q.1)) ∧ y = q.2) (fun z6 => gj_G E X 4 (some (gj_i x)) y 108 [(0, gj_r 188), (1, gj_i b1), (2, gj_i b2)] [] x5) y6) y6 := by
            rcases y6 with q | z6
            · have hf : some q = some (x, y) := hf
              obtain rfl := Option.some.inj hf
              exact ⟨rfl, rfl⟩
            · dsimp only [Sum.elim] at hf
              refine gj_aload_n hO 0 dX9_load_108 rfl rfl ?_
              obtain ⟨x7, hc7, hf⟩ := gj_b hf
              refine ca_X9_keeps hO kl_188  hc7 wk_886 (by decide) (by decide) (Nat.le_of_ble_eq_true rfl) dX9_load_109 ?_
              refine gj_aload_n hO 0 dX9_load_112 rfl rfl ?_
              refine gt_X9_21 hO wk_725 dX9_load_113 ?_
              refine gj_iconst (v := 0) hO dX9_load_116 (by decide) ?_
              refine gj_iload_n hO 1 dX9_load_117 rfl rfl ?_
              refine gj_iadd hO dX9_load_118 ?_
              refine gj_dup2 hO dX9_load_119 trivial trivial ?_
              obtain ⟨hb8, hf⟩ := gj_c hf
              refine gj_iald hO kl_198 kd_198 hb8 dX9_load_120 ?_
              refine gj_iload_n hO 2 dX9_load_121 rfl rfl ?_
              refine gj_iadd hO dX9_load_122 ?_
              obtain ⟨hb9, hf⟩ := gj_c hf
              refine gj_iast hO kl_198 kd_198 hb9 dX9_load_123 ?_
              refine gj_iload_n hO 1 dX9_load_124 rfl rfl ?_
              refine gj_istore_n (lv2 := [(3, gj_i b1), (0, gj_r 188), (1, gj_i b1), (2, gj_i b2)]) hO dX9_load_125 rfl (by decide) rfl ?_
              obtain ⟨z10, hz10, hf⟩ := gj_b hf
              have J10 : gj_G E X 4 (some (gj_i x)) y 172 [(0, gj_r 188), (1, gj_i b1)] [] z10 := by
                refine gj_aload_n hO 0 dX9_load_172 rfl rfl ?_
                refine gt_X9_28 hO wk_763 dX9_load_173 ?_
                refine gj_iload_n hO 1 dX9_load_176 rfl rfl ?_
                obtain ⟨hb11, hf⟩ := gj_c hf
                refine gj_iald hO kl_204 kd_204 hb11 dX9_load_177 ?_
                replace hf := Option.some.inj hf
                simp only [Prod.mk.injEq] at hf
                obtain ⟨rfl, rfl⟩ := hf
                exact gj_iret hO dX9_load_178
              refine gj_sub (lv2 := [(0, gj_r 188), (1, gj_i b1), (2, gj_i b2), (3, gj_i b1)]) [1, 2, 3, 0] rfl ?_
              exact gj_loop (head := fun a10126 => gj_G E X 4 (some (gj_i x)) y 126 [(0, gj_r 188), (1, gj_i b1), (2, gj_i b2), (3, gj_i a10126.1)] [] a10126.2) (exit := fun z10 => gj_G E X 4 (some (gj_i x)) y 172 [(0, gj_r 188), (1, gj_i b1)] [] z10) (fun a10126 x hf K => by obtain ⟨a10126_0, a10126_1⟩ := a10126; exact sb_X9_load_l126 hO hf K) _ _ _ hz10 J10
          refine gj_sub (lv2 := [(0, gj_r 188), (1, gj_i b1), (2, gj_i b2), (3, gj_i b1)]) [1, 2, 3, 0] rfl ?_
          exact gj_loop (head := fun a10062 => gj_G E X 4 (some (gj_i x)) y 62 [(0, gj_r 188), (1, gj_i b1), (2, gj_i b2), (3, gj_i a10062)] [] x5) (exit := fun y6 => gj_K (fun q => (some (gj_i x)) = (some (gj_i q.1)) ∧ y = q.2) (fun z6 => gj_G E X 4 (some (gj_i x)) y 108 [(0, gj_r 188), (1, gj_i b1), (2, gj_i b2)] [] x5) y6) (fun a10062 x hf K => sb_X9_load_l62 hO hf K) _ _ _ hz6 J6
        · replace hf := gj_t h hf
          refine gj_iconst (v := (-1)) hO dX9_load_54 (by decide) ?_
          replace hf := Option.some.inj hf
          simp only [Prod.mk.injEq] at hf
          obtain ⟨rfl, rfl⟩ := hf
          exact gj_iret hO dX9_load_55
set_option maxHeartbeats 4000000 in
set_option maxRecDepth 100000 in
theorem ca_X9_load {E : gj_E} {X : gj_X} {own : String} {cc : ByteArray} {nL : Nat} {rt : Option FieldType} {fr lo : Nat} {ce sl : Nat} {Q : State → Prop} {pc : Nat} {lv : List (Nat × gj_V)} {st : List gj_V} {σ : gj_S} (hO : gj_O E X own cc nL rt fr lo) (hw : gj_lt own 188) {b1 : Int32} {b2 : Int32}  {idx : Nat} {x : Int32} {y : gj_S} (hf : f_X9_load b1 b2 σ = some (x, y)) (hl : Cond.methodLink own idx yX9_load ∈ gj_gw) (hf1 : 4 ≤ fr) (hf2 : 89 ≤ lo) (hcat : ((st.map (gj_tv E.2.1)).map fun v => v.category).sum ≤ 8) (hd : decode cc pc = .ok (.invokevirtual idx, 3)) (k : gj_H E X nL ce sl Q (pc + 3) lv ((gj_i x) :: st) y) : gj_H E X nL ce sl Q pc lv (gj_i b2 :: gj_i b1 :: gj_r 188 :: st) σ :=
  gj_callV hO (o := 188) (vs := [gj_i b1, gj_i b2]) (m_X9_load  hf) (gj_I9 hw) hl wk_952 wk_953 wk_629 wk_954 hw kd_188 (by decide) (ci := 9) rfl (n := 2) (by decide +kernel) rfl hf1 hf2 rfl hcat hd k
def fb_X9_spare_l26 (b2 : Int32) (σ : gj_S) (a10026 : (Int32 × Int32)) : Option (Int32 ⊕ (Int32 × Int32)) := (if a10026.2 = (8 : Int32) then some (.inl a10026.1) else ((f_X9_spareOf a10026.2 b2 σ).bind fun x12601 => ((if a10026.1 ≤ x12601 then some a10026.1 else ((f_X9_spareOf a10026.2 b2 σ).bind fun x12603 => some x12603) : Option Int32).bind fun z12602 => ((f_X9_aboveOf a10026.2 σ).bind fun x12604 => some (.inr (z12602, x12604))))))
def f_X9_spare (b1 : Int32) (b2 : Int32) (σ : gj_S) : Option (Int32 × gj_S) := ((f_X9_isDock b1 (gj_sI σ 188 (upd (σ.1 188) 0 (0 : Int32)))).bind fun x1 => (if x1 = 0 then some ((-1 : Int32), (gj_sI σ 188 (upd (σ.1 188) 0 (0 : Int32)))) else ((f_X9_laysTree (gj_sI σ 188 (upd (σ.1 188) 0 (0 : Int32)))).bind fun x2 => ((gj_lp (fb_X9_spare_l26 b2 x2) 5000 ((1000000 : Int32), b1)).bind fun z3 => some (z3, x2)))))
set_option maxHeartbeats 4000000 in
set_option maxRecDepth 100000 in
theorem sb_X9_spare_l26 {E : gj_E} {X : gj_X} {r : Option gj_V} {τ : gj_S} (hO : gj_O E X RX9 cX9_spare 5 (some .int) 3 66) {b2 : Int32} {σ : gj_S} {a10026_0 : Int32} {a10026_1 : Int32} {x : Int32 ⊕ (Int32 × Int32)} (hf : fb_X9_spare_l26 b2 σ (a10026_0, a10026_1) = some x) (K : gj_K (fun z3 => gj_G E X 5 r τ 67 [(3, gj_i z3)] [] σ) (fun a10026 => gj_G E X 5 r τ 26 [(0, gj_r 188), (2, gj_i b2), (3, gj_i a10026.1), (4, gj_i a10026.2)] [] σ) x) : gj_G E X 5 r τ 26 [(0, gj_r 188), (2, gj_i b2), (3, gj_i a10026_0), (4, gj_i a10026_1)] [] σ := by
  unfold fb_X9_spare_l26 at hf
  dsimp only at hf
  refine gj_iload hO 3 dX9_spare_26 rfl ?_
  refine gj_bipush (v := 8) hO dX9_spare_28 (by decide) ?_
  refine gj_icmp_eq (tgt := 67) hO dX9_spare_30 (by decide) (fun h => ?_) (fun h => ?_)
  · replace hf := gj_t h hf
    obtain rfl := Option.some.inj hf
    refine gj_sub (lv2 := [(3, gj_i a10026_0)]) [2] rfl ?_
    exact K
  · replace hf := gj_f h hf
    refine gj_aload_n hO 0 dX9_spare_33 rfl rfl ?_
    refine gj_iload hO 3 dX9_spare_34 rfl ?_
    refine gj_iload_n hO 1 dX9_spare_36 rfl rfl ?_
    obtain ⟨x12601, hc12601, hf⟩ := gj_b hf
    refine ca_X9_spareOf hO kl_188  hc12601 wk_951 (by decide) (by decide) (Nat.le_of_ble_eq_true rfl) dX9_spare_37 ?_
    refine gj_iload_n hO 2 dX9_spare_40 rfl rfl ?_
    obtain ⟨z12602, hz12602, hf⟩ := gj_b hf
    have J12602 : gj_G E X 5 r τ 55 [(0, gj_r 188), (2, gj_i b2), (4, gj_i a10026_1)] [gj_i z12602] σ := by
      refine gj_istore_n (lv2 := [(3, gj_i z12602), (0, gj_r 188), (2, gj_i b2), (4, gj_i a10026_1)]) hO dX9_spare_55 rfl (by decide) rfl ?_
      refine gj_aload_n hO 1 dX9_spare_56 rfl rfl ?_
      refine gj_iload hO 3 dX9_spare_57 rfl ?_
      obtain ⟨x12604, hc12604, hf⟩ := gj_b hf
      refine ca_X9_aboveOf hO kl_188  hc12604 wk_797 (by decide) (by decide) (Nat.le_of_ble_eq_true rfl) dX9_spare_59 ?_
      refine gj_istore (lv2 := [(4, gj_i x12604), (3, gj_i z12602), (0, gj_r 188), (2, gj_i b2)]) hO dX9_spare_62 (by decide) rfl ?_
      refine gj_goto (tgt := 26) hO dX9_spare_64 (by decide) ?_
      obtain rfl := Option.some.inj hf
      refine gj_sub (lv2 := [(0, gj_r 188), (2, gj_i b2), (3, gj_i z12602), (4, gj_i x12604)]) [2, 3, 1, 0] rfl ?_
      exact K
    refine gj_icmp_ge (tgt := 54) hO dX9_spare_41 (by decide) (fun h => ?_) (fun h => ?_)
    · replace hz12602 := gj_t h hz12602
      refine gj_iload_n hO 2 dX9_spare_54 rfl rfl ?_
      obtain rfl := Option.some.inj hz12602
      refine gj_sub (lv2 := [(0, gj_r 188), (2, gj_i b2), (4, gj_i a10026_1)]) [0, 1, 3] rfl ?_
      exact J12602
    · replace hz12602 := gj_f h hz12602
      refine gj_aload_n hO 0 dX9_spare_44 rfl rfl ?_
      refine gj_iload hO 3 dX9_spare_45 rfl ?_
      refine gj_iload_n hO 1 dX9_spare_47 rfl rfl ?_
      obtain ⟨x12603, hc12603, hz12602⟩ := gj_b hz12602
      refine ca_X9_spareOf hO kl_188  hc12603 wk_951 (by decide) (by decide) (Nat.le_of_ble_eq_true rfl) dX9_spare_48 ?_
      refine gj_goto (tgt := 55) hO dX9_spare_51 (by decide) ?_
      obtain rfl := Option.some.inj hz12602
      refine gj_sub (lv2 := [(0, gj_r 188), (2, gj_i b2), (4, gj_i a10026_1)]) [0, 1, 3] rfl ?_
      exact J12602
set_option maxHeartbeats 4000000 in
set_option maxRecDepth 100000 in
theorem m_X9_spare {E : gj_E} {σ : gj_S} {b1 : Int32} {b2 : Int32}  {x : Int32} {y : gj_S} (hf : f_X9_spare b1 b2 σ = some (x, y)) : gj_M E yX9_spare cX9_spare 5 (some .int) 3 66 [gj_r 188, gj_i b1, gj_i b2] σ (some (gj_i x)) y := by
  refine gj_body (lv := [(0, gj_r 188), (1, gj_i b1), (2, gj_i b2)]) (by decide +kernel) (Nat.le_of_ble_eq_true rfl) rfl (fun X hO => ?_)
  replace hO : gj_O E X RX9 cX9_spare 5 (some .int) 3 66 := hO
  unfold f_X9_spare at hf
  refine gj_aload_n hO 0 dX9_spare_0 rfl rfl ?_
  refine gj_iconst (v := 0) hO dX9_spare_1 (by decide) ?_
  refine pt_X9_0 hO wk_636 dX9_spare_2 ?_
  refine gj_aload_n hO 0 dX9_spare_5 rfl rfl ?_
  refine gj_iload_n hO 1 dX9_spare_6 rfl rfl ?_
  obtain ⟨x1, hc1, hf⟩ := gj_b hf
  refine ca_X9_isDock hO kl_188  hc1 wk_807 (by decide) (by decide) (Nat.le_of_ble_eq_true rfl) dX9_spare_7 ?_
  refine gj_if_ne (tgt := 15) hO dX9_spare_10 (by decide) (fun h => ?_) (fun h => ?_)
  · replace hf := gj_f h hf
    refine gj_aload_n hO 0 dX9_spare_15 rfl rfl ?_
    obtain ⟨x2, hc2, hf⟩ := gj_b hf
    refine ca_X9_laysTree hO kl_188  hc2 wk_792 (by decide) (by decide) (Nat.le_of_ble_eq_true rfl) dX9_spare_16 ?_
    refine gj_ldcw hO wk_945 dX9_spare_19 ?_
    refine gj_istore_n (lv2 := [(3, gj_i (1000000 : Int32)), (0, gj_r 188), (1, gj_i b1), (2, gj_i b2)]) hO dX9_spare_22 rfl (by decide) rfl ?_
    refine gj_iload_n hO 2 dX9_spare_23 rfl rfl ?_
    refine gj_istore (lv2 := [(4, gj_i b1), (3, gj_i (1000000 : Int32)), (0, gj_r 188), (1, gj_i b1), (2, gj_i b2)]) hO dX9_spare_24 (by decide) rfl ?_
    obtain ⟨z3, hz3, hf⟩ := gj_b hf
    have J3 : gj_G E X 5 (some (gj_i x)) y 67 [(3, gj_i z3)] [] x2 := by
      refine gj_iload_n hO 0 dX9_spare_67 rfl rfl ?_
      replace hf := Option.some.inj hf
      simp only [Prod.mk.injEq] at hf
      obtain ⟨rfl, rfl⟩ := hf
      exact gj_iret hO dX9_spare_68
    refine gj_sub (lv2 := [(0, gj_r 188), (2, gj_i b2), (3, gj_i (1000000 : Int32)), (4, gj_i b1)]) [2, 4, 1, 0] rfl ?_
    exact gj_loop (head := fun a10026 => gj_G E X 5 (some (gj_i x)) y 26 [(0, gj_r 188), (2, gj_i b2), (3, gj_i a10026.1), (4, gj_i a10026.2)] [] x2) (exit := fun z3 => gj_G E X 5 (some (gj_i x)) y 67 [(3, gj_i z3)] [] x2) (fun a10026 x hf K => by obtain ⟨a10026_0, a10026_1⟩ := a10026; exact sb_X9_spare_l26 hO hf K) _ _ _ hz3 J3
  · replace hf := gj_t h hf
    refine gj_iconst (v := (-1)) hO dX9_spare_13 (by decide) ?_
    replace hf := Option.some.inj hf
    simp only [Prod.mk.injEq] at hf
    obtain ⟨rfl, rfl⟩ := hf
    exact gj_iret hO dX9_spare_14
set_option maxHeartbeats 4000000 in
set_option maxRecDepth 100000 in
theorem ca_X9_spare {E : gj_E} {X : gj_X} {own : String} {cc : ByteArray} {nL : Nat} {rt : Option FieldType} {fr lo : Nat} {ce sl : Nat} {Q : State → Prop} {pc : Nat} {lv : List (Nat × gj_V)} {st : List gj_V} {σ : gj_S} (hO : gj_O E X own cc nL rt fr lo) (hw : gj_lt own 188) {b1 : Int32} {b2 : Int32}  {idx : Nat} {x : Int32} {y : gj_S} (hf : f_X9_spare b1 b2 σ = some (x, y)) (hl : Cond.methodLink own idx yX9_spare ∈ gj_gw) (hf1 : 4 ≤ fr) (hf2 : 90 ≤ lo) (hcat : ((st.map (gj_tv E.2.1)).map fun v => v.category).sum ≤ 8) (hd : decode cc pc = .ok (.invokevirtual idx, 3)) (k : gj_H E X nL ce sl Q (pc + 3) lv ((gj_i x) :: st) y) : gj_H E X nL ce sl Q pc lv (gj_i b2 :: gj_i b1 :: gj_r 188 :: st) σ :=
  gj_callV hO (o := 188) (vs := [gj_i b1, gj_i b2]) (m_X9_spare  hf) (gj_I9 hw) hl wk_955 wk_956 wk_629 wk_957 hw kd_188 (by decide) (ci := 9) rfl (n := 2) (by decide +kernel) rfl hf1 hf2 rfl hcat hd k
def f_X9_retold (b1 : Int32) (b2 : Int32) (σ : gj_S) : Option (Int32 × gj_S) := ((f_X9_keeps σ).bind fun x1 => (if gj_in b1 180 then (if gj_in b1 180 then some ((x1.1 198 (Int32.toNatClampNeg b1)), (gj_sI x1 198 (upd (x1.1 198) (Int32.toNatClampNeg b1) b2))) else none) else none))
set_option maxHeartbeats 4000000 in
set_option maxRecDepth 100000 in
theorem m_X9_retold {E : gj_E} {σ : gj_S} {b1 : Int32} {b2 : Int32}  {x : Int32} {y : gj_S} (hf : f_X9_retold b1 b2 σ = some (x, y)) : gj_M E yX9_retold cX9_retold 4 (some .int) 1 21 [gj_r 188, gj_i b1, gj_i b2] σ (some (gj_i x)) y := by
  refine gj_body (lv := [(0, gj_r 188), (1, gj_i b1), (2, gj_i b2)]) (by decide +kernel) (Nat.le_of_ble_eq_true rfl) rfl (fun X hO => ?_)
  replace hO : gj_O E X RX9 cX9_retold 4 (some .int) 1 21 := hO
  unfold f_X9_retold at hf
  refine gj_aload_n hO 0 dX9_retold_0 rfl rfl ?_
  obtain ⟨x1, hc1, hf⟩ := gj_b hf
  refine ca_X9_keeps hO kl_188  hc1 wk_886 (by decide) (by decide) (Nat.le_of_ble_eq_true rfl) dX9_retold_1 ?_
  refine gj_aload_n hO 0 dX9_retold_4 rfl rfl ?_
  refine gt_X9_21 hO wk_725 dX9_retold_5 ?_
  refine gj_iload_n hO 1 dX9_retold_8 rfl rfl ?_
  obtain ⟨hb2, hf⟩ := gj_c hf
  refine gj_iald hO kl_198 kd_198 hb2 dX9_retold_9 ?_
  refine gj_istore_n (lv2 := [(3, gj_i (x1.1 198 (Int32.toNatClampNeg b1))), (0, gj_r 188), (1, gj_i b1), (2, gj_i b2)]) hO dX9_retold_10 rfl (by decide) rfl ?_
  refine gj_aload_n hO 1 dX9_retold_11 rfl rfl ?_
  refine gt_X9_21 hO wk_725 dX9_retold_12 ?_
  refine gj_iload_n hO 2 dX9_retold_15 rfl rfl ?_
  refine gj_iload_n hO 3 dX9_retold_16 rfl rfl ?_
  obtain ⟨hb3, hf⟩ := gj_c hf
  refine gj_iast hO kl_198 kd_198 hb3 dX9_retold_17 ?_
  refine gj_iload_n hO 0 dX9_retold_18 rfl rfl ?_
  replace hf := Option.some.inj hf
  simp only [Prod.mk.injEq] at hf
  obtain ⟨rfl, rfl⟩ := hf
  exact gj_iret hO dX9_retold_19
set_option maxHeartbeats 4000000 in
set_option maxRecDepth 100000 in
theorem ca_X9_retold {E : gj_E} {X : gj_X} {own : String} {cc : ByteArray} {nL : Nat} {rt : Option FieldType} {fr lo : Nat} {ce sl : Nat} {Q : State → Prop} {pc : Nat} {lv : List (Nat × gj_V)} {st : List gj_V} {σ : gj_S} (hO : gj_O E X own cc nL rt fr lo) (hw : gj_lt own 188) {b1 : Int32} {b2 : Int32}  {idx : Nat} {x : Int32} {y : gj_S} (hf : f_X9_retold b1 b2 σ = some (x, y)) (hl : Cond.methodLink own idx yX9_retold ∈ gj_gw) (hf1 : 2 ≤ fr) (hf2 : 44 ≤ lo) (hcat : ((st.map (gj_tv E.2.1)).map fun v => v.category).sum ≤ 8) (hd : decode cc pc = .ok (.invokevirtual idx, 3)) (k : gj_H E X nL ce sl Q (pc + 3) lv ((gj_i x) :: st) y) : gj_H E X nL ce sl Q pc lv (gj_i b2 :: gj_i b1 :: gj_r 188 :: st) σ :=
  gj_callV hO (o := 188) (vs := [gj_i b1, gj_i b2]) (m_X9_retold  hf) (gj_I9 hw) hl wk_958 wk_959 wk_629 wk_960 hw kd_188 (by decide) (ci := 9) rfl (n := 2) (by decide +kernel) rfl hf1 hf2 rfl hcat hd k
def f_X9_toll (b1 : Int32) (b2 : Int32) (σ : gj_S) : Option (Int32 × gj_S) := ((f_X9_isRoute b1 (gj_sI σ 188 (upd (σ.1 188) 0 (0 : Int32)))).bind fun x1 => (if x1 = 0 then some ((-1 : Int32), (gj_sI σ 188 (upd (σ.1 188) 0 (0 : Int32)))) else ((f_X9_within (Int32.toInt64 b2) (0 : Int64) (999 : Int64)).bind fun x2 => (if x2 = 0 then some ((-1 : Int32), (gj_sI σ 188 (upd (σ.1 188) 0 (0 : Int32)))) else (if gj_in ((8 : Int32) + b1) 180 then (if ((gj_sI σ 188 (upd (σ.1 188) 0 (0 : Int32))).1 198 (Int32.toNatClampNeg ((8 : Int32) + b1))) = b2 then some ((-1 : Int32), (gj_sI σ 188 (upd (σ.1 188) 0 (0 : Int32)))) else ((f_X9_retold ((8 : Int32) + b1) b2 (gj_sI σ 188 (upd (σ.1 188) 0 (0 : Int32)))).bind fun x4 => some (x4.1, x4.2))) else none)))))
set_option maxHeartbeats 4000000 in
set_option maxRecDepth 100000 in
theorem m_X9_toll {E : gj_E} {σ : gj_S} {b1 : Int32} {b2 : Int32}  {x : Int32} {y : gj_S} (hf : f_X9_toll b1 b2 σ = some (x, y)) : gj_M E yX9_toll cX9_toll 3 (some .int) 2 46 [gj_r 188, gj_i b1, gj_i b2] σ (some (gj_i x)) y := by
  refine gj_body (lv := [(0, gj_r 188), (1, gj_i b1), (2, gj_i b2)]) (by decide +kernel) (Nat.le_of_ble_eq_true rfl) rfl (fun X hO => ?_)
  replace hO : gj_O E X RX9 cX9_toll 3 (some .int) 2 46 := hO
  unfold f_X9_toll at hf
  refine gj_aload_n hO 0 dX9_toll_0 rfl rfl ?_
  refine gj_iconst (v := 0) hO dX9_toll_1 (by decide) ?_
  refine pt_X9_0 hO wk_636 dX9_toll_2 ?_
  refine gj_aload_n hO 0 dX9_toll_5 rfl rfl ?_
  refine gj_iload_n hO 1 dX9_toll_6 rfl rfl ?_
  obtain ⟨x1, hc1, hf⟩ := gj_b hf
  refine ca_X9_isRoute hO kl_188  hc1 wk_934 (by decide) (by decide) (Nat.le_of_ble_eq_true rfl) dX9_toll_7 ?_
  refine gj_if_eq (tgt := 50) hO dX9_toll_10 (by decide) (fun h => ?_) (fun h => ?_)
  · replace hf := gj_t h hf
    refine gj_iconst (v := (-1)) hO dX9_toll_50 (by decide) ?_
    replace hf := Option.some.inj hf
    simp only [Prod.mk.injEq] at hf
    obtain ⟨rfl, rfl⟩ := hf
    exact gj_iret hO dX9_toll_51
  · replace hf := gj_f h hf
    refine gj_iload_n hO 2 dX9_toll_13 rfl rfl ?_
    refine gj_i2l hO dX9_toll_14 ?_
    refine gj_lconst (v := 0) hO dX9_toll_15 (by decide) ?_
    refine gj_ldc2 hO wk_939 dX9_toll_16 ?_
    obtain ⟨x2, hc2, hf⟩ := gj_b hf
    refine ca_X9_within hO kl_188  hc2 wk_653 (by decide) (by decide) (Nat.le_of_ble_eq_true rfl) dX9_toll_19 ?_
    refine gj_if_eq (tgt := 50) hO dX9_toll_22 (by decide) (fun h => ?_) (fun h => ?_)
    · replace hf := gj_t h hf
      refine gj_iconst (v := (-1)) hO dX9_toll_50 (by decide) ?_
      replace hf := Option.some.inj hf
      simp only [Prod.mk.injEq] at hf
      obtain ⟨rfl, rfl⟩ := hf
      exact gj_iret hO dX9_toll_51
    · replace hf := gj_f h hf
      refine gj_aload_n hO 0 dX9_toll_25 rfl rfl ?_
      refine gt_X9_21 hO wk_725 dX9_toll_26 ?_
      refine gj_bipush (v := 8) hO dX9_toll_29 (by decide) ?_
      refine gj_iload_n hO 1 dX9_toll_31 rfl rfl ?_
      refine gj_iadd hO dX9_toll_32 ?_
      obtain ⟨hb3, hf⟩ := gj_c hf
      refine gj_iald hO kl_198 kd_198 hb3 dX9_toll_33 ?_
      refine gj_iload_n hO 2 dX9_toll_34 rfl rfl ?_
      refine gj_icmp_eq (tgt := 50) hO dX9_toll_35 (by decide) (fun h => ?_) (fun h => ?_)
      · replace hf := gj_t h hf
        refine gj_iconst (v := (-1)) hO dX9_toll_50 (by decide) ?_
        replace hf := Option.some.inj hf
        simp only [Prod.mk.injEq] at hf
        obtain ⟨rfl, rfl⟩ := hf
        exact gj_iret hO dX9_toll_51
      · replace hf := gj_f h hf
        refine gj_aload_n hO 0 dX9_toll_38 rfl rfl ?_
        refine gj_bipush (v := 8) hO dX9_toll_39 (by decide) ?_
        refine gj_iload_n hO 1 dX9_toll_41 rfl rfl ?_
        refine gj_iadd hO dX9_toll_42 ?_
        refine gj_iload_n hO 2 dX9_toll_43 rfl rfl ?_
        obtain ⟨⟨x4_v, x4_s⟩, hc4, hf⟩ := gj_b hf
        dsimp only at hf
        refine ca_X9_retold hO kl_188  hc4 wk_961 (by decide) (by decide) (Nat.le_of_ble_eq_true rfl) dX9_toll_44 ?_
        refine gj_goto (tgt := 51) hO dX9_toll_47 (by decide) ?_
        replace hf := Option.some.inj hf
        simp only [Prod.mk.injEq] at hf
        obtain ⟨rfl, rfl⟩ := hf
        exact gj_iret hO dX9_toll_51
set_option maxHeartbeats 4000000 in
set_option maxRecDepth 100000 in
theorem ca_X9_toll {E : gj_E} {X : gj_X} {own : String} {cc : ByteArray} {nL : Nat} {rt : Option FieldType} {fr lo : Nat} {ce sl : Nat} {Q : State → Prop} {pc : Nat} {lv : List (Nat × gj_V)} {st : List gj_V} {σ : gj_S} (hO : gj_O E X own cc nL rt fr lo) (hw : gj_lt own 188) {b1 : Int32} {b2 : Int32}  {idx : Nat} {x : Int32} {y : gj_S} (hf : f_X9_toll b1 b2 σ = some (x, y)) (hl : Cond.methodLink own idx yX9_toll ∈ gj_gw) (hf1 : 3 ≤ fr) (hf2 : 68 ≤ lo) (hcat : ((st.map (gj_tv E.2.1)).map fun v => v.category).sum ≤ 8) (hd : decode cc pc = .ok (.invokevirtual idx, 3)) (k : gj_H E X nL ce sl Q (pc + 3) lv ((gj_i x) :: st) y) : gj_H E X nL ce sl Q pc lv (gj_i b2 :: gj_i b1 :: gj_r 188 :: st) σ :=
  gj_callV hO (o := 188) (vs := [gj_i b1, gj_i b2]) (m_X9_toll  hf) (gj_I9 hw) hl wk_962 wk_963 wk_629 wk_964 hw kd_188 (by decide) (ci := 9) rfl (n := 2) (by decide +kernel) rfl hf1 hf2 rfl hcat hd k
def f_X9_hold (b1 : Int32) (b2 : Int32) (σ : gj_S) : Option (Int32 × gj_S) := ((f_X9_isRoute b1 (gj_sI σ 188 (upd (σ.1 188) 0 (0 : Int32)))).bind fun x1 => (if x1 = 0 then some ((-1 : Int32), (gj_sI σ 188 (upd (σ.1 188) 0 (0 : Int32)))) else ((f_X9_within (Int32.toInt64 b2) (1 : Int64) (999 : Int64)).bind fun x2 => (if x2 = 0 then some ((-1 : Int32), (gj_sI σ 188 (upd (σ.1 188) 0 (0 : Int32)))) else (if gj_in ((24 : Int32) + b1) 180 then (if ((gj_sI σ 188 (upd (σ.1 188) 0 (0 : Int32))).1 198 (Int32.toNatClampNeg ((24 : Int32) + b1))) = b2 then some ((-1 : Int32), (gj_sI σ 188 (upd (σ.1 188) 0 (0 : Int32)))) else (if gj_in ((74 : Int32) + b1) 180 then (if ((gj_sI σ 188 (upd (σ.1 188) 0 (0 : Int32))).1 198 (Int32.toNatClampNeg ((74 : Int32) + b1))) = (2 : Int32) then some ((-2 : Int32), (gj_sI σ 188 (upd (σ.1 188) 0 (0 : Int32)))) else (if gj_in ((50 : Int32) + b1) 180 then (if ((gj_sI σ 188 (upd (σ.1 188) 0 (0 : Int32))).1 198 (Int32.toNatClampNeg ((50 : Int32) + b1))) ≤ b2 then ((f_X9_retold ((24 : Int32) + b1) b2 (gj_sI σ 188 (upd (σ.1 188) 0 (0 : Int32)))).bind fun x6 => some (x6.1, x6.2)) else some ((-2 : Int32), (gj_sI σ 188 (upd (σ.1 188) 0 (0 : Int32))))) else none)) else none)) else none)))))
set_option maxHeartbeats 4000000 in
set_option maxRecDepth 100000 in
theorem m_X9_hold {E : gj_E} {σ : gj_S} {b1 : Int32} {b2 : Int32}  {x : Int32} {y : gj_S} (hf : f_X9_hold b1 b2 σ = some (x, y)) : gj_M E yX9_hold cX9_hold 3 (some .int) 2 46 [gj_r 188, gj_i b1, gj_i b2] σ (some (gj_i x)) y := by
  refine gj_body (lv := [(0, gj_r 188), (1, gj_i b1), (2, gj_i b2)]) (by decide +kernel) (Nat.le_of_ble_eq_true rfl) rfl (fun X hO => ?_)
  replace hO : gj_O E X RX9 cX9_hold 3 (some .int) 2 46 := hO
  unfold f_X9_hold at hf
  refine gj_aload_n hO 0 dX9_hold_0 rfl rfl ?_
  refine gj_iconst (v := 0) hO dX9_hold_1 (by decide) ?_
  refine pt_X9_0 hO wk_636 dX9_hold_2 ?_
  refine gj_aload_n hO 0 dX9_hold_5 rfl rfl ?_
  refine gj_iload_n hO 1 dX9_hold_6 rfl rfl ?_
  obtain ⟨x1, hc1, hf⟩ := gj_b hf
  refine ca_X9_isRoute hO kl_188  hc1 wk_934 (by decide) (by decide) (Nat.le_of_ble_eq_true rfl) dX9_hold_7 ?_
  refine gj_if_eq (tgt := 38) hO dX9_hold_10 (by decide) (fun h => ?_) (fun h => ?_)
  · replace hf := gj_t h hf
    refine gj_iconst (v := (-1)) hO dX9_hold_38 (by decide) ?_
    replace hf := Option.some.inj hf
    simp only [Prod.mk.injEq] at hf
    obtain ⟨rfl, rfl⟩ := hf
    exact gj_iret hO dX9_hold_39
  · replace hf := gj_f h hf
    refine gj_iload_n hO 2 dX9_hold_13 rfl rfl ?_
    refine gj_i2l hO dX9_hold_14 ?_
    refine gj_lconst (v := 1) hO dX9_hold_15 (by decide) ?_
    refine gj_ldc2 hO wk_939 dX9_hold_16 ?_
    obtain ⟨x2, hc2, hf⟩ := gj_b hf
    refine ca_X9_within hO kl_188  hc2 wk_653 (by decide) (by decide) (Nat.le_of_ble_eq_true rfl) dX9_hold_19 ?_
    refine gj_if_eq (tgt := 38) hO dX9_hold_22 (by decide) (fun h => ?_) (fun h => ?_)
    · replace hf := gj_t h hf
      refine gj_iconst (v := (-1)) hO dX9_hold_38 (by decide) ?_
      replace hf := Option.some.inj hf
      simp only [Prod.mk.injEq] at hf
      obtain ⟨rfl, rfl⟩ := hf
      exact gj_iret hO dX9_hold_39
    · replace hf := gj_f h hf
      refine gj_aload_n hO 0 dX9_hold_25 rfl rfl ?_
      refine gt_X9_21 hO wk_725 dX9_hold_26 ?_
      refine gj_bipush (v := 24) hO dX9_hold_29 (by decide) ?_
      refine gj_iload_n hO 1 dX9_hold_31 rfl rfl ?_
      refine gj_iadd hO dX9_hold_32 ?_
      obtain ⟨hb3, hf⟩ := gj_c hf
      refine gj_iald hO kl_198 kd_198 hb3 dX9_hold_33 ?_
      refine gj_iload_n hO 2 dX9_hold_34 rfl rfl ?_
      refine gj_icmp_ne (tgt := 40) hO dX9_hold_35 (by decide) (fun h => ?_) (fun h => ?_)
      · replace hf := gj_f h hf
        refine gj_aload_n hO 0 dX9_hold_40 rfl rfl ?_
        refine gt_X9_21 hO wk_725 dX9_hold_41 ?_
        refine gj_bipush (v := 74) hO dX9_hold_44 (by decide) ?_
        refine gj_iload_n hO 1 dX9_hold_46 rfl rfl ?_
        refine gj_iadd hO dX9_hold_47 ?_
        obtain ⟨hb4, hf⟩ := gj_c hf
        refine gj_iald hO kl_198 kd_198 hb4 dX9_hold_48 ?_
        refine gj_iconst (v := 2) hO dX9_hold_49 (by decide) ?_
        refine gj_icmp_eq (tgt := 66) hO dX9_hold_50 (by decide) (fun h => ?_) (fun h => ?_)
        · replace hf := gj_t h hf
          refine gj_bipush (v := (-2)) hO dX9_hold_66 (by decide) ?_
          refine gj_goto (tgt := 80) hO dX9_hold_68 (by decide) ?_
          replace hf := Option.some.inj hf
          simp only [Prod.mk.injEq] at hf
          obtain ⟨rfl, rfl⟩ := hf
          exact gj_iret hO dX9_hold_80
        · replace hf := gj_f h hf
          refine gj_aload_n hO 0 dX9_hold_53 rfl rfl ?_
          refine gt_X9_21 hO wk_725 dX9_hold_54 ?_
          refine gj_bipush (v := 50) hO dX9_hold_57 (by decide) ?_
          refine gj_iload_n hO 1 dX9_hold_59 rfl rfl ?_
          refine gj_iadd hO dX9_hold_60 ?_
          obtain ⟨hb5, hf⟩ := gj_c hf
          refine gj_iald hO kl_198 kd_198 hb5 dX9_hold_61 ?_
          refine gj_iload_n hO 2 dX9_hold_62 rfl rfl ?_
          refine gj_icmp_le (tgt := 71) hO dX9_hold_63 (by decide) (fun h => ?_) (fun h => ?_)
          · replace hf := gj_t h hf
            refine gj_aload_n hO 0 dX9_hold_71 rfl rfl ?_
            refine gj_bipush (v := 24) hO dX9_hold_72 (by decide) ?_
            refine gj_iload_n hO 1 dX9_hold_74 rfl rfl ?_
            refine gj_iadd hO dX9_hold_75 ?_
            refine gj_iload_n hO 2 dX9_hold_76 rfl rfl ?_
            obtain ⟨⟨x6_v, x6_s⟩, hc6, hf⟩ := gj_b hf
            dsimp only at hf
            refine ca_X9_retold hO kl_188  hc6 wk_961 (by decide) (by decide) (Nat.le_of_ble_eq_true rfl) dX9_hold_77 ?_
            replace hf := Option.some.inj hf
            simp only [Prod.mk.injEq] at hf
            obtain ⟨rfl, rfl⟩ := hf
            exact gj_iret hO dX9_hold_80
          · replace hf := gj_f h hf
            refine gj_bipush (v := (-2)) hO dX9_hold_66 (by decide) ?_
            refine gj_goto (tgt := 80) hO dX9_hold_68 (by decide) ?_
            replace hf := Option.some.inj hf
            simp only [Prod.mk.injEq] at hf
            obtain ⟨rfl, rfl⟩ := hf
            exact gj_iret hO dX9_hold_80
      · replace hf := gj_t h hf
        refine gj_iconst (v := (-1)) hO dX9_hold_38 (by decide) ?_
        replace hf := Option.some.inj hf
        simp only [Prod.mk.injEq] at hf
        obtain ⟨rfl, rfl⟩ := hf
        exact gj_iret hO dX9_hold_39
set_option maxHeartbeats 4000000 in
set_option maxRecDepth 100000 in
theorem ca_X9_hold {E : gj_E} {X : gj_X} {own : String} {cc : ByteArray} {nL : Nat} {rt : Option FieldType} {fr lo : Nat} {ce sl : Nat} {Q : State → Prop} {pc : Nat} {lv : List (Nat × gj_V)} {st : List gj_V} {σ : gj_S} (hO : gj_O E X own cc nL rt fr lo) (hw : gj_lt own 188) {b1 : Int32} {b2 : Int32}  {idx : Nat} {x : Int32} {y : gj_S} (hf : f_X9_hold b1 b2 σ = some (x, y)) (hl : Cond.methodLink own idx yX9_hold ∈ gj_gw) (hf1 : 3 ≤ fr) (hf2 : 68 ≤ lo) (hcat : ((st.map (gj_tv E.2.1)).map fun v => v.category).sum ≤ 8) (hd : decode cc pc = .ok (.invokevirtual idx, 3)) (k : gj_H E X nL ce sl Q (pc + 3) lv ((gj_i x) :: st) y) : gj_H E X nL ce sl Q pc lv (gj_i b2 :: gj_i b1 :: gj_r 188 :: st) σ :=
  gj_callV hO (o := 188) (vs := [gj_i b1, gj_i b2]) (m_X9_hold  hf) (gj_I9 hw) hl wk_965 wk_966 wk_629 wk_967 hw kd_188 (by decide) (ci := 9) rfl (n := 2) (by decide +kernel) rfl hf1 hf2 rfl hcat hd k
def f_X9_block (b1 : Int32) (σ : gj_S) : Option (Int32 × gj_S) := ((f_X9_within (Int32.toInt64 b1) (1 : Int64) (24 : Int64)).bind fun x1 => (if x1 = 0 then some ((-1 : Int32), (gj_sI σ 188 (upd (σ.1 188) 0 (0 : Int32)))) else (if gj_in (40 : Int32) 180 then (if ((gj_sI σ 188 (upd (σ.1 188) 0 (0 : Int32))).1 198 (Int32.toNatClampNeg (40 : Int32))) = b1 then some ((-1 : Int32), (gj_sI σ 188 (upd (σ.1 188) 0 (0 : Int32)))) else ((f_X9_retold (40 : Int32) b1 (gj_sI σ 188 (upd (σ.1 188) 0 (0 : Int32)))).bind fun x3 => some (x3.1, x3.2))) else none)))
set_option maxHeartbeats 4000000 in
set_option maxRecDepth 100000 in
theorem m_X9_block {E : gj_E} {σ : gj_S} {b1 : Int32}  {x : Int32} {y : gj_S} (hf : f_X9_block b1 σ = some (x, y)) : gj_M E yX9_block cX9_block 2 (some .int) 2 44 [gj_r 188, gj_i b1] σ (some (gj_i x)) y := by
  refine gj_body (lv := [(0, gj_r 188), (1, gj_i b1)]) (by decide +kernel) (Nat.le_of_ble_eq_true rfl) rfl (fun X hO => ?_)
  replace hO : gj_O E X RX9 cX9_block 2 (some .int) 2 44 := hO
  unfold f_X9_block at hf
  refine gj_aload_n hO 0 dX9_block_0 rfl rfl ?_
  refine gj_iconst (v := 0) hO dX9_block_1 (by decide) ?_
  refine pt_X9_0 hO wk_636 dX9_block_2 ?_
  refine gj_iload_n hO 1 dX9_block_5 rfl rfl ?_
  refine gj_i2l hO dX9_block_6 ?_
  refine gj_lconst (v := 1) hO dX9_block_7 (by decide) ?_
  refine gj_ldc2 hO wk_968 dX9_block_8 ?_
  obtain ⟨x1, hc1, hf⟩ := gj_b hf
  refine ca_X9_within hO kl_188  hc1 wk_653 (by decide) (by decide) (Nat.le_of_ble_eq_true rfl) dX9_block_11 ?_
  refine gj_if_eq (tgt := 38) hO dX9_block_14 (by decide) (fun h => ?_) (fun h => ?_)
  · replace hf := gj_t h hf
    refine gj_iconst (v := (-1)) hO dX9_block_38 (by decide) ?_
    replace hf := Option.some.inj hf
    simp only [Prod.mk.injEq] at hf
    obtain ⟨rfl, rfl⟩ := hf
    exact gj_iret hO dX9_block_39
  · replace hf := gj_f h hf
    refine gj_aload_n hO 0 dX9_block_17 rfl rfl ?_
    refine gt_X9_21 hO wk_725 dX9_block_18 ?_
    refine gj_bipush (v := 40) hO dX9_block_21 (by decide) ?_
    obtain ⟨hb2, hf⟩ := gj_c hf
    refine gj_iald hO kl_198 kd_198 hb2 dX9_block_23 ?_
    refine gj_iload_n hO 1 dX9_block_24 rfl rfl ?_
    refine gj_icmp_eq (tgt := 38) hO dX9_block_25 (by decide) (fun h => ?_) (fun h => ?_)
    · replace hf := gj_t h hf
      refine gj_iconst (v := (-1)) hO dX9_block_38 (by decide) ?_
      replace hf := Option.some.inj hf
      simp only [Prod.mk.injEq] at hf
      obtain ⟨rfl, rfl⟩ := hf
      exact gj_iret hO dX9_block_39
    · replace hf := gj_f h hf
      refine gj_aload_n hO 0 dX9_block_28 rfl rfl ?_
      refine gj_bipush (v := 40) hO dX9_block_29 (by decide) ?_
      refine gj_iload_n hO 1 dX9_block_31 rfl rfl ?_
      obtain ⟨⟨x3_v, x3_s⟩, hc3, hf⟩ := gj_b hf
      dsimp only at hf
      refine ca_X9_retold hO kl_188  hc3 wk_961 (by decide) (by decide) (Nat.le_of_ble_eq_true rfl) dX9_block_32 ?_
      refine gj_goto (tgt := 39) hO dX9_block_35 (by decide) ?_
      replace hf := Option.some.inj hf
      simp only [Prod.mk.injEq] at hf
      obtain ⟨rfl, rfl⟩ := hf
      exact gj_iret hO dX9_block_39
set_option maxHeartbeats 4000000 in
set_option maxRecDepth 100000 in
theorem ca_X9_block {E : gj_E} {X : gj_X} {own : String} {cc : ByteArray} {nL : Nat} {rt : Option FieldType} {fr lo : Nat} {ce sl : Nat} {Q : State → Prop} {pc : Nat} {lv : List (Nat × gj_V)} {st : List gj_V} {σ : gj_S} (hO : gj_O E X own cc nL rt fr lo) (hw : gj_lt own 188) {b1 : Int32}  {idx : Nat} {x : Int32} {y : gj_S} (hf : f_X9_block b1 σ = some (x, y)) (hl : Cond.methodLink own idx yX9_block ∈ gj_gw) (hf1 : 3 ≤ fr) (hf2 : 65 ≤ lo) (hcat : ((st.map (gj_tv E.2.1)).map fun v => v.category).sum ≤ 8) (hd : decode cc pc = .ok (.invokevirtual idx, 3)) (k : gj_H E X nL ce sl Q (pc + 3) lv ((gj_i x) :: st) y) : gj_H E X nL ce sl Q pc lv (gj_i b1 :: gj_r 188 :: st) σ :=
  gj_callV hO (o := 188) (vs := [gj_i b1]) (m_X9_block  hf) (gj_I9 hw) hl wk_969 wk_970 wk_629 wk_971 hw kd_188 (by decide) (ci := 9) rfl (n := 1) (by decide +kernel) rfl hf1 hf2 rfl hcat hd k
def f_X9_anew  (σ : gj_S) : Option (Int32 × gj_S) := ((f_X9_keeps (gj_sI σ 188 (upd (σ.1 188) 0 (0 : Int32)))).bind fun x1 => (if gj_in (98 : Int32) 180 then ((f_X9_begins x1).bind fun x3 => some ((x1.1 198 (Int32.toNatClampNeg (98 : Int32))), x3)) else none))
set_option maxHeartbeats 4000000 in
set_option maxRecDepth 100000 in
theorem m_X9_anew {E : gj_E} {σ : gj_S}   {x : Int32} {y : gj_S} (hf : f_X9_anew  σ = some (x, y)) : gj_M E yX9_anew cX9_anew 2 (some .int) 1 22 [gj_r 188] σ (some (gj_i x)) y := by
  refine gj_body (lv := [(0, gj_r 188)]) (by decide +kernel) (Nat.le_of_ble_eq_true rfl) rfl (fun X hO => ?_)
  replace hO : gj_O E X RX9 cX9_anew 2 (some .int) 1 22 := hO
  unfold f_X9_anew at hf
  refine gj_aload_n hO 0 dX9_anew_0 rfl rfl ?_
  refine gj_iconst (v := 0) hO dX9_anew_1 (by decide) ?_
  refine pt_X9_0 hO wk_636 dX9_anew_2 ?_
  refine gj_aload_n hO 0 dX9_anew_5 rfl rfl ?_
  obtain ⟨x1, hc1, hf⟩ := gj_b hf
  refine ca_X9_keeps hO kl_188  hc1 wk_886 (by decide) (by decide) (Nat.le_of_ble_eq_true rfl) dX9_anew_6 ?_
  refine gj_aload_n hO 0 dX9_anew_9 rfl rfl ?_
  refine gt_X9_21 hO wk_725 dX9_anew_10 ?_
  refine gj_bipush (v := 98) hO dX9_anew_13 (by decide) ?_
  obtain ⟨hb2, hf⟩ := gj_c hf
  refine gj_iald hO kl_198 kd_198 hb2 dX9_anew_15 ?_
  refine gj_istore_n (lv2 := [(1, gj_i (x1.1 198 (Int32.toNatClampNeg (98 : Int32)))), (0, gj_r 188)]) hO dX9_anew_16 rfl (by decide) rfl ?_
  refine gj_aload_n hO 1 dX9_anew_17 rfl rfl ?_
  obtain ⟨x3, hc3, hf⟩ := gj_b hf
  refine ca_X9_begins hO kl_188  hc3 wk_730 (by decide) (by decide) (Nat.le_of_ble_eq_true rfl) dX9_anew_18 ?_
  refine gj_iload_n hO 0 dX9_anew_21 rfl rfl ?_
  replace hf := Option.some.inj hf
  simp only [Prod.mk.injEq] at hf
  obtain ⟨rfl, rfl⟩ := hf
  exact gj_iret hO dX9_anew_22
set_option maxHeartbeats 4000000 in
set_option maxRecDepth 100000 in
theorem ca_X9_anew {E : gj_E} {X : gj_X} {own : String} {cc : ByteArray} {nL : Nat} {rt : Option FieldType} {fr lo : Nat} {ce sl : Nat} {Q : State → Prop} {pc : Nat} {lv : List (Nat × gj_V)} {st : List gj_V} {σ : gj_S} (hO : gj_O E X own cc nL rt fr lo) (hw : gj_lt own 188)   {idx : Nat} {x : Int32} {y : gj_S} (hf : f_X9_anew  σ = some (x, y)) (hl : Cond.methodLink own idx yX9_anew ∈ gj_gw) (hf1 : 2 ≤ fr) (hf2 : 43 ≤ lo) (hcat : ((st.map (gj_tv E.2.1)).map fun v => v.category).sum ≤ 8) (hd : decode cc pc = .ok (.invokevirtual idx, 3)) (k : gj_H E X nL ce sl Q (pc + 3) lv ((gj_i x) :: st) y) : gj_H E X nL ce sl Q pc lv (gj_r 188 :: st) σ :=
  gj_callV hO (o := 188) (vs := []) (m_X9_anew  hf) (gj_I9 hw) hl wk_972 wk_973 wk_629 wk_974 hw kd_188 (by decide) (ci := 9) rfl (n := 0) (by decide +kernel) rfl hf1 hf2 rfl hcat hd k
def f_X9_writes (b1 : Int32) (σ : gj_S) : Option gj_S := (if gj_in (σ.1 188 40) 240 then ((some (gj_sI (gj_sI σ 210 (upd (σ.1 210) (Int32.toNatClampNeg (σ.1 188 40)) b1)) 188 (upd ((gj_sI σ 210 (upd (σ.1 210) (Int32.toNatClampNeg (σ.1 188 40)) b1)).1 188) 40 (((gj_sI σ 210 (upd (σ.1 210) (Int32.toNatClampNeg (σ.1 188 40)) b1)).1 188 40) + (1 : Int32))))).bind fun s2 => some s2) else none)
set_option maxHeartbeats 4000000 in
set_option maxRecDepth 100000 in
theorem m_X9_writes {E : gj_E} {σ : gj_S} {b1 : Int32}  {x : gj_S} (hf : f_X9_writes b1 σ = some x) : gj_M E yX9_writes cX9_writes 2 none 0 0 [gj_r 188, gj_i b1] σ none x := by
  refine gj_body (lv := [(0, gj_r 188), (1, gj_i b1)]) (by decide +kernel) (Nat.le_of_ble_eq_true rfl) rfl (fun X hO => ?_)
  replace hO : gj_O E X RX9 cX9_writes 2 none 0 0 := hO
  unfold f_X9_writes at hf
  refine gj_aload_n hO 0 dX9_writes_0 rfl rfl ?_
  refine gt_X9_39 hO wk_975 dX9_writes_1 ?_
  refine gj_aload_n hO 0 dX9_writes_4 rfl rfl ?_
  refine gt_X9_40 hO wk_976 dX9_writes_5 ?_
  refine gj_iload_n hO 1 dX9_writes_8 rfl rfl ?_
  obtain ⟨hb1, hf⟩ := gj_c hf
  refine gj_iast hO kl_210 kd_210 hb1 dX9_writes_9 ?_
  refine gj_aload_n hO 0 dX9_writes_10 rfl rfl ?_
  refine gj_dup hO dX9_writes_11 trivial ?_
  refine gt_X9_40 hO wk_976 dX9_writes_12 ?_
  refine gj_iconst (v := 1) hO dX9_writes_15 (by decide) ?_
  refine gj_iadd hO dX9_writes_16 ?_
  refine pt_X9_40 hO wk_976 dX9_writes_17 ?_
  obtain ⟨s2, e2, hf⟩ := gj_b hf
  refine gj_eqS (Option.some.inj e2) ?_
  obtain rfl := Option.some.inj hf
  exact gj_vret hO dX9_writes_20
set_option maxHeartbeats 4000000 in
set_option maxRecDepth 100000 in
theorem ca_X9_writes {E : gj_E} {X : gj_X} {own : String} {cc : ByteArray} {nL : Nat} {rt : Option FieldType} {fr lo : Nat} {ce sl : Nat} {Q : State → Prop} {pc : Nat} {lv : List (Nat × gj_V)} {st : List gj_V} {σ : gj_S} (hO : gj_O E X own cc nL rt fr lo) (hw : gj_lt own 188) {b1 : Int32}  {idx : Nat} {x : gj_S} (hf : f_X9_writes b1 σ = some x) (hl : Cond.methodLink own idx yX9_writes ∈ gj_gw) (hf1 : 1 ≤ fr) (hf2 : 21 ≤ lo) (hcat : ((st.map (gj_tv E.2.1)).map fun v => v.category).sum ≤ 8) (hd : decode cc pc = .ok (.invokevirtual idx, 3)) (k : gj_H E X nL ce sl Q (pc + 3) lv (st) x) : gj_H E X nL ce sl Q pc lv (gj_i b1 :: gj_r 188 :: st) σ :=
  gj_callV hO (o := 188) (vs := [gj_i b1]) (m_X9_writes  hf) (gj_I9 hw) hl wk_977 wk_978 wk_629 wk_979 hw kd_188 (by decide) (ci := 9) rfl (n := 1) (by decide +kernel) rfl hf1 hf2 rfl hcat hd k
def fb_X9_writesName_l3 (b1 : Int64) (a10003 : (Int32 × gj_S)) : Option (gj_S ⊕ (Int32 × gj_S)) := (if a10003.1 < 0 then some (.inl a10003.2) else (if (Int64.toInt32 ((b1 >>> (Int32.toInt64 a10003.1 &&& 63)) &&& (31 : Int64))) ≤ 0 then some (.inr ((a10003.1 + (-5)), a10003.2)) else ((f_X9_writes ((96 : Int32) + (Int64.toInt32 ((b1 >>> (Int32.toInt64 a10003.1 &&& 63)) &&& (31 : Int64)))) a10003.2).bind fun x10301 => some (.inr ((a10003.1 + (-5)), x10301)))))
def f_X9_writesName (b1 : Int64) (σ : gj_S) : Option gj_S := ((gj_lp (fb_X9_writesName_l3 b1) 5000 ((25 : Int32), σ)).bind fun z1 => some z1)
set_option maxHeartbeats 4000000 in
set_option maxRecDepth 100000 in
theorem sb_X9_writesName_l3 {E : gj_E} {X : gj_X} {r : Option gj_V} {τ : gj_S} (hO : gj_O E X RX9 cX9_writesName 5 none 1 21) {b1 : Int64} {a10003_0 : Int32} {a10003_1 : gj_S} {x : gj_S ⊕ (Int32 × gj_S)} (hf : fb_X9_writesName_l3 b1 (a10003_0, a10003_1) = some x) (K : gj_K (fun z1 => gj_G E X 5 r τ 37 [] [] z1) (fun a10003 => gj_G E X 5 r τ 3 [(0, gj_r 188), (1, gj_l b1), (3, gj_i a10003.1)] [] a10003.2) x) : gj_G E X 5 r τ 3 [(0, gj_r 188), (1, gj_l b1), (3, gj_i a10003_0)] [] a10003_1 := by
  unfold fb_X9_writesName_l3 at hf
  dsimp only at hf
  refine gj_iload_n hO 2 dX9_writesName_3 rfl rfl ?_
  refine gj_if_lt (tgt := 37) hO dX9_writesName_4 (by decide) (fun h => ?_) (fun h => ?_)
  · replace hf := gj_t h hf
    obtain rfl := Option.some.inj hf
    refine gj_sub (lv2 := []) [] rfl ?_
    exact K
  · replace hf := gj_f h hf
    refine gj_lload_n hO 1 dX9_writesName_7 rfl rfl ?_
    refine gj_iload_n hO 2 dX9_writesName_8 rfl rfl ?_
    refine gj_lshr hO dX9_writesName_9 ?_
    refine gj_ldc2 hO wk_980 dX9_writesName_10 ?_
    refine gj_land hO dX9_writesName_13 ?_
    refine gj_l2i hO dX9_writesName_14 ?_
    refine gj_istore (lv2 := [(4, gj_i (Int64.toInt32 ((b1 >>> (Int32.toInt64 a10003_0 &&& 63)) &&& (31 : Int64)))), (0, gj_r 188), (1, gj_l b1), (3, gj_i a10003_0)]) hO dX9_writesName_15 (by decide) rfl ?_
    refine gj_iload hO 0 dX9_writesName_17 rfl ?_
    refine gj_if_le (tgt := 31) hO dX9_writesName_19 (by decide) (fun h => ?_) (fun h => ?_)
    · replace hf := gj_t h hf
      refine gj_iinc (v := (a10003_0 + (-5))) (lv2 := [(3, gj_i (a10003_0 + (-5))), (4, gj_i (Int64.toInt32 ((b1 >>> (Int32.toInt64 a10003_0 &&& 63)) &&& (31 : Int64)))), (0, gj_r 188), (1, gj_l b1)]) hO 3 dX9_writesName_31 rfl rfl (by decide) rfl ?_
      refine gj_goto (tgt := 3) hO dX9_writesName_34 (by decide) ?_
      obtain rfl := Option.some.inj hf
      refine gj_sub (lv2 := [(0, gj_r 188), (1, gj_l b1), (3, gj_i (a10003_0 + (-5)))]) [2, 3, 0] rfl ?_
      exact K
    · replace hf := gj_f h hf
      refine gj_aload_n hO 1 dX9_writesName_22 rfl rfl ?_
      refine gj_bipush (v := 96) hO dX9_writesName_23 (by decide) ?_
      refine gj_iload hO 0 dX9_writesName_25 rfl ?_
      refine gj_iadd hO dX9_writesName_27 ?_
      obtain ⟨x10301, hc10301, hf⟩ := gj_b hf
      refine ca_X9_writes hO kl_188  hc10301 wk_981 (by decide) (by decide) (Nat.le_of_ble_eq_true rfl) dX9_writesName_28 ?_
      refine gj_iinc (v := (a10003_0 + (-5))) (lv2 := [(3, gj_i (a10003_0 + (-5))), (4, gj_i (Int64.toInt32 ((b1 >>> (Int32.toInt64 a10003_0 &&& 63)) &&& (31 : Int64)))), (0, gj_r 188), (1, gj_l b1)]) hO 3 dX9_writesName_31 rfl rfl (by decide) rfl ?_
      refine gj_goto (tgt := 3) hO dX9_writesName_34 (by decide) ?_
      obtain rfl := Option.some.inj hf
      refine gj_sub (lv2 := [(0, gj_r 188), (1, gj_l b1), (3, gj_i (a10003_0 + (-5)))]) [2, 3, 0] rfl ?_
      exact K
set_option maxHeartbeats 4000000 in
set_option maxRecDepth 100000 in
theorem m_X9_writesName {E : gj_E} {σ : gj_S} {b1 : Int64}  {x : gj_S} (hf : f_X9_writesName b1 σ = some x) : gj_M E yX9_writesName cX9_writesName 5 none 1 21 [gj_r 188, gj_l b1] σ none x := by
  refine gj_body (lv := [(0, gj_r 188), (1, gj_l b1)]) (by decide +kernel) (Nat.le_of_ble_eq_true rfl) rfl (fun X hO => ?_)
  replace hO : gj_O E X RX9 cX9_writesName 5 none 1 21 := hO
  unfold f_X9_writesName at hf
  refine gj_bipush (v := 25) hO dX9_writesName_0 (by decide) ?_
  refine gj_istore_n (lv2 := [(3, gj_i (25 : Int32)), (0, gj_r 188), (1, gj_l b1)]) hO dX9_writesName_2 rfl (by decide) rfl ?_
  obtain ⟨z1, hz1, hf⟩ := gj_b hf
  have J1 : gj_G E X 5 none x 37 [] [] z1 := by
    obtain rfl := Option.some.inj hf
    exact gj_vret hO dX9_writesName_37
  refine gj_sub (lv2 := [(0, gj_r 188), (1, gj_l b1), (3, gj_i (25 : Int32))]) [1, 2, 0] rfl ?_
  exact gj_loop (head := fun a10003 => gj_G E X 5 none x 3 [(0, gj_r 188), (1, gj_l b1), (3, gj_i a10003.1)] [] a10003.2) (exit := fun z1 => gj_G E X 5 none x 37 [] [] z1) (fun a10003 x hf K => by obtain ⟨a10003_0, a10003_1⟩ := a10003; exact sb_X9_writesName_l3 hO hf K) _ _ _ hz1 J1
set_option maxHeartbeats 4000000 in
set_option maxRecDepth 100000 in
theorem ca_X9_writesName {E : gj_E} {X : gj_X} {own : String} {cc : ByteArray} {nL : Nat} {rt : Option FieldType} {fr lo : Nat} {ce sl : Nat} {Q : State → Prop} {pc : Nat} {lv : List (Nat × gj_V)} {st : List gj_V} {σ : gj_S} (hO : gj_O E X own cc nL rt fr lo) (hw : gj_lt own 188) {b1 : Int64}  {idx : Nat} {x : gj_S} (hf : f_X9_writesName b1 σ = some x) (hl : Cond.methodLink own idx yX9_writesName ∈ gj_gw) (hf1 : 2 ≤ fr) (hf2 : 45 ≤ lo) (hcat : ((st.map (gj_tv E.2.1)).map fun v => v.category).sum ≤ 8) (hd : decode cc pc = .ok (.invokevirtual idx, 3)) (k : gj_H E X nL ce sl Q (pc + 3) lv (st) x) : gj_H E X nL ce sl Q pc lv (gj_l b1 :: gj_r 188 :: st) σ :=
  gj_callV hO (o := 188) (vs := [gj_l b1]) (m_X9_writesName  hf) (gj_I9 hw) hl wk_982 wk_983 wk_629 wk_984 hw kd_188 (by decide) (ci := 9) rfl (n := 1) (by decide +kernel) rfl hf1 hf2 rfl hcat hd k
def f_X9_writesNumber (b1 : Int32) (σ : gj_S) : Option gj_S := ((if b1 ≤ (99 : Int32) then some σ else ((f_X9_writes ((48 : Int32) + (b1 / (100 : Int32))) σ).bind fun x2 => some x2) : Option gj_S).bind fun z1 => ((if b1 ≤ (9 : Int32) then some z1 else ((f_X9_writes ((48 : Int32) + ((b1 / (10 : Int32)) - (b1 / (10 : Int32)) / (10 : Int32) * (10 : Int32))) z1).bind fun x4 => some x4) : Option gj_S).bind fun z3 => ((f_X9_writes ((48 : Int32) + (b1 - b1 / (10 : Int32) * (10 : Int32))) z3).bind fun x5 => some x5)))
set_option maxHeartbeats 4000000 in
set_option maxRecDepth 100000 in
theorem m_X9_writesNumber {E : gj_E} {σ : gj_S} {b1 : Int32}  {x : gj_S} (hf : f_X9_writesNumber b1 σ = some x) : gj_M E yX9_writesNumber cX9_writesNumber 2 none 1 21 [gj_r 188, gj_i b1] σ none x := by
  refine gj_body (lv := [(0, gj_r 188), (1, gj_i b1)]) (by decide +kernel) (Nat.le_of_ble_eq_true rfl) rfl (fun X hO => ?_)
  replace hO : gj_O E X RX9 cX9_writesNumber 2 none 1 21 := hO
  unfold f_X9_writesNumber at hf
  refine gj_iload_n hO 1 dX9_writesNumber_0 rfl rfl ?_
  refine gj_bipush (v := 99) hO dX9_writesNumber_1 (by decide) ?_
  obtain ⟨z1, hz1, hf⟩ := gj_b hf
  have J1 : gj_G E X 2 none x 17 [(0, gj_r 188), (1, gj_i b1)] [] z1 := by
    refine gj_iload_n hO 1 dX9_writesNumber_17 rfl rfl ?_
    refine gj_bipush (v := 9) hO dX9_writesNumber_18 (by decide) ?_
    obtain ⟨z3, hz3, hf⟩ := gj_b hf
    have J3 : gj_G E X 2 none x 37 [(0, gj_r 188), (1, gj_i b1)] [] z3 := by
      refine gj_aload_n hO 0 dX9_writesNumber_37 rfl rfl ?_
      refine gj_bipush (v := 48) hO dX9_writesNumber_38 (by decide) ?_
      refine gj_iload_n hO 1 dX9_writesNumber_40 rfl rfl ?_
      refine gj_bipush (v := 10) hO dX9_writesNumber_41 (by decide) ?_
      refine gj_irem hO dX9_writesNumber_43 (by decide) ?_
      refine gj_iadd hO dX9_writesNumber_44 ?_
      obtain ⟨x5, hc5, hf⟩ := gj_b hf
      refine ca_X9_writes hO kl_188  hc5 wk_981 (by decide) (by decide) (Nat.le_of_ble_eq_true rfl) dX9_writesNumber_45 ?_
      obtain rfl := Option.some.inj hf
      exact gj_vret hO dX9_writesNumber_48
    refine gj_icmp_le (tgt := 37) hO dX9_writesNumber_20 (by decide) (fun h => ?_) (fun h => ?_)
    · replace hz3 := gj_t h hz3
      obtain rfl := Option.some.inj hz3
      refine gj_sub (lv2 := [(0, gj_r 188), (1, gj_i b1)]) [0, 1] rfl ?_
      exact J3
    · replace hz3 := gj_f h hz3
      refine gj_aload_n hO 0 dX9_writesNumber_23 rfl rfl ?_
      refine gj_bipush (v := 48) hO dX9_writesNumber_24 (by decide) ?_
      refine gj_iload_n hO 1 dX9_writesNumber_26 rfl rfl ?_
      refine gj_bipush (v := 10) hO dX9_writesNumber_27 (by decide) ?_
      refine gj_idiv hO dX9_writesNumber_29 (by decide) ?_
      refine gj_bipush (v := 10) hO dX9_writesNumber_30 (by decide) ?_
      refine gj_irem hO dX9_writesNumber_32 (by decide) ?_
      refine gj_iadd hO dX9_writesNumber_33 ?_
      obtain ⟨x4, hc4, hz3⟩ := gj_b hz3
      refine ca_X9_writes hO kl_188  hc4 wk_981 (by decide) (by decide) (Nat.le_of_ble_eq_true rfl) dX9_writesNumber_34 ?_
      obtain rfl := Option.some.inj hz3
      refine gj_sub (lv2 := [(0, gj_r 188), (1, gj_i b1)]) [0, 1] rfl ?_
      exact J3
  refine gj_icmp_le (tgt := 17) hO dX9_writesNumber_3 (by decide) (fun h => ?_) (fun h => ?_)
  · replace hz1 := gj_t h hz1
    obtain rfl := Option.some.inj hz1
    refine gj_sub (lv2 := [(0, gj_r 188), (1, gj_i b1)]) [0, 1] rfl ?_
    exact J1
  · replace hz1 := gj_f h hz1
    refine gj_aload_n hO 0 dX9_writesNumber_6 rfl rfl ?_
    refine gj_bipush (v := 48) hO dX9_writesNumber_7 (by decide) ?_
    refine gj_iload_n hO 1 dX9_writesNumber_9 rfl rfl ?_
    refine gj_bipush (v := 100) hO dX9_writesNumber_10 (by decide) ?_
    refine gj_idiv hO dX9_writesNumber_12 (by decide) ?_
    refine gj_iadd hO dX9_writesNumber_13 ?_
    obtain ⟨x2, hc2, hz1⟩ := gj_b hz1
    refine ca_X9_writes hO kl_188  hc2 wk_981 (by decide) (by decide) (Nat.le_of_ble_eq_true rfl) dX9_writesNumber_14 ?_
    obtain rfl := Option.some.inj hz1
    refine gj_sub (lv2 := [(0, gj_r 188), (1, gj_i b1)]) [0, 1] rfl ?_
    exact J1
set_option maxHeartbeats 4000000 in
set_option maxRecDepth 100000 in
theorem ca_X9_writesNumber {E : gj_E} {X : gj_X} {own : String} {cc : ByteArray} {nL : Nat} {rt : Option FieldType} {fr lo : Nat} {ce sl : Nat} {Q : State → Prop} {pc : Nat} {lv : List (Nat × gj_V)} {st : List gj_V} {σ : gj_S} (hO : gj_O E X own cc nL rt fr lo) (hw : gj_lt own 188) {b1 : Int32}  {idx : Nat} {x : gj_S} (hf : f_X9_writesNumber b1 σ = some x) (hl : Cond.methodLink own idx yX9_writesNumber ∈ gj_gw) (hf1 : 2 ≤ fr) (hf2 : 42 ≤ lo) (hcat : ((st.map (gj_tv E.2.1)).map fun v => v.category).sum ≤ 8) (hd : decode cc pc = .ok (.invokevirtual idx, 3)) (k : gj_H E X nL ce sl Q (pc + 3) lv (st) x) : gj_H E X nL ce sl Q pc lv (gj_i b1 :: gj_r 188 :: st) σ :=
  gj_callV hO (o := 188) (vs := [gj_i b1]) (m_X9_writesNumber  hf) (gj_I9 hw) hl wk_985 wk_986 wk_629 wk_987 hw kd_188 (by decide) (ci := 9) rfl (n := 1) (by decide +kernel) rfl hf1 hf2 rfl hcat hd k
def fb_X9_sheet_l19 (b1 : Int32) (a10019 : (Int32 × gj_S)) : Option (gj_S ⊕ (Int32 × gj_S)) := (if gj_in (0 : Int32) 2 then (if (a10019.2.1 191 (Int32.toNatClampNeg (0 : Int32))) ≤ a10019.1 then some (.inl a10019.2) else (if gj_in ((50 : Int32) + a10019.1) 180 then (if (a10019.2.1 198 (Int32.toNatClampNeg ((50 : Int32) + a10019.1))) = 0 then some (.inr ((a10019.1 + 1), a10019.2)) else (if gj_in ((8 : Int32) + a10019.1) 48 then ((f_X9_writesName (a10019.2.2.1 192 (Int32.toNatClampNeg ((8 : Int32) + a10019.1))) a10019.2).bind fun x11904 => ((f_X9_writes (32 : Int32) x11904).bind fun x11905 => (if gj_in ((50 : Int32) + a10019.1) 180 then ((f_X9_writesNumber (x11905.1 198 (Int32.toNatClampNeg ((50 : Int32) + a10019.1))) x11905).bind fun x11907 => ((f_X9_writes (59 : Int32) x11907).bind fun x11908 => some (.inr ((a10019.1 + 1), x11908)))) else none))) else none)) else none)) else none)
def f_X9_sheet (b1 : Int32) (σ : gj_S) : Option (Int32 × gj_S) := (if (-1 : Int32) ≤ b1 then ((gj_lp (fb_X9_sheet_l19 b1) 5000 ((0 : Int32), (gj_sI (gj_sI σ 188 (upd (σ.1 188) 0 (0 : Int32))) 188 (upd ((gj_sI σ 188 (upd (σ.1 188) 0 (0 : Int32))).1 188) 40 (0 : Int32))))).bind fun z1 => (if b1 = (-1 : Int32) then some ((z1.1 188 40), z1) else (if (z1.1 188 40) ≤ b1 then some ((-2 : Int32), z1) else (if gj_in b1 240 then some ((z1.1 210 (Int32.toNatClampNeg b1)), z1) else none)))) else some ((-1 : Int32), (gj_sI σ 188 (upd (σ.1 188) 0 (0 : Int32)))))
set_option maxHeartbeats 4000000 in
set_option maxRecDepth 100000 in
theorem sb_X9_sheet_l19 {E : gj_E} {X : gj_X} {r : Option gj_V} {τ : gj_S} (hO : gj_O E X RX9 cX9_sheet 3 (some .int) 2 45) {b1 : Int32} {a10019_0 : Int32} {a10019_1 : gj_S} {x : gj_S ⊕ (Int32 × gj_S)} (hf : fb_X9_sheet_l19 b1 (a10019_0, a10019_1) = some x) (K : gj_K (fun z1 => gj_G E X 3 r τ 88 [(0, gj_r 188), (1, gj_i b1)] [] z1) (fun a10019 => gj_G E X 3 r τ 19 [(0, gj_r 188), (1, gj_i b1), (2, gj_i a10019.1)] [] a10019.2) x) : gj_G E X 3 r τ 19 [(0, gj_r 188), (1, gj_i b1), (2, gj_i a10019_0)] [] a10019_1 := by
  unfold fb_X9_sheet_l19 at hf
  dsimp only at hf
  refine gj_iload_n hO 2 dX9_sheet_19 rfl rfl ?_
  refine gj_aload_n hO 0 dX9_sheet_20 rfl rfl ?_
  refine gt_X9_12 hO wk_693 dX9_sheet_21 ?_
  refine gj_iconst (v := 0) hO dX9_sheet_24 (by decide) ?_
  obtain ⟨hb11901, hf⟩ := gj_c hf
  refine gj_iald hO kl_191 kd_191 hb11901 dX9_sheet_25 ?_
  refine gj_icmp_ge (tgt := 88) hO dX9_sheet_26 (by decide) (fun h => ?_) (fun h => ?_)
  · replace hf := gj_t h hf
    obtain rfl := Option.some.inj hf
    refine gj_sub (lv2 := [(0, gj_r 188), (1, gj_i b1)]) [0, 1] rfl ?_
    exact K
  · replace hf := gj_f h hf
    refine gj_aload_n hO 0 dX9_sheet_29 rfl rfl ?_
    refine gt_X9_21 hO wk_725 dX9_sheet_30 ?_
    refine gj_bipush (v := 50) hO dX9_sheet_33 (by decide) ?_
    refine gj_iload_n hO 2 dX9_sheet_35 rfl rfl ?_
    refine gj_iadd hO dX9_sheet_36 ?_
    obtain ⟨hb11902, hf⟩ := gj_c hf
    refine gj_iald hO kl_198 kd_198 hb11902 dX9_sheet_37 ?_
    refine gj_if_ne (tgt := 44) hO dX9_sheet_38 (by decide) (fun h => ?_) (fun h => ?_)
    · replace hf := gj_f h hf
      refine gj_aload_n hO 0 dX9_sheet_44 rfl rfl ?_
      refine gj_aload_n hO 0 dX9_sheet_45 rfl rfl ?_
      refine gt_X9_13 hO wk_686 dX9_sheet_46 ?_
      refine gj_bipush (v := 8) hO dX9_sheet_49 (by decide) ?_
      refine gj_iload_n hO 2 dX9_sheet_51 rfl rfl ?_
      refine gj_iadd hO dX9_sheet_52 ?_
      obtain ⟨hb11903, hf⟩ := gj_c hf
      refine gj_lald hO kl_192 kd_192 hb11903 dX9_sheet_53 ?_
      obtain ⟨x11904, hc11904, hf⟩ := gj_b hf
      refine ca_X9_writesName hO kl_188  hc11904 wk_988 (by decide) (by decide) (Nat.le_of_ble_eq_true rfl) dX9_sheet_54 ?_
      refine gj_aload_n hO 0 dX9_sheet_57 rfl rfl ?_
      refine gj_bipush (v := 32) hO dX9_sheet_58 (by decide) ?_
      obtain ⟨x11905, hc11905, hf⟩ := gj_b hf
      refine ca_X9_writes hO kl_188  hc11905 wk_981 (by decide) (by decide) (Nat.le_of_ble_eq_true rfl) dX9_sheet_60 ?_
      refine gj_aload_n hO 0 dX9_sheet_63 rfl rfl ?_
      refine gj_aload_n hO 0 dX9_sheet_64 rfl rfl ?_
      refine gt_X9_21 hO wk_725 dX9_sheet_65 ?_
      refine gj_bipush (v := 50) hO dX9_sheet_68 (by decide) ?_
      refine gj_iload_n hO 2 dX9_sheet_70 rfl rfl ?_
      refine gj_iadd hO dX9_sheet_71 ?_
      obtain ⟨hb11906, hf⟩ := gj_c hf
      refine gj_iald hO kl_198 kd_198 hb11906 dX9_sheet_72 ?_
      obtain ⟨x11907, hc11907, hf⟩ := gj_b hf
      refine ca_X9_writesNumber hO kl_188  hc11907 wk_989 (by decide) (by decide) (Nat.le_of_ble_eq_true rfl) dX9_sheet_73 ?_
      refine gj_aload_n hO 0 dX9_sheet_76 rfl rfl ?_
      refine gj_bipush (v := 59) hO dX9_sheet_77 (by decide) ?_
      obtain ⟨x11908, hc11908, hf⟩ := gj_b hf
      refine ca_X9_writes hO kl_188  hc11908 wk_981 (by decide) (by decide) (Nat.le_of_ble_eq_true rfl) dX9_sheet_79 ?_
      refine gj_iinc (v := (a10019_0 + 1)) (lv2 := [(2, gj_i (a10019_0 + 1)), (0, gj_r 188), (1, gj_i b1)]) hO 2 dX9_sheet_82 rfl rfl (by decide) rfl ?_
      refine gj_goto (tgt := 19) hO dX9_sheet_85 (by decide) ?_
      obtain rfl := Option.some.inj hf
      refine gj_sub (lv2 := [(0, gj_r 188), (1, gj_i b1), (2, gj_i (a10019_0 + 1))]) [1, 2, 0] rfl ?_
      exact K
    · replace hf := gj_t h hf
      refine gj_goto (tgt := 82) hO dX9_sheet_41 (by decide) ?_
      refine gj_iinc (v := (a10019_0 + 1)) (lv2 := [(2, gj_i (a10019_0 + 1)), (0, gj_r 188), (1, gj_i b1)]) hO 2 dX9_sheet_82 rfl rfl (by decide) rfl ?_
      refine gj_goto (tgt := 19) hO dX9_sheet_85 (by decide) ?_
      obtain rfl := Option.some.inj hf
      refine gj_sub (lv2 := [(0, gj_r 188), (1, gj_i b1), (2, gj_i (a10019_0 + 1))]) [1, 2, 0] rfl ?_
      exact K
set_option maxHeartbeats 4000000 in
set_option maxRecDepth 100000 in
theorem m_X9_sheet {E : gj_E} {σ : gj_S} {b1 : Int32}  {x : Int32} {y : gj_S} (hf : f_X9_sheet b1 σ = some (x, y)) : gj_M E yX9_sheet cX9_sheet 3 (some .int) 2 45 [gj_r 188, gj_i b1] σ (some (gj_i x)) y := by
  refine gj_body (lv := [(0, gj_r 188), (1, gj_i b1)]) (by decide +kernel) (Nat.le_of_ble_eq_true rfl) rfl (fun X hO => ?_)
  replace hO : gj_O E X RX9 cX9_sheet 3 (some .int) 2 45 := hO
  unfold f_X9_sheet at hf
  refine gj_aload_n hO 0 dX9_sheet_0 rfl rfl ?_
  refine gj_iconst (v := 0) hO dX9_sheet_1 (by decide) ?_
  refine pt_X9_0 hO wk_636 dX9_sheet_2 ?_
  refine gj_iload_n hO 1 dX9_sheet_5 rfl rfl ?_
  refine gj_iconst (v := (-1)) hO dX9_sheet_6 (by decide) ?_
  refine gj_icmp_ge (tgt := 12) hO dX9_sheet_7 (by decide) (fun h => ?_) (fun h => ?_)
  · replace hf := gj_t h hf
    refine gj_aload_n hO 0 dX9_sheet_12 rfl rfl ?_
    refine gj_iconst (v := 0) hO dX9_sheet_13 (by decide) ?_
    refine pt_X9_40 hO wk_976 dX9_sheet_14 ?_
    refine gj_iconst (v := 0) hO dX9_sheet_17 (by decide) ?_
    refine gj_istore_n (lv2 := [(2, gj_i (0 : Int32)), (0, gj_r 188), (1, gj_i b1)]) hO dX9_sheet_18 rfl (by decide) rfl ?_
    obtain ⟨z1, hz1, hf⟩ := gj_b hf
    have J1 : gj_G E X 3 (some (gj_i x)) y 88 [(0, gj_r 188), (1, gj_i b1)] [] z1 := by
      refine gj_iload_n hO 1 dX9_sheet_88 rfl rfl ?_
      refine gj_iconst (v := (-1)) hO dX9_sheet_89 (by decide) ?_
      refine gj_icmp_ne (tgt := 100) hO dX9_sheet_90 (by decide) (fun h => ?_) (fun h => ?_)
      · replace hf := gj_f h hf
        refine gj_iload_n hO 1 dX9_sheet_100 rfl rfl ?_
        refine gj_aload_n hO 0 dX9_sheet_101 rfl rfl ?_
        refine gt_X9_40 hO wk_976 dX9_sheet_102 ?_
        refine gj_icmp_ge (tgt := 117) hO dX9_sheet_105 (by decide) (fun h => ?_) (fun h => ?_)
        · replace hf := gj_t h hf
          refine gj_bipush (v := (-2)) hO dX9_sheet_117 (by decide) ?_
          replace hf := Option.some.inj hf
          simp only [Prod.mk.injEq] at hf
          obtain ⟨rfl, rfl⟩ := hf
          exact gj_iret hO dX9_sheet_119
        · replace hf := gj_f h hf
          refine gj_aload_n hO 0 dX9_sheet_108 rfl rfl ?_
          refine gt_X9_39 hO wk_975 dX9_sheet_109 ?_
          refine gj_iload_n hO 1 dX9_sheet_112 rfl rfl ?_
          obtain ⟨hb2, hf⟩ := gj_c hf
          refine gj_iald hO kl_210 kd_210 hb2 dX9_sheet_113 ?_
          refine gj_goto (tgt := 119) hO dX9_sheet_114 (by decide) ?_
          replace hf := Option.some.inj hf
          simp only [Prod.mk.injEq] at hf
          obtain ⟨rfl, rfl⟩ := hf
          exact gj_iret hO dX9_sheet_119
      · replace hf := gj_t h hf
        refine gj_aload_n hO 0 dX9_sheet_93 rfl rfl ?_
        refine gt_X9_40 hO wk_976 dX9_sheet_94 ?_
        refine gj_goto (tgt := 119) hO dX9_sheet_97 (by decide) ?_
        replace hf := Option.some.inj hf
        simp only [Prod.mk.injEq] at hf
        obtain ⟨rfl, rfl⟩ := hf
        exact gj_iret hO dX9_sheet_119
    refine gj_sub (lv2 := [(0, gj_r 188), (1, gj_i b1), (2, gj_i (0 : Int32))]) [1, 2, 0] rfl ?_
    exact gj_loop (head := fun a10019 => gj_G E X 3 (some (gj_i x)) y 19 [(0, gj_r 188), (1, gj_i b1), (2, gj_i a10019.1)] [] a10019.2) (exit := fun z1 => gj_G E X 3 (some (gj_i x)) y 88 [(0, gj_r 188), (1, gj_i b1)] [] z1) (fun a10019 x hf K => by obtain ⟨a10019_0, a10019_1⟩ := a10019; exact sb_X9_sheet_l19 hO hf K) _ _ _ hz1 J1
  · replace hf := gj_f h hf
    refine gj_iconst (v := (-1)) hO dX9_sheet_10 (by decide) ?_
    replace hf := Option.some.inj hf
    simp only [Prod.mk.injEq] at hf
    obtain ⟨rfl, rfl⟩ := hf
    exact gj_iret hO dX9_sheet_11
set_option maxHeartbeats 4000000 in
set_option maxRecDepth 100000 in
theorem ca_X9_sheet {E : gj_E} {X : gj_X} {own : String} {cc : ByteArray} {nL : Nat} {rt : Option FieldType} {fr lo : Nat} {ce sl : Nat} {Q : State → Prop} {pc : Nat} {lv : List (Nat × gj_V)} {st : List gj_V} {σ : gj_S} (hO : gj_O E X own cc nL rt fr lo) (hw : gj_lt own 188) {b1 : Int32}  {idx : Nat} {x : Int32} {y : gj_S} (hf : f_X9_sheet b1 σ = some (x, y)) (hl : Cond.methodLink own idx yX9_sheet ∈ gj_gw) (hf1 : 3 ≤ fr) (hf2 : 67 ≤ lo) (hcat : ((st.map (gj_tv E.2.1)).map fun v => v.category).sum ≤ 8) (hd : decode cc pc = .ok (.invokevirtual idx, 3)) (k : gj_H E X nL ce sl Q (pc + 3) lv ((gj_i x) :: st) y) : gj_H E X nL ce sl Q pc lv (gj_i b1 :: gj_r 188 :: st) σ :=
  gj_callV hO (o := 188) (vs := [gj_i b1]) (m_X9_sheet  hf) (gj_I9 hw) hl wk_990 wk_991 wk_629 wk_992 hw kd_188 (by decide) (ci := 9) rfl (n := 1) (by decide +kernel) rfl hf1 hf2 rfl hcat hd k
