def fb_X9_count_l139 (σ : gj_S) (a8 : (Int32 × Int32)) : Option (Int32 ⊕ (Int32 × Int32)) := ((f_X9_ways σ).bind fun x10 => (if x10 ≤ a8.2 then some (.inl a8.1) else (if gj_in ((74 : Int32) + a8.2) 180 then (if (σ.1 198 (Int32.toNatClampNeg ((74 : Int32) + a8.2))) = (2 : Int32) then some (.inr ((a8.1 + (1 : Int32)), (a8.2 + 1))) else some (.inr ((a8.1 + (0 : Int32)), (a8.2 + 1)))) else none)))
def fb_X9_count_l178 (σ : gj_S) (a12 : (Int32 × Int32)) : Option (Int32 ⊕ (Int32 × Int32)) := (if gj_in (0 : Int32) 2 then (if (σ.1 191 (Int32.toNatClampNeg (0 : Int32))) ≤ a12.2 then some (.inl a12.1) else (if gj_in ((74 : Int32) + a12.2) 180 then (if (σ.1 198 (Int32.toNatClampNeg ((74 : Int32) + a12.2))) = 0 then some (.inr ((a12.1 + (1 : Int32)), (a12.2 + 1))) else some (.inr ((a12.1 + (0 : Int32)), (a12.2 + 1)))) else none)) else none)
def f_X9_count (b1 : Int32) (σ : gj_S) : Option (Int32 × gj_S) := (if b1 = 0 then (if gj_in (0 : Int32) 2 then some (((gj_sI σ 188 (upd (σ.1 188) 0 (0 : Int32))).1 190 (Int32.toNatClampNeg (0 : Int32))), (gj_sI σ 188 (upd (σ.1 188) 0 (0 : Int32)))) else none) else (if b1 = 1 then (if gj_in (0 : Int32) 2 then some (((gj_sI σ 188 (upd (σ.1 188) 0 (0 : Int32))).1 191 (Int32.toNatClampNeg (0 : Int32))), (gj_sI σ 188 (upd (σ.1 188) 0 (0 : Int32)))) else none) else (if b1 = 2 then (if gj_in (40 : Int32) 180 then some (((gj_sI σ 188 (upd (σ.1 188) 0 (0 : Int32))).1 198 (Int32.toNatClampNeg (40 : Int32))), (gj_sI σ 188 (upd (σ.1 188) 0 (0 : Int32)))) else none) else (if b1 = 3 then (if gj_in (41 : Int32) 180 then some (((gj_sI σ 188 (upd (σ.1 188) 0 (0 : Int32))).1 198 (Int32.toNatClampNeg (41 : Int32))), (gj_sI σ 188 (upd (σ.1 188) 0 (0 : Int32)))) else none) else (if b1 = 4 then (if gj_in (99 : Int32) 180 then some (((gj_sI σ 188 (upd (σ.1 188) 0 (0 : Int32))).1 198 (Int32.toNatClampNeg (99 : Int32))), (gj_sI σ 188 (upd (σ.1 188) 0 (0 : Int32)))) else none) else (if b1 = 5 then (if gj_in (98 : Int32) 180 then some (((gj_sI σ 188 (upd (σ.1 188) 0 (0 : Int32))).1 198 (Int32.toNatClampNeg (98 : Int32))), (gj_sI σ 188 (upd (σ.1 188) 0 (0 : Int32)))) else none) else (if b1 = 6 then some (((gj_sI σ 188 (upd (σ.1 188) 0 (0 : Int32))).1 188 23), (gj_sI σ 188 (upd (σ.1 188) 0 (0 : Int32)))) else (if b1 = 7 then some (((gj_sI σ 188 (upd (σ.1 188) 0 (0 : Int32))).1 188 2), (gj_sI σ 188 (upd (σ.1 188) 0 (0 : Int32)))) else (if b1 = 8 then ((f_X9_isEnd (gj_sI σ 188 (upd (σ.1 188) 0 (0 : Int32)))).bind fun x7 => (if x7.1 = 0 then some ((0 : Int32), x7.2) else some ((1 : Int32), x7.2))) else (if b1 = 9 then ((gj_lp (fb_X9_count_l139 (gj_sI σ 188 (upd (σ.1 188) 0 (0 : Int32)))) 5000 ((0 : Int32), (0 : Int32))).bind fun z8 => some (z8, (gj_sI σ 188 (upd (σ.1 188) 0 (0 : Int32))))) else (if b1 = 10 then ((gj_lp (fb_X9_count_l178 (gj_sI σ 188 (upd (σ.1 188) 0 (0 : Int32)))) 5000 ((0 : Int32), (0 : Int32))).bind fun z12 => some (z12, (gj_sI σ 188 (upd (σ.1 188) 0 (0 : Int32))))) else some ((-1 : Int32), (gj_sI σ 188 (upd (σ.1 188) 0 (0 : Int32)))))))))))))))
set_option maxHeartbeats 4000000 in
set_option maxRecDepth 100000 in
theorem sb_X9_count_l139 {E : gj_E} {X : gj_X} {r : Option gj_V} {τ : gj_S} (hO : gj_O E X RX9 cX9_count 4 (some .int) 5 106) {σ : gj_S} {a8 : (Int32 × Int32)} {x : Int32 ⊕ (Int32 × Int32)} (hf : fb_X9_count_l139 σ a8 = some x) (K : gj_K (fun z8 => gj_G E X 4 r τ 174 [(2, gj_i z8)] [] σ) (fun a8 => gj_G E X 4 r τ 139 [(0, gj_r 188), (2, gj_i a8.1), (3, gj_i a8.2)] [] σ) x) : gj_G E X 4 r τ 139 [(0, gj_r 188), (2, gj_i a8.1), (3, gj_i a8.2)] [] σ := by
  unfold fb_X9_count_l139 at hf
  refine gj_iload_n hO 2 dX9_count_139 rfl rfl ?_
  refine gj_aload_n hO 0 dX9_count_140 rfl rfl ?_
  obtain ⟨x10, hc10, hf⟩ := gj_b hf
  refine ca_X9_ways hO  hc10 wk_724 (by decide) (by decide) (Nat.le_of_ble_eq_true rfl) dX9_count_141 ?_
  refine gj_icmp_ge (tgt := 174) hO dX9_count_144 (by decide) (fun h => ?_) (fun h => ?_)
  · replace hf := gj_t h hf
    obtain rfl := Option.some.inj hf
    refine gj_sub [1] rfl ?_
    exact K
  · replace hf := gj_f h hf
    refine gj_iload_n hO 1 dX9_count_147 rfl rfl ?_
    refine gj_aload_n hO 0 dX9_count_148 rfl rfl ?_
    refine gt_X9_21 hO wk_704 dX9_count_149 ?_
    refine gj_bipush (v := 74) hO dX9_count_152 (by decide) ?_
    refine gj_iload_n hO 2 dX9_count_154 rfl rfl ?_
    refine gj_iadd hO dX9_count_155 ?_
    obtain ⟨hb11, hf⟩ := gj_c hf
    refine gj_iald hO kl_198 kd_198 hb11 dX9_count_156 ?_
    refine gj_iconst (v := 2) hO dX9_count_157 (by decide) ?_
    refine gj_icmp_ne (tgt := 165) hO dX9_count_158 (by decide) (fun h => ?_) (fun h => ?_)
    · replace hf := gj_f h hf
      refine gj_iconst (v := 0) hO dX9_count_165 (by decide) ?_
      refine gj_iadd hO dX9_count_166 ?_
      refine gj_istore_n (lv2 := [(2, gj_i (a8.1 + (0 : Int32))), (0, gj_r 188), (3, gj_i a8.2)]) hO dX9_count_167 rfl (by decide) rfl ?_
      refine gj_iinc (v := (a8.2 + 1)) (lv2 := [(3, gj_i (a8.2 + 1)), (2, gj_i (a8.1 + (0 : Int32))), (0, gj_r 188)]) hO 2 dX9_count_168 rfl rfl (by decide) rfl ?_
      refine gj_goto (tgt := 139) hO dX9_count_171 (by decide) ?_
      obtain rfl := Option.some.inj hf
      refine gj_sub [2, 1, 0] rfl ?_
      exact K
    · replace hf := gj_t h hf
      refine gj_iconst (v := 1) hO dX9_count_161 (by decide) ?_
      refine gj_goto (tgt := 166) hO dX9_count_162 (by decide) ?_
      refine gj_iadd hO dX9_count_166 ?_
      refine gj_istore_n (lv2 := [(2, gj_i (a8.1 + (1 : Int32))), (0, gj_r 188), (3, gj_i a8.2)]) hO dX9_count_167 rfl (by decide) rfl ?_
      refine gj_iinc (v := (a8.2 + 1)) (lv2 := [(3, gj_i (a8.2 + 1)), (2, gj_i (a8.1 + (1 : Int32))), (0, gj_r 188)]) hO 2 dX9_count_168 rfl rfl (by decide) rfl ?_
      refine gj_goto (tgt := 139) hO dX9_count_171 (by decide) ?_
      obtain rfl := Option.some.inj hf
      refine gj_sub [2, 1, 0] rfl ?_
      exact K
set_option maxHeartbeats 4000000 in
set_option maxRecDepth 100000 in
theorem sb_X9_count_l178 {E : gj_E} {X : gj_X} {r : Option gj_V} {τ : gj_S} (hO : gj_O E X RX9 cX9_count 4 (some .int) 5 106) {σ : gj_S} {a12 : (Int32 × Int32)} {x : Int32 ⊕ (Int32 × Int32)} (hf : fb_X9_count_l178 σ a12 = some x) (K : gj_K (fun z12 => gj_G E X 4 r τ 214 [(2, gj_i z12)] [] σ) (fun a12 => gj_G E X 4 r τ 178 [(0, gj_r 188), (2, gj_i a12.1), (3, gj_i a12.2)] [] σ) x) : gj_G E X 4 r τ 178 [(0, gj_r 188), (2, gj_i a12.1), (3, gj_i a12.2)] [] σ := by
  unfold fb_X9_count_l178 at hf
  refine gj_iload_n hO 2 dX9_count_178 rfl rfl ?_
  refine gj_aload_n hO 0 dX9_count_179 rfl rfl ?_
  refine gt_X9_12 hO wk_672 dX9_count_180 ?_
  refine gj_iconst (v := 0) hO dX9_count_183 (by decide) ?_
  obtain ⟨hb14, hf⟩ := gj_c hf
  refine gj_iald hO kl_191 kd_191 hb14 dX9_count_184 ?_
  refine gj_icmp_ge (tgt := 214) hO dX9_count_185 (by decide) (fun h => ?_) (fun h => ?_)
  · replace hf := gj_t h hf
    obtain rfl := Option.some.inj hf
    refine gj_sub [1] rfl ?_
    exact K
  · replace hf := gj_f h hf
    refine gj_iload_n hO 1 dX9_count_188 rfl rfl ?_
    refine gj_aload_n hO 0 dX9_count_189 rfl rfl ?_
    refine gt_X9_21 hO wk_704 dX9_count_190 ?_
    refine gj_bipush (v := 74) hO dX9_count_193 (by decide) ?_
    refine gj_iload_n hO 2 dX9_count_195 rfl rfl ?_
    refine gj_iadd hO dX9_count_196 ?_
    obtain ⟨hb15, hf⟩ := gj_c hf
    refine gj_iald hO kl_198 kd_198 hb15 dX9_count_197 ?_
    refine gj_if_ne (tgt := 205) hO dX9_count_198 (by decide) (fun h => ?_) (fun h => ?_)
    · replace hf := gj_f h hf
      refine gj_iconst (v := 0) hO dX9_count_205 (by decide) ?_
      refine gj_iadd hO dX9_count_206 ?_
      refine gj_istore_n (lv2 := [(2, gj_i (a12.1 + (0 : Int32))), (0, gj_r 188), (3, gj_i a12.2)]) hO dX9_count_207 rfl (by decide) rfl ?_
      refine gj_iinc (v := (a12.2 + 1)) (lv2 := [(3, gj_i (a12.2 + 1)), (2, gj_i (a12.1 + (0 : Int32))), (0, gj_r 188)]) hO 2 dX9_count_208 rfl rfl (by decide) rfl ?_
      refine gj_goto (tgt := 178) hO dX9_count_211 (by decide) ?_
      obtain rfl := Option.some.inj hf
      refine gj_sub [2, 1, 0] rfl ?_
      exact K
    · replace hf := gj_t h hf
      refine gj_iconst (v := 1) hO dX9_count_201 (by decide) ?_
      refine gj_goto (tgt := 206) hO dX9_count_202 (by decide) ?_
      refine gj_iadd hO dX9_count_206 ?_
      refine gj_istore_n (lv2 := [(2, gj_i (a12.1 + (1 : Int32))), (0, gj_r 188), (3, gj_i a12.2)]) hO dX9_count_207 rfl (by decide) rfl ?_
      refine gj_iinc (v := (a12.2 + 1)) (lv2 := [(3, gj_i (a12.2 + 1)), (2, gj_i (a12.1 + (1 : Int32))), (0, gj_r 188)]) hO 2 dX9_count_208 rfl rfl (by decide) rfl ?_
      refine gj_goto (tgt := 178) hO dX9_count_211 (by decide) ?_
      obtain rfl := Option.some.inj hf
      refine gj_sub [2, 1, 0] rfl ?_
      exact K
set_option maxHeartbeats 4000000 in
set_option maxRecDepth 100000 in
theorem m_X9_count {E : gj_E} {σ : gj_S} {b1 : Int32}  {x : (Int32 × gj_S)} (hf : f_X9_count b1 σ = some x) : gj_M E yX9_count cX9_count 4 (some .int) 5 106 [gj_r 188, gj_i b1] σ (some (gj_i x.1)) x.2 := by
  refine gj_body (lv := [(0, gj_r 188), (1, gj_i b1)]) (by decide +kernel) (Nat.le_of_ble_eq_true rfl) rfl (fun X hO => ?_)
  replace hO : gj_O E X RX9 cX9_count 4 (some .int) 5 106 := hO
  unfold f_X9_count at hf
  refine gj_aload_n hO 0 dX9_count_0 rfl rfl ?_
  refine gj_iconst (v := 0) hO dX9_count_1 (by decide) ?_
  refine pt_X9_0 hO wk_604 dX9_count_2 ?_
  refine gj_iconst (v := 0) hO dX9_count_5 (by decide) ?_
  refine gj_istore_n (lv2 := [(2, gj_i (0 : Int32)), (0, gj_r 188), (1, gj_i b1)]) hO dX9_count_6 rfl (by decide) rfl ?_
  refine gj_iload_n hO 2 dX9_count_7 rfl rfl ?_
  by_cases hs0 : b1 = 0
  · replace hf := gj_t hs0 hf
    refine gj_tblAt 0 (tgt := 68) hO dX9_count_8 hs0 (by decide) (by decide) rfl (by decide) ?_
    refine gj_aload_n hO 1 dX9_count_68 rfl rfl ?_
    refine gt_X9_11 hO wk_670 dX9_count_69 ?_
    refine gj_iconst (v := 0) hO dX9_count_72 (by decide) ?_
    obtain ⟨hb1, hf⟩ := gj_c hf
    refine gj_iald hO kl_190 kd_190 hb1 dX9_count_73 ?_
    obtain rfl := Option.some.inj hf
    exact gj_iret hO dX9_count_74
  · replace hf := gj_f hs0 hf
    by_cases hs1 : b1 = 1
    · replace hf := gj_t hs1 hf
      refine gj_tblAt 1 (tgt := 75) hO dX9_count_8 hs1 (by decide) (by decide) rfl (by decide) ?_
      refine gj_aload_n hO 1 dX9_count_75 rfl rfl ?_
      refine gt_X9_12 hO wk_672 dX9_count_76 ?_
      refine gj_iconst (v := 0) hO dX9_count_79 (by decide) ?_
      obtain ⟨hb2, hf⟩ := gj_c hf
      refine gj_iald hO kl_191 kd_191 hb2 dX9_count_80 ?_
      obtain rfl := Option.some.inj hf
      exact gj_iret hO dX9_count_81
    · replace hf := gj_f hs1 hf
      by_cases hs2 : b1 = 2
      · replace hf := gj_t hs2 hf
        refine gj_tblAt 2 (tgt := 82) hO dX9_count_8 hs2 (by decide) (by decide) rfl (by decide) ?_
        refine gj_aload_n hO 1 dX9_count_82 rfl rfl ?_
        refine gt_X9_21 hO wk_704 dX9_count_83 ?_
        refine gj_bipush (v := 40) hO dX9_count_86 (by decide) ?_
        obtain ⟨hb3, hf⟩ := gj_c hf
        refine gj_iald hO kl_198 kd_198 hb3 dX9_count_88 ?_
        obtain rfl := Option.some.inj hf
        exact gj_iret hO dX9_count_89
      · replace hf := gj_f hs2 hf
        by_cases hs3 : b1 = 3
        · replace hf := gj_t hs3 hf
          refine gj_tblAt 3 (tgt := 90) hO dX9_count_8 hs3 (by decide) (by decide) rfl (by decide) ?_
          refine gj_aload_n hO 1 dX9_count_90 rfl rfl ?_
          refine gt_X9_21 hO wk_704 dX9_count_91 ?_
          refine gj_bipush (v := 41) hO dX9_count_94 (by decide) ?_
          obtain ⟨hb4, hf⟩ := gj_c hf
          refine gj_iald hO kl_198 kd_198 hb4 dX9_count_96 ?_
          obtain rfl := Option.some.inj hf
          exact gj_iret hO dX9_count_97
        · replace hf := gj_f hs3 hf
          by_cases hs4 : b1 = 4
          · replace hf := gj_t hs4 hf
            refine gj_tblAt 4 (tgt := 98) hO dX9_count_8 hs4 (by decide) (by decide) rfl (by decide) ?_
            refine gj_aload_n hO 1 dX9_count_98 rfl rfl ?_
            refine gt_X9_21 hO wk_704 dX9_count_99 ?_
            refine gj_bipush (v := 99) hO dX9_count_102 (by decide) ?_
            obtain ⟨hb5, hf⟩ := gj_c hf
            refine gj_iald hO kl_198 kd_198 hb5 dX9_count_104 ?_
            obtain rfl := Option.some.inj hf
            exact gj_iret hO dX9_count_105
          · replace hf := gj_f hs4 hf
            by_cases hs5 : b1 = 5
            · replace hf := gj_t hs5 hf
              refine gj_tblAt 5 (tgt := 106) hO dX9_count_8 hs5 (by decide) (by decide) rfl (by decide) ?_
              refine gj_aload_n hO 1 dX9_count_106 rfl rfl ?_
              refine gt_X9_21 hO wk_704 dX9_count_107 ?_
              refine gj_bipush (v := 98) hO dX9_count_110 (by decide) ?_
              obtain ⟨hb6, hf⟩ := gj_c hf
              refine gj_iald hO kl_198 kd_198 hb6 dX9_count_112 ?_
              obtain rfl := Option.some.inj hf
              exact gj_iret hO dX9_count_113
            · replace hf := gj_f hs5 hf
              by_cases hs6 : b1 = 6
              · replace hf := gj_t hs6 hf
                refine gj_tblAt 6 (tgt := 114) hO dX9_count_8 hs6 (by decide) (by decide) rfl (by decide) ?_
                refine gj_aload_n hO 1 dX9_count_114 rfl rfl ?_
                refine gt_X9_23 hO wk_710 dX9_count_115 ?_
                obtain rfl := Option.some.inj hf
                exact gj_iret hO dX9_count_118
              · replace hf := gj_f hs6 hf
                by_cases hs7 : b1 = 7
                · replace hf := gj_t hs7 hf
                  refine gj_tblAt 7 (tgt := 119) hO dX9_count_8 hs7 (by decide) (by decide) rfl (by decide) ?_
                  refine gj_aload_n hO 1 dX9_count_119 rfl rfl ?_
                  refine gt_X9_2 hO wk_612 dX9_count_120 ?_
                  obtain rfl := Option.some.inj hf
                  exact gj_iret hO dX9_count_123
                · replace hf := gj_f hs7 hf
                  by_cases hs8 : b1 = 8
                  · replace hf := gj_t hs8 hf
                    refine gj_tblAt 8 (tgt := 124) hO dX9_count_8 hs8 (by decide) (by decide) rfl (by decide) ?_
                    refine gj_aload_n hO 1 dX9_count_124 rfl rfl ?_
                    obtain ⟨x7, hc7, hf⟩ := gj_b hf
                    refine ca_X9_isEnd hO  hc7 wk_864 (by decide) (by decide) (Nat.le_of_ble_eq_true rfl) dX9_count_125 ?_
                    refine gj_if_eq (tgt := 135) hO dX9_count_128 (by decide) (fun h => ?_) (fun h => ?_)
                    · replace hf := gj_t h hf
                      refine gj_iconst (v := 0) hO dX9_count_135 (by decide) ?_
                      obtain rfl := Option.some.inj hf
                      exact gj_iret hO dX9_count_136
                    · replace hf := gj_f h hf
                      refine gj_iconst (v := 1) hO dX9_count_131 (by decide) ?_
                      refine gj_goto (tgt := 136) hO dX9_count_132 (by decide) ?_
                      obtain rfl := Option.some.inj hf
                      exact gj_iret hO dX9_count_136
                  · replace hf := gj_f hs8 hf
                    by_cases hs9 : b1 = 9
                    · replace hf := gj_t hs9 hf
                      refine gj_tblAt 9 (tgt := 137) hO dX9_count_8 hs9 (by decide) (by decide) rfl (by decide) ?_
                      refine gj_iconst (v := 0) hO dX9_count_137 (by decide) ?_
                      refine gj_istore_n (lv2 := [(3, gj_i (0 : Int32)), (2, gj_i (0 : Int32)), (0, gj_r 188), (1, gj_i b1)]) hO dX9_count_138 rfl (by decide) rfl ?_
                      obtain ⟨z8, hz8, hf⟩ := gj_b hf
                      have J8 : gj_G E X 4 (some (gj_i x.1)) x.2 174 [(2, gj_i z8)] [] (gj_sI σ 188 (upd (σ.1 188) 0 (0 : Int32))) := by
                        refine gj_iload_n hO 0 dX9_count_174 rfl rfl ?_
                        obtain rfl := Option.some.inj hf
                        exact gj_iret hO dX9_count_175
                      refine gj_sub [2, 1, 0] rfl ?_
                      exact gj_loop (head := fun a8 => gj_G E X 4 (some (gj_i x.1)) x.2 139 [(0, gj_r 188), (2, gj_i a8.1), (3, gj_i a8.2)] [] (gj_sI σ 188 (upd (σ.1 188) 0 (0 : Int32)))) (exit := fun z8 => gj_G E X 4 (some (gj_i x.1)) x.2 174 [(2, gj_i z8)] [] (gj_sI σ 188 (upd (σ.1 188) 0 (0 : Int32)))) (fun a8 x hf K => sb_X9_count_l139 hO hf K) _ _ _ hz8 J8
                    · replace hf := gj_f hs9 hf
                      by_cases hs10 : b1 = 10
                      · replace hf := gj_t hs10 hf
                        refine gj_tblAt 10 (tgt := 176) hO dX9_count_8 hs10 (by decide) (by decide) rfl (by decide) ?_
                        refine gj_iconst (v := 0) hO dX9_count_176 (by decide) ?_
                        refine gj_istore_n (lv2 := [(3, gj_i (0 : Int32)), (2, gj_i (0 : Int32)), (0, gj_r 188), (1, gj_i b1)]) hO dX9_count_177 rfl (by decide) rfl ?_
                        obtain ⟨z12, hz12, hf⟩ := gj_b hf
                        have J12 : gj_G E X 4 (some (gj_i x.1)) x.2 214 [(2, gj_i z12)] [] (gj_sI σ 188 (upd (σ.1 188) 0 (0 : Int32))) := by
                          refine gj_iload_n hO 0 dX9_count_214 rfl rfl ?_
                          obtain rfl := Option.some.inj hf
                          exact gj_iret hO dX9_count_215
                        refine gj_sub [2, 1, 0] rfl ?_
                        exact gj_loop (head := fun a12 => gj_G E X 4 (some (gj_i x.1)) x.2 178 [(0, gj_r 188), (2, gj_i a12.1), (3, gj_i a12.2)] [] (gj_sI σ 188 (upd (σ.1 188) 0 (0 : Int32)))) (exit := fun z12 => gj_G E X 4 (some (gj_i x.1)) x.2 214 [(2, gj_i z12)] [] (gj_sI σ 188 (upd (σ.1 188) 0 (0 : Int32)))) (fun a12 x hf K => sb_X9_count_l178 hO hf K) _ _ _ hz12 J12
                      · replace hf := gj_f hs10 hf
                        refine gj_tblOut (tgt := 216) hO dX9_count_8 (gj_out10 hs0 hs1 hs2 hs3 hs4 hs5 hs6 hs7 hs8 hs9 hs10) (by decide) ?_
                        refine gj_iconst (v := (-1)) hO dX9_count_216 (by decide) ?_
                        obtain rfl := Option.some.inj hf
                        exact gj_iret hO dX9_count_217
set_option maxHeartbeats 4000000 in
set_option maxRecDepth 100000 in
theorem ca_X9_count {E : gj_E} {X : gj_X} {own : String} {cc : ByteArray} {nL : Nat} {rt : Option FieldType} {fr lo : Nat} {r : Option gj_V} {τ : gj_S} {pc : Nat} {lv : List (Nat × gj_V)} {st : List gj_V} {σ : gj_S} (hO : gj_O E X own cc nL rt fr lo) {b1 : Int32}  {idx : Nat} {x : (Int32 × gj_S)} (hf : f_X9_count b1 σ = some x) (hl : Cond.methodLink own idx yX9_count ∈ gj_gw) (hf1 : 6 ≤ fr) (hf2 : 129 ≤ lo) (hcat : ((st.map (gj_tv E.2.1)).map fun v => v.category).sum ≤ 8) (hd : decode cc pc = .ok (.invokevirtual idx, 3)) (k : gj_G E X nL r τ (pc + 3) lv ((gj_i x.1) :: st) x.2) : gj_G E X nL r τ pc lv (gj_i b1 :: gj_r 188 :: st) σ :=
  gj_callV hO (o := 188) (vs := [gj_i b1]) (m_X9_count  hf) hl wk_979 wk_980 wk_607 wk_981 kl_188 kd_188 (by decide) (ci := 9) rfl (n := 1) (by decide +kernel) rfl hf1 hf2 rfl hcat hd k
def f_X1_readLog (b0 : Nat) (b1 : Int32) (b2 : Int32) (σ : gj_S) : Option Int32 := ((f_J9_floorMod_7cf53 (((σ.1 b0 4) - (1 : Int32)) - b1) (16 : Int32)).bind fun x1 => (if gj_in ((x1 * (5 : Int32)) + b2) 80 then some (σ.1 (b0 + 8) (Int32.toNatClampNeg ((x1 * (5 : Int32)) + b2))) else none))
set_option maxHeartbeats 4000000 in
set_option maxRecDepth 100000 in
theorem m_X1_readLog {E : gj_E} {σ : gj_S} {b0 : Nat} {b1 : Int32} {b2 : Int32} (g0 : isP b0) {x : Int32} (hf : f_X1_readLog b0 b1 b2 σ = some x) : gj_M E yX1_readLog cX1_readLog 3 (some .int) 1 22 [gj_r b0, gj_i b1, gj_i b2] σ (some (gj_i x)) σ := by
  refine gj_body (lv := [(0, gj_r b0), (1, gj_i b1), (2, gj_i b2)]) (by decide +kernel) (Nat.le_of_ble_eq_true rfl) rfl (fun X hO => ?_)
  replace hO : gj_O E X RX1 cX1_readLog 3 (some .int) 1 22 := hO
  unfold f_X1_readLog at hf
  refine gj_aload_n hO 0 dX1_readLog_0 rfl rfl ?_
  refine gt_X1_12 hO (kdP_0 g0) (klP_0 g0) wk_128 dX1_readLog_1 ?_
  refine gj_aload_n hO 0 dX1_readLog_4 rfl rfl ?_
  refine gt_X1_4 hO (kdP_0 g0) (klP_0 g0) wk_119 dX1_readLog_5 ?_
  refine gj_iconst (v := 1) hO dX1_readLog_8 (by decide) ?_
  refine gj_isub hO dX1_readLog_9 ?_
  refine gj_iload_n hO 1 dX1_readLog_10 rfl rfl ?_
  refine gj_isub hO dX1_readLog_11 ?_
  refine gj_bipush (v := 16) hO dX1_readLog_12 (by decide) ?_
  obtain ⟨x1, hc1, hf⟩ := gj_b hf
  refine ca_J9_floorMod_7cf53 hO  hc1 wk_342 (by decide) (by decide) (Nat.le_of_ble_eq_true rfl) dX1_readLog_14 ?_
  refine gj_iconst (v := 5) hO dX1_readLog_17 (by decide) ?_
  refine gj_imul hO dX1_readLog_18 ?_
  refine gj_iload_n hO 2 dX1_readLog_19 rfl rfl ?_
  refine gj_iadd hO dX1_readLog_20 ?_
  obtain ⟨hb2, hf⟩ := gj_c hf
  refine gj_iald hO (klP_8 g0) (kdP_8 g0) hb2 dX1_readLog_21 ?_
  obtain rfl := Option.some.inj hf
  exact gj_iret hO dX1_readLog_22
set_option maxHeartbeats 4000000 in
set_option maxRecDepth 100000 in
theorem ca_X1_readLog {E : gj_E} {X : gj_X} {own : String} {cc : ByteArray} {nL : Nat} {rt : Option FieldType} {fr lo : Nat} {r : Option gj_V} {τ : gj_S} {pc : Nat} {lv : List (Nat × gj_V)} {st : List gj_V} {σ : gj_S} (hO : gj_O E X own cc nL rt fr lo) {b0 : Nat} {b1 : Int32} {b2 : Int32} (g0 : isP b0) {idx : Nat} {x : Int32} (hf : f_X1_readLog b0 b1 b2 σ = some x) (hl : Cond.methodLink own idx yX1_readLog ∈ gj_gw) (hf1 : 2 ≤ fr) (hf2 : 44 ≤ lo) (hcat : ((st.map (gj_tv E.2.1)).map fun v => v.category).sum ≤ 8) (hd : decode cc pc = .ok (.invokevirtual idx, 3)) (k : gj_G E X nL r τ (pc + 3) lv ((gj_i x) :: st) σ) : gj_G E X nL r τ pc lv (gj_i b2 :: gj_i b1 :: gj_r b0 :: st) σ :=
  gj_callV hO (o := b0) (vs := [gj_i b1, gj_i b2]) (m_X1_readLog g0 hf) hl wk_982 wk_983 wk_15 wk_984 (klP_0 g0) (kdP_0 g0) (by decide) (ci := 1) rfl (n := 2) (by decide +kernel) rfl hf1 hf2 rfl hcat hd k
def fb_X7_countHanging_l4 (b0 : Nat) (b1 : Int32) (σ : gj_S) (a1 : (Int32 × Int32)) : Option (Int32 ⊕ (Int32 × Int32)) := (if (σ.1 (b0 + 1) 0) ≤ a1.2 then some (.inl a1.1) else ((f_X5_hangsFrom (b0 + 10) a1.2 b1 σ).bind fun x3 => (if x3 = 0 then some (.inr ((a1.1 + (0 : Int32)), (a1.2 + 1))) else some (.inr ((a1.1 + (1 : Int32)), (a1.2 + 1))))))
def f_X7_countHanging (b0 : Nat) (b1 : Int32) (σ : gj_S) : Option Int32 := ((gj_lp (fb_X7_countHanging_l4 b0 b1 σ) 5000 ((0 : Int32), (0 : Int32))).bind fun z1 => some z1)
set_option maxHeartbeats 4000000 in
set_option maxRecDepth 100000 in
theorem sb_X7_countHanging_l4 {E : gj_E} {X : gj_X} {r : Option gj_V} {τ : gj_S} (hO : gj_O E X RX7 cX7_countHanging 4 (some .int) 1 24) {b0 : Nat} {b1 : Int32} {σ : gj_S} (g0 : isY b0) {a1 : (Int32 × Int32)} {x : Int32 ⊕ (Int32 × Int32)} (hf : fb_X7_countHanging_l4 b0 b1 σ a1 = some x) (K : gj_K (fun z1 => gj_G E X 4 r τ 41 [(2, gj_i z1)] [] σ) (fun a1 => gj_G E X 4 r τ 4 [(0, gj_r b0), (1, gj_i b1), (2, gj_i a1.1), (3, gj_i a1.2)] [] σ) x) : gj_G E X 4 r τ 4 [(0, gj_r b0), (1, gj_i b1), (2, gj_i a1.1), (3, gj_i a1.2)] [] σ := by
  unfold fb_X7_countHanging_l4 at hf
  refine gj_iload_n hO 3 dX7_countHanging_4 rfl rfl ?_
  refine gj_aload_n hO 0 dX7_countHanging_5 rfl rfl ?_
  refine gt_X7_0 hO (kdY_0 g0) (klY_0 g0) wk_167 dX7_countHanging_6 ?_
  refine gt_X1_0 hO (kdP_0 (isY_P g0)) (klP_0 (isY_P g0)) wk_200 dX7_countHanging_9 ?_
  refine gj_icmp_ge (tgt := 41) hO dX7_countHanging_12 (by decide) (fun h => ?_) (fun h => ?_)
  · replace hf := gj_t h hf
    obtain rfl := Option.some.inj hf
    refine gj_sub [2] rfl ?_
    exact K
  · replace hf := gj_f h hf
    refine gj_iload_n hO 2 dX7_countHanging_15 rfl rfl ?_
    refine gj_aload_n hO 0 dX7_countHanging_16 rfl rfl ?_
    refine gt_X7_1 hO (kdY_0 g0) (klY_0 g0) wk_166 dX7_countHanging_17 ?_
    refine gj_iload_n hO 3 dX7_countHanging_20 rfl rfl ?_
    refine gj_iload_n hO 1 dX7_countHanging_21 rfl rfl ?_
    obtain ⟨x3, hc3, hf⟩ := gj_b hf
    refine ca_X5_hangsFrom hO (isY_T g0) hc3 wk_462 (by decide) (by decide) (Nat.le_of_ble_eq_true rfl) dX7_countHanging_22 ?_
    refine gj_if_eq (tgt := 32) hO dX7_countHanging_25 (by decide) (fun h => ?_) (fun h => ?_)
    · replace hf := gj_t h hf
      refine gj_iconst (v := 0) hO dX7_countHanging_32 (by decide) ?_
      refine gj_iadd hO dX7_countHanging_33 ?_
      refine gj_istore_n (lv2 := [(2, gj_i (a1.1 + (0 : Int32))), (0, gj_r b0), (1, gj_i b1), (3, gj_i a1.2)]) hO dX7_countHanging_34 rfl (by decide) rfl ?_
      refine gj_iinc (v := (a1.2 + 1)) (lv2 := [(3, gj_i (a1.2 + 1)), (2, gj_i (a1.1 + (0 : Int32))), (0, gj_r b0), (1, gj_i b1)]) hO 3 dX7_countHanging_35 rfl rfl (by decide) rfl ?_
      refine gj_goto (tgt := 4) hO dX7_countHanging_38 (by decide) ?_
      obtain rfl := Option.some.inj hf
      refine gj_sub [2, 3, 1, 0] rfl ?_
      exact K
    · replace hf := gj_f h hf
      refine gj_iconst (v := 1) hO dX7_countHanging_28 (by decide) ?_
      refine gj_goto (tgt := 33) hO dX7_countHanging_29 (by decide) ?_
      refine gj_iadd hO dX7_countHanging_33 ?_
      refine gj_istore_n (lv2 := [(2, gj_i (a1.1 + (1 : Int32))), (0, gj_r b0), (1, gj_i b1), (3, gj_i a1.2)]) hO dX7_countHanging_34 rfl (by decide) rfl ?_
      refine gj_iinc (v := (a1.2 + 1)) (lv2 := [(3, gj_i (a1.2 + 1)), (2, gj_i (a1.1 + (1 : Int32))), (0, gj_r b0), (1, gj_i b1)]) hO 3 dX7_countHanging_35 rfl rfl (by decide) rfl ?_
      refine gj_goto (tgt := 4) hO dX7_countHanging_38 (by decide) ?_
      obtain rfl := Option.some.inj hf
      refine gj_sub [2, 3, 1, 0] rfl ?_
      exact K
set_option maxHeartbeats 4000000 in
set_option maxRecDepth 100000 in
theorem m_X7_countHanging {E : gj_E} {σ : gj_S} {b0 : Nat} {b1 : Int32} (g0 : isY b0) {x : Int32} (hf : f_X7_countHanging b0 b1 σ = some x) : gj_M E yX7_countHanging cX7_countHanging 4 (some .int) 1 24 [gj_r b0, gj_i b1] σ (some (gj_i x)) σ := by
  refine gj_body (lv := [(0, gj_r b0), (1, gj_i b1)]) (by decide +kernel) (Nat.le_of_ble_eq_true rfl) rfl (fun X hO => ?_)
  replace hO : gj_O E X RX7 cX7_countHanging 4 (some .int) 1 24 := hO
  unfold f_X7_countHanging at hf
  refine gj_iconst (v := 0) hO dX7_countHanging_0 (by decide) ?_
  refine gj_istore_n (lv2 := [(2, gj_i (0 : Int32)), (0, gj_r b0), (1, gj_i b1)]) hO dX7_countHanging_1 rfl (by decide) rfl ?_
  refine gj_iconst (v := 0) hO dX7_countHanging_2 (by decide) ?_
  refine gj_istore_n (lv2 := [(3, gj_i (0 : Int32)), (2, gj_i (0 : Int32)), (0, gj_r b0), (1, gj_i b1)]) hO dX7_countHanging_3 rfl (by decide) rfl ?_
  obtain ⟨z1, hz1, hf⟩ := gj_b hf
  have J1 : gj_G E X 4 (some (gj_i x)) σ 41 [(2, gj_i z1)] [] σ := by
    refine gj_iload_n hO 0 dX7_countHanging_41 rfl rfl ?_
    obtain rfl := Option.some.inj hf
    exact gj_iret hO dX7_countHanging_42
  refine gj_sub [2, 3, 1, 0] rfl ?_
  exact gj_loop (head := fun a1 => gj_G E X 4 (some (gj_i x)) σ 4 [(0, gj_r b0), (1, gj_i b1), (2, gj_i a1.1), (3, gj_i a1.2)] [] σ) (exit := fun z1 => gj_G E X 4 (some (gj_i x)) σ 41 [(2, gj_i z1)] [] σ) (fun a1 x hf K => sb_X7_countHanging_l4 hO g0 hf K) _ _ _ hz1 J1
set_option maxHeartbeats 4000000 in
set_option maxRecDepth 100000 in
theorem ca_X7_countHanging {E : gj_E} {X : gj_X} {own : String} {cc : ByteArray} {nL : Nat} {rt : Option FieldType} {fr lo : Nat} {r : Option gj_V} {τ : gj_S} {pc : Nat} {lv : List (Nat × gj_V)} {st : List gj_V} {σ : gj_S} (hO : gj_O E X own cc nL rt fr lo) {b0 : Nat} {b1 : Int32} (g0 : isY b0) {idx : Nat} {x : Int32} (hf : f_X7_countHanging b0 b1 σ = some x) (hl : Cond.methodLink own idx yX7_countHanging ∈ gj_gw) (hf1 : 2 ≤ fr) (hf2 : 47 ≤ lo) (hcat : ((st.map (gj_tv E.2.1)).map fun v => v.category).sum ≤ 8) (hd : decode cc pc = .ok (.invokevirtual idx, 3)) (k : gj_G E X nL r τ (pc + 3) lv ((gj_i x) :: st) σ) : gj_G E X nL r τ pc lv (gj_i b1 :: gj_r b0 :: st) σ :=
  gj_callV hO (o := b0) (vs := [gj_i b1]) (m_X7_countHanging g0 hf) hl wk_985 wk_986 wk_171 wk_987 (klY_0 g0) (kdY_0 g0) (by decide) (ci := 7) rfl (n := 1) (by decide +kernel) rfl hf1 hf2 rfl hcat hd k
