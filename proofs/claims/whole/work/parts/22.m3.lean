def f_X7_regrow (b0 : Nat) (σ : gj_S) : Option gj_S := ((f_X5_grow (b0 + 10) (b0 + 1) σ).bind fun x1 => some x1)
set_option maxHeartbeats 4000000 in
set_option maxRecDepth 100000 in
theorem m_X7_regrow {E : gj_E} {σ : gj_S} {b0 : Nat} (g0 : isY b0) {x : gj_S} (hf : f_X7_regrow b0 σ = some x) : gj_M E yX7_regrow cX7_regrow 1 none 3 72 [gj_r b0] σ none x := by
  refine gj_body (lv := [(0, gj_r b0)]) (by decide +kernel) (Nat.le_of_ble_eq_true rfl) rfl (fun X hO => ?_)
  replace hO : gj_O E X RX7 cX7_regrow 1 none 3 72 := hO
  unfold f_X7_regrow at hf
  refine gj_aload_n hO 0 dX7_regrow_0 rfl rfl ?_
  refine gt_X7_1 hO (kdY_0 g0) (klY_0 g0) wk_166 dX7_regrow_1 ?_
  refine gj_aload_n hO 0 dX7_regrow_4 rfl rfl ?_
  refine gt_X7_0 hO (kdY_0 g0) (klY_0 g0) wk_167 dX7_regrow_5 ?_
  obtain ⟨x1, hc1, hf⟩ := gj_b hf
  refine ca_X5_grow hO (isY_T g0) (isY_P g0) hc1 wk_168 (by decide) (by decide) (Nat.le_of_ble_eq_true rfl) dX7_regrow_8 ?_
  obtain rfl := Option.some.inj hf
  exact gj_vret hO dX7_regrow_11
set_option maxHeartbeats 4000000 in
set_option maxRecDepth 100000 in
theorem ca_X7_regrow {E : gj_E} {X : gj_X} {own : String} {cc : ByteArray} {nL : Nat} {rt : Option FieldType} {fr lo : Nat} {r : Option gj_V} {τ : gj_S} {pc : Nat} {lv : List (Nat × gj_V)} {st : List gj_V} {σ : gj_S} (hO : gj_O E X own cc nL rt fr lo) {b0 : Nat} (g0 : isY b0) {idx : Nat} {x : gj_S} (hf : f_X7_regrow b0 σ = some x) (hl : Cond.methodLink own idx yX7_regrow ∈ gj_gw) (hf1 : 4 ≤ fr) (hf2 : 92 ≤ lo) (hcat : ((st.map (gj_tv E.2.1)).map fun v => v.category).sum ≤ 8) (hd : decode cc pc = .ok (.invokevirtual idx, 3)) (k : gj_G E X nL r τ (pc + 3) lv (st) x) : gj_G E X nL r τ pc lv (gj_r b0 :: st) σ :=
  gj_callV hO (o := b0) (vs := []) (m_X7_regrow g0 hf) hl wk_169 wk_170 wk_171 wk_172 (klY_0 g0) (kdY_0 g0) (by decide) (ci := 7) rfl (n := 0) (by decide +kernel) rfl hf1 hf2 rfl hcat hd k
def f_X7_beginAll (b0 : Nat) (σ : gj_S) : Option gj_S := ((f_X1_begin (b0 + 1) σ).bind fun x1 => ((f_X7_regrow b0 x1).bind fun x2 => some x2))
set_option maxHeartbeats 4000000 in
set_option maxRecDepth 100000 in
theorem m_X7_beginAll {E : gj_E} {σ : gj_S} {b0 : Nat} (g0 : isY b0) {x : gj_S} (hf : f_X7_beginAll b0 σ = some x) : gj_M E yX7_beginAll cX7_beginAll 1 none 4 92 [gj_r b0] σ none x := by
  refine gj_body (lv := [(0, gj_r b0)]) (by decide +kernel) (Nat.le_of_ble_eq_true rfl) rfl (fun X hO => ?_)
  replace hO : gj_O E X RX7 cX7_beginAll 1 none 4 92 := hO
  unfold f_X7_beginAll at hf
  refine gj_aload_n hO 0 dX7_beginAll_0 rfl rfl ?_
  refine gt_X7_0 hO (kdY_0 g0) (klY_0 g0) wk_167 dX7_beginAll_1 ?_
  obtain ⟨x1, hc1, hf⟩ := gj_b hf
  refine ca_X1_begin hO (isY_P g0) hc1 wk_173 (by decide) (by decide) (Nat.le_of_ble_eq_true rfl) dX7_beginAll_4 ?_
  refine gj_aload_n hO 0 dX7_beginAll_7 rfl rfl ?_
  obtain ⟨x2, hc2, hf⟩ := gj_b hf
  refine ca_X7_regrow hO g0 hc2 wk_174 (by decide) (by decide) (Nat.le_of_ble_eq_true rfl) dX7_beginAll_8 ?_
  obtain rfl := Option.some.inj hf
  exact gj_vret hO dX7_beginAll_11
set_option maxHeartbeats 4000000 in
set_option maxRecDepth 100000 in
theorem ca_X7_beginAll {E : gj_E} {X : gj_X} {own : String} {cc : ByteArray} {nL : Nat} {rt : Option FieldType} {fr lo : Nat} {r : Option gj_V} {τ : gj_S} {pc : Nat} {lv : List (Nat × gj_V)} {st : List gj_V} {σ : gj_S} (hO : gj_O E X own cc nL rt fr lo) {b0 : Nat} (g0 : isY b0) {idx : Nat} {x : gj_S} (hf : f_X7_beginAll b0 σ = some x) (hl : Cond.methodLink own idx yX7_beginAll ∈ gj_gw) (hf1 : 5 ≤ fr) (hf2 : 112 ≤ lo) (hcat : ((st.map (gj_tv E.2.1)).map fun v => v.category).sum ≤ 8) (hd : decode cc pc = .ok (.invokevirtual idx, 3)) (k : gj_G E X nL r τ (pc + 3) lv (st) x) : gj_G E X nL r τ pc lv (gj_r b0 :: st) σ :=
  gj_callV hO (o := b0) (vs := []) (m_X7_beginAll g0 hf) hl wk_175 wk_176 wk_171 wk_177 (klY_0 g0) (kdY_0 g0) (by decide) (ci := 7) rfl (n := 0) (by decide +kernel) rfl hf1 hf2 rfl hcat hd k
def f_X0_forget  (σ : gj_S) : Option gj_S := some (gj_sI σ 54 (upd (σ.1 54) 2 (0 : Int32)))
set_option maxHeartbeats 4000000 in
set_option maxRecDepth 100000 in
theorem m_X0_forget {E : gj_E} {σ : gj_S}   {x : gj_S} (hf : f_X0_forget  σ = some x) : gj_M E yX0_forget cX0_forget 1 none 0 0 [gj_r 54] σ none x := by
  refine gj_body (lv := [(0, gj_r 54)]) (by decide +kernel) (Nat.le_of_ble_eq_true rfl) rfl (fun X hO => ?_)
  replace hO : gj_O E X RX0 cX0_forget 1 none 0 0 := hO
  unfold f_X0_forget at hf
  refine gj_aload_n hO 0 dX0_forget_0 rfl rfl ?_
  refine gj_iconst (v := 0) hO dX0_forget_1 (by decide) ?_
  refine pt_X0_2 hO wk_178 dX0_forget_2 ?_
  obtain rfl := Option.some.inj hf
  exact gj_vret hO dX0_forget_5
set_option maxHeartbeats 4000000 in
set_option maxRecDepth 100000 in
theorem ca_X0_forget {E : gj_E} {X : gj_X} {own : String} {cc : ByteArray} {nL : Nat} {rt : Option FieldType} {fr lo : Nat} {r : Option gj_V} {τ : gj_S} {pc : Nat} {lv : List (Nat × gj_V)} {st : List gj_V} {σ : gj_S} (hO : gj_O E X own cc nL rt fr lo)   {idx : Nat} {x : gj_S} (hf : f_X0_forget  σ = some x) (hl : Cond.methodLink own idx yX0_forget ∈ gj_gw) (hf1 : 1 ≤ fr) (hf2 : 20 ≤ lo) (hcat : ((st.map (gj_tv E.2.1)).map fun v => v.category).sum ≤ 8) (hd : decode cc pc = .ok (.invokevirtual idx, 3)) (k : gj_G E X nL r τ (pc + 3) lv (st) x) : gj_G E X nL r τ pc lv (gj_r 54 :: st) σ :=
  gj_callV hO (o := 54) (vs := []) (m_X0_forget  hf) hl wk_179 wk_180 wk_181 wk_182 kl_54 kd_54 (by decide) (ci := 0) rfl (n := 0) (by decide +kernel) rfl hf1 hf2 rfl hcat hd k
def fb_X8_text_l93  (a5 : (Int32 × gj_S)) : Option (gj_S ⊕ (Int32 × gj_S)) := (if (2 : Int32) ≤ a5.1 then some (.inl a5.2) else (if gj_in a5.1 2 then some (.inr ((a5.1 + 1), (gj_sI a5.2 165 (upd (a5.2.1 165) (Int32.toNatClampNeg a5.1) (vp_nar .boolean (0 : Int32)))))) else none))
def f_X8_text (b1 : Int32) (σ : gj_S) : Option (Int32 × gj_S) := (if b1 < 0 then some ((-1 : Int32), σ) else (if b1 ≤ (σ.1 0 1) then ((f_X2_readText b1 σ).bind fun x1 => (if x1.1 = (-1 : Int32) then ((f_X1_copyFrom 17 3 (gj_sI x1.2 0 (upd (x1.2.1 0) 1 (0 : Int32)))).bind fun x2 => ((f_X7_beginAll 16 (gj_sJ x2 15 (va_cpy (x2.2.1 12) (x2.2.1 15) 0 0 (Int32.toNatClampNeg (16 : Int32))))).bind fun x3 => ((f_X0_forget x3).bind fun x4 => ((gj_lp (fb_X8_text_l93) 5000 ((0 : Int32), x4)).bind fun z5 => some ((z5.1 17 0), z5))))) else some (((-2 : Int32) - x1.1), (gj_sI x1.2 0 (upd (x1.2.1 0) 1 (0 : Int32)))))) else some ((-1 : Int32), σ)))
set_option maxHeartbeats 4000000 in
set_option maxRecDepth 100000 in
theorem sb_X8_text_l93 {E : gj_E} {X : gj_X} {r : Option gj_V} {τ : gj_S} (hO : gj_O E X RX8 cX8_text 4 (some .int) 7 149)  {a5 : (Int32 × gj_S)} {x : gj_S ⊕ (Int32 × gj_S)} (hf : fb_X8_text_l93  a5 = some x) (K : gj_K (fun z5 => gj_G E X 4 r τ 111 [(0, gj_r 0)] [] z5) (fun a5 => gj_G E X 4 r τ 93 [(0, gj_r 0), (3, gj_i a5.1)] [] a5.2) x) : gj_G E X 4 r τ 93 [(0, gj_r 0), (3, gj_i a5.1)] [] a5.2 := by
  unfold fb_X8_text_l93 at hf
  refine gj_iload_n hO 1 dX8_text_93 rfl rfl ?_
  refine gj_iconst (v := 2) hO dX8_text_94 (by decide) ?_
  refine gj_icmp_ge (tgt := 111) hO dX8_text_95 (by decide) (fun h => ?_) (fun h => ?_)
  · replace hf := gj_t h hf
    obtain rfl := Option.some.inj hf
    refine gj_sub [0] rfl ?_
    exact K
  · replace hf := gj_f h hf
    refine gj_aload_n hO 0 dX8_text_98 rfl rfl ?_
    refine gt_X8_8 hO wk_195 dX8_text_99 ?_
    refine gj_iload_n hO 1 dX8_text_102 rfl rfl ?_
    refine gj_iconst (v := 0) hO dX8_text_103 (by decide) ?_
    obtain ⟨hb7, hf⟩ := gj_c hf
    refine gj_zast hO kl_165 kd_165 hb7 dX8_text_104 ?_
    refine gj_iinc (v := (a5.1 + 1)) (lv2 := [(3, gj_i (a5.1 + 1)), (0, gj_r 0)]) hO 1 dX8_text_105 rfl rfl (by decide) rfl ?_
    refine gj_goto (tgt := 93) hO dX8_text_108 (by decide) ?_
    obtain rfl := Option.some.inj hf
    refine gj_sub [1, 0] rfl ?_
    exact K
set_option maxHeartbeats 4000000 in
set_option maxRecDepth 100000 in
theorem m_X8_text {E : gj_E} {σ : gj_S} {b1 : Int32}  {x : (Int32 × gj_S)} (hf : f_X8_text b1 σ = some x) : gj_M E yX8_text cX8_text 4 (some .int) 7 149 [gj_r 0, gj_i b1] σ (some (gj_i x.1)) x.2 := by
  refine gj_body (lv := [(0, gj_r 0), (1, gj_i b1)]) (by decide +kernel) (Nat.le_of_ble_eq_true rfl) rfl (fun X hO => ?_)
  replace hO : gj_O E X RX8 cX8_text 4 (some .int) 7 149 := hO
  unfold f_X8_text at hf
  refine gj_iload_n hO 1 dX8_text_0 rfl rfl ?_
  refine gj_if_lt (tgt := 12) hO dX8_text_1 (by decide) (fun h => ?_) (fun h => ?_)
  · replace hf := gj_t h hf
    refine gj_iconst (v := (-1)) hO dX8_text_12 (by decide) ?_
    obtain rfl := Option.some.inj hf
    exact gj_iret hO dX8_text_13
  · replace hf := gj_f h hf
    refine gj_iload_n hO 1 dX8_text_4 rfl rfl ?_
    refine gj_aload_n hO 0 dX8_text_5 rfl rfl ?_
    refine gt_X8_1 hO wk_0 dX8_text_6 ?_
    refine gj_icmp_le (tgt := 14) hO dX8_text_9 (by decide) (fun h => ?_) (fun h => ?_)
    · replace hf := gj_t h hf
      refine gj_aload_n hO 0 dX8_text_14 rfl rfl ?_
      refine gt_X8_2 hO wk_183 dX8_text_15 ?_
      refine gj_aload_n hO 0 dX8_text_18 rfl rfl ?_
      refine gt_X8_0 hO wk_1 dX8_text_19 ?_
      refine gj_iload_n hO 1 dX8_text_22 rfl rfl ?_
      obtain ⟨x1, hc1, hf⟩ := gj_b hf
      refine ca_X2_readText hO  hc1 wk_184 (by decide) (by decide) (Nat.le_of_ble_eq_true rfl) dX8_text_23 ?_
      refine gj_istore_n (lv2 := [(2, gj_i x1.1), (0, gj_r 0), (1, gj_i b1)]) hO dX8_text_26 rfl (by decide) rfl ?_
      refine gj_aload_n hO 1 dX8_text_27 rfl rfl ?_
      refine gj_iconst (v := 0) hO dX8_text_28 (by decide) ?_
      refine pt_X8_1 hO wk_0 dX8_text_29 ?_
      refine gj_iload_n hO 0 dX8_text_32 rfl rfl ?_
      refine gj_iconst (v := (-1)) hO dX8_text_33 (by decide) ?_
      refine gj_icmp_eq (tgt := 42) hO dX8_text_34 (by decide) (fun h => ?_) (fun h => ?_)
      · replace hf := gj_t h hf
        refine gj_aload_n hO 1 dX8_text_42 rfl rfl ?_
        refine gt_X8_4 hO wk_185 dX8_text_43 ?_
        refine gt_X7_0 hO kd_16 kl_16 wk_186 dX8_text_46 ?_
        refine gj_aload_n hO 1 dX8_text_49 rfl rfl ?_
        refine gt_X8_2 hO wk_183 dX8_text_50 ?_
        refine gt_X2_0 hO wk_187 dX8_text_53 ?_
        obtain ⟨x2, hc2, hf⟩ := gj_b hf
        refine ca_X1_copyFrom hO isP_17 isP_3 hc2 wk_188 (by decide) (by decide) (Nat.le_of_ble_eq_true rfl) dX8_text_56 ?_
        refine gj_aload_n hO 1 dX8_text_59 rfl rfl ?_
        refine gt_X8_2 hO wk_183 dX8_text_60 ?_
        refine gt_X2_1 hO wk_189 dX8_text_63 ?_
        refine gj_iconst (v := 0) hO dX8_text_66 (by decide) ?_
        refine gj_aload_n hO 1 dX8_text_67 rfl rfl ?_
        refine gt_X8_3 hO wk_190 dX8_text_68 ?_
        refine gj_iconst (v := 0) hO dX8_text_71 (by decide) ?_
        refine gj_bipush (v := 16) hO dX8_text_72 (by decide) ?_
        refine gj_cpyJ hO kl_12 kd_12 kl_15 kd_15 wk_191 (by decide) (by decide) (by decide) (by decide) (by decide) (Nat.le_of_ble_eq_true rfl) dX8_text_74 ?_
        refine gj_aload_n hO 1 dX8_text_77 rfl rfl ?_
        refine gt_X8_4 hO wk_185 dX8_text_78 ?_
        obtain ⟨x3, hc3, hf⟩ := gj_b hf
        refine ca_X7_beginAll hO isY_16 hc3 wk_192 (by decide) (by decide) (Nat.le_of_ble_eq_true rfl) dX8_text_81 ?_
        refine gj_aload_n hO 1 dX8_text_84 rfl rfl ?_
        refine gt_X8_6 hO wk_193 dX8_text_85 ?_
        obtain ⟨x4, hc4, hf⟩ := gj_b hf
        refine ca_X0_forget hO  hc4 wk_194 (by decide) (by decide) (Nat.le_of_ble_eq_true rfl) dX8_text_88 ?_
        refine gj_iconst (v := 0) hO dX8_text_91 (by decide) ?_
        refine gj_istore_n (lv2 := [(3, gj_i (0 : Int32)), (2, gj_i x1.1), (0, gj_r 0), (1, gj_i b1)]) hO dX8_text_92 rfl (by decide) rfl ?_
        obtain ⟨z5, hz5, hf⟩ := gj_b hf
        have J5 : gj_G E X 4 (some (gj_i x.1)) x.2 111 [(0, gj_r 0)] [] z5 := by
          refine gj_aload_n hO 0 dX8_text_111 rfl rfl ?_
          refine gt_X8_4 hO wk_185 dX8_text_112 ?_
          refine gt_X7_0 hO kd_16 kl_16 wk_186 dX8_text_115 ?_
          refine gt_X1_0 hO kd_17 kl_17 wk_196 dX8_text_118 ?_
          obtain rfl := Option.some.inj hf
          exact gj_iret hO dX8_text_121
        refine gj_sub [2, 0] rfl ?_
        exact gj_loop (head := fun a5 => gj_G E X 4 (some (gj_i x.1)) x.2 93 [(0, gj_r 0), (3, gj_i a5.1)] [] a5.2) (exit := fun z5 => gj_G E X 4 (some (gj_i x.1)) x.2 111 [(0, gj_r 0)] [] z5) (fun a5 x hf K => sb_X8_text_l93 hO hf K) _ _ _ hz5 J5
      · replace hf := gj_f h hf
        refine gj_bipush (v := (-2)) hO dX8_text_37 (by decide) ?_
        refine gj_iload_n hO 0 dX8_text_39 rfl rfl ?_
        refine gj_isub hO dX8_text_40 ?_
        obtain rfl := Option.some.inj hf
        exact gj_iret hO dX8_text_41
    · replace hf := gj_f h hf
      refine gj_iconst (v := (-1)) hO dX8_text_12 (by decide) ?_
      obtain rfl := Option.some.inj hf
      exact gj_iret hO dX8_text_13
set_option maxHeartbeats 4000000 in
set_option maxRecDepth 100000 in
theorem ca_X8_text {E : gj_E} {X : gj_X} {own : String} {cc : ByteArray} {nL : Nat} {rt : Option FieldType} {fr lo : Nat} {r : Option gj_V} {τ : gj_S} {pc : Nat} {lv : List (Nat × gj_V)} {st : List gj_V} {σ : gj_S} (hO : gj_O E X own cc nL rt fr lo) {b1 : Int32}  {idx : Nat} {x : (Int32 × gj_S)} (hf : f_X8_text b1 σ = some x) (hl : Cond.methodLink own idx yX8_text ∈ gj_gw) (hf1 : 8 ≤ fr) (hf2 : 172 ≤ lo) (hcat : ((st.map (gj_tv E.2.1)).map fun v => v.category).sum ≤ 8) (hd : decode cc pc = .ok (.invokevirtual idx, 3)) (k : gj_G E X nL r τ (pc + 3) lv ((gj_i x.1) :: st) x.2) : gj_G E X nL r τ pc lv (gj_i b1 :: gj_r 0 :: st) σ :=
  gj_callV hO (o := 0) (vs := [gj_i b1]) (m_X8_text  hf) hl wk_197 wk_198 wk_4 wk_199 kl_0 kd_0 (by decide) (ci := 8) rfl (n := 1) (by decide +kernel) rfl hf1 hf2 rfl hcat hd k
def fb_X7_countAheadOf_l4 (b0 : Nat) (b1 : Int32) (σ : gj_S) (a1 : (Int32 × Int32)) : Option (Int32 ⊕ (Int32 × Int32)) := (if (σ.1 (b0 + 1) 0) ≤ a1.2 then some (.inl a1.1) else (if gj_in a1.2 9 then (if gj_in b1 9 then (if ((σ.1 ((b0 + 10) + 4) (Int32.toNatClampNeg a1.2)) - (σ.1 ((b0 + 10) + 4) (Int32.toNatClampNeg b1))) < 0 then some (.inr ((a1.1 + (1 : Int32)), (a1.2 + 1))) else (if ((σ.1 ((b0 + 10) + 4) (Int32.toNatClampNeg a1.2)) - (σ.1 ((b0 + 10) + 4) (Int32.toNatClampNeg b1))) = 0 then (if b1 ≤ a1.2 then some (.inr ((a1.1 + (0 : Int32)), (a1.2 + 1))) else some (.inr ((a1.1 + (1 : Int32)), (a1.2 + 1)))) else some (.inr ((a1.1 + (0 : Int32)), (a1.2 + 1))))) else none) else none))
def f_X7_countAheadOf (b0 : Nat) (b1 : Int32) (σ : gj_S) : Option Int32 := ((gj_lp (fb_X7_countAheadOf_l4 b0 b1 σ) 5000 ((0 : Int32), (0 : Int32))).bind fun z1 => some z1)
set_option maxHeartbeats 4000000 in
set_option maxRecDepth 100000 in
theorem sb_X7_countAheadOf_l4 {E : gj_E} {X : gj_X} {r : Option gj_V} {τ : gj_S} (hO : gj_O E X RX7 cX7_countAheadOf 5 (some .int) 0 0) {b0 : Nat} {b1 : Int32} {σ : gj_S} (g0 : isY b0) {a1 : (Int32 × Int32)} {x : Int32 ⊕ (Int32 × Int32)} (hf : fb_X7_countAheadOf_l4 b0 b1 σ a1 = some x) (K : gj_K (fun z1 => gj_G E X 5 r τ 65 [(2, gj_i z1)] [] σ) (fun a1 => gj_G E X 5 r τ 4 [(0, gj_r b0), (1, gj_i b1), (2, gj_i a1.1), (3, gj_i a1.2)] [] σ) x) : gj_G E X 5 r τ 4 [(0, gj_r b0), (1, gj_i b1), (2, gj_i a1.1), (3, gj_i a1.2)] [] σ := by
  unfold fb_X7_countAheadOf_l4 at hf
  refine gj_iload_n hO 3 dX7_countAheadOf_4 rfl rfl ?_
  refine gj_aload_n hO 0 dX7_countAheadOf_5 rfl rfl ?_
  refine gt_X7_0 hO (kdY_0 g0) (klY_0 g0) wk_167 dX7_countAheadOf_6 ?_
  refine gt_X1_0 hO (kdP_0 (isY_P g0)) (klP_0 (isY_P g0)) wk_200 dX7_countAheadOf_9 ?_
  refine gj_icmp_ge (tgt := 65) hO dX7_countAheadOf_12 (by decide) (fun h => ?_) (fun h => ?_)
  · replace hf := gj_t h hf
    obtain rfl := Option.some.inj hf
    refine gj_sub [2] rfl ?_
    exact K
  · replace hf := gj_f h hf
    refine gj_aload_n hO 0 dX7_countAheadOf_15 rfl rfl ?_
    refine gt_X7_1 hO (kdY_0 g0) (klY_0 g0) wk_166 dX7_countAheadOf_16 ?_
    refine gt_X5_3 hO (kdT_0 (isY_T g0)) (klT_0 (isY_T g0)) wk_201 dX7_countAheadOf_19 ?_
    refine gj_iload_n hO 3 dX7_countAheadOf_22 rfl rfl ?_
    obtain ⟨hb3, hf⟩ := gj_c hf
    refine gj_iald hO (klT_4 (isY_T g0)) (kdT_4 (isY_T g0)) hb3 dX7_countAheadOf_23 ?_
    refine gj_aload_n hO 0 dX7_countAheadOf_24 rfl rfl ?_
    refine gt_X7_1 hO (kdY_0 g0) (klY_0 g0) wk_166 dX7_countAheadOf_25 ?_
    refine gt_X5_3 hO (kdT_0 (isY_T g0)) (klT_0 (isY_T g0)) wk_201 dX7_countAheadOf_28 ?_
    refine gj_iload_n hO 1 dX7_countAheadOf_31 rfl rfl ?_
    obtain ⟨hb4, hf⟩ := gj_c hf
    refine gj_iald hO (klT_4 (isY_T g0)) (kdT_4 (isY_T g0)) hb4 dX7_countAheadOf_32 ?_
    refine gj_isub hO dX7_countAheadOf_33 ?_
    refine gj_istore (lv2 := [(4, gj_i ((σ.1 ((b0 + 10) + 4) (Int32.toNatClampNeg a1.2)) - (σ.1 ((b0 + 10) + 4) (Int32.toNatClampNeg b1)))), (0, gj_r b0), (1, gj_i b1), (2, gj_i a1.1), (3, gj_i a1.2)]) hO dX7_countAheadOf_34 (by decide) rfl ?_
    refine gj_iload_n hO 3 dX7_countAheadOf_36 rfl rfl ?_
    refine gj_iload hO 0 dX7_countAheadOf_37 rfl ?_
    refine gj_if_lt (tgt := 52) hO dX7_countAheadOf_39 (by decide) (fun h => ?_) (fun h => ?_)
    · replace hf := gj_t h hf
      refine gj_iconst (v := 1) hO dX7_countAheadOf_52 (by decide) ?_
      refine gj_goto (tgt := 57) hO dX7_countAheadOf_53 (by decide) ?_
      refine gj_iadd hO dX7_countAheadOf_57 ?_
      refine gj_istore_n (lv2 := [(2, gj_i (a1.1 + (1 : Int32))), (4, gj_i ((σ.1 ((b0 + 10) + 4) (Int32.toNatClampNeg a1.2)) - (σ.1 ((b0 + 10) + 4) (Int32.toNatClampNeg b1)))), (0, gj_r b0), (1, gj_i b1), (3, gj_i a1.2)]) hO dX7_countAheadOf_58 rfl (by decide) rfl ?_
      refine gj_iinc (v := (a1.2 + 1)) (lv2 := [(3, gj_i (a1.2 + 1)), (2, gj_i (a1.1 + (1 : Int32))), (4, gj_i ((σ.1 ((b0 + 10) + 4) (Int32.toNatClampNeg a1.2)) - (σ.1 ((b0 + 10) + 4) (Int32.toNatClampNeg b1)))), (0, gj_r b0), (1, gj_i b1)]) hO 4 dX7_countAheadOf_59 rfl rfl (by decide) rfl ?_
      refine gj_goto (tgt := 4) hO dX7_countAheadOf_62 (by decide) ?_
      obtain rfl := Option.some.inj hf
      refine gj_sub [3, 4, 1, 0] rfl ?_
      exact K
    · replace hf := gj_f h hf
      refine gj_iload hO 0 dX7_countAheadOf_42 rfl ?_
      refine gj_if_ne (tgt := 56) hO dX7_countAheadOf_44 (by decide) (fun h => ?_) (fun h => ?_)
      · replace hf := gj_f h hf
        refine gj_iconst (v := 0) hO dX7_countAheadOf_56 (by decide) ?_
        refine gj_iadd hO dX7_countAheadOf_57 ?_
        refine gj_istore_n (lv2 := [(2, gj_i (a1.1 + (0 : Int32))), (4, gj_i ((σ.1 ((b0 + 10) + 4) (Int32.toNatClampNeg a1.2)) - (σ.1 ((b0 + 10) + 4) (Int32.toNatClampNeg b1)))), (0, gj_r b0), (1, gj_i b1), (3, gj_i a1.2)]) hO dX7_countAheadOf_58 rfl (by decide) rfl ?_
        refine gj_iinc (v := (a1.2 + 1)) (lv2 := [(3, gj_i (a1.2 + 1)), (2, gj_i (a1.1 + (0 : Int32))), (4, gj_i ((σ.1 ((b0 + 10) + 4) (Int32.toNatClampNeg a1.2)) - (σ.1 ((b0 + 10) + 4) (Int32.toNatClampNeg b1)))), (0, gj_r b0), (1, gj_i b1)]) hO 4 dX7_countAheadOf_59 rfl rfl (by decide) rfl ?_
        refine gj_goto (tgt := 4) hO dX7_countAheadOf_62 (by decide) ?_
        obtain rfl := Option.some.inj hf
        refine gj_sub [3, 4, 1, 0] rfl ?_
        exact K
      · replace hf := gj_t h hf
        refine gj_iload_n hO 4 dX7_countAheadOf_47 rfl rfl ?_
        refine gj_iload_n hO 2 dX7_countAheadOf_48 rfl rfl ?_
        refine gj_icmp_ge (tgt := 56) hO dX7_countAheadOf_49 (by decide) (fun h => ?_) (fun h => ?_)
        · replace hf := gj_t h hf
          refine gj_iconst (v := 0) hO dX7_countAheadOf_56 (by decide) ?_
          refine gj_iadd hO dX7_countAheadOf_57 ?_
          refine gj_istore_n (lv2 := [(2, gj_i (a1.1 + (0 : Int32))), (4, gj_i ((σ.1 ((b0 + 10) + 4) (Int32.toNatClampNeg a1.2)) - (σ.1 ((b0 + 10) + 4) (Int32.toNatClampNeg b1)))), (0, gj_r b0), (1, gj_i b1), (3, gj_i a1.2)]) hO dX7_countAheadOf_58 rfl (by decide) rfl ?_
          refine gj_iinc (v := (a1.2 + 1)) (lv2 := [(3, gj_i (a1.2 + 1)), (2, gj_i (a1.1 + (0 : Int32))), (4, gj_i ((σ.1 ((b0 + 10) + 4) (Int32.toNatClampNeg a1.2)) - (σ.1 ((b0 + 10) + 4) (Int32.toNatClampNeg b1)))), (0, gj_r b0), (1, gj_i b1)]) hO 4 dX7_countAheadOf_59 rfl rfl (by decide) rfl ?_
          refine gj_goto (tgt := 4) hO dX7_countAheadOf_62 (by decide) ?_
          obtain rfl := Option.some.inj hf
          refine gj_sub [3, 4, 1, 0] rfl ?_
          exact K
        · replace hf := gj_f h hf
          refine gj_iconst (v := 1) hO dX7_countAheadOf_52 (by decide) ?_
          refine gj_goto (tgt := 57) hO dX7_countAheadOf_53 (by decide) ?_
          refine gj_iadd hO dX7_countAheadOf_57 ?_
          refine gj_istore_n (lv2 := [(2, gj_i (a1.1 + (1 : Int32))), (4, gj_i ((σ.1 ((b0 + 10) + 4) (Int32.toNatClampNeg a1.2)) - (σ.1 ((b0 + 10) + 4) (Int32.toNatClampNeg b1)))), (0, gj_r b0), (1, gj_i b1), (3, gj_i a1.2)]) hO dX7_countAheadOf_58 rfl (by decide) rfl ?_
          refine gj_iinc (v := (a1.2 + 1)) (lv2 := [(3, gj_i (a1.2 + 1)), (2, gj_i (a1.1 + (1 : Int32))), (4, gj_i ((σ.1 ((b0 + 10) + 4) (Int32.toNatClampNeg a1.2)) - (σ.1 ((b0 + 10) + 4) (Int32.toNatClampNeg b1)))), (0, gj_r b0), (1, gj_i b1)]) hO 4 dX7_countAheadOf_59 rfl rfl (by decide) rfl ?_
          refine gj_goto (tgt := 4) hO dX7_countAheadOf_62 (by decide) ?_
          obtain rfl := Option.some.inj hf
          refine gj_sub [3, 4, 1, 0] rfl ?_
          exact K
set_option maxHeartbeats 4000000 in
set_option maxRecDepth 100000 in
theorem m_X7_countAheadOf {E : gj_E} {σ : gj_S} {b0 : Nat} {b1 : Int32} (g0 : isY b0) {x : Int32} (hf : f_X7_countAheadOf b0 b1 σ = some x) : gj_M E yX7_countAheadOf cX7_countAheadOf 5 (some .int) 0 0 [gj_r b0, gj_i b1] σ (some (gj_i x)) σ := by
  refine gj_body (lv := [(0, gj_r b0), (1, gj_i b1)]) (by decide +kernel) (Nat.le_of_ble_eq_true rfl) rfl (fun X hO => ?_)
  replace hO : gj_O E X RX7 cX7_countAheadOf 5 (some .int) 0 0 := hO
  unfold f_X7_countAheadOf at hf
  refine gj_iconst (v := 0) hO dX7_countAheadOf_0 (by decide) ?_
  refine gj_istore_n (lv2 := [(2, gj_i (0 : Int32)), (0, gj_r b0), (1, gj_i b1)]) hO dX7_countAheadOf_1 rfl (by decide) rfl ?_
  refine gj_iconst (v := 0) hO dX7_countAheadOf_2 (by decide) ?_
  refine gj_istore_n (lv2 := [(3, gj_i (0 : Int32)), (2, gj_i (0 : Int32)), (0, gj_r b0), (1, gj_i b1)]) hO dX7_countAheadOf_3 rfl (by decide) rfl ?_
  obtain ⟨z1, hz1, hf⟩ := gj_b hf
  have J1 : gj_G E X 5 (some (gj_i x)) σ 65 [(2, gj_i z1)] [] σ := by
    refine gj_iload_n hO 0 dX7_countAheadOf_65 rfl rfl ?_
    obtain rfl := Option.some.inj hf
    exact gj_iret hO dX7_countAheadOf_66
  refine gj_sub [2, 3, 1, 0] rfl ?_
  exact gj_loop (head := fun a1 => gj_G E X 5 (some (gj_i x)) σ 4 [(0, gj_r b0), (1, gj_i b1), (2, gj_i a1.1), (3, gj_i a1.2)] [] σ) (exit := fun z1 => gj_G E X 5 (some (gj_i x)) σ 65 [(2, gj_i z1)] [] σ) (fun a1 x hf K => sb_X7_countAheadOf_l4 hO g0 hf K) _ _ _ hz1 J1
set_option maxHeartbeats 4000000 in
set_option maxRecDepth 100000 in
theorem ca_X7_countAheadOf {E : gj_E} {X : gj_X} {own : String} {cc : ByteArray} {nL : Nat} {rt : Option FieldType} {fr lo : Nat} {r : Option gj_V} {τ : gj_S} {pc : Nat} {lv : List (Nat × gj_V)} {st : List gj_V} {σ : gj_S} (hO : gj_O E X own cc nL rt fr lo) {b0 : Nat} {b1 : Int32} (g0 : isY b0) {idx : Nat} {x : Int32} (hf : f_X7_countAheadOf b0 b1 σ = some x) (hl : Cond.methodLink own idx yX7_countAheadOf ∈ gj_gw) (hf1 : 1 ≤ fr) (hf2 : 24 ≤ lo) (hcat : ((st.map (gj_tv E.2.1)).map fun v => v.category).sum ≤ 8) (hd : decode cc pc = .ok (.invokevirtual idx, 3)) (k : gj_G E X nL r τ (pc + 3) lv ((gj_i x) :: st) σ) : gj_G E X nL r τ pc lv (gj_i b1 :: gj_r b0 :: st) σ :=
  gj_callV hO (o := b0) (vs := [gj_i b1]) (m_X7_countAheadOf g0 hf) hl wk_202 wk_203 wk_171 wk_204 (klY_0 g0) (kdY_0 g0) (by decide) (ci := 7) rfl (n := 1) (by decide +kernel) rfl hf1 hf2 rfl hcat hd k
def fb_X8_ranked_l2 (b1 : Int32) (σ : gj_S) (a1 : Int32) : Option ((Int32 ⊕ Unit) ⊕ Int32) := (if (σ.1 17 0) ≤ a1 then some (.inl (.inr ())) else ((f_X7_countAheadOf 16 a1 σ).bind fun x3 => (if x3 = b1 then some (.inl (.inl a1)) else some (.inr (a1 + 1)))))
def f_X8_ranked (b1 : Int32) (σ : gj_S) : Option Int32 := ((gj_lp (fb_X8_ranked_l2 b1 σ) 5000 (0 : Int32)).bind fun y1 => Sum.elim (fun q => some q) (fun z1 => some (-1 : Int32)) y1)
set_option maxHeartbeats 4000000 in
set_option maxRecDepth 100000 in
theorem sb_X8_ranked_l2 {E : gj_E} {X : gj_X} {r : Option gj_V} {τ : gj_S} (hO : gj_O E X RX8 cX8_ranked 3 (some .int) 1 24) {b1 : Int32} {σ : gj_S} {a1 : Int32} {x : (Int32 ⊕ Unit) ⊕ Int32} (hf : fb_X8_ranked_l2 b1 σ a1 = some x) (K : gj_K (fun y1 => gj_K (fun q => r = (some (gj_i q)) ∧ τ = σ) (fun z1 => gj_G E X 3 r τ 36 [] [] σ) y1) (fun a1 => gj_G E X 3 r τ 2 [(0, gj_r 0), (1, gj_i b1), (2, gj_i a1)] [] σ) x) : gj_G E X 3 r τ 2 [(0, gj_r 0), (1, gj_i b1), (2, gj_i a1)] [] σ := by
  unfold fb_X8_ranked_l2 at hf
  refine gj_iload_n hO 2 dX8_ranked_2 rfl rfl ?_
  refine gj_aload_n hO 0 dX8_ranked_3 rfl rfl ?_
  refine gt_X8_4 hO wk_185 dX8_ranked_4 ?_
  refine gt_X7_0 hO kd_16 kl_16 wk_186 dX8_ranked_7 ?_
  refine gt_X1_0 hO kd_17 kl_17 wk_196 dX8_ranked_10 ?_
  refine gj_icmp_ge (tgt := 36) hO dX8_ranked_13 (by decide) (fun h => ?_) (fun h => ?_)
  · replace hf := gj_t h hf
    obtain rfl := Option.some.inj hf
    refine gj_sub [] rfl ?_
    exact K
  · replace hf := gj_f h hf
    refine gj_aload_n hO 0 dX8_ranked_16 rfl rfl ?_
    refine gt_X8_4 hO wk_185 dX8_ranked_17 ?_
    refine gj_iload_n hO 2 dX8_ranked_20 rfl rfl ?_
    obtain ⟨x3, hc3, hf⟩ := gj_b hf
    refine ca_X7_countAheadOf hO isY_16 hc3 wk_205 (by decide) (by decide) (Nat.le_of_ble_eq_true rfl) dX8_ranked_21 ?_
    refine gj_iload_n hO 1 dX8_ranked_24 rfl rfl ?_
    refine gj_icmp_ne (tgt := 30) hO dX8_ranked_25 (by decide) (fun h => ?_) (fun h => ?_)
    · replace hf := gj_f h hf
      refine gj_iinc (v := (a1 + 1)) (lv2 := [(2, gj_i (a1 + 1)), (0, gj_r 0), (1, gj_i b1)]) hO 2 dX8_ranked_30 rfl rfl (by decide) rfl ?_
      refine gj_goto (tgt := 2) hO dX8_ranked_33 (by decide) ?_
      obtain rfl := Option.some.inj hf
      refine gj_sub [1, 2, 0] rfl ?_
      exact K
    · replace hf := gj_t h hf
      refine gj_iload_n hO 2 dX8_ranked_28 rfl rfl ?_
      obtain rfl := Option.some.inj hf
      obtain ⟨rfl, rfl⟩ := K
      exact gj_iret hO dX8_ranked_29
set_option maxHeartbeats 4000000 in
set_option maxRecDepth 100000 in
theorem m_X8_ranked {E : gj_E} {σ : gj_S} {b1 : Int32}  {x : Int32} (hf : f_X8_ranked b1 σ = some x) : gj_M E yX8_ranked cX8_ranked 3 (some .int) 1 24 [gj_r 0, gj_i b1] σ (some (gj_i x)) σ := by
  refine gj_body (lv := [(0, gj_r 0), (1, gj_i b1)]) (by decide +kernel) (Nat.le_of_ble_eq_true rfl) rfl (fun X hO => ?_)
  replace hO : gj_O E X RX8 cX8_ranked 3 (some .int) 1 24 := hO
  unfold f_X8_ranked at hf
  refine gj_iconst (v := 0) hO dX8_ranked_0 (by decide) ?_
  refine gj_istore_n (lv2 := [(2, gj_i (0 : Int32)), (0, gj_r 0), (1, gj_i b1)]) hO dX8_ranked_1 rfl (by decide) rfl ?_
  obtain ⟨y1, hz1, hf⟩ := gj_b hf
  have J1 : (fun y1 => gj_K (fun q => (some (gj_i x)) = (some (gj_i q)) ∧ σ = σ) (fun z1 => gj_G E X 3 (some (gj_i x)) σ 36 [] [] σ) y1) y1 := by
    rcases y1 with q | z1
    · have hf : some q = some x := hf
      obtain rfl := Option.some.inj hf
      exact ⟨rfl, rfl⟩
    · refine gj_iconst (v := (-1)) hO dX8_ranked_36 (by decide) ?_
      obtain rfl := Option.some.inj hf
      exact gj_iret hO dX8_ranked_37
  refine gj_sub [1, 2, 0] rfl ?_
  exact gj_loop (head := fun a1 => gj_G E X 3 (some (gj_i x)) σ 2 [(0, gj_r 0), (1, gj_i b1), (2, gj_i a1)] [] σ) (exit := fun y1 => gj_K (fun q => (some (gj_i x)) = (some (gj_i q)) ∧ σ = σ) (fun z1 => gj_G E X 3 (some (gj_i x)) σ 36 [] [] σ) y1) (fun a1 x hf K => sb_X8_ranked_l2 hO hf K) _ _ _ hz1 J1
set_option maxHeartbeats 4000000 in
set_option maxRecDepth 100000 in
theorem ca_X8_ranked {E : gj_E} {X : gj_X} {own : String} {cc : ByteArray} {nL : Nat} {rt : Option FieldType} {fr lo : Nat} {r : Option gj_V} {τ : gj_S} {pc : Nat} {lv : List (Nat × gj_V)} {st : List gj_V} {σ : gj_S} (hO : gj_O E X own cc nL rt fr lo) {b1 : Int32}  {idx : Nat} {x : Int32} (hf : f_X8_ranked b1 σ = some x) (hl : Cond.methodLink own idx yX8_ranked ∈ gj_gw) (hf1 : 2 ≤ fr) (hf2 : 46 ≤ lo) (hcat : ((st.map (gj_tv E.2.1)).map fun v => v.category).sum ≤ 8) (hd : decode cc pc = .ok (.invokevirtual idx, 3)) (k : gj_G E X nL r τ (pc + 3) lv ((gj_i x) :: st) σ) : gj_G E X nL r τ pc lv (gj_i b1 :: gj_r 0 :: st) σ :=
  gj_callV hO (o := 0) (vs := [gj_i b1]) (m_X8_ranked  hf) hl wk_206 wk_207 wk_4 wk_208 kl_0 kd_0 (by decide) (ci := 8) rfl (n := 1) (by decide +kernel) rfl hf1 hf2 rfl hcat hd k
def f_X7_gainOf (b0 : Nat) (b1 : Int32) (σ : gj_S) : Option Int32 := (if gj_in b1 24 then (if gj_in b1 24 then (if gj_in (σ.1 ((b0 + 1) + 2) (Int32.toNatClampNeg b1)) 9 then (if gj_in b1 24 then (if gj_in (σ.1 ((b0 + 1) + 3) (Int32.toNatClampNeg b1)) 9 then some (((σ.1 ((b0 + 1) + 4) (Int32.toNatClampNeg b1)) + (σ.1 ((b0 + 10) + 4) (Int32.toNatClampNeg (σ.1 ((b0 + 1) + 2) (Int32.toNatClampNeg b1))))) - (σ.1 ((b0 + 10) + 4) (Int32.toNatClampNeg (σ.1 ((b0 + 1) + 3) (Int32.toNatClampNeg b1))))) else none) else none) else none) else none) else none)
set_option maxHeartbeats 4000000 in
set_option maxRecDepth 100000 in
theorem m_X7_gainOf {E : gj_E} {σ : gj_S} {b0 : Nat} {b1 : Int32} (g0 : isY b0) {x : Int32} (hf : f_X7_gainOf b0 b1 σ = some x) : gj_M E yX7_gainOf cX7_gainOf 2 (some .int) 0 0 [gj_r b0, gj_i b1] σ (some (gj_i x)) σ := by
  refine gj_body (lv := [(0, gj_r b0), (1, gj_i b1)]) (by decide +kernel) (Nat.le_of_ble_eq_true rfl) rfl (fun X hO => ?_)
  replace hO : gj_O E X RX7 cX7_gainOf 2 (some .int) 0 0 := hO
  unfold f_X7_gainOf at hf
  refine gj_aload_n hO 0 dX7_gainOf_0 rfl rfl ?_
  refine gt_X7_0 hO (kdY_0 g0) (klY_0 g0) wk_167 dX7_gainOf_1 ?_
  refine gt_X1_8 hO (kdP_0 (isY_P g0)) (klP_0 (isY_P g0)) wk_209 dX7_gainOf_4 ?_
  refine gj_iload_n hO 1 dX7_gainOf_7 rfl rfl ?_
  obtain ⟨hb1, hf⟩ := gj_c hf
  refine gj_iald hO (klP_4 (isY_P g0)) (kdP_4 (isY_P g0)) hb1 dX7_gainOf_8 ?_
  refine gj_aload_n hO 0 dX7_gainOf_9 rfl rfl ?_
  refine gt_X7_1 hO (kdY_0 g0) (klY_0 g0) wk_166 dX7_gainOf_10 ?_
  refine gt_X5_3 hO (kdT_0 (isY_T g0)) (klT_0 (isY_T g0)) wk_201 dX7_gainOf_13 ?_
  refine gj_aload_n hO 0 dX7_gainOf_16 rfl rfl ?_
  refine gt_X7_0 hO (kdY_0 g0) (klY_0 g0) wk_167 dX7_gainOf_17 ?_
  refine gt_X1_6 hO (kdP_0 (isY_P g0)) (klP_0 (isY_P g0)) wk_210 dX7_gainOf_20 ?_
  refine gj_iload_n hO 1 dX7_gainOf_23 rfl rfl ?_
  obtain ⟨hb2, hf⟩ := gj_c hf
  refine gj_iald hO (klP_2 (isY_P g0)) (kdP_2 (isY_P g0)) hb2 dX7_gainOf_24 ?_
  obtain ⟨hb3, hf⟩ := gj_c hf
  refine gj_iald hO (klT_4 (isY_T g0)) (kdT_4 (isY_T g0)) hb3 dX7_gainOf_25 ?_
  refine gj_iadd hO dX7_gainOf_26 ?_
  refine gj_aload_n hO 0 dX7_gainOf_27 rfl rfl ?_
  refine gt_X7_1 hO (kdY_0 g0) (klY_0 g0) wk_166 dX7_gainOf_28 ?_
  refine gt_X5_3 hO (kdT_0 (isY_T g0)) (klT_0 (isY_T g0)) wk_201 dX7_gainOf_31 ?_
  refine gj_aload_n hO 0 dX7_gainOf_34 rfl rfl ?_
  refine gt_X7_0 hO (kdY_0 g0) (klY_0 g0) wk_167 dX7_gainOf_35 ?_
  refine gt_X1_7 hO (kdP_0 (isY_P g0)) (klP_0 (isY_P g0)) wk_211 dX7_gainOf_38 ?_
  refine gj_iload_n hO 1 dX7_gainOf_41 rfl rfl ?_
  obtain ⟨hb4, hf⟩ := gj_c hf
  refine gj_iald hO (klP_3 (isY_P g0)) (kdP_3 (isY_P g0)) hb4 dX7_gainOf_42 ?_
  obtain ⟨hb5, hf⟩ := gj_c hf
  refine gj_iald hO (klT_4 (isY_T g0)) (kdT_4 (isY_T g0)) hb5 dX7_gainOf_43 ?_
  refine gj_isub hO dX7_gainOf_44 ?_
  obtain rfl := Option.some.inj hf
  exact gj_iret hO dX7_gainOf_45
set_option maxHeartbeats 4000000 in
set_option maxRecDepth 100000 in
theorem ca_X7_gainOf {E : gj_E} {X : gj_X} {own : String} {cc : ByteArray} {nL : Nat} {rt : Option FieldType} {fr lo : Nat} {r : Option gj_V} {τ : gj_S} {pc : Nat} {lv : List (Nat × gj_V)} {st : List gj_V} {σ : gj_S} (hO : gj_O E X own cc nL rt fr lo) {b0 : Nat} {b1 : Int32} (g0 : isY b0) {idx : Nat} {x : Int32} (hf : f_X7_gainOf b0 b1 σ = some x) (hl : Cond.methodLink own idx yX7_gainOf ∈ gj_gw) (hf1 : 1 ≤ fr) (hf2 : 21 ≤ lo) (hcat : ((st.map (gj_tv E.2.1)).map fun v => v.category).sum ≤ 8) (hd : decode cc pc = .ok (.invokevirtual idx, 3)) (k : gj_G E X nL r τ (pc + 3) lv ((gj_i x) :: st) σ) : gj_G E X nL r τ pc lv (gj_i b1 :: gj_r b0 :: st) σ :=
  gj_callV hO (o := b0) (vs := [gj_i b1]) (m_X7_gainOf g0 hf) hl wk_212 wk_213 wk_171 wk_214 (klY_0 g0) (kdY_0 g0) (by decide) (ci := 7) rfl (n := 1) (by decide +kernel) rfl hf1 hf2 rfl hcat hd k
def f_X7_goodness (b0 : Nat) (b1 : Int32) (σ : gj_S) : Option Int32 := ((f_X7_gainOf b0 b1 σ).bind fun x1 => (if gj_in b1 24 then (if (σ.1 ((b0 + 1) + 7) (Int32.toNatClampNeg b1)) = (1 : Int32) then (if 0 ≤ x1 then (if gj_in b1 24 then (if (σ.1 ((b0 + 1) + 7) (Int32.toNatClampNeg b1)) = (2 : Int32) then (if x1 ≤ 0 then some (0 : Int32) else some x1) else some (0 : Int32)) else none) else some (0 - x1)) else (if gj_in b1 24 then (if (σ.1 ((b0 + 1) + 7) (Int32.toNatClampNeg b1)) = (2 : Int32) then (if x1 ≤ 0 then some (0 : Int32) else some x1) else some (0 : Int32)) else none)) else none))
set_option maxHeartbeats 4000000 in
set_option maxRecDepth 100000 in
theorem m_X7_goodness {E : gj_E} {σ : gj_S} {b0 : Nat} {b1 : Int32} (g0 : isY b0) {x : Int32} (hf : f_X7_goodness b0 b1 σ = some x) : gj_M E yX7_goodness cX7_goodness 3 (some .int) 1 21 [gj_r b0, gj_i b1] σ (some (gj_i x)) σ := by
  refine gj_body (lv := [(0, gj_r b0), (1, gj_i b1)]) (by decide +kernel) (Nat.le_of_ble_eq_true rfl) rfl (fun X hO => ?_)
  replace hO : gj_O E X RX7 cX7_goodness 3 (some .int) 1 21 := hO
  unfold f_X7_goodness at hf
  refine gj_aload_n hO 0 dX7_goodness_0 rfl rfl ?_
  refine gj_iload_n hO 1 dX7_goodness_1 rfl rfl ?_
  obtain ⟨x1, hc1, hf⟩ := gj_b hf
  refine ca_X7_gainOf hO g0 hc1 wk_215 (by decide) (by decide) (Nat.le_of_ble_eq_true rfl) dX7_goodness_2 ?_
  refine gj_istore_n (lv2 := [(2, gj_i x1), (0, gj_r b0), (1, gj_i b1)]) hO dX7_goodness_5 rfl (by decide) rfl ?_
  refine gj_aload_n hO 1 dX7_goodness_6 rfl rfl ?_
  refine gt_X7_0 hO (kdY_0 g0) (klY_0 g0) wk_167 dX7_goodness_7 ?_
  refine gt_X1_11 hO (kdP_0 (isY_P g0)) (klP_0 (isY_P g0)) wk_216 dX7_goodness_10 ?_
  refine gj_iload_n hO 2 dX7_goodness_13 rfl rfl ?_
  obtain ⟨hb2, hf⟩ := gj_c hf
  refine gj_iald hO (klP_7 (isY_P g0)) (kdP_7 (isY_P g0)) hb2 dX7_goodness_14 ?_
  refine gj_iconst (v := 1) hO dX7_goodness_15 (by decide) ?_
  refine gj_icmp_ne (tgt := 26) hO dX7_goodness_16 (by decide) (fun h => ?_) (fun h => ?_)
  · replace hf := gj_f h hf
    refine gj_aload_n hO 1 dX7_goodness_26 rfl rfl ?_
    refine gt_X7_0 hO (kdY_0 g0) (klY_0 g0) wk_167 dX7_goodness_27 ?_
    refine gt_X1_11 hO (kdP_0 (isY_P g0)) (klP_0 (isY_P g0)) wk_216 dX7_goodness_30 ?_
    refine gj_iload_n hO 2 dX7_goodness_33 rfl rfl ?_
    obtain ⟨hb3, hf⟩ := gj_c hf
    refine gj_iald hO (klP_7 (isY_P g0)) (kdP_7 (isY_P g0)) hb3 dX7_goodness_34 ?_
    refine gj_iconst (v := 2) hO dX7_goodness_35 (by decide) ?_
    refine gj_icmp_ne (tgt := 47) hO dX7_goodness_36 (by decide) (fun h => ?_) (fun h => ?_)
    · replace hf := gj_f h hf
      refine gj_iconst (v := 0) hO dX7_goodness_47 (by decide) ?_
      obtain rfl := Option.some.inj hf
      exact gj_iret hO dX7_goodness_48
    · replace hf := gj_t h hf
      refine gj_iload_n hO 0 dX7_goodness_39 rfl rfl ?_
      refine gj_if_le (tgt := 47) hO dX7_goodness_40 (by decide) (fun h => ?_) (fun h => ?_)
      · replace hf := gj_t h hf
        refine gj_iconst (v := 0) hO dX7_goodness_47 (by decide) ?_
        obtain rfl := Option.some.inj hf
        exact gj_iret hO dX7_goodness_48
      · replace hf := gj_f h hf
        refine gj_iload_n hO 0 dX7_goodness_43 rfl rfl ?_
        refine gj_goto (tgt := 48) hO dX7_goodness_44 (by decide) ?_
        obtain rfl := Option.some.inj hf
        exact gj_iret hO dX7_goodness_48
  · replace hf := gj_t h hf
    refine gj_iload_n hO 0 dX7_goodness_19 rfl rfl ?_
    refine gj_if_ge (tgt := 26) hO dX7_goodness_20 (by decide) (fun h => ?_) (fun h => ?_)
    · replace hf := gj_t h hf
      refine gj_aload_n hO 1 dX7_goodness_26 rfl rfl ?_
      refine gt_X7_0 hO (kdY_0 g0) (klY_0 g0) wk_167 dX7_goodness_27 ?_
      refine gt_X1_11 hO (kdP_0 (isY_P g0)) (klP_0 (isY_P g0)) wk_216 dX7_goodness_30 ?_
      refine gj_iload_n hO 2 dX7_goodness_33 rfl rfl ?_
      obtain ⟨hb4, hf⟩ := gj_c hf
      refine gj_iald hO (klP_7 (isY_P g0)) (kdP_7 (isY_P g0)) hb4 dX7_goodness_34 ?_
      refine gj_iconst (v := 2) hO dX7_goodness_35 (by decide) ?_
      refine gj_icmp_ne (tgt := 47) hO dX7_goodness_36 (by decide) (fun h => ?_) (fun h => ?_)
      · replace hf := gj_f h hf
        refine gj_iconst (v := 0) hO dX7_goodness_47 (by decide) ?_
        obtain rfl := Option.some.inj hf
        exact gj_iret hO dX7_goodness_48
      · replace hf := gj_t h hf
        refine gj_iload_n hO 0 dX7_goodness_39 rfl rfl ?_
        refine gj_if_le (tgt := 47) hO dX7_goodness_40 (by decide) (fun h => ?_) (fun h => ?_)
        · replace hf := gj_t h hf
          refine gj_iconst (v := 0) hO dX7_goodness_47 (by decide) ?_
          obtain rfl := Option.some.inj hf
          exact gj_iret hO dX7_goodness_48
        · replace hf := gj_f h hf
          refine gj_iload_n hO 0 dX7_goodness_43 rfl rfl ?_
          refine gj_goto (tgt := 48) hO dX7_goodness_44 (by decide) ?_
          obtain rfl := Option.some.inj hf
          exact gj_iret hO dX7_goodness_48
    · replace hf := gj_f h hf
      refine gj_iload_n hO 0 dX7_goodness_23 rfl rfl ?_
      refine gj_ineg hO dX7_goodness_24 ?_
      obtain rfl := Option.some.inj hf
      exact gj_iret hO dX7_goodness_25
set_option maxHeartbeats 4000000 in
set_option maxRecDepth 100000 in
theorem ca_X7_goodness {E : gj_E} {X : gj_X} {own : String} {cc : ByteArray} {nL : Nat} {rt : Option FieldType} {fr lo : Nat} {r : Option gj_V} {τ : gj_S} {pc : Nat} {lv : List (Nat × gj_V)} {st : List gj_V} {σ : gj_S} (hO : gj_O E X own cc nL rt fr lo) {b0 : Nat} {b1 : Int32} (g0 : isY b0) {idx : Nat} {x : Int32} (hf : f_X7_goodness b0 b1 σ = some x) (hl : Cond.methodLink own idx yX7_goodness ∈ gj_gw) (hf1 : 2 ≤ fr) (hf2 : 43 ≤ lo) (hcat : ((st.map (gj_tv E.2.1)).map fun v => v.category).sum ≤ 8) (hd : decode cc pc = .ok (.invokevirtual idx, 3)) (k : gj_G E X nL r τ (pc + 3) lv ((gj_i x) :: st) σ) : gj_G E X nL r τ pc lv (gj_i b1 :: gj_r b0 :: st) σ :=
  gj_callV hO (o := b0) (vs := [gj_i b1]) (m_X7_goodness g0 hf) hl wk_217 wk_218 wk_171 wk_219 (klY_0 g0) (kdY_0 g0) (by decide) (ci := 7) rfl (n := 1) (by decide +kernel) rfl hf1 hf2 rfl hcat hd k
def fb_X7_countGood_l4 (b0 : Nat) (σ : gj_S) (a1 : (Int32 × Int32)) : Option (Int32 ⊕ (Int32 × Int32)) := ((f_X1_countWays (b0 + 1) σ).bind fun x3 => (if x3 ≤ a1.2 then some (.inl a1.1) else ((f_X7_goodness b0 a1.2 σ).bind fun x4 => (if x4 ≤ 0 then some (.inr ((a1.1 + (0 : Int32)), (a1.2 + 1))) else some (.inr ((a1.1 + (1 : Int32)), (a1.2 + 1)))))))
def f_X7_countGood (b0 : Nat) (σ : gj_S) : Option Int32 := ((gj_lp (fb_X7_countGood_l4 b0 σ) 5000 ((0 : Int32), (0 : Int32))).bind fun z1 => some z1)
set_option maxHeartbeats 4000000 in
set_option maxRecDepth 100000 in
theorem sb_X7_countGood_l4 {E : gj_E} {X : gj_X} {r : Option gj_V} {τ : gj_S} (hO : gj_O E X RX7 cX7_countGood 3 (some .int) 2 43) {b0 : Nat} {σ : gj_S} (g0 : isY b0) {a1 : (Int32 × Int32)} {x : Int32 ⊕ (Int32 × Int32)} (hf : fb_X7_countGood_l4 b0 σ a1 = some x) (K : gj_K (fun z1 => gj_G E X 3 r τ 37 [(1, gj_i z1)] [] σ) (fun a1 => gj_G E X 3 r τ 4 [(0, gj_r b0), (1, gj_i a1.1), (2, gj_i a1.2)] [] σ) x) : gj_G E X 3 r τ 4 [(0, gj_r b0), (1, gj_i a1.1), (2, gj_i a1.2)] [] σ := by
  unfold fb_X7_countGood_l4 at hf
  refine gj_iload_n hO 2 dX7_countGood_4 rfl rfl ?_
  refine gj_aload_n hO 0 dX7_countGood_5 rfl rfl ?_
  refine gt_X7_0 hO (kdY_0 g0) (klY_0 g0) wk_167 dX7_countGood_6 ?_
  obtain ⟨x3, hc3, hf⟩ := gj_b hf
  refine ca_X1_countWays hO (isY_P g0) hc3 wk_220 (by decide) (by decide) (Nat.le_of_ble_eq_true rfl) dX7_countGood_9 ?_
  refine gj_icmp_ge (tgt := 37) hO dX7_countGood_12 (by decide) (fun h => ?_) (fun h => ?_)
  · replace hf := gj_t h hf
    obtain rfl := Option.some.inj hf
    refine gj_sub [1] rfl ?_
    exact K
  · replace hf := gj_f h hf
    refine gj_iload_n hO 1 dX7_countGood_15 rfl rfl ?_
    refine gj_aload_n hO 0 dX7_countGood_16 rfl rfl ?_
    refine gj_iload_n hO 2 dX7_countGood_17 rfl rfl ?_
    obtain ⟨x4, hc4, hf⟩ := gj_b hf
    refine ca_X7_goodness hO g0 hc4 wk_221 (by decide) (by decide) (Nat.le_of_ble_eq_true rfl) dX7_countGood_18 ?_
    refine gj_if_le (tgt := 28) hO dX7_countGood_21 (by decide) (fun h => ?_) (fun h => ?_)
    · replace hf := gj_t h hf
      refine gj_iconst (v := 0) hO dX7_countGood_28 (by decide) ?_
      refine gj_iadd hO dX7_countGood_29 ?_
      refine gj_istore_n (lv2 := [(1, gj_i (a1.1 + (0 : Int32))), (0, gj_r b0), (2, gj_i a1.2)]) hO dX7_countGood_30 rfl (by decide) rfl ?_
      refine gj_iinc (v := (a1.2 + 1)) (lv2 := [(2, gj_i (a1.2 + 1)), (1, gj_i (a1.1 + (0 : Int32))), (0, gj_r b0)]) hO 2 dX7_countGood_31 rfl rfl (by decide) rfl ?_
      refine gj_goto (tgt := 4) hO dX7_countGood_34 (by decide) ?_
      obtain rfl := Option.some.inj hf
      refine gj_sub [2, 1, 0] rfl ?_
      exact K
    · replace hf := gj_f h hf
      refine gj_iconst (v := 1) hO dX7_countGood_24 (by decide) ?_
      refine gj_goto (tgt := 29) hO dX7_countGood_25 (by decide) ?_
      refine gj_iadd hO dX7_countGood_29 ?_
      refine gj_istore_n (lv2 := [(1, gj_i (a1.1 + (1 : Int32))), (0, gj_r b0), (2, gj_i a1.2)]) hO dX7_countGood_30 rfl (by decide) rfl ?_
      refine gj_iinc (v := (a1.2 + 1)) (lv2 := [(2, gj_i (a1.2 + 1)), (1, gj_i (a1.1 + (1 : Int32))), (0, gj_r b0)]) hO 2 dX7_countGood_31 rfl rfl (by decide) rfl ?_
      refine gj_goto (tgt := 4) hO dX7_countGood_34 (by decide) ?_
      obtain rfl := Option.some.inj hf
      refine gj_sub [2, 1, 0] rfl ?_
      exact K
set_option maxHeartbeats 4000000 in
set_option maxRecDepth 100000 in
theorem m_X7_countGood {E : gj_E} {σ : gj_S} {b0 : Nat} (g0 : isY b0) {x : Int32} (hf : f_X7_countGood b0 σ = some x) : gj_M E yX7_countGood cX7_countGood 3 (some .int) 2 43 [gj_r b0] σ (some (gj_i x)) σ := by
  refine gj_body (lv := [(0, gj_r b0)]) (by decide +kernel) (Nat.le_of_ble_eq_true rfl) rfl (fun X hO => ?_)
  replace hO : gj_O E X RX7 cX7_countGood 3 (some .int) 2 43 := hO
  unfold f_X7_countGood at hf
  refine gj_iconst (v := 0) hO dX7_countGood_0 (by decide) ?_
  refine gj_istore_n (lv2 := [(1, gj_i (0 : Int32)), (0, gj_r b0)]) hO dX7_countGood_1 rfl (by decide) rfl ?_
  refine gj_iconst (v := 0) hO dX7_countGood_2 (by decide) ?_
  refine gj_istore_n (lv2 := [(2, gj_i (0 : Int32)), (1, gj_i (0 : Int32)), (0, gj_r b0)]) hO dX7_countGood_3 rfl (by decide) rfl ?_
  obtain ⟨z1, hz1, hf⟩ := gj_b hf
  have J1 : gj_G E X 3 (some (gj_i x)) σ 37 [(1, gj_i z1)] [] σ := by
    refine gj_iload_n hO 0 dX7_countGood_37 rfl rfl ?_
    obtain rfl := Option.some.inj hf
    exact gj_iret hO dX7_countGood_38
  refine gj_sub [2, 1, 0] rfl ?_
  exact gj_loop (head := fun a1 => gj_G E X 3 (some (gj_i x)) σ 4 [(0, gj_r b0), (1, gj_i a1.1), (2, gj_i a1.2)] [] σ) (exit := fun z1 => gj_G E X 3 (some (gj_i x)) σ 37 [(1, gj_i z1)] [] σ) (fun a1 x hf K => sb_X7_countGood_l4 hO g0 hf K) _ _ _ hz1 J1
set_option maxHeartbeats 4000000 in
set_option maxRecDepth 100000 in
theorem ca_X7_countGood {E : gj_E} {X : gj_X} {own : String} {cc : ByteArray} {nL : Nat} {rt : Option FieldType} {fr lo : Nat} {r : Option gj_V} {τ : gj_S} {pc : Nat} {lv : List (Nat × gj_V)} {st : List gj_V} {σ : gj_S} (hO : gj_O E X own cc nL rt fr lo) {b0 : Nat} (g0 : isY b0) {idx : Nat} {x : Int32} (hf : f_X7_countGood b0 σ = some x) (hl : Cond.methodLink own idx yX7_countGood ∈ gj_gw) (hf1 : 3 ≤ fr) (hf2 : 65 ≤ lo) (hcat : ((st.map (gj_tv E.2.1)).map fun v => v.category).sum ≤ 8) (hd : decode cc pc = .ok (.invokevirtual idx, 3)) (k : gj_G E X nL r τ (pc + 3) lv ((gj_i x) :: st) σ) : gj_G E X nL r τ pc lv (gj_r b0 :: st) σ :=
  gj_callV hO (o := b0) (vs := []) (m_X7_countGood g0 hf) hl wk_222 wk_223 wk_171 wk_224 (klY_0 g0) (kdY_0 g0) (by decide) (ci := 7) rfl (n := 0) (by decide +kernel) rfl hf1 hf2 rfl hcat hd k
def f_X8_good  (σ : gj_S) : Option Int32 := ((f_X7_countGood 16 σ).bind fun x1 => some x1)
set_option maxHeartbeats 4000000 in
set_option maxRecDepth 100000 in
theorem m_X8_good {E : gj_E} {σ : gj_S}   {x : Int32} (hf : f_X8_good  σ = some x) : gj_M E yX8_good cX8_good 1 (some .int) 3 65 [gj_r 0] σ (some (gj_i x)) σ := by
  refine gj_body (lv := [(0, gj_r 0)]) (by decide +kernel) (Nat.le_of_ble_eq_true rfl) rfl (fun X hO => ?_)
  replace hO : gj_O E X RX8 cX8_good 1 (some .int) 3 65 := hO
  unfold f_X8_good at hf
  refine gj_aload_n hO 0 dX8_good_0 rfl rfl ?_
  refine gt_X8_4 hO wk_185 dX8_good_1 ?_
  obtain ⟨x1, hc1, hf⟩ := gj_b hf
  refine ca_X7_countGood hO isY_16 hc1 wk_225 (by decide) (by decide) (Nat.le_of_ble_eq_true rfl) dX8_good_4 ?_
  obtain rfl := Option.some.inj hf
  exact gj_iret hO dX8_good_7
set_option maxHeartbeats 4000000 in
set_option maxRecDepth 100000 in
theorem ca_X8_good {E : gj_E} {X : gj_X} {own : String} {cc : ByteArray} {nL : Nat} {rt : Option FieldType} {fr lo : Nat} {r : Option gj_V} {τ : gj_S} {pc : Nat} {lv : List (Nat × gj_V)} {st : List gj_V} {σ : gj_S} (hO : gj_O E X own cc nL rt fr lo)   {idx : Nat} {x : Int32} (hf : f_X8_good  σ = some x) (hl : Cond.methodLink own idx yX8_good ∈ gj_gw) (hf1 : 4 ≤ fr) (hf2 : 85 ≤ lo) (hcat : ((st.map (gj_tv E.2.1)).map fun v => v.category).sum ≤ 8) (hd : decode cc pc = .ok (.invokevirtual idx, 3)) (k : gj_G E X nL r τ (pc + 3) lv ((gj_i x) :: st) σ) : gj_G E X nL r τ pc lv (gj_r 0 :: st) σ :=
  gj_callV hO (o := 0) (vs := []) (m_X8_good  hf) hl wk_226 wk_227 wk_4 wk_228 kl_0 kd_0 (by decide) (ci := 8) rfl (n := 0) (by decide +kernel) rfl hf1 hf2 rfl hcat hd k
def fb_X7_findEntering_l27 (b0 : Nat) (b1 : Int32) (σ : gj_S) (a2 : (Int32 × Int32 × Int32 × Int32 × Int32)) : Option ((Int32 × Int32) ⊕ (Int32 × Int32 × Int32 × Int32 × Int32)) := (if b1 ≤ a2.2.2.2.2 then some (.inl (a2.1, a2.2.1)) else (if a2.2.1 = (-1 : Int32) then ((if (σ.1 (b0 + 1) 2) ≤ a2.2.2.2.1 then some (1 : Int32) else some (a2.2.2.2.1 + (1 : Int32)) : Option Int32).bind fun z4 => ((f_X7_goodness b0 a2.1 σ).bind fun x5 => ((if x5 ≤ a2.2.2.1 then some (a2.2.1, a2.2.2.1) else some (a2.1, x5) : Option (Int32 × Int32)).bind fun z6 => (if b1 ≤ (a2.1 + (1 : Int32)) then some (.inr ((0 : Int32), z6.1, z6.2, z4, (a2.2.2.2.2 + 1))) else some (.inr ((a2.1 + (1 : Int32)), z6.1, z6.2, z4, (a2.2.2.2.2 + 1))))))) else (if (σ.1 (b0 + 1) 2) ≤ a2.2.2.2.1 then some (.inl (a2.1, a2.2.1)) else ((if (σ.1 (b0 + 1) 2) ≤ a2.2.2.2.1 then some (1 : Int32) else some (a2.2.2.2.1 + (1 : Int32)) : Option Int32).bind fun z7 => ((f_X7_goodness b0 a2.1 σ).bind fun x8 => ((if x8 ≤ a2.2.2.1 then some (a2.2.1, a2.2.2.1) else some (a2.1, x8) : Option (Int32 × Int32)).bind fun z9 => (if b1 ≤ (a2.1 + (1 : Int32)) then some (.inr ((0 : Int32), z9.1, z9.2, z7, (a2.2.2.2.2 + 1))) else some (.inr ((a2.1 + (1 : Int32)), z9.1, z9.2, z7, (a2.2.2.2.2 + 1))))))))))
def f_X7_findEntering (b0 : Nat) (σ : gj_S) : Option (Int32 × gj_S) := ((f_X1_countWays (b0 + 1) σ).bind fun x1 => ((gj_lp (fb_X7_findEntering_l27 b0 x1 σ) 5000 ((σ.1 (b0 + 1) 3), (-1 : Int32), (0 : Int32), (0 : Int32), (0 : Int32))).bind fun z2 => some (z2.2, (gj_sI σ b0 (upd (σ.1 b0) 3 z2.1)))))
set_option maxHeartbeats 4000000 in
set_option maxRecDepth 100000 in
theorem sb_X7_findEntering_l27 {E : gj_E} {X : gj_X} {r : Option gj_V} {τ : gj_S} (hO : gj_O E X RX7 cX7_findEntering 8 (some .int) 2 43) {b0 : Nat} {b1 : Int32} {σ : gj_S} (g0 : isY b0) {a2 : (Int32 × Int32 × Int32 × Int32 × Int32)} {x : (Int32 × Int32) ⊕ (Int32 × Int32 × Int32 × Int32 × Int32)} (hf : fb_X7_findEntering_l27 b0 b1 σ a2 = some x) (K : gj_K (fun z2 => gj_G E X 8 r τ 113 [(0, gj_r b0), (2, gj_i z2.1), (3, gj_i z2.2)] [] σ) (fun a2 => gj_G E X 8 r τ 27 [(0, gj_r b0), (1, gj_i b1), (2, gj_i a2.1), (3, gj_i a2.2.1), (4, gj_i a2.2.2.1), (5, gj_i a2.2.2.2.1), (6, gj_i a2.2.2.2.2)] [] σ) x) : gj_G E X 8 r τ 27 [(0, gj_r b0), (1, gj_i b1), (2, gj_i a2.1), (3, gj_i a2.2.1), (4, gj_i a2.2.2.1), (5, gj_i a2.2.2.2.1), (6, gj_i a2.2.2.2.2)] [] σ := by
  unfold fb_X7_findEntering_l27 at hf
  refine gj_iload hO 6 dX7_findEntering_27 rfl ?_
  refine gj_iload_n hO 1 dX7_findEntering_29 rfl rfl ?_
  refine gj_icmp_ge (tgt := 113) hO dX7_findEntering_30 (by decide) (fun h => ?_) (fun h => ?_)
  · replace hf := gj_t h hf
    obtain rfl := Option.some.inj hf
    refine gj_sub [0, 2, 3] rfl ?_
    exact K
  · replace hf := gj_f h hf
    refine gj_iload_n hO 3 dX7_findEntering_33 rfl rfl ?_
    refine gj_iconst (v := (-1)) hO dX7_findEntering_34 (by decide) ?_
    refine gj_icmp_eq (tgt := 50) hO dX7_findEntering_35 (by decide) (fun h => ?_) (fun h => ?_)
    · replace hf := gj_t h hf
      refine gj_iload hO 5 dX7_findEntering_50 rfl ?_
      refine gj_aload_n hO 0 dX7_findEntering_52 rfl rfl ?_
      refine gt_X7_0 hO (kdY_0 g0) (klY_0 g0) wk_167 dX7_findEntering_53 ?_
      refine gt_X1_2 hO (kdP_0 (isY_P g0)) (klP_0 (isY_P g0)) wk_230 dX7_findEntering_56 ?_
      obtain ⟨z4, hz4, hf⟩ := gj_b hf
      have J4 : gj_G E X 8 r τ 70 [(0, gj_r b0), (1, gj_i b1), (2, gj_i a2.1), (3, gj_i a2.2.1), (4, gj_i a2.2.2.1), (6, gj_i a2.2.2.2.2)] [gj_i z4] σ := by
        refine gj_istore (lv2 := [(5, gj_i z4), (0, gj_r b0), (1, gj_i b1), (2, gj_i a2.1), (3, gj_i a2.2.1), (4, gj_i a2.2.2.1), (6, gj_i a2.2.2.2.2)]) hO dX7_findEntering_70 (by decide) rfl ?_
        refine gj_aload_n hO 1 dX7_findEntering_72 rfl rfl ?_
        refine gj_iload_n hO 3 dX7_findEntering_73 rfl rfl ?_
        obtain ⟨x5, hc5, hf⟩ := gj_b hf
        refine ca_X7_goodness hO g0 hc5 wk_221 (by decide) (by decide) (Nat.le_of_ble_eq_true rfl) dX7_findEntering_74 ?_
        refine gj_istore (lv2 := [(7, gj_i x5), (5, gj_i z4), (0, gj_r b0), (1, gj_i b1), (2, gj_i a2.1), (3, gj_i a2.2.1), (4, gj_i a2.2.2.1), (6, gj_i a2.2.2.2.2)]) hO dX7_findEntering_77 (by decide) rfl ?_
        refine gj_iload hO 0 dX7_findEntering_79 rfl ?_
        refine gj_iload hO 6 dX7_findEntering_81 rfl ?_
        obtain ⟨z6, hz6, hf⟩ := gj_b hf
        have J6 : gj_G E X 8 r τ 92 [(0, gj_r b0), (1, gj_i b1), (2, gj_i a2.1), (3, gj_i z6.1), (4, gj_i z6.2), (5, gj_i z4), (6, gj_i a2.2.2.2.2)] [] σ := by
          refine gj_iload_n hO 2 dX7_findEntering_92 rfl rfl ?_
          refine gj_iconst (v := 1) hO dX7_findEntering_93 (by decide) ?_
          refine gj_iadd hO dX7_findEntering_94 ?_
          refine gj_iload_n hO 1 dX7_findEntering_95 rfl rfl ?_
          refine gj_icmp_ge (tgt := 105) hO dX7_findEntering_96 (by decide) (fun h => ?_) (fun h => ?_)
          · replace hf := gj_t h hf
            refine gj_iconst (v := 0) hO dX7_findEntering_105 (by decide) ?_
            refine gj_istore_n (lv2 := [(2, gj_i (0 : Int32)), (0, gj_r b0), (1, gj_i b1), (3, gj_i z6.1), (4, gj_i z6.2), (5, gj_i z4), (6, gj_i a2.2.2.2.2)]) hO dX7_findEntering_106 rfl (by decide) rfl ?_
            refine gj_iinc (v := (a2.2.2.2.2 + 1)) (lv2 := [(6, gj_i (a2.2.2.2.2 + 1)), (2, gj_i (0 : Int32)), (0, gj_r b0), (1, gj_i b1), (3, gj_i z6.1), (4, gj_i z6.2), (5, gj_i z4)]) hO 6 dX7_findEntering_107 rfl rfl (by decide) rfl ?_
            refine gj_goto (tgt := 27) hO dX7_findEntering_110 (by decide) ?_
            obtain rfl := Option.some.inj hf
            refine gj_sub [2, 3, 1, 4, 5, 6, 0] rfl ?_
            exact K
          · replace hf := gj_f h hf
            refine gj_iload_n hO 2 dX7_findEntering_99 rfl rfl ?_
            refine gj_iconst (v := 1) hO dX7_findEntering_100 (by decide) ?_
            refine gj_iadd hO dX7_findEntering_101 ?_
            refine gj_goto (tgt := 106) hO dX7_findEntering_102 (by decide) ?_
            refine gj_istore_n (lv2 := [(2, gj_i (a2.1 + (1 : Int32))), (0, gj_r b0), (1, gj_i b1), (3, gj_i z6.1), (4, gj_i z6.2), (5, gj_i z4), (6, gj_i a2.2.2.2.2)]) hO dX7_findEntering_106 rfl (by decide) rfl ?_
            refine gj_iinc (v := (a2.2.2.2.2 + 1)) (lv2 := [(6, gj_i (a2.2.2.2.2 + 1)), (2, gj_i (a2.1 + (1 : Int32))), (0, gj_r b0), (1, gj_i b1), (3, gj_i z6.1), (4, gj_i z6.2), (5, gj_i z4)]) hO 6 dX7_findEntering_107 rfl rfl (by decide) rfl ?_
            refine gj_goto (tgt := 27) hO dX7_findEntering_110 (by decide) ?_
            obtain rfl := Option.some.inj hf
            refine gj_sub [2, 3, 1, 4, 5, 6, 0] rfl ?_
            exact K
        refine gj_icmp_le (tgt := 92) hO dX7_findEntering_83 (by decide) (fun h => ?_) (fun h => ?_)
        · replace hz6 := gj_t h hz6
          obtain rfl := Option.some.inj hz6
          refine gj_sub [2, 3, 4, 5, 6, 1, 7] rfl ?_
          exact J6
        · replace hz6 := gj_f h hz6
          refine gj_iload_n hO 4 dX7_findEntering_86 rfl rfl ?_
          refine gj_istore_n (lv2 := [(3, gj_i a2.1), (7, gj_i x5), (5, gj_i z4), (0, gj_r b0), (1, gj_i b1), (2, gj_i a2.1), (4, gj_i a2.2.2.1), (6, gj_i a2.2.2.2.2)]) hO dX7_findEntering_87 rfl (by decide) rfl ?_
          refine gj_iload hO 1 dX7_findEntering_88 rfl ?_
          refine gj_istore (lv2 := [(4, gj_i x5), (3, gj_i a2.1), (7, gj_i x5), (5, gj_i z4), (0, gj_r b0), (1, gj_i b1), (2, gj_i a2.1), (6, gj_i a2.2.2.2.2)]) hO dX7_findEntering_90 (by decide) rfl ?_
          obtain rfl := Option.some.inj hz6
          refine gj_sub [4, 5, 6, 1, 0, 3, 7] rfl ?_
          exact J6
      refine gj_icmp_ge (tgt := 69) hO dX7_findEntering_59 (by decide) (fun h => ?_) (fun h => ?_)
      · replace hz4 := gj_t h hz4
        refine gj_iconst (v := 1) hO dX7_findEntering_69 (by decide) ?_
        obtain rfl := Option.some.inj hz4
        refine gj_sub [0, 1, 2, 3, 4, 6] rfl ?_
        exact J4
      · replace hz4 := gj_f h hz4
        refine gj_iload hO 5 dX7_findEntering_62 rfl ?_
        refine gj_iconst (v := 1) hO dX7_findEntering_64 (by decide) ?_
        refine gj_iadd hO dX7_findEntering_65 ?_
        refine gj_goto (tgt := 70) hO dX7_findEntering_66 (by decide) ?_
        obtain rfl := Option.some.inj hz4
        refine gj_sub [0, 1, 2, 3, 4, 6] rfl ?_
        exact J4
    · replace hf := gj_f h hf
      refine gj_iload hO 5 dX7_findEntering_38 rfl ?_
      refine gj_aload_n hO 0 dX7_findEntering_40 rfl rfl ?_
      refine gt_X7_0 hO (kdY_0 g0) (klY_0 g0) wk_167 dX7_findEntering_41 ?_
      refine gt_X1_2 hO (kdP_0 (isY_P g0)) (klP_0 (isY_P g0)) wk_230 dX7_findEntering_44 ?_
      refine gj_icmp_ge (tgt := 113) hO dX7_findEntering_47 (by decide) (fun h => ?_) (fun h => ?_)
      · replace hf := gj_t h hf
        obtain rfl := Option.some.inj hf
        refine gj_sub [0, 2, 3] rfl ?_
        exact K
      · replace hf := gj_f h hf
        refine gj_iload hO 5 dX7_findEntering_50 rfl ?_
        refine gj_aload_n hO 0 dX7_findEntering_52 rfl rfl ?_
        refine gt_X7_0 hO (kdY_0 g0) (klY_0 g0) wk_167 dX7_findEntering_53 ?_
        refine gt_X1_2 hO (kdP_0 (isY_P g0)) (klP_0 (isY_P g0)) wk_230 dX7_findEntering_56 ?_
        obtain ⟨z7, hz7, hf⟩ := gj_b hf
        have J7 : gj_G E X 8 r τ 70 [(0, gj_r b0), (1, gj_i b1), (2, gj_i a2.1), (3, gj_i a2.2.1), (4, gj_i a2.2.2.1), (6, gj_i a2.2.2.2.2)] [gj_i z7] σ := by
          refine gj_istore (lv2 := [(5, gj_i z7), (0, gj_r b0), (1, gj_i b1), (2, gj_i a2.1), (3, gj_i a2.2.1), (4, gj_i a2.2.2.1), (6, gj_i a2.2.2.2.2)]) hO dX7_findEntering_70 (by decide) rfl ?_
          refine gj_aload_n hO 1 dX7_findEntering_72 rfl rfl ?_
          refine gj_iload_n hO 3 dX7_findEntering_73 rfl rfl ?_
          obtain ⟨x8, hc8, hf⟩ := gj_b hf
          refine ca_X7_goodness hO g0 hc8 wk_221 (by decide) (by decide) (Nat.le_of_ble_eq_true rfl) dX7_findEntering_74 ?_
          refine gj_istore (lv2 := [(7, gj_i x8), (5, gj_i z7), (0, gj_r b0), (1, gj_i b1), (2, gj_i a2.1), (3, gj_i a2.2.1), (4, gj_i a2.2.2.1), (6, gj_i a2.2.2.2.2)]) hO dX7_findEntering_77 (by decide) rfl ?_
          refine gj_iload hO 0 dX7_findEntering_79 rfl ?_
          refine gj_iload hO 6 dX7_findEntering_81 rfl ?_
          obtain ⟨z9, hz9, hf⟩ := gj_b hf
          have J9 : gj_G E X 8 r τ 92 [(0, gj_r b0), (1, gj_i b1), (2, gj_i a2.1), (3, gj_i z9.1), (4, gj_i z9.2), (5, gj_i z7), (6, gj_i a2.2.2.2.2)] [] σ := by
            refine gj_iload_n hO 2 dX7_findEntering_92 rfl rfl ?_
            refine gj_iconst (v := 1) hO dX7_findEntering_93 (by decide) ?_
            refine gj_iadd hO dX7_findEntering_94 ?_
            refine gj_iload_n hO 1 dX7_findEntering_95 rfl rfl ?_
            refine gj_icmp_ge (tgt := 105) hO dX7_findEntering_96 (by decide) (fun h => ?_) (fun h => ?_)
            · replace hf := gj_t h hf
              refine gj_iconst (v := 0) hO dX7_findEntering_105 (by decide) ?_
              refine gj_istore_n (lv2 := [(2, gj_i (0 : Int32)), (0, gj_r b0), (1, gj_i b1), (3, gj_i z9.1), (4, gj_i z9.2), (5, gj_i z7), (6, gj_i a2.2.2.2.2)]) hO dX7_findEntering_106 rfl (by decide) rfl ?_
              refine gj_iinc (v := (a2.2.2.2.2 + 1)) (lv2 := [(6, gj_i (a2.2.2.2.2 + 1)), (2, gj_i (0 : Int32)), (0, gj_r b0), (1, gj_i b1), (3, gj_i z9.1), (4, gj_i z9.2), (5, gj_i z7)]) hO 6 dX7_findEntering_107 rfl rfl (by decide) rfl ?_
              refine gj_goto (tgt := 27) hO dX7_findEntering_110 (by decide) ?_
              obtain rfl := Option.some.inj hf
              refine gj_sub [2, 3, 1, 4, 5, 6, 0] rfl ?_
              exact K
            · replace hf := gj_f h hf
              refine gj_iload_n hO 2 dX7_findEntering_99 rfl rfl ?_
              refine gj_iconst (v := 1) hO dX7_findEntering_100 (by decide) ?_
              refine gj_iadd hO dX7_findEntering_101 ?_
              refine gj_goto (tgt := 106) hO dX7_findEntering_102 (by decide) ?_
              refine gj_istore_n (lv2 := [(2, gj_i (a2.1 + (1 : Int32))), (0, gj_r b0), (1, gj_i b1), (3, gj_i z9.1), (4, gj_i z9.2), (5, gj_i z7), (6, gj_i a2.2.2.2.2)]) hO dX7_findEntering_106 rfl (by decide) rfl ?_
              refine gj_iinc (v := (a2.2.2.2.2 + 1)) (lv2 := [(6, gj_i (a2.2.2.2.2 + 1)), (2, gj_i (a2.1 + (1 : Int32))), (0, gj_r b0), (1, gj_i b1), (3, gj_i z9.1), (4, gj_i z9.2), (5, gj_i z7)]) hO 6 dX7_findEntering_107 rfl rfl (by decide) rfl ?_
              refine gj_goto (tgt := 27) hO dX7_findEntering_110 (by decide) ?_
              obtain rfl := Option.some.inj hf
              refine gj_sub [2, 3, 1, 4, 5, 6, 0] rfl ?_
              exact K
          refine gj_icmp_le (tgt := 92) hO dX7_findEntering_83 (by decide) (fun h => ?_) (fun h => ?_)
          · replace hz9 := gj_t h hz9
            obtain rfl := Option.some.inj hz9
            refine gj_sub [2, 3, 4, 5, 6, 1, 7] rfl ?_
            exact J9
          · replace hz9 := gj_f h hz9
            refine gj_iload_n hO 4 dX7_findEntering_86 rfl rfl ?_
            refine gj_istore_n (lv2 := [(3, gj_i a2.1), (7, gj_i x8), (5, gj_i z7), (0, gj_r b0), (1, gj_i b1), (2, gj_i a2.1), (4, gj_i a2.2.2.1), (6, gj_i a2.2.2.2.2)]) hO dX7_findEntering_87 rfl (by decide) rfl ?_
            refine gj_iload hO 1 dX7_findEntering_88 rfl ?_
            refine gj_istore (lv2 := [(4, gj_i x8), (3, gj_i a2.1), (7, gj_i x8), (5, gj_i z7), (0, gj_r b0), (1, gj_i b1), (2, gj_i a2.1), (6, gj_i a2.2.2.2.2)]) hO dX7_findEntering_90 (by decide) rfl ?_
            obtain rfl := Option.some.inj hz9
            refine gj_sub [4, 5, 6, 1, 0, 3, 7] rfl ?_
            exact J9
        refine gj_icmp_ge (tgt := 69) hO dX7_findEntering_59 (by decide) (fun h => ?_) (fun h => ?_)
        · replace hz7 := gj_t h hz7
          refine gj_iconst (v := 1) hO dX7_findEntering_69 (by decide) ?_
          obtain rfl := Option.some.inj hz7
          refine gj_sub [0, 1, 2, 3, 4, 6] rfl ?_
          exact J7
        · replace hz7 := gj_f h hz7
          refine gj_iload hO 5 dX7_findEntering_62 rfl ?_
          refine gj_iconst (v := 1) hO dX7_findEntering_64 (by decide) ?_
          refine gj_iadd hO dX7_findEntering_65 ?_
          refine gj_goto (tgt := 70) hO dX7_findEntering_66 (by decide) ?_
          obtain rfl := Option.some.inj hz7
          refine gj_sub [0, 1, 2, 3, 4, 6] rfl ?_
          exact J7
set_option maxHeartbeats 4000000 in
set_option maxRecDepth 100000 in
theorem m_X7_findEntering {E : gj_E} {σ : gj_S} {b0 : Nat} (g0 : isY b0) {x : (Int32 × gj_S)} (hf : f_X7_findEntering b0 σ = some x) : gj_M E yX7_findEntering cX7_findEntering 8 (some .int) 2 43 [gj_r b0] σ (some (gj_i x.1)) x.2 := by
  refine gj_body (lv := [(0, gj_r b0)]) (by decide +kernel) (Nat.le_of_ble_eq_true rfl) rfl (fun X hO => ?_)
  replace hO : gj_O E X RX7 cX7_findEntering 8 (some .int) 2 43 := hO
  unfold f_X7_findEntering at hf
  refine gj_aload_n hO 0 dX7_findEntering_0 rfl rfl ?_
  refine gt_X7_0 hO (kdY_0 g0) (klY_0 g0) wk_167 dX7_findEntering_1 ?_
  obtain ⟨x1, hc1, hf⟩ := gj_b hf
  refine ca_X1_countWays hO (isY_P g0) hc1 wk_220 (by decide) (by decide) (Nat.le_of_ble_eq_true rfl) dX7_findEntering_4 ?_
  refine gj_istore_n (lv2 := [(1, gj_i x1), (0, gj_r b0)]) hO dX7_findEntering_7 rfl (by decide) rfl ?_
  refine gj_aload_n hO 1 dX7_findEntering_8 rfl rfl ?_
  refine gt_X7_0 hO (kdY_0 g0) (klY_0 g0) wk_167 dX7_findEntering_9 ?_
  refine gt_X1_3 hO (kdP_0 (isY_P g0)) (klP_0 (isY_P g0)) wk_229 dX7_findEntering_12 ?_
  refine gj_istore_n (lv2 := [(2, gj_i (σ.1 (b0 + 1) 3)), (1, gj_i x1), (0, gj_r b0)]) hO dX7_findEntering_15 rfl (by decide) rfl ?_
  refine gj_iconst (v := (-1)) hO dX7_findEntering_16 (by decide) ?_
  refine gj_istore_n (lv2 := [(3, gj_i (-1 : Int32)), (2, gj_i (σ.1 (b0 + 1) 3)), (1, gj_i x1), (0, gj_r b0)]) hO dX7_findEntering_17 rfl (by decide) rfl ?_
  refine gj_iconst (v := 0) hO dX7_findEntering_18 (by decide) ?_
  refine gj_istore (lv2 := [(4, gj_i (0 : Int32)), (3, gj_i (-1 : Int32)), (2, gj_i (σ.1 (b0 + 1) 3)), (1, gj_i x1), (0, gj_r b0)]) hO dX7_findEntering_19 (by decide) rfl ?_
  refine gj_iconst (v := 0) hO dX7_findEntering_21 (by decide) ?_
  refine gj_istore (lv2 := [(5, gj_i (0 : Int32)), (4, gj_i (0 : Int32)), (3, gj_i (-1 : Int32)), (2, gj_i (σ.1 (b0 + 1) 3)), (1, gj_i x1), (0, gj_r b0)]) hO dX7_findEntering_22 (by decide) rfl ?_
  refine gj_iconst (v := 0) hO dX7_findEntering_24 (by decide) ?_
  refine gj_istore (lv2 := [(6, gj_i (0 : Int32)), (5, gj_i (0 : Int32)), (4, gj_i (0 : Int32)), (3, gj_i (-1 : Int32)), (2, gj_i (σ.1 (b0 + 1) 3)), (1, gj_i x1), (0, gj_r b0)]) hO dX7_findEntering_25 (by decide) rfl ?_
  obtain ⟨z2, hz2, hf⟩ := gj_b hf
  have J2 : gj_G E X 8 (some (gj_i x.1)) x.2 113 [(0, gj_r b0), (2, gj_i z2.1), (3, gj_i z2.2)] [] σ := by
    refine gj_aload_n hO 0 dX7_findEntering_113 rfl rfl ?_
    refine gj_iload_n hO 1 dX7_findEntering_114 rfl rfl ?_
    refine pt_X7_3 hO (kdY_0 g0) (klY_0 g0) wk_231 dX7_findEntering_115 ?_
    refine gj_iload_n hO 2 dX7_findEntering_118 rfl rfl ?_
    obtain rfl := Option.some.inj hf
    exact gj_iret hO dX7_findEntering_119
  refine gj_sub [6, 5, 4, 3, 2, 1, 0] rfl ?_
  exact gj_loop (head := fun a2 => gj_G E X 8 (some (gj_i x.1)) x.2 27 [(0, gj_r b0), (1, gj_i x1), (2, gj_i a2.1), (3, gj_i a2.2.1), (4, gj_i a2.2.2.1), (5, gj_i a2.2.2.2.1), (6, gj_i a2.2.2.2.2)] [] σ) (exit := fun z2 => gj_G E X 8 (some (gj_i x.1)) x.2 113 [(0, gj_r b0), (2, gj_i z2.1), (3, gj_i z2.2)] [] σ) (fun a2 x hf K => sb_X7_findEntering_l27 hO g0 hf K) _ _ _ hz2 J2
set_option maxHeartbeats 4000000 in
set_option maxRecDepth 100000 in
theorem ca_X7_findEntering {E : gj_E} {X : gj_X} {own : String} {cc : ByteArray} {nL : Nat} {rt : Option FieldType} {fr lo : Nat} {r : Option gj_V} {τ : gj_S} {pc : Nat} {lv : List (Nat × gj_V)} {st : List gj_V} {σ : gj_S} (hO : gj_O E X own cc nL rt fr lo) {b0 : Nat} (g0 : isY b0) {idx : Nat} {x : (Int32 × gj_S)} (hf : f_X7_findEntering b0 σ = some x) (hl : Cond.methodLink own idx yX7_findEntering ∈ gj_gw) (hf1 : 3 ≤ fr) (hf2 : 70 ≤ lo) (hcat : ((st.map (gj_tv E.2.1)).map fun v => v.category).sum ≤ 8) (hd : decode cc pc = .ok (.invokevirtual idx, 3)) (k : gj_G E X nL r τ (pc + 3) lv ((gj_i x.1) :: st) x.2) : gj_G E X nL r τ pc lv (gj_r b0 :: st) σ :=
  gj_callV hO (o := b0) (vs := []) (m_X7_findEntering g0 hf) hl wk_232 wk_233 wk_171 wk_234 (klY_0 g0) (kdY_0 g0) (by decide) (ci := 7) rfl (n := 0) (by decide +kernel) rfl hf1 hf2 rfl hcat hd k
def f_X8_enters  (σ : gj_S) : Option (Int32 × gj_S) := ((f_X7_findEntering 16 σ).bind fun x1 => (if x1.1 = (-1 : Int32) then some ((-2 : Int32), x1.2) else some (x1.1, x1.2)))
set_option maxHeartbeats 4000000 in
set_option maxRecDepth 100000 in
theorem m_X8_enters {E : gj_E} {σ : gj_S}   {x : (Int32 × gj_S)} (hf : f_X8_enters  σ = some x) : gj_M E yX8_enters cX8_enters 2 (some .int) 3 70 [gj_r 0] σ (some (gj_i x.1)) x.2 := by
  refine gj_body (lv := [(0, gj_r 0)]) (by decide +kernel) (Nat.le_of_ble_eq_true rfl) rfl (fun X hO => ?_)
  replace hO : gj_O E X RX8 cX8_enters 2 (some .int) 3 70 := hO
  unfold f_X8_enters at hf
  refine gj_aload_n hO 0 dX8_enters_0 rfl rfl ?_
  refine gt_X8_4 hO wk_185 dX8_enters_1 ?_
  obtain ⟨x1, hc1, hf⟩ := gj_b hf
  refine ca_X7_findEntering hO isY_16 hc1 wk_235 (by decide) (by decide) (Nat.le_of_ble_eq_true rfl) dX8_enters_4 ?_
  refine gj_istore_n (lv2 := [(1, gj_i x1.1), (0, gj_r 0)]) hO dX8_enters_7 rfl (by decide) rfl ?_
  refine gj_iload_n hO 0 dX8_enters_8 rfl rfl ?_
  refine gj_iconst (v := (-1)) hO dX8_enters_9 (by decide) ?_
  refine gj_icmp_ne (tgt := 18) hO dX8_enters_10 (by decide) (fun h => ?_) (fun h => ?_)
  · replace hf := gj_f h hf
    refine gj_iload_n hO 0 dX8_enters_18 rfl rfl ?_
    obtain rfl := Option.some.inj hf
    exact gj_iret hO dX8_enters_19
  · replace hf := gj_t h hf
    refine gj_bipush (v := (-2)) hO dX8_enters_13 (by decide) ?_
    refine gj_goto (tgt := 19) hO dX8_enters_15 (by decide) ?_
    obtain rfl := Option.some.inj hf
    exact gj_iret hO dX8_enters_19
set_option maxHeartbeats 4000000 in
set_option maxRecDepth 100000 in
theorem ca_X8_enters {E : gj_E} {X : gj_X} {own : String} {cc : ByteArray} {nL : Nat} {rt : Option FieldType} {fr lo : Nat} {r : Option gj_V} {τ : gj_S} {pc : Nat} {lv : List (Nat × gj_V)} {st : List gj_V} {σ : gj_S} (hO : gj_O E X own cc nL rt fr lo)   {idx : Nat} {x : (Int32 × gj_S)} (hf : f_X8_enters  σ = some x) (hl : Cond.methodLink own idx yX8_enters ∈ gj_gw) (hf1 : 4 ≤ fr) (hf2 : 91 ≤ lo) (hcat : ((st.map (gj_tv E.2.1)).map fun v => v.category).sum ≤ 8) (hd : decode cc pc = .ok (.invokevirtual idx, 3)) (k : gj_G E X nL r τ (pc + 3) lv ((gj_i x.1) :: st) x.2) : gj_G E X nL r τ pc lv (gj_r 0 :: st) σ :=
  gj_callV hO (o := 0) (vs := []) (m_X8_enters  hf) hl wk_236 wk_237 wk_4 wk_238 kl_0 kd_0 (by decide) (ci := 8) rfl (n := 0) (by decide +kernel) rfl hf1 hf2 rfl hcat hd k
def f_X1_hasWay (b0 : Nat) (b1 : Int32) (σ : gj_S) : Option Int32 := (if b1 < 0 then some (0 : Int32) else ((f_X1_countWays b0 σ).bind fun x1 => (if x1 ≤ b1 then some (0 : Int32) else some (1 : Int32))))
set_option maxHeartbeats 4000000 in
set_option maxRecDepth 100000 in
theorem m_X1_hasWay {E : gj_E} {σ : gj_S} {b0 : Nat} {b1 : Int32} (g0 : isP b0) {x : Int32} (hf : f_X1_hasWay b0 b1 σ = some x) : gj_M E yX1_hasWay cX1_hasWay 2 (some .boolean) 1 20 [gj_r b0, gj_i b1] σ (some (gj_i x)) σ := by
  refine gj_body (lv := [(0, gj_r b0), (1, gj_i b1)]) (by decide +kernel) (Nat.le_of_ble_eq_true rfl) rfl (fun X hO => ?_)
  replace hO : gj_O E X RX1 cX1_hasWay 2 (some .boolean) 1 20 := hO
  unfold f_X1_hasWay at hf
  refine gj_iload_n hO 1 dX1_hasWay_0 rfl rfl ?_
  refine gj_if_lt (tgt := 16) hO dX1_hasWay_1 (by decide) (fun h => ?_) (fun h => ?_)
  · replace hf := gj_t h hf
    refine gj_iconst (v := 0) hO dX1_hasWay_16 (by decide) ?_
    obtain rfl := Option.some.inj hf
    exact gj_zret hO (Or.inl rfl) dX1_hasWay_17
  · replace hf := gj_f h hf
    refine gj_iload_n hO 1 dX1_hasWay_4 rfl rfl ?_
    refine gj_aload_n hO 0 dX1_hasWay_5 rfl rfl ?_
    obtain ⟨x1, hc1, hf⟩ := gj_b hf
    refine ca_X1_countWays hO g0 hc1 wk_239 (by decide) (by decide) (Nat.le_of_ble_eq_true rfl) dX1_hasWay_6 ?_
    refine gj_icmp_ge (tgt := 16) hO dX1_hasWay_9 (by decide) (fun h => ?_) (fun h => ?_)
    · replace hf := gj_t h hf
      refine gj_iconst (v := 0) hO dX1_hasWay_16 (by decide) ?_
      obtain rfl := Option.some.inj hf
      exact gj_zret hO (Or.inl rfl) dX1_hasWay_17
    · replace hf := gj_f h hf
      refine gj_iconst (v := 1) hO dX1_hasWay_12 (by decide) ?_
      refine gj_goto (tgt := 17) hO dX1_hasWay_13 (by decide) ?_
      obtain rfl := Option.some.inj hf
      exact gj_zret hO (Or.inr rfl) dX1_hasWay_17
set_option maxHeartbeats 4000000 in
set_option maxRecDepth 100000 in
theorem ca_X1_hasWay {E : gj_E} {X : gj_X} {own : String} {cc : ByteArray} {nL : Nat} {rt : Option FieldType} {fr lo : Nat} {r : Option gj_V} {τ : gj_S} {pc : Nat} {lv : List (Nat × gj_V)} {st : List gj_V} {σ : gj_S} (hO : gj_O E X own cc nL rt fr lo) {b0 : Nat} {b1 : Int32} (g0 : isP b0) {idx : Nat} {x : Int32} (hf : f_X1_hasWay b0 b1 σ = some x) (hl : Cond.methodLink own idx yX1_hasWay ∈ gj_gw) (hf1 : 2 ≤ fr) (hf2 : 41 ≤ lo) (hcat : ((st.map (gj_tv E.2.1)).map fun v => v.category).sum ≤ 8) (hd : decode cc pc = .ok (.invokevirtual idx, 3)) (k : gj_G E X nL r τ (pc + 3) lv ((gj_i x) :: st) σ) : gj_G E X nL r τ pc lv (gj_i b1 :: gj_r b0 :: st) σ :=
  gj_callV hO (o := b0) (vs := [gj_i b1]) (m_X1_hasWay g0 hf) hl wk_240 wk_241 wk_15 wk_242 (klP_0 g0) (kdP_0 g0) (by decide) (ci := 1) rfl (n := 1) (by decide +kernel) rfl hf1 hf2 rfl hcat hd k
def fb_X5_findApex_l8 (b0 : Nat) (σ : gj_S) (a1 : (Int32 × Int32 × Int32)) : Option (Int32 ⊕ (Int32 × Int32 × Int32)) := (if (18 : Int32) ≤ a1.2.2 then some (.inl a1.1) else (if a1.1 = a1.2.1 then some (.inl a1.1) else (if gj_in a1.1 9 then (if gj_in a1.2.1 9 then (if (σ.1 (b0 + 3) (Int32.toNatClampNeg a1.1)) ≤ (σ.1 (b0 + 3) (Int32.toNatClampNeg a1.2.1)) then (if gj_in a1.2.1 9 then some (.inr (a1.1, (σ.1 (b0 + 2) (Int32.toNatClampNeg a1.2.1)), (a1.2.2 + 1))) else none) else (if gj_in a1.1 9 then some (.inr ((σ.1 (b0 + 2) (Int32.toNatClampNeg a1.1)), a1.2.1, (a1.2.2 + 1))) else none)) else none) else none)))
def f_X5_findApex (b0 : Nat) (b1 : Int32) (b2 : Int32) (σ : gj_S) : Option Int32 := ((gj_lp (fb_X5_findApex_l8 b0 σ) 5000 (b1, b2, (0 : Int32))).bind fun z1 => some z1)
set_option maxHeartbeats 4000000 in
set_option maxRecDepth 100000 in
theorem sb_X5_findApex_l8 {E : gj_E} {X : gj_X} {r : Option gj_V} {τ : gj_S} (hO : gj_O E X RX5 cX5_findApex 6 (some .int) 0 0) {b0 : Nat} {σ : gj_S} (g0 : isT b0) {a1 : (Int32 × Int32 × Int32)} {x : Int32 ⊕ (Int32 × Int32 × Int32)} (hf : fb_X5_findApex_l8 b0 σ a1 = some x) (K : gj_K (fun z1 => gj_G E X 6 r τ 62 [(3, gj_i z1)] [] σ) (fun a1 => gj_G E X 6 r τ 8 [(0, gj_r b0), (3, gj_i a1.1), (4, gj_i a1.2.1), (5, gj_i a1.2.2)] [] σ) x) : gj_G E X 6 r τ 8 [(0, gj_r b0), (3, gj_i a1.1), (4, gj_i a1.2.1), (5, gj_i a1.2.2)] [] σ := by
  unfold fb_X5_findApex_l8 at hf
  refine gj_iload hO 3 dX5_findApex_8 rfl ?_
  refine gj_bipush (v := 18) hO dX5_findApex_10 (by decide) ?_
  refine gj_icmp_ge (tgt := 62) hO dX5_findApex_12 (by decide) (fun h => ?_) (fun h => ?_)
  · replace hf := gj_t h hf
    obtain rfl := Option.some.inj hf
    refine gj_sub [1] rfl ?_
    exact K
  · replace hf := gj_f h hf
    refine gj_iload_n hO 1 dX5_findApex_15 rfl rfl ?_
    refine gj_iload hO 2 dX5_findApex_16 rfl ?_
    refine gj_icmp_eq (tgt := 62) hO dX5_findApex_18 (by decide) (fun h => ?_) (fun h => ?_)
    · replace hf := gj_t h hf
      obtain rfl := Option.some.inj hf
      refine gj_sub [1] rfl ?_
      exact K
    · replace hf := gj_f h hf
      refine gj_aload_n hO 0 dX5_findApex_21 rfl rfl ?_
      refine gt_X5_2 hO (kdT_0 g0) (klT_0 g0) wk_145 dX5_findApex_22 ?_
      refine gj_iload_n hO 1 dX5_findApex_25 rfl rfl ?_
      obtain ⟨hb3, hf⟩ := gj_c hf
      refine gj_iald hO (klT_3 g0) (kdT_3 g0) hb3 dX5_findApex_26 ?_
      refine gj_aload_n hO 0 dX5_findApex_27 rfl rfl ?_
      refine gt_X5_2 hO (kdT_0 g0) (klT_0 g0) wk_145 dX5_findApex_28 ?_
      refine gj_iload hO 2 dX5_findApex_31 rfl ?_
      obtain ⟨hb4, hf⟩ := gj_c hf
      refine gj_iald hO (klT_3 g0) (kdT_3 g0) hb4 dX5_findApex_33 ?_
      refine gj_icmp_le (tgt := 47) hO dX5_findApex_34 (by decide) (fun h => ?_) (fun h => ?_)
      · replace hf := gj_t h hf
        refine gj_aload_n hO 0 dX5_findApex_47 rfl rfl ?_
        refine gt_X5_1 hO (kdT_0 g0) (klT_0 g0) wk_144 dX5_findApex_48 ?_
        refine gj_iload hO 2 dX5_findApex_51 rfl ?_
        obtain ⟨hb5, hf⟩ := gj_c hf
        refine gj_iald hO (klT_2 g0) (kdT_2 g0) hb5 dX5_findApex_53 ?_
        refine gj_istore (lv2 := [(4, gj_i (σ.1 (b0 + 2) (Int32.toNatClampNeg a1.2.1))), (0, gj_r b0), (3, gj_i a1.1), (5, gj_i a1.2.2)]) hO dX5_findApex_54 (by decide) rfl ?_
        refine gj_iinc (v := (a1.2.2 + 1)) (lv2 := [(5, gj_i (a1.2.2 + 1)), (4, gj_i (σ.1 (b0 + 2) (Int32.toNatClampNeg a1.2.1))), (0, gj_r b0), (3, gj_i a1.1)]) hO 3 dX5_findApex_56 rfl rfl (by decide) rfl ?_
        refine gj_goto (tgt := 8) hO dX5_findApex_59 (by decide) ?_
        obtain rfl := Option.some.inj hf
        refine gj_sub [2, 3, 1, 0] rfl ?_
        exact K
      · replace hf := gj_f h hf
        refine gj_aload_n hO 0 dX5_findApex_37 rfl rfl ?_
        refine gt_X5_1 hO (kdT_0 g0) (klT_0 g0) wk_144 dX5_findApex_38 ?_
        refine gj_iload_n hO 1 dX5_findApex_41 rfl rfl ?_
        obtain ⟨hb6, hf⟩ := gj_c hf
        refine gj_iald hO (klT_2 g0) (kdT_2 g0) hb6 dX5_findApex_42 ?_
        refine gj_istore_n (lv2 := [(3, gj_i (σ.1 (b0 + 2) (Int32.toNatClampNeg a1.1))), (0, gj_r b0), (4, gj_i a1.2.1), (5, gj_i a1.2.2)]) hO dX5_findApex_43 rfl (by decide) rfl ?_
        refine gj_goto (tgt := 56) hO dX5_findApex_44 (by decide) ?_
        refine gj_iinc (v := (a1.2.2 + 1)) (lv2 := [(5, gj_i (a1.2.2 + 1)), (3, gj_i (σ.1 (b0 + 2) (Int32.toNatClampNeg a1.1))), (0, gj_r b0), (4, gj_i a1.2.1)]) hO 3 dX5_findApex_56 rfl rfl (by decide) rfl ?_
        refine gj_goto (tgt := 8) hO dX5_findApex_59 (by decide) ?_
        obtain rfl := Option.some.inj hf
        refine gj_sub [2, 1, 3, 0] rfl ?_
        exact K
set_option maxHeartbeats 4000000 in
set_option maxRecDepth 100000 in
theorem m_X5_findApex {E : gj_E} {σ : gj_S} {b0 : Nat} {b1 : Int32} {b2 : Int32} (g0 : isT b0) {x : Int32} (hf : f_X5_findApex b0 b1 b2 σ = some x) : gj_M E yX5_findApex cX5_findApex 6 (some .int) 0 0 [gj_r b0, gj_i b1, gj_i b2] σ (some (gj_i x)) σ := by
  refine gj_body (lv := [(0, gj_r b0), (1, gj_i b1), (2, gj_i b2)]) (by decide +kernel) (Nat.le_of_ble_eq_true rfl) rfl (fun X hO => ?_)
  replace hO : gj_O E X RX5 cX5_findApex 6 (some .int) 0 0 := hO
  unfold f_X5_findApex at hf
  refine gj_iload_n hO 1 dX5_findApex_0 rfl rfl ?_
  refine gj_istore_n (lv2 := [(3, gj_i b1), (0, gj_r b0), (1, gj_i b1), (2, gj_i b2)]) hO dX5_findApex_1 rfl (by decide) rfl ?_
  refine gj_iload_n hO 3 dX5_findApex_2 rfl rfl ?_
  refine gj_istore (lv2 := [(4, gj_i b2), (3, gj_i b1), (0, gj_r b0), (1, gj_i b1), (2, gj_i b2)]) hO dX5_findApex_3 (by decide) rfl ?_
  refine gj_iconst (v := 0) hO dX5_findApex_5 (by decide) ?_
  refine gj_istore (lv2 := [(5, gj_i (0 : Int32)), (4, gj_i b2), (3, gj_i b1), (0, gj_r b0), (1, gj_i b1), (2, gj_i b2)]) hO dX5_findApex_6 (by decide) rfl ?_
  obtain ⟨z1, hz1, hf⟩ := gj_b hf
  have J1 : gj_G E X 6 (some (gj_i x)) σ 62 [(3, gj_i z1)] [] σ := by
    refine gj_iload_n hO 0 dX5_findApex_62 rfl rfl ?_
    obtain rfl := Option.some.inj hf
    exact gj_iret hO dX5_findApex_63
  refine gj_sub [3, 2, 1, 0] rfl ?_
  exact gj_loop (head := fun a1 => gj_G E X 6 (some (gj_i x)) σ 8 [(0, gj_r b0), (3, gj_i a1.1), (4, gj_i a1.2.1), (5, gj_i a1.2.2)] [] σ) (exit := fun z1 => gj_G E X 6 (some (gj_i x)) σ 62 [(3, gj_i z1)] [] σ) (fun a1 x hf K => sb_X5_findApex_l8 hO g0 hf K) _ _ _ hz1 J1
set_option maxHeartbeats 4000000 in
set_option maxRecDepth 100000 in
theorem ca_X5_findApex {E : gj_E} {X : gj_X} {own : String} {cc : ByteArray} {nL : Nat} {rt : Option FieldType} {fr lo : Nat} {r : Option gj_V} {τ : gj_S} {pc : Nat} {lv : List (Nat × gj_V)} {st : List gj_V} {σ : gj_S} (hO : gj_O E X own cc nL rt fr lo) {b0 : Nat} {b1 : Int32} {b2 : Int32} (g0 : isT b0) {idx : Nat} {x : Int32} (hf : f_X5_findApex b0 b1 b2 σ = some x) (hl : Cond.methodLink own idx yX5_findApex ∈ gj_gw) (hf1 : 1 ≤ fr) (hf2 : 25 ≤ lo) (hcat : ((st.map (gj_tv E.2.1)).map fun v => v.category).sum ≤ 8) (hd : decode cc pc = .ok (.invokevirtual idx, 3)) (k : gj_G E X nL r τ (pc + 3) lv ((gj_i x) :: st) σ) : gj_G E X nL r τ pc lv (gj_i b2 :: gj_i b1 :: gj_r b0 :: st) σ :=
  gj_callV hO (o := b0) (vs := [gj_i b1, gj_i b2]) (m_X5_findApex g0 hf) hl wk_243 wk_244 wk_149 wk_245 (klT_0 g0) (kdT_0 g0) (by decide) (ci := 5) rfl (n := 2) (by decide +kernel) rfl hf1 hf2 rfl hcat hd k
def f_X3_put (b0 : Nat) (b1 : Int32) (b2 : Int32) (b3 : Int32) (σ : gj_S) : Option gj_S := (if gj_in b1 17 then (if gj_in b1 17 then ((some (gj_sI (gj_sI σ (b0 + 1) (upd (σ.1 (b0 + 1)) (Int32.toNatClampNeg b1) b2)) (b0 + 2) (upd ((gj_sI σ (b0 + 1) (upd (σ.1 (b0 + 1)) (Int32.toNatClampNeg b1) b2)).1 (b0 + 2)) (Int32.toNatClampNeg b1) (vp_nar .boolean b3)))).bind fun s3 => some (gj_sI s3 b0 (upd (s3.1 b0) 0 ((s3.1 b0 0) + (1 : Int32))))) else none) else none)
set_option maxHeartbeats 4000000 in
set_option maxRecDepth 100000 in
theorem m_X3_put {E : gj_E} {σ : gj_S} {b0 : Nat} {b1 : Int32} {b2 : Int32} {b3 : Int32} (g0 : isR b0) {x : gj_S} (hf : f_X3_put b0 b1 b2 b3 σ = some x) : gj_M E yX3_put cX3_put 4 none 0 0 [gj_r b0, gj_i b1, gj_i b2, gj_i b3] σ none x := by
  refine gj_body (lv := [(0, gj_r b0), (1, gj_i b1), (2, gj_i b2), (3, gj_i b3)]) (by decide +kernel) (Nat.le_of_ble_eq_true rfl) rfl (fun X hO => ?_)
  replace hO : gj_O E X RX3 cX3_put 4 none 0 0 := hO
  unfold f_X3_put at hf
  refine gj_aload_n hO 0 dX3_put_0 rfl rfl ?_
  refine gt_X3_3 hO (kdR_0 g0) (klR_0 g0) wk_246 dX3_put_1 ?_
  refine gj_iload_n hO 1 dX3_put_4 rfl rfl ?_
  refine gj_iload_n hO 2 dX3_put_5 rfl rfl ?_
  obtain ⟨hb1, hf⟩ := gj_c hf
  refine gj_iast hO (klR_1 g0) (kdR_1 g0) hb1 dX3_put_6 ?_
  refine gj_aload_n hO 0 dX3_put_7 rfl rfl ?_
  refine gt_X3_4 hO (kdR_0 g0) (klR_0 g0) wk_247 dX3_put_8 ?_
  refine gj_iload_n hO 1 dX3_put_11 rfl rfl ?_
  refine gj_iload_n hO 3 dX3_put_12 rfl rfl ?_
  obtain ⟨hb2, hf⟩ := gj_c hf
  refine gj_zast hO (klR_2 g0) (kdR_2 g0) hb2 dX3_put_13 ?_
  obtain ⟨s3, e3, hf⟩ := gj_b hf
  refine gj_eqS (Option.some.inj e3) ?_
  refine gj_aload_n hO 0 dX3_put_14 rfl rfl ?_
  refine gj_dup hO dX3_put_15 trivial ?_
  refine gt_X3_0 hO (kdR_0 g0) (klR_0 g0) wk_248 dX3_put_16 ?_
  refine gj_iconst (v := 1) hO dX3_put_19 (by decide) ?_
  refine gj_iadd hO dX3_put_20 ?_
  refine pt_X3_0 hO (kdR_0 g0) (klR_0 g0) wk_248 dX3_put_21 ?_
  obtain rfl := Option.some.inj hf
  exact gj_vret hO dX3_put_24
set_option maxHeartbeats 4000000 in
set_option maxRecDepth 100000 in
theorem ca_X3_put {E : gj_E} {X : gj_X} {own : String} {cc : ByteArray} {nL : Nat} {rt : Option FieldType} {fr lo : Nat} {r : Option gj_V} {τ : gj_S} {pc : Nat} {lv : List (Nat × gj_V)} {st : List gj_V} {σ : gj_S} (hO : gj_O E X own cc nL rt fr lo) {b0 : Nat} {b1 : Int32} {b2 : Int32} {b3 : Int32} (g0 : isR b0) {idx : Nat} {x : gj_S} (hf : f_X3_put b0 b1 b2 b3 σ = some x) (hl : Cond.methodLink own idx yX3_put ∈ gj_gw) (hf1 : 1 ≤ fr) (hf2 : 23 ≤ lo) (hcat : ((st.map (gj_tv E.2.1)).map fun v => v.category).sum ≤ 8) (hd : decode cc pc = .ok (.invokevirtual idx, 3)) (k : gj_G E X nL r τ (pc + 3) lv (st) x) : gj_G E X nL r τ pc lv (gj_i b3 :: gj_i b2 :: gj_i b1 :: gj_r b0 :: st) σ :=
  gj_callV hO (o := b0) (vs := [gj_i b1, gj_i b2, gj_i b3]) (m_X3_put g0 hf) hl wk_249 wk_250 wk_251 wk_252 (klR_0 g0) (kdR_0 g0) (by decide) (ci := 3) rfl (n := 3) (by decide +kernel) rfl hf1 hf2 rfl hcat hd k
def f_X1_roomOf (b0 : Nat) (b1 : Int32) (b2 : Int32) (σ : gj_S) : Option Int32 := (if b2 = 0 then (if gj_in b1 24 then some (σ.1 (b0 + 6) (Int32.toNatClampNeg b1)) else none) else (if gj_in b1 24 then (if (σ.1 (b0 + 5) (Int32.toNatClampNeg b1)) = (1000000 : Int32) then some (1000000 : Int32) else (if gj_in b1 24 then (if gj_in b1 24 then some ((σ.1 (b0 + 5) (Int32.toNatClampNeg b1)) - (σ.1 (b0 + 6) (Int32.toNatClampNeg b1))) else none) else none)) else none))
set_option maxHeartbeats 4000000 in
set_option maxRecDepth 100000 in
theorem m_X1_roomOf {E : gj_E} {σ : gj_S} {b0 : Nat} {b1 : Int32} {b2 : Int32} (g0 : isP b0) {x : Int32} (hf : f_X1_roomOf b0 b1 b2 σ = some x) : gj_M E yX1_roomOf cX1_roomOf 3 (some .int) 0 0 [gj_r b0, gj_i b1, gj_i b2] σ (some (gj_i x)) σ := by
  refine gj_body (lv := [(0, gj_r b0), (1, gj_i b1), (2, gj_i b2)]) (by decide +kernel) (Nat.le_of_ble_eq_true rfl) rfl (fun X hO => ?_)
  replace hO : gj_O E X RX1 cX1_roomOf 3 (some .int) 0 0 := hO
  unfold f_X1_roomOf at hf
  refine gj_iload_n hO 2 dX1_roomOf_0 rfl rfl ?_
  refine gj_if_ne (tgt := 11) hO dX1_roomOf_1 (by decide) (fun h => ?_) (fun h => ?_)
  · replace hf := gj_f h hf
    refine gj_aload_n hO 0 dX1_roomOf_11 rfl rfl ?_
    refine gt_X1_9 hO (kdP_0 g0) (klP_0 g0) wk_125 dX1_roomOf_12 ?_
    refine gj_iload_n hO 1 dX1_roomOf_15 rfl rfl ?_
    obtain ⟨hb1, hf⟩ := gj_c hf
    refine gj_iald hO (klP_5 g0) (kdP_5 g0) hb1 dX1_roomOf_16 ?_
    refine gj_ldc hO wk_132 dX1_roomOf_17 ?_
    refine gj_icmp_ne (tgt := 27) hO dX1_roomOf_19 (by decide) (fun h => ?_) (fun h => ?_)
    · replace hf := gj_f h hf
      refine gj_aload_n hO 0 dX1_roomOf_27 rfl rfl ?_
      refine gt_X1_9 hO (kdP_0 g0) (klP_0 g0) wk_125 dX1_roomOf_28 ?_
      refine gj_iload_n hO 1 dX1_roomOf_31 rfl rfl ?_
      obtain ⟨hb2, hf⟩ := gj_c hf
      refine gj_iald hO (klP_5 g0) (kdP_5 g0) hb2 dX1_roomOf_32 ?_
      refine gj_aload_n hO 0 dX1_roomOf_33 rfl rfl ?_
      refine gt_X1_10 hO (kdP_0 g0) (klP_0 g0) wk_126 dX1_roomOf_34 ?_
      refine gj_iload_n hO 1 dX1_roomOf_37 rfl rfl ?_
      obtain ⟨hb3, hf⟩ := gj_c hf
      refine gj_iald hO (klP_6 g0) (kdP_6 g0) hb3 dX1_roomOf_38 ?_
      refine gj_isub hO dX1_roomOf_39 ?_
      obtain rfl := Option.some.inj hf
      exact gj_iret hO dX1_roomOf_40
    · replace hf := gj_t h hf
      refine gj_ldc hO wk_132 dX1_roomOf_22 ?_
      refine gj_goto (tgt := 40) hO dX1_roomOf_24 (by decide) ?_
      obtain rfl := Option.some.inj hf
      exact gj_iret hO dX1_roomOf_40
  · replace hf := gj_t h hf
    refine gj_aload_n hO 0 dX1_roomOf_4 rfl rfl ?_
    refine gt_X1_10 hO (kdP_0 g0) (klP_0 g0) wk_126 dX1_roomOf_5 ?_
    refine gj_iload_n hO 1 dX1_roomOf_8 rfl rfl ?_
    obtain ⟨hb4, hf⟩ := gj_c hf
    refine gj_iald hO (klP_6 g0) (kdP_6 g0) hb4 dX1_roomOf_9 ?_
    obtain rfl := Option.some.inj hf
    exact gj_iret hO dX1_roomOf_10
set_option maxHeartbeats 4000000 in
set_option maxRecDepth 100000 in
theorem ca_X1_roomOf {E : gj_E} {X : gj_X} {own : String} {cc : ByteArray} {nL : Nat} {rt : Option FieldType} {fr lo : Nat} {r : Option gj_V} {τ : gj_S} {pc : Nat} {lv : List (Nat × gj_V)} {st : List gj_V} {σ : gj_S} (hO : gj_O E X own cc nL rt fr lo) {b0 : Nat} {b1 : Int32} {b2 : Int32} (g0 : isP b0) {idx : Nat} {x : Int32} (hf : f_X1_roomOf b0 b1 b2 σ = some x) (hl : Cond.methodLink own idx yX1_roomOf ∈ gj_gw) (hf1 : 1 ≤ fr) (hf2 : 22 ≤ lo) (hcat : ((st.map (gj_tv E.2.1)).map fun v => v.category).sum ≤ 8) (hd : decode cc pc = .ok (.invokevirtual idx, 3)) (k : gj_G E X nL r τ (pc + 3) lv ((gj_i x) :: st) σ) : gj_G E X nL r τ pc lv (gj_i b2 :: gj_i b1 :: gj_r b0 :: st) σ :=
  gj_callV hO (o := b0) (vs := [gj_i b1, gj_i b2]) (m_X1_roomOf g0 hf) hl wk_253 wk_254 wk_15 wk_255 (klP_0 g0) (kdP_0 g0) (by decide) (ci := 1) rfl (n := 2) (by decide +kernel) rfl hf1 hf2 rfl hcat hd k
def fb_X3_findLeaving_l13 (b0 : Nat) (b1 : Nat) (b2 : Int32) (a1 : (Int32 × gj_S)) : Option (gj_S ⊕ (Int32 × gj_S)) := (if (a1.2.1 b0 0) ≤ a1.1 then some (.inl a1.2) else (if gj_in a1.1 17 then ((if (a1.2.1 (b0 + 1) (Int32.toNatClampNeg a1.1)) = b2 then (if gj_in (a1.2.1 (b0 + 1) (Int32.toNatClampNeg a1.1)) 24 then some (a1.2.1 (b1 + 5) (Int32.toNatClampNeg (a1.2.1 (b0 + 1) (Int32.toNatClampNeg a1.1)))) else none) else (if gj_in a1.1 17 then ((f_X1_roomOf b1 (a1.2.1 (b0 + 1) (Int32.toNatClampNeg a1.1)) (a1.2.1 (b0 + 2) (Int32.toNatClampNeg a1.1)) a1.2).bind fun x6 => some x6) else none) : Option Int32).bind fun z4 => (if (a1.2.1 b0 2) < z4 then some (.inr ((a1.1 + 1), a1.2)) else some (.inr ((a1.1 + 1), (gj_sI (gj_sI a1.2 b0 (upd (a1.2.1 b0) 2 z4)) b0 (upd ((gj_sI a1.2 b0 (upd (a1.2.1 b0) 2 z4)).1 b0) 5 a1.1)))))) else none))
def f_X3_findLeaving (b0 : Nat) (b1 : Nat) (b2 : Int32) (σ : gj_S) : Option gj_S := ((gj_lp (fb_X3_findLeaving_l13 b0 b1 b2) 5000 ((0 : Int32), (gj_sI (gj_sI σ b0 (upd (σ.1 b0) 2 (1000000 : Int32))) b0 (upd ((gj_sI σ b0 (upd (σ.1 b0) 2 (1000000 : Int32))).1 b0) 5 (0 : Int32))))).bind fun z1 => some z1)
set_option maxHeartbeats 4000000 in
set_option maxRecDepth 100000 in
theorem sb_X3_findLeaving_l13 {E : gj_E} {X : gj_X} {r : Option gj_V} {τ : gj_S} (hO : gj_O E X RX3 cX3_findLeaving 6 none 1 22) {b0 : Nat} {b1 : Nat} {b2 : Int32} (g0 : isR b0) (g1 : isP b1) {a1 : (Int32 × gj_S)} {x : gj_S ⊕ (Int32 × gj_S)} (hf : fb_X3_findLeaving_l13 b0 b1 b2 a1 = some x) (K : gj_K (fun z1 => gj_G E X 6 r τ 85 [] [] z1) (fun a1 => gj_G E X 6 r τ 13 [(0, gj_r b0), (1, gj_r b1), (2, gj_i b2), (3, gj_i a1.1)] [] a1.2) x) : gj_G E X 6 r τ 13 [(0, gj_r b0), (1, gj_r b1), (2, gj_i b2), (3, gj_i a1.1)] [] a1.2 := by
  unfold fb_X3_findLeaving_l13 at hf
  refine gj_iload_n hO 3 dX3_findLeaving_13 rfl rfl ?_
  refine gj_aload_n hO 0 dX3_findLeaving_14 rfl rfl ?_
  refine gt_X3_0 hO (kdR_0 g0) (klR_0 g0) wk_248 dX3_findLeaving_15 ?_
  refine gj_icmp_ge (tgt := 85) hO dX3_findLeaving_18 (by decide) (fun h => ?_) (fun h => ?_)
  · replace hf := gj_t h hf
    obtain rfl := Option.some.inj hf
    refine gj_sub [] rfl ?_
    exact K
  · replace hf := gj_f h hf
    refine gj_aload_n hO 0 dX3_findLeaving_21 rfl rfl ?_
    refine gt_X3_3 hO (kdR_0 g0) (klR_0 g0) wk_246 dX3_findLeaving_22 ?_
    refine gj_iload_n hO 3 dX3_findLeaving_25 rfl rfl ?_
    obtain ⟨hb3, hf⟩ := gj_c hf
    refine gj_iald hO (klR_1 g0) (kdR_1 g0) hb3 dX3_findLeaving_26 ?_
    refine gj_istore (lv2 := [(4, gj_i (a1.2.1 (b0 + 1) (Int32.toNatClampNeg a1.1))), (0, gj_r b0), (1, gj_r b1), (2, gj_i b2), (3, gj_i a1.1)]) hO dX3_findLeaving_27 (by decide) rfl ?_
    refine gj_iload hO 0 dX3_findLeaving_29 rfl ?_
    refine gj_iload_n hO 3 dX3_findLeaving_31 rfl rfl ?_
    obtain ⟨z4, hz4, hf⟩ := gj_b hf
    have J4 : gj_G E X 6 r τ 57 [(0, gj_r b0), (1, gj_r b1), (2, gj_i b2), (3, gj_i a1.1)] [gj_i z4] a1.2 := by
      refine gj_istore (lv2 := [(5, gj_i z4), (0, gj_r b0), (1, gj_r b1), (2, gj_i b2), (3, gj_i a1.1)]) hO dX3_findLeaving_57 (by decide) rfl ?_
      refine gj_iload hO 0 dX3_findLeaving_59 rfl ?_
      refine gj_aload_n hO 1 dX3_findLeaving_61 rfl rfl ?_
      refine gt_X3_2 hO (kdR_0 g0) (klR_0 g0) wk_257 dX3_findLeaving_62 ?_
      refine gj_icmp_gt (tgt := 79) hO dX3_findLeaving_65 (by decide) (fun h => ?_) (fun h => ?_)
      · replace hf := gj_t h hf
        refine gj_iinc (v := (a1.1 + 1)) (lv2 := [(3, gj_i (a1.1 + 1)), (5, gj_i z4), (0, gj_r b0), (1, gj_r b1), (2, gj_i b2)]) hO 4 dX3_findLeaving_79 rfl rfl (by decide) rfl ?_
        refine gj_goto (tgt := 13) hO dX3_findLeaving_82 (by decide) ?_
        obtain rfl := Option.some.inj hf
        refine gj_sub [2, 3, 4, 0] rfl ?_
        exact K
      · replace hf := gj_f h hf
        refine gj_aload_n hO 1 dX3_findLeaving_68 rfl rfl ?_
        refine gj_iload hO 0 dX3_findLeaving_69 rfl ?_
        refine pt_X3_2 hO (kdR_0 g0) (klR_0 g0) wk_257 dX3_findLeaving_71 ?_
        refine gj_aload_n hO 1 dX3_findLeaving_74 rfl rfl ?_
        refine gj_iload_n hO 4 dX3_findLeaving_75 rfl rfl ?_
        refine pt_X3_5 hO (kdR_0 g0) (klR_0 g0) wk_258 dX3_findLeaving_76 ?_
        refine gj_iinc (v := (a1.1 + 1)) (lv2 := [(3, gj_i (a1.1 + 1)), (5, gj_i z4), (0, gj_r b0), (1, gj_r b1), (2, gj_i b2)]) hO 4 dX3_findLeaving_79 rfl rfl (by decide) rfl ?_
        refine gj_goto (tgt := 13) hO dX3_findLeaving_82 (by decide) ?_
        obtain rfl := Option.some.inj hf
        refine gj_sub [2, 3, 4, 0] rfl ?_
        exact K
    refine gj_icmp_ne (tgt := 45) hO dX3_findLeaving_32 (by decide) (fun h => ?_) (fun h => ?_)
    · replace hz4 := gj_f h hz4
      refine gj_aload_n hO 2 dX3_findLeaving_45 rfl rfl ?_
      refine gj_iload hO 0 dX3_findLeaving_46 rfl ?_
      refine gj_aload_n hO 1 dX3_findLeaving_48 rfl rfl ?_
      refine gt_X3_4 hO (kdR_0 g0) (klR_0 g0) wk_247 dX3_findLeaving_49 ?_
      refine gj_iload_n hO 4 dX3_findLeaving_52 rfl rfl ?_
      obtain ⟨hb5, hz4⟩ := gj_c hz4
      refine gj_zald hO (klR_2 g0) (kdR_2 g0) hb5 dX3_findLeaving_53 ?_
      obtain ⟨x6, hc6, hz4⟩ := gj_b hz4
      refine ca_X1_roomOf hO g1 hc6 wk_259 (by decide) (by decide) (Nat.le_of_ble_eq_true rfl) dX3_findLeaving_54 ?_
      obtain rfl := Option.some.inj hz4
      refine gj_sub [1, 2, 3, 4] rfl ?_
      exact J4
    · replace hz4 := gj_t h hz4
      refine gj_aload_n hO 2 dX3_findLeaving_35 rfl rfl ?_
      refine gt_X1_9 hO (kdP_0 g1) (klP_0 g1) wk_260 dX3_findLeaving_36 ?_
      refine gj_iload hO 0 dX3_findLeaving_39 rfl ?_
      obtain ⟨hb7, hz4⟩ := gj_c hz4
      refine gj_iald hO (klP_5 g1) (kdP_5 g1) hb7 dX3_findLeaving_41 ?_
      refine gj_goto (tgt := 57) hO dX3_findLeaving_42 (by decide) ?_
      obtain rfl := Option.some.inj hz4
      refine gj_sub [1, 2, 3, 4] rfl ?_
      exact J4
set_option maxHeartbeats 4000000 in
set_option maxRecDepth 100000 in
theorem m_X3_findLeaving {E : gj_E} {σ : gj_S} {b0 : Nat} {b1 : Nat} {b2 : Int32} (g0 : isR b0) (g1 : isP b1) {x : gj_S} (hf : f_X3_findLeaving b0 b1 b2 σ = some x) : gj_M E yX3_findLeaving cX3_findLeaving 6 none 1 22 [gj_r b0, gj_r b1, gj_i b2] σ none x := by
  refine gj_body (lv := [(0, gj_r b0), (1, gj_r b1), (2, gj_i b2)]) (by decide +kernel) (Nat.le_of_ble_eq_true rfl) rfl (fun X hO => ?_)
  replace hO : gj_O E X RX3 cX3_findLeaving 6 none 1 22 := hO
  unfold f_X3_findLeaving at hf
  refine gj_aload_n hO 0 dX3_findLeaving_0 rfl rfl ?_
  refine gj_ldc hO wk_256 dX3_findLeaving_1 ?_
  refine pt_X3_2 hO (kdR_0 g0) (klR_0 g0) wk_257 dX3_findLeaving_3 ?_
  refine gj_aload_n hO 0 dX3_findLeaving_6 rfl rfl ?_
  refine gj_iconst (v := 0) hO dX3_findLeaving_7 (by decide) ?_
  refine pt_X3_5 hO (kdR_0 g0) (klR_0 g0) wk_258 dX3_findLeaving_8 ?_
  refine gj_iconst (v := 0) hO dX3_findLeaving_11 (by decide) ?_
  refine gj_istore_n (lv2 := [(3, gj_i (0 : Int32)), (0, gj_r b0), (1, gj_r b1), (2, gj_i b2)]) hO dX3_findLeaving_12 rfl (by decide) rfl ?_
  obtain ⟨z1, hz1, hf⟩ := gj_b hf
  have J1 : gj_G E X 6 none x 85 [] [] z1 := by
    obtain rfl := Option.some.inj hf
    exact gj_vret hO dX3_findLeaving_85
  refine gj_sub [1, 2, 3, 0] rfl ?_
  exact gj_loop (head := fun a1 => gj_G E X 6 none x 13 [(0, gj_r b0), (1, gj_r b1), (2, gj_i b2), (3, gj_i a1.1)] [] a1.2) (exit := fun z1 => gj_G E X 6 none x 85 [] [] z1) (fun a1 x hf K => sb_X3_findLeaving_l13 hO g0 g1 hf K) _ _ _ hz1 J1
set_option maxHeartbeats 4000000 in
set_option maxRecDepth 100000 in
theorem ca_X3_findLeaving {E : gj_E} {X : gj_X} {own : String} {cc : ByteArray} {nL : Nat} {rt : Option FieldType} {fr lo : Nat} {r : Option gj_V} {τ : gj_S} {pc : Nat} {lv : List (Nat × gj_V)} {st : List gj_V} {σ : gj_S} (hO : gj_O E X own cc nL rt fr lo) {b0 : Nat} {b1 : Nat} {b2 : Int32} (g0 : isR b0) (g1 : isP b1) {idx : Nat} {x : gj_S} (hf : f_X3_findLeaving b0 b1 b2 σ = some x) (hl : Cond.methodLink own idx yX3_findLeaving ∈ gj_gw) (hf1 : 2 ≤ fr) (hf2 : 47 ≤ lo) (hcat : ((st.map (gj_tv E.2.1)).map fun v => v.category).sum ≤ 8) (hd : decode cc pc = .ok (.invokevirtual idx, 3)) (k : gj_G E X nL r τ (pc + 3) lv (st) x) : gj_G E X nL r τ pc lv (gj_i b2 :: gj_r b1 :: gj_r b0 :: st) σ :=
  gj_callV hO (o := b0) (vs := [gj_r b1, gj_i b2]) (m_X3_findLeaving g0 g1 hf) hl wk_261 wk_262 wk_251 wk_263 (klR_0 g0) (kdR_0 g0) (by decide) (ci := 3) rfl (n := 2) (by decide +kernel) rfl hf1 hf2 rfl hcat hd k
def fb_X3_trace_l111 (b0 : Nat) (b1 : Nat) (b2 : Nat) (b3 : Int32) (b4 : Int32) (b6 : Int32) (b7 : Int32) (a12 : (Int32 × Int32 × gj_S)) : Option (gj_S ⊕ (Int32 × Int32 × gj_S)) := (if a12.2.1 < 0 then some (.inl a12.2.2) else (if a12.1 = (8 : Int32) then some (.inl a12.2.2) else (if gj_in a12.1 9 then (if gj_in (a12.2.2.1 (b2 + 1) (Int32.toNatClampNeg a12.1)) 24 then ((if (a12.2.2.1 (b1 + 3) (Int32.toNatClampNeg (a12.2.2.1 (b2 + 1) (Int32.toNatClampNeg a12.1)))) = a12.1 then some (1 : Int32) else some (0 : Int32) : Option Int32).bind fun z16 => ((f_X3_put b0 a12.2.1 (a12.2.2.1 (b2 + 1) (Int32.toNatClampNeg a12.1)) z16 a12.2.2).bind fun x17 => (if gj_in a12.1 9 then some (.inr ((x17.1 (b2 + 2) (Int32.toNatClampNeg a12.1)), (a12.2.1 + (-1)), x17)) else none))) else none) else none)))
def fb_X3_trace_l191 (b0 : Nat) (b1 : Nat) (b2 : Nat) (b3 : Int32) (a20 : (Int32 × Int32 × gj_S)) : Option (gj_S ⊕ (Int32 × Int32 × gj_S)) := (if (17 : Int32) ≤ a20.2.1 then some (.inl a20.2.2) else (if a20.1 = (a20.2.2.1 b0 1) then some (.inl a20.2.2) else (if a20.1 = (8 : Int32) then some (.inl a20.2.2) else (if gj_in a20.1 9 then (if gj_in (a20.2.2.1 (b2 + 1) (Int32.toNatClampNeg a20.1)) 24 then ((if (a20.2.2.1 (b1 + 2) (Int32.toNatClampNeg (a20.2.2.1 (b2 + 1) (Int32.toNatClampNeg a20.1)))) = a20.1 then some (1 : Int32) else some (0 : Int32) : Option Int32).bind fun z24 => ((f_X3_put b0 a20.2.1 (a20.2.2.1 (b2 + 1) (Int32.toNatClampNeg a20.1)) z24 a20.2.2).bind fun x25 => (if gj_in a20.1 9 then some (.inr ((x25.1 (b2 + 2) (Int32.toNatClampNeg a20.1)), (a20.2.1 + 1), x25)) else none))) else none) else none))))
def f_X3_trace (b0 : Nat) (b1 : Nat) (b2 : Nat) (b3 : Int32) (σ : gj_S) : Option gj_S := (if gj_in b3 24 then ((if (σ.1 (b1 + 7) (Int32.toNatClampNeg b3)) = (2 : Int32) then some (0 : Int32) else some (1 : Int32) : Option Int32).bind fun z2 => ((if z2 = 0 then (if gj_in b3 24 then some (σ.1 (b1 + 3) (Int32.toNatClampNeg b3)) else none) else (if gj_in b3 24 then some (σ.1 (b1 + 2) (Int32.toNatClampNeg b3)) else none) : Option Int32).bind fun z3 => ((if z2 = 0 then (if gj_in b3 24 then some (σ.1 (b1 + 2) (Int32.toNatClampNeg b3)) else none) else (if gj_in b3 24 then some (σ.1 (b1 + 3) (Int32.toNatClampNeg b3)) else none) : Option Int32).bind fun z6 => ((f_X5_findApex b2 z3 z6 σ).bind fun x9 => (if gj_in z3 9 then (if gj_in ((gj_sI σ b0 (upd (σ.1 b0) 1 x9)).1 b0 1) 9 then ((gj_lp (fb_X3_trace_l111 b0 b1 b2 b3 z2 z6 (gj_max (0 : Int32) (((gj_sI σ b0 (upd (σ.1 b0) 1 x9)).1 (b2 + 3) (Int32.toNatClampNeg z3)) - ((gj_sI σ b0 (upd (σ.1 b0) 1 x9)).1 (b2 + 3) (Int32.toNatClampNeg ((gj_sI σ b0 (upd (σ.1 b0) 1 x9)).1 b0 1)))))) 5000 (z3, ((gj_max (0 : Int32) (((gj_sI σ b0 (upd (σ.1 b0) 1 x9)).1 (b2 + 3) (Int32.toNatClampNeg z3)) - ((gj_sI σ b0 (upd (σ.1 b0) 1 x9)).1 (b2 + 3) (Int32.toNatClampNeg ((gj_sI σ b0 (upd (σ.1 b0) 1 x9)).1 b0 1))))) - (1 : Int32)), (gj_sI (gj_sI σ b0 (upd (σ.1 b0) 1 x9)) b0 (upd ((gj_sI σ b0 (upd (σ.1 b0) 1 x9)).1 b0) 0 (0 : Int32))))).bind fun z12 => ((f_X3_put b0 (gj_max (0 : Int32) (((gj_sI σ b0 (upd (σ.1 b0) 1 x9)).1 (b2 + 3) (Int32.toNatClampNeg z3)) - ((gj_sI σ b0 (upd (σ.1 b0) 1 x9)).1 (b2 + 3) (Int32.toNatClampNeg ((gj_sI σ b0 (upd (σ.1 b0) 1 x9)).1 b0 1))))) b3 z2 z12).bind fun x19 => ((gj_lp (fb_X3_trace_l191 b0 b1 b2 b3) 5000 (z6, ((gj_max (0 : Int32) (((gj_sI σ b0 (upd (σ.1 b0) 1 x9)).1 (b2 + 3) (Int32.toNatClampNeg z3)) - ((gj_sI σ b0 (upd (σ.1 b0) 1 x9)).1 (b2 + 3) (Int32.toNatClampNeg ((gj_sI σ b0 (upd (σ.1 b0) 1 x9)).1 b0 1))))) + (1 : Int32)), x19)).bind fun z20 => ((f_X3_findLeaving b0 b1 b3 z20).bind fun x27 => some x27)))) else none) else none))))) else none)
set_option maxHeartbeats 4000000 in
set_option maxRecDepth 100000 in
theorem sb_X3_trace_l111 {E : gj_E} {X : gj_X} {r : Option gj_V} {τ : gj_S} (hO : gj_O E X RX3 cX3_trace 11 none 2 47) {b0 : Nat} {b1 : Nat} {b2 : Nat} {b3 : Int32} {b4 : Int32} {b6 : Int32} {b7 : Int32} (g0 : isR b0) (g1 : isP b1) (g2 : isT b2) {a12 : (Int32 × Int32 × gj_S)} {x : gj_S ⊕ (Int32 × Int32 × gj_S)} (hf : fb_X3_trace_l111 b0 b1 b2 b3 b4 b6 b7 a12 = some x) (K : gj_K (fun z12 => gj_G E X 11 r τ 172 [(0, gj_r b0), (1, gj_r b1), (2, gj_r b2), (3, gj_i b3), (4, gj_i b4), (6, gj_i b6), (7, gj_i b7)] [] z12) (fun a12 => gj_G E X 11 r τ 111 [(0, gj_r b0), (1, gj_r b1), (2, gj_r b2), (3, gj_i b3), (4, gj_i b4), (6, gj_i b6), (7, gj_i b7), (8, gj_i a12.1), (9, gj_i a12.2.1)] [] a12.2.2) x) : gj_G E X 11 r τ 111 [(0, gj_r b0), (1, gj_r b1), (2, gj_r b2), (3, gj_i b3), (4, gj_i b4), (6, gj_i b6), (7, gj_i b7), (8, gj_i a12.1), (9, gj_i a12.2.1)] [] a12.2.2 := by
  unfold fb_X3_trace_l111 at hf
  refine gj_iload hO 8 dX3_trace_111 rfl ?_
  refine gj_if_lt (tgt := 172) hO dX3_trace_113 (by decide) (fun h => ?_) (fun h => ?_)
  · replace hf := gj_t h hf
    obtain rfl := Option.some.inj hf
    refine gj_sub [0, 1, 2, 3, 4, 5, 6] rfl ?_
    exact K
  · replace hf := gj_f h hf
    refine gj_iload hO 7 dX3_trace_116 rfl ?_
    refine gj_bipush (v := 8) hO dX3_trace_118 (by decide) ?_
    refine gj_icmp_eq (tgt := 172) hO dX3_trace_120 (by decide) (fun h => ?_) (fun h => ?_)
    · replace hf := gj_t h hf
      obtain rfl := Option.some.inj hf
      refine gj_sub [0, 1, 2, 3, 4, 5, 6] rfl ?_
      exact K
    · replace hf := gj_f h hf
      refine gj_aload_n hO 2 dX3_trace_123 rfl rfl ?_
      refine gt_X5_0 hO (kdT_0 g2) (klT_0 g2) wk_271 dX3_trace_124 ?_
      refine gj_iload hO 7 dX3_trace_127 rfl ?_
      obtain ⟨hb14, hf⟩ := gj_c hf
      refine gj_iald hO (klT_1 g2) (kdT_1 g2) hb14 dX3_trace_129 ?_
      refine gj_istore (lv2 := [(10, gj_i (a12.2.2.1 (b2 + 1) (Int32.toNatClampNeg a12.1))), (0, gj_r b0), (1, gj_r b1), (2, gj_r b2), (3, gj_i b3), (4, gj_i b4), (6, gj_i b6), (7, gj_i b7), (8, gj_i a12.1), (9, gj_i a12.2.1)]) hO dX3_trace_130 (by decide) rfl ?_
      refine gj_aload_n hO 1 dX3_trace_132 rfl rfl ?_
      refine gj_iload hO 9 dX3_trace_133 rfl ?_
      refine gj_iload hO 0 dX3_trace_135 rfl ?_
      refine gj_aload_n hO 2 dX3_trace_137 rfl rfl ?_
      refine gt_X1_7 hO (kdP_0 g1) (klP_0 g1) wk_265 dX3_trace_138 ?_
      refine gj_iload hO 0 dX3_trace_141 rfl ?_
      obtain ⟨hb15, hf⟩ := gj_c hf
      refine gj_iald hO (klP_3 g1) (kdP_3 g1) hb15 dX3_trace_143 ?_
      refine gj_iload hO 8 dX3_trace_144 rfl ?_
      obtain ⟨z16, hz16, hf⟩ := gj_b hf
      have J16 : gj_G E X 11 r τ 154 [(0, gj_r b0), (1, gj_r b1), (2, gj_r b2), (3, gj_i b3), (4, gj_i b4), (6, gj_i b6), (7, gj_i b7), (8, gj_i a12.1), (9, gj_i a12.2.1)] [gj_i z16, gj_i (a12.2.2.1 (b2 + 1) (Int32.toNatClampNeg a12.1)), gj_i a12.2.1, gj_r b0] a12.2.2 := by
        obtain ⟨x17, hc17, hf⟩ := gj_b hf
        refine ca_X3_put hO g0 hc17 wk_272 (by decide) (by decide) (Nat.le_of_ble_eq_true rfl) dX3_trace_154 ?_
        refine gj_aload_n hO 2 dX3_trace_157 rfl rfl ?_
        refine gt_X5_1 hO (kdT_0 g2) (klT_0 g2) wk_273 dX3_trace_158 ?_
        refine gj_iload hO 7 dX3_trace_161 rfl ?_
        obtain ⟨hb18, hf⟩ := gj_c hf
        refine gj_iald hO (klT_2 g2) (kdT_2 g2) hb18 dX3_trace_163 ?_
        refine gj_istore (lv2 := [(8, gj_i (x17.1 (b2 + 2) (Int32.toNatClampNeg a12.1))), (0, gj_r b0), (1, gj_r b1), (2, gj_r b2), (3, gj_i b3), (4, gj_i b4), (6, gj_i b6), (7, gj_i b7), (9, gj_i a12.2.1)]) hO dX3_trace_164 (by decide) rfl ?_
        refine gj_iinc (v := (a12.2.1 + (-1))) (lv2 := [(9, gj_i (a12.2.1 + (-1))), (8, gj_i (x17.1 (b2 + 2) (Int32.toNatClampNeg a12.1))), (0, gj_r b0), (1, gj_r b1), (2, gj_r b2), (3, gj_i b3), (4, gj_i b4), (6, gj_i b6), (7, gj_i b7)]) hO 8 dX3_trace_166 rfl rfl (by decide) rfl ?_
        refine gj_goto (tgt := 111) hO dX3_trace_169 (by decide) ?_
        obtain rfl := Option.some.inj hf
        refine gj_sub [2, 3, 4, 5, 6, 7, 8, 1, 0] rfl ?_
        exact K
      refine gj_icmp_ne (tgt := 153) hO dX3_trace_146 (by decide) (fun h => ?_) (fun h => ?_)
      · replace hz16 := gj_f h hz16
        refine gj_iconst (v := 0) hO dX3_trace_153 (by decide) ?_
        obtain rfl := Option.some.inj hz16
        refine gj_sub [1, 2, 3, 4, 5, 6, 7, 8, 9] rfl ?_
        exact J16
      · replace hz16 := gj_t h hz16
        refine gj_iconst (v := 1) hO dX3_trace_149 (by decide) ?_
        refine gj_goto (tgt := 154) hO dX3_trace_150 (by decide) ?_
        obtain rfl := Option.some.inj hz16
        refine gj_sub [1, 2, 3, 4, 5, 6, 7, 8, 9] rfl ?_
        exact J16
set_option maxHeartbeats 4000000 in
set_option maxRecDepth 100000 in
theorem sb_X3_trace_l191 {E : gj_E} {X : gj_X} {r : Option gj_V} {τ : gj_S} (hO : gj_O E X RX3 cX3_trace 11 none 2 47) {b0 : Nat} {b1 : Nat} {b2 : Nat} {b3 : Int32} (g0 : isR b0) (g1 : isP b1) (g2 : isT b2) {a20 : (Int32 × Int32 × gj_S)} {x : gj_S ⊕ (Int32 × Int32 × gj_S)} (hf : fb_X3_trace_l191 b0 b1 b2 b3 a20 = some x) (K : gj_K (fun z20 => gj_G E X 11 r τ 263 [(0, gj_r b0), (1, gj_r b1), (3, gj_i b3)] [] z20) (fun a20 => gj_G E X 11 r τ 191 [(0, gj_r b0), (1, gj_r b1), (2, gj_r b2), (3, gj_i b3), (8, gj_i a20.1), (9, gj_i a20.2.1)] [] a20.2.2) x) : gj_G E X 11 r τ 191 [(0, gj_r b0), (1, gj_r b1), (2, gj_r b2), (3, gj_i b3), (8, gj_i a20.1), (9, gj_i a20.2.1)] [] a20.2.2 := by
  unfold fb_X3_trace_l191 at hf
  refine gj_iload hO 5 dX3_trace_191 rfl ?_
  refine gj_bipush (v := 17) hO dX3_trace_193 (by decide) ?_
  refine gj_icmp_ge (tgt := 263) hO dX3_trace_195 (by decide) (fun h => ?_) (fun h => ?_)
  · replace hf := gj_t h hf
    obtain rfl := Option.some.inj hf
    refine gj_sub [0, 1, 3] rfl ?_
    exact K
  · replace hf := gj_f h hf
    refine gj_iload hO 4 dX3_trace_198 rfl ?_
    refine gj_aload_n hO 0 dX3_trace_200 rfl rfl ?_
    refine gt_X3_1 hO (kdR_0 g0) (klR_0 g0) wk_268 dX3_trace_201 ?_
    refine gj_icmp_eq (tgt := 263) hO dX3_trace_204 (by decide) (fun h => ?_) (fun h => ?_)
    · replace hf := gj_t h hf
      obtain rfl := Option.some.inj hf
      refine gj_sub [0, 1, 3] rfl ?_
      exact K
    · replace hf := gj_f h hf
      refine gj_iload hO 4 dX3_trace_207 rfl ?_
      refine gj_bipush (v := 8) hO dX3_trace_209 (by decide) ?_
      refine gj_icmp_eq (tgt := 263) hO dX3_trace_211 (by decide) (fun h => ?_) (fun h => ?_)
      · replace hf := gj_t h hf
        obtain rfl := Option.some.inj hf
        refine gj_sub [0, 1, 3] rfl ?_
        exact K
      · replace hf := gj_f h hf
        refine gj_aload_n hO 2 dX3_trace_214 rfl rfl ?_
        refine gt_X5_0 hO (kdT_0 g2) (klT_0 g2) wk_271 dX3_trace_215 ?_
        refine gj_iload hO 4 dX3_trace_218 rfl ?_
        obtain ⟨hb22, hf⟩ := gj_c hf
        refine gj_iald hO (klT_1 g2) (kdT_1 g2) hb22 dX3_trace_220 ?_
        refine gj_istore (lv2 := [(10, gj_i (a20.2.2.1 (b2 + 1) (Int32.toNatClampNeg a20.1))), (0, gj_r b0), (1, gj_r b1), (2, gj_r b2), (3, gj_i b3), (8, gj_i a20.1), (9, gj_i a20.2.1)]) hO dX3_trace_221 (by decide) rfl ?_
        refine gj_aload_n hO 1 dX3_trace_223 rfl rfl ?_
        refine gj_iload hO 6 dX3_trace_224 rfl ?_
        refine gj_iload hO 0 dX3_trace_226 rfl ?_
        refine gj_aload_n hO 2 dX3_trace_228 rfl rfl ?_
        refine gt_X1_6 hO (kdP_0 g1) (klP_0 g1) wk_266 dX3_trace_229 ?_
        refine gj_iload hO 0 dX3_trace_232 rfl ?_
        obtain ⟨hb23, hf⟩ := gj_c hf
        refine gj_iald hO (klP_2 g1) (kdP_2 g1) hb23 dX3_trace_234 ?_
        refine gj_iload hO 5 dX3_trace_235 rfl ?_
        obtain ⟨z24, hz24, hf⟩ := gj_b hf
        have J24 : gj_G E X 11 r τ 245 [(0, gj_r b0), (1, gj_r b1), (2, gj_r b2), (3, gj_i b3), (8, gj_i a20.1), (9, gj_i a20.2.1)] [gj_i z24, gj_i (a20.2.2.1 (b2 + 1) (Int32.toNatClampNeg a20.1)), gj_i a20.2.1, gj_r b0] a20.2.2 := by
          obtain ⟨x25, hc25, hf⟩ := gj_b hf
          refine ca_X3_put hO g0 hc25 wk_272 (by decide) (by decide) (Nat.le_of_ble_eq_true rfl) dX3_trace_245 ?_
          refine gj_aload_n hO 2 dX3_trace_248 rfl rfl ?_
          refine gt_X5_1 hO (kdT_0 g2) (klT_0 g2) wk_273 dX3_trace_249 ?_
          refine gj_iload hO 4 dX3_trace_252 rfl ?_
          obtain ⟨hb26, hf⟩ := gj_c hf
          refine gj_iald hO (klT_2 g2) (kdT_2 g2) hb26 dX3_trace_254 ?_
          refine gj_istore (lv2 := [(8, gj_i (x25.1 (b2 + 2) (Int32.toNatClampNeg a20.1))), (0, gj_r b0), (1, gj_r b1), (2, gj_r b2), (3, gj_i b3), (9, gj_i a20.2.1)]) hO dX3_trace_255 (by decide) rfl ?_
          refine gj_iinc (v := (a20.2.1 + 1)) (lv2 := [(9, gj_i (a20.2.1 + 1)), (8, gj_i (x25.1 (b2 + 2) (Int32.toNatClampNeg a20.1))), (0, gj_r b0), (1, gj_r b1), (2, gj_r b2), (3, gj_i b3)]) hO 5 dX3_trace_257 rfl rfl (by decide) rfl ?_
          refine gj_goto (tgt := 191) hO dX3_trace_260 (by decide) ?_
          obtain rfl := Option.some.inj hf
          refine gj_sub [2, 3, 4, 5, 1, 0] rfl ?_
          exact K
        refine gj_icmp_ne (tgt := 244) hO dX3_trace_237 (by decide) (fun h => ?_) (fun h => ?_)
        · replace hz24 := gj_f h hz24
          refine gj_iconst (v := 0) hO dX3_trace_244 (by decide) ?_
          obtain rfl := Option.some.inj hz24
          refine gj_sub [1, 2, 3, 4, 5, 6] rfl ?_
          exact J24
        · replace hz24 := gj_t h hz24
          refine gj_iconst (v := 1) hO dX3_trace_240 (by decide) ?_
          refine gj_goto (tgt := 245) hO dX3_trace_241 (by decide) ?_
          obtain rfl := Option.some.inj hz24
          refine gj_sub [1, 2, 3, 4, 5, 6] rfl ?_
          exact J24
set_option maxHeartbeats 4000000 in
set_option maxRecDepth 100000 in
theorem m_X3_trace {E : gj_E} {σ : gj_S} {b0 : Nat} {b1 : Nat} {b2 : Nat} {b3 : Int32} (g0 : isR b0) (g1 : isP b1) (g2 : isT b2) {x : gj_S} (hf : f_X3_trace b0 b1 b2 b3 σ = some x) : gj_M E yX3_trace cX3_trace 11 none 2 47 [gj_r b0, gj_r b1, gj_r b2, gj_i b3] σ none x := by
  refine gj_body (lv := [(0, gj_r b0), (1, gj_r b1), (2, gj_r b2), (3, gj_i b3)]) (by decide +kernel) (Nat.le_of_ble_eq_true rfl) rfl (fun X hO => ?_)
  replace hO : gj_O E X RX3 cX3_trace 11 none 2 47 := hO
  unfold f_X3_trace at hf
  refine gj_aload_n hO 1 dX3_trace_0 rfl rfl ?_
  refine gt_X1_11 hO (kdP_0 g1) (klP_0 g1) wk_264 dX3_trace_1 ?_
  refine gj_iload_n hO 3 dX3_trace_4 rfl rfl ?_
  obtain ⟨hb1, hf⟩ := gj_c hf
  refine gj_iald hO (klP_7 g1) (kdP_7 g1) hb1 dX3_trace_5 ?_
  refine gj_iconst (v := 2) hO dX3_trace_6 (by decide) ?_
  obtain ⟨z2, hz2, hf⟩ := gj_b hf
  have J2 : gj_G E X 11 none x 15 [(0, gj_r b0), (1, gj_r b1), (2, gj_r b2), (3, gj_i b3)] [gj_i z2] σ := by
    refine gj_istore (lv2 := [(4, gj_i z2), (0, gj_r b0), (1, gj_r b1), (2, gj_r b2), (3, gj_i b3)]) hO dX3_trace_15 (by decide) rfl ?_
    refine gj_iload hO 0 dX3_trace_17 rfl ?_
    obtain ⟨z3, hz3, hf⟩ := gj_b hf
    have J3 : gj_G E X 11 none x 37 [(0, gj_r b0), (1, gj_r b1), (2, gj_r b2), (3, gj_i b3), (4, gj_i z2)] [gj_i z3] σ := by
      refine gj_istore (lv2 := [(5, gj_i z3), (0, gj_r b0), (1, gj_r b1), (2, gj_r b2), (3, gj_i b3), (4, gj_i z2)]) hO dX3_trace_37 (by decide) rfl ?_
      refine gj_iload hO 5 dX3_trace_39 rfl ?_
      obtain ⟨z6, hz6, hf⟩ := gj_b hf
      have J6 : gj_G E X 11 none x 59 [(0, gj_r b0), (1, gj_r b1), (2, gj_r b2), (3, gj_i b3), (4, gj_i z2), (5, gj_i z3)] [gj_i z6] σ := by
        refine gj_istore (lv2 := [(6, gj_i z6), (0, gj_r b0), (1, gj_r b1), (2, gj_r b2), (3, gj_i b3), (4, gj_i z2), (5, gj_i z3)]) hO dX3_trace_59 (by decide) rfl ?_
        refine gj_aload_n hO 1 dX3_trace_61 rfl rfl ?_
        refine gj_aload_n hO 3 dX3_trace_62 rfl rfl ?_
        refine gj_iload hO 6 dX3_trace_63 rfl ?_
        refine gj_iload hO 0 dX3_trace_65 rfl ?_
        obtain ⟨x9, hc9, hf⟩ := gj_b hf
        refine ca_X5_findApex hO g2 hc9 wk_267 (by decide) (by decide) (Nat.le_of_ble_eq_true rfl) dX3_trace_67 ?_
        refine pt_X3_1 hO (kdR_0 g0) (klR_0 g0) wk_268 dX3_trace_70 ?_
        refine gj_iconst (v := 0) hO dX3_trace_73 (by decide) ?_
        refine gj_aload_n hO 3 dX3_trace_74 rfl rfl ?_
        refine gt_X5_2 hO (kdT_0 g2) (klT_0 g2) wk_269 dX3_trace_75 ?_
        refine gj_iload hO 6 dX3_trace_78 rfl ?_
        obtain ⟨hb10, hf⟩ := gj_c hf
        refine gj_iald hO (klT_3 g2) (kdT_3 g2) hb10 dX3_trace_80 ?_
        refine gj_aload_n hO 3 dX3_trace_81 rfl rfl ?_
        refine gt_X5_2 hO (kdT_0 g2) (klT_0 g2) wk_269 dX3_trace_82 ?_
        refine gj_aload_n hO 1 dX3_trace_85 rfl rfl ?_
        refine gt_X3_1 hO (kdR_0 g0) (klR_0 g0) wk_268 dX3_trace_86 ?_
        obtain ⟨hb11, hf⟩ := gj_c hf
        refine gj_iald hO (klT_3 g2) (kdT_3 g2) hb11 dX3_trace_89 ?_
        refine gj_isub hO dX3_trace_90 ?_
        refine gj_mmax hO wk_270 (by decide) (by decide) (Nat.le_of_ble_eq_true rfl) dX3_trace_91 ?_
        refine gj_istore (lv2 := [(7, gj_i (gj_max (0 : Int32) (((gj_sI σ b0 (upd (σ.1 b0) 1 x9)).1 (b2 + 3) (Int32.toNatClampNeg z3)) - ((gj_sI σ b0 (upd (σ.1 b0) 1 x9)).1 (b2 + 3) (Int32.toNatClampNeg ((gj_sI σ b0 (upd (σ.1 b0) 1 x9)).1 b0 1)))))), (6, gj_i z6), (0, gj_r b0), (1, gj_r b1), (2, gj_r b2), (3, gj_i b3), (4, gj_i z2), (5, gj_i z3)]) hO dX3_trace_94 (by decide) rfl ?_
        refine gj_aload_n hO 2 dX3_trace_96 rfl rfl ?_
        refine gj_iconst (v := 0) hO dX3_trace_97 (by decide) ?_
        refine pt_X3_0 hO (kdR_0 g0) (klR_0 g0) wk_248 dX3_trace_98 ?_
        refine gj_iload hO 7 dX3_trace_101 rfl ?_
        refine gj_istore (lv2 := [(8, gj_i z3), (7, gj_i (gj_max (0 : Int32) (((gj_sI σ b0 (upd (σ.1 b0) 1 x9)).1 (b2 + 3) (Int32.toNatClampNeg z3)) - ((gj_sI σ b0 (upd (σ.1 b0) 1 x9)).1 (b2 + 3) (Int32.toNatClampNeg ((gj_sI σ b0 (upd (σ.1 b0) 1 x9)).1 b0 1)))))), (6, gj_i z6), (0, gj_r b0), (1, gj_r b1), (2, gj_r b2), (3, gj_i b3), (4, gj_i z2), (5, gj_i z3)]) hO dX3_trace_103 (by decide) rfl ?_
        refine gj_iload hO 1 dX3_trace_105 rfl ?_
        refine gj_iconst (v := 1) hO dX3_trace_107 (by decide) ?_
        refine gj_isub hO dX3_trace_108 ?_
        refine gj_istore (lv2 := [(9, gj_i ((gj_max (0 : Int32) (((gj_sI σ b0 (upd (σ.1 b0) 1 x9)).1 (b2 + 3) (Int32.toNatClampNeg z3)) - ((gj_sI σ b0 (upd (σ.1 b0) 1 x9)).1 (b2 + 3) (Int32.toNatClampNeg ((gj_sI σ b0 (upd (σ.1 b0) 1 x9)).1 b0 1))))) - (1 : Int32))), (8, gj_i z3), (7, gj_i (gj_max (0 : Int32) (((gj_sI σ b0 (upd (σ.1 b0) 1 x9)).1 (b2 + 3) (Int32.toNatClampNeg z3)) - ((gj_sI σ b0 (upd (σ.1 b0) 1 x9)).1 (b2 + 3) (Int32.toNatClampNeg ((gj_sI σ b0 (upd (σ.1 b0) 1 x9)).1 b0 1)))))), (6, gj_i z6), (0, gj_r b0), (1, gj_r b1), (2, gj_r b2), (3, gj_i b3), (4, gj_i z2), (5, gj_i z3)]) hO dX3_trace_109 (by decide) rfl ?_
        obtain ⟨z12, hz12, hf⟩ := gj_b hf
        have J12 : gj_G E X 11 none x 172 [(0, gj_r b0), (1, gj_r b1), (2, gj_r b2), (3, gj_i b3), (4, gj_i z2), (6, gj_i z6), (7, gj_i (gj_max (0 : Int32) (((gj_sI σ b0 (upd (σ.1 b0) 1 x9)).1 (b2 + 3) (Int32.toNatClampNeg z3)) - ((gj_sI σ b0 (upd (σ.1 b0) 1 x9)).1 (b2 + 3) (Int32.toNatClampNeg ((gj_sI σ b0 (upd (σ.1 b0) 1 x9)).1 b0 1))))))] [] z12 := by
          refine gj_aload_n hO 0 dX3_trace_172 rfl rfl ?_
          refine gj_iload hO 6 dX3_trace_173 rfl ?_
          refine gj_iload_n hO 3 dX3_trace_175 rfl rfl ?_
          refine gj_iload hO 4 dX3_trace_176 rfl ?_
          obtain ⟨x19, hc19, hf⟩ := gj_b hf
          refine ca_X3_put hO g0 hc19 wk_272 (by decide) (by decide) (Nat.le_of_ble_eq_true rfl) dX3_trace_178 ?_
          refine gj_iload hO 5 dX3_trace_181 rfl ?_
          refine gj_istore (lv2 := [(8, gj_i z6), (0, gj_r b0), (1, gj_r b1), (2, gj_r b2), (3, gj_i b3), (4, gj_i z2), (6, gj_i z6), (7, gj_i (gj_max (0 : Int32) (((gj_sI σ b0 (upd (σ.1 b0) 1 x9)).1 (b2 + 3) (Int32.toNatClampNeg z3)) - ((gj_sI σ b0 (upd (σ.1 b0) 1 x9)).1 (b2 + 3) (Int32.toNatClampNeg ((gj_sI σ b0 (upd (σ.1 b0) 1 x9)).1 b0 1))))))]) hO dX3_trace_183 (by decide) rfl ?_
          refine gj_iload hO 7 dX3_trace_185 rfl ?_
          refine gj_iconst (v := 1) hO dX3_trace_187 (by decide) ?_
          refine gj_iadd hO dX3_trace_188 ?_
          refine gj_istore (lv2 := [(9, gj_i ((gj_max (0 : Int32) (((gj_sI σ b0 (upd (σ.1 b0) 1 x9)).1 (b2 + 3) (Int32.toNatClampNeg z3)) - ((gj_sI σ b0 (upd (σ.1 b0) 1 x9)).1 (b2 + 3) (Int32.toNatClampNeg ((gj_sI σ b0 (upd (σ.1 b0) 1 x9)).1 b0 1))))) + (1 : Int32))), (8, gj_i z6), (0, gj_r b0), (1, gj_r b1), (2, gj_r b2), (3, gj_i b3), (4, gj_i z2), (6, gj_i z6), (7, gj_i (gj_max (0 : Int32) (((gj_sI σ b0 (upd (σ.1 b0) 1 x9)).1 (b2 + 3) (Int32.toNatClampNeg z3)) - ((gj_sI σ b0 (upd (σ.1 b0) 1 x9)).1 (b2 + 3) (Int32.toNatClampNeg ((gj_sI σ b0 (upd (σ.1 b0) 1 x9)).1 b0 1))))))]) hO dX3_trace_189 (by decide) rfl ?_
          obtain ⟨z20, hz20, hf⟩ := gj_b hf
          have J20 : gj_G E X 11 none x 263 [(0, gj_r b0), (1, gj_r b1), (3, gj_i b3)] [] z20 := by
            refine gj_aload_n hO 0 dX3_trace_263 rfl rfl ?_
            refine gj_aload_n hO 1 dX3_trace_264 rfl rfl ?_
            refine gj_iload_n hO 2 dX3_trace_265 rfl rfl ?_
            obtain ⟨x27, hc27, hf⟩ := gj_b hf
            refine ca_X3_findLeaving hO g0 g1 hc27 wk_274 (by decide) (by decide) (Nat.le_of_ble_eq_true rfl) dX3_trace_266 ?_
            obtain rfl := Option.some.inj hf
            exact gj_vret hO dX3_trace_269
          refine gj_sub [2, 3, 4, 5, 1, 0] rfl ?_
          exact gj_loop (head := fun a20 => gj_G E X 11 none x 191 [(0, gj_r b0), (1, gj_r b1), (2, gj_r b2), (3, gj_i b3), (8, gj_i a20.1), (9, gj_i a20.2.1)] [] a20.2.2) (exit := fun z20 => gj_G E X 11 none x 263 [(0, gj_r b0), (1, gj_r b1), (3, gj_i b3)] [] z20) (fun a20 x hf K => sb_X3_trace_l191 hO g0 g1 g2 hf K) _ _ _ hz20 J20
        refine gj_sub [4, 5, 6, 7, 8, 3, 2, 1, 0] rfl ?_
        exact gj_loop (head := fun a12 => gj_G E X 11 none x 111 [(0, gj_r b0), (1, gj_r b1), (2, gj_r b2), (3, gj_i b3), (4, gj_i z2), (6, gj_i z6), (7, gj_i (gj_max (0 : Int32) (((gj_sI σ b0 (upd (σ.1 b0) 1 x9)).1 (b2 + 3) (Int32.toNatClampNeg z3)) - ((gj_sI σ b0 (upd (σ.1 b0) 1 x9)).1 (b2 + 3) (Int32.toNatClampNeg ((gj_sI σ b0 (upd (σ.1 b0) 1 x9)).1 b0 1)))))), (8, gj_i a12.1), (9, gj_i a12.2.1)] [] a12.2.2) (exit := fun z12 => gj_G E X 11 none x 172 [(0, gj_r b0), (1, gj_r b1), (2, gj_r b2), (3, gj_i b3), (4, gj_i z2), (6, gj_i z6), (7, gj_i (gj_max (0 : Int32) (((gj_sI σ b0 (upd (σ.1 b0) 1 x9)).1 (b2 + 3) (Int32.toNatClampNeg z3)) - ((gj_sI σ b0 (upd (σ.1 b0) 1 x9)).1 (b2 + 3) (Int32.toNatClampNeg ((gj_sI σ b0 (upd (σ.1 b0) 1 x9)).1 b0 1))))))] [] z12) (fun a12 x hf K => sb_X3_trace_l111 hO g0 g1 g2 hf K) _ _ _ hz12 J12
      refine gj_if_eq (tgt := 53) hO dX3_trace_41 (by decide) (fun h => ?_) (fun h => ?_)
      · replace hz6 := gj_t h hz6
        refine gj_aload_n hO 2 dX3_trace_53 rfl rfl ?_
        refine gt_X1_6 hO (kdP_0 g1) (klP_0 g1) wk_266 dX3_trace_54 ?_
        refine gj_iload_n hO 4 dX3_trace_57 rfl rfl ?_
        obtain ⟨hb7, hz6⟩ := gj_c hz6
        refine gj_iald hO (klP_2 g1) (kdP_2 g1) hb7 dX3_trace_58 ?_
        obtain rfl := Option.some.inj hz6
        refine gj_sub [1, 2, 3, 4, 5, 0] rfl ?_
        exact J6
      · replace hz6 := gj_f h hz6
        refine gj_aload_n hO 2 dX3_trace_44 rfl rfl ?_
        refine gt_X1_7 hO (kdP_0 g1) (klP_0 g1) wk_265 dX3_trace_45 ?_
        refine gj_iload_n hO 4 dX3_trace_48 rfl rfl ?_
        obtain ⟨hb8, hz6⟩ := gj_c hz6
        refine gj_iald hO (klP_3 g1) (kdP_3 g1) hb8 dX3_trace_49 ?_
        refine gj_goto (tgt := 59) hO dX3_trace_50 (by decide) ?_
        obtain rfl := Option.some.inj hz6
        refine gj_sub [1, 2, 3, 4, 5, 0] rfl ?_
        exact J6
    refine gj_if_eq (tgt := 31) hO dX3_trace_19 (by decide) (fun h => ?_) (fun h => ?_)
    · replace hz3 := gj_t h hz3
      refine gj_aload_n hO 2 dX3_trace_31 rfl rfl ?_
      refine gt_X1_7 hO (kdP_0 g1) (klP_0 g1) wk_265 dX3_trace_32 ?_
      refine gj_iload_n hO 4 dX3_trace_35 rfl rfl ?_
      obtain ⟨hb4, hz3⟩ := gj_c hz3
      refine gj_iald hO (klP_3 g1) (kdP_3 g1) hb4 dX3_trace_36 ?_
      obtain rfl := Option.some.inj hz3
      refine gj_sub [1, 2, 3, 4, 0] rfl ?_
      exact J3
    · replace hz3 := gj_f h hz3
      refine gj_aload_n hO 2 dX3_trace_22 rfl rfl ?_
      refine gt_X1_6 hO (kdP_0 g1) (klP_0 g1) wk_266 dX3_trace_23 ?_
      refine gj_iload_n hO 4 dX3_trace_26 rfl rfl ?_
      obtain ⟨hb5, hz3⟩ := gj_c hz3
      refine gj_iald hO (klP_2 g1) (kdP_2 g1) hb5 dX3_trace_27 ?_
      refine gj_goto (tgt := 37) hO dX3_trace_28 (by decide) ?_
      obtain rfl := Option.some.inj hz3
      refine gj_sub [1, 2, 3, 4, 0] rfl ?_
      exact J3
  refine gj_icmp_eq (tgt := 14) hO dX3_trace_7 (by decide) (fun h => ?_) (fun h => ?_)
  · replace hz2 := gj_t h hz2
    refine gj_iconst (v := 0) hO dX3_trace_14 (by decide) ?_
    obtain rfl := Option.some.inj hz2
    refine gj_sub [0, 1, 2, 3] rfl ?_
    exact J2
  · replace hz2 := gj_f h hz2
    refine gj_iconst (v := 1) hO dX3_trace_10 (by decide) ?_
    refine gj_goto (tgt := 15) hO dX3_trace_11 (by decide) ?_
    obtain rfl := Option.some.inj hz2
    refine gj_sub [0, 1, 2, 3] rfl ?_
    exact J2
set_option maxHeartbeats 4000000 in
set_option maxRecDepth 100000 in
theorem ca_X3_trace {E : gj_E} {X : gj_X} {own : String} {cc : ByteArray} {nL : Nat} {rt : Option FieldType} {fr lo : Nat} {r : Option gj_V} {τ : gj_S} {pc : Nat} {lv : List (Nat × gj_V)} {st : List gj_V} {σ : gj_S} (hO : gj_O E X own cc nL rt fr lo) {b0 : Nat} {b1 : Nat} {b2 : Nat} {b3 : Int32} (g0 : isR b0) (g1 : isP b1) (g2 : isT b2) {idx : Nat} {x : gj_S} (hf : f_X3_trace b0 b1 b2 b3 σ = some x) (hl : Cond.methodLink own idx yX3_trace ∈ gj_gw) (hf1 : 3 ≤ fr) (hf2 : 77 ≤ lo) (hcat : ((st.map (gj_tv E.2.1)).map fun v => v.category).sum ≤ 8) (hd : decode cc pc = .ok (.invokevirtual idx, 3)) (k : gj_G E X nL r τ (pc + 3) lv (st) x) : gj_G E X nL r τ pc lv (gj_i b3 :: gj_r b2 :: gj_r b1 :: gj_r b0 :: st) σ :=
  gj_callV hO (o := b0) (vs := [gj_r b1, gj_r b2, gj_i b3]) (m_X3_trace g0 g1 g2 hf) hl wk_275 wk_276 wk_251 wk_277 (klR_0 g0) (kdR_0 g0) (by decide) (ci := 3) rfl (n := 3) (by decide +kernel) rfl hf1 hf2 rfl hcat hd k
