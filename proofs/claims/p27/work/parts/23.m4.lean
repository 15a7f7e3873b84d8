def f_X7_regrow (b0 : Nat) (σ : gj_S) : Option gj_S := ((f_X5_grow (b0 + 10) (b0 + 1) σ).bind fun x1 => some x1)
set_option maxHeartbeats 4000000 in
set_option maxRecDepth 100000 in
theorem m_X7_regrow {E : gj_E} {σ : gj_S} {b0 : Nat} (g0 : isY b0) {x : gj_S} (hf : f_X7_regrow b0 σ = some x) : gj_M E yX7_regrow cX7_regrow 1 none 3 72 [gj_r b0] σ none x := by
  refine gj_body (lv := [(0, gj_r b0)]) (by decide +kernel) (Nat.le_of_ble_eq_true rfl) rfl (fun X hO => ?_)
  replace hO : gj_O E X RX7 cX7_regrow 1 none 3 72 := hO
  unfold f_X7_regrow at hf
  refine gj_aload_n hO 0 dX7_regrow_0 rfl rfl ?_
  refine gt_X7_1 hO (kdY_0 g0) (klY_0 g0) wk_166 dX7_regrow_1 ?_
  refine gj_aload_n hO 0 dX7_regrow_4 rfl rfl ?_
  refine gt_X7_0 hO (kdY_0 g0) (klY_0 g0) wk_167 dX7_regrow_5 ?_
  obtain ⟨x1, hc1, hf⟩ := gj_b hf
  refine ca_X5_grow hO (isY_T g0) (isY_P g0) hc1 wk_168 (by decide) (by decide) (Nat.le_of_ble_eq_true rfl) dX7_regrow_8 ?_
  obtain rfl := Option.some.inj hf
  exact gj_vret hO dX7_regrow_11
set_option maxHeartbeats 4000000 in
set_option maxRecDepth 100000 in
theorem ca_X7_regrow {E : gj_E} {X : gj_X} {own : String} {cc : ByteArray} {nL : Nat} {rt : Option FieldType} {fr lo : Nat} {ce sl : Nat} {Q : State → Prop} {pc : Nat} {lv : List (Nat × gj_V)} {st : List gj_V} {σ : gj_S} (hO : gj_O E X own cc nL rt fr lo) {b0 : Nat} (g0 : isY b0) {idx : Nat} {x : gj_S} (hf : f_X7_regrow b0 σ = some x) (hl : Cond.methodLink own idx yX7_regrow ∈ gj_gw) (hf1 : 4 ≤ fr) (hf2 : 92 ≤ lo) (hcat : ((st.map (gj_tv E.2.1)).map fun v => v.category).sum ≤ 8) (hd : decode cc pc = .ok (.invokevirtual idx, 3)) (k : gj_H E X nL ce sl Q (pc + 3) lv (st) x) : gj_H E X nL ce sl Q pc lv (gj_r b0 :: st) σ :=
  gj_callV hO (o := b0) (vs := []) (m_X7_regrow g0 hf) (gj_Iany (by decide)) hl wk_169 wk_170 wk_171 wk_172 (klY_0 g0) (kdY_0 g0) (by decide) (ci := 7) rfl (n := 0) (by decide +kernel) rfl hf1 hf2 rfl hcat hd k
def f_X7_beginAll (b0 : Nat) (σ : gj_S) : Option gj_S := ((f_X1_begin (b0 + 1) σ).bind fun x1 => ((f_X7_regrow b0 x1).bind fun x2 => some x2))
set_option maxHeartbeats 4000000 in
set_option maxRecDepth 100000 in
theorem m_X7_beginAll {E : gj_E} {σ : gj_S} {b0 : Nat} (g0 : isY b0) {x : gj_S} (hf : f_X7_beginAll b0 σ = some x) : gj_M E yX7_beginAll cX7_beginAll 1 none 4 92 [gj_r b0] σ none x := by
  refine gj_body (lv := [(0, gj_r b0)]) (by decide +kernel) (Nat.le_of_ble_eq_true rfl) rfl (fun X hO => ?_)
  replace hO : gj_O E X RX7 cX7_beginAll 1 none 4 92 := hO
  unfold f_X7_beginAll at hf
  refine gj_aload_n hO 0 dX7_beginAll_0 rfl rfl ?_
  refine gt_X7_0 hO (kdY_0 g0) (klY_0 g0) wk_167 dX7_beginAll_1 ?_
  obtain ⟨x1, hc1, hf⟩ := gj_b hf
  refine ca_X1_begin hO (isY_P g0) hc1 wk_173 (by decide) (by decide) (Nat.le_of_ble_eq_true rfl) dX7_beginAll_4 ?_
  refine gj_aload_n hO 0 dX7_beginAll_7 rfl rfl ?_
  obtain ⟨x2, hc2, hf⟩ := gj_b hf
  refine ca_X7_regrow hO g0 hc2 wk_174 (by decide) (by decide) (Nat.le_of_ble_eq_true rfl) dX7_beginAll_8 ?_
  obtain rfl := Option.some.inj hf
  exact gj_vret hO dX7_beginAll_11
set_option maxHeartbeats 4000000 in
set_option maxRecDepth 100000 in
theorem ca_X7_beginAll {E : gj_E} {X : gj_X} {own : String} {cc : ByteArray} {nL : Nat} {rt : Option FieldType} {fr lo : Nat} {ce sl : Nat} {Q : State → Prop} {pc : Nat} {lv : List (Nat × gj_V)} {st : List gj_V} {σ : gj_S} (hO : gj_O E X own cc nL rt fr lo) {b0 : Nat} (g0 : isY b0) {idx : Nat} {x : gj_S} (hf : f_X7_beginAll b0 σ = some x) (hl : Cond.methodLink own idx yX7_beginAll ∈ gj_gw) (hf1 : 5 ≤ fr) (hf2 : 112 ≤ lo) (hcat : ((st.map (gj_tv E.2.1)).map fun v => v.category).sum ≤ 8) (hd : decode cc pc = .ok (.invokevirtual idx, 3)) (k : gj_H E X nL ce sl Q (pc + 3) lv (st) x) : gj_H E X nL ce sl Q pc lv (gj_r b0 :: st) σ :=
  gj_callV hO (o := b0) (vs := []) (m_X7_beginAll g0 hf) (gj_Iany (by decide)) hl wk_175 wk_176 wk_171 wk_177 (klY_0 g0) (kdY_0 g0) (by decide) (ci := 7) rfl (n := 0) (by decide +kernel) rfl hf1 hf2 rfl hcat hd k
def f_X0_forget  (σ : gj_S) : Option gj_S := some (gj_sI σ 54 (upd (σ.1 54) 2 (0 : Int32)))
set_option maxHeartbeats 4000000 in
set_option maxRecDepth 100000 in
theorem m_X0_forget {E : gj_E} {σ : gj_S}   {x : gj_S} (hf : f_X0_forget  σ = some x) : gj_M E yX0_forget cX0_forget 1 none 0 0 [gj_r 54] σ none x := by
  refine gj_body (lv := [(0, gj_r 54)]) (by decide +kernel) (Nat.le_of_ble_eq_true rfl) rfl (fun X hO => ?_)
  replace hO : gj_O E X RX0 cX0_forget 1 none 0 0 := hO
  unfold f_X0_forget at hf
  refine gj_aload_n hO 0 dX0_forget_0 rfl rfl ?_
  refine gj_iconst (v := 0) hO dX0_forget_1 (by decide) ?_
  refine pt_X0_2 hO wk_178 dX0_forget_2 ?_
  obtain rfl := Option.some.inj hf
  exact gj_vret hO dX0_forget_5
set_option maxHeartbeats 4000000 in
set_option maxRecDepth 100000 in
theorem ca_X0_forget {E : gj_E} {X : gj_X} {own : String} {cc : ByteArray} {nL : Nat} {rt : Option FieldType} {fr lo : Nat} {ce sl : Nat} {Q : State → Prop} {pc : Nat} {lv : List (Nat × gj_V)} {st : List gj_V} {σ : gj_S} (hO : gj_O E X own cc nL rt fr lo)   {idx : Nat} {x : gj_S} (hf : f_X0_forget  σ = some x) (hl : Cond.methodLink own idx yX0_forget ∈ gj_gw) (hf1 : 1 ≤ fr) (hf2 : 20 ≤ lo) (hcat : ((st.map (gj_tv E.2.1)).map fun v => v.category).sum ≤ 8) (hd : decode cc pc = .ok (.invokevirtual idx, 3)) (k : gj_H E X nL ce sl Q (pc + 3) lv (st) x) : gj_H E X nL ce sl Q pc lv (gj_r 54 :: st) σ :=
  gj_callV hO (o := 54) (vs := []) (m_X0_forget  hf) (gj_Iany (by decide)) hl wk_179 wk_180 wk_181 wk_182 kl_54 kd_54 (by decide) (ci := 0) rfl (n := 0) (by decide +kernel) rfl hf1 hf2 rfl hcat hd k
def fb_X8_text_l93  (a10093 : (Int32 × gj_S)) : Option (gj_S ⊕ (Int32 × gj_S)) := (if (2 : Int32) ≤ a10093.1 then some (.inl a10093.2) else (if gj_in a10093.1 2 then some (.inr ((a10093.1 + 1), (gj_sI a10093.2 165 (upd (a10093.2.1 165) (Int32.toNatClampNeg a10093.1) (vp_nar .boolean (0 : Int32)))))) else none))
def f_X8_text (b1 : Int32) (σ : gj_S) : Option (Int32 × gj_S) := (if b1 < 0 then some ((-1 : Int32), σ) else (if b1 ≤ (σ.1 0 1) then ((f_X2_readText b1 σ).bind fun x1 => (if x1.1 = (-1 : Int32) then ((f_X1_copyFrom 17 3 (gj_sI x1.2 0 (upd (x1.2.1 0) 1 (0 : Int32)))).bind fun x2 => ((f_X7_beginAll 16 (gj_sJ x2 15 (va_cpy (x2.2.1 12) (x2.2.1 15) 0 0 (Int32.toNatClampNeg (16 : Int32))))).bind fun x3 => ((f_X0_forget x3).bind fun x4 => ((gj_lp (fb_X8_text_l93) 5000 ((0 : Int32), x4)).bind fun z5 => some ((z5.1 17 0), z5))))) else some (((-2 : Int32) - x1.1), (gj_sI x1.2 0 (upd (x1.2.1 0) 1 (0 : Int32)))))) else some ((-1 : Int32), σ)))
set_option maxHeartbeats 4000000 in
set_option maxRecDepth 100000 in
theorem sb_X8_text_l93 {E : gj_E} {X : gj_X} {r : Option gj_V} {τ : gj_S} (hO : gj_O E X RX8 cX8_text 4 (some .int) 6 141)  {a10093_0 : Int32} {a10093_1 : gj_S} {x : gj_S ⊕ (Int32 × gj_S)} (hf : fb_X8_text_l93  (a10093_0, a10093_1) = some x) (K : gj_K (fun z5 => gj_G E X 4 r τ 111 [(0, gj_r 0)] [] z5) (fun a10093 => gj_G E X 4 r τ 93 [(0, gj_r 0), (3, gj_i a10093.1)] [] a10093.2) x) : gj_G E X 4 r τ 93 [(0, gj_r 0), (3, gj_i a10093_0)] [] a10093_1 := by
  unfold fb_X8_text_l93 at hf
  dsimp only at hf
  refine gj_iload_n hO 1 dX8_text_93 rfl rfl ?_
  refine gj_iconst (v := 2) hO dX8_text_94 (by decide) ?_
  refine gj_icmp_ge (tgt := 111) hO dX8_text_95 (by decide) (fun h => ?_) (fun h => ?_)
  · replace hf := gj_t h hf
    obtain rfl := Option.some.inj hf
    refine gj_sub (lv2 := [(0, gj_r 0)]) [0] rfl ?_
    exact K
  · replace hf := gj_f h hf
    refine gj_aload_n hO 0 dX8_text_98 rfl rfl ?_
    refine gt_X8_8 hO wk_195 dX8_text_99 ?_
    refine gj_iload_n hO 1 dX8_text_102 rfl rfl ?_
    refine gj_iconst (v := 0) hO dX8_text_103 (by decide) ?_
    obtain ⟨hb19301, hf⟩ := gj_c hf
    refine gj_zast hO kl_165 kd_165 hb19301 dX8_text_104 ?_
    refine gj_iinc (v := (a10093_0 + 1)) (lv2 := [(3, gj_i (a10093_0 + 1)), (0, gj_r 0)]) hO 1 dX8_text_105 rfl rfl (by decide) rfl ?_
    refine gj_goto (tgt := 93) hO dX8_text_108 (by decide) ?_
    obtain rfl := Option.some.inj hf
    refine gj_sub (lv2 := [(0, gj_r 0), (3, gj_i (a10093_0 + 1))]) [1, 0] rfl ?_
    exact K
set_option maxHeartbeats 4000000 in
set_option maxRecDepth 100000 in
theorem m_X8_text {E : gj_E} {σ : gj_S} {b1 : Int32}  {x : Int32} {y : gj_S} (hf : f_X8_text b1 σ = some (x, y)) : gj_M E yX8_text cX8_text 4 (some .int) 6 141 [gj_r 0, gj_i b1] σ (some (gj_i x)) y := by
  refine gj_body (lv := [(0, gj_r 0), (1, gj_i b1)]) (by decide +kernel) (Nat.le_of_ble_eq_true rfl) rfl (fun X hO => ?_)
  replace hO : gj_O E X RX8 cX8_text 4 (some .int) 6 141 := hO
  unfold f_X8_text at hf
  refine gj_iload_n hO 1 dX8_text_0 rfl rfl ?_
  refine gj_if_lt (tgt := 12) hO dX8_text_1 (by decide) (fun h => ?_) (fun h => ?_)
  · replace hf := gj_t h hf
    refine gj_iconst (v := (-1)) hO dX8_text_12 (by decide) ?_
    replace hf := Option.some.inj hf
    simp only [Prod.mk.injEq] at hf
    obtain ⟨rfl, rfl⟩ := hf
    exact gj_iret hO dX8_text_13
  · replace hf := gj_f h hf
    refine gj_iload_n hO 1 dX8_text_4 rfl rfl ?_
    refine gj_aload_n hO 0 dX8_text_5 rfl rfl ?_
    refine gt_X8_1 hO wk_0 dX8_text_6 ?_
    refine gj_icmp_le (tgt := 14) hO dX8_text_9 (by decide) (fun h => ?_) (fun h => ?_)
    · replace hf := gj_t h hf
      refine gj_aload_n hO 0 dX8_text_14 rfl rfl ?_
      refine gt_X8_2 hO wk_183 dX8_text_15 ?_
      refine gj_aload_n hO 0 dX8_text_18 rfl rfl ?_
      refine gt_X8_0 hO wk_1 dX8_text_19 ?_
      refine gj_iload_n hO 1 dX8_text_22 rfl rfl ?_
      obtain ⟨⟨x1_v, x1_s⟩, hc1, hf⟩ := gj_b hf
      dsimp only at hf
      refine ca_X2_readText hO  hc1 wk_184 (by decide) (by decide) (Nat.le_of_ble_eq_true rfl) dX8_text_23 ?_
      refine gj_istore_n (lv2 := [(2, gj_i x1_v), (0, gj_r 0), (1, gj_i b1)]) hO dX8_text_26 rfl (by decide) rfl ?_
      refine gj_aload_n hO 1 dX8_text_27 rfl rfl ?_
      refine gj_iconst (v := 0) hO dX8_text_28 (by decide) ?_
      refine pt_X8_1 hO wk_0 dX8_text_29 ?_
      refine gj_iload_n hO 0 dX8_text_32 rfl rfl ?_
      refine gj_iconst (v := (-1)) hO dX8_text_33 (by decide) ?_
      refine gj_icmp_eq (tgt := 42) hO dX8_text_34 (by decide) (fun h => ?_) (fun h => ?_)
      · replace hf := gj_t h hf
        refine gj_aload_n hO 1 dX8_text_42 rfl rfl ?_
        refine gt_X8_4 hO wk_185 dX8_text_43 ?_
        refine gt_X7_0 hO kd_16 kl_16 wk_186 dX8_text_46 ?_
        refine gj_aload_n hO 1 dX8_text_49 rfl rfl ?_
        refine gt_X8_2 hO wk_183 dX8_text_50 ?_
        refine gt_X2_0 hO wk_187 dX8_text_53 ?_
        obtain ⟨x2, hc2, hf⟩ := gj_b hf
        refine ca_X1_copyFrom hO isP_17 isP_3 hc2 wk_188 (by decide) (by decide) (Nat.le_of_ble_eq_true rfl) dX8_text_56 ?_
        refine gj_aload_n hO 1 dX8_text_59 rfl rfl ?_
        refine gt_X8_2 hO wk_183 dX8_text_60 ?_
        refine gt_X2_1 hO wk_189 dX8_text_63 ?_
        refine gj_iconst (v := 0) hO dX8_text_66 (by decide) ?_
        refine gj_aload_n hO 1 dX8_text_67 rfl rfl ?_
        refine gt_X8_3 hO wk_190 dX8_text_68 ?_
        refine gj_iconst (v := 0) hO dX8_text_71 (by decide) ?_
        refine gj_bipush (v := 16) hO dX8_text_72 (by decide) ?_
        refine gj_cpyJ hO kl_12 kd_12 kl_15 kd_15 wk_191 (by decide) (by decide) (by decide) (by decide) (by decide) (Nat.le_of_ble_eq_true rfl) dX8_text_74 ?_
        refine gj_aload_n hO 1 dX8_text_77 rfl rfl ?_
        refine gt_X8_4 hO wk_185 dX8_text_78 ?_
        obtain ⟨x3, hc3, hf⟩ := gj_b hf
        refine ca_X7_beginAll hO isY_16 hc3 wk_192 (by decide) (by decide) (Nat.le_of_ble_eq_true rfl) dX8_text_81 ?_
        refine gj_aload_n hO 1 dX8_text_84 rfl rfl ?_
        refine gt_X8_6 hO wk_193 dX8_text_85 ?_
        obtain ⟨x4, hc4, hf⟩ := gj_b hf
        refine ca_X0_forget hO  hc4 wk_194 (by decide) (by decide) (Nat.le_of_ble_eq_true rfl) dX8_text_88 ?_
        refine gj_iconst (v := 0) hO dX8_text_91 (by decide) ?_
        refine gj_istore_n (lv2 := [(3, gj_i (0 : Int32)), (2, gj_i x1_v), (0, gj_r 0), (1, gj_i b1)]) hO dX8_text_92 rfl (by decide) rfl ?_
        obtain ⟨z5, hz5, hf⟩ := gj_b hf
        have J5 : gj_G E X 4 (some (gj_i x)) y 111 [(0, gj_r 0)] [] z5 := by
          refine gj_aload_n hO 0 dX8_text_111 rfl rfl ?_
          refine gt_X8_4 hO wk_185 dX8_text_112 ?_
          refine gt_X7_0 hO kd_16 kl_16 wk_186 dX8_text_115 ?_
          refine gt_X1_0 hO kd_17 kl_17 wk_196 dX8_text_118 ?_
          replace hf := Option.some.inj hf
          simp only [Prod.mk.injEq] at hf
          obtain ⟨rfl, rfl⟩ := hf
          exact gj_iret hO dX8_text_121
        refine gj_sub (lv2 := [(0, gj_r 0), (3, gj_i (0 : Int32))]) [2, 0] rfl ?_
        exact gj_loop (head := fun a10093 => gj_G E X 4 (some (gj_i x)) y 93 [(0, gj_r 0), (3, gj_i a10093.1)] [] a10093.2) (exit := fun z5 => gj_G E X 4 (some (gj_i x)) y 111 [(0, gj_r 0)] [] z5) (fun a10093 x hf K => by obtain ⟨a10093_0, a10093_1⟩ := a10093; exact sb_X8_text_l93 hO hf K) _ _ _ hz5 J5
      · replace hf := gj_f h hf
        refine gj_bipush (v := (-2)) hO dX8_text_37 (by decide) ?_
        refine gj_iload_n hO 0 dX8_text_39 rfl rfl ?_
        refine gj_isub hO dX8_text_40 ?_
        replace hf := Option.some.inj hf
        simp only [Prod.mk.injEq] at hf
        obtain ⟨rfl, rfl⟩ := hf
        exact gj_iret hO dX8_text_41
    · replace hf := gj_f h hf
      refine gj_iconst (v := (-1)) hO dX8_text_12 (by decide) ?_
      replace hf := Option.some.inj hf
      simp only [Prod.mk.injEq] at hf
      obtain ⟨rfl, rfl⟩ := hf
      exact gj_iret hO dX8_text_13
set_option maxHeartbeats 4000000 in
set_option maxRecDepth 100000 in
theorem ca_X8_text {E : gj_E} {X : gj_X} {own : String} {cc : ByteArray} {nL : Nat} {rt : Option FieldType} {fr lo : Nat} {ce sl : Nat} {Q : State → Prop} {pc : Nat} {lv : List (Nat × gj_V)} {st : List gj_V} {σ : gj_S} (hO : gj_O E X own cc nL rt fr lo) {b1 : Int32}  {idx : Nat} {x : Int32} {y : gj_S} (hf : f_X8_text b1 σ = some (x, y)) (hl : Cond.methodLink own idx yX8_text ∈ gj_gw) (hf1 : 7 ≤ fr) (hf2 : 164 ≤ lo) (hcat : ((st.map (gj_tv E.2.1)).map fun v => v.category).sum ≤ 8) (hd : decode cc pc = .ok (.invokevirtual idx, 3)) (k : gj_H E X nL ce sl Q (pc + 3) lv ((gj_i x) :: st) y) : gj_H E X nL ce sl Q pc lv (gj_i b1 :: gj_r 0 :: st) σ :=
  gj_callV hO (o := 0) (vs := [gj_i b1]) (m_X8_text  hf) (gj_Iany (by decide)) hl wk_197 wk_198 wk_4 wk_199 kl_0 kd_0 (by decide) (ci := 8) rfl (n := 1) (by decide +kernel) rfl hf1 hf2 rfl hcat hd k
def f_X1_hasDock (b0 : Nat) (b1 : Int32) (σ : gj_S) : Option Int32 := (if b1 < 0 then some (0 : Int32) else (if (σ.1 b0 0) ≤ b1 then some (0 : Int32) else some (1 : Int32)))
set_option maxHeartbeats 4000000 in
set_option maxRecDepth 100000 in
theorem m_X1_hasDock {E : gj_E} {σ : gj_S} {b0 : Nat} {b1 : Int32} (g0 : isP b0) {x : Int32} (hf : f_X1_hasDock b0 b1 σ = some x) : gj_M E yX1_hasDock cX1_hasDock 2 (some .boolean) 0 0 [gj_r b0, gj_i b1] σ (some (gj_i x)) σ := by
  refine gj_body (lv := [(0, gj_r b0), (1, gj_i b1)]) (by decide +kernel) (Nat.le_of_ble_eq_true rfl) rfl (fun X hO => ?_)
  replace hO : gj_O E X RX1 cX1_hasDock 2 (some .boolean) 0 0 := hO
  unfold f_X1_hasDock at hf
  refine gj_iload_n hO 1 dX1_hasDock_0 rfl rfl ?_
  refine gj_if_lt (tgt := 16) hO dX1_hasDock_1 (by decide) (fun h => ?_) (fun h => ?_)
  · replace hf := gj_t h hf
    refine gj_iconst (v := 0) hO dX1_hasDock_16 (by decide) ?_
    obtain rfl := Option.some.inj hf
    exact gj_zret hO (Or.inl rfl) dX1_hasDock_17
  · replace hf := gj_f h hf
    refine gj_iload_n hO 1 dX1_hasDock_4 rfl rfl ?_
    refine gj_aload_n hO 0 dX1_hasDock_5 rfl rfl ?_
    refine gt_X1_0 hO (kdP_0 g0) (klP_0 g0) wk_10 dX1_hasDock_6 ?_
    refine gj_icmp_ge (tgt := 16) hO dX1_hasDock_9 (by decide) (fun h => ?_) (fun h => ?_)
    · replace hf := gj_t h hf
      refine gj_iconst (v := 0) hO dX1_hasDock_16 (by decide) ?_
      obtain rfl := Option.some.inj hf
      exact gj_zret hO (Or.inl rfl) dX1_hasDock_17
    · replace hf := gj_f h hf
      refine gj_iconst (v := 1) hO dX1_hasDock_12 (by decide) ?_
      refine gj_goto (tgt := 17) hO dX1_hasDock_13 (by decide) ?_
      obtain rfl := Option.some.inj hf
      exact gj_zret hO (Or.inr rfl) dX1_hasDock_17
set_option maxHeartbeats 4000000 in
set_option maxRecDepth 100000 in
theorem ca_X1_hasDock {E : gj_E} {X : gj_X} {own : String} {cc : ByteArray} {nL : Nat} {rt : Option FieldType} {fr lo : Nat} {ce sl : Nat} {Q : State → Prop} {pc : Nat} {lv : List (Nat × gj_V)} {st : List gj_V} {σ : gj_S} (hO : gj_O E X own cc nL rt fr lo) {b0 : Nat} {b1 : Int32} (g0 : isP b0) {idx : Nat} {x : Int32} (hf : f_X1_hasDock b0 b1 σ = some x) (hl : Cond.methodLink own idx yX1_hasDock ∈ gj_gw) (hf1 : 1 ≤ fr) (hf2 : 21 ≤ lo) (hcat : ((st.map (gj_tv E.2.1)).map fun v => v.category).sum ≤ 8) (hd : decode cc pc = .ok (.invokevirtual idx, 3)) (k : gj_H E X nL ce sl Q (pc + 3) lv ((gj_i x) :: st) σ) : gj_H E X nL ce sl Q pc lv (gj_i b1 :: gj_r b0 :: st) σ :=
  gj_callV hO (o := b0) (vs := [gj_i b1]) (m_X1_hasDock g0 hf) (gj_Iany (by decide)) hl wk_200 wk_201 wk_15 wk_202 (klP_0 g0) (kdP_0 g0) (by decide) (ci := 1) rfl (n := 1) (by decide +kernel) rfl hf1 hf2 rfl hcat hd k
def fb_X5_hangsFrom_l5 (b0 : Nat) (b2 : Int32) (σ : gj_S) (a10005 : (Int32 × Int32)) : Option (Int32 ⊕ (Int32 × Int32)) := (if (9 : Int32) ≤ a10005.2 then some (.inl a10005.1) else (if a10005.1 = b2 then some (.inl a10005.1) else (if a10005.1 = (8 : Int32) then some (.inl a10005.1) else (if gj_in a10005.1 9 then some (.inr ((σ.1 (b0 + 2) (Int32.toNatClampNeg a10005.1)), (a10005.2 + 1))) else none))))
def f_X5_hangsFrom (b0 : Nat) (b1 : Int32) (b2 : Int32) (σ : gj_S) : Option Int32 := ((gj_lp (fb_X5_hangsFrom_l5 b0 b2 σ) 5000 (b1, (0 : Int32))).bind fun z1 => (if z1 = b2 then some (1 : Int32) else some (0 : Int32)))
set_option maxHeartbeats 4000000 in
set_option maxRecDepth 100000 in
theorem sb_X5_hangsFrom_l5 {E : gj_E} {X : gj_X} {r : Option gj_V} {τ : gj_S} (hO : gj_O E X RX5 cX5_hangsFrom 5 (some .boolean) 0 0) {b0 : Nat} {b2 : Int32} {σ : gj_S} (g0 : isT b0) {a10005_0 : Int32} {a10005_1 : Int32} {x : Int32 ⊕ (Int32 × Int32)} (hf : fb_X5_hangsFrom_l5 b0 b2 σ (a10005_0, a10005_1) = some x) (K : gj_K (fun z1 => gj_G E X 5 r τ 36 [(2, gj_i b2), (3, gj_i z1)] [] σ) (fun a10005 => gj_G E X 5 r τ 5 [(0, gj_r b0), (2, gj_i b2), (3, gj_i a10005.1), (4, gj_i a10005.2)] [] σ) x) : gj_G E X 5 r τ 5 [(0, gj_r b0), (2, gj_i b2), (3, gj_i a10005_0), (4, gj_i a10005_1)] [] σ := by
  unfold fb_X5_hangsFrom_l5 at hf
  dsimp only at hf
  refine gj_iload hO 3 dX5_hangsFrom_5 rfl ?_
  refine gj_bipush (v := 9) hO dX5_hangsFrom_7 (by decide) ?_
  refine gj_icmp_ge (tgt := 36) hO dX5_hangsFrom_9 (by decide) (fun h => ?_) (fun h => ?_)
  · replace hf := gj_t h hf
    obtain rfl := Option.some.inj hf
    refine gj_sub (lv2 := [(2, gj_i b2), (3, gj_i a10005_0)]) [1, 2] rfl ?_
    exact K
  · replace hf := gj_f h hf
    refine gj_iload_n hO 2 dX5_hangsFrom_12 rfl rfl ?_
    refine gj_iload_n hO 1 dX5_hangsFrom_13 rfl rfl ?_
    refine gj_icmp_eq (tgt := 36) hO dX5_hangsFrom_14 (by decide) (fun h => ?_) (fun h => ?_)
    · replace hf := gj_t h hf
      obtain rfl := Option.some.inj hf
      refine gj_sub (lv2 := [(2, gj_i b2), (3, gj_i a10005_0)]) [1, 2] rfl ?_
      exact K
    · replace hf := gj_f h hf
      refine gj_iload_n hO 2 dX5_hangsFrom_17 rfl rfl ?_
      refine gj_bipush (v := 8) hO dX5_hangsFrom_18 (by decide) ?_
      refine gj_icmp_eq (tgt := 36) hO dX5_hangsFrom_20 (by decide) (fun h => ?_) (fun h => ?_)
      · replace hf := gj_t h hf
        obtain rfl := Option.some.inj hf
        refine gj_sub (lv2 := [(2, gj_i b2), (3, gj_i a10005_0)]) [1, 2] rfl ?_
        exact K
      · replace hf := gj_f h hf
        refine gj_aload_n hO 0 dX5_hangsFrom_23 rfl rfl ?_
        refine gt_X5_1 hO (kdT_0 g0) (klT_0 g0) wk_144 dX5_hangsFrom_24 ?_
        refine gj_iload_n hO 2 dX5_hangsFrom_27 rfl rfl ?_
        obtain ⟨hb10501, hf⟩ := gj_c hf
        refine gj_iald hO (klT_2 g0) (kdT_2 g0) hb10501 dX5_hangsFrom_28 ?_
        refine gj_istore_n (lv2 := [(3, gj_i (σ.1 (b0 + 2) (Int32.toNatClampNeg a10005_0))), (0, gj_r b0), (2, gj_i b2), (4, gj_i a10005_1)]) hO dX5_hangsFrom_29 rfl (by decide) rfl ?_
        refine gj_iinc (v := (a10005_1 + 1)) (lv2 := [(4, gj_i (a10005_1 + 1)), (3, gj_i (σ.1 (b0 + 2) (Int32.toNatClampNeg a10005_0))), (0, gj_r b0), (2, gj_i b2)]) hO 3 dX5_hangsFrom_30 rfl rfl (by decide) rfl ?_
        refine gj_goto (tgt := 5) hO dX5_hangsFrom_33 (by decide) ?_
        obtain rfl := Option.some.inj hf
        refine gj_sub (lv2 := [(0, gj_r b0), (2, gj_i b2), (3, gj_i (σ.1 (b0 + 2) (Int32.toNatClampNeg a10005_0))), (4, gj_i (a10005_1 + 1))]) [2, 3, 1, 0] rfl ?_
        exact K
set_option maxHeartbeats 4000000 in
set_option maxRecDepth 100000 in
theorem m_X5_hangsFrom {E : gj_E} {σ : gj_S} {b0 : Nat} {b1 : Int32} {b2 : Int32} (g0 : isT b0) {x : Int32} (hf : f_X5_hangsFrom b0 b1 b2 σ = some x) : gj_M E yX5_hangsFrom cX5_hangsFrom 5 (some .boolean) 0 0 [gj_r b0, gj_i b1, gj_i b2] σ (some (gj_i x)) σ := by
  refine gj_body (lv := [(0, gj_r b0), (1, gj_i b1), (2, gj_i b2)]) (by decide +kernel) (Nat.le_of_ble_eq_true rfl) rfl (fun X hO => ?_)
  replace hO : gj_O E X RX5 cX5_hangsFrom 5 (some .boolean) 0 0 := hO
  unfold f_X5_hangsFrom at hf
  refine gj_iload_n hO 1 dX5_hangsFrom_0 rfl rfl ?_
  refine gj_istore_n (lv2 := [(3, gj_i b1), (0, gj_r b0), (1, gj_i b1), (2, gj_i b2)]) hO dX5_hangsFrom_1 rfl (by decide) rfl ?_
  refine gj_iconst (v := 0) hO dX5_hangsFrom_2 (by decide) ?_
  refine gj_istore (lv2 := [(4, gj_i (0 : Int32)), (3, gj_i b1), (0, gj_r b0), (1, gj_i b1), (2, gj_i b2)]) hO dX5_hangsFrom_3 (by decide) rfl ?_
  obtain ⟨z1, hz1, hf⟩ := gj_b hf
  have J1 : gj_G E X 5 (some (gj_i x)) σ 36 [(2, gj_i b2), (3, gj_i z1)] [] σ := by
    refine gj_iload_n hO 1 dX5_hangsFrom_36 rfl rfl ?_
    refine gj_iload_n hO 0 dX5_hangsFrom_37 rfl rfl ?_
    refine gj_icmp_ne (tgt := 45) hO dX5_hangsFrom_38 (by decide) (fun h => ?_) (fun h => ?_)
    · replace hf := gj_f h hf
      refine gj_iconst (v := 0) hO dX5_hangsFrom_45 (by decide) ?_
      obtain rfl := Option.some.inj hf
      exact gj_zret hO (Or.inl rfl) dX5_hangsFrom_46
    · replace hf := gj_t h hf
      refine gj_iconst (v := 1) hO dX5_hangsFrom_41 (by decide) ?_
      refine gj_goto (tgt := 46) hO dX5_hangsFrom_42 (by decide) ?_
      obtain rfl := Option.some.inj hf
      exact gj_zret hO (Or.inr rfl) dX5_hangsFrom_46
  refine gj_sub (lv2 := [(0, gj_r b0), (2, gj_i b2), (3, gj_i b1), (4, gj_i (0 : Int32))]) [2, 4, 1, 0] rfl ?_
  exact gj_loop (head := fun a10005 => gj_G E X 5 (some (gj_i x)) σ 5 [(0, gj_r b0), (2, gj_i b2), (3, gj_i a10005.1), (4, gj_i a10005.2)] [] σ) (exit := fun z1 => gj_G E X 5 (some (gj_i x)) σ 36 [(2, gj_i b2), (3, gj_i z1)] [] σ) (fun a10005 x hf K => by obtain ⟨a10005_0, a10005_1⟩ := a10005; exact sb_X5_hangsFrom_l5 hO g0 hf K) _ _ _ hz1 J1
set_option maxHeartbeats 4000000 in
set_option maxRecDepth 100000 in
theorem ca_X5_hangsFrom {E : gj_E} {X : gj_X} {own : String} {cc : ByteArray} {nL : Nat} {rt : Option FieldType} {fr lo : Nat} {ce sl : Nat} {Q : State → Prop} {pc : Nat} {lv : List (Nat × gj_V)} {st : List gj_V} {σ : gj_S} (hO : gj_O E X own cc nL rt fr lo) {b0 : Nat} {b1 : Int32} {b2 : Int32} (g0 : isT b0) {idx : Nat} {x : Int32} (hf : f_X5_hangsFrom b0 b1 b2 σ = some x) (hl : Cond.methodLink own idx yX5_hangsFrom ∈ gj_gw) (hf1 : 1 ≤ fr) (hf2 : 24 ≤ lo) (hcat : ((st.map (gj_tv E.2.1)).map fun v => v.category).sum ≤ 8) (hd : decode cc pc = .ok (.invokevirtual idx, 3)) (k : gj_H E X nL ce sl Q (pc + 3) lv ((gj_i x) :: st) σ) : gj_H E X nL ce sl Q pc lv (gj_i b2 :: gj_i b1 :: gj_r b0 :: st) σ :=
  gj_callV hO (o := b0) (vs := [gj_i b1, gj_i b2]) (m_X5_hangsFrom g0 hf) (gj_Iany (by decide)) hl wk_203 wk_204 wk_149 wk_205 (klT_0 g0) (kdT_0 g0) (by decide) (ci := 5) rfl (n := 2) (by decide +kernel) rfl hf1 hf2 rfl hcat hd k
def fb_X7_countHanging_l4 (b0 : Nat) (b1 : Int32) (σ : gj_S) (a10004 : (Int32 × Int32)) : Option (Int32 ⊕ (Int32 × Int32)) := (if (σ.1 (b0 + 1) 0) ≤ a10004.2 then some (.inl a10004.1) else ((f_X5_hangsFrom (b0 + 10) a10004.2 b1 σ).bind fun x10401 => (if x10401 = 0 then some (.inr ((a10004.1 + (0 : Int32)), (a10004.2 + 1))) else some (.inr ((a10004.1 + (1 : Int32)), (a10004.2 + 1))))))
def f_X7_countHanging (b0 : Nat) (b1 : Int32) (σ : gj_S) : Option Int32 := ((gj_lp (fb_X7_countHanging_l4 b0 b1 σ) 5000 ((0 : Int32), (0 : Int32))).bind fun z1 => some z1)
set_option maxHeartbeats 4000000 in
set_option maxRecDepth 100000 in
theorem sb_X7_countHanging_l4 {E : gj_E} {X : gj_X} {r : Option gj_V} {τ : gj_S} (hO : gj_O E X RX7 cX7_countHanging 4 (some .int) 1 24) {b0 : Nat} {b1 : Int32} {σ : gj_S} (g0 : isY b0) {a10004_0 : Int32} {a10004_1 : Int32} {x : Int32 ⊕ (Int32 × Int32)} (hf : fb_X7_countHanging_l4 b0 b1 σ (a10004_0, a10004_1) = some x) (K : gj_K (fun z1 => gj_G E X 4 r τ 41 [(2, gj_i z1)] [] σ) (fun a10004 => gj_G E X 4 r τ 4 [(0, gj_r b0), (1, gj_i b1), (2, gj_i a10004.1), (3, gj_i a10004.2)] [] σ) x) : gj_G E X 4 r τ 4 [(0, gj_r b0), (1, gj_i b1), (2, gj_i a10004_0), (3, gj_i a10004_1)] [] σ := by
  unfold fb_X7_countHanging_l4 at hf
  dsimp only at hf
  refine gj_iload_n hO 3 dX7_countHanging_4 rfl rfl ?_
  refine gj_aload_n hO 0 dX7_countHanging_5 rfl rfl ?_
  refine gt_X7_0 hO (kdY_0 g0) (klY_0 g0) wk_167 dX7_countHanging_6 ?_
  refine gt_X1_0 hO (kdP_0 (isY_P g0)) (klP_0 (isY_P g0)) wk_206 dX7_countHanging_9 ?_
  refine gj_icmp_ge (tgt := 41) hO dX7_countHanging_12 (by decide) (fun h => ?_) (fun h => ?_)
  · replace hf := gj_t h hf
    obtain rfl := Option.some.inj hf
    refine gj_sub (lv2 := [(2, gj_i a10004_0)]) [2] rfl ?_
    exact K
  · replace hf := gj_f h hf
    refine gj_iload_n hO 2 dX7_countHanging_15 rfl rfl ?_
    refine gj_aload_n hO 0 dX7_countHanging_16 rfl rfl ?_
    refine gt_X7_1 hO (kdY_0 g0) (klY_0 g0) wk_166 dX7_countHanging_17 ?_
    refine gj_iload_n hO 3 dX7_countHanging_20 rfl rfl ?_
    refine gj_iload_n hO 1 dX7_countHanging_21 rfl rfl ?_
    obtain ⟨x10401, hc10401, hf⟩ := gj_b hf
    refine ca_X5_hangsFrom hO (isY_T g0) hc10401 wk_207 (by decide) (by decide) (Nat.le_of_ble_eq_true rfl) dX7_countHanging_22 ?_
    refine gj_if_eq (tgt := 32) hO dX7_countHanging_25 (by decide) (fun h => ?_) (fun h => ?_)
    · replace hf := gj_t h hf
      refine gj_iconst (v := 0) hO dX7_countHanging_32 (by decide) ?_
      refine gj_iadd hO dX7_countHanging_33 ?_
      refine gj_istore_n (lv2 := [(2, gj_i (a10004_0 + (0 : Int32))), (0, gj_r b0), (1, gj_i b1), (3, gj_i a10004_1)]) hO dX7_countHanging_34 rfl (by decide) rfl ?_
      refine gj_iinc (v := (a10004_1 + 1)) (lv2 := [(3, gj_i (a10004_1 + 1)), (2, gj_i (a10004_0 + (0 : Int32))), (0, gj_r b0), (1, gj_i b1)]) hO 3 dX7_countHanging_35 rfl rfl (by decide) rfl ?_
      refine gj_goto (tgt := 4) hO dX7_countHanging_38 (by decide) ?_
      obtain rfl := Option.some.inj hf
      refine gj_sub (lv2 := [(0, gj_r b0), (1, gj_i b1), (2, gj_i (a10004_0 + (0 : Int32))), (3, gj_i (a10004_1 + 1))]) [2, 3, 1, 0] rfl ?_
      exact K
    · replace hf := gj_f h hf
      refine gj_iconst (v := 1) hO dX7_countHanging_28 (by decide) ?_
      refine gj_goto (tgt := 33) hO dX7_countHanging_29 (by decide) ?_
      refine gj_iadd hO dX7_countHanging_33 ?_
      refine gj_istore_n (lv2 := [(2, gj_i (a10004_0 + (1 : Int32))), (0, gj_r b0), (1, gj_i b1), (3, gj_i a10004_1)]) hO dX7_countHanging_34 rfl (by decide) rfl ?_
      refine gj_iinc (v := (a10004_1 + 1)) (lv2 := [(3, gj_i (a10004_1 + 1)), (2, gj_i (a10004_0 + (1 : Int32))), (0, gj_r b0), (1, gj_i b1)]) hO 3 dX7_countHanging_35 rfl rfl (by decide) rfl ?_
      refine gj_goto (tgt := 4) hO dX7_countHanging_38 (by decide) ?_
      obtain rfl := Option.some.inj hf
      refine gj_sub (lv2 := [(0, gj_r b0), (1, gj_i b1), (2, gj_i (a10004_0 + (1 : Int32))), (3, gj_i (a10004_1 + 1))]) [2, 3, 1, 0] rfl ?_
      exact K
set_option maxHeartbeats 4000000 in
set_option maxRecDepth 100000 in
theorem m_X7_countHanging {E : gj_E} {σ : gj_S} {b0 : Nat} {b1 : Int32} (g0 : isY b0) {x : Int32} (hf : f_X7_countHanging b0 b1 σ = some x) : gj_M E yX7_countHanging cX7_countHanging 4 (some .int) 1 24 [gj_r b0, gj_i b1] σ (some (gj_i x)) σ := by
  refine gj_body (lv := [(0, gj_r b0), (1, gj_i b1)]) (by decide +kernel) (Nat.le_of_ble_eq_true rfl) rfl (fun X hO => ?_)
  replace hO : gj_O E X RX7 cX7_countHanging 4 (some .int) 1 24 := hO
  unfold f_X7_countHanging at hf
  refine gj_iconst (v := 0) hO dX7_countHanging_0 (by decide) ?_
  refine gj_istore_n (lv2 := [(2, gj_i (0 : Int32)), (0, gj_r b0), (1, gj_i b1)]) hO dX7_countHanging_1 rfl (by decide) rfl ?_
  refine gj_iconst (v := 0) hO dX7_countHanging_2 (by decide) ?_
  refine gj_istore_n (lv2 := [(3, gj_i (0 : Int32)), (2, gj_i (0 : Int32)), (0, gj_r b0), (1, gj_i b1)]) hO dX7_countHanging_3 rfl (by decide) rfl ?_
  obtain ⟨z1, hz1, hf⟩ := gj_b hf
  have J1 : gj_G E X 4 (some (gj_i x)) σ 41 [(2, gj_i z1)] [] σ := by
    refine gj_iload_n hO 0 dX7_countHanging_41 rfl rfl ?_
    obtain rfl := Option.some.inj hf
    exact gj_iret hO dX7_countHanging_42
  refine gj_sub (lv2 := [(0, gj_r b0), (1, gj_i b1), (2, gj_i (0 : Int32)), (3, gj_i (0 : Int32))]) [2, 3, 1, 0] rfl ?_
  exact gj_loop (head := fun a10004 => gj_G E X 4 (some (gj_i x)) σ 4 [(0, gj_r b0), (1, gj_i b1), (2, gj_i a10004.1), (3, gj_i a10004.2)] [] σ) (exit := fun z1 => gj_G E X 4 (some (gj_i x)) σ 41 [(2, gj_i z1)] [] σ) (fun a10004 x hf K => by obtain ⟨a10004_0, a10004_1⟩ := a10004; exact sb_X7_countHanging_l4 hO g0 hf K) _ _ _ hz1 J1
set_option maxHeartbeats 4000000 in
set_option maxRecDepth 100000 in
theorem ca_X7_countHanging {E : gj_E} {X : gj_X} {own : String} {cc : ByteArray} {nL : Nat} {rt : Option FieldType} {fr lo : Nat} {ce sl : Nat} {Q : State → Prop} {pc : Nat} {lv : List (Nat × gj_V)} {st : List gj_V} {σ : gj_S} (hO : gj_O E X own cc nL rt fr lo) {b0 : Nat} {b1 : Int32} (g0 : isY b0) {idx : Nat} {x : Int32} (hf : f_X7_countHanging b0 b1 σ = some x) (hl : Cond.methodLink own idx yX7_countHanging ∈ gj_gw) (hf1 : 2 ≤ fr) (hf2 : 47 ≤ lo) (hcat : ((st.map (gj_tv E.2.1)).map fun v => v.category).sum ≤ 8) (hd : decode cc pc = .ok (.invokevirtual idx, 3)) (k : gj_H E X nL ce sl Q (pc + 3) lv ((gj_i x) :: st) σ) : gj_H E X nL ce sl Q pc lv (gj_i b1 :: gj_r b0 :: st) σ :=
  gj_callV hO (o := b0) (vs := [gj_i b1]) (m_X7_countHanging g0 hf) (gj_Iany (by decide)) hl wk_208 wk_209 wk_171 wk_210 (klY_0 g0) (kdY_0 g0) (by decide) (ci := 7) rfl (n := 1) (by decide +kernel) rfl hf1 hf2 rfl hcat hd k
def f_X1_lackOf (b0 : Nat) (b1 : Int32) (σ : gj_S) : Option Int32 := (if gj_in ((σ.1 b0 1) + b1) 24 then (if (σ.1 (b0 + 2) (Int32.toNatClampNeg ((σ.1 b0 1) + b1))) = (8 : Int32) then (if gj_in ((σ.1 b0 1) + b1) 24 then some (σ.1 (b0 + 6) (Int32.toNatClampNeg ((σ.1 b0 1) + b1))) else none) else some (0 : Int32)) else none)
set_option maxHeartbeats 4000000 in
set_option maxRecDepth 100000 in
theorem m_X1_lackOf {E : gj_E} {σ : gj_S} {b0 : Nat} {b1 : Int32} (g0 : isP b0) {x : Int32} (hf : f_X1_lackOf b0 b1 σ = some x) : gj_M E yX1_lackOf cX1_lackOf 3 (some .int) 0 0 [gj_r b0, gj_i b1] σ (some (gj_i x)) σ := by
  refine gj_body (lv := [(0, gj_r b0), (1, gj_i b1)]) (by decide +kernel) (Nat.le_of_ble_eq_true rfl) rfl (fun X hO => ?_)
  replace hO : gj_O E X RX1 cX1_lackOf 3 (some .int) 0 0 := hO
  unfold f_X1_lackOf at hf
  refine gj_aload_n hO 0 dX1_lackOf_0 rfl rfl ?_
  refine gt_X1_1 hO (kdP_0 g0) (klP_0 g0) wk_11 dX1_lackOf_1 ?_
  refine gj_iload_n hO 1 dX1_lackOf_4 rfl rfl ?_
  refine gj_iadd hO dX1_lackOf_5 ?_
  refine gj_istore_n (lv2 := [(2, gj_i ((σ.1 b0 1) + b1)), (0, gj_r b0), (1, gj_i b1)]) hO dX1_lackOf_6 rfl (by decide) rfl ?_
  refine gj_aload_n hO 1 dX1_lackOf_7 rfl rfl ?_
  refine gt_X1_6 hO (kdP_0 g0) (klP_0 g0) wk_122 dX1_lackOf_8 ?_
  refine gj_iload_n hO 0 dX1_lackOf_11 rfl rfl ?_
  obtain ⟨hb1, hf⟩ := gj_c hf
  refine gj_iald hO (klP_2 g0) (kdP_2 g0) hb1 dX1_lackOf_12 ?_
  refine gj_bipush (v := 8) hO dX1_lackOf_13 (by decide) ?_
  refine gj_icmp_ne (tgt := 27) hO dX1_lackOf_15 (by decide) (fun h => ?_) (fun h => ?_)
  · replace hf := gj_f h hf
    refine gj_iconst (v := 0) hO dX1_lackOf_27 (by decide) ?_
    obtain rfl := Option.some.inj hf
    exact gj_iret hO dX1_lackOf_28
  · replace hf := gj_t h hf
    refine gj_aload_n hO 1 dX1_lackOf_18 rfl rfl ?_
    refine gt_X1_10 hO (kdP_0 g0) (klP_0 g0) wk_126 dX1_lackOf_19 ?_
    refine gj_iload_n hO 0 dX1_lackOf_22 rfl rfl ?_
    obtain ⟨hb2, hf⟩ := gj_c hf
    refine gj_iald hO (klP_6 g0) (kdP_6 g0) hb2 dX1_lackOf_23 ?_
    refine gj_goto (tgt := 28) hO dX1_lackOf_24 (by decide) ?_
    obtain rfl := Option.some.inj hf
    exact gj_iret hO dX1_lackOf_28
set_option maxHeartbeats 4000000 in
set_option maxRecDepth 100000 in
theorem ca_X1_lackOf {E : gj_E} {X : gj_X} {own : String} {cc : ByteArray} {nL : Nat} {rt : Option FieldType} {fr lo : Nat} {ce sl : Nat} {Q : State → Prop} {pc : Nat} {lv : List (Nat × gj_V)} {st : List gj_V} {σ : gj_S} (hO : gj_O E X own cc nL rt fr lo) {b0 : Nat} {b1 : Int32} (g0 : isP b0) {idx : Nat} {x : Int32} (hf : f_X1_lackOf b0 b1 σ = some x) (hl : Cond.methodLink own idx yX1_lackOf ∈ gj_gw) (hf1 : 1 ≤ fr) (hf2 : 22 ≤ lo) (hcat : ((st.map (gj_tv E.2.1)).map fun v => v.category).sum ≤ 8) (hd : decode cc pc = .ok (.invokevirtual idx, 3)) (k : gj_H E X nL ce sl Q (pc + 3) lv ((gj_i x) :: st) σ) : gj_H E X nL ce sl Q pc lv (gj_i b1 :: gj_r b0 :: st) σ :=
  gj_callV hO (o := b0) (vs := [gj_i b1]) (m_X1_lackOf g0 hf) (gj_Iany (by decide)) hl wk_211 wk_212 wk_15 wk_213 (klP_0 g0) (kdP_0 g0) (by decide) (ci := 1) rfl (n := 1) (by decide +kernel) rfl hf1 hf2 rfl hcat hd k
def f_X1_stuckOf (b0 : Nat) (b1 : Int32) (σ : gj_S) : Option Int32 := (if gj_in ((σ.1 b0 1) + b1) 24 then (if (σ.1 (b0 + 3) (Int32.toNatClampNeg ((σ.1 b0 1) + b1))) = (8 : Int32) then (if gj_in ((σ.1 b0 1) + b1) 24 then some (σ.1 (b0 + 6) (Int32.toNatClampNeg ((σ.1 b0 1) + b1))) else none) else some (0 : Int32)) else none)
set_option maxHeartbeats 4000000 in
set_option maxRecDepth 100000 in
theorem m_X1_stuckOf {E : gj_E} {σ : gj_S} {b0 : Nat} {b1 : Int32} (g0 : isP b0) {x : Int32} (hf : f_X1_stuckOf b0 b1 σ = some x) : gj_M E yX1_stuckOf cX1_stuckOf 3 (some .int) 0 0 [gj_r b0, gj_i b1] σ (some (gj_i x)) σ := by
  refine gj_body (lv := [(0, gj_r b0), (1, gj_i b1)]) (by decide +kernel) (Nat.le_of_ble_eq_true rfl) rfl (fun X hO => ?_)
  replace hO : gj_O E X RX1 cX1_stuckOf 3 (some .int) 0 0 := hO
  unfold f_X1_stuckOf at hf
  refine gj_aload_n hO 0 dX1_stuckOf_0 rfl rfl ?_
  refine gt_X1_1 hO (kdP_0 g0) (klP_0 g0) wk_11 dX1_stuckOf_1 ?_
  refine gj_iload_n hO 1 dX1_stuckOf_4 rfl rfl ?_
  refine gj_iadd hO dX1_stuckOf_5 ?_
  refine gj_istore_n (lv2 := [(2, gj_i ((σ.1 b0 1) + b1)), (0, gj_r b0), (1, gj_i b1)]) hO dX1_stuckOf_6 rfl (by decide) rfl ?_
  refine gj_aload_n hO 1 dX1_stuckOf_7 rfl rfl ?_
  refine gt_X1_7 hO (kdP_0 g0) (klP_0 g0) wk_123 dX1_stuckOf_8 ?_
  refine gj_iload_n hO 0 dX1_stuckOf_11 rfl rfl ?_
  obtain ⟨hb1, hf⟩ := gj_c hf
  refine gj_iald hO (klP_3 g0) (kdP_3 g0) hb1 dX1_stuckOf_12 ?_
  refine gj_bipush (v := 8) hO dX1_stuckOf_13 (by decide) ?_
  refine gj_icmp_ne (tgt := 27) hO dX1_stuckOf_15 (by decide) (fun h => ?_) (fun h => ?_)
  · replace hf := gj_f h hf
    refine gj_iconst (v := 0) hO dX1_stuckOf_27 (by decide) ?_
    obtain rfl := Option.some.inj hf
    exact gj_iret hO dX1_stuckOf_28
  · replace hf := gj_t h hf
    refine gj_aload_n hO 1 dX1_stuckOf_18 rfl rfl ?_
    refine gt_X1_10 hO (kdP_0 g0) (klP_0 g0) wk_126 dX1_stuckOf_19 ?_
    refine gj_iload_n hO 0 dX1_stuckOf_22 rfl rfl ?_
    obtain ⟨hb2, hf⟩ := gj_c hf
    refine gj_iald hO (klP_6 g0) (kdP_6 g0) hb2 dX1_stuckOf_23 ?_
    refine gj_goto (tgt := 28) hO dX1_stuckOf_24 (by decide) ?_
    obtain rfl := Option.some.inj hf
    exact gj_iret hO dX1_stuckOf_28
set_option maxHeartbeats 4000000 in
set_option maxRecDepth 100000 in
theorem ca_X1_stuckOf {E : gj_E} {X : gj_X} {own : String} {cc : ByteArray} {nL : Nat} {rt : Option FieldType} {fr lo : Nat} {ce sl : Nat} {Q : State → Prop} {pc : Nat} {lv : List (Nat × gj_V)} {st : List gj_V} {σ : gj_S} (hO : gj_O E X own cc nL rt fr lo) {b0 : Nat} {b1 : Int32} (g0 : isP b0) {idx : Nat} {x : Int32} (hf : f_X1_stuckOf b0 b1 σ = some x) (hl : Cond.methodLink own idx yX1_stuckOf ∈ gj_gw) (hf1 : 1 ≤ fr) (hf2 : 22 ≤ lo) (hcat : ((st.map (gj_tv E.2.1)).map fun v => v.category).sum ≤ 8) (hd : decode cc pc = .ok (.invokevirtual idx, 3)) (k : gj_H E X nL ce sl Q (pc + 3) lv ((gj_i x) :: st) σ) : gj_H E X nL ce sl Q pc lv (gj_i b1 :: gj_r b0 :: st) σ :=
  gj_callV hO (o := b0) (vs := [gj_i b1]) (m_X1_stuckOf g0 hf) (gj_Iany (by decide)) hl wk_214 wk_215 wk_15 wk_216 (klP_0 g0) (kdP_0 g0) (by decide) (ci := 1) rfl (n := 1) (by decide +kernel) rfl hf1 hf2 rfl hcat hd k
def f_X1_hasWay (b0 : Nat) (b1 : Int32) (σ : gj_S) : Option Int32 := (if b1 < 0 then some (0 : Int32) else ((f_X1_countWays b0 σ).bind fun x1 => (if x1 ≤ b1 then some (0 : Int32) else some (1 : Int32))))
set_option maxHeartbeats 4000000 in
set_option maxRecDepth 100000 in
theorem m_X1_hasWay {E : gj_E} {σ : gj_S} {b0 : Nat} {b1 : Int32} (g0 : isP b0) {x : Int32} (hf : f_X1_hasWay b0 b1 σ = some x) : gj_M E yX1_hasWay cX1_hasWay 2 (some .boolean) 1 20 [gj_r b0, gj_i b1] σ (some (gj_i x)) σ := by
  refine gj_body (lv := [(0, gj_r b0), (1, gj_i b1)]) (by decide +kernel) (Nat.le_of_ble_eq_true rfl) rfl (fun X hO => ?_)
  replace hO : gj_O E X RX1 cX1_hasWay 2 (some .boolean) 1 20 := hO
  unfold f_X1_hasWay at hf
  refine gj_iload_n hO 1 dX1_hasWay_0 rfl rfl ?_
  refine gj_if_lt (tgt := 16) hO dX1_hasWay_1 (by decide) (fun h => ?_) (fun h => ?_)
  · replace hf := gj_t h hf
    refine gj_iconst (v := 0) hO dX1_hasWay_16 (by decide) ?_
    obtain rfl := Option.some.inj hf
    exact gj_zret hO (Or.inl rfl) dX1_hasWay_17
  · replace hf := gj_f h hf
    refine gj_iload_n hO 1 dX1_hasWay_4 rfl rfl ?_
    refine gj_aload_n hO 0 dX1_hasWay_5 rfl rfl ?_
    obtain ⟨x1, hc1, hf⟩ := gj_b hf
    refine ca_X1_countWays hO g0 hc1 wk_229 (by decide) (by decide) (Nat.le_of_ble_eq_true rfl) dX1_hasWay_6 ?_
    refine gj_icmp_ge (tgt := 16) hO dX1_hasWay_9 (by decide) (fun h => ?_) (fun h => ?_)
    · replace hf := gj_t h hf
      refine gj_iconst (v := 0) hO dX1_hasWay_16 (by decide) ?_
      obtain rfl := Option.some.inj hf
      exact gj_zret hO (Or.inl rfl) dX1_hasWay_17
    · replace hf := gj_f h hf
      refine gj_iconst (v := 1) hO dX1_hasWay_12 (by decide) ?_
      refine gj_goto (tgt := 17) hO dX1_hasWay_13 (by decide) ?_
      obtain rfl := Option.some.inj hf
      exact gj_zret hO (Or.inr rfl) dX1_hasWay_17
set_option maxHeartbeats 4000000 in
set_option maxRecDepth 100000 in
theorem ca_X1_hasWay {E : gj_E} {X : gj_X} {own : String} {cc : ByteArray} {nL : Nat} {rt : Option FieldType} {fr lo : Nat} {ce sl : Nat} {Q : State → Prop} {pc : Nat} {lv : List (Nat × gj_V)} {st : List gj_V} {σ : gj_S} (hO : gj_O E X own cc nL rt fr lo) {b0 : Nat} {b1 : Int32} (g0 : isP b0) {idx : Nat} {x : Int32} (hf : f_X1_hasWay b0 b1 σ = some x) (hl : Cond.methodLink own idx yX1_hasWay ∈ gj_gw) (hf1 : 2 ≤ fr) (hf2 : 41 ≤ lo) (hcat : ((st.map (gj_tv E.2.1)).map fun v => v.category).sum ≤ 8) (hd : decode cc pc = .ok (.invokevirtual idx, 3)) (k : gj_H E X nL ce sl Q (pc + 3) lv ((gj_i x) :: st) σ) : gj_H E X nL ce sl Q pc lv (gj_i b1 :: gj_r b0 :: st) σ :=
  gj_callV hO (o := b0) (vs := [gj_i b1]) (m_X1_hasWay g0 hf) (gj_Iany (by decide)) hl wk_230 wk_231 wk_15 wk_232 (klP_0 g0) (kdP_0 g0) (by decide) (ci := 1) rfl (n := 1) (by decide +kernel) rfl hf1 hf2 rfl hcat hd k
def f_X1_hasRoute (b0 : Nat) (b1 : Int32) (σ : gj_S) : Option Int32 := (if b1 < 0 then some (0 : Int32) else (if (σ.1 b0 1) ≤ b1 then some (0 : Int32) else some (1 : Int32)))
set_option maxHeartbeats 4000000 in
set_option maxRecDepth 100000 in
theorem m_X1_hasRoute {E : gj_E} {σ : gj_S} {b0 : Nat} {b1 : Int32} (g0 : isP b0) {x : Int32} (hf : f_X1_hasRoute b0 b1 σ = some x) : gj_M E yX1_hasRoute cX1_hasRoute 2 (some .boolean) 0 0 [gj_r b0, gj_i b1] σ (some (gj_i x)) σ := by
  refine gj_body (lv := [(0, gj_r b0), (1, gj_i b1)]) (by decide +kernel) (Nat.le_of_ble_eq_true rfl) rfl (fun X hO => ?_)
  replace hO : gj_O E X RX1 cX1_hasRoute 2 (some .boolean) 0 0 := hO
  unfold f_X1_hasRoute at hf
  refine gj_iload_n hO 1 dX1_hasRoute_0 rfl rfl ?_
  refine gj_if_lt (tgt := 16) hO dX1_hasRoute_1 (by decide) (fun h => ?_) (fun h => ?_)
  · replace hf := gj_t h hf
    refine gj_iconst (v := 0) hO dX1_hasRoute_16 (by decide) ?_
    obtain rfl := Option.some.inj hf
    exact gj_zret hO (Or.inl rfl) dX1_hasRoute_17
  · replace hf := gj_f h hf
    refine gj_iload_n hO 1 dX1_hasRoute_4 rfl rfl ?_
    refine gj_aload_n hO 0 dX1_hasRoute_5 rfl rfl ?_
    refine gt_X1_1 hO (kdP_0 g0) (klP_0 g0) wk_11 dX1_hasRoute_6 ?_
    refine gj_icmp_ge (tgt := 16) hO dX1_hasRoute_9 (by decide) (fun h => ?_) (fun h => ?_)
    · replace hf := gj_t h hf
      refine gj_iconst (v := 0) hO dX1_hasRoute_16 (by decide) ?_
      obtain rfl := Option.some.inj hf
      exact gj_zret hO (Or.inl rfl) dX1_hasRoute_17
    · replace hf := gj_f h hf
      refine gj_iconst (v := 1) hO dX1_hasRoute_12 (by decide) ?_
      refine gj_goto (tgt := 17) hO dX1_hasRoute_13 (by decide) ?_
      obtain rfl := Option.some.inj hf
      exact gj_zret hO (Or.inr rfl) dX1_hasRoute_17
set_option maxHeartbeats 4000000 in
set_option maxRecDepth 100000 in
theorem ca_X1_hasRoute {E : gj_E} {X : gj_X} {own : String} {cc : ByteArray} {nL : Nat} {rt : Option FieldType} {fr lo : Nat} {ce sl : Nat} {Q : State → Prop} {pc : Nat} {lv : List (Nat × gj_V)} {st : List gj_V} {σ : gj_S} (hO : gj_O E X own cc nL rt fr lo) {b0 : Nat} {b1 : Int32} (g0 : isP b0) {idx : Nat} {x : Int32} (hf : f_X1_hasRoute b0 b1 σ = some x) (hl : Cond.methodLink own idx yX1_hasRoute ∈ gj_gw) (hf1 : 1 ≤ fr) (hf2 : 21 ≤ lo) (hcat : ((st.map (gj_tv E.2.1)).map fun v => v.category).sum ≤ 8) (hd : decode cc pc = .ok (.invokevirtual idx, 3)) (k : gj_H E X nL ce sl Q (pc + 3) lv ((gj_i x) :: st) σ) : gj_H E X nL ce sl Q pc lv (gj_i b1 :: gj_r b0 :: st) σ :=
  gj_callV hO (o := b0) (vs := [gj_i b1]) (m_X1_hasRoute g0 hf) (gj_Iany (by decide)) hl wk_233 wk_234 wk_15 wk_235 (klP_0 g0) (kdP_0 g0) (by decide) (ci := 1) rfl (n := 1) (by decide +kernel) rfl hf1 hf2 rfl hcat hd k
def f_X7_gainOf (b0 : Nat) (b1 : Int32) (σ : gj_S) : Option Int32 := (if gj_in b1 24 then (if gj_in b1 24 then (if gj_in (σ.1 ((b0 + 1) + 2) (Int32.toNatClampNeg b1)) 9 then (if gj_in b1 24 then (if gj_in (σ.1 ((b0 + 1) + 3) (Int32.toNatClampNeg b1)) 9 then some (((σ.1 ((b0 + 1) + 4) (Int32.toNatClampNeg b1)) + (σ.1 ((b0 + 10) + 4) (Int32.toNatClampNeg (σ.1 ((b0 + 1) + 2) (Int32.toNatClampNeg b1))))) - (σ.1 ((b0 + 10) + 4) (Int32.toNatClampNeg (σ.1 ((b0 + 1) + 3) (Int32.toNatClampNeg b1))))) else none) else none) else none) else none) else none)
set_option maxHeartbeats 4000000 in
set_option maxRecDepth 100000 in
theorem m_X7_gainOf {E : gj_E} {σ : gj_S} {b0 : Nat} {b1 : Int32} (g0 : isY b0) {x : Int32} (hf : f_X7_gainOf b0 b1 σ = some x) : gj_M E yX7_gainOf cX7_gainOf 2 (some .int) 0 0 [gj_r b0, gj_i b1] σ (some (gj_i x)) σ := by
  refine gj_body (lv := [(0, gj_r b0), (1, gj_i b1)]) (by decide +kernel) (Nat.le_of_ble_eq_true rfl) rfl (fun X hO => ?_)
  replace hO : gj_O E X RX7 cX7_gainOf 2 (some .int) 0 0 := hO
  unfold f_X7_gainOf at hf
  refine gj_aload_n hO 0 dX7_gainOf_0 rfl rfl ?_
  refine gt_X7_0 hO (kdY_0 g0) (klY_0 g0) wk_167 dX7_gainOf_1 ?_
  refine gt_X1_8 hO (kdP_0 (isY_P g0)) (klP_0 (isY_P g0)) wk_236 dX7_gainOf_4 ?_
  refine gj_iload_n hO 1 dX7_gainOf_7 rfl rfl ?_
  obtain ⟨hb1, hf⟩ := gj_c hf
  refine gj_iald hO (klP_4 (isY_P g0)) (kdP_4 (isY_P g0)) hb1 dX7_gainOf_8 ?_
  refine gj_aload_n hO 0 dX7_gainOf_9 rfl rfl ?_
  refine gt_X7_1 hO (kdY_0 g0) (klY_0 g0) wk_166 dX7_gainOf_10 ?_
  refine gt_X5_3 hO (kdT_0 (isY_T g0)) (klT_0 (isY_T g0)) wk_237 dX7_gainOf_13 ?_
  refine gj_aload_n hO 0 dX7_gainOf_16 rfl rfl ?_
  refine gt_X7_0 hO (kdY_0 g0) (klY_0 g0) wk_167 dX7_gainOf_17 ?_
  refine gt_X1_6 hO (kdP_0 (isY_P g0)) (klP_0 (isY_P g0)) wk_238 dX7_gainOf_20 ?_
  refine gj_iload_n hO 1 dX7_gainOf_23 rfl rfl ?_
  obtain ⟨hb2, hf⟩ := gj_c hf
  refine gj_iald hO (klP_2 (isY_P g0)) (kdP_2 (isY_P g0)) hb2 dX7_gainOf_24 ?_
  obtain ⟨hb3, hf⟩ := gj_c hf
  refine gj_iald hO (klT_4 (isY_T g0)) (kdT_4 (isY_T g0)) hb3 dX7_gainOf_25 ?_
  refine gj_iadd hO dX7_gainOf_26 ?_
  refine gj_aload_n hO 0 dX7_gainOf_27 rfl rfl ?_
  refine gt_X7_1 hO (kdY_0 g0) (klY_0 g0) wk_166 dX7_gainOf_28 ?_
  refine gt_X5_3 hO (kdT_0 (isY_T g0)) (klT_0 (isY_T g0)) wk_237 dX7_gainOf_31 ?_
  refine gj_aload_n hO 0 dX7_gainOf_34 rfl rfl ?_
  refine gt_X7_0 hO (kdY_0 g0) (klY_0 g0) wk_167 dX7_gainOf_35 ?_
  refine gt_X1_7 hO (kdP_0 (isY_P g0)) (klP_0 (isY_P g0)) wk_239 dX7_gainOf_38 ?_
  refine gj_iload_n hO 1 dX7_gainOf_41 rfl rfl ?_
  obtain ⟨hb4, hf⟩ := gj_c hf
  refine gj_iald hO (klP_3 (isY_P g0)) (kdP_3 (isY_P g0)) hb4 dX7_gainOf_42 ?_
  obtain ⟨hb5, hf⟩ := gj_c hf
  refine gj_iald hO (klT_4 (isY_T g0)) (kdT_4 (isY_T g0)) hb5 dX7_gainOf_43 ?_
  refine gj_isub hO dX7_gainOf_44 ?_
  obtain rfl := Option.some.inj hf
  exact gj_iret hO dX7_gainOf_45
set_option maxHeartbeats 4000000 in
set_option maxRecDepth 100000 in
theorem ca_X7_gainOf {E : gj_E} {X : gj_X} {own : String} {cc : ByteArray} {nL : Nat} {rt : Option FieldType} {fr lo : Nat} {ce sl : Nat} {Q : State → Prop} {pc : Nat} {lv : List (Nat × gj_V)} {st : List gj_V} {σ : gj_S} (hO : gj_O E X own cc nL rt fr lo) {b0 : Nat} {b1 : Int32} (g0 : isY b0) {idx : Nat} {x : Int32} (hf : f_X7_gainOf b0 b1 σ = some x) (hl : Cond.methodLink own idx yX7_gainOf ∈ gj_gw) (hf1 : 1 ≤ fr) (hf2 : 21 ≤ lo) (hcat : ((st.map (gj_tv E.2.1)).map fun v => v.category).sum ≤ 8) (hd : decode cc pc = .ok (.invokevirtual idx, 3)) (k : gj_H E X nL ce sl Q (pc + 3) lv ((gj_i x) :: st) σ) : gj_H E X nL ce sl Q pc lv (gj_i b1 :: gj_r b0 :: st) σ :=
  gj_callV hO (o := b0) (vs := [gj_i b1]) (m_X7_gainOf g0 hf) (gj_Iany (by decide)) hl wk_240 wk_241 wk_171 wk_242 (klY_0 g0) (kdY_0 g0) (by decide) (ci := 7) rfl (n := 1) (by decide +kernel) rfl hf1 hf2 rfl hcat hd k
def fb_X7_countAheadOf_l4 (b0 : Nat) (b1 : Int32) (σ : gj_S) (a10004 : (Int32 × Int32)) : Option (Int32 ⊕ (Int32 × Int32)) := (if (σ.1 (b0 + 1) 0) ≤ a10004.2 then some (.inl a10004.1) else (if gj_in a10004.2 9 then (if gj_in b1 9 then (if ((σ.1 ((b0 + 10) + 4) (Int32.toNatClampNeg a10004.2)) - (σ.1 ((b0 + 10) + 4) (Int32.toNatClampNeg b1))) < 0 then some (.inr ((a10004.1 + (1 : Int32)), (a10004.2 + 1))) else (if ((σ.1 ((b0 + 10) + 4) (Int32.toNatClampNeg a10004.2)) - (σ.1 ((b0 + 10) + 4) (Int32.toNatClampNeg b1))) = 0 then (if b1 ≤ a10004.2 then some (.inr ((a10004.1 + (0 : Int32)), (a10004.2 + 1))) else some (.inr ((a10004.1 + (1 : Int32)), (a10004.2 + 1)))) else some (.inr ((a10004.1 + (0 : Int32)), (a10004.2 + 1))))) else none) else none))
def f_X7_countAheadOf (b0 : Nat) (b1 : Int32) (σ : gj_S) : Option Int32 := ((gj_lp (fb_X7_countAheadOf_l4 b0 b1 σ) 5000 ((0 : Int32), (0 : Int32))).bind fun z1 => some z1)
set_option maxHeartbeats 4000000 in
set_option maxRecDepth 100000 in
theorem sb_X7_countAheadOf_l4 {E : gj_E} {X : gj_X} {r : Option gj_V} {τ : gj_S} (hO : gj_O E X RX7 cX7_countAheadOf 5 (some .int) 0 0) {b0 : Nat} {b1 : Int32} {σ : gj_S} (g0 : isY b0) {a10004_0 : Int32} {a10004_1 : Int32} {x : Int32 ⊕ (Int32 × Int32)} (hf : fb_X7_countAheadOf_l4 b0 b1 σ (a10004_0, a10004_1) = some x) (K : gj_K (fun z1 => gj_G E X 5 r τ 65 [(2, gj_i z1)] [] σ) (fun a10004 => gj_G E X 5 r τ 4 [(0, gj_r b0), (1, gj_i b1), (2, gj_i a10004.1), (3, gj_i a10004.2)] [] σ) x) : gj_G E X 5 r τ 4 [(0, gj_r b0), (1, gj_i b1), (2, gj_i a10004_0), (3, gj_i a10004_1)] [] σ := by
  unfold fb_X7_countAheadOf_l4 at hf
  dsimp only at hf
  refine gj_iload_n hO 3 dX7_countAheadOf_4 rfl rfl ?_
  refine gj_aload_n hO 0 dX7_countAheadOf_5 rfl rfl ?_
  refine gt_X7_0 hO (kdY_0 g0) (klY_0 g0) wk_167 dX7_countAheadOf_6 ?_
  refine gt_X1_0 hO (kdP_0 (isY_P g0)) (klP_0 (isY_P g0)) wk_206 dX7_countAheadOf_9 ?_
  refine gj_icmp_ge (tgt := 65) hO dX7_countAheadOf_12 (by decide) (fun h => ?_) (fun h => ?_)
  · replace hf := gj_t h hf
    obtain rfl := Option.some.inj hf
    refine gj_sub (lv2 := [(2, gj_i a10004_0)]) [2] rfl ?_
    exact K
  · replace hf := gj_f h hf
    refine gj_aload_n hO 0 dX7_countAheadOf_15 rfl rfl ?_
    refine gt_X7_1 hO (kdY_0 g0) (klY_0 g0) wk_166 dX7_countAheadOf_16 ?_
    refine gt_X5_3 hO (kdT_0 (isY_T g0)) (klT_0 (isY_T g0)) wk_237 dX7_countAheadOf_19 ?_
    refine gj_iload_n hO 3 dX7_countAheadOf_22 rfl rfl ?_
    obtain ⟨hb10401, hf⟩ := gj_c hf
    refine gj_iald hO (klT_4 (isY_T g0)) (kdT_4 (isY_T g0)) hb10401 dX7_countAheadOf_23 ?_
    refine gj_aload_n hO 0 dX7_countAheadOf_24 rfl rfl ?_
    refine gt_X7_1 hO (kdY_0 g0) (klY_0 g0) wk_166 dX7_countAheadOf_25 ?_
    refine gt_X5_3 hO (kdT_0 (isY_T g0)) (klT_0 (isY_T g0)) wk_237 dX7_countAheadOf_28 ?_
    refine gj_iload_n hO 1 dX7_countAheadOf_31 rfl rfl ?_
    obtain ⟨hb10402, hf⟩ := gj_c hf
    refine gj_iald hO (klT_4 (isY_T g0)) (kdT_4 (isY_T g0)) hb10402 dX7_countAheadOf_32 ?_
    refine gj_isub hO dX7_countAheadOf_33 ?_
    refine gj_istore (lv2 := [(4, gj_i ((σ.1 ((b0 + 10) + 4) (Int32.toNatClampNeg a10004_1)) - (σ.1 ((b0 + 10) + 4) (Int32.toNatClampNeg b1)))), (0, gj_r b0), (1, gj_i b1), (2, gj_i a10004_0), (3, gj_i a10004_1)]) hO dX7_countAheadOf_34 (by decide) rfl ?_
    refine gj_iload_n hO 3 dX7_countAheadOf_36 rfl rfl ?_
    refine gj_iload hO 0 dX7_countAheadOf_37 rfl ?_
    refine gj_if_lt (tgt := 52) hO dX7_countAheadOf_39 (by decide) (fun h => ?_) (fun h => ?_)
    · replace hf := gj_t h hf
      refine gj_iconst (v := 1) hO dX7_countAheadOf_52 (by decide) ?_
      refine gj_goto (tgt := 57) hO dX7_countAheadOf_53 (by decide) ?_
      refine gj_iadd hO dX7_countAheadOf_57 ?_
      refine gj_istore_n (lv2 := [(2, gj_i (a10004_0 + (1 : Int32))), (4, gj_i ((σ.1 ((b0 + 10) + 4) (Int32.toNatClampNeg a10004_1)) - (σ.1 ((b0 + 10) + 4) (Int32.toNatClampNeg b1)))), (0, gj_r b0), (1, gj_i b1), (3, gj_i a10004_1)]) hO dX7_countAheadOf_58 rfl (by decide) rfl ?_
      refine gj_iinc (v := (a10004_1 + 1)) (lv2 := [(3, gj_i (a10004_1 + 1)), (2, gj_i (a10004_0 + (1 : Int32))), (4, gj_i ((σ.1 ((b0 + 10) + 4) (Int32.toNatClampNeg a10004_1)) - (σ.1 ((b0 + 10) + 4) (Int32.toNatClampNeg b1)))), (0, gj_r b0), (1, gj_i b1)]) hO 4 dX7_countAheadOf_59 rfl rfl (by decide) rfl ?_
      refine gj_goto (tgt := 4) hO dX7_countAheadOf_62 (by decide) ?_
      obtain rfl := Option.some.inj hf
      refine gj_sub (lv2 := [(0, gj_r b0), (1, gj_i b1), (2, gj_i (a10004_0 + (1 : Int32))), (3, gj_i (a10004_1 + 1))]) [3, 4, 1, 0] rfl ?_
      exact K
    · replace hf := gj_f h hf
      refine gj_iload hO 0 dX7_countAheadOf_42 rfl ?_
      refine gj_if_ne (tgt := 56) hO dX7_countAheadOf_44 (by decide) (fun h => ?_) (fun h => ?_)
      · replace hf := gj_f h hf
        refine gj_iconst (v := 0) hO dX7_countAheadOf_56 (by decide) ?_
        refine gj_iadd hO dX7_countAheadOf_57 ?_
        refine gj_istore_n (lv2 := [(2, gj_i (a10004_0 + (0 : Int32))), (4, gj_i ((σ.1 ((b0 + 10) + 4) (Int32.toNatClampNeg a10004_1)) - (σ.1 ((b0 + 10) + 4) (Int32.toNatClampNeg b1)))), (0, gj_r b0), (1, gj_i b1), (3, gj_i a10004_1)]) hO dX7_countAheadOf_58 rfl (by decide) rfl ?_
        refine gj_iinc (v := (a10004_1 + 1)) (lv2 := [(3, gj_i (a10004_1 + 1)), (2, gj_i (a10004_0 + (0 : Int32))), (4, gj_i ((σ.1 ((b0 + 10) + 4) (Int32.toNatClampNeg a10004_1)) - (σ.1 ((b0 + 10) + 4) (Int32.toNatClampNeg b1)))), (0, gj_r b0), (1, gj_i b1)]) hO 4 dX7_countAheadOf_59 rfl rfl (by decide) rfl ?_
        refine gj_goto (tgt := 4) hO dX7_countAheadOf_62 (by decide) ?_
        obtain rfl := Option.some.inj hf
        refine gj_sub (lv2 := [(0, gj_r b0), (1, gj_i b1), (2, gj_i (a10004_0 + (0 : Int32))), (3, gj_i (a10004_1 + 1))]) [3, 4, 1, 0] rfl ?_
        exact K
      · replace hf := gj_t h hf
        refine gj_iload_n hO 4 dX7_countAheadOf_47 rfl rfl ?_
        refine gj_iload_n hO 2 dX7_countAheadOf_48 rfl rfl ?_
        refine gj_icmp_ge (tgt := 56) hO dX7_countAheadOf_49 (by decide) (fun h => ?_) (fun h => ?_)
        · replace hf := gj_t h hf
          refine gj_iconst (v := 0) hO dX7_countAheadOf_56 (by decide) ?_
          refine gj_iadd hO dX7_countAheadOf_57 ?_
          refine gj_istore_n (lv2 := [(2, gj_i (a10004_0 + (0 : Int32))), (4, gj_i ((σ.1 ((b0 + 10) + 4) (Int32.toNatClampNeg a10004_1)) - (σ.1 ((b0 + 10) + 4) (Int32.toNatClampNeg b1)))), (0, gj_r b0), (1, gj_i b1), (3, gj_i a10004_1)]) hO dX7_countAheadOf_58 rfl (by decide) rfl ?_
          refine gj_iinc (v := (a10004_1 + 1)) (lv2 := [(3, gj_i (a10004_1 + 1)), (2, gj_i (a10004_0 + (0 : Int32))), (4, gj_i ((σ.1 ((b0 + 10) + 4) (Int32.toNatClampNeg a10004_1)) - (σ.1 ((b0 + 10) + 4) (Int32.toNatClampNeg b1)))), (0, gj_r b0), (1, gj_i b1)]) hO 4 dX7_countAheadOf_59 rfl rfl (by decide) rfl ?_
          refine gj_goto (tgt := 4) hO dX7_countAheadOf_62 (by decide) ?_
          obtain rfl := Option.some.inj hf
          refine gj_sub (lv2 := [(0, gj_r b0), (1, gj_i b1), (2, gj_i (a10004_0 + (0 : Int32))), (3, gj_i (a10004_1 + 1))]) [3, 4, 1, 0] rfl ?_
          exact K
        · replace hf := gj_f h hf
          refine gj_iconst (v := 1) hO dX7_countAheadOf_52 (by decide) ?_
          refine gj_goto (tgt := 57) hO dX7_countAheadOf_53 (by decide) ?_
          refine gj_iadd hO dX7_countAheadOf_57 ?_
          refine gj_istore_n (lv2 := [(2, gj_i (a10004_0 + (1 : Int32))), (4, gj_i ((σ.1 ((b0 + 10) + 4) (Int32.toNatClampNeg a10004_1)) - (σ.1 ((b0 + 10) + 4) (Int32.toNatClampNeg b1)))), (0, gj_r b0), (1, gj_i b1), (3, gj_i a10004_1)]) hO dX7_countAheadOf_58 rfl (by decide) rfl ?_
          refine gj_iinc (v := (a10004_1 + 1)) (lv2 := [(3, gj_i (a10004_1 + 1)), (2, gj_i (a10004_0 + (1 : Int32))), (4, gj_i ((σ.1 ((b0 + 10) + 4) (Int32.toNatClampNeg a10004_1)) - (σ.1 ((b0 + 10) + 4) (Int32.toNatClampNeg b1)))), (0, gj_r b0), (1, gj_i b1)]) hO 4 dX7_countAheadOf_59 rfl rfl (by decide) rfl ?_
          refine gj_goto (tgt := 4) hO dX7_countAheadOf_62 (by decide) ?_
          obtain rfl := Option.some.inj hf
          refine gj_sub (lv2 := [(0, gj_r b0), (1, gj_i b1), (2, gj_i (a10004_0 + (1 : Int32))), (3, gj_i (a10004_1 + 1))]) [3, 4, 1, 0] rfl ?_
          exact K
set_option maxHeartbeats 4000000 in
set_option maxRecDepth 100000 in
theorem m_X7_countAheadOf {E : gj_E} {σ : gj_S} {b0 : Nat} {b1 : Int32} (g0 : isY b0) {x : Int32} (hf : f_X7_countAheadOf b0 b1 σ = some x) : gj_M E yX7_countAheadOf cX7_countAheadOf 5 (some .int) 0 0 [gj_r b0, gj_i b1] σ (some (gj_i x)) σ := by
  refine gj_body (lv := [(0, gj_r b0), (1, gj_i b1)]) (by decide +kernel) (Nat.le_of_ble_eq_true rfl) rfl (fun X hO => ?_)
  replace hO : gj_O E X RX7 cX7_countAheadOf 5 (some .int) 0 0 := hO
  unfold f_X7_countAheadOf at hf
  refine gj_iconst (v := 0) hO dX7_countAheadOf_0 (by decide) ?_
  refine gj_istore_n (lv2 := [(2, gj_i (0 : Int32)), (0, gj_r b0), (1, gj_i b1)]) hO dX7_countAheadOf_1 rfl (by decide) rfl ?_
  refine gj_iconst (v := 0) hO dX7_countAheadOf_2 (by decide) ?_
  refine gj_istore_n (lv2 := [(3, gj_i (0 : Int32)), (2, gj_i (0 : Int32)), (0, gj_r b0), (1, gj_i b1)]) hO dX7_countAheadOf_3 rfl (by decide) rfl ?_
  obtain ⟨z1, hz1, hf⟩ := gj_b hf
  have J1 : gj_G E X 5 (some (gj_i x)) σ 65 [(2, gj_i z1)] [] σ := by
    refine gj_iload_n hO 0 dX7_countAheadOf_65 rfl rfl ?_
    obtain rfl := Option.some.inj hf
    exact gj_iret hO dX7_countAheadOf_66
  refine gj_sub (lv2 := [(0, gj_r b0), (1, gj_i b1), (2, gj_i (0 : Int32)), (3, gj_i (0 : Int32))]) [2, 3, 1, 0] rfl ?_
  exact gj_loop (head := fun a10004 => gj_G E X 5 (some (gj_i x)) σ 4 [(0, gj_r b0), (1, gj_i b1), (2, gj_i a10004.1), (3, gj_i a10004.2)] [] σ) (exit := fun z1 => gj_G E X 5 (some (gj_i x)) σ 65 [(2, gj_i z1)] [] σ) (fun a10004 x hf K => by obtain ⟨a10004_0, a10004_1⟩ := a10004; exact sb_X7_countAheadOf_l4 hO g0 hf K) _ _ _ hz1 J1
set_option maxHeartbeats 4000000 in
set_option maxRecDepth 100000 in
theorem ca_X7_countAheadOf {E : gj_E} {X : gj_X} {own : String} {cc : ByteArray} {nL : Nat} {rt : Option FieldType} {fr lo : Nat} {ce sl : Nat} {Q : State → Prop} {pc : Nat} {lv : List (Nat × gj_V)} {st : List gj_V} {σ : gj_S} (hO : gj_O E X own cc nL rt fr lo) {b0 : Nat} {b1 : Int32} (g0 : isY b0) {idx : Nat} {x : Int32} (hf : f_X7_countAheadOf b0 b1 σ = some x) (hl : Cond.methodLink own idx yX7_countAheadOf ∈ gj_gw) (hf1 : 1 ≤ fr) (hf2 : 24 ≤ lo) (hcat : ((st.map (gj_tv E.2.1)).map fun v => v.category).sum ≤ 8) (hd : decode cc pc = .ok (.invokevirtual idx, 3)) (k : gj_H E X nL ce sl Q (pc + 3) lv ((gj_i x) :: st) σ) : gj_H E X nL ce sl Q pc lv (gj_i b1 :: gj_r b0 :: st) σ :=
  gj_callV hO (o := b0) (vs := [gj_i b1]) (m_X7_countAheadOf g0 hf) (gj_Iany (by decide)) hl wk_255 wk_256 wk_171 wk_257 (klY_0 g0) (kdY_0 g0) (by decide) (ci := 7) rfl (n := 1) (by decide +kernel) rfl hf1 hf2 rfl hcat hd k
def fb_X8_ranked_l2 (b1 : Int32) (σ : gj_S) (a10002 : Int32) : Option ((Int32 ⊕ Unit) ⊕ Int32) := (if (σ.1 17 0) ≤ a10002 then some (.inl (.inr ())) else ((f_X7_countAheadOf 16 a10002 σ).bind fun x10201 => (if x10201 = b1 then some (.inl (.inl a10002)) else some (.inr (a10002 + 1)))))
def f_X8_ranked (b1 : Int32) (σ : gj_S) : Option Int32 := ((gj_lp (fb_X8_ranked_l2 b1 σ) 5000 (0 : Int32)).bind fun y1 => Sum.elim (fun q => some q) (fun z1 => some (-1 : Int32)) y1)
set_option maxHeartbeats 4000000 in
set_option maxRecDepth 100000 in
theorem sb_X8_ranked_l2 {E : gj_E} {X : gj_X} {r : Option gj_V} {τ : gj_S} (hO : gj_O E X RX8 cX8_ranked 3 (some .int) 1 24) {b1 : Int32} {σ : gj_S} {a10002 : Int32} {x : (Int32 ⊕ Unit) ⊕ Int32} (hf : fb_X8_ranked_l2 b1 σ a10002 = some x) (K : gj_K (fun y1 => gj_K (fun q => r = (some (gj_i q)) ∧ τ = σ) (fun z1 => gj_G E X 3 r τ 36 [] [] σ) y1) (fun a10002 => gj_G E X 3 r τ 2 [(0, gj_r 0), (1, gj_i b1), (2, gj_i a10002)] [] σ) x) : gj_G E X 3 r τ 2 [(0, gj_r 0), (1, gj_i b1), (2, gj_i a10002)] [] σ := by
  unfold fb_X8_ranked_l2 at hf
  refine gj_iload_n hO 2 dX8_ranked_2 rfl rfl ?_
  refine gj_aload_n hO 0 dX8_ranked_3 rfl rfl ?_
  refine gt_X8_4 hO wk_185 dX8_ranked_4 ?_
  refine gt_X7_0 hO kd_16 kl_16 wk_186 dX8_ranked_7 ?_
  refine gt_X1_0 hO kd_17 kl_17 wk_196 dX8_ranked_10 ?_
  refine gj_icmp_ge (tgt := 36) hO dX8_ranked_13 (by decide) (fun h => ?_) (fun h => ?_)
  · replace hf := gj_t h hf
    obtain rfl := Option.some.inj hf
    refine gj_sub (lv2 := []) [] rfl ?_
    exact K
  · replace hf := gj_f h hf
    refine gj_aload_n hO 0 dX8_ranked_16 rfl rfl ?_
    refine gt_X8_4 hO wk_185 dX8_ranked_17 ?_
    refine gj_iload_n hO 2 dX8_ranked_20 rfl rfl ?_
    obtain ⟨x10201, hc10201, hf⟩ := gj_b hf
    refine ca_X7_countAheadOf hO isY_16 hc10201 wk_258 (by decide) (by decide) (Nat.le_of_ble_eq_true rfl) dX8_ranked_21 ?_
    refine gj_iload_n hO 1 dX8_ranked_24 rfl rfl ?_
    refine gj_icmp_ne (tgt := 30) hO dX8_ranked_25 (by decide) (fun h => ?_) (fun h => ?_)
    · replace hf := gj_f h hf
      refine gj_iinc (v := (a10002 + 1)) (lv2 := [(2, gj_i (a10002 + 1)), (0, gj_r 0), (1, gj_i b1)]) hO 2 dX8_ranked_30 rfl rfl (by decide) rfl ?_
      refine gj_goto (tgt := 2) hO dX8_ranked_33 (by decide) ?_
      obtain rfl := Option.some.inj hf
      refine gj_sub (lv2 := [(0, gj_r 0), (1, gj_i b1), (2, gj_i (a10002 + 1))]) [1, 2, 0] rfl ?_
      exact K
    · replace hf := gj_t h hf
      refine gj_iload_n hO 2 dX8_ranked_28 rfl rfl ?_
      obtain rfl := Option.some.inj hf
      obtain ⟨rfl, rfl⟩ := K
      exact gj_iret hO dX8_ranked_29
set_option maxHeartbeats 4000000 in
set_option maxRecDepth 100000 in
theorem m_X8_ranked {E : gj_E} {σ : gj_S} {b1 : Int32}  {x : Int32} (hf : f_X8_ranked b1 σ = some x) : gj_M E yX8_ranked cX8_ranked 3 (some .int) 1 24 [gj_r 0, gj_i b1] σ (some (gj_i x)) σ := by
  refine gj_body (lv := [(0, gj_r 0), (1, gj_i b1)]) (by decide +kernel) (Nat.le_of_ble_eq_true rfl) rfl (fun X hO => ?_)
  replace hO : gj_O E X RX8 cX8_ranked 3 (some .int) 1 24 := hO
  unfold f_X8_ranked at hf
  refine gj_iconst (v := 0) hO dX8_ranked_0 (by decide) ?_
  refine gj_istore_n (lv2 := [(2, gj_i (0 : Int32)), (0, gj_r 0), (1, gj_i b1)]) hO dX8_ranked_1 rfl (by decide) rfl ?_
  obtain ⟨y1, hz1, hf⟩ := gj_b hf
  have J1 : (fun y1 => gj_K (fun q => (some (gj_i x)) = (some (gj_i q)) ∧ σ = σ) (fun z1 => gj_G E X 3 (some (gj_i x)) σ 36 [] [] σ) y1) y1 := by
    rcases y1 with q | z1
    · have hf : some q = some x := hf
      obtain rfl := Option.some.inj hf
      exact ⟨rfl, rfl⟩
    · dsimp only [Sum.elim] at hf
      refine gj_iconst (v := (-1)) hO dX8_ranked_36 (by decide) ?_
      obtain rfl := Option.some.inj hf
      exact gj_iret hO dX8_ranked_37
  refine gj_sub (lv2 := [(0, gj_r 0), (1, gj_i b1), (2, gj_i (0 : Int32))]) [1, 2, 0] rfl ?_
  exact gj_loop (head := fun a10002 => gj_G E X 3 (some (gj_i x)) σ 2 [(0, gj_r 0), (1, gj_i b1), (2, gj_i a10002)] [] σ) (exit := fun y1 => gj_K (fun q => (some (gj_i x)) = (some (gj_i q)) ∧ σ = σ) (fun z1 => gj_G E X 3 (some (gj_i x)) σ 36 [] [] σ) y1) (fun a10002 x hf K => sb_X8_ranked_l2 hO hf K) _ _ _ hz1 J1
set_option maxHeartbeats 4000000 in
set_option maxRecDepth 100000 in
theorem ca_X8_ranked {E : gj_E} {X : gj_X} {own : String} {cc : ByteArray} {nL : Nat} {rt : Option FieldType} {fr lo : Nat} {ce sl : Nat} {Q : State → Prop} {pc : Nat} {lv : List (Nat × gj_V)} {st : List gj_V} {σ : gj_S} (hO : gj_O E X own cc nL rt fr lo) {b1 : Int32}  {idx : Nat} {x : Int32} (hf : f_X8_ranked b1 σ = some x) (hl : Cond.methodLink own idx yX8_ranked ∈ gj_gw) (hf1 : 2 ≤ fr) (hf2 : 46 ≤ lo) (hcat : ((st.map (gj_tv E.2.1)).map fun v => v.category).sum ≤ 8) (hd : decode cc pc = .ok (.invokevirtual idx, 3)) (k : gj_H E X nL ce sl Q (pc + 3) lv ((gj_i x) :: st) σ) : gj_H E X nL ce sl Q pc lv (gj_i b1 :: gj_r 0 :: st) σ :=
  gj_callV hO (o := 0) (vs := [gj_i b1]) (m_X8_ranked  hf) (gj_Iany (by decide)) hl wk_259 wk_260 wk_4 wk_261 kl_0 kd_0 (by decide) (ci := 8) rfl (n := 1) (by decide +kernel) rfl hf1 hf2 rfl hcat hd k
def f_X7_goodness (b0 : Nat) (b1 : Int32) (σ : gj_S) : Option Int32 := ((f_X7_gainOf b0 b1 σ).bind fun x1 => (if gj_in b1 24 then (if (σ.1 ((b0 + 1) + 7) (Int32.toNatClampNeg b1)) = (1 : Int32) then (if 0 ≤ x1 then (if gj_in b1 24 then (if (σ.1 ((b0 + 1) + 7) (Int32.toNatClampNeg b1)) = (2 : Int32) then (if x1 ≤ 0 then some (0 : Int32) else some x1) else some (0 : Int32)) else none) else some (0 - x1)) else (if gj_in b1 24 then (if (σ.1 ((b0 + 1) + 7) (Int32.toNatClampNeg b1)) = (2 : Int32) then (if x1 ≤ 0 then some (0 : Int32) else some x1) else some (0 : Int32)) else none)) else none))
set_option maxHeartbeats 4000000 in
set_option maxRecDepth 100000 in
theorem m_X7_goodness {E : gj_E} {σ : gj_S} {b0 : Nat} {b1 : Int32} (g0 : isY b0) {x : Int32} (hf : f_X7_goodness b0 b1 σ = some x) : gj_M E yX7_goodness cX7_goodness 3 (some .int) 1 21 [gj_r b0, gj_i b1] σ (some (gj_i x)) σ := by
  refine gj_body (lv := [(0, gj_r b0), (1, gj_i b1)]) (by decide +kernel) (Nat.le_of_ble_eq_true rfl) rfl (fun X hO => ?_)
  replace hO : gj_O E X RX7 cX7_goodness 3 (some .int) 1 21 := hO
  unfold f_X7_goodness at hf
  refine gj_aload_n hO 0 dX7_goodness_0 rfl rfl ?_
  refine gj_iload_n hO 1 dX7_goodness_1 rfl rfl ?_
  obtain ⟨x1, hc1, hf⟩ := gj_b hf
  refine ca_X7_gainOf hO g0 hc1 wk_262 (by decide) (by decide) (Nat.le_of_ble_eq_true rfl) dX7_goodness_2 ?_
  refine gj_istore_n (lv2 := [(2, gj_i x1), (0, gj_r b0), (1, gj_i b1)]) hO dX7_goodness_5 rfl (by decide) rfl ?_
  refine gj_aload_n hO 1 dX7_goodness_6 rfl rfl ?_
  refine gt_X7_0 hO (kdY_0 g0) (klY_0 g0) wk_167 dX7_goodness_7 ?_
  refine gt_X1_11 hO (kdP_0 (isY_P g0)) (klP_0 (isY_P g0)) wk_263 dX7_goodness_10 ?_
  refine gj_iload_n hO 2 dX7_goodness_13 rfl rfl ?_
  obtain ⟨hb2, hf⟩ := gj_c hf
  refine gj_iald hO (klP_7 (isY_P g0)) (kdP_7 (isY_P g0)) hb2 dX7_goodness_14 ?_
  refine gj_iconst (v := 1) hO dX7_goodness_15 (by decide) ?_
  refine gj_icmp_ne (tgt := 26) hO dX7_goodness_16 (by decide) (fun h => ?_) (fun h => ?_)
  · replace hf := gj_f h hf
    refine gj_aload_n hO 1 dX7_goodness_26 rfl rfl ?_
    refine gt_X7_0 hO (kdY_0 g0) (klY_0 g0) wk_167 dX7_goodness_27 ?_
    refine gt_X1_11 hO (kdP_0 (isY_P g0)) (klP_0 (isY_P g0)) wk_263 dX7_goodness_30 ?_
    refine gj_iload_n hO 2 dX7_goodness_33 rfl rfl ?_
    obtain ⟨hb3, hf⟩ := gj_c hf
    refine gj_iald hO (klP_7 (isY_P g0)) (kdP_7 (isY_P g0)) hb3 dX7_goodness_34 ?_
    refine gj_iconst (v := 2) hO dX7_goodness_35 (by decide) ?_
    refine gj_icmp_ne (tgt := 47) hO dX7_goodness_36 (by decide) (fun h => ?_) (fun h => ?_)
    · replace hf := gj_f h hf
      refine gj_iconst (v := 0) hO dX7_goodness_47 (by decide) ?_
      obtain rfl := Option.some.inj hf
      exact gj_iret hO dX7_goodness_48
    · replace hf := gj_t h hf
      refine gj_iload_n hO 0 dX7_goodness_39 rfl rfl ?_
      refine gj_if_le (tgt := 47) hO dX7_goodness_40 (by decide) (fun h => ?_) (fun h => ?_)
      · replace hf := gj_t h hf
        refine gj_iconst (v := 0) hO dX7_goodness_47 (by decide) ?_
        obtain rfl := Option.some.inj hf
        exact gj_iret hO dX7_goodness_48
      · replace hf := gj_f h hf
        refine gj_iload_n hO 0 dX7_goodness_43 rfl rfl ?_
        refine gj_goto (tgt := 48) hO dX7_goodness_44 (by decide) ?_
        obtain rfl := Option.some.inj hf
        exact gj_iret hO dX7_goodness_48
  · replace hf := gj_t h hf
    refine gj_iload_n hO 0 dX7_goodness_19 rfl rfl ?_
    refine gj_if_ge (tgt := 26) hO dX7_goodness_20 (by decide) (fun h => ?_) (fun h => ?_)
    · replace hf := gj_t h hf
      refine gj_aload_n hO 1 dX7_goodness_26 rfl rfl ?_
      refine gt_X7_0 hO (kdY_0 g0) (klY_0 g0) wk_167 dX7_goodness_27 ?_
      refine gt_X1_11 hO (kdP_0 (isY_P g0)) (klP_0 (isY_P g0)) wk_263 dX7_goodness_30 ?_
      refine gj_iload_n hO 2 dX7_goodness_33 rfl rfl ?_
      obtain ⟨hb4, hf⟩ := gj_c hf
      refine gj_iald hO (klP_7 (isY_P g0)) (kdP_7 (isY_P g0)) hb4 dX7_goodness_34 ?_
      refine gj_iconst (v := 2) hO dX7_goodness_35 (by decide) ?_
      refine gj_icmp_ne (tgt := 47) hO dX7_goodness_36 (by decide) (fun h => ?_) (fun h => ?_)
      · replace hf := gj_f h hf
        refine gj_iconst (v := 0) hO dX7_goodness_47 (by decide) ?_
        obtain rfl := Option.some.inj hf
        exact gj_iret hO dX7_goodness_48
      · replace hf := gj_t h hf
        refine gj_iload_n hO 0 dX7_goodness_39 rfl rfl ?_
        refine gj_if_le (tgt := 47) hO dX7_goodness_40 (by decide) (fun h => ?_) (fun h => ?_)
        · replace hf := gj_t h hf
          refine gj_iconst (v := 0) hO dX7_goodness_47 (by decide) ?_
          obtain rfl := Option.some.inj hf
          exact gj_iret hO dX7_goodness_48
        · replace hf := gj_f h hf
          refine gj_iload_n hO 0 dX7_goodness_43 rfl rfl ?_
          refine gj_goto (tgt := 48) hO dX7_goodness_44 (by decide) ?_
          obtain rfl := Option.some.inj hf
          exact gj_iret hO dX7_goodness_48
    · replace hf := gj_f h hf
      refine gj_iload_n hO 0 dX7_goodness_23 rfl rfl ?_
      refine gj_ineg hO dX7_goodness_24 ?_
      obtain rfl := Option.some.inj hf
      exact gj_iret hO dX7_goodness_25
set_option maxHeartbeats 4000000 in
set_option maxRecDepth 100000 in
theorem ca_X7_goodness {E : gj_E} {X : gj_X} {own : String} {cc : ByteArray} {nL : Nat} {rt : Option FieldType} {fr lo : Nat} {ce sl : Nat} {Q : State → Prop} {pc : Nat} {lv : List (Nat × gj_V)} {st : List gj_V} {σ : gj_S} (hO : gj_O E X own cc nL rt fr lo) {b0 : Nat} {b1 : Int32} (g0 : isY b0) {idx : Nat} {x : Int32} (hf : f_X7_goodness b0 b1 σ = some x) (hl : Cond.methodLink own idx yX7_goodness ∈ gj_gw) (hf1 : 2 ≤ fr) (hf2 : 43 ≤ lo) (hcat : ((st.map (gj_tv E.2.1)).map fun v => v.category).sum ≤ 8) (hd : decode cc pc = .ok (.invokevirtual idx, 3)) (k : gj_H E X nL ce sl Q (pc + 3) lv ((gj_i x) :: st) σ) : gj_H E X nL ce sl Q pc lv (gj_i b1 :: gj_r b0 :: st) σ :=
  gj_callV hO (o := b0) (vs := [gj_i b1]) (m_X7_goodness g0 hf) (gj_Iany (by decide)) hl wk_264 wk_265 wk_171 wk_266 (klY_0 g0) (kdY_0 g0) (by decide) (ci := 7) rfl (n := 1) (by decide +kernel) rfl hf1 hf2 rfl hcat hd k
def fb_X7_countGood_l4 (b0 : Nat) (σ : gj_S) (a10004 : (Int32 × Int32)) : Option (Int32 ⊕ (Int32 × Int32)) := ((f_X1_countWays (b0 + 1) σ).bind fun x10401 => (if x10401 ≤ a10004.2 then some (.inl a10004.1) else ((f_X7_goodness b0 a10004.2 σ).bind fun x10402 => (if x10402 ≤ 0 then some (.inr ((a10004.1 + (0 : Int32)), (a10004.2 + 1))) else some (.inr ((a10004.1 + (1 : Int32)), (a10004.2 + 1)))))))
def f_X7_countGood (b0 : Nat) (σ : gj_S) : Option Int32 := ((gj_lp (fb_X7_countGood_l4 b0 σ) 5000 ((0 : Int32), (0 : Int32))).bind fun z1 => some z1)
set_option maxHeartbeats 4000000 in
set_option maxRecDepth 100000 in
theorem sb_X7_countGood_l4 {E : gj_E} {X : gj_X} {r : Option gj_V} {τ : gj_S} (hO : gj_O E X RX7 cX7_countGood 3 (some .int) 2 43) {b0 : Nat} {σ : gj_S} (g0 : isY b0) {a10004_0 : Int32} {a10004_1 : Int32} {x : Int32 ⊕ (Int32 × Int32)} (hf : fb_X7_countGood_l4 b0 σ (a10004_0, a10004_1) = some x) (K : gj_K (fun z1 => gj_G E X 3 r τ 37 [(1, gj_i z1)] [] σ) (fun a10004 => gj_G E X 3 r τ 4 [(0, gj_r b0), (1, gj_i a10004.1), (2, gj_i a10004.2)] [] σ) x) : gj_G E X 3 r τ 4 [(0, gj_r b0), (1, gj_i a10004_0), (2, gj_i a10004_1)] [] σ := by
  unfold fb_X7_countGood_l4 at hf
  dsimp only at hf
  refine gj_iload_n hO 2 dX7_countGood_4 rfl rfl ?_
  refine gj_aload_n hO 0 dX7_countGood_5 rfl rfl ?_
  refine gt_X7_0 hO (kdY_0 g0) (klY_0 g0) wk_167 dX7_countGood_6 ?_
  obtain ⟨x10401, hc10401, hf⟩ := gj_b hf
  refine ca_X1_countWays hO (isY_P g0) hc10401 wk_267 (by decide) (by decide) (Nat.le_of_ble_eq_true rfl) dX7_countGood_9 ?_
  refine gj_icmp_ge (tgt := 37) hO dX7_countGood_12 (by decide) (fun h => ?_) (fun h => ?_)
  · replace hf := gj_t h hf
    obtain rfl := Option.some.inj hf
    refine gj_sub (lv2 := [(1, gj_i a10004_0)]) [1] rfl ?_
    exact K
  · replace hf := gj_f h hf
    refine gj_iload_n hO 1 dX7_countGood_15 rfl rfl ?_
    refine gj_aload_n hO 0 dX7_countGood_16 rfl rfl ?_
    refine gj_iload_n hO 2 dX7_countGood_17 rfl rfl ?_
    obtain ⟨x10402, hc10402, hf⟩ := gj_b hf
    refine ca_X7_goodness hO g0 hc10402 wk_268 (by decide) (by decide) (Nat.le_of_ble_eq_true rfl) dX7_countGood_18 ?_
    refine gj_if_le (tgt := 28) hO dX7_countGood_21 (by decide) (fun h => ?_) (fun h => ?_)
    · replace hf := gj_t h hf
      refine gj_iconst (v := 0) hO dX7_countGood_28 (by decide) ?_
      refine gj_iadd hO dX7_countGood_29 ?_
      refine gj_istore_n (lv2 := [(1, gj_i (a10004_0 + (0 : Int32))), (0, gj_r b0), (2, gj_i a10004_1)]) hO dX7_countGood_30 rfl (by decide) rfl ?_
      refine gj_iinc (v := (a10004_1 + 1)) (lv2 := [(2, gj_i (a10004_1 + 1)), (1, gj_i (a10004_0 + (0 : Int32))), (0, gj_r b0)]) hO 2 dX7_countGood_31 rfl rfl (by decide) rfl ?_
      refine gj_goto (tgt := 4) hO dX7_countGood_34 (by decide) ?_
      obtain rfl := Option.some.inj hf
      refine gj_sub (lv2 := [(0, gj_r b0), (1, gj_i (a10004_0 + (0 : Int32))), (2, gj_i (a10004_1 + 1))]) [2, 1, 0] rfl ?_
      exact K
    · replace hf := gj_f h hf
      refine gj_iconst (v := 1) hO dX7_countGood_24 (by decide) ?_
      refine gj_goto (tgt := 29) hO dX7_countGood_25 (by decide) ?_
      refine gj_iadd hO dX7_countGood_29 ?_
      refine gj_istore_n (lv2 := [(1, gj_i (a10004_0 + (1 : Int32))), (0, gj_r b0), (2, gj_i a10004_1)]) hO dX7_countGood_30 rfl (by decide) rfl ?_
      refine gj_iinc (v := (a10004_1 + 1)) (lv2 := [(2, gj_i (a10004_1 + 1)), (1, gj_i (a10004_0 + (1 : Int32))), (0, gj_r b0)]) hO 2 dX7_countGood_31 rfl rfl (by decide) rfl ?_
      refine gj_goto (tgt := 4) hO dX7_countGood_34 (by decide) ?_
      obtain rfl := Option.some.inj hf
      refine gj_sub (lv2 := [(0, gj_r b0), (1, gj_i (a10004_0 + (1 : Int32))), (2, gj_i (a10004_1 + 1))]) [2, 1, 0] rfl ?_
      exact K
set_option maxHeartbeats 4000000 in
set_option maxRecDepth 100000 in
theorem m_X7_countGood {E : gj_E} {σ : gj_S} {b0 : Nat} (g0 : isY b0) {x : Int32} (hf : f_X7_countGood b0 σ = some x) : gj_M E yX7_countGood cX7_countGood 3 (some .int) 2 43 [gj_r b0] σ (some (gj_i x)) σ := by
  refine gj_body (lv := [(0, gj_r b0)]) (by decide +kernel) (Nat.le_of_ble_eq_true rfl) rfl (fun X hO => ?_)
  replace hO : gj_O E X RX7 cX7_countGood 3 (some .int) 2 43 := hO
  unfold f_X7_countGood at hf
  refine gj_iconst (v := 0) hO dX7_countGood_0 (by decide) ?_
  refine gj_istore_n (lv2 := [(1, gj_i (0 : Int32)), (0, gj_r b0)]) hO dX7_countGood_1 rfl (by decide) rfl ?_
  refine gj_iconst (v := 0) hO dX7_countGood_2 (by decide) ?_
  refine gj_istore_n (lv2 := [(2, gj_i (0 : Int32)), (1, gj_i (0 : Int32)), (0, gj_r b0)]) hO dX7_countGood_3 rfl (by decide) rfl ?_
  obtain ⟨z1, hz1, hf⟩ := gj_b hf
  have J1 : gj_G E X 3 (some (gj_i x)) σ 37 [(1, gj_i z1)] [] σ := by
    refine gj_iload_n hO 0 dX7_countGood_37 rfl rfl ?_
    obtain rfl := Option.some.inj hf
    exact gj_iret hO dX7_countGood_38
  refine gj_sub (lv2 := [(0, gj_r b0), (1, gj_i (0 : Int32)), (2, gj_i (0 : Int32))]) [2, 1, 0] rfl ?_
  exact gj_loop (head := fun a10004 => gj_G E X 3 (some (gj_i x)) σ 4 [(0, gj_r b0), (1, gj_i a10004.1), (2, gj_i a10004.2)] [] σ) (exit := fun z1 => gj_G E X 3 (some (gj_i x)) σ 37 [(1, gj_i z1)] [] σ) (fun a10004 x hf K => by obtain ⟨a10004_0, a10004_1⟩ := a10004; exact sb_X7_countGood_l4 hO g0 hf K) _ _ _ hz1 J1
set_option maxHeartbeats 4000000 in
set_option maxRecDepth 100000 in
theorem ca_X7_countGood {E : gj_E} {X : gj_X} {own : String} {cc : ByteArray} {nL : Nat} {rt : Option FieldType} {fr lo : Nat} {ce sl : Nat} {Q : State → Prop} {pc : Nat} {lv : List (Nat × gj_V)} {st : List gj_V} {σ : gj_S} (hO : gj_O E X own cc nL rt fr lo) {b0 : Nat} (g0 : isY b0) {idx : Nat} {x : Int32} (hf : f_X7_countGood b0 σ = some x) (hl : Cond.methodLink own idx yX7_countGood ∈ gj_gw) (hf1 : 3 ≤ fr) (hf2 : 65 ≤ lo) (hcat : ((st.map (gj_tv E.2.1)).map fun v => v.category).sum ≤ 8) (hd : decode cc pc = .ok (.invokevirtual idx, 3)) (k : gj_H E X nL ce sl Q (pc + 3) lv ((gj_i x) :: st) σ) : gj_H E X nL ce sl Q pc lv (gj_r b0 :: st) σ :=
  gj_callV hO (o := b0) (vs := []) (m_X7_countGood g0 hf) (gj_Iany (by decide)) hl wk_269 wk_270 wk_171 wk_271 (klY_0 g0) (kdY_0 g0) (by decide) (ci := 7) rfl (n := 0) (by decide +kernel) rfl hf1 hf2 rfl hcat hd k
def f_X8_good  (σ : gj_S) : Option Int32 := ((f_X7_countGood 16 σ).bind fun x1 => some x1)
set_option maxHeartbeats 4000000 in
set_option maxRecDepth 100000 in
theorem m_X8_good {E : gj_E} {σ : gj_S}   {x : Int32} (hf : f_X8_good  σ = some x) : gj_M E yX8_good cX8_good 1 (some .int) 3 65 [gj_r 0] σ (some (gj_i x)) σ := by
  refine gj_body (lv := [(0, gj_r 0)]) (by decide +kernel) (Nat.le_of_ble_eq_true rfl) rfl (fun X hO => ?_)
  replace hO : gj_O E X RX8 cX8_good 1 (some .int) 3 65 := hO
  unfold f_X8_good at hf
  refine gj_aload_n hO 0 dX8_good_0 rfl rfl ?_
  refine gt_X8_4 hO wk_185 dX8_good_1 ?_
  obtain ⟨x1, hc1, hf⟩ := gj_b hf
  refine ca_X7_countGood hO isY_16 hc1 wk_272 (by decide) (by decide) (Nat.le_of_ble_eq_true rfl) dX8_good_4 ?_
  obtain rfl := Option.some.inj hf
  exact gj_iret hO dX8_good_7
set_option maxHeartbeats 4000000 in
set_option maxRecDepth 100000 in
theorem ca_X8_good {E : gj_E} {X : gj_X} {own : String} {cc : ByteArray} {nL : Nat} {rt : Option FieldType} {fr lo : Nat} {ce sl : Nat} {Q : State → Prop} {pc : Nat} {lv : List (Nat × gj_V)} {st : List gj_V} {σ : gj_S} (hO : gj_O E X own cc nL rt fr lo)   {idx : Nat} {x : Int32} (hf : f_X8_good  σ = some x) (hl : Cond.methodLink own idx yX8_good ∈ gj_gw) (hf1 : 4 ≤ fr) (hf2 : 85 ≤ lo) (hcat : ((st.map (gj_tv E.2.1)).map fun v => v.category).sum ≤ 8) (hd : decode cc pc = .ok (.invokevirtual idx, 3)) (k : gj_H E X nL ce sl Q (pc + 3) lv ((gj_i x) :: st) σ) : gj_H E X nL ce sl Q pc lv (gj_r 0 :: st) σ :=
  gj_callV hO (o := 0) (vs := []) (m_X8_good  hf) (gj_Iany (by decide)) hl wk_273 wk_274 wk_4 wk_275 kl_0 kd_0 (by decide) (ci := 8) rfl (n := 0) (by decide +kernel) rfl hf1 hf2 rfl hcat hd k
def fb_X7_findEntering_l27 (b0 : Nat) (b1 : Int32) (σ : gj_S) (a10027 : (Int32 × Int32 × Int32 × Int32 × Int32)) : Option ((Int32 × Int32) ⊕ (Int32 × Int32 × Int32 × Int32 × Int32)) := (if b1 ≤ a10027.2.2.2.2 then some (.inl (a10027.1, a10027.2.1)) else (if a10027.2.1 = (-1 : Int32) then ((if (σ.1 (b0 + 1) 2) ≤ a10027.2.2.2.1 then some (1 : Int32) else some (a10027.2.2.2.1 + (1 : Int32)) : Option Int32).bind fun z12701 => ((f_X7_goodness b0 a10027.1 σ).bind fun x12702 => ((if x12702 ≤ a10027.2.2.1 then some (a10027.2.1, a10027.2.2.1) else some (a10027.1, x12702) : Option (Int32 × Int32)).bind fun z12703 => (if b1 ≤ (a10027.1 + (1 : Int32)) then some (.inr ((0 : Int32), z12703.1, z12703.2, z12701, (a10027.2.2.2.2 + 1))) else some (.inr ((a10027.1 + (1 : Int32)), z12703.1, z12703.2, z12701, (a10027.2.2.2.2 + 1))))))) else (if (σ.1 (b0 + 1) 2) ≤ a10027.2.2.2.1 then some (.inl (a10027.1, a10027.2.1)) else ((if (σ.1 (b0 + 1) 2) ≤ a10027.2.2.2.1 then some (1 : Int32) else some (a10027.2.2.2.1 + (1 : Int32)) : Option Int32).bind fun z12704 => ((f_X7_goodness b0 a10027.1 σ).bind fun x12705 => ((if x12705 ≤ a10027.2.2.1 then some (a10027.2.1, a10027.2.2.1) else some (a10027.1, x12705) : Option (Int32 × Int32)).bind fun z12706 => (if b1 ≤ (a10027.1 + (1 : Int32)) then some (.inr ((0 : Int32), z12706.1, z12706.2, z12704, (a10027.2.2.2.2 + 1))) else some (.inr ((a10027.1 + (1 : Int32)), z12706.1, z12706.2, z12704, (a10027.2.2.2.2 + 1))))))))))
def f_X7_findEntering (b0 : Nat) (σ : gj_S) : Option (Int32 × gj_S) := ((f_X1_countWays (b0 + 1) σ).bind fun x1 => ((gj_lp (fb_X7_findEntering_l27 b0 x1 σ) 5000 ((σ.1 (b0 + 1) 3), (-1 : Int32), (0 : Int32), (0 : Int32), (0 : Int32))).bind fun z2 => some (z2.2, (gj_sI σ b0 (upd (σ.1 b0) 3 z2.1)))))
set_option maxHeartbeats 4000000 in
set_option maxRecDepth 100000 in
theorem sb_X7_findEntering_l27 {E : gj_E} {X : gj_X} {r : Option gj_V} {τ : gj_S} (hO : gj_O E X RX7 cX7_findEntering 8 (some .int) 2 43) {b0 : Nat} {b1 : Int32} {σ : gj_S} (g0 : isY b0) {a10027_0 : Int32} {a10027_1 : Int32} {a10027_2 : Int32} {a10027_3 : Int32} {a10027_4 : Int32} {x : (Int32 × Int32) ⊕ (Int32 × Int32 × Int32 × Int32 × Int32)} (hf : fb_X7_findEntering_l27 b0 b1 σ (a10027_0, a10027_1, a10027_2, a10027_3, a10027_4) = some x) (K : gj_K (fun z2 => gj_G E X 8 r τ 113 [(0, gj_r b0), (2, gj_i z2.1), (3, gj_i z2.2)] [] σ) (fun a10027 => gj_G E X 8 r τ 27 [(0, gj_r b0), (1, gj_i b1), (2, gj_i a10027.1), (3, gj_i a10027.2.1), (4, gj_i a10027.2.2.1), (5, gj_i a10027.2.2.2.1), (6, gj_i a10027.2.2.2.2)] [] σ) x) : gj_G E X 8 r τ 27 [(0, gj_r b0), (1, gj_i b1), (2, gj_i a10027_0), (3, gj_i a10027_1), (4, gj_i a10027_2), (5, gj_i a10027_3), (6, gj_i a10027_4)] [] σ := by
  unfold fb_X7_findEntering_l27 at hf
  dsimp only at hf
  refine gj_iload hO 6 dX7_findEntering_27 rfl ?_
  refine gj_iload_n hO 1 dX7_findEntering_29 rfl rfl ?_
  refine gj_icmp_ge (tgt := 113) hO dX7_findEntering_30 (by decide) (fun h => ?_) (fun h => ?_)
  · replace hf := gj_t h hf
    obtain rfl := Option.some.inj hf
    refine gj_sub (lv2 := [(0, gj_r b0), (2, gj_i a10027_0), (3, gj_i a10027_1)]) [0, 2, 3] rfl ?_
    exact K
  · replace hf := gj_f h hf
    refine gj_iload_n hO 3 dX7_findEntering_33 rfl rfl ?_
    refine gj_iconst (v := (-1)) hO dX7_findEntering_34 (by decide) ?_
    refine gj_icmp_eq (tgt := 50) hO dX7_findEntering_35 (by decide) (fun h => ?_) (fun h => ?_)
    · replace hf := gj_t h hf
      refine gj_iload hO 5 dX7_findEntering_50 rfl ?_
      refine gj_aload_n hO 0 dX7_findEntering_52 rfl rfl ?_
      refine gt_X7_0 hO (kdY_0 g0) (klY_0 g0) wk_167 dX7_findEntering_53 ?_
      refine gt_X1_2 hO (kdP_0 (isY_P g0)) (klP_0 (isY_P g0)) wk_277 dX7_findEntering_56 ?_
      obtain ⟨z12701, hz12701, hf⟩ := gj_b hf
      have J12701 : gj_G E X 8 r τ 70 [(0, gj_r b0), (1, gj_i b1), (2, gj_i a10027_0), (3, gj_i a10027_1), (4, gj_i a10027_2), (6, gj_i a10027_4)] [gj_i z12701] σ := by
        refine gj_istore (lv2 := [(5, gj_i z12701), (0, gj_r b0), (1, gj_i b1), (2, gj_i a10027_0), (3, gj_i a10027_1), (4, gj_i a10027_2), (6, gj_i a10027_4)]) hO dX7_findEntering_70 (by decide) rfl ?_
        refine gj_aload_n hO 1 dX7_findEntering_72 rfl rfl ?_
        refine gj_iload_n hO 3 dX7_findEntering_73 rfl rfl ?_
        obtain ⟨x12702, hc12702, hf⟩ := gj_b hf
        refine ca_X7_goodness hO g0 hc12702 wk_268 (by decide) (by decide) (Nat.le_of_ble_eq_true rfl) dX7_findEntering_74 ?_
        refine gj_istore (lv2 := [(7, gj_i x12702), (5, gj_i z12701), (0, gj_r b0), (1, gj_i b1), (2, gj_i a10027_0), (3, gj_i a10027_1), (4, gj_i a10027_2), (6, gj_i a10027_4)]) hO dX7_findEntering_77 (by decide) rfl ?_
        refine gj_iload hO 0 dX7_findEntering_79 rfl ?_
        refine gj_iload hO 6 dX7_findEntering_81 rfl ?_
        obtain ⟨⟨z12703_0, z12703_1⟩, hz12703, hf⟩ := gj_b hf
        dsimp only at hf
        have J12703 : gj_G E X 8 r τ 92 [(0, gj_r b0), (1, gj_i b1), (2, gj_i a10027_0), (3, gj_i z12703_0), (4, gj_i z12703_1), (5, gj_i z12701), (6, gj_i a10027_4)] [] σ := by
          refine gj_iload_n hO 2 dX7_findEntering_92 rfl rfl ?_
          refine gj_iconst (v := 1) hO dX7_findEntering_93 (by decide) ?_
          refine gj_iadd hO dX7_findEntering_94 ?_
          refine gj_iload_n hO 1 dX7_findEntering_95 rfl rfl ?_
          refine gj_icmp_ge (tgt := 105) hO dX7_findEntering_96 (by decide) (fun h => ?_) (fun h => ?_)
          · replace hf := gj_t h hf
            refine gj_iconst (v := 0) hO dX7_findEntering_105 (by decide) ?_
            refine gj_istore_n (lv2 := [(2, gj_i (0 : Int32)), (0, gj_r b0), (1, gj_i b1), (3, gj_i z12703_0), (4, gj_i z12703_1), (5, gj_i z12701), (6, gj_i a10027_4)]) hO dX7_findEntering_106 rfl (by decide) rfl ?_
            refine gj_iinc (v := (a10027_4 + 1)) (lv2 := [(6, gj_i (a10027_4 + 1)), (2, gj_i (0 : Int32)), (0, gj_r b0), (1, gj_i b1), (3, gj_i z12703_0), (4, gj_i z12703_1), (5, gj_i z12701)]) hO 6 dX7_findEntering_107 rfl rfl (by decide) rfl ?_
            refine gj_goto (tgt := 27) hO dX7_findEntering_110 (by decide) ?_
            obtain rfl := Option.some.inj hf
            refine gj_sub (lv2 := [(0, gj_r b0), (1, gj_i b1), (2, gj_i (0 : Int32)), (3, gj_i z12703_0), (4, gj_i z12703_1), (5, gj_i z12701), (6, gj_i (a10027_4 + 1))]) [2, 3, 1, 4, 5, 6, 0] rfl ?_
            exact K
          · replace hf := gj_f h hf
            refine gj_iload_n hO 2 dX7_findEntering_99 rfl rfl ?_
            refine gj_iconst (v := 1) hO dX7_findEntering_100 (by decide) ?_
            refine gj_iadd hO dX7_findEntering_101 ?_
            refine gj_goto (tgt := 106) hO dX7_findEntering_102 (by decide) ?_
            refine gj_istore_n (lv2 := [(2, gj_i (a10027_0 + (1 : Int32))), (0, gj_r b0), (1, gj_i b1), (3, gj_i z12703_0), (4, gj_i z12703_1), (5, gj_i z12701), (6, gj_i a10027_4)]) hO dX7_findEntering_106 rfl (by decide) rfl ?_
            refine gj_iinc (v := (a10027_4 + 1)) (lv2 := [(6, gj_i (a10027_4 + 1)), (2, gj_i (a10027_0 + (1 : Int32))), (0, gj_r b0), (1, gj_i b1), (3, gj_i z12703_0), (4, gj_i z12703_1), (5, gj_i z12701)]) hO 6 dX7_findEntering_107 rfl rfl (by decide) rfl ?_
            refine gj_goto (tgt := 27) hO dX7_findEntering_110 (by decide) ?_
            obtain rfl := Option.some.inj hf
            refine gj_sub (lv2 := [(0, gj_r b0), (1, gj_i b1), (2, gj_i (a10027_0 + (1 : Int32))), (3, gj_i z12703_0), (4, gj_i z12703_1), (5, gj_i z12701), (6, gj_i (a10027_4 + 1))]) [2, 3, 1, 4, 5, 6, 0] rfl ?_
            exact K
        refine gj_icmp_le (tgt := 92) hO dX7_findEntering_83 (by decide) (fun h => ?_) (fun h => ?_)
        · replace hz12703 := gj_t h hz12703
          replace hz12703 := Option.some.inj hz12703
          simp only [Prod.mk.injEq] at hz12703
          obtain ⟨rfl, rfl⟩ := hz12703
          refine gj_sub (lv2 := [(0, gj_r b0), (1, gj_i b1), (2, gj_i a10027_0), (3, gj_i a10027_1), (4, gj_i a10027_2), (5, gj_i z12701), (6, gj_i a10027_4)]) [2, 3, 4, 5, 6, 1, 7] rfl ?_
          exact J12703
        · replace hz12703 := gj_f h hz12703
          refine gj_iload_n hO 4 dX7_findEntering_86 rfl rfl ?_
          refine gj_istore_n (lv2 := [(3, gj_i a10027_0), (7, gj_i x12702), (5, gj_i z12701), (0, gj_r b0), (1, gj_i b1), (2, gj_i a10027_0), (4, gj_i a10027_2), (6, gj_i a10027_4)]) hO dX7_findEntering_87 rfl (by decide) rfl ?_
          refine gj_iload hO 1 dX7_findEntering_88 rfl ?_
          refine gj_istore (lv2 := [(4, gj_i x12702), (3, gj_i a10027_0), (7, gj_i x12702), (5, gj_i z12701), (0, gj_r b0), (1, gj_i b1), (2, gj_i a10027_0), (6, gj_i a10027_4)]) hO dX7_findEntering_90 (by decide) rfl ?_
          replace hz12703 := Option.some.inj hz12703
          simp only [Prod.mk.injEq] at hz12703
          obtain ⟨rfl, rfl⟩ := hz12703
          refine gj_sub (lv2 := [(0, gj_r b0), (1, gj_i b1), (2, gj_i a10027_0), (3, gj_i a10027_0), (4, gj_i x12702), (5, gj_i z12701), (6, gj_i a10027_4)]) [4, 5, 6, 1, 0, 3, 7] rfl ?_
          exact J12703
      refine gj_icmp_ge (tgt := 69) hO dX7_findEntering_59 (by decide) (fun h => ?_) (fun h => ?_)
      · replace hz12701 := gj_t h hz12701
        refine gj_iconst (v := 1) hO dX7_findEntering_69 (by decide) ?_
        obtain rfl := Option.some.inj hz12701
        refine gj_sub (lv2 := [(0, gj_r b0), (1, gj_i b1), (2, gj_i a10027_0), (3, gj_i a10027_1), (4, gj_i a10027_2), (6, gj_i a10027_4)]) [0, 1, 2, 3, 4, 6] rfl ?_
        exact J12701
      · replace hz12701 := gj_f h hz12701
        refine gj_iload hO 5 dX7_findEntering_62 rfl ?_
        refine gj_iconst (v := 1) hO dX7_findEntering_64 (by decide) ?_
        refine gj_iadd hO dX7_findEntering_65 ?_
        refine gj_goto (tgt := 70) hO dX7_findEntering_66 (by decide) ?_
        obtain rfl := Option.some.inj hz12701
        refine gj_sub (lv2 := [(0, gj_r b0), (1, gj_i b1), (2, gj_i a10027_0), (3, gj_i a10027_1), (4, gj_i a10027_2), (6, gj_i a10027_4)]) [0, 1, 2, 3, 4, 6] rfl ?_
        exact J12701
    · replace hf := gj_f h hf
      refine gj_iload hO 5 dX7_findEntering_38 rfl ?_
      refine gj_aload_n hO 0 dX7_findEntering_40 rfl rfl ?_
      refine gt_X7_0 hO (kdY_0 g0) (klY_0 g0) wk_167 dX7_findEntering_41 ?_
      refine gt_X1_2 hO (kdP_0 (isY_P g0)) (klP_0 (isY_P g0)) wk_277 dX7_findEntering_44 ?_
      refine gj_icmp_ge (tgt := 113) hO dX7_findEntering_47 (by decide) (fun h => ?_) (fun h => ?_)
      · replace hf := gj_t h hf
        obtain rfl := Option.some.inj hf
        refine gj_sub (lv2 := [(0, gj_r b0), (2, gj_i a10027_0), (3, gj_i a10027_1)]) [0, 2, 3] rfl ?_
        exact K
      · replace hf := gj_f h hf
        refine gj_iload hO 5 dX7_findEntering_50 rfl ?_
        refine gj_aload_n hO 0 dX7_findEntering_52 rfl rfl ?_
        refine gt_X7_0 hO (kdY_0 g0) (klY_0 g0) wk_167 dX7_findEntering_53 ?_
        refine gt_X1_2 hO (kdP_0 (isY_P g0)) (klP_0 (isY_P g0)) wk_277 dX7_findEntering_56 ?_
        obtain ⟨z12704, hz12704, hf⟩ := gj_b hf
        have J12704 : gj_G E X 8 r τ 70 [(0, gj_r b0), (1, gj_i b1), (2, gj_i a10027_0), (3, gj_i a10027_1), (4, gj_i a10027_2), (6, gj_i a10027_4)] [gj_i z12704] σ := by
          refine gj_istore (lv2 := [(5, gj_i z12704), (0, gj_r b0), (1, gj_i b1), (2, gj_i a10027_0), (3, gj_i a10027_1), (4, gj_i a10027_2), (6, gj_i a10027_4)]) hO dX7_findEntering_70 (by decide) rfl ?_
          refine gj_aload_n hO 1 dX7_findEntering_72 rfl rfl ?_
          refine gj_iload_n hO 3 dX7_findEntering_73 rfl rfl ?_
          obtain ⟨x12705, hc12705, hf⟩ := gj_b hf
          refine ca_X7_goodness hO g0 hc12705 wk_268 (by decide) (by decide) (Nat.le_of_ble_eq_true rfl) dX7_findEntering_74 ?_
          refine gj_istore (lv2 := [(7, gj_i x12705), (5, gj_i z12704), (0, gj_r b0), (1, gj_i b1), (2, gj_i a10027_0), (3, gj_i a10027_1), (4, gj_i a10027_2), (6, gj_i a10027_4)]) hO dX7_findEntering_77 (by decide) rfl ?_
          refine gj_iload hO 0 dX7_findEntering_79 rfl ?_
          refine gj_iload hO 6 dX7_findEntering_81 rfl ?_
          obtain ⟨⟨z12706_0, z12706_1⟩, hz12706, hf⟩ := gj_b hf
          dsimp only at hf
          have J12706 : gj_G E X 8 r τ 92 [(0, gj_r b0), (1, gj_i b1), (2, gj_i a10027_0), (3, gj_i z12706_0), (4, gj_i z12706_1), (5, gj_i z12704), (6, gj_i a10027_4)] [] σ := by
            refine gj_iload_n hO 2 dX7_findEntering_92 rfl rfl ?_
            refine gj_iconst (v := 1) hO dX7_findEntering_93 (by decide) ?_
            refine gj_iadd hO dX7_findEntering_94 ?_
            refine gj_iload_n hO 1 dX7_findEntering_95 rfl rfl ?_
            refine gj_icmp_ge (tgt := 105) hO dX7_findEntering_96 (by decide) (fun h => ?_) (fun h => ?_)
            · replace hf := gj_t h hf
              refine gj_iconst (v := 0) hO dX7_findEntering_105 (by decide) ?_
              refine gj_istore_n (lv2 := [(2, gj_i (0 : Int32)), (0, gj_r b0), (1, gj_i b1), (3, gj_i z12706_0), (4, gj_i z12706_1), (5, gj_i z12704), (6, gj_i a10027_4)]) hO dX7_findEntering_106 rfl (by decide) rfl ?_
              refine gj_iinc (v := (a10027_4 + 1)) (lv2 := [(6, gj_i (a10027_4 + 1)), (2, gj_i (0 : Int32)), (0, gj_r b0), (1, gj_i b1), (3, gj_i z12706_0), (4, gj_i z12706_1), (5, gj_i z12704)]) hO 6 dX7_findEntering_107 rfl rfl (by decide) rfl ?_
              refine gj_goto (tgt := 27) hO dX7_findEntering_110 (by decide) ?_
              obtain rfl := Option.some.inj hf
              refine gj_sub (lv2 := [(0, gj_r b0), (1, gj_i b1), (2, gj_i (0 : Int32)), (3, gj_i z12706_0), (4, gj_i z12706_1), (5, gj_i z12704), (6, gj_i (a10027_4 + 1))]) [2, 3, 1, 4, 5, 6, 0] rfl ?_
              exact K
            · replace hf := gj_f h hf
              refine gj_iload_n hO 2 dX7_findEntering_99 rfl rfl ?_
              refine gj_iconst (v := 1) hO dX7_findEntering_100 (by decide) ?_
              refine gj_iadd hO dX7_findEntering_101 ?_
              refine gj_goto (tgt := 106) hO dX7_findEntering_102 (by decide) ?_
              refine gj_istore_n (lv2 := [(2, gj_i (a10027_0 + (1 : Int32))), (0, gj_r b0), (1, gj_i b1), (3, gj_i z12706_0), (4, gj_i z12706_1), (5, gj_i z12704), (6, gj_i a10027_4)]) hO dX7_findEntering_106 rfl (by decide) rfl ?_
              refine gj_iinc (v := (a10027_4 + 1)) (lv2 := [(6, gj_i (a10027_4 + 1)), (2, gj_i (a10027_0 + (1 : Int32))), (0, gj_r b0), (1, gj_i b1), (3, gj_i z12706_0), (4, gj_i z12706_1), (5, gj_i z12704)]) hO 6 dX7_findEntering_107 rfl rfl (by decide) rfl ?_
              refine gj_goto (tgt := 27) hO dX7_findEntering_110 (by decide) ?_
              obtain rfl := Option.some.inj hf
              refine gj_sub (lv2 := [(0, gj_r b0), (1, gj_i b1), (2, gj_i (a10027_0 + (1 : Int32))), (3, gj_i z12706_0), (4, gj_i z12706_1), (5, gj_i z12704), (6, gj_i (a10027_4 + 1))]) [2, 3, 1, 4, 5, 6, 0] rfl ?_
              exact K
          refine gj_icmp_le (tgt := 92) hO dX7_findEntering_83 (by decide) (fun h => ?_) (fun h => ?_)
          · replace hz12706 := gj_t h hz12706
            replace hz12706 := Option.some.inj hz12706
            simp only [Prod.mk.injEq] at hz12706
            obtain ⟨rfl, rfl⟩ := hz12706
            refine gj_sub (lv2 := [(0, gj_r b0), (1, gj_i b1), (2, gj_i a10027_0), (3, gj_i a10027_1), (4, gj_i a10027_2), (5, gj_i z12704), (6, gj_i a10027_4)]) [2, 3, 4, 5, 6, 1, 7] rfl ?_
            exact J12706
          · replace hz12706 := gj_f h hz12706
            refine gj_iload_n hO 4 dX7_findEntering_86 rfl rfl ?_
            refine gj_istore_n (lv2 := [(3, gj_i a10027_0), (7, gj_i x12705), (5, gj_i z12704), (0, gj_r b0), (1, gj_i b1), (2, gj_i a10027_0), (4, gj_i a10027_2), (6, gj_i a10027_4)]) hO dX7_findEntering_87 rfl (by decide) rfl ?_
            refine gj_iload hO 1 dX7_findEntering_88 rfl ?_
            refine gj_istore (lv2 := [(4, gj_i x12705), (3, gj_i a10027_0), (7, gj_i x12705), (5, gj_i z12704), (0, gj_r b0), (1, gj_i b1), (2, gj_i a10027_0), (6, gj_i a10027_4)]) hO dX7_findEntering_90 (by decide) rfl ?_
            replace hz12706 := Option.some.inj hz12706
            simp only [Prod.mk.injEq] at hz12706
            obtain ⟨rfl, rfl⟩ := hz12706
            refine gj_sub (lv2 := [(0, gj_r b0), (1, gj_i b1), (2, gj_i a10027_0), (3, gj_i a10027_0), (4, gj_i x12705), (5, gj_i z12704), (6, gj_i a10027_4)]) [4, 5, 6, 1, 0, 3, 7] rfl ?_
            exact J12706
        refine gj_icmp_ge (tgt := 69) hO dX7_findEntering_59 (by decide) (fun h => ?_) (fun h => ?_)
        · replace hz12704 := gj_t h hz12704
          refine gj_iconst (v := 1) hO dX7_findEntering_69 (by decide) ?_
          obtain rfl := Option.some.inj hz12704
          refine gj_sub (lv2 := [(0, gj_r b0), (1, gj_i b1), (2, gj_i a10027_0), (3, gj_i a10027_1), (4, gj_i a10027_2), (6, gj_i a10027_4)]) [0, 1, 2, 3, 4, 6] rfl ?_
          exact J12704
        · replace hz12704 := gj_f h hz12704
          refine gj_iload hO 5 dX7_findEntering_62 rfl ?_
          refine gj_iconst (v := 1) hO dX7_findEntering_64 (by decide) ?_
          refine gj_iadd hO dX7_findEntering_65 ?_
          refine gj_goto (tgt := 70) hO dX7_findEntering_66 (by decide) ?_
          obtain rfl := Option.some.inj hz12704
          refine gj_sub (lv2 := [(0, gj_r b0), (1, gj_i b1), (2, gj_i a10027_0), (3, gj_i a10027_1), (4, gj_i a10027_2), (6, gj_i a10027_4)]) [0, 1, 2, 3, 4, 6] rfl ?_
          exact J12704
set_option maxHeartbeats 4000000 in
set_option maxRecDepth 100000 in
theorem m_X7_findEntering {E : gj_E} {σ : gj_S} {b0 : Nat} (g0 : isY b0) {x : Int32} {y : gj_S} (hf : f_X7_findEntering b0 σ = some (x, y)) : gj_M E yX7_findEntering cX7_findEntering 8 (some .int) 2 43 [gj_r b0] σ (some (gj_i x)) y := by
  refine gj_body (lv := [(0, gj_r b0)]) (by decide +kernel) (Nat.le_of_ble_eq_true rfl) rfl (fun X hO => ?_)
  replace hO : gj_O E X RX7 cX7_findEntering 8 (some .int) 2 43 := hO
  unfold f_X7_findEntering at hf
  refine gj_aload_n hO 0 dX7_findEntering_0 rfl rfl ?_
  refine gt_X7_0 hO (kdY_0 g0) (klY_0 g0) wk_167 dX7_findEntering_1 ?_
  obtain ⟨x1, hc1, hf⟩ := gj_b hf
  refine ca_X1_countWays hO (isY_P g0) hc1 wk_267 (by decide) (by decide) (Nat.le_of_ble_eq_true rfl) dX7_findEntering_4 ?_
  refine gj_istore_n (lv2 := [(1, gj_i x1), (0, gj_r b0)]) hO dX7_findEntering_7 rfl (by decide) rfl ?_
  refine gj_aload_n hO 1 dX7_findEntering_8 rfl rfl ?_
  refine gt_X7_0 hO (kdY_0 g0) (klY_0 g0) wk_167 dX7_findEntering_9 ?_
  refine gt_X1_3 hO (kdP_0 (isY_P g0)) (klP_0 (isY_P g0)) wk_276 dX7_findEntering_12 ?_
  refine gj_istore_n (lv2 := [(2, gj_i (σ.1 (b0 + 1) 3)), (1, gj_i x1), (0, gj_r b0)]) hO dX7_findEntering_15 rfl (by decide) rfl ?_
  refine gj_iconst (v := (-1)) hO dX7_findEntering_16 (by decide) ?_
  refine gj_istore_n (lv2 := [(3, gj_i (-1 : Int32)), (2, gj_i (σ.1 (b0 + 1) 3)), (1, gj_i x1), (0, gj_r b0)]) hO dX7_findEntering_17 rfl (by decide) rfl ?_
  refine gj_iconst (v := 0) hO dX7_findEntering_18 (by decide) ?_
  refine gj_istore (lv2 := [(4, gj_i (0 : Int32)), (3, gj_i (-1 : Int32)), (2, gj_i (σ.1 (b0 + 1) 3)), (1, gj_i x1), (0, gj_r b0)]) hO dX7_findEntering_19 (by decide) rfl ?_
  refine gj_iconst (v := 0) hO dX7_findEntering_21 (by decide) ?_
  refine gj_istore (lv2 := [(5, gj_i (0 : Int32)), (4, gj_i (0 : Int32)), (3, gj_i (-1 : Int32)), (2, gj_i (σ.1 (b0 + 1) 3)), (1, gj_i x1), (0, gj_r b0)]) hO dX7_findEntering_22 (by decide) rfl ?_
  refine gj_iconst (v := 0) hO dX7_findEntering_24 (by decide) ?_
  refine gj_istore (lv2 := [(6, gj_i (0 : Int32)), (5, gj_i (0 : Int32)), (4, gj_i (0 : Int32)), (3, gj_i (-1 : Int32)), (2, gj_i (σ.1 (b0 + 1) 3)), (1, gj_i x1), (0, gj_r b0)]) hO dX7_findEntering_25 (by decide) rfl ?_
  obtain ⟨⟨z2_0, z2_1⟩, hz2, hf⟩ := gj_b hf
  dsimp only at hf
  have J2 : gj_G E X 8 (some (gj_i x)) y 113 [(0, gj_r b0), (2, gj_i z2_0), (3, gj_i z2_1)] [] σ := by
    refine gj_aload_n hO 0 dX7_findEntering_113 rfl rfl ?_
    refine gj_iload_n hO 1 dX7_findEntering_114 rfl rfl ?_
    refine pt_X7_3 hO (kdY_0 g0) (klY_0 g0) wk_278 dX7_findEntering_115 ?_
    refine gj_iload_n hO 2 dX7_findEntering_118 rfl rfl ?_
    replace hf := Option.some.inj hf
    simp only [Prod.mk.injEq] at hf
    obtain ⟨rfl, rfl⟩ := hf
    exact gj_iret hO dX7_findEntering_119
  refine gj_sub (lv2 := [(0, gj_r b0), (1, gj_i x1), (2, gj_i (σ.1 (b0 + 1) 3)), (3, gj_i (-1 : Int32)), (4, gj_i (0 : Int32)), (5, gj_i (0 : Int32)), (6, gj_i (0 : Int32))]) [6, 5, 4, 3, 2, 1, 0] rfl ?_
  exact gj_loop (head := fun a10027 => gj_G E X 8 (some (gj_i x)) y 27 [(0, gj_r b0), (1, gj_i x1), (2, gj_i a10027.1), (3, gj_i a10027.2.1), (4, gj_i a10027.2.2.1), (5, gj_i a10027.2.2.2.1), (6, gj_i a10027.2.2.2.2)] [] σ) (exit := fun z2 => gj_G E X 8 (some (gj_i x)) y 113 [(0, gj_r b0), (2, gj_i z2.1), (3, gj_i z2.2)] [] σ) (fun a10027 x hf K => by obtain ⟨a10027_0, a10027_1, a10027_2, a10027_3, a10027_4⟩ := a10027; exact sb_X7_findEntering_l27 hO g0 hf K) _ _ _ hz2 J2
set_option maxHeartbeats 4000000 in
set_option maxRecDepth 100000 in
theorem ca_X7_findEntering {E : gj_E} {X : gj_X} {own : String} {cc : ByteArray} {nL : Nat} {rt : Option FieldType} {fr lo : Nat} {ce sl : Nat} {Q : State → Prop} {pc : Nat} {lv : List (Nat × gj_V)} {st : List gj_V} {σ : gj_S} (hO : gj_O E X own cc nL rt fr lo) {b0 : Nat} (g0 : isY b0) {idx : Nat} {x : Int32} {y : gj_S} (hf : f_X7_findEntering b0 σ = some (x, y)) (hl : Cond.methodLink own idx yX7_findEntering ∈ gj_gw) (hf1 : 3 ≤ fr) (hf2 : 70 ≤ lo) (hcat : ((st.map (gj_tv E.2.1)).map fun v => v.category).sum ≤ 8) (hd : decode cc pc = .ok (.invokevirtual idx, 3)) (k : gj_H E X nL ce sl Q (pc + 3) lv ((gj_i x) :: st) y) : gj_H E X nL ce sl Q pc lv (gj_r b0 :: st) σ :=
  gj_callV hO (o := b0) (vs := []) (m_X7_findEntering g0 hf) (gj_Iany (by decide)) hl wk_279 wk_280 wk_171 wk_281 (klY_0 g0) (kdY_0 g0) (by decide) (ci := 7) rfl (n := 0) (by decide +kernel) rfl hf1 hf2 rfl hcat hd k
