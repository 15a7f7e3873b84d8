def fb_X2_readText_l43  (a10043 : (Int32 × gj_S)) : Option (((Int32 × gj_S) ⊕ gj_S) ⊕ (Int32 × gj_S)) := (if (a10043.2.1 2 6) < a10043.1 then some (.inl (.inr a10043.2)) else (if (a10043.2.1 2 7) = (3 : Int32) then some (.inl (.inr a10043.2)) else ((f_X2_readLine a10043.2).bind fun x14301 => (if x14301.1 = 0 then some (.inl (.inl ((x14301.2.1 2 4), x14301.2))) else some (.inr ((a10043.1 + 1), x14301.2))))))
def f_X2_readText (b2 : Int32) (σ : gj_S) : Option (Int32 × gj_S) := ((some (gj_sI (gj_sI (gj_sT σ 1) 2 (upd ((gj_sT σ 1).1 2) 6 (if (600 : Int32) < b2 then (600 : Int32) else b2))) 2 (upd ((gj_sI (gj_sT σ 1) 2 (upd ((gj_sT σ 1).1 2) 6 (if (600 : Int32) < b2 then (600 : Int32) else b2))).1 2) 5 (0 : Int32)))).bind fun s1 => ((f_X1_tellNothing 3 (gj_sI (gj_sI s1 2 (upd (s1.1 2) 4 (-1 : Int32))) 2 (upd ((gj_sI s1 2 (upd (s1.1 2) 4 (-1 : Int32))).1 2) 3 (0 : Int32)))).bind fun x2 => ((f_X2_readToken x2).bind fun x3 => ((gj_lp (fb_X2_readText_l43) 5000 ((0 : Int32), x3)).bind fun y4 => Sum.elim (fun q => some q) (fun z4 => some ((-1 : Int32), z4)) y4))))
set_option maxHeartbeats 4000000 in
set_option maxRecDepth 100000 in
theorem sb_X2_readText_l43 {E : gj_E} {X : gj_X} {r : Option gj_V} {τ : gj_S} (hO : gj_O E X RX2 cX2_readText 4 (some .int) 5 106)  {a10043_0 : Int32} {a10043_1 : gj_S} {x : ((Int32 × gj_S) ⊕ gj_S) ⊕ (Int32 × gj_S)} (hf : fb_X2_readText_l43  (a10043_0, a10043_1) = some x) (K : gj_K (fun y4 => gj_K (fun q => r = (some (gj_i q.1)) ∧ τ = q.2) (fun z4 => gj_G E X 4 r τ 77 [] [] z4) y4) (fun a10043 => gj_G E X 4 r τ 43 [(0, gj_r 2), (3, gj_i a10043.1)] [] a10043.2) x) : gj_G E X 4 r τ 43 [(0, gj_r 2), (3, gj_i a10043_0)] [] a10043_1 := by
  unfold fb_X2_readText_l43 at hf
  dsimp only at hf
  refine gj_iload_n hO 1 dX2_readText_43 rfl rfl ?_
  refine gj_aload_n hO 0 dX2_readText_44 rfl rfl ?_
  refine gt_X2_6 hO wk_21 dX2_readText_45 ?_
  refine gj_icmp_gt (tgt := 77) hO dX2_readText_48 (by decide) (fun h => ?_) (fun h => ?_)
  · replace hf := gj_t h hf
    obtain rfl := Option.some.inj hf
    refine gj_sub (lv2 := []) [] rfl ?_
    exact K
  · replace hf := gj_f h hf
    refine gj_aload_n hO 0 dX2_readText_51 rfl rfl ?_
    refine gt_X2_7 hO wk_26 dX2_readText_52 ?_
    refine gj_iconst (v := 3) hO dX2_readText_55 (by decide) ?_
    refine gj_icmp_eq (tgt := 77) hO dX2_readText_56 (by decide) (fun h => ?_) (fun h => ?_)
    · replace hf := gj_t h hf
      obtain rfl := Option.some.inj hf
      refine gj_sub (lv2 := []) [] rfl ?_
      exact K
    · replace hf := gj_f h hf
      refine gj_aload_n hO 0 dX2_readText_59 rfl rfl ?_
      obtain ⟨⟨x14301_v, x14301_s⟩, hc14301, hf⟩ := gj_b hf
      dsimp only at hf
      refine ca_X2_readLine hO  hc14301 wk_114 (by decide) (by decide) (Nat.le_of_ble_eq_true rfl) dX2_readText_60 ?_
      refine gj_if_ne (tgt := 71) hO dX2_readText_63 (by decide) (fun h => ?_) (fun h => ?_)
      · replace hf := gj_f h hf
        refine gj_iinc (v := (a10043_0 + 1)) (lv2 := [(3, gj_i (a10043_0 + 1)), (0, gj_r 2)]) hO 1 dX2_readText_71 rfl rfl (by decide) rfl ?_
        refine gj_goto (tgt := 43) hO dX2_readText_74 (by decide) ?_
        obtain rfl := Option.some.inj hf
        refine gj_sub (lv2 := [(0, gj_r 2), (3, gj_i (a10043_0 + 1))]) [1, 0] rfl ?_
        exact K
      · replace hf := gj_t h hf
        refine gj_aload_n hO 0 dX2_readText_66 rfl rfl ?_
        refine gt_X2_4 hO wk_35 dX2_readText_67 ?_
        obtain rfl := Option.some.inj hf
        obtain ⟨rfl, rfl⟩ := K
        exact gj_iret hO dX2_readText_70
set_option maxHeartbeats 4000000 in
set_option maxRecDepth 100000 in
theorem m_X2_readText {E : gj_E} {σ : gj_S} {b2 : Int32}  {x : Int32} {y : gj_S} (hf : f_X2_readText b2 σ = some (x, y)) : gj_M E yX2_readText cX2_readText 4 (some .int) 5 106 [gj_r 2, gj_r 1, gj_i b2] σ (some (gj_i x)) y := by
  refine gj_body (lv := [(0, gj_r 2), (1, gj_r 1), (2, gj_i b2)]) (by decide +kernel) (Nat.le_of_ble_eq_true rfl) rfl (fun X hO => ?_)
  replace hO : gj_O E X RX2 cX2_readText 4 (some .int) 5 106 := hO
  unfold f_X2_readText at hf
  refine gj_aload_n hO 0 dX2_readText_0 rfl rfl ?_
  refine gj_aload_n hO 1 dX2_readText_1 rfl rfl ?_
  refine pt_X2_10 hO wk_22 dX2_readText_2 ?_
  refine gj_aload_n hO 0 dX2_readText_5 rfl rfl ?_
  refine gj_iload_n hO 2 dX2_readText_6 rfl rfl ?_
  refine gj_aload_n hO 1 dX2_readText_7 rfl rfl ?_
  refine gj_alenB (v := 600) hO kl_1 kd_1 (by decide) dX2_readText_8 ?_
  refine gj_mmin hO wk_112 (by decide) (by decide) (Nat.le_of_ble_eq_true rfl) dX2_readText_9 ?_
  refine pt_X2_6 hO wk_21 dX2_readText_12 ?_
  refine gj_aload_n hO 0 dX2_readText_15 rfl rfl ?_
  refine gj_iconst (v := 0) hO dX2_readText_16 (by decide) ?_
  refine pt_X2_5 hO wk_20 dX2_readText_17 ?_
  obtain ⟨s1, e1, hf⟩ := gj_b hf
  refine gj_eqS (Option.some.inj e1) ?_
  refine gj_aload_n hO 0 dX2_readText_20 rfl rfl ?_
  refine gj_iconst (v := (-1)) hO dX2_readText_21 (by decide) ?_
  refine pt_X2_4 hO wk_35 dX2_readText_22 ?_
  refine gj_aload_n hO 0 dX2_readText_25 rfl rfl ?_
  refine gj_iconst (v := 0) hO dX2_readText_26 (by decide) ?_
  refine pt_X2_3 hO (Or.inl rfl) wk_95 dX2_readText_27 ?_
  refine gj_aload_n hO 0 dX2_readText_30 rfl rfl ?_
  refine gt_X2_0 hO wk_49 dX2_readText_31 ?_
  obtain ⟨x2, hc2, hf⟩ := gj_b hf
  refine ca_X1_tellNothing hO isP_3 hc2 wk_113 (by decide) (by decide) (Nat.le_of_ble_eq_true rfl) dX2_readText_34 ?_
  refine gj_aload_n hO 0 dX2_readText_37 rfl rfl ?_
  obtain ⟨x3, hc3, hf⟩ := gj_b hf
  refine ca_X2_readToken hO  hc3 wk_66 (by decide) (by decide) (Nat.le_of_ble_eq_true rfl) dX2_readText_38 ?_
  refine gj_iconst (v := 0) hO dX2_readText_41 (by decide) ?_
  refine gj_istore_n (lv2 := [(3, gj_i (0 : Int32)), (0, gj_r 2), (1, gj_r 1), (2, gj_i b2)]) hO dX2_readText_42 rfl (by decide) rfl ?_
  obtain ⟨y4, hz4, hf⟩ := gj_b hf
  have J4 : (fun y4 => gj_K (fun q => (some (gj_i x)) = (some (gj_i q.1)) ∧ y = q.2) (fun z4 => gj_G E X 4 (some (gj_i x)) y 77 [] [] z4) y4) y4 := by
    rcases y4 with q | z4
    · have hf : some q = some (x, y) := hf
      obtain rfl := Option.some.inj hf
      exact ⟨rfl, rfl⟩
    · dsimp only [Sum.elim] at hf
      refine gj_iconst (v := (-1)) hO dX2_readText_77 (by decide) ?_
      replace hf := Option.some.inj hf
      simp only [Prod.mk.injEq] at hf
      obtain ⟨rfl, rfl⟩ := hf
      exact gj_iret hO dX2_readText_78
  refine gj_sub (lv2 := [(0, gj_r 2), (3, gj_i (0 : Int32))]) [1, 0] rfl ?_
  exact gj_loop (head := fun a10043 => gj_G E X 4 (some (gj_i x)) y 43 [(0, gj_r 2), (3, gj_i a10043.1)] [] a10043.2) (exit := fun y4 => gj_K (fun q => (some (gj_i x)) = (some (gj_i q.1)) ∧ y = q.2) (fun z4 => gj_G E X 4 (some (gj_i x)) y 77 [] [] z4) y4) (fun a10043 x hf K => by obtain ⟨a10043_0, a10043_1⟩ := a10043; exact sb_X2_readText_l43 hO hf K) _ _ _ hz4 J4
set_option maxHeartbeats 4000000 in
set_option maxRecDepth 100000 in
theorem ca_X2_readText {E : gj_E} {X : gj_X} {own : String} {cc : ByteArray} {nL : Nat} {rt : Option FieldType} {fr lo : Nat} {ce sl : Nat} {Q : State → Prop} {pc : Nat} {lv : List (Nat × gj_V)} {st : List gj_V} {σ : gj_S} (hO : gj_O E X own cc nL rt fr lo) {b2 : Int32}  {idx : Nat} {x : Int32} {y : gj_S} (hf : f_X2_readText b2 σ = some (x, y)) (hl : Cond.methodLink own idx yX2_readText ∈ gj_gw) (hf1 : 6 ≤ fr) (hf2 : 129 ≤ lo) (hcat : ((st.map (gj_tv E.2.1)).map fun v => v.category).sum ≤ 8) (hd : decode cc pc = .ok (.invokevirtual idx, 3)) (k : gj_H E X nL ce sl Q (pc + 3) lv ((gj_i x) :: st) y) : gj_H E X nL ce sl Q pc lv (gj_i b2 :: gj_r 1 :: gj_r 2 :: st) σ :=
  gj_callV hO (o := 2) (vs := [gj_r 1, gj_i b2]) (m_X2_readText  hf) (gj_Iany (by decide)) hl wk_115 wk_116 wk_18 wk_117 kl_2 kd_2 (by decide) (ci := 2) rfl (n := 2) (by decide +kernel) rfl hf1 hf2 rfl hcat hd k
def f_X1_copyFrom (b0 : Nat) (b1 : Nat) (σ : gj_S) : Option gj_S := ((some (gj_sI (gj_sI (gj_sI σ b0 (upd (σ.1 b0) 0 (σ.1 b1 0))) b0 (upd ((gj_sI σ b0 (upd (σ.1 b0) 0 (σ.1 b1 0))).1 b0) 1 ((gj_sI σ b0 (upd (σ.1 b0) 0 (σ.1 b1 0))).1 b1 1))) b0 (upd ((gj_sI (gj_sI σ b0 (upd (σ.1 b0) 0 (σ.1 b1 0))) b0 (upd ((gj_sI σ b0 (upd (σ.1 b0) 0 (σ.1 b1 0))).1 b0) 1 ((gj_sI σ b0 (upd (σ.1 b0) 0 (σ.1 b1 0))).1 b1 1))).1 b0) 2 ((gj_sI (gj_sI σ b0 (upd (σ.1 b0) 0 (σ.1 b1 0))) b0 (upd ((gj_sI σ b0 (upd (σ.1 b0) 0 (σ.1 b1 0))).1 b0) 1 ((gj_sI σ b0 (upd (σ.1 b0) 0 (σ.1 b1 0))).1 b1 1))).1 b1 2)))).bind fun s1 => ((some (gj_sI (gj_sI s1 b0 (upd (s1.1 b0) 3 (s1.1 b1 3))) b0 (upd ((gj_sI s1 b0 (upd (s1.1 b0) 3 (s1.1 b1 3))).1 b0) 4 ((gj_sI s1 b0 (upd (s1.1 b0) 3 (s1.1 b1 3))).1 b1 4)))).bind fun s2 => ((some (gj_sI (gj_sI s2 (b0 + 1) (va_cpy (s2.1 (b1 + 1)) (s2.1 (b0 + 1)) 0 0 (Int32.toNatClampNeg (8 : Int32)))) (b0 + 2) (va_cpy ((gj_sI s2 (b0 + 1) (va_cpy (s2.1 (b1 + 1)) (s2.1 (b0 + 1)) 0 0 (Int32.toNatClampNeg (8 : Int32)))).1 (b1 + 2)) ((gj_sI s2 (b0 + 1) (va_cpy (s2.1 (b1 + 1)) (s2.1 (b0 + 1)) 0 0 (Int32.toNatClampNeg (8 : Int32)))).1 (b0 + 2)) 0 0 (Int32.toNatClampNeg (24 : Int32))))).bind fun s3 => ((some (gj_sI (gj_sI s3 (b0 + 3) (va_cpy (s3.1 (b1 + 3)) (s3.1 (b0 + 3)) 0 0 (Int32.toNatClampNeg (24 : Int32)))) (b0 + 4) (va_cpy ((gj_sI s3 (b0 + 3) (va_cpy (s3.1 (b1 + 3)) (s3.1 (b0 + 3)) 0 0 (Int32.toNatClampNeg (24 : Int32)))).1 (b1 + 4)) ((gj_sI s3 (b0 + 3) (va_cpy (s3.1 (b1 + 3)) (s3.1 (b0 + 3)) 0 0 (Int32.toNatClampNeg (24 : Int32)))).1 (b0 + 4)) 0 0 (Int32.toNatClampNeg (24 : Int32))))).bind fun s4 => ((some (gj_sI (gj_sI s4 (b0 + 5) (va_cpy (s4.1 (b1 + 5)) (s4.1 (b0 + 5)) 0 0 (Int32.toNatClampNeg (24 : Int32)))) (b0 + 6) (va_cpy ((gj_sI s4 (b0 + 5) (va_cpy (s4.1 (b1 + 5)) (s4.1 (b0 + 5)) 0 0 (Int32.toNatClampNeg (24 : Int32)))).1 (b1 + 6)) ((gj_sI s4 (b0 + 5) (va_cpy (s4.1 (b1 + 5)) (s4.1 (b0 + 5)) 0 0 (Int32.toNatClampNeg (24 : Int32)))).1 (b0 + 6)) 0 0 (Int32.toNatClampNeg (24 : Int32))))).bind fun s5 => ((some (gj_sI (gj_sI s5 (b0 + 7) (va_cpy (s5.1 (b1 + 7)) (s5.1 (b0 + 7)) 0 0 (Int32.toNatClampNeg (24 : Int32)))) (b0 + 8) (va_cpy ((gj_sI s5 (b0 + 7) (va_cpy (s5.1 (b1 + 7)) (s5.1 (b0 + 7)) 0 0 (Int32.toNatClampNeg (24 : Int32)))).1 (b1 + 8)) ((gj_sI s5 (b0 + 7) (va_cpy (s5.1 (b1 + 7)) (s5.1 (b0 + 7)) 0 0 (Int32.toNatClampNeg (24 : Int32)))).1 (b0 + 8)) 0 0 (Int32.toNatClampNeg (80 : Int32))))).bind fun s6 => some s6))))))
set_option maxHeartbeats 4000000 in
set_option maxRecDepth 100000 in
theorem m_X1_copyFrom {E : gj_E} {σ : gj_S} {b0 : Nat} {b1 : Nat} (g0 : isP b0) (g1 : isP b1) {x : gj_S} (hf : f_X1_copyFrom b0 b1 σ = some x) : gj_M E yX1_copyFrom cX1_copyFrom 2 none 1 120 [gj_r b0, gj_r b1] σ none x := by
  refine gj_body (lv := [(0, gj_r b0), (1, gj_r b1)]) (by decide +kernel) (Nat.le_of_ble_eq_true rfl) rfl (fun X hO => ?_)
  replace hO : gj_O E X RX1 cX1_copyFrom 2 none 1 120 := hO
  unfold f_X1_copyFrom at hf
  refine gj_aload_n hO 0 dX1_copyFrom_0 rfl rfl ?_
  refine gj_aload_n hO 1 dX1_copyFrom_1 rfl rfl ?_
  refine gt_X1_0 hO (kdP_0 g1) (klP_0 g1) wk_10 dX1_copyFrom_2 ?_
  refine pt_X1_0 hO (kdP_0 g0) (klP_0 g0) wk_10 dX1_copyFrom_5 ?_
  refine gj_aload_n hO 0 dX1_copyFrom_8 rfl rfl ?_
  refine gj_aload_n hO 1 dX1_copyFrom_9 rfl rfl ?_
  refine gt_X1_1 hO (kdP_0 g1) (klP_0 g1) wk_11 dX1_copyFrom_10 ?_
  refine pt_X1_1 hO (kdP_0 g0) (klP_0 g0) wk_11 dX1_copyFrom_13 ?_
  refine gj_aload_n hO 0 dX1_copyFrom_16 rfl rfl ?_
  refine gj_aload_n hO 1 dX1_copyFrom_17 rfl rfl ?_
  refine gt_X1_2 hO (kdP_0 g1) (klP_0 g1) wk_12 dX1_copyFrom_18 ?_
  refine pt_X1_2 hO (kdP_0 g0) (klP_0 g0) wk_12 dX1_copyFrom_21 ?_
  obtain ⟨s1, e1, hf⟩ := gj_b hf
  refine gj_eqS (Option.some.inj e1) ?_
  refine gj_aload_n hO 0 dX1_copyFrom_24 rfl rfl ?_
  refine gj_aload_n hO 1 dX1_copyFrom_25 rfl rfl ?_
  refine gt_X1_3 hO (kdP_0 g1) (klP_0 g1) wk_118 dX1_copyFrom_26 ?_
  refine pt_X1_3 hO (kdP_0 g0) (klP_0 g0) wk_118 dX1_copyFrom_29 ?_
  refine gj_aload_n hO 0 dX1_copyFrom_32 rfl rfl ?_
  refine gj_aload_n hO 1 dX1_copyFrom_33 rfl rfl ?_
  refine gt_X1_4 hO (kdP_0 g1) (klP_0 g1) wk_119 dX1_copyFrom_34 ?_
  refine pt_X1_4 hO (kdP_0 g0) (klP_0 g0) wk_119 dX1_copyFrom_37 ?_
  obtain ⟨s2, e2, hf⟩ := gj_b hf
  refine gj_eqS (Option.some.inj e2) ?_
  refine gj_aload_n hO 1 dX1_copyFrom_40 rfl rfl ?_
  refine gt_X1_5 hO (kdP_0 g1) (klP_0 g1) wk_120 dX1_copyFrom_41 ?_
  refine gj_iconst (v := 0) hO dX1_copyFrom_44 (by decide) ?_
  refine gj_aload_n hO 0 dX1_copyFrom_45 rfl rfl ?_
  refine gt_X1_5 hO (kdP_0 g0) (klP_0 g0) wk_120 dX1_copyFrom_46 ?_
  refine gj_iconst (v := 0) hO dX1_copyFrom_49 (by decide) ?_
  refine gj_bipush (v := 8) hO dX1_copyFrom_50 (by decide) ?_
  refine gj_cpyI hO (klP_1 g1) (kdP_1 g1) (klP_1 g0) (kdP_1 g0) wk_121 (by decide) (by decide) (by decide) (by decide) (by decide) (Nat.le_of_ble_eq_true rfl) dX1_copyFrom_52 ?_
  refine gj_aload_n hO 1 dX1_copyFrom_55 rfl rfl ?_
  refine gt_X1_6 hO (kdP_0 g1) (klP_0 g1) wk_122 dX1_copyFrom_56 ?_
  refine gj_iconst (v := 0) hO dX1_copyFrom_59 (by decide) ?_
  refine gj_aload_n hO 0 dX1_copyFrom_60 rfl rfl ?_
  refine gt_X1_6 hO (kdP_0 g0) (klP_0 g0) wk_122 dX1_copyFrom_61 ?_
  refine gj_iconst (v := 0) hO dX1_copyFrom_64 (by decide) ?_
  refine gj_bipush (v := 24) hO dX1_copyFrom_65 (by decide) ?_
  refine gj_cpyI hO (klP_2 g1) (kdP_2 g1) (klP_2 g0) (kdP_2 g0) wk_121 (by decide) (by decide) (by decide) (by decide) (by decide) (Nat.le_of_ble_eq_true rfl) dX1_copyFrom_67 ?_
  obtain ⟨s3, e3, hf⟩ := gj_b hf
  refine gj_eqS (Option.some.inj e3) ?_
  refine gj_aload_n hO 1 dX1_copyFrom_70 rfl rfl ?_
  refine gt_X1_7 hO (kdP_0 g1) (klP_0 g1) wk_123 dX1_copyFrom_71 ?_
  refine gj_iconst (v := 0) hO dX1_copyFrom_74 (by decide) ?_
  refine gj_aload_n hO 0 dX1_copyFrom_75 rfl rfl ?_
  refine gt_X1_7 hO (kdP_0 g0) (klP_0 g0) wk_123 dX1_copyFrom_76 ?_
  refine gj_iconst (v := 0) hO dX1_copyFrom_79 (by decide) ?_
  refine gj_bipush (v := 24) hO dX1_copyFrom_80 (by decide) ?_
  refine gj_cpyI hO (klP_3 g1) (kdP_3 g1) (klP_3 g0) (kdP_3 g0) wk_121 (by decide) (by decide) (by decide) (by decide) (by decide) (Nat.le_of_ble_eq_true rfl) dX1_copyFrom_82 ?_
  refine gj_aload_n hO 1 dX1_copyFrom_85 rfl rfl ?_
  refine gt_X1_8 hO (kdP_0 g1) (klP_0 g1) wk_124 dX1_copyFrom_86 ?_
  refine gj_iconst (v := 0) hO dX1_copyFrom_89 (by decide) ?_
  refine gj_aload_n hO 0 dX1_copyFrom_90 rfl rfl ?_
  refine gt_X1_8 hO (kdP_0 g0) (klP_0 g0) wk_124 dX1_copyFrom_91 ?_
  refine gj_iconst (v := 0) hO dX1_copyFrom_94 (by decide) ?_
  refine gj_bipush (v := 24) hO dX1_copyFrom_95 (by decide) ?_
  refine gj_cpyI hO (klP_4 g1) (kdP_4 g1) (klP_4 g0) (kdP_4 g0) wk_121 (by decide) (by decide) (by decide) (by decide) (by decide) (Nat.le_of_ble_eq_true rfl) dX1_copyFrom_97 ?_
  obtain ⟨s4, e4, hf⟩ := gj_b hf
  refine gj_eqS (Option.some.inj e4) ?_
  refine gj_aload_n hO 1 dX1_copyFrom_100 rfl rfl ?_
  refine gt_X1_9 hO (kdP_0 g1) (klP_0 g1) wk_125 dX1_copyFrom_101 ?_
  refine gj_iconst (v := 0) hO dX1_copyFrom_104 (by decide) ?_
  refine gj_aload_n hO 0 dX1_copyFrom_105 rfl rfl ?_
  refine gt_X1_9 hO (kdP_0 g0) (klP_0 g0) wk_125 dX1_copyFrom_106 ?_
  refine gj_iconst (v := 0) hO dX1_copyFrom_109 (by decide) ?_
  refine gj_bipush (v := 24) hO dX1_copyFrom_110 (by decide) ?_
  refine gj_cpyI hO (klP_5 g1) (kdP_5 g1) (klP_5 g0) (kdP_5 g0) wk_121 (by decide) (by decide) (by decide) (by decide) (by decide) (Nat.le_of_ble_eq_true rfl) dX1_copyFrom_112 ?_
  refine gj_aload_n hO 1 dX1_copyFrom_115 rfl rfl ?_
  refine gt_X1_10 hO (kdP_0 g1) (klP_0 g1) wk_126 dX1_copyFrom_116 ?_
  refine gj_iconst (v := 0) hO dX1_copyFrom_119 (by decide) ?_
  refine gj_aload_n hO 0 dX1_copyFrom_120 rfl rfl ?_
  refine gt_X1_10 hO (kdP_0 g0) (klP_0 g0) wk_126 dX1_copyFrom_121 ?_
  refine gj_iconst (v := 0) hO dX1_copyFrom_124 (by decide) ?_
  refine gj_bipush (v := 24) hO dX1_copyFrom_125 (by decide) ?_
  refine gj_cpyI hO (klP_6 g1) (kdP_6 g1) (klP_6 g0) (kdP_6 g0) wk_121 (by decide) (by decide) (by decide) (by decide) (by decide) (Nat.le_of_ble_eq_true rfl) dX1_copyFrom_127 ?_
  obtain ⟨s5, e5, hf⟩ := gj_b hf
  refine gj_eqS (Option.some.inj e5) ?_
  refine gj_aload_n hO 1 dX1_copyFrom_130 rfl rfl ?_
  refine gt_X1_11 hO (kdP_0 g1) (klP_0 g1) wk_127 dX1_copyFrom_131 ?_
  refine gj_iconst (v := 0) hO dX1_copyFrom_134 (by decide) ?_
  refine gj_aload_n hO 0 dX1_copyFrom_135 rfl rfl ?_
  refine gt_X1_11 hO (kdP_0 g0) (klP_0 g0) wk_127 dX1_copyFrom_136 ?_
  refine gj_iconst (v := 0) hO dX1_copyFrom_139 (by decide) ?_
  refine gj_bipush (v := 24) hO dX1_copyFrom_140 (by decide) ?_
  refine gj_cpyI hO (klP_7 g1) (kdP_7 g1) (klP_7 g0) (kdP_7 g0) wk_121 (by decide) (by decide) (by decide) (by decide) (by decide) (Nat.le_of_ble_eq_true rfl) dX1_copyFrom_142 ?_
  refine gj_aload_n hO 1 dX1_copyFrom_145 rfl rfl ?_
  refine gt_X1_12 hO (kdP_0 g1) (klP_0 g1) wk_128 dX1_copyFrom_146 ?_
  refine gj_iconst (v := 0) hO dX1_copyFrom_149 (by decide) ?_
  refine gj_aload_n hO 0 dX1_copyFrom_150 rfl rfl ?_
  refine gt_X1_12 hO (kdP_0 g0) (klP_0 g0) wk_128 dX1_copyFrom_151 ?_
  refine gj_iconst (v := 0) hO dX1_copyFrom_154 (by decide) ?_
  refine gj_bipush (v := 80) hO dX1_copyFrom_155 (by decide) ?_
  refine gj_cpyI hO (klP_8 g1) (kdP_8 g1) (klP_8 g0) (kdP_8 g0) wk_121 (by decide) (by decide) (by decide) (by decide) (by decide) (Nat.le_of_ble_eq_true rfl) dX1_copyFrom_157 ?_
  obtain ⟨s6, e6, hf⟩ := gj_b hf
  refine gj_eqS (Option.some.inj e6) ?_
  obtain rfl := Option.some.inj hf
  exact gj_vret hO dX1_copyFrom_160
set_option maxHeartbeats 4000000 in
set_option maxRecDepth 100000 in
theorem ca_X1_copyFrom {E : gj_E} {X : gj_X} {own : String} {cc : ByteArray} {nL : Nat} {rt : Option FieldType} {fr lo : Nat} {ce sl : Nat} {Q : State → Prop} {pc : Nat} {lv : List (Nat × gj_V)} {st : List gj_V} {σ : gj_S} (hO : gj_O E X own cc nL rt fr lo) {b0 : Nat} {b1 : Nat} (g0 : isP b0) (g1 : isP b1) {idx : Nat} {x : gj_S} (hf : f_X1_copyFrom b0 b1 σ = some x) (hl : Cond.methodLink own idx yX1_copyFrom ∈ gj_gw) (hf1 : 2 ≤ fr) (hf2 : 141 ≤ lo) (hcat : ((st.map (gj_tv E.2.1)).map fun v => v.category).sum ≤ 8) (hd : decode cc pc = .ok (.invokevirtual idx, 3)) (k : gj_H E X nL ce sl Q (pc + 3) lv (st) x) : gj_H E X nL ce sl Q pc lv (gj_r b1 :: gj_r b0 :: st) σ :=
  gj_callV hO (o := b0) (vs := [gj_r b1]) (m_X1_copyFrom g0 g1 hf) (gj_Iany (by decide)) hl wk_129 wk_130 wk_15 wk_131 (klP_0 g0) (kdP_0 g0) (by decide) (ci := 1) rfl (n := 1) (by decide +kernel) rfl hf1 hf2 rfl hcat hd k
def f_X1_beginTender (b0 : Nat) (b1 : Int32) (σ : gj_S) : Option gj_S := (if gj_in b1 8 then ((if (σ.1 (b0 + 1) (Int32.toNatClampNeg b1)) < 0 then some (0 : Int32) else some (1 : Int32) : Option Int32).bind fun z2 => ((if z2 = 0 then some (8 : Int32) else some b1 : Option Int32).bind fun z3 => (if gj_in ((σ.1 b0 1) + b1) 24 then ((if z2 = 0 then some b1 else some (8 : Int32) : Option Int32).bind fun z5 => (if gj_in ((σ.1 b0 1) + b1) 24 then ((some (gj_sI (gj_sI σ (b0 + 2) (upd (σ.1 (b0 + 2)) (Int32.toNatClampNeg ((σ.1 b0 1) + b1)) z3)) (b0 + 3) (upd ((gj_sI σ (b0 + 2) (upd (σ.1 (b0 + 2)) (Int32.toNatClampNeg ((σ.1 b0 1) + b1)) z3)).1 (b0 + 3)) (Int32.toNatClampNeg ((σ.1 b0 1) + b1)) z5))).bind fun s7 => (if gj_in ((σ.1 b0 1) + b1) 24 then (if gj_in ((σ.1 b0 1) + b1) 24 then ((some (gj_sI (gj_sI s7 (b0 + 4) (upd (s7.1 (b0 + 4)) (Int32.toNatClampNeg ((σ.1 b0 1) + b1)) (10000 : Int32))) (b0 + 5) (upd ((gj_sI s7 (b0 + 4) (upd (s7.1 (b0 + 4)) (Int32.toNatClampNeg ((σ.1 b0 1) + b1)) (10000 : Int32))).1 (b0 + 5)) (Int32.toNatClampNeg ((σ.1 b0 1) + b1)) (1000000 : Int32)))).bind fun s10 => ((if z2 = 0 then (if gj_in b1 8 then some (0 - (s10.1 (b0 + 1) (Int32.toNatClampNeg b1))) else none) else (if gj_in b1 8 then some (s10.1 (b0 + 1) (Int32.toNatClampNeg b1)) else none) : Option Int32).bind fun z11 => (if gj_in ((σ.1 b0 1) + b1) 24 then (if gj_in ((σ.1 b0 1) + b1) 24 then ((some (gj_sI (gj_sI s10 (b0 + 6) (upd (s10.1 (b0 + 6)) (Int32.toNatClampNeg ((σ.1 b0 1) + b1)) z11)) (b0 + 7) (upd ((gj_sI s10 (b0 + 6) (upd (s10.1 (b0 + 6)) (Int32.toNatClampNeg ((σ.1 b0 1) + b1)) z11)).1 (b0 + 7)) (Int32.toNatClampNeg ((σ.1 b0 1) + b1)) (0 : Int32)))).bind fun s16 => some s16) else none) else none))) else none) else none)) else none)) else none))) else none)
set_option maxHeartbeats 4000000 in
set_option maxRecDepth 100000 in
theorem m_X1_beginTender {E : gj_E} {σ : gj_S} {b0 : Nat} {b1 : Int32} (g0 : isP b0) {x : gj_S} (hf : f_X1_beginTender b0 b1 σ = some x) : gj_M E yX1_beginTender cX1_beginTender 4 none 0 0 [gj_r b0, gj_i b1] σ none x := by
  refine gj_body (lv := [(0, gj_r b0), (1, gj_i b1)]) (by decide +kernel) (Nat.le_of_ble_eq_true rfl) rfl (fun X hO => ?_)
  replace hO : gj_O E X RX1 cX1_beginTender 4 none 0 0 := hO
  unfold f_X1_beginTender at hf
  refine gj_aload_n hO 0 dX1_beginTender_0 rfl rfl ?_
  refine gt_X1_1 hO (kdP_0 g0) (klP_0 g0) wk_11 dX1_beginTender_1 ?_
  refine gj_iload_n hO 1 dX1_beginTender_4 rfl rfl ?_
  refine gj_iadd hO dX1_beginTender_5 ?_
  refine gj_istore_n (lv2 := [(2, gj_i ((σ.1 b0 1) + b1)), (0, gj_r b0), (1, gj_i b1)]) hO dX1_beginTender_6 rfl (by decide) rfl ?_
  refine gj_aload_n hO 1 dX1_beginTender_7 rfl rfl ?_
  refine gt_X1_5 hO (kdP_0 g0) (klP_0 g0) wk_120 dX1_beginTender_8 ?_
  refine gj_iload_n hO 2 dX1_beginTender_11 rfl rfl ?_
  obtain ⟨hb1, hf⟩ := gj_c hf
  refine gj_iald hO (klP_1 g0) (kdP_1 g0) hb1 dX1_beginTender_12 ?_
  obtain ⟨z2, hz2, hf⟩ := gj_b hf
  have J2 : gj_G E X 4 none x 21 [(0, gj_r b0), (1, gj_i b1), (2, gj_i ((σ.1 b0 1) + b1))] [gj_i z2] σ := by
    refine gj_istore_n (lv2 := [(3, gj_i z2), (0, gj_r b0), (1, gj_i b1), (2, gj_i ((σ.1 b0 1) + b1))]) hO dX1_beginTender_21 rfl (by decide) rfl ?_
    refine gj_aload_n hO 1 dX1_beginTender_22 rfl rfl ?_
    refine gt_X1_6 hO (kdP_0 g0) (klP_0 g0) wk_122 dX1_beginTender_23 ?_
    refine gj_iload_n hO 3 dX1_beginTender_26 rfl rfl ?_
    refine gj_iload_n hO 0 dX1_beginTender_27 rfl rfl ?_
    obtain ⟨z3, hz3, hf⟩ := gj_b hf
    have J3 : gj_G E X 4 none x 37 [(0, gj_r b0), (1, gj_i b1), (2, gj_i ((σ.1 b0 1) + b1)), (3, gj_i z2)] [gj_i z3, gj_i ((σ.1 b0 1) + b1), gj_r (b0 + 2)] σ := by
      obtain ⟨hb4, hf⟩ := gj_c hf
      refine gj_iast hO (klP_2 g0) (kdP_2 g0) hb4 dX1_beginTender_37 ?_
      refine gj_aload_n hO 0 dX1_beginTender_38 rfl rfl ?_
      refine gt_X1_7 hO (kdP_0 g0) (klP_0 g0) wk_123 dX1_beginTender_39 ?_
      refine gj_iload_n hO 2 dX1_beginTender_42 rfl rfl ?_
      refine gj_iload_n hO 3 dX1_beginTender_43 rfl rfl ?_
      obtain ⟨z5, hz5, hf⟩ := gj_b hf
      have J5 : gj_G E X 4 none x 53 [(0, gj_r b0), (1, gj_i b1), (2, gj_i ((σ.1 b0 1) + b1)), (3, gj_i z2)] [gj_i z5, gj_i ((σ.1 b0 1) + b1), gj_r (b0 + 3)] (gj_sI σ (b0 + 2) (upd (σ.1 (b0 + 2)) (Int32.toNatClampNeg ((σ.1 b0 1) + b1)) z3)) := by
        obtain ⟨hb6, hf⟩ := gj_c hf
        refine gj_iast hO (klP_3 g0) (kdP_3 g0) hb6 dX1_beginTender_53 ?_
        obtain ⟨s7, e7, hf⟩ := gj_b hf
        refine gj_eqS (Option.some.inj e7) ?_
        refine gj_aload_n hO 0 dX1_beginTender_54 rfl rfl ?_
        refine gt_X1_8 hO (kdP_0 g0) (klP_0 g0) wk_124 dX1_beginTender_55 ?_
        refine gj_iload_n hO 2 dX1_beginTender_58 rfl rfl ?_
        refine gj_sipush (v := 10000) hO dX1_beginTender_59 (by decide) ?_
        obtain ⟨hb8, hf⟩ := gj_c hf
        refine gj_iast hO (klP_4 g0) (kdP_4 g0) hb8 dX1_beginTender_62 ?_
        refine gj_aload_n hO 0 dX1_beginTender_63 rfl rfl ?_
        refine gt_X1_9 hO (kdP_0 g0) (klP_0 g0) wk_125 dX1_beginTender_64 ?_
        refine gj_iload_n hO 2 dX1_beginTender_67 rfl rfl ?_
        refine gj_ldc hO wk_132 dX1_beginTender_68 ?_
        obtain ⟨hb9, hf⟩ := gj_c hf
        refine gj_iast hO (klP_5 g0) (kdP_5 g0) hb9 dX1_beginTender_70 ?_
        obtain ⟨s10, e10, hf⟩ := gj_b hf
        refine gj_eqS (Option.some.inj e10) ?_
        refine gj_aload_n hO 0 dX1_beginTender_71 rfl rfl ?_
        refine gt_X1_10 hO (kdP_0 g0) (klP_0 g0) wk_126 dX1_beginTender_72 ?_
        refine gj_iload_n hO 2 dX1_beginTender_75 rfl rfl ?_
        refine gj_iload_n hO 3 dX1_beginTender_76 rfl rfl ?_
        obtain ⟨z11, hz11, hf⟩ := gj_b hf
        have J11 : gj_G E X 4 none x 96 [(0, gj_r b0), (2, gj_i ((σ.1 b0 1) + b1))] [gj_i z11, gj_i ((σ.1 b0 1) + b1), gj_r (b0 + 6)] s10 := by
          obtain ⟨hb14, hf⟩ := gj_c hf
          refine gj_iast hO (klP_6 g0) (kdP_6 g0) hb14 dX1_beginTender_96 ?_
          refine gj_aload_n hO 0 dX1_beginTender_97 rfl rfl ?_
          refine gt_X1_11 hO (kdP_0 g0) (klP_0 g0) wk_127 dX1_beginTender_98 ?_
          refine gj_iload_n hO 1 dX1_beginTender_101 rfl rfl ?_
          refine gj_iconst (v := 0) hO dX1_beginTender_102 (by decide) ?_
          obtain ⟨hb15, hf⟩ := gj_c hf
          refine gj_iast hO (klP_7 g0) (kdP_7 g0) hb15 dX1_beginTender_103 ?_
          obtain ⟨s16, e16, hf⟩ := gj_b hf
          refine gj_eqS (Option.some.inj e16) ?_
          obtain rfl := Option.some.inj hf
          exact gj_vret hO dX1_beginTender_104
        refine gj_if_eq (tgt := 89) hO dX1_beginTender_77 (by decide) (fun h => ?_) (fun h => ?_)
        · replace hz11 := gj_t h hz11
          refine gj_aload_n hO 0 dX1_beginTender_89 rfl rfl ?_
          refine gt_X1_5 hO (kdP_0 g0) (klP_0 g0) wk_120 dX1_beginTender_90 ?_
          refine gj_iload_n hO 1 dX1_beginTender_93 rfl rfl ?_
          obtain ⟨hb12, hz11⟩ := gj_c hz11
          refine gj_iald hO (klP_1 g0) (kdP_1 g0) hb12 dX1_beginTender_94 ?_
          refine gj_ineg hO dX1_beginTender_95 ?_
          obtain rfl := Option.some.inj hz11
          refine gj_sub (lv2 := [(0, gj_r b0), (2, gj_i ((σ.1 b0 1) + b1))]) [0, 2] rfl ?_
          exact J11
        · replace hz11 := gj_f h hz11
          refine gj_aload_n hO 0 dX1_beginTender_80 rfl rfl ?_
          refine gt_X1_5 hO (kdP_0 g0) (klP_0 g0) wk_120 dX1_beginTender_81 ?_
          refine gj_iload_n hO 1 dX1_beginTender_84 rfl rfl ?_
          obtain ⟨hb13, hz11⟩ := gj_c hz11
          refine gj_iald hO (klP_1 g0) (kdP_1 g0) hb13 dX1_beginTender_85 ?_
          refine gj_goto (tgt := 96) hO dX1_beginTender_86 (by decide) ?_
          obtain rfl := Option.some.inj hz11
          refine gj_sub (lv2 := [(0, gj_r b0), (2, gj_i ((σ.1 b0 1) + b1))]) [0, 2] rfl ?_
          exact J11
      refine gj_if_eq (tgt := 52) hO dX1_beginTender_44 (by decide) (fun h => ?_) (fun h => ?_)
      · replace hz5 := gj_t h hz5
        refine gj_iload_n hO 1 dX1_beginTender_52 rfl rfl ?_
        obtain rfl := Option.some.inj hz5
        refine gj_sub (lv2 := [(0, gj_r b0), (1, gj_i b1), (2, gj_i ((σ.1 b0 1) + b1)), (3, gj_i z2)]) [0, 1, 2, 3] rfl ?_
        exact J5
      · replace hz5 := gj_f h hz5
        refine gj_bipush (v := 8) hO dX1_beginTender_47 (by decide) ?_
        refine gj_goto (tgt := 53) hO dX1_beginTender_49 (by decide) ?_
        obtain rfl := Option.some.inj hz5
        refine gj_sub (lv2 := [(0, gj_r b0), (1, gj_i b1), (2, gj_i ((σ.1 b0 1) + b1)), (3, gj_i z2)]) [0, 1, 2, 3] rfl ?_
        exact J5
    refine gj_if_eq (tgt := 35) hO dX1_beginTender_28 (by decide) (fun h => ?_) (fun h => ?_)
    · replace hz3 := gj_t h hz3
      refine gj_bipush (v := 8) hO dX1_beginTender_35 (by decide) ?_
      obtain rfl := Option.some.inj hz3
      refine gj_sub (lv2 := [(0, gj_r b0), (1, gj_i b1), (2, gj_i ((σ.1 b0 1) + b1)), (3, gj_i z2)]) [1, 2, 3, 0] rfl ?_
      exact J3
    · replace hz3 := gj_f h hz3
      refine gj_iload_n hO 2 dX1_beginTender_31 rfl rfl ?_
      refine gj_goto (tgt := 37) hO dX1_beginTender_32 (by decide) ?_
      obtain rfl := Option.some.inj hz3
      refine gj_sub (lv2 := [(0, gj_r b0), (1, gj_i b1), (2, gj_i ((σ.1 b0 1) + b1)), (3, gj_i z2)]) [1, 2, 3, 0] rfl ?_
      exact J3
  refine gj_if_lt (tgt := 20) hO dX1_beginTender_13 (by decide) (fun h => ?_) (fun h => ?_)
  · replace hz2 := gj_t h hz2
    refine gj_iconst (v := 0) hO dX1_beginTender_20 (by decide) ?_
    obtain rfl := Option.some.inj hz2
    refine gj_sub (lv2 := [(0, gj_r b0), (1, gj_i b1), (2, gj_i ((σ.1 b0 1) + b1))]) [1, 2, 0] rfl ?_
    exact J2
  · replace hz2 := gj_f h hz2
    refine gj_iconst (v := 1) hO dX1_beginTender_16 (by decide) ?_
    refine gj_goto (tgt := 21) hO dX1_beginTender_17 (by decide) ?_
    obtain rfl := Option.some.inj hz2
    refine gj_sub (lv2 := [(0, gj_r b0), (1, gj_i b1), (2, gj_i ((σ.1 b0 1) + b1))]) [1, 2, 0] rfl ?_
    exact J2
set_option maxHeartbeats 4000000 in
set_option maxRecDepth 100000 in
theorem ca_X1_beginTender {E : gj_E} {X : gj_X} {own : String} {cc : ByteArray} {nL : Nat} {rt : Option FieldType} {fr lo : Nat} {ce sl : Nat} {Q : State → Prop} {pc : Nat} {lv : List (Nat × gj_V)} {st : List gj_V} {σ : gj_S} (hO : gj_O E X own cc nL rt fr lo) {b0 : Nat} {b1 : Int32} (g0 : isP b0) {idx : Nat} {x : gj_S} (hf : f_X1_beginTender b0 b1 σ = some x) (hl : Cond.methodLink own idx yX1_beginTender ∈ gj_gw) (hf1 : 1 ≤ fr) (hf2 : 23 ≤ lo) (hcat : ((st.map (gj_tv E.2.1)).map fun v => v.category).sum ≤ 8) (hd : decode cc pc = .ok (.invokevirtual idx, 3)) (k : gj_H E X nL ce sl Q (pc + 3) lv (st) x) : gj_H E X nL ce sl Q pc lv (gj_i b1 :: gj_r b0 :: st) σ :=
  gj_callV hO (o := b0) (vs := [gj_i b1]) (m_X1_beginTender g0 hf) (gj_Iany (by decide)) hl wk_133 wk_134 wk_15 wk_135 (klP_0 g0) (kdP_0 g0) (by decide) (ci := 1) rfl (n := 1) (by decide +kernel) rfl hf1 hf2 rfl hcat hd k
def fb_X1_begin_l2 (b0 : Nat) (a10002 : (Int32 × gj_S)) : Option (gj_S ⊕ (Int32 × gj_S)) := (if (a10002.2.1 b0 1) ≤ a10002.1 then some (.inl a10002.2) else (if gj_in a10002.1 24 then (if gj_in a10002.1 24 then ((some (gj_sI (gj_sI a10002.2 (b0 + 6) (upd (a10002.2.1 (b0 + 6)) (Int32.toNatClampNeg a10002.1) (0 : Int32))) (b0 + 7) (upd ((gj_sI a10002.2 (b0 + 6) (upd (a10002.2.1 (b0 + 6)) (Int32.toNatClampNeg a10002.1) (0 : Int32))).1 (b0 + 7)) (Int32.toNatClampNeg a10002.1) (1 : Int32)))).bind fun s10203 => some (.inr ((a10002.1 + 1), s10203))) else none) else none))
def fb_X1_begin_l32 (b0 : Nat) (a10032 : (Int32 × gj_S)) : Option (gj_S ⊕ (Int32 × gj_S)) := (if (a10032.2.1 b0 0) ≤ a10032.1 then some (.inl a10032.2) else ((f_X1_beginTender b0 a10032.1 a10032.2).bind fun x13201 => some (.inr ((a10032.1 + 1), x13201))))
def f_X1_begin (b0 : Nat) (σ : gj_S) : Option gj_S := ((gj_lp (fb_X1_begin_l2 b0) 5000 ((0 : Int32), σ)).bind fun z1 => ((gj_lp (fb_X1_begin_l32 b0) 5000 ((0 : Int32), z1)).bind fun z2 => some (gj_sI (gj_sI z2 b0 (upd (z2.1 b0) 3 (0 : Int32))) b0 (upd ((gj_sI z2 b0 (upd (z2.1 b0) 3 (0 : Int32))).1 b0) 4 (0 : Int32)))))
set_option maxHeartbeats 4000000 in
set_option maxRecDepth 100000 in
theorem sb_X1_begin_l2 {E : gj_E} {X : gj_X} {r : Option gj_V} {τ : gj_S} (hO : gj_O E X RX1 cX1_begin 2 none 1 23) {b0 : Nat} (g0 : isP b0) {a10002_0 : Int32} {a10002_1 : gj_S} {x : gj_S ⊕ (Int32 × gj_S)} (hf : fb_X1_begin_l2 b0 (a10002_0, a10002_1) = some x) (K : gj_K (fun z1 => gj_G E X 2 r τ 30 [(0, gj_r b0)] [] z1) (fun a10002 => gj_G E X 2 r τ 2 [(0, gj_r b0), (1, gj_i a10002.1)] [] a10002.2) x) : gj_G E X 2 r τ 2 [(0, gj_r b0), (1, gj_i a10002_0)] [] a10002_1 := by
  unfold fb_X1_begin_l2 at hf
  dsimp only at hf
  refine gj_iload_n hO 1 dX1_begin_2 rfl rfl ?_
  refine gj_aload_n hO 0 dX1_begin_3 rfl rfl ?_
  refine gt_X1_1 hO (kdP_0 g0) (klP_0 g0) wk_11 dX1_begin_4 ?_
  refine gj_icmp_ge (tgt := 30) hO dX1_begin_7 (by decide) (fun h => ?_) (fun h => ?_)
  · replace hf := gj_t h hf
    obtain rfl := Option.some.inj hf
    refine gj_sub (lv2 := [(0, gj_r b0)]) [0] rfl ?_
    exact K
  · replace hf := gj_f h hf
    refine gj_aload_n hO 0 dX1_begin_10 rfl rfl ?_
    refine gt_X1_10 hO (kdP_0 g0) (klP_0 g0) wk_126 dX1_begin_11 ?_
    refine gj_iload_n hO 1 dX1_begin_14 rfl rfl ?_
    refine gj_iconst (v := 0) hO dX1_begin_15 (by decide) ?_
    obtain ⟨hb10201, hf⟩ := gj_c hf
    refine gj_iast hO (klP_6 g0) (kdP_6 g0) hb10201 dX1_begin_16 ?_
    refine gj_aload_n hO 0 dX1_begin_17 rfl rfl ?_
    refine gt_X1_11 hO (kdP_0 g0) (klP_0 g0) wk_127 dX1_begin_18 ?_
    refine gj_iload_n hO 1 dX1_begin_21 rfl rfl ?_
    refine gj_iconst (v := 1) hO dX1_begin_22 (by decide) ?_
    obtain ⟨hb10202, hf⟩ := gj_c hf
    refine gj_iast hO (klP_7 g0) (kdP_7 g0) hb10202 dX1_begin_23 ?_
    obtain ⟨s10203, e10203, hf⟩ := gj_b hf
    refine gj_eqS (Option.some.inj e10203) ?_
    refine gj_iinc (v := (a10002_0 + 1)) (lv2 := [(1, gj_i (a10002_0 + 1)), (0, gj_r b0)]) hO 1 dX1_begin_24 rfl rfl (by decide) rfl ?_
    refine gj_goto (tgt := 2) hO dX1_begin_27 (by decide) ?_
    obtain rfl := Option.some.inj hf
    refine gj_sub (lv2 := [(0, gj_r b0), (1, gj_i (a10002_0 + 1))]) [1, 0] rfl ?_
    exact K
set_option maxHeartbeats 4000000 in
set_option maxRecDepth 100000 in
theorem sb_X1_begin_l32 {E : gj_E} {X : gj_X} {r : Option gj_V} {τ : gj_S} (hO : gj_O E X RX1 cX1_begin 2 none 1 23) {b0 : Nat} (g0 : isP b0) {a10032_0 : Int32} {a10032_1 : gj_S} {x : gj_S ⊕ (Int32 × gj_S)} (hf : fb_X1_begin_l32 b0 (a10032_0, a10032_1) = some x) (K : gj_K (fun z2 => gj_G E X 2 r τ 51 [(0, gj_r b0)] [] z2) (fun a10032 => gj_G E X 2 r τ 32 [(0, gj_r b0), (1, gj_i a10032.1)] [] a10032.2) x) : gj_G E X 2 r τ 32 [(0, gj_r b0), (1, gj_i a10032_0)] [] a10032_1 := by
  unfold fb_X1_begin_l32 at hf
  dsimp only at hf
  refine gj_iload_n hO 1 dX1_begin_32 rfl rfl ?_
  refine gj_aload_n hO 0 dX1_begin_33 rfl rfl ?_
  refine gt_X1_0 hO (kdP_0 g0) (klP_0 g0) wk_10 dX1_begin_34 ?_
  refine gj_icmp_ge (tgt := 51) hO dX1_begin_37 (by decide) (fun h => ?_) (fun h => ?_)
  · replace hf := gj_t h hf
    obtain rfl := Option.some.inj hf
    refine gj_sub (lv2 := [(0, gj_r b0)]) [0] rfl ?_
    exact K
  · replace hf := gj_f h hf
    refine gj_aload_n hO 0 dX1_begin_40 rfl rfl ?_
    refine gj_iload_n hO 1 dX1_begin_41 rfl rfl ?_
    obtain ⟨x13201, hc13201, hf⟩ := gj_b hf
    refine ca_X1_beginTender hO g0 hc13201 wk_136 (by decide) (by decide) (Nat.le_of_ble_eq_true rfl) dX1_begin_42 ?_
    refine gj_iinc (v := (a10032_0 + 1)) (lv2 := [(1, gj_i (a10032_0 + 1)), (0, gj_r b0)]) hO 1 dX1_begin_45 rfl rfl (by decide) rfl ?_
    refine gj_goto (tgt := 32) hO dX1_begin_48 (by decide) ?_
    obtain rfl := Option.some.inj hf
    refine gj_sub (lv2 := [(0, gj_r b0), (1, gj_i (a10032_0 + 1))]) [1, 0] rfl ?_
    exact K
set_option maxHeartbeats 4000000 in
set_option maxRecDepth 100000 in
theorem m_X1_begin {E : gj_E} {σ : gj_S} {b0 : Nat} (g0 : isP b0) {x : gj_S} (hf : f_X1_begin b0 σ = some x) : gj_M E yX1_begin cX1_begin 2 none 1 23 [gj_r b0] σ none x := by
  refine gj_body (lv := [(0, gj_r b0)]) (by decide +kernel) (Nat.le_of_ble_eq_true rfl) rfl (fun X hO => ?_)
  replace hO : gj_O E X RX1 cX1_begin 2 none 1 23 := hO
  unfold f_X1_begin at hf
  refine gj_iconst (v := 0) hO dX1_begin_0 (by decide) ?_
  refine gj_istore_n (lv2 := [(1, gj_i (0 : Int32)), (0, gj_r b0)]) hO dX1_begin_1 rfl (by decide) rfl ?_
  obtain ⟨z1, hz1, hf⟩ := gj_b hf
  have J1 : gj_G E X 2 none x 30 [(0, gj_r b0)] [] z1 := by
    refine gj_iconst (v := 0) hO dX1_begin_30 (by decide) ?_
    refine gj_istore_n (lv2 := [(1, gj_i (0 : Int32)), (0, gj_r b0)]) hO dX1_begin_31 rfl (by decide) rfl ?_
    obtain ⟨z2, hz2, hf⟩ := gj_b hf
    have J2 : gj_G E X 2 none x 51 [(0, gj_r b0)] [] z2 := by
      refine gj_aload_n hO 0 dX1_begin_51 rfl rfl ?_
      refine gj_iconst (v := 0) hO dX1_begin_52 (by decide) ?_
      refine pt_X1_3 hO (kdP_0 g0) (klP_0 g0) wk_118 dX1_begin_53 ?_
      refine gj_aload_n hO 0 dX1_begin_56 rfl rfl ?_
      refine gj_iconst (v := 0) hO dX1_begin_57 (by decide) ?_
      refine pt_X1_4 hO (kdP_0 g0) (klP_0 g0) wk_119 dX1_begin_58 ?_
      obtain rfl := Option.some.inj hf
      exact gj_vret hO dX1_begin_61
    refine gj_sub (lv2 := [(0, gj_r b0), (1, gj_i (0 : Int32))]) [1, 0] rfl ?_
    exact gj_loop (head := fun a10032 => gj_G E X 2 none x 32 [(0, gj_r b0), (1, gj_i a10032.1)] [] a10032.2) (exit := fun z2 => gj_G E X 2 none x 51 [(0, gj_r b0)] [] z2) (fun a10032 x hf K => by obtain ⟨a10032_0, a10032_1⟩ := a10032; exact sb_X1_begin_l32 hO g0 hf K) _ _ _ hz2 J2
  refine gj_sub (lv2 := [(0, gj_r b0), (1, gj_i (0 : Int32))]) [1, 0] rfl ?_
  exact gj_loop (head := fun a10002 => gj_G E X 2 none x 2 [(0, gj_r b0), (1, gj_i a10002.1)] [] a10002.2) (exit := fun z1 => gj_G E X 2 none x 30 [(0, gj_r b0)] [] z1) (fun a10002 x hf K => by obtain ⟨a10002_0, a10002_1⟩ := a10002; exact sb_X1_begin_l2 hO g0 hf K) _ _ _ hz1 J1
set_option maxHeartbeats 4000000 in
set_option maxRecDepth 100000 in
theorem ca_X1_begin {E : gj_E} {X : gj_X} {own : String} {cc : ByteArray} {nL : Nat} {rt : Option FieldType} {fr lo : Nat} {ce sl : Nat} {Q : State → Prop} {pc : Nat} {lv : List (Nat × gj_V)} {st : List gj_V} {σ : gj_S} (hO : gj_O E X own cc nL rt fr lo) {b0 : Nat} (g0 : isP b0) {idx : Nat} {x : gj_S} (hf : f_X1_begin b0 σ = some x) (hl : Cond.methodLink own idx yX1_begin ∈ gj_gw) (hf1 : 2 ≤ fr) (hf2 : 44 ≤ lo) (hcat : ((st.map (gj_tv E.2.1)).map fun v => v.category).sum ≤ 8) (hd : decode cc pc = .ok (.invokevirtual idx, 3)) (k : gj_H E X nL ce sl Q (pc + 3) lv (st) x) : gj_H E X nL ce sl Q pc lv (gj_r b0 :: st) σ :=
  gj_callV hO (o := b0) (vs := []) (m_X1_begin g0 hf) (gj_Iany (by decide)) hl wk_137 wk_138 wk_15 wk_139 (klP_0 g0) (kdP_0 g0) (by decide) (ci := 1) rfl (n := 0) (by decide +kernel) rfl hf1 hf2 rfl hcat hd k
def f_X1_countWays (b0 : Nat) (σ : gj_S) : Option Int32 := some ((σ.1 b0 1) + (σ.1 b0 0))
set_option maxHeartbeats 4000000 in
set_option maxRecDepth 100000 in
theorem m_X1_countWays {E : gj_E} {σ : gj_S} {b0 : Nat} (g0 : isP b0) {x : Int32} (hf : f_X1_countWays b0 σ = some x) : gj_M E yX1_countWays cX1_countWays 1 (some .int) 0 0 [gj_r b0] σ (some (gj_i x)) σ := by
  refine gj_body (lv := [(0, gj_r b0)]) (by decide +kernel) (Nat.le_of_ble_eq_true rfl) rfl (fun X hO => ?_)
  replace hO : gj_O E X RX1 cX1_countWays 1 (some .int) 0 0 := hO
  unfold f_X1_countWays at hf
  refine gj_aload_n hO 0 dX1_countWays_0 rfl rfl ?_
  refine gt_X1_1 hO (kdP_0 g0) (klP_0 g0) wk_11 dX1_countWays_1 ?_
  refine gj_aload_n hO 0 dX1_countWays_4 rfl rfl ?_
  refine gt_X1_0 hO (kdP_0 g0) (klP_0 g0) wk_10 dX1_countWays_5 ?_
  refine gj_iadd hO dX1_countWays_8 ?_
  obtain rfl := Option.some.inj hf
  exact gj_iret hO dX1_countWays_9
set_option maxHeartbeats 4000000 in
set_option maxRecDepth 100000 in
theorem ca_X1_countWays {E : gj_E} {X : gj_X} {own : String} {cc : ByteArray} {nL : Nat} {rt : Option FieldType} {fr lo : Nat} {ce sl : Nat} {Q : State → Prop} {pc : Nat} {lv : List (Nat × gj_V)} {st : List gj_V} {σ : gj_S} (hO : gj_O E X own cc nL rt fr lo) {b0 : Nat} (g0 : isP b0) {idx : Nat} {x : Int32} (hf : f_X1_countWays b0 σ = some x) (hl : Cond.methodLink own idx yX1_countWays ∈ gj_gw) (hf1 : 1 ≤ fr) (hf2 : 20 ≤ lo) (hcat : ((st.map (gj_tv E.2.1)).map fun v => v.category).sum ≤ 8) (hd : decode cc pc = .ok (.invokevirtual idx, 3)) (k : gj_H E X nL ce sl Q (pc + 3) lv ((gj_i x) :: st) σ) : gj_H E X nL ce sl Q pc lv (gj_r b0 :: st) σ :=
  gj_callV hO (o := b0) (vs := []) (m_X1_countWays g0 hf) (gj_Iany (by decide)) hl wk_140 wk_141 wk_15 wk_142 (klP_0 g0) (kdP_0 g0) (by decide) (ci := 1) rfl (n := 0) (by decide +kernel) rfl hf1 hf2 rfl hcat hd k
def f_X5_hang (b0 : Nat) (b1 : Int32) (b2 : Int32) (b3 : Int32) (b4 : Int32) (σ : gj_S) : Option gj_S := (if gj_in b1 9 then (if gj_in b1 9 then ((some (gj_sI (gj_sI σ (b0 + 1) (upd (σ.1 (b0 + 1)) (Int32.toNatClampNeg b1) b3)) (b0 + 2) (upd ((gj_sI σ (b0 + 1) (upd (σ.1 (b0 + 1)) (Int32.toNatClampNeg b1) b3)).1 (b0 + 2)) (Int32.toNatClampNeg b1) b2))).bind fun s3 => (if gj_in b2 9 then (if gj_in b1 9 then (if gj_in b1 9 then ((some (gj_sI (gj_sI s3 (b0 + 3) (upd (s3.1 (b0 + 3)) (Int32.toNatClampNeg b1) ((s3.1 (b0 + 3) (Int32.toNatClampNeg b2)) + (1 : Int32)))) (b0 + 4) (upd ((gj_sI s3 (b0 + 3) (upd (s3.1 (b0 + 3)) (Int32.toNatClampNeg b1) ((s3.1 (b0 + 3) (Int32.toNatClampNeg b2)) + (1 : Int32)))).1 (b0 + 4)) (Int32.toNatClampNeg b1) b4))).bind fun s7 => some s7) else none) else none) else none)) else none) else none)
set_option maxHeartbeats 4000000 in
set_option maxRecDepth 100000 in
theorem m_X5_hang {E : gj_E} {σ : gj_S} {b0 : Nat} {b1 : Int32} {b2 : Int32} {b3 : Int32} {b4 : Int32} (g0 : isT b0) {x : gj_S} (hf : f_X5_hang b0 b1 b2 b3 b4 σ = some x) : gj_M E yX5_hang cX5_hang 5 none 0 0 [gj_r b0, gj_i b1, gj_i b2, gj_i b3, gj_i b4] σ none x := by
  refine gj_body (lv := [(0, gj_r b0), (1, gj_i b1), (2, gj_i b2), (3, gj_i b3), (4, gj_i b4)]) (by decide +kernel) (Nat.le_of_ble_eq_true rfl) rfl (fun X hO => ?_)
  replace hO : gj_O E X RX5 cX5_hang 5 none 0 0 := hO
  unfold f_X5_hang at hf
  refine gj_aload_n hO 0 dX5_hang_0 rfl rfl ?_
  refine gt_X5_0 hO (kdT_0 g0) (klT_0 g0) wk_143 dX5_hang_1 ?_
  refine gj_iload_n hO 1 dX5_hang_4 rfl rfl ?_
  refine gj_iload_n hO 3 dX5_hang_5 rfl rfl ?_
  obtain ⟨hb1, hf⟩ := gj_c hf
  refine gj_iast hO (klT_1 g0) (kdT_1 g0) hb1 dX5_hang_6 ?_
  refine gj_aload_n hO 0 dX5_hang_7 rfl rfl ?_
  refine gt_X5_1 hO (kdT_0 g0) (klT_0 g0) wk_144 dX5_hang_8 ?_
  refine gj_iload_n hO 1 dX5_hang_11 rfl rfl ?_
  refine gj_iload_n hO 2 dX5_hang_12 rfl rfl ?_
  obtain ⟨hb2, hf⟩ := gj_c hf
  refine gj_iast hO (klT_2 g0) (kdT_2 g0) hb2 dX5_hang_13 ?_
  obtain ⟨s3, e3, hf⟩ := gj_b hf
  refine gj_eqS (Option.some.inj e3) ?_
  refine gj_aload_n hO 0 dX5_hang_14 rfl rfl ?_
  refine gt_X5_2 hO (kdT_0 g0) (klT_0 g0) wk_145 dX5_hang_15 ?_
  refine gj_iload_n hO 1 dX5_hang_18 rfl rfl ?_
  refine gj_aload_n hO 0 dX5_hang_19 rfl rfl ?_
  refine gt_X5_2 hO (kdT_0 g0) (klT_0 g0) wk_145 dX5_hang_20 ?_
  refine gj_iload_n hO 2 dX5_hang_23 rfl rfl ?_
  obtain ⟨hb4, hf⟩ := gj_c hf
  refine gj_iald hO (klT_3 g0) (kdT_3 g0) hb4 dX5_hang_24 ?_
  refine gj_iconst (v := 1) hO dX5_hang_25 (by decide) ?_
  refine gj_iadd hO dX5_hang_26 ?_
  obtain ⟨hb5, hf⟩ := gj_c hf
  refine gj_iast hO (klT_3 g0) (kdT_3 g0) hb5 dX5_hang_27 ?_
  refine gj_aload_n hO 0 dX5_hang_28 rfl rfl ?_
  refine gt_X5_3 hO (kdT_0 g0) (klT_0 g0) wk_146 dX5_hang_29 ?_
  refine gj_iload_n hO 1 dX5_hang_32 rfl rfl ?_
  refine gj_iload hO 4 dX5_hang_33 rfl ?_
  obtain ⟨hb6, hf⟩ := gj_c hf
  refine gj_iast hO (klT_4 g0) (kdT_4 g0) hb6 dX5_hang_35 ?_
  obtain ⟨s7, e7, hf⟩ := gj_b hf
  refine gj_eqS (Option.some.inj e7) ?_
  obtain rfl := Option.some.inj hf
  exact gj_vret hO dX5_hang_36
set_option maxHeartbeats 4000000 in
set_option maxRecDepth 100000 in
theorem ca_X5_hang {E : gj_E} {X : gj_X} {own : String} {cc : ByteArray} {nL : Nat} {rt : Option FieldType} {fr lo : Nat} {ce sl : Nat} {Q : State → Prop} {pc : Nat} {lv : List (Nat × gj_V)} {st : List gj_V} {σ : gj_S} (hO : gj_O E X own cc nL rt fr lo) {b0 : Nat} {b1 : Int32} {b2 : Int32} {b3 : Int32} {b4 : Int32} (g0 : isT b0) {idx : Nat} {x : gj_S} (hf : f_X5_hang b0 b1 b2 b3 b4 σ = some x) (hl : Cond.methodLink own idx yX5_hang ∈ gj_gw) (hf1 : 1 ≤ fr) (hf2 : 24 ≤ lo) (hcat : ((st.map (gj_tv E.2.1)).map fun v => v.category).sum ≤ 8) (hd : decode cc pc = .ok (.invokevirtual idx, 3)) (k : gj_H E X nL ce sl Q (pc + 3) lv (st) x) : gj_H E X nL ce sl Q pc lv (gj_i b4 :: gj_i b3 :: gj_i b2 :: gj_i b1 :: gj_r b0 :: st) σ :=
  gj_callV hO (o := b0) (vs := [gj_i b1, gj_i b2, gj_i b3, gj_i b4]) (m_X5_hang g0 hf) (gj_Iany (by decide)) hl wk_147 wk_148 wk_149 wk_150 (klT_0 g0) (kdT_0 g0) (by decide) (ci := 5) rfl (n := 4) (by decide +kernel) rfl hf1 hf2 rfl hcat hd k
def f_X5_hangsBy (b0 : Nat) (b1 : Nat) (b2 : Int32) (σ : gj_S) : Option (Int32 × gj_S) := (if gj_in b2 24 then (if gj_in b2 24 then (if gj_in (σ.1 (b1 + 2) (Int32.toNatClampNeg b2)) 9 then (if (σ.1 (b0 + 3) (Int32.toNatClampNeg (σ.1 (b1 + 2) (Int32.toNatClampNeg b2)))) = (-1 : Int32) then (if gj_in (σ.1 (b1 + 2) (Int32.toNatClampNeg b2)) 9 then (if (σ.1 (b0 + 3) (Int32.toNatClampNeg (σ.1 (b1 + 2) (Int32.toNatClampNeg b2)))) = (-1 : Int32) then (if gj_in (σ.1 (b1 + 3) (Int32.toNatClampNeg b2)) 9 then (if (σ.1 (b0 + 3) (Int32.toNatClampNeg (σ.1 (b1 + 3) (Int32.toNatClampNeg b2)))) = (-1 : Int32) then some ((0 : Int32), σ) else (if gj_in (σ.1 (b1 + 3) (Int32.toNatClampNeg b2)) 9 then (if gj_in b2 24 then ((f_X5_hang b0 (σ.1 (b1 + 2) (Int32.toNatClampNeg b2)) (σ.1 (b1 + 3) (Int32.toNatClampNeg b2)) b2 ((σ.1 (b0 + 4) (Int32.toNatClampNeg (σ.1 (b1 + 3) (Int32.toNatClampNeg b2)))) - (σ.1 (b1 + 4) (Int32.toNatClampNeg b2))) σ).bind fun x8 => some ((1 : Int32), x8)) else none) else none)) else none) else some ((0 : Int32), σ)) else none) else (if gj_in (σ.1 (b1 + 3) (Int32.toNatClampNeg b2)) 9 then (if (σ.1 (b0 + 3) (Int32.toNatClampNeg (σ.1 (b1 + 3) (Int32.toNatClampNeg b2)))) = (-1 : Int32) then (if gj_in (σ.1 (b1 + 2) (Int32.toNatClampNeg b2)) 9 then (if gj_in b2 24 then ((f_X5_hang b0 (σ.1 (b1 + 3) (Int32.toNatClampNeg b2)) (σ.1 (b1 + 2) (Int32.toNatClampNeg b2)) b2 ((σ.1 (b0 + 4) (Int32.toNatClampNeg (σ.1 (b1 + 2) (Int32.toNatClampNeg b2)))) + (σ.1 (b1 + 4) (Int32.toNatClampNeg b2))) σ).bind fun x17 => some ((1 : Int32), x17)) else none) else none) else (if gj_in (σ.1 (b1 + 2) (Int32.toNatClampNeg b2)) 9 then (if (σ.1 (b0 + 3) (Int32.toNatClampNeg (σ.1 (b1 + 2) (Int32.toNatClampNeg b2)))) = (-1 : Int32) then (if gj_in (σ.1 (b1 + 3) (Int32.toNatClampNeg b2)) 9 then (if (σ.1 (b0 + 3) (Int32.toNatClampNeg (σ.1 (b1 + 3) (Int32.toNatClampNeg b2)))) = (-1 : Int32) then some ((0 : Int32), σ) else (if gj_in (σ.1 (b1 + 3) (Int32.toNatClampNeg b2)) 9 then (if gj_in b2 24 then ((f_X5_hang b0 (σ.1 (b1 + 2) (Int32.toNatClampNeg b2)) (σ.1 (b1 + 3) (Int32.toNatClampNeg b2)) b2 ((σ.1 (b0 + 4) (Int32.toNatClampNeg (σ.1 (b1 + 3) (Int32.toNatClampNeg b2)))) - (σ.1 (b1 + 4) (Int32.toNatClampNeg b2))) σ).bind fun x14 => some ((1 : Int32), x14)) else none) else none)) else none) else some ((0 : Int32), σ)) else none)) else none)) else none) else none) else none)
set_option maxHeartbeats 4000000 in
set_option maxRecDepth 100000 in
theorem m_X5_hangsBy {E : gj_E} {σ : gj_S} {b0 : Nat} {b1 : Nat} {b2 : Int32} (g0 : isT b0) (g1 : isP b1) {x : Int32} {y : gj_S} (hf : f_X5_hangsBy b0 b1 b2 σ = some (x, y)) : gj_M E yX5_hangsBy cX5_hangsBy 5 (some .boolean) 1 24 [gj_r b0, gj_r b1, gj_i b2] σ (some (gj_i x)) y := by
  refine gj_body (lv := [(0, gj_r b0), (1, gj_r b1), (2, gj_i b2)]) (by decide +kernel) (Nat.le_of_ble_eq_true rfl) rfl (fun X hO => ?_)
  replace hO : gj_O E X RX5 cX5_hangsBy 5 (some .boolean) 1 24 := hO
  unfold f_X5_hangsBy at hf
  refine gj_aload_n hO 1 dX5_hangsBy_0 rfl rfl ?_
  refine gt_X1_6 hO (kdP_0 g1) (klP_0 g1) wk_151 dX5_hangsBy_1 ?_
  refine gj_iload_n hO 2 dX5_hangsBy_4 rfl rfl ?_
  obtain ⟨hb1, hf⟩ := gj_c hf
  refine gj_iald hO (klP_2 g1) (kdP_2 g1) hb1 dX5_hangsBy_5 ?_
  refine gj_istore_n (lv2 := [(3, gj_i (σ.1 (b1 + 2) (Int32.toNatClampNeg b2))), (0, gj_r b0), (1, gj_r b1), (2, gj_i b2)]) hO dX5_hangsBy_6 rfl (by decide) rfl ?_
  refine gj_aload_n hO 2 dX5_hangsBy_7 rfl rfl ?_
  refine gt_X1_7 hO (kdP_0 g1) (klP_0 g1) wk_152 dX5_hangsBy_8 ?_
  refine gj_iload_n hO 3 dX5_hangsBy_11 rfl rfl ?_
  obtain ⟨hb2, hf⟩ := gj_c hf
  refine gj_iald hO (klP_3 g1) (kdP_3 g1) hb2 dX5_hangsBy_12 ?_
  refine gj_istore (lv2 := [(4, gj_i (σ.1 (b1 + 3) (Int32.toNatClampNeg b2))), (3, gj_i (σ.1 (b1 + 2) (Int32.toNatClampNeg b2))), (0, gj_r b0), (1, gj_r b1), (2, gj_i b2)]) hO dX5_hangsBy_13 (by decide) rfl ?_
  refine gj_aload_n hO 2 dX5_hangsBy_15 rfl rfl ?_
  refine gt_X5_2 hO (kdT_0 g0) (klT_0 g0) wk_145 dX5_hangsBy_16 ?_
  refine gj_iload_n hO 1 dX5_hangsBy_19 rfl rfl ?_
  obtain ⟨hb3, hf⟩ := gj_c hf
  refine gj_iald hO (klT_3 g0) (kdT_3 g0) hb3 dX5_hangsBy_20 ?_
  refine gj_iconst (v := (-1)) hO dX5_hangsBy_21 (by decide) ?_
  refine gj_icmp_eq (tgt := 59) hO dX5_hangsBy_22 (by decide) (fun h => ?_) (fun h => ?_)
  · replace hf := gj_t h hf
    refine gj_aload_n hO 2 dX5_hangsBy_59 rfl rfl ?_
    refine gt_X5_2 hO (kdT_0 g0) (klT_0 g0) wk_145 dX5_hangsBy_60 ?_
    refine gj_iload_n hO 1 dX5_hangsBy_63 rfl rfl ?_
    obtain ⟨hb4, hf⟩ := gj_c hf
    refine gj_iald hO (klT_3 g0) (kdT_3 g0) hb4 dX5_hangsBy_64 ?_
    refine gj_iconst (v := (-1)) hO dX5_hangsBy_65 (by decide) ?_
    refine gj_icmp_ne (tgt := 104) hO dX5_hangsBy_66 (by decide) (fun h => ?_) (fun h => ?_)
    · replace hf := gj_f h hf
      refine gj_iconst (v := 0) hO dX5_hangsBy_104 (by decide) ?_
      replace hf := Option.some.inj hf
      simp only [Prod.mk.injEq] at hf
      obtain ⟨rfl, rfl⟩ := hf
      exact gj_zret hO (Or.inl rfl) dX5_hangsBy_105
    · replace hf := gj_t h hf
      refine gj_aload_n hO 2 dX5_hangsBy_69 rfl rfl ?_
      refine gt_X5_2 hO (kdT_0 g0) (klT_0 g0) wk_145 dX5_hangsBy_70 ?_
      refine gj_iload hO 0 dX5_hangsBy_73 rfl ?_
      obtain ⟨hb5, hf⟩ := gj_c hf
      refine gj_iald hO (klT_3 g0) (kdT_3 g0) hb5 dX5_hangsBy_75 ?_
      refine gj_iconst (v := (-1)) hO dX5_hangsBy_76 (by decide) ?_
      refine gj_icmp_eq (tgt := 104) hO dX5_hangsBy_77 (by decide) (fun h => ?_) (fun h => ?_)
      · replace hf := gj_t h hf
        refine gj_iconst (v := 0) hO dX5_hangsBy_104 (by decide) ?_
        replace hf := Option.some.inj hf
        simp only [Prod.mk.injEq] at hf
        obtain ⟨rfl, rfl⟩ := hf
        exact gj_zret hO (Or.inl rfl) dX5_hangsBy_105
      · replace hf := gj_f h hf
        refine gj_aload_n hO 2 dX5_hangsBy_80 rfl rfl ?_
        refine gj_iload_n hO 1 dX5_hangsBy_81 rfl rfl ?_
        refine gj_iload hO 0 dX5_hangsBy_82 rfl ?_
        refine gj_iload_n hO 4 dX5_hangsBy_84 rfl rfl ?_
        refine gj_aload_n hO 2 dX5_hangsBy_85 rfl rfl ?_
        refine gt_X5_3 hO (kdT_0 g0) (klT_0 g0) wk_146 dX5_hangsBy_86 ?_
        refine gj_iload hO 0 dX5_hangsBy_89 rfl ?_
        obtain ⟨hb6, hf⟩ := gj_c hf
        refine gj_iald hO (klT_4 g0) (kdT_4 g0) hb6 dX5_hangsBy_91 ?_
        refine gj_aload_n hO 3 dX5_hangsBy_92 rfl rfl ?_
        refine gt_X1_8 hO (kdP_0 g1) (klP_0 g1) wk_153 dX5_hangsBy_93 ?_
        refine gj_iload_n hO 4 dX5_hangsBy_96 rfl rfl ?_
        obtain ⟨hb7, hf⟩ := gj_c hf
        refine gj_iald hO (klP_4 g1) (kdP_4 g1) hb7 dX5_hangsBy_97 ?_
        refine gj_isub hO dX5_hangsBy_98 ?_
        obtain ⟨x8, hc8, hf⟩ := gj_b hf
        refine ca_X5_hang hO g0 hc8 wk_154 (by decide) (by decide) (Nat.le_of_ble_eq_true rfl) dX5_hangsBy_99 ?_
        refine gj_iconst (v := 1) hO dX5_hangsBy_102 (by decide) ?_
        replace hf := Option.some.inj hf
        simp only [Prod.mk.injEq] at hf
        obtain ⟨rfl, rfl⟩ := hf
        exact gj_zret hO (Or.inr rfl) dX5_hangsBy_103
  · replace hf := gj_f h hf
    refine gj_aload_n hO 2 dX5_hangsBy_25 rfl rfl ?_
    refine gt_X5_2 hO (kdT_0 g0) (klT_0 g0) wk_145 dX5_hangsBy_26 ?_
    refine gj_iload hO 0 dX5_hangsBy_29 rfl ?_
    obtain ⟨hb9, hf⟩ := gj_c hf
    refine gj_iald hO (klT_3 g0) (kdT_3 g0) hb9 dX5_hangsBy_31 ?_
    refine gj_iconst (v := (-1)) hO dX5_hangsBy_32 (by decide) ?_
    refine gj_icmp_ne (tgt := 59) hO dX5_hangsBy_33 (by decide) (fun h => ?_) (fun h => ?_)
    · replace hf := gj_f h hf
      refine gj_aload_n hO 2 dX5_hangsBy_59 rfl rfl ?_
      refine gt_X5_2 hO (kdT_0 g0) (klT_0 g0) wk_145 dX5_hangsBy_60 ?_
      refine gj_iload_n hO 1 dX5_hangsBy_63 rfl rfl ?_
      obtain ⟨hb10, hf⟩ := gj_c hf
      refine gj_iald hO (klT_3 g0) (kdT_3 g0) hb10 dX5_hangsBy_64 ?_
      refine gj_iconst (v := (-1)) hO dX5_hangsBy_65 (by decide) ?_
      refine gj_icmp_ne (tgt := 104) hO dX5_hangsBy_66 (by decide) (fun h => ?_) (fun h => ?_)
      · replace hf := gj_f h hf
        refine gj_iconst (v := 0) hO dX5_hangsBy_104 (by decide) ?_
        replace hf := Option.some.inj hf
        simp only [Prod.mk.injEq] at hf
        obtain ⟨rfl, rfl⟩ := hf
        exact gj_zret hO (Or.inl rfl) dX5_hangsBy_105
      · replace hf := gj_t h hf
        refine gj_aload_n hO 2 dX5_hangsBy_69 rfl rfl ?_
        refine gt_X5_2 hO (kdT_0 g0) (klT_0 g0) wk_145 dX5_hangsBy_70 ?_
        refine gj_iload hO 0 dX5_hangsBy_73 rfl ?_
        obtain ⟨hb11, hf⟩ := gj_c hf
        refine gj_iald hO (klT_3 g0) (kdT_3 g0) hb11 dX5_hangsBy_75 ?_
        refine gj_iconst (v := (-1)) hO dX5_hangsBy_76 (by decide) ?_
        refine gj_icmp_eq (tgt := 104) hO dX5_hangsBy_77 (by decide) (fun h => ?_) (fun h => ?_)
        · replace hf := gj_t h hf
          refine gj_iconst (v := 0) hO dX5_hangsBy_104 (by decide) ?_
          replace hf := Option.some.inj hf
          simp only [Prod.mk.injEq] at hf
          obtain ⟨rfl, rfl⟩ := hf
          exact gj_zret hO (Or.inl rfl) dX5_hangsBy_105
        · replace hf := gj_f h hf
          refine gj_aload_n hO 2 dX5_hangsBy_80 rfl rfl ?_
          refine gj_iload_n hO 1 dX5_hangsBy_81 rfl rfl ?_
          refine gj_iload hO 0 dX5_hangsBy_82 rfl ?_
          refine gj_iload_n hO 4 dX5_hangsBy_84 rfl rfl ?_
          refine gj_aload_n hO 2 dX5_hangsBy_85 rfl rfl ?_
          refine gt_X5_3 hO (kdT_0 g0) (klT_0 g0) wk_146 dX5_hangsBy_86 ?_
          refine gj_iload hO 0 dX5_hangsBy_89 rfl ?_
          obtain ⟨hb12, hf⟩ := gj_c hf
          refine gj_iald hO (klT_4 g0) (kdT_4 g0) hb12 dX5_hangsBy_91 ?_
          refine gj_aload_n hO 3 dX5_hangsBy_92 rfl rfl ?_
          refine gt_X1_8 hO (kdP_0 g1) (klP_0 g1) wk_153 dX5_hangsBy_93 ?_
          refine gj_iload_n hO 4 dX5_hangsBy_96 rfl rfl ?_
          obtain ⟨hb13, hf⟩ := gj_c hf
          refine gj_iald hO (klP_4 g1) (kdP_4 g1) hb13 dX5_hangsBy_97 ?_
          refine gj_isub hO dX5_hangsBy_98 ?_
          obtain ⟨x14, hc14, hf⟩ := gj_b hf
          refine ca_X5_hang hO g0 hc14 wk_154 (by decide) (by decide) (Nat.le_of_ble_eq_true rfl) dX5_hangsBy_99 ?_
          refine gj_iconst (v := 1) hO dX5_hangsBy_102 (by decide) ?_
          replace hf := Option.some.inj hf
          simp only [Prod.mk.injEq] at hf
          obtain ⟨rfl, rfl⟩ := hf
          exact gj_zret hO (Or.inr rfl) dX5_hangsBy_103
    · replace hf := gj_t h hf
      refine gj_aload_n hO 2 dX5_hangsBy_36 rfl rfl ?_
      refine gj_iload hO 0 dX5_hangsBy_37 rfl ?_
      refine gj_iload_n hO 1 dX5_hangsBy_39 rfl rfl ?_
      refine gj_iload_n hO 4 dX5_hangsBy_40 rfl rfl ?_
      refine gj_aload_n hO 2 dX5_hangsBy_41 rfl rfl ?_
      refine gt_X5_3 hO (kdT_0 g0) (klT_0 g0) wk_146 dX5_hangsBy_42 ?_
      refine gj_iload_n hO 1 dX5_hangsBy_45 rfl rfl ?_
      obtain ⟨hb15, hf⟩ := gj_c hf
      refine gj_iald hO (klT_4 g0) (kdT_4 g0) hb15 dX5_hangsBy_46 ?_
      refine gj_aload_n hO 3 dX5_hangsBy_47 rfl rfl ?_
      refine gt_X1_8 hO (kdP_0 g1) (klP_0 g1) wk_153 dX5_hangsBy_48 ?_
      refine gj_iload_n hO 4 dX5_hangsBy_51 rfl rfl ?_
      obtain ⟨hb16, hf⟩ := gj_c hf
      refine gj_iald hO (klP_4 g1) (kdP_4 g1) hb16 dX5_hangsBy_52 ?_
      refine gj_iadd hO dX5_hangsBy_53 ?_
      obtain ⟨x17, hc17, hf⟩ := gj_b hf
      refine ca_X5_hang hO g0 hc17 wk_154 (by decide) (by decide) (Nat.le_of_ble_eq_true rfl) dX5_hangsBy_54 ?_
      refine gj_iconst (v := 1) hO dX5_hangsBy_57 (by decide) ?_
      replace hf := Option.some.inj hf
      simp only [Prod.mk.injEq] at hf
      obtain ⟨rfl, rfl⟩ := hf
      exact gj_zret hO (Or.inr rfl) dX5_hangsBy_58
set_option maxHeartbeats 4000000 in
set_option maxRecDepth 100000 in
theorem ca_X5_hangsBy {E : gj_E} {X : gj_X} {own : String} {cc : ByteArray} {nL : Nat} {rt : Option FieldType} {fr lo : Nat} {ce sl : Nat} {Q : State → Prop} {pc : Nat} {lv : List (Nat × gj_V)} {st : List gj_V} {σ : gj_S} (hO : gj_O E X own cc nL rt fr lo) {b0 : Nat} {b1 : Nat} {b2 : Int32} (g0 : isT b0) (g1 : isP b1) {idx : Nat} {x : Int32} {y : gj_S} (hf : f_X5_hangsBy b0 b1 b2 σ = some (x, y)) (hl : Cond.methodLink own idx yX5_hangsBy ∈ gj_gw) (hf1 : 2 ≤ fr) (hf2 : 48 ≤ lo) (hcat : ((st.map (gj_tv E.2.1)).map fun v => v.category).sum ≤ 8) (hd : decode cc pc = .ok (.invokevirtual idx, 3)) (k : gj_H E X nL ce sl Q (pc + 3) lv ((gj_i x) :: st) y) : gj_H E X nL ce sl Q pc lv (gj_i b2 :: gj_r b1 :: gj_r b0 :: st) σ :=
  gj_callV hO (o := b0) (vs := [gj_r b1, gj_i b2]) (m_X5_hangsBy g0 g1 hf) (gj_Iany (by decide)) hl wk_155 wk_156 wk_149 wk_157 (klT_0 g0) (kdT_0 g0) (by decide) (ci := 5) rfl (n := 2) (by decide +kernel) rfl hf1 hf2 rfl hcat hd k
def fb_X5_grow_l2 (b0 : Nat) (b1 : Nat) (a10002 : (Int32 × gj_S)) : Option (gj_S ⊕ (Int32 × gj_S)) := (if (9 : Int32) ≤ a10002.1 then some (.inl a10002.2) else (if gj_in a10002.1 9 then (if gj_in a10002.1 9 then (if gj_in a10002.1 9 then ((some (gj_sI (gj_sI a10002.2 (b0 + 5) (upd (a10002.2.1 (b0 + 5)) (Int32.toNatClampNeg a10002.1) (a10002.2.1 (b0 + 4) (Int32.toNatClampNeg a10002.1)))) (b0 + 2) (upd ((gj_sI a10002.2 (b0 + 5) (upd (a10002.2.1 (b0 + 5)) (Int32.toNatClampNeg a10002.1) (a10002.2.1 (b0 + 4) (Int32.toNatClampNeg a10002.1)))).1 (b0 + 2)) (Int32.toNatClampNeg a10002.1) (8 : Int32)))).bind fun s10204 => ((if a10002.1 = (8 : Int32) then some (0 : Int32) else some (-1 : Int32) : Option Int32).bind fun z10205 => (if gj_in a10002.1 9 then (if gj_in a10002.1 9 then ((some (gj_sI (gj_sI s10204 (b0 + 3) (upd (s10204.1 (b0 + 3)) (Int32.toNatClampNeg a10002.1) z10205)) (b0 + 4) (upd ((gj_sI s10204 (b0 + 3) (upd (s10204.1 (b0 + 3)) (Int32.toNatClampNeg a10002.1) z10205)).1 (b0 + 4)) (Int32.toNatClampNeg a10002.1) (0 : Int32)))).bind fun s10208 => some (.inr ((a10002.1 + 1), s10208))) else none) else none))) else none) else none) else none))
def fb_X5_grow_l81 (b0 : Nat) (b1 : Nat) (b3 : Int32) (a10081 : (Int32 × Int32 × gj_S)) : Option ((Int32 × gj_S) ⊕ (Int32 × Int32 × gj_S)) := ((f_X1_countWays b1 a10081.2.2).bind fun x18101 => (if x18101 ≤ a10081.2.1 then some (.inl (a10081.1, a10081.2.2)) else (if gj_in a10081.2.1 24 then (if (a10081.2.2.1 (b1 + 7) (Int32.toNatClampNeg a10081.2.1)) = 0 then ((f_X5_hangsBy b0 b1 a10081.2.1 a10081.2.2).bind fun x18103 => (if x18103.1 = 0 then some (.inr ((a10081.1 + (0 : Int32)), (a10081.2.1 + 1), x18103.2)) else some (.inr ((a10081.1 + (1 : Int32)), (a10081.2.1 + 1), x18103.2)))) else some (.inr ((a10081.1 + (0 : Int32)), (a10081.2.1 + 1), a10081.2.2))) else none)))
def fb_X5_grow_l62 (b0 : Nat) (b1 : Nat) (a10062 : (Int32 × Int32 × gj_S)) : Option (gj_S ⊕ (Int32 × Int32 × gj_S)) := (if (a10062.2.2.1 b1 0) ≤ a10062.2.1 then some (.inl a10062.2.2) else (if (a10062.2.2.1 b1 0) ≤ a10062.1 then some (.inl a10062.2.2) else ((gj_lp (fb_X5_grow_l81 b0 b1 a10062.2.1) 5000 (a10062.1, (0 : Int32), a10062.2.2)).bind fun z16201 => some (.inr (z16201.1, (a10062.2.1 + 1), z16201.2)))))
def f_X5_grow (b0 : Nat) (b1 : Nat) (σ : gj_S) : Option gj_S := ((gj_lp (fb_X5_grow_l2 b0 b1) 5000 ((0 : Int32), σ)).bind fun z1 => ((gj_lp (fb_X5_grow_l62 b0 b1) 5000 ((0 : Int32), (0 : Int32), z1)).bind fun z2 => some z2))
set_option maxHeartbeats 4000000 in
set_option maxRecDepth 100000 in
theorem sb_X5_grow_l2 {E : gj_E} {X : gj_X} {r : Option gj_V} {τ : gj_S} (hO : gj_O E X RX5 cX5_grow 5 none 2 48) {b0 : Nat} {b1 : Nat} (g0 : isT b0) (g1 : isP b1) {a10002_0 : Int32} {a10002_1 : gj_S} {x : gj_S ⊕ (Int32 × gj_S)} (hf : fb_X5_grow_l2 b0 b1 (a10002_0, a10002_1) = some x) (K : gj_K (fun z1 => gj_G E X 5 r τ 58 [(0, gj_r b0), (1, gj_r b1)] [] z1) (fun a10002 => gj_G E X 5 r τ 2 [(0, gj_r b0), (1, gj_r b1), (2, gj_i a10002.1)] [] a10002.2) x) : gj_G E X 5 r τ 2 [(0, gj_r b0), (1, gj_r b1), (2, gj_i a10002_0)] [] a10002_1 := by
  unfold fb_X5_grow_l2 at hf
  dsimp only at hf
  refine gj_iload_n hO 2 dX5_grow_2 rfl rfl ?_
  refine gj_bipush (v := 9) hO dX5_grow_3 (by decide) ?_
  refine gj_icmp_ge (tgt := 58) hO dX5_grow_5 (by decide) (fun h => ?_) (fun h => ?_)
  · replace hf := gj_t h hf
    obtain rfl := Option.some.inj hf
    refine gj_sub (lv2 := [(0, gj_r b0), (1, gj_r b1)]) [0, 1] rfl ?_
    exact K
  · replace hf := gj_f h hf
    refine gj_aload_n hO 0 dX5_grow_8 rfl rfl ?_
    refine gt_X5_4 hO (kdT_0 g0) (klT_0 g0) wk_158 dX5_grow_9 ?_
    refine gj_iload_n hO 2 dX5_grow_12 rfl rfl ?_
    refine gj_aload_n hO 0 dX5_grow_13 rfl rfl ?_
    refine gt_X5_3 hO (kdT_0 g0) (klT_0 g0) wk_146 dX5_grow_14 ?_
    refine gj_iload_n hO 2 dX5_grow_17 rfl rfl ?_
    obtain ⟨hb10201, hf⟩ := gj_c hf
    refine gj_iald hO (klT_4 g0) (kdT_4 g0) hb10201 dX5_grow_18 ?_
    obtain ⟨hb10202, hf⟩ := gj_c hf
    refine gj_iast hO (klT_5 g0) (kdT_5 g0) hb10202 dX5_grow_19 ?_
    refine gj_aload_n hO 0 dX5_grow_20 rfl rfl ?_
    refine gt_X5_1 hO (kdT_0 g0) (klT_0 g0) wk_144 dX5_grow_21 ?_
    refine gj_iload_n hO 2 dX5_grow_24 rfl rfl ?_
    refine gj_bipush (v := 8) hO dX5_grow_25 (by decide) ?_
    obtain ⟨hb10203, hf⟩ := gj_c hf
    refine gj_iast hO (klT_2 g0) (kdT_2 g0) hb10203 dX5_grow_27 ?_
    obtain ⟨s10204, e10204, hf⟩ := gj_b hf
    refine gj_eqS (Option.some.inj e10204) ?_
    refine gj_aload_n hO 0 dX5_grow_28 rfl rfl ?_
    refine gt_X5_2 hO (kdT_0 g0) (klT_0 g0) wk_145 dX5_grow_29 ?_
    refine gj_iload_n hO 2 dX5_grow_32 rfl rfl ?_
    refine gj_iload_n hO 2 dX5_grow_33 rfl rfl ?_
    refine gj_bipush (v := 8) hO dX5_grow_34 (by decide) ?_
    obtain ⟨z10205, hz10205, hf⟩ := gj_b hf
    have J10205 : gj_G E X 5 r τ 44 [(0, gj_r b0), (1, gj_r b1), (2, gj_i a10002_0)] [gj_i z10205, gj_i a10002_0, gj_r (b0 + 3)] s10204 := by
      obtain ⟨hb10206, hf⟩ := gj_c hf
      refine gj_iast hO (klT_3 g0) (kdT_3 g0) hb10206 dX5_grow_44 ?_
      refine gj_aload_n hO 0 dX5_grow_45 rfl rfl ?_
      refine gt_X5_3 hO (kdT_0 g0) (klT_0 g0) wk_146 dX5_grow_46 ?_
      refine gj_iload_n hO 2 dX5_grow_49 rfl rfl ?_
      refine gj_iconst (v := 0) hO dX5_grow_50 (by decide) ?_
      obtain ⟨hb10207, hf⟩ := gj_c hf
      refine gj_iast hO (klT_4 g0) (kdT_4 g0) hb10207 dX5_grow_51 ?_
      obtain ⟨s10208, e10208, hf⟩ := gj_b hf
      refine gj_eqS (Option.some.inj e10208) ?_
      refine gj_iinc (v := (a10002_0 + 1)) (lv2 := [(2, gj_i (a10002_0 + 1)), (0, gj_r b0), (1, gj_r b1)]) hO 2 dX5_grow_52 rfl rfl (by decide) rfl ?_
      refine gj_goto (tgt := 2) hO dX5_grow_55 (by decide) ?_
      obtain rfl := Option.some.inj hf
      refine gj_sub (lv2 := [(0, gj_r b0), (1, gj_r b1), (2, gj_i (a10002_0 + 1))]) [1, 2, 0] rfl ?_
      exact K
    refine gj_icmp_ne (tgt := 43) hO dX5_grow_36 (by decide) (fun h => ?_) (fun h => ?_)
    · replace hz10205 := gj_f h hz10205
      refine gj_iconst (v := (-1)) hO dX5_grow_43 (by decide) ?_
      obtain rfl := Option.some.inj hz10205
      refine gj_sub (lv2 := [(0, gj_r b0), (1, gj_r b1), (2, gj_i a10002_0)]) [0, 1, 2] rfl ?_
      exact J10205
    · replace hz10205 := gj_t h hz10205
      refine gj_iconst (v := 0) hO dX5_grow_39 (by decide) ?_
      refine gj_goto (tgt := 44) hO dX5_grow_40 (by decide) ?_
      obtain rfl := Option.some.inj hz10205
      refine gj_sub (lv2 := [(0, gj_r b0), (1, gj_r b1), (2, gj_i a10002_0)]) [0, 1, 2] rfl ?_
      exact J10205
set_option maxHeartbeats 4000000 in
set_option maxRecDepth 100000 in
theorem sb_X5_grow_l81 {E : gj_E} {X : gj_X} {r : Option gj_V} {τ : gj_S} (hO : gj_O E X RX5 cX5_grow 5 none 2 48) {b0 : Nat} {b1 : Nat} {b3 : Int32} (g0 : isT b0) (g1 : isP b1) {a10081_0 : Int32} {a10081_1 : Int32} {a10081_2 : gj_S} {x : (Int32 × gj_S) ⊕ (Int32 × Int32 × gj_S)} (hf : fb_X5_grow_l81 b0 b1 b3 (a10081_0, a10081_1, a10081_2) = some x) (K : gj_K (fun z16201 => gj_G E X 5 r τ 124 [(0, gj_r b0), (1, gj_r b1), (2, gj_i z16201.1), (3, gj_i b3)] [] z16201.2) (fun a10081 => gj_G E X 5 r τ 81 [(0, gj_r b0), (1, gj_r b1), (2, gj_i a10081.1), (3, gj_i b3), (4, gj_i a10081.2.1)] [] a10081.2.2) x) : gj_G E X 5 r τ 81 [(0, gj_r b0), (1, gj_r b1), (2, gj_i a10081_0), (3, gj_i b3), (4, gj_i a10081_1)] [] a10081_2 := by
  unfold fb_X5_grow_l81 at hf
  dsimp only at hf
  refine gj_iload hO 4 dX5_grow_81 rfl ?_
  refine gj_aload_n hO 1 dX5_grow_83 rfl rfl ?_
  obtain ⟨x18101, hc18101, hf⟩ := gj_b hf
  refine ca_X1_countWays hO g1 hc18101 wk_160 (by decide) (by decide) (Nat.le_of_ble_eq_true rfl) dX5_grow_84 ?_
  refine gj_icmp_ge (tgt := 124) hO dX5_grow_87 (by decide) (fun h => ?_) (fun h => ?_)
  · replace hf := gj_t h hf
    obtain rfl := Option.some.inj hf
    refine gj_sub (lv2 := [(0, gj_r b0), (1, gj_r b1), (2, gj_i a10081_0), (3, gj_i b3)]) [0, 1, 2, 3] rfl ?_
    exact K
  · replace hf := gj_f h hf
    refine gj_iload_n hO 2 dX5_grow_90 rfl rfl ?_
    refine gj_aload_n hO 1 dX5_grow_91 rfl rfl ?_
    refine gt_X1_11 hO (kdP_0 g1) (klP_0 g1) wk_161 dX5_grow_92 ?_
    refine gj_iload hO 4 dX5_grow_95 rfl ?_
    obtain ⟨hb18102, hf⟩ := gj_c hf
    refine gj_iald hO (klP_7 g1) (kdP_7 g1) hb18102 dX5_grow_97 ?_
    refine gj_if_ne (tgt := 115) hO dX5_grow_98 (by decide) (fun h => ?_) (fun h => ?_)
    · replace hf := gj_f h hf
      refine gj_iconst (v := 0) hO dX5_grow_115 (by decide) ?_
      refine gj_iadd hO dX5_grow_116 ?_
      refine gj_istore_n (lv2 := [(2, gj_i (a10081_0 + (0 : Int32))), (0, gj_r b0), (1, gj_r b1), (3, gj_i b3), (4, gj_i a10081_1)]) hO dX5_grow_117 rfl (by decide) rfl ?_
      refine gj_iinc (v := (a10081_1 + 1)) (lv2 := [(4, gj_i (a10081_1 + 1)), (2, gj_i (a10081_0 + (0 : Int32))), (0, gj_r b0), (1, gj_r b1), (3, gj_i b3)]) hO 4 dX5_grow_118 rfl rfl (by decide) rfl ?_
      refine gj_goto (tgt := 81) hO dX5_grow_121 (by decide) ?_
      obtain rfl := Option.some.inj hf
      refine gj_sub (lv2 := [(0, gj_r b0), (1, gj_r b1), (2, gj_i (a10081_0 + (0 : Int32))), (3, gj_i b3), (4, gj_i (a10081_1 + 1))]) [2, 3, 1, 4, 0] rfl ?_
      exact K
    · replace hf := gj_t h hf
      refine gj_aload_n hO 0 dX5_grow_101 rfl rfl ?_
      refine gj_aload_n hO 1 dX5_grow_102 rfl rfl ?_
      refine gj_iload hO 4 dX5_grow_103 rfl ?_
      obtain ⟨⟨x18103_v, x18103_s⟩, hc18103, hf⟩ := gj_b hf
      dsimp only at hf
      refine ca_X5_hangsBy hO g0 g1 hc18103 wk_162 (by decide) (by decide) (Nat.le_of_ble_eq_true rfl) dX5_grow_105 ?_
      refine gj_if_eq (tgt := 115) hO dX5_grow_108 (by decide) (fun h => ?_) (fun h => ?_)
      · replace hf := gj_t h hf
        refine gj_iconst (v := 0) hO dX5_grow_115 (by decide) ?_
        refine gj_iadd hO dX5_grow_116 ?_
        refine gj_istore_n (lv2 := [(2, gj_i (a10081_0 + (0 : Int32))), (0, gj_r b0), (1, gj_r b1), (3, gj_i b3), (4, gj_i a10081_1)]) hO dX5_grow_117 rfl (by decide) rfl ?_
        refine gj_iinc (v := (a10081_1 + 1)) (lv2 := [(4, gj_i (a10081_1 + 1)), (2, gj_i (a10081_0 + (0 : Int32))), (0, gj_r b0), (1, gj_r b1), (3, gj_i b3)]) hO 4 dX5_grow_118 rfl rfl (by decide) rfl ?_
        refine gj_goto (tgt := 81) hO dX5_grow_121 (by decide) ?_
        obtain rfl := Option.some.inj hf
        refine gj_sub (lv2 := [(0, gj_r b0), (1, gj_r b1), (2, gj_i (a10081_0 + (0 : Int32))), (3, gj_i b3), (4, gj_i (a10081_1 + 1))]) [2, 3, 1, 4, 0] rfl ?_
        exact K
      · replace hf := gj_f h hf
        refine gj_iconst (v := 1) hO dX5_grow_111 (by decide) ?_
        refine gj_goto (tgt := 116) hO dX5_grow_112 (by decide) ?_
        refine gj_iadd hO dX5_grow_116 ?_
        refine gj_istore_n (lv2 := [(2, gj_i (a10081_0 + (1 : Int32))), (0, gj_r b0), (1, gj_r b1), (3, gj_i b3), (4, gj_i a10081_1)]) hO dX5_grow_117 rfl (by decide) rfl ?_
        refine gj_iinc (v := (a10081_1 + 1)) (lv2 := [(4, gj_i (a10081_1 + 1)), (2, gj_i (a10081_0 + (1 : Int32))), (0, gj_r b0), (1, gj_r b1), (3, gj_i b3)]) hO 4 dX5_grow_118 rfl rfl (by decide) rfl ?_
        refine gj_goto (tgt := 81) hO dX5_grow_121 (by decide) ?_
        obtain rfl := Option.some.inj hf
        refine gj_sub (lv2 := [(0, gj_r b0), (1, gj_r b1), (2, gj_i (a10081_0 + (1 : Int32))), (3, gj_i b3), (4, gj_i (a10081_1 + 1))]) [2, 3, 1, 4, 0] rfl ?_
        exact K
set_option maxHeartbeats 4000000 in
set_option maxRecDepth 100000 in
theorem sb_X5_grow_l62 {E : gj_E} {X : gj_X} {r : Option gj_V} {τ : gj_S} (hO : gj_O E X RX5 cX5_grow 5 none 2 48) {b0 : Nat} {b1 : Nat} (g0 : isT b0) (g1 : isP b1) {a10062_0 : Int32} {a10062_1 : Int32} {a10062_2 : gj_S} {x : gj_S ⊕ (Int32 × Int32 × gj_S)} (hf : fb_X5_grow_l62 b0 b1 (a10062_0, a10062_1, a10062_2) = some x) (K : gj_K (fun z2 => gj_G E X 5 r τ 130 [] [] z2) (fun a10062 => gj_G E X 5 r τ 62 [(0, gj_r b0), (1, gj_r b1), (2, gj_i a10062.1), (3, gj_i a10062.2.1)] [] a10062.2.2) x) : gj_G E X 5 r τ 62 [(0, gj_r b0), (1, gj_r b1), (2, gj_i a10062_0), (3, gj_i a10062_1)] [] a10062_2 := by
  unfold fb_X5_grow_l62 at hf
  dsimp only at hf
  refine gj_iload_n hO 3 dX5_grow_62 rfl rfl ?_
  refine gj_aload_n hO 1 dX5_grow_63 rfl rfl ?_
  refine gt_X1_0 hO (kdP_0 g1) (klP_0 g1) wk_159 dX5_grow_64 ?_
  refine gj_icmp_ge (tgt := 130) hO dX5_grow_67 (by decide) (fun h => ?_) (fun h => ?_)
  · replace hf := gj_t h hf
    obtain rfl := Option.some.inj hf
    refine gj_sub (lv2 := []) [] rfl ?_
    exact K
  · replace hf := gj_f h hf
    refine gj_iload_n hO 2 dX5_grow_70 rfl rfl ?_
    refine gj_aload_n hO 1 dX5_grow_71 rfl rfl ?_
    refine gt_X1_0 hO (kdP_0 g1) (klP_0 g1) wk_159 dX5_grow_72 ?_
    refine gj_icmp_ge (tgt := 130) hO dX5_grow_75 (by decide) (fun h => ?_) (fun h => ?_)
    · replace hf := gj_t h hf
      obtain rfl := Option.some.inj hf
      refine gj_sub (lv2 := []) [] rfl ?_
      exact K
    · replace hf := gj_f h hf
      refine gj_iconst (v := 0) hO dX5_grow_78 (by decide) ?_
      refine gj_istore (lv2 := [(4, gj_i (0 : Int32)), (0, gj_r b0), (1, gj_r b1), (2, gj_i a10062_0), (3, gj_i a10062_1)]) hO dX5_grow_79 (by decide) rfl ?_
      obtain ⟨⟨z16201_0, z16201_1⟩, hz16201, hf⟩ := gj_b hf
      dsimp only at hf
      have J16201 : gj_G E X 5 r τ 124 [(0, gj_r b0), (1, gj_r b1), (2, gj_i z16201_0), (3, gj_i a10062_1)] [] z16201_1 := by
        refine gj_iinc (v := (a10062_1 + 1)) (lv2 := [(3, gj_i (a10062_1 + 1)), (0, gj_r b0), (1, gj_r b1), (2, gj_i z16201_0)]) hO 3 dX5_grow_124 rfl rfl (by decide) rfl ?_
        refine gj_goto (tgt := 62) hO dX5_grow_127 (by decide) ?_
        obtain rfl := Option.some.inj hf
        refine gj_sub (lv2 := [(0, gj_r b0), (1, gj_r b1), (2, gj_i z16201_0), (3, gj_i (a10062_1 + 1))]) [1, 2, 3, 0] rfl ?_
        exact K
      refine gj_sub (lv2 := [(0, gj_r b0), (1, gj_r b1), (2, gj_i a10062_0), (3, gj_i a10062_1), (4, gj_i (0 : Int32))]) [1, 2, 3, 4, 0] rfl ?_
      exact gj_loop (head := fun a10081 => gj_G E X 5 r τ 81 [(0, gj_r b0), (1, gj_r b1), (2, gj_i a10081.1), (3, gj_i a10062_1), (4, gj_i a10081.2.1)] [] a10081.2.2) (exit := fun z16201 => gj_G E X 5 r τ 124 [(0, gj_r b0), (1, gj_r b1), (2, gj_i z16201.1), (3, gj_i a10062_1)] [] z16201.2) (fun a10081 x hf K => by obtain ⟨a10081_0, a10081_1, a10081_2⟩ := a10081; exact sb_X5_grow_l81 hO g0 g1 hf K) _ _ _ hz16201 J16201
set_option maxHeartbeats 4000000 in
set_option maxRecDepth 100000 in
theorem m_X5_grow {E : gj_E} {σ : gj_S} {b0 : Nat} {b1 : Nat} (g0 : isT b0) (g1 : isP b1) {x : gj_S} (hf : f_X5_grow b0 b1 σ = some x) : gj_M E yX5_grow cX5_grow 5 none 2 48 [gj_r b0, gj_r b1] σ none x := by
  refine gj_body (lv := [(0, gj_r b0), (1, gj_r b1)]) (by decide +kernel) (Nat.le_of_ble_eq_true rfl) rfl (fun X hO => ?_)
  replace hO : gj_O E X RX5 cX5_grow 5 none 2 48 := hO
  unfold f_X5_grow at hf
  refine gj_iconst (v := 0) hO dX5_grow_0 (by decide) ?_
  refine gj_istore_n (lv2 := [(2, gj_i (0 : Int32)), (0, gj_r b0), (1, gj_r b1)]) hO dX5_grow_1 rfl (by decide) rfl ?_
  obtain ⟨z1, hz1, hf⟩ := gj_b hf
  have J1 : gj_G E X 5 none x 58 [(0, gj_r b0), (1, gj_r b1)] [] z1 := by
    refine gj_iconst (v := 0) hO dX5_grow_58 (by decide) ?_
    refine gj_istore_n (lv2 := [(2, gj_i (0 : Int32)), (0, gj_r b0), (1, gj_r b1)]) hO dX5_grow_59 rfl (by decide) rfl ?_
    refine gj_iconst (v := 0) hO dX5_grow_60 (by decide) ?_
    refine gj_istore_n (lv2 := [(3, gj_i (0 : Int32)), (2, gj_i (0 : Int32)), (0, gj_r b0), (1, gj_r b1)]) hO dX5_grow_61 rfl (by decide) rfl ?_
    obtain ⟨z2, hz2, hf⟩ := gj_b hf
    have J2 : gj_G E X 5 none x 130 [] [] z2 := by
      obtain rfl := Option.some.inj hf
      exact gj_vret hO dX5_grow_130
    refine gj_sub (lv2 := [(0, gj_r b0), (1, gj_r b1), (2, gj_i (0 : Int32)), (3, gj_i (0 : Int32))]) [2, 3, 1, 0] rfl ?_
    exact gj_loop (head := fun a10062 => gj_G E X 5 none x 62 [(0, gj_r b0), (1, gj_r b1), (2, gj_i a10062.1), (3, gj_i a10062.2.1)] [] a10062.2.2) (exit := fun z2 => gj_G E X 5 none x 130 [] [] z2) (fun a10062 x hf K => by obtain ⟨a10062_0, a10062_1, a10062_2⟩ := a10062; exact sb_X5_grow_l62 hO g0 g1 hf K) _ _ _ hz2 J2
  refine gj_sub (lv2 := [(0, gj_r b0), (1, gj_r b1), (2, gj_i (0 : Int32))]) [1, 2, 0] rfl ?_
  exact gj_loop (head := fun a10002 => gj_G E X 5 none x 2 [(0, gj_r b0), (1, gj_r b1), (2, gj_i a10002.1)] [] a10002.2) (exit := fun z1 => gj_G E X 5 none x 58 [(0, gj_r b0), (1, gj_r b1)] [] z1) (fun a10002 x hf K => by obtain ⟨a10002_0, a10002_1⟩ := a10002; exact sb_X5_grow_l2 hO g0 g1 hf K) _ _ _ hz1 J1
set_option maxHeartbeats 4000000 in
set_option maxRecDepth 100000 in
theorem ca_X5_grow {E : gj_E} {X : gj_X} {own : String} {cc : ByteArray} {nL : Nat} {rt : Option FieldType} {fr lo : Nat} {ce sl : Nat} {Q : State → Prop} {pc : Nat} {lv : List (Nat × gj_V)} {st : List gj_V} {σ : gj_S} (hO : gj_O E X own cc nL rt fr lo) {b0 : Nat} {b1 : Nat} (g0 : isT b0) (g1 : isP b1) {idx : Nat} {x : gj_S} (hf : f_X5_grow b0 b1 σ = some x) (hl : Cond.methodLink own idx yX5_grow ∈ gj_gw) (hf1 : 3 ≤ fr) (hf2 : 72 ≤ lo) (hcat : ((st.map (gj_tv E.2.1)).map fun v => v.category).sum ≤ 8) (hd : decode cc pc = .ok (.invokevirtual idx, 3)) (k : gj_H E X nL ce sl Q (pc + 3) lv (st) x) : gj_H E X nL ce sl Q pc lv (gj_r b1 :: gj_r b0 :: st) σ :=
  gj_callV hO (o := b0) (vs := [gj_r b1]) (m_X5_grow g0 g1 hf) (gj_Iany (by decide)) hl wk_163 wk_164 wk_149 wk_165 (klT_0 g0) (kdT_0 g0) (by decide) (ci := 5) rfl (n := 1) (by decide +kernel) rfl hf1 hf2 rfl hcat hd k
