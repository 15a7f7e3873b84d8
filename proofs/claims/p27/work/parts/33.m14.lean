def fb_X9_strong_l11 (σ : gj_S) (a10011 : Int32) : Option (((Int32 × gj_S) ⊕ Unit) ⊕ Int32) := (if gj_in (0 : Int32) 2 then (if (σ.1 190 (Int32.toNatClampNeg (0 : Int32))) ≤ a10011 then some (.inl (.inr ())) else (if gj_in a10011 9 then (if gj_in ((50 : Int32) + (σ.1 203 (Int32.toNatClampNeg a10011))) 180 then (if (σ.1 198 (Int32.toNatClampNeg ((50 : Int32) + (σ.1 203 (Int32.toNatClampNeg a10011))))) = 0 then ((f_X9_isUpward a10011 σ).bind fun x11108 => (if x11108 = 0 then some (.inl (.inl ((0 : Int32), σ))) else (if gj_in (0 : Int32) 2 then (if (σ.1 191 (Int32.toNatClampNeg (0 : Int32))) ≤ (σ.1 203 (Int32.toNatClampNeg a10011)) then some (.inr (a10011 + 1)) else (if gj_in ((50 : Int32) + (σ.1 203 (Int32.toNatClampNeg a10011))) 180 then (if gj_in ((24 : Int32) + (σ.1 203 (Int32.toNatClampNeg a10011))) 180 then (if (σ.1 198 (Int32.toNatClampNeg ((50 : Int32) + (σ.1 203 (Int32.toNatClampNeg a10011))))) = (σ.1 198 (Int32.toNatClampNeg ((24 : Int32) + (σ.1 203 (Int32.toNatClampNeg a10011))))) then ((f_X9_isUpward a10011 σ).bind fun x11112 => (if x11112 = 0 then some (.inr (a10011 + 1)) else some (.inl (.inl ((0 : Int32), σ))))) else some (.inr (a10011 + 1))) else none) else none)) else none))) else (if gj_in (0 : Int32) 2 then (if (σ.1 191 (Int32.toNatClampNeg (0 : Int32))) ≤ (σ.1 203 (Int32.toNatClampNeg a10011)) then some (.inr (a10011 + 1)) else (if gj_in ((50 : Int32) + (σ.1 203 (Int32.toNatClampNeg a10011))) 180 then (if gj_in ((24 : Int32) + (σ.1 203 (Int32.toNatClampNeg a10011))) 180 then (if (σ.1 198 (Int32.toNatClampNeg ((50 : Int32) + (σ.1 203 (Int32.toNatClampNeg a10011))))) = (σ.1 198 (Int32.toNatClampNeg ((24 : Int32) + (σ.1 203 (Int32.toNatClampNeg a10011))))) then ((f_X9_isUpward a10011 σ).bind fun x11107 => (if x11107 = 0 then some (.inr (a10011 + 1)) else some (.inl (.inl ((0 : Int32), σ))))) else some (.inr (a10011 + 1))) else none) else none)) else none)) else none) else none)) else none)
def f_X9_strong  (σ : gj_S) : Option (Int32 × gj_S) := ((f_X9_laysTree (gj_sI σ 188 (upd (σ.1 188) 0 (0 : Int32)))).bind fun x1 => ((gj_lp (fb_X9_strong_l11 x1) 5000 (0 : Int32)).bind fun y2 => Sum.elim (fun q => some q) (fun z2 => some ((1 : Int32), x1)) y2))
set_option maxHeartbeats 4000000 in
set_option maxRecDepth 100000 in
theorem sb_X9_strong_l11 {E : gj_E} {X : gj_X} {r : Option gj_V} {τ : gj_S} (hO : gj_O E X RX9 cX9_strong 3 (some .int) 2 48) {σ : gj_S} {a10011 : Int32} {x : ((Int32 × gj_S) ⊕ Unit) ⊕ Int32} (hf : fb_X9_strong_l11 σ a10011 = some x) (K : gj_K (fun y2 => gj_K (fun q => r = (some (gj_i q.1)) ∧ τ = q.2) (fun z2 => gj_G E X 3 r τ 97 [] [] σ) y2) (fun a10011 => gj_G E X 3 r τ 11 [(0, gj_r 188), (1, gj_i a10011)] [] σ) x) : gj_G E X 3 r τ 11 [(0, gj_r 188), (1, gj_i a10011)] [] σ := by
  unfold fb_X9_strong_l11 at hf
  refine gj_iload_n hO 1 dX9_strong_11 rfl rfl ?_
  refine gj_aload_n hO 0 dX9_strong_12 rfl rfl ?_
  refine gt_X9_11 hO wk_691 dX9_strong_13 ?_
  refine gj_iconst (v := 0) hO dX9_strong_16 (by decide) ?_
  obtain ⟨hb11101, hf⟩ := gj_c hf
  refine gj_iald hO kl_190 kd_190 hb11101 dX9_strong_17 ?_
  refine gj_icmp_ge (tgt := 97) hO dX9_strong_18 (by decide) (fun h => ?_) (fun h => ?_)
  · replace hf := gj_t h hf
    obtain rfl := Option.some.inj hf
    refine gj_sub (lv2 := []) [] rfl ?_
    exact K
  · replace hf := gj_f h hf
    refine gj_aload_n hO 0 dX9_strong_21 rfl rfl ?_
    refine gt_X9_27 hO wk_762 dX9_strong_22 ?_
    refine gj_iload_n hO 1 dX9_strong_25 rfl rfl ?_
    obtain ⟨hb11102, hf⟩ := gj_c hf
    refine gj_iald hO kl_203 kd_203 hb11102 dX9_strong_26 ?_
    refine gj_istore_n (lv2 := [(2, gj_i (σ.1 203 (Int32.toNatClampNeg a10011))), (0, gj_r 188), (1, gj_i a10011)]) hO dX9_strong_27 rfl (by decide) rfl ?_
    refine gj_aload_n hO 1 dX9_strong_28 rfl rfl ?_
    refine gt_X9_21 hO wk_725 dX9_strong_29 ?_
    refine gj_bipush (v := 50) hO dX9_strong_32 (by decide) ?_
    refine gj_iload_n hO 0 dX9_strong_34 rfl rfl ?_
    refine gj_iadd hO dX9_strong_35 ?_
    obtain ⟨hb11103, hf⟩ := gj_c hf
    refine gj_iald hO kl_198 kd_198 hb11103 dX9_strong_36 ?_
    refine gj_if_ne (tgt := 50) hO dX9_strong_37 (by decide) (fun h => ?_) (fun h => ?_)
    · replace hf := gj_f h hf
      refine gj_iload_n hO 0 dX9_strong_50 rfl rfl ?_
      refine gj_aload_n hO 1 dX9_strong_51 rfl rfl ?_
      refine gt_X9_12 hO wk_693 dX9_strong_52 ?_
      refine gj_iconst (v := 0) hO dX9_strong_55 (by decide) ?_
      obtain ⟨hb11104, hf⟩ := gj_c hf
      refine gj_iald hO kl_191 kd_191 hb11104 dX9_strong_56 ?_
      refine gj_icmp_ge (tgt := 91) hO dX9_strong_57 (by decide) (fun h => ?_) (fun h => ?_)
      · replace hf := gj_t h hf
        refine gj_iinc (v := (a10011 + 1)) (lv2 := [(1, gj_i (a10011 + 1)), (2, gj_i (σ.1 203 (Int32.toNatClampNeg a10011))), (0, gj_r 188)]) hO 2 dX9_strong_91 rfl rfl (by decide) rfl ?_
        refine gj_goto (tgt := 11) hO dX9_strong_94 (by decide) ?_
        obtain rfl := Option.some.inj hf
        refine gj_sub (lv2 := [(0, gj_r 188), (1, gj_i (a10011 + 1))]) [2, 0] rfl ?_
        exact K
      · replace hf := gj_f h hf
        refine gj_aload_n hO 1 dX9_strong_60 rfl rfl ?_
        refine gt_X9_21 hO wk_725 dX9_strong_61 ?_
        refine gj_bipush (v := 50) hO dX9_strong_64 (by decide) ?_
        refine gj_iload_n hO 0 dX9_strong_66 rfl rfl ?_
        refine gj_iadd hO dX9_strong_67 ?_
        obtain ⟨hb11105, hf⟩ := gj_c hf
        refine gj_iald hO kl_198 kd_198 hb11105 dX9_strong_68 ?_
        refine gj_aload_n hO 1 dX9_strong_69 rfl rfl ?_
        refine gt_X9_21 hO wk_725 dX9_strong_70 ?_
        refine gj_bipush (v := 24) hO dX9_strong_73 (by decide) ?_
        refine gj_iload_n hO 0 dX9_strong_75 rfl rfl ?_
        refine gj_iadd hO dX9_strong_76 ?_
        obtain ⟨hb11106, hf⟩ := gj_c hf
        refine gj_iald hO kl_198 kd_198 hb11106 dX9_strong_77 ?_
        refine gj_icmp_ne (tgt := 91) hO dX9_strong_78 (by decide) (fun h => ?_) (fun h => ?_)
        · replace hf := gj_f h hf
          refine gj_iinc (v := (a10011 + 1)) (lv2 := [(1, gj_i (a10011 + 1)), (2, gj_i (σ.1 203 (Int32.toNatClampNeg a10011))), (0, gj_r 188)]) hO 2 dX9_strong_91 rfl rfl (by decide) rfl ?_
          refine gj_goto (tgt := 11) hO dX9_strong_94 (by decide) ?_
          obtain rfl := Option.some.inj hf
          refine gj_sub (lv2 := [(0, gj_r 188), (1, gj_i (a10011 + 1))]) [2, 0] rfl ?_
          exact K
        · replace hf := gj_t h hf
          refine gj_aload_n hO 1 dX9_strong_81 rfl rfl ?_
          refine gj_iload_n hO 2 dX9_strong_82 rfl rfl ?_
          obtain ⟨x11107, hc11107, hf⟩ := gj_b hf
          refine ca_X9_isUpward hO kl_188  hc11107 wk_844 (by decide) (by decide) (Nat.le_of_ble_eq_true rfl) dX9_strong_83 ?_
          refine gj_if_eq (tgt := 91) hO dX9_strong_86 (by decide) (fun h => ?_) (fun h => ?_)
          · replace hf := gj_t h hf
            refine gj_iinc (v := (a10011 + 1)) (lv2 := [(1, gj_i (a10011 + 1)), (2, gj_i (σ.1 203 (Int32.toNatClampNeg a10011))), (0, gj_r 188)]) hO 2 dX9_strong_91 rfl rfl (by decide) rfl ?_
            refine gj_goto (tgt := 11) hO dX9_strong_94 (by decide) ?_
            obtain rfl := Option.some.inj hf
            refine gj_sub (lv2 := [(0, gj_r 188), (1, gj_i (a10011 + 1))]) [2, 0] rfl ?_
            exact K
          · replace hf := gj_f h hf
            refine gj_iconst (v := 0) hO dX9_strong_89 (by decide) ?_
            obtain rfl := Option.some.inj hf
            obtain ⟨rfl, rfl⟩ := K
            exact gj_iret hO dX9_strong_90
    · replace hf := gj_t h hf
      refine gj_aload_n hO 1 dX9_strong_40 rfl rfl ?_
      refine gj_iload_n hO 2 dX9_strong_41 rfl rfl ?_
      obtain ⟨x11108, hc11108, hf⟩ := gj_b hf
      refine ca_X9_isUpward hO kl_188  hc11108 wk_844 (by decide) (by decide) (Nat.le_of_ble_eq_true rfl) dX9_strong_42 ?_
      refine gj_if_ne (tgt := 50) hO dX9_strong_45 (by decide) (fun h => ?_) (fun h => ?_)
      · replace hf := gj_f h hf
        refine gj_iload_n hO 0 dX9_strong_50 rfl rfl ?_
        refine gj_aload_n hO 1 dX9_strong_51 rfl rfl ?_
        refine gt_X9_12 hO wk_693 dX9_strong_52 ?_
        refine gj_iconst (v := 0) hO dX9_strong_55 (by decide) ?_
        obtain ⟨hb11109, hf⟩ := gj_c hf
        refine gj_iald hO kl_191 kd_191 hb11109 dX9_strong_56 ?_
        refine gj_icmp_ge (tgt := 91) hO dX9_strong_57 (by decide) (fun h => ?_) (fun h => ?_)
        · replace hf := gj_t h hf
          refine gj_iinc (v := (a10011 + 1)) (lv2 := [(1, gj_i (a10011 + 1)), (2, gj_i (σ.1 203 (Int32.toNatClampNeg a10011))), (0, gj_r 188)]) hO 2 dX9_strong_91 rfl rfl (by decide) rfl ?_
          refine gj_goto (tgt := 11) hO dX9_strong_94 (by decide) ?_
          obtain rfl := Option.some.inj hf
          refine gj_sub (lv2 := [(0, gj_r 188), (1, gj_i (a10011 + 1))]) [2, 0] rfl ?_
          exact K
        · replace hf := gj_f h hf
          refine gj_aload_n hO 1 dX9_strong_60 rfl rfl ?_
          refine gt_X9_21 hO wk_725 dX9_strong_61 ?_
          refine gj_bipush (v := 50) hO dX9_strong_64 (by decide) ?_
          refine gj_iload_n hO 0 dX9_strong_66 rfl rfl ?_
          refine gj_iadd hO dX9_strong_67 ?_
          obtain ⟨hb11110, hf⟩ := gj_c hf
          refine gj_iald hO kl_198 kd_198 hb11110 dX9_strong_68 ?_
          refine gj_aload_n hO 1 dX9_strong_69 rfl rfl ?_
          refine gt_X9_21 hO wk_725 dX9_strong_70 ?_
          refine gj_bipush (v := 24) hO dX9_strong_73 (by decide) ?_
          refine gj_iload_n hO 0 dX9_strong_75 rfl rfl ?_
          refine gj_iadd hO dX9_strong_76 ?_
          obtain ⟨hb11111, hf⟩ := gj_c hf
          refine gj_iald hO kl_198 kd_198 hb11111 dX9_strong_77 ?_
          refine gj_icmp_ne (tgt := 91) hO dX9_strong_78 (by decide) (fun h => ?_) (fun h => ?_)
          · replace hf := gj_f h hf
            refine gj_iinc (v := (a10011 + 1)) (lv2 := [(1, gj_i (a10011 + 1)), (2, gj_i (σ.1 203 (Int32.toNatClampNeg a10011))), (0, gj_r 188)]) hO 2 dX9_strong_91 rfl rfl (by decide) rfl ?_
            refine gj_goto (tgt := 11) hO dX9_strong_94 (by decide) ?_
            obtain rfl := Option.some.inj hf
            refine gj_sub (lv2 := [(0, gj_r 188), (1, gj_i (a10011 + 1))]) [2, 0] rfl ?_
            exact K
          · replace hf := gj_t h hf
            refine gj_aload_n hO 1 dX9_strong_81 rfl rfl ?_
            refine gj_iload_n hO 2 dX9_strong_82 rfl rfl ?_
            obtain ⟨x11112, hc11112, hf⟩ := gj_b hf
            refine ca_X9_isUpward hO kl_188  hc11112 wk_844 (by decide) (by decide) (Nat.le_of_ble_eq_true rfl) dX9_strong_83 ?_
            refine gj_if_eq (tgt := 91) hO dX9_strong_86 (by decide) (fun h => ?_) (fun h => ?_)
            · replace hf := gj_t h hf
              refine gj_iinc (v := (a10011 + 1)) (lv2 := [(1, gj_i (a10011 + 1)), (2, gj_i (σ.1 203 (Int32.toNatClampNeg a10011))), (0, gj_r 188)]) hO 2 dX9_strong_91 rfl rfl (by decide) rfl ?_
              refine gj_goto (tgt := 11) hO dX9_strong_94 (by decide) ?_
              obtain rfl := Option.some.inj hf
              refine gj_sub (lv2 := [(0, gj_r 188), (1, gj_i (a10011 + 1))]) [2, 0] rfl ?_
              exact K
            · replace hf := gj_f h hf
              refine gj_iconst (v := 0) hO dX9_strong_89 (by decide) ?_
              obtain rfl := Option.some.inj hf
              obtain ⟨rfl, rfl⟩ := K
              exact gj_iret hO dX9_strong_90
      · replace hf := gj_t h hf
        refine gj_iconst (v := 0) hO dX9_strong_48 (by decide) ?_
        obtain rfl := Option.some.inj hf
        obtain ⟨rfl, rfl⟩ := K
        exact gj_iret hO dX9_strong_49
set_option maxHeartbeats 4000000 in
set_option maxRecDepth 100000 in
theorem m_X9_strong {E : gj_E} {σ : gj_S}   {x : Int32} {y : gj_S} (hf : f_X9_strong  σ = some (x, y)) : gj_M E yX9_strong cX9_strong 3 (some .int) 2 48 [gj_r 188] σ (some (gj_i x)) y := by
  refine gj_body (lv := [(0, gj_r 188)]) (by decide +kernel) (Nat.le_of_ble_eq_true rfl) rfl (fun X hO => ?_)
  replace hO : gj_O E X RX9 cX9_strong 3 (some .int) 2 48 := hO
  unfold f_X9_strong at hf
  refine gj_aload_n hO 0 dX9_strong_0 rfl rfl ?_
  refine gj_iconst (v := 0) hO dX9_strong_1 (by decide) ?_
  refine pt_X9_0 hO wk_636 dX9_strong_2 ?_
  refine gj_aload_n hO 0 dX9_strong_5 rfl rfl ?_
  obtain ⟨x1, hc1, hf⟩ := gj_b hf
  refine ca_X9_laysTree hO kl_188  hc1 wk_792 (by decide) (by decide) (Nat.le_of_ble_eq_true rfl) dX9_strong_6 ?_
  refine gj_iconst (v := 0) hO dX9_strong_9 (by decide) ?_
  refine gj_istore_n (lv2 := [(1, gj_i (0 : Int32)), (0, gj_r 188)]) hO dX9_strong_10 rfl (by decide) rfl ?_
  obtain ⟨y2, hz2, hf⟩ := gj_b hf
  have J2 : (fun y2 => gj_K (fun q => (some (gj_i x)) = (some (gj_i q.1)) ∧ y = q.2) (fun z2 => gj_G E X 3 (some (gj_i x)) y 97 [] [] x1) y2) y2 := by
    rcases y2 with q | z2
    · have hf : some q = some (x, y) := hf
      obtain rfl := Option.some.inj hf
      exact ⟨rfl, rfl⟩
    · dsimp only [Sum.elim] at hf
      refine gj_iconst (v := 1) hO dX9_strong_97 (by decide) ?_
      replace hf := Option.some.inj hf
      simp only [Prod.mk.injEq] at hf
      obtain ⟨rfl, rfl⟩ := hf
      exact gj_iret hO dX9_strong_98
  refine gj_sub (lv2 := [(0, gj_r 188), (1, gj_i (0 : Int32))]) [1, 0] rfl ?_
  exact gj_loop (head := fun a10011 => gj_G E X 3 (some (gj_i x)) y 11 [(0, gj_r 188), (1, gj_i a10011)] [] x1) (exit := fun y2 => gj_K (fun q => (some (gj_i x)) = (some (gj_i q.1)) ∧ y = q.2) (fun z2 => gj_G E X 3 (some (gj_i x)) y 97 [] [] x1) y2) (fun a10011 x hf K => sb_X9_strong_l11 hO hf K) _ _ _ hz2 J2
set_option maxHeartbeats 4000000 in
set_option maxRecDepth 100000 in
theorem ca_X9_strong {E : gj_E} {X : gj_X} {own : String} {cc : ByteArray} {nL : Nat} {rt : Option FieldType} {fr lo : Nat} {ce sl : Nat} {Q : State → Prop} {pc : Nat} {lv : List (Nat × gj_V)} {st : List gj_V} {σ : gj_S} (hO : gj_O E X own cc nL rt fr lo) (hw : gj_lt own 188)   {idx : Nat} {x : Int32} {y : gj_S} (hf : f_X9_strong  σ = some (x, y)) (hl : Cond.methodLink own idx yX9_strong ∈ gj_gw) (hf1 : 3 ≤ fr) (hf2 : 70 ≤ lo) (hcat : ((st.map (gj_tv E.2.1)).map fun v => v.category).sum ≤ 8) (hd : decode cc pc = .ok (.invokevirtual idx, 3)) (k : gj_H E X nL ce sl Q (pc + 3) lv ((gj_i x) :: st) y) : gj_H E X nL ce sl Q pc lv (gj_r 188 :: st) σ :=
  gj_callV hO (o := 188) (vs := []) (m_X9_strong  hf) (gj_I9 hw) hl wk_866 wk_867 wk_629 wk_868 hw kd_188 (by decide) (ci := 9) rfl (n := 0) (by decide +kernel) rfl hf1 hf2 rfl hcat hd k
def fb_X9_moved_l4 (σ : gj_S) (a10004 : (Int32 × Int32)) : Option (Int32 ⊕ (Int32 × Int32)) := (if gj_in (0 : Int32) 2 then (if (σ.1 190 (Int32.toNatClampNeg (0 : Int32))) ≤ a10004.2 then some (.inl a10004.1) else (if gj_in a10004.2 9 then (if gj_in a10004.2 9 then (if (σ.1 205 (Int32.toNatClampNeg a10004.2)) = (σ.1 208 (Int32.toNatClampNeg a10004.2)) then some (.inr ((a10004.1 + (0 : Int32)), (a10004.2 + 1))) else some (.inr ((a10004.1 + (1 : Int32)), (a10004.2 + 1)))) else none) else none)) else none)
def f_X9_moved  (σ : gj_S) : Option Int32 := ((gj_lp (fb_X9_moved_l4 σ) 5000 ((0 : Int32), (0 : Int32))).bind fun z1 => some z1)
set_option maxHeartbeats 4000000 in
set_option maxRecDepth 100000 in
theorem sb_X9_moved_l4 {E : gj_E} {X : gj_X} {r : Option gj_V} {τ : gj_S} (hO : gj_O E X RX9 cX9_moved 3 (some .int) 0 0) {σ : gj_S} {a10004_0 : Int32} {a10004_1 : Int32} {x : Int32 ⊕ (Int32 × Int32)} (hf : fb_X9_moved_l4 σ (a10004_0, a10004_1) = some x) (K : gj_K (fun z1 => gj_G E X 3 r τ 43 [(1, gj_i z1)] [] σ) (fun a10004 => gj_G E X 3 r τ 4 [(0, gj_r 188), (1, gj_i a10004.1), (2, gj_i a10004.2)] [] σ) x) : gj_G E X 3 r τ 4 [(0, gj_r 188), (1, gj_i a10004_0), (2, gj_i a10004_1)] [] σ := by
  unfold fb_X9_moved_l4 at hf
  dsimp only at hf
  refine gj_iload_n hO 2 dX9_moved_4 rfl rfl ?_
  refine gj_aload_n hO 0 dX9_moved_5 rfl rfl ?_
  refine gt_X9_11 hO wk_691 dX9_moved_6 ?_
  refine gj_iconst (v := 0) hO dX9_moved_9 (by decide) ?_
  obtain ⟨hb10401, hf⟩ := gj_c hf
  refine gj_iald hO kl_190 kd_190 hb10401 dX9_moved_10 ?_
  refine gj_icmp_ge (tgt := 43) hO dX9_moved_11 (by decide) (fun h => ?_) (fun h => ?_)
  · replace hf := gj_t h hf
    obtain rfl := Option.some.inj hf
    refine gj_sub (lv2 := [(1, gj_i a10004_0)]) [1] rfl ?_
    exact K
  · replace hf := gj_f h hf
    refine gj_iload_n hO 1 dX9_moved_14 rfl rfl ?_
    refine gj_aload_n hO 0 dX9_moved_15 rfl rfl ?_
    refine gt_X9_29 hO wk_764 dX9_moved_16 ?_
    refine gj_iload_n hO 2 dX9_moved_19 rfl rfl ?_
    obtain ⟨hb10402, hf⟩ := gj_c hf
    refine gj_iald hO kl_205 kd_205 hb10402 dX9_moved_20 ?_
    refine gj_aload_n hO 0 dX9_moved_21 rfl rfl ?_
    refine gt_X9_37 hO wk_869 dX9_moved_22 ?_
    refine gj_iload_n hO 2 dX9_moved_25 rfl rfl ?_
    obtain ⟨hb10403, hf⟩ := gj_c hf
    refine gj_iald hO kl_208 kd_208 hb10403 dX9_moved_26 ?_
    refine gj_icmp_eq (tgt := 34) hO dX9_moved_27 (by decide) (fun h => ?_) (fun h => ?_)
    · replace hf := gj_t h hf
      refine gj_iconst (v := 0) hO dX9_moved_34 (by decide) ?_
      refine gj_iadd hO dX9_moved_35 ?_
      refine gj_istore_n (lv2 := [(1, gj_i (a10004_0 + (0 : Int32))), (0, gj_r 188), (2, gj_i a10004_1)]) hO dX9_moved_36 rfl (by decide) rfl ?_
      refine gj_iinc (v := (a10004_1 + 1)) (lv2 := [(2, gj_i (a10004_1 + 1)), (1, gj_i (a10004_0 + (0 : Int32))), (0, gj_r 188)]) hO 2 dX9_moved_37 rfl rfl (by decide) rfl ?_
      refine gj_goto (tgt := 4) hO dX9_moved_40 (by decide) ?_
      obtain rfl := Option.some.inj hf
      refine gj_sub (lv2 := [(0, gj_r 188), (1, gj_i (a10004_0 + (0 : Int32))), (2, gj_i (a10004_1 + 1))]) [2, 1, 0] rfl ?_
      exact K
    · replace hf := gj_f h hf
      refine gj_iconst (v := 1) hO dX9_moved_30 (by decide) ?_
      refine gj_goto (tgt := 35) hO dX9_moved_31 (by decide) ?_
      refine gj_iadd hO dX9_moved_35 ?_
      refine gj_istore_n (lv2 := [(1, gj_i (a10004_0 + (1 : Int32))), (0, gj_r 188), (2, gj_i a10004_1)]) hO dX9_moved_36 rfl (by decide) rfl ?_
      refine gj_iinc (v := (a10004_1 + 1)) (lv2 := [(2, gj_i (a10004_1 + 1)), (1, gj_i (a10004_0 + (1 : Int32))), (0, gj_r 188)]) hO 2 dX9_moved_37 rfl rfl (by decide) rfl ?_
      refine gj_goto (tgt := 4) hO dX9_moved_40 (by decide) ?_
      obtain rfl := Option.some.inj hf
      refine gj_sub (lv2 := [(0, gj_r 188), (1, gj_i (a10004_0 + (1 : Int32))), (2, gj_i (a10004_1 + 1))]) [2, 1, 0] rfl ?_
      exact K
set_option maxHeartbeats 4000000 in
set_option maxRecDepth 100000 in
theorem m_X9_moved {E : gj_E} {σ : gj_S}   {x : Int32} (hf : f_X9_moved  σ = some x) : gj_M E yX9_moved cX9_moved 3 (some .int) 0 0 [gj_r 188] σ (some (gj_i x)) σ := by
  refine gj_body (lv := [(0, gj_r 188)]) (by decide +kernel) (Nat.le_of_ble_eq_true rfl) rfl (fun X hO => ?_)
  replace hO : gj_O E X RX9 cX9_moved 3 (some .int) 0 0 := hO
  unfold f_X9_moved at hf
  refine gj_iconst (v := 0) hO dX9_moved_0 (by decide) ?_
  refine gj_istore_n (lv2 := [(1, gj_i (0 : Int32)), (0, gj_r 188)]) hO dX9_moved_1 rfl (by decide) rfl ?_
  refine gj_iconst (v := 0) hO dX9_moved_2 (by decide) ?_
  refine gj_istore_n (lv2 := [(2, gj_i (0 : Int32)), (1, gj_i (0 : Int32)), (0, gj_r 188)]) hO dX9_moved_3 rfl (by decide) rfl ?_
  obtain ⟨z1, hz1, hf⟩ := gj_b hf
  have J1 : gj_G E X 3 (some (gj_i x)) σ 43 [(1, gj_i z1)] [] σ := by
    refine gj_iload_n hO 0 dX9_moved_43 rfl rfl ?_
    obtain rfl := Option.some.inj hf
    exact gj_iret hO dX9_moved_44
  refine gj_sub (lv2 := [(0, gj_r 188), (1, gj_i (0 : Int32)), (2, gj_i (0 : Int32))]) [2, 1, 0] rfl ?_
  exact gj_loop (head := fun a10004 => gj_G E X 3 (some (gj_i x)) σ 4 [(0, gj_r 188), (1, gj_i a10004.1), (2, gj_i a10004.2)] [] σ) (exit := fun z1 => gj_G E X 3 (some (gj_i x)) σ 43 [(1, gj_i z1)] [] σ) (fun a10004 x hf K => by obtain ⟨a10004_0, a10004_1⟩ := a10004; exact sb_X9_moved_l4 hO hf K) _ _ _ hz1 J1
set_option maxHeartbeats 4000000 in
set_option maxRecDepth 100000 in
theorem ca_X9_moved {E : gj_E} {X : gj_X} {own : String} {cc : ByteArray} {nL : Nat} {rt : Option FieldType} {fr lo : Nat} {ce sl : Nat} {Q : State → Prop} {pc : Nat} {lv : List (Nat × gj_V)} {st : List gj_V} {σ : gj_S} (hO : gj_O E X own cc nL rt fr lo) (hw : gj_lt own 188)   {idx : Nat} {x : Int32} (hf : f_X9_moved  σ = some x) (hl : Cond.methodLink own idx yX9_moved ∈ gj_gw) (hf1 : 1 ≤ fr) (hf2 : 22 ≤ lo) (hcat : ((st.map (gj_tv E.2.1)).map fun v => v.category).sum ≤ 8) (hd : decode cc pc = .ok (.invokevirtual idx, 3)) (k : gj_H E X nL ce sl Q (pc + 3) lv ((gj_i x) :: st) σ) : gj_H E X nL ce sl Q pc lv (gj_r 188 :: st) σ :=
  gj_callV hO (o := 188) (vs := []) (m_X9_moved  hf) (gj_I9 hw) hl wk_870 wk_871 wk_629 wk_872 hw kd_188 (by decide) (ci := 9) rfl (n := 0) (by decide +kernel) rfl hf1 hf2 rfl hcat hd k
def fb_X9_logs_l5 (b1 : Int32) (b2 : Int32) (b3 : Int32) (b4 : Int32) (b5 : Int32) (a10005 : (Int32 × gj_S)) : Option (gj_S ⊕ (Int32 × gj_S)) := (if a10005.1 < (105 : Int32) then some (.inl a10005.2) else (if gj_in (a10005.1 - (5 : Int32)) 180 then (if gj_in a10005.1 180 then some (.inr ((a10005.1 + (-1)), (gj_sI a10005.2 198 (upd (a10005.2.1 198) (Int32.toNatClampNeg a10005.1) (a10005.2.1 198 (Int32.toNatClampNeg (a10005.1 - (5 : Int32)))))))) else none) else none))
def f_X9_logs (b1 : Int32) (b2 : Int32) (b3 : Int32) (b4 : Int32) (b5 : Int32) (σ : gj_S) : Option gj_S := ((gj_lp (fb_X9_logs_l5 b1 b2 b3 b4 b5) 5000 ((179 : Int32), σ)).bind fun z1 => (if gj_in (100 : Int32) 180 then (if gj_in (101 : Int32) 180 then ((some (gj_sI (gj_sI z1 198 (upd (z1.1 198) (Int32.toNatClampNeg (100 : Int32)) b1)) 198 (upd ((gj_sI z1 198 (upd (z1.1 198) (Int32.toNatClampNeg (100 : Int32)) b1)).1 198) (Int32.toNatClampNeg (101 : Int32)) b2))).bind fun s4 => (if gj_in (102 : Int32) 180 then (if gj_in (103 : Int32) 180 then ((some (gj_sI (gj_sI s4 198 (upd (s4.1 198) (Int32.toNatClampNeg (102 : Int32)) b3)) 198 (upd ((gj_sI s4 198 (upd (s4.1 198) (Int32.toNatClampNeg (102 : Int32)) b3)).1 198) (Int32.toNatClampNeg (103 : Int32)) b4))).bind fun s7 => (if gj_in (104 : Int32) 180 then (if gj_in (99 : Int32) 180 then ((if (16 : Int32) ≤ ((gj_sI s7 198 (upd (s7.1 198) (Int32.toNatClampNeg (104 : Int32)) b5)).1 198 (Int32.toNatClampNeg (99 : Int32))) then some (gj_sI s7 198 (upd (s7.1 198) (Int32.toNatClampNeg (104 : Int32)) b5)) else (if gj_in (99 : Int32) 180 then (if gj_in (99 : Int32) 180 then ((some (gj_sI (gj_sI s7 198 (upd (s7.1 198) (Int32.toNatClampNeg (104 : Int32)) b5)) 198 (upd ((gj_sI s7 198 (upd (s7.1 198) (Int32.toNatClampNeg (104 : Int32)) b5)).1 198) (Int32.toNatClampNeg (99 : Int32)) (((gj_sI s7 198 (upd (s7.1 198) (Int32.toNatClampNeg (104 : Int32)) b5)).1 198 (Int32.toNatClampNeg (99 : Int32))) + (1 : Int32))))).bind fun s13 => some s13) else none) else none) : Option gj_S).bind fun z10 => (if gj_in (98 : Int32) 180 then (if gj_in (98 : Int32) 180 then some (gj_sI z10 198 (upd (z10.1 198) (Int32.toNatClampNeg (98 : Int32)) ((z10.1 198 (Int32.toNatClampNeg (98 : Int32))) + (1 : Int32)))) else none) else none)) else none) else none)) else none) else none)) else none) else none))
set_option maxHeartbeats 4000000 in
set_option maxRecDepth 100000 in
theorem sb_X9_logs_l5 {E : gj_E} {X : gj_X} {r : Option gj_V} {τ : gj_S} (hO : gj_O E X RX9 cX9_logs 7 none 0 0) {b1 : Int32} {b2 : Int32} {b3 : Int32} {b4 : Int32} {b5 : Int32} {a10005_0 : Int32} {a10005_1 : gj_S} {x : gj_S ⊕ (Int32 × gj_S)} (hf : fb_X9_logs_l5 b1 b2 b3 b4 b5 (a10005_0, a10005_1) = some x) (K : gj_K (fun z1 => gj_G E X 7 r τ 34 [(0, gj_r 188), (1, gj_i b1), (2, gj_i b2), (3, gj_i b3), (4, gj_i b4), (5, gj_i b5)] [] z1) (fun a10005 => gj_G E X 7 r τ 5 [(0, gj_r 188), (1, gj_i b1), (2, gj_i b2), (3, gj_i b3), (4, gj_i b4), (5, gj_i b5), (6, gj_i a10005.1)] [] a10005.2) x) : gj_G E X 7 r τ 5 [(0, gj_r 188), (1, gj_i b1), (2, gj_i b2), (3, gj_i b3), (4, gj_i b4), (5, gj_i b5), (6, gj_i a10005_0)] [] a10005_1 := by
  unfold fb_X9_logs_l5 at hf
  dsimp only at hf
  refine gj_iload hO 6 dX9_logs_5 rfl ?_
  refine gj_bipush (v := 105) hO dX9_logs_7 (by decide) ?_
  refine gj_icmp_lt (tgt := 34) hO dX9_logs_9 (by decide) (fun h => ?_) (fun h => ?_)
  · replace hf := gj_t h hf
    obtain rfl := Option.some.inj hf
    refine gj_sub (lv2 := [(0, gj_r 188), (1, gj_i b1), (2, gj_i b2), (3, gj_i b3), (4, gj_i b4), (5, gj_i b5)]) [0, 1, 2, 3, 4, 5] rfl ?_
    exact K
  · replace hf := gj_f h hf
    refine gj_aload_n hO 0 dX9_logs_12 rfl rfl ?_
    refine gt_X9_21 hO wk_725 dX9_logs_13 ?_
    refine gj_iload hO 6 dX9_logs_16 rfl ?_
    refine gj_aload_n hO 0 dX9_logs_18 rfl rfl ?_
    refine gt_X9_21 hO wk_725 dX9_logs_19 ?_
    refine gj_iload hO 6 dX9_logs_22 rfl ?_
    refine gj_iconst (v := 5) hO dX9_logs_24 (by decide) ?_
    refine gj_isub hO dX9_logs_25 ?_
    obtain ⟨hb10501, hf⟩ := gj_c hf
    refine gj_iald hO kl_198 kd_198 hb10501 dX9_logs_26 ?_
    obtain ⟨hb10502, hf⟩ := gj_c hf
    refine gj_iast hO kl_198 kd_198 hb10502 dX9_logs_27 ?_
    refine gj_iinc (v := (a10005_0 + (-1))) (lv2 := [(6, gj_i (a10005_0 + (-1))), (0, gj_r 188), (1, gj_i b1), (2, gj_i b2), (3, gj_i b3), (4, gj_i b4), (5, gj_i b5)]) hO 6 dX9_logs_28 rfl rfl (by decide) rfl ?_
    refine gj_goto (tgt := 5) hO dX9_logs_31 (by decide) ?_
    obtain rfl := Option.some.inj hf
    refine gj_sub (lv2 := [(0, gj_r 188), (1, gj_i b1), (2, gj_i b2), (3, gj_i b3), (4, gj_i b4), (5, gj_i b5), (6, gj_i (a10005_0 + (-1)))]) [1, 2, 3, 4, 5, 6, 0] rfl ?_
    exact K
set_option maxHeartbeats 4000000 in
set_option maxRecDepth 100000 in
theorem m_X9_logs {E : gj_E} {σ : gj_S} {b1 : Int32} {b2 : Int32} {b3 : Int32} {b4 : Int32} {b5 : Int32}  {x : gj_S} (hf : f_X9_logs b1 b2 b3 b4 b5 σ = some x) : gj_M E yX9_logs cX9_logs 7 none 0 0 [gj_r 188, gj_i b1, gj_i b2, gj_i b3, gj_i b4, gj_i b5] σ none x := by
  refine gj_body (lv := [(0, gj_r 188), (1, gj_i b1), (2, gj_i b2), (3, gj_i b3), (4, gj_i b4), (5, gj_i b5)]) (by decide +kernel) (Nat.le_of_ble_eq_true rfl) rfl (fun X hO => ?_)
  replace hO : gj_O E X RX9 cX9_logs 7 none 0 0 := hO
  unfold f_X9_logs at hf
  refine gj_sipush (v := 179) hO dX9_logs_0 (by decide) ?_
  refine gj_istore (lv2 := [(6, gj_i (179 : Int32)), (0, gj_r 188), (1, gj_i b1), (2, gj_i b2), (3, gj_i b3), (4, gj_i b4), (5, gj_i b5)]) hO dX9_logs_3 (by decide) rfl ?_
  obtain ⟨z1, hz1, hf⟩ := gj_b hf
  have J1 : gj_G E X 7 none x 34 [(0, gj_r 188), (1, gj_i b1), (2, gj_i b2), (3, gj_i b3), (4, gj_i b4), (5, gj_i b5)] [] z1 := by
    refine gj_aload_n hO 0 dX9_logs_34 rfl rfl ?_
    refine gt_X9_21 hO wk_725 dX9_logs_35 ?_
    refine gj_bipush (v := 100) hO dX9_logs_38 (by decide) ?_
    refine gj_iload_n hO 1 dX9_logs_40 rfl rfl ?_
    obtain ⟨hb2, hf⟩ := gj_c hf
    refine gj_iast hO kl_198 kd_198 hb2 dX9_logs_41 ?_
    refine gj_aload_n hO 0 dX9_logs_42 rfl rfl ?_
    refine gt_X9_21 hO wk_725 dX9_logs_43 ?_
    refine gj_bipush (v := 101) hO dX9_logs_46 (by decide) ?_
    refine gj_iload_n hO 2 dX9_logs_48 rfl rfl ?_
    obtain ⟨hb3, hf⟩ := gj_c hf
    refine gj_iast hO kl_198 kd_198 hb3 dX9_logs_49 ?_
    obtain ⟨s4, e4, hf⟩ := gj_b hf
    refine gj_eqS (Option.some.inj e4) ?_
    refine gj_aload_n hO 0 dX9_logs_50 rfl rfl ?_
    refine gt_X9_21 hO wk_725 dX9_logs_51 ?_
    refine gj_bipush (v := 102) hO dX9_logs_54 (by decide) ?_
    refine gj_iload_n hO 3 dX9_logs_56 rfl rfl ?_
    obtain ⟨hb5, hf⟩ := gj_c hf
    refine gj_iast hO kl_198 kd_198 hb5 dX9_logs_57 ?_
    refine gj_aload_n hO 0 dX9_logs_58 rfl rfl ?_
    refine gt_X9_21 hO wk_725 dX9_logs_59 ?_
    refine gj_bipush (v := 103) hO dX9_logs_62 (by decide) ?_
    refine gj_iload hO 4 dX9_logs_64 rfl ?_
    obtain ⟨hb6, hf⟩ := gj_c hf
    refine gj_iast hO kl_198 kd_198 hb6 dX9_logs_66 ?_
    obtain ⟨s7, e7, hf⟩ := gj_b hf
    refine gj_eqS (Option.some.inj e7) ?_
    refine gj_aload_n hO 0 dX9_logs_67 rfl rfl ?_
    refine gt_X9_21 hO wk_725 dX9_logs_68 ?_
    refine gj_bipush (v := 104) hO dX9_logs_71 (by decide) ?_
    refine gj_iload hO 5 dX9_logs_73 rfl ?_
    obtain ⟨hb8, hf⟩ := gj_c hf
    refine gj_iast hO kl_198 kd_198 hb8 dX9_logs_75 ?_
    refine gj_aload_n hO 0 dX9_logs_76 rfl rfl ?_
    refine gt_X9_21 hO wk_725 dX9_logs_77 ?_
    refine gj_bipush (v := 99) hO dX9_logs_80 (by decide) ?_
    obtain ⟨hb9, hf⟩ := gj_c hf
    refine gj_iald hO kl_198 kd_198 hb9 dX9_logs_82 ?_
    refine gj_bipush (v := 16) hO dX9_logs_83 (by decide) ?_
    obtain ⟨z10, hz10, hf⟩ := gj_b hf
    have J10 : gj_G E X 7 none x 99 [(0, gj_r 188)] [] z10 := by
      refine gj_aload_n hO 0 dX9_logs_99 rfl rfl ?_
      refine gt_X9_21 hO wk_725 dX9_logs_100 ?_
      refine gj_bipush (v := 98) hO dX9_logs_103 (by decide) ?_
      refine gj_dup2 hO dX9_logs_105 trivial trivial ?_
      obtain ⟨hb14, hf⟩ := gj_c hf
      refine gj_iald hO kl_198 kd_198 hb14 dX9_logs_106 ?_
      refine gj_iconst (v := 1) hO dX9_logs_107 (by decide) ?_
      refine gj_iadd hO dX9_logs_108 ?_
      obtain ⟨hb15, hf⟩ := gj_c hf
      refine gj_iast hO kl_198 kd_198 hb15 dX9_logs_109 ?_
      obtain rfl := Option.some.inj hf
      exact gj_vret hO dX9_logs_110
    refine gj_icmp_ge (tgt := 99) hO dX9_logs_85 (by decide) (fun h => ?_) (fun h => ?_)
    · replace hz10 := gj_t h hz10
      obtain rfl := Option.some.inj hz10
      refine gj_sub (lv2 := [(0, gj_r 188)]) [0] rfl ?_
      exact J10
    · replace hz10 := gj_f h hz10
      refine gj_aload_n hO 0 dX9_logs_88 rfl rfl ?_
      refine gt_X9_21 hO wk_725 dX9_logs_89 ?_
      refine gj_bipush (v := 99) hO dX9_logs_92 (by decide) ?_
      refine gj_dup2 hO dX9_logs_94 trivial trivial ?_
      obtain ⟨hb11, hz10⟩ := gj_c hz10
      refine gj_iald hO kl_198 kd_198 hb11 dX9_logs_95 ?_
      refine gj_iconst (v := 1) hO dX9_logs_96 (by decide) ?_
      refine gj_iadd hO dX9_logs_97 ?_
      obtain ⟨hb12, hz10⟩ := gj_c hz10
      refine gj_iast hO kl_198 kd_198 hb12 dX9_logs_98 ?_
      obtain ⟨s13, e13, hz10⟩ := gj_b hz10
      refine gj_eqS (Option.some.inj e13) ?_
      obtain rfl := Option.some.inj hz10
      refine gj_sub (lv2 := [(0, gj_r 188)]) [0] rfl ?_
      exact J10
  refine gj_sub (lv2 := [(0, gj_r 188), (1, gj_i b1), (2, gj_i b2), (3, gj_i b3), (4, gj_i b4), (5, gj_i b5), (6, gj_i (179 : Int32))]) [1, 2, 3, 4, 5, 6, 0] rfl ?_
  exact gj_loop (head := fun a10005 => gj_G E X 7 none x 5 [(0, gj_r 188), (1, gj_i b1), (2, gj_i b2), (3, gj_i b3), (4, gj_i b4), (5, gj_i b5), (6, gj_i a10005.1)] [] a10005.2) (exit := fun z1 => gj_G E X 7 none x 34 [(0, gj_r 188), (1, gj_i b1), (2, gj_i b2), (3, gj_i b3), (4, gj_i b4), (5, gj_i b5)] [] z1) (fun a10005 x hf K => by obtain ⟨a10005_0, a10005_1⟩ := a10005; exact sb_X9_logs_l5 hO hf K) _ _ _ hz1 J1
set_option maxHeartbeats 4000000 in
set_option maxRecDepth 100000 in
theorem ca_X9_logs {E : gj_E} {X : gj_X} {own : String} {cc : ByteArray} {nL : Nat} {rt : Option FieldType} {fr lo : Nat} {ce sl : Nat} {Q : State → Prop} {pc : Nat} {lv : List (Nat × gj_V)} {st : List gj_V} {σ : gj_S} (hO : gj_O E X own cc nL rt fr lo) (hw : gj_lt own 188) {b1 : Int32} {b2 : Int32} {b3 : Int32} {b4 : Int32} {b5 : Int32}  {idx : Nat} {x : gj_S} (hf : f_X9_logs b1 b2 b3 b4 b5 σ = some x) (hl : Cond.methodLink own idx yX9_logs ∈ gj_gw) (hf1 : 1 ≤ fr) (hf2 : 26 ≤ lo) (hcat : ((st.map (gj_tv E.2.1)).map fun v => v.category).sum ≤ 8) (hd : decode cc pc = .ok (.invokevirtual idx, 3)) (k : gj_H E X nL ce sl Q (pc + 3) lv (st) x) : gj_H E X nL ce sl Q pc lv (gj_i b5 :: gj_i b4 :: gj_i b3 :: gj_i b2 :: gj_i b1 :: gj_r 188 :: st) σ :=
  gj_callV hO (o := 188) (vs := [gj_i b1, gj_i b2, gj_i b3, gj_i b4, gj_i b5]) (m_X9_logs  hf) (gj_I9 hw) hl wk_873 wk_874 wk_629 wk_875 hw kd_188 (by decide) (ci := 9) rfl (n := 5) (by decide +kernel) rfl hf1 hf2 rfl hcat hd k
def fb_X9_pivot_l34 (b1 : Int32) (a10034 : (Int32 × gj_S)) : Option (gj_S ⊕ (Int32 × gj_S)) := (if (a10034.2.1 188 33) ≤ a10034.1 then some (.inl a10034.2) else (if gj_in a10034.1 24 then (if gj_in ((50 : Int32) + (a10034.2.1 206 (Int32.toNatClampNeg a10034.1))) 180 then (if gj_in a10034.1 24 then (if (a10034.2.1 207 (Int32.toNatClampNeg a10034.1)) = 0 then (if gj_in ((50 : Int32) + (a10034.2.1 206 (Int32.toNatClampNeg a10034.1))) 180 then ((some (gj_sI a10034.2 198 (upd (a10034.2.1 198) (Int32.toNatClampNeg ((50 : Int32) + (a10034.2.1 206 (Int32.toNatClampNeg a10034.1)))) ((a10034.2.1 198 (Int32.toNatClampNeg ((50 : Int32) + (a10034.2.1 206 (Int32.toNatClampNeg a10034.1))))) + (0 - (a10034.2.1 188 35)))))).bind fun s13405 => some (.inr ((a10034.1 + 1), s13405))) else none) else (if gj_in ((50 : Int32) + (a10034.2.1 206 (Int32.toNatClampNeg a10034.1))) 180 then ((some (gj_sI a10034.2 198 (upd (a10034.2.1 198) (Int32.toNatClampNeg ((50 : Int32) + (a10034.2.1 206 (Int32.toNatClampNeg a10034.1)))) ((a10034.2.1 198 (Int32.toNatClampNeg ((50 : Int32) + (a10034.2.1 206 (Int32.toNatClampNeg a10034.1))))) + (a10034.2.1 188 35))))).bind fun s13407 => some (.inr ((a10034.1 + 1), s13407))) else none)) else none) else none) else none))
def fb_X9_pivot_l98 (b1 : Int32) (b2 : Int32) (a10098 : (Int32 × gj_S)) : Option (gj_S ⊕ (Int32 × gj_S)) := (if (9 : Int32) ≤ a10098.1 then some (.inl a10098.2) else (if gj_in a10098.1 9 then (if gj_in a10098.1 9 then some (.inr ((a10098.1 + 1), (gj_sI a10098.2 208 (upd (a10098.2.1 208) (Int32.toNatClampNeg a10098.1) (a10098.2.1 205 (Int32.toNatClampNeg a10098.1)))))) else none) else none))
def f_X9_pivot  (σ : gj_S) : Option (Int32 × gj_S) := ((f_X9_laysTree σ).bind fun x1 => ((f_X9_entering x1).bind fun x2 => (if x2.1 = (-1 : Int32) then some ((-1 : Int32), x2.2) else (if gj_in (41 : Int32) 180 then ((f_X9_laysRing x2.1 (gj_sI x2.2 198 (upd (x2.2.1 198) (Int32.toNatClampNeg (41 : Int32)) (x2.2.1 188 30)))).bind fun x4 => ((gj_lp (fb_X9_pivot_l34 x2.1) 5000 ((0 : Int32), x4)).bind fun z5 => (if gj_in (z5.1 188 36) 24 then ((gj_lp (fb_X9_pivot_l98 x2.1 (z5.1 206 (Int32.toNatClampNeg (z5.1 188 36)))) 5000 ((0 : Int32), z5)).bind fun z7 => ((if (z5.1 206 (Int32.toNatClampNeg (z5.1 188 36))) = x2.1 then (if gj_in ((74 : Int32) + x2.1) 180 then (if (z7.1 198 (Int32.toNatClampNeg ((74 : Int32) + x2.1))) = (1 : Int32) then (if gj_in ((74 : Int32) + x2.1) 180 then some (gj_sI z7 198 (upd (z7.1 198) (Int32.toNatClampNeg ((74 : Int32) + x2.1)) (2 : Int32))) else none) else (if gj_in ((74 : Int32) + x2.1) 180 then some (gj_sI z7 198 (upd (z7.1 198) (Int32.toNatClampNeg ((74 : Int32) + x2.1)) (1 : Int32))) else none)) else none) else (if gj_in ((74 : Int32) + x2.1) 180 then (if gj_in ((gj_sI z7 198 (upd (z7.1 198) (Int32.toNatClampNeg ((74 : Int32) + x2.1)) (0 : Int32))).1 188 36) 24 then (if ((gj_sI z7 198 (upd (z7.1 198) (Int32.toNatClampNeg ((74 : Int32) + x2.1)) (0 : Int32))).1 207 (Int32.toNatClampNeg ((gj_sI z7 198 (upd (z7.1 198) (Int32.toNatClampNeg ((74 : Int32) + x2.1)) (0 : Int32))).1 188 36))) = 0 then (if gj_in ((74 : Int32) + (z5.1 206 (Int32.toNatClampNeg (z5.1 188 36)))) 180 then ((some (gj_sI (gj_sI z7 198 (upd (z7.1 198) (Int32.toNatClampNeg ((74 : Int32) + x2.1)) (0 : Int32))) 198 (upd ((gj_sI z7 198 (upd (z7.1 198) (Int32.toNatClampNeg ((74 : Int32) + x2.1)) (0 : Int32))).1 198) (Int32.toNatClampNeg ((74 : Int32) + (z5.1 206 (Int32.toNatClampNeg (z5.1 188 36))))) (1 : Int32)))).bind fun s12 => some s12) else none) else (if gj_in ((74 : Int32) + (z5.1 206 (Int32.toNatClampNeg (z5.1 188 36)))) 180 then ((some (gj_sI (gj_sI z7 198 (upd (z7.1 198) (Int32.toNatClampNeg ((74 : Int32) + x2.1)) (0 : Int32))) 198 (upd ((gj_sI z7 198 (upd (z7.1 198) (Int32.toNatClampNeg ((74 : Int32) + x2.1)) (0 : Int32))).1 198) (Int32.toNatClampNeg ((74 : Int32) + (z5.1 206 (Int32.toNatClampNeg (z5.1 188 36))))) (2 : Int32)))).bind fun s14 => some s14) else none)) else none) else none) : Option gj_S).bind fun z8 => ((f_X9_laysTree z8).bind fun x18 => ((f_X9_moved x18).bind fun x19 => ((f_X9_logs x2.1 (z5.1 206 (Int32.toNatClampNeg (z5.1 188 36))) (x18.1 188 35) (x18.1 188 33) x19 x18).bind fun x20 => some (x2.1, x20)))))) else none))) else none))))
set_option maxHeartbeats 4000000 in
set_option maxRecDepth 100000 in
theorem sb_X9_pivot_l34 {E : gj_E} {X : gj_X} {r : Option gj_V} {τ : gj_S} (hO : gj_O E X RX9 cX9_pivot 4 (some .int) 4 94) {b1 : Int32} {a10034_0 : Int32} {a10034_1 : gj_S} {x : gj_S ⊕ (Int32 × gj_S)} (hf : fb_X9_pivot_l34 b1 (a10034_0, a10034_1) = some x) (K : gj_K (fun z5 => gj_G E X 4 r τ 86 [(0, gj_r 188), (1, gj_i b1)] [] z5) (fun a10034 => gj_G E X 4 r τ 34 [(0, gj_r 188), (1, gj_i b1), (2, gj_i a10034.1)] [] a10034.2) x) : gj_G E X 4 r τ 34 [(0, gj_r 188), (1, gj_i b1), (2, gj_i a10034_0)] [] a10034_1 := by
  unfold fb_X9_pivot_l34 at hf
  dsimp only at hf
  refine gj_iload_n hO 2 dX9_pivot_34 rfl rfl ?_
  refine gj_aload_n hO 0 dX9_pivot_35 rfl rfl ?_
  refine gt_X9_33 hO wk_843 dX9_pivot_36 ?_
  refine gj_icmp_ge (tgt := 86) hO dX9_pivot_39 (by decide) (fun h => ?_) (fun h => ?_)
  · replace hf := gj_t h hf
    obtain rfl := Option.some.inj hf
    refine gj_sub (lv2 := [(0, gj_r 188), (1, gj_i b1)]) [0, 1] rfl ?_
    exact K
  · replace hf := gj_f h hf
    refine gj_aload_n hO 0 dX9_pivot_42 rfl rfl ?_
    refine gt_X9_21 hO wk_725 dX9_pivot_43 ?_
    refine gj_bipush (v := 50) hO dX9_pivot_46 (by decide) ?_
    refine gj_aload_n hO 0 dX9_pivot_48 rfl rfl ?_
    refine gt_X9_31 hO wk_835 dX9_pivot_49 ?_
    refine gj_iload_n hO 2 dX9_pivot_52 rfl rfl ?_
    obtain ⟨hb13401, hf⟩ := gj_c hf
    refine gj_iald hO kl_206 kd_206 hb13401 dX9_pivot_53 ?_
    refine gj_iadd hO dX9_pivot_54 ?_
    refine gj_dup2 hO dX9_pivot_55 trivial trivial ?_
    obtain ⟨hb13402, hf⟩ := gj_c hf
    refine gj_iald hO kl_198 kd_198 hb13402 dX9_pivot_56 ?_
    refine gj_aload_n hO 0 dX9_pivot_57 rfl rfl ?_
    refine gt_X9_32 hO wk_836 dX9_pivot_58 ?_
    refine gj_iload_n hO 2 dX9_pivot_61 rfl rfl ?_
    obtain ⟨hb13403, hf⟩ := gj_c hf
    refine gj_zald hO kl_207 kd_207 hb13403 dX9_pivot_62 ?_
    refine gj_if_eq (tgt := 73) hO dX9_pivot_63 (by decide) (fun h => ?_) (fun h => ?_)
    · replace hf := gj_t h hf
      refine gj_aload_n hO 0 dX9_pivot_73 rfl rfl ?_
      refine gt_X9_35 hO wk_845 dX9_pivot_74 ?_
      refine gj_ineg hO dX9_pivot_77 ?_
      refine gj_iadd hO dX9_pivot_78 ?_
      obtain ⟨hb13404, hf⟩ := gj_c hf
      refine gj_iast hO kl_198 kd_198 hb13404 dX9_pivot_79 ?_
      obtain ⟨s13405, e13405, hf⟩ := gj_b hf
      refine gj_eqS (Option.some.inj e13405) ?_
      refine gj_iinc (v := (a10034_0 + 1)) (lv2 := [(2, gj_i (a10034_0 + 1)), (0, gj_r 188), (1, gj_i b1)]) hO 2 dX9_pivot_80 rfl rfl (by decide) rfl ?_
      refine gj_goto (tgt := 34) hO dX9_pivot_83 (by decide) ?_
      obtain rfl := Option.some.inj hf
      refine gj_sub (lv2 := [(0, gj_r 188), (1, gj_i b1), (2, gj_i (a10034_0 + 1))]) [1, 2, 0] rfl ?_
      exact K
    · replace hf := gj_f h hf
      refine gj_aload_n hO 0 dX9_pivot_66 rfl rfl ?_
      refine gt_X9_35 hO wk_845 dX9_pivot_67 ?_
      refine gj_goto (tgt := 78) hO dX9_pivot_70 (by decide) ?_
      refine gj_iadd hO dX9_pivot_78 ?_
      obtain ⟨hb13406, hf⟩ := gj_c hf
      refine gj_iast hO kl_198 kd_198 hb13406 dX9_pivot_79 ?_
      obtain ⟨s13407, e13407, hf⟩ := gj_b hf
      refine gj_eqS (Option.some.inj e13407) ?_
      refine gj_iinc (v := (a10034_0 + 1)) (lv2 := [(2, gj_i (a10034_0 + 1)), (0, gj_r 188), (1, gj_i b1)]) hO 2 dX9_pivot_80 rfl rfl (by decide) rfl ?_
      refine gj_goto (tgt := 34) hO dX9_pivot_83 (by decide) ?_
      obtain rfl := Option.some.inj hf
      refine gj_sub (lv2 := [(0, gj_r 188), (1, gj_i b1), (2, gj_i (a10034_0 + 1))]) [1, 2, 0] rfl ?_
      exact K
set_option maxHeartbeats 4000000 in
set_option maxRecDepth 100000 in
theorem sb_X9_pivot_l98 {E : gj_E} {X : gj_X} {r : Option gj_V} {τ : gj_S} (hO : gj_O E X RX9 cX9_pivot 4 (some .int) 4 94) {b1 : Int32} {b2 : Int32} {a10098_0 : Int32} {a10098_1 : gj_S} {x : gj_S ⊕ (Int32 × gj_S)} (hf : fb_X9_pivot_l98 b1 b2 (a10098_0, a10098_1) = some x) (K : gj_K (fun z7 => gj_G E X 4 r τ 122 [(0, gj_r 188), (1, gj_i b1), (2, gj_i b2)] [] z7) (fun a10098 => gj_G E X 4 r τ 98 [(0, gj_r 188), (1, gj_i b1), (2, gj_i b2), (3, gj_i a10098.1)] [] a10098.2) x) : gj_G E X 4 r τ 98 [(0, gj_r 188), (1, gj_i b1), (2, gj_i b2), (3, gj_i a10098_0)] [] a10098_1 := by
  unfold fb_X9_pivot_l98 at hf
  dsimp only at hf
  refine gj_iload_n hO 3 dX9_pivot_98 rfl rfl ?_
  refine gj_bipush (v := 9) hO dX9_pivot_99 (by decide) ?_
  refine gj_icmp_ge (tgt := 122) hO dX9_pivot_101 (by decide) (fun h => ?_) (fun h => ?_)
  · replace hf := gj_t h hf
    obtain rfl := Option.some.inj hf
    refine gj_sub (lv2 := [(0, gj_r 188), (1, gj_i b1), (2, gj_i b2)]) [0, 1, 2] rfl ?_
    exact K
  · replace hf := gj_f h hf
    refine gj_aload_n hO 0 dX9_pivot_104 rfl rfl ?_
    refine gt_X9_37 hO wk_869 dX9_pivot_105 ?_
    refine gj_iload_n hO 3 dX9_pivot_108 rfl rfl ?_
    refine gj_aload_n hO 0 dX9_pivot_109 rfl rfl ?_
    refine gt_X9_29 hO wk_764 dX9_pivot_110 ?_
    refine gj_iload_n hO 3 dX9_pivot_113 rfl rfl ?_
    obtain ⟨hb19801, hf⟩ := gj_c hf
    refine gj_iald hO kl_205 kd_205 hb19801 dX9_pivot_114 ?_
    obtain ⟨hb19802, hf⟩ := gj_c hf
    refine gj_iast hO kl_208 kd_208 hb19802 dX9_pivot_115 ?_
    refine gj_iinc (v := (a10098_0 + 1)) (lv2 := [(3, gj_i (a10098_0 + 1)), (0, gj_r 188), (1, gj_i b1), (2, gj_i b2)]) hO 3 dX9_pivot_116 rfl rfl (by decide) rfl ?_
    refine gj_goto (tgt := 98) hO dX9_pivot_119 (by decide) ?_
    obtain rfl := Option.some.inj hf
    refine gj_sub (lv2 := [(0, gj_r 188), (1, gj_i b1), (2, gj_i b2), (3, gj_i (a10098_0 + 1))]) [1, 2, 3, 0] rfl ?_
    exact K
set_option maxHeartbeats 4000000 in
set_option maxRecDepth 100000 in
theorem m_X9_pivot {E : gj_E} {σ : gj_S}   {x : Int32} {y : gj_S} (hf : f_X9_pivot  σ = some (x, y)) : gj_M E yX9_pivot cX9_pivot 4 (some .int) 4 94 [gj_r 188] σ (some (gj_i x)) y := by
  refine gj_body (lv := [(0, gj_r 188)]) (by decide +kernel) (Nat.le_of_ble_eq_true rfl) rfl (fun X hO => ?_)
  replace hO : gj_O E X RX9 cX9_pivot 4 (some .int) 4 94 := hO
  unfold f_X9_pivot at hf
  refine gj_aload_n hO 0 dX9_pivot_0 rfl rfl ?_
  obtain ⟨x1, hc1, hf⟩ := gj_b hf
  refine ca_X9_laysTree hO kl_188  hc1 wk_792 (by decide) (by decide) (Nat.le_of_ble_eq_true rfl) dX9_pivot_1 ?_
  refine gj_aload_n hO 0 dX9_pivot_4 rfl rfl ?_
  obtain ⟨⟨x2_v, x2_s⟩, hc2, hf⟩ := gj_b hf
  dsimp only at hf
  refine ca_X9_entering hO kl_188  hc2 wk_854 (by decide) (by decide) (Nat.le_of_ble_eq_true rfl) dX9_pivot_5 ?_
  refine gj_istore_n (lv2 := [(1, gj_i x2_v), (0, gj_r 188)]) hO dX9_pivot_8 rfl (by decide) rfl ?_
  refine gj_iload_n hO 0 dX9_pivot_9 rfl rfl ?_
  refine gj_iconst (v := (-1)) hO dX9_pivot_10 (by decide) ?_
  refine gj_icmp_ne (tgt := 16) hO dX9_pivot_11 (by decide) (fun h => ?_) (fun h => ?_)
  · replace hf := gj_f h hf
    refine gj_aload_n hO 1 dX9_pivot_16 rfl rfl ?_
    refine gt_X9_21 hO wk_725 dX9_pivot_17 ?_
    refine gj_bipush (v := 41) hO dX9_pivot_20 (by decide) ?_
    refine gj_aload_n hO 1 dX9_pivot_22 rfl rfl ?_
    refine gt_X9_30 hO wk_828 dX9_pivot_23 ?_
    obtain ⟨hb3, hf⟩ := gj_c hf
    refine gj_iast hO kl_198 kd_198 hb3 dX9_pivot_26 ?_
    refine gj_aload_n hO 1 dX9_pivot_27 rfl rfl ?_
    refine gj_iload_n hO 0 dX9_pivot_28 rfl rfl ?_
    obtain ⟨x4, hc4, hf⟩ := gj_b hf
    refine ca_X9_laysRing hO kl_188  hc4 wk_858 (by decide) (by decide) (Nat.le_of_ble_eq_true rfl) dX9_pivot_29 ?_
    refine gj_iconst (v := 0) hO dX9_pivot_32 (by decide) ?_
    refine gj_istore_n (lv2 := [(2, gj_i (0 : Int32)), (1, gj_i x2_v), (0, gj_r 188)]) hO dX9_pivot_33 rfl (by decide) rfl ?_
    obtain ⟨z5, hz5, hf⟩ := gj_b hf
    have J5 : gj_G E X 4 (some (gj_i x)) y 86 [(0, gj_r 188), (1, gj_i x2_v)] [] z5 := by
      refine gj_aload_n hO 0 dX9_pivot_86 rfl rfl ?_
      refine gt_X9_31 hO wk_835 dX9_pivot_87 ?_
      refine gj_aload_n hO 0 dX9_pivot_90 rfl rfl ?_
      refine gt_X9_36 hO wk_846 dX9_pivot_91 ?_
      obtain ⟨hb6, hf⟩ := gj_c hf
      refine gj_iald hO kl_206 kd_206 hb6 dX9_pivot_94 ?_
      refine gj_istore_n (lv2 := [(2, gj_i (z5.1 206 (Int32.toNatClampNeg (z5.1 188 36)))), (0, gj_r 188), (1, gj_i x2_v)]) hO dX9_pivot_95 rfl (by decide) rfl ?_
      refine gj_iconst (v := 0) hO dX9_pivot_96 (by decide) ?_
      refine gj_istore_n (lv2 := [(3, gj_i (0 : Int32)), (2, gj_i (z5.1 206 (Int32.toNatClampNeg (z5.1 188 36)))), (0, gj_r 188), (1, gj_i x2_v)]) hO dX9_pivot_97 rfl (by decide) rfl ?_
      obtain ⟨z7, hz7, hf⟩ := gj_b hf
      have J7 : gj_G E X 4 (some (gj_i x)) y 122 [(0, gj_r 188), (1, gj_i x2_v), (2, gj_i (z5.1 206 (Int32.toNatClampNeg (z5.1 188 36))))] [] z7 := by
        refine gj_iload_n hO 2 dX9_pivot_122 rfl rfl ?_
        refine gj_iload_n hO 1 dX9_pivot_123 rfl rfl ?_
        obtain ⟨z8, hz8, hf⟩ := gj_b hf
        have J8 : gj_G E X 4 (some (gj_i x)) y 193 [(0, gj_r 188), (1, gj_i x2_v), (2, gj_i (z5.1 206 (Int32.toNatClampNeg (z5.1 188 36))))] [] z8 := by
          refine gj_aload_n hO 0 dX9_pivot_193 rfl rfl ?_
          obtain ⟨x18, hc18, hf⟩ := gj_b hf
          refine ca_X9_laysTree hO kl_188  hc18 wk_792 (by decide) (by decide) (Nat.le_of_ble_eq_true rfl) dX9_pivot_194 ?_
          refine gj_aload_n hO 0 dX9_pivot_197 rfl rfl ?_
          refine gj_iload_n hO 1 dX9_pivot_198 rfl rfl ?_
          refine gj_iload_n hO 2 dX9_pivot_199 rfl rfl ?_
          refine gj_aload_n hO 0 dX9_pivot_200 rfl rfl ?_
          refine gt_X9_35 hO wk_845 dX9_pivot_201 ?_
          refine gj_aload_n hO 0 dX9_pivot_204 rfl rfl ?_
          refine gt_X9_33 hO wk_843 dX9_pivot_205 ?_
          refine gj_aload_n hO 0 dX9_pivot_208 rfl rfl ?_
          obtain ⟨x19, hc19, hf⟩ := gj_b hf
          refine ca_X9_moved hO kl_188  hc19 wk_876 (by decide) (by decide) (Nat.le_of_ble_eq_true rfl) dX9_pivot_209 ?_
          obtain ⟨x20, hc20, hf⟩ := gj_b hf
          refine ca_X9_logs hO kl_188  hc20 wk_877 (by decide) (by decide) (Nat.le_of_ble_eq_true rfl) dX9_pivot_212 ?_
          refine gj_iload_n hO 1 dX9_pivot_215 rfl rfl ?_
          replace hf := Option.some.inj hf
          simp only [Prod.mk.injEq] at hf
          obtain ⟨rfl, rfl⟩ := hf
          exact gj_iret hO dX9_pivot_216
        refine gj_icmp_ne (tgt := 157) hO dX9_pivot_124 (by decide) (fun h => ?_) (fun h => ?_)
        · replace hz8 := gj_f h hz8
          refine gj_aload_n hO 0 dX9_pivot_157 rfl rfl ?_
          refine gt_X9_21 hO wk_725 dX9_pivot_158 ?_
          refine gj_bipush (v := 74) hO dX9_pivot_161 (by decide) ?_
          refine gj_iload_n hO 1 dX9_pivot_163 rfl rfl ?_
          refine gj_iadd hO dX9_pivot_164 ?_
          refine gj_iconst (v := 0) hO dX9_pivot_165 (by decide) ?_
          obtain ⟨hb9, hz8⟩ := gj_c hz8
          refine gj_iast hO kl_198 kd_198 hb9 dX9_pivot_166 ?_
          refine gj_aload_n hO 0 dX9_pivot_167 rfl rfl ?_
          refine gt_X9_21 hO wk_725 dX9_pivot_168 ?_
          refine gj_bipush (v := 74) hO dX9_pivot_171 (by decide) ?_
          refine gj_iload_n hO 2 dX9_pivot_173 rfl rfl ?_
          refine gj_iadd hO dX9_pivot_174 ?_
          refine gj_aload_n hO 0 dX9_pivot_175 rfl rfl ?_
          refine gt_X9_32 hO wk_836 dX9_pivot_176 ?_
          refine gj_aload_n hO 0 dX9_pivot_179 rfl rfl ?_
          refine gt_X9_36 hO wk_846 dX9_pivot_180 ?_
          obtain ⟨hb10, hz8⟩ := gj_c hz8
          refine gj_zald hO kl_207 kd_207 hb10 dX9_pivot_183 ?_
          refine gj_if_eq (tgt := 191) hO dX9_pivot_184 (by decide) (fun h => ?_) (fun h => ?_)
          · replace hz8 := gj_t h hz8
            refine gj_iconst (v := 1) hO dX9_pivot_191 (by decide) ?_
            obtain ⟨hb11, hz8⟩ := gj_c hz8
            refine gj_iast hO kl_198 kd_198 hb11 dX9_pivot_192 ?_
            obtain ⟨s12, e12, hz8⟩ := gj_b hz8
            refine gj_eqS (Option.some.inj e12) ?_
            obtain rfl := Option.some.inj hz8
            refine gj_sub (lv2 := [(0, gj_r 188), (1, gj_i x2_v), (2, gj_i (z5.1 206 (Int32.toNatClampNeg (z5.1 188 36))))]) [0, 1, 2] rfl ?_
            exact J8
          · replace hz8 := gj_f h hz8
            refine gj_iconst (v := 2) hO dX9_pivot_187 (by decide) ?_
            refine gj_goto (tgt := 192) hO dX9_pivot_188 (by decide) ?_
            obtain ⟨hb13, hz8⟩ := gj_c hz8
            refine gj_iast hO kl_198 kd_198 hb13 dX9_pivot_192 ?_
            obtain ⟨s14, e14, hz8⟩ := gj_b hz8
            refine gj_eqS (Option.some.inj e14) ?_
            obtain rfl := Option.some.inj hz8
            refine gj_sub (lv2 := [(0, gj_r 188), (1, gj_i x2_v), (2, gj_i (z5.1 206 (Int32.toNatClampNeg (z5.1 188 36))))]) [0, 1, 2] rfl ?_
            exact J8
        · replace hz8 := gj_t h hz8
          refine gj_aload_n hO 0 dX9_pivot_127 rfl rfl ?_
          refine gt_X9_21 hO wk_725 dX9_pivot_128 ?_
          refine gj_bipush (v := 74) hO dX9_pivot_131 (by decide) ?_
          refine gj_iload_n hO 1 dX9_pivot_133 rfl rfl ?_
          refine gj_iadd hO dX9_pivot_134 ?_
          refine gj_aload_n hO 0 dX9_pivot_135 rfl rfl ?_
          refine gt_X9_21 hO wk_725 dX9_pivot_136 ?_
          refine gj_bipush (v := 74) hO dX9_pivot_139 (by decide) ?_
          refine gj_iload_n hO 1 dX9_pivot_141 rfl rfl ?_
          refine gj_iadd hO dX9_pivot_142 ?_
          obtain ⟨hb15, hz8⟩ := gj_c hz8
          refine gj_iald hO kl_198 kd_198 hb15 dX9_pivot_143 ?_
          refine gj_iconst (v := 1) hO dX9_pivot_144 (by decide) ?_
          refine gj_icmp_ne (tgt := 152) hO dX9_pivot_145 (by decide) (fun h => ?_) (fun h => ?_)
          · replace hz8 := gj_f h hz8
            refine gj_iconst (v := 1) hO dX9_pivot_152 (by decide) ?_
            obtain ⟨hb16, hz8⟩ := gj_c hz8
            refine gj_iast hO kl_198 kd_198 hb16 dX9_pivot_153 ?_
            refine gj_goto (tgt := 193) hO dX9_pivot_154 (by decide) ?_
            obtain rfl := Option.some.inj hz8
            refine gj_sub (lv2 := [(0, gj_r 188), (1, gj_i x2_v), (2, gj_i (z5.1 206 (Int32.toNatClampNeg (z5.1 188 36))))]) [0, 1, 2] rfl ?_
            exact J8
          · replace hz8 := gj_t h hz8
            refine gj_iconst (v := 2) hO dX9_pivot_148 (by decide) ?_
            refine gj_goto (tgt := 153) hO dX9_pivot_149 (by decide) ?_
            obtain ⟨hb17, hz8⟩ := gj_c hz8
            refine gj_iast hO kl_198 kd_198 hb17 dX9_pivot_153 ?_
            refine gj_goto (tgt := 193) hO dX9_pivot_154 (by decide) ?_
            obtain rfl := Option.some.inj hz8
            refine gj_sub (lv2 := [(0, gj_r 188), (1, gj_i x2_v), (2, gj_i (z5.1 206 (Int32.toNatClampNeg (z5.1 188 36))))]) [0, 1, 2] rfl ?_
            exact J8
      refine gj_sub (lv2 := [(0, gj_r 188), (1, gj_i x2_v), (2, gj_i (z5.1 206 (Int32.toNatClampNeg (z5.1 188 36)))), (3, gj_i (0 : Int32))]) [2, 3, 1, 0] rfl ?_
      exact gj_loop (head := fun a10098 => gj_G E X 4 (some (gj_i x)) y 98 [(0, gj_r 188), (1, gj_i x2_v), (2, gj_i (z5.1 206 (Int32.toNatClampNeg (z5.1 188 36)))), (3, gj_i a10098.1)] [] a10098.2) (exit := fun z7 => gj_G E X 4 (some (gj_i x)) y 122 [(0, gj_r 188), (1, gj_i x2_v), (2, gj_i (z5.1 206 (Int32.toNatClampNeg (z5.1 188 36))))] [] z7) (fun a10098 x hf K => by obtain ⟨a10098_0, a10098_1⟩ := a10098; exact sb_X9_pivot_l98 hO hf K) _ _ _ hz7 J7
    refine gj_sub (lv2 := [(0, gj_r 188), (1, gj_i x2_v), (2, gj_i (0 : Int32))]) [2, 1, 0] rfl ?_
    exact gj_loop (head := fun a10034 => gj_G E X 4 (some (gj_i x)) y 34 [(0, gj_r 188), (1, gj_i x2_v), (2, gj_i a10034.1)] [] a10034.2) (exit := fun z5 => gj_G E X 4 (some (gj_i x)) y 86 [(0, gj_r 188), (1, gj_i x2_v)] [] z5) (fun a10034 x hf K => by obtain ⟨a10034_0, a10034_1⟩ := a10034; exact sb_X9_pivot_l34 hO hf K) _ _ _ hz5 J5
  · replace hf := gj_t h hf
    refine gj_iconst (v := (-1)) hO dX9_pivot_14 (by decide) ?_
    replace hf := Option.some.inj hf
    simp only [Prod.mk.injEq] at hf
    obtain ⟨rfl, rfl⟩ := hf
    exact gj_iret hO dX9_pivot_15
set_option maxHeartbeats 4000000 in
set_option maxRecDepth 100000 in
theorem ca_X9_pivot {E : gj_E} {X : gj_X} {own : String} {cc : ByteArray} {nL : Nat} {rt : Option FieldType} {fr lo : Nat} {ce sl : Nat} {Q : State → Prop} {pc : Nat} {lv : List (Nat × gj_V)} {st : List gj_V} {σ : gj_S} (hO : gj_O E X own cc nL rt fr lo) (hw : gj_lt own 188)   {idx : Nat} {x : Int32} {y : gj_S} (hf : f_X9_pivot  σ = some (x, y)) (hl : Cond.methodLink own idx yX9_pivot ∈ gj_gw) (hf1 : 5 ≤ fr) (hf2 : 117 ≤ lo) (hcat : ((st.map (gj_tv E.2.1)).map fun v => v.category).sum ≤ 8) (hd : decode cc pc = .ok (.invokevirtual idx, 3)) (k : gj_H E X nL ce sl Q (pc + 3) lv ((gj_i x) :: st) y) : gj_H E X nL ce sl Q pc lv (gj_r 188 :: st) σ :=
  gj_callV hO (o := 188) (vs := []) (m_X9_pivot  hf) (gj_I9 hw) hl wk_878 wk_879 wk_629 wk_880 hw kd_188 (by decide) (ci := 9) rfl (n := 0) (by decide +kernel) rfl hf1 hf2 rfl hcat hd k
def fb_X9_keeps_l11  (a10011 : (Int32 × gj_S)) : Option (gj_S ⊕ (Int32 × gj_S)) := (if (1980 : Int32) ≤ a10011.1 then some (.inl a10011.2) else (if gj_in (a10011.1 + (180 : Int32)) 2160 then (if gj_in a10011.1 2160 then some (.inr ((a10011.1 + 1), (gj_sI a10011.2 199 (upd (a10011.2.1 199) (Int32.toNatClampNeg a10011.1) (a10011.2.1 199 (Int32.toNatClampNeg (a10011.1 + (180 : Int32)))))))) else none) else none))
def fb_X9_keeps_l52  (a10052 : (Int32 × gj_S)) : Option (gj_S ⊕ (Int32 × gj_S)) := (if (180 : Int32) ≤ a10052.1 then some (.inl a10052.2) else (if gj_in a10052.1 180 then (if gj_in (((180 : Int32) * (a10052.2.1 188 23)) + a10052.1) 2160 then ((some (gj_sI a10052.2 199 (upd (a10052.2.1 199) (Int32.toNatClampNeg (((180 : Int32) * (a10052.2.1 188 23)) + a10052.1)) (a10052.2.1 198 (Int32.toNatClampNeg a10052.1))))).bind fun s15203 => some (.inr ((a10052.1 + 1), s15203))) else none) else none))
def f_X9_keeps  (σ : gj_S) : Option gj_S := ((if (σ.1 188 23) = (12 : Int32) then ((gj_lp (fb_X9_keeps_l11) 5000 ((0 : Int32), σ)).bind fun z2 => some (gj_sI z2 188 (upd (z2.1 188) 23 ((z2.1 188 23) - (1 : Int32))))) else some σ : Option gj_S).bind fun z1 => ((gj_lp (fb_X9_keeps_l52) 5000 ((0 : Int32), z1)).bind fun z3 => some (gj_sI z3 188 (upd (z3.1 188) 23 ((z3.1 188 23) + (1 : Int32))))))
set_option maxHeartbeats 4000000 in
set_option maxRecDepth 100000 in
theorem sb_X9_keeps_l11 {E : gj_E} {X : gj_X} {r : Option gj_V} {τ : gj_S} (hO : gj_O E X RX9 cX9_keeps 2 none 0 0)  {a10011_0 : Int32} {a10011_1 : gj_S} {x : gj_S ⊕ (Int32 × gj_S)} (hf : fb_X9_keeps_l11  (a10011_0, a10011_1) = some x) (K : gj_K (fun z2 => gj_G E X 2 r τ 40 [(0, gj_r 188)] [] z2) (fun a10011 => gj_G E X 2 r τ 11 [(0, gj_r 188), (1, gj_i a10011.1)] [] a10011.2) x) : gj_G E X 2 r τ 11 [(0, gj_r 188), (1, gj_i a10011_0)] [] a10011_1 := by
  unfold fb_X9_keeps_l11 at hf
  dsimp only at hf
  refine gj_iload_n hO 1 dX9_keeps_11 rfl rfl ?_
  refine gj_sipush (v := 1980) hO dX9_keeps_12 (by decide) ?_
  refine gj_icmp_ge (tgt := 40) hO dX9_keeps_15 (by decide) (fun h => ?_) (fun h => ?_)
  · replace hf := gj_t h hf
    obtain rfl := Option.some.inj hf
    refine gj_sub (lv2 := [(0, gj_r 188)]) [0] rfl ?_
    exact K
  · replace hf := gj_f h hf
    refine gj_aload_n hO 0 dX9_keeps_18 rfl rfl ?_
    refine gt_X9_22 hO wk_881 dX9_keeps_19 ?_
    refine gj_iload_n hO 1 dX9_keeps_22 rfl rfl ?_
    refine gj_aload_n hO 0 dX9_keeps_23 rfl rfl ?_
    refine gt_X9_22 hO wk_881 dX9_keeps_24 ?_
    refine gj_iload_n hO 1 dX9_keeps_27 rfl rfl ?_
    refine gj_sipush (v := 180) hO dX9_keeps_28 (by decide) ?_
    refine gj_iadd hO dX9_keeps_31 ?_
    obtain ⟨hb11101, hf⟩ := gj_c hf
    refine gj_iald hO kl_199 kd_199 hb11101 dX9_keeps_32 ?_
    obtain ⟨hb11102, hf⟩ := gj_c hf
    refine gj_iast hO kl_199 kd_199 hb11102 dX9_keeps_33 ?_
    refine gj_iinc (v := (a10011_0 + 1)) (lv2 := [(1, gj_i (a10011_0 + 1)), (0, gj_r 188)]) hO 1 dX9_keeps_34 rfl rfl (by decide) rfl ?_
    refine gj_goto (tgt := 11) hO dX9_keeps_37 (by decide) ?_
    obtain rfl := Option.some.inj hf
    refine gj_sub (lv2 := [(0, gj_r 188), (1, gj_i (a10011_0 + 1))]) [1, 0] rfl ?_
    exact K
set_option maxHeartbeats 4000000 in
set_option maxRecDepth 100000 in
theorem sb_X9_keeps_l52 {E : gj_E} {X : gj_X} {r : Option gj_V} {τ : gj_S} (hO : gj_O E X RX9 cX9_keeps 2 none 0 0)  {a10052_0 : Int32} {a10052_1 : gj_S} {x : gj_S ⊕ (Int32 × gj_S)} (hf : fb_X9_keeps_l52  (a10052_0, a10052_1) = some x) (K : gj_K (fun z3 => gj_G E X 2 r τ 86 [(0, gj_r 188)] [] z3) (fun a10052 => gj_G E X 2 r τ 52 [(0, gj_r 188), (1, gj_i a10052.1)] [] a10052.2) x) : gj_G E X 2 r τ 52 [(0, gj_r 188), (1, gj_i a10052_0)] [] a10052_1 := by
  unfold fb_X9_keeps_l52 at hf
  dsimp only at hf
  refine gj_iload_n hO 1 dX9_keeps_52 rfl rfl ?_
  refine gj_sipush (v := 180) hO dX9_keeps_53 (by decide) ?_
  refine gj_icmp_ge (tgt := 86) hO dX9_keeps_56 (by decide) (fun h => ?_) (fun h => ?_)
  · replace hf := gj_t h hf
    obtain rfl := Option.some.inj hf
    refine gj_sub (lv2 := [(0, gj_r 188)]) [0] rfl ?_
    exact K
  · replace hf := gj_f h hf
    refine gj_aload_n hO 0 dX9_keeps_59 rfl rfl ?_
    refine gt_X9_22 hO wk_881 dX9_keeps_60 ?_
    refine gj_sipush (v := 180) hO dX9_keeps_63 (by decide) ?_
    refine gj_aload_n hO 0 dX9_keeps_66 rfl rfl ?_
    refine gt_X9_23 hO wk_731 dX9_keeps_67 ?_
    refine gj_imul hO dX9_keeps_70 ?_
    refine gj_iload_n hO 1 dX9_keeps_71 rfl rfl ?_
    refine gj_iadd hO dX9_keeps_72 ?_
    refine gj_aload_n hO 0 dX9_keeps_73 rfl rfl ?_
    refine gt_X9_21 hO wk_725 dX9_keeps_74 ?_
    refine gj_iload_n hO 1 dX9_keeps_77 rfl rfl ?_
    obtain ⟨hb15201, hf⟩ := gj_c hf
    refine gj_iald hO kl_198 kd_198 hb15201 dX9_keeps_78 ?_
    obtain ⟨hb15202, hf⟩ := gj_c hf
    refine gj_iast hO kl_199 kd_199 hb15202 dX9_keeps_79 ?_
    obtain ⟨s15203, e15203, hf⟩ := gj_b hf
    refine gj_eqS (Option.some.inj e15203) ?_
    refine gj_iinc (v := (a10052_0 + 1)) (lv2 := [(1, gj_i (a10052_0 + 1)), (0, gj_r 188)]) hO 1 dX9_keeps_80 rfl rfl (by decide) rfl ?_
    refine gj_goto (tgt := 52) hO dX9_keeps_83 (by decide) ?_
    obtain rfl := Option.some.inj hf
    refine gj_sub (lv2 := [(0, gj_r 188), (1, gj_i (a10052_0 + 1))]) [1, 0] rfl ?_
    exact K
set_option maxHeartbeats 4000000 in
set_option maxRecDepth 100000 in
theorem m_X9_keeps {E : gj_E} {σ : gj_S}   {x : gj_S} (hf : f_X9_keeps  σ = some x) : gj_M E yX9_keeps cX9_keeps 2 none 0 0 [gj_r 188] σ none x := by
  refine gj_body (lv := [(0, gj_r 188)]) (by decide +kernel) (Nat.le_of_ble_eq_true rfl) rfl (fun X hO => ?_)
  replace hO : gj_O E X RX9 cX9_keeps 2 none 0 0 := hO
  unfold f_X9_keeps at hf
  refine gj_aload_n hO 0 dX9_keeps_0 rfl rfl ?_
  refine gt_X9_23 hO wk_731 dX9_keeps_1 ?_
  refine gj_bipush (v := 12) hO dX9_keeps_4 (by decide) ?_
  obtain ⟨z1, hz1, hf⟩ := gj_b hf
  have J1 : gj_G E X 2 none x 50 [(0, gj_r 188)] [] z1 := by
    refine gj_iconst (v := 0) hO dX9_keeps_50 (by decide) ?_
    refine gj_istore_n (lv2 := [(1, gj_i (0 : Int32)), (0, gj_r 188)]) hO dX9_keeps_51 rfl (by decide) rfl ?_
    obtain ⟨z3, hz3, hf⟩ := gj_b hf
    have J3 : gj_G E X 2 none x 86 [(0, gj_r 188)] [] z3 := by
      refine gj_aload_n hO 0 dX9_keeps_86 rfl rfl ?_
      refine gj_dup hO dX9_keeps_87 trivial ?_
      refine gt_X9_23 hO wk_731 dX9_keeps_88 ?_
      refine gj_iconst (v := 1) hO dX9_keeps_91 (by decide) ?_
      refine gj_iadd hO dX9_keeps_92 ?_
      refine pt_X9_23 hO wk_731 dX9_keeps_93 ?_
      obtain rfl := Option.some.inj hf
      exact gj_vret hO dX9_keeps_96
    refine gj_sub (lv2 := [(0, gj_r 188), (1, gj_i (0 : Int32))]) [1, 0] rfl ?_
    exact gj_loop (head := fun a10052 => gj_G E X 2 none x 52 [(0, gj_r 188), (1, gj_i a10052.1)] [] a10052.2) (exit := fun z3 => gj_G E X 2 none x 86 [(0, gj_r 188)] [] z3) (fun a10052 x hf K => by obtain ⟨a10052_0, a10052_1⟩ := a10052; exact sb_X9_keeps_l52 hO hf K) _ _ _ hz3 J3
  refine gj_icmp_ne (tgt := 50) hO dX9_keeps_6 (by decide) (fun h => ?_) (fun h => ?_)
  · replace hz1 := gj_f h hz1
    obtain rfl := Option.some.inj hz1
    refine gj_sub (lv2 := [(0, gj_r 188)]) [0] rfl ?_
    exact J1
  · replace hz1 := gj_t h hz1
    refine gj_iconst (v := 0) hO dX9_keeps_9 (by decide) ?_
    refine gj_istore_n (lv2 := [(1, gj_i (0 : Int32)), (0, gj_r 188)]) hO dX9_keeps_10 rfl (by decide) rfl ?_
    obtain ⟨z2, hz2, hz1⟩ := gj_b hz1
    have J2 : gj_G E X 2 none x 40 [(0, gj_r 188)] [] z2 := by
      refine gj_aload_n hO 0 dX9_keeps_40 rfl rfl ?_
      refine gj_dup hO dX9_keeps_41 trivial ?_
      refine gt_X9_23 hO wk_731 dX9_keeps_42 ?_
      refine gj_iconst (v := 1) hO dX9_keeps_45 (by decide) ?_
      refine gj_isub hO dX9_keeps_46 ?_
      refine pt_X9_23 hO wk_731 dX9_keeps_47 ?_
      obtain rfl := Option.some.inj hz1
      refine gj_sub (lv2 := [(0, gj_r 188)]) [0] rfl ?_
      exact J1
    refine gj_sub (lv2 := [(0, gj_r 188), (1, gj_i (0 : Int32))]) [1, 0] rfl ?_
    exact gj_loop (head := fun a10011 => gj_G E X 2 none x 11 [(0, gj_r 188), (1, gj_i a10011.1)] [] a10011.2) (exit := fun z2 => gj_G E X 2 none x 40 [(0, gj_r 188)] [] z2) (fun a10011 x hf K => by obtain ⟨a10011_0, a10011_1⟩ := a10011; exact sb_X9_keeps_l11 hO hf K) _ _ _ hz2 J2
set_option maxHeartbeats 4000000 in
set_option maxRecDepth 100000 in
theorem ca_X9_keeps {E : gj_E} {X : gj_X} {own : String} {cc : ByteArray} {nL : Nat} {rt : Option FieldType} {fr lo : Nat} {ce sl : Nat} {Q : State → Prop} {pc : Nat} {lv : List (Nat × gj_V)} {st : List gj_V} {σ : gj_S} (hO : gj_O E X own cc nL rt fr lo) (hw : gj_lt own 188)   {idx : Nat} {x : gj_S} (hf : f_X9_keeps  σ = some x) (hl : Cond.methodLink own idx yX9_keeps ∈ gj_gw) (hf1 : 1 ≤ fr) (hf2 : 21 ≤ lo) (hcat : ((st.map (gj_tv E.2.1)).map fun v => v.category).sum ≤ 8) (hd : decode cc pc = .ok (.invokevirtual idx, 3)) (k : gj_H E X nL ce sl Q (pc + 3) lv (st) x) : gj_H E X nL ce sl Q pc lv (gj_r 188 :: st) σ :=
  gj_callV hO (o := 188) (vs := []) (m_X9_keeps  hf) (gj_I9 hw) hl wk_882 wk_883 wk_629 wk_884 hw kd_188 (by decide) (ci := 9) rfl (n := 0) (by decide +kernel) rfl hf1 hf2 rfl hcat hd k
def f_X9_step  (σ : gj_S) : Option (Int32 × gj_S) := ((f_X9_isEnd (gj_sI σ 188 (upd (σ.1 188) 0 (0 : Int32)))).bind fun x1 => (if x1.1 = 0 then ((f_X9_keeps x1.2).bind fun x2 => ((f_X9_pivot x2).bind fun x3 => some (x3.1, x3.2))) else some ((-2 : Int32), x1.2)))
set_option maxHeartbeats 4000000 in
set_option maxRecDepth 100000 in
theorem m_X9_step {E : gj_E} {σ : gj_S}   {x : Int32} {y : gj_S} (hf : f_X9_step  σ = some (x, y)) : gj_M E yX9_step cX9_step 1 (some .int) 5 117 [gj_r 188] σ (some (gj_i x)) y := by
  refine gj_body (lv := [(0, gj_r 188)]) (by decide +kernel) (Nat.le_of_ble_eq_true rfl) rfl (fun X hO => ?_)
  replace hO : gj_O E X RX9 cX9_step 1 (some .int) 5 117 := hO
  unfold f_X9_step at hf
  refine gj_aload_n hO 0 dX9_step_0 rfl rfl ?_
  refine gj_iconst (v := 0) hO dX9_step_1 (by decide) ?_
  refine pt_X9_0 hO wk_636 dX9_step_2 ?_
  refine gj_aload_n hO 0 dX9_step_5 rfl rfl ?_
  obtain ⟨⟨x1_v, x1_s⟩, hc1, hf⟩ := gj_b hf
  dsimp only at hf
  refine ca_X9_isEnd hO kl_188  hc1 wk_885 (by decide) (by decide) (Nat.le_of_ble_eq_true rfl) dX9_step_6 ?_
  refine gj_if_eq (tgt := 15) hO dX9_step_9 (by decide) (fun h => ?_) (fun h => ?_)
  · replace hf := gj_t h hf
    refine gj_aload_n hO 0 dX9_step_15 rfl rfl ?_
    obtain ⟨x2, hc2, hf⟩ := gj_b hf
    refine ca_X9_keeps hO kl_188  hc2 wk_886 (by decide) (by decide) (Nat.le_of_ble_eq_true rfl) dX9_step_16 ?_
    refine gj_aload_n hO 0 dX9_step_19 rfl rfl ?_
    obtain ⟨⟨x3_v, x3_s⟩, hc3, hf⟩ := gj_b hf
    dsimp only at hf
    refine ca_X9_pivot hO kl_188  hc3 wk_887 (by decide) (by decide) (Nat.le_of_ble_eq_true rfl) dX9_step_20 ?_
    replace hf := Option.some.inj hf
    simp only [Prod.mk.injEq] at hf
    obtain ⟨rfl, rfl⟩ := hf
    exact gj_iret hO dX9_step_23
  · replace hf := gj_f h hf
    refine gj_bipush (v := (-2)) hO dX9_step_12 (by decide) ?_
    replace hf := Option.some.inj hf
    simp only [Prod.mk.injEq] at hf
    obtain ⟨rfl, rfl⟩ := hf
    exact gj_iret hO dX9_step_14
set_option maxHeartbeats 4000000 in
set_option maxRecDepth 100000 in
theorem ca_X9_step {E : gj_E} {X : gj_X} {own : String} {cc : ByteArray} {nL : Nat} {rt : Option FieldType} {fr lo : Nat} {ce sl : Nat} {Q : State → Prop} {pc : Nat} {lv : List (Nat × gj_V)} {st : List gj_V} {σ : gj_S} (hO : gj_O E X own cc nL rt fr lo) (hw : gj_lt own 188)   {idx : Nat} {x : Int32} {y : gj_S} (hf : f_X9_step  σ = some (x, y)) (hl : Cond.methodLink own idx yX9_step ∈ gj_gw) (hf1 : 6 ≤ fr) (hf2 : 137 ≤ lo) (hcat : ((st.map (gj_tv E.2.1)).map fun v => v.category).sum ≤ 8) (hd : decode cc pc = .ok (.invokevirtual idx, 3)) (k : gj_H E X nL ce sl Q (pc + 3) lv ((gj_i x) :: st) y) : gj_H E X nL ce sl Q pc lv (gj_r 188 :: st) σ :=
  gj_callV hO (o := 188) (vs := []) (m_X9_step  hf) (gj_I9 hw) hl wk_888 wk_889 wk_629 wk_890 hw kd_188 (by decide) (ci := 9) rfl (n := 0) (by decide +kernel) rfl hf1 hf2 rfl hcat hd k
def fb_X9_run_l34 (b1 : Int32) (a10034 : (Int32 × gj_S)) : Option ((Int32 × gj_S) ⊕ (Int32 × gj_S)) := (if b1 ≤ a10034.1 then some (.inl (a10034.1, a10034.2)) else ((f_X9_pivot a10034.2).bind fun x13401 => (if x13401.1 = (-1 : Int32) then some (.inl (a10034.1, x13401.2)) else some (.inr ((a10034.1 + 1), x13401.2)))))
def f_X9_run (b1 : Int32) (σ : gj_S) : Option (Int32 × gj_S) := ((f_X9_within (Int32.toInt64 b1) (1 : Int64) (99 : Int64)).bind fun x1 => (if x1 = 0 then some ((-1 : Int32), (gj_sI σ 188 (upd (σ.1 188) 0 (0 : Int32)))) else ((f_X9_isEnd (gj_sI σ 188 (upd (σ.1 188) 0 (0 : Int32)))).bind fun x2 => (if x2.1 = 0 then ((f_X9_keeps x2.2).bind fun x3 => ((gj_lp (fb_X9_run_l34 b1) 5000 ((0 : Int32), x3)).bind fun z4 => some (z4.1, z4.2))) else some ((0 : Int32), x2.2)))))
set_option maxHeartbeats 4000000 in
set_option maxRecDepth 100000 in
theorem sb_X9_run_l34 {E : gj_E} {X : gj_X} {r : Option gj_V} {τ : gj_S} (hO : gj_O E X RX9 cX9_run 3 (some .int) 5 117) {b1 : Int32} {a10034_0 : Int32} {a10034_1 : gj_S} {x : (Int32 × gj_S) ⊕ (Int32 × gj_S)} (hf : fb_X9_run_l34 b1 (a10034_0, a10034_1) = some x) (K : gj_K (fun z4 => gj_G E X 3 r τ 53 [(2, gj_i z4.1)] [] z4.2) (fun a10034 => gj_G E X 3 r τ 34 [(0, gj_r 188), (1, gj_i b1), (2, gj_i a10034.1)] [] a10034.2) x) : gj_G E X 3 r τ 34 [(0, gj_r 188), (1, gj_i b1), (2, gj_i a10034_0)] [] a10034_1 := by
  unfold fb_X9_run_l34 at hf
  dsimp only at hf
  refine gj_iload_n hO 2 dX9_run_34 rfl rfl ?_
  refine gj_iload_n hO 1 dX9_run_35 rfl rfl ?_
  refine gj_icmp_ge (tgt := 53) hO dX9_run_36 (by decide) (fun h => ?_) (fun h => ?_)
  · replace hf := gj_t h hf
    obtain rfl := Option.some.inj hf
    refine gj_sub (lv2 := [(2, gj_i a10034_0)]) [2] rfl ?_
    exact K
  · replace hf := gj_f h hf
    refine gj_aload_n hO 0 dX9_run_39 rfl rfl ?_
    obtain ⟨⟨x13401_v, x13401_s⟩, hc13401, hf⟩ := gj_b hf
    dsimp only at hf
    refine ca_X9_pivot hO kl_188  hc13401 wk_887 (by decide) (by decide) (Nat.le_of_ble_eq_true rfl) dX9_run_40 ?_
    refine gj_iconst (v := (-1)) hO dX9_run_43 (by decide) ?_
    refine gj_icmp_eq (tgt := 53) hO dX9_run_44 (by decide) (fun h => ?_) (fun h => ?_)
    · replace hf := gj_t h hf
      obtain rfl := Option.some.inj hf
      refine gj_sub (lv2 := [(2, gj_i a10034_0)]) [2] rfl ?_
      exact K
    · replace hf := gj_f h hf
      refine gj_iinc (v := (a10034_0 + 1)) (lv2 := [(2, gj_i (a10034_0 + 1)), (0, gj_r 188), (1, gj_i b1)]) hO 2 dX9_run_47 rfl rfl (by decide) rfl ?_
      refine gj_goto (tgt := 34) hO dX9_run_50 (by decide) ?_
      obtain rfl := Option.some.inj hf
      refine gj_sub (lv2 := [(0, gj_r 188), (1, gj_i b1), (2, gj_i (a10034_0 + 1))]) [1, 2, 0] rfl ?_
      exact K
set_option maxHeartbeats 4000000 in
set_option maxRecDepth 100000 in
theorem m_X9_run {E : gj_E} {σ : gj_S} {b1 : Int32}  {x : Int32} {y : gj_S} (hf : f_X9_run b1 σ = some (x, y)) : gj_M E yX9_run cX9_run 3 (some .int) 5 117 [gj_r 188, gj_i b1] σ (some (gj_i x)) y := by
  refine gj_body (lv := [(0, gj_r 188), (1, gj_i b1)]) (by decide +kernel) (Nat.le_of_ble_eq_true rfl) rfl (fun X hO => ?_)
  replace hO : gj_O E X RX9 cX9_run 3 (some .int) 5 117 := hO
  unfold f_X9_run at hf
  refine gj_aload_n hO 0 dX9_run_0 rfl rfl ?_
  refine gj_iconst (v := 0) hO dX9_run_1 (by decide) ?_
  refine pt_X9_0 hO wk_636 dX9_run_2 ?_
  refine gj_iload_n hO 1 dX9_run_5 rfl rfl ?_
  refine gj_i2l hO dX9_run_6 ?_
  refine gj_lconst (v := 1) hO dX9_run_7 (by decide) ?_
  refine gj_ldc2 hO wk_891 dX9_run_8 ?_
  obtain ⟨x1, hc1, hf⟩ := gj_b hf
  refine ca_X9_within hO kl_188  hc1 wk_653 (by decide) (by decide) (Nat.le_of_ble_eq_true rfl) dX9_run_11 ?_
  refine gj_if_ne (tgt := 19) hO dX9_run_14 (by decide) (fun h => ?_) (fun h => ?_)
  · replace hf := gj_f h hf
    refine gj_aload_n hO 0 dX9_run_19 rfl rfl ?_
    obtain ⟨⟨x2_v, x2_s⟩, hc2, hf⟩ := gj_b hf
    dsimp only at hf
    refine ca_X9_isEnd hO kl_188  hc2 wk_885 (by decide) (by decide) (Nat.le_of_ble_eq_true rfl) dX9_run_20 ?_
    refine gj_if_eq (tgt := 28) hO dX9_run_23 (by decide) (fun h => ?_) (fun h => ?_)
    · replace hf := gj_t h hf
      refine gj_aload_n hO 0 dX9_run_28 rfl rfl ?_
      obtain ⟨x3, hc3, hf⟩ := gj_b hf
      refine ca_X9_keeps hO kl_188  hc3 wk_886 (by decide) (by decide) (Nat.le_of_ble_eq_true rfl) dX9_run_29 ?_
      refine gj_iconst (v := 0) hO dX9_run_32 (by decide) ?_
      refine gj_istore_n (lv2 := [(2, gj_i (0 : Int32)), (0, gj_r 188), (1, gj_i b1)]) hO dX9_run_33 rfl (by decide) rfl ?_
      obtain ⟨⟨z4_0, z4_1⟩, hz4, hf⟩ := gj_b hf
      dsimp only at hf
      have J4 : gj_G E X 3 (some (gj_i x)) y 53 [(2, gj_i z4_0)] [] z4_1 := by
        refine gj_iload_n hO 0 dX9_run_53 rfl rfl ?_
        replace hf := Option.some.inj hf
        simp only [Prod.mk.injEq] at hf
        obtain ⟨rfl, rfl⟩ := hf
        exact gj_iret hO dX9_run_54
      refine gj_sub (lv2 := [(0, gj_r 188), (1, gj_i b1), (2, gj_i (0 : Int32))]) [1, 2, 0] rfl ?_
      exact gj_loop (head := fun a10034 => gj_G E X 3 (some (gj_i x)) y 34 [(0, gj_r 188), (1, gj_i b1), (2, gj_i a10034.1)] [] a10034.2) (exit := fun z4 => gj_G E X 3 (some (gj_i x)) y 53 [(2, gj_i z4.1)] [] z4.2) (fun a10034 x hf K => by obtain ⟨a10034_0, a10034_1⟩ := a10034; exact sb_X9_run_l34 hO hf K) _ _ _ hz4 J4
    · replace hf := gj_f h hf
      refine gj_iconst (v := 0) hO dX9_run_26 (by decide) ?_
      replace hf := Option.some.inj hf
      simp only [Prod.mk.injEq] at hf
      obtain ⟨rfl, rfl⟩ := hf
      exact gj_iret hO dX9_run_27
  · replace hf := gj_t h hf
    refine gj_iconst (v := (-1)) hO dX9_run_17 (by decide) ?_
    replace hf := Option.some.inj hf
    simp only [Prod.mk.injEq] at hf
    obtain ⟨rfl, rfl⟩ := hf
    exact gj_iret hO dX9_run_18
set_option maxHeartbeats 4000000 in
set_option maxRecDepth 100000 in
theorem ca_X9_run {E : gj_E} {X : gj_X} {own : String} {cc : ByteArray} {nL : Nat} {rt : Option FieldType} {fr lo : Nat} {ce sl : Nat} {Q : State → Prop} {pc : Nat} {lv : List (Nat × gj_V)} {st : List gj_V} {σ : gj_S} (hO : gj_O E X own cc nL rt fr lo) (hw : gj_lt own 188) {b1 : Int32}  {idx : Nat} {x : Int32} {y : gj_S} (hf : f_X9_run b1 σ = some (x, y)) (hl : Cond.methodLink own idx yX9_run ∈ gj_gw) (hf1 : 6 ≤ fr) (hf2 : 139 ≤ lo) (hcat : ((st.map (gj_tv E.2.1)).map fun v => v.category).sum ≤ 8) (hd : decode cc pc = .ok (.invokevirtual idx, 3)) (k : gj_H E X nL ce sl Q (pc + 3) lv ((gj_i x) :: st) y) : gj_H E X nL ce sl Q pc lv (gj_i b1 :: gj_r 188 :: st) σ :=
  gj_callV hO (o := 188) (vs := [gj_i b1]) (m_X9_run  hf) (gj_I9 hw) hl wk_892 wk_893 wk_629 wk_894 hw kd_188 (by decide) (ci := 9) rfl (n := 1) (by decide +kernel) rfl hf1 hf2 rfl hcat hd k
