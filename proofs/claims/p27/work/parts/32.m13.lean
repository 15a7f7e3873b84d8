def f_X9_sizeOf (b0 : Int32) : Option Int32 := (if 0 ≤ b0 then some b0 else some (0 - b0))
set_option maxHeartbeats 4000000 in
set_option maxRecDepth 100000 in
theorem m_X9_sizeOf {E : gj_E} {σ : gj_S} {b0 : Int32}  {x : Int32} (hf : f_X9_sizeOf b0 = some x) : gj_M E yX9_sizeOf cX9_sizeOf 1 (some .int) 0 0 [gj_i b0] σ (some (gj_i x)) σ := by
  refine gj_body (lv := [(0, gj_i b0)]) (by decide +kernel) (Nat.le_of_ble_eq_true rfl) rfl (fun X hO => ?_)
  replace hO : gj_O E X RX9 cX9_sizeOf 1 (some .int) 0 0 := hO
  unfold f_X9_sizeOf at hf
  refine gj_iload_n hO 0 dX9_sizeOf_0 rfl rfl ?_
  refine gj_if_ge (tgt := 9) hO dX9_sizeOf_1 (by decide) (fun h => ?_) (fun h => ?_)
  · replace hf := gj_t h hf
    refine gj_iload_n hO 0 dX9_sizeOf_9 rfl rfl ?_
    obtain rfl := Option.some.inj hf
    exact gj_iret hO dX9_sizeOf_10
  · replace hf := gj_f h hf
    refine gj_iload_n hO 0 dX9_sizeOf_4 rfl rfl ?_
    refine gj_ineg hO dX9_sizeOf_5 ?_
    refine gj_goto (tgt := 10) hO dX9_sizeOf_6 (by decide) ?_
    obtain rfl := Option.some.inj hf
    exact gj_iret hO dX9_sizeOf_10
set_option maxHeartbeats 4000000 in
set_option maxRecDepth 100000 in
theorem ca_X9_sizeOf {E : gj_E} {X : gj_X} {own : String} {cc : ByteArray} {nL : Nat} {rt : Option FieldType} {fr lo : Nat} {ce sl : Nat} {Q : State → Prop} {pc : Nat} {lv : List (Nat × gj_V)} {st : List gj_V} {σ : gj_S} (hO : gj_O E X own cc nL rt fr lo) (hw : gj_lt own 188) {b0 : Int32}  {idx : Nat} {x : Int32} (hf : f_X9_sizeOf b0 = some x) (hl : Cond.methodLink own idx yX9_sizeOf ∈ gj_gw) (hf1 : 1 ≤ fr) (hf2 : 20 ≤ lo) (hcat : ((st.map (gj_tv E.2.1)).map fun v => v.category).sum ≤ 8) (hd : decode cc pc = .ok (.invokestatic idx, 3)) (k : gj_H E X nL ce sl Q (pc + 3) lv ((gj_i x) :: st) σ) : gj_H E X nL ce sl Q pc lv (gj_i b0 :: st) σ :=
  gj_callS hO (vs := [gj_i b0]) (m_X9_sizeOf (σ := σ)  hf) (gj_I9 hw) hl wk_825 wk_629 wk_826 (n := 1) (by decide +kernel) rfl hf1 hf2 rfl hcat hd k
def fb_X9_entering_l28 (σ : gj_S) (a10028 : (Int32 × Int32 × Int32 × Int32)) : Option ((Int32 × Int32 × Int32) ⊕ (Int32 × Int32 × Int32 × Int32)) := (if gj_in (40 : Int32) 180 then (if (σ.1 198 (Int32.toNatClampNeg (40 : Int32))) ≤ a10028.2.2.2 then some (.inl (a10028.1, a10028.2.1, a10028.2.2.1)) else ((f_X9_ways σ).bind fun x12802 => (if x12802 ≤ a10028.2.1 then some (.inl (a10028.1, a10028.2.1, a10028.2.2.1)) else ((f_X9_isGood a10028.2.2.1 σ).bind fun x12803 => ((if x12803 = 0 then some a10028.1 else (if a10028.1 = (-1 : Int32) then some a10028.2.2.1 else ((f_X9_gainOf a10028.2.2.1 σ).bind fun x12805 => ((f_X9_sizeOf x12805).bind fun x12806 => ((f_X9_gainOf a10028.1 σ).bind fun x12807 => ((f_X9_sizeOf x12807).bind fun x12808 => (if x12806 ≤ x12808 then some a10028.1 else some a10028.2.2.1)))))) : Option Int32).bind fun z12804 => ((f_X9_ways σ).bind fun x12809 => (if (a10028.2.2.1 + (1 : Int32)) = x12809 then some (.inr (z12804, (a10028.2.1 + 1), (0 : Int32), (a10028.2.2.2 + 1))) else some (.inr (z12804, (a10028.2.1 + 1), (a10028.2.2.1 + (1 : Int32)), (a10028.2.2.2 + 1)))))))))) else none)
def fb_X9_entering_l12 (σ : gj_S) (a10012 : (Int32 × Int32 × Int32)) : Option ((Int32 × Int32) ⊕ (Int32 × Int32 × Int32)) := ((f_X9_ways σ).bind fun x11201 => (if x11201 ≤ a10012.2.1 then some (.inl (a10012.1, a10012.2.2)) else (if a10012.1 = (-1 : Int32) then ((gj_lp (fb_X9_entering_l28 σ) 5000 (a10012.1, a10012.2.1, a10012.2.2, (0 : Int32))).bind fun z11202 => some (.inr (z11202.1, z11202.2.1, z11202.2.2))) else some (.inl (a10012.1, a10012.2.2)))))
def f_X9_entering  (σ : gj_S) : Option (Int32 × gj_S) := (if gj_in (41 : Int32) 180 then ((gj_lp (fb_X9_entering_l12 σ) 5000 ((-1 : Int32), (0 : Int32), (σ.1 198 (Int32.toNatClampNeg (41 : Int32))))).bind fun z2 => some (z2.1, (gj_sI σ 188 (upd (σ.1 188) 30 z2.2)))) else none)
set_option maxHeartbeats 4000000 in
set_option maxRecDepth 100000 in
theorem sb_X9_entering_l28 {E : gj_E} {X : gj_X} {r : Option gj_V} {τ : gj_S} (hO : gj_O E X RX9 cX9_entering 5 (some .int) 3 64) {σ : gj_S} {a10028_0 : Int32} {a10028_1 : Int32} {a10028_2 : Int32} {a10028_3 : Int32} {x : (Int32 × Int32 × Int32) ⊕ (Int32 × Int32 × Int32 × Int32)} (hf : fb_X9_entering_l28 σ (a10028_0, a10028_1, a10028_2, a10028_3) = some x) (K : gj_K (fun z11202 => gj_G E X 5 r τ 109 [(0, gj_r 188), (1, gj_i z11202.1), (2, gj_i z11202.2.1), (3, gj_i z11202.2.2)] [] σ) (fun a10028 => gj_G E X 5 r τ 28 [(0, gj_r 188), (1, gj_i a10028.1), (2, gj_i a10028.2.1), (3, gj_i a10028.2.2.1), (4, gj_i a10028.2.2.2)] [] σ) x) : gj_G E X 5 r τ 28 [(0, gj_r 188), (1, gj_i a10028_0), (2, gj_i a10028_1), (3, gj_i a10028_2), (4, gj_i a10028_3)] [] σ := by
  unfold fb_X9_entering_l28 at hf
  dsimp only at hf
  refine gj_iload hO 4 dX9_entering_28 rfl ?_
  refine gj_aload_n hO 0 dX9_entering_30 rfl rfl ?_
  refine gt_X9_21 hO wk_725 dX9_entering_31 ?_
  refine gj_bipush (v := 40) hO dX9_entering_34 (by decide) ?_
  obtain ⟨hb12801, hf⟩ := gj_c hf
  refine gj_iald hO kl_198 kd_198 hb12801 dX9_entering_36 ?_
  refine gj_icmp_ge (tgt := 109) hO dX9_entering_37 (by decide) (fun h => ?_) (fun h => ?_)
  · replace hf := gj_t h hf
    obtain rfl := Option.some.inj hf
    refine gj_sub (lv2 := [(0, gj_r 188), (1, gj_i a10028_0), (2, gj_i a10028_1), (3, gj_i a10028_2)]) [0, 1, 2, 3] rfl ?_
    exact K
  · replace hf := gj_f h hf
    refine gj_iload_n hO 2 dX9_entering_40 rfl rfl ?_
    refine gj_aload_n hO 0 dX9_entering_41 rfl rfl ?_
    obtain ⟨x12802, hc12802, hf⟩ := gj_b hf
    refine ca_X9_ways hO kl_188  hc12802 wk_745 (by decide) (by decide) (Nat.le_of_ble_eq_true rfl) dX9_entering_42 ?_
    refine gj_icmp_ge (tgt := 109) hO dX9_entering_45 (by decide) (fun h => ?_) (fun h => ?_)
    · replace hf := gj_t h hf
      obtain rfl := Option.some.inj hf
      refine gj_sub (lv2 := [(0, gj_r 188), (1, gj_i a10028_0), (2, gj_i a10028_1), (3, gj_i a10028_2)]) [0, 1, 2, 3] rfl ?_
      exact K
    · replace hf := gj_f h hf
      refine gj_aload_n hO 0 dX9_entering_48 rfl rfl ?_
      refine gj_iload_n hO 3 dX9_entering_49 rfl rfl ?_
      obtain ⟨x12803, hc12803, hf⟩ := gj_b hf
      refine ca_X9_isGood hO kl_188  hc12803 wk_788 (by decide) (by decide) (Nat.le_of_ble_eq_true rfl) dX9_entering_50 ?_
      obtain ⟨z12804, hz12804, hf⟩ := gj_b hf
      have J12804 : gj_G E X 5 r τ 82 [(0, gj_r 188), (1, gj_i z12804), (2, gj_i a10028_1), (3, gj_i a10028_2), (4, gj_i a10028_3)] [] σ := by
        refine gj_iload_n hO 3 dX9_entering_82 rfl rfl ?_
        refine gj_iconst (v := 1) hO dX9_entering_83 (by decide) ?_
        refine gj_iadd hO dX9_entering_84 ?_
        refine gj_aload_n hO 0 dX9_entering_85 rfl rfl ?_
        obtain ⟨x12809, hc12809, hf⟩ := gj_b hf
        refine ca_X9_ways hO kl_188  hc12809 wk_745 (by decide) (by decide) (Nat.le_of_ble_eq_true rfl) dX9_entering_86 ?_
        refine gj_icmp_ne (tgt := 96) hO dX9_entering_89 (by decide) (fun h => ?_) (fun h => ?_)
        · replace hf := gj_f h hf
          refine gj_iload_n hO 3 dX9_entering_96 rfl rfl ?_
          refine gj_iconst (v := 1) hO dX9_entering_97 (by decide) ?_
          refine gj_iadd hO dX9_entering_98 ?_
          refine gj_istore_n (lv2 := [(3, gj_i (a10028_2 + (1 : Int32))), (0, gj_r 188), (1, gj_i z12804), (2, gj_i a10028_1), (4, gj_i a10028_3)]) hO dX9_entering_99 rfl (by decide) rfl ?_
          refine gj_iinc (v := (a10028_1 + 1)) (lv2 := [(2, gj_i (a10028_1 + 1)), (3, gj_i (a10028_2 + (1 : Int32))), (0, gj_r 188), (1, gj_i z12804), (4, gj_i a10028_3)]) hO 3 dX9_entering_100 rfl rfl (by decide) rfl ?_
          refine gj_iinc (v := (a10028_3 + 1)) (lv2 := [(4, gj_i (a10028_3 + 1)), (2, gj_i (a10028_1 + 1)), (3, gj_i (a10028_2 + (1 : Int32))), (0, gj_r 188), (1, gj_i z12804)]) hO 4 dX9_entering_103 rfl rfl (by decide) rfl ?_
          refine gj_goto (tgt := 28) hO dX9_entering_106 (by decide) ?_
          obtain rfl := Option.some.inj hf
          refine gj_sub (lv2 := [(0, gj_r 188), (1, gj_i z12804), (2, gj_i (a10028_1 + 1)), (3, gj_i (a10028_2 + (1 : Int32))), (4, gj_i (a10028_3 + 1))]) [3, 4, 1, 2, 0] rfl ?_
          exact K
        · replace hf := gj_t h hf
          refine gj_iconst (v := 0) hO dX9_entering_92 (by decide) ?_
          refine gj_goto (tgt := 99) hO dX9_entering_93 (by decide) ?_
          refine gj_istore_n (lv2 := [(3, gj_i (0 : Int32)), (0, gj_r 188), (1, gj_i z12804), (2, gj_i a10028_1), (4, gj_i a10028_3)]) hO dX9_entering_99 rfl (by decide) rfl ?_
          refine gj_iinc (v := (a10028_1 + 1)) (lv2 := [(2, gj_i (a10028_1 + 1)), (3, gj_i (0 : Int32)), (0, gj_r 188), (1, gj_i z12804), (4, gj_i a10028_3)]) hO 3 dX9_entering_100 rfl rfl (by decide) rfl ?_
          refine gj_iinc (v := (a10028_3 + 1)) (lv2 := [(4, gj_i (a10028_3 + 1)), (2, gj_i (a10028_1 + 1)), (3, gj_i (0 : Int32)), (0, gj_r 188), (1, gj_i z12804)]) hO 4 dX9_entering_103 rfl rfl (by decide) rfl ?_
          refine gj_goto (tgt := 28) hO dX9_entering_106 (by decide) ?_
          obtain rfl := Option.some.inj hf
          refine gj_sub (lv2 := [(0, gj_r 188), (1, gj_i z12804), (2, gj_i (a10028_1 + 1)), (3, gj_i (0 : Int32)), (4, gj_i (a10028_3 + 1))]) [3, 4, 1, 2, 0] rfl ?_
          exact K
      refine gj_if_eq (tgt := 82) hO dX9_entering_53 (by decide) (fun h => ?_) (fun h => ?_)
      · replace hz12804 := gj_t h hz12804
        obtain rfl := Option.some.inj hz12804
        refine gj_sub (lv2 := [(0, gj_r 188), (1, gj_i a10028_0), (2, gj_i a10028_1), (3, gj_i a10028_2), (4, gj_i a10028_3)]) [0, 1, 2, 3, 4] rfl ?_
        exact J12804
      · replace hz12804 := gj_f h hz12804
        refine gj_iload_n hO 1 dX9_entering_56 rfl rfl ?_
        refine gj_iconst (v := (-1)) hO dX9_entering_57 (by decide) ?_
        refine gj_icmp_eq (tgt := 80) hO dX9_entering_58 (by decide) (fun h => ?_) (fun h => ?_)
        · replace hz12804 := gj_t h hz12804
          refine gj_iload_n hO 3 dX9_entering_80 rfl rfl ?_
          refine gj_istore_n (lv2 := [(1, gj_i a10028_2), (0, gj_r 188), (2, gj_i a10028_1), (3, gj_i a10028_2), (4, gj_i a10028_3)]) hO dX9_entering_81 rfl (by decide) rfl ?_
          obtain rfl := Option.some.inj hz12804
          refine gj_sub (lv2 := [(0, gj_r 188), (1, gj_i a10028_2), (2, gj_i a10028_1), (3, gj_i a10028_2), (4, gj_i a10028_3)]) [1, 0, 2, 3, 4] rfl ?_
          exact J12804
        · replace hz12804 := gj_f h hz12804
          refine gj_aload_n hO 0 dX9_entering_61 rfl rfl ?_
          refine gj_iload_n hO 3 dX9_entering_62 rfl rfl ?_
          obtain ⟨x12805, hc12805, hz12804⟩ := gj_b hz12804
          refine ca_X9_gainOf hO kl_188  hc12805 wk_784 (by decide) (by decide) (Nat.le_of_ble_eq_true rfl) dX9_entering_63 ?_
          obtain ⟨x12806, hc12806, hz12804⟩ := gj_b hz12804
          refine ca_X9_sizeOf hO kl_188  hc12806 wk_827 (by decide) (by decide) (Nat.le_of_ble_eq_true rfl) dX9_entering_66 ?_
          refine gj_aload_n hO 0 dX9_entering_69 rfl rfl ?_
          refine gj_iload_n hO 1 dX9_entering_70 rfl rfl ?_
          obtain ⟨x12807, hc12807, hz12804⟩ := gj_b hz12804
          refine ca_X9_gainOf hO kl_188  hc12807 wk_784 (by decide) (by decide) (Nat.le_of_ble_eq_true rfl) dX9_entering_71 ?_
          obtain ⟨x12808, hc12808, hz12804⟩ := gj_b hz12804
          refine ca_X9_sizeOf hO kl_188  hc12808 wk_827 (by decide) (by decide) (Nat.le_of_ble_eq_true rfl) dX9_entering_74 ?_
          refine gj_icmp_le (tgt := 82) hO dX9_entering_77 (by decide) (fun h => ?_) (fun h => ?_)
          · replace hz12804 := gj_t h hz12804
            obtain rfl := Option.some.inj hz12804
            refine gj_sub (lv2 := [(0, gj_r 188), (1, gj_i a10028_0), (2, gj_i a10028_1), (3, gj_i a10028_2), (4, gj_i a10028_3)]) [0, 1, 2, 3, 4] rfl ?_
            exact J12804
          · replace hz12804 := gj_f h hz12804
            refine gj_iload_n hO 3 dX9_entering_80 rfl rfl ?_
            refine gj_istore_n (lv2 := [(1, gj_i a10028_2), (0, gj_r 188), (2, gj_i a10028_1), (3, gj_i a10028_2), (4, gj_i a10028_3)]) hO dX9_entering_81 rfl (by decide) rfl ?_
            obtain rfl := Option.some.inj hz12804
            refine gj_sub (lv2 := [(0, gj_r 188), (1, gj_i a10028_2), (2, gj_i a10028_1), (3, gj_i a10028_2), (4, gj_i a10028_3)]) [1, 0, 2, 3, 4] rfl ?_
            exact J12804
set_option maxHeartbeats 4000000 in
set_option maxRecDepth 100000 in
theorem sb_X9_entering_l12 {E : gj_E} {X : gj_X} {r : Option gj_V} {τ : gj_S} (hO : gj_O E X RX9 cX9_entering 5 (some .int) 3 64) {σ : gj_S} {a10012_0 : Int32} {a10012_1 : Int32} {a10012_2 : Int32} {x : (Int32 × Int32) ⊕ (Int32 × Int32 × Int32)} (hf : fb_X9_entering_l12 σ (a10012_0, a10012_1, a10012_2) = some x) (K : gj_K (fun z2 => gj_G E X 5 r τ 112 [(0, gj_r 188), (1, gj_i z2.1), (3, gj_i z2.2)] [] σ) (fun a10012 => gj_G E X 5 r τ 12 [(0, gj_r 188), (1, gj_i a10012.1), (2, gj_i a10012.2.1), (3, gj_i a10012.2.2)] [] σ) x) : gj_G E X 5 r τ 12 [(0, gj_r 188), (1, gj_i a10012_0), (2, gj_i a10012_1), (3, gj_i a10012_2)] [] σ := by
  unfold fb_X9_entering_l12 at hf
  dsimp only at hf
  refine gj_iload_n hO 2 dX9_entering_12 rfl rfl ?_
  refine gj_aload_n hO 0 dX9_entering_13 rfl rfl ?_
  obtain ⟨x11201, hc11201, hf⟩ := gj_b hf
  refine ca_X9_ways hO kl_188  hc11201 wk_745 (by decide) (by decide) (Nat.le_of_ble_eq_true rfl) dX9_entering_14 ?_
  refine gj_icmp_ge (tgt := 112) hO dX9_entering_17 (by decide) (fun h => ?_) (fun h => ?_)
  · replace hf := gj_t h hf
    obtain rfl := Option.some.inj hf
    refine gj_sub (lv2 := [(0, gj_r 188), (1, gj_i a10012_0), (3, gj_i a10012_2)]) [0, 1, 3] rfl ?_
    exact K
  · replace hf := gj_f h hf
    refine gj_iload_n hO 1 dX9_entering_20 rfl rfl ?_
    refine gj_iconst (v := (-1)) hO dX9_entering_21 (by decide) ?_
    refine gj_icmp_ne (tgt := 112) hO dX9_entering_22 (by decide) (fun h => ?_) (fun h => ?_)
    · replace hf := gj_f h hf
      obtain rfl := Option.some.inj hf
      refine gj_sub (lv2 := [(0, gj_r 188), (1, gj_i a10012_0), (3, gj_i a10012_2)]) [0, 1, 3] rfl ?_
      exact K
    · replace hf := gj_t h hf
      refine gj_iconst (v := 0) hO dX9_entering_25 (by decide) ?_
      refine gj_istore (lv2 := [(4, gj_i (0 : Int32)), (0, gj_r 188), (1, gj_i a10012_0), (2, gj_i a10012_1), (3, gj_i a10012_2)]) hO dX9_entering_26 (by decide) rfl ?_
      obtain ⟨⟨z11202_0, z11202_1, z11202_2⟩, hz11202, hf⟩ := gj_b hf
      dsimp only at hf
      have J11202 : gj_G E X 5 r τ 109 [(0, gj_r 188), (1, gj_i z11202_0), (2, gj_i z11202_1), (3, gj_i z11202_2)] [] σ := by
        refine gj_goto (tgt := 12) hO dX9_entering_109 (by decide) ?_
        obtain rfl := Option.some.inj hf
        refine gj_sub (lv2 := [(0, gj_r 188), (1, gj_i z11202_0), (2, gj_i z11202_1), (3, gj_i z11202_2)]) [0, 1, 2, 3] rfl ?_
        exact K
      refine gj_sub (lv2 := [(0, gj_r 188), (1, gj_i a10012_0), (2, gj_i a10012_1), (3, gj_i a10012_2), (4, gj_i (0 : Int32))]) [1, 2, 3, 4, 0] rfl ?_
      exact gj_loop (head := fun a10028 => gj_G E X 5 r τ 28 [(0, gj_r 188), (1, gj_i a10028.1), (2, gj_i a10028.2.1), (3, gj_i a10028.2.2.1), (4, gj_i a10028.2.2.2)] [] σ) (exit := fun z11202 => gj_G E X 5 r τ 109 [(0, gj_r 188), (1, gj_i z11202.1), (2, gj_i z11202.2.1), (3, gj_i z11202.2.2)] [] σ) (fun a10028 x hf K => by obtain ⟨a10028_0, a10028_1, a10028_2, a10028_3⟩ := a10028; exact sb_X9_entering_l28 hO hf K) _ _ _ hz11202 J11202
set_option maxHeartbeats 4000000 in
set_option maxRecDepth 100000 in
theorem m_X9_entering {E : gj_E} {σ : gj_S}   {x : Int32} {y : gj_S} (hf : f_X9_entering  σ = some (x, y)) : gj_M E yX9_entering cX9_entering 5 (some .int) 3 64 [gj_r 188] σ (some (gj_i x)) y := by
  refine gj_body (lv := [(0, gj_r 188)]) (by decide +kernel) (Nat.le_of_ble_eq_true rfl) rfl (fun X hO => ?_)
  replace hO : gj_O E X RX9 cX9_entering 5 (some .int) 3 64 := hO
  unfold f_X9_entering at hf
  refine gj_iconst (v := (-1)) hO dX9_entering_0 (by decide) ?_
  refine gj_istore_n (lv2 := [(1, gj_i (-1 : Int32)), (0, gj_r 188)]) hO dX9_entering_1 rfl (by decide) rfl ?_
  refine gj_iconst (v := 0) hO dX9_entering_2 (by decide) ?_
  refine gj_istore_n (lv2 := [(2, gj_i (0 : Int32)), (1, gj_i (-1 : Int32)), (0, gj_r 188)]) hO dX9_entering_3 rfl (by decide) rfl ?_
  refine gj_aload_n hO 2 dX9_entering_4 rfl rfl ?_
  refine gt_X9_21 hO wk_725 dX9_entering_5 ?_
  refine gj_bipush (v := 41) hO dX9_entering_8 (by decide) ?_
  obtain ⟨hb1, hf⟩ := gj_c hf
  refine gj_iald hO kl_198 kd_198 hb1 dX9_entering_10 ?_
  refine gj_istore_n (lv2 := [(3, gj_i (σ.1 198 (Int32.toNatClampNeg (41 : Int32)))), (2, gj_i (0 : Int32)), (1, gj_i (-1 : Int32)), (0, gj_r 188)]) hO dX9_entering_11 rfl (by decide) rfl ?_
  obtain ⟨⟨z2_0, z2_1⟩, hz2, hf⟩ := gj_b hf
  dsimp only at hf
  have J2 : gj_G E X 5 (some (gj_i x)) y 112 [(0, gj_r 188), (1, gj_i z2_0), (3, gj_i z2_1)] [] σ := by
    refine gj_aload_n hO 0 dX9_entering_112 rfl rfl ?_
    refine gj_iload_n hO 2 dX9_entering_113 rfl rfl ?_
    refine pt_X9_30 hO wk_828 dX9_entering_114 ?_
    refine gj_iload_n hO 1 dX9_entering_117 rfl rfl ?_
    replace hf := Option.some.inj hf
    simp only [Prod.mk.injEq] at hf
    obtain ⟨rfl, rfl⟩ := hf
    exact gj_iret hO dX9_entering_118
  refine gj_sub (lv2 := [(0, gj_r 188), (1, gj_i (-1 : Int32)), (2, gj_i (0 : Int32)), (3, gj_i (σ.1 198 (Int32.toNatClampNeg (41 : Int32))))]) [3, 2, 1, 0] rfl ?_
  exact gj_loop (head := fun a10012 => gj_G E X 5 (some (gj_i x)) y 12 [(0, gj_r 188), (1, gj_i a10012.1), (2, gj_i a10012.2.1), (3, gj_i a10012.2.2)] [] σ) (exit := fun z2 => gj_G E X 5 (some (gj_i x)) y 112 [(0, gj_r 188), (1, gj_i z2.1), (3, gj_i z2.2)] [] σ) (fun a10012 x hf K => by obtain ⟨a10012_0, a10012_1, a10012_2⟩ := a10012; exact sb_X9_entering_l12 hO hf K) _ _ _ hz2 J2
set_option maxHeartbeats 4000000 in
set_option maxRecDepth 100000 in
theorem ca_X9_entering {E : gj_E} {X : gj_X} {own : String} {cc : ByteArray} {nL : Nat} {rt : Option FieldType} {fr lo : Nat} {ce sl : Nat} {Q : State → Prop} {pc : Nat} {lv : List (Nat × gj_V)} {st : List gj_V} {σ : gj_S} (hO : gj_O E X own cc nL rt fr lo) (hw : gj_lt own 188)   {idx : Nat} {x : Int32} {y : gj_S} (hf : f_X9_entering  σ = some (x, y)) (hl : Cond.methodLink own idx yX9_entering ∈ gj_gw) (hf1 : 4 ≤ fr) (hf2 : 88 ≤ lo) (hcat : ((st.map (gj_tv E.2.1)).map fun v => v.category).sum ≤ 8) (hd : decode cc pc = .ok (.invokevirtual idx, 3)) (k : gj_H E X nL ce sl Q (pc + 3) lv ((gj_i x) :: st) y) : gj_H E X nL ce sl Q pc lv (gj_r 188 :: st) σ :=
  gj_callV hO (o := 188) (vs := []) (m_X9_entering  hf) (gj_I9 hw) hl wk_829 wk_830 wk_629 wk_831 hw kd_188 (by decide) (ci := 9) rfl (n := 0) (by decide +kernel) rfl hf1 hf2 rfl hcat hd k
def fb_X9_apexOf_l5 (σ : gj_S) (a10005 : (Int32 × Int32)) : Option (Int32 ⊕ (Int32 × Int32)) := (if a10005.1 = a10005.2 then some (.inl a10005.1) else (if gj_in a10005.1 9 then (if gj_in a10005.2 9 then (if (σ.1 204 (Int32.toNatClampNeg a10005.1)) < (σ.1 204 (Int32.toNatClampNeg a10005.2)) then ((f_X9_aboveOf a10005.2 σ).bind fun x10503 => some (.inr (a10005.1, x10503))) else ((f_X9_aboveOf a10005.1 σ).bind fun x10504 => some (.inr (x10504, a10005.2)))) else none) else none))
def f_X9_apexOf (b1 : Int32) (b2 : Int32) (σ : gj_S) : Option Int32 := ((gj_lp (fb_X9_apexOf_l5 σ) 5000 (b1, b2)).bind fun z1 => some z1)
set_option maxHeartbeats 4000000 in
set_option maxRecDepth 100000 in
theorem sb_X9_apexOf_l5 {E : gj_E} {X : gj_X} {r : Option gj_V} {τ : gj_S} (hO : gj_O E X RX9 cX9_apexOf 5 (some .int) 2 43) {σ : gj_S} {a10005_0 : Int32} {a10005_1 : Int32} {x : Int32 ⊕ (Int32 × Int32)} (hf : fb_X9_apexOf_l5 σ (a10005_0, a10005_1) = some x) (K : gj_K (fun z1 => gj_G E X 5 r τ 47 [(3, gj_i z1)] [] σ) (fun a10005 => gj_G E X 5 r τ 5 [(0, gj_r 188), (3, gj_i a10005.1), (4, gj_i a10005.2)] [] σ) x) : gj_G E X 5 r τ 5 [(0, gj_r 188), (3, gj_i a10005_0), (4, gj_i a10005_1)] [] σ := by
  unfold fb_X9_apexOf_l5 at hf
  dsimp only at hf
  refine gj_iload_n hO 1 dX9_apexOf_5 rfl rfl ?_
  refine gj_iload hO 2 dX9_apexOf_6 rfl ?_
  refine gj_icmp_eq (tgt := 47) hO dX9_apexOf_8 (by decide) (fun h => ?_) (fun h => ?_)
  · replace hf := gj_t h hf
    obtain rfl := Option.some.inj hf
    refine gj_sub (lv2 := [(3, gj_i a10005_0)]) [1] rfl ?_
    exact K
  · replace hf := gj_f h hf
    refine gj_aload_n hO 0 dX9_apexOf_11 rfl rfl ?_
    refine gt_X9_28 hO wk_763 dX9_apexOf_12 ?_
    refine gj_iload_n hO 1 dX9_apexOf_15 rfl rfl ?_
    obtain ⟨hb10501, hf⟩ := gj_c hf
    refine gj_iald hO kl_204 kd_204 hb10501 dX9_apexOf_16 ?_
    refine gj_aload_n hO 0 dX9_apexOf_17 rfl rfl ?_
    refine gt_X9_28 hO wk_763 dX9_apexOf_18 ?_
    refine gj_iload hO 2 dX9_apexOf_21 rfl ?_
    obtain ⟨hb10502, hf⟩ := gj_c hf
    refine gj_iald hO kl_204 kd_204 hb10502 dX9_apexOf_23 ?_
    refine gj_icmp_lt (tgt := 36) hO dX9_apexOf_24 (by decide) (fun h => ?_) (fun h => ?_)
    · replace hf := gj_t h hf
      refine gj_aload_n hO 0 dX9_apexOf_36 rfl rfl ?_
      refine gj_iload hO 2 dX9_apexOf_37 rfl ?_
      obtain ⟨x10503, hc10503, hf⟩ := gj_b hf
      refine ca_X9_aboveOf hO kl_188  hc10503 wk_797 (by decide) (by decide) (Nat.le_of_ble_eq_true rfl) dX9_apexOf_39 ?_
      refine gj_istore (lv2 := [(4, gj_i x10503), (0, gj_r 188), (3, gj_i a10005_0)]) hO dX9_apexOf_42 (by decide) rfl ?_
      refine gj_goto (tgt := 5) hO dX9_apexOf_44 (by decide) ?_
      obtain rfl := Option.some.inj hf
      refine gj_sub (lv2 := [(0, gj_r 188), (3, gj_i a10005_0), (4, gj_i x10503)]) [1, 2, 0] rfl ?_
      exact K
    · replace hf := gj_f h hf
      refine gj_aload_n hO 0 dX9_apexOf_27 rfl rfl ?_
      refine gj_iload_n hO 1 dX9_apexOf_28 rfl rfl ?_
      obtain ⟨x10504, hc10504, hf⟩ := gj_b hf
      refine ca_X9_aboveOf hO kl_188  hc10504 wk_797 (by decide) (by decide) (Nat.le_of_ble_eq_true rfl) dX9_apexOf_29 ?_
      refine gj_istore_n (lv2 := [(3, gj_i x10504), (0, gj_r 188), (4, gj_i a10005_1)]) hO dX9_apexOf_32 rfl (by decide) rfl ?_
      refine gj_goto (tgt := 5) hO dX9_apexOf_33 (by decide) ?_
      obtain rfl := Option.some.inj hf
      refine gj_sub (lv2 := [(0, gj_r 188), (3, gj_i x10504), (4, gj_i a10005_1)]) [1, 0, 2] rfl ?_
      exact K
set_option maxHeartbeats 4000000 in
set_option maxRecDepth 100000 in
theorem m_X9_apexOf {E : gj_E} {σ : gj_S} {b1 : Int32} {b2 : Int32}  {x : Int32} (hf : f_X9_apexOf b1 b2 σ = some x) : gj_M E yX9_apexOf cX9_apexOf 5 (some .int) 2 43 [gj_r 188, gj_i b1, gj_i b2] σ (some (gj_i x)) σ := by
  refine gj_body (lv := [(0, gj_r 188), (1, gj_i b1), (2, gj_i b2)]) (by decide +kernel) (Nat.le_of_ble_eq_true rfl) rfl (fun X hO => ?_)
  replace hO : gj_O E X RX9 cX9_apexOf 5 (some .int) 2 43 := hO
  unfold f_X9_apexOf at hf
  refine gj_iload_n hO 1 dX9_apexOf_0 rfl rfl ?_
  refine gj_istore_n (lv2 := [(3, gj_i b1), (0, gj_r 188), (1, gj_i b1), (2, gj_i b2)]) hO dX9_apexOf_1 rfl (by decide) rfl ?_
  refine gj_iload_n hO 3 dX9_apexOf_2 rfl rfl ?_
  refine gj_istore (lv2 := [(4, gj_i b2), (3, gj_i b1), (0, gj_r 188), (1, gj_i b1), (2, gj_i b2)]) hO dX9_apexOf_3 (by decide) rfl ?_
  obtain ⟨z1, hz1, hf⟩ := gj_b hf
  have J1 : gj_G E X 5 (some (gj_i x)) σ 47 [(3, gj_i z1)] [] σ := by
    refine gj_iload_n hO 0 dX9_apexOf_47 rfl rfl ?_
    obtain rfl := Option.some.inj hf
    exact gj_iret hO dX9_apexOf_48
  refine gj_sub (lv2 := [(0, gj_r 188), (3, gj_i b1), (4, gj_i b2)]) [2, 1, 0] rfl ?_
  exact gj_loop (head := fun a10005 => gj_G E X 5 (some (gj_i x)) σ 5 [(0, gj_r 188), (3, gj_i a10005.1), (4, gj_i a10005.2)] [] σ) (exit := fun z1 => gj_G E X 5 (some (gj_i x)) σ 47 [(3, gj_i z1)] [] σ) (fun a10005 x hf K => by obtain ⟨a10005_0, a10005_1⟩ := a10005; exact sb_X9_apexOf_l5 hO hf K) _ _ _ hz1 J1
set_option maxHeartbeats 4000000 in
set_option maxRecDepth 100000 in
theorem ca_X9_apexOf {E : gj_E} {X : gj_X} {own : String} {cc : ByteArray} {nL : Nat} {rt : Option FieldType} {fr lo : Nat} {ce sl : Nat} {Q : State → Prop} {pc : Nat} {lv : List (Nat × gj_V)} {st : List gj_V} {σ : gj_S} (hO : gj_O E X own cc nL rt fr lo) (hw : gj_lt own 188) {b1 : Int32} {b2 : Int32}  {idx : Nat} {x : Int32} (hf : f_X9_apexOf b1 b2 σ = some x) (hl : Cond.methodLink own idx yX9_apexOf ∈ gj_gw) (hf1 : 3 ≤ fr) (hf2 : 67 ≤ lo) (hcat : ((st.map (gj_tv E.2.1)).map fun v => v.category).sum ≤ 8) (hd : decode cc pc = .ok (.invokevirtual idx, 3)) (k : gj_H E X nL ce sl Q (pc + 3) lv ((gj_i x) :: st) σ) : gj_H E X nL ce sl Q pc lv (gj_i b2 :: gj_i b1 :: gj_r 188 :: st) σ :=
  gj_callV hO (o := 188) (vs := [gj_i b1, gj_i b2]) (m_X9_apexOf  hf) (gj_I9 hw) hl wk_832 wk_833 wk_629 wk_834 hw kd_188 (by decide) (ci := 9) rfl (n := 2) (by decide +kernel) rfl hf1 hf2 rfl hcat hd k
def f_X9_roomOf (b1 : Int32) (b2 : Int32) (σ : gj_S) : Option Int32 := (if gj_in b1 24 then (if (σ.1 206 (Int32.toNatClampNeg b1)) = b2 then ((f_X9_holdsOf b2 σ).bind fun x11 => some x11) else (if gj_in b1 24 then (if (σ.1 207 (Int32.toNatClampNeg b1)) = 0 then (if gj_in b1 24 then (if gj_in ((50 : Int32) + (σ.1 206 (Int32.toNatClampNeg b1))) 180 then some (σ.1 198 (Int32.toNatClampNeg ((50 : Int32) + (σ.1 206 (Int32.toNatClampNeg b1))))) else none) else none) else (if gj_in b1 24 then (if gj_in (0 : Int32) 2 then (if (σ.1 191 (Int32.toNatClampNeg (0 : Int32))) ≤ (σ.1 206 (Int32.toNatClampNeg b1)) then some (1000000000 : Int32) else (if gj_in b1 24 then (if gj_in ((24 : Int32) + (σ.1 206 (Int32.toNatClampNeg b1))) 180 then (if gj_in b1 24 then (if gj_in ((50 : Int32) + (σ.1 206 (Int32.toNatClampNeg b1))) 180 then some ((σ.1 198 (Int32.toNatClampNeg ((24 : Int32) + (σ.1 206 (Int32.toNatClampNeg b1))))) - (σ.1 198 (Int32.toNatClampNeg ((50 : Int32) + (σ.1 206 (Int32.toNatClampNeg b1)))))) else none) else none) else none) else none)) else none) else none)) else none)) else none)
set_option maxHeartbeats 4000000 in
set_option maxRecDepth 100000 in
theorem m_X9_roomOf {E : gj_E} {σ : gj_S} {b1 : Int32} {b2 : Int32}  {x : Int32} (hf : f_X9_roomOf b1 b2 σ = some x) : gj_M E yX9_roomOf cX9_roomOf 3 (some .int) 1 21 [gj_r 188, gj_i b1, gj_i b2] σ (some (gj_i x)) σ := by
  refine gj_body (lv := [(0, gj_r 188), (1, gj_i b1), (2, gj_i b2)]) (by decide +kernel) (Nat.le_of_ble_eq_true rfl) rfl (fun X hO => ?_)
  replace hO : gj_O E X RX9 cX9_roomOf 3 (some .int) 1 21 := hO
  unfold f_X9_roomOf at hf
  refine gj_aload_n hO 0 dX9_roomOf_0 rfl rfl ?_
  refine gt_X9_31 hO wk_835 dX9_roomOf_1 ?_
  refine gj_iload_n hO 1 dX9_roomOf_4 rfl rfl ?_
  obtain ⟨hb1, hf⟩ := gj_c hf
  refine gj_iald hO kl_206 kd_206 hb1 dX9_roomOf_5 ?_
  refine gj_iload_n hO 2 dX9_roomOf_6 rfl rfl ?_
  refine gj_icmp_ne (tgt := 16) hO dX9_roomOf_7 (by decide) (fun h => ?_) (fun h => ?_)
  · replace hf := gj_f h hf
    refine gj_aload_n hO 0 dX9_roomOf_16 rfl rfl ?_
    refine gt_X9_32 hO wk_836 dX9_roomOf_17 ?_
    refine gj_iload_n hO 1 dX9_roomOf_20 rfl rfl ?_
    obtain ⟨hb2, hf⟩ := gj_c hf
    refine gj_zald hO kl_207 kd_207 hb2 dX9_roomOf_21 ?_
    refine gj_if_ne (tgt := 40) hO dX9_roomOf_22 (by decide) (fun h => ?_) (fun h => ?_)
    · replace hf := gj_f h hf
      refine gj_aload_n hO 0 dX9_roomOf_40 rfl rfl ?_
      refine gt_X9_31 hO wk_835 dX9_roomOf_41 ?_
      refine gj_iload_n hO 1 dX9_roomOf_44 rfl rfl ?_
      obtain ⟨hb3, hf⟩ := gj_c hf
      refine gj_iald hO kl_206 kd_206 hb3 dX9_roomOf_45 ?_
      refine gj_aload_n hO 0 dX9_roomOf_46 rfl rfl ?_
      refine gt_X9_12 hO wk_693 dX9_roomOf_47 ?_
      refine gj_iconst (v := 0) hO dX9_roomOf_50 (by decide) ?_
      obtain ⟨hb4, hf⟩ := gj_c hf
      refine gj_iald hO kl_191 kd_191 hb4 dX9_roomOf_51 ?_
      refine gj_icmp_ge (tgt := 87) hO dX9_roomOf_52 (by decide) (fun h => ?_) (fun h => ?_)
      · replace hf := gj_t h hf
        refine gj_ldc hO wk_758 dX9_roomOf_87 ?_
        obtain rfl := Option.some.inj hf
        exact gj_iret hO dX9_roomOf_89
      · replace hf := gj_f h hf
        refine gj_aload_n hO 0 dX9_roomOf_55 rfl rfl ?_
        refine gt_X9_21 hO wk_725 dX9_roomOf_56 ?_
        refine gj_bipush (v := 24) hO dX9_roomOf_59 (by decide) ?_
        refine gj_aload_n hO 0 dX9_roomOf_61 rfl rfl ?_
        refine gt_X9_31 hO wk_835 dX9_roomOf_62 ?_
        refine gj_iload_n hO 1 dX9_roomOf_65 rfl rfl ?_
        obtain ⟨hb5, hf⟩ := gj_c hf
        refine gj_iald hO kl_206 kd_206 hb5 dX9_roomOf_66 ?_
        refine gj_iadd hO dX9_roomOf_67 ?_
        obtain ⟨hb6, hf⟩ := gj_c hf
        refine gj_iald hO kl_198 kd_198 hb6 dX9_roomOf_68 ?_
        refine gj_aload_n hO 0 dX9_roomOf_69 rfl rfl ?_
        refine gt_X9_21 hO wk_725 dX9_roomOf_70 ?_
        refine gj_bipush (v := 50) hO dX9_roomOf_73 (by decide) ?_
        refine gj_aload_n hO 0 dX9_roomOf_75 rfl rfl ?_
        refine gt_X9_31 hO wk_835 dX9_roomOf_76 ?_
        refine gj_iload_n hO 1 dX9_roomOf_79 rfl rfl ?_
        obtain ⟨hb7, hf⟩ := gj_c hf
        refine gj_iald hO kl_206 kd_206 hb7 dX9_roomOf_80 ?_
        refine gj_iadd hO dX9_roomOf_81 ?_
        obtain ⟨hb8, hf⟩ := gj_c hf
        refine gj_iald hO kl_198 kd_198 hb8 dX9_roomOf_82 ?_
        refine gj_isub hO dX9_roomOf_83 ?_
        refine gj_goto (tgt := 89) hO dX9_roomOf_84 (by decide) ?_
        obtain rfl := Option.some.inj hf
        exact gj_iret hO dX9_roomOf_89
    · replace hf := gj_t h hf
      refine gj_aload_n hO 0 dX9_roomOf_25 rfl rfl ?_
      refine gt_X9_21 hO wk_725 dX9_roomOf_26 ?_
      refine gj_bipush (v := 50) hO dX9_roomOf_29 (by decide) ?_
      refine gj_aload_n hO 0 dX9_roomOf_31 rfl rfl ?_
      refine gt_X9_31 hO wk_835 dX9_roomOf_32 ?_
      refine gj_iload_n hO 1 dX9_roomOf_35 rfl rfl ?_
      obtain ⟨hb9, hf⟩ := gj_c hf
      refine gj_iald hO kl_206 kd_206 hb9 dX9_roomOf_36 ?_
      refine gj_iadd hO dX9_roomOf_37 ?_
      obtain ⟨hb10, hf⟩ := gj_c hf
      refine gj_iald hO kl_198 kd_198 hb10 dX9_roomOf_38 ?_
      obtain rfl := Option.some.inj hf
      exact gj_iret hO dX9_roomOf_39
  · replace hf := gj_t h hf
    refine gj_aload_n hO 0 dX9_roomOf_10 rfl rfl ?_
    refine gj_iload_n hO 2 dX9_roomOf_11 rfl rfl ?_
    obtain ⟨x11, hc11, hf⟩ := gj_b hf
    refine ca_X9_holdsOf hO kl_188  hc11 wk_837 (by decide) (by decide) (Nat.le_of_ble_eq_true rfl) dX9_roomOf_12 ?_
    obtain rfl := Option.some.inj hf
    exact gj_iret hO dX9_roomOf_15
set_option maxHeartbeats 4000000 in
set_option maxRecDepth 100000 in
theorem ca_X9_roomOf {E : gj_E} {X : gj_X} {own : String} {cc : ByteArray} {nL : Nat} {rt : Option FieldType} {fr lo : Nat} {ce sl : Nat} {Q : State → Prop} {pc : Nat} {lv : List (Nat × gj_V)} {st : List gj_V} {σ : gj_S} (hO : gj_O E X own cc nL rt fr lo) (hw : gj_lt own 188) {b1 : Int32} {b2 : Int32}  {idx : Nat} {x : Int32} (hf : f_X9_roomOf b1 b2 σ = some x) (hl : Cond.methodLink own idx yX9_roomOf ∈ gj_gw) (hf1 : 2 ≤ fr) (hf2 : 43 ≤ lo) (hcat : ((st.map (gj_tv E.2.1)).map fun v => v.category).sum ≤ 8) (hd : decode cc pc = .ok (.invokevirtual idx, 3)) (k : gj_H E X nL ce sl Q (pc + 3) lv ((gj_i x) :: st) σ) : gj_H E X nL ce sl Q pc lv (gj_i b2 :: gj_i b1 :: gj_r 188 :: st) σ :=
  gj_callV hO (o := 188) (vs := [gj_i b1, gj_i b2]) (m_X9_roomOf  hf) (gj_I9 hw) hl wk_838 wk_839 wk_629 wk_840 hw kd_188 (by decide) (ci := 9) rfl (n := 2) (by decide +kernel) rfl hf1 hf2 rfl hcat hd k
def fb_X9_laysRing_l96 (b1 : Int32) (b2 : Int32) (b4 : Int32) (a10096 : (Int32 × Int32 × gj_S)) : Option (gj_S ⊕ (Int32 × Int32 × gj_S)) := (if a10096.2.1 = (a10096.2.2.1 188 34) then some (.inl a10096.2.2) else (if gj_in a10096.2.1 9 then (if gj_in (a10096.1 + (-1)) 24 then ((f_X9_isUpward a10096.2.1 (gj_sI a10096.2.2 206 (upd (a10096.2.2.1 206) (Int32.toNatClampNeg (a10096.1 + (-1))) (a10096.2.2.1 203 (Int32.toNatClampNeg a10096.2.1))))).bind fun x19603 => ((if x19603 = 0 then some (1 : Int32) else some (0 : Int32) : Option Int32).bind fun z19604 => (if gj_in (a10096.1 + (-1)) 24 then ((some (gj_sI (gj_sI a10096.2.2 206 (upd (a10096.2.2.1 206) (Int32.toNatClampNeg (a10096.1 + (-1))) (a10096.2.2.1 203 (Int32.toNatClampNeg a10096.2.1)))) 207 (upd ((gj_sI a10096.2.2 206 (upd (a10096.2.2.1 206) (Int32.toNatClampNeg (a10096.1 + (-1))) (a10096.2.2.1 203 (Int32.toNatClampNeg a10096.2.1)))).1 207) (Int32.toNatClampNeg (a10096.1 + (-1))) (vp_nar .boolean z19604)))).bind fun s19606 => ((f_X9_aboveOf a10096.2.1 s19606).bind fun x19607 => some (.inr ((a10096.1 + (-1)), x19607, s19606)))) else none))) else none) else none))
def fb_X9_laysRing_l188 (b1 : Int32) (a10188 : (Int32 × gj_S)) : Option (gj_S ⊕ (Int32 × gj_S)) := (if a10188.1 = (a10188.2.1 188 34) then some (.inl a10188.2) else (if gj_in a10188.1 9 then (if gj_in (a10188.2.1 188 33) 24 then ((f_X9_isUpward a10188.1 (gj_sI a10188.2 206 (upd (a10188.2.1 206) (Int32.toNatClampNeg (a10188.2.1 188 33)) (a10188.2.1 203 (Int32.toNatClampNeg a10188.1))))).bind fun x28803 => (if gj_in ((gj_sI a10188.2 206 (upd (a10188.2.1 206) (Int32.toNatClampNeg (a10188.2.1 188 33)) (a10188.2.1 203 (Int32.toNatClampNeg a10188.1)))).1 188 33) 24 then ((some (gj_sI (gj_sI a10188.2 206 (upd (a10188.2.1 206) (Int32.toNatClampNeg (a10188.2.1 188 33)) (a10188.2.1 203 (Int32.toNatClampNeg a10188.1)))) 207 (upd ((gj_sI a10188.2 206 (upd (a10188.2.1 206) (Int32.toNatClampNeg (a10188.2.1 188 33)) (a10188.2.1 203 (Int32.toNatClampNeg a10188.1)))).1 207) (Int32.toNatClampNeg ((gj_sI a10188.2 206 (upd (a10188.2.1 206) (Int32.toNatClampNeg (a10188.2.1 188 33)) (a10188.2.1 203 (Int32.toNatClampNeg a10188.1)))).1 188 33)) (vp_nar .boolean x28803)))).bind fun s28805 => ((f_X9_aboveOf a10188.1 (gj_sI s28805 188 (upd (s28805.1 188) 33 ((s28805.1 188 33) + (1 : Int32))))).bind fun x28806 => some (.inr (x28806, (gj_sI s28805 188 (upd (s28805.1 188) 33 ((s28805.1 188 33) + (1 : Int32)))))))) else none)) else none) else none))
def fb_X9_laysRing_l263 (b1 : Int32) (a10263 : (Int32 × gj_S)) : Option (gj_S ⊕ (Int32 × gj_S)) := (if (a10263.2.1 188 33) ≤ a10263.1 then some (.inl a10263.2) else ((f_X9_roomOf a10263.1 b1 a10263.2).bind fun x36301 => (if x36301 ≤ (a10263.2.1 188 35) then some (.inr ((a10263.1 + 1), (gj_sI (gj_sI a10263.2 188 (upd (a10263.2.1 188) 35 x36301)) 188 (upd ((gj_sI a10263.2 188 (upd (a10263.2.1 188) 35 x36301)).1 188) 36 a10263.1)))) else some (.inr ((a10263.1 + 1), a10263.2)))))
def f_X9_laysRing (b1 : Int32) (σ : gj_S) : Option gj_S := (if gj_in ((74 : Int32) + b1) 180 then ((if (σ.1 198 (Int32.toNatClampNeg ((74 : Int32) + b1))) = (1 : Int32) then some (1 : Int32) else some (0 : Int32) : Option Int32).bind fun z2 => ((if z2 = 0 then ((f_X9_endOf b1 σ).bind fun x4 => some x4) else ((f_X9_beginOf b1 σ).bind fun x5 => some x5) : Option Int32).bind fun z3 => ((if z2 = 0 then ((f_X9_beginOf b1 σ).bind fun x7 => some x7) else ((f_X9_endOf b1 σ).bind fun x8 => some x8) : Option Int32).bind fun z6 => ((f_X9_apexOf z3 z6 σ).bind fun x9 => (if gj_in z3 9 then (if gj_in ((gj_sI σ 188 (upd (σ.1 188) 34 x9)).1 188 34) 9 then ((some (gj_sI (gj_sI σ 188 (upd (σ.1 188) 34 x9)) 188 (upd ((gj_sI σ 188 (upd (σ.1 188) 34 x9)).1 188) 33 (((gj_sI σ 188 (upd (σ.1 188) 34 x9)).1 204 (Int32.toNatClampNeg z3)) - ((gj_sI σ 188 (upd (σ.1 188) 34 x9)).1 204 (Int32.toNatClampNeg ((gj_sI σ 188 (upd (σ.1 188) 34 x9)).1 188 34))))))).bind fun s12 => ((gj_lp (fb_X9_laysRing_l96 b1 z2 z6) 5000 ((s12.1 188 33), z3, s12)).bind fun z13 => (if gj_in (z13.1 188 33) 24 then (if gj_in ((gj_sI z13 206 (upd (z13.1 206) (Int32.toNatClampNeg (z13.1 188 33)) b1)).1 188 33) 24 then ((some (gj_sI (gj_sI z13 206 (upd (z13.1 206) (Int32.toNatClampNeg (z13.1 188 33)) b1)) 207 (upd ((gj_sI z13 206 (upd (z13.1 206) (Int32.toNatClampNeg (z13.1 188 33)) b1)).1 207) (Int32.toNatClampNeg ((gj_sI z13 206 (upd (z13.1 206) (Int32.toNatClampNeg (z13.1 188 33)) b1)).1 188 33)) (vp_nar .boolean z2)))).bind fun s16 => ((gj_lp (fb_X9_laysRing_l188 b1) 5000 (z6, (gj_sI s16 188 (upd (s16.1 188) 33 ((s16.1 188 33) + (1 : Int32)))))).bind fun z17 => ((gj_lp (fb_X9_laysRing_l263 b1) 5000 ((0 : Int32), (gj_sI (gj_sI z17 188 (upd (z17.1 188) 35 (1000000000 : Int32))) 188 (upd ((gj_sI z17 188 (upd (z17.1 188) 35 (1000000000 : Int32))).1 188) 36 (-1 : Int32))))).bind fun z18 => some z18))) else none) else none))) else none) else none))))) else none)
set_option maxHeartbeats 4000000 in
set_option maxRecDepth 100000 in
theorem sb_X9_laysRing_l96 {E : gj_E} {X : gj_X} {r : Option gj_V} {τ : gj_S} (hO : gj_O E X RX9 cX9_laysRing 8 none 3 67) {b1 : Int32} {b2 : Int32} {b4 : Int32} {a10096_0 : Int32} {a10096_1 : Int32} {a10096_2 : gj_S} {x : gj_S ⊕ (Int32 × Int32 × gj_S)} (hf : fb_X9_laysRing_l96 b1 b2 b4 (a10096_0, a10096_1, a10096_2) = some x) (K : gj_K (fun z13 => gj_G E X 8 r τ 154 [(0, gj_r 188), (1, gj_i b1), (2, gj_i b2), (4, gj_i b4)] [] z13) (fun a10096 => gj_G E X 8 r τ 96 [(0, gj_r 188), (1, gj_i b1), (2, gj_i b2), (4, gj_i b4), (5, gj_i a10096.1), (6, gj_i a10096.2.1)] [] a10096.2.2) x) : gj_G E X 8 r τ 96 [(0, gj_r 188), (1, gj_i b1), (2, gj_i b2), (4, gj_i b4), (5, gj_i a10096_0), (6, gj_i a10096_1)] [] a10096_2 := by
  unfold fb_X9_laysRing_l96 at hf
  dsimp only at hf
  refine gj_iload hO 5 dX9_laysRing_96 rfl ?_
  refine gj_aload_n hO 0 dX9_laysRing_98 rfl rfl ?_
  refine gt_X9_34 hO wk_842 dX9_laysRing_99 ?_
  refine gj_icmp_eq (tgt := 154) hO dX9_laysRing_102 (by decide) (fun h => ?_) (fun h => ?_)
  · replace hf := gj_t h hf
    obtain rfl := Option.some.inj hf
    refine gj_sub (lv2 := [(0, gj_r 188), (1, gj_i b1), (2, gj_i b2), (4, gj_i b4)]) [0, 1, 2, 3] rfl ?_
    exact K
  · replace hf := gj_f h hf
    refine gj_iinc (v := (a10096_0 + (-1))) (lv2 := [(5, gj_i (a10096_0 + (-1))), (0, gj_r 188), (1, gj_i b1), (2, gj_i b2), (4, gj_i b4), (6, gj_i a10096_1)]) hO 4 dX9_laysRing_105 rfl rfl (by decide) rfl ?_
    refine gj_aload_n hO 1 dX9_laysRing_108 rfl rfl ?_
    refine gt_X9_31 hO wk_835 dX9_laysRing_109 ?_
    refine gj_iload hO 0 dX9_laysRing_112 rfl ?_
    refine gj_aload_n hO 1 dX9_laysRing_114 rfl rfl ?_
    refine gt_X9_27 hO wk_762 dX9_laysRing_115 ?_
    refine gj_iload hO 5 dX9_laysRing_118 rfl ?_
    obtain ⟨hb19601, hf⟩ := gj_c hf
    refine gj_iald hO kl_203 kd_203 hb19601 dX9_laysRing_120 ?_
    obtain ⟨hb19602, hf⟩ := gj_c hf
    refine gj_iast hO kl_206 kd_206 hb19602 dX9_laysRing_121 ?_
    refine gj_aload_n hO 1 dX9_laysRing_122 rfl rfl ?_
    refine gt_X9_32 hO wk_836 dX9_laysRing_123 ?_
    refine gj_iload hO 0 dX9_laysRing_126 rfl ?_
    refine gj_aload_n hO 1 dX9_laysRing_128 rfl rfl ?_
    refine gj_iload hO 5 dX9_laysRing_129 rfl ?_
    obtain ⟨x19603, hc19603, hf⟩ := gj_b hf
    refine ca_X9_isUpward hO kl_188  hc19603 wk_844 (by decide) (by decide) (Nat.le_of_ble_eq_true rfl) dX9_laysRing_131 ?_
    obtain ⟨z19604, hz19604, hf⟩ := gj_b hf
    have J19604 : gj_G E X 8 r τ 142 [(0, gj_r 188), (1, gj_i b1), (2, gj_i b2), (4, gj_i b4), (5, gj_i (a10096_0 + (-1))), (6, gj_i a10096_1)] [gj_i z19604, gj_i (a10096_0 + (-1)), gj_r 207] (gj_sI a10096_2 206 (upd (a10096_2.1 206) (Int32.toNatClampNeg (a10096_0 + (-1))) (a10096_2.1 203 (Int32.toNatClampNeg a10096_1)))) := by
      obtain ⟨hb19605, hf⟩ := gj_c hf
      refine gj_zast hO kl_207 kd_207 hb19605 dX9_laysRing_142 ?_
      obtain ⟨s19606, e19606, hf⟩ := gj_b hf
      refine gj_eqS (Option.some.inj e19606) ?_
      refine gj_aload_n hO 0 dX9_laysRing_143 rfl rfl ?_
      refine gj_iload hO 5 dX9_laysRing_144 rfl ?_
      obtain ⟨x19607, hc19607, hf⟩ := gj_b hf
      refine ca_X9_aboveOf hO kl_188  hc19607 wk_797 (by decide) (by decide) (Nat.le_of_ble_eq_true rfl) dX9_laysRing_146 ?_
      refine gj_istore (lv2 := [(6, gj_i x19607), (0, gj_r 188), (1, gj_i b1), (2, gj_i b2), (4, gj_i b4), (5, gj_i (a10096_0 + (-1)))]) hO dX9_laysRing_149 (by decide) rfl ?_
      refine gj_goto (tgt := 96) hO dX9_laysRing_151 (by decide) ?_
      obtain rfl := Option.some.inj hf
      refine gj_sub (lv2 := [(0, gj_r 188), (1, gj_i b1), (2, gj_i b2), (4, gj_i b4), (5, gj_i (a10096_0 + (-1))), (6, gj_i x19607)]) [1, 2, 3, 4, 5, 0] rfl ?_
      exact K
    refine gj_if_ne (tgt := 141) hO dX9_laysRing_134 (by decide) (fun h => ?_) (fun h => ?_)
    · replace hz19604 := gj_f h hz19604
      refine gj_iconst (v := 0) hO dX9_laysRing_141 (by decide) ?_
      obtain rfl := Option.some.inj hz19604
      refine gj_sub (lv2 := [(0, gj_r 188), (1, gj_i b1), (2, gj_i b2), (4, gj_i b4), (5, gj_i (a10096_0 + (-1))), (6, gj_i a10096_1)]) [1, 2, 3, 4, 0, 5] rfl ?_
      exact J19604
    · replace hz19604 := gj_t h hz19604
      refine gj_iconst (v := 1) hO dX9_laysRing_137 (by decide) ?_
      refine gj_goto (tgt := 142) hO dX9_laysRing_138 (by decide) ?_
      obtain rfl := Option.some.inj hz19604
      refine gj_sub (lv2 := [(0, gj_r 188), (1, gj_i b1), (2, gj_i b2), (4, gj_i b4), (5, gj_i (a10096_0 + (-1))), (6, gj_i a10096_1)]) [1, 2, 3, 4, 0, 5] rfl ?_
      exact J19604
set_option maxHeartbeats 4000000 in
set_option maxRecDepth 100000 in
theorem sb_X9_laysRing_l188 {E : gj_E} {X : gj_X} {r : Option gj_V} {τ : gj_S} (hO : gj_O E X RX9 cX9_laysRing 8 none 3 67) {b1 : Int32} {a10188_0 : Int32} {a10188_1 : gj_S} {x : gj_S ⊕ (Int32 × gj_S)} (hf : fb_X9_laysRing_l188 b1 (a10188_0, a10188_1) = some x) (K : gj_K (fun z17 => gj_G E X 8 r τ 249 [(0, gj_r 188), (1, gj_i b1)] [] z17) (fun a10188 => gj_G E X 8 r τ 188 [(0, gj_r 188), (1, gj_i b1), (6, gj_i a10188.1)] [] a10188.2) x) : gj_G E X 8 r τ 188 [(0, gj_r 188), (1, gj_i b1), (6, gj_i a10188_0)] [] a10188_1 := by
  unfold fb_X9_laysRing_l188 at hf
  dsimp only at hf
  refine gj_iload hO 2 dX9_laysRing_188 rfl ?_
  refine gj_aload_n hO 0 dX9_laysRing_190 rfl rfl ?_
  refine gt_X9_34 hO wk_842 dX9_laysRing_191 ?_
  refine gj_icmp_eq (tgt := 249) hO dX9_laysRing_194 (by decide) (fun h => ?_) (fun h => ?_)
  · replace hf := gj_t h hf
    obtain rfl := Option.some.inj hf
    refine gj_sub (lv2 := [(0, gj_r 188), (1, gj_i b1)]) [0, 1] rfl ?_
    exact K
  · replace hf := gj_f h hf
    refine gj_aload_n hO 0 dX9_laysRing_197 rfl rfl ?_
    refine gt_X9_31 hO wk_835 dX9_laysRing_198 ?_
    refine gj_aload_n hO 0 dX9_laysRing_201 rfl rfl ?_
    refine gt_X9_33 hO wk_843 dX9_laysRing_202 ?_
    refine gj_aload_n hO 0 dX9_laysRing_205 rfl rfl ?_
    refine gt_X9_27 hO wk_762 dX9_laysRing_206 ?_
    refine gj_iload hO 2 dX9_laysRing_209 rfl ?_
    obtain ⟨hb28801, hf⟩ := gj_c hf
    refine gj_iald hO kl_203 kd_203 hb28801 dX9_laysRing_211 ?_
    obtain ⟨hb28802, hf⟩ := gj_c hf
    refine gj_iast hO kl_206 kd_206 hb28802 dX9_laysRing_212 ?_
    refine gj_aload_n hO 0 dX9_laysRing_213 rfl rfl ?_
    refine gt_X9_32 hO wk_836 dX9_laysRing_214 ?_
    refine gj_aload_n hO 0 dX9_laysRing_217 rfl rfl ?_
    refine gt_X9_33 hO wk_843 dX9_laysRing_218 ?_
    refine gj_aload_n hO 0 dX9_laysRing_221 rfl rfl ?_
    refine gj_iload hO 2 dX9_laysRing_222 rfl ?_
    obtain ⟨x28803, hc28803, hf⟩ := gj_b hf
    refine ca_X9_isUpward hO kl_188  hc28803 wk_844 (by decide) (by decide) (Nat.le_of_ble_eq_true rfl) dX9_laysRing_224 ?_
    obtain ⟨hb28804, hf⟩ := gj_c hf
    refine gj_zast hO kl_207 kd_207 hb28804 dX9_laysRing_227 ?_
    obtain ⟨s28805, e28805, hf⟩ := gj_b hf
    refine gj_eqS (Option.some.inj e28805) ?_
    refine gj_aload_n hO 0 dX9_laysRing_228 rfl rfl ?_
    refine gj_dup hO dX9_laysRing_229 trivial ?_
    refine gt_X9_33 hO wk_843 dX9_laysRing_230 ?_
    refine gj_iconst (v := 1) hO dX9_laysRing_233 (by decide) ?_
    refine gj_iadd hO dX9_laysRing_234 ?_
    refine pt_X9_33 hO wk_843 dX9_laysRing_235 ?_
    refine gj_aload_n hO 0 dX9_laysRing_238 rfl rfl ?_
    refine gj_iload hO 2 dX9_laysRing_239 rfl ?_
    obtain ⟨x28806, hc28806, hf⟩ := gj_b hf
    refine ca_X9_aboveOf hO kl_188  hc28806 wk_797 (by decide) (by decide) (Nat.le_of_ble_eq_true rfl) dX9_laysRing_241 ?_
    refine gj_istore (lv2 := [(6, gj_i x28806), (0, gj_r 188), (1, gj_i b1)]) hO dX9_laysRing_244 (by decide) rfl ?_
    refine gj_goto (tgt := 188) hO dX9_laysRing_246 (by decide) ?_
    obtain rfl := Option.some.inj hf
    refine gj_sub (lv2 := [(0, gj_r 188), (1, gj_i b1), (6, gj_i x28806)]) [1, 2, 0] rfl ?_
    exact K
set_option maxHeartbeats 4000000 in
set_option maxRecDepth 100000 in
theorem sb_X9_laysRing_l263 {E : gj_E} {X : gj_X} {r : Option gj_V} {τ : gj_S} (hO : gj_O E X RX9 cX9_laysRing 8 none 3 67) {b1 : Int32} {a10263_0 : Int32} {a10263_1 : gj_S} {x : gj_S ⊕ (Int32 × gj_S)} (hf : fb_X9_laysRing_l263 b1 (a10263_0, a10263_1) = some x) (K : gj_K (fun z18 => gj_G E X 8 r τ 311 [] [] z18) (fun a10263 => gj_G E X 8 r τ 263 [(0, gj_r 188), (1, gj_i b1), (6, gj_i a10263.1)] [] a10263.2) x) : gj_G E X 8 r τ 263 [(0, gj_r 188), (1, gj_i b1), (6, gj_i a10263_0)] [] a10263_1 := by
  unfold fb_X9_laysRing_l263 at hf
  dsimp only at hf
  refine gj_iload hO 2 dX9_laysRing_263 rfl ?_
  refine gj_aload_n hO 0 dX9_laysRing_265 rfl rfl ?_
  refine gt_X9_33 hO wk_843 dX9_laysRing_266 ?_
  refine gj_icmp_ge (tgt := 311) hO dX9_laysRing_269 (by decide) (fun h => ?_) (fun h => ?_)
  · replace hf := gj_t h hf
    obtain rfl := Option.some.inj hf
    refine gj_sub (lv2 := []) [] rfl ?_
    exact K
  · replace hf := gj_f h hf
    refine gj_aload_n hO 0 dX9_laysRing_272 rfl rfl ?_
    refine gj_iload hO 2 dX9_laysRing_273 rfl ?_
    refine gj_iload_n hO 1 dX9_laysRing_275 rfl rfl ?_
    obtain ⟨x36301, hc36301, hf⟩ := gj_b hf
    refine ca_X9_roomOf hO kl_188  hc36301 wk_847 (by decide) (by decide) (Nat.le_of_ble_eq_true rfl) dX9_laysRing_276 ?_
    refine gj_istore (lv2 := [(7, gj_i x36301), (0, gj_r 188), (1, gj_i b1), (6, gj_i a10263_0)]) hO dX9_laysRing_279 (by decide) rfl ?_
    refine gj_iload hO 0 dX9_laysRing_281 rfl ?_
    refine gj_aload_n hO 1 dX9_laysRing_283 rfl rfl ?_
    refine gt_X9_35 hO wk_845 dX9_laysRing_284 ?_
    refine gj_icmp_le (tgt := 293) hO dX9_laysRing_287 (by decide) (fun h => ?_) (fun h => ?_)
    · replace hf := gj_t h hf
      refine gj_aload_n hO 1 dX9_laysRing_293 rfl rfl ?_
      refine gj_iload hO 0 dX9_laysRing_294 rfl ?_
      refine pt_X9_35 hO wk_845 dX9_laysRing_296 ?_
      refine gj_aload_n hO 1 dX9_laysRing_299 rfl rfl ?_
      refine gj_iload hO 3 dX9_laysRing_300 rfl ?_
      refine pt_X9_36 hO wk_846 dX9_laysRing_302 ?_
      refine gj_iinc (v := (a10263_0 + 1)) (lv2 := [(6, gj_i (a10263_0 + 1)), (7, gj_i x36301), (0, gj_r 188), (1, gj_i b1)]) hO 3 dX9_laysRing_305 rfl rfl (by decide) rfl ?_
      refine gj_goto (tgt := 263) hO dX9_laysRing_308 (by decide) ?_
      obtain rfl := Option.some.inj hf
      refine gj_sub (lv2 := [(0, gj_r 188), (1, gj_i b1), (6, gj_i (a10263_0 + 1))]) [2, 3, 0] rfl ?_
      exact K
    · replace hf := gj_f h hf
      refine gj_goto (tgt := 305) hO dX9_laysRing_290 (by decide) ?_
      refine gj_iinc (v := (a10263_0 + 1)) (lv2 := [(6, gj_i (a10263_0 + 1)), (7, gj_i x36301), (0, gj_r 188), (1, gj_i b1)]) hO 3 dX9_laysRing_305 rfl rfl (by decide) rfl ?_
      refine gj_goto (tgt := 263) hO dX9_laysRing_308 (by decide) ?_
      obtain rfl := Option.some.inj hf
      refine gj_sub (lv2 := [(0, gj_r 188), (1, gj_i b1), (6, gj_i (a10263_0 + 1))]) [2, 3, 0] rfl ?_
      exact K
set_option maxHeartbeats 4000000 in
set_option maxRecDepth 100000 in
theorem m_X9_laysRing {E : gj_E} {σ : gj_S} {b1 : Int32}  {x : gj_S} (hf : f_X9_laysRing b1 σ = some x) : gj_M E yX9_laysRing cX9_laysRing 8 none 3 67 [gj_r 188, gj_i b1] σ none x := by
  refine gj_body (lv := [(0, gj_r 188), (1, gj_i b1)]) (by decide +kernel) (Nat.le_of_ble_eq_true rfl) rfl (fun X hO => ?_)
  replace hO : gj_O E X RX9 cX9_laysRing 8 none 3 67 := hO
  unfold f_X9_laysRing at hf
  refine gj_aload_n hO 0 dX9_laysRing_0 rfl rfl ?_
  refine gt_X9_21 hO wk_725 dX9_laysRing_1 ?_
  refine gj_bipush (v := 74) hO dX9_laysRing_4 (by decide) ?_
  refine gj_iload_n hO 1 dX9_laysRing_6 rfl rfl ?_
  refine gj_iadd hO dX9_laysRing_7 ?_
  obtain ⟨hb1, hf⟩ := gj_c hf
  refine gj_iald hO kl_198 kd_198 hb1 dX9_laysRing_8 ?_
  refine gj_iconst (v := 1) hO dX9_laysRing_9 (by decide) ?_
  obtain ⟨z2, hz2, hf⟩ := gj_b hf
  have J2 : gj_G E X 8 none x 18 [(0, gj_r 188), (1, gj_i b1)] [gj_i z2] σ := by
    refine gj_istore_n (lv2 := [(2, gj_i z2), (0, gj_r 188), (1, gj_i b1)]) hO dX9_laysRing_18 rfl (by decide) rfl ?_
    refine gj_iload_n hO 0 dX9_laysRing_19 rfl rfl ?_
    obtain ⟨z3, hz3, hf⟩ := gj_b hf
    have J3 : gj_G E X 8 none x 36 [(0, gj_r 188), (1, gj_i b1), (2, gj_i z2)] [gj_i z3] σ := by
      refine gj_istore_n (lv2 := [(3, gj_i z3), (0, gj_r 188), (1, gj_i b1), (2, gj_i z2)]) hO dX9_laysRing_36 rfl (by decide) rfl ?_
      refine gj_iload_n hO 3 dX9_laysRing_37 rfl rfl ?_
      obtain ⟨z6, hz6, hf⟩ := gj_b hf
      have J6 : gj_G E X 8 none x 54 [(0, gj_r 188), (1, gj_i b1), (2, gj_i z2), (3, gj_i z3)] [gj_i z6] σ := by
        refine gj_istore (lv2 := [(4, gj_i z6), (0, gj_r 188), (1, gj_i b1), (2, gj_i z2), (3, gj_i z3)]) hO dX9_laysRing_54 (by decide) rfl ?_
        refine gj_aload_n hO 1 dX9_laysRing_56 rfl rfl ?_
        refine gj_aload_n hO 1 dX9_laysRing_57 rfl rfl ?_
        refine gj_iload_n hO 4 dX9_laysRing_58 rfl rfl ?_
        refine gj_iload hO 0 dX9_laysRing_59 rfl ?_
        obtain ⟨x9, hc9, hf⟩ := gj_b hf
        refine ca_X9_apexOf hO kl_188  hc9 wk_841 (by decide) (by decide) (Nat.le_of_ble_eq_true rfl) dX9_laysRing_61 ?_
        refine pt_X9_34 hO wk_842 dX9_laysRing_64 ?_
        refine gj_aload_n hO 1 dX9_laysRing_67 rfl rfl ?_
        refine gj_aload_n hO 1 dX9_laysRing_68 rfl rfl ?_
        refine gt_X9_28 hO wk_763 dX9_laysRing_69 ?_
        refine gj_iload_n hO 4 dX9_laysRing_72 rfl rfl ?_
        obtain ⟨hb10, hf⟩ := gj_c hf
        refine gj_iald hO kl_204 kd_204 hb10 dX9_laysRing_73 ?_
        refine gj_aload_n hO 1 dX9_laysRing_74 rfl rfl ?_
        refine gt_X9_28 hO wk_763 dX9_laysRing_75 ?_
        refine gj_aload_n hO 1 dX9_laysRing_78 rfl rfl ?_
        refine gt_X9_34 hO wk_842 dX9_laysRing_79 ?_
        obtain ⟨hb11, hf⟩ := gj_c hf
        refine gj_iald hO kl_204 kd_204 hb11 dX9_laysRing_82 ?_
        refine gj_isub hO dX9_laysRing_83 ?_
        refine pt_X9_33 hO wk_843 dX9_laysRing_84 ?_
        obtain ⟨s12, e12, hf⟩ := gj_b hf
        refine gj_eqS (Option.some.inj e12) ?_
        refine gj_aload_n hO 1 dX9_laysRing_87 rfl rfl ?_
        refine gt_X9_33 hO wk_843 dX9_laysRing_88 ?_
        refine gj_istore (lv2 := [(5, gj_i (s12.1 188 33)), (4, gj_i z6), (0, gj_r 188), (1, gj_i b1), (2, gj_i z2), (3, gj_i z3)]) hO dX9_laysRing_91 (by decide) rfl ?_
        refine gj_iload_n hO 5 dX9_laysRing_93 rfl rfl ?_
        refine gj_istore (lv2 := [(6, gj_i z3), (5, gj_i (s12.1 188 33)), (4, gj_i z6), (0, gj_r 188), (1, gj_i b1), (2, gj_i z2), (3, gj_i z3)]) hO dX9_laysRing_94 (by decide) rfl ?_
        obtain ⟨z13, hz13, hf⟩ := gj_b hf
        have J13 : gj_G E X 8 none x 154 [(0, gj_r 188), (1, gj_i b1), (2, gj_i z2), (4, gj_i z6)] [] z13 := by
          refine gj_aload_n hO 0 dX9_laysRing_154 rfl rfl ?_
          refine gt_X9_31 hO wk_835 dX9_laysRing_155 ?_
          refine gj_aload_n hO 0 dX9_laysRing_158 rfl rfl ?_
          refine gt_X9_33 hO wk_843 dX9_laysRing_159 ?_
          refine gj_iload_n hO 1 dX9_laysRing_162 rfl rfl ?_
          obtain ⟨hb14, hf⟩ := gj_c hf
          refine gj_iast hO kl_206 kd_206 hb14 dX9_laysRing_163 ?_
          refine gj_aload_n hO 0 dX9_laysRing_164 rfl rfl ?_
          refine gt_X9_32 hO wk_836 dX9_laysRing_165 ?_
          refine gj_aload_n hO 0 dX9_laysRing_168 rfl rfl ?_
          refine gt_X9_33 hO wk_843 dX9_laysRing_169 ?_
          refine gj_iload_n hO 2 dX9_laysRing_172 rfl rfl ?_
          obtain ⟨hb15, hf⟩ := gj_c hf
          refine gj_zast hO kl_207 kd_207 hb15 dX9_laysRing_173 ?_
          obtain ⟨s16, e16, hf⟩ := gj_b hf
          refine gj_eqS (Option.some.inj e16) ?_
          refine gj_aload_n hO 0 dX9_laysRing_174 rfl rfl ?_
          refine gj_dup hO dX9_laysRing_175 trivial ?_
          refine gt_X9_33 hO wk_843 dX9_laysRing_176 ?_
          refine gj_iconst (v := 1) hO dX9_laysRing_179 (by decide) ?_
          refine gj_iadd hO dX9_laysRing_180 ?_
          refine pt_X9_33 hO wk_843 dX9_laysRing_181 ?_
          refine gj_iload hO 3 dX9_laysRing_184 rfl ?_
          refine gj_istore (lv2 := [(6, gj_i z6), (0, gj_r 188), (1, gj_i b1), (2, gj_i z2), (4, gj_i z6)]) hO dX9_laysRing_186 (by decide) rfl ?_
          obtain ⟨z17, hz17, hf⟩ := gj_b hf
          have J17 : gj_G E X 8 none x 249 [(0, gj_r 188), (1, gj_i b1)] [] z17 := by
            refine gj_aload_n hO 0 dX9_laysRing_249 rfl rfl ?_
            refine gj_ldc hO wk_758 dX9_laysRing_250 ?_
            refine pt_X9_35 hO wk_845 dX9_laysRing_252 ?_
            refine gj_aload_n hO 0 dX9_laysRing_255 rfl rfl ?_
            refine gj_iconst (v := (-1)) hO dX9_laysRing_256 (by decide) ?_
            refine pt_X9_36 hO wk_846 dX9_laysRing_257 ?_
            refine gj_iconst (v := 0) hO dX9_laysRing_260 (by decide) ?_
            refine gj_istore (lv2 := [(6, gj_i (0 : Int32)), (0, gj_r 188), (1, gj_i b1)]) hO dX9_laysRing_261 (by decide) rfl ?_
            obtain ⟨z18, hz18, hf⟩ := gj_b hf
            have J18 : gj_G E X 8 none x 311 [] [] z18 := by
              obtain rfl := Option.some.inj hf
              exact gj_vret hO dX9_laysRing_311
            refine gj_sub (lv2 := [(0, gj_r 188), (1, gj_i b1), (6, gj_i (0 : Int32))]) [1, 2, 0] rfl ?_
            exact gj_loop (head := fun a10263 => gj_G E X 8 none x 263 [(0, gj_r 188), (1, gj_i b1), (6, gj_i a10263.1)] [] a10263.2) (exit := fun z18 => gj_G E X 8 none x 311 [] [] z18) (fun a10263 x hf K => by obtain ⟨a10263_0, a10263_1⟩ := a10263; exact sb_X9_laysRing_l263 hO hf K) _ _ _ hz18 J18
          refine gj_sub (lv2 := [(0, gj_r 188), (1, gj_i b1), (6, gj_i z6)]) [1, 2, 0] rfl ?_
          exact gj_loop (head := fun a10188 => gj_G E X 8 none x 188 [(0, gj_r 188), (1, gj_i b1), (6, gj_i a10188.1)] [] a10188.2) (exit := fun z17 => gj_G E X 8 none x 249 [(0, gj_r 188), (1, gj_i b1)] [] z17) (fun a10188 x hf K => by obtain ⟨a10188_0, a10188_1⟩ := a10188; exact sb_X9_laysRing_l188 hO hf K) _ _ _ hz17 J17
        refine gj_sub (lv2 := [(0, gj_r 188), (1, gj_i b1), (2, gj_i z2), (4, gj_i z6), (5, gj_i (s12.1 188 33)), (6, gj_i z3)]) [3, 4, 5, 2, 1, 0] rfl ?_
        exact gj_loop (head := fun a10096 => gj_G E X 8 none x 96 [(0, gj_r 188), (1, gj_i b1), (2, gj_i z2), (4, gj_i z6), (5, gj_i a10096.1), (6, gj_i a10096.2.1)] [] a10096.2.2) (exit := fun z13 => gj_G E X 8 none x 154 [(0, gj_r 188), (1, gj_i b1), (2, gj_i z2), (4, gj_i z6)] [] z13) (fun a10096 x hf K => by obtain ⟨a10096_0, a10096_1, a10096_2⟩ := a10096; exact sb_X9_laysRing_l96 hO hf K) _ _ _ hz13 J13
      refine gj_if_eq (tgt := 49) hO dX9_laysRing_38 (by decide) (fun h => ?_) (fun h => ?_)
      · replace hz6 := gj_t h hz6
        refine gj_aload_n hO 1 dX9_laysRing_49 rfl rfl ?_
        refine gj_iload_n hO 2 dX9_laysRing_50 rfl rfl ?_
        obtain ⟨x7, hc7, hz6⟩ := gj_b hz6
        refine ca_X9_beginOf hO kl_188  hc7 wk_768 (by decide) (by decide) (Nat.le_of_ble_eq_true rfl) dX9_laysRing_51 ?_
        obtain rfl := Option.some.inj hz6
        refine gj_sub (lv2 := [(0, gj_r 188), (1, gj_i b1), (2, gj_i z2), (3, gj_i z3)]) [1, 2, 3, 0] rfl ?_
        exact J6
      · replace hz6 := gj_f h hz6
        refine gj_aload_n hO 1 dX9_laysRing_41 rfl rfl ?_
        refine gj_iload_n hO 2 dX9_laysRing_42 rfl rfl ?_
        obtain ⟨x8, hc8, hz6⟩ := gj_b hz6
        refine ca_X9_endOf hO kl_188  hc8 wk_769 (by decide) (by decide) (Nat.le_of_ble_eq_true rfl) dX9_laysRing_43 ?_
        refine gj_goto (tgt := 54) hO dX9_laysRing_46 (by decide) ?_
        obtain rfl := Option.some.inj hz6
        refine gj_sub (lv2 := [(0, gj_r 188), (1, gj_i b1), (2, gj_i z2), (3, gj_i z3)]) [1, 2, 3, 0] rfl ?_
        exact J6
    refine gj_if_eq (tgt := 31) hO dX9_laysRing_20 (by decide) (fun h => ?_) (fun h => ?_)
    · replace hz3 := gj_t h hz3
      refine gj_aload_n hO 1 dX9_laysRing_31 rfl rfl ?_
      refine gj_iload_n hO 2 dX9_laysRing_32 rfl rfl ?_
      obtain ⟨x4, hc4, hz3⟩ := gj_b hz3
      refine ca_X9_endOf hO kl_188  hc4 wk_769 (by decide) (by decide) (Nat.le_of_ble_eq_true rfl) dX9_laysRing_33 ?_
      obtain rfl := Option.some.inj hz3
      refine gj_sub (lv2 := [(0, gj_r 188), (1, gj_i b1), (2, gj_i z2)]) [1, 2, 0] rfl ?_
      exact J3
    · replace hz3 := gj_f h hz3
      refine gj_aload_n hO 1 dX9_laysRing_23 rfl rfl ?_
      refine gj_iload_n hO 2 dX9_laysRing_24 rfl rfl ?_
      obtain ⟨x5, hc5, hz3⟩ := gj_b hz3
      refine ca_X9_beginOf hO kl_188  hc5 wk_768 (by decide) (by decide) (Nat.le_of_ble_eq_true rfl) dX9_laysRing_25 ?_
      refine gj_goto (tgt := 36) hO dX9_laysRing_28 (by decide) ?_
      obtain rfl := Option.some.inj hz3
      refine gj_sub (lv2 := [(0, gj_r 188), (1, gj_i b1), (2, gj_i z2)]) [1, 2, 0] rfl ?_
      exact J3
  refine gj_icmp_ne (tgt := 17) hO dX9_laysRing_10 (by decide) (fun h => ?_) (fun h => ?_)
  · replace hz2 := gj_f h hz2
    refine gj_iconst (v := 0) hO dX9_laysRing_17 (by decide) ?_
    obtain rfl := Option.some.inj hz2
    refine gj_sub (lv2 := [(0, gj_r 188), (1, gj_i b1)]) [0, 1] rfl ?_
    exact J2
  · replace hz2 := gj_t h hz2
    refine gj_iconst (v := 1) hO dX9_laysRing_13 (by decide) ?_
    refine gj_goto (tgt := 18) hO dX9_laysRing_14 (by decide) ?_
    obtain rfl := Option.some.inj hz2
    refine gj_sub (lv2 := [(0, gj_r 188), (1, gj_i b1)]) [0, 1] rfl ?_
    exact J2
set_option maxHeartbeats 4000000 in
set_option maxRecDepth 100000 in
theorem ca_X9_laysRing {E : gj_E} {X : gj_X} {own : String} {cc : ByteArray} {nL : Nat} {rt : Option FieldType} {fr lo : Nat} {ce sl : Nat} {Q : State → Prop} {pc : Nat} {lv : List (Nat × gj_V)} {st : List gj_V} {σ : gj_S} (hO : gj_O E X own cc nL rt fr lo) (hw : gj_lt own 188) {b1 : Int32}  {idx : Nat} {x : gj_S} (hf : f_X9_laysRing b1 σ = some x) (hl : Cond.methodLink own idx yX9_laysRing ∈ gj_gw) (hf1 : 4 ≤ fr) (hf2 : 94 ≤ lo) (hcat : ((st.map (gj_tv E.2.1)).map fun v => v.category).sum ≤ 8) (hd : decode cc pc = .ok (.invokevirtual idx, 3)) (k : gj_H E X nL ce sl Q (pc + 3) lv (st) x) : gj_H E X nL ce sl Q pc lv (gj_i b1 :: gj_r 188 :: st) σ :=
  gj_callV hO (o := 188) (vs := [gj_i b1]) (m_X9_laysRing  hf) (gj_I9 hw) hl wk_848 wk_849 wk_629 wk_850 hw kd_188 (by decide) (ci := 9) rfl (n := 1) (by decide +kernel) rfl hf1 hf2 rfl hcat hd k
def f_X9_good  (σ : gj_S) : Option (Int32 × gj_S) := ((f_X9_laysTree (gj_sI σ 188 (upd (σ.1 188) 0 (0 : Int32)))).bind fun x1 => ((f_X9_goodMany x1).bind fun x2 => some (x2, x1)))
set_option maxHeartbeats 4000000 in
set_option maxRecDepth 100000 in
theorem m_X9_good {E : gj_E} {σ : gj_S}   {x : Int32} {y : gj_S} (hf : f_X9_good  σ = some (x, y)) : gj_M E yX9_good cX9_good 1 (some .int) 4 86 [gj_r 188] σ (some (gj_i x)) y := by
  refine gj_body (lv := [(0, gj_r 188)]) (by decide +kernel) (Nat.le_of_ble_eq_true rfl) rfl (fun X hO => ?_)
  replace hO : gj_O E X RX9 cX9_good 1 (some .int) 4 86 := hO
  unfold f_X9_good at hf
  refine gj_aload_n hO 0 dX9_good_0 rfl rfl ?_
  refine gj_iconst (v := 0) hO dX9_good_1 (by decide) ?_
  refine pt_X9_0 hO wk_636 dX9_good_2 ?_
  refine gj_aload_n hO 0 dX9_good_5 rfl rfl ?_
  obtain ⟨x1, hc1, hf⟩ := gj_b hf
  refine ca_X9_laysTree hO kl_188  hc1 wk_792 (by decide) (by decide) (Nat.le_of_ble_eq_true rfl) dX9_good_6 ?_
  refine gj_aload_n hO 0 dX9_good_9 rfl rfl ?_
  obtain ⟨x2, hc2, hf⟩ := gj_b hf
  refine ca_X9_goodMany hO kl_188  hc2 wk_793 (by decide) (by decide) (Nat.le_of_ble_eq_true rfl) dX9_good_10 ?_
  replace hf := Option.some.inj hf
  simp only [Prod.mk.injEq] at hf
  obtain ⟨rfl, rfl⟩ := hf
  exact gj_iret hO dX9_good_13
set_option maxHeartbeats 4000000 in
set_option maxRecDepth 100000 in
theorem ca_X9_good {E : gj_E} {X : gj_X} {own : String} {cc : ByteArray} {nL : Nat} {rt : Option FieldType} {fr lo : Nat} {ce sl : Nat} {Q : State → Prop} {pc : Nat} {lv : List (Nat × gj_V)} {st : List gj_V} {σ : gj_S} (hO : gj_O E X own cc nL rt fr lo) (hw : gj_lt own 188)   {idx : Nat} {x : Int32} {y : gj_S} (hf : f_X9_good  σ = some (x, y)) (hl : Cond.methodLink own idx yX9_good ∈ gj_gw) (hf1 : 5 ≤ fr) (hf2 : 106 ≤ lo) (hcat : ((st.map (gj_tv E.2.1)).map fun v => v.category).sum ≤ 8) (hd : decode cc pc = .ok (.invokevirtual idx, 3)) (k : gj_H E X nL ce sl Q (pc + 3) lv ((gj_i x) :: st) y) : gj_H E X nL ce sl Q pc lv (gj_r 188 :: st) σ :=
  gj_callV hO (o := 188) (vs := []) (m_X9_good  hf) (gj_I9 hw) hl wk_851 wk_852 wk_629 wk_853 hw kd_188 (by decide) (ci := 9) rfl (n := 0) (by decide +kernel) rfl hf1 hf2 rfl hcat hd k
def f_X9_enters  (σ : gj_S) : Option (Int32 × gj_S) := ((f_X9_laysTree (gj_sI σ 188 (upd (σ.1 188) 0 (0 : Int32)))).bind fun x1 => ((f_X9_entering x1).bind fun x2 => (if x2.1 = (-1 : Int32) then some ((-2 : Int32), x2.2) else some (x2.1, x2.2))))
set_option maxHeartbeats 4000000 in
set_option maxRecDepth 100000 in
theorem m_X9_enters {E : gj_E} {σ : gj_S}   {x : Int32} {y : gj_S} (hf : f_X9_enters  σ = some (x, y)) : gj_M E yX9_enters cX9_enters 2 (some .int) 4 88 [gj_r 188] σ (some (gj_i x)) y := by
  refine gj_body (lv := [(0, gj_r 188)]) (by decide +kernel) (Nat.le_of_ble_eq_true rfl) rfl (fun X hO => ?_)
  replace hO : gj_O E X RX9 cX9_enters 2 (some .int) 4 88 := hO
  unfold f_X9_enters at hf
  refine gj_aload_n hO 0 dX9_enters_0 rfl rfl ?_
  refine gj_iconst (v := 0) hO dX9_enters_1 (by decide) ?_
  refine pt_X9_0 hO wk_636 dX9_enters_2 ?_
  refine gj_aload_n hO 0 dX9_enters_5 rfl rfl ?_
  obtain ⟨x1, hc1, hf⟩ := gj_b hf
  refine ca_X9_laysTree hO kl_188  hc1 wk_792 (by decide) (by decide) (Nat.le_of_ble_eq_true rfl) dX9_enters_6 ?_
  refine gj_aload_n hO 0 dX9_enters_9 rfl rfl ?_
  obtain ⟨⟨x2_v, x2_s⟩, hc2, hf⟩ := gj_b hf
  dsimp only at hf
  refine ca_X9_entering hO kl_188  hc2 wk_854 (by decide) (by decide) (Nat.le_of_ble_eq_true rfl) dX9_enters_10 ?_
  refine gj_istore_n (lv2 := [(1, gj_i x2_v), (0, gj_r 188)]) hO dX9_enters_13 rfl (by decide) rfl ?_
  refine gj_iload_n hO 0 dX9_enters_14 rfl rfl ?_
  refine gj_iconst (v := (-1)) hO dX9_enters_15 (by decide) ?_
  refine gj_icmp_ne (tgt := 24) hO dX9_enters_16 (by decide) (fun h => ?_) (fun h => ?_)
  · replace hf := gj_f h hf
    refine gj_iload_n hO 0 dX9_enters_24 rfl rfl ?_
    replace hf := Option.some.inj hf
    simp only [Prod.mk.injEq] at hf
    obtain ⟨rfl, rfl⟩ := hf
    exact gj_iret hO dX9_enters_25
  · replace hf := gj_t h hf
    refine gj_bipush (v := (-2)) hO dX9_enters_19 (by decide) ?_
    refine gj_goto (tgt := 25) hO dX9_enters_21 (by decide) ?_
    replace hf := Option.some.inj hf
    simp only [Prod.mk.injEq] at hf
    obtain ⟨rfl, rfl⟩ := hf
    exact gj_iret hO dX9_enters_25
set_option maxHeartbeats 4000000 in
set_option maxRecDepth 100000 in
theorem ca_X9_enters {E : gj_E} {X : gj_X} {own : String} {cc : ByteArray} {nL : Nat} {rt : Option FieldType} {fr lo : Nat} {ce sl : Nat} {Q : State → Prop} {pc : Nat} {lv : List (Nat × gj_V)} {st : List gj_V} {σ : gj_S} (hO : gj_O E X own cc nL rt fr lo) (hw : gj_lt own 188)   {idx : Nat} {x : Int32} {y : gj_S} (hf : f_X9_enters  σ = some (x, y)) (hl : Cond.methodLink own idx yX9_enters ∈ gj_gw) (hf1 : 5 ≤ fr) (hf2 : 109 ≤ lo) (hcat : ((st.map (gj_tv E.2.1)).map fun v => v.category).sum ≤ 8) (hd : decode cc pc = .ok (.invokevirtual idx, 3)) (k : gj_H E X nL ce sl Q (pc + 3) lv ((gj_i x) :: st) y) : gj_H E X nL ce sl Q pc lv (gj_r 188 :: st) σ :=
  gj_callV hO (o := 188) (vs := []) (m_X9_enters  hf) (gj_I9 hw) hl wk_855 wk_856 wk_629 wk_857 hw kd_188 (by decide) (ci := 9) rfl (n := 0) (by decide +kernel) rfl hf1 hf2 rfl hcat hd k
def f_X9_ring (b1 : Int32) (b2 : Int32) (σ : gj_S) : Option (Int32 × gj_S) := ((f_X9_isWay b1 (gj_sI σ 188 (upd (σ.1 188) 0 (0 : Int32)))).bind fun x1 => (if x1 = 0 then some ((-1 : Int32), (gj_sI σ 188 (upd (σ.1 188) 0 (0 : Int32)))) else (if (-1 : Int32) ≤ b2 then (if gj_in ((74 : Int32) + b1) 180 then (if ((gj_sI σ 188 (upd (σ.1 188) 0 (0 : Int32))).1 198 (Int32.toNatClampNeg ((74 : Int32) + b1))) = 0 then some ((-2 : Int32), (gj_sI σ 188 (upd (σ.1 188) 0 (0 : Int32)))) else ((f_X9_laysTree (gj_sI σ 188 (upd (σ.1 188) 0 (0 : Int32)))).bind fun x3 => ((f_X9_laysRing b1 x3).bind fun x4 => (if b2 = (-1 : Int32) then some ((x4.1 188 33), x4) else (if (x4.1 188 33) ≤ b2 then some ((-2 : Int32), x4) else (if gj_in b2 24 then some ((x4.1 206 (Int32.toNatClampNeg b2)), x4) else none)))))) else none) else some ((-1 : Int32), (gj_sI σ 188 (upd (σ.1 188) 0 (0 : Int32)))))))
set_option maxHeartbeats 4000000 in
set_option maxRecDepth 100000 in
theorem m_X9_ring {E : gj_E} {σ : gj_S} {b1 : Int32} {b2 : Int32}  {x : Int32} {y : gj_S} (hf : f_X9_ring b1 b2 σ = some (x, y)) : gj_M E yX9_ring cX9_ring 3 (some .int) 4 94 [gj_r 188, gj_i b1, gj_i b2] σ (some (gj_i x)) y := by
  refine gj_body (lv := [(0, gj_r 188), (1, gj_i b1), (2, gj_i b2)]) (by decide +kernel) (Nat.le_of_ble_eq_true rfl) rfl (fun X hO => ?_)
  replace hO : gj_O E X RX9 cX9_ring 3 (some .int) 4 94 := hO
  unfold f_X9_ring at hf
  refine gj_aload_n hO 0 dX9_ring_0 rfl rfl ?_
  refine gj_iconst (v := 0) hO dX9_ring_1 (by decide) ?_
  refine pt_X9_0 hO wk_636 dX9_ring_2 ?_
  refine gj_aload_n hO 0 dX9_ring_5 rfl rfl ?_
  refine gj_iload_n hO 1 dX9_ring_6 rfl rfl ?_
  obtain ⟨x1, hc1, hf⟩ := gj_b hf
  refine ca_X9_isWay hO kl_188  hc1 wk_817 (by decide) (by decide) (Nat.le_of_ble_eq_true rfl) dX9_ring_7 ?_
  refine gj_if_eq (tgt := 18) hO dX9_ring_10 (by decide) (fun h => ?_) (fun h => ?_)
  · replace hf := gj_t h hf
    refine gj_iconst (v := (-1)) hO dX9_ring_18 (by decide) ?_
    replace hf := Option.some.inj hf
    simp only [Prod.mk.injEq] at hf
    obtain ⟨rfl, rfl⟩ := hf
    exact gj_iret hO dX9_ring_19
  · replace hf := gj_f h hf
    refine gj_iload_n hO 2 dX9_ring_13 rfl rfl ?_
    refine gj_iconst (v := (-1)) hO dX9_ring_14 (by decide) ?_
    refine gj_icmp_ge (tgt := 20) hO dX9_ring_15 (by decide) (fun h => ?_) (fun h => ?_)
    · replace hf := gj_t h hf
      refine gj_aload_n hO 0 dX9_ring_20 rfl rfl ?_
      refine gt_X9_21 hO wk_725 dX9_ring_21 ?_
      refine gj_bipush (v := 74) hO dX9_ring_24 (by decide) ?_
      refine gj_iload_n hO 1 dX9_ring_26 rfl rfl ?_
      refine gj_iadd hO dX9_ring_27 ?_
      obtain ⟨hb2, hf⟩ := gj_c hf
      refine gj_iald hO kl_198 kd_198 hb2 dX9_ring_28 ?_
      refine gj_if_ne (tgt := 35) hO dX9_ring_29 (by decide) (fun h => ?_) (fun h => ?_)
      · replace hf := gj_f h hf
        refine gj_aload_n hO 0 dX9_ring_35 rfl rfl ?_
        obtain ⟨x3, hc3, hf⟩ := gj_b hf
        refine ca_X9_laysTree hO kl_188  hc3 wk_792 (by decide) (by decide) (Nat.le_of_ble_eq_true rfl) dX9_ring_36 ?_
        refine gj_aload_n hO 0 dX9_ring_39 rfl rfl ?_
        refine gj_iload_n hO 1 dX9_ring_40 rfl rfl ?_
        obtain ⟨x4, hc4, hf⟩ := gj_b hf
        refine ca_X9_laysRing hO kl_188  hc4 wk_858 (by decide) (by decide) (Nat.le_of_ble_eq_true rfl) dX9_ring_41 ?_
        refine gj_iload_n hO 2 dX9_ring_44 rfl rfl ?_
        refine gj_iconst (v := (-1)) hO dX9_ring_45 (by decide) ?_
        refine gj_icmp_ne (tgt := 56) hO dX9_ring_46 (by decide) (fun h => ?_) (fun h => ?_)
        · replace hf := gj_f h hf
          refine gj_iload_n hO 2 dX9_ring_56 rfl rfl ?_
          refine gj_aload_n hO 0 dX9_ring_57 rfl rfl ?_
          refine gt_X9_33 hO wk_843 dX9_ring_58 ?_
          refine gj_icmp_ge (tgt := 73) hO dX9_ring_61 (by decide) (fun h => ?_) (fun h => ?_)
          · replace hf := gj_t h hf
            refine gj_bipush (v := (-2)) hO dX9_ring_73 (by decide) ?_
            replace hf := Option.some.inj hf
            simp only [Prod.mk.injEq] at hf
            obtain ⟨rfl, rfl⟩ := hf
            exact gj_iret hO dX9_ring_75
          · replace hf := gj_f h hf
            refine gj_aload_n hO 0 dX9_ring_64 rfl rfl ?_
            refine gt_X9_31 hO wk_835 dX9_ring_65 ?_
            refine gj_iload_n hO 2 dX9_ring_68 rfl rfl ?_
            obtain ⟨hb5, hf⟩ := gj_c hf
            refine gj_iald hO kl_206 kd_206 hb5 dX9_ring_69 ?_
            refine gj_goto (tgt := 75) hO dX9_ring_70 (by decide) ?_
            replace hf := Option.some.inj hf
            simp only [Prod.mk.injEq] at hf
            obtain ⟨rfl, rfl⟩ := hf
            exact gj_iret hO dX9_ring_75
        · replace hf := gj_t h hf
          refine gj_aload_n hO 0 dX9_ring_49 rfl rfl ?_
          refine gt_X9_33 hO wk_843 dX9_ring_50 ?_
          refine gj_goto (tgt := 75) hO dX9_ring_53 (by decide) ?_
          replace hf := Option.some.inj hf
          simp only [Prod.mk.injEq] at hf
          obtain ⟨rfl, rfl⟩ := hf
          exact gj_iret hO dX9_ring_75
      · replace hf := gj_t h hf
        refine gj_bipush (v := (-2)) hO dX9_ring_32 (by decide) ?_
        replace hf := Option.some.inj hf
        simp only [Prod.mk.injEq] at hf
        obtain ⟨rfl, rfl⟩ := hf
        exact gj_iret hO dX9_ring_34
    · replace hf := gj_f h hf
      refine gj_iconst (v := (-1)) hO dX9_ring_18 (by decide) ?_
      replace hf := Option.some.inj hf
      simp only [Prod.mk.injEq] at hf
      obtain ⟨rfl, rfl⟩ := hf
      exact gj_iret hO dX9_ring_19
set_option maxHeartbeats 4000000 in
set_option maxRecDepth 100000 in
theorem ca_X9_ring {E : gj_E} {X : gj_X} {own : String} {cc : ByteArray} {nL : Nat} {rt : Option FieldType} {fr lo : Nat} {ce sl : Nat} {Q : State → Prop} {pc : Nat} {lv : List (Nat × gj_V)} {st : List gj_V} {σ : gj_S} (hO : gj_O E X own cc nL rt fr lo) (hw : gj_lt own 188) {b1 : Int32} {b2 : Int32}  {idx : Nat} {x : Int32} {y : gj_S} (hf : f_X9_ring b1 b2 σ = some (x, y)) (hl : Cond.methodLink own idx yX9_ring ∈ gj_gw) (hf1 : 5 ≤ fr) (hf2 : 116 ≤ lo) (hcat : ((st.map (gj_tv E.2.1)).map fun v => v.category).sum ≤ 8) (hd : decode cc pc = .ok (.invokevirtual idx, 3)) (k : gj_H E X nL ce sl Q (pc + 3) lv ((gj_i x) :: st) y) : gj_H E X nL ce sl Q pc lv (gj_i b2 :: gj_i b1 :: gj_r 188 :: st) σ :=
  gj_callV hO (o := 188) (vs := [gj_i b1, gj_i b2]) (m_X9_ring  hf) (gj_I9 hw) hl wk_859 wk_860 wk_629 wk_861 hw kd_188 (by decide) (ci := 9) rfl (n := 2) (by decide +kernel) rfl hf1 hf2 rfl hcat hd k
def f_X9_closes (b1 : Int32) (b2 : Int32) (σ : gj_S) : Option (Int32 × gj_S) := ((f_X9_isWay b1 (gj_sI σ 188 (upd (σ.1 188) 0 (0 : Int32)))).bind fun x1 => (if x1 = 0 then some ((-1 : Int32), (gj_sI σ 188 (upd (σ.1 188) 0 (0 : Int32)))) else ((f_X9_within (Int32.toInt64 b2) (0 : Int64) (2 : Int64)).bind fun x2 => (if x2 = 0 then some ((-1 : Int32), (gj_sI σ 188 (upd (σ.1 188) 0 (0 : Int32)))) else (if gj_in ((74 : Int32) + b1) 180 then (if ((gj_sI σ 188 (upd (σ.1 188) 0 (0 : Int32))).1 198 (Int32.toNatClampNeg ((74 : Int32) + b1))) = 0 then some ((-2 : Int32), (gj_sI σ 188 (upd (σ.1 188) 0 (0 : Int32)))) else ((f_X9_laysTree (gj_sI σ 188 (upd (σ.1 188) 0 (0 : Int32)))).bind fun x4 => ((f_X9_laysRing b1 x4).bind fun x5 => (if b2 = 0 then some ((x5.1 188 35), x5) else (if b2 = (1 : Int32) then (if gj_in (x5.1 188 36) 24 then some ((x5.1 206 (Int32.toNatClampNeg (x5.1 188 36))), x5) else none) else (if (x5.1 188 34) = (8 : Int32) then some ((100 : Int32), x5) else some ((x5.1 188 34), x5))))))) else none)))))
set_option maxHeartbeats 4000000 in
set_option maxRecDepth 100000 in
theorem m_X9_closes {E : gj_E} {σ : gj_S} {b1 : Int32} {b2 : Int32}  {x : Int32} {y : gj_S} (hf : f_X9_closes b1 b2 σ = some (x, y)) : gj_M E yX9_closes cX9_closes 3 (some .int) 4 94 [gj_r 188, gj_i b1, gj_i b2] σ (some (gj_i x)) y := by
  refine gj_body (lv := [(0, gj_r 188), (1, gj_i b1), (2, gj_i b2)]) (by decide +kernel) (Nat.le_of_ble_eq_true rfl) rfl (fun X hO => ?_)
  replace hO : gj_O E X RX9 cX9_closes 3 (some .int) 4 94 := hO
  unfold f_X9_closes at hf
  refine gj_aload_n hO 0 dX9_closes_0 rfl rfl ?_
  refine gj_iconst (v := 0) hO dX9_closes_1 (by decide) ?_
  refine pt_X9_0 hO wk_636 dX9_closes_2 ?_
  refine gj_aload_n hO 0 dX9_closes_5 rfl rfl ?_
  refine gj_iload_n hO 1 dX9_closes_6 rfl rfl ?_
  obtain ⟨x1, hc1, hf⟩ := gj_b hf
  refine ca_X9_isWay hO kl_188  hc1 wk_817 (by decide) (by decide) (Nat.le_of_ble_eq_true rfl) dX9_closes_7 ?_
  refine gj_if_eq (tgt := 25) hO dX9_closes_10 (by decide) (fun h => ?_) (fun h => ?_)
  · replace hf := gj_t h hf
    refine gj_iconst (v := (-1)) hO dX9_closes_25 (by decide) ?_
    replace hf := Option.some.inj hf
    simp only [Prod.mk.injEq] at hf
    obtain ⟨rfl, rfl⟩ := hf
    exact gj_iret hO dX9_closes_26
  · replace hf := gj_f h hf
    refine gj_iload_n hO 2 dX9_closes_13 rfl rfl ?_
    refine gj_i2l hO dX9_closes_14 ?_
    refine gj_lconst (v := 0) hO dX9_closes_15 (by decide) ?_
    refine gj_ldc2 hO wk_862 dX9_closes_16 ?_
    obtain ⟨x2, hc2, hf⟩ := gj_b hf
    refine ca_X9_within hO kl_188  hc2 wk_653 (by decide) (by decide) (Nat.le_of_ble_eq_true rfl) dX9_closes_19 ?_
    refine gj_if_ne (tgt := 27) hO dX9_closes_22 (by decide) (fun h => ?_) (fun h => ?_)
    · replace hf := gj_f h hf
      refine gj_aload_n hO 0 dX9_closes_27 rfl rfl ?_
      refine gt_X9_21 hO wk_725 dX9_closes_28 ?_
      refine gj_bipush (v := 74) hO dX9_closes_31 (by decide) ?_
      refine gj_iload_n hO 1 dX9_closes_33 rfl rfl ?_
      refine gj_iadd hO dX9_closes_34 ?_
      obtain ⟨hb3, hf⟩ := gj_c hf
      refine gj_iald hO kl_198 kd_198 hb3 dX9_closes_35 ?_
      refine gj_if_ne (tgt := 42) hO dX9_closes_36 (by decide) (fun h => ?_) (fun h => ?_)
      · replace hf := gj_f h hf
        refine gj_aload_n hO 0 dX9_closes_42 rfl rfl ?_
        obtain ⟨x4, hc4, hf⟩ := gj_b hf
        refine ca_X9_laysTree hO kl_188  hc4 wk_792 (by decide) (by decide) (Nat.le_of_ble_eq_true rfl) dX9_closes_43 ?_
        refine gj_aload_n hO 0 dX9_closes_46 rfl rfl ?_
        refine gj_iload_n hO 1 dX9_closes_47 rfl rfl ?_
        obtain ⟨x5, hc5, hf⟩ := gj_b hf
        refine ca_X9_laysRing hO kl_188  hc5 wk_858 (by decide) (by decide) (Nat.le_of_ble_eq_true rfl) dX9_closes_48 ?_
        refine gj_iload_n hO 2 dX9_closes_51 rfl rfl ?_
        refine gj_if_ne (tgt := 62) hO dX9_closes_52 (by decide) (fun h => ?_) (fun h => ?_)
        · replace hf := gj_f h hf
          refine gj_iload_n hO 2 dX9_closes_62 rfl rfl ?_
          refine gj_iconst (v := 1) hO dX9_closes_63 (by decide) ?_
          refine gj_icmp_ne (tgt := 79) hO dX9_closes_64 (by decide) (fun h => ?_) (fun h => ?_)
          · replace hf := gj_f h hf
            refine gj_aload_n hO 0 dX9_closes_79 rfl rfl ?_
            refine gt_X9_34 hO wk_842 dX9_closes_80 ?_
            refine gj_bipush (v := 8) hO dX9_closes_83 (by decide) ?_
            refine gj_icmp_ne (tgt := 93) hO dX9_closes_85 (by decide) (fun h => ?_) (fun h => ?_)
            · replace hf := gj_f h hf
              refine gj_aload_n hO 0 dX9_closes_93 rfl rfl ?_
              refine gt_X9_34 hO wk_842 dX9_closes_94 ?_
              replace hf := Option.some.inj hf
              simp only [Prod.mk.injEq] at hf
              obtain ⟨rfl, rfl⟩ := hf
              exact gj_iret hO dX9_closes_97
            · replace hf := gj_t h hf
              refine gj_bipush (v := 100) hO dX9_closes_88 (by decide) ?_
              refine gj_goto (tgt := 97) hO dX9_closes_90 (by decide) ?_
              replace hf := Option.some.inj hf
              simp only [Prod.mk.injEq] at hf
              obtain ⟨rfl, rfl⟩ := hf
              exact gj_iret hO dX9_closes_97
          · replace hf := gj_t h hf
            refine gj_aload_n hO 0 dX9_closes_67 rfl rfl ?_
            refine gt_X9_31 hO wk_835 dX9_closes_68 ?_
            refine gj_aload_n hO 0 dX9_closes_71 rfl rfl ?_
            refine gt_X9_36 hO wk_846 dX9_closes_72 ?_
            obtain ⟨hb6, hf⟩ := gj_c hf
            refine gj_iald hO kl_206 kd_206 hb6 dX9_closes_75 ?_
            refine gj_goto (tgt := 97) hO dX9_closes_76 (by decide) ?_
            replace hf := Option.some.inj hf
            simp only [Prod.mk.injEq] at hf
            obtain ⟨rfl, rfl⟩ := hf
            exact gj_iret hO dX9_closes_97
        · replace hf := gj_t h hf
          refine gj_aload_n hO 0 dX9_closes_55 rfl rfl ?_
          refine gt_X9_35 hO wk_845 dX9_closes_56 ?_
          refine gj_goto (tgt := 97) hO dX9_closes_59 (by decide) ?_
          replace hf := Option.some.inj hf
          simp only [Prod.mk.injEq] at hf
          obtain ⟨rfl, rfl⟩ := hf
          exact gj_iret hO dX9_closes_97
      · replace hf := gj_t h hf
        refine gj_bipush (v := (-2)) hO dX9_closes_39 (by decide) ?_
        replace hf := Option.some.inj hf
        simp only [Prod.mk.injEq] at hf
        obtain ⟨rfl, rfl⟩ := hf
        exact gj_iret hO dX9_closes_41
    · replace hf := gj_t h hf
      refine gj_iconst (v := (-1)) hO dX9_closes_25 (by decide) ?_
      replace hf := Option.some.inj hf
      simp only [Prod.mk.injEq] at hf
      obtain ⟨rfl, rfl⟩ := hf
      exact gj_iret hO dX9_closes_26
set_option maxHeartbeats 4000000 in
set_option maxRecDepth 100000 in
theorem ca_X9_closes {E : gj_E} {X : gj_X} {own : String} {cc : ByteArray} {nL : Nat} {rt : Option FieldType} {fr lo : Nat} {ce sl : Nat} {Q : State → Prop} {pc : Nat} {lv : List (Nat × gj_V)} {st : List gj_V} {σ : gj_S} (hO : gj_O E X own cc nL rt fr lo) (hw : gj_lt own 188) {b1 : Int32} {b2 : Int32}  {idx : Nat} {x : Int32} {y : gj_S} (hf : f_X9_closes b1 b2 σ = some (x, y)) (hl : Cond.methodLink own idx yX9_closes ∈ gj_gw) (hf1 : 5 ≤ fr) (hf2 : 116 ≤ lo) (hcat : ((st.map (gj_tv E.2.1)).map fun v => v.category).sum ≤ 8) (hd : decode cc pc = .ok (.invokevirtual idx, 3)) (k : gj_H E X nL ce sl Q (pc + 3) lv ((gj_i x) :: st) y) : gj_H E X nL ce sl Q pc lv (gj_i b2 :: gj_i b1 :: gj_r 188 :: st) σ :=
  gj_callV hO (o := 188) (vs := [gj_i b1, gj_i b2]) (m_X9_closes  hf) (gj_I9 hw) hl wk_863 wk_864 wk_629 wk_865 hw kd_188 (by decide) (ci := 9) rfl (n := 2) (by decide +kernel) rfl hf1 hf2 rfl hcat hd k
