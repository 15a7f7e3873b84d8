theorem sw_c_length : Cond.code yJ0_length_8abf5 cJ0_length_8abf5 1 (some .int) ∈ gj_gw := gj_good (List.mem_of_getElem? (i := 1123) (by decide +kernel)) (by decide +kernel)
theorem sw_c_charAt : Cond.code yJ0_charAt_5068e cJ0_charAt_5068e 2 (some .char) ∈ gj_gw := gj_good (List.mem_of_getElem? (i := 1133) (by decide +kernel)) (by decide +kernel)
theorem sw_c_coder : Cond.code yJ0_coder_7d493 cJ0_coder_7d493 1 (some .byte) ∈ gj_gw := gj_good (List.mem_of_getElem? (i := 1127) (by decide +kernel)) (by decide +kernel)
theorem sw_c_isLatin1 : Cond.code yJ0_isLatin1_aae02 cJ0_isLatin1_aae02 1 (some .boolean) ∈ gj_gw := gj_good (List.mem_of_getElem? (i := 1137) (by decide +kernel)) (by decide +kernel)
theorem sw_c_checkIndex : Cond.code yJ0_checkIndex_df160 cJ0_checkIndex_df160 2 none ∈ gj_gw := gj_good (List.mem_of_getElem? (i := 1143) (by decide +kernel)) (by decide +kernel)
theorem sw_c_charAt1 : Cond.code yJ1_charAt_3b067 cJ1_charAt_3b067 2 (some .char) ∈ gj_gw := gj_good (List.mem_of_getElem? (i := 1140) (by decide +kernel)) (by decide +kernel)
theorem sw_c_pre : Cond.code yJ3_checkIndex_8e157 cJ3_checkIndex_8e157 3 (some .int) ∈ gj_gw := gj_good (List.mem_of_getElem? (i := 1148) (by decide +kernel)) (by decide +kernel)
theorem sw_i_length : Cond.instanceMethod yJ0_length_8abf5 ∈ gj_gw := gj_good (List.mem_of_getElem? (i := 1121) (by decide +kernel)) (by decide +kernel)
theorem sw_s_length : Cond.selects RJ0 yJ0_length_8abf5 yJ0_length_8abf5 ∈ gj_gw := gj_good (List.mem_of_getElem? (i := 1122) (by decide +kernel)) (by decide +kernel)
theorem sw_i_charAt : Cond.instanceMethod yJ0_charAt_5068e ∈ gj_gw := gj_good (List.mem_of_getElem? (i := 1131) (by decide +kernel)) (by decide +kernel)
theorem sw_s_charAt : Cond.selects RJ0 yJ0_charAt_5068e yJ0_charAt_5068e ∈ gj_gw := gj_good (List.mem_of_getElem? (i := 1132) (by decide +kernel)) (by decide +kernel)
theorem sw_i_coder : Cond.instanceMethod yJ0_coder_7d493 ∈ gj_gw := gj_good (List.mem_of_getElem? (i := 1125) (by decide +kernel)) (by decide +kernel)
theorem sw_s_coder : Cond.selects RJ0 yJ0_coder_7d493 yJ0_coder_7d493 ∈ gj_gw := gj_good (List.mem_of_getElem? (i := 1126) (by decide +kernel)) (by decide +kernel)
theorem sw_i_isLatin1 : Cond.instanceMethod yJ0_isLatin1_aae02 ∈ gj_gw := gj_good (List.mem_of_getElem? (i := 1135) (by decide +kernel)) (by decide +kernel)
theorem sw_s_isLatin1 : Cond.selects RJ0 yJ0_isLatin1_aae02 yJ0_isLatin1_aae02 ∈ gj_gw := gj_good (List.mem_of_getElem? (i := 1136) (by decide +kernel)) (by decide +kernel)
theorem sw_t_checkIndex : Cond.static yJ0_checkIndex_df160 ∈ gj_gw := gj_good (List.mem_of_getElem? (i := 1142) (by decide +kernel)) (by decide +kernel)
theorem sw_t_charAt1 : Cond.static yJ1_charAt_3b067 ∈ gj_gw := gj_good (List.mem_of_getElem? (i := 1139) (by decide +kernel)) (by decide +kernel)
theorem sw_t_pre : Cond.static yJ3_checkIndex_8e157 ∈ gj_gw := gj_good (List.mem_of_getElem? (i := 1147) (by decide +kernel)) (by decide +kernel)
theorem sw_ini0 : Cond.initialized RJ0 ∈ gj_gw := gj_good (List.mem_of_getElem? (i := 13) (by decide +kernel)) (by decide +kernel)
theorem sw_ini1 : Cond.initialized RJ1 ∈ gj_gw := gj_good (List.mem_of_getElem? (i := 14) (by decide +kernel)) (by decide +kernel)
theorem sw_ini3 : Cond.initialized RJ3 ∈ gj_gw := gj_good (List.mem_of_getElem? (i := 15) (by decide +kernel)) (by decide +kernel)
theorem sw_m_coder : Cond.methodLink RJ0 335 yJ0_coder_7d493 ∈ gj_gw := gj_good (List.mem_of_getElem? (i := 1124) (by decide +kernel)) (by decide +kernel)
theorem sw_m_isLatin1 : Cond.methodLink RJ0 492 yJ0_isLatin1_aae02 ∈ gj_gw := gj_good (List.mem_of_getElem? (i := 1134) (by decide +kernel)) (by decide +kernel)
theorem sw_m_charAt1 : Cond.methodLink RJ0 495 yJ1_charAt_3b067 ∈ gj_gw := gj_good (List.mem_of_getElem? (i := 1138) (by decide +kernel)) (by decide +kernel)
theorem sw_m_checkIndex : Cond.methodLink RJ1 9 yJ0_checkIndex_df160 ∈ gj_gw := gj_good (List.mem_of_getElem? (i := 1141) (by decide +kernel)) (by decide +kernel)
theorem sw_m_pre : Cond.methodLink RJ0 1059 yJ3_checkIndex_8e157 ∈ gj_gw := gj_good (List.mem_of_getElem? (i := 1146) (by decide +kernel)) (by decide +kernel)
theorem sw_m_length : Cond.methodLink RX9 136 yJ0_length_8abf5 ∈ gj_gw := gj_good (List.mem_of_getElem? (i := 1120) (by decide +kernel)) (by decide +kernel)
theorem sw_m_charAt : Cond.methodLink RX9 142 yJ0_charAt_5068e ∈ gj_gw := gj_good (List.mem_of_getElem? (i := 1130) (by decide +kernel)) (by decide +kernel)
theorem sw_f38 : Cond.fieldLink RJ0 38 "java/lang/String" "COMPACT_STRINGS" "Z" ∈ gj_gw := gj_good (List.mem_of_getElem? (i := 1128) (by decide +kernel)) (by decide +kernel)
theorem sw_f1053 : Cond.fieldLink RJ0 1053 "jdk/internal/util/Preconditions" "SIOOBE_FORMATTER" "Ljava/util/function/BiFunction;" ∈ gj_gw := gj_good (List.mem_of_getElem? (i := 1144) (by decide +kernel)) (by decide +kernel)
theorem sw_f9 : Cond.fieldLink RJ0 9 "java/lang/String" "value" "[B" ∈ gj_gw := gj_good (List.mem_of_getElem? (i := 1511) (by decide +kernel)) (by decide +kernel)
theorem sw_f15 : Cond.fieldLink RJ0 15 "java/lang/String" "coder" "B" ∈ gj_gw := gj_good (List.mem_of_getElem? (i := 1512) (by decide +kernel)) (by decide +kernel)
theorem sw_96 : Cond.constantLong RX9 124 (96 : Int64) ∈ gj_gw := gj_good (List.mem_of_getElem? (i := 1105) (by decide +kernel)) (by decide +kernel)
section
variable {E : gj_E} {X : gj_X} {own : String} {cc : ByteArray} {nL : Nat} {rt : Option FieldType} {fr lo : Nat} {ce sl : Nat} {Q : State → Prop} {r : Option gj_V} {τ : gj_S} {pc : Nat} {lv : List (Nat × gj_V)} {st : List gj_V} {σ : gj_S}
theorem gj_ldcS {idx n : Nat} {tx : String} (hO : gj_O E X own cc nL rt fr lo) (hm : (own, idx, tx, n) ∈ gj_strs) (hd : decode cc pc = .ok (.ldc idx, 2)) (k : gj_H E X nL ce sl Q (pc + 2) lv (gj_r n :: st) σ) : gj_H E X nL ce sl Q pc lv st σ := by
  obtain ⟨p, e, R, s, m, args, below, meth, c⟩ := X
  obtain ⟨hx, hb, hml, hown, hts, hK, hi, hr, hlk, hfr, hlo⟩ := hO
  intro hcs H locs ls hW hS hl
  exact va_ldcS hx hb hown (hi.2.2.2.2.2.2.1 _ hm) hd (k hcs H locs ls hW hS hl)
theorem gj_compact {idx : Nat} (hO : gj_O E X own cc nL rt fr lo) (hm : Cond.fieldLink own idx "java/lang/String" "COMPACT_STRINGS" "Z" ∈ gj_gw) (hd : decode cc pc = .ok (.getstatic idx, 3)) (k : gj_H E X nL ce sl Q (pc + 3) lv (gj_i 1 :: st) σ) : gj_H E X nL ce sl Q pc lv st σ := by
  obtain ⟨p, e, R, s, m, args, below, meth, c⟩ := X
  obtain ⟨hx, hb, hml, hown, hts, hK, hi, hr, hlk, hfr, hlo⟩ := hO
  intro hcs H locs ls hW hS hl
  exact va_gets hx hb hi.2.2.1 hS hown (hts _ hm) (fun x h => h) hd (k hcs H locs ls hW hS hl)
theorem gj_strval {idx i : Nat} (hO : gj_O E X own cc nL rt fr lo) (h7 : i < 7) (hm : Cond.fieldLink own idx "java/lang/String" "value" "[B" ∈ gj_gw) (hd : decode cc pc = .ok (.getfield idx, 3)) (k : gj_H E X nL ce sl Q (pc + 3) lv (gj_r (1100 + i) :: st) σ) : gj_H E X nL ce sl Q pc lv (gj_r (1000 + i) :: st) σ := by
  obtain ⟨p, e, R, s, m, args, below, meth, c⟩ := X
  obtain ⟨hx, hb, hml, hown, hts, hK, hi, hr, hlk, hfr, hlo⟩ := hO
  intro hcs H locs ls hW hS hl
  exact vk_getf hx hb (hi.2.1.1 i h7).2.2.1 hS hown (hts _ hm) (fun x h => h) hd (k hcs H locs ls hW hS hl)
theorem gj_strcoder {idx i : Nat} (hO : gj_O E X own cc nL rt fr lo) (h7 : i < 7) (hm : Cond.fieldLink own idx "java/lang/String" "coder" "B" ∈ gj_gw) (hd : decode cc pc = .ok (.getfield idx, 3)) (k : gj_H E X nL ce sl Q (pc + 3) lv (gj_i 0 :: st) σ) : gj_H E X nL ce sl Q pc lv (gj_r (1000 + i) :: st) σ := by
  obtain ⟨p, e, R, s, m, args, below, meth, c⟩ := X
  obtain ⟨hx, hb, hml, hown, hts, hK, hi, hr, hlk, hfr, hlo⟩ := hO
  intro hcs H locs ls hW hS hl
  exact vk_getf hx hb (hi.2.1.1 i h7).2.1 hS hown (hts _ hm) (fun x h => h) hd (k hcs H locs ls hW hS hl)
theorem gj_stralen {i : Nat} (hO : gj_O E X own cc nL rt fr lo) (h7 : i < 7) (hd : decode cc pc = .ok (.arraylength, 1)) (k : gj_H E X nL ce sl Q (pc + 1) lv (gj_i (nI (gj_len.getD i 0)) :: st) σ) : gj_H E X nL ce sl Q pc lv (gj_r (1100 + i) :: st) σ := by
  obtain ⟨p, e, R, s, m, args, below, meth, c⟩ := X
  obtain ⟨hx, hb, hml, hown, hts, hK, hi, hr, hlk, hfr, hlo⟩ := hO
  intro hcs H locs ls hW hS hl
  exact va_tlen hx hb (hi.2.1.1 i h7).2.2.2 hS rfl hd (k hcs H locs ls hW hS hl)
theorem gj_strb {i j : Nat} (hO : gj_O E X own cc nL rt fr lo) (h7 : i < 7) (hj : j < gj_len.getD i 0) (hb31 : gj_len.getD i 0 < 2 ^ 31) (hd : decode cc pc = .ok (.baload, 1)) (k : gj_H E X nL ce sl Q (pc + 1) lv (gj_i ((gj_byt.getD i []).getD j 0) :: st) σ) : gj_H E X nL ce sl Q pc lv (gj_i (nI j) :: gj_r (1100 + i) :: st) σ := by
  obtain ⟨p, e, R, s, m, args, below, meth, c⟩ := X
  obtain ⟨hx, hb, hml, hown, hts, hK, hi, hr, hlk, hfr, hlo⟩ := hO
  intro hcs H locs ls hW hS hl
  exact va_tb hx hb (hi.2.1.1 i h7).2.2.2 hS (vp_in_nI hj hb31) (by rw [nI_clamp (by omega)]; rfl) hd (k hcs H locs ls hW hS hl)
theorem gj_nret {ty : FieldType} {x : Int32} (hO : gj_O E X own cc nL (some ty) fr lo) (hn : narrow ty (.int x) = .int x) (hd : decode cc pc = .ok (.ireturn, 1)) : gj_G E X nL (some (gj_i x)) σ pc lv [gj_i x] σ := by
  obtain ⟨p, e, R, s, m, args, below, meth, c⟩ := X
  obtain ⟨hx, hb, hml, hown, hts, hK, hi, hr, hlk, hfr, hlo⟩ := hO
  intro hcs H locs ls hW hS hl
  exact W.zret (v := x) hx hb hr hn (fun t ht hw => ⟨⟨rfl, by rw [ht]; exact hW⟩, hS.F ht⟩) hS.2.2 hd
/-- a call on a String constant -/
theorem gj_callT (hO : gj_O E X own cc nL rt fr lo) {y : MethodName} {yc : ByteArray} {yn idx i n : Nat} {yt : Option FieldType} {yf yl : Nat} {vs stk : List gj_V} {rv : Option gj_V} {σ2 : gj_S} (hM : gj_M E y yc yn yt yf yl (gj_r (1000 + i) :: vs) σ rv σ2) (hio : gj_I E.2.1 own → gj_I E.2.1 y.cls) (h7 : i < 7)
    (hl1 : Cond.methodLink own idx y ∈ gj_gw) (hl2 : Cond.instanceMethod y ∈ gj_gw) (hl3 : Cond.selects RJ0 y y ∈ gj_gw) (hl5 : Cond.code y yc yn yt ∈ gj_gw)
    (hd : y.cls = RJ0 ∧ y.cls ≠ "java/lang/invoke/MethodHandle" ∧ y.cls ≠ "java/lang/invoke/VarHandle" ∧ (parseMethodDescriptor y.desc).map (fun d => d.parameters.length) = some n) (hn : vs.length = n) (hf1 : yf + 1 ≤ fr) (hf2 : 8 + (yn + 11) + yl ≤ lo)
    (hstk : stk = vs.reverse ++ gj_r (1000 + i) :: st) (hcat : ((st.map (gj_tv E.2.1)).map fun v => v.category).sum ≤ 8) (hdc : decode cc pc = .ok (.invokevirtual idx, 3)) (k : gj_H E X nL ce sl Q (pc + 3) lv (rv.toList ++ st) σ2) : gj_H E X nL ce sl Q pc lv stk σ := by
  obtain ⟨p, e, R, s, m, args, below, meth, c⟩ := X
  obtain ⟨hx, hb, hml, hown, hts, hK, hi, hr, hlk, hfr, hlo⟩ := hO
  subst hstk
  intro hcs H locs ls hW hS hl
  have hG : GoodIn gj_gw (wsV own idx RJ0 y (.code y yc yn yt :: gj_gw)) := gj_GI (fun w hw => by
    rcases List.mem_append.mp hw with h | h
    · simp only [List.mem_cons, List.not_mem_nil, or_false] at h
      rcases h with rfl | rfl | rfl | rfl
      · exact hl1
      · exact hl2
      · exact hl3
      · exact sw_ini0
    · rcases List.mem_cons.mp h with rfl | h
      · exact hl5
      · exact h)
  refine gj_behind hS (va_runV (As := vs.map (gj_tv E.2.1)) (rest := st.map (gj_tv E.2.1)) (b := E.2.1 (1000 + i)) ⟨hx, hb, hml, hown, hts⟩ (hM H.size) (cwV n hts hG rfl rfl rfl hd ⟨by rw [hfr]; exact hf1, by rw [hlo]; exact hf2⟩) ⟨gj_blind, vk_recv (i := i) hi.2.1 h7 hS, fun U hU hWm => ⟨rfl, by rw [hU], by rw [hU]; exact hW, va_K.moved hWm.alike hK, hio hi.1, gj_Zcall hi.2 hS hU hWm⟩⟩ rfl (by rw [List.length_map, hn]) hl.1 (by simp [gj_tv]) (lv_room hcat) hdc hcs) (fun H1 locs1 hW1 hS1 => ?_)
  have := k hcs H1 locs1 ls hW1 hS1 hl
  rw [List.map_append] at this
  cases rv <;> exact this
/-- a body whose arguments are given as they are -/
theorem gj_bodyV {y : MethodName} {c : ByteArray} {n : Nat} {av : List Value} (hy : plainFor y = true) (hlen : (lg_sl av).length ≤ n) (ks : List Nat) (hlv : lv_pick (lv_args 0 av) ks = gj_L E.2.1 lv)
    (h : ∀ X : gj_X, gj_O E X y.cls c n rt fr lo → gj_G E X n r τ 0 lv [] σ) (sz : Nat) : Met E.1 y (.code y c n rt :: gj_gw) { frames := fr, cells := 0, slots := 0, locals := lo } (va_Pc av (fun U => U.heap.size = sz ∧ gj_W E σ U.heap ∧ va_K E.2.2.1 vwCl (gj_tys E.2.2.2) U ∧ gj_I E.2.1 y.cls ∧ gj_Z E (gj_A E.2.1 sz) U U.heap)) (gj_Q E r τ (gj_A E.2.1 sz)) 0 0 (gj_A E.2.1 sz) := by
  refine gj_ofW (cc := c) (maxL := n) (ret := rt) hy rfl ?_
  intro p e s m args below meth cd s₁ B hml hv
  obtain ⟨rfl, hsz, hW, hK, hi⟩ := hv
  subst hsz
  have hts := atoms_spec (ws := .code y c n rt :: gj_gw) B.pre
  have hO : gj_O E (p, e, (headSpec (.code y c n rt :: gj_gw) { frames := fr, cells := 0, slots := 0, locals := lo }).room, s, m, av.toArray, below, meth, cd) y.cls c n rt fr lo :=
    ⟨B.exec, B.bytes, hml, findClass_of_methodNamed B.named, fun w hw => hts w (List.mem_cons_of_mem _ hw), hK, hi, B.returns, B.notSynchronized, rfl, rfl⟩
  have hl := lv_entry av (n := n) hlen
  rw [lg_entry_eq]
  exact h _ hO ⟨Nat.zero_le _, Nat.zero_le _⟩ s.heap [] _ hW va_S.rf (lv_sub hl ks hlv)
end
/-- Preconditions.checkIndex, the place being in range -/
theorem gj_pre {E : gj_E} {σ : gj_S} {i n : Int32} (v : Value) (hv : v.category = 1) (h0 : ¬ i < 0) (h1 : i < n) (sz : Nat) : Met E.1 yJ3_checkIndex_8e157 (.code yJ3_checkIndex_8e157 cJ3_checkIndex_8e157 3 (some .int) :: gj_gw) { frames := 0, cells := 0, slots := 0, locals := 0 } (va_Pc [.int i, .int n, v] (fun U => U.heap.size = sz ∧ gj_W E σ U.heap ∧ va_K E.2.2.1 vwCl (gj_tys E.2.2.2) U ∧ gj_I E.2.1 RJ3 ∧ gj_Z E (gj_A E.2.1 sz) U U.heap)) (gj_Q E (some (gj_i i)) σ (gj_A E.2.1 sz)) 0 0 (gj_A E.2.1 sz) := by
  refine gj_bodyV (lv := [(0, gj_i i), (1, gj_i n)]) (by decide +kernel) (by have hv2 : ¬ v.category = 2 := (by omega); simp [lg_sl, hv2, show (Value.int i).category = 1 from rfl, show (Value.int n).category = 1 from rfl]) [0, 1] rfl (fun X hO => ?_) sz
  replace hO : gj_O E X RJ3 cJ3_checkIndex_8e157 3 (some .int) 0 0 := hO
  refine gj_iload_n hO 0 dJ3_checkIndex_8e157_0 rfl rfl ?_
  refine gj_if_lt (tgt := 9) hO dJ3_checkIndex_8e157_1 (by decide) (fun h => absurd h h0) (fun h => ?_)
  refine gj_iload_n hO 0 dJ3_checkIndex_8e157_4 rfl rfl ?_
  refine gj_iload_n hO 1 dJ3_checkIndex_8e157_5 rfl rfl ?_
  refine gj_icmp_lt (tgt := 16) hO dJ3_checkIndex_8e157_6 (by decide) (fun h => ?_) (fun h => absurd h1 h)
  refine gj_iload_n hO 0 dJ3_checkIndex_8e157_16 rfl rfl ?_
  exact gj_iret hO dJ3_checkIndex_8e157_17
set_option maxHeartbeats 4000000 in
set_option maxRecDepth 100000 in
theorem m_J0_checkIndex {E : gj_E} {σ : gj_S} {i n : Int32} (h0 : ¬ i < 0) (h1 : i < n) : gj_M E yJ0_checkIndex_df160 cJ0_checkIndex_df160 2 none 1 22 [gj_i i, gj_i n] σ none σ := by
  refine gj_body (lv := [(0, gj_i i), (1, gj_i n)]) (by decide +kernel) (Nat.le_of_ble_eq_true rfl) rfl (fun X hO => ?_)
  replace hO : gj_O E X RJ0 cJ0_checkIndex_df160 2 none 1 22 := hO
  refine gj_iload_n hO 0 dJ0_checkIndex_df160_0 rfl rfl ?_
  refine gj_iload_n hO 1 dJ0_checkIndex_df160_1 rfl rfl ?_
  have hO2 := hO
  obtain ⟨p, e, R, s, m, args, below, meth, c⟩ := X
  obtain ⟨hx, hb, hml, hown, hts, hK, hi, hr, hlk, hfr, hlo⟩ := hO
  intro hcs H locs ls hW hS hl
  have key : ∀ v : Value, v.category = 1 → va_Z "jdk/internal/util/Preconditions" "SIOOBE_FORMATTER" "Ljava/util/function/BiFunction;" v (gj_A E.2.1 s.heap.size) s s.heap → W p E.1 e R s m args below meth c H locs 0 0 (MQ below (gj_Q E none σ (gj_A E.2.1 s.heap.size)) args s 0 0 (gj_A E.2.1 s.heap.size)) (F0 m 2 ls [.int n, .int i]) := by
    intro v hv hZ
    refine va_gets hx hb hZ hS hown (hts _ sw_f1053) (fun x h => h) dJ0_checkIndex_df160_2 ?_
    have hG : GoodIn gj_gw (va_wsS RJ0 1059 yJ3_checkIndex_8e157 (.code yJ3_checkIndex_8e157 cJ3_checkIndex_8e157 3 (some .int) :: gj_gw)) := gj_GI (fun w hw => by
      rcases List.mem_append.mp hw with h | h
      · simp only [List.mem_cons, List.not_mem_nil, or_false] at h
        rcases h with rfl | rfl | rfl
        · exact sw_m_pre
        · exact sw_t_pre
        · exact sw_ini3
      · rcases List.mem_cons.mp h with rfl | h
        · exact sw_c_pre
        · exact h)
    refine gj_behind hS (va_runS (As := [.int i, .int n, v]) (rest := []) ⟨hx, hb, hml, hown, hts⟩ (gj_pre (σ := σ) v hv h0 h1 H.size) (va_cwS 3 hts hG rfl rfl rfl (by decide +kernel) ⟨by rw [hfr]; decide, by rw [hlo]; decide⟩) ⟨fun a U g mk q => ?_, fun U hU hWm => ⟨rfl, by rw [hU], by rw [hU]; exact hW, va_K.moved hWm.alike hK, gj_Iany (by decide) hi.1, gj_Zcall hi.2 hS hU hWm⟩⟩ rfl rfl hl.1 rfl (lv_room (Nat.le_of_ble_eq_true rfl)) dJ0_checkIndex_df160_5 ⟨Nat.zero_le _, Nat.zero_le _⟩) (fun H1 locs1 hW1 hS1 => ?_)
    · obtain ⟨q0, q1, q2, q3, q4⟩ := q
      exact ⟨q0, q1, q2, va_K.moved (u := U) (U := U.calling g mk a) (Vm.Alike.refl U.vm) q3, q4.1, gj_Zsame (s := U) (U := U.calling g mk a) rfl rfl q4.2⟩
    · have k2 : gj_G E (p, e, R, s, m, args, below, meth, c) 2 none σ 8 [(0, gj_i i), (1, gj_i n)] [gj_i i] σ := gj_pop hO2 dJ0_checkIndex_df160_8 trivial (gj_vret hO2 dJ0_checkIndex_df160_9)
      exact k2 hcs H1 locs1 ls hW1 hS1 hl
  rcases hi.2.2.2.1 with hZ | ⟨t, hZ⟩
  · exact key .null rfl hZ
  · exact key (.ref t) rfl hZ
def gj_chr (i k : Nat) : Int32 := (((gj_byt.getD i []).getD k 0 &&& 255).toUInt32 % 65536).toInt32
theorem gj_chr_nar (i k : Nat) : narrow .char (.int (gj_chr i k)) = .int (gj_chr i k) := pk_nc _
theorem gj_len31 {i : Nat} (h7 : i < 7) : gj_len.getD i 0 < 2 ^ 31 := by
  have : ∀ q : Fin 7, gj_len.getD q.1 0 < 2 ^ 31 := by decide
  exact this ⟨i, h7⟩
set_option maxHeartbeats 4000000 in
set_option maxRecDepth 100000 in
theorem m_J1_charAt {E : gj_E} {σ : gj_S} {i k : Nat} (h7 : i < 7) (hk : k < gj_len.getD i 0) : gj_M E yJ1_charAt_3b067 cJ1_charAt_3b067 2 (some .char) 2 43 [gj_r (1100 + i), gj_i (nI k)] σ (some (gj_i (gj_chr i k))) σ := by
  have h31 := gj_len31 h7
  refine gj_body (lv := [(0, gj_r (1100 + i)), (1, gj_i (nI k))]) (by decide +kernel) (Nat.le_of_ble_eq_true rfl) rfl (fun X hO => ?_)
  replace hO : gj_O E X RJ1 cJ1_charAt_3b067 2 (some .char) 2 43 := hO
  refine gj_iload_n hO 1 dJ1_charAt_3b067_0 rfl rfl ?_
  refine gj_aload_n hO 0 dJ1_charAt_3b067_1 rfl rfl ?_
  refine gj_stralen hO h7 dJ1_charAt_3b067_2 ?_
  refine gj_callS hO (vs := [gj_i (nI k), gj_i (nI (gj_len.getD i 0))]) (st := []) (m_J0_checkIndex (σ := σ) (nI_pos (by omega)) (nI_lt hk h31)) (gj_Iany (by decide)) sw_m_checkIndex sw_t_checkIndex sw_ini0 sw_c_checkIndex (n := 2) (by decide +kernel) rfl (by decide) (by decide) rfl (Nat.le_of_ble_eq_true rfl) dJ1_charAt_3b067_3 ?_
  refine gj_aload_n hO 0 dJ1_charAt_3b067_6 rfl rfl ?_
  refine gj_iload_n hO 1 dJ1_charAt_3b067_7 rfl rfl ?_
  refine gj_strb hO h7 hk h31 dJ1_charAt_3b067_8 ?_
  refine gj_sipush (v := 255) hO dJ1_charAt_3b067_9 (by decide) ?_
  refine gj_iand hO dJ1_charAt_3b067_12 ?_
  refine gj_i2c hO dJ1_charAt_3b067_13 ?_
  exact gj_nret hO (gj_chr_nar i k) dJ1_charAt_3b067_14
set_option maxHeartbeats 4000000 in
set_option maxRecDepth 100000 in
theorem m_J0_isLatin1 {E : gj_E} {σ : gj_S} {i : Nat} (h7 : i < 7) : gj_M E yJ0_isLatin1_aae02 cJ0_isLatin1_aae02 1 (some .boolean) 0 0 [gj_r (1000 + i)] σ (some (gj_i 1)) σ := by
  refine gj_body (lv := [(0, gj_r (1000 + i))]) (by decide +kernel) (Nat.le_of_ble_eq_true rfl) rfl (fun X hO => ?_)
  replace hO : gj_O E X RJ0 cJ0_isLatin1_aae02 1 (some .boolean) 0 0 := hO
  refine gj_compact hO sw_f38 dJ0_isLatin1_aae02_0 ?_
  refine gj_if_eq (tgt := 17) hO dJ0_isLatin1_aae02_3 (by decide) (fun h => absurd h (by decide)) (fun h => ?_)
  refine gj_aload_n hO 0 dJ0_isLatin1_aae02_6 rfl rfl ?_
  refine gj_strcoder hO h7 sw_f15 dJ0_isLatin1_aae02_7 ?_
  refine gj_if_ne (tgt := 17) hO dJ0_isLatin1_aae02_10 (by decide) (fun h => absurd rfl h) (fun h => ?_)
  refine gj_iconst (v := 1) hO dJ0_isLatin1_aae02_13 (by decide) ?_
  refine gj_goto (tgt := 18) hO dJ0_isLatin1_aae02_14 (by decide) ?_
  exact gj_zret hO (Or.inr rfl) dJ0_isLatin1_aae02_18
set_option maxHeartbeats 4000000 in
set_option maxRecDepth 100000 in
theorem m_J0_coder {E : gj_E} {σ : gj_S} {i : Nat} (h7 : i < 7) : gj_M E yJ0_coder_7d493 cJ0_coder_7d493 1 (some .byte) 0 0 [gj_r (1000 + i)] σ (some (gj_i 0)) σ := by
  refine gj_body (lv := [(0, gj_r (1000 + i))]) (by decide +kernel) (Nat.le_of_ble_eq_true rfl) rfl (fun X hO => ?_)
  replace hO : gj_O E X RJ0 cJ0_coder_7d493 1 (some .byte) 0 0 := hO
  refine gj_compact hO sw_f38 dJ0_coder_7d493_0 ?_
  refine gj_if_eq (tgt := 13) hO dJ0_coder_7d493_3 (by decide) (fun h => absurd h (by decide)) (fun h => ?_)
  refine gj_aload_n hO 0 dJ0_coder_7d493_6 rfl rfl ?_
  refine gj_strcoder hO h7 sw_f15 dJ0_coder_7d493_7 ?_
  refine gj_goto (tgt := 14) hO dJ0_coder_7d493_10 (by decide) ?_
  exact gj_nret hO rfl dJ0_coder_7d493_14
set_option maxHeartbeats 4000000 in
set_option maxRecDepth 100000 in
theorem m_J0_length {E : gj_E} {σ : gj_S} {i : Nat} (h7 : i < 7) : gj_M E yJ0_length_8abf5 cJ0_length_8abf5 1 (some .int) 1 20 [gj_r (1000 + i)] σ (some (gj_i (nI (gj_len.getD i 0)))) σ := by
  refine gj_body (lv := [(0, gj_r (1000 + i))]) (by decide +kernel) (Nat.le_of_ble_eq_true rfl) rfl (fun X hO => ?_)
  replace hO : gj_O E X RJ0 cJ0_length_8abf5 1 (some .int) 1 20 := hO
  refine gj_aload_n hO 0 dJ0_length_8abf5_0 rfl rfl ?_
  refine gj_strval hO h7 sw_f9 dJ0_length_8abf5_1 ?_
  refine gj_stralen hO h7 dJ0_length_8abf5_4 ?_
  refine gj_aload_n hO 0 dJ0_length_8abf5_5 rfl rfl ?_
  refine gj_callT hO (i := i) (vs := []) (st := [gj_i (nI (gj_len.getD i 0))]) (m_J0_coder (σ := σ) h7) (gj_Iany (by decide)) h7 sw_m_coder sw_i_coder sw_s_coder sw_c_coder (n := 0) (by decide +kernel) rfl (by decide) (by decide) rfl (Nat.le_of_ble_eq_true rfl) dJ0_length_8abf5_6 ?_
  refine gj_ishr hO dJ0_length_8abf5_9 ?_
  have hs : nI (gj_len.getD i 0) >>> ((0 : Int32) &&& 31) = nI (gj_len.getD i 0) := sc_shr0 (gj_len31 h7)
  rw [hs]
  exact gj_iret hO dJ0_length_8abf5_10
set_option maxHeartbeats 4000000 in
set_option maxRecDepth 100000 in
theorem m_J0_charAt {E : gj_E} {σ : gj_S} {i k : Nat} (h7 : i < 7) (hk : k < gj_len.getD i 0) : gj_M E yJ0_charAt_5068e cJ0_charAt_5068e 2 (some .char) 3 64 [gj_r (1000 + i), gj_i (nI k)] σ (some (gj_i (gj_chr i k))) σ := by
  refine gj_body (lv := [(0, gj_r (1000 + i)), (1, gj_i (nI k))]) (by decide +kernel) (Nat.le_of_ble_eq_true rfl) rfl (fun X hO => ?_)
  replace hO : gj_O E X RJ0 cJ0_charAt_5068e 2 (some .char) 3 64 := hO
  refine gj_aload_n hO 0 dJ0_charAt_5068e_0 rfl rfl ?_
  refine gj_callT hO (i := i) (vs := []) (st := []) (m_J0_isLatin1 (σ := σ) h7) (gj_Iany (by decide)) h7 sw_m_isLatin1 sw_i_isLatin1 sw_s_isLatin1 sw_c_isLatin1 (n := 0) (by decide +kernel) rfl (by decide) (by decide) rfl (Nat.le_of_ble_eq_true rfl) dJ0_charAt_5068e_1 ?_
  refine gj_if_eq (tgt := 16) hO dJ0_charAt_5068e_4 (by decide) (fun h => absurd h (by decide)) (fun h => ?_)
  refine gj_aload_n hO 0 dJ0_charAt_5068e_7 rfl rfl ?_
  refine gj_strval hO h7 sw_f9 dJ0_charAt_5068e_8 ?_
  refine gj_iload_n hO 1 dJ0_charAt_5068e_11 rfl rfl ?_
  refine gj_callS hO (vs := [gj_r (1100 + i), gj_i (nI k)]) (st := []) (m_J1_charAt (σ := σ) h7 hk) (gj_Iany (by decide)) sw_m_charAt1 sw_t_charAt1 sw_ini1 sw_c_charAt1 (n := 2) (by decide +kernel) rfl (by decide) (by decide) rfl (Nat.le_of_ble_eq_true rfl) dJ0_charAt_5068e_12 ?_
  exact gj_nret hO (gj_chr_nar i k) dJ0_charAt_5068e_15
/-- the number of a word's first k letters -/
def gj_sp (i : Nat) : Nat → Int64
  | 0 => 0
  | k + 1 => (gj_sp i k <<< (Int32.toInt64 5 &&& 63)) ||| (Int32.toInt64 (gj_chr i k) - 96)
def f_X9_spelled (b0 : Nat) : Option Int64 := if 1000 ≤ b0 ∧ b0 < 1007 then some (gj_sp (b0 - 1000) (gj_len.getD (b0 - 1000) 0)) else none
set_option maxHeartbeats 4000000 in
set_option maxRecDepth 100000 in
theorem sb_X9_spelled {E : gj_E} {X : gj_X} {σ : gj_S} (hO : gj_O E X RX9 cX9_spelled 4 (some .long) 4 85) {i : Nat} (h7 : i < 7) : ∀ (n k : Nat), k + n = gj_len.getD i 0 → gj_G E X 4 (some (gj_l (gj_sp i (gj_len.getD i 0)))) σ 4 [(3, gj_i (nI k)), (1, gj_l (gj_sp i k)), (0, gj_r (1000 + i))] [] σ := by
  have h31 := gj_len31 h7
  intro n
  induction n with
  | zero =>
    intro k hk
    refine gj_iload_n hO 0 dX9_spelled_4 rfl rfl ?_
    refine gj_aload_n hO 2 dX9_spelled_5 rfl rfl ?_
    refine gj_callT hO (i := i) (vs := []) (st := [gj_i (nI k)]) (m_J0_length (σ := σ) h7) (gj_Iany (by decide)) h7 sw_m_length sw_i_length sw_s_length sw_c_length (n := 0) (by decide +kernel) rfl (by decide) (by decide) rfl (Nat.le_of_ble_eq_true rfl) dX9_spelled_6 ?_
    refine gj_icmp_ge (tgt := 33) hO dX9_spelled_9 (by decide) (fun h => ?_) (fun h => absurd (nI_le (by omega) (by omega)) h)
    refine gj_lload_n hO 1 dX9_spelled_33 rfl rfl ?_
    have e : k = gj_len.getD i 0 := by omega
    subst e
    exact gj_lret hO dX9_spelled_34
  | succ n ih =>
    intro k hk
    refine gj_iload_n hO 0 dX9_spelled_4 rfl rfl ?_
    refine gj_aload_n hO 2 dX9_spelled_5 rfl rfl ?_
    refine gj_callT hO (i := i) (vs := []) (st := [gj_i (nI k)]) (m_J0_length (σ := σ) h7) (gj_Iany (by decide)) h7 sw_m_length sw_i_length sw_s_length sw_c_length (n := 0) (by decide +kernel) rfl (by decide) (by decide) rfl (Nat.le_of_ble_eq_true rfl) dX9_spelled_6 ?_
    refine gj_icmp_ge (tgt := 33) hO dX9_spelled_9 (by decide) (fun h => absurd h (nI_ge (by omega) (by omega))) (fun h => ?_)
    refine gj_lload_n hO 1 dX9_spelled_12 rfl rfl ?_
    refine gj_iconst (v := 5) hO dX9_spelled_13 (by decide) ?_
    refine gj_lshl hO dX9_spelled_14 ?_
    refine gj_aload_n hO 2 dX9_spelled_15 rfl rfl ?_
    refine gj_iload_n hO 0 dX9_spelled_16 rfl rfl ?_
    refine gj_callT hO (i := i) (vs := [gj_i (nI k)]) (m_J0_charAt (σ := σ) h7 (k := k) (by omega)) (gj_Iany (by decide)) h7 sw_m_charAt sw_i_charAt sw_s_charAt sw_c_charAt (n := 1) (by decide +kernel) rfl (by decide) (by decide) rfl (Nat.le_of_ble_eq_true rfl) dX9_spelled_17 ?_
    refine gj_i2l hO dX9_spelled_20 ?_
    refine gj_ldc2 hO sw_96 dX9_spelled_21 ?_
    refine gj_lsub hO dX9_spelled_24 ?_
    refine gj_lor hO dX9_spelled_25 ?_
    refine gj_lstore_n (lv2 := [(1, gj_l (gj_sp i (k + 1))), (3, gj_i (nI k)), (0, gj_r (1000 + i))]) hO dX9_spelled_26 rfl (by decide) rfl ?_
    refine gj_iinc (v := nI (k + 1)) (lv2 := [(3, gj_i (nI (k + 1))), (1, gj_l (gj_sp i (k + 1))), (0, gj_r (1000 + i))]) hO 1 dX9_spelled_27 rfl (nI_1 k) (by decide) rfl ?_
    refine gj_goto (tgt := 4) hO dX9_spelled_30 (by decide) ?_
    exact ih (k + 1) (by omega)
set_option maxHeartbeats 4000000 in
set_option maxRecDepth 100000 in
theorem m_X9_spelled {E : gj_E} {σ : gj_S} {b0 : Nat} {x : Int64} (hf : f_X9_spelled b0 = some x) : gj_M E yX9_spelled cX9_spelled 4 (some .long) 4 85 [gj_r b0] σ (some (gj_l x)) σ := by
  obtain ⟨h, hf⟩ := gj_c hf
  obtain rfl := Option.some.inj hf
  obtain ⟨i, rfl⟩ : ∃ i, b0 = 1000 + i := ⟨b0 - 1000, by omega⟩
  have h7 : i < 7 := by omega
  rw [show 1000 + i - 1000 = i from by omega]
  refine gj_body (lv := [(0, gj_r (1000 + i))]) (by decide +kernel) (Nat.le_of_ble_eq_true rfl) rfl (fun X hO => ?_)
  replace hO : gj_O E X RX9 cX9_spelled 4 (some .long) 4 85 := hO
  refine gj_lconst (v := 0) hO dX9_spelled_0 (by decide) ?_
  refine gj_lstore_n (lv2 := [(1, gj_l 0), (0, gj_r (1000 + i))]) hO dX9_spelled_1 rfl (by decide) rfl ?_
  refine gj_iconst (v := 0) hO dX9_spelled_2 (by decide) ?_
  refine gj_istore_n (lv2 := [(3, gj_i 0), (1, gj_l 0), (0, gj_r (1000 + i))]) hO dX9_spelled_3 rfl (by decide) rfl ?_
  exact sb_X9_spelled hO h7 (gj_len.getD i 0) 0 (by omega)
theorem sw_t_spelled : Cond.static yX9_spelled ∈ gj_gw := gj_good (List.mem_of_getElem? (i := 1118) (by decide +kernel)) (by decide +kernel)
theorem sw_c_spelled : Cond.code yX9_spelled cX9_spelled 4 (some .long) ∈ gj_gw := gj_good (List.mem_of_getElem? (i := 1119) (by decide +kernel)) (by decide +kernel)
theorem sw_ini9 : Cond.initialized RX9 ∈ gj_gw := gj_good (List.mem_of_getElem? (i := 10) (by decide +kernel)) (by decide +kernel)
theorem ca_X9_spelled {E : gj_E} {X : gj_X} {own : String} {cc : ByteArray} {nL : Nat} {rt : Option FieldType} {fr lo : Nat} {ce sl : Nat} {Q : State → Prop} {pc : Nat} {lv : List (Nat × gj_V)} {st : List gj_V} {σ : gj_S} (hO : gj_O E X own cc nL rt fr lo) (hw : gj_lt own 188) {b0 : Nat} {idx : Nat} {x : Int64} (hf : f_X9_spelled b0 = some x) (hl : Cond.methodLink own idx yX9_spelled ∈ gj_gw) (hf1 : 5 ≤ fr) (hf2 : 108 ≤ lo) (hcat : ((st.map (gj_tv E.2.1)).map fun v => v.category).sum ≤ 8) (hd : decode cc pc = .ok (.invokestatic idx, 3)) (k : gj_H E X nL ce sl Q (pc + 3) lv (gj_l x :: st) σ) : gj_H E X nL ce sl Q pc lv (gj_r b0 :: st) σ :=
  gj_callS hO (vs := [gj_r b0]) (m_X9_spelled (σ := σ) hf) (gj_I9 hw) hl sw_t_spelled sw_ini9 sw_c_spelled (n := 1) (by decide +kernel) rfl hf1 hf2 rfl hcat hd k
