/-! ===== what stands at the law's entry ===== -/
def st_fl : List Cond := flatC (Jvm.Cond.and given_1 narrow_1)
def st_tm (i : Nat) : Term := match i with
  | 0 => .string "PivotDocksModel" 150 | 1 => .string "PivotDocksModel" 156 | 2 => .string "PivotDocksModel" 157 | 3 => .string "PivotDocksModel" 159 | 4 => .string "PivotDocksModel" 161 | 5 => .string "PivotDocksModel" 162 | 6 => .string "PivotDocksModel" 163
  | 7 => .string "PivotDocks" 109 | 8 => .string "PivotDocks" 143 | 9 => .string "PivotDocks" 148 | 10 => .string "PivotDocks" 174 | 11 => .string "PivotDocks" 226 | _ => .string "PivotDocks" 228
theorem st_ex : ∀ i : Fin 13, Cond.exactly (st_tm i.1) "java/lang/String" ∈ st_fl := by decide +kernel
theorem st_co : ∀ i : Fin 7, Cond.eq (.field (st_tm i.1) "java/lang/String" "coder" "B") (.int 0) ∈ st_fl := by decide +kernel
theorem st_ar : ∀ i : Fin 7, Cond.arrayOf (.field (st_tm i.1) "java/lang/String" "value" "[B") .byte ∈ st_fl := by decide +kernel
theorem st_le : ∀ i : Fin 7, Cond.eq (.length (.field (st_tm i.1) "java/lang/String" "value" "[B")) (.int (Int32.ofNat (gj_len.getD i.1 0))) ∈ st_fl := by decide +kernel
theorem st_el : ∀ i : Fin 7, ∀ j : Fin 5, j.1 < gj_len.getD i.1 0 → Cond.eq (.elem (.field (st_tm i.1) "java/lang/String" "value" "[B") (.int (Int32.ofNat j.1))) (.int ((gj_byt.getD i.1 []).getD j.1 0)) ∈ st_fl := by decide +kernel
theorem st_ne : ∀ i j : Fin 7, i ≠ j → Cond.not (Cond.eq (st_tm i.1) (st_tm j.1)) ∈ st_fl ∨ Cond.not (Cond.eq (st_tm j.1) (st_tm i.1)) ∈ st_fl := by decide +kernel
theorem st_l5 : ∀ i : Fin 7, gj_len.getD i.1 0 ≤ 5 := by decide
def st_ad (B b n : Nat) (aK aV aM : Nat → Nat) : Nat → Nat := fun k => if k < 1000 then B + k else if k < 1007 then aK (k - 1000) else if k < 1100 then aM (k - 1000) else if k < 2000 then aV (k - 1100) else if k = 2000 then b else n
theorem st_tr {l : Launch} (h : l.flags = flags0) : l.stackTraces = false := by
  unfold Launch.stackTraces
  rw [h]
  decide +kernel
theorem st_prim {s : State} {ty : FieldType} {args : Array Value} (h : (Cond.arrayClass ty).before args s = true) : ∃ cA : ClassId, ArrOfT s cA ty ∧ s.vm.findClass ("[" ++ ty.toString) = some cA := by
  obtain ⟨c, k, comp, h1, h2, h3⟩ := Cond.arrayClass_spec (args := args) (first := s) (o := none) (s := s) (idx := []) h
  exact ⟨c, fun n z => ⟨fun k h => (by cases h), k, h2, comp, h3⟩, h1⟩
theorem st_obj {s : State} {C : String} {args : Array Value} (h : (Cond.arrayOver (.object C)).before args s = true) : ∃ cA : ClassId, ArrOfT s cA (.object C) ∧ va_RA s cA (.object C) := by
  obtain ⟨comp, c, k, h1, h2, h3, h4, h5⟩ := Cond.arrayOver_spec (args := args) (first := s) (o := none) (s := s) (idx := []) h
  exact ⟨c, fun n z => ⟨fun k h => (by cases h), k, h3, comp, h4⟩, ⟨k, comp, h3, h4, h1, h5⟩⟩
theorem st_nest : ∀ q ∈ bj_nest, Cond.methodLinkNest q.1 q.2.1 q.2.2 "PivotDocks" ∈ tables_1 := by
  intro q hq
  simp only [bj_nest, List.mem_cons, List.not_mem_nil, or_false] at hq
  rcases hq with rfl | rfl | rfl | rfl | rfl | rfl | rfl | rfl | rfl | rfl
  · exact List.mem_of_getElem? (i := 31) (by decide +kernel)
  · exact List.mem_of_getElem? (i := 37) (by decide +kernel)
  · exact List.mem_of_getElem? (i := 169) (by decide +kernel)
  · exact List.mem_of_getElem? (i := 174) (by decide +kernel)
  · exact List.mem_of_getElem? (i := 177) (by decide +kernel)
  · exact List.mem_of_getElem? (i := 208) (by decide +kernel)
  · exact List.mem_of_getElem? (i := 265) (by decide +kernel)
  · exact List.mem_of_getElem? (i := 280) (by decide +kernel)
  · exact List.mem_of_getElem? (i := 290) (by decide +kernel)
  · exact List.mem_of_getElem? (i := 303) (by decide +kernel)
set_option maxHeartbeats 4000000 in
theorem st_env {p : Program} {s : State} {m : MethodId} {meth : Method} {c : Code} {l : Launch} (hflags : l.flags = flags0) {b L : Nat} {xs : Nat → Int32} (C0 : lw_At p s m meth c b L xs) :
    ∃ (D : va_G) (cy : Nat → ClassId) (aK aV aM : Nat → Nat), va_K D vwCl (gj_tys cy) s ∧ bj_Z s ∧ ∀ n : Nat, gj_Z (l, st_ad s.heap.size b n aK aV aM, D, cy) (fun q => s.heap.size ≤ q) s s.heap := by
  obtain ⟨hx, hb, hr, hml, hown, hts, hX, hbl, hlocks, hgv⟩ := C0
  have hfl : ∀ c ∈ st_fl, c.before #[Value.ref b] s = true := flat_of_before _ hgv
  have hA : ∀ a : Nat, a < s.heap.size → ¬ (fun q : Nat => s.heap.size ≤ q) a := fun a h => Nat.not_le.mpr h
  have hT : ∀ (i : Nat) {w : Cond}, tables_1[i]? = some w → w.before #[Value.ref b] s = true := fun i w h => hts w (List.mem_append_right _ (List.mem_of_getElem? h))
  have hgw : ∀ w ∈ gj_gw, w.before #[Value.ref b] s = true := fun w hw => hts w (List.mem_filter.mp hw).1
  obtain ⟨c0, i0, k0⟩ := u_known (C := RX0) (T := TX0) (N := 3) (n := 3) hgw ly_X0 (hT 258 (by decide +kernel))
  obtain ⟨c1, i1, k1⟩ := u_known (C := RX1) (T := TX1) (N := 13) (n := 13) hgw ly_X1 (hT 36 (by decide +kernel))
  obtain ⟨c2, i2, k2⟩ := u_known (C := RX2) (T := TX2) (N := 11) (n := 11) hgw ly_X2 (hT 30 (by decide +kernel))
  obtain ⟨c3, i3, k3⟩ := u_known (C := RX3) (T := TX3) (N := 6) (n := 6) hgw ly_X3 (hT 207 (by decide +kernel))
  obtain ⟨c4, i4, k4⟩ := u_known (C := RX4) (T := TX4) (N := 2) (n := 2) hgw ly_X4 (hT 289 (by decide +kernel))
  obtain ⟨c5, i5, k5⟩ := u_known (C := RX5) (T := TX5) (N := 5) (n := 5) hgw ly_X5 (hT 176 (by decide +kernel))
  obtain ⟨c6, i6, k6⟩ := u_known (C := RX6) (T := TX6) (N := 1) (n := 1) hgw ly_X6 (hT 279 (by decide +kernel))
  obtain ⟨c7, i7, k7⟩ := u_known (C := RX7) (T := TX7) (N := 4) (n := 4) hgw ly_X7 (hT 168 (by decide +kernel))
  obtain ⟨c8, i8, k8⟩ := u_known (C := RX8) (T := TX8) (N := 11) (n := 11) hgw ly_X8 (hT 22 (by decide +kernel))
  obtain ⟨c9, i9, k9⟩ := u_known (C := RX9) (T := TX9) (N := 41) (n := 41) hgw ly_X9 (hT 947 (by decide +kernel))
  obtain ⟨y0, z0, r0⟩ := st_prim (ty := .byte) (hT 128 (by decide +kernel))
  obtain ⟨y1, z1, r1⟩ := st_prim (ty := .int) (hT 129 (by decide +kernel))
  obtain ⟨y2, z2, r2⟩ := st_prim (ty := .long) (hT 166 (by decide +kernel))
  obtain ⟨y3, z3, r3⟩ := st_prim (ty := .boolean) (hT 241 (by decide +kernel))
  have hAO : (Cond.arrayOver (.object "PivotDocks$Plan")).before #[Value.ref b] s = true := hT 264 (by decide +kernel)
  obtain ⟨y4, z4, r4⟩ := st_obj (C := "PivotDocks$Plan") hAO
  obtain ⟨aK, aV, hvS, hev⟩ := vk_Sof (args := #[Value.ref b]) (s := s) (N := 7) (tm := st_tm) (len := gj_len) (byt := gj_byt) (A := fun q => s.heap.size ≤ q) (fun i hi => by have := st_l5 ⟨i, hi⟩; simp only at this; omega) (fun i hi => hfl _ (st_ex ⟨i, by omega⟩)) (fun i hi => hfl _ (st_co ⟨i, hi⟩)) (fun i hi => hfl _ (st_ar ⟨i, hi⟩)) (fun i hi => hfl _ (st_le ⟨i, hi⟩)) (fun i hi j hj => hfl _ (st_el ⟨i, hi⟩ ⟨j, by have := st_l5 ⟨i, hi⟩; simp only at this; omega⟩ hj))
    (fun i j hi hj hij => (st_ne ⟨i, hi⟩ ⟨j, hj⟩ (fun h => hij (Fin.mk.inj h))).elim (fun h => Or.inl (hfl _ h)) (fun h => Or.inr (hfl _ h))) hA
  have hm : ∀ i : Nat, ∃ a : Nat, i < 13 → (st_tm i).eval #[Value.ref b] s none [] s = some (.ref a) := by
    intro i
    by_cases hi : i < 13
    · obtain ⟨a, -, -, -, q1, -⟩ := Cond.exactly_spec (args := #[Value.ref b]) (first := s) (o := none) (s := s) (idx := []) (t := st_tm i) (cls := "java/lang/String") (hfl _ (st_ex ⟨i, hi⟩))
      exact ⟨a, fun _ => q1⟩
    · exact ⟨0, fun h => absurd h hi⟩
  obtain ⟨aM, hM⟩ := Classical.axiomOfChoice hm
  refine ⟨(fun k => if k = 0 then c0 else if k = 1 then c1 else if k = 2 then c2 else if k = 3 then c3 else if k = 4 then c4 else if k = 5 then c5 else if k = 6 then c6 else if k = 7 then c7 else if k = 8 then c8 else c9, fun k => if k = 0 then i0 else if k = 1 then i1 else if k = 2 then i2 else if k = 3 then i3 else if k = 4 then i4 else if k = 5 then i5 else if k = 6 then i6 else if k = 7 then i7 else if k = 8 then i8 else i9), fun k => if k = 0 then y0 else if k = 1 then y1 else if k = 2 then y2 else if k = 3 then y3 else y4, aK, aV, aM, ⟨?_, ?_⟩, ⟨fun q hq => va_Nw.of rfl (hts _ (List.mem_append_right _ (st_nest q hq))), hAO⟩, fun n => ⟨?_, ?_, ?_, ?_, ?_, ?_, ?_, ?_⟩⟩
  · intro k q hq
    match k, hq with
    | 0, hq => cases hq; exact k0
    | 1, hq => cases hq; exact k1
    | 2, hq => cases hq; exact k2
    | 3, hq => cases hq; exact k3
    | 4, hq => cases hq; exact k4
    | 5, hq => cases hq; exact k5
    | 6, hq => cases hq; exact k6
    | 7, hq => cases hq; exact k7
    | 8, hq => cases hq; exact k8
    | 9, hq => cases hq; exact k9
    | k + 10, hq => simp [vwCl] at hq
  · intro k q hq
    match k, hq with
    | 0, hq => cases hq; exact ⟨z0, r0⟩
    | 1, hq => cases hq; exact ⟨z1, r1⟩
    | 2, hq => cases hq; exact ⟨z2, r2⟩
    | 3, hq => cases hq; exact ⟨z3, r3⟩
    | 4, hq => cases hq; exact ⟨z4, r4⟩
    | k + 5, hq => simp [gj_tys] at hq
  · have e1 : ∀ i, i < 7 → st_ad s.heap.size b n aK aV aM (1000 + i) = aK i := fun i hi => by simp [st_ad, show ¬ 1000 + i < 1000 by omega, show 1000 + i < 1007 by omega]
    have e2 : ∀ i, i < 7 → st_ad s.heap.size b n aK aV aM (1100 + i) = aV i := fun i hi => by simp [st_ad, show ¬ 1100 + i < 1000 by omega, show ¬ 1100 + i < 1007 by omega, show ¬ 1100 + i < 1100 by omega, show 1100 + i < 2000 by omega]
    refine ⟨fun i hi => ?_, fun i j hi hj e => ?_⟩
    · show va_O _ (st_ad s.heap.size b n aK aV aM (1000 + i)) _ _ _ ∧ va_OF _ _ _ _ (st_ad s.heap.size b n aK aV aM (1000 + i)) _ _ _ ∧ va_OF _ _ _ (.ref (st_ad s.heap.size b n aK aV aM (1100 + i))) (st_ad s.heap.size b n aK aV aM (1000 + i)) _ _ _ ∧ va_T _ (st_ad s.heap.size b n aK aV aM (1100 + i)) _ _ _ _ _
      rw [e1 i hi, e2 i hi]
      exact hvS.1 i hi
    · refine hvS.2 i j hi hj ?_
      rw [← e1 i hi, ← e1 j hj]
      exact e
  · exact va_Zof (hT 1129 (by decide +kernel)) (hT 13 (by decide +kernel)) (va_eqv (hfl _ (show Cond.eq (.static "java/lang/String" "COMPACT_STRINGS" "Z") (.int 1) ∈ st_fl by decide +kernel)) rfl) hA
  · exact va_Zqof (hT 1145 (by decide +kernel)) (hT 15 (by decide +kernel)) (hfl _ (by decide +kernel)) hA
  · exact vx_Zqof (hT 878 (by decide +kernel)) (hT 17 (by decide +kernel)) (hfl _ (by decide +kernel)) hA
  · exact vx_Zqof (hT 880 (by decide +kernel)) (hT 17 (by decide +kernel)) (hfl _ (by decide +kernel)) hA
  · intro q hq
    simp only [gj_strs, List.mem_cons, List.not_mem_nil, or_false] at hq
    rcases hq with rfl | rfl | rfl | rfl | rfl | rfl | rfl | rfl | rfl | rfl | rfl | rfl | rfl
    · exact ⟨(hT 1112 (by decide +kernel) : (Cond.stringRef "PivotDocksModel" 150 "dock").before #[Value.ref b] s = true), hev 0 (by decide)⟩
    · exact ⟨(hT 1188 (by decide +kernel) : (Cond.stringRef "PivotDocksModel" 156 "gives").before #[Value.ref b] s = true), hev 1 (by decide)⟩
    · exact ⟨(hT 1189 (by decide +kernel) : (Cond.stringRef "PivotDocksModel" 157 "takes").before #[Value.ref b] s = true), hev 2 (by decide)⟩
    · exact ⟨(hT 1190 (by decide +kernel) : (Cond.stringRef "PivotDocksModel" 159 "route").before #[Value.ref b] s = true), hev 3 (by decide)⟩
    · exact ⟨(hT 1191 (by decide +kernel) : (Cond.stringRef "PivotDocksModel" 161 "costs").before #[Value.ref b] s = true), hev 4 (by decide)⟩
    · exact ⟨(hT 1192 (by decide +kernel) : (Cond.stringRef "PivotDocksModel" 162 "holds").before #[Value.ref b] s = true), hev 5 (by decide)⟩
    · exact ⟨(hT 1193 (by decide +kernel) : (Cond.stringRef "PivotDocksModel" 163 "block").before #[Value.ref b] s = true), hev 6 (by decide)⟩
    · exact ⟨(hT 890 (by decide +kernel) : (Cond.stringRef "PivotDocks" 109 "no such dock").before #[Value.ref b] s = true), hM 7 (by decide)⟩
    · exact ⟨(hT 922 (by decide +kernel) : (Cond.stringRef "PivotDocks" 143 "no such number of a dock").before #[Value.ref b] s = true), hM 8 (by decide)⟩
    · exact ⟨(hT 930 (by decide +kernel) : (Cond.stringRef "PivotDocks" 148 "no such way").before #[Value.ref b] s = true), hM 9 (by decide)⟩
    · exact ⟨(hT 932 (by decide +kernel) : (Cond.stringRef "PivotDocks" 174 "no such number of a way").before #[Value.ref b] s = true), hM 10 (by decide)⟩
    · exact ⟨(hT 940 (by decide +kernel) : (Cond.stringRef "PivotDocks" 226 "no such pivot").before #[Value.ref b] s = true), hM 11 (by decide)⟩
    · exact ⟨(hT 941 (by decide +kernel) : (Cond.stringRef "PivotDocks" 228 "no such number of a pivot").before #[Value.ref b] s = true), hM 12 (by decide)⟩
  · exact st_tr hflags
  · exact fun w hw => va_Nw.of (gj_badT (List.mem_filter.mp hw).2) (hts w (List.mem_append_right _ (List.mem_filter.mp hw).1))
