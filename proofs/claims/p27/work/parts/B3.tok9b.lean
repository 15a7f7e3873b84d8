/-! ===== text: a token read by the reference, end; words ===== -/
def k9 (k : Nat) : Int32 := if k = 0 then 1 else if k = 1 then 2 else if k = 2 then 59 else if k = 3 then 0 else 3
def TK9 (y : Nat → Int32) (N p : Nat) (σ : gj_S) : Prop := σ.1 188 5 = nI (te y N p) ∧ σ.1 188 4 = nI (tq y N p) ∧ σ.1 188 6 = k9 (tk y N p) ∧ (tk y N p = 0 → σ.2.1 188 8 = pk5 (tw y N p)) ∧ (tk y N p = 1 → σ.1 188 7 = nI (tn y N p))
theorem r9_tok {y : Nat → Int32} {N p : Nat} {σ : gj_S} (hr : rd9 y N σ) (hp : p ≤ N) (hat : σ.1 188 5 = nI p) : TP (f_X9_goesOn σ) (fun z => fT9 σ z ∧ TK9 y N p z) := by
  have hN := hr.1
  unfold f_X9_goesOn
  have fa : fT9 σ (gj_sI σ 188 (upd (σ.1 188) 4 (σ.1 188 5))) := fT9_I (by omega) (by omega) fT9_rf
  refine tp_bind (r9_l8 (fT9_rd fa hr) hp (by rw [sI_eq, up_eq, hat])) (fun z1 hz1 => ?_)
  obtain ⟨f1, f4⟩ := hz1
  have fb := fT9_tr fa f1
  have hr1 := fT9_rd fb hr
  have hqN := tq_N (y := y) hp
  have sk := r9_see hr1 hqN
  rw [← f4] at sk
  refine tp_beq sk (tp_beq rfl ?_)
  have g0 : fT9 σ (gj_sI (gj_sI z1 188 (upd (z1.1 188) 5 (z1.1 188 4 + 1))) 188 (upd ((gj_sI z1 188 (upd (z1.1 188) 5 (z1.1 188 4 + 1))).1 188) 6 3)) := fT9_I (by omega) (by omega) (fT9_I (by omega) (by omega) fb)
  have g4 : (gj_sI (gj_sI z1 188 (upd (z1.1 188) 5 (z1.1 188 4 + 1))) 188 (upd ((gj_sI z1 188 (upd (z1.1 188) 5 (z1.1 188 4 + 1))).1 188) 6 3)).1 188 4 = nI (tq y N p) := by rw [sI_eq, up_ne (by decide), sI_eq, up_ne (by decide), f4]
  have g5 : (gj_sI (gj_sI z1 188 (upd (z1.1 188) 5 (z1.1 188 4 + 1))) 188 (upd ((gj_sI z1 188 (upd (z1.1 188) 5 (z1.1 188 4 + 1))).1 188) 6 3)).1 188 5 = nI (tq y N p + 1) := by rw [sI_eq, up_ne (by decide), sI_eq, up_eq, f4, nI_1]
  have g6 : (gj_sI (gj_sI z1 188 (upd (z1.1 188) 5 (z1.1 188 4 + 1))) 188 (upd ((gj_sI z1 188 (upd (z1.1 188) 5 (z1.1 188 4 + 1))).1 188) 6 3)).1 188 6 = 3 := by rw [sI_eq, up_eq]
  generalize gj_sI (gj_sI z1 188 (upd (z1.1 188) 5 (z1.1 188 4 + 1))) 188 (upd ((gj_sI z1 188 (upd (z1.1 188) 5 (z1.1 188 4 + 1))).1 188) 6 3) = s3 at g0 g4 g5 g6 ⊢
  have w0 : fT9 σ (gj_sJ (gj_sI s3 188 (upd (s3.1 188) 7 0)) 188 (vp_updL ((gj_sI s3 188 (upd (s3.1 188) 7 0)).2.1 188) 8 0)) := fT9_J (fT9_I (by omega) (by omega) g0)
  have w4 : (gj_sJ (gj_sI s3 188 (upd (s3.1 188) 7 0)) 188 (vp_updL ((gj_sI s3 188 (upd (s3.1 188) 7 0)).2.1 188) 8 0)).1 188 4 = nI (tq y N p) := by
    show (gj_sI s3 188 (upd (s3.1 188) 7 0)).1 188 4 = _
    rw [sI_eq, up_ne (by decide), g4]
  have w5 : (gj_sJ (gj_sI s3 188 (upd (s3.1 188) 7 0)) 188 (vp_updL ((gj_sI s3 188 (upd (s3.1 188) 7 0)).2.1 188) 8 0)).1 188 5 = nI (tq y N p + 1) := by
    show (gj_sI s3 188 (upd (s3.1 188) 7 0)).1 188 5 = _
    rw [sI_eq, up_ne (by decide), g5]
  have w6 : (gj_sJ (gj_sI s3 188 (upd (s3.1 188) 7 0)) 188 (vp_updL ((gj_sI s3 188 (upd (s3.1 188) 7 0)).2.1 188) 8 0)).1 188 6 = 3 := by
    show (gj_sI s3 188 (upd (s3.1 188) 7 0)).1 188 6 = _
    rw [sI_eq, up_ne (by decide), g6]
  have w7 : (gj_sJ (gj_sI s3 188 (upd (s3.1 188) 7 0)) 188 (vp_updL ((gj_sI s3 188 (upd (s3.1 188) 7 0)).2.1 188) 8 0)).1 188 7 = 0 := by
    show (gj_sI s3 188 (upd (s3.1 188) 7 0)).1 188 7 = _
    rw [sI_eq, up_eq]
  have w8 : (gj_sJ (gj_sI s3 188 (upd (s3.1 188) 7 0)) 188 (vp_updL ((gj_sI s3 188 (upd (s3.1 188) 7 0)).2.1 188) 8 0)).2.1 188 8 = 0 := by rw [sJ_eq, uL_eq]
  generalize gj_sJ (gj_sI s3 188 (upd (s3.1 188) 7 0)) 188 (vp_updL ((gj_sI s3 188 (upd (s3.1 188) 7 0)).2.1 188) 8 0) = s4 at w0 w4 w5 w6 w7 w8 ⊢
  generalize hq : tq y N p = q at *
  by_cases qe : q = N
  · rw [if_pos qe]
    have ete : te y N p = q := by
      unfold te
      rw [hq, if_pos (by omega)]
    have etk : tk y N p = 3 := by
      unfold tk
      rw [hq, if_pos (by omega)]
    refine tp_t rfl (tp_beq rfl (tp_some ⟨fT9_I (by omega) (by omega) (fT9_I (by omega) (by omega) w0), ?_, ?_, ?_, fun h => by omega, fun h => by omega⟩))
    · rw [sI_eq, up_ne (by decide), sI_eq, up_eq, w4, ete]
    · rw [sI_eq, up_ne (by decide), sI_eq, up_ne (by decide), w4, hq]
    · rw [sI_eq, up_eq, etk]
      rfl
  · rw [if_neg qe]
    have hk : q < N := by omega
    have hnl : ¬ N ≤ q := by omega
    obtain ⟨-, b1, b2⟩ := hr.2.2 _ hk
    refine tp_f (ub_m b1 b2) ?_
    have i59 := ub_eq (c := 59) b1 b2 (by decide) (by decide)
    by_cases q59 : y q = 59
    · have ek : kof (y q) = 2 := by
        rw [q59]
        decide
      have ete : te y N p = q + 1 := by
        unfold te
        rw [hq, if_neg hnl, ek, if_neg (by omega)]
      have etk : tk y N p = 2 := by
        unfold tk
        rw [hq, if_neg hnl, ek]
        rfl
      refine tp_t (i59.mpr q59) (tp_beq rfl (tp_some ⟨fT9_I (by omega) (by omega) w0, ?_, ?_, ?_, fun h => by omega, fun h => by omega⟩))
      · rw [sI_eq, up_ne (by decide), w5, ete]
      · rw [sI_eq, up_ne (by decide), w4, hq]
      · rw [sI_eq, up_eq, etk, i59.mpr q59]
        rfl
    · refine tp_f (fun e => q59 (i59.mp e)) (tp_beq (wi97 _) ?_)
      have sr4 : fT9 σ (gj_sI s4 188 (upd (s4.1 188) 5 (s4.1 188 4))) ∧ (gj_sI s4 188 (upd (s4.1 188) 5 (s4.1 188 4))).1 188 4 = nI q ∧ (gj_sI s4 188 (upd (s4.1 188) 5 (s4.1 188 4))).1 188 5 = nI q ∧ (gj_sI s4 188 (upd (s4.1 188) 5 (s4.1 188 4))).1 188 7 = 0 ∧ (gj_sI s4 188 (upd (s4.1 188) 5 (s4.1 188 4))).2.1 188 8 = 0 := ⟨fT9_I (by omega) (by omega) w0, by rw [sI_eq, up_ne (by decide), w4], by rw [sI_eq, up_eq, w4], by rw [sI_eq, up_ne (by decide), w7], w8⟩
      by_cases q0 : kof (y q) = 0
      · have hin := (ub_in b1 b2 (lo := 97) (hi := 122) (by omega) (by omega)).mpr (kof_0 q0)
        rw [decide_eq_true hin]
        refine tp_f (by decide) (tp_beq rfl ?_)
        generalize gj_sI s4 188 (upd (s4.1 188) 5 (s4.1 188 4)) = s8 at sr4 ⊢
        obtain ⟨v1, v2, v3, v4, v5⟩ := sr4
        refine tp_bind (r9_138 (fT9_rd v1 hr) hqN v2 v3 v5) (fun z9 hz9 => ?_)
        obtain ⟨x1, x2, x3, x4⟩ := hz9
        have ete : te y N p = scan (byK y 0) N q := by
          unfold te
          rw [hq, if_neg hnl, q0, if_pos (by omega)]
        have hge := scan_p (P := byK y 0) (N := N) (p := q)
        have hle := scan_N (P := byK y 0) hqN
        rw [← ete] at x3 x4 hge hle
        rw [x2, x3, nI_sub hge]
        have etk : tk y N p = if te y N p - q ≤ 6 then 0 else 4 := by
          unfold tk
          rw [hq, if_neg hnl, if_pos q0]
        by_cases q7 : te y N p - q ≤ 6
        · rw [if_pos q7] at etk
          refine tp_f (nI_ge (b := 7) (by omega) (by omega)) (tp_some ⟨fT9_I (by omega) (by omega) (fT9_tr v1 x1), ?_, ?_, ?_, fun h => ?_, fun h => by omega⟩)
          · rw [sI_eq, up_ne (by decide), x3]
          · rw [sI_eq, up_ne (by decide), x2, hq]
          · rw [sI_eq, up_eq, etk]
            rfl
          · unfold tw
            rw [hq]
            exact x4 q7
        · rw [if_neg q7] at etk
          refine tp_t (nI_le (a := 7) (by omega) (by omega)) (tp_some ⟨fT9_I (by omega) (by omega) (fT9_tr v1 x1), ?_, ?_, ?_, fun h => by omega, fun h => by omega⟩)
          · rw [sI_eq, up_ne (by decide), x3]
          · rw [sI_eq, up_ne (by decide), x2, hq]
          · rw [sI_eq, up_eq, etk]
            rfl
      · have hin : ¬ (97 ≤ (y q &&& 255).toInt ∧ (y q &&& 255).toInt ≤ 122) := fun h => q0 (kof_0i.mpr ((ub_in b1 b2 (by omega) (by omega)).mp h))
        rw [decide_eq_false hin]
        refine tp_t rfl (tp_beq (wi48 _) ?_)
        by_cases q1 : kof (y q) = 1
        · have hin2 := (ub_in b1 b2 (lo := 48) (hi := 57) (by omega) (by omega)).mpr (kof_1 q1)
          rw [decide_eq_true hin2]
          refine tp_f (by decide) (tp_beq rfl ?_)
          generalize gj_sI s4 188 (upd (s4.1 188) 5 (s4.1 188 4)) = s8 at sr4 ⊢
          obtain ⟨v1, v2, v3, v4, v5⟩ := sr4
          refine tp_bind (r9_265 (fT9_rd v1 hr) hqN v2 v3 v4) (fun z9 hz9 => ?_)
          obtain ⟨x1, x2, x3, x4⟩ := hz9
          have ete : te y N p = scan (byK y 1) N q := by
            unfold te
            rw [hq, if_neg hnl, q1, if_pos (by omega)]
          have hge := scan_p (P := byK y 1) (N := N) (p := q)
          have hle := scan_N (P := byK y 1) hqN
          rw [← ete] at x3 x4 hge hle
          rw [x2, x3, nI_sub hge]
          have etk : tk y N p = if te y N p - q ≤ 4 then 1 else 4 := by
            unfold tk
            rw [hq, if_neg hnl, if_neg q0, if_pos q1]
          by_cases q7 : te y N p - q ≤ 4
          · rw [if_pos q7] at etk
            refine tp_f (nI_ge (b := 5) (by omega) (by omega)) (tp_some ⟨fT9_I (by omega) (by omega) (fT9_tr v1 x1), ?_, ?_, ?_, fun h => by omega, fun h => ?_⟩)
            · rw [sI_eq, up_ne (by decide), x3]
            · rw [sI_eq, up_ne (by decide), x2, hq]
            · rw [sI_eq, up_eq, etk]
              rfl
            · unfold tn
              rw [sI_eq, up_ne (by decide), hq]
              exact x4 q7
          · rw [if_neg q7] at etk
            refine tp_t (nI_le (a := 5) (by omega) (by omega)) (tp_some ⟨fT9_I (by omega) (by omega) (fT9_tr v1 x1), ?_, ?_, ?_, fun h => by omega, fun h => by omega⟩)
            · rw [sI_eq, up_ne (by decide), x3]
            · rw [sI_eq, up_ne (by decide), x2, hq]
            · rw [sI_eq, up_eq, etk]
              rfl
        · have hin2 : ¬ (48 ≤ (y q &&& 255).toInt ∧ (y q &&& 255).toInt ≤ 57) := fun h => q1 (kof_1i.mpr ((ub_in b1 b2 (by omega) (by omega)).mp h))
          rw [decide_eq_false hin2]
          have ek : kof (y q) = 4 := by
            unfold kof
            rw [if_neg (fun h => q0 (kof_0i.mpr h)), if_neg (fun h => q1 (kof_1i.mpr h)), if_neg q59]
          have ete : te y N p = q + 1 := by
            unfold te
            rw [hq, if_neg hnl, ek, if_neg (by omega)]
          have etk : tk y N p = 4 := by
            unfold tk
            rw [hq, if_neg hnl, ek]
            rfl
          refine tp_t rfl (tp_some ⟨w0, by rw [w5, ete], by rw [w4, hq], by rw [w6, etk]; rfl, fun h => by omega, fun h => by omega⟩)
/-! words of either packing: alike where the letters are -/
def okL (l : List Nat) : Prop := l.length ≤ 6 ∧ ∀ c ∈ l, 1 ≤ c ∧ c ≤ 26
theorem ltr_ok {y : Nat → Int32} {q : Nat} : ∀ l, (∀ i, i < l → kof (y (q + i)) = 0) → (ltr y q l).length = l ∧ ∀ c ∈ ltr y q l, 1 ≤ c ∧ c ≤ 26
  | 0, _ => ⟨rfl, fun c hc => by cases hc⟩
  | l + 1, h => by
    obtain ⟨h1, h2⟩ := ltr_ok l (fun i hi => h i (by omega))
    have h3 := kof_0 (h l (by omega))
    refine ⟨?_, fun c hc => ?_⟩
    · show (ltr y q l ++ [_]).length = _
      rw [List.length_append, h1]
      rfl
    · rcases List.mem_append.mp hc with a | a
      · exact h2 c a
      · rw [List.mem_singleton.mp a]
        omega
theorem tw_ok {y : Nat → Int32} {N p : Nat} (h : tk y N p = 0) : okL (tw y N p) ∧ 1 ≤ (tw y N p).length := by
  have hk : ¬ N ≤ tq y N p ∧ kof (y (tq y N p)) = 0 ∧ te y N p - tq y N p ≤ 6 := by
    unfold tk at h
    by_cases q : N ≤ tq y N p
    · rw [if_pos q] at h
      omega
    · rw [if_neg q] at h
      by_cases q0 : kof (y (tq y N p)) = 0
      · rw [if_pos q0] at h
        refine ⟨q, q0, ?_⟩
        by_cases q6 : te y N p - tq y N p ≤ 6
        · exact q6
        · rw [if_neg q6] at h
          omega
      · rw [if_neg q0] at h
        split at h
        · split at h <;> omega
        · exact absurd h q0
  obtain ⟨k1, k2, k3⟩ := hk
  have ete : te y N p = scan (byK y 0) N (tq y N p) := by
    unfold te
    rw [if_neg k1, k2, if_pos (by omega)]
  have hgt : tq y N p < te y N p := by
    rw [ete, scan_s (by omega) (decide_eq_true k2)]
    exact scan_p
  have := ltr_ok (y := y) (q := tq y N p) (te y N p - tq y N p) (fun i hi => of_decide_eq_true (scan_P (P := byK y 0) (N := N) (p := tq y N p) (by omega) (by rw [← ete]; omega)))
  refine ⟨⟨?_, this.2⟩, ?_⟩
  · show (ltr y (tq y N p) (te y N p - tq y N p)).length ≤ 6
    rw [this.1]
    exact k3
  · show 1 ≤ (ltr y (tq y N p) (te y N p - tq y N p)).length
    rw [this.1]
    omega
theorem ofN_inj {a b : Nat} (ha : a < 2 ^ 62) (hb : b < 2 ^ 62) (h : Int64.ofNat a = Int64.ofNat b) : a = b := by
  have h1 := congrArg Int64.toInt h
  rw [Int64.toInt_ofNat_of_lt (by omega), Int64.toInt_ofNat_of_lt (by omega)] at h1
  omega
theorem map_inj {o : Nat} : ∀ {l m : List Nat}, l.map (o + ·) = m.map (o + ·) → l = m
  | [], [], _ => rfl
  | [], _ :: _, h => by cases h
  | _ :: _, [], h => by cases h
  | a :: l, b :: m, h => by
    rw [List.map_cons, List.map_cons] at h
    obtain ⟨h1, h2⟩ := List.cons.inj h
    rw [map_inj h2, show a = b by omega]
theorem pk8_inj {l m : List Nat} (hl : okL l) (hm : okL m) : pk8 l = pk8 m ↔ l = m := by
  constructor
  · intro h
    rw [pk8_V l hl.2 hl.1, pk8_V m hm.2 hm.1] at h
    have b1 := Vn_lt (e := 8) (o := 96) l (fun c hc => by have := hl.2 c hc; omega)
    have b2 := Vn_lt (e := 8) (o := 96) m (fun c hc => by have := hm.2 c hc; omega)
    have p1 : 2 ^ (8 * l.length) ≤ 2 ^ 48 := Nat.pow_le_pow_right (by omega) (by have := hl.1; omega)
    have p2 : 2 ^ (8 * m.length) ≤ 2 ^ 48 := Nat.pow_le_pow_right (by omega) (by have := hm.1; omega)
    have e := ofN_inj (by omega) (by omega) h
    have d1 := dgs_V (e := 8) (o := 96) l (fun c hc => by have := hl.2 c hc; omega) 6 hl.1
    have d2 := dgs_V (e := 8) (o := 96) m (fun c hc => by have := hm.2 c hc; omega) 6 hm.1
    rw [e, d2] at d1
    exact (map_inj d1).symm
  · intro h
    rw [h]
theorem pk5_inj {l m : List Nat} (hl : okL l) (hm : okL m) : pk5 l = pk5 m ↔ l = m := by
  constructor
  · intro h
    rw [pk5_V l hl.2 hl.1, pk5_V m hm.2 hm.1] at h
    have b1 := Vn_lt (e := 5) (o := 0) l (fun c hc => by have := hl.2 c hc; omega)
    have b2 := Vn_lt (e := 5) (o := 0) m (fun c hc => by have := hm.2 c hc; omega)
    have p1 : 2 ^ (5 * l.length) ≤ 2 ^ 30 := Nat.pow_le_pow_right (by omega) (by have := hl.1; omega)
    have p2 : 2 ^ (5 * m.length) ≤ 2 ^ 30 := Nat.pow_le_pow_right (by omega) (by have := hm.1; omega)
    have e := ofN_inj (by omega) (by omega) h
    have d1 := dgs_V (e := 5) (o := 0) l (fun c hc => by have := hl.2 c hc; omega) 6 hl.1
    have d2 := dgs_V (e := 5) (o := 0) m (fun c hc => by have := hm.2 c hc; omega) 6 hm.1
    rw [e, d2] at d1
    exact (map_inj d1).symm
  · intro h
    rw [h]
