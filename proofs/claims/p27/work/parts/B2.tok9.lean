/-! ===== text: a token read by the reference ===== -/
theorem ub_c {b : Int32} (h1 : -128 ≤ b.toInt) (h2 : b.toInt ≤ 127) : (0 ≤ b.toInt ∧ b &&& 255 = b) ∨ (b.toInt < 0 ∧ (b &&& 255).toInt = b.toInt + 256) := by
  have d1 : ∀ k : Nat, k < 128 → nI k &&& 255 = nI k := by decide +kernel
  have d2 : ∀ k : Nat, k < 129 → 1 ≤ k → ((0 - nI k) &&& 255).toInt = 256 - (k : Int) := by decide +kernel
  have ez : (0 : Int32).toInt = 0 := by decide
  by_cases q : 0 ≤ b.toInt
  · obtain ⟨k, hk, rfl⟩ : ∃ d, d < 128 ∧ b = nI d := inR_of (decide_eq_true ⟨q, by omega⟩)
    exact .inl ⟨q, d1 k hk⟩
  · have e1 : (nI (-b.toInt).toNat).toInt = (-b.toInt).toNat := nI_toInt (by omega)
    have e : b = 0 - nI (-b.toInt).toNat := Int32.toInt_inj.mp (by
      rw [i32_sub (by rw [e1, ez]; omega) (by rw [e1, ez]; omega), e1, ez]
      omega)
    refine .inr ⟨by omega, ?_⟩
    have := d2 (-b.toInt).toNat (by omega) (by omega)
    rw [← e] at this
    rw [this]
    omega
theorem ub_eq {b c : Int32} (h1 : -128 ≤ b.toInt) (h2 : b.toInt ≤ 127) (h3 : 0 ≤ c.toInt) (h4 : c.toInt ≤ 127) : (b &&& 255 = c) ↔ b = c := by
  rcases ub_c h1 h2 with ⟨a, e⟩ | ⟨a, e⟩
  · rw [e]
  · constructor
    · intro x
      rw [x] at e
      omega
    · intro x
      rw [x] at a
      omega
theorem ub_m {b : Int32} (h1 : -128 ≤ b.toInt) (h2 : b.toInt ≤ 127) : ¬ b &&& 255 = -1 := by
  have em : (-1 : Int32).toInt = -1 := by decide
  rcases ub_c h1 h2 with ⟨a, e⟩ | ⟨a, e⟩
  · rw [e]
    intro x
    rw [x, em] at a
    omega
  · intro x
    rw [x, em] at e
    omega
theorem ub_in {b : Int32} (h1 : -128 ≤ b.toInt) (h2 : b.toInt ≤ 127) {lo hi : Int} (hl : 0 ≤ lo) (hh : hi ≤ 127) : (lo ≤ (b &&& 255).toInt ∧ (b &&& 255).toInt ≤ hi) ↔ (lo ≤ b.toInt ∧ b.toInt ≤ hi) := by
  rcases ub_c h1 h2 with ⟨a, e⟩ | ⟨a, e⟩
  · rw [e]
  · rw [e]
    omega
theorem kof_0i {b : Int32} : kof b = 0 ↔ (97 ≤ b.toInt ∧ b.toInt ≤ 122) := ⟨kof_0, fun h => if_pos h⟩
theorem kof_1i {b : Int32} : kof b = 1 ↔ (48 ≤ b.toInt ∧ b.toInt ≤ 57) := ⟨kof_1, fun h => by
  unfold kof
  rw [if_neg (by omega), if_pos h]⟩
def rd9 (y : Nat → Int32) (N : Nat) (σ : gj_S) : Prop := N ≤ 600 ∧ σ.1 188 3 = nI N ∧ ∀ i, i < N → σ.1 189 i = y i ∧ -128 ≤ (y i).toInt ∧ (y i).toInt ≤ 127
def fT9 (σ τ : gj_S) : Prop := (∀ c, c ≠ 188 → τ.1 c = σ.1 c) ∧ (∀ j, (j < 4 ∨ 7 < j) → τ.1 188 j = σ.1 188 j) ∧ (∀ c, c ≠ 188 → τ.2.1 c = σ.2.1 c) ∧ τ.2.2 = σ.2.2
theorem fT9_rf {σ : gj_S} : fT9 σ σ := ⟨fun _ _ => rfl, fun _ _ => rfl, fun _ _ => rfl, rfl⟩
theorem fT9_tr {a b c : gj_S} (h1 : fT9 a b) (h2 : fT9 b c) : fT9 a c := ⟨fun k p => (h2.1 k p).trans (h1.1 k p), fun j p => (h2.2.1 j p).trans (h1.2.1 j p), fun k p => (h2.2.2.1 k p).trans (h1.2.2.1 k p), h2.2.2.2.trans h1.2.2.2⟩
theorem fT9_rd {y : Nat → Int32} {N : Nat} {σ τ : gj_S} (h : fT9 σ τ) (hr : rd9 y N σ) : rd9 y N τ := by
  unfold rd9 at hr ⊢
  rw [h.2.1 3 (by decide), h.1 189 (by decide)]
  exact hr
theorem fT9_I {σ τ : gj_S} {j : Nat} {x : Int32} (h1 : 4 ≤ j) (h2 : j ≤ 7) (h : fT9 σ τ) : fT9 σ (gj_sI τ 188 (upd (τ.1 188) j x)) := ⟨fun c hc => by rw [sI_ne hc]; exact h.1 c hc, fun i i1 => by rw [sI_eq, up_ne (by omega)]; exact h.2.1 i i1, h.2.2.1, h.2.2.2⟩
theorem fT9_J {σ τ : gj_S} {x : Int64} (h : fT9 σ τ) : fT9 σ (gj_sJ τ 188 (vp_updL (τ.2.1 188) 8 x)) := ⟨h.1, h.2.1, fun c hc => by rw [sJ_ne hc]; exact h.2.2.1 c hc, h.2.2.2⟩
theorem r9_see {y : Nat → Int32} {N k : Nat} {σ : gj_S} (hr : rd9 y N σ) (hk : k ≤ N) : f_X9_see (nI k) σ = some (if k = N then -1 else y k &&& 255) := by
  have hN := hr.1
  unfold f_X9_see
  rw [hr.2.1]
  by_cases q : k = N
  · rw [if_pos q, if_pos (nI_le (by omega) (by omega))]
  · rw [if_neg q, if_neg (nI_ge (by omega) (by omega)), if_pos (gi (by omega) (by omega)), nI_clamp (by omega), (hr.2.2 k (by omega)).1]
theorem r9_l8 {y : Nat → Int32} {N p : Nat} {σ : gj_S} (hr : rd9 y N σ) (hp : p ≤ N) (hat : σ.1 188 4 = nI p) : TP (gj_lp fb_X9_goesOn_l8 5000 σ) (fun z => fT9 σ z ∧ z.1 188 4 = nI (tq y N p)) := by
  have hN := hr.1
  refine tp_lp (I := fun τ => fT9 σ τ ∧ ∃ k, k ≤ N ∧ τ.1 188 4 = nI k ∧ scan (byS y) N k = scan (byS y) N p) (fun τ => N - (τ.1 188 4).toNatClampNeg) ?_ 5000 σ ⟨fT9_rf, p, hp, hat, rfl⟩ (by omega)
  rintro τ ⟨h1, k, h4, h5, h6⟩
  have hr' := fT9_rd h1 hr
  have sk := r9_see hr' h4
  rw [← h5] at sk
  unfold fb_X9_goesOn_l8
  refine tp_beq sk ?_
  by_cases q : k = N
  · rw [if_pos q] at sk ⊢
    refine tp_f (by decide) (tp_beq sk (tp_f (by decide) (tp_some ⟨h1, ?_⟩)))
    rw [h5]
    unfold tq
    rw [← h6, scan_e (fun h => by omega)]
  · rw [if_neg q] at sk ⊢
    have hk : k < N := by omega
    obtain ⟨-, b1, b2⟩ := hr.2.2 k hk
    have goes : byS y k = true → (fT9 σ (gj_sI τ 188 (upd (τ.1 188) 4 (τ.1 188 4 + 1))) ∧ ∃ k, k ≤ N ∧ (gj_sI τ 188 (upd (τ.1 188) 4 (τ.1 188 4 + 1))).1 188 4 = nI k ∧ scan (byS y) N k = scan (byS y) N p) ∧ N - ((gj_sI τ 188 (upd (τ.1 188) 4 (τ.1 188 4 + 1))).1 188 4).toNatClampNeg < N - (τ.1 188 4).toNatClampNeg := fun hb => by
      refine ⟨⟨fT9_I (by omega) (by omega) h1, k + 1, by omega, by rw [sI_eq, up_eq, h5, nI_1], by rw [← h6, scan_s hk hb]⟩, ?_⟩
      rw [sI_eq, up_eq, h5, nI_1, nI_clamp (by omega), nI_clamp (by omega)]
      omega
    have i32 := ub_eq (c := 32) b1 b2 (by decide) (by decide)
    have i10 := ub_eq (c := 10) b1 b2 (by decide) (by decide)
    by_cases q1 : y k = 32
    · exact tp_t (i32.mpr q1) (tp_some (goes (decide_eq_true (.inl q1))))
    · refine tp_f (fun e => q1 (i32.mp e)) (tp_beq sk ?_)
      by_cases q2 : y k = 10
      · exact tp_t (i10.mpr q2) (tp_some (goes (decide_eq_true (.inr q2))))
      · refine tp_f (fun e => q2 (i10.mp e)) (tp_some ⟨h1, ?_⟩)
        rw [h5]
        unfold tq
        rw [← h6, scan_e (fun h => ?_)]
        rcases of_decide_eq_true h.2 with e | e
        · exact q1 e
        · exact q2 e
theorem wi97 (b : Int32) : f_X9_within b.toInt64 97 122 = some (bI (decide (97 ≤ b.toInt ∧ b.toInt ≤ 122))) := by
  have := wiL b 97 122
  rw [show (97 : Int32).toInt64 = 97 by decide, show (122 : Int32).toInt64 = 122 by decide, show (97 : Int32).toInt = 97 by decide, show (122 : Int32).toInt = 122 by decide] at this
  exact this
theorem wi48 (b : Int32) : f_X9_within b.toInt64 48 57 = some (bI (decide (48 ≤ b.toInt ∧ b.toInt ≤ 57))) := by
  have := wiL b 48 57
  rw [show (48 : Int32).toInt64 = 48 by decide, show (57 : Int32).toInt64 = 57 by decide, show (48 : Int32).toInt = 48 by decide, show (57 : Int32).toInt = 57 by decide] at this
  exact this
theorem r9_138 {y : Nat → Int32} {N q : Nat} {σ : gj_S} (hr : rd9 y N σ) (hq : q ≤ N) (hf : σ.1 188 4 = nI q) (hat : σ.1 188 5 = nI q) (hv : σ.2.1 188 8 = 0) : TP (gj_lp fb_X9_goesOn_l138 5000 σ) (fun z => fT9 σ z ∧ z.1 188 4 = nI q ∧ z.1 188 5 = nI (scan (byK y 0) N q) ∧ (scan (byK y 0) N q - q ≤ 6 → z.2.1 188 8 = pk5 (ltr y q (scan (byK y 0) N q - q)))) := by
  have hN := hr.1
  refine tp_lp (I := fun τ => fT9 σ τ ∧ τ.1 188 4 = nI q ∧ ∃ l, q + l ≤ N ∧ τ.1 188 5 = nI (q + l) ∧ (l ≤ 6 → τ.2.1 188 8 = pk5 (ltr y q l)) ∧ scan (byK y 0) N (q + l) = scan (byK y 0) N q) (fun τ => N - (τ.1 188 5).toNatClampNeg) ?_ 5000 σ ⟨fT9_rf, hf, 0, hq, hat, fun _ => hv, rfl⟩ (by omega)
  rintro τ ⟨h1, h2, l, h4, h5, h6, h7⟩
  have hr' := fT9_rd h1 hr
  have sk := r9_see hr' h4
  rw [← h5] at sk
  have fin : ¬ (q + l < N ∧ byK y 0 (q + l) = true) → fT9 σ τ ∧ τ.1 188 4 = nI q ∧ τ.1 188 5 = nI (scan (byK y 0) N q) ∧ (scan (byK y 0) N q - q ≤ 6 → τ.2.1 188 8 = pk5 (ltr y q (scan (byK y 0) N q - q))) := fun h => by
    rw [scan_e h] at h7
    rw [← h7, show q + l - q = l by omega]
    exact ⟨h1, h2, h5, h6⟩
  unfold fb_X9_goesOn_l138
  refine tp_beq sk (tp_beq (wi97 _) ?_)
  by_cases qe : q + l = N
  · rw [if_pos qe]
    exact tp_t (by decide) (tp_some (fin (fun h => by omega)))
  · rw [if_neg qe] at sk ⊢
    have hk : q + l < N := by omega
    obtain ⟨-, b1, b2⟩ := hr.2.2 _ hk
    by_cases q0 : kof (y (q + l)) = 0
    · have hb := kof_0 q0
      have hin := (ub_in b1 b2 (lo := 97) (hi := 122) (by omega) (by omega)).mpr hb
      have hub : y (q + l) &&& 255 = y (q + l) := by
        rcases ub_c b1 b2 with ⟨a, e⟩ | ⟨a, e⟩
        · exact e
        · omega
      rw [decide_eq_true hin]
      refine tp_f (by decide) (tp_bind (P := fun v => l + 1 ≤ 6 → v = pk5 (ltr y q (l + 1))) ?_ (fun v hv2 => tp_beq rfl (tp_some ?_)))
      · rw [h5, h2, nI_sub (by omega), show q + l - q = l by omega]
        by_cases q6 : 6 ≤ l
        · exact tp_t (nI_le (a := 6) q6 (by omega)) (tp_some (fun h => by omega))
        · rw [← h5]
          refine tp_f (nI_ge (b := 6) (by omega) (by omega)) (tp_beq sk (tp_some (fun h => ?_)))
          rw [h6 (by omega), hub, show Int32.toInt64 (5 : Int32) &&& 63 = 5 by decide]
          show _ = pk5 (ltr y q l ++ [((y (q + l)).toInt - 96).toNat])
          rw [pk5_sn, i64_of (b := y (q + l)) (m := ((y (q + l)).toInt - 96).toNat + 96) (by omega), Int64.ofNat_add, show Int64.ofNat 96 = 96 from rfl, Int64.add_sub_cancel]
      · have e5 : (gj_sI (gj_sJ τ 188 (vp_updL (τ.2.1 188) 8 v)) 188 (upd ((gj_sJ τ 188 (vp_updL (τ.2.1 188) 8 v)).1 188) 5 ((gj_sJ τ 188 (vp_updL (τ.2.1 188) 8 v)).1 188 5 + 1))).1 188 5 = nI (q + l + 1) := by
          rw [sI_eq, up_eq]
          show τ.1 188 5 + 1 = _
          rw [h5, nI_1]
        refine ⟨⟨fT9_I (by omega) (by omega) (fT9_J h1), by rw [sI_eq, up_ne (by decide)]; exact h2, l + 1, by omega, e5, fun h => ?_, ?_⟩, ?_⟩
        · show (gj_sJ τ 188 (vp_updL (τ.2.1 188) 8 v)).2.1 188 8 = _
          rw [sJ_eq, uL_eq, hv2 h]
        · rw [← h7, scan_s hk (decide_eq_true q0)]
          rfl
        · rw [e5, h5, nI_clamp (by omega), nI_clamp (by omega)]
          omega
    · have hin : ¬ (97 ≤ (y (q + l) &&& 255).toInt ∧ (y (q + l) &&& 255).toInt ≤ 122) := fun h => q0 (kof_0i.mpr ((ub_in b1 b2 (by omega) (by omega)).mp h))
      rw [decide_eq_false hin]
      exact tp_t rfl (tp_some (fin (fun h => q0 (of_decide_eq_true h.2))))
theorem nvF_lt {y : Nat → Int32} {q : Nat} : ∀ l, (∀ i, i < l → kof (y (q + i)) = 1) → nvF y q l < 10 ^ l
  | 0, _ => by
    show 0 < 1
    omega
  | l + 1, h => by
    have ih := nvF_lt l (fun i hi => h i (by omega))
    have h1 := kof_1 (h l (by omega))
    show nvF y q l * 10 + ((y (q + l)).toInt - 48).toNat < 10 ^ (l + 1)
    rw [Nat.pow_succ]
    omega
theorem r9_265 {y : Nat → Int32} {N q : Nat} {σ : gj_S} (hr : rd9 y N σ) (hq : q ≤ N) (hf : σ.1 188 4 = nI q) (hat : σ.1 188 5 = nI q) (hv : σ.1 188 7 = 0) : TP (gj_lp fb_X9_goesOn_l265 5000 σ) (fun z => fT9 σ z ∧ z.1 188 4 = nI q ∧ z.1 188 5 = nI (scan (byK y 1) N q) ∧ (scan (byK y 1) N q - q ≤ 4 → z.1 188 7 = nI (nvF y q (scan (byK y 1) N q - q)))) := by
  have hN := hr.1
  refine tp_lp (I := fun τ => fT9 σ τ ∧ τ.1 188 4 = nI q ∧ ∃ l, q + l ≤ N ∧ τ.1 188 5 = nI (q + l) ∧ (l ≤ 4 → τ.1 188 7 = nI (nvF y q l)) ∧ scan (byK y 1) N (q + l) = scan (byK y 1) N q) (fun τ => N - (τ.1 188 5).toNatClampNeg) ?_ 5000 σ ⟨fT9_rf, hf, 0, hq, hat, fun _ => hv, rfl⟩ (by omega)
  rintro τ ⟨h1, h2, l, h4, h5, h6, h7⟩
  have hr' := fT9_rd h1 hr
  have sk := r9_see hr' h4
  rw [← h5] at sk
  have fin : ¬ (q + l < N ∧ byK y 1 (q + l) = true) → fT9 σ τ ∧ τ.1 188 4 = nI q ∧ τ.1 188 5 = nI (scan (byK y 1) N q) ∧ (scan (byK y 1) N q - q ≤ 4 → τ.1 188 7 = nI (nvF y q (scan (byK y 1) N q - q))) := fun h => by
    rw [scan_e h] at h7
    rw [← h7, show q + l - q = l by omega]
    exact ⟨h1, h2, h5, h6⟩
  unfold fb_X9_goesOn_l265
  refine tp_beq sk (tp_beq (wi48 _) ?_)
  by_cases qe : q + l = N
  · rw [if_pos qe]
    exact tp_t (by decide) (tp_some (fin (fun h => by omega)))
  · rw [if_neg qe] at sk ⊢
    have hk : q + l < N := by omega
    obtain ⟨-, b1, b2⟩ := hr.2.2 _ hk
    by_cases q0 : kof (y (q + l)) = 1
    · have hb := kof_1 q0
      have hin := (ub_in b1 b2 (lo := 48) (hi := 57) (by omega) (by omega)).mpr hb
      have hub : y (q + l) &&& 255 = y (q + l) := by
        rcases ub_c b1 b2 with ⟨a, e⟩ | ⟨a, e⟩
        · exact e
        · omega
      rw [decide_eq_true hin]
      refine tp_f (by decide) (tp_bind (P := fun v => l + 1 ≤ 4 → v = nI (nvF y q (l + 1))) ?_ (fun v hv2 => tp_beq rfl (tp_some ?_)))
      · rw [h5, h2, nI_sub (by omega), show q + l - q = l by omega]
        by_cases q6 : 4 ≤ l
        · exact tp_t (nI_le (a := 4) q6 (by omega)) (tp_some (fun h => by omega))
        · rw [← h5]
          refine tp_f (nI_ge (b := 4) (by omega) (by omega)) (tp_beq sk (tp_some (fun h => ?_)))
          have ey : y (q + l) = nI (48 + ((y (q + l)).toInt - 48).toNat) := Int32.toInt_inj.mp (by rw [nI_toInt (by omega)]; omega)
          rw [h6 (by omega), hub]
          show _ = nI (nvF y q l * 10 + ((y (q + l)).toInt - 48).toNat)
          generalize ((y (q + l)).toInt - 48).toNat = d at ey ⊢
          rw [ey, show (10 : Int32) = nI 10 from rfl, show (48 : Int32) = nI 48 from rfl, nI_mul, nI_add, nI_sub (by omega)]
          congr 1
          omega
      · have e5 : (gj_sI (gj_sI τ 188 (upd (τ.1 188) 7 v)) 188 (upd ((gj_sI τ 188 (upd (τ.1 188) 7 v)).1 188) 5 ((gj_sI τ 188 (upd (τ.1 188) 7 v)).1 188 5 + 1))).1 188 5 = nI (q + l + 1) := by
          rw [sI_eq, up_eq, sI_eq, up_ne (by decide), h5, nI_1]
        refine ⟨⟨fT9_I (by omega) (by omega) (fT9_I (by omega) (by omega) h1), by rw [sI_eq, up_ne (by decide), sI_eq, up_ne (by decide)]; exact h2, l + 1, by omega, e5, fun h => ?_, ?_⟩, ?_⟩
        · rw [sI_eq, up_ne (by decide), sI_eq, up_eq, hv2 h]
        · rw [← h7, scan_s hk (decide_eq_true q0)]
          rfl
        · rw [e5, h5, nI_clamp (by omega), nI_clamp (by omega)]
          omega
    · have hin : ¬ (48 ≤ (y (q + l) &&& 255).toInt ∧ (y (q + l) &&& 255).toInt ≤ 57) := fun h => q0 (kof_1i.mpr ((ub_in b1 b2 (by omega) (by omega)).mp h))
      rw [decide_eq_false hin]
      exact tp_t rfl (tp_some (fin (fun h => q0 (of_decide_eq_true h.2))))
