/-! ===== text: a token read by the class ===== -/
def tq (y : Nat → Int32) (N p : Nat) : Nat := scan (byS y) N p
def te (y : Nat → Int32) (N p : Nat) : Nat := if N ≤ tq y N p then tq y N p else if kof (y (tq y N p)) < 2 then scan (byK y (kof (y (tq y N p)))) N (tq y N p) else tq y N p + 1
def tk (y : Nat → Int32) (N p : Nat) : Nat := if N ≤ tq y N p then 3 else if kof (y (tq y N p)) = 0 then (if te y N p - tq y N p ≤ 6 then 0 else 4) else if kof (y (tq y N p)) = 1 then (if te y N p - tq y N p ≤ 4 then 1 else 4) else kof (y (tq y N p))
def tw (y : Nat → Int32) (N p : Nat) : List Nat := ltr y (tq y N p) (te y N p - tq y N p)
def tn (y : Nat → Int32) (N p : Nat) : Nat := nvF y (tq y N p) (te y N p - tq y N p)
theorem tq_N {y : Nat → Int32} {N p : Nat} (h : p ≤ N) : tq y N p ≤ N := scan_N h
theorem te_N {y : Nat → Int32} {N p : Nat} (h : p ≤ N) : tq y N p ≤ te y N p ∧ te y N p ≤ N := by
  have h1 := tq_N (y := y) h
  unfold te
  by_cases q : N ≤ tq y N p
  · rw [if_pos q]
    omega
  · rw [if_neg q]
    by_cases q2 : kof (y (tq y N p)) < 2
    · rw [if_pos q2]
      exact ⟨scan_p, scan_N h1⟩
    · rw [if_neg q2]
      omega
theorem tk_lt {y : Nat → Int32} {N p : Nat} : tk y N p < 5 := by
  have := kof_lt (y (tq y N p))
  unfold tk
  split
  · omega
  · split
    · split <;> omega
    · split
      · split <;> omega
      · omega
def TK8 (y : Nat → Int32) (N p : Nat) (σ : gj_S) : Prop := σ.1 2 5 = nI (te y N p) ∧ σ.1 2 8 = nI (tq y N p) ∧ σ.1 2 7 = nI (tk y N p) ∧ (tk y N p = 0 → σ.2.1 2 9 = pk8 (tw y N p)) ∧ (tk y N p = 1 → σ.2.1 2 9 = Int64.ofNat (tn y N p))
theorem kof_24 {b : Int32} (h : ¬ kof b < 2) : kof b = 2 ∨ kof b = 4 := by
  unfold kof at h ⊢
  by_cases q1 : 97 ≤ b.toInt ∧ b.toInt ≤ 122
  · rw [if_pos q1] at h
    omega
  · rw [if_neg q1] at h ⊢
    by_cases q2 : 48 ≤ b.toInt ∧ b.toInt ≤ 57
    · rw [if_pos q2] at h
      omega
    · rw [if_neg q2]
      by_cases q3 : b = 59
      · rw [if_pos q3]
        exact .inl rfl
      · rw [if_neg q3]
        exact .inr rfl
theorem c8_n122 {σ : gj_S} {K : Nat} (h : σ.1 2 7 = nI K) (h1 : 2 ≤ K) (h2 : K < 5) : gj_lp fb_X2_readToken_l122 5000 σ = some σ := by
  refine gj_lp_e ?_
  unfold fb_X2_readToken_l122
  have n0 : ¬ σ.1 2 7 = 0 := by
    rw [h]
    exact nI_ne0 (by omega) (by omega)
  have n1 : ¬ σ.1 2 7 = 1 := by
    rw [h]
    intro e
    have := (nI_eq (b := 1) (by omega) (by omega)).mp e
    omega
  by_cases q : σ.1 2 6 ≤ σ.1 2 5
  · rw [if_pos q]
  · rw [if_neg q, if_neg n0, if_neg n1]
theorem c8_l122 {y : Nat → Int32} {N q K : Nat} {σ : gj_S} (hr : rd8 y N σ) (hq : q ≤ N) (hat : σ.1 2 5 = nI q) (hk : σ.1 2 7 = nI K) (hK : K < 2) (hv : σ.2.1 2 9 = 0) : TP (gj_lp fb_X2_readToken_l122 5000 σ) (fun z => fT8 σ z ∧ z.1 2 7 = nI K ∧ z.1 2 8 = σ.1 2 8 ∧ z.1 2 5 = nI (scan (byK y K) N q) ∧ z.2.1 2 9 = VV y q K (scan (byK y K) N q - q)) := by
  have hN := hr.1
  have v0 : VV y q K 0 = 0 := by
    unfold VV
    split <;> rfl
  refine tp_lp (I := fun τ => fT8 σ τ ∧ τ.1 2 7 = nI K ∧ τ.1 2 8 = σ.1 2 8 ∧ ∃ l, q + l ≤ N ∧ τ.1 2 5 = nI (q + l) ∧ τ.2.1 2 9 = VV y q K l ∧ scan (byK y K) N (q + l) = scan (byK y K) N q) (fun τ => N - (τ.1 2 5).toNatClampNeg) ?_ 5000 σ ⟨fT8_rf, hk, rfl, 0, hq, hat, by rw [hv, v0], rfl⟩ (by omega)
  rintro τ ⟨h1, h2, h3, l, h4, h5, h6, h7⟩
  obtain ⟨-, e6, eT, ey⟩ := fT8_rd h1 hr
  have fin : ¬ (q + l < N ∧ byK y K (q + l) = true) → fT8 σ τ ∧ τ.1 2 7 = nI K ∧ τ.1 2 8 = σ.1 2 8 ∧ τ.1 2 5 = nI (scan (byK y K) N q) ∧ τ.2.1 2 9 = VV y q K (scan (byK y K) N q - q) := fun h => by
    rw [scan_e h] at h7
    refine ⟨h1, h2, h3, by rw [h5, h7], ?_⟩
    rw [h6, ← h7]
    congr 1
    omega
  unfold fb_X2_readToken_l122
  by_cases qe : q + l = N
  · exact tp_t (by rw [e6, h5, qe]; exact nI_le (Nat.le_refl _) (by omega)) (tp_some (fin (fun h => by omega)))
  · have hk : q + l < N := by omega
    have ek : τ.1 1 (Int32.toNatClampNeg (τ.1 2 5)) = y (q + l) := by rw [h5, nI_clamp (by omega), ey _ hk]
    have gk : gj_in (τ.1 2 5) 600 := by rw [h5]; exact gi (by omega) (by omega)
    have hm : N - (nI (q + l + 1)).toNatClampNeg < N - (τ.1 2 5).toNatClampNeg := by
      rw [h5, nI_clamp (by omega), nI_clamp (by omega)]
      omega
    have hne : ¬ kof (y (q + l)) = K → ¬ nI (kof (y (q + l))) = τ.1 2 7 := fun h e => by
      have := kof_lt (y (q + l))
      rw [h2] at e
      exact h ((nI_eq (by omega) (by omega)).mp e)
    refine tp_f (by rw [e6, h5]; exact nI_ge hk (by omega)) ?_
    rw [ek]
    have step : ∀ v, kof (y (q + l)) = K → v = VV y q K (l + 1) → (fT8 σ (gj_sI (gj_sJ τ 2 (vp_updL (τ.2.1 2) 9 v)) 2 (upd ((gj_sJ τ 2 (vp_updL (τ.2.1 2) 9 v)).1 2) 5 ((gj_sJ τ 2 (vp_updL (τ.2.1 2) 9 v)).1 2 5 + 1))) ∧ (gj_sI (gj_sJ τ 2 (vp_updL (τ.2.1 2) 9 v)) 2 (upd ((gj_sJ τ 2 (vp_updL (τ.2.1 2) 9 v)).1 2) 5 ((gj_sJ τ 2 (vp_updL (τ.2.1 2) 9 v)).1 2 5 + 1))).1 2 7 = nI K ∧ (gj_sI (gj_sJ τ 2 (vp_updL (τ.2.1 2) 9 v)) 2 (upd ((gj_sJ τ 2 (vp_updL (τ.2.1 2) 9 v)).1 2) 5 ((gj_sJ τ 2 (vp_updL (τ.2.1 2) 9 v)).1 2 5 + 1))).1 2 8 = σ.1 2 8 ∧ ∃ l, q + l ≤ N ∧ (gj_sI (gj_sJ τ 2 (vp_updL (τ.2.1 2) 9 v)) 2 (upd ((gj_sJ τ 2 (vp_updL (τ.2.1 2) 9 v)).1 2) 5 ((gj_sJ τ 2 (vp_updL (τ.2.1 2) 9 v)).1 2 5 + 1))).1 2 5 = nI (q + l) ∧ (gj_sI (gj_sJ τ 2 (vp_updL (τ.2.1 2) 9 v)) 2 (upd ((gj_sJ τ 2 (vp_updL (τ.2.1 2) 9 v)).1 2) 5 ((gj_sJ τ 2 (vp_updL (τ.2.1 2) 9 v)).1 2 5 + 1))).2.1 2 9 = VV y q K l ∧ scan (byK y K) N (q + l) = scan (byK y K) N q) ∧ N - ((gj_sI (gj_sJ τ 2 (vp_updL (τ.2.1 2) 9 v)) 2 (upd ((gj_sJ τ 2 (vp_updL (τ.2.1 2) 9 v)).1 2) 5 ((gj_sJ τ 2 (vp_updL (τ.2.1 2) 9 v)).1 2 5 + 1))).1 2 5).toNatClampNeg < N - (τ.1 2 5).toNatClampNeg := fun v hb hvv => by
      have e5 : (gj_sI (gj_sJ τ 2 (vp_updL (τ.2.1 2) 9 v)) 2 (upd ((gj_sJ τ 2 (vp_updL (τ.2.1 2) 9 v)).1 2) 5 ((gj_sJ τ 2 (vp_updL (τ.2.1 2) 9 v)).1 2 5 + 1))).1 2 5 = nI (q + l + 1) := by
        rw [sI_eq, up_eq]
        show τ.1 2 5 + 1 = _
        rw [h5, nI_1]
      refine ⟨⟨fT8_I (.inl rfl) (fT8_J h1), by rw [sI_eq, up_ne (by decide)]; exact h2, by rw [sI_eq, up_ne (by decide)]; exact h3, l + 1, by omega, e5, ?_, ?_⟩, by rw [e5]; exact hm⟩
      · show (gj_sJ τ 2 (vp_updL (τ.2.1 2) 9 v)).2.1 2 9 = _
        rw [sJ_eq, uL_eq, hvv]
      · rw [← h7, scan_s hk (decide_eq_true hb)]
        rfl
    by_cases q0 : K = 0
    · subst q0
      have k0 : τ.1 2 7 = 0 := h2
      refine tp_t k0 (tp_t eT (tp_t gk (tp_beq (c8_kof _) ?_)))
      by_cases qk : kof (y (q + l)) = 0
      · refine tp_t (by rw [qk, k0]; rfl) (tp_bind (P := fun v => v = VV y q 0 (l + 1)) (tp_t k0 (tp_t eT (tp_t gk (tp_some ?_)))) (fun v hv2 => tp_beq rfl (tp_some (step v qk hv2))))
        rw [VV_0 qk, h6]
      · exact tp_f (hne qk) (tp_some (fin (fun h => qk (of_decide_eq_true h.2))))
    · obtain rfl : K = 1 := by omega
      have k1 : τ.1 2 7 = 1 := h2
      have n0 : ¬ τ.1 2 7 = 0 := by
        rw [k1]
        decide
      refine tp_f n0 (tp_t k1 (tp_t eT (tp_t gk (tp_beq (c8_kof _) ?_))))
      by_cases qk : kof (y (q + l)) = 1
      · refine tp_t (by rw [qk, k1]; rfl) (tp_bind (P := fun v => v = VV y q 1 (l + 1)) (tp_f n0 (tp_t eT (tp_t gk (tp_some ?_)))) (fun v hv2 => tp_beq rfl (tp_some (step v qk hv2))))
        rw [VV_1 qk, h6]
      · exact tp_f (hne qk) (tp_some (fin (fun h => qk (of_decide_eq_true h.2))))
theorem c8_tok {y : Nat → Int32} {N p : Nat} {σ : gj_S} (hr : rd8 y N σ) (hp : p ≤ N) (hat : σ.1 2 5 = nI p) : TP (f_X2_readToken σ) (fun z => fT8 σ z ∧ TK8 y N p z) := by
  have hN := hr.1
  unfold f_X2_readToken
  refine tp_bind (c8_l0 hr hp hat) (fun z1 hz1 => ?_)
  obtain ⟨f1, -, -, f4⟩ := hz1
  have hqN := tq_N (y := y) hp
  change z1.1 2 5 = nI (tq y N p) at f4
  have g0 : fT8 σ (gj_sJ (gj_sI z1 2 (upd (z1.1 2) 8 (z1.1 2 5))) 2 (vp_updL ((gj_sI z1 2 (upd (z1.1 2) 8 (z1.1 2 5))).2.1 2) 9 0)) := fT8_J (fT8_I (.inr (.inr rfl)) f1)
  have g5 : (gj_sJ (gj_sI z1 2 (upd (z1.1 2) 8 (z1.1 2 5))) 2 (vp_updL ((gj_sI z1 2 (upd (z1.1 2) 8 (z1.1 2 5))).2.1 2) 9 0)).1 2 5 = nI (tq y N p) := by
    show (gj_sI z1 2 (upd (z1.1 2) 8 (z1.1 2 5))).1 2 5 = _
    rw [sI_eq, up_ne (by decide), f4]
  have g8 : (gj_sJ (gj_sI z1 2 (upd (z1.1 2) 8 (z1.1 2 5))) 2 (vp_updL ((gj_sI z1 2 (upd (z1.1 2) 8 (z1.1 2 5))).2.1 2) 9 0)).1 2 8 = nI (tq y N p) := by
    show (gj_sI z1 2 (upd (z1.1 2) 8 (z1.1 2 5))).1 2 8 = _
    rw [sI_eq, up_eq, f4]
  have g9 : (gj_sJ (gj_sI z1 2 (upd (z1.1 2) 8 (z1.1 2 5))) 2 (vp_updL ((gj_sI z1 2 (upd (z1.1 2) 8 (z1.1 2 5))).2.1 2) 9 0)).2.1 2 9 = 0 := by
    rw [sJ_eq, uL_eq]
  generalize gj_sJ (gj_sI z1 2 (upd (z1.1 2) 8 (z1.1 2 5))) 2 (vp_updL ((gj_sI z1 2 (upd (z1.1 2) 8 (z1.1 2 5))).2.1 2) 9 0) = s5 at g0 g5 g8 g9 ⊢
  obtain ⟨-, e6, eT, ey⟩ := fT8_rd g0 hr
  generalize hq : tq y N p = q at *
  -- the state with its kind
  have kind : ∀ K : Nat, fT8 σ (gj_sI s5 2 (upd (s5.1 2) 7 (nI K))) ∧ (gj_sI s5 2 (upd (s5.1 2) 7 (nI K))).1 2 7 = nI K ∧ (gj_sI s5 2 (upd (s5.1 2) 7 (nI K))).1 2 5 = nI q ∧ (gj_sI s5 2 (upd (s5.1 2) 7 (nI K))).1 2 8 = nI q ∧ (gj_sI s5 2 (upd (s5.1 2) 7 (nI K))).2.1 2 9 = 0 := fun K => ⟨fT8_I (.inr (.inl rfl)) g0, by rw [sI_eq, up_eq], by rw [sI_eq, up_ne (by decide), g5], by rw [sI_eq, up_ne (by decide), g8], g9⟩
  by_cases qe : N ≤ q
  · have hqn : q = N := by omega
    have ete : te y N p = q := by
      unfold te
      rw [hq, if_pos qe]
    have etk : tk y N p = 3 := by
      unfold tk
      rw [hq, if_pos qe]
    refine tp_beq (x := nI 3) (by rw [if_pos (by rw [e6, g5]; exact nI_le qe (by omega))]; rfl) (tp_beq rfl ?_)
    obtain ⟨k1, k2, k3, k4, k5⟩ := kind 3
    generalize gj_sI s5 2 (upd (s5.1 2) 7 (nI 3)) = s6 at k1 k2 k3 k4 k5 ⊢
    refine tp_beq (x := s6) (by rw [if_neg (by rw [k2]; decide), if_neg (by rw [k2]; decide)]) (tp_beq (c8_n122 k2 (by omega) (by omega)) (tp_beq (x := 6) (by rw [if_neg (by rw [k2]; decide)]) (tp_t ?_ (tp_some ⟨k1, ?_⟩))))
    · rw [k3, k4, nI_sub (Nat.le_refl _), Nat.sub_self]
      decide
    · refine ⟨by rw [k3, ete], by rw [k4, hq], by rw [k2, etk], fun h => by omega, fun h => by omega⟩
  · have hqN2 : q < N := by omega
    have ek : s5.1 1 (Int32.toNatClampNeg (s5.1 2 5)) = y q := by rw [g5, nI_clamp (by omega), ey q hqN2]
    have gk : gj_in (s5.1 2 5) 600 := by rw [g5]; exact gi (by omega) (by omega)
    refine tp_beq (x := nI (kof (y q))) (by rw [if_neg (by rw [e6, g5]; exact nI_ge hqN2 (by omega)), if_pos eT, if_pos gk, ek, c8_kof]; rfl) (tp_beq rfl ?_)
    have hkl := kof_lt (y q)
    obtain ⟨k1, k2, k3, k4, k5⟩ := kind (kof (y q))
    generalize gj_sI s5 2 (upd (s5.1 2) 7 (nI (kof (y q)))) = s6 at k1 k2 k3 k4 k5 ⊢
    by_cases qk : kof (y q) < 2
    · have ete : te y N p = scan (byK y (kof (y q))) N q := by
        unfold te
        rw [hq, if_neg qe, if_pos qk]
      have hge := scan_p (P := byK y (kof (y q))) (N := N) (p := q)
      have hle := scan_N (P := byK y (kof (y q))) (show q ≤ N by omega)
      refine tp_beq (x := s6) (by rw [if_neg (by rw [k2]; intro e; have := (nI_eq (b := 2) (by omega) (by omega)).mp e; omega), if_neg (by rw [k2]; intro e; have := (nI_eq (b := 4) (by omega) (by omega)).mp e; omega)]) ?_
      refine tp_bind (c8_l122 (fT8_rd k1 hr) (by omega) k3 k2 qk k5) (fun z8 hz8 => ?_)
      obtain ⟨m1, m2, m3, m4, m5⟩ := hz8
      rw [k4] at m3
      rw [← ete] at m4 m5 hge hle
      have hb : (if z8.1 2 7 = (1 : Int32) then some (4 : Int32) else some (6 : Int32)) = some (nI (if kof (y q) = 1 then 4 else 6)) := by
        by_cases q1 : kof (y q) = 1
        · rw [if_pos (by rw [m2, q1]; rfl), if_pos q1]
          rfl
        · rw [if_neg (by rw [m2]; intro e; exact q1 ((nI_eq (b := 1) (by omega) (by omega)).mp e)), if_neg q1]
          rfl
      refine tp_beq hb ?_
      rw [m3, m4, nI_sub hge]
      have hfr := fT8_tr k1 m1
      by_cases ql : te y N p - q ≤ (if kof (y q) = 1 then 4 else 6)
      · refine tp_t (nI_le ql (by split <;> omega)) (tp_some ⟨hfr, m4, by rw [m3, hq], ?_, fun h => ?_, fun h => ?_⟩)
        · rw [m2]
          unfold tk
          rw [hq, if_neg qe]
          by_cases q1 : kof (y q) = 1
          · rw [if_pos q1] at ql
            rw [if_neg (by omega), if_pos q1, if_pos ql, q1]
          · rw [if_neg q1] at ql
            have q0 : kof (y q) = 0 := by omega
            rw [if_pos q0, if_pos ql, q0]
        · have q0 : kof (y q) = 0 := by
            unfold tk at h
            rw [hq, if_neg qe] at h
            by_cases q0 : kof (y q) = 0
            · exact q0
            · rw [if_neg q0] at h
              split at h
              · split at h <;> omega
              · omega
          rw [m5]
          unfold VV tw
          rw [if_pos q0, hq]
        · have q1 : kof (y q) = 1 := by
            unfold tk at h
            rw [hq, if_neg qe] at h
            by_cases q0 : kof (y q) = 0
            · rw [if_pos q0] at h
              split at h <;> omega
            · omega
          rw [m5]
          unfold VV tn
          rw [if_neg (by omega), hq]
      · refine tp_f (nI_ge (by omega) (by omega)) (tp_some ⟨fT8_I (.inr (.inl rfl)) hfr, by rw [sI_eq, up_ne (by decide)]; exact m4, by rw [sI_eq, up_ne (by decide), hq]; exact m3, ?_, ?_⟩)
        · rw [sI_eq, up_eq]
          unfold tk
          rw [hq, if_neg qe]
          by_cases q1 : kof (y q) = 1
          · rw [if_pos q1] at ql
            rw [if_neg (by omega), if_pos q1, if_neg ql]
            rfl
          · rw [if_neg q1] at ql
            have q0 : kof (y q) = 0 := by omega
            rw [if_pos q0, if_neg ql]
            rfl
        · have e4 : tk y N p = 4 := by
            unfold tk
            rw [hq, if_neg qe]
            by_cases q1 : kof (y q) = 1
            · rw [if_pos q1] at ql
              rw [if_neg (by omega), if_pos q1, if_neg ql]
            · rw [if_neg q1] at ql
              have q0 : kof (y q) = 0 := by omega
              rw [if_pos q0, if_neg ql]
          exact ⟨fun h => by omega, fun h => by omega⟩
    · have ete : te y N p = q + 1 := by
        unfold te
        rw [hq, if_neg qe, if_neg qk]
      have etk : tk y N p = kof (y q) := by
        unfold tk
        rw [hq, if_neg qe, if_neg (by omega), if_neg (by omega)]
      have h24 := kof_24 qk
      have hz : (if s6.1 2 7 = (2 : Int32) then some (gj_sI s6 2 (upd (s6.1 2) 5 (s6.1 2 5 + 1))) else (if s6.1 2 7 = (4 : Int32) then some (gj_sI s6 2 (upd (s6.1 2) 5 (s6.1 2 5 + 1))) else some s6)) = some (gj_sI s6 2 (upd (s6.1 2) 5 (s6.1 2 5 + 1))) := by
        rcases h24 with e | e
        · rw [if_pos (by rw [k2, e]; rfl)]
        · rw [if_neg (by rw [k2, e]; decide), if_pos (by rw [k2, e]; rfl)]
      have n7 : (gj_sI s6 2 (upd (s6.1 2) 5 (s6.1 2 5 + 1))).1 2 7 = nI (kof (y q)) := by rw [sI_eq, up_ne (by decide), k2]
      have n5 : (gj_sI s6 2 (upd (s6.1 2) 5 (s6.1 2 5 + 1))).1 2 5 = nI (q + 1) := by rw [sI_eq, up_eq, k3, nI_1]
      have n8 : (gj_sI s6 2 (upd (s6.1 2) 5 (s6.1 2 5 + 1))).1 2 8 = nI q := by rw [sI_eq, up_ne (by decide), k4]
      have nf : fT8 σ (gj_sI s6 2 (upd (s6.1 2) 5 (s6.1 2 5 + 1))) := fT8_I (.inl rfl) k1
      refine tp_beq hz ?_
      generalize gj_sI s6 2 (upd (s6.1 2) 5 (s6.1 2 5 + 1)) = s7 at n7 n5 n8 nf ⊢
      refine tp_beq (c8_n122 n7 (by omega) (by omega)) (tp_beq (x := 6) (by rw [if_neg (by rw [n7]; intro e; have := (nI_eq (b := 1) (by omega) (by omega)).mp e; omega)]) (tp_t ?_ (tp_some ⟨nf, ?_⟩)))
      · rw [n5, n8, nI_sub (by omega), show q + 1 - q = 1 by omega]
        decide
      · exact ⟨by rw [n5, ete], by rw [n8, hq], by rw [n7, etk], fun h => by omega, fun h => by omega⟩
