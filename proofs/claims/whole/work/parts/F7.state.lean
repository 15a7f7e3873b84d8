/-! ===== the wall: a row behind the first phase is a state of one flow problem ===== -/
section
variable {n r : Nat} {b0 e0 : Nat → Nat} {s : Nat → Int32} {up par rk dp : Nat → Nat} {pr : Nat → Int32}
theorem zx_tt {v : Nat} {Q : Nat → Int} (hg : gS n r b0 e0) (hC : tc_r n (r + n) (vb r b0 s) (ve r e0 s) (vT s) up par rk) (hQ : prI n (vb r b0 s) (zx_ci r) up par Q) (hv : v < n) (h : vT s (r + v)) : up v = r + v ∧ Q v = if s (42 + v) = 1 then -1 else 1 := by
  have hn := hg.1
  obtain ⟨d, hd, e⟩ := hC.2.2.2 (r + v) (by omega) h
  rcases zx_upc hg hC hd with ⟨x, -⟩ | ⟨x, y⟩
  · omega
  · have hdv : d = v := by omega
    subst hdv
    refine ⟨x, ?_⟩
    rw [hQ.2 d hd, y, hQ.1, x]
    unfold eC zx_ci
    rw [vb_t, if_neg (show ¬ r + d < r by omega)]
    by_cases q : s (42 + d) = 1
    · rw [if_pos q, if_pos rfl, if_pos q]
      rfl
    · rw [if_neg q, if_neg (show ¬ 8 = d by omega), if_neg q]
      rfl
theorem zx_l12 {w : Nat} (hP : rP n r b0 e0 s) (hw : w < r + n) (h : ¬ vT s w) : s (74 + w) = 1 ∨ s (74 + w) = 2 := by
  rcases hP.2.1 w hw with x | x
  · exact absurd x h
  · exact x
theorem zx_t0 {v : Nat} (hP : rP n r b0 e0 s) (hf : fP n r 7992 s) (hv : v < n) (h : ¬ vT s (r + v)) : fl s (r + v) = 0 := by
  obtain ⟨f, f1, f2, f3, f4, -⟩ := hf.2 v hv
  rcases zx_l12 hP (show r + v < r + n by omega) h with x | x
  · unfold fl
    rw [f1, f3 x]
    decide
  · exact absurd x f4
theorem zx_lab {w : Nat} (hf : fP n r 7992 s) (hw : w < r) : (s (74 + w) = 1 → fl s w = 0) ∧ (s (74 + w) = 2 → fl s w = hl s w) ∧ fl s w ≤ hl s w ∧ hl s w ≤ 999 := by
  obtain ⟨f, h, g1, g2, g3, g4, g5, g6⟩ := hf.1 w hw
  unfold fl hl
  rw [g1, g2, nI_clamp (by omega), nI_clamp (by omega)]
  exact ⟨g5, g6, g3, g4⟩
theorem zx_toSt {m : Nat} {inc : Nat → Bool} {en ix code : Nat → Nat} {H G Q : Nat → Int} (hg : gS n r b0 e0) (hO : zx_ok n r b0 e0 (s, up, par, rk, dp, pr)) (hQ : prI n (vb r b0 s) (zx_ci r) up par Q)
    (hinc : ∀ w, w < r → (inc w = true ↔ (Q (b0 w) = Q (e0 w) ∨ hl s w = 0))) (h2 : ∀ k, k < m → en k < r ∧ inc (en k) = true ∧ ix (en k) = k) (h3 : ∀ w, w < r → inc w = true → ix w < m ∧ en (ix w) = w) (h4 : ∀ g : Nat → Int, zw_s (fun k => g (en k)) m = zw_s (fun w => if inc w = true then g w else 0) r)
    (hcode : ∀ v, v < n → code v = if s (42 + v) = 1 then (if Q v = -1 then 1 else 3) else (if Q v = 1 then 2 else 3)) (hH : ∀ k, k < m → H k = 9 * (hl s (en k) : Int))
    (hG : ∀ v, v < n → G v = zw_s (fun w => zw_nb (vb r b0 s) (ve r e0 s) v w * zx_X n r b0 s up par w) (r + n) - zw_s (fun w => if inc w = true then 0 else zw_nb b0 e0 v w * (9 * (fl s w : Int))) r) :
    zw_St m n (fun k => b0 (en k)) (fun k => e0 (en k)) code H G (fun v => if up v < r then ix (up v) else m + v) par rk (fun k => decide (s (74 + en k) = 2)) (fun k => zx_X n r b0 s up par (en k)) (fun v => zx_X n r b0 s up par (r + v)) := by
  obtain ⟨hP, hf, -, hT, hsf⟩ := hO
  have hn := hg.1
  have hC := hT.1.1
  -- tree routes are told
  have hti : ∀ w, w < r → vT s w → inc w = true := fun w hw h => (hinc w hw).mpr (.inl (zx_cT hg hC hQ hw h))
  have hup : ∀ v, v < n → up v < r → ix (up v) < m ∧ en (ix (up v)) = up v := fun v hv h => h3 _ h (hti _ h (hC.2.2.1 v hv).2.1)
  have hx0 : ∀ w, w < r → fl s w ≤ hl s w := fun w hw => (zx_lab hf hw).2.2.1
  have hXn : ∀ w, w < r → 0 ≤ zx_X n r b0 s up par w ∧ zx_X n r b0 s up par w ≤ 9 * (hl s w : Int) := fun w hw => by
    by_cases h : vT s w
    · obtain ⟨d, hd, rfl⟩ := hC.2.2.2 w (by omega) h
      obtain ⟨a, b⟩ := zx_Xt hg hC hf hsf hd
      have := b hw
      omega
    · rw [zx_X0 hC h]
      have := hx0 w hw
      omega
  have hXt : ∀ v, v < n → ¬ vT s (r + v) → zx_X n r b0 s up par (r + v) = 0 := fun v hv h => by
    rw [zx_X0 hC h, zx_t0 hP hf hv h]
    rfl
  have hupt : ∀ v, v < n → ((if up v < r then ix (up v) else m + v) = m + v ↔ vT s (r + v)) := fun v hv => by
    refine ⟨fun h => ?_, fun h => ?_⟩
    · by_cases q : up v < r
      · rw [if_pos q] at h
        have := (hup v hv q).1
        omega
      · rcases zx_upc hg hC hv with ⟨x, -⟩ | ⟨x, -⟩
        · exact absurd x q
        · rw [← x]
          exact (hC.2.2.1 v hv).2.1
    · have := (zx_tt hg hC hQ hv h).1
      rw [if_neg (by omega)]
  have hc3 : ∀ v, v < n → code v = 3 → ¬ vT s (r + v) := fun v hv hc h => by
    have h1 := (zx_tt hg hC hQ hv h).2
    rw [hcode v hv] at hc
    by_cases q : s (42 + v) = 1
    · rw [if_pos q] at h1 hc
      rw [if_pos h1] at hc
      omega
    · rw [if_neg q] at h1 hc
      rw [if_pos h1] at hc
      omega
  refine ⟨fun v hv => ?_, fun v w hv hw h => ?_, fun v hv hc h => ?_, fun v hv => ?_, fun k hk => ?_, fun v hv => ⟨?_, fun hc => hXt v hv (hc3 v hv hc)⟩, fun v hv h => ?_, fun v hv h => ?_, fun k hk h => ⟨fun hl2 => ?_, fun hl2 => ?_⟩, fun v hv h => ?_⟩
  · try dsimp only
    rcases zx_upc hg hC hv with ⟨q, x, y⟩ | ⟨x, -⟩
    · right
      obtain ⟨a, b⟩ := hup v hv q
      rw [if_pos q, b]
      exact ⟨a, y, x, (hC.2.2.1 v hv).2.2.2.2⟩
    · left
      rw [if_neg (by omega)]
  · try dsimp only at h
    refine tc_inj hC hv hw ?_
    by_cases q1 : up v < r
    · by_cases q2 : up w < r
      · rw [if_pos q1, if_pos q2] at h
        rw [← (hup v hv q1).2, ← (hup w hw q2).2, h]
      · rw [if_pos q1, if_neg q2] at h
        have := (hup v hv q1).1
        omega
    · by_cases q2 : up w < r
      · rw [if_neg q1, if_pos q2] at h
        have := (hup w hw q2).1
        omega
      · rw [if_neg q1, if_neg q2] at h
        have e : v = w := by omega
        rw [e]
  · exact hc3 v hv hc ((hupt v hv).mp h)
  · -- conservation
    have e0' : zw_s (fun k => zw_nb (fun k => b0 (en k)) (fun k => e0 (en k)) v k * zx_X n r b0 s up par (en k)) m = zw_s (fun w => if inc w = true then zw_nb b0 e0 v w * zx_X n r b0 s up par w else 0) r := h4 (fun w => zw_nb b0 e0 v w * zx_X n r b0 s up par w)
    rw [e0', hG v hv, zw_s_ap]
    have e1 : zw_s (fun w => zw_nb (vb r b0 s) (ve r e0 s) v w * zx_X n r b0 s up par w) r = zw_s (fun w => if inc w = true then zw_nb b0 e0 v w * zx_X n r b0 s up par w else 0) r + zw_s (fun w => if inc w = true then 0 else zw_nb b0 e0 v w * (9 * (fl s w : Int))) r := by
      rw [← zw_s_add]
      refine zw_s_cg r (fun w hw => ?_)
      have eb : zw_nb (vb r b0 s) (ve r e0 s) v w = zw_nb b0 e0 v w := by
        unfold zw_nb vb ve
        rw [if_pos hw, if_pos hw]
      rw [eb]
      by_cases q : inc w = true
      · rw [if_pos q, if_pos q, Int.add_zero]
      · rw [if_neg q, if_neg q, Int.zero_add, zx_X0 hC (fun h => q (hti w hw h))]
    have e2 : zw_s (fun d => zw_nb (vb r b0 s) (ve r e0 s) v (r + d) * zx_X n r b0 s up par (r + d)) n = (if s (42 + v) = 1 then 1 else -1) * zx_X n r b0 s up par (r + v) := by
      have e3 : zw_s (fun d => zw_nb (vb r b0 s) (ve r e0 s) v (r + d) * zx_X n r b0 s up par (r + d)) n = zw_s (fun d => if d = v then (if s (42 + v) = 1 then 1 else -1) * zx_X n r b0 s up par (r + v) else 0) n := zw_s_cg n (fun d hd => by
        unfold zw_nb
        rw [vb_t, ve_t]
        by_cases q : d = v
        · rw [if_pos q, q]
          by_cases q2 : s (42 + v) = 1
          · rw [if_pos q2, if_pos q2, if_pos rfl, if_neg (by omega), if_pos q2]
            rfl
          · rw [if_neg q2, if_neg q2, if_neg (by omega), if_pos rfl, if_neg q2]
            rfl
        · rw [if_neg q]
          by_cases q2 : s (42 + d) = 1
          · rw [if_pos q2, if_pos q2, if_neg q, if_neg (by omega), Int.sub_zero, Int.zero_mul]
          · rw [if_neg q2, if_neg q2, if_neg (by omega), if_neg q, Int.sub_zero, Int.zero_mul])
      rw [e3, zw_s_one, if_pos hv]
    rw [e1, e2]
    have e3 : zw_ta (code v) * zx_X n r b0 s up par (r + v) = (if s (42 + v) = 1 then 1 else -1) * zx_X n r b0 s up par (r + v) := by
      by_cases q3 : code v = 3
      · rw [hXt v hv (hc3 v hv q3), Int.mul_zero, Int.mul_zero]
      · congr 1
        have hc := hcode v hv
        unfold zw_ta
        by_cases q : s (42 + v) = 1
        · rw [if_pos q] at hc ⊢
          by_cases q4 : Q v = -1
          · rw [if_pos q4] at hc
            rw [if_pos hc]
          · rw [if_neg q4] at hc
            exact absurd hc q3
        · rw [if_neg q] at hc ⊢
          by_cases q4 : Q v = 1
          · rw [if_pos q4] at hc
            rw [if_neg (by omega)]
          · rw [if_neg q4] at hc
            exact absurd hc q3
    rw [e3]
    omega
  · try dsimp only
    rw [hH k hk]
    exact hXn _ (h2 k hk).1
  · try dsimp only
    by_cases h : vT s (r + v)
    · obtain ⟨a, -⟩ := zx_Xt hg hC hf hsf hv
      rw [(zx_tt hg hC hQ hv h).1] at a
      omega
    · rw [hXt v hv h]
      exact Int.le_refl _
  · try dsimp only at h ⊢
    by_cases q : up v < r
    · rw [if_pos q] at h ⊢
      obtain ⟨a, b⟩ := hup v hv q
      rw [hH _ a, b]
      obtain ⟨c, d⟩ := zx_Xt hg hC hf hsf hv
      exact ⟨c, d q⟩
    · rw [if_neg q] at h
      omega
  · have h' := (hupt v hv).mp h
    obtain ⟨a, -⟩ := zx_Xt hg hC hf hsf hv
    rw [(zx_tt hg hC hQ hv h').1] at a
    exact a
  · -- FULL
    try dsimp only at hl2 ⊢
    obtain ⟨a, b, c⟩ := h2 k hk
    have hnt : ¬ vT s (en k) := fun x => by
      obtain ⟨d, hd, e⟩ := hC.2.2.2 (en k) (by omega) x
      have hh : zw_h (fun v => if up v < r then ix (up v) else m + v) k n = true := (zw_h_i n).mpr ⟨d, hd, by
        try dsimp only
        rw [e, if_pos a, c]⟩
      rw [hh] at h
      cases h
    rw [zx_X0 hC hnt, hH k hk, (zx_lab hf a).2.1 (of_decide_eq_true hl2)]
  · try dsimp only at hl2 ⊢
    obtain ⟨a, b, c⟩ := h2 k hk
    have hnt : ¬ vT s (en k) := fun x => by
      obtain ⟨d, hd, e⟩ := hC.2.2.2 (en k) (by omega) x
      have hh : zw_h (fun v => if up v < r then ix (up v) else m + v) k n = true := (zw_h_i n).mpr ⟨d, hd, by
        try dsimp only
        rw [e, if_pos a, c]⟩
      rw [hh] at h
      cases h
    rw [zx_X0 hC hnt]
    rcases zx_l12 hP (show en k < r + n by omega) hnt with x | x
    · rw [(zx_lab hf a).1 x]
      rfl
    · exact absurd x (of_decide_eq_false hl2)
  · refine hXt v hv (fun x => h ((hupt v hv).mpr x))
/-- when a tree route is told, and a tender -/
theorem zx_treeh {m : Nat} {inc : Nat → Bool} {en ix : Nat → Nat} {Q : Nat → Int} (hg : gS n r b0 e0) (hC : tc_r n (r + n) (vb r b0 s) (ve r e0 s) (vT s) up par rk) (hQ : prI n (vb r b0 s) (zx_ci r) up par Q) (hinc : ∀ w, w < r → (inc w = true ↔ (Q (b0 w) = Q (e0 w) ∨ hl s w = 0))) (h2 : ∀ k, k < m → en k < r ∧ inc (en k) = true ∧ ix (en k) = k) (h3 : ∀ w, w < r → inc w = true → ix w < m ∧ en (ix w) = w) :
    (∀ k, k < m → (zw_h (fun v => if up v < r then ix (up v) else m + v) k n = true ↔ vT s (en k))) ∧ ∀ v, v < n → ((if up v < r then ix (up v) else m + v) = m + v ↔ vT s (r + v)) := by
  have hti : ∀ w, w < r → vT s w → inc w = true := fun w hw h => (hinc w hw).mpr (.inl (zx_cT hg hC hQ hw h))
  have hup : ∀ v, v < n → up v < r → ix (up v) < m ∧ en (ix (up v)) = up v := fun v hv h => h3 _ h (hti _ h (hC.2.2.1 v hv).2.1)
  refine ⟨fun k hk => ?_, fun v hv => ?_⟩
  · obtain ⟨a, b, c⟩ := h2 k hk
    rw [zw_h_i]
    refine ⟨fun ⟨v, hv, e⟩ => ?_, fun h => ?_⟩
    · try dsimp only at e
      by_cases q : up v < r
      · rw [if_pos q] at e
        rw [← e, (hup v hv q).2]
        exact (hC.2.2.1 v hv).2.1
      · rw [if_neg q] at e
        omega
    · obtain ⟨d, hd, e⟩ := hC.2.2.2 (en k) (by omega) h
      refine ⟨d, hd, ?_⟩
      try dsimp only
      rw [e, if_pos a, c]
  · refine ⟨fun h => ?_, fun h => ?_⟩
    · by_cases q : up v < r
      · rw [if_pos q] at h
        have := (hup v hv q).1
        omega
      · rcases zx_upc hg hC hv with ⟨x, -⟩ | ⟨x, -⟩
        · exact absurd x q
        · rw [← x]
          exact (hC.2.2.1 v hv).2.1
    · have := (zx_tt hg hC hQ hv h).1
      rw [if_neg (by omega)]
end
