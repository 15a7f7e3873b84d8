/-! ===== unit: rounds, the call ===== -/
theorem vg_T {n r : Nat} {b0 e0 : Nat → Nat} {s : Nat → Int32} {up par rk dp : Nat → Nat} {pr : Nat → Int32} (hg : gS n r b0 e0) (hT : rT n r b0 e0 s up par rk dp pr) (hc : ∀ w, w < r → ∃ c, c ≤ 999 ∧ s (8 + w) = nI c) {w : Nat} (hw : w < r + n) (h : s (74 + w) = 0) : (vg r b0 e0 s pr w).toInt = 0 := by
  have hC := hT.1.1
  obtain ⟨d, hd, rfl⟩ := hC.2.2.2 w hw h
  have e := (vg_bd hg hT hc hw).1
  have st := pr_st hg.1 hT hc hd
  obtain ⟨-, -, hj, -, hr⟩ := hC.2.2.1 d hd
  rcases hj with ⟨a, b⟩ | ⟨a, b⟩
  · rw [if_pos a] at st
    rw [a, b] at e
    omega
  · have hne : ¬ vb r b0 s (up d) = d := fun x => by
      rw [b] at x
      rw [x] at hr
      omega
    rw [if_neg hne] at st
    rw [a, b] at e
    omega
theorem uP_end {n r F : Nat} {b0 e0 : Nat → Nat} {s : Nat → Int32} {up par rk dp : Nat → Nat} {pr : Nat → Int32} (hg : gS n r b0 e0) (hT : rT n r b0 e0 s up par rk dp pr) (hc : ∀ w, w < r → ∃ c, c ≤ 999 ∧ s (8 + w) = nI c) (hst : ∀ w, w < r + n → s (74 + w) = 0 ∨ s (74 + w) = 1 ∨ s (74 + w) = 2) (hf : fP n r F s) (he : ct (vG r b0 e0 s pr) (r + n) = 0) {a : Nat} (ha : a < n) : uP r b0 e0 s (fun d => if d < n then (pr d).toInt - (pr a).toInt else 0) := by
  have hn := hg.1
  have hE := end_iff.mp he
  have ez : (0 : Int32).toInt = 0 := by decide
  have pb : ∀ d, d < n → -80000 ≤ (pr d).toInt ∧ (pr d).toInt ≤ 80000 := fun d hd => by
    have h1 := Nat.le_trans (td_le hT.1 hT.2.1 (.inl hd)) hn
    have h2 := pr_bd (b0 := b0) (e0 := e0) hn hT hc 8 d h1 (Nat.le_refl _) (.inl hd)
    omega
  refine ⟨fun d => ?_, fun w hw => ⟨hc w hw, ?_⟩⟩
  · dsimp only
    by_cases q : d < n
    · rw [if_pos q]
      have h1 := pb d q
      have h2 := pb a ha
      omega
    · rw [if_neg q]
      omega
  · obtain ⟨hb, hee, -⟩ := hg.2.2 w hw
    dsimp only
    rw [if_pos hb, if_pos hee]
    obtain ⟨c, c1, c2⟩ := hc w hw
    have e1 : (nI c).toInt = c := nI_toInt (by omega)
    obtain ⟨f, h, f1, f2, f3, f4, f5, f6⟩ := hf.1 w hw
    have g := (vg_bd hg hT hc (show w < r + n by omega)).1
    have gT := vg_T hg hT hc (show w < r + n by omega)
    obtain ⟨g1, g2⟩ := hE w (by omega)
    rw [show vb r b0 s w = b0 w from if_pos hw, show ve r e0 s w = e0 w from if_pos hw, show vc r s w = s (8 + w) from if_pos hw, c2, e1] at g
    rw [c2, i32_sub (by rw [e1, ez]; omega) (by rw [e1, ez]; omega), e1, ez]
    refine ⟨fun q => ?_, fun q => ?_⟩
    · rcases hst w (by omega) with x | x | x
      · have := gT x
        omega
      · have := g1 x
        omega
      · exfalso
        apply q
        rw [f1, f2, f6 x]
        exact nI_le (Nat.le_refl _) (by omega)
    · rcases hst w (by omega) with x | x | x
      · have := gT x
        omega
      · exfalso
        apply q
        rw [f1, f5 x]
        decide
      · have := g2 x
        omega
theorem Iv_it {lo : Nat → Int} {a0 t r : Nat} {b0 e0 : Nat → Nat} {s : Nat → Int32} {D : Nat → Option Int32} (hu : uP r b0 e0 s lo) (h : Iv lo a0 t D) : ∀ k, k ≤ r → t + 2 * k ≤ 292 → Iv lo a0 (t + 2 * k) (itF (stp b0 e0 s) k D)
  | 0, _, _ => h
  | k + 1, h1, h2 => (Iv_s hu (Iv_it hu h k (by omega) (by omega)) (by omega) (by omega)).2
theorem Iv_rd {lo : Nat → Int} {a0 t r : Nat} {b0 e0 : Nat → Nat} {s : Nat → Int32} {D : Nat → Option Int32} (hu : uP r b0 e0 s lo) (hr : r ≤ 16) (h : Iv lo a0 t D) : ∀ i, t + 32 * i ≤ 292 → Iv lo a0 (t + 32 * i) (itF (fun _ D => itF (stp b0 e0 s) r D) i D)
  | 0, _ => h
  | i + 1, h2 => Iv_mono (Iv_it hu (Iv_rd hu hr h i (by omega)) r (Nat.le_refl _) (by omega)) (by omega)
theorem c8_try {lo : Nat → Int} {a0 t n r F w : Nat} {b0 e0 : Nat → Nat} {s : Nat → Int32} {D : Nat → Option Int32} {σ : gj_S} (hg : gS n r b0 e0) (hp : pm n r b0 e0 s 17 σ) (hf : fP n r F s) (hu : uP r b0 e0 s lo) (h : Iv lo a0 t D) (ht : t ≤ 290) (hw : w < r) (he : ∀ d, d < 8 → σ.1 167 d = eD 2147483647 D d) : TP (f_X6_tryRoute (nI w) σ) (fun z => smC 167 167 σ z ∧ ∀ d, d < 8 → z.1 167 d = eD 2147483647 (stp b0 e0 s w D) d) := by
  have hn := hg.1
  have hr := hg.2.1
  have hh : ∀ w, w < r → ∃ c, c ≤ 999 ∧ s (24 + w) = nI c := fun v hv => by
    obtain ⟨f, g, -, g2, -, g4, -⟩ := hf.1 v hv
    exact ⟨g, g4, g2⟩
  obtain ⟨hb, hee, -⟩ := hg.2.2 w hw
  obtain ⟨m1, m2, m3, -⟩ := hp.2.2.2.2.2 w (by omega)
  have e19 : σ.1 19 w = nI (b0 w) := by
    rw [show σ.1 19 w = nI (vb r b0 s w) from m1, show vb r b0 s w = b0 w from if_pos hw]
  have e20 : σ.1 20 w = nI (e0 w) := by
    rw [show σ.1 20 w = nI (ve r e0 s w) from m2, show ve r e0 s w = e0 w from if_pos hw]
  have e21 : σ.1 21 w = s (8 + w) := by
    rw [show σ.1 21 w = vc r s w from m3, show vc r s w = s (8 + w) from if_pos hw]
  obtain ⟨f, g, f1, f2, f3, f4, -⟩ := hf.1 w hw
  have gw : gj_in (nI w) 24 := gi (by omega) (by omega)
  have cw : (nI w).toNatClampNeg = w := nI_clamp (by omega)
  have r1 := c8_room (v := w) (al := true) hg hp hh (by omega)
  rw [if_neg (by decide), if_pos hw] at r1
  have q1 : (s (24 + w) - s (50 + w) ≤ 0) ↔ (s (24 + w) ≤ s (50 + w)) := by
    rw [f1, f2, nI_sub f3, show (0 : Int32) = nI 0 from rfl, nI_leI (by omega) (by omega), nI_leI (by omega) (by omega)]
    omega
  obtain ⟨c1, c2⟩ := uP_c hu hw
  obtain ⟨i1, -⟩ := Iv_s hu h ht hw
  unfold f_X6_tryRoute
  simp only [cw, e19, e20, e21]
  refine tp_t gw (tp_t gw (tp_beq r1 ?_))
  refine tp_bind (P := fun z => smC 167 167 σ z ∧ ∀ d, d < 8 → z.1 167 d = eD 2147483647 (if s (24 + w) ≤ s (50 + w) then D else rlx (b0 w) (e0 w) (s (8 + w)) D) d) ?_ (fun z4 hz4 => ?_)
  · by_cases q : s (24 + w) ≤ s (50 + w)
    · rw [if_pos q]
      exact tp_t (q1.mpr q) (tp_some ⟨smC_rf, he⟩)
    · rw [if_neg q]
      exact tp_f (fun x => q (q1.mp x)) (tp_t gw (tp_bind (c8_reach h (by omega) hu.1 c1 (by omega) (by omega) he) (fun x hx => tp_some hx)))
  · obtain ⟨s4, d4⟩ := hz4
    have hp4 := smC_pm s4 (.inl (by omega)) hp
    have r2 := c8_room (v := w) (al := false) hg hp4 hh (by omega)
    rw [if_pos rfl] at r2
    refine tp_beq r2 ?_
    unfold stp
    dsimp only
    generalize (if s (24 + w) ≤ s (50 + w) then D else rlx (b0 w) (e0 w) (s (8 + w)) D) = D1 at i1 d4 ⊢
    by_cases q : s (50 + w) ≤ 0
    · rw [show (if s (50 + w) ≤ 0 then D1 else rlx (e0 w) (b0 w) (0 - s (8 + w)) D1) = D1 from if_pos q]
      exact tp_t q (tp_some ⟨s4, d4⟩)
    · rw [show (if s (50 + w) ≤ 0 then D1 else rlx (e0 w) (b0 w) (0 - s (8 + w)) D1) = rlx (e0 w) (b0 w) (0 - s (8 + w)) D1 from if_neg q]
      refine tp_f q (tp_t gw ?_)
      rw [s4.1 21 (by omega), e21]
      exact tp_bind (c8_reach i1 (by omega) hu.1 c2 (by omega) (by omega) d4) (fun x hx => tp_some ⟨smC_tr s4 hx.1, hx.2⟩)
theorem c8_rd {lo : Nat → Int} {a0 t n r F : Nat} {b0 e0 : Nat → Nat} {s : Nat → Int32} {D : Nat → Option Int32} {σ : gj_S} {b3 b4 : Int32} (hg : gS n r b0 e0) (hp : pm n r b0 e0 s 17 σ) (hf : fP n r F s) (hu : uP r b0 e0 s lo) (h : Iv lo a0 t D) (ht : t + 32 ≤ 290) (he : ∀ d, d < 8 → σ.1 167 d = eD 2147483647 D d) : TP (gj_lp (fb_X6_findLeast_l50 b3 b4) 5000 (0, σ)) (fun z => smC 167 167 σ z ∧ ∀ d, d < 8 → z.1 167 d = eD 2147483647 (itF (stp b0 e0 s) r D) d) := by
  have hr := hg.2.1
  refine tp_lp (I := fun a => ∃ k, k ≤ r ∧ a.1 = nI k ∧ smC 167 167 σ a.2 ∧ ∀ d, d < 8 → a.2.1 167 d = eD 2147483647 (itF (stp b0 e0 s) k D) d) (fun a => r - a.1.toNatClampNeg) ?_ 5000 (0, σ) ⟨0, by omega, rfl, smC_rf, he⟩ (by dsimp only; omega)
  rintro ⟨i, τ⟩ ⟨k, h1, h2, h3, h4⟩
  dsimp only at h2 h3 h4
  subst h2
  have hp4 := smC_pm h3 (.inl (by omega)) hp
  unfold fb_X6_findLeast_l50
  dsimp only
  rw [hp4.2.1]
  by_cases e : k = r
  · subst e
    exact tp_t (nI_le (by omega) (by omega)) (tp_some ⟨h3, h4⟩)
  · refine tp_f (nI_ge (by omega) (by omega)) (tp_bind (c8_try hg hp4 hf hu (Iv_it hu h k h1 (by omega)) (by omega) (show k < r by omega) h4) (fun x hx => tp_some ⟨⟨k + 1, by omega, nI_1 _, smC_tr h3 hx.1, hx.2⟩, ?_⟩))
    dsimp only
    rw [nI_1, nI_clamp (by omega), nI_clamp (by omega)]
    omega
theorem c8_rds {lo : Nat → Int} {a0 n r F : Nat} {b0 e0 : Nat → Nat} {s : Nat → Int32} {D : Nat → Option Int32} {σ : gj_S} {b3 : Int32} (hg : gS n r b0 e0) (hp : pm n r b0 e0 s 17 σ) (hf : fP n r F s) (hu : uP r b0 e0 s lo) (h : Iv lo a0 0 D) (he : ∀ d, d < 8 → σ.1 167 d = eD 2147483647 D d) : TP (gj_lp (fb_X6_findLeast_l38 b3) 5000 (0, σ)) (fun z => smC 167 167 σ z ∧ ∀ d, d < 8 → z.1 167 d = eD 2147483647 (itF (fun _ D => itF (stp b0 e0 s) r D) n D) d) := by
  have hn := hg.1
  have hr := hg.2.1
  refine tp_lp (I := fun a => ∃ k, k ≤ n ∧ a.1 = nI k ∧ smC 167 167 σ a.2 ∧ ∀ d, d < 8 → a.2.1 167 d = eD 2147483647 (itF (fun _ D => itF (stp b0 e0 s) r D) k D) d) (fun a => n - a.1.toNatClampNeg) ?_ 5000 (0, σ) ⟨0, by omega, rfl, smC_rf, he⟩ (by dsimp only; omega)
  rintro ⟨i, τ⟩ ⟨k, h1, h2, h3, h4⟩
  dsimp only at h2 h3 h4
  subst h2
  have hp4 := smC_pm h3 (.inl (by omega)) hp
  unfold fb_X6_findLeast_l38
  dsimp only
  rw [hp4.1]
  by_cases e : k = n
  · subst e
    exact tp_t (nI_le (by omega) (by omega)) (tp_some ⟨h3, h4⟩)
  · refine tp_f (nI_ge (by omega) (by omega)) (tp_bind (c8_rd hg hp4 hf hu (Iv_rd hu hr h k (by omega)) (by omega) h4) (fun x hx => tp_some ⟨⟨k + 1, by omega, nI_1 _, smC_tr h3 hx.1, hx.2⟩, ?_⟩))
    dsimp only
    rw [nI_1, nI_clamp (by omega), nI_clamp (by omega)]
    omega
theorem r9_78 {lo : Nat → Int} {a0 t n r F w : Nat} {b0 e0 : Nat → Nat} {s : Nat → Int32} {D : Nat → Option Int32} {σ : gj_S} {b2 b3 : Int32} (hS : rS n r b0 e0 σ) (hs : σ.1 198 = s) (hf : fP n r F s) (hu : uP r b0 e0 s lo) (h : Iv lo a0 t D) (ht : t ≤ 290) (hw : w < r) (he : ∀ d, d < 8 → σ.1 209 d = eD 1000000000 D d) : TP (fb_X9_unit_l78 b2 b3 (nI w, σ)) (fun z => ∃ z', z = .inr (nI (w + 1), z') ∧ smC 209 209 σ z' ∧ ∀ d, d < 8 → z'.1 209 d = eD 1000000000 (stp b0 e0 s w D) d) := by
  have hn := hS.1
  have hr := hS.2.1
  obtain ⟨e194, e195, hb, hee, -⟩ := hS.2.2.2.2 w hw
  have g0 : gj_in (0 : Int32) 2 := gj0 (by decide)
  have gw : gj_in (nI w) 32 := gi (by omega) (by omega)
  have cw : (nI w).toNatClampNeg = w := nI_clamp (by omega)
  have g50 : (50 : Int32) + nI w = nI (50 + w) := by rw [show (50 : Int32) = nI 50 from rfl, nI_add]
  have g24 : (24 : Int32) + nI w = nI (24 + w) := by rw [show (24 : Int32) = nI 24 from rfl, nI_add]
  have g8 : (8 : Int32) + nI w = nI (8 + w) := by rw [show (8 : Int32) = nI 8 from rfl, nI_add]
  have i50 : gj_in (nI (50 + w)) 180 := gi (by omega) (by omega)
  have i24 : gj_in (nI (24 + w)) 180 := gi (by omega) (by omega)
  have i8 : gj_in (nI (8 + w)) 180 := gi (by omega) (by omega)
  obtain ⟨c1, c2⟩ := uP_c hu hw
  obtain ⟨i1, -⟩ := Iv_s hu h ht hw
  unfold fb_X9_unit_l78
  dsimp only
  simp only [g50, g24, g8, cw, nI_clamp (show 50 + w < 2 ^ 31 by omega), nI_clamp (show 24 + w < 2 ^ 31 by omega), nI_clamp (show 8 + w < 2 ^ 31 by omega), rd0, hs, hS.2.2.2.1, e194, e195]
  refine tp_t g0 (tp_f (nI_ge hw (by omega)) (tp_t i50 (tp_t i24 ?_)))
  refine tp_bind (P := fun z => smC 209 209 σ z ∧ ∀ d, d < 8 → z.1 209 d = eD 1000000000 (if s (24 + w) ≤ s (50 + w) then D else rlx (b0 w) (e0 w) (s (8 + w)) D) d) ?_ (fun z4 hz4 => ?_)
  · by_cases q : s (24 + w) ≤ s (50 + w)
    · rw [show (if s (24 + w) ≤ s (50 + w) then D else rlx (b0 w) (e0 w) (s (8 + w)) D) = D from if_pos q]
      exact tp_t q (tp_some ⟨smC_rf, he⟩)
    · rw [show (if s (24 + w) ≤ s (50 + w) then D else rlx (b0 w) (e0 w) (s (8 + w)) D) = rlx (b0 w) (e0 w) (s (8 + w)) D from if_neg q]
      exact tp_f q (tp_t gw (tp_t gw (tp_t i8 (tp_bind (r9_cheaper h (by omega) hu.1 c1 (by omega) (by omega) he) (fun x hx => tp_some hx)))))
  · obtain ⟨s4, d4⟩ := hz4
    refine tp_t i50 ?_
    rw [s4.1 198 (by omega), s4.1 194 (by omega), s4.1 195 (by omega), hs, e194, e195]
    unfold stp
    dsimp only
    generalize (if s (24 + w) ≤ s (50 + w) then D else rlx (b0 w) (e0 w) (s (8 + w)) D) = D1 at i1 d4 ⊢
    by_cases q : s (50 + w) ≤ 0
    · rw [show (if s (50 + w) ≤ 0 then D1 else rlx (e0 w) (b0 w) (0 - s (8 + w)) D1) = D1 from if_pos q]
      exact tp_t q (tp_some ⟨z4, by rw [nI_1], s4, d4⟩)
    · rw [show (if s (50 + w) ≤ 0 then D1 else rlx (e0 w) (b0 w) (0 - s (8 + w)) D1) = rlx (e0 w) (b0 w) (0 - s (8 + w)) D1 from if_neg q]
      refine tp_f q (tp_t gw (tp_t gw (tp_t i8 ?_)))
      exact tp_bind (r9_cheaper i1 (by omega) hu.1 c2 (by omega) (by omega) d4) (fun x hx => tp_some ⟨x, by rw [nI_1], smC_tr s4 hx.1, hx.2⟩)
theorem smC_S {n r lo hi : Nat} {b0 e0 : Nat → Nat} {σ τ : gj_S} (h : smC lo hi σ τ) (hb : 195 < lo ∨ hi < 190) (hS : rS n r b0 e0 σ) : rS n r b0 e0 τ := by
  unfold rS at hS ⊢
  rw [h.1 190 (by omega), h.1 191 (by omega), h.1 194 (by omega), h.1 195 (by omega)]
  exact hS
theorem r9_rd {lo : Nat → Int} {a0 t n r F : Nat} {b0 e0 : Nat → Nat} {s : Nat → Int32} {D : Nat → Option Int32} {σ : gj_S} {b2 b3 : Int32} (hS : rS n r b0 e0 σ) (hs : σ.1 198 = s) (hf : fP n r F s) (hu : uP r b0 e0 s lo) (h : Iv lo a0 t D) (ht : t + 32 ≤ 290) (he : ∀ d, d < 8 → σ.1 209 d = eD 1000000000 D d) : TP (gj_lp (fb_X9_unit_l78 b2 b3) 5000 (0, σ)) (fun z => smC 209 209 σ z ∧ ∀ d, d < 8 → z.1 209 d = eD 1000000000 (itF (stp b0 e0 s) r D) d) := by
  have hr := hS.2.1
  refine tp_lp (I := fun a => ∃ k, k ≤ r ∧ a.1 = nI k ∧ smC 209 209 σ a.2 ∧ ∀ d, d < 8 → a.2.1 209 d = eD 1000000000 (itF (stp b0 e0 s) k D) d) (fun a => r - a.1.toNatClampNeg) ?_ 5000 (0, σ) ⟨0, by omega, rfl, smC_rf, he⟩ (by dsimp only; omega)
  rintro ⟨i, τ⟩ ⟨k, h1, h2, h3, h4⟩
  dsimp only at h2 h3 h4
  subst h2
  have hS4 := smC_S h3 (.inl (by omega)) hS
  by_cases e : k = r
  · subst e
    unfold fb_X9_unit_l78
    dsimp only
    refine tp_t (gj0 (by decide)) (tp_t ?_ (tp_some ⟨h3, h4⟩))
    rw [rd0, hS4.2.2.2.1]
    exact nI_le (by omega) (by omega)
  · refine tp_mono (r9_78 hS4 (by rw [h3.1 198 (by omega), hs]) hf hu (Iv_it hu h k h1 (by omega)) (by omega) (show k < r by omega) h4) (fun z hz => ?_)
    obtain ⟨z', rfl, z1, z2⟩ := hz
    refine ⟨⟨k + 1, by omega, rfl, smC_tr h3 z1, z2⟩, ?_⟩
    dsimp only
    rw [nI_clamp (by omega), nI_clamp (by omega)]
    omega
theorem r9_rds {lo : Nat → Int} {a0 n r F : Nat} {b0 e0 : Nat → Nat} {s : Nat → Int32} {D : Nat → Option Int32} {σ : gj_S} {b2 : Int32} (hS : rS n r b0 e0 σ) (hs : σ.1 198 = s) (hf : fP n r F s) (hu : uP r b0 e0 s lo) (h : Iv lo a0 0 D) (he : ∀ d, d < 8 → σ.1 209 d = eD 1000000000 D d) : TP (gj_lp (fb_X9_unit_l65 b2) 5000 (0, σ)) (fun z => smC 209 209 σ z ∧ ∀ d, d < 8 → z.1 209 d = eD 1000000000 (itF (fun _ D => itF (stp b0 e0 s) r D) n D) d) := by
  have hn := hS.1
  have hr := hS.2.1
  refine tp_lp (I := fun a => ∃ k, k ≤ n ∧ a.1 = nI k ∧ smC 209 209 σ a.2 ∧ ∀ d, d < 8 → a.2.1 209 d = eD 1000000000 (itF (fun _ D => itF (stp b0 e0 s) r D) k D) d) (fun a => n - a.1.toNatClampNeg) ?_ 5000 (0, σ) ⟨0, by omega, rfl, smC_rf, he⟩ (by dsimp only; omega)
  rintro ⟨i, τ⟩ ⟨k, h1, h2, h3, h4⟩
  dsimp only at h2 h3 h4
  subst h2
  have hS4 := smC_S h3 (.inl (by omega)) hS
  unfold fb_X9_unit_l65
  dsimp only
  refine tp_t (gj0 (by decide)) ?_
  rw [rd0, hS4.2.2.1]
  by_cases e : k = n
  · subst e
    exact tp_t (nI_le (by omega) (by omega)) (tp_some ⟨h3, h4⟩)
  · refine tp_f (nI_ge (by omega) (by omega)) (tp_bind (r9_rd hS4 (by rw [h3.1 198 (by omega), hs]) hf hu (Iv_rd hu hr h k (by omega)) (by omega) h4) (fun x hx => tp_some ⟨⟨k + 1, by omega, nI_1 _, smC_tr h3 hx.1, hx.2⟩, ?_⟩))
    dsimp only
    rw [nI_1, nI_clamp (by omega), nI_clamp (by omega)]
    omega
/-- both begin alike -/
def D0 (a : Nat) (d : Nat) : Option Int32 := if d = a then some 0 else none
theorem c8_l3 {a : Nat} {σ : gj_S} {b3 : Int32} (ha : a < 8) : TP (gj_lp (fb_X6_findLeast_l3 (nI a) b3) 5000 (0, σ)) (fun z => smC 167 167 σ z ∧ ∀ d, d < 8 → z.1 167 d = eD 2147483647 (D0 a) d) := by
  refine tp_mono (lp_fill (f := fb_X6_findLeast_l3 (nI a) b3) (σ := σ) (o := 0) (N := 8) (c := 167) (g := fun k => k) (v := fun k => eD 2147483647 (D0 a) k) (by omega) (fun k l h1 h2 => by omega) (fun τ _ => ?_) (fun k hk τ h1 h2 h3 => ?_)) (fun z hz => ⟨⟨fun k hk => hz.1 k (by omega), hz.2.1⟩, hz.2.2.1⟩)
  · unfold fb_X6_findLeast_l3
    dsimp only
    exact if_pos (show (8 : Int32) ≤ nI (0 + 8) by decide)
  · unfold fb_X6_findLeast_l3
    dsimp only
    have gk : gj_in (nI (0 + k)) 8 := gi (by omega) (by omega)
    have n8 : ¬ (8 : Int32) ≤ nI (0 + k) := nI_ge (b := 8) (by omega) (by omega)
    rw [if_neg n8]
    have ek : (nI (0 + k)).toNatClampNeg = k := by rw [nI_clamp (by omega)]; omega
    unfold eD D0
    by_cases q : k = a
    · rw [if_pos (by rw [q, Nat.zero_add]), if_pos gk, ek, nI_1, if_pos q]
      rfl
    · rw [if_neg (fun e => q (by have := (nI_eq (by omega) (by omega)).mp e; omega)), if_pos gk, ek, nI_1, if_neg q]
      rfl
theorem r9_34 {a : Nat} {σ : gj_S} {b3 : Int32} (ha : a < 8) : TP (gj_lp (fb_X9_unit_l34 (nI a) b3) 5000 (0, σ)) (fun z => smC 209 209 σ z ∧ ∀ d, d < 8 → z.1 209 d = eD 1000000000 (D0 a) d) := by
  refine tp_mono (lp_fill (f := fb_X9_unit_l34 (nI a) b3) (σ := σ) (o := 0) (N := 8) (c := 209) (g := fun k => k) (v := fun k => eD 1000000000 (D0 a) k) (by omega) (fun k l h1 h2 => by omega) (fun τ _ => ?_) (fun k hk τ h1 h2 h3 => ?_)) (fun z hz => ⟨⟨fun k hk => hz.1 k (by omega), hz.2.1⟩, hz.2.2.1⟩)
  · unfold fb_X9_unit_l34
    dsimp only
    exact if_pos (show (8 : Int32) ≤ nI (0 + 8) by decide)
  · unfold fb_X9_unit_l34
    dsimp only
    have gk : gj_in (nI (0 + k)) 8 := gi (by omega) (by omega)
    have n8 : ¬ (8 : Int32) ≤ nI (0 + k) := nI_ge (b := 8) (by omega) (by omega)
    rw [if_neg n8]
    have ek : (nI (0 + k)).toNatClampNeg = k := by rw [nI_clamp (by omega)]; omega
    unfold eD D0
    by_cases q : k = a
    · rw [if_pos (by rw [q, Nat.zero_add]), if_pos gk, ek, nI_1, if_pos q]
      rfl
    · rw [if_neg (fun e => q (by have := (nI_eq (by omega) (by omega)).mp e; omega)), if_pos gk, ek, nI_1, if_neg q]
      rfl
theorem k_18 {K : Nat} {σ : gj_S} (hR : REL K σ) (c1 c2 c3 c4 c5 : Int32) : ∃ τ, gl_18 c1 c2 c3 c4 c5 σ = some τ ∧ REL (K + 100) τ := by
  obtain ⟨n, r, b0, e0, hS, ⟨hB1, up, par, rk, dp, pr, hT, ht⟩, -⟩ := id hR
  have hn := hS.1
  have hr := hS.2.1
  have hg := rS_g hS
  obtain ⟨P, hPK, hP, hf, hp⟩ := id hB1
  have hL := rel_cL hS hB1 hT ht
  have hend := c8_end hL
  have h0 : smX σ (gj_sI σ 188 (upd (σ.1 188) 0 0)) := smX_t
  have ea := c8_hasDock hg hp.1 c1
  have eb := c8_hasDock hg hp.1 c2
  have ea9 := r9_isDock (smX_S h0 hS) c1
  have eb9 := r9_isDock (smX_S h0 hS) c2
  have h9 := r9_end (smX_S h0 hS) (by rw [smX_s h0]; exact hT)
  rw [smX_s h0] at h9
  cases hia : inR c1 n with
  | false =>
    rw [hia] at ea ea9
    refine rc_S (v := -2147483648) (s1 := σ) ?_ ?_ hR
    · unfold f_X8_unit
      rw [ea]
      rfl
    · unfold f_X9_unit
      exact tp_beq ea9 (tp_t rfl (tp_some ⟨rfl, frK_X h0⟩))
  | true =>
    rw [hia] at ea ea9
    cases hib : inR c2 n with
    | false =>
      rw [hib] at eb eb9
      refine rc_S (v := -2147483648) (s1 := σ) ?_ ?_ hR
      · unfold f_X8_unit
        rw [ea]
        dsimp only [Option.bind_some]
        rw [if_neg (show ¬ bI true = 0 by decide), eb]
        rfl
      · unfold f_X9_unit
        exact tp_beq ea9 (tp_f (by decide) (tp_beq eb9 (tp_t rfl (tp_some ⟨rfl, frK_X h0⟩))))
    | true =>
      rw [hib] at eb eb9
      obtain ⟨a, ha, rfl⟩ := inR_of hia
      obtain ⟨b, hb, rfl⟩ := inR_of hib
      by_cases qe : ct (vG r b0 e0 (σ.1 198) pr) (r + n) = 0
      · rw [if_pos qe] at hend
        have hu := uP_end hg hT hP.2.2.2.2.2.1 hP.2.1 hf qe ha
        have hI0 : Iv (fun d => if d < n then (pr d).toInt - (pr a).toInt else 0) a 0 (D0 a) := by
          have ez : (0 : Int32).toInt = 0 := by decide
          refine ⟨fun d v e => ?_, 0, if_pos rfl, by decide⟩
          unfold D0 at e
          by_cases q : d = a
          · rw [if_pos q] at e
            obtain rfl := Option.some.inj e
            dsimp only
            rw [q, if_pos ha, ez]
            omega
          · rw [if_neg q] at e
            cases e
        obtain ⟨D, hD⟩ : ∃ D, D = itF (fun _ D => itF (stp b0 e0 (σ.1 198)) r D) n (D0 a) := ⟨_, rfl⟩
        have hID := Iv_rd hu hr hI0 n (by omega)
        rw [← hD] at hID
        -- the reference, at any state that shows the same
        have ref : ∀ x8 : gj_S, smC 167 167 σ x8 → TP (f_X9_unit (nI a) (nI b) x8) (fun x => x.1 = (match D b with | none => -2147483648 | some v => v) ∧ frK σ x.2) := by
          intro x8 s8
          have h08 : smX x8 (gj_sI x8 188 (upd (x8.1 188) 0 0)) := smX_t
          have hS8 : rS n r b0 e0 x8 := smC_S s8 (.inr (by omega)) hS
          have e198 : x8.1 198 = σ.1 198 := s8.1 198 (by omega)
          have a9 := r9_isDock (smX_S h08 hS8) (nI a)
          have b9 := r9_isDock (smX_S h08 hS8) (nI b)
          have h98 := r9_end (smX_S h08 hS8) (by rw [smX_s h08, e198]; exact hT)
          rw [smX_s h08, e198, if_pos qe] at h98
          rw [hia] at a9
          rw [hib] at b9
          unfold f_X9_unit
          refine tp_beq a9 (tp_f (by decide) (tp_beq b9 (tp_f (by decide) (tp_bind h98 (fun x3 hx3 => ?_)))))
          obtain ⟨x1, s3, -⟩ := hx3
          have hX : smX x8 x3.2 := smX_tr h08 (smX_9 s3)
          refine tp_f (by rw [x1]; decide) (tp_bind (r9_34 (show a < 8 by omega)) (fun z4 hz4 => ?_))
          have hS4 := smC_S hz4.1 (.inl (by omega)) (smX_S hX hS8)
          have es4 : z4.1 198 = σ.1 198 := by rw [hz4.1.1 198 (by omega), smX_s hX, e198]
          refine tp_bind (r9_rds hS4 es4 hf hu hI0 hz4.2) (fun z5 hz5 => ?_)
          obtain ⟨s5, d5⟩ := hz5
          rw [← hD] at d5
          have gb : gj_in (nI b) 8 := gi (by omega) (by omega)
          have fr : frK σ z5 := frK_tr (frK_C s8 (fun k k1 k2 => by unfold relC; omega)) (frK_tr (frK_X hX) (frK_C (smC_tr hz4.1 s5) (fun k k1 k2 => by unfold relC; omega)))
          simp only [nI_clamp (show b < 2 ^ 31 by omega), d5 b (by omega)]
          refine tp_t gb ?_
          cases hv : D b with
          | none =>
            refine tp_t (by unfold eD; rw [hv]; rfl) (tp_some ⟨rfl, fr⟩)
          | some v =>
            have hvb := (hID.1 b v hv).2
            have e1 : eD 1000000000 D b = v := by unfold eD; rw [hv]; rfl
            have eM : (1000000000 : Int32).toInt = 1000000000 := by decide
            rw [e1]
            refine tp_f (fun e => ?_) (tp_t gb (tp_some ⟨rfl, fr⟩))
            rw [e, eM] at hvb
            omega
        by_cases hab : a = b
        · subst hab
          obtain ⟨v, hv, hv0⟩ := hID.2
          have hv1 := (hID.1 a v hv).1
          dsimp only at hv1
          rw [if_pos ha] at hv1
          have ez : (0 : Int32).toInt = 0 := by decide
          have hvz : v = 0 := Int32.toInt_inj.mp (by rw [ez]; omega)
          refine rc_S (v := 0) (s1 := σ) ?_ ?_ hR
          · unfold f_X8_unit
            rw [ea]
            dsimp only [Option.bind_some]
            rw [if_neg (show ¬ bI true = 0 by decide), if_neg (show ¬ bI true = 0 by decide), hend]
            dsimp only [Option.bind_some]
            rw [if_neg (show ¬ (1 : Int32) = 0 by decide), if_pos rfl]
          · refine tp_mono (ref σ smC_rf) (fun x hx => ?_)
            rw [hv] at hx
            exact ⟨hx.1.trans hvz, hx.2⟩
        · have cls : TP (f_X6_findLeast (nI a) (nI b) σ) (fun x => x.1 = (match D b with | none => -2147483648 | some v => v) ∧ smC 167 167 σ x.2) := by
            unfold f_X6_findLeast
            refine tp_bind (c8_l3 (show a < 8 by omega)) (fun z1 hz1 => ?_)
            refine tp_bind (c8_rds hg (smC_pm hz1.1 (.inl (by omega)) hp.1) hf hu hI0 hz1.2) (fun z2 hz2 => ?_)
            obtain ⟨s2, d2⟩ := hz2
            rw [← hD] at d2
            have gb : gj_in (nI b) 8 := gi (by omega) (by omega)
            simp only [nI_clamp (show b < 2 ^ 31 by omega), d2 b (by omega)]
            refine tp_t gb ?_
            have fr := smC_tr hz1.1 s2
            cases hv : D b with
            | none =>
              refine tp_t (by unfold eD; rw [hv]; rfl) (tp_some ⟨rfl, fr⟩)
            | some v =>
              have hvb := (hID.1 b v hv).2
              have e1 : eD 2147483647 D b = v := by unfold eD; rw [hv]; rfl
              have eM : (2147483647 : Int32).toInt = 2147483647 := by decide
              rw [e1]
              refine tp_f (fun e => ?_) (tp_t gb (tp_some ⟨rfl, fr⟩))
              rw [e, eM] at hvb
              omega
          obtain ⟨⟨v8, x8⟩, e8, v1, s8⟩ := cls
          refine rc_S (v := v8) (s1 := x8) ?_ ?_ hR
          · unfold f_X8_unit
            rw [ea]
            dsimp only [Option.bind_some]
            rw [if_neg (show ¬ bI true = 0 by decide), eb]
            dsimp only [Option.bind_some]
            rw [if_neg (show ¬ bI true = 0 by decide), hend]
            dsimp only [Option.bind_some]
            rw [if_neg (show ¬ (1 : Int32) = 0 by decide), if_neg (fun e => hab ((nI_eq (by omega) (by omega)).mp e)), e8]
            rfl
          · refine tp_mono (ref x8 s8) (fun x hx => ⟨hx.1.trans v1.symm, hx.2⟩)
      · rw [if_neg qe] at hend h9
        refine rc_S (v := -2147483648) (s1 := σ) ?_ ?_ hR
        · unfold f_X8_unit
          rw [ea]
          dsimp only [Option.bind_some]
          rw [if_neg (show ¬ bI true = 0 by decide), eb]
          dsimp only [Option.bind_some]
          rw [if_neg (show ¬ bI true = 0 by decide), hend]
          rfl
        · unfold f_X9_unit
          refine tp_beq ea9 (tp_f (by decide) (tp_beq eb9 (tp_f (by decide) (tp_bind h9 (fun x3 hx3 => ?_)))))
          obtain ⟨x1, s3, -⟩ := hx3
          exact tp_t x1 (tp_some ⟨rfl, frK_X (smX_tr h0 (smX_9 s3))⟩)
