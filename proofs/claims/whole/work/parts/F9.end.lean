/-! ===== the wall: no trial takes a million pivots ===== -/
theorem zx_toI1 {s : Nat → Int32} {q : Nat} {c : Nat} (h : s q = nI c) (hc : c < 2 ^ 31) : (s q).toNatClampNeg = c := by
  rw [h, nI_clamp hc]
theorem zw_n_Int {f : Nat → Nat} {x : Int} (n : Nat) : zw_s (fun i => x * (f i : Int)) n = x * ((zw_n f n : Nat) : Int) := by
  rw [zw_s_mul, zw_n_s]
theorem no_hit : ¬ hitW := by
  intro h
  obtain ⟨n, r, b0, e0, s1, f, hg, hk, hbg, hch⟩ := zx_hit h
  have hn := hg.1
  have hr := hg.2.1
  obtain ⟨-, hkc, hkh, hkd, z0, hkz⟩ := hk
  have hok0 := hch.1 0 (Nat.zero_le _)
  -- the beginning
  have r0 : ∀ w, w < r → (f 0).1 (50 + w) = 0 ∧ (f 0).1 (74 + w) = 1 ∧ (f 0).1 (24 + w) = s1 (24 + w) := fun w hw => by
    obtain ⟨-, -, -, a, b, c⟩ := bg_r (b0 := b0) (e0 := e0) hr hbg hw
    exact ⟨b, c, a⟩
  have hz0 : ∀ v, v < r → v ≠ z0 → hl (f 0).1 v ≠ 0 := fun v hv hne => by
    obtain ⟨c, c1, c2⟩ := hkh v hv
    have h1 := hkz v hv hne
    unfold hl
    rw [(r0 v hv).2.2, c2, nI_clamp (by omega)]
    intro h
    rw [c2, h] at h1
    exact h1 rfl
  have fl0 : ∀ w, w < r → fl (f 0).1 w = 0 := fun w hw => by
    unfold fl
    rw [(r0 w hw).1]
    decide
  have t0T : ∀ d, d < n → vT (f 0).1 (r + d) := fun d hd => (bg_t (b0 := b0) (e0 := e0) hn hr hbg hd).2.2.2.2
  have fl0t : ∀ d, d < n → fl (f 0).1 (r + d) ≤ 999 := fun d hd => by
    have h4 := (bg_t (b0 := b0) (e0 := e0) hn hr hbg hd).2.2.2.1
    have h5 := hkd d hd
    have e0' : (0 : Int32).toInt = 0 := by decide
    unfold fl
    rw [h4]
    by_cases q : s1 d < 0
    · rw [if_pos q]
      rw [i32_lt_iff, e0'] at q
      have e1 : (0 - s1 d).toInt = - (s1 d).toInt := by
        rw [i32_sub (by rw [e0']; omega) (by rw [e0']; omega), e0']
        omega
      have e2 : (0 - s1 d).toNatClampNeg = (- (s1 d).toInt).toNat := by
        show (0 - s1 d).toInt.toNat = _
        rw [e1]
      rw [e2]
      omega
    · rw [if_neg q]
      have e2 : (s1 d).toNatClampNeg = (s1 d).toInt.toNat := rfl
      rw [e2]
      omega
  -- constants along the run
  have hc := zx_ch_c hch
  have hhl := zx_ch_h hg hch
  have hnet := fun v (hv : v < n) => zx_ch_n hg hch hv
  have h42 : ∀ i, i ≤ 1000000 → ∀ v, v < n → (f i).1 (42 + v) = (f 0).1 (42 + v) := fun i hi v hv => (hc i hi).2 (42 + v) (by omega) (by omega)
  -- the classes
  obtain ⟨Q0, hQ0⟩ := zx_tqe hok0
  obtain ⟨QN, hQN⟩ := zx_tqe (hch.1 1000000 (Nat.le_refl _))
  have hQd : ∀ i, i ≤ 1000000 → ∀ Q', zx_tq n r b0 (f i) Q' → ∀ d, d < n → Q' d = 1 ∨ Q' d = -1 := fun i hi Q' hQ' d hd => by
    have ho := hch.1 i hi
    rcases e : f i with ⟨s, up, par, rk, dp, pr⟩
    rw [e] at ho hQ'
    exact zx_Qd hg ho.2.2.2.1.1.1 hQ' hd
  have hQs : ∀ i, i ≤ 1000000 → ∀ Q', zx_tq n r b0 (f i) Q' → -8 ≤ sZ Q' n ∧ sZ Q' n ≤ 8 := fun i hi Q' hQ' => by
    have h1 := sZ_le (f := Q') (g := fun _ => 1) n (fun d hd => by
      have := hQd i hi Q' hQ' d hd
      try dsimp only
      omega)
    have h2 := sZ_le (f := fun _ => (-1 : Int)) (g := Q') n (fun d hd => by
      have := hQd i hi Q' hQ' d hd
      try dsimp only
      omega)
    rw [sZ_cst] at h1 h2
    omega
  have hL0 : zC (r + n) (zx_ci r) (f 0).1 ≤ 7992 := by
    rw [zx_L]
    have := zw_s_le (f := fun d => (fl (f 0).1 (r + d) : Int)) (g := fun _ => 999) n (fun d hd => by
      have := fl0t d hd
      try dsimp only
      omega)
    rw [zw_s_c] at this
    omega
  have hLn : ∀ i, 0 ≤ zC (r + n) (zx_ci r) (f i).1 := fun i => by
    rw [zx_L]
    exact zw_s_nn n (fun d _ => Int.natCast_nonneg _)
  -- the first phase
  obtain ⟨t, Q, ht, hQ, hno, htb⟩ := zx_tA hg hch hz0 hQ0 hQN (by
    have a := hQs 0 (Nat.zero_le _) Q0 hQ0
    have b := hQs 1000000 (Nat.le_refl _) QN hQN
    have c := hLn 1000000
    unfold zx_pot
    omega)
  have hB := zx_phB hg hch hz0 hQ hno
  have hQ1 := hQd t ht Q hQ
  -- which routes are told
  obtain ⟨inc, hincd⟩ : ∃ inc : Nat → Bool, ∀ w, inc w = (decide (Q (b0 w) = Q (e0 w)) || decide (hl (f 0).1 w = 0)) := ⟨_, fun _ => rfl⟩
  obtain ⟨m, en, ix, m1, m2, m3, m4⟩ := zx_en inc r
  have hinc : ∀ w, (inc w = true ↔ (Q (b0 w) = Q (e0 w) ∨ hl (f 0).1 w = 0)) := fun w => by
    rw [hincd w, Bool.or_eq_true_iff, decide_eq_true_iff, decide_eq_true_iff]
  generalize hp : zw_n (fun w => if inc w = true then 0 else 1) r = p at *
  -- the docks
  have hcode : ∃ code : Nat → Nat, ∀ v, code v = if (f 0).1 (42 + v) = 1 then (if Q v = -1 then 1 else 3) else (if Q v = 1 then 2 else 3) := ⟨_, fun _ => rfl⟩
  obtain ⟨code, hcode⟩ := hcode
  have hc123 : ∀ v, v < n → code v = 1 ∨ code v = 2 ∨ code v = 3 := fun v _ => by
    rw [hcode v]
    split <;> split <;> omega
  -- rows behind the first phase
  have hst : ∀ i, i ≤ 1000000 - t → ∃ (up par rk : Nat → Nat) (lab : Nat → Bool) (X tt : Nat → Int), zw_St m n (fun k => b0 (en k)) (fun k => e0 (en k)) code (fun k => 9 * (hl (f 0).1 (en k) : Int)) (fun v => 9 * zx_nt n r b0 e0 (f 0).1 v + 1 - zw_s (fun w => if inc w = true then 0 else zw_nb b0 e0 v w * (9 * (fl (f t).1 w : Int))) r) up par rk lab X tt ∧ (∀ k, k < m → (zw_h up k n = true ↔ vT (f (t + i)).1 (en k))) ∧ (∀ v, v < n → (up v = m + v ↔ vT (f (t + i)).1 (r + v))) ∧ ∀ k, lab k = decide ((f (t + i)).1 (74 + en k) = 2) := fun i hi => by
    obtain ⟨⟨Q', q1, q2, -⟩, q4⟩ := hB i (by omega)
    have ho := hch.1 (t + i) (by omega)
    have hh := hhl (t + i) (by omega)
    have h4 := h42 (t + i) (by omega)
    have hnt : ∀ v, v < n → zx_nt n r b0 e0 (f (t + i)).1 v = zx_nt n r b0 e0 (f 0).1 v := fun v hv => hnet v hv (t + i) (by omega)
    rcases e : f (t + i) with ⟨s, up, par, rk, dp, pr⟩
    rw [e] at q1 q4 ho hh h4 hnt
    try dsimp only at q4 hh h4 hnt
    have hinc' : ∀ w, w < r → (inc w = true ↔ (Q' (b0 w) = Q' (e0 w) ∨ hl s w = 0)) := fun w hw => by
      obtain ⟨g1, g2, -⟩ := hg.2.2 w hw
      rw [hinc w, q2 _ g1, q2 _ g2, hh w hw]
    have hC := ho.2.2.2.1.1.1
    obtain ⟨x1, x2⟩ := zx_treeh hg hC q1 hinc' m2 m3
    refine ⟨_, _, _, _, _, _, zx_toSt hg ho q1 hinc' m2 m3 m4 (fun v hv => ?_) (fun k hk => ?_) (fun v hv => ?_), x1, x2, fun k => rfl⟩
    · rw [hcode v, h4 v hv, q2 v hv]
    · rw [hh _ (m2 k hk).1]
    · rw [zx_Xn hC hv]
      have e1 : zC (r + n) (fun w => zw_nb (vb r b0 s) (ve r e0 s) v w) s = zx_nt n r b0 e0 (f 0).1 v := hnt v hv
      rw [e1]
      congr 1
      refine zw_s_cg r (fun w hw => ?_)
      by_cases q : inc w = true
      · rw [if_pos q, if_pos q]
      · rw [if_neg q, if_neg q]
        have hq : ¬ (Q (b0 w) = Q (e0 w) ∨ hl (f 0).1 w = 0) := fun x => q ((hinc w).mpr x)
        rw [(q4 w hw (fun x => hq (.inl x)) (fun x => hq (.inr x))).2]
  -- as functions of the time
  have hfn : ∃ (up par rk : Nat → Nat → Nat) (lab : Nat → Nat → Bool) (X tt : Nat → Nat → Int), ∀ i, i ≤ 1000000 - t → zw_St m n (fun k => b0 (en k)) (fun k => e0 (en k)) code (fun k => 9 * (hl (f 0).1 (en k) : Int)) (fun v => 9 * zx_nt n r b0 e0 (f 0).1 v + 1 - zw_s (fun w => if inc w = true then 0 else zw_nb b0 e0 v w * (9 * (fl (f t).1 w : Int))) r) (up i) (par i) (rk i) (lab i) (X i) (tt i) ∧ (∀ k, k < m → (zw_h (up i) k n = true ↔ vT (f (t + i)).1 (en k))) ∧ (∀ v, v < n → (up i v = m + v ↔ vT (f (t + i)).1 (r + v))) ∧ ∀ k, lab i k = decide ((f (t + i)).1 (74 + en k) = 2) := by
    have h1 : ∀ i, ∃ z : (Nat → Nat) × (Nat → Nat) × (Nat → Nat) × (Nat → Bool) × (Nat → Int) × (Nat → Int), i ≤ 1000000 - t → zw_St m n (fun k => b0 (en k)) (fun k => e0 (en k)) code (fun k => 9 * (hl (f 0).1 (en k) : Int)) (fun v => 9 * zx_nt n r b0 e0 (f 0).1 v + 1 - zw_s (fun w => if inc w = true then 0 else zw_nb b0 e0 v w * (9 * (fl (f t).1 w : Int))) r) z.1 z.2.1 z.2.2.1 z.2.2.2.1 z.2.2.2.2.1 z.2.2.2.2.2 ∧ (∀ k, k < m → (zw_h z.1 k n = true ↔ vT (f (t + i)).1 (en k))) ∧ (∀ v, v < n → (z.1 v = m + v ↔ vT (f (t + i)).1 (r + v))) ∧ ∀ k, z.2.2.2.1 k = decide ((f (t + i)).1 (74 + en k) = 2) := fun i => by
      by_cases hi : i ≤ 1000000 - t
      · obtain ⟨a, b, c, d, x, y, hh⟩ := hst i hi
        exact ⟨(a, b, c, d, x, y), fun _ => hh⟩
      · exact ⟨(fun _ => 0, fun _ => 0, fun _ => 0, fun _ => true, fun _ => 0, fun _ => 0), fun x => absurd x hi⟩
    exact ⟨fun i => (Classical.choose (h1 i)).1, fun i => (Classical.choose (h1 i)).2.1, fun i => (Classical.choose (h1 i)).2.2.1, fun i => (Classical.choose (h1 i)).2.2.2.1, fun i => (Classical.choose (h1 i)).2.2.2.2.1, fun i => (Classical.choose (h1 i)).2.2.2.2.2, fun i => Classical.choose_spec (h1 i)⟩
  obtain ⟨up, par, rk, lab, X, tt, hS⟩ := hfn
  have hdist : ∀ i j, i < 1000000 - t + 1 → j < 1000000 - t + 1 → (∀ k, k < m → zw_h (up i) k n = zw_h (up j) k n) → (∀ v, v < n → (up i v = m + v ↔ up j v = m + v)) → (∀ k, k < m → zw_h (up i) k n = false → lab i k = lab j k) → i = j := by
    -- labels alike: psi alike
    have key : ∀ i j, i < j → j < 1000000 - t + 1 → (∀ k, k < m → zw_h (up i) k n = zw_h (up j) k n) → (∀ v, v < n → (up i v = m + v ↔ up j v = m + v)) → (∀ k, k < m → zw_h (up i) k n = false → lab i k = lab j k) → False := fun i j hij hj k1 k2 k3 => by
      obtain ⟨-, a1, a2, a3⟩ := hS i (by omega)
      obtain ⟨-, c1, c2, c3⟩ := hS j (by omega)
      have hoi := hch.1 (t + i) (by omega)
      have hoj := hch.1 (t + j) (by omega)
      have hci := hc (t + i) (by omega)
      have hcj := hc (t + j) (by omega)
      obtain ⟨-, p4⟩ := hB i (by omega)
      obtain ⟨-, p5⟩ := hB j (by omega)
      have hni : ∀ v, v < n → zx_nt n r b0 e0 (f (t + j)).1 v = zx_nt n r b0 e0 (f (t + i)).1 v := fun v hv => (hnet v hv (t + j) (by omega)).trans (hnet v hv (t + i) (by omega)).symm
      have hps := zx_ch_psi hch (t + i) (j - i) (by omega)
      rw [show t + i + (j - i) = t + j by omega] at hps
      rcases ei : f (t + i) with ⟨s, upi, pari, rki, dpi, pri⟩
      rcases ej : f (t + j) with ⟨s', upj, parj, rkj, dpj, prj⟩
      rw [ei] at hoi hci p4 a1 a2 a3 hps hni
      rw [ej] at hoj hcj p5 c1 c2 c3 hps hni
      try dsimp only at hci hcj p4 p5 a1 a2 a3 c1 c2 c3 hni
      have hlab : ∀ w, w < r + n → s' (74 + w) = s (74 + w) := fun w hw => by
        by_cases hwr : w < r
        · by_cases hi : inc w = true
          · obtain ⟨x1, x2⟩ := m3 w hwr hi
            have y1 := a1 _ x1
            have y2 := c1 _ x1
            rw [x2] at y1 y2
            by_cases hT : vT s w
            · have hT' : vT s' w := y2.mp (by rw [← k1 _ x1]; exact y1.mpr hT)
              exact hT'.trans hT.symm
            · have hT' : ¬ vT s' w := fun z => hT (y1.mp (by rw [k1 _ x1]; exact y2.mpr z))
              have h3 := k3 _ x1 (Bool.eq_false_iff.mpr (fun z => hT (y1.mp z)))
              rw [a3, c3, x2] at h3
              rcases zx_l12 hoi.1 hw hT with z | z <;> rcases zx_l12 hoj.1 hw hT' with z' | z'
              · rw [z, z']
              · exact absurd ((of_decide_eq_true (h3.trans (decide_eq_true z'))).symm.trans z) (by decide)
              · exact absurd ((of_decide_eq_true (h3.symm.trans (decide_eq_true z))).symm.trans z') (by decide)
              · rw [z, z']
          · have hq : ¬ (Q (b0 w) = Q (e0 w) ∨ hl (f 0).1 w = 0) := fun x => hi ((hinc w).mpr x)
            have z1 := (p4 w hwr (fun x => hq (.inl x)) (fun x => hq (.inr x))).1
            have z2 := (p5 w hwr (fun x => hq (.inl x)) (fun x => hq (.inr x))).1
            exact z2.trans z1.symm
        · obtain ⟨d, rfl⟩ : ∃ d, w = r + d := ⟨w - r, by omega⟩
          have hd : d < n := by omega
          have y := k2 d hd
          rw [a2 d hd, c2 d hd] at y
          by_cases hT : vT s (r + d)
          · exact (y.mp hT).trans hT.symm
          · have hT' : ¬ vT s' (r + d) := fun z => hT (y.mpr z)
            obtain ⟨_, _, _, _, x5, _⟩ := hoi.2.1.2 d hd
            obtain ⟨_, _, _, _, x6, _⟩ := hoj.2.1.2 d hd
            rcases zx_l12 hoi.1 hw hT with z | z
            · rcases zx_l12 hoj.1 hw hT' with z' | z'
              · rw [z, z']
              · exact absurd z' x6
            · exact absurd z x5
      have := zx_psiq hg hoi hoj (fun q hq => (hcj.1 q hq).trans (hci.1 q hq).symm) (fun q q1 q2 => (hcj.2 q q1 q2).trans (hci.2 q q1 q2).symm) hni hlab
      have hps' : psi n r b0 e0 s' prj + ((j - i : Nat) : Int) ≤ psi n r b0 e0 s pri := hps
      omega
    intro i j hi hj k1 k2 k3
    rcases Nat.lt_trichotomy i j with q | q | q
    · exact (key i j q hj k1 k2 k3).elim
    · exact q
    · refine (key j i q hi (fun k hk => (k1 k hk).symm) (fun v hv => (k2 v hv).symm) (fun k hk x => (k3 k hk (by rw [k1 k hk]; exact x)).symm)).elim
  -- how much the lack and what is stuck have fallen by
  have hot := hch.1 t ht
  have hfall : zC (r + n) (zx_ci r) (f 0).1 - zC (r + n) (zx_ci r) (f t).1 ≤ 1998 * (zw_qn code n : Int) + 1998 * (p : Int) := by
    have h8 : Q 8 = 0 := hQ.1
    rw [zx_L, zx_L, ← zw_s_sub]
    have hv : ∀ v, v < n → (fl (f 0).1 (r + v) : Int) - (fl (f t).1 (r + v) : Int) ≤ - (Q v * zw_s (fun w => zw_nb b0 e0 v w * (fl (f t).1 w : Int)) r) + 1998 * ((if code v = 3 then 1 else 0 : Nat) : Int) := fun v hv => by
      have h1 := zx_ntx (b0 := b0) (e0 := e0) (s := (f 0).1) hg hv
      have h2 := zx_ntx (b0 := b0) (e0 := e0) (s := (f t).1) hg hv
      rw [hnet v hv t ht, h1, h42 t ht v hv] at h2
      have h3 : zw_s (fun w => zw_nb b0 e0 v w * (fl (f 0).1 w : Int)) r = 0 := by
        rw [zw_s_cg (g := fun _ => 0) r (fun w hw => by
          rw [fl0 w hw]
          exact Int.mul_zero _), zw_s_0]
      rw [h3] at h2
      have h5 := fl0t v hv
      have hcv := hcode v
      have hq := hQ1 v hv
      generalize zw_s (fun w => zw_nb b0 e0 v w * (fl (f t).1 w : Int)) r = N at *
      -- a dock whose tender is out for good
      have htight : code v = 3 → fl (f t).1 (r + v) = 0 := fun h3 => by
        rcases e : f t with ⟨s, up', par', rk', dp', pr'⟩
        rw [e] at hot hQ
        have h42' := h42 t ht v hv
        rw [e] at h42'
        try dsimp only at h42'
        refine zx_t0 hot.1 hot.2.1 hv (fun hT => ?_)
        have hh := (zx_tt hg hot.2.2.2.1.1.1 hQ hv hT).2
        rw [h42'] at hh
        rw [h3] at hcv
        by_cases q : (f 0).1 (42 + v) = 1
        · rw [if_pos q] at hh hcv
          rw [if_pos hh] at hcv
          omega
        · rw [if_neg q] at hh hcv
          rw [if_pos hh] at hcv
          omega
      by_cases h3 : code v = 3
      · have ht0 := htight h3
        rw [if_pos h3]
        rw [ht0] at h2 ⊢
        rw [h3] at hcv
        by_cases q : (f 0).1 (42 + v) = 1
        · rw [if_pos q] at h2 hcv
          have : Q v = 1 := by
            rcases hq with x | x
            · exact x
            · rw [if_pos x] at hcv
              omega
          rw [this]
          omega
        · rw [if_neg q] at h2 hcv
          have : Q v = -1 := by
            rcases hq with x | x
            · rw [if_pos x] at hcv
              omega
            · exact x
          rw [this]
          omega
      · rw [if_neg h3]
        by_cases q : (f 0).1 (42 + v) = 1
        · rw [if_pos q] at h2 hcv
          have : Q v = -1 := by
            by_cases x : Q v = -1
            · exact x
            · rw [if_neg x] at hcv
              exact absurd hcv h3
          rw [this]
          omega
        · rw [if_neg q] at h2 hcv
          have : Q v = 1 := by
            by_cases x : Q v = 1
            · exact x
            · rw [if_neg x] at hcv
              exact absurd hcv h3
          rw [this]
          omega
    refine Int.le_trans (zw_s_le n hv) ?_
    rw [zw_s_add, zw_n_Int]
    have e1 : zw_s (fun v => - (Q v * zw_s (fun w => zw_nb b0 e0 v w * (fl (f t).1 w : Int)) r)) n = zw_s (fun w => - ((Q (b0 w) - Q (e0 w)) * (fl (f t).1 w : Int))) r := by
      have e2 : zw_s (fun v => - (Q v * zw_s (fun w => zw_nb b0 e0 v w * (fl (f t).1 w : Int)) r)) n = zw_s (fun v => zw_s (fun w => -1 * (Q v * zw_nb b0 e0 v w * (fl (f t).1 w : Int))) r) n := zw_s_cg n (fun v _ => by
        rw [zw_s_mul, ← zw_s_mul (x := Q v), Int.neg_mul, Int.one_mul]
        congr 1
        exact zw_s_cg r (fun w _ => (Int.mul_assoc _ _ _).symm))
      rw [e2, zw_s_sw]
      refine zw_s_cg r (fun w hw => ?_)
      obtain ⟨g1, g2, -⟩ := hg.2.2 w hw
      rw [zw_s_mul, ← zx_nsum hn h8 (.inl g1) (.inl g2), Int.neg_mul, Int.one_mul, Int.mul_comm (zw_s _ n), ← zw_s_mul]
      congr 1
      exact zw_s_cg n (fun v _ => Int.mul_comm _ _)
    rw [e1]
    have e3 : zw_s (fun w => - ((Q (b0 w) - Q (e0 w)) * (fl (f t).1 w : Int))) r ≤ 1998 * (p : Int) := by
      rw [← hp, ← zw_n_Int]
      refine zw_s_le r (fun w hw => ?_)
      obtain ⟨g1, g2, -⟩ := hg.2.2 w hw
      have a1 := hQ1 _ g1
      have a2 := hQ1 _ g2
      have hfl := (zx_lab (w := w) (r := r) (n := n) (s := (f t).1) (by
        rcases e : f t with ⟨s, up', par', rk', dp', pr'⟩
        rw [e] at hot
        exact hot.2.1) hw).2.2
      have hh := hhl t ht w hw
      try dsimp only
      by_cases q : inc w = true
      · rw [if_pos q]
        rcases (hinc w).mp q with x | x
        · rw [x, Int.sub_self, Int.zero_mul]
          decide
        · have : fl (f t).1 w = 0 := by omega
          rw [this]
          rw [show ((0 : Nat) : Int) = 0 from rfl, Int.mul_zero]
          decide
      · rw [if_neg q]
        have : (fl (f t).1 w : Int) ≤ 999 := by omega
        have : 0 ≤ (fl (f t).1 w : Int) := Int.natCast_nonneg _
        rcases a1 with x | x <;> rcases a2 with y | y <;> rw [x, y] <;> omega
    have e4 : ((zw_n (fun i => if code i = 3 then 1 else 0) n : Nat) : Int) = (zw_qn code n : Int) := rfl
    omega
  have hgraph : zw_G m n (fun k => b0 (en k)) (fun k => e0 (en k)) := fun k hk => hg.2.2 _ (m2 k hk).1
  -- what is left of all
  by_cases hkk : zw_qn code n + p = 0
  · -- no dock is tight, all routes are told: nothing could be good at the beginning
    have hq3 : ∀ v, v < n → code v ≠ 3 := fun v hv x => by
      have := zw_n_ge1 (f := fun v => if code v = 3 then 1 else 0) n hv
      have e : zw_n (fun v => if code v = 3 then 1 else 0) n = zw_qn code n := rfl
      try dsimp only at this
      rw [if_pos x] at this
      omega
    have hia : ∀ w, w < r → inc w = true := fun w hw => by
      by_cases x : inc w = true
      · exact x
      · have := zw_n_ge1 (f := fun w => if inc w = true then 0 else 1) r hw
        try dsimp only at this
        rw [if_neg x] at this
        omega
    have hQv : ∀ v, v < n → Q v = if (f 0).1 (42 + v) = 1 then -1 else 1 := fun v hv => by
      have hcv := hcode v
      have h3 := hq3 v hv
      by_cases q : (f 0).1 (42 + v) = 1
      · rw [if_pos q] at hcv ⊢
        by_cases x : Q v = -1
        · exact x
        · rw [if_neg x] at hcv
          exact absurd hcv h3
      · rw [if_neg q] at hcv ⊢
        by_cases x : Q v = 1
        · exact x
        · rw [if_neg x] at hcv
          exact absurd hcv h3
    have h8 : Q 8 = 0 := hQ.1
    have hps := zx_ch_psi hch 0 1000000 (by omega)
    have hoN := hch.1 1000000 (Nat.le_refl _)
    have hcN := hc 1000000 (Nat.le_refl _)
    have hnN : ∀ v, v < n → zx_nt n r b0 e0 (f 1000000).1 v = zx_nt n r b0 e0 (f 0).1 v := fun v hv => hnet v hv 1000000 (Nat.le_refl _)
    have hhN := hhl 1000000 (Nat.le_refl _)
    have r0' : ∀ w, w < r → ¬ vT (f 0).1 w ∧ fl (f 0).1 w = 0 := fun w hw => ⟨by
      unfold vT
      rw [(r0 w hw).2.1]
      decide, fl0 w hw⟩
    have hw0 : ∀ w, w < r → Q (b0 w) = Q (e0 w) ∨ hl (f 0).1 w = 0 := fun w hw => (hinc w).mp (hia w hw)
    have e00 : (0 : Nat) + 1000000 = 1000000 := rfl
    rw [e00] at hps
    rcases e0' : f 0 with ⟨s, up', par', rk', dp', pr'⟩
    rcases eN : f 1000000 with ⟨s', up2, par2, rk2, dp2, pr2⟩
    rw [e0'] at hok0 hps hcN hnN hhN r0' hQv hw0
    rw [eN] at hoN hps hcN hnN hhN
    try dsimp only at hcN hnN hhN r0' hQv hw0
    have lo0 := (zx_lo hg hok0 h8 hw0 hQv).2 r0'
    have loN := (zx_lo hg hoN h8 (fun w hw => by rw [hhN w hw]; exact hw0 w hw) (fun v hv => by rw [hcN.2 (42 + v) (by omega) (by omega)]; exact hQv v hv)).1
    have e1 : zw_s (fun v => 10000 * Q v * (9 * zx_nt n r b0 e0 s' v + 1)) n = zw_s (fun v => 10000 * Q v * (9 * zx_nt n r b0 e0 s v + 1)) n := zw_s_cg n (fun v hv => by rw [hnN v hv])
    have hps' : psi n r b0 e0 s' pr2 + ((1000000 : Nat) : Int) ≤ psi n r b0 e0 s pr' := hps
    have h3 : ps2 r b0 e0 s pr' ≤ r := ct_le r
    unfold psi at hps'
    omega
  · have hfin := fun k hk1 hk4 hkq => zw_final (k := k) (N := 1000000 - t + 1) hgraph (show m ≤ 16 by omega) hn hk1 hk4 hkq hc123 (fun i hi => (hS i (by omega)).1) hdist
    have s0 := hQs 0 (Nat.zero_le _) Q0 hQ0
    have s2 := hQs t ht Q hQ
    have hlt := hLn t
    unfold zx_pot at htb
    by_cases h4 : zw_qn code n + p ≤ 4
    · have := hfin (zw_qn code n + p) (by omega) h4 (by omega)
      unfold zw_B at this
      omega
    · have := hfin 4 (by omega) (Nat.le_refl _) (by omega)
      unfold zw_B at this
      omega
