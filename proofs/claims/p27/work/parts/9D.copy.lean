/-! ===== the class: plans copied, begun ===== -/
/-- the plan at a is told as the plan at c was -/
def cpE (a c : Nat) (σ τ : gj_S) : Prop := (∀ j, j < 5 → τ.1 a j = σ.1 c j) ∧ (∀ d, d < 8 → τ.1 (a + 1) d = σ.1 (c + 1) d) ∧ (∀ w, w < 24 → τ.1 (a + 2) w = σ.1 (c + 2) w ∧ τ.1 (a + 3) w = σ.1 (c + 3) w ∧ τ.1 (a + 4) w = σ.1 (c + 4) w ∧ τ.1 (a + 5) w = σ.1 (c + 5) w ∧ τ.1 (a + 6) w = σ.1 (c + 6) w ∧ τ.1 (a + 7) w = σ.1 (c + 7) w) ∧ ∀ q, q < 80 → τ.1 (a + 8) q = σ.1 (c + 8) q
theorem cpy_lt {α : Type} {f g : Nat → α} {n k : Nat} (h : k < n) : va_cpy f g 0 0 n k = f k := by
  unfold va_cpy
  rw [if_pos (by omega)]
  congr 1
  omega
set_option maxHeartbeats 4000000 in
theorem c8_copy {a c : Nat} {σ : gj_S} (h : a + 8 < c ∨ c + 8 < a) : TP (f_X1_copyFrom a c σ) (fun τ => smC a (a + 8) σ τ ∧ cpE a c σ τ) := by
  unfold f_X1_copyFrom
  simp only [show Int32.toNatClampNeg (8 : Int32) = 8 by decide, show Int32.toNatClampNeg (24 : Int32) = 24 by decide, show Int32.toNatClampNeg (80 : Int32) = 80 by decide]
  have n0 : c ≠ a := by omega
  have f0 : ∀ (f : Nat → Int32) (j : Nat) (x : Int32), upd f j x j = x := fun f j x => if_pos rfl
  have f1 : ∀ (f : Nat → Int32) (j k : Nat) (x : Int32), k ≠ j → upd f j x k = f k := fun f j k x h => if_neg h
  -- the five numbers
  refine tp_bind (P := fun τ => smC a a σ τ ∧ τ.1 a 0 = σ.1 c 0 ∧ τ.1 a 1 = σ.1 c 1 ∧ τ.1 a 2 = σ.1 c 2) (tp_some ⟨smC_I (by omega) (by omega) (smC_I (by omega) (by omega) (smC_I (by omega) (by omega) smC_rf)), ?_, ?_, ?_⟩) (fun s1 h1 => ?_)
  · rw [sI_eq, f1 _ _ _ _ (by decide), sI_eq, f1 _ _ _ _ (by decide), sI_eq, f0]
  · rw [sI_eq, f1 _ _ _ _ (by decide), sI_eq, f0, sI_ne n0]
  · rw [sI_eq, f0, sI_ne n0, sI_ne n0]
  obtain ⟨a1, a2, a3, a4⟩ := h1
  refine tp_bind (P := fun τ => smC a a σ τ ∧ ∀ j, j < 5 → τ.1 a j = σ.1 c j) (tp_some ⟨smC_I (by omega) (by omega) (smC_I (by omega) (by omega) a1), fun j hj => ?_⟩) (fun s2 h2 => ?_)
  · have ec : s1.1 c = σ.1 c := a1.1 c (by omega)
    rw [sI_eq, sI_ne n0, sI_eq, ec]
    show (if j = 4 then σ.1 c 4 else if j = 3 then σ.1 c 3 else s1.1 a j) = _
    rcases (show j = 0 ∨ j = 1 ∨ j = 2 ∨ j = 3 ∨ j = 4 by omega) with rfl | rfl | rfl | rfl | rfl
    · exact a2
    · exact a3
    · exact a4
    · rfl
    · rfl
  obtain ⟨b1, b2⟩ := h2
  have ec2 : ∀ k, k ≠ a → s2.1 k = σ.1 k := fun k hk => b1.1 k (by omega)
  refine tp_bind (P := fun τ => smC a (a + 2) σ τ ∧ (∀ j, j < 5 → τ.1 a j = σ.1 c j) ∧ (∀ d, d < 8 → τ.1 (a + 1) d = σ.1 (c + 1) d) ∧ ∀ w, w < 24 → τ.1 (a + 2) w = σ.1 (c + 2) w) (tp_some ⟨smC_I (by omega) (by omega) (smC_I (by omega) (by omega) (smC_wd (by omega) (by omega) b1)), fun j hj => ?_, fun d hd => ?_, fun w hw => ?_⟩) (fun s3 h3 => ?_)
  · rw [sI_ne (by omega), sI_ne (by omega)]
    exact b2 j hj
  · rw [sI_ne (by omega), sI_eq, cpy_lt hd, ec2 _ (by omega)]
  · rw [sI_eq, cpy_lt hw, sI_ne (by omega), ec2 _ (by omega)]
  obtain ⟨c1, c2, c3, c4⟩ := h3
  refine tp_bind (P := fun τ => smC a (a + 4) σ τ ∧ (∀ j, j < 5 → τ.1 a j = σ.1 c j) ∧ (∀ d, d < 8 → τ.1 (a + 1) d = σ.1 (c + 1) d) ∧ ∀ w, w < 24 → τ.1 (a + 2) w = σ.1 (c + 2) w ∧ τ.1 (a + 3) w = σ.1 (c + 3) w ∧ τ.1 (a + 4) w = σ.1 (c + 4) w) (tp_some ⟨smC_I (by omega) (by omega) (smC_I (by omega) (by omega) (smC_wd (by omega) (by omega) c1)), fun j hj => ?_, fun d hd => ?_, fun w hw => ⟨?_, ?_, ?_⟩⟩) (fun s4 h4 => ?_)
  · rw [sI_ne (by omega), sI_ne (by omega)]
    exact c2 j hj
  · rw [sI_ne (by omega), sI_ne (by omega)]
    exact c3 d hd
  · rw [sI_ne (by omega), sI_ne (by omega)]
    exact c4 w hw
  · rw [sI_ne (by omega), sI_eq, cpy_lt hw, c1.1 _ (by omega)]
  · rw [sI_eq, cpy_lt hw, sI_ne (by omega), c1.1 _ (by omega)]
  obtain ⟨d1, d2, d3, d4⟩ := h4
  refine tp_bind (P := fun τ => smC a (a + 6) σ τ ∧ (∀ j, j < 5 → τ.1 a j = σ.1 c j) ∧ (∀ d, d < 8 → τ.1 (a + 1) d = σ.1 (c + 1) d) ∧ ∀ w, w < 24 → τ.1 (a + 2) w = σ.1 (c + 2) w ∧ τ.1 (a + 3) w = σ.1 (c + 3) w ∧ τ.1 (a + 4) w = σ.1 (c + 4) w ∧ τ.1 (a + 5) w = σ.1 (c + 5) w ∧ τ.1 (a + 6) w = σ.1 (c + 6) w) (tp_some ⟨smC_I (by omega) (by omega) (smC_I (by omega) (by omega) (smC_wd (by omega) (by omega) d1)), fun j hj => ?_, fun d hd => ?_, fun w hw => ⟨?_, ?_, ?_, ?_, ?_⟩⟩) (fun s5 h5 => ?_)
  · rw [sI_ne (by omega), sI_ne (by omega)]
    exact d2 j hj
  · rw [sI_ne (by omega), sI_ne (by omega)]
    exact d3 d hd
  · rw [sI_ne (by omega), sI_ne (by omega)]
    exact (d4 w hw).1
  · rw [sI_ne (by omega), sI_ne (by omega)]
    exact (d4 w hw).2.1
  · rw [sI_ne (by omega), sI_ne (by omega)]
    exact (d4 w hw).2.2
  · rw [sI_ne (by omega), sI_eq, cpy_lt hw, d1.1 _ (by omega)]
  · rw [sI_eq, cpy_lt hw, sI_ne (by omega), d1.1 _ (by omega)]
  obtain ⟨g1, g2, g3, g4⟩ := h5
  refine tp_bind (P := fun τ => smC a (a + 8) σ τ ∧ cpE a c σ τ) (tp_some ⟨smC_I (by omega) (by omega) (smC_I (by omega) (by omega) (smC_wd (by omega) (by omega) g1)), fun j hj => ?_, fun d hd => ?_, fun w hw => ?_, fun q hq => ?_⟩) (fun s6 h6 => tp_some h6)
  · rw [sI_ne (by omega), sI_ne (by omega)]
    exact g2 j hj
  · rw [sI_ne (by omega), sI_ne (by omega)]
    exact g3 d hd
  · obtain ⟨w2, w3, w4, w5, w6⟩ := g4 w hw
    refine ⟨?_, ?_, ?_, ?_, ?_, ?_⟩
    · rw [sI_ne (by omega), sI_ne (by omega)]; exact w2
    · rw [sI_ne (by omega), sI_ne (by omega)]; exact w3
    · rw [sI_ne (by omega), sI_ne (by omega)]; exact w4
    · rw [sI_ne (by omega), sI_ne (by omega)]; exact w5
    · rw [sI_ne (by omega), sI_ne (by omega)]; exact w6
    · rw [sI_ne (by omega), sI_eq, cpy_lt hw, g1.1 _ (by omega)]
  · rw [sI_eq, cpy_lt hq, sI_ne (by omega), g1.1 _ (by omega)]
/-- log of a plan against a row -/
def lgM (P : Nat) (s : Nat → Int32) (b : Nat) (σ : gj_S) : Prop := σ.1 b 4 = nI P ∧ s 98 = nI P ∧ s 99 = nI (min P 16) ∧ ∀ g, g < min P 16 → ∀ p, p < 5 → σ.1 (b + 8) (5 * ((P - 1 - g) % 16) + p) = s (100 + 5 * g + p)
/-- a plan against a row, all of it -/
def pl (n r : Nat) (b0 e0 : Nat → Nat) (P : Nat) (s : Nat → Int32) (b : Nat) (σ : gj_S) : Prop := pm n r b0 e0 s b σ ∧ lgM P s b σ
theorem cp_pl {n r P a c : Nat} {b0 e0 : Nat → Nat} {s : Nat → Int32} {σ τ : gj_S} (hg : gS n r b0 e0) (hc : cpE a c σ τ) (h : pl n r b0 e0 P s c σ) : pl n r b0 e0 P s a τ := by
  have hn := hg.1
  have hr := hg.2.1
  obtain ⟨c1, c2, c3, c4⟩ := hc
  obtain ⟨⟨m1, m2, m3, m4, m5, m6⟩, l1, l2, l3, l4⟩ := h
  refine ⟨⟨(c1 0 (by omega)).trans m1, (c1 1 (by omega)).trans m2, (c1 2 (by omega)).trans m3, (c1 3 (by omega)).trans m4, fun d hd => (c2 d (by omega)).trans (m5 d hd), fun w hw => ?_⟩, (c1 4 (by omega)).trans l1, l2, l3, fun g hg p hp => ?_⟩
  · obtain ⟨k2, k3, k4, k5, k6, k7⟩ := c3 w (by omega)
    obtain ⟨q1, q2, q3, q4, q5, q6⟩ := m6 w hw
    exact ⟨k2.trans q1, k3.trans q2, k4.trans q3, k5.trans q4, k6.trans q5, k7.trans q6⟩
  · have : (P - 1 - g) % 16 < 16 := Nat.mod_lt _ (by omega)
    exact (c4 _ (by omega)).trans (l4 g hg p hp)
theorem pl_fr {n r P a : Nat} {b0 e0 : Nat → Nat} {s : Nat → Int32} {σ τ : gj_S} (h : pl n r b0 e0 P s a σ) (hs : ∀ k, a ≤ k → k ≤ a + 8 → τ.1 k = σ.1 k) : pl n r b0 e0 P s a τ := by
  unfold pl pm lgM at h ⊢
  rw [hs a (by omega) (by omega), hs (a + 1) (by omega) (by omega), hs (a + 2) (by omega) (by omega), hs (a + 3) (by omega) (by omega), hs (a + 4) (by omega) (by omega), hs (a + 5) (by omega) (by omega), hs (a + 6) (by omega) (by omega), hs (a + 7) (by omega) (by omega), hs (a + 8) (by omega) (by omega)]
  exact h
/-- rows alike: the plan tells both -/
theorem pl_rw {n r P a : Nat} {b0 e0 : Nat → Nat} {s s' : Nat → Int32} {σ : gj_S} (hg : gS n r b0 e0) (hq : rwQ s s') (h : pl n r b0 e0 P s a σ) : pl n r b0 e0 P s' a σ := by
  have hn := hg.1
  have hr := hg.2.1
  obtain ⟨σr, hSr⟩ := gS_r hg
  have hE : rwE s s' := ⟨fun q _ _ => hq q (by omega), fun q _ _ => hq q (by omega)⟩
  obtain ⟨⟨m1, m2, m3, m4, m5, m6⟩, l1, l2, l3, l4⟩ := h
  refine ⟨⟨m1, m2, by rw [hq 40 (by omega)]; exact m3, by rw [hq 41 (by omega)]; exact m4, fun d hd => by rw [hq d (by omega)]; exact m5 d hd, fun w hw => ?_⟩, l1, by rw [hq 98 (by omega)]; exact l2, by rw [hq 99 (by omega)]; exact l3, fun g hg p hp => ?_⟩
  · obtain ⟨q1, q2, q3, q4, q5, q6⟩ := m6 w hw
    rw [(rwE_b hSr hE hw).1, (rwE_b hSr hE hw).2.1, (rwE_b hSr hE hw).2.2, hq (50 + w) (by omega), hq (74 + w) (by omega)]
    refine ⟨q1, q2, q3, ?_, q5, q6⟩
    rw [q4]
    by_cases q : w < r
    · rw [if_pos q, if_pos q, hq _ (by omega)]
    · rw [if_neg q, if_neg q]
  · rw [hq _ (by have : min P 16 ≤ 16 := Nat.min_le_right _ _; omega)]
    exact l4 g hg p hp
/-- the log behind a pivot -/
theorem lg_pv {n r P b : Nat} {b0 e0 : Nat → Nat} {s s' : Nat → Int32} {up par : Nat → Nat} {pr pr2 : Nat → Int32} {a w i j lv : Nat} {σ τ : gj_S} (hPb : P < 2 ^ 30) (h : lgM P s b σ) (hR : pvR n r b0 e0 s up par pr pr2 a w i j lv s') (h4 : τ.1 b 4 = nI (P + 1)) (h5 : ∀ p, p < 5 → τ.1 (b + 8) (5 * (P % 16) + p) = s' (100 + p)) (h6 : ∀ k, (∀ p, p < 5 → k ≠ 5 * (P % 16) + p) → τ.1 (b + 8) k = σ.1 (b + 8) k) : lgM (P + 1) s' b τ := by
  obtain ⟨l1, l2, l3, l4⟩ := h
  obtain ⟨-, -, -, -, -, -, k7, k8, -, -, -, -, -, k14⟩ := hR
  refine ⟨h4, by rw [k7, l2, nI_1], ?_, fun g hg p hp => ?_⟩
  · rw [k8, l3]
    by_cases q : 16 ≤ P
    · rw [Nat.min_eq_right q, Nat.min_eq_right (by omega)]
      rfl
    · rw [Nat.min_eq_left (by omega), Nat.min_eq_left (by omega), show (16 : Int32) = nI 16 from rfl, if_neg (nI_ge (by omega) (by omega)), nI_1]
  · have hg16 : g < 16 := by have : min (P + 1) 16 ≤ 16 := Nat.min_le_right _ _; omega
    have hgP : g < P + 1 := by have : min (P + 1) 16 ≤ P + 1 := Nat.min_le_left _ _; omega
    cases g with
    | zero =>
      rw [show P + 1 - 1 - 0 = P by omega, show 100 + 5 * 0 + p = 100 + p by omega]
      exact h5 p hp
    | succ g =>
      have e1 : P + 1 - 1 - (g + 1) = P - 1 - g := by omega
      have hne : (P - 1 - g) % 16 ≠ P % 16 := by omega
      rw [e1, h6 _ (fun p' hp' => by omega), k14 _ (by omega) (by omega), show 100 + 5 * (g + 1) + p - 5 = 100 + 5 * g + p by omega]
      exact l4 g (by rw [Nat.lt_min]; omega) p hp
