/-! ===== text: the class; call text ===== -/
theorem c8_readN {y : Nat → Int32} {N : Nat} {σ : gj_S} (hN : N ≤ 600) (hy : ∀ i, i < N → σ.1 1 i = y i) : TP (f_X2_readText (nI N) σ) (fun x => match lns y N (N + 1) A0 0 with | .inl F => F ≤ 8 * N + 5 ∧ x.1 = nI F ∧ FR8 σ x.2 | .inr B => x.1 = -1 ∧ P8 B x.2 ∧ WF B ∧ FR8 σ x.2) := by
  unfold f_X2_readText
  rw [if_neg (show ¬ (600 : Int32) < nI N by rw [i32_lt_iff, nI_toInt (by omega), show (600 : Int32).toInt = 600 by decide]; omega)]
  refine tp_beq rfl ?_
  generalize hs0 : gj_sI (gj_sI (gj_sT σ 1) 2 (upd ((gj_sT σ 1).1 2) 6 (nI N))) 2 (upd ((gj_sI (gj_sT σ 1) 2 (upd ((gj_sT σ 1).1 2) 6 (nI N))).1 2) 5 0) = sA
  have A1 : ∀ c, c ≠ 2 → sA.1 c = σ.1 c := fun c hc => by
    rw [← hs0, sI_ne hc, sI_ne hc]
    rfl
  have A2 : sA.1 2 6 = nI N ∧ sA.1 2 5 = 0 := by
    rw [← hs0, sI_eq, up_ne (by decide), up_eq, sI_eq, up_eq]
    exact ⟨rfl, rfl⟩
  have A3 : sA.2.1 = σ.2.1 := by rw [← hs0]; rfl
  have A4 : sA.2.2 = 1 := by rw [← hs0]; rfl
  clear hs0
  generalize hs1 : gj_sI (gj_sI sA 2 (upd (sA.1 2) 4 (-1))) 2 (upd ((gj_sI sA 2 (upd (sA.1 2) 4 (-1))).1 2) 3 0) = sB
  have B1 : ∀ c, c ≠ 2 → sB.1 c = σ.1 c := fun c hc => by rw [← hs1, sI_ne hc, sI_ne hc, A1 c hc]
  have B2 : sB.1 2 6 = nI N ∧ sB.1 2 5 = 0 ∧ sB.1 2 3 = 0 := by
    rw [← hs1, sI_eq, up_ne (by decide), up_ne (by decide), up_eq, sI_eq, up_ne (by decide), up_ne (by decide)]
    exact ⟨A2.1, A2.2, rfl⟩
  have B3 : sB.2.1 = σ.2.1 := by rw [← hs1]; exact A3
  have B4 : sB.2.2 = 1 := by rw [← hs1]; exact A4
  clear hs1 A1 A2 A3 A4
  unfold f_X1_tellNothing
  refine tp_bind (tp_beq rfl (tp_some (P := fun s : gj_S => (∀ c, c ≠ 2 → c ≠ 3 → s.1 c = σ.1 c) ∧ s.1 2 = sB.1 2 ∧ s.1 3 0 = 0 ∧ s.1 3 1 = 0 ∧ s.1 3 2 = 4 ∧ s.2 = sB.2) ⟨fun c a b => by rw [sI_ne b, sI_ne b, sI_ne b, B1 c a], by rw [sI_ne (by decide), sI_ne (by decide), sI_ne (by decide)], by rw [sI_eq, up_ne (by decide), sI_eq, up_ne (by decide), sI_eq, up_eq], by rw [sI_eq, up_ne (by decide), sI_eq, up_eq], by rw [sI_eq, up_eq], rfl⟩)) (fun s hs => ?_)
  obtain ⟨S1, S2, S3, S4, S5, S6⟩ := hs
  have hr : rd8 y N s := ⟨hN, by rw [S2]; exact B2.1, by rw [S6]; exact B4, fun i hi => by rw [S1 1 (by decide) (by decide)]; exact hy i hi⟩
  have hP : P8 A0 s := ⟨S3, S4, S5, by rw [S2]; exact B2.2.2, fun d hd => absurd hd (Nat.not_lt_zero _), fun d hd => absurd hd (Nat.not_lt_zero _)⟩
  have hF : FR8 σ s := fun c hc => ⟨S1 c (by omega) (by omega), by rw [S6, B3]⟩
  refine tp_bind (c8_tok hr (Nat.zero_le _) (by rw [S2]; exact B2.2.1)) (fun x3 hx3 => ?_)
  obtain ⟨f3, t3⟩ := hx3
  refine tp_bind (c8_lines (N + 1) 0 0 A0 x3 (by omega) (by omega) (Nat.zero_le _) (fT8_rd f3 hr) t3 (P8_T f3 hP) WF_0 5000 (by omega)) (fun y4 hy4 => ?_)
  cases hl : lns y N (N + 1) A0 0 with
  | inl F =>
    rw [hl] at hy4
    obtain ⟨w0, z, rfl, w2⟩ := hy4
    exact tp_some ⟨w0, rfl, FR8_tr hF (FR8_tr (FR8_T f3) w2)⟩
  | inr B =>
    rw [hl] at hy4
    obtain ⟨z, rfl, w2, w3, w4⟩ := hy4
    exact tp_some ⟨rfl, w2, w3, FR8_tr hF (FR8_tr (FR8_T f3) w4)⟩
theorem c8_93 {σ : gj_S} : TP (gj_lp fb_X8_text_l93 5000 (0, σ)) (fun z => (∀ c, c ≠ 165 → z.1 c = σ.1 c) ∧ z.2 = σ.2 ∧ z.1 165 0 = 0 ∧ z.1 165 1 = 0) := by
  refine tp_mono (lp_iv (N := 2) (I := fun k τ => (∀ c, c ≠ 165 → τ.1 c = σ.1 c) ∧ τ.2 = σ.2 ∧ ∀ j, j < k → τ.1 165 j = 0) (by omega) ⟨fun _ _ => rfl, rfl, fun j hj => absurd hj (Nat.not_lt_zero _)⟩ (fun τ _ => ?_) (fun k τ hk hI => ?_)) (fun z hz => ⟨hz.1, hz.2.1, hz.2.2 0 (by omega), hz.2.2 1 (by omega)⟩)
  · unfold fb_X8_text_l93
    exact if_pos (show (2 : Int32) ≤ nI 2 by decide)
  · obtain ⟨i1, i2, i3⟩ := hI
    unfold fb_X8_text_l93
    dsimp only
    simp only [show vp_nar .boolean (0 : Int32) = 0 by decide, nI_clamp (show k < 2 ^ 31 by omega)]
    refine tp_f (nI_ge (b := 2) (by omega) (by omega)) (tp_t (gi (by omega) (by omega)) (tp_some (iv_s ⟨fun c hc => by rw [sI_ne hc]; exact i1 c hc, i2, fun j hj => ?_⟩)))
    rw [sI_eq]
    by_cases q : j = k
    · rw [q, up_eq]
    · rw [up_ne q]
      exact i3 j (by omega)
theorem bg_ex (n r : Nat) (hn : n ≤ 8) (hr : r ≤ 16) (s : Nat → Int32) : ∃ s', bgR n r s s' := by
  obtain ⟨z, -, -, -, h⟩ := r9_begins (n := n) (r := r) (σ := ((fun c j => if c = 190 then nI n else if c = 191 then nI r else s j), (fun _ _ => 0), 0)) hn hr rfl rfl
  exact ⟨_, h⟩
/-- a text with a fault: all but the tape stays -/
theorem REL_tF {K : Nat} {σ τ : gj_S} (h : REL K σ) (h1 : ∀ k, ((17 ≤ k ∧ k ≤ 30) ∨ (54 ≤ k ∧ k ≤ 165) ∨ (170 ≤ k ∧ k ≤ 187) ∨ (198 ≤ k ∧ k ≤ 201)) → τ.1 k = σ.1 k) (h2 : τ.1 190 0 = σ.1 190 0) (h3 : τ.1 191 0 = σ.1 191 0) (h4 : ∀ w, w < 16 → τ.1 194 w = σ.1 194 w ∧ τ.1 195 w = σ.1 195 w) (h5 : τ.1 188 23 = σ.1 188 23) (h6 : τ.2.1 15 = σ.2.1 15) (h7 : ∀ j, j < 24 → τ.2.1 192 j = σ.2.1 192 j) (h8 : τ.1 0 1 = 0) (h9 : τ.1 188 2 = 0) : REL K τ := by
  obtain ⟨n, r, b0, e0, hS, ⟨hB1, up, par, rk, dp, pr, hB2, hB3⟩, ⟨u, nx, u1, u2, u3, u4, u5, u6⟩, hD, hE, hF⟩ := h
  have rc : ∀ k, ((17 ≤ k ∧ k ≤ 30) ∨ (54 ≤ k ∧ k ≤ 165) ∨ (170 ≤ k ∧ k ≤ 187)) → τ.1 k = σ.1 k := fun k hk => h1 k (by omega)
  have e198 : τ.1 198 = σ.1 198 := h1 198 (by omega)
  have hr16 := hS.2.1
  refine ⟨n, r, b0, e0, ?_, ⟨?_, up, par, rk, dp, pr, by rw [e198]; exact hB2, ?_⟩, ⟨u, nx, u1, u2, h5.trans u3, by rw [rc 54 (by omega)]; exact u4, by rw [rc 54 (by omega)]; exact u5, fun g hg => ?_⟩, fun k hk => ?_, ⟨0, by omega, h8, h9, fun q hq => absurd hq (Nat.not_lt_zero _)⟩, fun w hw => ?_⟩
  · refine ⟨hS.1, hS.2.1, h2.trans hS.2.2.1, h3.trans hS.2.2.2.1, fun w hw => ?_⟩
    rw [(h4 w (by omega)).1, (h4 w (by omega)).2]
    exact hS.2.2.2.2 w hw
  · rw [e198]
    exact rw1_fr hB1 (fun k h1 h2 => rc k (by omega))
  · unfold t8 at hB3 ⊢
    rw [rc (26 + 1) (by omega), rc (26 + 2) (by omega), rc (26 + 3) (by omega), rc (26 + 4) (by omega)]
    exact hB3
  · have hm : (nx + 11 - g) % 12 < 12 := Nat.mod_lt _ (by omega)
    have : ur τ (u - 1 - g) = ur σ (u - 1 - g) := by
      unfold ur
      rw [h1 199 (by omega)]
    rw [this]
    exact rw1_fr (u6 g hg) (fun k h1 h2 => rc k (by omega))
  · have : kr τ k = kr σ k := by
      unfold kr
      rw [h1 200 (by omega)]
    rw [this, rc 165 (by omega), h1 201 (by omega)]
    rcases hD k hk with a | ⟨a1, a2, a3⟩
    · exact .inl a
    · exact .inr ⟨a1, a2, rw1_fr a3 (fun k h1 h2 => rc k (by omega))⟩
  · rw [h6, h7 (8 + w) (by omega)]
    exact hF w hw
