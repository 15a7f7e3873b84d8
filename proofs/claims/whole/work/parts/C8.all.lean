/-! ===== the fresh objects; all calls of a script ===== -/
theorem fs_REL {τ9 : gj_S} (h : fs_9 = some τ9) : REL 0 (gj_sJ τ9 211 (fun _ => 0)) := by
  obtain ⟨τ8, h8, -⟩ := fs_mp fs_8t
  have hb : fs_g τ8 = some τ9 := fs_bd h8 h
  have hg : gS 0 0 (fun _ => 0) (fun _ => 0) := ⟨by omega, by omega, fun w hw => absurd hw (Nat.not_lt_zero _)⟩
  -- the class
  have hpm : ∀ s : Nat → Int32, s 40 = 4 → pmR 0 0 (fun _ => 0) (fun _ => 0) s 17 bj_s0 := fun s hs => ⟨by decide, by decide, by rw [hs]; decide, fun d hd => absurd hd (Nat.not_lt_zero _), fun d hd => absurd hd (Nat.not_lt_zero _)⟩
  have hbgP : ∀ s s' : Nat → Int32, s 40 = 4 → bgR 0 0 s s' → rP 0 0 (fun _ => 0) (fun _ => 0) s' ∧ fP 0 0 999 s' := fun s s' hs hbg => bg_P hg hbg ⟨4, by omega, by omega, hs⟩ (fun w hw => absurd hw (Nat.not_lt_zero _)) (fun w hw => absurd hw (Nat.not_lt_zero _)) (fun w hw => absurd hw (Nat.not_lt_zero _))
  obtain ⟨sM, hM⟩ := bg_ex 0 0 (by omega) (by omega) (fun _ => 4)
  obtain ⟨hPM, -⟩ := hbgP _ _ rfl hM
  obtain ⟨upa, para, rka, dpa, pra, hTa⟩ := rP_T hPM
  obtain ⟨x8, e8, s8, -⟩ := c8_all (y := 16) hg (hpm (fun _ => 4) rfl) hM hPM hTa
  have h8' : f_X7_beginAll 16 bj_s0 = some τ8 := h8
  rw [h8'] at e8
  obtain rfl := Option.some.inj e8
  have c8 : ∀ k, (k < 17 ∨ 31 < k) → τ8.1 k = bj_s0.1 k := fun k hk => s8.1 k (by omega)
  -- the reference
  have hb' : f_X9_begins (gj_sI τ8 198 (upd (τ8.1 198) 40 4)) = some τ9 := hb
  obtain ⟨z, ez, z1, z2, z3⟩ := r9_begins (n := 0) (r := 0) (σ := gj_sI τ8 198 (upd (τ8.1 198) 40 4)) (by omega) (by omega) (by rw [sI_ne (by decide), c8 190 (by omega)]; decide) (by rw [sI_ne (by decide), c8 191 (by omega)]; decide)
  rw [hb'] at ez
  obtain rfl := Option.some.inj ez
  rw [sI_eq] at z3
  have c9 : ∀ k, k ≠ 198 → τ9.1 k = τ8.1 k := fun k hk => by rw [z1 k hk, sI_ne hk]
  have c9b : ∀ k, k ≠ 198 → (k < 17 ∨ 31 < k) → τ9.1 k = bj_s0.1 k := fun k hk hk2 => by rw [c9 k hk, c8 k hk2]
  have e40 : upd (τ8.1 198) 40 4 40 = 4 := up_eq
  obtain ⟨hP, hf⟩ := hbgP _ _ e40 z3
  obtain ⟨up, par, rk, dp, pr, hT⟩ := rP_T hP
  obtain ⟨x8', e8', -, g2, g3⟩ := c8_all (y := 16) hg (hpm _ e40) z3 hP hT
  rw [h8'] at e8'
  obtain rfl := Option.some.inj e8'
  refine ⟨0, 0, (fun _ => 0), (fun _ => 0), ⟨by omega, by omega, ?_, ?_, fun w hw => absurd hw (Nat.not_lt_zero _)⟩, ⟨⟨0, ⟨by omega, fun w hw => absurd hw (Nat.not_lt_zero _)⟩, hP, fP_mono hf (by omega), ?_, ?_⟩, up, par, rk, dp, pr, hT, ?_⟩, ⟨0, 0, by omega, by omega, ?_, ?_, ?_, fun g hg => absurd hg (Nat.not_lt_zero _)⟩, fun k hk => .inl ?_, ⟨0, by omega, ?_, ?_, fun q hq => absurd hq (Nat.not_lt_zero _)⟩, fun w hw => absurd hw (Nat.not_lt_zero _)⟩
  · show τ9.1 190 0 = _
    rw [c9b 190 (by omega) (by omega)]
    decide
  · show τ9.1 191 0 = _
    rw [c9b 191 (by omega) (by omega)]
    decide
  · have := g2.2.1
    show pm 0 0 (fun _ => 0) (fun _ => 0) (τ9.1 198) 17 τ9
    unfold pm at this ⊢
    rw [c9 17 (by omega), c9 (17 + 1) (by omega), c9 (17 + 2) (by omega), c9 (17 + 3) (by omega), c9 (17 + 4) (by omega), c9 (17 + 5) (by omega), c9 (17 + 6) (by omega), c9 (17 + 7) (by omega)]
    exact this
  · have := g3
    show lgM 0 (τ9.1 198) 17 τ9
    unfold lgM at this ⊢
    rw [c9 17 (by omega), c9 (17 + 8) (by omega)]
    exact this
  · have := g2.2.2.2.1
    show t8 0 up par dp pr 26 τ9
    unfold t8 at this ⊢
    rw [c9 (26 + 1) (by omega), c9 (26 + 2) (by omega), c9 (26 + 3) (by omega), c9 (26 + 4) (by omega)]
    exact this
  · show τ9.1 188 23 = _
    rw [c9b 188 (by omega) (by omega)]
    decide
  · show τ9.1 54 2 = _
    rw [c9b 54 (by omega) (by omega)]
    decide
  · show τ9.1 54 1 = _
    rw [c9b 54 (by omega) (by omega)]
    decide
  · show τ9.1 165 k = _ ∧ τ9.1 201 k = _
    rw [c9b 165 (by omega) (by omega), c9b 201 (by omega) (by omega)]
    have : k = 0 ∨ k = 1 := by omega
    rcases this with rfl | rfl
    · decide
    · decide
  · show τ9.1 0 1 = _
    rw [c9b 0 (by omega) (by omega)]
    decide
  · show τ9.1 188 2 = _
    rw [c9b 188 (by omega) (by omega)]
    decide
theorem ex_if {c : Prop} [Decidable c] {a b : Option gj_S} {P : gj_S → Prop} (h1 : ∃ τ, a = some τ ∧ P τ) (h2 : ∃ τ, b = some τ ∧ P τ) : ∃ τ, (if c then a else b) = some τ ∧ P τ := by
  by_cases q : c
  · rw [if_pos q]
    exact h1
  · rw [if_neg q]
    exact h2
theorem k_law {K : Nat} {σ : gj_S} (hW : ¬ hitW) (hR : REL K σ) (hK : K ≤ 51200) (c0 c1 c2 c3 c4 c5 : Int32) : ∃ τ, fl_law c0 c1 c2 c3 c4 c5 σ = some τ ∧ REL (K + 100) τ := by
  unfold fl_law
  refine ex_if (k_0 hR c1 c2 c3 c4 c5) ?_
  refine ex_if (k_1 hR c1 c2 c3 c4 c5) ?_
  refine ex_if (k_2 hR c1 c2 c3 c4 c5) ?_
  refine ex_if (k_3 hR c1 c2 c3 c4 c5) ?_
  refine ex_if (k_4 hR c1 c2 c3 c4 c5) ?_
  refine ex_if (k_5 hR c1 c2 c3 c4 c5) ?_
  refine ex_if (k_6 hR c1 c2 c3 c4 c5) ?_
  refine ex_if (k_7 hR hK c1 c2 c3 c4 c5) ?_
  refine ex_if (k_8 hR hK c1 c2 c3 c4 c5) ?_
  refine ex_if (k_9 hR hK c1 c2 c3 c4 c5) ?_
  refine ex_if (k_10 hR hK c1 c2 c3 c4 c5) ?_
  refine ex_if (k_11 hR hK c1 c2 c3 c4 c5) ?_
  refine ex_if (k_12 hR hK c1 c2 c3 c4 c5) ?_
  refine ex_if (k_13 hR c1 c2 c3 c4 c5) ?_
  refine ex_if (k_14 hR c1 c2 c3 c4 c5) ?_
  refine ex_if (k_15 hR hK c1 c2 c3 c4 c5) ?_
  refine ex_if (k_16 hR c1 c2 c3 c4 c5) ?_
  refine ex_if (k_17 hR c1 c2 c3 c4 c5) ?_
  refine ex_if (k_18 hR c1 c2 c3 c4 c5) ?_
  refine ex_if (k_19 hR c1 c2 c3 c4 c5) ?_
  refine ex_if (k_20 hW hR c1 c2 c3 c4 c5) ?_
  refine ex_if (k_21 hR hK c1 c2 c3 c4 c5) ?_
  refine ex_if (k_22 hR c1 c2 c3 c4 c5) ?_
  refine ex_if (k_23 hR c1 c2 c3 c4 c5) ?_
  refine ex_if (k_24 hR c1 c2 c3 c4 c5) ?_
  refine ex_if (k_25 hR c1 c2 c3 c4 c5) ?_
  refine ex_if (k_26 hR c1 c2 c3 c4 c5) ?_
  refine ex_if (k_27 hR c1 c2 c3 c4 c5) ?_
  refine ex_if (k_28 hR c1 c2 c3 c4 c5) ?_
  refine ex_if (k_29 hR c1 c2 c3 c4 c5) ?_
  refine ex_if (k_30 hR hK c1 c2 c3 c4 c5) ?_
  exact ⟨σ, rfl, REL_mono hR (by omega)⟩
theorem k_all (hW : ¬ hitW) {xs : Nat → Int32} : ∀ (m j K : Nat) {σ : gj_S}, REL K σ → K + 100 * m ≤ 51200 → ∃ τ, fl_n xs m j σ = some τ
  | 0, j, K, σ, _, _ => ⟨σ, rfl⟩
  | m + 1, j, K, σ, hR, hK => by
    obtain ⟨τ, e, hR'⟩ := k_law hW hR (by omega) (xs j) (xs (j + 1)) (xs (j + 2)) (xs (j + 3)) (xs (j + 4)) (xs (j + 5))
    obtain ⟨τ', e'⟩ := k_all hW m (j + 6) (K + 100) hR' (by omega)
    refine ⟨τ', ?_⟩
    show (fl_law (xs j) (xs (j + 1)) (xs (j + 2)) (xs (j + 3)) (xs (j + 4)) (xs (j + 5)) σ).bind (fl_n xs m (j + 6)) = some τ'
    rw [e]
    exact e'
/-- all but the wall: no trial hits the class's bound -/
theorem wh_all (hW : ¬ hitW) {L : Nat} {xs : Nat → Int32} (hL : L ≤ 3072) : wh_ok L xs := fs_ok (fun τ9 h => k_all hW (L / 6) 0 0 (fs_REL h) (by omega))
