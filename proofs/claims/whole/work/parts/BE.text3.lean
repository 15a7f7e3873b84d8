/-! ===== text: call text ===== -/
/-- the class's plan behind the reading -/
def tP (B : pA) (b0 e0 : Nat → Nat) (σ s2 : gj_S) : Prop := (∀ s : Nat → Int32, (∀ d, d < B.1.1 → s d = B.2.2.2.1 d) → (∀ w, w < B.1.2 → s (8 + w) = B.2.2.2.2.1 2 w ∧ s (24 + w) = B.2.2.2.2.1 3 w) → s 40 = B.2.2.2.2.2.1 → pmR B.1.1 B.1.2 b0 e0 s 17 s2) ∧ (∀ w, w < B.1.2 → s2.2.1 15 w = pk8 (B.2.2.1 w)) ∧ s2.1 0 1 = 0 ∧ ∀ c, 25 < c → s2.1 c = σ.1 c
def tE (B : pA) (b0 e0 : Nat → Nat) : Prop := ∀ w, w < B.1.2 → nI (b0 w) = B.2.2.2.2.1 0 w ∧ nI (e0 w) = B.2.2.2.2.1 1 w ∧ b0 w < B.1.1 ∧ e0 w < B.1.1 ∧ b0 w ≠ e0 w
theorem tE_ex {B : pA} (hW : WF B) : ∃ b0 e0, tE B b0 e0 := by
  refine ⟨fun w => (B.2.2.2.2.1 0 w).toNatClampNeg, fun w => (B.2.2.2.2.1 1 w).toNatClampNeg, fun w hw => ?_⟩
  have hn := hW.1
  obtain ⟨b, e, c, h, q1, q2, q3, q4, q5, q6, q7, q8⟩ := (hW.2.2.2.1 w hw).2.2
  dsimp only
  rw [q1, q2, nI_clamp (by omega), nI_clamp (by omega)]
  exact ⟨rfl, rfl, q5, q6, q7⟩
theorem c8_textP {N : Nat} {B : pA} {σ : gj_S} {x1 : Int32 × gj_S} {b0 e0 : Nat → Nat} (ex1 : f_X2_readText (nI N) σ = some x1) (v1 : x1.1 = -1) (hP : P8 B x1.2) (hW : WF B) (fr : FR8 σ x1.2) (n1 : ¬ nI N < 0) (n2 : nI N ≤ σ.1 0 1) (hb0 : tE B b0 e0) : ∃ s2, tP B b0 e0 σ s2 ∧ f_X8_text (nI N) σ = ((f_X7_beginAll 16 s2).bind fun x3 => ((f_X0_forget x3).bind fun x4 => ((gj_lp (fb_X8_text_l93) 5000 ((0 : Int32), x4)).bind fun z5 => some ((z5.1 17 0), z5)))) := by
  have hn := hW.1
  have hr := hW.2.1
  obtain ⟨x2, ex2, m2, c1, c2, c3, -⟩ := c8_copy (a := 17) (c := 3) (σ := gj_sI x1.2 0 (upd (x1.2.1 0) 1 0)) (.inr (by omega))
  have x1c : ∀ c, c ≠ 0 → (gj_sI x1.2 0 (upd (x1.2.1 0) 1 0)).1 c = x1.2.1 c := fun c hc => sI_ne hc
  refine ⟨gj_sJ x2 15 (va_cpy (x2.2.1 12) (x2.2.1 15) 0 0 (Int32.toNatClampNeg (16 : Int32))), ⟨fun s h1 h2 h3 => ?_, fun w hw => ?_, ?_, fun c hc => ?_⟩, ?_⟩
  · refine ⟨?_, ?_, ?_, fun d hd => ?_, fun w hw => ?_⟩
    · show x2.1 17 0 = _
      rw [c1 0 (by omega), x1c 3 (by decide)]
      exact hP.1
    · show x2.1 17 1 = _
      rw [c1 1 (by omega), x1c 3 (by decide)]
      exact hP.2.1
    · show x2.1 17 2 = _
      rw [c1 2 (by omega), x1c 3 (by decide), h3]
      exact hP.2.2.1
    · show x2.1 (17 + 1) d = _
      rw [c2 d (by omega), x1c (3 + 1) (by decide), h1 d hd]
      exact (hP.2.2.2.2.1 d hd).2
    · obtain ⟨g1, g2, g3, g4, -, -⟩ := c3 w (by omega)
      have pw := (hP.2.2.2.2.2 w hw).2
      obtain ⟨i1, i2, -⟩ := hb0 w hw
      show x2.1 (17 + 2) w = _ ∧ x2.1 (17 + 3) w = _ ∧ x2.1 (17 + 4) w = _ ∧ x2.1 (17 + 5) w = _
      rw [g1, g2, g3, g4, x1c (3 + 2) (by decide), x1c (3 + 3) (by decide), x1c (3 + 4) (by decide), x1c (3 + 5) (by decide), i1, i2, (h2 w hw).1, (h2 w hw).2]
      exact ⟨pw 0 (by omega), pw 1 (by omega), pw 2 (by omega), pw 3 (by omega)⟩
  · rw [sJ_eq, show Int32.toNatClampNeg (16 : Int32) = 16 by decide, cpy_lt (by omega), m2.2]
    exact (hP.2.2.2.2.2 w hw).1
  · show x2.1 0 1 = 0
    rw [m2.1 0 (by omega), sI_eq, up_eq]
  · show x2.1 c = _
    rw [m2.1 c (by omega), x1c c (by omega), (fr c (by omega)).1]
  · unfold f_X8_text
    rw [if_neg n1, if_pos n2, ex1]
    dsimp only [Option.bind_some]
    rw [if_pos v1, ex2]
    rfl
theorem tB_P {B : pA} {b0 e0 : Nat → Nat} {s s' : Nat → Int32} (hW : WF B) (hb0 : tE B b0 e0) (h1 : ∀ d, d < B.1.1 → s d = B.2.2.2.1 d) (h2 : ∀ w, w < B.1.2 → s (8 + w) = B.2.2.2.2.1 2 w ∧ s (24 + w) = B.2.2.2.2.1 3 w) (h3 : s 40 = B.2.2.2.2.2.1) (hb : bgR B.1.1 B.1.2 s s') : rP B.1.1 B.1.2 b0 e0 s' ∧ fP B.1.1 B.1.2 999 s' := by
  refine bg_P ⟨hW.1, hW.2.1, fun w hw => (hb0 w hw).2.2⟩ hb (by rw [h3]; exact hW.2.2.2.2) (fun w hw => ?_) (fun w hw => ?_) (fun d hd => ?_)
  · obtain ⟨b, e, c, h, q1, q2, q3, q4, q5, q6, q7, q8, -⟩ := (hW.2.2.2.1 w hw).2.2
    exact ⟨c, q8, by rw [(h2 w hw).1, q3]⟩
  · obtain ⟨b, e, c, h, q1, q2, q3, q4, q5, q6, q7, q8, q9, q10⟩ := (hW.2.2.2.1 w hw).2.2
    exact ⟨h, q10, by rw [(h2 w hw).2, q4]⟩
  · rw [h1 d hd]
    exact (hW.2.2.1 d hd).2.2
/-- the class's row to begin with -/
theorem tM_ex (B : pA) (hn : B.1.1 ≤ 8) (hr : B.1.2 ≤ 16) : ∃ s : Nat → Int32, (∀ d, d < B.1.1 → s d = B.2.2.2.1 d) ∧ (∀ w, w < B.1.2 → s (8 + w) = B.2.2.2.2.1 2 w ∧ s (24 + w) = B.2.2.2.2.1 3 w) ∧ s 40 = B.2.2.2.2.2.1 := by
  refine ⟨fun q => if q < 8 then B.2.2.2.1 q else if q < 24 then B.2.2.2.2.1 2 (q - 8) else if q < 40 then B.2.2.2.2.1 3 (q - 24) else B.2.2.2.2.2.1, fun d hd => ?_, fun w hw => ⟨?_, ?_⟩, ?_⟩
  · exact if_pos (by omega)
  · dsimp only
    rw [if_neg (by omega), if_pos (by omega), show 8 + w - 8 = w by omega]
  · dsimp only
    rw [if_neg (by omega), if_neg (by omega), if_pos (by omega), show 24 + w - 24 = w by omega]
  · dsimp only
    rw [if_neg (by omega), if_neg (by omega), if_neg (by omega)]
theorem k_1S {K N nx : Nat} {B : pA} {σ s2 : gj_S} {b0 e0 : Nat → Nat} (hW : WF B) (hb0 : tE B b0 e0) (hp : tP B b0 e0 σ s2) (e8 : f_X8_text (nI N) σ = ((f_X7_beginAll 16 s2).bind fun x3 => ((f_X0_forget x3).bind fun x4 => ((gj_lp (fb_X8_text_l93) 5000 ((0 : Int32), x4)).bind fun z5 => some ((z5.1 17 0), z5))))) (u2 : nx < 12) (u5 : σ.1 54 1 = nI nx) (r9 : ∀ s : gj_S, (∀ c, 188 ≤ c → s.1 c = σ.1 c) → TP (f_X9_text (nI N) s) (fun x => x.1 = nI B.1.1 ∧ tS B s x.2)) (c2 c3 c4 c5 : Int32) : ∃ τ, fl_1 (nI N) c2 c3 c4 c5 σ = some τ ∧ REL (K + 100) τ := by
  have hn := hW.1
  have hr := hW.2.1
  have hg : gS B.1.1 B.1.2 b0 e0 := ⟨hn, hr, fun w hw => (hb0 w hw).2.2⟩
  obtain ⟨hpm, s2N, s20, s2c⟩ := hp
  obtain ⟨sM, M1, M2, M3⟩ := tM_ex B hn hr
  obtain ⟨sM', hM'⟩ := bg_ex B.1.1 B.1.2 hn hr sM
  obtain ⟨hPM, -⟩ := tB_P hW hb0 M1 M2 M3 hM'
  obtain ⟨upa, para, rka, dpa, pra, hTa⟩ := rP_T hPM
  obtain ⟨x3, e3, s3, -⟩ := c8_all (y := 16) hg (hpm sM M1 M2 M3) hM' hPM hTa
  obtain ⟨z5, ez5, z1, z2, z3, z4⟩ := c8_93 (σ := gj_sI x3 54 (upd (x3.1 54) 2 0))
  have z5c : ∀ c, c ≠ 54 → c ≠ 165 → z5.1 c = x3.1 c := fun c a b => by rw [z1 c b, sI_ne a]
  have x3c : ∀ c, 31 < c → x3.1 c = σ.1 c := fun c hc => by rw [s3.1 c (by omega), s2c c (by omega)]
  have z5r : ∀ c, 188 ≤ c → z5.1 c = σ.1 c := fun c hc => by rw [z5c c (by omega) (by omega), x3c c (by omega)]
  obtain ⟨⟨v, z⟩, e9, hv, hz⟩ := r9 z5 z5r
  obtain ⟨hz1, hz2, hz3, hz4, hz5, hz6, hz7, hz8, hz9, hz10, s0, hb, hd1, hd2, hd3⟩ := hz
  dsimp only at hv hz1 hz2 hz3 hz4 hz5 hz6 hz7 hz8 hz9 hz10 hb
  obtain ⟨hPz, hfz⟩ := tB_P hW hb0 hd1 hd2 hd3 hb
  obtain ⟨up, par, rk, dp, pr, hT⟩ := rP_T hPz
  obtain ⟨x3', e3', -, g2, g3⟩ := c8_all (y := 16) hg (hpm s0 hd1 hd2 hd3) hb hPz hT
  rw [e3] at e3'
  cases e3'
  have zc : ∀ c, c < 188 → c ≠ 54 → c ≠ 165 → z.1 c = x3.1 c := fun c a b d => by rw [hz1 c a, z5c c b d]
  have e17 : z5.1 17 0 = nI B.1.1 := by
    rw [z5c 17 (by omega) (by omega)]
    exact g2.2.1.1
  have e8' : f_X8_text (nI N) σ = some (nI B.1.1, z5) := by
    rw [e8, e3]
    dsimp only [Option.bind_some]
    unfold f_X0_forget
    dsimp only [Option.bind_some]
    rw [ez5]
    dsimp only [Option.bind_some]
    rw [e17]
  clear e8 e3 ez5
  refine ⟨z, ?_, B.1.1, B.1.2, b0, e0, ?_, ⟨⟨0, ⟨by omega, fun w hw => by
    obtain ⟨-, -, b, e, c, h, -, -, -, h4, -, -, -, -, h9, h10⟩ := hW.2.2.2.1 w hw
    rw [hb.1 (24 + w) (by omega), (hd2 w hw).2, h4]
    intro q
    have q2 := congrArg Int32.toInt q
    rw [nI_toInt (by omega), show (0 : Int32).toInt = 0 by decide] at q2
    omega⟩, hPz, fP_mono hfz (by omega), ?_, ?_⟩, up, par, rk, dp, pr, hT, ?_⟩, ⟨0, nx, by omega, u2, hz4, ?_, ?_, fun g hg => absurd hg (Nat.not_lt_zero _)⟩, fun k hk => .inl ?_, ⟨0, by omega, ?_, hz3, fun q hq => absurd hq (Nat.not_lt_zero _)⟩, fun w hw => ?_⟩
  · unfold fl_1
    rw [e8']
    dsimp only [Option.bind_some]
    rw [e9]
    dsimp only [Option.bind_some]
    rw [hv, if_pos rfl]
  · refine ⟨hn, hr, hz5, hz6, fun w hw => ?_⟩
    rw [(hz7 w hw).1, (hz7 w hw).2.1, (hb0 w hw).1, (hb0 w hw).2.1]
    exact ⟨rfl, rfl, (hb0 w hw).2.2⟩
  · have := g2.2.1
    unfold pm at this ⊢
    rw [zc 17 (by omega) (by omega) (by omega), zc (17 + 1) (by omega) (by omega) (by omega), zc (17 + 2) (by omega) (by omega) (by omega), zc (17 + 3) (by omega) (by omega) (by omega), zc (17 + 4) (by omega) (by omega) (by omega), zc (17 + 5) (by omega) (by omega) (by omega), zc (17 + 6) (by omega) (by omega) (by omega), zc (17 + 7) (by omega) (by omega) (by omega)]
    exact this
  · have := g3
    unfold lgM at this ⊢
    rw [zc 17 (by omega) (by omega) (by omega), zc (17 + 8) (by omega) (by omega) (by omega)]
    exact this
  · have := g2.2.2.2.1
    unfold t8 at this ⊢
    rw [zc (26 + 1) (by omega) (by omega) (by omega), zc (26 + 2) (by omega) (by omega) (by omega), zc (26 + 3) (by omega) (by omega) (by omega), zc (26 + 4) (by omega) (by omega) (by omega)]
    exact this
  · rw [hz1 54 (by omega), z1 54 (by omega), sI_eq, up_eq]
    rfl
  · rw [hz1 54 (by omega), z1 54 (by omega), sI_eq, up_ne (by decide), x3c 54 (by omega)]
    exact u5
  · rw [hz1 165 (by omega)]
    have : k = 0 ∨ k = 1 := by omega
    rcases this with rfl | rfl
    · exact ⟨z3, hz9⟩
    · exact ⟨z4, hz10⟩
  · rw [hz1 0 (by omega), z5c 0 (by omega) (by omega), s3.1 0 (by omega)]
    exact s20
  · rw [hz8 15 (by omega), z2]
    show nmR (x3.2.1 15 w) _
    rw [s3.2, s2N w hw, (hz7 w hw).2.2]
    obtain ⟨⟨o1, o2⟩, o3, -⟩ := hW.2.2.2.1 w hw
    exact ⟨B.2.2.1 w, o3, o1, o2, rfl, rfl⟩
theorem k_1F {K N F : Nat} {v8 : Int32} {σ x : gj_S} (hv8 : (-2 : Int32) - nI F = v8) (hR : REL K σ) (hN : N ≤ 600) (ex1 : f_X2_readText (nI N) σ = some (nI F, x)) (hF5 : F ≤ 8 * N + 5) (fr : FR8 σ x) (n1 : ¬ nI N < 0) (n2 : nI N ≤ σ.1 0 1) (r9 : ∀ s : gj_S, (∀ c, 188 ≤ c → s.1 c = σ.1 c) → TP (f_X9_text (nI N) s) (fun x => x.1 = v8 ∧ tF s x.2)) (c2 c3 c4 c5 : Int32) : ∃ τ, fl_1 (nI N) c2 c3 c4 c5 σ = some τ ∧ REL (K + 100) τ := by
  have hF1 : ¬ nI F = -1 := nI_m1 (by omega)
  obtain ⟨s, hs⟩ : ∃ s, s = gj_sI x 0 (upd (x.1 0) 1 0) := ⟨_, rfl⟩
  have e8 : f_X8_text (nI N) σ = some (v8, s) := by
    unfold f_X8_text
    rw [if_neg n1, if_pos n2, ex1]
    dsimp only [Option.bind_some]
    rw [if_neg hF1, hs, hv8]
  have sc : ∀ c, c ≠ 0 → s.1 c = x.1 c := fun c hc => by rw [hs, sI_ne hc]
  have s0 : s.1 0 1 = 0 := by rw [hs, sI_eq, up_eq]
  have sJ : s.2 = x.2 := by rw [hs]; rfl
  clear hs ex1
  have hs : ∀ c, 188 ≤ c → s.1 c = σ.1 c := fun c hc => by rw [sc c (by omega), (fr c (by omega)).1]
  obtain ⟨⟨v, z⟩, e9, hv, hz1, hz2, hz3, hz4, hz5, hz6, hz7⟩ := r9 _ hs
  dsimp only at hv hz1 hz2 hz3 hz4 hz5 hz6 hz7
  have hfl : fl_1 (nI N) c2 c3 c4 c5 σ = some z := by
    unfold fl_1
    rw [e8]
    dsimp only [Option.bind_some]
    rw [e9]
    dsimp only [Option.bind_some]
    rw [if_pos hv.symm]
  clear e8 e9
  refine ⟨z, hfl, REL_mono (REL_tF hR (fun k hk => ?_) ?_ ?_ (fun w hw => ?_) ?_ ?_ (fun j hj => ?_) ?_ hz2) (by omega)⟩
  · rw [hz1 k (by omega) (by omega), sc k (by omega), (fr k (by omega)).1]
  · rw [(hz4 0 (by omega)).1, hs 190 (by omega)]
  · rw [(hz4 0 (by omega)).2, hs 191 (by omega)]
  · rw [(hz5 w hw).1, (hz5 w hw).2, hs 194 (by omega), hs 195 (by omega)]
    exact ⟨rfl, rfl⟩
  · rw [hz3 23 (by omega), hs 188 (by omega)]
  · rw [hz6 15 (by omega) (by omega), sJ]
    exact (fr 15 (by omega)).2
  · rw [hz7 j hj, sJ, (fr 192 (by omega)).2]
  · rw [hz1 0 (by omega) (by omega)]
    exact s0
theorem k_1 {K : Nat} {σ : gj_S} (hR : REL K σ) (c1 c2 c3 c4 c5 : Int32) : ∃ τ, fl_1 c1 c2 c3 c4 c5 σ = some τ ∧ REL (K + 100) τ := by
  obtain ⟨n0, r0, b00, e00, hS0, -, ⟨u, nx, -, u2, -, -, u5, -⟩, -, ⟨t, t1, t2, t3, t4⟩, -⟩ := id hR
  by_cases hc : 0 ≤ c1.toInt ∧ c1.toInt ≤ t
  · obtain ⟨N, hN, rfl⟩ : ∃ N, N < t + 1 ∧ c1 = nI N := inR_of (decide_eq_true (by omega))
    have n1 : ¬ nI N < 0 := by rw [i32_lt_iff, nI_toInt (by omega), i0_toInt]; omega
    have n2 : nI N ≤ σ.1 0 1 := by rw [t2]; exact nI_le (by omega) (by omega)
    obtain ⟨x1, ex1, hx1⟩ := c8_readN (y := σ.1 1) (N := N) (σ := σ) (by omega) (fun _ _ => rfl)
    have r9 : ∀ s : gj_S, (∀ c, 188 ≤ c → s.1 c = σ.1 c) → TP (f_X9_text (nI N) s) (fun x => match lns (σ.1 1) N (N + 1) A0 0 with | .inl F => x.1 = -2 - nI F ∧ tF s x.2 | .inr B => x.1 = nI B.1.1 ∧ tS B s x.2) := fun s hs => r9_textN (t := t) (by omega) t1 (by rw [hs 188 (by omega)]; exact t3) (fun i hi => by
      rw [hs 189 (by omega)]
      have := t4 i (by omega)
      exact ⟨this.1.symm, this.2⟩)
    cases hl : lns (σ.1 1) N (N + 1) A0 0 with
    | inl F =>
      rw [hl] at hx1 r9
      obtain ⟨w1, w2, w3⟩ := hx1
      obtain ⟨v1, x⟩ := x1
      obtain rfl : v1 = nI F := w2
      exact k_1F rfl hR (by omega) ex1 w1 w3 n1 n2 r9 c2 c3 c4 c5
    | inr B =>
      rw [hl] at hx1 r9
      obtain ⟨v1, hP, hW, fr⟩ := hx1
      obtain ⟨b0, e0, hb0⟩ := tE_ex hW
      obtain ⟨s2, hp2, e8⟩ := c8_textP ex1 v1 hP hW fr n1 n2 hb0
      exact k_1S hW hb0 hp2 e8 u2 u5 r9 c2 c3 c4 c5
  · -- refused
    have e8 : f_X8_text c1 σ = some (-1, σ) := by
      unfold f_X8_text
      by_cases q : c1 < 0
      · rw [if_pos q]
      · rw [if_neg q, if_neg]
        rw [t2]
        intro h
        rw [Int32.le_iff_toInt_le, nI_toInt (by omega)] at h
        rw [i32_lt_iff, i0_toInt] at q
        omega
    have e9 : f_X9_text c1 σ = some (-1, gj_sI σ 188 (upd (σ.1 188) 0 0)) := by
      have wi : f_X9_within c1.toInt64 0 (nI t).toInt64 = some 0 := by
        have := wiL c1 0 (nI t)
        rw [nI_toInt (by omega), i0_toInt, decide_eq_false hc] at this
        exact this
      unfold f_X9_text
      have e0 : (gj_sI σ 188 (upd (σ.1 188) 0 0)).1 188 2 = nI t := by rw [sI_eq, up_ne (by decide)]; exact t3
      rw [e0, wi]
      rfl
    exact rc_S e8 (tp_eq e9 ⟨rfl, frK_X smX_t⟩) hR
