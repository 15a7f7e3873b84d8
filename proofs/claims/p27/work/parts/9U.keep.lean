/-! ===== keep, feed ===== -/
theorem r9_lay32 {k : Nat} (hk : k < 2) {σ : gj_S} : TP (gj_lp (fb_X9_keep_l32 (nI k) 0) 5000 (0, σ)) (fun z => (∀ c, c ≠ 200 → z.1 c = σ.1 c) ∧ z.2 = σ.2 ∧ rwQ (σ.1 198) (kr z k) ∧ ∀ j, j < 2 → j ≠ k → rwQ (kr σ j) (kr z j)) := by
  refine tp_mono (lp_fill (f := fb_X9_keep_l32 (nI k) 0) (o := 0) (N := 180) (c := 200) (g := fun q => 180 * k + q) (v := fun q => σ.1 198 q) (by omega) (fun a b h1 h2 => by omega) (fun τ _ => ?_) (fun q hq τ h1 h2 h3 => ?_)) (fun z hz => ⟨hz.1, hz.2.1, fun q hq => hz.2.2.1 q hq, fun j hj hne q hq => hz.2.2.2 _ (fun a ha => by omega)⟩)
  · unfold fb_X9_keep_l32
    exact if_pos (show (180 : Int32) ≤ nI (0 + 180) by decide)
  · unfold fb_X9_keep_l32
    dsimp only
    rw [Nat.zero_add, if_neg (by rw [show (180 : Int32) = nI 180 from rfl]; exact nI_ge (by omega) (by omega)), if_pos rfl]
    simp only [show (180 : Int32) = nI 180 from rfl, nI_mul, nI_add, nI_clamp (show q < 2 ^ 31 by omega), nI_clamp (show 180 * k + q < 2 ^ 31 by omega)]
    rw [if_pos (gi (by omega) (by omega)), if_pos (gi (by omega) (by omega)), nI_1, h1 198 (by decide)]
theorem r9_back32 {k : Nat} (hk : k < 2) {σ : gj_S} : TP (gj_lp (fb_X9_keep_l32 (nI k) 1) 5000 (0, σ)) (fun z => (∀ c, c ≠ 198 → z.1 c = σ.1 c) ∧ z.2 = σ.2 ∧ rwQ (kr σ k) (z.1 198)) := by
  refine tp_mono (lp_fill (f := fb_X9_keep_l32 (nI k) 1) (o := 0) (N := 180) (c := 198) (g := fun q => q) (v := fun q => σ.1 200 (180 * k + q)) (by omega) (fun a b h1 h2 => by omega) (fun τ _ => ?_) (fun q hq τ h1 h2 h3 => ?_)) (fun z hz => ⟨hz.1, hz.2.1, fun q hq => hz.2.2.1 q hq⟩)
  · unfold fb_X9_keep_l32
    exact if_pos (show (180 : Int32) ≤ nI (0 + 180) by decide)
  · unfold fb_X9_keep_l32
    dsimp only
    rw [Nat.zero_add, if_neg (by rw [show (180 : Int32) = nI 180 from rfl]; exact nI_ge (by omega) (by omega)), if_neg (show ¬ (1 : Int32) = 0 by decide)]
    simp only [show (180 : Int32) = nI 180 from rfl, nI_mul, nI_add, nI_clamp (show q < 2 ^ 31 by omega), nI_clamp (show 180 * k + q < 2 ^ 31 by omega)]
    rw [if_pos (gi (by omega) (by omega)), if_pos (gi (by omega) (by omega)), nI_1, h1 200 (by decide)]
/-- a boolean that the law makes of a number -/
theorem rc_b {K : Nat} {c : Int32} {F : Int32 → Option (Int32 × gj_S)} {G : Int32 → gj_S → Option (Int32 × gj_S)} (h : ∀ b : Bool, ∃ v s1, F (bI b) = some (v, s1) ∧ TP (G (bI b) s1) (fun x => x.1 = v ∧ REL (K + 100) x.2)) : ∃ τ, ((if c = 0 then some (0 : Int32) else some (1 : Int32) : Option Int32).bind fun z1 => ((F z1).bind fun x2 => (if c = 0 then ((G 0 x2.2).bind fun x3 => (if x2.1 = x3.1 then some x3.2 else none)) else ((G 1 x2.2).bind fun x4 => (if x2.1 = x4.1 then some x4.2 else none))))) = some τ ∧ REL (K + 100) τ := by
  by_cases q : c = 0
  · obtain ⟨v, s1, e, ⟨w, t⟩, e2, rfl, e3⟩ := h false
    refine ⟨t, ?_, e3⟩
    rw [if_pos q]
    dsimp only [Option.bind_some]
    rw [show F 0 = some (w, s1) from e]
    dsimp only [Option.bind_some]
    rw [if_pos q, show G 0 s1 = some (w, t) from e2]
    exact if_pos rfl
  · obtain ⟨v, s1, e, ⟨w, t⟩, e2, rfl, e3⟩ := h true
    refine ⟨t, ?_, e3⟩
    rw [if_neg q]
    dsimp only [Option.bind_some]
    rw [show F 1 = some (w, s1) from e]
    dsimp only [Option.bind_some]
    rw [if_neg q, show G 1 s1 = some (w, t) from e2]
    exact if_pos rfl
theorem k_29 {K : Nat} {σ : gj_S} (hR : REL K σ) (c1 c2 c3 c4 c5 : Int32) : ∃ τ, gl_29 c1 c2 c3 c4 c5 σ = some τ ∧ REL (K + 100) τ := by
  obtain ⟨n, r, b0, e0, hS, ⟨hB1, up, par, rk, dp, pr, hT, ht⟩, ⟨u, nx, u1, u2, u3, u4, u5, u6⟩, hD, ⟨tt, hE1, hE2, hE3, hE4⟩, hF⟩ := id hR
  have hg := rS_g hS
  have hE : reE σ := ⟨tt, hE1, hE2, hE3, hE4⟩
  have h0 : smX σ (gj_sI σ 188 (upd (σ.1 188) 0 0)) := smX_t
  have ez0 : (0 : Int32).toInt = 0 := by decide
  have ez1 : (1 : Int32).toInt = 1 := by decide
  have r2 : f_X9_within c1.toInt64 0 1 = some (bI (decide (0 ≤ c1.toInt ∧ c1.toInt ≤ 1))) := by
    have := wiL c1 0 1
    rw [ez0, ez1] at this
    exact this
  refine rc_b (F := fun b => f_X8_keep c1 b σ) (G := fun b s => f_X9_keep c1 b s) (fun bk => ?_)
  have same : ∀ v, f_X8_keep c1 (bI bk) σ = some (v, σ) → f_X9_keep c1 (bI bk) σ = some (v, gj_sI σ 188 (upd (σ.1 188) 0 0)) → ∃ v s1, f_X8_keep c1 (bI bk) σ = some (v, s1) ∧ TP (f_X9_keep c1 (bI bk) s1) (fun x => x.1 = v ∧ REL (K + 100) x.2) := fun v a1 a2 => ⟨v, σ, a1, tp_eq a2 ⟨rfl, REL_mono (REL_fr hR (frK_X h0)) (by omega)⟩⟩
  by_cases hin : 0 ≤ c1.toInt ∧ c1.toInt ≤ 1
  · rw [decide_eq_true hin] at r2
    obtain ⟨k, hk, rfl⟩ : ∃ k, k < 2 ∧ c1 = nI k := inR_of (decide_eq_true (by omega))
    have n1 : ¬ nI k < 0 := nI_pos (by omega)
    have n2 : ¬ (2 : Int32) ≤ nI k := by rw [show (2 : Int32) = nI 2 from rfl]; exact nI_ge hk (by omega)
    have g2 : gj_in (nI k) 2 := gi hk (by omega)
    have ck : (nI k).toNatClampNeg = k := nI_clamp (by omega)
    have gpa : gj_pa 164 k = 170 + 9 * k := rfl
    cases bk with
    | false =>
      -- laid
      obtain ⟨z, ez, z1, z2⟩ := c8_copy (a := 170 + 9 * k) (c := 17) (σ := σ) (by omega)
      have hcl : f_X8_keep (nI k) (bI false) σ = some (1, gj_sI z 165 (upd (z.1 165) k 1)) := by
        unfold f_X8_keep
        rw [if_neg n1, if_neg n2, if_pos (show bI false = 0 by decide), if_pos (show bI false = 0 by decide), if_pos g2]
        simp only [ck]
        rw [gpa, ez]
        dsimp only [Option.bind_some]
        rw [if_pos g2]
        rfl
      refine ⟨1, _, hcl, ?_⟩
      have c8 : ∀ q, q ≠ 165 → (q < 170 + 9 * k ∨ 170 + 9 * k + 8 < q) → (gj_sI z 165 (upd (z.1 165) k 1)).1 q = σ.1 q := fun q a1 a2 => by rw [sI_ne a1]; exact z1.1 q a2
      have e165 : (gj_sI z 165 (upd (z.1 165) k 1)).1 165 = upd (σ.1 165) k 1 := by rw [sI_eq, z1.1 165 (by omega)]
      have ecp : cpE (170 + 9 * k) 17 σ (gj_sI z 165 (upd (z.1 165) k 1)) := cp_fr z2 (fun q a1 a2 => sI_ne (by omega))
      have eJ : (gj_sI z 165 (upd (z.1 165) k 1)).2 = σ.2 := z1.2
      generalize gj_sI z 165 (upd (z.1 165) k 1) = x8 at *
      have h08 : smX x8 (gj_sI x8 188 (upd (x8.1 188) 0 0)) := smX_t
      unfold f_X9_keep
      refine tp_beq r2 (tp_f (by decide) (tp_t (show bI false = 0 by decide) (tp_bind (r9_lay32 hk) (fun y hy => ?_))))
      obtain ⟨y1, y2, y3, y4⟩ := hy
      refine tp_t (show bI false = 0 by decide) (tp_t g2 ?_)
      rw [ck, show vp_nar .boolean (1 : Int32) = 1 by decide]
      have yk : ∀ q, q ≠ 200 → q ≠ 201 → q ≠ 188 → (gj_sI y 201 (upd (y.1 201) k 1)).1 q = x8.1 q := fun q a1 a2 a3 => by
        rw [sI_ne a2, y1 q a1]
        exact if_neg a3
      have y188 : ∀ j, j ≠ 0 → (gj_sI y 201 (upd (y.1 201) k 1)).1 188 j = σ.1 188 j := fun j hj => by
        rw [sI_ne (by decide), y1 188 (by decide), sI_eq, ← c8 188 (by decide) (by omega)]
        exact if_neg hj
      have yJ : (gj_sI y 201 (upd (y.1 201) k 1)).2 = σ.2 := y2.trans eJ
      have y201 : (gj_sI y 201 (upd (y.1 201) k 1)).1 201 = upd (σ.1 201) k 1 := by rw [sI_eq, y1 201 (by decide), sI_ne (by decide), c8 201 (by decide) (by omega)]
      have ykr : ∀ j, kr (gj_sI y 201 (upd (y.1 201) k 1)) j = kr y j := fun j => by unfold kr; rw [sI_ne (by decide)]
      have e198 : (gj_sI x8 188 (upd (x8.1 188) 0 0)).1 198 = σ.1 198 := by rw [smX_s h08, c8 198 (by decide) (by omega)]
      have ekr : ∀ j, kr (gj_sI x8 188 (upd (x8.1 188) 0 0)) j = kr σ j := fun j => by unfold kr; rw [sI_ne (by decide), c8 200 (by decide) (by omega)]
      rw [e198] at y3
      generalize gj_sI y 201 (upd (y.1 201) k 1) = τ at *
      have cc : ∀ q, relC q → q ≠ 200 → q ≠ 201 → q ≠ 165 → (q < 170 ∨ 187 < q) → τ.1 q = σ.1 q := fun q a1 a2 a3 a4 a5 => by
        rw [yk q a2 a3 (by unfold relC at a1; omega)]
        exact c8 q a4 (by omega)
      refine tp_some ⟨rfl, ?_⟩
      refine REL_mono (K := K) ⟨n, r, b0, e0, ?_, ⟨?_, up, par, rk, dp, pr, ?_, ?_⟩, ⟨u, nx, u1, u2, (y188 23 (by decide)).trans u3, ?_, ?_, fun g hg1 => ?_⟩, fun j hj => ?_, ⟨tt, hE1, ?_, (y188 2 (by decide)).trans hE3, fun q hq => ?_⟩, fun w hw => ?_⟩ (by omega)
      · unfold rS at hS ⊢
        rw [cc 190 (by unfold relC; omega) (by omega) (by omega) (by omega) (by omega), cc 191 (by unfold relC; omega) (by omega) (by omega) (by omega) (by omega), cc 194 (by unfold relC; omega) (by omega) (by omega) (by omega) (by omega), cc 195 (by unfold relC; omega) (by omega) (by omega) (by omega) (by omega)]
        exact hS
      · rw [cc 198 (by unfold relC; omega) (by omega) (by omega) (by omega) (by omega)]
        exact rw1_fr hB1 (fun q a1 a2 => cc q (by unfold relC; omega) (by omega) (by omega) (by omega) (by omega))
      · rw [cc 198 (by unfold relC; omega) (by omega) (by omega) (by omega) (by omega)]
        exact hT
      · unfold t8 at ht ⊢
        rw [cc (26 + 1) (by unfold relC; omega) (by omega) (by omega) (by omega) (by omega), cc (26 + 2) (by unfold relC; omega) (by omega) (by omega) (by omega) (by omega), cc (26 + 3) (by unfold relC; omega) (by omega) (by omega) (by omega) (by omega), cc (26 + 4) (by unfold relC; omega) (by omega) (by omega) (by omega) (by omega)]
        exact ht
      · rw [cc 54 (by unfold relC; omega) (by omega) (by omega) (by omega) (by omega)]; exact u4
      · rw [cc 54 (by unfold relC; omega) (by omega) (by omega) (by omega) (by omega)]; exact u5
      · have hm : (nx + 11 - g) % 12 < 12 := Nat.mod_lt _ (by omega)
        have : ur τ (u - 1 - g) = ur σ (u - 1 - g) := by
          unfold ur
          rw [cc 199 (by unfold relC; omega) (by omega) (by omega) (by omega) (by omega)]
        rw [this]
        exact rw1_fr (u6 g hg1) (fun q a1 a2 => cc q (by unfold relC; omega) (by omega) (by omega) (by omega) (by omega))
      · rw [ykr, y201, yk 165 (by decide) (by decide) (by decide), e165]
        by_cases q : j = k
        · subst q
          refine .inr ⟨if_pos rfl, if_pos rfl, rw1_rw hg (rw1_fr (rw1_cp hg hB1 ecp) (fun q a1 a2 => yk q (by omega) (by omega) (by omega))) y3⟩
        · have hne : ∀ f : Nat → Int32, upd f k 1 j = f j := fun f => if_neg q
          rw [hne, hne]
          rcases hD j hj with a | ⟨a1, a2, a3⟩
          · exact .inl a
          · refine .inr ⟨a1, a2, rw1_rw hg (rw1_fr a3 (fun q a1 a2 => ?_)) (by rw [← ekr]; exact y4 j hj q)⟩
            rw [yk q (by omega) (by omega) (by omega)]
            exact c8 q (by omega) (by omega)
      · rw [cc 0 (by unfold relC; omega) (by omega) (by omega) (by omega) (by omega)]; exact hE2
      · rw [cc 1 (by unfold relC; omega) (by omega) (by omega) (by omega) (by omega), cc 189 (by unfold relC; omega) (by omega) (by omega) (by omega) (by omega)]
        exact hE4 q hq
      · rw [yJ]
        exact hF w hw
    | true =>
      rcases hD k hk with ⟨a1, a2⟩ | ⟨a1, a2, a3⟩
      · refine same 0 ?_ ?_
        · unfold f_X8_keep
          rw [if_neg n1, if_neg n2, if_neg (show ¬ bI true = 0 by decide), if_pos g2]
          simp only [ck]
          rw [if_pos a1]
        · unfold f_X9_keep
          rw [r2]
          dsimp only [Option.bind_some]
          rw [if_neg (show ¬ bI true = 0 by decide), if_neg (show ¬ bI true = 0 by decide), if_pos g2]
          simp only [ck]
          rw [if_pos (show (gj_sI σ 188 (upd (σ.1 188) 0 0)).1 201 k = 0 from a2)]
      · obtain ⟨P, hPK, hP, hf, hp⟩ := id a3
        obtain ⟨up2, par2, rk2, dp2, pr2, hT2⟩ := rP_T hP
        obtain ⟨z, ez, z1, z2⟩ := c8_copy (a := 17) (c := 170 + 9 * k) (σ := σ) (by omega)
        have hplz : pl n r b0 e0 P (kr σ k) 17 z := cp_pl hg z2 hp
        obtain ⟨x, ex, g1, g2', -⟩ := c8_grow (t := 26) (b := 17) hg (by omega) hplz.1 hT2
        have hcl : f_X8_keep (nI k) (bI true) σ = some (1, gj_sI x 54 (upd (x.1 54) 2 0)) := by
          unfold f_X8_keep
          rw [if_neg n1, if_neg n2, if_neg (show ¬ bI true = 0 by decide), if_pos g2]
          simp only [ck]
          rw [if_neg (by rw [a1]; decide), if_neg (show ¬ bI true = 0 by decide), if_pos g2, gpa, ez]
          dsimp only [Option.bind_some]
          unfold f_X7_regrow f_X0_forget
          rw [show 16 + 10 = 26 from rfl, show 16 + 1 = 17 from rfl, ex]
          rfl
        refine ⟨1, _, hcl, ?_⟩
        have c8 : ∀ q, q ≠ 54 → (q < 17 ∨ 31 < q) → (gj_sI x 54 (upd (x.1 54) 2 0)).1 q = σ.1 q := fun q b1 b2 => by rw [sI_ne b1, g1.1 q (by omega)]; exact z1.1 q (by omega)
        have cx : ∀ q, q ≠ 54 → (gj_sI x 54 (upd (x.1 54) 2 0)).1 q = x.1 q := fun q hq => sI_ne hq
        have e54a : (gj_sI x 54 (upd (x.1 54) 2 0)).1 54 1 = nI nx := by rw [sI_eq]; show x.1 54 1 = _; rw [g1.1 54 (by omega), z1.1 54 (by omega)]; exact u5
        have e54b : (gj_sI x 54 (upd (x.1 54) 2 0)).1 54 2 = nI 0 := by rw [sI_eq]; rfl
        have eJ : (gj_sI x 54 (upd (x.1 54) 2 0)).2 = σ.2 := g1.2.trans z1.2
        have hplx : pl n r b0 e0 P (kr σ k) 17 (gj_sI x 54 (upd (x.1 54) 2 0)) := pl_fr hplz (fun q b1 b2 => (cx q (by omega)).trans (g1.1 q (by omega)))
        have ht8x : t8 n up2 par2 dp2 pr2 26 (gj_sI x 54 (upd (x.1 54) 2 0)) := by
          unfold t8 at g2' ⊢
          rw [cx (26 + 1) (by omega), cx (26 + 2) (by omega), cx (26 + 3) (by omega), cx (26 + 4) (by omega)]
          exact g2'
        generalize gj_sI x 54 (upd (x.1 54) 2 0) = x8 at *
        have h08 : smX x8 (gj_sI x8 188 (upd (x8.1 188) 0 0)) := smX_t
        unfold f_X9_keep
        refine tp_beq r2 (tp_f (by decide) (tp_f (show ¬ bI true = 0 by decide) (tp_t g2 ?_)))
        simp only [ck]
        refine tp_f (by rw [sI_ne (by decide), c8 201 (by decide) (by omega), a2]; decide) (tp_bind (r9_back32 hk) (fun y hy => ?_))
        obtain ⟨y1, y2, y3⟩ := hy
        have ekr : kr (gj_sI x8 188 (upd (x8.1 188) 0 0)) k = kr σ k := by unfold kr; rw [sI_ne (by decide), c8 200 (by decide) (by omega)]
        rw [ekr] at y3
        refine tp_f (show ¬ bI true = 0 by decide) (tp_some ⟨rfl, ?_⟩)
        have yk : ∀ q, q ≠ 198 → q ≠ 188 → (gj_sI y 188 (upd (y.1 188) 23 0)).1 q = x8.1 q := fun q b1 b2 => by
          rw [sI_ne b2, y1 q b1]
          exact if_neg b2
        have y198 : (gj_sI y 188 (upd (y.1 188) 23 0)).1 198 = y.1 198 := sI_ne (by decide)
        have y2' : (gj_sI y 188 (upd (y.1 188) 23 0)).1 188 2 = σ.1 188 2 := by
          rw [sI_eq]
          show y.1 188 2 = _
          rw [y1 188 (by decide), sI_eq, ← c8 188 (by decide) (by omega)]
          rfl
        have y23 : (gj_sI y 188 (upd (y.1 188) 23 0)).1 188 23 = nI 0 := by rw [sI_eq]; rfl
        have yJ : (gj_sI y 188 (upd (y.1 188) 23 0)).2 = σ.2 := y2.trans eJ
        generalize gj_sI y 188 (upd (y.1 188) 23 0) = τ at *
        rw [← y198] at y3
        have hr1 : rw1 n r b0 e0 (K + 100) (τ.1 198) 17 τ := rw1_rw hg (rw1_mono ⟨P, hPK, hP, hf, pl_fr hplx (fun q b1 b2 => yk q (by omega) (by omega))⟩ (by omega)) y3
        refine rel_mk (K := K) hS hD hE hF (by omega) ⟨hr1, up2, par2, rk2, dp2, pr2, rT_rw hS y3 hT2, ?_⟩ ⟨0, nx, by omega, u2, y23, ?_, ?_, fun g hg1 => absurd hg1 (Nat.not_lt_zero _)⟩ (fun q hq => ?_) y2' ?_ ?_
        · unfold t8 at ht8x ⊢
          rw [yk (26 + 1) (by omega) (by omega), yk (26 + 2) (by omega) (by omega), yk (26 + 3) (by omega) (by omega), yk (26 + 4) (by omega) (by omega)]
          exact ht8x
        · rw [yk 54 (by decide) (by decide)]; exact e54b
        · rw [yk 54 (by decide) (by decide)]; exact e54a
        · rw [yk q (by omega) (by omega)]
          exact c8 q (by omega) (by omega)
        · rw [yJ]
        · rw [yJ]
  · rw [decide_eq_false hin] at r2
    refine same 0 ?_ ?_
    · unfold f_X8_keep
      by_cases a1 : c1 < 0
      · rw [if_pos a1]
      · rw [if_neg a1, if_pos]
        have e2 : (2 : Int32).toInt = 2 := by decide
        rw [i32_lt_iff] at a1
        rw [i32_le_iff]
        omega
    · unfold f_X9_keep
      rw [r2]
      rfl
/-- a byte written -/
theorem nar8 (x : Int32) : -128 ≤ (vp_nar .byte (Int8.toInt32 (Int32.toInt8 x))).toInt ∧ (vp_nar .byte (Int8.toInt32 (Int32.toInt8 x))).toInt ≤ 127 := by
  have h : vp_nar .byte (Int8.toInt32 (Int32.toInt8 x)) = Int8.toInt32 (Int32.toInt8 (Int8.toInt32 (Int32.toInt8 x))) := rfl
  rw [h, Int8.toInt_toInt32]
  have h1 := Int8.le_toInt (Int32.toInt8 (Int8.toInt32 (Int32.toInt8 x)))
  have h2 := Int8.toInt_lt (Int32.toInt8 (Int8.toInt32 (Int32.toInt8 x)))
  omega
/-- the tape's bytes, both sides: t of them so far -/
def tpB (t : Nat) (σ8 σ9 : gj_S) : Prop := σ8.1 0 1 = nI t ∧ σ9.1 188 2 = nI t ∧ ∀ q, q < t → σ8.1 1 q = σ9.1 189 q ∧ -128 ≤ (σ8.1 1 q).toInt ∧ (σ8.1 1 q).toInt ≤ 127
theorem tp_one {b s : Int32} {t : Nat} {σ8 σ9 : gj_S} (hs : ¬ s < 0) (h : tpB t σ8 σ9) (ht : t < 600) : ∃ x8 x9, fb_X8_putBytes_l3 b (s, σ8) = some (.inr (s + (-8), x8)) ∧ fb_X9_puts_l3 b (s, σ9) = some (.inr (s + (-8), x9)) ∧ tpB (t + 1) x8 x9 ∧ (∀ k, k ≠ 0 → k ≠ 1 → x8.1 k = σ8.1 k) ∧ x8.2 = σ8.2 ∧ (∀ k, k ≠ 188 → k ≠ 189 → x9.1 k = σ9.1 k) ∧ (∀ j, j ≠ 2 → x9.1 188 j = σ9.1 188 j) ∧ x9.2 = σ9.2 := by
  obtain ⟨h1, h2, h3⟩ := h
  have e1 : fb_X8_putBytes_l3 b (s, σ8) = some (.inr (s + (-8), gj_sI (gj_sI σ8 1 (upd (σ8.1 1) t (vp_nar .byte (Int8.toInt32 (Int32.toInt8 (b >>> (s &&& 31))))))) 0 (upd ((gj_sI σ8 1 (upd (σ8.1 1) t (vp_nar .byte (Int8.toInt32 (Int32.toInt8 (b >>> (s &&& 31))))))).1 0) 1 ((gj_sI σ8 1 (upd (σ8.1 1) t (vp_nar .byte (Int8.toInt32 (Int32.toInt8 (b >>> (s &&& 31))))))).1 0 1 + 1)))) := by
    unfold fb_X8_putBytes_l3
    rw [if_neg hs, if_neg (by dsimp only; rw [h1, show (600 : Int32) = nI 600 from rfl]; exact nI_ge ht (by omega)), if_pos (by dsimp only; rw [h1]; exact gi ht (by omega))]
    dsimp only [Option.bind_some]
    rw [h1, nI_clamp (by omega)]
  have e2 : fb_X9_puts_l3 b (s, σ9) = some (.inr (s + (-8), gj_sI (gj_sI σ9 189 (upd (σ9.1 189) t (vp_nar .byte (Int8.toInt32 (Int32.toInt8 (b >>> (s &&& 31))))))) 188 (upd ((gj_sI σ9 189 (upd (σ9.1 189) t (vp_nar .byte (Int8.toInt32 (Int32.toInt8 (b >>> (s &&& 31))))))).1 188) 2 ((gj_sI σ9 189 (upd (σ9.1 189) t (vp_nar .byte (Int8.toInt32 (Int32.toInt8 (b >>> (s &&& 31))))))).1 188 2 + 1)))) := by
    unfold fb_X9_puts_l3
    rw [if_neg hs, if_pos (by dsimp only; rw [h2]; exact gi ht (by omega))]
    dsimp only [Option.bind_some]
    rw [h2, nI_clamp (by omega)]
  refine ⟨_, _, e1, e2, ⟨?_, ?_, fun q hq => ?_⟩, fun k k1 k2 => ?_, rfl, fun k k1 k2 => ?_, fun j hj => ?_, rfl⟩
  · show σ8.1 0 1 + 1 = _
    rw [h1, nI_1]
  · show σ9.1 188 2 + 1 = _
    rw [h2, nI_1]
  · show (if q = t then _ else σ8.1 1 q) = (if q = t then _ else σ9.1 189 q) ∧ -128 ≤ (if q = t then _ else σ8.1 1 q).toInt ∧ (if q = t then _ else σ8.1 1 q).toInt ≤ 127
    by_cases e : q = t
    · simp only [if_pos e]
      exact ⟨trivial, nar8 _⟩
    · simp only [if_neg e]
      exact h3 q (by omega)
  · rw [sI_ne k1, sI_ne k2]
  · rw [sI_ne k1, sI_ne k2]
  · rw [sI_eq]
    show (if j = 2 then _ else σ9.1 188 j) = _
    rw [if_neg hj]
/-- what the class's and the reference's tape calls leave alone -/
def tpK (σ8 σ9 x8 x9 : gj_S) : Prop := (∀ k, k ≠ 0 → k ≠ 1 → x8.1 k = σ8.1 k) ∧ x8.2 = σ8.2 ∧ (∀ k, k ≠ 188 → k ≠ 189 → x9.1 k = σ9.1 k) ∧ (∀ j, j ≠ 2 → x9.1 188 j = σ9.1 188 j) ∧ x9.2 = σ9.2
theorem tpK_tr {a b c d e f : gj_S} (h1 : tpK a b c d) (h2 : tpK c d e f) : tpK a b e f := ⟨fun k p q => (h2.1 k p q).trans (h1.1 k p q), h2.2.1.trans h1.2.1, fun k p q => (h2.2.2.1 k p q).trans (h1.2.2.1 k p q), fun j p => (h2.2.2.2.1 j p).trans (h1.2.2.2.1 j p), h2.2.2.2.2.trans h1.2.2.2.2⟩
theorem put_both {b : Int32} {t : Nat} {σ8 σ9 : gj_S} (h : tpB t σ8 σ9) (ht : t + 4 ≤ 600) : ∃ x8 x9, f_X8_putBytes b σ8 = some x8 ∧ f_X9_puts b σ9 = some x9 ∧ tpB (t + 4) x8 x9 ∧ tpK σ8 σ9 x8 x9 := by
  obtain ⟨a8, a9, p1, q1, r1, s1⟩ := tp_one (b := b) (s := 24) (by decide) h (by omega)
  obtain ⟨b8, b9, p2, q2, r2, s2⟩ := tp_one (b := b) (s := 24 + (-8)) (by decide) r1 (by omega)
  obtain ⟨c8, c9, p3, q3, r3, s3⟩ := tp_one (b := b) (s := 24 + (-8) + (-8)) (by decide) r2 (by omega)
  obtain ⟨d8, d9, p4, q4, r4, s4⟩ := tp_one (b := b) (s := 24 + (-8) + (-8) + (-8)) (by decide) r3 (by omega)
  refine ⟨d8, d9, ?_, ?_, r4, tpK_tr s1 (tpK_tr s2 (tpK_tr s3 s4))⟩
  · unfold f_X8_putBytes
    rw [gj_lp_g (n := 4999) p1, gj_lp_g (n := 4998) p2, gj_lp_g (n := 4997) p3, gj_lp_g (n := 4996) p4, gj_lp_e (n := 4995) (pb_stop (by decide))]
    rfl
  · unfold f_X9_puts
    rw [gj_lp_g (n := 4999) q1, gj_lp_g (n := 4998) q2, gj_lp_g (n := 4997) q3, gj_lp_g (n := 4996) q4, gj_lp_e (n := 4995) (ps_stop (by decide))]
    rfl
theorem feed_both {a b c d e : Int32} {t : Nat} {σ8 σ9 : gj_S} (h : tpB t σ8 (t0 σ9)) (ht : t + 20 ≤ 600) : ∃ x8 x9, f_X8_feed a b c d e σ8 = some (nI (t + 20), x8) ∧ f_X9_feed a b c d e σ9 = some (nI (t + 20), x9) ∧ tpB (t + 20) x8 x9 ∧ tpK σ8 (t0 σ9) x8 x9 := by
  obtain ⟨a8, a9, p1, q1, r1, s1⟩ := put_both (b := a) h (by omega)
  obtain ⟨b8, b9, p2, q2, r2, s2⟩ := put_both (b := b) r1 (by omega)
  obtain ⟨c8, c9, p3, q3, r3, s3⟩ := put_both (b := c) r2 (by omega)
  obtain ⟨d8, d9, p4, q4, r4, s4⟩ := put_both (b := d) r3 (by omega)
  obtain ⟨e8, e9, p5, q5, r5, s5⟩ := put_both (b := e) r4 (by omega)
  refine ⟨e8, e9, ?_, ?_, r5, tpK_tr s1 (tpK_tr s2 (tpK_tr s3 (tpK_tr s4 s5)))⟩
  · unfold f_X8_feed
    rw [h.1, show (20 : Int32) = nI 20 from rfl, nI_add, if_pos (by rw [show (600 : Int32) = nI 600 from rfl]; exact nI_le ht (by omega)), p1]
    dsimp only [Option.bind_some]
    rw [p2]
    dsimp only [Option.bind_some]
    rw [p3]
    dsimp only [Option.bind_some]
    rw [p4]
    dsimp only [Option.bind_some]
    rw [p5]
    dsimp only [Option.bind_some]
    rw [r5.1]
  · unfold f_X9_feed
    rw [show gj_sI σ9 188 (upd (σ9.1 188) 0 0) = t0 σ9 from rfl, h.2.1, show (20 : Int32) = nI 20 from rfl, nI_add, if_pos (by rw [show (600 : Int32) = nI 600 from rfl]; exact nI_le ht (by omega)), q1]
    dsimp only [Option.bind_some]
    rw [q2]
    dsimp only [Option.bind_some]
    rw [q3]
    dsimp only [Option.bind_some]
    rw [q4]
    dsimp only [Option.bind_some]
    rw [q5]
    dsimp only [Option.bind_some]
    rw [r5.2.1]
/-- the relation where only the tape changed -/
theorem rel_tape {K : Nat} {σ τ : gj_S} (hR : REL K σ) (h : reE τ) (f1 : ∀ k, relC k → k ≠ 0 → k ≠ 1 → k ≠ 189 → τ.1 k = σ.1 k) (f3 : τ.1 188 23 = σ.1 188 23) (f4 : τ.2 = σ.2) : REL K τ := by
  -- first all but the tape
  have h1 : REL K (gj_sI (gj_sI (gj_sI (gj_sI τ 0 (σ.1 0)) 1 (σ.1 1)) 189 (σ.1 189)) 188 (upd (τ.1 188) 2 (σ.1 188 2))) := by
    refine REL_fr hR ⟨fun k hk => ?_, ?_, ?_, by rw [show (gj_sI (gj_sI (gj_sI (gj_sI τ 0 (σ.1 0)) 1 (σ.1 1)) 189 (σ.1 189)) 188 (upd (τ.1 188) 2 (σ.1 188 2))).2 = τ.2 from rfl, f4], by rw [show (gj_sI (gj_sI (gj_sI (gj_sI τ 0 (σ.1 0)) 1 (σ.1 1)) 189 (σ.1 189)) 188 (upd (τ.1 188) 2 (σ.1 188 2))).2 = τ.2 from rfl, f4]⟩
    · show (if k = 188 then _ else if k = 189 then _ else if k = 1 then _ else if k = 0 then _ else τ.1 k) = _
      rw [if_neg (by unfold relC at hk; omega)]
      by_cases q1 : k = 189
      · rw [if_pos q1, q1]
      · rw [if_neg q1]
        by_cases q2 : k = 1
        · rw [if_pos q2, q2]
        · rw [if_neg q2]
          by_cases q3 : k = 0
          · rw [if_pos q3, q3]
          · rw [if_neg q3]
            exact f1 k hk q3 q2 q1
    · rfl
    · exact f3
  obtain ⟨n, r, b0, e0, hS, ⟨hB1, up, par, rk, dp, pr, hB2, hB3⟩, ⟨u, nx, u1, u2, u3, u4, u5, u6⟩, hD, -, hF⟩ := h1
  exact ⟨n, r, b0, e0, hS, ⟨rw1_fr hB1 (fun k a1 a2 => by
    show τ.1 k = (if k = 188 then _ else if k = 189 then _ else if k = 1 then _ else if k = 0 then _ else τ.1 k)
    rw [if_neg (by omega), if_neg (by omega), if_neg (by omega), if_neg (by omega)]), up, par, rk, dp, pr, hB2, hB3⟩, ⟨u, nx, u1, u2, u3, u4, u5, fun g hg => rw1_fr (u6 g hg) (fun k a1 a2 => by
    have hm : (nx + 11 - g) % 12 < 12 := Nat.mod_lt _ (by omega)
    show τ.1 k = (if k = 188 then _ else if k = 189 then _ else if k = 1 then _ else if k = 0 then _ else τ.1 k)
    rw [if_neg (by omega), if_neg (by omega), if_neg (by omega), if_neg (by omega)])⟩, fun k hk => by
    rcases hD k hk with a | ⟨a1, a2, a3⟩
    · exact .inl a
    · exact .inr ⟨a1, a2, rw1_fr a3 (fun k a1 a2 => by
        show τ.1 k = (if k = 188 then _ else if k = 189 then _ else if k = 1 then _ else if k = 0 then _ else τ.1 k)
        rw [if_neg (by omega), if_neg (by omega), if_neg (by omega), if_neg (by omega)])⟩, h, hF⟩
theorem k_0 {K : Nat} {σ : gj_S} (hR : REL K σ) (c1 c2 c3 c4 c5 : Int32) : ∃ τ, gl_0 c1 c2 c3 c4 c5 σ = some τ ∧ REL (K + 100) τ := by
  obtain ⟨-, -, -, -, -, -, -, -, ⟨t, t1, t2, t3, t4⟩, -⟩ := id hR
  by_cases ht : t + 20 ≤ 600
  · have hb : tpB t σ (t0 σ) := ⟨t2, t3, t4⟩
    obtain ⟨x8, y9, e8, _, _, k8⟩ := feed_both (a := c1) (b := c2) (c := c3) (d := c4) (e := c5) hb ht
    have hb2 : tpB t σ (t0 x8) := by
      refine ⟨t2, ?_, fun q hq => ?_⟩
      · show x8.1 188 2 = _
        rw [k8.1 188 (by decide) (by decide)]
        exact t3
      · rw [t0_c (by decide), k8.1 189 (by decide) (by decide)]
        exact t4 q hq
    obtain ⟨x8', x9, e8', e9, b9, k9⟩ := feed_both (a := c1) (b := c2) (c := c3) (d := c4) (e := c5) hb2 ht
    rw [e8] at e8'
    cases e8'
    refine ⟨x9, ?_, REL_mono (rel_tape hR ⟨t + 20, ht, ?_, b9.2.1, fun q hq => ?_⟩ (fun k hk a1 a2 a3 => ?_) ?_ ?_) (by omega)⟩
    · unfold gl_0
      rw [e8]
      dsimp only [Option.bind_some]
      rw [e9]
      exact if_pos rfl
    · rw [k9.2.2.1 0 (by decide) (by decide), t0_c (by decide)]
      exact b9.1
    · have := b9.2.2 q hq
      rw [k9.2.2.1 1 (by decide) (by decide), t0_c (by decide)]
      exact this
    · rw [k9.2.2.1 k (by unfold relC at hk; omega) a3, t0_c (by unfold relC at hk; omega)]
      exact k8.1 k a1 a2
    · rw [k9.2.2.2.1 23 (by decide), t0_j (by decide), k8.1 188 (by decide) (by decide)]
    · rw [k9.2.2.2.2]
      exact k8.2.1
  · have h0 : smX σ (gj_sI σ 188 (upd (σ.1 188) 0 0)) := smX_t
    refine rc_S (v := -1) (s1 := σ) ?_ ?_ hR
    · unfold f_X8_feed
      rw [t2, show (20 : Int32) = nI 20 from rfl, nI_add, if_neg (by rw [show (600 : Int32) = nI 600 from rfl]; exact nI_ge (by omega) (by omega))]
    · unfold f_X9_feed
      rw [show (gj_sI σ 188 (upd (σ.1 188) 0 0)).1 188 2 = nI t from t3, show (20 : Int32) = nI 20 from rfl, nI_add]
      exact tp_f (by rw [show (600 : Int32) = nI 600 from rfl]; exact nI_ge (by omega) (by omega)) (tp_some ⟨rfl, frK_X h0⟩)
