/-! ===== call tried ===== -/
theorem pmR_cp {n r a c : Nat} {b0 e0 : Nat → Nat} {s : Nat → Int32} {σ τ : gj_S} (hg : gS n r b0 e0) (h : pmR n r b0 e0 s c σ) (hc : cpE a c σ τ) : pmR n r b0 e0 s a τ := by
  have hn := hg.1
  have hr := hg.2.1
  obtain ⟨m1, m2, m3, m4, m5⟩ := h
  obtain ⟨c1, c2, c3, -⟩ := hc
  refine ⟨by rw [c1 0 (by omega)]; exact m1, by rw [c1 1 (by omega)]; exact m2, by rw [c1 2 (by omega)]; exact m3, fun d hd => by rw [c2 d (by omega)]; exact m4 d hd, fun w hw => ?_⟩
  obtain ⟨g1, g2, g3, g4, -, -⟩ := c3 w (by omega)
  rw [g1, g2, g3, g4]
  exact m5 w hw
theorem pmR_c {n r b w : Nat} {b0 e0 : Nat → Nat} {s : Nat → Int32} {v : Int32} {σ : gj_S} (hg : gS n r b0 e0) (h : pmR n r b0 e0 s b σ) : pmR n r b0 e0 (upd s (8 + w) v) b (gj_sI σ (b + 4) (upd (σ.1 (b + 4)) w v)) ∨ r ≤ w := by
  have hn := hg.1
  have hr := hg.2.1
  by_cases hw : w < r
  · obtain ⟨m1, m2, m3, m4, m5⟩ := h
    refine .inl ⟨by rw [sI_ne (by omega)]; exact m1, by rw [sI_ne (by omega)]; exact m2, by rw [sI_ne (by omega), up_ne (by omega)]; exact m3, fun d hd => by rw [sI_ne (by omega), up_ne (by omega)]; exact m4 d hd, fun x hx => ?_⟩
    obtain ⟨g1, g2, g3, g4⟩ := m5 x hx
    rw [sI_ne (by omega), sI_ne (by omega), sI_eq, sI_ne (by omega), up_ne (show 24 + x ≠ 8 + w by omega)]
    refine ⟨g1, g2, ?_, g4⟩
    by_cases q : x = w
    · rw [q, up_eq, up_eq]
    · rw [up_ne q, up_ne (by omega)]
      exact g3
  · exact .inr (by omega)
theorem pmR_h {n r b w : Nat} {b0 e0 : Nat → Nat} {s : Nat → Int32} {v : Int32} {σ : gj_S} (hg : gS n r b0 e0) (h : pmR n r b0 e0 s b σ) : pmR n r b0 e0 (upd s (24 + w) v) b (gj_sI σ (b + 5) (upd (σ.1 (b + 5)) w v)) ∨ r ≤ w := by
  have hn := hg.1
  have hr := hg.2.1
  by_cases hw : w < r
  · obtain ⟨m1, m2, m3, m4, m5⟩ := h
    refine .inl ⟨by rw [sI_ne (by omega)]; exact m1, by rw [sI_ne (by omega)]; exact m2, by rw [sI_ne (by omega), up_ne (by omega)]; exact m3, fun d hd => by rw [sI_ne (by omega), up_ne (by omega)]; exact m4 d hd, fun x hx => ?_⟩
    obtain ⟨g1, g2, g3, g4⟩ := m5 x hx
    rw [sI_ne (by omega), sI_ne (by omega), sI_ne (by omega), sI_eq, up_ne (show 8 + x ≠ 24 + w by omega)]
    refine ⟨g1, g2, g3, ?_⟩
    by_cases q : x = w
    · rw [q, up_eq, up_eq]
    · rw [up_ne q, up_ne (by omega)]
      exact g4
  · exact .inr (by omega)
theorem pmR_g {n r b d : Nat} {b0 e0 : Nat → Nat} {s : Nat → Int32} {v : Int32} {σ : gj_S} (hg : gS n r b0 e0) (h : pmR n r b0 e0 s b σ) : pmR n r b0 e0 (upd s d v) b (gj_sI σ (b + 1) (upd (σ.1 (b + 1)) d v)) ∨ n ≤ d := by
  have hn := hg.1
  have hr := hg.2.1
  by_cases hd : d < n
  · obtain ⟨m1, m2, m3, m4, m5⟩ := h
    refine .inl ⟨by rw [sI_ne (by omega)]; exact m1, by rw [sI_ne (by omega)]; exact m2, by rw [sI_ne (by omega), up_ne (by omega)]; exact m3, fun x hx => ?_, fun x hx => ?_⟩
    · rw [sI_eq]
      by_cases q : x = d
      · rw [q, up_eq, up_eq]
      · rw [up_ne q, up_ne q]
        exact m4 x hx
    · rw [sI_ne (by omega), sI_ne (by omega), sI_ne (by omega), sI_ne (by omega), up_ne (by omega), up_ne (by omega)]
      exact m5 x hx
  · exact .inr (by omega)
/-- rows that can be tried -/
def okR (n r : Nat) (s : Nat → Int32) : Prop := (∃ b, 1 ≤ b ∧ b ≤ 24 ∧ s 40 = nI b) ∧ (∀ w, w < r → ∃ c, c ≤ 999 ∧ s (8 + w) = nI c) ∧ (∀ w, w < r → ∃ c, c ≤ 999 ∧ s (24 + w) = nI c) ∧ (∀ d, d < n → -999 ≤ (s d).toInt ∧ (s d).toInt ≤ 999) ∧ ∃ z0, ∀ w, w < r → w ≠ z0 → s (24 + w) ≠ 0
/-- a trial that the class breaks off at its bound -/
def hitW : Prop := ∃ n r b0 e0 s1 z3 x7 x8, gS n r b0 e0 ∧ okR n r s1 ∧ pmR n r b0 e0 s1 36 z3 ∧ f_X7_beginAll 35 z3 = some x7 ∧ f_X7_makePivots 35 1000000 x7 = some (1000000, x8)
theorem r9_72 {b1 b2 b3 b4 : Int32} {σ : gj_S} : TP (gj_lp (fb_X9_tried_l72 b1 b2 b3 b4) 5000 (0, σ)) (fun z => (∀ c, c ≠ 202 → z.1 c = σ.1 c) ∧ z.2 = σ.2 ∧ ∀ q, q < 180 → z.1 202 q = σ.1 198 q) := by
  refine tp_mono (lp_iv (N := 180) (I := fun k τ => (∀ c, c ≠ 202 → τ.1 c = σ.1 c) ∧ τ.2 = σ.2 ∧ ∀ q, q < k → τ.1 202 q = σ.1 198 q) (by omega) ⟨fun _ _ => rfl, rfl, fun j hj => absurd hj (Nat.not_lt_zero _)⟩ (fun τ _ => ?_) (fun k τ hk hI => ?_)) (fun z hz => hz)
  · unfold fb_X9_tried_l72
    exact if_pos (show (180 : Int32) ≤ nI 180 by decide)
  · obtain ⟨i1, i2, i3⟩ := hI
    unfold fb_X9_tried_l72
    dsimp only
    simp only [nI_clamp (show k < 2 ^ 31 by omega)]
    refine tp_f (nI_ge (b := 180) (by omega) (by omega)) (tp_t (gi (by omega) (by omega)) (tp_t (gi (by omega) (by omega)) (tp_some (iv_s ⟨fun c hc => by rw [sI_ne hc]; exact i1 c hc, i2, fun q hq => ?_⟩))))
    rw [sI_eq]
    by_cases q2 : q = k
    · rw [q2, up_eq, i1 198 (by decide)]
    · rw [up_ne q2]
      exact i3 q (by omega)
theorem r9_179 {b6 : Int32} {σ : gj_S} : TP (gj_lp (fb_X9_tried_l179 b6) 5000 (0, σ)) (fun z => (∀ c, c ≠ 198 → z.1 c = σ.1 c) ∧ z.2 = σ.2 ∧ ∀ q, q < 180 → z.1 198 q = σ.1 202 q) := by
  refine tp_mono (lp_iv (N := 180) (I := fun k τ => (∀ c, c ≠ 198 → τ.1 c = σ.1 c) ∧ τ.2 = σ.2 ∧ ∀ q, q < k → τ.1 198 q = σ.1 202 q) (by omega) ⟨fun _ _ => rfl, rfl, fun j hj => absurd hj (Nat.not_lt_zero _)⟩ (fun τ _ => ?_) (fun k τ hk hI => ?_)) (fun z hz => hz)
  · unfold fb_X9_tried_l179
    exact if_pos (show (180 : Int32) ≤ nI 180 by decide)
  · obtain ⟨i1, i2, i3⟩ := hI
    unfold fb_X9_tried_l179
    dsimp only
    simp only [nI_clamp (show k < 2 ^ 31 by omega)]
    refine tp_f (nI_ge (b := 180) (by omega) (by omega)) (tp_t (gi (by omega) (by omega)) (tp_t (gi (by omega) (by omega)) (tp_some (iv_s ⟨fun c hc => by rw [sI_ne hc]; exact i1 c hc, i2, fun q hq => ?_⟩))))
    rw [sI_eq]
    by_cases q2 : q = k
    · rw [q2, up_eq, i1 202 (by decide)]
    · rw [up_ne q2]
      exact i3 q (by omega)
/-- the reference's trial behind the tests -/
def tl9 (b1 b2 b3 b4 : Int32) (σ : gj_S) : Option (Int32 × gj_S) := ((gj_lp (fb_X9_tried_l72 b1 b2 b3 b4) 5000 ((0 : Int32), σ)).bind fun z4 => ((if b1 = 0 then some (8 : Int32) else (if b1 = (1 : Int32) then some (24 : Int32) else some (0 : Int32)) : Option Int32).bind fun z5 => (if gj_in (z5 + b2) 180 then ((f_X9_begins (gj_sI z4 198 (upd (z4.1 198) (Int32.toNatClampNeg (z5 + b2)) b3))).bind fun x7 => ((gj_lp (fb_X9_tried_l135 b4) 1000000000000 ((1 : Int32), x7)).bind fun z8 => ((if b4 = 0 then ((f_X9_costNow z8).bind fun x10 => some x10) else ((f_X9_allLack z8).bind fun x11 => some x11) : Option Int32).bind fun z9 => ((gj_lp (fb_X9_tried_l179 z9) 5000 ((0 : Int32), z8)).bind fun z12 => some (z9, z12))))) else none)))
theorem tl9_eq (b1 b2 b3 b4 : Int32) (σ : gj_S) : f_X9_tried b1 b2 b3 b4 σ = ((f_X9_within (Int32.toInt64 b1) (0 : Int64) (2 : Int64)).bind fun x1 => (if x1 = 0 then some ((-1 : Int32), t0 σ) else (if (2 : Int32) ≤ b1 then ((f_X9_isDock b2 (t0 σ)).bind fun x2 => (if x2 = 0 then some ((-1 : Int32), t0 σ) else ((f_X9_within (Int32.toInt64 b3) (-999 : Int64) (999 : Int64)).bind fun x3 => (if x3 = 0 then some ((-1 : Int32), t0 σ) else tl9 b1 b2 b3 b4 (t0 σ))))) else ((f_X9_isRoute b2 (t0 σ)).bind fun x13 => (if x13 = 0 then some ((-1 : Int32), t0 σ) else ((f_X9_within (Int32.toInt64 b3) (0 : Int64) (999 : Int64)).bind fun x14 => (if x14 = 0 then some ((-1 : Int32), t0 σ) else tl9 b1 b2 b3 b4 (t0 σ)))))))) := rfl
def an9 (n r : Nat) (b4 : Int32) (s : Nat → Int32) : Int32 := if b4 = 0 then vZ r s else su (vl r s) n
theorem tl9_ok {n r at' k : Nat} {b0 e0 : Nat → Nat} {b1 b2 b3 b4 z5 : Int32} {σ x8 : gj_S} (hS : rS n r b0 e0 σ) (ho : (if b1 = 0 then some (8 : Int32) else (if b1 = (1 : Int32) then some (24 : Int32) else some (0 : Int32)) : Option Int32) = some z5) (hat : z5 + b2 = nI at') (h180 : at' < 180) (hrun : ∀ σ9 : gj_S, rS n r b0 e0 σ9 → bgR n r (upd (σ.1 198) at' b3) (σ9.1 198) → ∃ z9, gj_lp (fb_X9_tried_l135 b4) 1000000000000 (1, σ9) = some z9 ∧ smP σ9 z9 ∧ (k = 1000000 ∨ (pm n r b0 e0 (z9.1 198) 36 x8 ∧ fP n r 7992 (z9.1 198)))) :
    TP (tl9 b1 b2 b3 b4 σ) (fun x => (∀ c, c ≠ 188 → c ≠ 198 → (c < 202 ∨ 208 < c) → x.2.1 c = σ.1 c) ∧ (∀ j, j ≠ 30 → (j < 33 ∨ 36 < j) → x.2.1 188 j = σ.1 188 j) ∧ x.2.2 = σ.2 ∧ rwQ (σ.1 198) (x.2.1 198) ∧ (k = 1000000 ∨ ∃ s9, x.1 = an9 n r b4 s9 ∧ pm n r b0 e0 s9 36 x8 ∧ fP n r 7992 s9)) := by
  unfold tl9
  refine tp_bind r9_72 (fun z4 hz4 => tp_beq ho ?_)
  obtain ⟨a1, a2, a3⟩ := hz4
  rw [hat]
  refine tp_t (gi h180 (by omega)) ?_
  rw [nI_clamp (by omega), a1 198 (by decide)]
  have hS4 : rS n r b0 e0 (gj_sI z4 198 (upd (σ.1 198) at' b3)) := by
    unfold rS at hS ⊢
    rw [sI_ne (by decide), sI_ne (by decide), sI_ne (by decide), sI_ne (by decide), a1 190 (by decide), a1 191 (by decide), a1 194 (by decide), a1 195 (by decide)]
    exact hS
  refine tp_bind (r9_begins hS.1 hS.2.1 hS4.2.2.1 hS4.2.2.2.1) (fun x7 hx7 => ?_)
  obtain ⟨d1, d2, d3⟩ := hx7
  rw [sI_eq] at d3
  have hS7 : rS n r b0 e0 x7 := by
    unfold rS at hS4 ⊢
    rw [d1 190 (by decide), d1 191 (by decide), d1 194 (by decide), d1 195 (by decide)]
    exact hS4
  obtain ⟨z8, e8, s8, h8⟩ := hrun x7 hS7 d3
  refine tp_beq e8 ?_
  have hS8 := smP_S s8 hS7
  refine tp_beq (x := an9 n r b4 (z8.1 198)) ?_ (tp_bind r9_179 (fun z12 hz12 => tp_some ?_))
  · unfold an9
    by_cases q : b4 = 0
    · rw [if_pos q, if_pos q, r9_cost hS8]
      rfl
    · rw [if_neg q, if_neg q, r9_allLack hS8]
      rfl
  · obtain ⟨f1, f2, f3⟩ := hz12
    refine ⟨fun c c1 c2 c3 => ?_, fun j j1 j2 => ?_, ?_, fun q hq => ?_, ?_⟩
    · rw [f1 c c2, s8.1 c c1 c2 (by omega), d1 c c2, sI_ne c2, a1 c (by omega)]
    · rw [f1 188 (by decide), s8.2.1 j j1 j2, d1 188 (by decide), sI_ne (by decide), a1 188 (by decide)]
    · rw [f2, s8.2.2, d2]
      exact a2
    · rw [f3 q hq, s8.1 202 (by decide) (by decide) (by decide), d1 202 (by decide), sI_ne (by decide), a3 q hq]
    · rcases h8 with x | x
      · exact .inl x
      · exact .inr ⟨_, rfl, x.1, x.2⟩
/-- behind a trial all is as it was -/
theorem REL_tr {K : Nat} {σ τ : gj_S} (h : REL K σ) (h1 : ∀ k, relC k → k ≠ 198 → τ.1 k = σ.1 k) (h2 : τ.1 188 2 = σ.1 188 2) (h3 : τ.1 188 23 = σ.1 188 23) (h4 : τ.2 = σ.2) (hq : rwQ (σ.1 198) (τ.1 198)) : REL K τ := by
  obtain ⟨n, r, b0, e0, hS, ⟨hB1, up, par, rk, dp, pr, hB2, hB3⟩, ⟨u, nx, u1, u2, u3, u4, u5, u6⟩, hD, ⟨t, t1, t2, t3, t4⟩, hF⟩ := h
  have rc : ∀ k, ((17 ≤ k ∧ k ≤ 30) ∨ (54 ≤ k ∧ k ≤ 165) ∨ (170 ≤ k ∧ k ≤ 187)) → τ.1 k = σ.1 k := fun k hk => h1 k (by unfold relC; omega) (by omega)
  have hg := rS_g hS
  have hn := hS.1
  have hr := hS.2.1
  refine ⟨n, r, b0, e0, ?_, ⟨?_, up, par, rk, dp, pr, ?_, ?_⟩, ⟨u, nx, u1, u2, h3.trans u3, by rw [rc 54 (by omega)]; exact u4, by rw [rc 54 (by omega)]; exact u5, fun g hg => ?_⟩, fun k hk => ?_, ⟨t, t1, by rw [h1 0 (by unfold relC; omega) (by omega)]; exact t2, h2.trans t3, fun q hq => ?_⟩, fun w hw => ?_⟩
  · unfold rS at hS ⊢
    rw [h1 190 (by unfold relC; omega) (by omega), h1 191 (by unfold relC; omega) (by omega), h1 194 (by unfold relC; omega) (by omega), h1 195 (by unfold relC; omega) (by omega)]
    exact hS
  · exact rw1_rw hg (rw1_fr hB1 (fun k h1 h2 => rc k (by omega))) hq
  · exact rT_cg hS ⟨fun q q1 q2 => hq q (by omega), fun q q1 q2 => hq q (by omega)⟩ (fun w hw => by unfold vT; rw [hq (74 + w) (by omega)]) hB2
  · unfold t8 at hB3 ⊢
    rw [rc (26 + 1) (by omega), rc (26 + 2) (by omega), rc (26 + 3) (by omega), rc (26 + 4) (by omega)]
    exact hB3
  · have hm : (nx + 11 - g) % 12 < 12 := Nat.mod_lt _ (by omega)
    have : ur τ (u - 1 - g) = ur σ (u - 1 - g) := by
      unfold ur
      rw [h1 199 (by unfold relC; omega) (by omega)]
    rw [this]
    exact rw1_fr (u6 g hg) (fun k h1 h2 => rc k (by omega))
  · have : kr τ k = kr σ k := by
      unfold kr
      rw [h1 200 (by unfold relC; omega) (by omega)]
    rw [this, rc 165 (by omega), h1 201 (by unfold relC; omega) (by omega)]
    rcases hD k hk with a | ⟨a1, a2, a3⟩
    · exact .inl a
    · exact .inr ⟨a1, a2, rw1_fr a3 (fun k h1 h2 => rc k (by omega))⟩
  · rw [h1 1 (by unfold relC; omega) (by omega), h1 189 (by unfold relC; omega) (by omega)]
    exact t4 q hq
  · rw [h4]
    exact hF w hw
