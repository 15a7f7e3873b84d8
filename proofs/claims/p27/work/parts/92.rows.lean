/-! ===== rows copied, begun, kept, undone (reference) ===== -/
/-- a loop that fills places of one cell, one a turn -/
theorem lp_fill {f : Int32 × gj_S → Option (gj_S ⊕ (Int32 × gj_S))} {σ : gj_S} {o N c : Nat} {g : Nat → Nat} {v : Nat → Int32} (hN : N < 5000) (hg : ∀ k l, k < l → l < N → g k ≠ g l) (hstop : ∀ τ, (∀ c', c' ≠ c → τ.1 c' = σ.1 c') → f (nI (o + N), τ) = some (.inl τ))
    (hstep : ∀ k, k < N → ∀ τ : gj_S, (∀ c', c' ≠ c → τ.1 c' = σ.1 c') → τ.2 = σ.2 → (∀ q, (∀ k', k' < k → q ≠ g k') → τ.1 c q = σ.1 c q) → f (nI (o + k), τ) = some (.inr (nI (o + k + 1), gj_sI τ c (upd (τ.1 c) (g k) (v k))))) :
    TP (gj_lp f 5000 (nI o, σ)) (fun z => (∀ c', c' ≠ c → z.1 c' = σ.1 c') ∧ z.2 = σ.2 ∧ (∀ k, k < N → z.1 c (g k) = v k) ∧ ∀ q, (∀ k, k < N → q ≠ g k) → z.1 c q = σ.1 c q) := by
  have main : ∀ (d k : Nat) (τ : gj_S), k + d = N → (∀ c', c' ≠ c → τ.1 c' = σ.1 c') → τ.2 = σ.2 → (∀ k', k' < k → τ.1 c (g k') = v k') → (∀ q, (∀ k', k' < k → q ≠ g k') → τ.1 c q = σ.1 c q) → ∀ fu, d < fu → TP (gj_lp f fu (nI (o + k), τ)) (fun z => (∀ c', c' ≠ c → z.1 c' = σ.1 c') ∧ z.2 = σ.2 ∧ (∀ k, k < N → z.1 c (g k) = v k) ∧ ∀ q, (∀ k, k < N → q ≠ g k) → z.1 c q = σ.1 c q) := by
    intro d
    induction d with
    | zero =>
      intro k τ hk h1 h2 h3 h4 fu hfu
      obtain ⟨fu', rfl⟩ : ∃ x, fu = x + 1 := ⟨fu - 1, by omega⟩
      have e : k = N := by omega
      subst e
      rw [gj_lp_e (hstop τ h1)]
      exact tp_some ⟨h1, h2, h3, h4⟩
    | succ d ih =>
      intro k τ hk h1 h2 h3 h4 fu hfu
      obtain ⟨fu', rfl⟩ : ∃ x, fu = x + 1 := ⟨fu - 1, by omega⟩
      rw [gj_lp_g (hstep k (by omega) τ h1 h2 h4)]
      refine ih (k + 1) (gj_sI τ c (upd (τ.1 c) (g k) (v k))) (by omega) (fun c' hc => ?_) h2 (fun k' hk' => ?_) (fun q hq => ?_) fu' (by omega)
      · show (if c' = c then _ else τ.1 c') = _
        rw [if_neg hc]
        exact h1 c' hc
      · show (if c = c then upd (τ.1 c) (g k) (v k) else τ.1 c) (g k') = _
        rw [if_pos rfl]
        show (if g k' = g k then v k else τ.1 c (g k')) = _
        by_cases e : k' = k
        · subst e
          rw [if_pos rfl]
        · rw [if_neg (hg k' k (by omega) (by omega))]
          exact h3 k' (by omega)
      · show (if c = c then upd (τ.1 c) (g k) (v k) else τ.1 c) q = _
        rw [if_pos rfl]
        show (if q = g k then v k else τ.1 c q) = _
        rw [if_neg (hq k (by omega))]
        exact h4 q (fun k' hk' => hq k' (by omega))
  exact main N 0 σ (by omega) (fun _ _ => rfl) rfl (fun k' hk => absurd hk (Nat.not_lt_zero _)) (fun _ _ => rfl) 5000 hN
/-- rows alike in their 180 numbers -/
def rwQ (s s' : Nat → Int32) : Prop := ∀ q, q < 180 → s' q = s q
theorem rwQ_rf {s : Nat → Int32} : rwQ s s := fun _ _ => rfl
theorem rP_cg {n r : Nat} {b0 e0 : Nat → Nat} {σ : gj_S} (hS : rS n r b0 e0 σ) {s s' : Nat → Int32} (h : rwQ s s') (hP : rP n r b0 e0 s) : rP n r b0 e0 s' := by
  have hn := hS.1
  have hr := hS.2.1
  have hE : rwE s s' := ⟨fun q _ _ => h q (by omega), fun q _ _ => h q (by omega)⟩
  obtain ⟨⟨up, par, rk, hc⟩, h1, ⟨b, b1, b2, b3⟩, ⟨p, p1, p2⟩, ⟨q, q1, q2⟩, h4, h5, h6⟩ := hP
  refine ⟨⟨up, par, rk, tc_cg hc.1 (fun w hw => ⟨(rwE_b hS hE hw).1, (rwE_b hS hE hw).2.1, by unfold vT; rw [h _ (by omega)]⟩), hc.2⟩, fun w hw => by rw [h _ (by omega)]; exact h1 w hw, ⟨b, b1, b2, by rw [h 40 (by omega)]; exact b3⟩, ⟨p, by rw [h 41 (by omega)]; exact p1, p2⟩, ⟨q, q1, by rw [h 99 (by omega)]; exact q2⟩, fun w hw => by rw [h _ (by omega)]; exact h4 w hw, fun w hw => by rw [h _ (by omega)]; exact h5 w hw, fun d hd => by rw [h _ (by omega)]; exact h6 d hd⟩
/-- a pivot keeps it -/
theorem pv_P {n r : Nat} {b0 e0 : Nat → Nat} {σ : gj_S} (hS : rS n r b0 e0 σ) {s s' : Nat → Int32} {up par up2 par2 rk2 dp2 : Nat → Nat} {pr pr2 : Nat → Int32} {a w i j lv : Nat} (hP : rP n r b0 e0 s) (ha : a < r + n ∨ (a = 0 ∧ r + n = 0)) (h : pvR n r b0 e0 s up par pr pr2 a w i j lv s') (hT : rT n r b0 e0 s' up2 par2 rk2 dp2 pr2) : rP n r b0 e0 s' := by
  have hn := hS.1
  have hr := hS.2.1
  obtain ⟨-, h1, ⟨b, b1, b2, b3⟩, -, ⟨q, q1, q2⟩, h4, h5, h6⟩ := hP
  obtain ⟨k1, k2, k3, k4, k5, k6, k7, k8, -⟩ := h
  refine ⟨⟨up2, par2, rk2, hT.1⟩, fun v hv => ?_, ⟨b, b1, b2, (k1 40 (by omega)).trans b3⟩, ⟨a, k2, ha⟩, ?_, fun v hv => by rw [k1 _ (by omega)]; exact h4 v hv, fun v hv => by rw [k1 _ (by omega)]; exact h5 v hv, fun d hd => by rw [k1 _ (by omega)]; exact h6 d hd⟩
  · rw [k6 v (by omega)]
    have := h1 v hv
    repeat' split
    all_goals first | exact .inl rfl | exact .inr (.inl rfl) | exact .inr (.inr rfl) | exact this
  · rw [k8, q2]
    by_cases e : q = 16
    · refine ⟨16, by omega, ?_⟩
      subst e
      rw [if_pos (by decide)]
    · refine ⟨q + 1, by omega, ?_⟩
      rw [show (16 : Int32) = nI 16 from rfl, if_neg (nI_ge (by omega) (by omega)), nI_1]
/-- begun: the row -/
def bgR (n r : Nat) (s s' : Nat → Int32) : Prop := (∀ q, q < 41 → s' q = s q) ∧ s' 41 = 0 ∧ (∀ d, d < n → s' (42 + d) = if s d < 0 then 0 else 1) ∧ (∀ w, w < 24 → s' (50 + w) = if r ≤ w ∧ w < r + n then (if s (w - r) < 0 then 0 - s (w - r) else s (w - r)) else 0) ∧ (∀ w, w < 24 → s' (74 + w) = if r ≤ w ∧ w < r + n then 0 else 1) ∧ ∀ q, 98 ≤ q → q < 180 → s' q = 0
theorem r9_bg2 {σ : gj_S} : TP (gj_lp fb_X9_begins_l2 5000 (0, σ)) (fun z => (∀ k, k ≠ 198 → z.1 k = σ.1 k) ∧ z.2 = σ.2 ∧ (∀ q, (q < 50 ∨ 98 ≤ q) → z.1 198 q = σ.1 198 q) ∧ ∀ w, w < 24 → z.1 198 (50 + w) = 0 ∧ z.1 198 (74 + w) = 1) := by
  refine tp_lp (I := fun a => ∃ t, t ≤ 24 ∧ a.1 = nI t ∧ (∀ k, k ≠ 198 → a.2.1 k = σ.1 k) ∧ a.2.2 = σ.2 ∧ (∀ q, (q < 50 ∨ 98 ≤ q) → a.2.1 198 q = σ.1 198 q) ∧ ∀ w, w < t → a.2.1 198 (50 + w) = 0 ∧ a.2.1 198 (74 + w) = 1) (fun a => 24 - a.1.toNatClampNeg) ?_ 5000 (0, σ) ⟨0, by omega, rfl, fun _ _ => rfl, rfl, fun _ _ => rfl, fun w hw => absurd hw (Nat.not_lt_zero _)⟩ (by dsimp only; omega)
  rintro ⟨x, τ⟩ ⟨t, h1, h2, h3, h4, h5, h6⟩
  dsimp only at h2 h3 h4 h5 h6
  subst h2
  unfold fb_X9_begins_l2
  dsimp only
  by_cases e : t = 24
  · subst e
    exact tp_t (by decide) (tp_some ⟨h3, h4, h5, h6⟩)
  · refine tp_f (by rw [show (24 : Int32) = nI 24 from rfl]; exact nI_ge (by omega) (by omega)) ?_
    simp only [show (50 : Int32) = nI 50 from rfl, show (74 : Int32) = nI 74 from rfl, nI_add, nI_clamp (show 50 + t < 2 ^ 31 by omega), nI_clamp (show 74 + t < 2 ^ 31 by omega)]
    refine tp_t (gi (by omega) (by omega)) (tp_t (gi (by omega) (by omega)) (tp_beq rfl (tp_some ⟨⟨t + 1, by omega, nI_1 _, fun k hk => ?_, h4, fun q hq => ?_, fun w hw => ⟨?_, ?_⟩⟩, ?_⟩)))
    · show (if k = 198 then _ else if k = 198 then _ else τ.1 k) = _
      rw [if_neg hk, if_neg hk]
      exact h3 k hk
    · show (if q = 74 + t then _ else if q = 50 + t then _ else τ.1 198 q) = _
      rw [if_neg (by omega), if_neg (by omega)]
      exact h5 q hq
    · show (if 50 + w = 74 + t then _ else if 50 + w = 50 + t then _ else τ.1 198 (50 + w)) = _
      rw [if_neg (by omega)]
      by_cases q : w = t
      · rw [if_pos (by omega)]
      · rw [if_neg (by omega)]
        exact (h6 w (by omega)).1
    · show (if 74 + w = 74 + t then _ else if 74 + w = 50 + t then _ else τ.1 198 (74 + w)) = _
      by_cases q : w = t
      · rw [if_pos (by omega)]
      · rw [if_neg (by omega), if_neg (by omega)]
        exact (h6 w (by omega)).2
    · dsimp only
      first | omega | ((repeat rw [nI_1]); (repeat rw [nI_clamp (by omega)]); omega)
theorem r9_bg36 {n r : Nat} {σ : gj_S} (hn : n ≤ 8) (hr : r ≤ 16) (h190 : σ.1 190 0 = nI n) (h191 : σ.1 191 0 = nI r) : TP (gj_lp fb_X9_begins_l36 5000 (0, σ)) (fun z => (∀ k, k ≠ 198 → z.1 k = σ.1 k) ∧ z.2 = σ.2 ∧ (∀ q, (∀ d, d < n → q ≠ 42 + d ∧ q ≠ 50 + (r + d) ∧ q ≠ 74 + (r + d)) → z.1 198 q = σ.1 198 q) ∧ ∀ d, d < n → z.1 198 (42 + d) = (if σ.1 198 d < 0 then 0 else 1) ∧ z.1 198 (50 + (r + d)) = (if σ.1 198 d < 0 then 0 - σ.1 198 d else σ.1 198 d) ∧ z.1 198 (74 + (r + d)) = 0) := by
  refine tp_lp (I := fun a => ∃ t, t ≤ n ∧ a.1 = nI t ∧ (∀ k, k ≠ 198 → a.2.1 k = σ.1 k) ∧ a.2.2 = σ.2 ∧ (∀ q, (∀ d, d < t → q ≠ 42 + d ∧ q ≠ 50 + (r + d) ∧ q ≠ 74 + (r + d)) → a.2.1 198 q = σ.1 198 q) ∧ ∀ d, d < t → a.2.1 198 (42 + d) = (if σ.1 198 d < 0 then 0 else 1) ∧ a.2.1 198 (50 + (r + d)) = (if σ.1 198 d < 0 then 0 - σ.1 198 d else σ.1 198 d) ∧ a.2.1 198 (74 + (r + d)) = 0) (fun a => n - a.1.toNatClampNeg) ?_ 5000 (0, σ) ⟨0, by omega, rfl, fun _ _ => rfl, rfl, fun _ _ => rfl, fun w hw => absurd hw (Nat.not_lt_zero _)⟩ (by dsimp only; omega)
  rintro ⟨x, τ⟩ ⟨t, h1, h2, h3, h4, h5, h6⟩
  dsimp only at h2 h3 h4 h5 h6
  subst h2
  have e190 : τ.1 190 0 = nI n := by rw [h3 190 (by decide)]; exact h190
  have e191 : τ.1 191 0 = nI r := by rw [h3 191 (by decide)]; exact h191
  unfold fb_X9_begins_l36
  dsimp only
  refine tp_t (gj0 (by decide)) ?_
  simp only [rd0, e190]
  by_cases e : t = n
  · subst e
    exact tp_t (nI_le (by omega) (by omega)) (tp_some ⟨h3, h4, h5, h6⟩)
  · refine tp_f (nI_ge (by omega) (by omega)) ?_
    have e0 : (0 : Int32) + nI t = nI t := by rw [show (0 : Int32) = nI 0 from rfl, nI_add, Nat.zero_add]
    have hst : τ.1 198 t = σ.1 198 t := h5 t (fun d hd => by omega)
    simp only [e0, show (42 : Int32) = nI 42 from rfl, nI_add, nI_clamp (show t < 2 ^ 31 by omega), nI_clamp (show 42 + t < 2 ^ 31 by omega), hst]
    refine tp_t (gi (by omega) (by omega)) (tp_beq (x := if σ.1 198 t < 0 then 0 else 1) (by split <;> rfl) ?_)
    refine tp_t (gi (by omega) (by omega)) (tp_t (gj0 (by decide)) (tp_beq (x := if σ.1 198 t < 0 then 0 - σ.1 198 t else σ.1 198 t) (by split <;> rfl) ?_))
    have c191 : ∀ f, (gj_sI τ 198 f).1 191 0 = nI r := fun f => e191
    have c50 : (50 : Int32) + nI r + nI t = nI (50 + (r + t)) := by rw [show (50 : Int32) = nI 50 from rfl, nI_add, nI_add, Nat.add_assoc]
    have c74 : (74 : Int32) + nI r + nI t = nI (74 + (r + t)) := by rw [show (74 : Int32) = nI 74 from rfl, nI_add, nI_add, Nat.add_assoc]
    simp only [c191, c50, nI_clamp (show 50 + (r + t) < 2 ^ 31 by omega)]
    refine tp_t (gi (by omega) (by omega)) (tp_beq rfl (tp_t (gj0 (by decide)) ?_))
    have d191 : ∀ f g, (gj_sI (gj_sI τ 198 f) 198 g).1 191 0 = nI r := fun f g => e191
    simp only [d191, c74, nI_clamp (show 74 + (r + t) < 2 ^ 31 by omega)]
    refine tp_t (gi (by omega) (by omega)) (tp_some ⟨⟨t + 1, by omega, nI_1 _, fun k hk => ?_, h4, fun q hq => ?_, fun d hd => ?_⟩, ?_⟩)
    · show (if k = 198 then _ else if k = 198 then _ else if k = 198 then _ else τ.1 k) = _
      rw [if_neg hk, if_neg hk, if_neg hk]
      exact h3 k hk
    · show (if q = 74 + (r + t) then _ else if q = 50 + (r + t) then _ else if q = 42 + t then _ else τ.1 198 q) = _
      have := hq t (by omega)
      rw [if_neg this.2.2, if_neg this.2.1, if_neg this.1]
      exact h5 q (fun d hd => hq d (by omega))
    · refine ⟨?_, ?_, ?_⟩
      · show (if 42 + d = 74 + (r + t) then _ else if 42 + d = 50 + (r + t) then _ else if 42 + d = 42 + t then _ else τ.1 198 (42 + d)) = _
        rw [if_neg (by omega), if_neg (by omega)]
        by_cases q : d = t
        · rw [if_pos (by omega), q]
        · rw [if_neg (by omega)]
          exact (h6 d (by omega)).1
      · show (if 50 + (r + d) = 74 + (r + t) then _ else if 50 + (r + d) = 50 + (r + t) then _ else if 50 + (r + d) = 42 + t then _ else τ.1 198 (50 + (r + d))) = _
        rw [if_neg (by omega)]
        by_cases q : d = t
        · rw [if_pos (by omega), q]
        · rw [if_neg (by omega), if_neg (by omega)]
          exact (h6 d (by omega)).2.1
      · show (if 74 + (r + d) = 74 + (r + t) then _ else if 74 + (r + d) = 50 + (r + t) then _ else if 74 + (r + d) = 42 + t then _ else τ.1 198 (74 + (r + d))) = _
        by_cases q : d = t
        · rw [if_pos (by omega)]
        · rw [if_neg (by omega), if_neg (by omega), if_neg (by omega)]
          exact (h6 d (by omega)).2.2
    · dsimp only
      first | omega | ((repeat rw [nI_1]); (repeat rw [nI_clamp (by omega)]); omega)
theorem r9_begins {n r : Nat} {σ : gj_S} (hn : n ≤ 8) (hr : r ≤ 16) (h190 : σ.1 190 0 = nI n) (h191 : σ.1 191 0 = nI r) : TP (f_X9_begins σ) (fun z => (∀ k, k ≠ 198 → z.1 k = σ.1 k) ∧ z.2 = σ.2 ∧ bgR n r (σ.1 198) (z.1 198)) := by
  unfold f_X9_begins
  refine tp_bind r9_bg2 (fun z hz => ?_)
  obtain ⟨z1, z2, z3, z4⟩ := hz
  refine tp_bind (r9_bg36 (n := n) (r := r) (σ := z) hn hr (by rw [z1 190 (by decide)]; exact h190) (by rw [z1 191 (by decide)]; exact h191)) (fun y hy => ?_)
  obtain ⟨y1, y2, y3, y4⟩ := hy
  refine tp_t (by decide) (tp_t (by decide) (tp_beq rfl ?_))
  simp only [show Int32.toNatClampNeg (41 : Int32) = 41 by decide, show Int32.toNatClampNeg (98 : Int32) = 98 by decide]
  refine tp_bind (lp_fill (f := fb_X9_begins_l141) (o := 99) (N := 81) (c := 198) (g := fun k => 99 + k) (v := fun _ => 0) (by omega) (fun k l h1 h2 => by omega) (fun τ _ => ?_) (fun k hk τ h1 h2 h3 => ?_)) (fun x hx => ?_)
  · unfold fb_X9_begins_l141
    exact if_pos (show (180 : Int32) ≤ nI (99 + 81) by decide)
  · unfold fb_X9_begins_l141
    dsimp only
    rw [if_neg (by rw [show (180 : Int32) = nI 180 from rfl]; exact nI_ge (by omega) (by omega)), if_pos (gi (by omega) (by omega)), nI_1, nI_clamp (by omega)]
  · obtain ⟨x1, x2, x3, x4⟩ := hx
    refine tp_some ⟨fun k hk => ?_, ?_, ?_⟩
    · rw [x1 k hk]
      show (if k = 198 then _ else if k = 198 then _ else y.1 k) = _
      rw [if_neg hk, if_neg hk, y1 k hk, z1 k hk]
    · rw [x2]
      exact y2.trans z2
    · have lo : ∀ q, q < 99 → x.1 198 q = if q = 98 then 0 else if q = 41 then 0 else y.1 198 q := fun q hq => x4 q (fun k hk => by omega)
      have zd : ∀ d, d < n → z.1 198 d = σ.1 198 d := fun d hd => z3 d (by omega)
      refine ⟨fun q hq => ?_, ?_, fun d hd => ?_, fun w hw => ?_, fun w hw => ?_, fun q h1 h2 => ?_⟩
      · rw [lo q (by omega), if_neg (by omega), if_neg (by omega), y3 q (fun d hd => by omega), z3 q (by omega)]
      · rw [lo 41 (by omega)]
        rfl
      · rw [lo _ (by omega), if_neg (by omega), if_neg (by omega), (y4 d hd).1, zd d hd]
      · rw [lo _ (by omega), if_neg (by omega), if_neg (by omega)]
        by_cases q : r ≤ w ∧ w < r + n
        · rw [if_pos q]
          obtain ⟨d, rfl⟩ : ∃ d, w = r + d := ⟨w - r, by omega⟩
          rw [(y4 d (by omega)).2.1, Nat.add_sub_cancel_left, zd d (by omega)]
        · rw [if_neg q, y3 _ (fun d hd => by omega), (z4 w hw).1]
      · rw [lo _ (by omega), if_neg (by omega), if_neg (by omega)]
        by_cases q : r ≤ w ∧ w < r + n
        · rw [if_pos q]
          obtain ⟨d, rfl⟩ : ∃ d, w = r + d := ⟨w - r, by omega⟩
          rw [(y4 d (by omega)).2.2]
        · rw [if_neg q, y3 _ (fun d hd => by omega), (z4 w hw).2]
      · by_cases e : q = 98
        · subst e
          rw [lo 98 (by omega)]
          rfl
        · obtain ⟨k, rfl⟩ : ∃ k, q = 99 + k := ⟨q - 99, by omega⟩
          exact x3 k (by omega)
