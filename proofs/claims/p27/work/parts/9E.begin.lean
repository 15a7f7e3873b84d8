/-! ===== begun: the class's plan, the tree, the row ===== -/
/-- docks, gifts, routes of a plan against a row -/
def pmR (n r : Nat) (b0 e0 : Nat → Nat) (s : Nat → Int32) (b : Nat) (σ : gj_S) : Prop := σ.1 b 0 = nI n ∧ σ.1 b 1 = nI r ∧ σ.1 b 2 = s 40 ∧ (∀ d, d < n → σ.1 (b + 1) d = s d) ∧ ∀ w, w < r → σ.1 (b + 2) w = nI (b0 w) ∧ σ.1 (b + 3) w = nI (e0 w) ∧ σ.1 (b + 4) w = s (8 + w) ∧ σ.1 (b + 5) w = s (24 + w)
theorem pm_R {n r b : Nat} {b0 e0 : Nat → Nat} {s : Nat → Int32} {σ : gj_S} (h : pm n r b0 e0 s b σ) : pmR n r b0 e0 s b σ := by
  obtain ⟨m1, m2, m3, m4, m5, m6⟩ := h
  refine ⟨m1, m2, m3, m5, fun w hw => ?_⟩
  obtain ⟨q1, q2, q3, q4, -⟩ := m6 w (by omega)
  unfold vb at q1
  unfold ve at q2
  unfold vc at q3
  rw [if_pos hw] at q1 q2 q3 q4
  exact ⟨q1, q2, q3, q4⟩
theorem bg_r {n r : Nat} {b0 e0 : Nat → Nat} {s s' : Nat → Int32} (hr : r ≤ 16) (h : bgR n r s s') {w : Nat} (hw : w < r) : vb r b0 s' w = b0 w ∧ ve r e0 s' w = e0 w ∧ vc r s' w = s (8 + w) ∧ s' (24 + w) = s (24 + w) ∧ s' (50 + w) = 0 ∧ s' (74 + w) = 1 := by
  obtain ⟨k1, k2, k3, k4, k5, k6⟩ := h
  refine ⟨by unfold vb; rw [if_pos hw], by unfold ve; rw [if_pos hw], by unfold vc; rw [if_pos hw, k1 _ (by omega)], k1 _ (by omega), ?_, ?_⟩
  · rw [k4 w (by omega), if_neg (by omega)]
  · rw [k5 w (by omega), if_neg (by omega)]
theorem bg_t {n r : Nat} {b0 e0 : Nat → Nat} {s s' : Nat → Int32} (hn : n ≤ 8) (hr : r ≤ 16) (h : bgR n r s s') {d : Nat} (hd : d < n) : vb r b0 s' (r + d) = (if s d < 0 then 8 else d) ∧ ve r e0 s' (r + d) = (if s d < 0 then d else 8) ∧ vc r s' (r + d) = 10000 ∧ s' (50 + (r + d)) = (if s d < 0 then 0 - s d else s d) ∧ s' (74 + (r + d)) = 0 := by
  obtain ⟨k1, k2, k3, k4, k5, k6⟩ := h
  have e3 := k3 d hd
  refine ⟨?_, ?_, by unfold vc; rw [if_neg (by omega)], ?_, ?_⟩
  · rw [vb_t, e3]
    by_cases q : s d < 0
    · simp [q]
    · simp [q]
  · rw [ve_t, e3]
    by_cases q : s d < 0
    · simp [q]
    · simp [q]
  · rw [k4 _ (by omega), if_pos (by omega), Nat.add_sub_cancel_left]
  · rw [k5 _ (by omega), if_pos (by omega)]
/-- all tenders: the tree that is begun with -/
theorem bg_tc {n r : Nat} {b0 e0 : Nat → Nat} {s s' : Nat → Int32} (hg : gS n r b0 e0) (h : bgR n r s s') : tc_ok n (r + n) (vb r b0 s') (ve r e0 s') (vT s') (fun d => r + d) (fun _ => 8) (fun p => if p = 8 then 0 else 1) := by
  have hn := hg.1
  have hr := hg.2.1
  refine ⟨⟨hn, rfl, fun d hd => ?_, fun w hw ht => ?_⟩, rfl, fun d hd => ?_⟩
  · obtain ⟨a1, a2, a3, a4, a5⟩ := bg_t (b0 := b0) (e0 := e0) hn hr h hd
    refine ⟨by show r + d < r + n; omega, a5, ?_, .inr rfl, ?_⟩
    · unfold tj
      rw [a1, a2]
      by_cases q : s d < 0
      · simp only [if_pos q]
        exact .inr ⟨trivial, trivial⟩
      · simp only [if_neg q]
        exact .inl ⟨trivial, trivial⟩
    · show (if 8 = 8 then 0 else 1) < (if d = 8 then 0 else 1)
      rw [if_pos rfl, if_neg (by omega)]
      omega
  · by_cases q : w < r
    · exfalso
      have := (bg_r (b0 := b0) (e0 := e0) hr h q).2.2.2.2.2
      unfold vT at ht
      rw [this] at ht
      exact absurd ht (by decide)
    · exact ⟨w - r, by omega, by show r + (w - r) = w; omega⟩
  · show (if d = 8 then 0 else 1) ≤ n
    rw [if_neg (by omega)]
    omega
theorem bg_P {n r : Nat} {b0 e0 : Nat → Nat} {s s' : Nat → Int32} (hg : gS n r b0 e0) (h : bgR n r s s') (hb : ∃ b, 1 ≤ b ∧ b ≤ 24 ∧ s 40 = nI b) (hc : ∀ w, w < r → ∃ c, c ≤ 999 ∧ s (8 + w) = nI c) (hh : ∀ w, w < r → ∃ c, c ≤ 999 ∧ s (24 + w) = nI c) (hd : ∀ d, d < n → -999 ≤ (s d).toInt ∧ (s d).toInt ≤ 999) : rP n r b0 e0 s' ∧ fP n r 999 s' := by
  have hn := hg.1
  have hr := hg.2.1
  obtain ⟨k1, k2, k3, k4, k5, k6⟩ := h
  refine ⟨⟨⟨_, _, _, bg_tc hg ⟨k1, k2, k3, k4, k5, k6⟩⟩, fun w hw => ?_, ?_, ⟨0, k2, by omega⟩, ⟨0, by omega, k6 99 (by omega) (by omega)⟩, fun w hw => by rw [k1 _ (by omega)]; exact hc w hw, fun w hw => by rw [k1 _ (by omega)]; exact hh w hw, fun d hd' => by rw [k1 _ (by omega)]; exact hd d hd'⟩, fun w hw => ?_, fun d hd' => ?_⟩
  · rw [k5 w (by omega)]
    split
    · exact .inl rfl
    · exact .inr (.inl rfl)
  · rw [k1 40 (by omega)]
    exact hb
  · obtain ⟨-, -, -, a4, a5, a6⟩ := bg_r (b0 := b0) (e0 := e0) hr ⟨k1, k2, k3, k4, k5, k6⟩ hw
    obtain ⟨c, c1, c2⟩ := hh w hw
    exact ⟨0, c, a5, a4.trans c2, by omega, c1, fun _ => rfl, fun q => by rw [a6] at q; exact absurd q (by decide)⟩
  · obtain ⟨-, -, -, a4, a5⟩ := bg_t (b0 := b0) (e0 := e0) hn hr ⟨k1, k2, k3, k4, k5, k6⟩ hd'
    have h42 : s' (42 + d) = 0 ∨ s' (42 + d) = 1 := by
      rw [k3 d hd']
      split
      · exact .inl rfl
      · exact .inr rfl
    obtain ⟨c1, c2⟩ := hd d hd'
    have ez : (0 : Int32).toInt = 0 := by decide
    by_cases q : s d < 0
    · rw [if_pos q] at a4
      have q' := q
      rw [i32_lt_iff] at q'
      have e1 : (0 - s d).toInt = - (s d).toInt := by
        rw [i32_sub (by omega) (by omega)]
        omega
      refine ⟨(- (s d).toInt).toNat, ?_, by omega, fun q2 => by rw [a5] at q2; exact absurd q2 (by decide), by rw [a5]; decide, h42⟩
      rw [a4]
      apply Int32.toInt_inj.mp
      rw [nI_toInt (by omega), e1]
      omega
    · rw [if_neg q] at a4
      have q' := q
      rw [i32_lt_iff] at q'
      refine ⟨(s d).toInt.toNat, ?_, by omega, fun q2 => by rw [a5] at q2; exact absurd q2 (by decide), by rw [a5]; decide, h42⟩
      rw [a4]
      apply Int32.toInt_inj.mp
      rw [nI_toInt (by omega)]
      omega
set_option maxHeartbeats 2000000 in
theorem c8_tender {n r b d : Nat} {σ : gj_S} (hd : d < 8) (hrd : r + d < 24) (h1 : σ.1 b 1 = nI r) : TP (f_X1_beginTender b (nI d) σ) (fun τ => (∀ k, (k < b + 2 ∨ b + 7 < k) → τ.1 k = σ.1 k) ∧ τ.2 = σ.2 ∧ τ.1 (b + 2) = upd (σ.1 (b + 2)) (r + d) (nI (if σ.1 (b + 1) d < 0 then 8 else d)) ∧ τ.1 (b + 3) = upd (σ.1 (b + 3)) (r + d) (nI (if σ.1 (b + 1) d < 0 then d else 8)) ∧ τ.1 (b + 4) = upd (σ.1 (b + 4)) (r + d) 10000 ∧ τ.1 (b + 5) = upd (σ.1 (b + 5)) (r + d) 1000000 ∧ τ.1 (b + 6) = upd (σ.1 (b + 6)) (r + d) (if σ.1 (b + 1) d < 0 then 0 - σ.1 (b + 1) d else σ.1 (b + 1) d) ∧ τ.1 (b + 7) = upd (σ.1 (b + 7)) (r + d) 0) := by
  have gd : gj_in (nI d) 8 := gi hd (by omega)
  have gw : gj_in (nI (r + d)) 24 := gi hrd (by omega)
  unfold f_X1_beginTender
  refine tp_t gd ?_
  simp only [h1, nI_add, nI_clamp (show d < 2 ^ 31 by omega), nI_clamp (show r + d < 2 ^ 31 by omega)]
  refine tp_beq (x := if σ.1 (b + 1) d < 0 then 0 else 1) (by split <;> rfl) ?_
  refine tp_beq (x := nI (if σ.1 (b + 1) d < 0 then 8 else d)) (by by_cases q : σ.1 (b + 1) d < 0 <;> simp [q] <;> rfl) (tp_t gw ?_)
  refine tp_beq (x := nI (if σ.1 (b + 1) d < 0 then d else 8)) (by by_cases q : σ.1 (b + 1) d < 0 <;> simp [q] <;> rfl) (tp_t gw ?_)
  refine tp_beq rfl (tp_t gw (tp_t gw (tp_beq rfl ?_)))
  have e1 : ∀ f g f2 g2, (gj_sI (gj_sI (gj_sI (gj_sI σ (b + 2) f) (b + 3) g) (b + 4) f2) (b + 5) g2).1 (b + 1) = σ.1 (b + 1) := fun f g f2 g2 => by rw [sI_ne (by omega), sI_ne (by omega), sI_ne (by omega), sI_ne (by omega)]
  rw [e1]
  refine tp_beq (x := if σ.1 (b + 1) d < 0 then 0 - σ.1 (b + 1) d else σ.1 (b + 1) d) (by rw [if_pos gd, if_pos gd]; by_cases q : σ.1 (b + 1) d < 0 <;> simp [q]) (tp_t gw (tp_t gw (tp_beq rfl ?_)))
  refine tp_some ⟨fun k hk => ?_, rfl, ?_, ?_, ?_, ?_, ?_, ?_⟩
  · rw [sI_ne (by omega), sI_ne (by omega), sI_ne (by omega), sI_ne (by omega), sI_ne (by omega), sI_ne (by omega)]
  · rw [sI_ne (by omega), sI_ne (by omega), sI_ne (by omega), sI_ne (by omega), sI_ne (by omega), sI_eq]
  · rw [sI_ne (by omega), sI_ne (by omega), sI_ne (by omega), sI_ne (by omega), sI_eq, sI_ne (by omega)]
  · rw [sI_ne (by omega), sI_ne (by omega), sI_ne (by omega), sI_eq, sI_ne (by omega), sI_ne (by omega)]
  · rw [sI_ne (by omega), sI_ne (by omega), sI_eq, sI_ne (by omega), sI_ne (by omega), sI_ne (by omega)]
  · rw [sI_ne (by omega), sI_eq, sI_ne (by omega), sI_ne (by omega), sI_ne (by omega), sI_ne (by omega)]
  · rw [sI_eq, sI_ne (by omega), sI_ne (by omega), sI_ne (by omega), sI_ne (by omega), sI_ne (by omega)]
theorem c8_bg2 {r b : Nat} {σ : gj_S} (hr : r ≤ 16) (h1 : σ.1 b 1 = nI r) : TP (gj_lp (fb_X1_begin_l2 b) 5000 (0, σ)) (fun z => smC (b + 6) (b + 7) σ z ∧ ∀ w, w < r → z.1 (b + 6) w = 0 ∧ z.1 (b + 7) w = 1) := by
  refine tp_lp (I := fun a => ∃ t, t ≤ r ∧ a.1 = nI t ∧ smC (b + 6) (b + 7) σ a.2 ∧ ∀ w, w < t → a.2.1 (b + 6) w = 0 ∧ a.2.1 (b + 7) w = 1) (fun a => r - a.1.toNatClampNeg) ?_ 5000 (0, σ) ⟨0, by omega, rfl, smC_rf, fun w hw => absurd hw (Nat.not_lt_zero _)⟩ (by dsimp only; omega)
  rintro ⟨x, τ⟩ ⟨t, h1', h2, h3, h4⟩
  dsimp only at h2 h3 h4
  subst h2
  have e1 : τ.1 b 1 = nI r := by rw [h3.1 b (by omega)]; exact h1
  unfold fb_X1_begin_l2
  dsimp only
  by_cases e : t = r
  · subst e
    exact tp_t (by rw [e1]; exact nI_le (by omega) (by omega)) (tp_some ⟨h3, h4⟩)
  · have gt : gj_in (nI t) 24 := gi (by omega) (by omega)
    refine tp_f (by rw [e1]; exact nI_ge (by omega) (by omega)) (tp_t gt (tp_t gt ?_))
    rw [nI_clamp (show t < 2 ^ 31 by omega)]
    refine tp_beq rfl (tp_some ⟨⟨t + 1, by omega, nI_1 _, smC_I (by omega) (by omega) (smC_I (by omega) (by omega) h3), fun w hw => ?_⟩, ?_⟩)
    · dsimp only
      rw [sI_ne (show b + 6 ≠ b + 7 by omega), sI_eq, sI_eq, sI_ne (show b + 7 ≠ b + 6 by omega)]
      show (if w = t then _ else τ.1 (b + 6) w) = _ ∧ (if w = t then _ else τ.1 (b + 7) w) = _
      by_cases q : w = t
      · simp only [if_pos q]
        exact ⟨trivial, trivial⟩
      · simp only [if_neg q]
        exact h4 w (by omega)
    · dsimp only
      rw [nI_1, nI_clamp (by omega)]
      omega
theorem c8_bg32 {n r b : Nat} {σ : gj_S} (hn : n ≤ 8) (hr : r ≤ 16) (h0 : σ.1 b 0 = nI n) (h1 : σ.1 b 1 = nI r) : TP (gj_lp (fb_X1_begin_l32 b) 5000 (0, σ)) (fun z => smC (b + 2) (b + 7) σ z ∧ (∀ w, w < r → z.1 (b + 2) w = σ.1 (b + 2) w ∧ z.1 (b + 3) w = σ.1 (b + 3) w ∧ z.1 (b + 4) w = σ.1 (b + 4) w ∧ z.1 (b + 5) w = σ.1 (b + 5) w ∧ z.1 (b + 6) w = σ.1 (b + 6) w ∧ z.1 (b + 7) w = σ.1 (b + 7) w) ∧ ∀ d, d < n → z.1 (b + 2) (r + d) = nI (if σ.1 (b + 1) d < 0 then 8 else d) ∧ z.1 (b + 3) (r + d) = nI (if σ.1 (b + 1) d < 0 then d else 8) ∧ z.1 (b + 4) (r + d) = 10000 ∧ z.1 (b + 5) (r + d) = 1000000 ∧ z.1 (b + 6) (r + d) = (if σ.1 (b + 1) d < 0 then 0 - σ.1 (b + 1) d else σ.1 (b + 1) d) ∧ z.1 (b + 7) (r + d) = 0) := by
  refine tp_lp (I := fun a => ∃ t, t ≤ n ∧ a.1 = nI t ∧ smC (b + 2) (b + 7) σ a.2 ∧ (∀ w, w < r → a.2.1 (b + 2) w = σ.1 (b + 2) w ∧ a.2.1 (b + 3) w = σ.1 (b + 3) w ∧ a.2.1 (b + 4) w = σ.1 (b + 4) w ∧ a.2.1 (b + 5) w = σ.1 (b + 5) w ∧ a.2.1 (b + 6) w = σ.1 (b + 6) w ∧ a.2.1 (b + 7) w = σ.1 (b + 7) w) ∧ ∀ d, d < t → a.2.1 (b + 2) (r + d) = nI (if σ.1 (b + 1) d < 0 then 8 else d) ∧ a.2.1 (b + 3) (r + d) = nI (if σ.1 (b + 1) d < 0 then d else 8) ∧ a.2.1 (b + 4) (r + d) = 10000 ∧ a.2.1 (b + 5) (r + d) = 1000000 ∧ a.2.1 (b + 6) (r + d) = (if σ.1 (b + 1) d < 0 then 0 - σ.1 (b + 1) d else σ.1 (b + 1) d) ∧ a.2.1 (b + 7) (r + d) = 0) (fun a => n - a.1.toNatClampNeg) ?_ 5000 (0, σ) ⟨0, by omega, rfl, smC_rf, fun w hw => ⟨rfl, rfl, rfl, rfl, rfl, rfl⟩, fun d hd => absurd hd (Nat.not_lt_zero _)⟩ (by dsimp only; omega)
  rintro ⟨x, τ⟩ ⟨t, h1', h2, h3, h4, h5⟩
  dsimp only at h2 h3 h4 h5
  subst h2
  have e0 : τ.1 b 0 = nI n := by rw [h3.1 b (by omega)]; exact h0
  have e1 : τ.1 b 1 = nI r := by rw [h3.1 b (by omega)]; exact h1
  have eg : τ.1 (b + 1) = σ.1 (b + 1) := h3.1 _ (by omega)
  unfold fb_X1_begin_l32
  dsimp only
  by_cases e : t = n
  · subst e
    exact tp_t (by rw [e0]; exact nI_le (by omega) (by omega)) (tp_some ⟨h3, h4, h5⟩)
  · refine tp_f (by rw [e0]; exact nI_ge (by omega) (by omega)) (tp_bind (c8_tender (n := n) (r := r) (b := b) (d := t) (σ := τ) (by omega) (by omega) e1) (fun z hz => ?_))
    obtain ⟨z1, z2, z3, z4, z5, z6, z7, z8⟩ := hz
    rw [eg] at z3 z4 z7
    have u : ∀ (f : Nat → Int32) (x : Int32) (k : Nat), k ≠ r + t → upd f (r + t) x k = f k := fun f x k hk => if_neg hk
    have u0 : ∀ (f : Nat → Int32) (x : Int32), upd f (r + t) x (r + t) = x := fun f x => if_pos rfl
    refine tp_some ⟨⟨t + 1, by omega, nI_1 _, ⟨fun k hk => (z1 k hk).trans (h3.1 k hk), z2.trans h3.2⟩, fun w hw => ?_, fun d hd => ?_⟩, ?_⟩
    · dsimp only
      rw [z3, z4, z5, z6, z7, z8, u _ _ _ (by omega), u _ _ _ (by omega), u _ _ _ (by omega), u _ _ _ (by omega), u _ _ _ (by omega), u _ _ _ (by omega)]
      exact h4 w hw
    · dsimp only
      rw [z3, z4, z5, z6, z7, z8]
      by_cases q : d = t
      · subst q
        rw [u0, u0, u0, u0, u0, u0]
        exact ⟨rfl, rfl, rfl, rfl, rfl, rfl⟩
      · rw [u _ _ _ (by omega), u _ _ _ (by omega), u _ _ _ (by omega), u _ _ _ (by omega), u _ _ _ (by omega), u _ _ _ (by omega)]
        exact h5 d (by omega)
    · dsimp only
      rw [nI_1, nI_clamp (by omega), nI_clamp (by omega)]
      omega
theorem c8_begin {n r b : Nat} {b0 e0 : Nat → Nat} {s s' : Nat → Int32} {σ : gj_S} (hg : gS n r b0 e0) (hp : pmR n r b0 e0 s b σ) (hb : bgR n r s s') : TP (f_X1_begin b σ) (fun τ => smC b (b + 7) σ τ ∧ pm n r b0 e0 s' b τ ∧ lgM 0 s' b τ) := by
  have hn := hg.1
  have hr := hg.2.1
  obtain ⟨p1, p2, p3, p4, p5⟩ := hp
  unfold f_X1_begin
  refine tp_bind (c8_bg2 hr p2) (fun z hz => ?_)
  obtain ⟨z1, z2⟩ := hz
  refine tp_bind (c8_bg32 (n := n) (r := r) (b := b) (σ := z) hn hr (by rw [z1.1 b (by omega)]; exact p1) (by rw [z1.1 b (by omega)]; exact p2)) (fun y hy => ?_)
  obtain ⟨y1, y2, y3⟩ := hy
  have ez1 : z.1 (b + 1) = σ.1 (b + 1) := z1.1 _ (by omega)
  have eb : y.1 b = σ.1 b := by rw [y1.1 b (by omega), z1.1 b (by omega)]
  have eg : y.1 (b + 1) = σ.1 (b + 1) := by rw [y1.1 (b + 1) (by omega), ez1]
  have hz2 : z.1 (b + 2) = σ.1 (b + 2) := z1.1 _ (by omega)
  have hz3 : z.1 (b + 3) = σ.1 (b + 3) := z1.1 _ (by omega)
  have hz4 : z.1 (b + 4) = σ.1 (b + 4) := z1.1 _ (by omega)
  have hz5 : z.1 (b + 5) = σ.1 (b + 5) := z1.1 _ (by omega)
  have k1 := hb.1
  refine tp_some ⟨smC_I (by omega) (by omega) (smC_I (by omega) (by omega) (smC_tr (smC_wd (by omega) (by omega) z1) (smC_wd (by omega) (by omega) y1))), ?_, ?_⟩
  · unfold pm
    rw [sI_eq, sI_eq]
    refine ⟨?_, ?_, ?_, ?_, fun d hd => ?_, fun w hw => ?_⟩
    · show y.1 b 0 = _; rw [eb]; exact p1
    · show y.1 b 1 = _; rw [eb]; exact p2
    · show y.1 b 2 = _; rw [eb, k1 40 (by omega)]; exact p3
    · show (0 : Int32) = _; rw [hb.2.1]
    · rw [sI_ne (by omega), sI_ne (by omega), eg, k1 d (by omega)]
      exact p4 d hd
    · rw [sI_ne (show b + 2 ≠ b by omega), sI_ne (show b + 2 ≠ b by omega), sI_ne (show b + 3 ≠ b by omega), sI_ne (show b + 3 ≠ b by omega), sI_ne (show b + 4 ≠ b by omega), sI_ne (show b + 4 ≠ b by omega), sI_ne (show b + 5 ≠ b by omega), sI_ne (show b + 5 ≠ b by omega), sI_ne (show b + 6 ≠ b by omega), sI_ne (show b + 6 ≠ b by omega), sI_ne (show b + 7 ≠ b by omega), sI_ne (show b + 7 ≠ b by omega)]
      by_cases q : w < r
      · obtain ⟨a1, a2, a3, a4, a5, a6⟩ := bg_r (b0 := b0) (e0 := e0) hr hb q
        obtain ⟨c1, c2, c3, c4, c5, c6⟩ := y2 w q
        obtain ⟨d1, d2, d3, d4⟩ := p5 w q
        rw [a1, a2, a3, a4, a5, a6, if_pos q, c1, c2, c3, c4, c5, c6, hz2, hz3, hz4, hz5]
        exact ⟨d1, d2, d3, d4, (z2 w q).1, (z2 w q).2⟩
      · obtain ⟨d, rfl⟩ : ∃ d, w = r + d := ⟨w - r, by omega⟩
        obtain ⟨a1, a2, a3, a4, a5⟩ := bg_t (b0 := b0) (e0 := e0) hn hr hb (show d < n by omega)
        obtain ⟨c1, c2, c3, c4, c5, c6⟩ := y3 d (by omega)
        rw [ez1, p4 d (by omega)] at c1 c2 c5
        rw [a1, a2, a3, a4, a5, if_neg q]
        exact ⟨c1, c2, c3, c4, c5, c6⟩
  · refine ⟨?_, hb.2.2.2.2.2 98 (by omega) (by omega), hb.2.2.2.2.2 99 (by omega) (by omega), fun g hg => absurd hg (by simp)⟩
    rw [sI_eq]
    rfl
