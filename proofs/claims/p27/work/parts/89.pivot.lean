/-! ===== the reference: one pivot ===== -/
theorem it_inj {n m : Nat} {bg en : Nat → Nat} {T : Nat → Prop} {up par rk : Nat → Nat} (h : tc_r n m bg en T up par rk) {A a b : Nat} (hab : a < b) (ha : it par a A < n) : it par a A ≠ it par b A := by
  obtain ⟨t, rfl⟩ : ∃ t, b = a + (t + 1) := ⟨b - a - 1, by omega⟩
  rw [it_add]
  exact fun q => it_no h ha t q.symm
/-- no way is twice in the ring -/
theorem rgW_inj {n m : Nat} {bg en : Nat → Nat} {T : Nat → Prop} {up par rk : Nat → Nat} (h : tc_r n m bg en T up par rk) {w A B i j : Nat} (hT : ¬ T w) (hA : A < n ∨ A = 8) (hB : B < n ∨ B = 8) (ht : tap par A B i j) {k l : Nat} (hkl : k < l) (hl : l < i + 1 + j) : rgW up par w A B i k ≠ rgW up par w A B i l := by
  have dA : ∀ t, t < i → it par t A < n := fun t q => tap_docks h hA ht q
  have dB : ∀ t, t < j → it par t B < n := fun t q => tap_docks h hB (i := j) (j := i) ⟨ht.1.symm, tp0_sw ht.2⟩ q
  have uT : ∀ d, d < n → up d ≠ w := fun d hd q => hT (q ▸ (h.2.2.1 d hd).2.1)
  unfold rgW
  by_cases q1 : k < i
  · rw [if_pos q1]
    by_cases q2 : l < i
    · rw [if_pos q2]
      intro e
      have := tc_inj h (dA _ (by omega)) (dA _ (by omega)) e
      exact it_inj h (show i - 1 - l < i - 1 - k by omega) (dA _ (by omega)) this.symm
    · rw [if_neg q2]
      by_cases q3 : l = i
      · rw [if_pos q3]
        exact uT _ (dA _ (by omega))
      · rw [if_neg q3]
        intro e
        have := tc_inj h (dA _ (by omega)) (dB _ (by omega)) e
        exact ht.2.1 _ (by omega) _ this
  · rw [if_neg q1, if_neg (show ¬ l < i by omega), if_neg (show ¬ l = i by omega)]
    by_cases q3 : k = i
    · rw [if_pos q3]
      exact fun e => uT _ (dB _ (by omega)) e.symm
    · rw [if_neg q3]
      intro e
      have := tc_inj h (dB _ (by omega)) (dB _ (by omega)) e
      exact it_inj h (show k - i - 1 < l - i - 1 by omega) (dB _ (by omega)) this
/-- flows along the ring -/
def flR (W : Nat → Nat) (L : Nat → Bool) (M : Nat) (ld : Int32) (s s' : Nat → Int32) : Prop := (∀ k, k < M → s' (50 + W k) = s (50 + W k) + (if L k = true then ld else 0 - ld)) ∧ ∀ q, (∀ k, k < M → q ≠ 50 + W k) → s' q = s q
theorem r9_l34 {σ : gj_S} {b1 ld : Int32} {M : Nat} {W : Nat → Nat} {L : Nat → Bool} (hM : M ≤ 24) (h33 : σ.1 188 33 = nI M) (h35 : σ.1 188 35 = ld) (hR : ∀ k, k < M → W k < 24 ∧ σ.1 206 k = nI (W k) ∧ σ.1 207 k = bI (L k)) (hI : ∀ k l, k < l → l < M → W k ≠ W l) :
    TP (gj_lp (fb_X9_pivot_l34 b1) 5000 (0, σ)) (fun z => (∀ k, k ≠ 198 → z.1 k = σ.1 k) ∧ z.2 = σ.2 ∧ flR W L M ld (σ.1 198) (z.1 198)) := by
  refine tp_lp (I := fun a => ∃ t, t ≤ M ∧ a.1 = nI t ∧ (∀ k, k ≠ 198 → a.2.1 k = σ.1 k) ∧ a.2.2 = σ.2 ∧ flR W L t ld (σ.1 198) (a.2.1 198)) (fun a => M - a.1.toNatClampNeg) ?_ 5000 (0, σ) ⟨0, by omega, rfl, fun _ _ => rfl, rfl, fun k hk => absurd hk (Nat.not_lt_zero _), fun _ _ => rfl⟩ (by dsimp only; omega)
  rintro ⟨x, τ⟩ ⟨t, h1, h2, h3, h4, h5⟩
  dsimp only at h2 h3 h4 h5
  subst h2
  have e33 : τ.1 188 33 = nI M := by rw [h3 188 (by decide)]; exact h33
  have e35 : τ.1 188 35 = ld := by rw [h3 188 (by decide)]; exact h35
  have e206 : τ.1 206 = σ.1 206 := h3 206 (by decide)
  have e207 : τ.1 207 = σ.1 207 := h3 207 (by decide)
  unfold fb_X9_pivot_l34
  dsimp only
  by_cases e : t = M
  · subst e
    exact tp_t (by rw [e33]; exact nI_le (by omega) (by omega)) (tp_some ⟨h3, h4, h5⟩)
  · obtain ⟨w1, w2, w3⟩ := hR t (by omega)
    have hg : gj_in (nI t) 24 := gi (by omega) (by omega)
    refine tp_f (by rw [e33]; exact nI_ge (by omega) (by omega)) (tp_t hg ?_)
    have ew : (50 : Int32) + τ.1 206 (nI t).toNatClampNeg = nI (50 + W t) := by rw [nI_clamp (by omega), e206, w2, show (50 : Int32) = nI 50 from rfl, nI_add]
    have hg2 : gj_in (nI (50 + W t)) 180 := gi (by omega) (by omega)
    simp only [ew, nI_clamp (show 50 + W t < 2 ^ 31 by omega), e35]
    refine tp_t hg2 (tp_t hg ?_)
    have key : ∀ v : Int32, v = (if L t = true then ld else 0 - ld) → flR W L (t + 1) ld (σ.1 198) (upd (τ.1 198) (50 + W t) (τ.1 198 (50 + W t) + v)) := by
      intro v hv
      have e0 : τ.1 198 (50 + W t) = σ.1 198 (50 + W t) := h5.2 _ (fun k hk q => hI k t hk (by omega) (by omega))
      refine ⟨fun k hk => ?_, fun q hq => ?_⟩
      · show (if 50 + W k = 50 + W t then _ else _) = _
        by_cases q : k = t
        · subst q
          rw [if_pos rfl, hv, e0]
        · rw [if_neg (fun e => hI k t (by omega) (by omega) (by omega))]
          exact h5.1 k (by omega)
      · show (if q = 50 + W t then _ else _) = _
        rw [if_neg (hq t (by omega))]
        exact h5.2 q (fun k hk => hq k (by omega))
    have fr : ∀ (f : Nat → Int32) (k : Nat), k ≠ 198 → (gj_sI τ 198 f).1 k = σ.1 k := fun f k hk => by
      show (if k = 198 then f else τ.1 k) = _
      rw [if_neg hk]
      exact h3 k hk
    have e7 : τ.1 207 (nI t).toNatClampNeg = bI (L t) := by rw [nI_clamp (by omega), e207, w3]
    have hm : M - (nI t + 1).toNatClampNeg < M - (nI t).toNatClampNeg := by
      rw [nI_1, nI_clamp (by omega), nI_clamp (by omega)]
      omega
    cases hL : L t with
    | false =>
      refine tp_t (by rw [e7, hL]; rfl) (tp_t hg2 (tp_beq rfl (tp_some ⟨⟨t + 1, by omega, nI_1 _, fr _, h4, ?_⟩, hm⟩)))
      exact key (0 - ld) (by rw [hL]; rfl)
    | true =>
      refine tp_f (by rw [e7, hL]; decide) (tp_t hg2 (tp_beq rfl (tp_some ⟨⟨t + 1, by omega, nI_1 _, fr _, h4, ?_⟩, hm⟩)))
      exact key ld (by rw [hL]; rfl)
theorem r9_l98 {σ : gj_S} {b1 b2 : Int32} : TP (gj_lp (fb_X9_pivot_l98 b1 b2) 5000 (0, σ)) (fun z => (∀ k, k ≠ 208 → z.1 k = σ.1 k) ∧ z.2 = σ.2 ∧ ∀ j, j < 9 → z.1 208 j = σ.1 205 j) := by
  refine tp_lp (I := fun a => ∃ t, t ≤ 9 ∧ a.1 = nI t ∧ (∀ k, k ≠ 208 → a.2.1 k = σ.1 k) ∧ a.2.2 = σ.2 ∧ ∀ j, j < t → a.2.1 208 j = σ.1 205 j) (fun a => 9 - a.1.toNatClampNeg) ?_ 5000 (0, σ) ⟨0, by omega, rfl, fun _ _ => rfl, rfl, fun j hj => absurd hj (Nat.not_lt_zero _)⟩ (by dsimp only; omega)
  rintro ⟨x, τ⟩ ⟨t, h1, h2, h3, h4, h5⟩
  dsimp only at h2 h3 h4 h5
  subst h2
  unfold fb_X9_pivot_l98
  dsimp only
  by_cases e : t = 9
  · subst e
    exact tp_t (by decide) (tp_some ⟨h3, h4, h5⟩)
  · have hg : gj_in (nI t) 9 := gi (by omega) (by omega)
    refine tp_f (by rw [show (9 : Int32) = nI 9 from rfl]; exact nI_ge (by omega) (by omega)) (tp_t hg (tp_t hg ?_))
    rw [nI_clamp (show t < 2 ^ 31 by omega)]
    refine tp_some ⟨⟨t + 1, by omega, nI_1 _, fun k hk => ?_, h4, fun j hj => ?_⟩, ?_⟩
    · show (if k = 208 then _ else τ.1 k) = _
      rw [if_neg hk]
      exact h3 k hk
    · show (if j = t then τ.1 205 t else τ.1 208 j) = _
      by_cases q : j = t
      · rw [if_pos q, q, h3 205 (by decide)]
      · rw [if_neg q]
        exact h5 j (by omega)
    · dsimp only
      rw [nI_1, nI_clamp (by omega)]
      omega
theorem r9_moved {n : Nat} {σ : gj_S} (hn : n ≤ 8) (h0 : σ.1 190 0 = nI n) : f_X9_moved σ = some (nI (ct (fun d => decide (σ.1 205 d ≠ σ.1 208 d)) n)) := by
  have : TP (gj_lp (fb_X9_moved_l4 σ) 5000 (0, 0)) (fun z => z = nI (ct (fun d => decide (σ.1 205 d ≠ σ.1 208 d)) n)) := by
    refine tp_lp (I := fun a => ∃ k, k ≤ n ∧ a.2 = nI k ∧ a.1 = nI (ct (fun d => decide (σ.1 205 d ≠ σ.1 208 d)) k)) (fun a => n - a.2.toNatClampNeg) ?_ 5000 (0, 0) ⟨0, by omega, rfl, rfl⟩ (by dsimp only; omega)
    rintro ⟨c, i⟩ ⟨k, h1, h2, h3⟩
    dsimp only at h2 h3
    subst h2
    subst h3
    unfold fb_X9_moved_l4
    dsimp only
    refine tp_t (gj0 (by decide)) ?_
    rw [rd0, h0]
    by_cases e : k = n
    · subst e
      exact tp_t (nI_le (by omega) (by omega)) (tp_some rfl)
    · have hg : gj_in (nI k) 9 := gi (by omega) (by omega)
      refine tp_f (nI_ge (by omega) (by omega)) (tp_t hg (tp_t hg ?_))
      rw [nI_clamp (show k < 2 ^ 31 by omega)]
      have hm : n - (nI k + 1).toNatClampNeg < n - k := by
        rw [nI_1, nI_clamp (by omega)]
        omega
      refine tp_if (fun q => tp_some ⟨⟨k + 1, by omega, nI_1 _, ?_⟩, hm⟩) (fun q => tp_some ⟨⟨k + 1, by omega, nI_1 _, ?_⟩, hm⟩)
      · dsimp only [ct]
        rw [if_neg (by simp [q])]
        simp
      · dsimp only [ct]
        rw [if_pos (by simp [q]), nI_1]
  obtain ⟨x, e, rfl⟩ := this
  unfold f_X9_moved
  rw [e]
  rfl
/-- a row of the log more -/
def lgR (s : Nat → Int32) (b1 b2 b3 b4 b5 : Int32) (s' : Nat → Int32) : Prop := (∀ q, q < 98 → s' q = s q) ∧ s' 98 = s 98 + 1 ∧ s' 99 = (if 16 ≤ s 99 then s 99 else s 99 + 1) ∧ s' 100 = b1 ∧ s' 101 = b2 ∧ s' 102 = b3 ∧ s' 103 = b4 ∧ s' 104 = b5 ∧ ∀ q, 105 ≤ q → q < 180 → s' q = s (q - 5)
theorem r9_logs5 {σ : gj_S} {b1 b2 b3 b4 b5 : Int32} : TP (gj_lp (fb_X9_logs_l5 b1 b2 b3 b4 b5) 5000 (179, σ)) (fun z => (∀ k, k ≠ 198 → z.1 k = σ.1 k) ∧ z.2 = σ.2 ∧ (∀ q, q < 105 → z.1 198 q = σ.1 198 q) ∧ ∀ q, 105 ≤ q → q < 180 → z.1 198 q = σ.1 198 (q - 5)) := by
  refine tp_lp (I := fun a => ∃ t, t ≤ 179 ∧ 104 ≤ t ∧ a.1 = nI t ∧ (∀ k, k ≠ 198 → a.2.1 k = σ.1 k) ∧ a.2.2 = σ.2 ∧ (∀ q, q ≤ t → a.2.1 198 q = σ.1 198 q) ∧ ∀ q, t < q → q < 180 → a.2.1 198 q = σ.1 198 (q - 5)) (fun a => a.1.toNatClampNeg) ?_ 5000 (179, σ) ⟨179, by omega, by omega, rfl, fun _ _ => rfl, rfl, fun _ _ => rfl, fun q h1 h2 => by omega⟩ (show Int32.toNatClampNeg 179 < 5000 by decide)
  rintro ⟨x, τ⟩ ⟨t, h1, h1', h2, h3, h4, h5, h6⟩
  dsimp only at h2 h3 h4 h5 h6
  subst h2
  unfold fb_X9_logs_l5
  dsimp only
  by_cases e : t = 104
  · subst e
    exact tp_t (by decide) (tp_some ⟨h3, h4, fun q hq => h5 q (by omega), fun q h1 h2 => h6 q (by omega) h2⟩)
  · obtain ⟨u, rfl⟩ : ∃ u, t = u + 1 := ⟨t - 1, by omega⟩
    have e5 : nI (u + 1) - 5 = nI (u + 1 - 5) := by rw [show (5 : Int32) = nI 5 from rfl, nI_sub (by omega)]
    refine tp_f (by rw [show (105 : Int32) = nI 105 from rfl]; exact nI_nlt (by omega) (by omega)) ?_
    simp only [e5, nI_dec, nI_clamp (show u + 1 < 2 ^ 31 by omega), nI_clamp (show u + 1 - 5 < 2 ^ 31 by omega)]
    refine tp_t (gi (by omega) (by omega)) (tp_t (gi (by omega) (by omega)) (tp_some ⟨⟨u, by omega, by omega, rfl, fun k hk => ?_, h4, fun q hq => ?_, fun q q1 q2 => ?_⟩, ?_⟩))
    · show (if k = 198 then _ else τ.1 k) = _
      rw [if_neg hk]
      exact h3 k hk
    · show (if q = u + 1 then _ else τ.1 198 q) = _
      rw [if_neg (by omega)]
      exact h5 q (by omega)
    · show (if q = u + 1 then τ.1 198 (u + 1 - 5) else τ.1 198 q) = _
      by_cases e2 : q = u + 1
      · rw [if_pos e2, e2]
        exact h5 _ (by omega)
      · rw [if_neg e2]
        exact h6 q (by omega) q2
    · dsimp only
      first | omega | ((repeat rw [nI_clamp (by omega)]); omega)
theorem r9_logs {σ : gj_S} {b1 b2 b3 b4 b5 : Int32} : TP (f_X9_logs b1 b2 b3 b4 b5 σ) (fun z => (∀ k, k ≠ 198 → z.1 k = σ.1 k) ∧ z.2 = σ.2 ∧ lgR (σ.1 198) b1 b2 b3 b4 b5 (z.1 198)) := by
  unfold f_X9_logs
  refine tp_bind r9_logs5 (fun z hz => ?_)
  obtain ⟨z1, z2, z3, z4⟩ := hz
  simp only [show Int32.toNatClampNeg (100 : Int32) = 100 by decide, show Int32.toNatClampNeg (101 : Int32) = 101 by decide, show Int32.toNatClampNeg (102 : Int32) = 102 by decide, show Int32.toNatClampNeg (103 : Int32) = 103 by decide, show Int32.toNatClampNeg (104 : Int32) = 104 by decide, show Int32.toNatClampNeg (99 : Int32) = 99 by decide, show Int32.toNatClampNeg (98 : Int32) = 98 by decide]
  refine tp_t (by decide) (tp_t (by decide) (tp_beq rfl (tp_t (by decide) (tp_t (by decide) (tp_beq rfl (tp_t (by decide) (tp_t (by decide) ?_)))))))
  have e99 : (gj_sI (gj_sI (gj_sI (gj_sI (gj_sI z 198 (upd (z.1 198) 100 b1)) 198 (upd ((gj_sI z 198 (upd (z.1 198) 100 b1)).1 198) 101 b2)) 198 (upd ((gj_sI (gj_sI z 198 (upd (z.1 198) 100 b1)) 198 (upd ((gj_sI z 198 (upd (z.1 198) 100 b1)).1 198) 101 b2)).1 198) 102 b3)) 198 (upd ((gj_sI (gj_sI (gj_sI z 198 (upd (z.1 198) 100 b1)) 198 (upd ((gj_sI z 198 (upd (z.1 198) 100 b1)).1 198) 101 b2)) 198 (upd ((gj_sI (gj_sI z 198 (upd (z.1 198) 100 b1)) 198 (upd ((gj_sI z 198 (upd (z.1 198) 100 b1)).1 198) 101 b2)).1 198) 102 b3)).1 198) 103 b4)) 198 (upd ((gj_sI (gj_sI (gj_sI (gj_sI z 198 (upd (z.1 198) 100 b1)) 198 (upd ((gj_sI z 198 (upd (z.1 198) 100 b1)).1 198) 101 b2)) 198 (upd ((gj_sI (gj_sI z 198 (upd (z.1 198) 100 b1)) 198 (upd ((gj_sI z 198 (upd (z.1 198) 100 b1)).1 198) 101 b2)).1 198) 102 b3)) 198 (upd ((gj_sI (gj_sI (gj_sI z 198 (upd (z.1 198) 100 b1)) 198 (upd ((gj_sI z 198 (upd (z.1 198) 100 b1)).1 198) 101 b2)) 198 (upd ((gj_sI (gj_sI z 198 (upd (z.1 198) 100 b1)) 198 (upd ((gj_sI z 198 (upd (z.1 198) 100 b1)).1 198) 101 b2)).1 198) 102 b3)).1 198) 103 b4)).1 198) 104 b5)).1 198 99 = σ.1 198 99 := z3 99 (by decide)
  rw [e99]
  have e98 := z3 98 (by decide)
  have e99' := z3 99 (by decide)
  by_cases q : 16 ≤ σ.1 198 99
  · rw [if_pos q]
    refine tp_beq rfl (tp_t (by decide) (tp_t (by decide) (tp_some ⟨fun k hk => ?_, z2, ?_⟩)))
    · simp only [gj_sI, if_neg hk]
      exact z1 k hk
    · refine ⟨fun p hp => ?_, ?_, ?_, rfl, rfl, rfl, rfl, rfl, fun p p1 p2 => ?_⟩
      · simp [gj_sI, upd, show ¬ p = 98 by omega, show ¬ p = 104 by omega, show ¬ p = 103 by omega, show ¬ p = 102 by omega, show ¬ p = 101 by omega, show ¬ p = 100 by omega, z3 p (by omega)]
      · simp [gj_sI, upd, e98]
      · simp [gj_sI, upd, e99', q]
      · simp [gj_sI, upd, show ¬ p = 98 by omega, show ¬ p = 104 by omega, show ¬ p = 103 by omega, show ¬ p = 102 by omega, show ¬ p = 101 by omega, show ¬ p = 100 by omega, z4 p p1 p2]
  · rw [if_neg q]
    refine tp_bind (P := fun x => x = _) (tp_t (by decide) (tp_t (by decide) (tp_beq rfl (tp_some rfl)))) (fun x hx => ?_)
    subst hx
    refine tp_t (by decide) (tp_t (by decide) (tp_some ⟨fun k hk => ?_, z2, ?_⟩))
    · simp only [gj_sI, if_neg hk]
      exact z1 k hk
    · refine ⟨fun p hp => ?_, ?_, ?_, rfl, rfl, rfl, rfl, rfl, fun p p1 p2 => ?_⟩
      · simp [gj_sI, upd, show ¬ p = 99 by omega, show ¬ p = 98 by omega, show ¬ p = 104 by omega, show ¬ p = 103 by omega, show ¬ p = 102 by omega, show ¬ p = 101 by omega, show ¬ p = 100 by omega, z3 p (by omega)]
      · simp [gj_sI, upd, e98]
      · simp [gj_sI, upd, e99', q]
      · simp [gj_sI, upd, show ¬ p = 99 by omega, show ¬ p = 98 by omega, show ¬ p = 104 by omega, show ¬ p = 103 by omega, show ¬ p = 102 by omega, show ¬ p = 101 by omega, show ¬ p = 100 by omega, z4 p p1 p2]
