/-! ===== text: what is read comes into force ===== -/
theorem lp_iv {f : Int32 × gj_S → Option (gj_S ⊕ (Int32 × gj_S))} {N : Nat} {I : Nat → gj_S → Prop} {σ : gj_S} (hN : N < 5000) (h0 : I 0 σ) (hstop : ∀ τ, I N τ → f (nI N, τ) = some (.inl τ)) (hstep : ∀ k τ, k < N → I k τ → TP (f (nI k, τ)) (fun x => ∃ τ', x = .inr (nI (k + 1), τ') ∧ I (k + 1) τ')) : TP (gj_lp f 5000 (0, σ)) (I N) := by
  have main : ∀ (d k : Nat) (τ : gj_S), k + d = N → I k τ → ∀ fu, d < fu → TP (gj_lp f fu (nI k, τ)) (I N) := by
    intro d
    induction d with
    | zero =>
      intro k τ hk hI fu hfu
      obtain ⟨fu', rfl⟩ : ∃ x, fu = x + 1 := ⟨fu - 1, by omega⟩
      obtain rfl : k = N := by omega
      rw [gj_lp_e (hstop τ hI)]
      exact tp_some hI
    | succ d ih =>
      intro k τ hk hI fu hfu
      obtain ⟨fu', rfl⟩ : ∃ x, fu = x + 1 := ⟨fu - 1, by omega⟩
      obtain ⟨x, e, τ', rfl, hI'⟩ := hstep k τ (by omega) hI
      rw [gj_lp_g e]
      exact ih (k + 1) τ' (by omega) hI' fu' (by omega)
  exact main N 0 σ (by omega) h0 5000 hN
theorem iv_s {I : gj_S → Prop} {k : Nat} {τ : gj_S} (h : I τ) : ∃ τ', (Sum.inr (nI k + 1, τ) : gj_S ⊕ (Int32 × gj_S)) = .inr (nI (k + 1), τ') ∧ I τ' := ⟨τ, by rw [nI_1], h⟩
theorem r9_139 {σ : gj_S} : TP (gj_lp fb_X9_text_l139 5000 (0, σ)) (fun z => z.1 = σ.1 ∧ z.2.2 = σ.2.2 ∧ (∀ c, c ≠ 192 → z.2.1 c = σ.2.1 c) ∧ ∀ j, j < 24 → z.2.1 192 j = σ.2.1 192 (24 + j)) := by
  refine tp_mono (lp_iv (N := 24) (I := fun k τ => τ.1 = σ.1 ∧ τ.2.2 = σ.2.2 ∧ (∀ c, c ≠ 192 → τ.2.1 c = σ.2.1 c) ∧ (∀ j, j < k → τ.2.1 192 j = σ.2.1 192 (24 + j)) ∧ ∀ j, k ≤ j → τ.2.1 192 j = σ.2.1 192 j) (by omega) ⟨rfl, rfl, fun _ _ => rfl, fun j hj => absurd hj (Nat.not_lt_zero _), fun _ _ => rfl⟩ (fun τ _ => ?_) (fun k τ hk hI => ?_)) (fun z hz => ⟨hz.1, hz.2.1, hz.2.2.1, hz.2.2.2.1⟩)
  · unfold fb_X9_text_l139
    exact if_pos (show (24 : Int32) ≤ nI 24 by decide)
  · obtain ⟨i1, i2, i3, i4, i5⟩ := hI
    have e24 : (24 : Int32) + nI k = nI (24 + k) := by rw [show (24 : Int32) = nI 24 from rfl, nI_add]
    unfold fb_X9_text_l139
    dsimp only
    simp only [e24, nI_clamp (show 24 + k < 2 ^ 31 by omega), nI_clamp (show k < 2 ^ 31 by omega)]
    refine tp_f (nI_ge (b := 24) (by omega) (by omega)) (tp_t (gi (by omega) (by omega)) (tp_t (gi (by omega) (by omega)) (tp_some (iv_s ⟨i1, i2, fun c hc => by rw [sJ_ne hc]; exact i3 c hc, fun j hj => ?_, fun j hj => ?_⟩))))
    · rw [sJ_eq]
      by_cases q : j = k
      · rw [q, uL_eq]
        exact i5 _ (by omega)
      · rw [uL_ne q]
        exact i4 j (by omega)
    · rw [sJ_eq, uL_ne (by omega)]
      exact i5 j (by omega)
theorem r9_168 {n : Nat} {σ : gj_S} (hn : n ≤ 8) (h : σ.1 190 0 = nI n) : TP (gj_lp fb_X9_text_l168 5000 (0, σ)) (fun z => (∀ c, c ≠ 198 → z.1 c = σ.1 c) ∧ z.2 = σ.2 ∧ ∀ d, d < n → z.1 198 d = σ.1 193 (8 + d)) := by
  have c0 : (0 : Int32).toNatClampNeg = 0 := by decide
  have g0 : gj_in (0 : Int32) 2 := gi (k := 0) (by omega) (by omega)
  refine tp_mono (lp_iv (N := 8) (I := fun k τ => (∀ c, c ≠ 198 → τ.1 c = σ.1 c) ∧ τ.2 = σ.2 ∧ ∀ d, d < k → d < n → τ.1 198 d = σ.1 193 (8 + d)) (by omega) ⟨fun _ _ => rfl, rfl, fun j hj => absurd hj (Nat.not_lt_zero _)⟩ (fun τ _ => ?_) (fun k τ hk hI => ?_)) (fun z hz => ⟨hz.1, hz.2.1, fun d hd => hz.2.2 d (by omega) hd⟩)
  · unfold fb_X9_text_l168
    exact if_pos (show (8 : Int32) ≤ nI 8 by decide)
  · obtain ⟨i1, i2, i3⟩ := hI
    unfold fb_X9_text_l168
    dsimp only
    have e8 : (8 : Int32) + nI k = nI (8 + k) := by rw [show (8 : Int32) = nI 8 from rfl, nI_add]
    have e0 : (0 : Int32) + nI k = nI (0 + k) := by rw [show (0 : Int32) = nI 0 from rfl, nI_add]
    simp only [c0, e8, e0, nI_clamp (show 0 + k < 2 ^ 31 by omega), nI_clamp (show 8 + k < 2 ^ 31 by omega)]
    rw [i1 190 (by decide), h]
    refine tp_f (nI_ge (b := 8) (by omega) (by omega)) (tp_t g0 ?_)
    by_cases q : n ≤ k
    · refine tp_t (nI_le q (by omega)) (tp_t (gi (by omega) (by omega)) (tp_some (iv_s ⟨fun c hc => by rw [sI_ne hc]; exact i1 c hc, i2, fun d hd hdn => ?_⟩)))
      rw [sI_eq, up_ne (by omega)]
      exact i3 d (by omega) hdn
    · refine tp_f (nI_ge (by omega) (by omega)) (tp_t (gi (by omega) (by omega)) (tp_t (gi (by omega) (by omega)) (tp_some (iv_s ⟨fun c hc => by rw [sI_ne hc]; exact i1 c hc, i2, fun d hd hdn => ?_⟩))))
      rw [sI_eq]
      by_cases q2 : d = k
      · rw [q2, Nat.zero_add, up_eq, i1 193 (by decide)]
      · rw [up_ne (by omega)]
        exact i3 d (by omega) hdn
theorem r9_213 {r : Nat} {σ : gj_S} (hr : r ≤ 16) (h : σ.1 191 0 = nI r) : TP (gj_lp fb_X9_text_l213 5000 (0, σ)) (fun z => (∀ c, c ≠ 194 → c ≠ 195 → c ≠ 198 → z.1 c = σ.1 c) ∧ z.2 = σ.2 ∧ (∀ j, j < 8 → z.1 198 j = σ.1 198 j) ∧ ∀ w, w < r → z.1 194 w = σ.1 194 (16 + w) ∧ z.1 195 w = σ.1 195 (16 + w) ∧ z.1 198 (8 + w) = σ.1 196 (16 + w) ∧ z.1 198 (24 + w) = σ.1 197 (16 + w)) := by
  have c0 : (0 : Int32).toNatClampNeg = 0 := by decide
  have g0 : gj_in (0 : Int32) 2 := gi (k := 0) (by omega) (by omega)
  refine tp_mono (lp_iv (N := 16) (I := fun k τ => (∀ c, c ≠ 194 → c ≠ 195 → c ≠ 198 → τ.1 c = σ.1 c) ∧ τ.2 = σ.2 ∧ (∀ j, j < 8 → τ.1 198 j = σ.1 198 j) ∧ (∀ j, 16 ≤ j → τ.1 194 j = σ.1 194 j ∧ τ.1 195 j = σ.1 195 j) ∧ ∀ w, w < k → w < r → τ.1 194 w = σ.1 194 (16 + w) ∧ τ.1 195 w = σ.1 195 (16 + w) ∧ τ.1 198 (8 + w) = σ.1 196 (16 + w) ∧ τ.1 198 (24 + w) = σ.1 197 (16 + w)) (by omega) ⟨fun _ _ _ _ => rfl, rfl, fun _ _ => rfl, fun _ _ => ⟨rfl, rfl⟩, fun j hj => absurd hj (Nat.not_lt_zero _)⟩ (fun τ _ => ?_) (fun k τ hk hI => ?_)) (fun z hz => ⟨hz.1, hz.2.1, hz.2.2.1, fun w hw => hz.2.2.2.2 w (by omega) hw⟩)
  · unfold fb_X9_text_l213
    exact if_pos (show (16 : Int32) ≤ nI 16 by decide)
  · obtain ⟨i1, i2, i3, i4, i5⟩ := hI
    have e16 : (16 : Int32) + nI k = nI (16 + k) := by rw [show (16 : Int32) = nI 16 from rfl, nI_add]
    have e8 : (8 : Int32) + nI k = nI (8 + k) := by rw [show (8 : Int32) = nI 8 from rfl, nI_add]
    have e24 : (24 : Int32) + nI k = nI (24 + k) := by rw [show (24 : Int32) = nI 24 from rfl, nI_add]
    unfold fb_X9_text_l213
    dsimp only
    simp only [e16, e8, e24, c0, nI_clamp (show 16 + k < 2 ^ 31 by omega), nI_clamp (show 8 + k < 2 ^ 31 by omega), nI_clamp (show 24 + k < 2 ^ 31 by omega), nI_clamp (show k < 2 ^ 31 by omega)]
    have g16 : gj_in (nI (16 + k)) 32 := gi (by omega) (by omega)
    have gk : gj_in (nI k) 32 := gi (by omega) (by omega)
    refine tp_f (nI_ge (b := 16) (by omega) (by omega)) (tp_t g16 (tp_t gk (tp_t g16 (tp_t gk (tp_beq rfl (tp_t g0 ?_))))))
    obtain ⟨s, hs⟩ : ∃ s, s = gj_sI (gj_sI τ 194 (upd (τ.1 194) k (τ.1 194 (16 + k)))) 195 (upd ((gj_sI τ 194 (upd (τ.1 194) k (τ.1 194 (16 + k)))).1 195) k ((gj_sI τ 194 (upd (τ.1 194) k (τ.1 194 (16 + k)))).1 195 (16 + k))) := ⟨_, rfl⟩
    rw [← hs]
    have s0 : ∀ c, c ≠ 194 → c ≠ 195 → s.1 c = τ.1 c := fun c a b => by rw [hs, sI_ne b, sI_ne a]
    have s4 : s.1 194 = upd (τ.1 194) k (τ.1 194 (16 + k)) := by rw [hs, sI_ne (by decide), sI_eq]
    have s5 : s.1 195 = upd (τ.1 195) k (τ.1 195 (16 + k)) := by rw [hs, sI_eq, sI_ne (by decide)]
    have sJ : s.2 = σ.2 := by rw [hs]; exact i2
    clear hs
    have r191 : s.1 191 0 = nI r := by rw [s0 191 (by decide) (by decide), i1 191 (by decide) (by decide) (by decide)]; exact h
    have fin : ∀ v1 v2 : Int32, (k < r → v1 = σ.1 196 (16 + k) ∧ v2 = σ.1 197 (16 + k)) → ∃ τ', (Sum.inr (nI k + 1, gj_sI (gj_sI s 198 (upd (s.1 198) (8 + k) v1)) 198 (upd ((gj_sI s 198 (upd (s.1 198) (8 + k) v1)).1 198) (24 + k) v2)) : gj_S ⊕ (Int32 × gj_S)) = .inr (nI (k + 1), τ') ∧ (∀ c, c ≠ 194 → c ≠ 195 → c ≠ 198 → τ'.1 c = σ.1 c) ∧ τ'.2 = σ.2 ∧ (∀ j, j < 8 → τ'.1 198 j = σ.1 198 j) ∧ (∀ j, 16 ≤ j → τ'.1 194 j = σ.1 194 j ∧ τ'.1 195 j = σ.1 195 j) ∧ ∀ w, w < k + 1 → w < r → τ'.1 194 w = σ.1 194 (16 + w) ∧ τ'.1 195 w = σ.1 195 (16 + w) ∧ τ'.1 198 (8 + w) = σ.1 196 (16 + w) ∧ τ'.1 198 (24 + w) = σ.1 197 (16 + w) := by
      intro v1 v2 hv
      refine ⟨gj_sI (gj_sI s 198 (upd (s.1 198) (8 + k) v1)) 198 (upd ((gj_sI s 198 (upd (s.1 198) (8 + k) v1)).1 198) (24 + k) v2), by rw [nI_1], fun c a b d => by rw [sI_ne d, sI_ne d, s0 c a b]; exact i1 c a b d, sJ, fun j hj => ?_, fun j hj => ?_, fun w hw hwr => ?_⟩
      · rw [sI_eq, up_ne (by omega), sI_eq, up_ne (by omega), s0 198 (by decide) (by decide)]
        exact i3 j hj
      · rw [sI_ne (by decide), sI_ne (by decide), s4, up_ne (by omega), sI_ne (by decide), sI_ne (by decide), s5, up_ne (by omega)]
        exact i4 j hj
      · rw [sI_ne (by decide), sI_ne (by decide), s4, sI_ne (by decide), sI_ne (by decide), s5, sI_eq, sI_eq]
        by_cases q : w = k
        · subst q
          obtain ⟨v1', v2'⟩ := hv hwr
          rw [up_eq, up_eq, up_ne (by omega), up_eq, up_eq]
          exact ⟨(i4 _ (by omega)).1, (i4 _ (by omega)).2, v1', v2'⟩
        · rw [up_ne q, up_ne q, up_ne (by omega), up_ne (by omega), up_ne (by omega), up_ne (by omega), s0 198 (by decide) (by decide)]
          exact i5 w (by omega) hwr
    by_cases q : r ≤ k
    · refine tp_beq (x := 0) (by rw [r191, if_pos (nI_le q (by omega))]) (tp_t (gi (by omega) (by omega)) (tp_t g0 (tp_t ?_ (tp_t (gi (by omega) (by omega)) (tp_beq rfl (tp_some (fin _ _ (fun x => by omega))))))))
      rw [sI_ne (by decide), r191]
      exact nI_le q (by omega)
    · refine tp_beq (x := s.1 196 (16 + k)) (by rw [r191, if_neg (nI_ge (by omega) (by omega)), if_pos g16]) (tp_t (gi (by omega) (by omega)) (tp_t g0 (tp_f ?_ (tp_t g16 (tp_t (gi (by omega) (by omega)) (tp_beq rfl (tp_some (fin _ _ (fun _ => ⟨?_, ?_⟩)))))))))
      · rw [sI_ne (by decide), r191]
        exact nI_ge (by omega) (by omega)
      · rw [s0 196 (by decide) (by decide), i1 196 (by decide) (by decide) (by decide)]
      · rw [sI_ne (by decide), s0 197 (by decide) (by decide), i1 197 (by decide) (by decide) (by decide)]
def A0 : pA := ((0, 0), (fun _ => []), (fun _ => []), (fun _ => 0), (fun _ _ => 0), 4, false)
theorem WF_0 : WF A0 := ⟨by show 0 ≤ 8; omega, by show 0 ≤ 16; omega, fun d hd => absurd hd (Nat.not_lt_zero _), fun d hd => absurd hd (Nat.not_lt_zero _), 4, by omega, by omega, rfl⟩
/-- what the reference leaves after a text -/
def tF (σ z : gj_S) : Prop := (∀ c, c ≠ 188 → (c < 190 ∨ c = 192 ∨ 197 < c) → z.1 c = σ.1 c) ∧ z.1 188 2 = 0 ∧ (∀ j, 20 < j → z.1 188 j = σ.1 188 j) ∧ (∀ j, j ≠ 1 → z.1 190 j = σ.1 190 j ∧ z.1 191 j = σ.1 191 j) ∧ (∀ w, w < 16 → z.1 194 w = σ.1 194 w ∧ z.1 195 w = σ.1 195 w) ∧ (∀ c, c ≠ 188 → c ≠ 192 → z.2.1 c = σ.2.1 c) ∧ (∀ j, j < 24 → z.2.1 192 j = σ.2.1 192 j)
def tS (B : pA) (σ z : gj_S) : Prop := (∀ c, c < 188 → z.1 c = σ.1 c) ∧ z.1 189 = σ.1 189 ∧ z.1 188 2 = 0 ∧ z.1 188 23 = 0 ∧ z.1 190 0 = nI B.1.1 ∧ z.1 191 0 = nI B.1.2 ∧ (∀ w, w < B.1.2 → z.1 194 w = B.2.2.2.2.1 0 w ∧ z.1 195 w = B.2.2.2.2.1 1 w ∧ z.2.1 192 (8 + w) = pk5 (B.2.2.1 w)) ∧ (∀ c, c < 188 → z.2.1 c = σ.2.1 c) ∧ z.1 201 0 = 0 ∧ z.1 201 1 = 0 ∧ ∃ s0, bgR B.1.1 B.1.2 s0 (z.1 198) ∧ (∀ d, d < B.1.1 → s0 d = B.2.2.2.1 d) ∧ (∀ w, w < B.1.2 → s0 (8 + w) = B.2.2.2.2.1 2 w ∧ s0 (24 + w) = B.2.2.2.2.1 3 w) ∧ s0 40 = B.2.2.2.2.2.1
theorem lns_wf {y : Nat → Int32} {N : Nat} : ∀ (f p : Nat) (A B : pA), WF A → p ≤ N → lns y N f A p = .inr B → WF B
  | 0, _, A, B, hW, _, h => by
    unfold lns at h
    cases h
    exact hW
  | f + 1, p, A, B, hW, hp, h => by
    unfold lns at h
    split at h
    · cases h
      exact hW
    · cases hl : lin1 y N A p with
      | inl F =>
        rw [hl] at h
        cases h
      | inr r =>
        rw [hl] at h
        have hl' := hl
        unfold lin1 at hl'
        cases h0 : lin0 y N A p with
        | inl F =>
          rw [h0] at hl'
          cases hl'
        | inr r' =>
          rw [h0] at hl'
          have h1 := (lin0_ok hW hp h0).2 r' rfl
          dsimp only at hl'
          split at hl'
          · cases hl'
            exact lns_wf f _ _ B h1.1 (te_N h1.2.2).2 h
          · cases hl'
theorem r9_textN {y : Nat → Int32} {N t : Nat} {σ : gj_S} (hN : N ≤ t) (ht : t ≤ 600) (h2 : σ.1 188 2 = nI t) (hy : ∀ i, i < N → σ.1 189 i = y i ∧ -128 ≤ (y i).toInt ∧ (y i).toInt ≤ 127) : TP (f_X9_text (nI N) σ) (fun x => match lns y N (N + 1) A0 0 with | .inl F => x.1 = -2 - nI F ∧ tF σ x.2 | .inr B => x.1 = nI B.1.1 ∧ tS B σ x.2) := by
  have c0 : (0 : Int32).toNatClampNeg = 0 := by decide
  have c1 : (1 : Int32).toNatClampNeg = 1 := by decide
  have g0 : gj_in (0 : Int32) 2 := gi (k := 0) (by omega) (by omega)
  have g1 : gj_in (1 : Int32) 2 := gi (k := 1) (by omega) (by omega)
  have wi : f_X9_within (nI N).toInt64 0 (nI t).toInt64 = some 1 := by
    have := wiL (nI N) 0 (nI t)
    rw [nI_toInt (by omega), nI_toInt (by omega), i0_toInt, decide_eq_true (by omega)] at this
    exact this
  unfold f_X9_text
  simp only [c0, c1]
  have e0 : (gj_sI σ 188 (upd (σ.1 188) 0 0)).1 188 2 = nI t := by rw [sI_eq, up_ne (by decide)]; exact h2
  rw [e0]
  refine tp_beq wi (tp_f (by decide) (tp_beq rfl (tp_t g1 (tp_beq rfl (tp_t g1 (tp_beq rfl ?_))))))
  -- the start
  generalize hs0 : gj_sI (gj_sI (gj_sI σ 188 (upd (σ.1 188) 0 0)) 188 (upd ((gj_sI σ 188 (upd (σ.1 188) 0 0)).1 188) 2 0)) 188 (upd ((gj_sI (gj_sI σ 188 (upd (σ.1 188) 0 0)) 188 (upd ((gj_sI σ 188 (upd (σ.1 188) 0 0)).1 188) 2 0)).1 188) 3 (nI N)) = sA
  have A1 : ∀ c, c ≠ 188 → sA.1 c = σ.1 c := fun c hc => by rw [← hs0, sI_ne hc, sI_ne hc, sI_ne hc]
  have A2 : sA.1 188 = upd (upd (upd (σ.1 188) 0 0) 2 0) 3 (nI N) := by rw [← hs0, sI_eq, sI_eq, sI_eq]
  have A3 : sA.2 = σ.2 := by rw [← hs0]; rfl
  clear hs0
  generalize hs1 : gj_sI (gj_sI (gj_sI sA 188 (upd (sA.1 188) 5 0)) 188 (upd ((gj_sI sA 188 (upd (sA.1 188) 5 0)).1 188) 9 0)) 190 (upd ((gj_sI (gj_sI sA 188 (upd (sA.1 188) 5 0)) 188 (upd ((gj_sI sA 188 (upd (sA.1 188) 5 0)).1 188) 9 0)).1 190) 1 0) = sB
  have B1 : ∀ c, c ≠ 188 → c ≠ 190 → sB.1 c = σ.1 c := fun c hc hd => by rw [← hs1, sI_ne hd, sI_ne hc, sI_ne hc, A1 c hc]
  have B2 : sB.1 188 = upd (upd (upd (upd (upd (σ.1 188) 0 0) 2 0) 3 (nI N)) 5 0) 9 0 := by rw [← hs1, sI_ne (by decide), sI_eq, sI_eq, A2]
  have B3 : sB.1 190 = upd (σ.1 190) 1 0 := by rw [← hs1, sI_eq, sI_ne (by decide), sI_ne (by decide), A1 190 (by decide)]
  have B4 : sB.2 = σ.2 := by rw [← hs1]; exact A3
  clear hs1 A1 A2 A3
  generalize hs2 : gj_sI (gj_sI (gj_sI sB 191 (upd (sB.1 191) 1 0)) 188 (upd ((gj_sI sB 191 (upd (sB.1 191) 1 0)).1 188) 20 0)) 188 (upd ((gj_sI (gj_sI sB 191 (upd (sB.1 191) 1 0)) 188 (upd ((gj_sI sB 191 (upd (sB.1 191) 1 0)).1 188) 20 0)).1 188) 19 4) = s
  have S1 : ∀ c, c ≠ 188 → c ≠ 190 → c ≠ 191 → s.1 c = σ.1 c := fun c a b d => by rw [← hs2, sI_ne a, sI_ne a, sI_ne d, B1 c a b]
  have S2 : s.1 188 = upd (upd (upd (upd (upd (upd (upd (σ.1 188) 0 0) 2 0) 3 (nI N)) 5 0) 9 0) 20 0) 19 4 := by rw [← hs2, sI_eq, sI_eq, sI_ne (by decide), B2]
  have S3 : s.1 190 = upd (σ.1 190) 1 0 := by rw [← hs2, sI_ne (by decide), sI_ne (by decide), sI_ne (by decide), B3]
  have S4 : s.1 191 = upd (σ.1 191) 1 0 := by rw [← hs2, sI_ne (by decide), sI_ne (by decide), sI_eq, B1 191 (by decide) (by decide)]
  have S5 : s.2 = σ.2 := by rw [← hs2]; exact B4
  clear hs2 B1 B2 B3 B4
  have hr : rd9 y N s := by
    refine ⟨by omega, ?_, fun i hi => ?_⟩
    · rw [S2, up_ne (by decide), up_ne (by decide), up_ne (by decide), up_ne (by decide), up_eq]
    · rw [S1 189 (by decide) (by decide) (by decide)]
      exact hy i hi
  have hat : s.1 188 5 = nI 0 := by
    rw [S2, up_ne (by decide), up_ne (by decide), up_ne (by decide), up_eq]
    rfl
  have hP0 : P9 A0 s := by
    refine ⟨by rw [S3, up_eq]; rfl, by rw [S4, up_eq]; rfl, by rw [S2, up_eq]; rfl, by rw [S2, up_ne (by decide), up_eq]; rfl, fun d hd => absurd hd (Nat.not_lt_zero _), fun d hd => absurd hd (Nat.not_lt_zero _)⟩
  have hf0 : s.1 188 9 = 0 := by rw [S2, up_ne (by decide), up_ne (by decide), up_eq]
  refine tp_bind (r9_tok hr (Nat.zero_le _) hat) (fun x7 hx7 => ?_)
  obtain ⟨f7, t7⟩ := hx7
  have h7 : FR9 s x7 := FR9_T f7
  refine tp_bind (r9_lines (N + 1) 0 A0 x7 (by omega) (Nat.zero_le _) (fT9_rd f7 hr) t7 (by rw [f7.2.1 9 (by omega)]; exact hf0) (P9_T f7 hP0) WF_0 5000 (by omega)) (fun z8 hz8 => ?_)
  cases hl : lns y N (N + 1) A0 0 with
  | inl F =>
    rw [hl] at hz8
    obtain ⟨⟨k, pl, k1, k2, k3, k4, k5⟩, fr⟩ := hz8
    have fr8 := FR9_tr h7 fr
    refine tp_f (by rw [k3]; exact nI_ne0 (by omega) (by omega)) (tp_some ⟨?_, ?_⟩)
    · show (-2 : Int32) - (8 * z8.1 188 10 + z8.1 188 9) = -2 - nI F
      rw [k3, k4, show (8 : Int32) = nI 8 from rfl, nI_mul, nI_add, k5]
    · obtain ⟨b1, b2, b3, b4, b5, b6, b7⟩ := fr8
      refine ⟨fun c a b => by rw [b1 c a b]; exact S1 c a (by omega) (by omega), ?_, fun j hj => ?_, fun j hj => ?_, fun w hw => ?_, fun c a b => by rw [b5 c a b, S5], fun j hj => by rw [b6 j hj, S5]⟩
      · show z8.1 188 2 = 0
        rw [b2 2 (by omega), S2, up_ne (by decide), up_ne (by decide), up_ne (by decide), up_ne (by decide), up_ne (by decide), up_eq]
      · show z8.1 188 j = _
        rw [b2 j (by omega), S2, up_ne (by omega), up_ne (by omega), up_ne (by omega), up_ne (by omega), up_ne (by omega), up_ne (by omega), up_ne (by omega)]
      · show z8.1 190 j = _ ∧ z8.1 191 j = _
        rw [(b3 j hj).1, (b3 j hj).2, S3, S4, up_ne hj, up_ne hj]
        exact ⟨rfl, rfl⟩
      · show z8.1 194 w = _ ∧ z8.1 195 w = _
        rw [(b4 w hw).1, (b4 w hw).2, S1 194 (by decide) (by decide) (by decide), S1 195 (by decide) (by decide) (by decide)]
        exact ⟨rfl, rfl⟩
  | inr B =>
    rw [hl] at hz8
    have hW := lns_wf _ _ _ _ WF_0 (Nat.zero_le _) hl
    obtain ⟨hf8, P8', fr⟩ := hz8
    have fr8 := FR9_tr h7 fr
    have hn := hW.1
    have hr16 := hW.2.1
    refine tp_t hf8 (tp_t g1 (tp_t g0 (tp_t g1 (tp_t g0 (tp_beq rfl ?_)))))
    generalize hs3 : gj_sI (gj_sI z8 190 (upd (z8.1 190) 0 (z8.1 190 1))) 191 (upd ((gj_sI z8 190 (upd (z8.1 190) 0 (z8.1 190 1))).1 191) 0 ((gj_sI z8 190 (upd (z8.1 190) 0 (z8.1 190 1))).1 191 1)) = u
    have U1 : ∀ c, c ≠ 190 → c ≠ 191 → u.1 c = z8.1 c := fun c a b => by rw [← hs3, sI_ne b, sI_ne a]
    have U2 : u.1 190 0 = nI B.1.1 := by rw [← hs3, sI_ne (by decide), sI_eq, up_eq]; exact P8'.1
    have U3 : u.1 191 0 = nI B.1.2 := by rw [← hs3, sI_eq, up_eq, sI_ne (by decide)]; exact P8'.2.1
    have U4 : u.2 = z8.2 := by rw [← hs3]; rfl
    clear hs3
    refine tp_bind (r9_139 (σ := u)) (fun z14 hz14 => ?_)
    obtain ⟨a1, a2, a3, a4⟩ := hz14
    refine tp_bind (r9_168 (n := B.1.1) hn (by rw [a1]; exact U2)) (fun z15 hz15 => ?_)
    obtain ⟨d1, d2, d3⟩ := hz15
    refine tp_bind (r9_213 (r := B.1.2) hr16 (by rw [d1 191 (by decide), a1]; exact U3)) (fun z16 hz16 => ?_)
    obtain ⟨e1, e2, e3, e4⟩ := hz16
    have z16c : ∀ c, c ≠ 190 → c ≠ 191 → c ≠ 194 → c ≠ 195 → c ≠ 198 → z16.1 c = z8.1 c := fun c q1 q2 q3 q4 q5 => by rw [e1 c q3 q4 q5, d1 c q5, a1, U1 c q1 q2]
    have z15c : ∀ c, c ≠ 190 → c ≠ 191 → c ≠ 198 → z15.1 c = z8.1 c := fun c q1 q2 q5 => by rw [d1 c q5, a1, U1 c q1 q2]
    refine tp_t (gi (k := 40) (by omega) (by omega)) ?_
    rw [show Int32.toNatClampNeg (40 : Int32) = 40 by decide]
    have v190 : (gj_sI z16 198 (upd (z16.1 198) 40 (z16.1 188 19))).1 190 0 = nI B.1.1 := by rw [sI_ne (by decide), e1 190 (by decide) (by decide) (by decide), d1 190 (by decide), a1]; exact U2
    have v191 : (gj_sI z16 198 (upd (z16.1 198) 40 (z16.1 188 19))).1 191 0 = nI B.1.2 := by rw [sI_ne (by decide), e1 191 (by decide) (by decide) (by decide), d1 191 (by decide), a1]; exact U3
    refine tp_bind (r9_begins (n := B.1.1) (r := B.1.2) hn hr16 v190 v191) (fun x18 hx18 => ?_)
    obtain ⟨x1, x2, x3⟩ := hx18
    refine tp_t g0 (tp_beq rfl (tp_t g1 (tp_t g0 (tp_some ?_))))
    rw [show vp_nar .boolean (0 : Int32) = 0 by decide]
    generalize hs4 : gj_sI (gj_sI x18 188 (upd (x18.1 188) 23 0)) 201 (upd ((gj_sI x18 188 (upd (x18.1 188) 23 0)).1 201) 0 0) = v
    have V1 : ∀ c, c ≠ 188 → c ≠ 201 → v.1 c = x18.1 c := fun c a b => by rw [← hs4, sI_ne b, sI_ne a]
    have V2 : v.1 188 = upd (x18.1 188) 23 0 := by rw [← hs4, sI_ne (by decide), sI_eq]
    have V3 : v.1 201 0 = 0 := by rw [← hs4, sI_eq, up_eq]
    have V4 : v.2 = x18.2 := by rw [← hs4]; rfl
    clear hs4
    generalize hs5 : gj_sI v 201 (upd (v.1 201) 1 0) = o
    have O1 : ∀ c, c ≠ 188 → c ≠ 201 → o.1 c = x18.1 c := fun c a b => by rw [← hs5, sI_ne b, V1 c a b]
    have O2 : o.1 188 = upd (x18.1 188) 23 0 := by rw [← hs5, sI_ne (by decide), V2]
    have O3 : o.1 201 0 = 0 := by rw [← hs5, sI_eq, up_ne (by decide), V3]
    have O4 : o.1 201 1 = 0 := by rw [← hs5, sI_eq, up_eq]
    have O5 : o.2 = x18.2 := by rw [← hs5]; exact V4
    clear hs5 V1 V2 V3 V4
    have oc : ∀ c, c ≠ 188 → c ≠ 190 → c ≠ 191 → c ≠ 194 → c ≠ 195 → c ≠ 198 → c ≠ 201 → o.1 c = z8.1 c := fun c q0 q1 q2 q3 q4 q5 q6 => by rw [O1 c q0 q6, x1 c q5, sI_ne q5, z16c c q1 q2 q3 q4 q5]
    have o188 : ∀ j, j ≠ 23 → o.1 188 j = z8.1 188 j := fun j hj => by rw [O2, up_ne hj, x1 188 (by decide), sI_ne (by decide), z16c 188 (by decide) (by decide) (by decide) (by decide) (by decide)]
    have oJ : o.2 = z14.2 := by
      rw [O5, x2]
      show z16.2 = _
      rw [e2, d2]
    obtain ⟨b1, b2, b3, b4, b5, b6, b7⟩ := fr8
    have o190 : o.1 190 0 = nI B.1.1 := by rw [O1 190 (by decide) (by decide), x1 190 (by decide)]; exact v190
    have o191 : o.1 191 0 = nI B.1.2 := by rw [O1 191 (by decide) (by decide), x1 191 (by decide)]; exact v191
    refine ⟨o190, fun c hc => ?_, ?_, ?_, ?_, o190, o191, fun w hw => ?_, fun c hc => ?_, O3, O4, _, by rw [O1 198 (by decide) (by decide)]; exact x3, fun d hd => ?_, fun w hw => ?_, ?_⟩
    · rw [oc c (by omega) (by omega) (by omega) (by omega) (by omega) (by omega) (by omega), b1 c (by omega) (by omega)]
      exact S1 c (by omega) (by omega) (by omega)
    · rw [oc 189 (by omega) (by omega) (by omega) (by omega) (by omega) (by omega) (by omega), b1 189 (by omega) (by omega)]
      exact S1 189 (by omega) (by omega) (by omega)
    · rw [o188 2 (by omega), b2 2 (by omega), S2, up_ne (by decide), up_ne (by decide), up_ne (by decide), up_ne (by decide), up_ne (by decide), up_eq]
    · rw [O2, up_eq]
    · obtain ⟨w1, w2, w3, w4⟩ := e4 w hw
      obtain ⟨p1, p2⟩ := P8'.2.2.2.2.2 w hw
      refine ⟨?_, ?_, ?_⟩
      · rw [O1 194 (by decide) (by decide), x1 194 (by decide), sI_ne (by decide), w1, z15c 194 (by decide) (by decide) (by decide)]
        exact p2 0 (by omega)
      · rw [O1 195 (by decide) (by decide), x1 195 (by decide), sI_ne (by decide), w2, z15c 195 (by decide) (by decide) (by decide)]
        exact p2 1 (by omega)
      · rw [oJ, a4 (8 + w) (by omega), U4, show 24 + (8 + w) = 32 + w by omega]
        exact p1
    · rw [oJ, a3 c (by omega), U4, b5 c (by omega) (by omega), S5]
    · rw [sI_eq, up_ne (by omega), e3 d (by omega), d3 d hd, a1, U1 193 (by decide) (by decide)]
      exact (P8'.2.2.2.2.1 d hd).2
    · obtain ⟨w1, w2, w3, w4⟩ := e4 w hw
      obtain ⟨p1, p2⟩ := P8'.2.2.2.2.2 w hw
      rw [sI_eq, up_ne (by omega), up_ne (by omega), w3, w4, z15c 196 (by decide) (by decide) (by decide), z15c 197 (by decide) (by decide) (by decide)]
      exact ⟨p2 2 (by omega), p2 3 (by omega)⟩
    · rw [sI_eq, up_eq, z16c 188 (by decide) (by decide) (by decide) (by decide) (by decide)]
      exact P8'.2.2.1
