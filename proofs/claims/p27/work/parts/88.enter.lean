/-! ===== what enters ===== -/
def zI (g : Int32) : Int32 := if 0 ≤ g then g else 0 - g
theorem r9_size (g : Int32) : f_X9_sizeOf g = some (zI g) := by
  unfold f_X9_sizeOf zI
  split <;> rfl
/-- the best so far, one way more looked at -/
def enN (G : Nat → Bool) (z : Nat → Int32) (a : Nat) (best : Option Nat) : Option Nat := if G a = true then (match best with | none => some a | some v => if z a ≤ z v then some v else some a) else best
def enX (m a : Nat) : Nat := if a + 1 = m then 0 else a + 1
/-- f ways are left, k were looked at in this block -/
def enS (b m : Nat) (G : Nat → Bool) (z : Nat → Int32) : Nat → Nat → Nat → Option Nat → Nat × Option Nat
  | 0, _, a, best => (a, best)
  | f + 1, k, a, best => if best = none ∨ k < b then enS b m G z f (if k < b then k + 1 else 1) (enX m a) (enN G z a best) else (a, best)
/-- to the block's end -/
def enI (b m : Nat) (G : Nat → Bool) (z : Nat → Int32) : Nat → Nat → Nat → Option Nat → Nat × Nat × Option Nat
  | 0, _, a, best => (0, a, best)
  | f + 1, k, a, best => if k < b then enI b m G z f (k + 1) (enX m a) (enN G z a best) else (f + 1, a, best)
theorem en_SI {b m : Nat} {G : Nat → Bool} {z : Nat → Int32} : ∀ (f k a : Nat) (best : Option Nat), k ≤ b → enS b m G z f k a best = enS b m G z (enI b m G z f k a best).1 b (enI b m G z f k a best).2.1 (enI b m G z f k a best).2.2
  | 0, k, a, best, _ => rfl
  | f + 1, k, a, best, hk => by
    by_cases q : k < b
    · have e1 : enS b m G z (f + 1) k a best = enS b m G z f (k + 1) (enX m a) (enN G z a best) := by
        show (if best = none ∨ k < b then _ else _) = _
        rw [if_pos (.inr q), if_pos q]
      have e2 : enI b m G z (f + 1) k a best = enI b m G z f (k + 1) (enX m a) (enN G z a best) := by
        show (if k < b then _ else _) = _
        rw [if_pos q]
      rw [e1, e2]
      exact en_SI f (k + 1) _ _ (by omega)
    · have e2 : enI b m G z (f + 1) k a best = (f + 1, a, best) := by
        show (if k < b then _ else _) = _
        rw [if_neg q]
      rw [e2, show k = b by omega]
theorem en_S0 {b m : Nat} {G : Nat → Bool} {z : Nat → Int32} (hb : 1 ≤ b) (f a : Nat) : enS b m G z f b a none = enS b m G z f 0 a none := by
  cases f with
  | zero => rfl
  | succ f =>
    show (if (none : Option Nat) = none ∨ b < b then _ else _) = (if (none : Option Nat) = none ∨ 0 < b then _ else _)
    rw [if_pos (show (none : Option Nat) = none ∨ b < b from .inl rfl), if_pos (show (none : Option Nat) = none ∨ 0 < b from .inl rfl), if_neg (Nat.lt_irrefl b), if_pos (show 0 < b by omega)]
theorem en_Sb {b m : Nat} {G : Nat → Bool} {z : Nat → Int32} (f a v : Nat) : enS b m G z f b a (some v) = (a, some v) := by
  cases f with
  | zero => rfl
  | succ f =>
    show (if (some v : Option Nat) = none ∨ b < b then _ else _) = _
    rw [if_neg (fun q => by rcases q with q | q; exact absurd q (by simp); exact Nat.lt_irrefl _ q)]
theorem en_If {b m : Nat} {G : Nat → Bool} {z : Nat → Int32} : ∀ (f k a : Nat) (best : Option Nat), (enI b m G z f k a best).1 ≤ f ∧ (0 < f → k < b → (enI b m G z f k a best).1 < f)
  | 0, _, _, _ => ⟨Nat.le_refl _, fun h => absurd h (Nat.lt_irrefl _)⟩
  | f + 1, k, a, best => by
    by_cases q : k < b
    · have e2 : enI b m G z (f + 1) k a best = enI b m G z f (k + 1) (enX m a) (enN G z a best) := by
        show (if k < b then _ else _) = _
        rw [if_pos q]
      rw [e2]
      have := (en_If (b := b) (m := m) (G := G) (z := z) f (k + 1) (enX m a) (enN G z a best)).1
      omega
    · have e2 : enI b m G z (f + 1) k a best = (f + 1, a, best) := by
        show (if k < b then _ else _) = _
        rw [if_neg q]
      rw [e2]
      exact ⟨Nat.le_refl _, fun _ h => absurd h q⟩
/-- what comes out: a way, and a good one -/
def enV (m : Nat) (G : Nat → Bool) (best : Option Nat) : Prop := ∀ v, best = some v → v < m ∧ G v = true
theorem enV_N {m : Nat} {G : Nat → Bool} {z : Nat → Int32} {a : Nat} {best : Option Nat} (h : enV m G best) (ha : a < m) : enV m G (enN G z a best) := by
  intro v hv
  unfold enN at hv
  by_cases q : G a = true
  · rw [if_pos q] at hv
    cases best with
    | none =>
      cases hv
      exact ⟨ha, q⟩
    | some u =>
      dsimp only at hv
      by_cases q2 : z a ≤ z u
      · rw [if_pos q2] at hv
        exact h v hv
      · rw [if_neg q2] at hv
        cases hv
        exact ⟨ha, q⟩
  · rw [if_neg q] at hv
    exact h v hv
theorem enX_lt {m a : Nat} (h : a < m) : enX m a < m := by
  unfold enX
  split <;> omega
theorem enS_V {b m : Nat} {G : Nat → Bool} {z : Nat → Int32} : ∀ (f k a : Nat) (best : Option Nat), (f = 0 ∨ a < m) → enV m G best → enV m G (enS b m G z f k a best).2 ∧ (a < m → (enS b m G z f k a best).1 < m) ∧ (f = 0 → (enS b m G z f k a best).1 = a)
  | 0, _, a, best, _, h => ⟨h, fun h => h, fun _ => rfl⟩
  | f + 1, k, a, best, ha, h => by
    have ha' : a < m := by omega
    by_cases q : best = none ∨ k < b
    · have e1 : enS b m G z (f + 1) k a best = enS b m G z f (if k < b then k + 1 else 1) (enX m a) (enN G z a best) := by
        show (if best = none ∨ k < b then _ else _) = _
        rw [if_pos q]
      rw [e1]
      obtain ⟨h1, h2, h3⟩ := enS_V (b := b) (z := z) f (if k < b then k + 1 else 1) (enX m a) (enN G z a best) (.inr (enX_lt ha')) (enV_N h ha')
      exact ⟨h1, fun _ => h2 (enX_lt ha'), fun e => absurd e (by omega)⟩
    · have e1 : enS b m G z (f + 1) k a best = (a, best) := by
        show (if best = none ∨ k < b then _ else _) = _
        rw [if_neg q]
      rw [e1]
      exact ⟨h, fun h => h, fun e => absurd e (by omega)⟩
def eb (best : Option Nat) : Int32 := match best with | none => -1 | some v => nI v
theorem eb_m1 {m : Nat} {G : Nat → Bool} {best : Option Nat} (h : enV m G best) (hm : m ≤ 24) : eb best = -1 ↔ best = none := by
  cases best with
  | none => exact ⟨fun _ => rfl, fun _ => rfl⟩
  | some v =>
    have := (h v rfl).1
    exact ⟨fun q => absurd q (nI_m1 (by omega)), fun q => by cases q⟩
/-- the rows that say what enters -/
def rG (r : Nat) (b0 e0 : Nat → Nat) (s : Nat → Int32) (pr : Nat → Int32) (w : Nat) : Int32 := zI (vg r b0 e0 s pr w)
theorem r9_l28 {n r : Nat} {b0 e0 : Nat → Nat} {up par rk dp : Nat → Nat} {pr : Nat → Int32} {τ : gj_S} (h : rL n r b0 e0 up par rk dp pr τ) {b : Nat} (hb : b ≤ 24) (hs : τ.1 198 40 = nI b) {f k a : Nat} {best : Option Nat} (hf : f ≤ r + n) (hk : k ≤ b) (ha : f = 0 ∨ a < r + n) (hV : enV (r + n) (vG r b0 e0 (τ.1 198) pr) best) :
    TP (gj_lp (fb_X9_entering_l28 τ) 5000 (eb best, nI (r + n - f), nI a, nI k)) (fun y => ∃ f' a' best', enI b (r + n) (vG r b0 e0 (τ.1 198) pr) (rG r b0 e0 (τ.1 198) pr) f k a best = (f', a', best') ∧ y = (eb best', nI (r + n - f'), nI a') ∧ (f' = 0 ∨ a' < r + n) ∧ f' ≤ r + n ∧ enV (r + n) (vG r b0 e0 (τ.1 198) pr) best') := by
  have hn := h.1.1
  have hr := h.1.2.1
  refine tp_lp (I := fun x => ∃ f1 k1 a1 best1, x = (eb best1, nI (r + n - f1), nI a1, nI k1) ∧ f1 ≤ r + n ∧ k1 ≤ b ∧ (f1 = 0 ∨ a1 < r + n) ∧ enV (r + n) (vG r b0 e0 (τ.1 198) pr) best1 ∧ enI b (r + n) (vG r b0 e0 (τ.1 198) pr) (rG r b0 e0 (τ.1 198) pr) f1 k1 a1 best1 = enI b (r + n) (vG r b0 e0 (τ.1 198) pr) (rG r b0 e0 (τ.1 198) pr) f k a best) (fun x => r + n - x.2.1.toNatClampNeg) ?_ 5000 _ ⟨f, k, a, best, rfl, hf, hk, ha, hV, rfl⟩ (by dsimp only; omega)
  rintro x ⟨f1, k1, a1, best1, rfl, h1, h2, h3, h4, h5⟩
  unfold fb_X9_entering_l28
  refine tp_t (by decide) ?_
  dsimp only
  simp only [show Int32.toNatClampNeg (40 : Int32) = 40 by decide, hs]
  by_cases e1 : k1 = b
  · subst e1
    refine tp_t (nI_le (by omega) (by omega)) (tp_some ?_)
    refine ⟨f1, a1, best1, ?_, rfl, h3, h1, h4⟩
    rw [← h5]
    cases f1 with
    | zero => rfl
    | succ f1 =>
      show (if k1 < k1 then _ else _) = _
      rw [if_neg (Nat.lt_irrefl _)]
  · refine tp_f (nI_ge (by omega) (by omega)) ?_
    rw [r9_ways h.1]
    refine tp_beq rfl ?_
    by_cases e2 : f1 = 0
    · subst e2
      exact tp_t (nI_le (by omega) (by omega)) (tp_some ⟨0, a1, best1, by rw [← h5]; rfl, rfl, h3, h1, h4⟩)
    · have ha1 : a1 < r + n := by omega
      obtain ⟨f2, rfl⟩ : ∃ f2, f1 = f2 + 1 := ⟨f1 - 1, by omega⟩
      refine tp_f (nI_ge (by omega) (by omega)) ?_
      rw [r9_good h ha1]
      refine tp_beq rfl ?_
      refine tp_beq (x := eb (enN (vG r b0 e0 (τ.1 198) pr) (rG r b0 e0 (τ.1 198) pr) a1 best1)) ?_ ?_
      · unfold enN
        by_cases q : vG r b0 e0 (τ.1 198) pr a1 = true
        · rw [if_pos q, if_pos q, if_neg (show ¬ (1 : Int32) = 0 by decide)]
          cases best1 with
          | none => exact if_pos rfl
          | some v =>
            have hv := (h4 v rfl).1
            rw [if_neg (show ¬ eb (some v) = -1 from nI_m1 (by omega)), r9_gain h ha1]
            dsimp only [Option.bind_some]
            rw [r9_size]
            dsimp only [Option.bind_some]
            rw [show eb (some v) = nI v from rfl, r9_gain h hv]
            dsimp only [Option.bind_some]
            rw [r9_size]
            dsimp only [Option.bind_some]
            show (if rG r b0 e0 (τ.1 198) pr a1 ≤ rG r b0 e0 (τ.1 198) pr v then _ else _) = _
            by_cases q2 : rG r b0 e0 (τ.1 198) pr a1 ≤ rG r b0 e0 (τ.1 198) pr v
            · rw [if_pos q2, if_pos q2]
              rfl
            · rw [if_neg q2, if_neg q2]
              rfl
        · rw [if_neg q, if_neg q, if_pos rfl]
      · refine tp_beq rfl ?_
        have hI : enI b (r + n) (vG r b0 e0 (τ.1 198) pr) (rG r b0 e0 (τ.1 198) pr) (f2 + 1) k1 a1 best1 = enI b (r + n) (vG r b0 e0 (τ.1 198) pr) (rG r b0 e0 (τ.1 198) pr) f2 (k1 + 1) (enX (r + n) a1) (enN (vG r b0 e0 (τ.1 198) pr) (rG r b0 e0 (τ.1 198) pr) a1 best1) := by
          show (if k1 < b then _ else _) = _
          rw [if_pos (by omega)]
        have hm : r + n - (nI (r + n - (f2 + 1)) + 1).toNatClampNeg < r + n - (nI (r + n - (f2 + 1))).toNatClampNeg := by
          rw [nI_1, nI_clamp (by omega), nI_clamp (by omega)]
          omega
        have el : nI (r + n - (f2 + 1)) + 1 = nI (r + n - f2) := by
          rw [nI_1]
          congr 1
          omega
        have hW := enV_N (z := rG r b0 e0 (τ.1 198) pr) h4 ha1
        rw [nI_1 a1, nI_1 k1]
        by_cases q : a1 + 1 = r + n
        · refine tp_t (by rw [q]) (tp_some ⟨⟨f2, k1 + 1, enX (r + n) a1, _, ?_, by omega, by omega, .inr (enX_lt ha1), hW, hI.symm.trans h5⟩, hm⟩)
          rw [el]
          unfold enX
          rw [if_pos q]
          rfl
        · refine tp_f (fun e => q ((nI_eq (by omega) (by omega)).mp e)) (tp_some ⟨⟨f2, k1 + 1, enX (r + n) a1, _, ?_, by omega, by omega, .inr (enX_lt ha1), hW, hI.symm.trans h5⟩, hm⟩)
          rw [el]
          unfold enX
          rw [if_neg q]
/-- what enters, and the pointer then -/
theorem r9_enter {n r : Nat} {b0 e0 : Nat → Nat} {up par rk dp : Nat → Nat} {pr : Nat → Int32} {τ : gj_S} (h : rL n r b0 e0 up par rk dp pr τ) {b p : Nat} (hb : b ≤ 24) (hb1 : 1 ≤ b) (hs : τ.1 198 40 = nI b) (hp : τ.1 198 41 = nI p) (hp2 : p < r + n ∨ (p = 0 ∧ r + n = 0)) :
    ∃ a best, enS b (r + n) (vG r b0 e0 (τ.1 198) pr) (rG r b0 e0 (τ.1 198) pr) (r + n) 0 p none = (a, best) ∧ (a < r + n ∨ (a = 0 ∧ r + n = 0)) ∧ enV (r + n) (vG r b0 e0 (τ.1 198) pr) best ∧ f_X9_entering τ = some (eb best, gj_sI τ 188 (upd (τ.1 188) 30 (nI a))) := by
  have hn := h.1.1
  have hr := h.1.2.1
  have hV0 : enV (r + n) (vG r b0 e0 (τ.1 198) pr) none := fun v hv => by cases hv
  have : TP (gj_lp (fb_X9_entering_l12 τ) 5000 (-1, 0, nI p)) (fun y => y = (eb (enS b (r + n) (vG r b0 e0 (τ.1 198) pr) (rG r b0 e0 (τ.1 198) pr) (r + n) 0 p none).2, nI (enS b (r + n) (vG r b0 e0 (τ.1 198) pr) (rG r b0 e0 (τ.1 198) pr) (r + n) 0 p none).1)) := by
    refine tp_lp (I := fun x => ∃ f a best, x = (eb best, nI (r + n - f), nI a) ∧ f ≤ r + n ∧ (f = 0 ∨ a < r + n) ∧ enV (r + n) (vG r b0 e0 (τ.1 198) pr) best ∧ enS b (r + n) (vG r b0 e0 (τ.1 198) pr) (rG r b0 e0 (τ.1 198) pr) f b a best = enS b (r + n) (vG r b0 e0 (τ.1 198) pr) (rG r b0 e0 (τ.1 198) pr) (r + n) 0 p none) (fun x => r + n - x.2.1.toNatClampNeg) ?_ 5000 _ ⟨r + n, p, none, by rw [Nat.sub_self]; rfl, Nat.le_refl _, by omega, hV0, en_S0 hb1 _ _⟩ (by dsimp only; omega)
    rintro x ⟨f, a, best, rfl, h1, h2, h3, h4⟩
    unfold fb_X9_entering_l12
    dsimp only
    rw [r9_ways h.1]
    refine tp_beq rfl ?_
    by_cases e : f = 0
    · subst e
      refine tp_t (nI_le (by omega) (by omega)) (tp_some ?_)
      rw [← h4]
      rfl
    · refine tp_f (nI_ge (by omega) (by omega)) ?_
      cases best with
      | some v =>
        have hv := (h3 v rfl).1
        refine tp_f (show ¬ eb (some v) = -1 from nI_m1 (by omega)) (tp_some ?_)
        rw [← h4, en_Sb]
        rfl
      | none =>
        refine tp_t rfl ?_
        refine tp_bind (r9_l28 h hb hs (f := f) (k := 0) (a := a) (best := none) h1 (by omega) h2 h3) (fun y hy => ?_)
        obtain ⟨f', a', best', i1, rfl, i3, i4, i5⟩ := hy
        have hlt := (en_If (b := b) (m := r + n) (G := vG r b0 e0 (τ.1 198) pr) (z := rG r b0 e0 (τ.1 198) pr) f 0 a none).2 (by omega) (by omega)
        have hSI := en_SI (b := b) (m := r + n) (G := vG r b0 e0 (τ.1 198) pr) (z := rG r b0 e0 (τ.1 198) pr) f 0 a none (by omega)
        rw [i1] at hlt hSI
        dsimp only at hlt hSI
        refine tp_some ⟨⟨f', a', best', rfl, i4, i3, i5, ?_⟩, ?_⟩
        · rw [← hSI, ← en_S0 hb1]
          exact h4
        · dsimp only
          rw [nI_clamp (by omega), nI_clamp (by omega)]
          omega
  obtain ⟨y, e, rfl⟩ := this
  obtain ⟨g1, g2, g3⟩ := enS_V (b := b) (m := r + n) (G := vG r b0 e0 (τ.1 198) pr) (z := rG r b0 e0 (τ.1 198) pr) (r + n) 0 p none (by omega) hV0
  refine ⟨_, _, rfl, ?_, g1, ?_⟩
  · rcases hp2 with q | q
    · exact .inl (g2 q)
    · exact .inr ⟨(g3 q.2).trans q.1, q.2⟩
  · unfold f_X9_entering
    rw [if_pos (by decide)]
    rw [show Int32.toNatClampNeg (41 : Int32) = 41 by decide, hp, e]
    rfl
