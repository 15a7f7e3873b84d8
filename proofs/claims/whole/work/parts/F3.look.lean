/-! ===== the wall: what is looked at ===== -/
/-- how many ways are looked at ahead of w, from a on -/
def zx_d (m a w : Nat) : Nat := if a ≤ w then w - a else w + m - a
theorem zx_dX {m a w : Nat} (ha : a < m) (hw : w < m) (hne : a ≠ w) : zx_d m (enX m a) w + 1 = zx_d m a w ∧ enX m a < m := by
  unfold zx_d enX
  by_cases q : a + 1 = m
  · rw [if_pos q]
    rw [if_pos (Nat.zero_le _)]
    by_cases q2 : a ≤ w
    · omega
    · rw [if_neg q2]
      omega
  · rw [if_neg q]
    by_cases q2 : a ≤ w
    · rw [if_pos q2, if_pos (by omega)]
      omega
    · rw [if_neg q2, if_neg (by omega)]
      omega
theorem zx_d_lt {m a w : Nat} (ha : a < m) (hw : w < m) : zx_d m a w < m := by
  unfold zx_d
  split <;> omega
theorem zx_enX {m a : Nat} (ha : a < m) : enX m a < m := by
  unfold enX
  split <;> omega
def zx_ge (z : Nat → Int32) (w : Nat) (best : Option Nat) : Prop := ∃ v, best = some v ∧ (z w).toInt ≤ (z v).toInt
theorem zx_geN {G : Nat → Bool} {z : Nat → Int32} {w a : Nat} {best : Option Nat} (h : zx_ge z w best) : zx_ge z w (enN G z a best) := by
  obtain ⟨v, rfl, hv⟩ := h
  unfold enN
  by_cases q : G a = true
  · rw [if_pos q]
    try dsimp only
    by_cases q2 : z a ≤ z v
    · rw [if_pos q2]
      exact ⟨v, rfl, hv⟩
    · rw [if_neg q2]
      refine ⟨a, rfl, ?_⟩
      rw [i32_le_iff] at q2
      omega
  · rw [if_neg q]
    exact ⟨v, rfl, hv⟩
theorem zx_ge1 {G : Nat → Bool} {z : Nat → Int32} {w : Nat} {best : Option Nat} (hG : G w = true) : zx_ge z w (enN G z w best) := by
  unfold enN
  rw [if_pos hG]
  cases best with
  | none => exact ⟨w, rfl, Int.le_refl _⟩
  | some v =>
    try dsimp only
    by_cases q2 : z w ≤ z v
    · rw [if_pos q2]
      exact ⟨v, rfl, i32_le_iff.mp q2⟩
    · rw [if_neg q2]
      exact ⟨w, rfl, Int.le_refl _⟩
theorem zx_geS {b m : Nat} {G : Nat → Bool} {z : Nat → Int32} {w : Nat} : ∀ (f k a : Nat) (best : Option Nat), zx_ge z w best → zx_ge z w (enS b m G z f k a best).2
  | 0, _, _, _, h => h
  | f + 1, k, a, best, h => by
    show zx_ge z w (if best = none ∨ k < b then enS b m G z f (if k < b then k + 1 else 1) (enX m a) (enN G z a best) else (a, best)).2
    by_cases q : best = none ∨ k < b
    · rw [if_pos q]
      exact zx_geS f _ _ _ (zx_geN h)
    · rw [if_neg q]
      exact h
theorem zx_look {b m : Nat} {G : Nat → Bool} {z : Nat → Int32} {w : Nat} (hw : w < m) (hG : G w = true) (hb : 1 ≤ b) : ∀ (f k a : Nat) (best : Option Nat), k ≤ b → a < m → zx_ge z w (enS b m G z f k a best).2 ∨ zx_d m (enS b m G z f k a best).1 w + min f (b - k) ≤ zx_d m a w
  | 0, k, a, best, _, _ => .inr (by
    show zx_d m a w + min 0 (b - k) ≤ zx_d m a w
    omega)
  | f + 1, k, a, best, hk, ha => by
    have e : enS b m G z (f + 1) k a best = if best = none ∨ k < b then enS b m G z f (if k < b then k + 1 else 1) (enX m a) (enN G z a best) else (a, best) := rfl
    rw [e]
    by_cases q : best = none ∨ k < b
    · rw [if_pos q]
      by_cases hne : a = w
      · subst hne
        exact .inl (zx_geS f _ _ _ (zx_ge1 hG))
      · obtain ⟨d1, d2⟩ := zx_dX ha hw hne
        by_cases q2 : k < b
        · rw [if_pos q2]
          rcases zx_look hw hG hb f (k + 1) (enX m a) (enN G z a best) (by omega) d2 with h | h
          · exact .inl h
          · exact .inr (by omega)
        · rw [if_neg q2]
          rcases zx_look hw hG hb f 1 (enX m a) (enN G z a best) hb d2 with h | h
          · exact .inl h
          · exact .inr (by omega)
    · rw [if_neg q]
      exact .inr (by
        show zx_d m a w + min (f + 1) (b - k) ≤ zx_d m a w
        omega)
theorem zx_look1 {m : Nat} {G : Nat → Bool} {z : Nat → Int32} {w : Nat} (hw : w < m) (hG : G w = true) : ∀ (f k a : Nat), k ≤ 1 → a < m → 0 < f → (enS 1 m G z f k a none).2 = some w ∨ zx_d m (enS 1 m G z f k a none).1 w + 1 ≤ zx_d m a w
  | 0, _, _, _, _, h => absurd h (Nat.lt_irrefl _)
  | f + 1, k, a, hk, ha, _ => by
    have e : enS 1 m G z (f + 1) k a none = enS 1 m G z f (if k < 1 then k + 1 else 1) (enX m a) (enN G z a none) := by
      show (if (none : Option Nat) = none ∨ k < 1 then _ else _) = _
      rw [if_pos (.inl rfl)]
    have e1 : (if k < 1 then k + 1 else 1) = 1 := by split <;> omega
    rw [e, e1]
    by_cases hne : a = w
    · subst hne
      have : enN G z a none = some a := by
        unfold enN
        rw [if_pos hG]
      rw [this, en_Sb]
      exact .inl rfl
    · obtain ⟨d1, d2⟩ := zx_dX ha hw hne
      by_cases q : G a = true
      · have : enN G z a none = some a := by
          unfold enN
          rw [if_pos q]
        rw [this, en_Sb]
        exact .inr (by
          show zx_d m (enX m a) w + 1 ≤ _
          omega)
      · have : enN G z a none = none := by
          unfold enN
          rw [if_neg q]
        rw [this]
        cases f with
        | zero => exact .inr (by
            show zx_d m (enX m a) w + 1 ≤ _
            omega)
        | succ f =>
          rcases zx_look1 hw hG (f + 1) 1 (enX m a) (Nat.le_refl _) d2 (by omega) with h | h
          · exact .inl h
          · exact .inr (by omega)
