/-! ===== all calls of this row's law ===== -/
theorem k_law {K : Nat} {σ : gj_S} (hR : REL K σ) (hK : K ≤ 51200) (c0 c1 c2 c3 c4 c5 : Int32) : ∃ τ, fl_law c0 c1 c2 c3 c4 c5 σ = some τ ∧ REL (K + 100) τ := by
  unfold fl_law
  refine ex_if (show ∃ τ, fl_0 c1 c2 c3 c4 c5 σ = some τ ∧ REL (K + 100) τ from h_0 hR c1 c2 c3 c4 c5) ?_
  refine ex_if (show ∃ τ, fl_1 c1 c2 c3 c4 c5 σ = some τ ∧ REL (K + 100) τ from h_1 hR c1 c2 c3 c4 c5) ?_
  refine ex_if (show ∃ τ, fl_2 c1 c2 c3 c4 c5 σ = some τ ∧ REL (K + 100) τ from h_2 hR c1 c2 c3 c4 c5) ?_
  refine ex_if (show ∃ τ, fl_3 c1 c2 c3 c4 c5 σ = some τ ∧ REL (K + 100) τ from h_3 hR c1 c2 c3 c4 c5) ?_
  refine ex_if (show ∃ τ, fl_4 c1 c2 c3 c4 c5 σ = some τ ∧ REL (K + 100) τ from h_4 hR c1 c2 c3 c4 c5) ?_
  refine ex_if (show ∃ τ, fl_5 c1 c2 c3 c4 c5 σ = some τ ∧ REL (K + 100) τ from h_5 hR c1 c2 c3 c4 c5) ?_
  refine ex_if (show ∃ τ, fl_6 c1 c2 c3 c4 c5 σ = some τ ∧ REL (K + 100) τ from h_6 hR c1 c2 c3 c4 c5) ?_
  refine ex_if (show ∃ τ, fl_7 c1 c2 c3 c4 c5 σ = some τ ∧ REL (K + 100) τ from h_7 hR hK c1 c2 c3 c4 c5) ?_
  refine ex_if (show ∃ τ, fl_8 c1 c2 c3 c4 c5 σ = some τ ∧ REL (K + 100) τ from h_8 hR hK c1 c2 c3 c4 c5) ?_
  refine ex_if (show ∃ τ, fl_9 c1 c2 c3 c4 c5 σ = some τ ∧ REL (K + 100) τ from h_9 hR hK c1 c2 c3 c4 c5) ?_
  refine ex_if (show ∃ τ, fl_10 c1 c2 c3 c4 c5 σ = some τ ∧ REL (K + 100) τ from h_10 hR hK c1 c2 c3 c4 c5) ?_
  refine ex_if (show ∃ τ, fl_11 c1 c2 c3 c4 c5 σ = some τ ∧ REL (K + 100) τ from h_11 hR hK c1 c2 c3 c4 c5) ?_
  refine ex_if (show ∃ τ, fl_12 c1 c2 c3 c4 c5 σ = some τ ∧ REL (K + 100) τ from h_12 hR hK c1 c2 c3 c4 c5) ?_
  refine ex_if (show ∃ τ, fl_13 c1 c2 c3 c4 c5 σ = some τ ∧ REL (K + 100) τ from h_13 hR c1 c2 c3 c4 c5) ?_
  refine ex_if (show ∃ τ, fl_14 c1 c2 c3 c4 c5 σ = some τ ∧ REL (K + 100) τ from h_14 hR c1 c2 c3 c4 c5) ?_
  refine ex_if (show ∃ τ, fl_15 c1 c2 c3 c4 c5 σ = some τ ∧ REL (K + 100) τ from h_15 hR hK c1 c2 c3 c4 c5) ?_
  refine ex_if (show ∃ τ, fl_16 c1 c2 c3 c4 c5 σ = some τ ∧ REL (K + 100) τ from h_16 hR c1 c2 c3 c4 c5) ?_
  refine ex_if (show ∃ τ, fl_17 c1 c2 c3 c4 c5 σ = some τ ∧ REL (K + 100) τ from h_17 hR c1 c2 c3 c4 c5) ?_
  refine ex_if (show ∃ τ, fl_18 c1 c2 c3 c4 c5 σ = some τ ∧ REL (K + 100) τ from h_18 hR c1 c2 c3 c4 c5) ?_
  refine ex_if (show ∃ τ, fl_19 c1 c2 c3 c4 c5 σ = some τ ∧ REL (K + 100) τ from h_19 hR c1 c2 c3 c4 c5) ?_
  refine ex_if (show ∃ τ, fl_20 c1 c2 c3 c4 c5 σ = some τ ∧ REL (K + 100) τ from h_20 hR c1 c2 c3 c4 c5) ?_
  refine ex_if (show ∃ τ, fl_21 c1 c2 c3 c4 c5 σ = some τ ∧ REL (K + 100) τ from h_21 hR hK c1 c2 c3 c4 c5) ?_
  refine ex_if (show ∃ τ, fl_22 c1 c2 c3 c4 c5 σ = some τ ∧ REL (K + 100) τ from h_22 hR c1 c2 c3 c4 c5) ?_
  refine ex_if (show ∃ τ, fl_23 c1 c2 c3 c4 c5 σ = some τ ∧ REL (K + 100) τ from h_23 hR c1 c2 c3 c4 c5) ?_
  refine ex_if (show ∃ τ, fl_24 c1 c2 c3 c4 c5 σ = some τ ∧ REL (K + 100) τ from h_24 hR c1 c2 c3 c4 c5) ?_
  refine ex_if (show ∃ τ, fl_25 c1 c2 c3 c4 c5 σ = some τ ∧ REL (K + 100) τ from h_25 hR c1 c2 c3 c4 c5) ?_
  refine ex_if (show ∃ τ, fl_26 c1 c2 c3 c4 c5 σ = some τ ∧ REL (K + 100) τ from h_26 hR c1 c2 c3 c4 c5) ?_
  refine ex_if (show ∃ τ, fl_27 c1 c2 c3 c4 c5 σ = some τ ∧ REL (K + 100) τ from h_27 hR c1 c2 c3 c4 c5) ?_
  refine ex_if (show ∃ τ, fl_28 c1 c2 c3 c4 c5 σ = some τ ∧ REL (K + 100) τ from h_28 hR c1 c2 c3 c4 c5) ?_
  refine ex_if (show ∃ τ, fl_29 c1 c2 c3 c4 c5 σ = some τ ∧ REL (K + 100) τ from h_29 hR c1 c2 c3 c4 c5) ?_
  refine ex_if (show ∃ τ, fl_30 c1 c2 c3 c4 c5 σ = some τ ∧ REL (K + 100) τ from k_30 hR hK c1 c2 c3 c4 c5) ?_
  exact ⟨σ, rfl, REL_mono hR (by omega)⟩
theorem k_all {xs : Nat → Int32} : ∀ (m j K : Nat) {σ : gj_S}, REL K σ → K + 100 * m ≤ 51200 → ∃ τ, fl_n xs m j σ = some τ
  | 0, j, K, σ, _, _ => ⟨σ, rfl⟩
  | m + 1, j, K, σ, hR, hK => by
    obtain ⟨τ, e, hR'⟩ := k_law hR (by omega) (xs j) (xs (j + 1)) (xs (j + 2)) (xs (j + 3)) (xs (j + 4)) (xs (j + 5))
    obtain ⟨τ', e'⟩ := k_all m (j + 6) (K + 100) hR' (by omega)
    refine ⟨τ', ?_⟩
    show (fl_law (xs j) (xs (j + 1)) (xs (j + 2)) (xs (j + 3)) (xs (j + 4)) (xs (j + 5)) σ).bind (fl_n xs m (j + 6)) = some τ'
    rw [e]
    exact e'
/-- all but the wall: no trial hits the class's bound -/
theorem wh_all {L : Nat} {xs : Nat → Int32} (hL : L ≤ 3072) : wh_ok L xs := fs_ok (fun τ9 h => k_all (L / 6) 0 0 (fs_REL h) (by omega))
