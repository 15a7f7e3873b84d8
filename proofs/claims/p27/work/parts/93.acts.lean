/-! ===== kept, undone: the reference's rows ===== -/
theorem nI_mul (a b : Nat) : nI a * nI b = nI (a * b) := by
  unfold nI
  simp
/-- the t-th row that can be undone, the k-th that is kept -/
def ur (σ : gj_S) (t : Nat) : Nat → Int32 := fun q => σ.1 199 (180 * t + q)
def kr (σ : gj_S) (t : Nat) : Nat → Int32 := fun q => σ.1 200 (180 * t + q)
theorem r9_k11 {σ : gj_S} : TP (gj_lp fb_X9_keeps_l11 5000 (0, σ)) (fun z => (∀ c, c ≠ 199 → z.1 c = σ.1 c) ∧ z.2 = σ.2 ∧ ∀ k, k < 1980 → z.1 199 k = σ.1 199 (k + 180)) := by
  refine tp_mono (lp_fill (f := fb_X9_keeps_l11) (o := 0) (N := 1980) (c := 199) (g := fun k => k) (v := fun k => σ.1 199 (k + 180)) (by omega) (fun k l h1 h2 => by omega) (fun τ _ => ?_) (fun k hk τ h1 h2 h3 => ?_)) (fun z hz => ⟨hz.1, hz.2.1, hz.2.2.1⟩)
  · unfold fb_X9_keeps_l11
    exact if_pos (show (1980 : Int32) ≤ nI (0 + 1980) by decide)
  · unfold fb_X9_keeps_l11
    dsimp only
    rw [Nat.zero_add, if_neg (by rw [show (1980 : Int32) = nI 1980 from rfl]; exact nI_ge (by omega) (by omega))]
    simp only [show (180 : Int32) = nI 180 from rfl, nI_add, nI_clamp (show k < 2 ^ 31 by omega), nI_clamp (show k + 180 < 2 ^ 31 by omega)]
    rw [if_pos (gi (by omega) (by omega)), if_pos (gi (by omega) (by omega)), nI_1, h3 (k + 180) (fun k' hk' => by omega)]
theorem r9_k52 {σ : gj_S} {u : Nat} (hu : u ≤ 11) (h : σ.1 188 23 = nI u) : TP (gj_lp fb_X9_keeps_l52 5000 (0, σ)) (fun z => (∀ c, c ≠ 199 → z.1 c = σ.1 c) ∧ z.2 = σ.2 ∧ (∀ k, k < 180 → z.1 199 (180 * u + k) = σ.1 198 k) ∧ ∀ q, q < 180 * u → z.1 199 q = σ.1 199 q) := by
  refine tp_mono (lp_fill (f := fb_X9_keeps_l52) (o := 0) (N := 180) (c := 199) (g := fun k => 180 * u + k) (v := fun k => σ.1 198 k) (by omega) (fun k l h1 h2 => by omega) (fun τ _ => ?_) (fun k hk τ h1 h2 h3 => ?_)) (fun z hz => ⟨hz.1, hz.2.1, hz.2.2.1, fun q hq => hz.2.2.2 q (fun k hk => by omega)⟩)
  · unfold fb_X9_keeps_l52
    exact if_pos (show (180 : Int32) ≤ nI (0 + 180) by decide)
  · unfold fb_X9_keeps_l52
    dsimp only
    have e23 : τ.1 188 23 = nI u := by rw [h1 188 (by decide)]; exact h
    rw [Nat.zero_add, if_neg (by rw [show (180 : Int32) = nI 180 from rfl]; exact nI_ge (by omega) (by omega)), if_pos (gi (by omega) (by omega))]
    simp only [e23, show (180 : Int32) = nI 180 from rfl, nI_mul, nI_add, nI_clamp (show k < 2 ^ 31 by omega), nI_clamp (show 180 * u + k < 2 ^ 31 by omega)]
    rw [if_pos (gi (by omega) (by omega))]
    dsimp only [Option.bind_some]
    rw [nI_1, h1 198 (by decide)]
theorem r9_keeps {σ : gj_S} {u : Nat} (hu : u ≤ 12) (h : σ.1 188 23 = nI u) : TP (f_X9_keeps σ) (fun z => (∀ c, c ≠ 199 → c ≠ 188 → z.1 c = σ.1 c) ∧ (∀ j, j ≠ 23 → z.1 188 j = σ.1 188 j) ∧ z.2 = σ.2 ∧ (u < 12 → z.1 188 23 = nI (u + 1) ∧ (∀ t, t < u → rwQ (ur σ t) (ur z t)) ∧ rwQ (σ.1 198) (ur z u)) ∧ (u = 12 → z.1 188 23 = nI 12 ∧ (∀ t, t < 11 → rwQ (ur σ (t + 1)) (ur z t)) ∧ rwQ (σ.1 198) (ur z 11))) := by
  unfold f_X9_keeps
  by_cases e : u = 12
  · subst e
    refine tp_bind (P := fun z => (∀ c, c ≠ 199 → c ≠ 188 → z.1 c = σ.1 c) ∧ (∀ j, j ≠ 23 → z.1 188 j = σ.1 188 j) ∧ z.2 = σ.2 ∧ z.1 188 23 = nI 11 ∧ ∀ k, k < 1980 → z.1 199 k = σ.1 199 (k + 180)) (tp_t (by rw [h]; rfl) (tp_bind r9_k11 (fun z hz => tp_some ⟨fun c h1 h2 => ?_, fun j hj => ?_, hz.2.1, ?_, ?_⟩))) (fun z hz => ?_)
    · show (if c = 188 then _ else z.1 c) = _
      rw [if_neg h2]
      exact hz.1 c h1
    · show (if j = 23 then _ else z.1 188 j) = _
      rw [if_neg hj, hz.1 188 (by decide)]
    · show z.1 188 23 - 1 = _
      rw [hz.1 188 (by decide), h]
      exact nI_pred 11
    · exact hz.2.2
    · obtain ⟨z1, z2, z3, z4, z5⟩ := hz
      refine tp_bind (r9_k52 (u := 11) (by omega) z4) (fun y hy => ?_)
      obtain ⟨y1, y2, y3, y4⟩ := hy
      refine tp_some ⟨fun c h1 h2 => ?_, fun j hj => ?_, y2.trans z3, fun q => by omega, fun _ => ⟨?_, fun t ht q hq => ?_, fun q hq => ?_⟩⟩
      · show (if c = 188 then _ else y.1 c) = _
        rw [if_neg h2, y1 c h1]
        exact z1 c h1 h2
      · show (if j = 23 then _ else y.1 188 j) = _
        rw [if_neg hj, y1 188 (by decide)]
        exact z2 j hj
      · show y.1 188 23 + 1 = _
        rw [y1 188 (by decide), z4, nI_1]
      · show y.1 199 (180 * t + q) = σ.1 199 (180 * (t + 1) + q)
        rw [y4 _ (by omega), z5 _ (by omega), show 180 * t + q + 180 = 180 * (t + 1) + q by omega]
      · show y.1 199 (180 * 11 + q) = _
        rw [y3 q hq, z1 198 (by decide) (by decide)]
  · refine tp_bind (P := fun z => z = σ) (tp_f (by rw [h]; exact fun q => e ((nI_eq (b := 12) (by omega) (by omega)).mp q)) (tp_some rfl)) (fun z hz => ?_)
    subst hz
    refine tp_bind (r9_k52 (u := u) (by omega) h) (fun y hy => ?_)
    obtain ⟨y1, y2, y3, y4⟩ := hy
    refine tp_some ⟨fun c h1 h2 => ?_, fun j hj => ?_, y2, fun _ => ⟨?_, fun t ht q hq => ?_, fun q hq => y3 q hq⟩, fun q => absurd q e⟩
    · show (if c = 188 then _ else y.1 c) = _
      rw [if_neg h2, y1 c h1]
    · show (if j = 23 then _ else y.1 188 j) = _
      rw [if_neg hj, y1 188 (by decide)]
    · show y.1 188 23 + 1 = _
      rw [y1 188 (by decide), h, nI_1]
    · show y.1 199 (180 * t + q) = z.1 199 (180 * t + q)
      rw [y4 _ (by omega)]
theorem r9_undo26 {σ : gj_S} {u : Nat} (hu : u ≤ 11) (h : σ.1 188 23 = nI u) : TP (gj_lp fb_X9_undo_l26 5000 (0, σ)) (fun z => (∀ c, c ≠ 198 → z.1 c = σ.1 c) ∧ z.2 = σ.2 ∧ rwQ (ur σ u) (z.1 198)) := by
  refine tp_mono (lp_fill (f := fb_X9_undo_l26) (o := 0) (N := 180) (c := 198) (g := fun k => k) (v := fun k => σ.1 199 (180 * u + k)) (by omega) (fun k l h1 h2 => by omega) (fun τ _ => ?_) (fun k hk τ h1 h2 h3 => ?_)) (fun z hz => ⟨hz.1, hz.2.1, hz.2.2.1⟩)
  · unfold fb_X9_undo_l26
    exact if_pos (show (180 : Int32) ≤ nI (0 + 180) by decide)
  · unfold fb_X9_undo_l26
    dsimp only
    have e23 : τ.1 188 23 = nI u := by rw [h1 188 (by decide)]; exact h
    rw [Nat.zero_add, if_neg (by rw [show (180 : Int32) = nI 180 from rfl]; exact nI_ge (by omega) (by omega))]
    simp only [e23, show (180 : Int32) = nI 180 from rfl, nI_mul, nI_add, nI_clamp (show k < 2 ^ 31 by omega), nI_clamp (show 180 * u + k < 2 ^ 31 by omega)]
    rw [if_pos (gi (by omega) (by omega)), if_pos (gi (by omega) (by omega))]
    dsimp only [Option.bind_some]
    rw [nI_1, h1 199 (by decide)]
/-- a cell of the reference's object, thrown set -/
def t0 (σ : gj_S) : gj_S := gj_sI σ 188 (upd (σ.1 188) 0 0)
theorem t0_c {σ : gj_S} {c : Nat} (h : c ≠ 188) : (t0 σ).1 c = σ.1 c := if_neg h
theorem t0_j {σ : gj_S} {j : Nat} (h : j ≠ 0) : (t0 σ).1 188 j = σ.1 188 j := by
  show (if j = 0 then 0 else σ.1 188 j) = _
  rw [if_neg h]
theorem r9_undo {σ : gj_S} {u : Nat} (hu : u ≤ 12) (h : σ.1 188 23 = nI u) : TP (f_X9_undo σ) (fun x => (∀ c, c ≠ 198 → c ≠ 188 → x.2.1 c = σ.1 c) ∧ (∀ j, j ≠ 23 → j ≠ 0 → x.2.1 188 j = σ.1 188 j) ∧ x.2.1 188 0 = 0 ∧ x.2.2 = σ.2 ∧ (u = 0 → x.1 = -1 ∧ x.2.1 188 23 = nI 0 ∧ x.2.1 198 = σ.1 198) ∧ (∀ v, u = v + 1 → x.1 = nI v ∧ x.2.1 188 23 = nI v ∧ rwQ (ur σ v) (x.2.1 198))) := by
  unfold f_X9_undo
  have e23 : (gj_sI σ 188 (upd (σ.1 188) 0 0)).1 188 23 = nI u := h
  rw [e23]
  cases u with
  | zero => exact tp_t rfl (tp_some ⟨fun c h1 h2 => if_neg h2, fun j h1 h2 => t0_j h2, rfl, rfl, fun _ => ⟨rfl, h, rfl⟩, fun v hv => by omega⟩)
  | succ v =>
    refine tp_f (nI_ne0 (by omega) (by omega)) (tp_beq rfl ?_)
    rw [nI_pred]
    refine tp_bind (r9_undo26 (u := v) (by omega) rfl) (fun y hy => ?_)
    obtain ⟨y1, y2, y3⟩ := hy
    refine tp_some ⟨fun c h1 h2 => ?_, fun j h1 h2 => ?_, ?_, y2, fun q => by omega, fun w hw => ?_⟩
    · dsimp only
      rw [y1 c h1]
      show (if c = 188 then _ else if c = 188 then _ else σ.1 c) = _
      rw [if_neg h2, if_neg h2]
    · dsimp only
      rw [y1 188 (by decide)]
      show (if j = 23 then _ else if j = 0 then _ else σ.1 188 j) = _
      rw [if_neg h1, if_neg h2]
    · dsimp only
      rw [y1 188 (by decide)]
      rfl
    · obtain rfl : w = v := by omega
      dsimp only
      rw [y1 188 (by decide)]
      exact ⟨rfl, rfl, y3⟩
