/-! ===== tried comes to an end: sums ===== -/
def sZ (f : Nat → Int) : Nat → Int
  | 0 => 0
  | n + 1 => sZ f n + f n
theorem sZ_cg {f g : Nat → Int} : ∀ n, (∀ i, i < n → f i = g i) → sZ f n = sZ g n
  | 0, _ => rfl
  | n + 1, h => by
    unfold sZ
    rw [sZ_cg n (fun i hi => h i (by omega)), h n (by omega)]
theorem sZ_add {f g : Nat → Int} : ∀ n, sZ (fun i => f i + g i) n = sZ f n + sZ g n
  | 0 => rfl
  | n + 1 => by
    unfold sZ
    rw [sZ_add n]
    omega
theorem sZ_0 : ∀ n, sZ (fun _ => 0) n = 0
  | 0 => rfl
  | n + 1 => by
    unfold sZ
    rw [sZ_0 n]
    rfl
theorem sZ_one {k : Nat} {v : Int} : ∀ m, sZ (fun w => if k = w then v else 0) m = if k < m then v else 0
  | 0 => by
    rw [if_neg (by omega)]
    rfl
  | m + 1 => by
    unfold sZ
    rw [sZ_one m]
    by_cases q : k < m
    · rw [if_pos q, if_neg (by omega), if_pos (by omega)]
      omega
    · rw [if_neg q]
      by_cases q2 : k = m
      · rw [if_pos q2, if_pos (by omega)]
        omega
      · rw [if_neg q2, if_neg (by omega)]
        rfl
theorem sZ_le {f g : Nat → Int} : ∀ n, (∀ i, i < n → f i ≤ g i) → sZ f n ≤ sZ g n
  | 0, _ => Int.le_refl _
  | n + 1, h => by
    unfold sZ
    have h1 := sZ_le n (fun i hi => h i (by omega))
    have h2 := h n (by omega)
    omega
/-- one place is more by v -/
theorem sZ_le1 {f g : Nat → Int} {k : Nat} {v : Int} {n : Nat} (h : ∀ i, i < n → f i ≤ g i) (hk : k < n) (hv : f k + v ≤ g k) : sZ f n + v ≤ sZ g n := by
  have h1 : sZ (fun i => f i + (if k = i then v else 0)) n ≤ sZ g n := sZ_le n (fun i hi => by
    by_cases q : k = i
    · subst q
      rw [if_pos rfl]
      exact hv
    · rw [if_neg q]
      have := h i hi
      omega)
  rw [sZ_add, sZ_one, if_pos hk] at h1
  exact h1
theorem sZ_cst {v : Int} : ∀ n : Nat, sZ (fun _ => v) n = v * n
  | 0 => by
    rw [Int.natCast_zero, Int.mul_zero]
    rfl
  | n + 1 => by
    unfold sZ
    rw [sZ_cst n, Int.natCast_succ, Int.mul_add, Int.mul_one]
theorem sZ_at {W : Nat → Nat} {δ f : Nat → Int} {m : Nat} : ∀ M, (∀ k, k < M → W k < m) → sZ (fun w => f w + sZ (fun k => if W k = w then δ k else 0) M) m = sZ f m + sZ δ M
  | 0, _ => by
    rw [sZ_add]
    show sZ f m + sZ (fun _ => 0) m = _
    rw [sZ_0]
    rfl
  | M + 1, h => by
    have ih := sZ_at (W := W) (δ := δ) (f := f) (m := m) M (fun k hk => h k (by omega))
    have e : sZ (fun w => f w + sZ (fun k => if W k = w then δ k else 0) (M + 1)) m = sZ (fun w => (f w + sZ (fun k => if W k = w then δ k else 0) M) + (if W M = w then δ M else 0)) m := sZ_cg m (fun w _ => by
      show f w + (sZ (fun k => if W k = w then δ k else 0) M + (if W M = w then δ M else 0)) = _
      omega)
    rw [e, sZ_add, ih, sZ_one, if_pos (h M (by omega))]
    show _ = sZ f m + (sZ δ M + δ M)
    omega
/-- a sum that is changed along a ring -/
theorem sZ_ring {f g δ : Nat → Int} {W : Nat → Nat} {m M : Nat} (hW : ∀ k, k < M → W k < m) (hI : ∀ a b, a < b → b < M → W a ≠ W b) (h1 : ∀ k, k < M → g (W k) = f (W k) + δ k) (h2 : ∀ w, w < m → (∀ k, k < M → w ≠ W k) → g w = f w) : sZ g m = sZ f m + sZ δ M := by
  rw [← sZ_at M hW]
  refine sZ_cg m (fun w hw => ?_)
  by_cases q : ∃ k, k < M ∧ w = W k
  · obtain ⟨k, hk, rfl⟩ := q
    rw [h1 k hk]
    have e : sZ (fun l => if W l = W k then δ l else 0) M = sZ (fun l => if k = l then δ k else 0) M := sZ_cg M (fun l hl => by
      by_cases q2 : k = l
      · subst q2
        rw [if_pos rfl, if_pos rfl]
      · rw [if_neg q2, if_neg]
        intro e
        rcases Nat.lt_trichotomy k l with q3 | q3 | q3
        · exact hI k l q3 hl e.symm
        · exact q2 q3
        · exact hI l k q3 hk e)
    rw [e, sZ_one, if_pos hk]
  · have hq : ∀ k, k < M → w ≠ W k := fun k hk e => q ⟨k, hk, e⟩
    rw [h2 w hw hq]
    have e : sZ (fun l => if W l = w then δ l else 0) M = sZ (fun _ => 0) M := sZ_cg M (fun l hl => if_neg (fun e => hq l hl e.symm))
    rw [e, sZ_0]
    omega
/-! what a pivot does to the flows, as numbers -/
def pvN (n r : Nat) (s s' : Nat → Int32) (bg up par : Nat → Nat) (em : Bool) (w A B i j lv ld : Nat) : Prop := lv < i + 1 + j ∧ rN r 1000000 s w (rgW up par w A B i lv) (rgL bg up par em A B i lv) = ld ∧ (∀ k, k < i + 1 + j → ld ≤ rN r 1000000 s w (rgW up par w A B i k) (rgL bg up par em A B i k)) ∧ (∀ k, lv < k → k < i + 1 + j → ld < rN r 1000000 s w (rgW up par w A B i k) (rgL bg up par em A B i k)) ∧ (∀ k, k < i + 1 + j → rgL bg up par em A B i k = true → fl s' (rgW up par w A B i k) = fl s (rgW up par w A B i k) + ld) ∧ (∀ k, k < i + 1 + j → rgL bg up par em A B i k = false → ld ≤ fl s (rgW up par w A B i k) ∧ fl s' (rgW up par w A B i k) = fl s (rgW up par w A B i k) - ld) ∧ (∀ v, v < r + n → (∀ k, k < i + 1 + j → v ≠ rgW up par w A B i k) → fl s' v = fl s v) ∧ ∀ v, v < r → hl s' v = hl s v
theorem pv_N {n r F : Nat} {b0 e0 : Nat → Nat} {s s' : Nat → Int32} {up par rk dp : Nat → Nat} {pr pr2 : Nat → Int32} (hg : gS n r b0 e0) (hT : rT n r b0 e0 s up par rk dp pr) (hf : fP n r F s) (hF : F < 2 ^ 29) {a w i j lv : Nat} (hw : w < r + n) (hst : s (74 + w) = 1 ∨ s (74 + w) = 2) (ht : tap par (vA r b0 e0 s w) (vB r b0 e0 s w) i j)
    (hl0 : lmin (fun k => vr r s 1000000000 w (rgW up par w (vA r b0 e0 s w) (vB r b0 e0 s w) i k) (rgL (vb r b0 s) up par (vE s w) (vA r b0 e0 s w) (vB r b0 e0 s w) i k)) (i + 1 + j) lv) (hR : pvR n r b0 e0 s up par pr pr2 a w i j lv s') : ∃ ld, pvN n r s s' (vb r b0 s) up par (vE s w) w (vA r b0 e0 s w) (vB r b0 e0 s w) i j lv ld := by
  have hn := hg.1
  have hr := hg.2.1
  have hwT : ¬ vT s w := by
    unfold vT
    rcases hst with q | q
    · rw [q]; decide
    · rw [q]; decide
  have hC := hT.1.1
  have hA : vA r b0 e0 s w < n ∨ vA r b0 e0 s w = 8 := by
    unfold vA
    split
    · exact gb_pl hg hw
    · exact ge_pl hg hw
  have hB : vB r b0 e0 s w < n ∨ vB r b0 e0 s w = 8 := by
    unfold vB
    split
    · exact ge_pl hg hw
    · exact gb_pl hg hw
  have hWm : ∀ k, k < i + 1 + j → rgW up par w (vA r b0 e0 s w) (vB r b0 e0 s w) i k < r + n := fun k hk => rgW_lt hC hw hA hB ht hk
  have hWi : rgW up par w (vA r b0 e0 s w) (vB r b0 e0 s w) i i = w := by unfold rgW; rw [if_neg (by omega), if_pos rfl]
  have hLi : rgL (vb r b0 s) up par (vE s w) (vA r b0 e0 s w) (vB r b0 e0 s w) i i = vE s w := by unfold rgL; rw [if_neg (by omega), if_pos rfl]
  have hWT : ∀ k, k < i + 1 + j → k ≠ i → s (74 + rgW up par w (vA r b0 e0 s w) (vB r b0 e0 s w) i k) = 0 := fun k hk hki => rgW_T hC hA hB ht hk hki
  obtain ⟨m1, m2, -, -, m5, m6⟩ := lmin_N hf (by omega) hw hWm (rg_route hg hC hw hwT ht) hl0
  obtain ⟨k1, k2, k3, k4, k5, k6, -⟩ := hR
  have hlv := hl0.1
  unfold pvN
  generalize rgW up par w (vA r b0 e0 s w) (vB r b0 e0 s w) i = W at *
  generalize rgL (vb r b0 s) up par (vE s w) (vA r b0 e0 s w) (vB r b0 e0 s w) i = L at *
  rw [m2] at k4
  generalize hld : rN r 1000000 s w (W lv) (L lv) = ld at *
  refine ⟨ld, hlv, rfl, m5, m6, fun k hk q => ?_, fun k hk q => ?_, fun v hv q => ?_, fun v hv => ?_⟩
  · obtain ⟨f1, f2, -⟩ := fP_f hf (by omega) (hWm k hk)
    have e := k4 k hk
    rw [if_pos q, f1, nI_add] at e
    show (s' (50 + W k)).toNatClampNeg = _
    rw [e, nI_clamp (by omega)]
  · obtain ⟨f1, f2, f3, -⟩ := fP_f hf (by omega) (hWm k hk)
    have hle : ld ≤ fl s (W k) := by
      have h5 := m5 k hk
      unfold rN at h5
      by_cases e : k = i
      · subst e
        rw [hWi, if_pos rfl] at h5
        rw [hWi] at f1 f2 f3 ⊢
        rw [hLi] at q
        have q2 : s (74 + w) = 2 := by
          rcases hst with x | x
          · unfold vE at q
            rw [x, decide_eq_true rfl] at q
            cases q
          · exact x
        have hwr : w < r := by
          by_cases x : w < r
          · exact x
          · obtain ⟨d, rfl⟩ : ∃ d, w = r + d := ⟨w - r, by omega⟩
            obtain ⟨_, _, _, _, x5, _⟩ := hf.2 d (by omega)
            exact absurd q2 x5
        rw [if_pos hwr] at h5
        have : fl s w = hl s w := by
          obtain ⟨f, h, g1, g2, g3, g4, g5, g6⟩ := hf.1 w hwr
          unfold fl hl
          rw [g1, g2, g6 q2]
        omega
      · have hne : ¬ W k = w := by
          intro x
          have := hWT k hk e
          rw [x] at this
          exact hwT this
        rw [if_neg hne, if_pos q] at h5
        exact h5
    have e := k4 k hk
    rw [if_neg (by rw [q]; decide), f1, nI_addneg hle] at e
    refine ⟨hle, ?_⟩
    show (s' (50 + W k)).toNatClampNeg = _
    rw [e, nI_clamp (by omega)]
  · show (s' (50 + v)).toNatClampNeg = (s (50 + v)).toNatClampNeg
    rw [k5 v (by omega) q]
  · show (s' (24 + v)).toNatClampNeg = (s (24 + v)).toNatClampNeg
    rw [k1 (24 + v) (by omega)]
