/-! ===== the reference: the apex, the ring ===== -/
theorem r9_apex {n r : Nat} {b0 e0 : Nat → Nat} {up par rk dp : Nat → Nat} {pr : Nat → Int32} {τ : gj_S} (h : rL n r b0 e0 up par rk dp pr τ) {A B : Nat} (hA : A < n ∨ A = 8) (hB : B < n ∨ B = 8) : ∃ i j, tap par A B i j ∧ f_X9_apexOf (nI A) (nI B) τ = some (nI (it par i A)) := by
  have hn := h.1.1
  have hC := h.2.1.1.1
  have hD := h.2.1.2.1
  have : TP (gj_lp (fb_X9_apexOf_l5 τ) 5000 (nI A, nI B)) (fun z => ∃ i j, tap par A B i j ∧ z = nI (it par i A)) := by
    refine tp_lp (I := fun a => ∃ i j, a.1 = nI (it par i A) ∧ a.2 = nI (it par j B) ∧ tp0 par A B i j) (fun a => (τ.1 204 a.1.toNatClampNeg).toNatClampNeg + (τ.1 204 a.2.toNatClampNeg).toNatClampNeg) ?_ 5000 (nI A, nI B) ⟨0, 0, rfl, rfl, tp0_0⟩ (by
      dsimp only
      rw [nI_clamp (by omega), nI_clamp (by omega), rL_D h hA, rL_D h hB]
      have h1 := rL_dp h hA
      have h2 := rL_dp h hB
      rw [nI_clamp (by omega), nI_clamp (by omega)]
      omega)
    rintro ⟨x, y⟩ ⟨i, j, h1, h2, h3⟩
    dsimp only at h1 h2
    subst h1
    subst h2
    have px := it_pl hC i A hA
    have py := it_pl hC j B hB
    have dx := rL_dp h px
    have dy := rL_dp h py
    unfold fb_X9_apexOf_l5
    dsimp only
    by_cases e : it par i A = it par j B
    · exact tp_t (by rw [e]) (tp_some ⟨i, j, ⟨e, h3⟩, rfl⟩)
    · refine tp_f (fun q => e ((nI_eq (by omega) (by omega)).mp q)) (tp_t (gi (by omega) (by omega)) (tp_t (gi (by omega) (by omega)) ?_))
      rw [nI_clamp (by omega), nI_clamp (by omega), rL_D h px, rL_D h py]
      by_cases q : dp (it par i A) < dp (it par j B)
      · refine tp_t (nI_lt q (by omega)) ?_
        obtain ⟨g1, g2⟩ := tp0_r hC hD hA hB h3 e (by omega)
        rw [r9_above h g1]
        refine tp_beq rfl (tp_some ⟨⟨i, j + 1, rfl, by rw [it_s], g2⟩, ?_⟩)
        have pq := (hC.2.2.1 _ g1).2.2.2.1
        have dq := rL_dp h pq
        have := hD.2 _ g1
        dsimp only
        simp only [nI_clamp (show it par i A < 2 ^ 31 by omega), nI_clamp (show it par j B < 2 ^ 31 by omega), nI_clamp (show par (it par j B) < 2 ^ 31 by omega), rL_D h px, rL_D h py, rL_D h pq, nI_clamp (show dp (it par i A) < 2 ^ 31 by omega), nI_clamp (show dp (it par j B) < 2 ^ 31 by omega), nI_clamp (show dp (par (it par j B)) < 2 ^ 31 by omega)]
        omega
      · refine tp_f (nI_nlt (by omega) (by omega)) ?_
        obtain ⟨g1, g2⟩ := tp0_l hC hD hA hB h3 e (by omega)
        rw [r9_above h g1]
        refine tp_beq rfl (tp_some ⟨⟨i + 1, j, by rw [it_s], rfl, g2⟩, ?_⟩)
        have pq := (hC.2.2.1 _ g1).2.2.2.1
        have dq := rL_dp h pq
        have := hD.2 _ g1
        dsimp only
        simp only [nI_clamp (show it par i A < 2 ^ 31 by omega), nI_clamp (show it par j B < 2 ^ 31 by omega), nI_clamp (show par (it par i A) < 2 ^ 31 by omega), rL_D h px, rL_D h py, rL_D h pq, nI_clamp (show dp (it par i A) < 2 ^ 31 by omega), nI_clamp (show dp (it par j B) < 2 ^ 31 by omega), nI_clamp (show dp (par (it par i A)) < 2 ^ 31 by omega)]
        omega
  obtain ⟨z, e, i, j, h1, rfl⟩ := this
  refine ⟨i, j, h1, ?_⟩
  unfold f_X9_apexOf
  rw [e]
  rfl
/-- the ring: i ways down from the apex to A, the way itself, j ways up from B -/
def rgW (up par : Nat → Nat) (w A B i k : Nat) : Nat := if k < i then up (it par (i - 1 - k) A) else if k = i then w else up (it par (k - i - 1) B)
/-- whether it is gone along (bg: where a way begins; em: the way itself is empty) -/
def rgL (bg up par : Nat → Nat) (em : Bool) (A B i k : Nat) : Bool := if k < i then !decide (bg (up (it par (i - 1 - k) A)) = it par (i - 1 - k) A) else if k = i then em else decide (bg (up (it par (k - i - 1) B)) = it par (k - i - 1) B)
def bI (b : Bool) : Int32 := if b then 1 else 0
/-- only the ring's rows differ, and of the object the slots 33 to 36 -/
def smR (σ τ : gj_S) : Prop := (∀ k, k ≠ 206 → k ≠ 207 → k ≠ 188 → τ.1 k = σ.1 k) ∧ (∀ j, (j < 33 ∨ 36 < j) → τ.1 188 j = σ.1 188 j) ∧ τ.2 = σ.2
theorem smR_rf {σ : gj_S} : smR σ σ := ⟨fun _ _ _ _ => rfl, fun _ _ => rfl, rfl⟩
theorem smR_tr {a b c : gj_S} (h1 : smR a b) (h2 : smR b c) : smR a c := ⟨fun k p q r => (h2.1 k p q r).trans (h1.1 k p q r), fun j hj => (h2.2.1 j hj).trans (h1.2.1 j hj), h2.2.2.trans h1.2.2⟩
theorem smR_I {σ τ : gj_S} {k : Nat} {f : Nat → Int32} (hk : k = 206 ∨ k = 207) (h : smR σ τ) : smR σ (gj_sI τ k f) := ⟨fun q h1 h2 h3 => by
  show (if q = k then f else τ.1 q) = _
  rw [if_neg (by omega)]
  exact h.1 q h1 h2 h3, fun j hj => by
  show (if 188 = k then f else τ.1 188) j = _
  rw [if_neg (by omega)]
  exact h.2.1 j hj, h.2.2⟩
theorem smR_O {σ τ : gj_S} {j : Nat} {x : Int32} (hj : 33 ≤ j ∧ j ≤ 36) (h : smR σ τ) : smR σ (gj_sI τ 188 (upd (τ.1 188) j x)) := ⟨fun q h1 h2 h3 => by
  show (if q = 188 then _ else τ.1 q) = _
  rw [if_neg h3]
  exact h.1 q h1 h2 h3, fun l hl => by
  show (if l = j then x else τ.1 188 l) = _
  rw [if_neg (by omega)]
  exact h.2.1 l hl, h.2.2⟩
theorem smR_L {n r : Nat} {b0 e0 : Nat → Nat} {up par rk dp : Nat → Nat} {pr : Nat → Int32} {σ τ : gj_S} (h : smR σ τ) (hL : rL n r b0 e0 up par rk dp pr σ) : rL n r b0 e0 up par rk dp pr τ := by
  have e : ∀ k, k ≠ 206 → k ≠ 207 → k ≠ 188 → τ.1 k = σ.1 k := h.1
  unfold rL rS tr9 at hL ⊢
  rw [e 190 (by decide) (by decide) (by decide), e 191 (by decide) (by decide) (by decide), e 194 (by decide) (by decide) (by decide), e 195 (by decide) (by decide) (by decide), e 198 (by decide) (by decide) (by decide), e 203 (by decide) (by decide) (by decide), e 204 (by decide) (by decide) (by decide), e 205 (by decide) (by decide) (by decide)]
  exact hL
theorem nI_dec {k : Nat} : nI (k + 1) + (-1) = nI k := by
  rw [nI_succ, Int32.add_assoc, show (1 : Int32) + -1 = 0 by decide, Int32.add_zero]
theorem nar_b (b : Bool) : vp_nar .boolean (bI b) = bI b := by cases b <;> decide
theorem bI_f (b : Bool) : (if bI b = 0 then some (1 : Int32) else some (0 : Int32)) = some (bI (!b)) := by cases b <;> decide
/-- from A up to the apex: the ring's first rows, from behind -/
theorem r9_l96 {n r : Nat} {b0 e0 : Nat → Nat} {up par rk dp : Nat → Nat} {pr : Nat → Int32} {σ : gj_S} (h : rL n r b0 e0 up par rk dp pr σ) {A B i j : Nat} (hA : A < n ∨ A = 8) (ht : tap par A B i j) (hi : i ≤ 8) (ha : σ.1 188 34 = nI (it par i A)) {b1 b2 b4 : Int32} :
    TP (gj_lp (fb_X9_laysRing_l96 b1 b2 b4) 5000 (nI i, nI A, σ)) (fun z => smR σ z ∧ (∀ k, k < i → z.1 206 k = nI (up (it par (i - 1 - k) A)) ∧ z.1 207 k = bI (!decide (vb r b0 (σ.1 198) (up (it par (i - 1 - k) A)) = it par (i - 1 - k) A))) ∧ z.1 188 = σ.1 188) := by
  have hn := h.1.1
  have hC := h.2.1.1.1
  refine tp_lp (I := fun a => ∃ t, t ≤ i ∧ a.1 = nI (i - t) ∧ a.2.1 = nI (it par t A) ∧ smR σ a.2.2 ∧ a.2.2.1 188 = σ.1 188 ∧ ∀ k, i - t ≤ k → k < i → a.2.2.1 206 k = nI (up (it par (i - 1 - k) A)) ∧ a.2.2.1 207 k = bI (!decide (vb r b0 (σ.1 198) (up (it par (i - 1 - k) A)) = it par (i - 1 - k) A))) (fun a => a.1.toNatClampNeg) ?_ 5000 (nI i, nI A, σ) ⟨0, by omega, rfl, rfl, smR_rf, rfl, fun k h1 h2 => by omega⟩ (by dsimp only; rw [nI_clamp (by omega)]; omega)
  rintro ⟨x, y, τ⟩ ⟨t, h1, h2, h3, h4, h5, h6⟩
  dsimp only at h2 h3 h4 h5 h6
  subst h2
  subst h3
  unfold fb_X9_laysRing_l96
  dsimp only
  rw [h5, ha]
  by_cases e : t = i
  · subst e
    exact tp_t rfl (tp_some ⟨h4, fun k hk => h6 k (by omega) hk, h5⟩)
  · have hd : it par t A < n := tap_docks hC hA ht (by omega)
    have hne : it par t A ≠ it par i A := by
      intro q
      exact ht.2.1 t (by omega) j (q.trans ht.1)
    have hpi := it_pl hC i A hA
    have hL' := smR_L h4 h
    obtain ⟨c, hc⟩ : ∃ c, i - t = c + 1 := ⟨i - t - 1, by omega⟩
    rw [hc, nI_dec]
    refine tp_f (fun q => hne ((nI_eq (by omega) (by omega)).mp q)) (tp_t (gi (by omega) (by omega)) (tp_t (gi (by omega) (by omega)) ?_))
    simp only [nI_clamp (show c < 2 ^ 31 by omega), nI_clamp (show it par t A < 2 ^ 31 by omega)]
    have hu1 : τ.1 203 (it par t A) = nI (up (it par t A)) := (hL'.2.2.2.2.2 _ hd).1
    rw [hu1]
    have s1 : smR σ (gj_sI τ 206 (upd (τ.1 206) c (nI (up (it par t A))))) := smR_I (.inl rfl) h4
    have hs : (gj_sI τ 206 (upd (τ.1 206) c (nI (up (it par t A))))).1 198 = σ.1 198 := s1.1 198 (by decide) (by decide) (by decide)
    rw [r9_upw (smR_L s1 h) hd, hs]
    refine tp_beq rfl ?_
    rw [show (if vb r b0 (σ.1 198) (up (it par t A)) = it par t A then (1 : Int32) else 0) = bI (decide (vb r b0 (σ.1 198) (up (it par t A)) = it par t A)) by
      by_cases q : vb r b0 (σ.1 198) (up (it par t A)) = it par t A
      · simp [bI, q]
      · simp [bI, q]]
    refine tp_beq (bI_f _) (tp_t (gi (by omega) (by omega)) (tp_beq rfl ?_))
    rw [nar_b]
    have s2 : smR σ (gj_sI (gj_sI τ 206 (upd (τ.1 206) c (nI (up (it par t A))))) 207 (upd ((gj_sI τ 206 (upd (τ.1 206) c (nI (up (it par t A))))).1 207) c (bI (!decide (vb r b0 (σ.1 198) (up (it par t A)) = it par t A))))) := smR_I (.inr rfl) s1
    rw [r9_above (smR_L s2 h) hd]
    refine tp_beq rfl (tp_some ⟨⟨t + 1, by omega, by dsimp only; congr 1; omega, by dsimp only; rw [it_s], s2, h5, fun k k1 k2 => ?_⟩, ?_⟩)
    · have ei : i - 1 - c = t := by omega
      by_cases q : k = c
      · subst q
        rw [ei]
        exact ⟨if_pos rfl, if_pos rfl⟩
      · obtain ⟨g1, g2⟩ := h6 k (by omega) k2
        constructor
        · show (if k = c then _ else τ.1 206 k) = _
          rw [if_neg q]
          exact g1
        · show (if k = c then _ else τ.1 207 k) = _
          rw [if_neg q]
          exact g2
    · dsimp only
      first | omega | ((repeat rw [nI_clamp (by omega)]); omega)
/-- from B up to the apex: the ring's last rows -/
theorem r9_l188 {n r : Nat} {b0 e0 : Nat → Nat} {up par rk dp : Nat → Nat} {pr : Nat → Int32} {σ : gj_S} (h : rL n r b0 e0 up par rk dp pr σ) {A B i j : Nat} (hB : B < n ∨ B = 8) (ht : tap par A B i j) (hi : i ≤ 8) (hj : j ≤ 8) (ha : σ.1 188 34 = nI (it par i A)) (hm : σ.1 188 33 = nI (i + 1)) {b1 : Int32} :
    TP (gj_lp (fb_X9_laysRing_l188 b1) 5000 (nI B, σ)) (fun z => smR σ z ∧ z.1 188 34 = σ.1 188 34 ∧ z.1 188 33 = nI (i + 1 + j) ∧ (∀ k, k ≤ i → z.1 206 k = σ.1 206 k ∧ z.1 207 k = σ.1 207 k) ∧ ∀ t, t < j → z.1 206 (i + 1 + t) = nI (up (it par t B)) ∧ z.1 207 (i + 1 + t) = bI (decide (vb r b0 (σ.1 198) (up (it par t B)) = it par t B))) := by
  have hn := h.1.1
  have hC := h.2.1.1.1
  refine tp_lp (I := fun a => ∃ t, t ≤ j ∧ a.1 = nI (it par t B) ∧ smR σ a.2 ∧ a.2.1 188 34 = σ.1 188 34 ∧ a.2.1 188 33 = nI (i + 1 + t) ∧ (∀ k, k ≤ i → a.2.1 206 k = σ.1 206 k ∧ a.2.1 207 k = σ.1 207 k) ∧ ∀ u, u < t → a.2.1 206 (i + 1 + u) = nI (up (it par u B)) ∧ a.2.1 207 (i + 1 + u) = bI (decide (vb r b0 (σ.1 198) (up (it par u B)) = it par u B))) (fun a => i + 1 + j - (a.2.1 188 33).toNatClampNeg) ?_ 5000 (nI B, σ) ⟨0, by omega, rfl, smR_rf, rfl, hm, fun _ _ => ⟨rfl, rfl⟩, fun u hu => absurd hu (Nat.not_lt_zero _)⟩ (by dsimp only; omega)
  rintro ⟨x, τ⟩ ⟨t, h1, h2, h3, h4, h5, h6, h7⟩
  dsimp only at h2 h3 h4 h5 h6 h7
  subst h2
  unfold fb_X9_laysRing_l188
  dsimp only
  rw [h4, ha]
  by_cases e : t = j
  · subst e
    exact tp_t (by rw [ht.1]) (tp_some ⟨h3, h4.trans ha, h5, h6, h7⟩)
  · have ht' : tap par B A j i := ⟨ht.1.symm, tp0_sw ht.2⟩
    have hd : it par t B < n := tap_docks hC hB ht' (by omega)
    have hne : it par t B ≠ it par i A := by
      intro q
      exact ht.2.2 t (by omega) i q
    have hpi := it_pl hC j B hB
    rw [← ht.1] at hpi
    have hL' := smR_L h3 h
    refine tp_f (fun q => hne ((nI_eq (by omega) (by omega)).mp q)) (tp_t (gi (by omega) (by omega)) ?_)
    rw [h5]
    refine tp_t (gi (by omega) (by omega)) ?_
    have hu1 : τ.1 203 (it par t B) = nI (up (it par t B)) := (hL'.2.2.2.2.2 _ hd).1
    simp only [nI_clamp (show i + 1 + t < 2 ^ 31 by omega), nI_clamp (show it par t B < 2 ^ 31 by omega), hu1]
    have s1 : smR σ (gj_sI τ 206 (upd (τ.1 206) (i + 1 + t) (nI (up (it par t B))))) := smR_I (.inl rfl) h3
    have hs : (gj_sI τ 206 (upd (τ.1 206) (i + 1 + t) (nI (up (it par t B))))).1 198 = σ.1 198 := s1.1 198 (by decide) (by decide) (by decide)
    have h33 : (gj_sI τ 206 (upd (τ.1 206) (i + 1 + t) (nI (up (it par t B))))).1 188 33 = nI (i + 1 + t) := h5
    rw [r9_upw (smR_L s1 h) hd, hs, h33]
    refine tp_beq rfl (tp_t (gi (by omega) (by omega)) ?_)
    rw [nI_clamp (by omega), show (if vb r b0 (σ.1 198) (up (it par t B)) = it par t B then (1 : Int32) else 0) = bI (decide (vb r b0 (σ.1 198) (up (it par t B)) = it par t B)) by
      by_cases q : vb r b0 (σ.1 198) (up (it par t B)) = it par t B
      · simp [bI, q]
      · simp [bI, q], nar_b]
    refine tp_beq rfl ?_
    have s2 := smR_I (k := 207) (f := upd ((gj_sI τ 206 (upd (τ.1 206) (i + 1 + t) (nI (up (it par t B))))).1 207) (i + 1 + t) (bI (decide (vb r b0 (σ.1 198) (up (it par t B)) = it par t B)))) (.inr rfl) s1
    have s3 := smR_O (j := 33) (x := (gj_sI (gj_sI τ 206 (upd (τ.1 206) (i + 1 + t) (nI (up (it par t B))))) 207 (upd ((gj_sI τ 206 (upd (τ.1 206) (i + 1 + t) (nI (up (it par t B))))).1 207) (i + 1 + t) (bI (decide (vb r b0 (σ.1 198) (up (it par t B)) = it par t B))))).1 188 33 + 1) (by omega) s2
    rw [r9_above (smR_L s3 h) hd]
    have e33 : τ.1 188 33 + 1 = nI (i + 1 + (t + 1)) := by rw [h5, nI_1]; rfl
    refine tp_beq rfl (tp_some ⟨⟨t + 1, by omega, by dsimp only; rw [it_s], s3, h4.trans ha, e33, fun k hk => ?_, fun u hu => ?_⟩, ?_⟩)
    · obtain ⟨g1, g2⟩ := h6 k hk
      constructor
      · show (if k = i + 1 + t then _ else τ.1 206 k) = _
        rw [if_neg (by omega)]
        exact g1
      · show (if k = i + 1 + t then _ else τ.1 207 k) = _
        rw [if_neg (by omega)]
        exact g2
    · by_cases q : u = t
      · subst q
        exact ⟨if_pos rfl, if_pos rfl⟩
      · obtain ⟨g1, g2⟩ := h7 u (by omega)
        constructor
        · show (if i + 1 + u = i + 1 + t then _ else τ.1 206 (i + 1 + u)) = _
          rw [if_neg (by omega)]
          exact g1
        · show (if i + 1 + u = i + 1 + t then _ else τ.1 207 (i + 1 + u)) = _
          rw [if_neg (by omega)]
          exact g2
    · show i + 1 + j - (τ.1 188 33 + 1).toNatClampNeg < i + 1 + j - (i + 1 + t)
      rw [e33, nI_clamp (by omega)]
      omega
/-- room of a way in the ring of w (end: what a tender holds) -/
def vr (r : Nat) (s : Nat → Int32) (en : Int32) (w : Nat) (v : Nat) (al : Bool) : Int32 := if v = w then (if w < r then s (24 + w) else en) else if al = false then s (50 + v) else if v < r then s (24 + v) - s (50 + v) else en
theorem r9_room {n r : Nat} {b0 e0 : Nat → Nat} {σ : gj_S} (h : rS n r b0 e0 σ) {k w v : Nat} {al : Bool} (hk : k < 24) (hw : w < r + n) (hv : v < r + n) (h1 : σ.1 206 k = nI v) (h2 : σ.1 207 k = bI al) : f_X9_roomOf (nI k) (nI w) σ = some (vr r (σ.1 198) 1000000000 w v al) := by
  have hn := h.1
  have hr := h.2.1
  have hg := gi hk (show k < 2 ^ 31 by omega)
  unfold f_X9_roomOf vr
  rw [if_pos hg]
  simp only [nI_clamp (show k < 2 ^ 31 by omega), h1, h2]
  by_cases q : v = w
  · rw [if_pos (by rw [q]), if_pos q, r9_ho h hw]
    rfl
  · rw [if_neg (fun e => q ((nI_eq (by omega) (by omega)).mp e)), if_neg q, if_pos hg]
    simp only [show (50 : Int32) = nI 50 from rfl, show (24 : Int32) = nI 24 from rfl, nI_add, nI_clamp (show 50 + v < 2 ^ 31 by omega), nI_clamp (show 24 + v < 2 ^ 31 by omega), rd0, h.2.2.2.1]
    have g50 : gj_in (nI (50 + v)) 180 := gi (by omega) (by omega)
    cases al with
    | false =>
      rw [if_pos (show bI false = 0 by decide), if_pos (show false = false from rfl), if_pos hg, if_pos g50]
    | true =>
      rw [if_neg (show ¬ bI true = 0 by decide), if_neg (show ¬ true = false by decide), if_pos hg, if_pos (gj0 (by decide))]
      by_cases q2 : v < r
      · rw [if_neg (nI_ge q2 (by omega)), if_pos q2, if_pos hg, if_pos (gi (by omega) (by omega)), if_pos hg, if_pos g50]
      · rw [if_pos (nI_le (by omega) (by omega)), if_neg q2]
/-- the least of a row, and the last place of it -/
def lmin (f : Nat → Int32) (M lv : Nat) : Prop := lv < M ∧ (∀ t, t < M → f lv ≤ f t) ∧ ∀ t, lv < t → t < M → f lv < f t
theorem lmin_un {f : Nat → Int32} {M a b : Nat} (h : lmin f M a) (h' : lmin f M b) : a = b := by
  have q1 : ¬ a < b := fun q => by
    have x1 := h.2.2 b q h'.1
    have x2 := h'.2.1 a h.1
    rw [i32_lt_iff] at x1
    rw [i32_le_iff] at x2
    omega
  have q2 : ¬ b < a := fun q => by
    have x1 := h'.2.2 a q h.1
    have x2 := h.2.1 b h'.1
    rw [i32_lt_iff] at x1
    rw [i32_le_iff] at x2
    omega
  omega
theorem r9_l263 {n r : Nat} {b0 e0 : Nat → Nat} {σ : gj_S} (h : rS n r b0 e0 σ) {w M : Nat} {W : Nat → Nat} {L : Nat → Bool} (hw : w < r + n) (hM : M ≤ 24) (hm : σ.1 188 33 = nI M) (hR : ∀ k, k < M → W k < r + n ∧ σ.1 206 k = nI (W k) ∧ σ.1 207 k = bI (L k)) (h35 : σ.1 188 35 = 1000000000) (h36 : σ.1 188 36 = -1) (hc : ∃ c, c < M ∧ vr r (σ.1 198) 1000000000 w (W c) (L c) ≤ 1000000000) :
    TP (gj_lp (fb_X9_laysRing_l263 (nI w)) 5000 (0, σ)) (fun z => smR σ z ∧ (∀ j, j ≠ 35 → j ≠ 36 → z.1 188 j = σ.1 188 j) ∧ z.1 206 = σ.1 206 ∧ z.1 207 = σ.1 207 ∧ ∃ lv, lmin (fun k => vr r (σ.1 198) 1000000000 w (W k) (L k)) M lv ∧ z.1 188 36 = nI lv ∧ z.1 188 35 = vr r (σ.1 198) 1000000000 w (W lv) (L lv)) := by
  refine tp_lp (I := fun a => ∃ k, k ≤ M ∧ a.1 = nI k ∧ smR σ a.2 ∧ (∀ j, j ≠ 35 → j ≠ 36 → a.2.1 188 j = σ.1 188 j) ∧ a.2.1 206 = σ.1 206 ∧ a.2.1 207 = σ.1 207 ∧ ((a.2.1 188 36 = -1 ∧ a.2.1 188 35 = 1000000000 ∧ ∀ t, t < k → (1000000000 : Int32) < vr r (σ.1 198) 1000000000 w (W t) (L t)) ∨ ∃ lv, lmin (fun k => vr r (σ.1 198) 1000000000 w (W k) (L k)) k lv ∧ a.2.1 188 36 = nI lv ∧ a.2.1 188 35 = vr r (σ.1 198) 1000000000 w (W lv) (L lv))) (fun a => M - a.1.toNatClampNeg) ?_ 5000 (0, σ) ⟨0, by omega, rfl, smR_rf, fun _ _ _ => rfl, rfl, rfl, .inl ⟨h36, h35, fun t ht => absurd ht (Nat.not_lt_zero _)⟩⟩ (by dsimp only; omega)
  rintro ⟨x, τ⟩ ⟨k, h1, h2, h3, h4, h5, h6, h7⟩
  dsimp only at h2 h3 h4 h5 h6 h7
  subst h2
  unfold fb_X9_laysRing_l263
  dsimp only
  have e33 : τ.1 188 33 = nI M := (h4 33 (by decide) (by decide)).trans hm
  rw [e33]
  by_cases e : k = M
  · subst e
    refine tp_t (nI_le (by omega) (by omega)) (tp_some ⟨h3, h4, h5, h6, ?_⟩)
    rcases h7 with ⟨q1, q2, q3⟩ | q
    · exfalso
      obtain ⟨c, c1, c2⟩ := hc
      have := q3 c c1
      rw [i32_lt_iff] at this
      rw [i32_le_iff] at c2
      omega
    · exact q
  · have hS' : rS n r b0 e0 τ := by
      have e : ∀ k, k ≠ 206 → k ≠ 207 → k ≠ 188 → τ.1 k = σ.1 k := h3.1
      unfold rS at h ⊢
      rw [e 190 (by decide) (by decide) (by decide), e 191 (by decide) (by decide) (by decide), e 194 (by decide) (by decide) (by decide), e 195 (by decide) (by decide) (by decide)]
      exact h
    have es : τ.1 198 = σ.1 198 := h3.1 198 (by decide) (by decide) (by decide)
    obtain ⟨w1, w2, w3⟩ := hR k (by omega)
    refine tp_f (nI_ge (by omega) (by omega)) ?_
    rw [r9_room hS' (k := k) (w := w) (v := W k) (al := L k) (by omega) hw w1 (by rw [h5]; exact w2) (by rw [h6]; exact w3), es]
    refine tp_beq rfl ?_
    have hmeas : M - (nI k + 1).toNatClampNeg < M - (nI k).toNatClampNeg := by
      rw [nI_1, nI_clamp (by omega), nI_clamp (by omega)]
      omega
    refine tp_if (fun q => ?_) (fun q => ?_)
    · refine tp_some ⟨⟨k + 1, by omega, nI_1 _, smR_O (by omega) (smR_O (by omega) h3), fun j j1 j2 => ?_, h5, h6, .inr ⟨k, ⟨by omega, fun t ht => ?_, fun t t1 t2 => by omega⟩, rfl, rfl⟩⟩, hmeas⟩
      · show (if j = 36 then _ else if j = 35 then _ else τ.1 188 j) = _
        rw [if_neg j2, if_neg j1]
        exact h4 j j1 j2
      · by_cases e2 : t = k
        · subst e2
          dsimp only
          rw [i32_le_iff]
          omega
        · dsimp only
          rcases h7 with ⟨q1, q2, q3⟩ | ⟨lv, l1, l2, l3⟩
          · have := q3 t (by omega)
            rw [q2] at q
            rw [i32_lt_iff] at this
            rw [i32_le_iff] at q ⊢
            omega
          · have := l1.2.1 t (by omega)
            dsimp only at this
            rw [l3] at q
            rw [i32_le_iff] at q this ⊢
            omega
    · refine tp_some ⟨⟨k + 1, by omega, nI_1 _, h3, h4, h5, h6, ?_⟩, hmeas⟩
      rcases h7 with ⟨q1, q2, q3⟩ | ⟨lv, l1, l2, l3⟩
      · refine .inl ⟨q1, q2, fun t ht => ?_⟩
        by_cases e2 : t = k
        · subst e2
          rw [q2, i32_le_iff] at q
          rw [i32_lt_iff]
          omega
        · exact q3 t (by omega)
      · refine .inr ⟨lv, ⟨by have := l1.1; omega, fun t ht => ?_, fun t t1 t2 => ?_⟩, l2, l3⟩
        · by_cases e2 : t = k
          · subst e2
            dsimp only
            rw [l3, i32_le_iff] at q
            rw [i32_le_iff]
            omega
          · exact l1.2.1 t (by omega)
        · by_cases e2 : t = k
          · subst e2
            dsimp only
            rw [l3, i32_le_iff] at q
            rw [i32_lt_iff]
            omega
          · exact l1.2.2 t t1 (by omega)
theorem smR_S {n r : Nat} {b0 e0 : Nat → Nat} {σ τ : gj_S} (h3 : smR σ τ) (h : rS n r b0 e0 σ) : rS n r b0 e0 τ := by
  have e : ∀ k, k ≠ 206 → k ≠ 207 → k ≠ 188 → τ.1 k = σ.1 k := h3.1
  unfold rS at h ⊢
  rw [e 190 (by decide) (by decide) (by decide), e 191 (by decide) (by decide) (by decide), e 194 (by decide) (by decide) (by decide), e 195 (by decide) (by decide) (by decide)]
  exact h
/-- where the ring of w is gone into, where one comes out -/
def vA (r : Nat) (b0 e0 : Nat → Nat) (s : Nat → Int32) (w : Nat) : Nat := if s (74 + w) = 1 then vb r b0 s w else ve r e0 s w
def vB (r : Nat) (b0 e0 : Nat → Nat) (s : Nat → Int32) (w : Nat) : Nat := if s (74 + w) = 1 then ve r e0 s w else vb r b0 s w
def vE (s : Nat → Int32) (w : Nat) : Bool := decide (s (74 + w) = 1)
theorem vA_pl {n r : Nat} {b0 e0 : Nat → Nat} {σ : gj_S} {s : Nat → Int32} (h : rS n r b0 e0 σ) {w : Nat} (hw : w < r + n) : vA r b0 e0 s w < n ∨ vA r b0 e0 s w = 8 := by
  unfold vA
  split
  · exact vb_pl h hw
  · exact ve_pl h hw
theorem vB_pl {n r : Nat} {b0 e0 : Nat → Nat} {σ : gj_S} {s : Nat → Int32} (h : rS n r b0 e0 σ) {w : Nat} (hw : w < r + n) : vB r b0 e0 s w < n ∨ vB r b0 e0 s w = 8 := by
  unfold vB
  split
  · exact ve_pl h hw
  · exact vb_pl h hw
/-- the ring's ways are ways -/
theorem rgW_lt {n m : Nat} {bg en : Nat → Nat} {T : Nat → Prop} {up par rk : Nat → Nat} (h : tc_r n m bg en T up par rk) {w A B i j k : Nat} (hw : w < m) (hA : A < n ∨ A = 8) (hB : B < n ∨ B = 8) (ht : tap par A B i j) (hk : k < i + 1 + j) : rgW up par w A B i k < m := by
  unfold rgW
  by_cases q : k < i
  · rw [if_pos q]
    exact (h.2.2.1 _ (tap_docks h hA ht (by omega))).1
  · rw [if_neg q]
    by_cases q2 : k = i
    · rw [if_pos q2]; exact hw
    · rw [if_neg q2]
      exact (h.2.2.1 _ (tap_docks h hB ⟨ht.1.symm, tp0_sw ht.2⟩ (by omega))).1
/-- what laying the ring of w leaves -/
def rgZ (r : Nat) (b0 e0 : Nat → Nat) (s : Nat → Int32) (up par : Nat → Nat) (w i j : Nat) (z : gj_S) : Prop :=
  z.1 188 34 = nI (it par i (vA r b0 e0 s w)) ∧ z.1 188 33 = nI (i + 1 + j) ∧
  (∀ k, k < i + 1 + j → z.1 206 k = nI (rgW up par w (vA r b0 e0 s w) (vB r b0 e0 s w) i k) ∧ z.1 207 k = bI (rgL (vb r b0 s) up par (vE s w) (vA r b0 e0 s w) (vB r b0 e0 s w) i k)) ∧
  ∃ lv, lmin (fun k => vr r s 1000000000 w (rgW up par w (vA r b0 e0 s w) (vB r b0 e0 s w) i k) (rgL (vb r b0 s) up par (vE s w) (vA r b0 e0 s w) (vB r b0 e0 s w) i k)) (i + 1 + j) lv ∧ z.1 188 36 = nI lv ∧ z.1 188 35 = vr r s 1000000000 w (rgW up par w (vA r b0 e0 s w) (vB r b0 e0 s w) i lv) (rgL (vb r b0 s) up par (vE s w) (vA r b0 e0 s w) (vB r b0 e0 s w) i lv)
theorem r9_ring {n r : Nat} {b0 e0 : Nat → Nat} {up par rk dp : Nat → Nat} {pr : Nat → Int32} {σ : gj_S} (h : rL n r b0 e0 up par rk dp pr σ) {w : Nat} (hw : w < r + n) (hh : w < r → σ.1 198 (24 + w) ≤ 1000000000) :
    ∃ i j, i ≤ 8 ∧ j ≤ 8 ∧ tap par (vA r b0 e0 (σ.1 198) w) (vB r b0 e0 (σ.1 198) w) i j ∧ TP (f_X9_laysRing (nI w) σ) (fun z => smR σ z ∧ rgZ r b0 e0 (σ.1 198) up par w i j z) := by
  have hn := h.1.1
  have hr := h.1.2.1
  have hC := h.2.1.1.1
  have hD := h.2.1.2.1
  have hA := vA_pl (s := σ.1 198) h.1 hw
  have hB := vB_pl (s := σ.1 198) h.1 hw
  obtain ⟨i, j, ht, hap⟩ := r9_apex h hA hB
  have hdA := rL_dp h hA
  have hdB := rL_dp h hB
  have hi' := td_path hC hD i (fun t q => tap_docks hC hA ht q)
  have hj' := td_path hC hD j (fun t q => tap_docks hC hB (i := j) (j := i) ⟨ht.1.symm, tp0_sw ht.2⟩ q)
  have hi : i ≤ 8 := by omega
  have hj : j ≤ 8 := by omega
  refine ⟨i, j, hi, hj, ht, ?_⟩
  unfold f_X9_laysRing
  rw [show (74 : Int32) = nI 74 from rfl, nI_add]
  refine tp_t (gi (by omega) (by omega)) ?_
  rw [nI_clamp (by omega)]
  refine tp_beq (x := bI (vE (σ.1 198) w)) (by unfold vE bI; by_cases q : σ.1 198 (74 + w) = 1 <;> simp [q]) ?_
  refine tp_beq (x := nI (vA r b0 e0 (σ.1 198) w)) (by
    unfold vA vE bI
    rw [r9_bg h.1 hw, r9_en h.1 hw]
    by_cases q : σ.1 198 (74 + w) = 1 <;> simp [q]) ?_
  refine tp_beq (x := nI (vB r b0 e0 (σ.1 198) w)) (by
    unfold vB vE bI
    rw [r9_bg h.1 hw, r9_en h.1 hw]
    by_cases q : σ.1 198 (74 + w) = 1 <;> simp [q]) ?_
  refine tp_beq hap ?_
  have pa := it_pl hC i _ hA
  generalize eA : vA r b0 e0 (σ.1 198) w = A at *
  generalize eB : vB r b0 e0 (σ.1 198) w = B at *
  refine tp_t (gi (by omega) (by omega)) ?_
  have e34 : ∀ x : Int32, (gj_sI σ 188 (upd (σ.1 188) 34 x)).1 188 34 = x := fun x => rfl
  have e204 : ∀ x : Int32, (gj_sI σ 188 (upd (σ.1 188) 34 x)).1 204 = σ.1 204 := fun x => rfl
  rw [e34, e204]
  refine tp_t (gi (by omega) (by omega)) (tp_beq rfl ?_)
  rw [nI_clamp (by omega), nI_clamp (by omega), rL_D h hA, rL_D h pa, nI_sub (by omega), show dp A - dp (it par i A) = i by omega]
  have s2 : smR σ (gj_sI (gj_sI σ 188 (upd (σ.1 188) 34 (nI (it par i A)))) 188 (upd ((gj_sI σ 188 (upd (σ.1 188) 34 (nI (it par i A)))).1 188) 33 (nI i))) := smR_O (by omega) (smR_O (by omega) smR_rf)
  have es2 := s2.1 198 (by decide) (by decide) (by decide)
  have h2 := smR_L s2 h
  generalize e2 : gj_sI (gj_sI σ 188 (upd (σ.1 188) 34 (nI (it par i A)))) 188 (upd ((gj_sI σ 188 (upd (σ.1 188) 34 (nI (it par i A)))).1 188) 33 (nI i)) = σ2 at *
  have a34 : σ2.1 188 34 = nI (it par i A) := by rw [← e2]; rfl
  have a33 : σ2.1 188 33 = nI i := by rw [← e2]; rfl
  rw [a33]
  refine tp_bind (r9_l96 h2 hA ht hi a34) (fun z hz => ?_)
  obtain ⟨z1, z2, z3⟩ := hz
  rw [es2] at z2
  have z33 : z.1 188 33 = nI i := by rw [z3]; exact a33
  have z34 : z.1 188 34 = nI (it par i A) := by rw [z3]; exact a34
  rw [z33]
  refine tp_t (gi (by omega) (by omega)) ?_
  rw [nI_clamp (by omega)]
  have c33 : (gj_sI z 206 (upd (z.1 206) i (nI w))).1 188 33 = nI i := z33
  rw [c33]
  refine tp_t (gi (by omega) (by omega)) (tp_beq rfl ?_)
  rw [nI_clamp (by omega), nar_b]
  have t1 : smR z (gj_sI (gj_sI z 206 (upd (z.1 206) i (nI w))) 207 (upd ((gj_sI z 206 (upd (z.1 206) i (nI w))).1 207) i (bI (vE (σ.1 198) w)))) := smR_I (.inr rfl) (smR_I (.inl rfl) smR_rf)
  have d33 : (gj_sI (gj_sI z 206 (upd (z.1 206) i (nI w))) 207 (upd ((gj_sI z 206 (upd (z.1 206) i (nI w))).1 207) i (bI (vE (σ.1 198) w)))).1 188 33 = nI i := z33
  rw [d33, nI_1]
  have t2 := smR_O (j := 33) (x := nI (i + 1)) (by omega) t1
  have s5 := smR_tr (smR_tr s2 z1) t2
  have es5 := s5.1 198 (by decide) (by decide) (by decide)
  have h5 := smR_L s5 h
  have f1 : ∀ k, k < i → (gj_sI (gj_sI (gj_sI z 206 (upd (z.1 206) i (nI w))) 207 (upd ((gj_sI z 206 (upd (z.1 206) i (nI w))).1 207) i (bI (vE (σ.1 198) w)))) 188 (upd ((gj_sI (gj_sI z 206 (upd (z.1 206) i (nI w))) 207 (upd ((gj_sI z 206 (upd (z.1 206) i (nI w))).1 207) i (bI (vE (σ.1 198) w)))).1 188) 33 (nI (i + 1)))).1 206 k = z.1 206 k := fun k hk => by
    show (if k = i then _ else z.1 206 k) = _
    rw [if_neg (by omega)]
  have f2 : ∀ k, k < i → (gj_sI (gj_sI (gj_sI z 206 (upd (z.1 206) i (nI w))) 207 (upd ((gj_sI z 206 (upd (z.1 206) i (nI w))).1 207) i (bI (vE (σ.1 198) w)))) 188 (upd ((gj_sI (gj_sI z 206 (upd (z.1 206) i (nI w))) 207 (upd ((gj_sI z 206 (upd (z.1 206) i (nI w))).1 207) i (bI (vE (σ.1 198) w)))).1 188) 33 (nI (i + 1)))).1 207 k = z.1 207 k := fun k hk => by
    show (if k = i then _ else z.1 207 k) = _
    rw [if_neg (by omega)]
  have f3 : (gj_sI (gj_sI (gj_sI z 206 (upd (z.1 206) i (nI w))) 207 (upd ((gj_sI z 206 (upd (z.1 206) i (nI w))).1 207) i (bI (vE (σ.1 198) w)))) 188 (upd ((gj_sI (gj_sI z 206 (upd (z.1 206) i (nI w))) 207 (upd ((gj_sI z 206 (upd (z.1 206) i (nI w))).1 207) i (bI (vE (σ.1 198) w)))).1 188) 33 (nI (i + 1)))).1 206 i = nI w := if_pos rfl
  have f4 : (gj_sI (gj_sI (gj_sI z 206 (upd (z.1 206) i (nI w))) 207 (upd ((gj_sI z 206 (upd (z.1 206) i (nI w))).1 207) i (bI (vE (σ.1 198) w)))) 188 (upd ((gj_sI (gj_sI z 206 (upd (z.1 206) i (nI w))) 207 (upd ((gj_sI z 206 (upd (z.1 206) i (nI w))).1 207) i (bI (vE (σ.1 198) w)))).1 188) 33 (nI (i + 1)))).1 207 i = bI (vE (σ.1 198) w) := if_pos rfl
  have f5 : (gj_sI (gj_sI (gj_sI z 206 (upd (z.1 206) i (nI w))) 207 (upd ((gj_sI z 206 (upd (z.1 206) i (nI w))).1 207) i (bI (vE (σ.1 198) w)))) 188 (upd ((gj_sI (gj_sI z 206 (upd (z.1 206) i (nI w))) 207 (upd ((gj_sI z 206 (upd (z.1 206) i (nI w))).1 207) i (bI (vE (σ.1 198) w)))).1 188) 33 (nI (i + 1)))).1 188 33 = nI (i + 1) := rfl
  have f6 : (gj_sI (gj_sI (gj_sI z 206 (upd (z.1 206) i (nI w))) 207 (upd ((gj_sI z 206 (upd (z.1 206) i (nI w))).1 207) i (bI (vE (σ.1 198) w)))) 188 (upd ((gj_sI (gj_sI z 206 (upd (z.1 206) i (nI w))) 207 (upd ((gj_sI z 206 (upd (z.1 206) i (nI w))).1 207) i (bI (vE (σ.1 198) w)))).1 188) 33 (nI (i + 1)))).1 188 34 = nI (it par i A) := z34
  generalize gj_sI (gj_sI (gj_sI z 206 (upd (z.1 206) i (nI w))) 207 (upd ((gj_sI z 206 (upd (z.1 206) i (nI w))).1 207) i (bI (vE (σ.1 198) w)))) 188 (upd ((gj_sI (gj_sI z 206 (upd (z.1 206) i (nI w))) 207 (upd ((gj_sI z 206 (upd (z.1 206) i (nI w))).1 207) i (bI (vE (σ.1 198) w)))).1 188) 33 (nI (i + 1))) = σ5 at *
  refine tp_bind (r9_l188 h5 hB ht hi hj f6 f5) (fun y hy => ?_)
  obtain ⟨y1, y2, y3, y4, y5⟩ := hy
  rw [es5] at y5
  have s6 := smR_tr s5 y1
  have s7 : smR σ (gj_sI (gj_sI y 188 (upd (y.1 188) 35 1000000000)) 188 (upd ((gj_sI y 188 (upd (y.1 188) 35 1000000000)).1 188) 36 (-1))) := smR_O (by omega) (smR_O (by omega) s6)
  have es7 := s7.1 198 (by decide) (by decide) (by decide)
  have g1 : (gj_sI (gj_sI y 188 (upd (y.1 188) 35 1000000000)) 188 (upd ((gj_sI y 188 (upd (y.1 188) 35 1000000000)).1 188) 36 (-1))).1 206 = y.1 206 := rfl
  have g2 : (gj_sI (gj_sI y 188 (upd (y.1 188) 35 1000000000)) 188 (upd ((gj_sI y 188 (upd (y.1 188) 35 1000000000)).1 188) 36 (-1))).1 207 = y.1 207 := rfl
  have g3 : (gj_sI (gj_sI y 188 (upd (y.1 188) 35 1000000000)) 188 (upd ((gj_sI y 188 (upd (y.1 188) 35 1000000000)).1 188) 36 (-1))).1 188 33 = nI (i + 1 + j) := y3
  have g4 : (gj_sI (gj_sI y 188 (upd (y.1 188) 35 1000000000)) 188 (upd ((gj_sI y 188 (upd (y.1 188) 35 1000000000)).1 188) 36 (-1))).1 188 34 = nI (it par i A) := y2.trans f6
  have g5 : (gj_sI (gj_sI y 188 (upd (y.1 188) 35 1000000000)) 188 (upd ((gj_sI y 188 (upd (y.1 188) 35 1000000000)).1 188) 36 (-1))).1 188 35 = 1000000000 := rfl
  have g6 : (gj_sI (gj_sI y 188 (upd (y.1 188) 35 1000000000)) 188 (upd ((gj_sI y 188 (upd (y.1 188) 35 1000000000)).1 188) 36 (-1))).1 188 36 = -1 := rfl
  generalize gj_sI (gj_sI y 188 (upd (y.1 188) 35 1000000000)) 188 (upd ((gj_sI y 188 (upd (y.1 188) 35 1000000000)).1 188) 36 (-1)) = σ7 at *
  have hrow : ∀ k, k < i + 1 + j → σ7.1 206 k = nI (rgW up par w A B i k) ∧ σ7.1 207 k = bI (rgL (vb r b0 (σ.1 198)) up par (vE (σ.1 198) w) A B i k) := fun k hk => by
    rw [g1, g2]
    unfold rgW rgL
    by_cases q : k < i
    · rw [if_pos q, if_pos q, (y4 k (by omega)).1, (y4 k (by omega)).2, f1 k q, f2 k q]
      exact z2 k q
    · rw [if_neg q, if_neg q]
      by_cases q2 : k = i
      · subst q2
        rw [if_pos rfl, if_pos rfl, (y4 k (by omega)).1, (y4 k (by omega)).2, f3, f4]
        exact ⟨rfl, rfl⟩
      · rw [if_neg q2, if_neg q2]
        obtain ⟨t, rfl⟩ : ∃ t, k = i + 1 + t := ⟨k - i - 1, by omega⟩
        rw [show i + 1 + t - i - 1 = t by omega]
        exact y5 t (by omega)
  refine tp_bind (r9_l263 (smR_S s7 h.1) (w := w) (M := i + 1 + j) (W := rgW up par w A B i) (L := rgL (vb r b0 (σ.1 198)) up par (vE (σ.1 198) w) A B i) hw (by omega) g3 (fun k hk => ⟨rgW_lt hC hw hA hB ht hk, hrow k hk⟩) g5 g6 ⟨i, by omega, ?_⟩) (fun x hx => ?_)
  · have e : rgW up par w A B i i = w := by unfold rgW; rw [if_neg (by omega), if_pos rfl]
    rw [e, es7]
    unfold vr
    rw [if_pos rfl]
    by_cases q : w < r
    · rw [if_pos q]; exact hh q
    · rw [if_neg q]; decide
  · obtain ⟨x1, x2, x3, x4, lv, x5, x6, x7⟩ := hx
    rw [es7] at x5 x7
    refine tp_some ⟨smR_tr s7 x1, ?_⟩
    unfold rgZ
    rw [eA, eB]
    refine ⟨(x2 34 (by decide) (by decide)).trans g4, (x2 33 (by decide) (by decide)).trans g3, fun k hk => ?_, lv, x5, x6, x7⟩
    rw [x3, x4]
    exact hrow k hk
