/-! ===== the class: gains, what is good, what enters, the apex ===== -/
/-- the yard at cell y: its plan tells the row s, its tree is the certificate's -/
def cL (n r : Nat) (b0 e0 : Nat → Nat) (s : Nat → Int32) (up par rk dp : Nat → Nat) (pr : Nat → Int32) (y : Nat) (σ : gj_S) : Prop := gS n r b0 e0 ∧ pm n r b0 e0 s (y + 1) σ ∧ rT n r b0 e0 s up par rk dp pr ∧ t8 n up par dp pr (y + 10) σ ∧ (∀ w, w < r → ∃ c, c ≤ 999 ∧ s (8 + w) = nI c) ∧ ∀ w, w < r + n → s (74 + w) = 0 ∨ s (74 + w) = 1 ∨ s (74 + w) = 2
theorem cL_P {n r y : Nat} {b0 e0 : Nat → Nat} {s : Nat → Int32} {up par rk dp : Nat → Nat} {pr : Nat → Int32} {σ : gj_S} (h : cL n r b0 e0 s up par rk dp pr y σ) {p : Nat} (hp : p < n ∨ p = 8) : σ.1 (y + 10 + 4) p = pr p := by
  obtain ⟨-, -, hT, ht, -⟩ := h
  rcases hp with hp | rfl
  · exact (ht.2.2.2 p hp).2.2.2
  · rw [hT.2.2.1]
    exact ht.2.2.1
theorem cL_D {n r y : Nat} {b0 e0 : Nat → Nat} {s : Nat → Int32} {up par rk dp : Nat → Nat} {pr : Nat → Int32} {σ : gj_S} (h : cL n r b0 e0 s up par rk dp pr y σ) {p : Nat} (hp : p < n ∨ p = 8) : σ.1 (y + 10 + 3) p = nI (dp p) := by
  obtain ⟨-, -, hT, ht, -⟩ := h
  rcases hp with hp | rfl
  · exact (ht.2.2.2 p hp).2.2.1
  · rw [hT.2.1.1]
    exact ht.2.1
theorem cL_dp {n r y : Nat} {b0 e0 : Nat → Nat} {s : Nat → Int32} {up par rk dp : Nat → Nat} {pr : Nat → Int32} {σ : gj_S} (h : cL n r b0 e0 s up par rk dp pr y σ) {p : Nat} (hp : p < n ∨ p = 8) : dp p ≤ 8 := Nat.le_trans (td_le h.2.2.1.1 h.2.2.1.2.1 hp) h.1.1
theorem c8_ways {n r b : Nat} {b0 e0 : Nat → Nat} {s : Nat → Int32} {σ : gj_S} (h : pm n r b0 e0 s b σ) : f_X1_countWays b σ = some (nI (r + n)) := by
  unfold f_X1_countWays
  rw [h.1, h.2.1, nI_add]
theorem c8_gain {n r y : Nat} {b0 e0 : Nat → Nat} {s : Nat → Int32} {up par rk dp : Nat → Nat} {pr : Nat → Int32} {σ : gj_S} (h : cL n r b0 e0 s up par rk dp pr y σ) {w : Nat} (hw : w < r + n) : f_X7_gainOf y (nI w) σ = some (vg r b0 e0 s pr w) := by
  have hn := h.1.1
  have hr := h.1.2.1
  obtain ⟨q1, q2, q3, -⟩ := h.2.1.2.2.2.2.2 w hw
  have hpb := gb_pl (s := s) h.1 hw
  have hpe := ge_pl (s := s) h.1 hw
  have gw : gj_in (nI w) 24 := gi (by omega) (by omega)
  unfold f_X7_gainOf vg
  rw [if_pos gw, if_pos gw]
  simp only [nI_clamp (show w < 2 ^ 31 by omega), q1, q2, q3]
  rw [if_pos (gi (by omega) (by omega)), if_pos gw, if_pos (gi (by omega) (by omega)), nI_clamp (by omega), nI_clamp (by omega), cL_P h hpb, cL_P h hpe]
theorem c8_goodness {n r y : Nat} {b0 e0 : Nat → Nat} {s : Nat → Int32} {up par rk dp : Nat → Nat} {pr : Nat → Int32} {σ : gj_S} (h : cL n r b0 e0 s up par rk dp pr y σ) {w : Nat} (hw : w < r + n) : f_X7_goodness y (nI w) σ = some (if vG r b0 e0 s pr w = true then rG r b0 e0 s pr w else 0) := by
  have hn := h.1.1
  have hr := h.1.2.1
  obtain ⟨-, -, -, -, -, q6⟩ := h.2.1.2.2.2.2.2 w hw
  have gw : gj_in (nI w) 24 := gi (by omega) (by omega)
  unfold f_X7_goodness
  rw [c8_gain h hw]
  dsimp only [Option.bind_some]
  rw [if_pos gw]
  simp only [nI_clamp (show w < 2 ^ 31 by omega), q6, if_pos gw]
  unfold vG rG zI
  generalize vg r b0 e0 s pr w = g
  by_cases h1 : s (74 + w) = 1
  · have h2 : ¬ s (74 + w) = 2 := by rw [h1]; decide
    rw [if_pos h1, if_neg h2]
    by_cases q : 0 ≤ g
    · have q' : ¬ g < 0 := by rw [i32_le_iff] at q; rw [i32_lt_iff]; omega
      simp [h1, q, q']
    · have q' : g < 0 := by rw [i32_le_iff] at q; rw [i32_lt_iff]; omega
      simp [h1, q, q']
  · rw [if_neg h1]
    by_cases h2 : s (74 + w) = 2
    · rw [if_pos h2]
      by_cases q : g ≤ 0
      · have q' : ¬ 0 < g := fun x => i32_nle.mpr x q
        simp [h2, q, q']
      · have q' : 0 < g := i32_nle.mp q
        have q2 : 0 ≤ g := by rw [i32_lt_iff] at q'; rw [i32_le_iff]; omega
        simp [h2, q, q', q2]
    · rw [if_neg h2]
      simp [h1, h2]
theorem c8_many {n r y : Nat} {b0 e0 : Nat → Nat} {s : Nat → Int32} {up par rk dp : Nat → Nat} {pr : Nat → Int32} {σ : gj_S} (h : cL n r b0 e0 s up par rk dp pr y σ) : f_X7_countGood y σ = some (nI (ct (vG r b0 e0 s pr) (r + n))) := by
  have hn := h.1.1
  have hr := h.1.2.1
  have : TP (gj_lp (fb_X7_countGood_l4 y σ) 5000 (0, 0)) (fun z => z = nI (ct (vG r b0 e0 s pr) (r + n))) := by
    refine tp_lp (I := fun a => ∃ k, k ≤ r + n ∧ a.2 = nI k ∧ a.1 = nI (ct (vG r b0 e0 s pr) k)) (fun a => r + n - a.2.toNatClampNeg) ?_ 5000 (0, 0) ⟨0, by omega, rfl, rfl⟩ (by dsimp only; omega)
    rintro ⟨c, i⟩ ⟨k, h1, h2, h3⟩
    dsimp only at h2 h3
    subst h2
    subst h3
    unfold fb_X7_countGood_l4
    dsimp only
    refine tp_beq (c8_ways h.2.1) ?_
    by_cases e : k = r + n
    · subst e
      exact tp_t (nI_le (by omega) (by omega)) (tp_some rfl)
    · refine tp_f (nI_ge (by omega) (by omega)) (tp_beq (c8_goodness h (show k < r + n by omega)) ?_)
      have hm : r + n - (nI k + 1).toNatClampNeg < r + n - (nI k).toNatClampNeg := by
        rw [nI_1, nI_clamp (by omega), nI_clamp (by omega)]
        omega
      by_cases q : vG r b0 e0 s pr k = true
      · rw [if_pos q]
        have hpos := rG_pos h.1 h.2.2.1 h.2.2.2.2.1 (show k < r + n by omega) q
        refine tp_f (by rw [i32_le_iff]; show ¬ _ ≤ 0; omega) (tp_some ⟨⟨k + 1, by omega, nI_1 _, ?_⟩, hm⟩)
        dsimp only [ct]
        rw [if_pos q, nI_1]
      · rw [if_neg q]
        refine tp_t (by decide) (tp_some ⟨⟨k + 1, by omega, nI_1 _, ?_⟩, hm⟩)
        dsimp only [ct]
        rw [if_neg q]
        simp
  obtain ⟨x, e, rfl⟩ := this
  unfold f_X7_countGood
  rw [e]
  rfl
theorem c8_end {n r y : Nat} {b0 e0 : Nat → Nat} {s : Nat → Int32} {up par rk dp : Nat → Nat} {pr : Nat → Int32} {σ : gj_S} (h : cL n r b0 e0 s up par rk dp pr y σ) : f_X7_isEnd y σ = some (if ct (vG r b0 e0 s pr) (r + n) = 0 then 1 else 0) := by
  have hn := h.1.1
  have hr := h.1.2.1
  have hc := ct_le (P := vG r b0 e0 s pr) (r + n)
  unfold f_X7_isEnd
  rw [c8_many h]
  dsimp only [Option.bind_some]
  by_cases q : ct (vG r b0 e0 s pr) (r + n) = 0
  · rw [q]
    rfl
  · rw [if_neg (nI_ne0 (by omega) (by omega)), if_neg q]
/-- the size of the best so far -/
def eM (z : Nat → Int32) (best : Option Nat) : Int32 := match best with | none => 0 | some v => z v
theorem c8_enter {n r y : Nat} {b0 e0 : Nat → Nat} {s : Nat → Int32} {up par rk dp : Nat → Nat} {pr : Nat → Int32} {σ : gj_S} (h : cL n r b0 e0 s up par rk dp pr y σ) {b p : Nat} (hb : b ≤ 24) (hb1 : 1 ≤ b) (hs : s 40 = nI b) (hp : s 41 = nI p) (hp2 : p < r + n ∨ (p = 0 ∧ r + n = 0)) {a : Nat} {best : Option Nat} (hE : enS b (r + n) (vG r b0 e0 s pr) (rG r b0 e0 s pr) (r + n) 0 p none = (a, best)) : f_X7_findEntering y σ = some (eb best, gj_sI σ y (upd (σ.1 y) 3 (nI a))) := by
  have hn := h.1.1
  have hr := h.1.2.1
  have hV0 : enV (r + n) (vG r b0 e0 s pr) none := fun v hv => by cases hv
  have e2 : σ.1 (y + 1) 2 = nI b := h.2.1.2.2.1.trans hs
  have e3 : σ.1 (y + 1) 3 = nI p := h.2.1.2.2.2.1.trans hp
  have hz : ∀ v, v < r + n → vG r b0 e0 s pr v = true → 0 < (rG r b0 e0 s pr v).toInt := fun v hv hG => rG_pos h.1 h.2.2.1 h.2.2.2.2.1 hv hG
  have ez : (0 : Int32).toInt = 0 := by decide
  have : TP (gj_lp (fb_X7_findEntering_l27 y (nI (r + n)) σ) 5000 (nI p, -1, 0, 0, 0)) (fun x => x = (nI a, eb best)) := by
    refine tp_lp (I := fun x => ∃ f k a1 b1, x = (nI a1, eb b1, eM (rG r b0 e0 s pr) b1, nI k, nI (r + n - f)) ∧ f ≤ r + n ∧ k ≤ b ∧ (f = 0 ∨ a1 < r + n) ∧ enV (r + n) (vG r b0 e0 s pr) b1 ∧ enS b (r + n) (vG r b0 e0 s pr) (rG r b0 e0 s pr) f k a1 b1 = (a, best)) (fun x => r + n - x.2.2.2.2.toNatClampNeg) ?_ 5000 _ ⟨r + n, 0, p, none, by rw [Nat.sub_self]; rfl, Nat.le_refl _, by omega, by omega, hV0, hE⟩ (by dsimp only; omega)
    rintro x ⟨f, k, a1, b1, rfl, h1, h2, h3, h4, h5⟩
    unfold fb_X7_findEntering_l27
    dsimp only
    by_cases e : f = 0
    · subst e
      refine tp_t (nI_le (by omega) (by omega)) (tp_some ?_)
      have h6 : (a1, b1) = (a, best) := h5
      cases h6
      rfl
    · obtain ⟨f2, rfl⟩ : ∃ f2, f = f2 + 1 := ⟨f - 1, by omega⟩
      have ha1 : a1 < r + n := by omega
      refine tp_f (nI_ge (by omega) (by omega)) ?_
      rw [e2]
      -- one way more
      have body : (b1 = none ∨ k < b) → TP ((if nI b ≤ nI k then some (1 : Int32) else some (nI k + (1 : Int32)) : Option Int32).bind fun z12701 => ((f_X7_goodness y (nI a1) σ).bind fun x12702 => ((if x12702 ≤ eM (rG r b0 e0 s pr) b1 then some (eb b1, eM (rG r b0 e0 s pr) b1) else some (nI a1, x12702) : Option (Int32 × Int32)).bind fun z12703 => (if nI (r + n) ≤ (nI a1 + (1 : Int32)) then some (.inr ((0 : Int32), z12703.1, z12703.2, z12701, (nI (r + n - (f2 + 1)) + 1))) else some (.inr ((nI a1 + (1 : Int32)), z12703.1, z12703.2, z12701, (nI (r + n - (f2 + 1)) + 1))))))) (fun x => gj_K (fun x => x = (nI a, eb best)) (fun a' => (∃ f k a1 b1, a' = (nI a1, eb b1, eM (rG r b0 e0 s pr) b1, nI k, nI (r + n - f)) ∧ f ≤ r + n ∧ k ≤ b ∧ (f = 0 ∨ a1 < r + n) ∧ enV (r + n) (vG r b0 e0 s pr) b1 ∧ enS b (r + n) (vG r b0 e0 s pr) (rG r b0 e0 s pr) f k a1 b1 = (a, best)) ∧ r + n - a'.2.2.2.2.toNatClampNeg < r + n - (nI (r + n - (f2 + 1))).toNatClampNeg) x) := by
        intro hcon
        have hS : enS b (r + n) (vG r b0 e0 s pr) (rG r b0 e0 s pr) (f2 + 1) k a1 b1 = enS b (r + n) (vG r b0 e0 s pr) (rG r b0 e0 s pr) f2 (if k < b then k + 1 else 1) (enX (r + n) a1) (enN (vG r b0 e0 s pr) (rG r b0 e0 s pr) a1 b1) := by
          show (if b1 = none ∨ k < b then _ else _) = _
          rw [if_pos hcon]
        refine tp_beq (x := nI (if k < b then k + 1 else 1)) ?_ ?_
        · by_cases q : k < b
          · rw [if_neg (nI_ge q (by omega)), if_pos q, nI_1]
          · rw [if_pos (nI_le (by omega) (by omega)), if_neg q]
            rfl
        refine tp_beq (c8_goodness h ha1) ?_
        refine tp_beq (x := (eb (enN (vG r b0 e0 s pr) (rG r b0 e0 s pr) a1 b1), eM (rG r b0 e0 s pr) (enN (vG r b0 e0 s pr) (rG r b0 e0 s pr) a1 b1))) ?_ ?_
        · unfold enN
          by_cases q : vG r b0 e0 s pr a1 = true
          · rw [if_pos q, if_pos q]
            have hp1 := hz a1 ha1 q
            cases b1 with
            | none =>
              rw [if_neg (by rw [i32_le_iff]; show ¬ _ ≤ (0 : Int32).toInt; omega)]
              rfl
            | some v =>
              show (if rG r b0 e0 s pr a1 ≤ rG r b0 e0 s pr v then _ else _) = _
              dsimp only
              by_cases q2 : rG r b0 e0 s pr a1 ≤ rG r b0 e0 s pr v
              · rw [if_pos q2, if_pos q2]
              · rw [if_neg q2, if_neg q2]
                rfl
          · rw [if_neg q, if_neg q, if_pos]
            cases b1 with
            | none => show (0 : Int32) ≤ 0; decide
            | some v =>
              obtain ⟨v1, v2⟩ := h4 v rfl
              have := hz v v1 v2
              show (0 : Int32) ≤ rG r b0 e0 s pr v
              rw [i32_le_iff]
              omega
        · have hm : r + n - (nI (r + n - (f2 + 1)) + 1).toNatClampNeg < r + n - (nI (r + n - (f2 + 1))).toNatClampNeg := by
            rw [nI_1, nI_clamp (by omega), nI_clamp (by omega)]
            omega
          have el : nI (r + n - (f2 + 1)) + 1 = nI (r + n - f2) := by
            rw [nI_1]
            congr 1
            omega
          have hW := enV_N (z := rG r b0 e0 s pr) h4 ha1
          have hk2 : (if k < b then k + 1 else 1) ≤ b := by split <;> omega
          rw [nI_1 a1]
          by_cases q : a1 + 1 = r + n
          · refine tp_t (nI_le (by omega) (by omega)) (tp_some ⟨⟨f2, _, enX (r + n) a1, _, ?_, by omega, hk2, .inr (enX_lt ha1), hW, hS.symm.trans h5⟩, hm⟩)
            rw [el]
            unfold enX
            rw [if_pos q]
            rfl
          · refine tp_f (nI_ge (by omega) (by omega)) (tp_some ⟨⟨f2, _, enX (r + n) a1, _, ?_, by omega, hk2, .inr (enX_lt ha1), hW, hS.symm.trans h5⟩, hm⟩)
            rw [el]
            unfold enX
            rw [if_neg q]
      by_cases q : b1 = none
      · refine tp_t (by rw [q]; rfl) (body (.inl q))
      · have hne : ¬ eb b1 = -1 := fun e => q ((eb_m1 h4 (by omega)).mp e)
        refine tp_f hne ?_
        by_cases q2 : k < b
        · exact tp_f (nI_ge q2 (by omega)) (body (.inr q2))
        · refine tp_t (nI_le (by omega) (by omega)) (tp_some ?_)
          have hS : enS b (r + n) (vG r b0 e0 s pr) (rG r b0 e0 s pr) (f2 + 1) k a1 b1 = (a1, b1) := by
            show (if b1 = none ∨ k < b then _ else _) = _
            rw [if_neg (fun e => by rcases e with e | e; exact q e; exact q2 e)]
          have h6 : (a1, b1) = (a, best) := hS.symm.trans h5
          cases h6
          rfl
  obtain ⟨x, e, rfl⟩ := this
  unfold f_X7_findEntering
  rw [c8_ways h.2.1]
  dsimp only [Option.bind_some]
  rw [e3, e]
  rfl
