/-! ===== range: both sides ===== -/
theorem c8_mu {n r y ρ t w : Nat} {b0 e0 : Nat → Nat} {s : Nat → Int32} {up par rk dp : Nat → Nat} {pr : Nat → Int32} {σ : gj_S} (h : cL n r b0 e0 s up par rk dp pr y σ) (hρ : ρ < r) (hw : w < r + n) (ht : tpW n s up ρ t) : f_X7_gainMove y (nI w) (nI ρ) σ = some (muW r b0 e0 s par dp ρ t w) := by
  have hn := h.1.1
  have hr := h.1.2.1
  have hC := h.2.2.1.1.1
  obtain ⟨q1, q2, -, -, -, q6⟩ := h.2.1.2.2.2.2.2 ρ (by omega)
  obtain ⟨w1, w2, -, -, -, -⟩ := h.2.1.2.2.2.2.2 w hw
  have gρ : gj_in (nI ρ) 24 := gi (by omega) (by omega)
  have gw : gj_in (nI w) 24 := gi (by omega) (by omega)
  have hb := (h.1.2.2 ρ hρ).1
  have he := (h.1.2.2 ρ hρ).2.1
  have hbe := (h.1.2.2 ρ hρ).2.2
  have evb : vb r b0 s ρ = b0 ρ := if_pos hρ
  have eve : ve r e0 s ρ = e0 ρ := if_pos hρ
  have hpb := gb_pl (s := s) h.1 hw
  have hpe := ge_pl (s := s) h.1 hw
  unfold f_X7_gainMove
  rw [if_pos gρ]
  simp only [nI_clamp (show ρ < 2 ^ 31 by omega), q6]
  rcases ht with ⟨h1, h2⟩ | ⟨h1, h2, h3⟩
  · rw [if_neg h1]
    unfold muW
    rw [if_pos h2]
    by_cases q : w = ρ
    · rw [if_pos q, if_pos (by rw [q])]
    · rw [if_neg q, if_neg (fun e => q ((nI_eq (by omega) (by omega)).mp e))]
  · have hj := (hC.2.2.1 t h2).2.2.1
    rw [h3] at hj
    unfold tj at hj
    have eu : σ.1 (y + 10 + 1) (e0 ρ) = nI (up (e0 ρ)) := (c8_par h he).2
    have hul := (hC.2.2.1 (e0 ρ) he).1
    have s01 : ∀ (c : Prop) [Decidable c], (if (if c then (1 : Int32) else 0) = 0 then some (0 : Int32) else some 1) = some (if c then (1 : Int32) else 0) := fun c _ => by
      by_cases q : c
      · rw [if_pos q]
        rfl
      · rw [if_neg q]
        rfl
    rw [if_pos h1, if_pos gρ]
    simp only [q2, eve, nI_clamp (show e0 ρ < 2 ^ 31 by omega), eu]
    rw [if_pos (gi (show e0 ρ < 9 by omega) (by omega))]
    unfold muW
    rw [if_neg (show ¬ t = 9 by omega)]
    by_cases q : vb r b0 s ρ = t
    · have hnd : ¬ nI (up (e0 ρ)) = nI ρ := fun e => by
        have e1 := (nI_eq (by omega) (by omega)).mp e
        have := tc_inj hC he h2 (e1.trans h3.symm)
        omega
      rw [if_neg hnd, if_pos q]
      dsimp only [Option.bind_some]
      rw [if_pos rfl, if_pos gρ]
      dsimp only [Option.bind_some]
      rw [if_pos gw]
      simp only [nI_clamp (show w < 2 ^ 31 by omega), q1, q, w1, w2]
      rw [c8_hf h (.inl h2) hpb]
      dsimp only [Option.bind_some]
      rw [s01]
      dsimp only [Option.bind_some]
      rw [if_pos gw, c8_hf h (.inl h2) hpe]
      dsimp only [Option.bind_some]
      rw [s01]
      dsimp only [Option.bind_some]
      exact if_pos True.intro
    · have e0t : e0 ρ = t := by omega
      have hdn : nI (up (e0 ρ)) = nI ρ := by rw [e0t, h3]
      rw [if_pos hdn, if_neg q]
      dsimp only [Option.bind_some]
      rw [if_neg (show ¬ (1 : Int32) = 0 by decide), if_pos gρ]
      dsimp only [Option.bind_some]
      rw [if_pos gw]
      simp only [nI_clamp (show w < 2 ^ 31 by omega), e0t, w1, w2]
      rw [c8_hf h (.inl h2) hpb]
      dsimp only [Option.bind_some]
      rw [s01]
      dsimp only [Option.bind_some]
      rw [if_pos gw, c8_hf h (.inl h2) hpe]
      dsimp only [Option.bind_some]
      rw [s01]
      dsimp only [Option.bind_some]
      rw [if_neg (show ¬ (1 : Int32) = 0 by decide)]
theorem c8_lim {n r y ρ t w : Nat} {b0 e0 : Nat → Nat} {s : Nat → Int32} {up par rk dp : Nat → Nat} {pr : Nat → Int32} {σ : gj_S} (h : cL n r b0 e0 s up par rk dp pr y σ) (hρ : ρ < r) (hw : w < r + n) (ht : tpW n s up ρ t) (u : Bool) : f_X7_limits y (nI w) (nI ρ) (bI u) σ = some (bI (limB u (s (74 + w)) (muW r b0 e0 s par dp ρ t w))) := by
  have hn := h.1.1
  have hr := h.1.2.1
  obtain ⟨-, -, -, -, -, q6⟩ := h.2.1.2.2.2.2.2 w hw
  have gw : gj_in (nI w) 24 := gi (by omega) (by omega)
  unfold f_X7_limits limB
  rw [c8_mu h hρ hw ht]
  generalize muW r b0 e0 s par dp ρ t w = m
  rw [if_pos gw]
  simp only [nI_clamp (show w < 2 ^ 31 by omega), q6]
  by_cases q0 : s (74 + w) = 0
  · rw [if_pos q0, if_pos q0]
    rfl
  · rw [if_neg q0, if_neg q0]
    have e1 : (if bI u = 0 then ((some m).bind fun x3 => some (0 - x3)) else ((some m).bind fun x4 => some x4) : Option Int32) = some (if u = true then m else 0 - m) := by
      cases u with
      | true => rfl
      | false => rfl
    rw [e1]
    dsimp only [Option.bind_some]
    generalize (if u = true then m else 0 - m) = z
    rw [if_pos gw]
    by_cases q2 : s (74 + w) = 2
    · rw [if_pos q2, if_pos q2]
      by_cases q : z ≤ 0
      · have e : decide (¬ z ≤ 0) = false := decide_eq_false (fun e => e q)
        rw [if_pos q, e]
        rfl
      · rw [if_neg q, decide_eq_true q]
        rfl
    · rw [if_neg q2, if_neg q2]
      by_cases q : 0 ≤ z
      · have e : decide (¬ 0 ≤ z) = false := decide_eq_false (fun e => e q)
        rw [if_pos q, e]
        rfl
      · rw [if_neg q, decide_eq_true q]
        rfl
theorem c8_shift {n r y ρ t : Nat} {b0 e0 : Nat → Nat} {s : Nat → Int32} {up par rk dp : Nat → Nat} {pr : Nat → Int32} {σ : gj_S} (h : cL n r b0 e0 s up par rk dp pr y σ) (hρ : ρ < r) (ht : tpW n s up ρ t) (u : Bool) {mo : Nat} (hmo : mo ≤ 999) : ∃ m, f_X7_shiftAllowed y (nI ρ) (bI u) (nI mo) σ = some (nI m) ∧ ∀ j, j ≤ m ↔ (j ≤ mo ∧ ∀ w, w < r + n → limB u (s (74 + w)) (muW r b0 e0 s par dp ρ t w) = true → j ≤ (vg r b0 e0 s pr w).toInt.natAbs) := by
  have hn := h.1.1
  have hr := h.1.2.1
  have : TP (gj_lp (fb_X7_shiftAllowed_l6 y (nI ρ) (bI u) σ) 5000 (nI mo, 0)) (fun z => ∃ m, z = nI m ∧ ∀ j, j ≤ m ↔ (j ≤ mo ∧ ∀ w, w < r + n → limB u (s (74 + w)) (muW r b0 e0 s par dp ρ t w) = true → j ≤ (vg r b0 e0 s pr w).toInt.natAbs)) := by
    refine tp_lp (I := fun a => ∃ k m, k ≤ r + n ∧ a.2 = nI k ∧ a.1 = nI m ∧ m ≤ 999 ∧ ∀ j, j ≤ m ↔ (j ≤ mo ∧ ∀ w, w < k → limB u (s (74 + w)) (muW r b0 e0 s par dp ρ t w) = true → j ≤ (vg r b0 e0 s pr w).toInt.natAbs)) (fun a => r + n - a.2.toNatClampNeg) ?_ 5000 (nI mo, 0) ⟨0, mo, by omega, rfl, rfl, hmo, fun j => ⟨fun hj => ⟨hj, fun w hw => absurd hw (Nat.not_lt_zero _)⟩, fun hj => hj.1⟩⟩ (by dsimp only; omega)
    rintro ⟨c, i⟩ ⟨k, m, h1, h2, h3, h4, h5⟩
    dsimp only at h2 h3
    subst h2
    subst h3
    unfold fb_X7_shiftAllowed_l6
    dsimp only
    refine tp_beq (c8_ways h.2.1) ?_
    by_cases e : k = r + n
    · subst e
      exact tp_t (nI_le (by omega) (by omega)) (tp_some ⟨m, rfl, h5⟩)
    · have hk : k < r + n := by omega
      refine tp_f (nI_ge (by omega) (by omega)) (tp_beq (c8_lim h hρ hk ht u) ?_)
      have hm : r + n - (nI k + 1).toNatClampNeg < r + n - (nI k).toNatClampNeg := by
        rw [nI_1, nI_clamp (by omega), nI_clamp (by omega)]
        omega
      cases hl : limB u (s (74 + k)) (muW r b0 e0 s par dp ρ t k) with
      | false =>
        refine tp_t rfl (tp_some ⟨⟨k + 1, m, by omega, nI_1 _, rfl, h4, fun j => ?_⟩, hm⟩)
        rw [h5]
        refine ⟨fun hj => ⟨hj.1, fun w hw hw2 => ?_⟩, fun hj => ⟨hj.1, fun w hw => hj.2 w (by omega)⟩⟩
        by_cases e2 : w = k
        · rw [e2, hl] at hw2
          cases hw2
        · exact hj.2 w (by omega) hw2
      | true =>
        refine tp_f (by decide) (tp_beq (c8_gain h hk) ?_)
        obtain ⟨-, b1, b2⟩ := vg_bd h.1 h.2.2.1 h.2.2.2.2.1 hk
        have hz := zI_bd b1 b2
        have ez : zI (vg r b0 e0 s pr k) = nI (vg r b0 e0 s pr k).toInt.natAbs := Int32.toInt_inj.mp (by
          rw [hz, nI_toInt (by omega)]
          split <;> omega)
        refine tp_some ⟨⟨k + 1, min (vg r b0 e0 s pr k).toInt.natAbs m, by omega, nI_1 _, ?_, by omega, fun j => ?_⟩, hm⟩
        · show (if zI (vg r b0 e0 s pr k) < nI m then zI (vg r b0 e0 s pr k) else nI m) = _
          rw [ez]
          by_cases q : (vg r b0 e0 s pr k).toInt.natAbs < m
          · rw [if_pos (nI_lt q (by omega)), Nat.min_eq_left (by omega)]
          · rw [if_neg (nI_nlt (by omega) (by omega)), Nat.min_eq_right (by omega)]
        · have := h5 j
          constructor
          · intro hj
            have hj2 := this.mp (by omega)
            refine ⟨hj2.1, fun w hw hw2 => ?_⟩
            by_cases e2 : w = k
            · rw [e2]
              omega
            · exact hj2.2 w (by omega) hw2
          · intro hj
            have h6 := this.mpr ⟨hj.1, fun w hw => hj.2 w (by omega)⟩
            have h7 := hj.2 k (by omega) hl
            omega
  obtain ⟨z, e, m, rfl, hm⟩ := this
  refine ⟨m, ?_, hm⟩
  unfold f_X7_shiftAllowed
  rw [e]
  rfl
/-- the row with another cost -/
theorem vb_k {r ρ : Nat} {b0 : Nat → Nat} {s : Nat → Int32} {x : Int32} (hρ : ρ < 16) : vb r b0 (upd s (8 + ρ) x) = vb r b0 s := funext fun w => by
  unfold vb
  rw [show upd s (8 + ρ) x (42 + (w - r)) = s (42 + (w - r)) from if_neg (by omega)]
theorem ve_k {r ρ : Nat} {e0 : Nat → Nat} {s : Nat → Int32} {x : Int32} (hρ : ρ < 16) : ve r e0 (upd s (8 + ρ) x) = ve r e0 s := funext fun w => by
  unfold ve
  rw [show upd s (8 + ρ) x (42 + (w - r)) = s (42 + (w - r)) from if_neg (by omega)]
theorem vT_k {ρ : Nat} {s : Nat → Int32} {x : Int32} (hρ : ρ < 16) : vT (upd s (8 + ρ) x) = vT s := funext fun w => by
  unfold vT
  rw [show upd s (8 + ρ) x (74 + w) = s (74 + w) from if_neg (by omega)]
theorem rT_k {n r ρ : Nat} {b0 e0 : Nat → Nat} {s : Nat → Int32} {up par rk dp : Nat → Nat} {pr : Nat → Int32} (hρ : ρ < 16) (hT : rT n r b0 e0 s up par rk dp pr) (x : Int32) : ∃ pk, rT n r b0 e0 (upd s (8 + ρ) x) up par rk dp pk := by
  obtain ⟨q, q1, q2⟩ := tc_rec (0 : Int32) (fun d v => v + (if vb r b0 (upd s (8 + ρ) x) (up d) = d then 0 - vc r (upd s (8 + ρ) x) (up d) else vc r (upd s (8 + ρ) x) (up d))) hT.1
  refine ⟨q, ?_, hT.2.1, q1, q2⟩
  rw [vb_k hρ, ve_k hρ, vT_k hρ]
  exact hT.1
/-- the reference tries one cost after another -/
def smE (σ τ : gj_S) : Prop := (∀ k, k ≠ 198 → k ≠ 203 → k ≠ 204 → k ≠ 205 → τ.1 k = σ.1 k) ∧ τ.2 = σ.2
theorem r9_rl {n r ρ : Nat} {b0 e0 : Nat → Nat} {s : Nat → Int32} {up par rk dp : Nat → Nat} {prk : Nat → Nat → Int32} {σ : gj_S} {b3 : Int32} {b : Bool} (hS : rS n r b0 e0 σ) (hρ : ρ < r) (hT : ∀ k, rT n r b0 e0 (upd s (8 + ρ) (nI k)) up par rk dp (prk k)) (hs : σ.1 198 = s) (hex : ∃ k, k ≤ 999 ∧ ct (vG r b0 e0 (upd s (8 + ρ) (nI k)) (prk k)) (r + n) = 0) :
    TP (gj_lp (fb_X9_range_l41 (nI ρ) (bI b) b3) 5000 (-1, 0, σ)) (fun z => ∃ K, K ≤ 999 ∧ z.1 = nI K ∧ ct (vG r b0 e0 (upd s (8 + ρ) (nI K)) (prk K)) (r + n) = 0 ∧ (∀ k, k ≤ 999 → ct (vG r b0 e0 (upd s (8 + ρ) (nI k)) (prk k)) (r + n) = 0 → if b = true then k ≤ K else K ≤ k) ∧ smE σ z.2 ∧ ∃ v, z.2.1 198 = upd s (8 + ρ) v) := by
  have hn := hS.1
  have hr := hS.2.1
  have g8 : gj_in (nI (8 + ρ)) 180 := gi (by omega) (by omega)
  have e8 : (8 : Int32) + nI ρ = nI (8 + ρ) := by rw [show (8 : Int32) = nI 8 from rfl, nI_add]
  obtain ⟨nn, hnn⟩ : ∃ nn : Nat → Nat, ∀ j, nn j = if b = true then 999 - j else j := ⟨fun j => if b = true then 999 - j else j, fun _ => rfl⟩
  obtain ⟨E, hE⟩ : ∃ E : Nat → Prop, ∀ k, E k ↔ ct (vG r b0 e0 (upd s (8 + ρ) (nI k)) (prk k)) (r + n) = 0 := ⟨_, fun _ => Iff.rfl⟩
  have hsv : ∃ v, σ.1 198 = upd s (8 + ρ) v := ⟨s (8 + ρ), by
    rw [hs]
    funext q
    show _ = (if q = 8 + ρ then s (8 + ρ) else s q)
    by_cases e : q = 8 + ρ
    · rw [if_pos e, e]
    · rw [if_neg e]⟩
  have hbe : ∀ j : Nat, j ≤ 999 → ((if bI b = 0 then some (nI j) else some ((999 : Int32) - nI j) : Option Int32)) = some (nI (nn j)) := fun j hj => by
    rw [hnn]
    cases b with
    | true =>
      rw [if_neg (by decide), if_pos rfl, show (999 : Int32) = nI 999 from rfl, nI_sub hj]
    | false =>
      rw [if_pos (by decide), if_neg (by decide)]
  refine tp_mono (tp_lp (I := fun a => ∃ k, k ≤ 1000 ∧ a.2.1 = nI k ∧ smE σ a.2.2 ∧ (∃ v, a.2.2.1 198 = upd s (8 + ρ) v) ∧ ((a.1 = -1 ∧ ∀ j, j < k → ¬ E (nn j)) ∨ (∃ j, j + 1 = k ∧ a.1 = nI (nn j) ∧ E (nn j) ∧ ∀ i, i < j → ¬ E (nn i)))) (J := fun z => ∃ j, j ≤ 999 ∧ z.1 = nI (nn j) ∧ E (nn j) ∧ (∀ i, i < j → ¬ E (nn i)) ∧ smE σ z.2 ∧ ∃ v, z.2.1 198 = upd s (8 + ρ) v) (fun a => 1001 - a.2.1.toNatClampNeg) ?_ 5000 (-1, 0, σ) ⟨0, by omega, rfl, ⟨fun _ _ _ _ _ => rfl, rfl⟩, hsv, .inl ⟨rfl, fun j hj => absurd hj (Nat.not_lt_zero _)⟩⟩ (by dsimp only; omega)) (fun z hz => ?_)
  · rintro ⟨f, i, τ⟩ ⟨k, h1, h2, h3, h4, h5⟩
    dsimp only at h2 h3 h4 h5
    subst h2
    unfold fb_X9_range_l41
    dsimp only
    by_cases q : k = 1000
    · subst q
      refine tp_t (show (999 : Int32) < nI 1000 by decide) ?_
      rcases h5 with ⟨-, h6⟩ | ⟨j, h6, h7, h8, h9⟩
      · exfalso
        obtain ⟨k, hk, hk2⟩ := hex
        refine h6 (if b = true then 999 - k else k) ?_ ?_
        · split <;> omega
        · rw [hnn]
          have : (if b = true then 999 - (if b = true then 999 - k else k) else (if b = true then 999 - k else k)) = k := by
            cases b with
            | true =>
              rw [if_pos rfl, if_pos rfl]
              omega
            | false => rfl
          rw [this]
          exact (hE k).mpr hk2
      · exact tp_some ⟨j, by omega, h7, h8, h9, h3, h4⟩
    · refine tp_f (show ¬ (999 : Int32) < nI k by rw [show (999 : Int32) = nI 999 from rfl]; exact nI_nlt (by omega) (by omega)) ?_
      rcases h5 with ⟨h6, h7⟩ | ⟨j, h6, h7, h8, h9⟩
      · refine tp_t h6 (tp_beq (hbe k (by omega)) ?_)
        rw [e8]
        refine tp_t g8 ?_
        rw [nI_clamp (by omega)]
        obtain ⟨v, hv⟩ := h4
        have hup : upd (τ.1 198) (8 + ρ) (nI (nn k)) = upd s (8 + ρ) (nI (nn k)) := by
          rw [hv]
          funext q
          show (if q = 8 + ρ then _ else (if q = 8 + ρ then v else s q)) = (if q = 8 + ρ then _ else s q)
          by_cases e : q = 8 + ρ
          · rw [if_pos e, if_pos e]
          · rw [if_neg e, if_neg e, if_neg e]
        rw [hup]
        have hS2 : rS n r b0 e0 (gj_sI τ 198 (upd s (8 + ρ) (nI (nn k)))) := by
          have := hS
          unfold rS at this ⊢
          rw [sI_ne (show 190 ≠ 198 by decide), sI_ne (show 191 ≠ 198 by decide), sI_ne (show 194 ≠ 198 by decide), sI_ne (show 195 ≠ 198 by decide), h3.1 190 (by decide) (by decide) (by decide) (by decide), h3.1 191 (by decide) (by decide) (by decide) (by decide), h3.1 194 (by decide) (by decide) (by decide) (by decide), h3.1 195 (by decide) (by decide) (by decide) (by decide)]
          exact this
        refine tp_bind (r9_end hS2 (by rw [sI_eq]; exact hT (nn k))) (fun x hx => ?_)
        obtain ⟨x1, x2, -⟩ := hx
        rw [sI_eq] at x1
        have hm : 1001 - (nI k + 1).toNatClampNeg < 1001 - (nI k).toNatClampNeg := by
          rw [nI_1, nI_clamp (by omega), nI_clamp (by omega)]
          omega
        have fr : smE σ x.2 := ⟨fun c c1 c2 c3 c4 => by rw [x2.1 c c2 c3 c4, sI_ne c1, h3.1 c c1 c2 c3 c4], by rw [x2.2]; exact h3.2⟩
        have hx198 : ∃ v, x.2.1 198 = upd s (8 + ρ) v := ⟨nI (nn k), by rw [sm9_s x2, sI_eq]⟩
        by_cases qe : ct (vG r b0 e0 (upd s (8 + ρ) (nI (nn k))) (prk (nn k))) (r + n) = 0
        · rw [if_pos qe] at x1
          exact tp_f (by rw [x1]; decide) (tp_some ⟨⟨k + 1, by omega, nI_1 _, fr, hx198, .inr ⟨k, rfl, rfl, (hE _).mpr qe, h7⟩⟩, hm⟩)
        · rw [if_neg qe] at x1
          refine tp_t x1 (tp_some ⟨⟨k + 1, by omega, nI_1 _, fr, hx198, .inl ⟨h6, fun j hj => ?_⟩⟩, hm⟩)
          by_cases e : j = k
          · rw [e]
            exact fun x => qe ((hE _).mp x)
          · exact h7 j (by omega)
      · have hne : ¬ f = -1 := by
          rw [h7]
          refine nI_m1 ?_
          rw [hnn]
          split <;> omega
        exact tp_f hne (tp_some ⟨j, by omega, h7, h8, h9, h3, h4⟩)
  · obtain ⟨j, hj, z1, z2, z3, z4, z5⟩ := hz
    refine ⟨nn j, by rw [hnn]; split <;> omega, z1, (hE _).mp z2, fun k hk hk2 => ?_, z4, z5⟩
    have hk3 := (hE k).mpr hk2
    cases b with
    | true =>
      rw [if_pos rfl]
      rw [hnn, if_pos rfl]
      by_cases q : k ≤ 999 - j
      · exact q
      · exfalso
        refine z3 (999 - k) (by omega) ?_
        rw [hnn, if_pos rfl, show 999 - (999 - k) = k by omega]
        exact hk3
    | false =>
      rw [if_neg (by decide)]
      rw [hnn, if_neg (by decide)]
      by_cases q : j ≤ k
      · exact q
      · exfalso
        refine z3 k (by omega) ?_
        rw [hnn, if_neg (by decide)]
        exact hk3
theorem k_19 {K : Nat} {σ : gj_S} (hR : REL K σ) (c1 c2 c3 c4 c5 : Int32) : ∃ τ, gl_19 c1 c2 c3 c4 c5 σ = some τ ∧ REL (K + 100) τ := by
  obtain ⟨n, r, b0, e0, hS, ⟨hB1, up, par, rk, dp, pr, hT, ht⟩, -⟩ := id hR
  have hn := hS.1
  have hr := hS.2.1
  have hg := rS_g hS
  obtain ⟨P, hPK, hP, hf, hp⟩ := id hB1
  have hL := rel_cL hS hB1 hT ht
  have hC := hT.1.1
  have h0 : smX σ (gj_sI σ 188 (upd (σ.1 188) 0 0)) := smX_t
  have er := c8_hasRoute hg hp.1 c1
  have er9 := r9_isRoute (smX_S h0 hS) c1
  have hend := c8_end hL
  have fin : ∀ {t : gj_S}, smX σ t → REL (K + 100) t := fun h => REL_mono (REL_fr hR (frK_X h)) (by omega)
  refine rc_c (F := fun b => f_X8_range c1 b σ) (G := fun b => f_X9_range c1 b σ) (fun most => ?_)
  cases hin : inR c1 r with
  | false =>
    rw [hin] at er er9
    refine ⟨-1, ?_, ?_⟩
    · unfold f_X8_range
      rw [er]
      rfl
    · unfold f_X9_range
      exact tp_beq er9 (tp_t rfl (tp_some ⟨rfl, fin h0⟩))
  | true =>
    rw [hin] at er er9
    obtain ⟨ρ, hρ, rfl⟩ := inR_of hin
    have e8 : (8 : Int32) + nI ρ = nI (8 + ρ) := by rw [show (8 : Int32) = nI 8 from rfl, nI_add]
    have g8 : gj_in (nI (8 + ρ)) 180 := gi (by omega) (by omega)
    have h9 := r9_end (smX_S h0 hS) (by rw [smX_s h0]; exact hT)
    rw [smX_s h0] at h9
    by_cases qe : ct (vG r b0 e0 (σ.1 198) pr) (r + n) = 0
    · rw [if_pos qe] at hend h9
      have hc := hP.2.2.2.2.2.1
      obtain ⟨c, hc9, hcc⟩ := hc ρ hρ
      obtain ⟨t, htp⟩ : ∃ t, tpW n (σ.1 198) up ρ t := by
        by_cases q : σ.1 198 (74 + ρ) = 0
        · obtain ⟨d, hd, hd2⟩ := hC.2.2.2 ρ (by omega) q
          exact ⟨d, .inr ⟨q, hd, hd2⟩⟩
        · exact ⟨9, .inl ⟨q, rfl⟩⟩
      obtain ⟨prk, hTk⟩ : ∃ prk : Nat → Nat → Int32, ∀ k, rT n r b0 e0 (upd (σ.1 198) (8 + ρ) (nI k)) up par rk dp (prk k) := ⟨fun k => (rT_k (show ρ < 16 by omega) hT (nI k)).choose, fun k => (rT_k (show ρ < 16 by omega) hT (nI k)).choose_spec⟩
      have hsc : upd (σ.1 198) (8 + ρ) (nI c) = σ.1 198 := by
        funext q
        show (if q = 8 + ρ then nI c else σ.1 198 q) = _
        by_cases e : q = 8 + ρ
        · rw [if_pos e, e, hcc]
        · rw [if_neg e]
      have hEc := end_iff.mp qe
      have hst := hP.2.1
      -- the end, told of the gains as they are
      have hkey : ∀ (u : Bool) (k : Nat), k ≤ 999 → ((u = true ∧ c ≤ k) ∨ (u = false ∧ k ≤ c)) → (ct (vG r b0 e0 (upd (σ.1 198) (8 + ρ) (nI k)) (prk k)) (r + n) = 0 ↔ ∀ w, w < r + n → limB u (σ.1 198 (74 + w)) (muW r b0 e0 (σ.1 198) par dp ρ t w) = true → ((k : Int) - c).natAbs ≤ (vg r b0 e0 (σ.1 198) pr w).toInt.natAbs) := by
        intro u k hk hu
        have hc' : ∀ w, w < r → ∃ c, c ≤ 999 ∧ upd (σ.1 198) (8 + ρ) (nI k) (8 + w) = nI c := fun w hw => by
          by_cases e : w = ρ
          · exact ⟨k, hk, if_pos (by omega)⟩
          · obtain ⟨x, x1, x2⟩ := hc w hw
            exact ⟨x, x1, by rw [← x2]; exact if_neg (by omega)⟩
        have hD : (vc r (upd (σ.1 198) (8 + ρ) (nI k)) ρ).toInt = (vc r (σ.1 198) ρ).toInt + ((k : Int) - c) := by
          unfold vc
          rw [if_pos hρ, if_pos hρ, hcc, show upd (σ.1 198) (8 + ρ) (nI k) (8 + ρ) = nI k from if_pos rfl, nI_toInt (by omega), nI_toInt (by omega)]
          omega
        have hoth : ∀ w, w ≠ ρ → vc r (upd (σ.1 198) (8 + ρ) (nI k)) w = vc r (σ.1 198) w := fun w hw => by
          unfold vc
          rw [show upd (σ.1 198) (8 + ρ) (nI k) (8 + w) = σ.1 198 (8 + w) from if_neg (by omega)]
        have h74 : ∀ w, upd (σ.1 198) (8 + ρ) (nI k) (74 + w) = σ.1 198 (74 + w) := fun w => if_neg (by omega)
        have each : ∀ w, w < r + n → (((σ.1 198 (74 + w) = 1 → 0 ≤ (vg r b0 e0 (upd (σ.1 198) (8 + ρ) (nI k)) (prk k) w).toInt) ∧ (σ.1 198 (74 + w) = 2 → (vg r b0 e0 (upd (σ.1 198) (8 + ρ) (nI k)) (prk k) w).toInt ≤ 0)) ↔ (limB u (σ.1 198 (74 + w)) (muW r b0 e0 (σ.1 198) par dp ρ t w) = true → ((k : Int) - c).natAbs ≤ (vg r b0 e0 (σ.1 198) pr w).toInt.natAbs)) := fun w hw => by
          refine lim_w (hst w hw) (hEc w hw) (fun h74n => gn_mv hg hT (hTk k) hc hc' (fun w => by rw [vb_k (by omega)]) (fun w => by rw [ve_k (by omega)]) htp hD hoth hw h74n) ?_
          rcases hu with ⟨a, b⟩ | ⟨a, b⟩
          · exact .inl ⟨a, by omega⟩
          · exact .inr ⟨a, by omega⟩
        rw [end_iff]
        constructor
        · intro h w hw
          have := h w hw
          rw [h74] at this
          exact (each w hw).mp this
        · intro h w hw
          rw [h74]
          exact (each w hw).mpr (h w hw)
      have hE0 : ct (vG r b0 e0 (upd (σ.1 198) (8 + ρ) (nI c)) (prk c)) (r + n) = 0 := (hkey true c hc9 (.inl ⟨rfl, Nat.le_refl _⟩)).mpr (fun w _ _ => by omega)
      have e20 : σ.1 (16 + 1 + 4) ρ = nI c := by
        obtain ⟨-, -, m3, -⟩ := hp.1.2.2.2.2.2 ρ (by omega)
        rw [show σ.1 (16 + 1 + 4) ρ = vc r (σ.1 198) ρ from m3]
        unfold vc
        rw [if_pos hρ, hcc]
      have gρ : gj_in (nI ρ) 24 := gi (by omega) (by omega)
      have cρ : (nI ρ).toNatClampNeg = ρ := nI_clamp (by omega)
      -- the class
      have cls : ∃ a, f_X8_range (nI ρ) (bI most) σ = some (nI a) ∧ a ≤ 999 ∧ ∀ k, k ≤ 999 → ct (vG r b0 e0 (upd (σ.1 198) (8 + ρ) (nI k)) (prk k)) (r + n) = 0 → (∀ j, j ≤ 999 → ct (vG r b0 e0 (upd (σ.1 198) (8 + ρ) (nI j)) (prk j)) (r + n) = 0 → if most = true then j ≤ k else k ≤ j) → k = a := by
        cases most with
        | true =>
          obtain ⟨m, m1, m2⟩ := c8_shift hL hρ htp true (mo := 999 - c) (by omega)
          have hm9 := (m2 m).mp (Nat.le_refl _)
          refine ⟨c + m, ?_, by omega, fun k hk hk2 hall => ?_⟩
          · unfold f_X8_range
            rw [er]
            dsimp only [Option.bind_some]
            rw [if_neg (show ¬ bI true = 0 by decide), hend]
            dsimp only [Option.bind_some]
            rw [if_neg (show ¬ (1 : Int32) = 0 by decide), if_neg (show ¬ bI true = 0 by decide)]
            unfold f_X7_greatestCost
            rw [if_pos gρ, if_pos gρ, cρ, e20, show (999 : Int32) = nI 999 from rfl, nI_sub hc9, show (1 : Int32) = bI true from rfl, m1]
            dsimp only [Option.bind_some]
            rw [nI_add]
          · have a1 := hall c hc9 hE0
            rw [if_pos rfl] at a1
            have a2 := (hkey true k hk (.inl ⟨rfl, a1⟩)).mp hk2
            have a3 := (m2 (k - c)).mpr ⟨by omega, fun w hw hl => by have := a2 w hw hl; omega⟩
            have a4 := hall (c + m) (by omega) ((hkey true (c + m) (by omega) (.inl ⟨rfl, by omega⟩)).mpr (fun w hw hl => by have := hm9.2 w hw hl; omega))
            rw [if_pos rfl] at a4
            omega
        | false =>
          obtain ⟨m, m1, m2⟩ := c8_shift hL hρ htp false (mo := c) (by omega)
          have hm9 := (m2 m).mp (Nat.le_refl _)
          refine ⟨c - m, ?_, by omega, fun k hk hk2 hall => ?_⟩
          · unfold f_X8_range
            rw [er]
            dsimp only [Option.bind_some]
            rw [if_neg (show ¬ bI true = 0 by decide), hend]
            dsimp only [Option.bind_some]
            rw [if_neg (show ¬ (1 : Int32) = 0 by decide), if_pos (show bI false = 0 by decide)]
            unfold f_X7_leastCost
            rw [if_pos gρ, if_pos gρ, cρ, e20, show (0 : Int32) = bI false from rfl, m1]
            dsimp only [Option.bind_some]
            rw [nI_sub hm9.1]
          · have a1 := hall c hc9 hE0
            rw [if_neg (by decide)] at a1
            have a2 := (hkey false k hk (.inr ⟨rfl, a1⟩)).mp hk2
            have a3 := (m2 (c - k)).mpr ⟨by omega, fun w hw hl => by have := a2 w hw hl; omega⟩
            have a4 := hall (c - m) (by omega) ((hkey false (c - m) (by omega) (.inr ⟨rfl, by omega⟩)).mpr (fun w hw hl => by have := hm9.2 w hw hl; omega))
            rw [if_neg (by decide)] at a4
            omega
      obtain ⟨a, ea, ha, huniq⟩ := cls
      refine ⟨nI a, ea, ?_⟩
      unfold f_X9_range
      refine tp_beq er9 (tp_f (by decide) (tp_bind h9 (fun x2 hx2 => ?_)))
      obtain ⟨x1, s2, -⟩ := hx2
      have hX : smX σ x2.2 := smX_tr h0 (smX_9 s2)
      refine tp_f (by rw [x1]; decide) ?_
      rw [e8]
      refine tp_t g8 ?_
      refine tp_bind (r9_rl (b := most) (smX_S hX hS) hρ hTk (smX_s hX) ⟨c, hc9, hE0⟩) (fun z hz => ?_)
      obtain ⟨K0, k1, k2, k3, k4, k5, v, k6⟩ := hz
      refine tp_t g8 (tp_some ⟨?_, fin ⟨fun k b1 b2 => ?_, fun j b1 b2 b3 b4 => ?_, ?_⟩⟩)
      · dsimp only
        rw [k2, huniq K0 k1 k3 k4]
      · by_cases e : k = 198
        · subst e
          dsimp only
          rw [sI_eq, nI_clamp (by omega), k6, smX_s hX]
          funext q
          show (if q = 8 + ρ then _ else (if q = 8 + ρ then v else σ.1 198 q)) = _
          by_cases e : q = 8 + ρ
          · rw [if_pos e, e]
          · rw [if_neg e, if_neg e]
        · dsimp only
          rw [sI_ne e, k5.1 k e (by omega) (by omega) (by omega)]
          exact hX.1 k b1 b2
      · dsimp only
        rw [sI_ne (show 188 ≠ 198 by decide), k5.1 188 (by decide) (by decide) (by decide) (by decide)]
        exact hX.2.1 j b1 b2 b3 b4
      · show z.2.2 = σ.2
        rw [k5.2]
        exact hX.2.2
    · rw [if_neg qe] at hend h9
      refine ⟨-2, ?_, ?_⟩
      · unfold f_X8_range
        rw [er]
        dsimp only [Option.bind_some]
        rw [if_neg (show ¬ bI true = 0 by decide), hend]
        rfl
      · unfold f_X9_range
        refine tp_beq er9 (tp_f (by decide) (tp_bind h9 (fun x2 hx2 => ?_)))
        obtain ⟨x1, s2, -⟩ := hx2
        exact tp_t x1 (tp_some ⟨rfl, fin (smX_tr h0 (smX_9 s2))⟩)
