/-! ===== the class: one pivot ===== -/
theorem nI_xor (a b : Nat) : nI a ^^^ nI b = nI (a ^^^ b) := by
  unfold nI
  apply Int32.toBitVec_inj.mp
  simp
theorem fm_16 {P : Nat} (hP : P < 2 ^ 31) : f_J9_floorMod_7cf53 (nI P) 16 = some (nI (P % 16)) := by
  unfold f_J9_floorMod_7cf53
  rw [if_pos (by decide), show (16 : Int32) = nI 16 from rfl, nI_xor, if_pos (nI_pos' (Nat.xor_lt_two_pow hP (by omega))), pk_rem hP (by omega) (by omega)]
/-- flows along the class's ring -/
theorem c8_move {y : Nat} {σ : gj_S} {ld : Int32} {M : Nat} {W : Nat → Nat} {L : Nat → Bool} (hM : M ≤ 17) (h0 : σ.1 (y + 16) 0 = nI M) (h2 : σ.1 (y + 16) 2 = ld) (hR : ∀ k, k < M → W k < 24 ∧ σ.1 (y + 16 + 1) k = nI (W k) ∧ σ.1 (y + 16 + 2) k = bI (L k)) (hI : ∀ k l, k < l → l < M → W k ≠ W l) :
    TP (f_X7_moveFlows y σ) (fun z => smC (y + 7) (y + 7) σ z ∧ (∀ k, k < M → z.1 (y + 1 + 6) (W k) = σ.1 (y + 1 + 6) (W k) + (if L k = true then ld else 0 - ld)) ∧ ∀ v, (∀ k, k < M → v ≠ W k) → z.1 (y + 1 + 6) v = σ.1 (y + 1 + 6) v) := by
  unfold f_X7_moveFlows
  refine tp_bind (P := fun z => smC (y + 7) (y + 7) σ z ∧ (∀ k, k < M → z.1 (y + 1 + 6) (W k) = σ.1 (y + 1 + 6) (W k) + (if L k = true then ld else 0 - ld)) ∧ ∀ v, (∀ k, k < M → v ≠ W k) → z.1 (y + 1 + 6) v = σ.1 (y + 1 + 6) v) ?_ (fun z hz => tp_some hz)
  refine tp_lp (I := fun a => ∃ t, t ≤ M ∧ a.1 = nI t ∧ smC (y + 7) (y + 7) σ a.2 ∧ (∀ k, k < t → a.2.1 (y + 1 + 6) (W k) = σ.1 (y + 1 + 6) (W k) + (if L k = true then ld else 0 - ld)) ∧ ∀ v, (∀ k, k < t → v ≠ W k) → a.2.1 (y + 1 + 6) v = σ.1 (y + 1 + 6) v) (fun a => M - a.1.toNatClampNeg) ?_ 5000 (0, σ) ⟨0, by omega, rfl, smC_rf, fun k hk => absurd hk (Nat.not_lt_zero _), fun _ _ => rfl⟩ (by dsimp only; omega)
  rintro ⟨x, τ⟩ ⟨t, h1, h2', h3, h4, h5⟩
  dsimp only at h2' h3 h4 h5
  subst h2'
  have e0 : τ.1 (y + 16) 0 = nI M := by rw [h3.1 (y + 16) (by omega)]; exact h0
  have e2 : τ.1 (y + 16) 2 = ld := by rw [h3.1 (y + 16) (by omega)]; exact h2
  have e17 : τ.1 (y + 16 + 1) = σ.1 (y + 16 + 1) := h3.1 _ (by omega)
  have e18 : τ.1 (y + 16 + 2) = σ.1 (y + 16 + 2) := h3.1 _ (by omega)
  unfold fb_X7_moveFlows_l2
  dsimp only
  by_cases e : t = M
  · subst e
    exact tp_t (by rw [e0]; exact nI_le (by omega) (by omega)) (tp_some ⟨h3, h4, h5⟩)
  · obtain ⟨w1, w2, w3⟩ := hR t (by omega)
    have hg : gj_in (nI t) 17 := gi (by omega) (by omega)
    have hg2 : gj_in (nI (W t)) 24 := gi (by omega) (by omega)
    refine tp_f (by rw [e0]; exact nI_ge (by omega) (by omega)) (tp_t hg ?_)
    have ew : τ.1 (y + 16 + 1) (nI t).toNatClampNeg = nI (W t) := by rw [nI_clamp (by omega), e17, w2]
    simp only [ew, nI_clamp (show W t < 2 ^ 31 by omega), e2]
    refine tp_t hg2 (tp_t hg ?_)
    have key : ∀ v : Int32, v = (if L t = true then ld else 0 - ld) → (∀ k, k < t + 1 → upd (τ.1 (y + 1 + 6)) (W t) (τ.1 (y + 1 + 6) (W t) + v) (W k) = σ.1 (y + 1 + 6) (W k) + (if L k = true then ld else 0 - ld)) ∧ ∀ u, (∀ k, k < t + 1 → u ≠ W k) → upd (τ.1 (y + 1 + 6)) (W t) (τ.1 (y + 1 + 6) (W t) + v) u = σ.1 (y + 1 + 6) u := by
      intro v hv
      have ez : τ.1 (y + 1 + 6) (W t) = σ.1 (y + 1 + 6) (W t) := h5 _ (fun k hk q => hI k t hk (by omega) q.symm)
      refine ⟨fun k hk => ?_, fun q hq => ?_⟩
      · show (if W k = W t then _ else _) = _
        by_cases q : k = t
        · subst q
          rw [if_pos rfl, hv, ez]
        · rw [if_neg (fun e => hI k t (by omega) (by omega) e)]
          exact h4 k (by omega)
      · show (if q = W t then _ else _) = _
        rw [if_neg (hq t (by omega))]
        exact h5 q (fun k hk => hq k (by omega))
    have e7 : τ.1 (y + 16 + 2) (nI t).toNatClampNeg = bI (L t) := by rw [nI_clamp (by omega), e18, w3]
    have hm : M - (nI t + 1).toNatClampNeg < M - (nI t).toNatClampNeg := by
      rw [nI_1, nI_clamp (by omega), nI_clamp (by omega)]
      omega
    cases hL : L t with
    | false =>
      obtain ⟨k1, k2⟩ := key (0 - ld) (by rw [hL]; rfl)
      refine tp_t (by rw [e7, hL]; rfl) (tp_t hg2 (tp_beq rfl (tp_some ⟨⟨t + 1, by omega, nI_1 _, smC_I (by omega) (by omega) h3, fun k hk => ?_, fun v hv => ?_⟩, hm⟩)))
      · dsimp only
        rw [sI_eq]
        exact k1 k hk
      · dsimp only
        rw [sI_eq]
        exact k2 v hv
    | true =>
      obtain ⟨k1, k2⟩ := key ld (by rw [hL]; rfl)
      refine tp_f (by rw [e7, hL]; decide) (tp_t hg2 (tp_beq rfl (tp_some ⟨⟨t + 1, by omega, nI_1 _, smC_I (by omega) (by omega) h3, fun k hk => ?_, fun v hv => ?_⟩, hm⟩)))
      · dsimp only
        rw [sI_eq]
        exact k1 k hk
      · dsimp only
        rw [sI_eq]
        exact k2 v hv
theorem c8_leav {q lv out : Nat} {σ : gj_S} (hl : lv < 17) (h5 : σ.1 q 5 = nI lv) (h1 : σ.1 (q + 1) lv = nI out) : f_X3_leavingWay q σ = some (nI out) := by
  unfold f_X3_leavingWay
  rw [h5, if_pos (gi (by omega) (by omega)), nI_clamp (by omega), h1]
theorem c8_exch {y lv out w : Nat} {al : Bool} {σ : gj_S} (hl : lv < 17) (hw : w < 24) (ho : out < 24) (h5 : σ.1 (y + 16) 5 = nI lv) (h1 : σ.1 (y + 16 + 1) lv = nI out) (h2 : σ.1 (y + 16 + 2) lv = bI al) :
    TP (f_X7_exchange y (nI w) σ) (fun z => smC (y + 8) (y + 8) σ z ∧ ∀ v, z.1 (y + 1 + 7) v = if v = out then (if al = true then 2 else 1) else if v = w then 0 else σ.1 (y + 1 + 7) v) := by
  unfold f_X7_exchange
  refine tp_beq (c8_leav hl h5 h1) (tp_t (gi hw (by omega)) ?_)
  simp only [nI_clamp (show w < 2 ^ 31 by omega), nI_clamp (show out < 2 ^ 31 by omega)]
  refine tp_beq (x := bI al) ?_ ?_
  · unfold f_X3_leavesAlong
    rw [sI_ne (show y + 16 ≠ y + 1 + 7 by omega), sI_ne (show y + 16 + 2 ≠ y + 1 + 7 by omega), h5, if_pos (gi hl (by omega)), nI_clamp (by omega), h2]
    cases al <;> decide
  · have fin : ∀ x : Int32, x = (if al = true then 2 else 1) → smC (y + 8) (y + 8) σ (gj_sI (gj_sI σ (y + 1 + 7) (upd (σ.1 (y + 1 + 7)) w 0)) (y + 1 + 7) (upd ((gj_sI σ (y + 1 + 7) (upd (σ.1 (y + 1 + 7)) w 0)).1 (y + 1 + 7)) out x)) ∧ ∀ v, (gj_sI (gj_sI σ (y + 1 + 7) (upd (σ.1 (y + 1 + 7)) w 0)) (y + 1 + 7) (upd ((gj_sI σ (y + 1 + 7) (upd (σ.1 (y + 1 + 7)) w 0)).1 (y + 1 + 7)) out x)).1 (y + 1 + 7) v = if v = out then (if al = true then 2 else 1) else if v = w then 0 else σ.1 (y + 1 + 7) v := by
      intro x hx
      refine ⟨smC_I (by omega) (by omega) (smC_I (by omega) (by omega) smC_rf), fun v => ?_⟩
      rw [sI_eq, sI_eq, ← hx]
      rfl
    cases al with
    | false => exact tp_t (by decide) (tp_t (gi ho (by omega)) (tp_beq rfl (tp_some (fin 1 rfl))))
    | true => exact tp_f (by decide) (tp_t (gi ho (by omega)) (tp_beq rfl (tp_some (fin 2 rfl))))
theorem c8_moved {n t : Nat} {σ : gj_S} (hn : n ≤ 8) : f_X5_countMoved t (nI n) σ = some (nI (ct (fun d => decide (σ.1 (t + 4) d ≠ σ.1 (t + 5) d)) n)) := by
  have : TP (gj_lp (fb_X5_countMoved_l4 t (nI n) σ) 5000 (0, 0)) (fun z => z = nI (ct (fun d => decide (σ.1 (t + 4) d ≠ σ.1 (t + 5) d)) n)) := by
    refine tp_lp (I := fun a => ∃ k, k ≤ n ∧ a.2 = nI k ∧ a.1 = nI (ct (fun d => decide (σ.1 (t + 4) d ≠ σ.1 (t + 5) d)) k)) (fun a => n - a.2.toNatClampNeg) ?_ 5000 (0, 0) ⟨0, by omega, rfl, rfl⟩ (by dsimp only; omega)
    rintro ⟨c, i⟩ ⟨k, h1, h2, h3⟩
    dsimp only at h2 h3
    subst h2
    subst h3
    unfold fb_X5_countMoved_l4
    dsimp only
    by_cases e : k = n
    · subst e
      exact tp_t (nI_le (by omega) (by omega)) (tp_some rfl)
    · have hg : gj_in (nI k) 9 := gi (by omega) (by omega)
      refine tp_f (nI_ge (by omega) (by omega)) (tp_t hg (tp_t hg ?_))
      rw [nI_clamp (show k < 2 ^ 31 by omega)]
      have hm : n - (nI k + 1).toNatClampNeg < n - k := by
        rw [nI_1, nI_clamp (by omega)]
        omega
      refine tp_if (fun q => tp_some ⟨⟨k + 1, by omega, nI_1 _, ?_⟩, hm⟩) (fun q => tp_some ⟨⟨k + 1, by omega, nI_1 _, ?_⟩, hm⟩)
      · dsimp only [ct]
        rw [if_neg (by simp [q])]
        simp
      · dsimp only [ct]
        rw [if_pos (by simp [q]), nI_1]
  obtain ⟨x, e, rfl⟩ := this
  unfold f_X5_countMoved
  rw [e]
  rfl
/-- a row of the log -/
def lv5 (a b c d e : Int32) (p : Nat) : Int32 := if p = 0 then a else if p = 1 then b else if p = 2 then c else if p = 3 then d else e
theorem c8_log {b q P lv out : Nat} {w mo : Int32} {σ : gj_S} (hbq : b + 8 < q) (hP : P < 2 ^ 30) (h4 : σ.1 b 4 = nI P) (hl : lv < 17) (h5 : σ.1 q 5 = nI lv) (h1 : σ.1 (q + 1) lv = nI out) :
    TP (f_X1_writeLog b w q mo σ) (fun z => (∀ k, k ≠ b → k ≠ b + 8 → z.1 k = σ.1 k) ∧ z.2 = σ.2 ∧ (∀ j, j ≠ 4 → z.1 b j = σ.1 b j) ∧ z.1 b 4 = nI (P + 1) ∧ (∀ p, p < 5 → z.1 (b + 8) (5 * (P % 16) + p) = lv5 w (nI out) (σ.1 q 2) (σ.1 q 0) mo p) ∧ ∀ k, (∀ p, p < 5 → k ≠ 5 * (P % 16) + p) → z.1 (b + 8) k = σ.1 (b + 8) k) := by
  have hr : P % 16 < 16 := Nat.mod_lt _ (by omega)
  unfold f_X1_writeLog
  rw [h4, fm_16 (by omega)]
  refine tp_beq rfl ?_
  have e5 : nI (P % 16) * 5 = nI (5 * (P % 16)) := by rw [show (5 : Int32) = nI 5 from rfl, nI_mul, Nat.mul_comm]
  generalize P % 16 = R at *
  simp only [e5, show (1 : Int32) = nI 1 from rfl, show (2 : Int32) = nI 2 from rfl, show (3 : Int32) = nI 3 from rfl, show (4 : Int32) = nI 4 from rfl, nI_add, nI_clamp (show 5 * R < 2 ^ 31 by omega), nI_clamp (show 5 * R + 1 < 2 ^ 31 by omega), nI_clamp (show 5 * R + 2 < 2 ^ 31 by omega), nI_clamp (show 5 * R + 3 < 2 ^ 31 by omega), nI_clamp (show 5 * R + 4 < 2 ^ 31 by omega)]
  refine tp_t (gi (by omega) (by omega)) (tp_beq (c8_leav (lv := lv) (out := out) hl (by rw [sI_ne (by omega)]; exact h5) (by rw [sI_ne (by omega)]; exact h1)) (tp_t (gi (by omega) (by omega)) (tp_beq rfl (tp_t (gi (by omega) (by omega)) (tp_t (gi (by omega) (by omega)) (tp_beq rfl (tp_t (gi (by omega) (by omega)) (tp_beq rfl ?_))))))))
  have eq2 : (gj_sI (gj_sI σ (b + 8) (upd (σ.1 (b + 8)) (5 * R) w)) (b + 8) (upd ((gj_sI σ (b + 8) (upd (σ.1 (b + 8)) (5 * R) w)).1 (b + 8)) (5 * R + 1) (nI out))).1 q = σ.1 q := by rw [sI_ne (by omega), sI_ne (by omega)]
  rw [eq2]
  have eq0 : ∀ f, (gj_sI (gj_sI (gj_sI σ (b + 8) (upd (σ.1 (b + 8)) (5 * R) w)) (b + 8) (upd ((gj_sI σ (b + 8) (upd (σ.1 (b + 8)) (5 * R) w)).1 (b + 8)) (5 * R + 1) (nI out))) (b + 8) f).1 q = σ.1 q := fun f => by rw [sI_ne (by omega), sI_ne (by omega), sI_ne (by omega)]
  rw [eq0]
  have b8 : b ≠ b + 8 := by omega
  have b9 : b + 8 ≠ b := by omega
  refine tp_some ⟨fun k k1 k2 => ?_, rfl, fun j hj => ?_, ?_, fun p hp => ?_, fun k hk => ?_⟩
  · rw [sI_ne k1, sI_ne k2, sI_ne k2, sI_ne k2, sI_ne k2, sI_ne k2]
  · rw [sI_eq, sI_ne b8, sI_ne b8, sI_ne b8, sI_ne b8, sI_ne b8]
    show (if j = 4 then _ else σ.1 b j) = _
    rw [if_neg hj]
  · rw [sI_eq, sI_ne b8, sI_ne b8, sI_ne b8, sI_ne b8, sI_ne b8]
    show σ.1 b 4 + nI 1 = _
    rw [h4, nI_add]
  · rw [sI_ne b9, sI_eq, sI_eq, sI_eq, sI_eq, sI_eq]
    unfold lv5
    show (if 5 * R + p = 5 * R + 4 then mo else if 5 * R + p = 5 * R + 3 then σ.1 q 0 else if 5 * R + p = 5 * R + 2 then σ.1 q 2 else if 5 * R + p = 5 * R + 1 then nI out else if 5 * R + p = 5 * R then w else σ.1 (b + 8) (5 * R + p)) = _
    rcases (show p = 0 ∨ p = 1 ∨ p = 2 ∨ p = 3 ∨ p = 4 by omega) with rfl | rfl | rfl | rfl | rfl <;> simp
  · rw [sI_ne b9, sI_eq, sI_eq, sI_eq, sI_eq, sI_eq]
    show (if k = 5 * R + 4 then mo else if k = 5 * R + 3 then σ.1 q 0 else if k = 5 * R + 2 then σ.1 q 2 else if k = 5 * R + 1 then nI out else if k = 5 * R then w else σ.1 (b + 8) k) = _
    have := hk 0 (by omega)
    rw [if_neg (hk 4 (by omega)), if_neg (hk 3 (by omega)), if_neg (hk 2 (by omega)), if_neg (hk 1 (by omega)), if_neg (by omega)]
