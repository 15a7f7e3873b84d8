/-! ===== a trial comes to its end ===== -/
theorem sZ_nn {f : Nat → Int} : ∀ m, (∀ i, i < m → 0 ≤ f i) → 0 ≤ sZ f m
  | 0, _ => Int.le_refl _
  | m + 1, h => by
    unfold sZ
    have h1 := sZ_nn m (fun i hi => h i (by omega))
    have h2 := h m (by omega)
    omega
theorem sZ_ge1 {f : Nat → Int} {k : Nat} : ∀ m, (∀ i, i < m → 0 ≤ f i) → k < m → f k ≤ sZ f m
  | 0, _, hk => absurd hk (Nat.not_lt_zero _)
  | m + 1, h, hk => by
    unfold sZ
    by_cases q : k = m
    · subst q
      have := sZ_nn k (fun i hi => h i (by omega))
      omega
    · have h1 := sZ_ge1 m (fun i hi => h i (by omega)) (show k < m by omega)
      have h2 := h m (by omega)
      omega
def tI (n r : Nat) (b0 e0 : Nat → Nat) (s : Nat → Int32) (φ : Int) : Prop := rP n r b0 e0 s ∧ fP n r 7992 s ∧ zR n r s ≤ 79920000 ∧ ∃ up par rk dp pr, rT n r b0 e0 s up par rk dp pr ∧ sfP n r (vb r b0 s) up s ∧ psi n r b0 e0 s pr = φ
theorem zR_nn {n r : Nat} {b0 e0 : Nat → Nat} {s : Nat → Int32} (hc : ∀ w, w < r → ∃ c, c ≤ 999 ∧ s (8 + w) = nI c) (v : Nat) : 0 ≤ (vc r s v).toInt * (fl s v : Int) := Int.mul_nonneg (vc_bd (n := n) (b0 := b0) (e0 := e0) hc v).1 (Int.natCast_nonneg _)
/-- what tenders ship at most -/
theorem fP_Z {n r F : Nat} {b0 e0 : Nat → Nat} {s : Nat → Int32} (hP : rP n r b0 e0 s) (hf : fP n r F s) (hF : F < 2 ^ 30) (hZ : zR n r s ≤ 79920000) : fP n r 7992 s := by
  refine ⟨hf.1, fun d hd => ?_⟩
  obtain ⟨f, f1, f2, f3⟩ := hf.2 d hd
  refine ⟨f, f1, ?_, f3⟩
  have h1 : (vc r s (r + d)).toInt * (fl s (r + d) : Int) ≤ zR n r s := sZ_ge1 (f := fun v => (vc r s v).toInt * (fl s v : Int)) (k := r + d) (r + n) (fun v _ => zR_nn (n := n) (b0 := b0) (e0 := e0) hP.2.2.2.2.2.1 v) (by omega)
  have e1 : fl s (r + d) = f := by unfold fl; rw [f1, nI_clamp (by omega)]
  have e2 : (vc r s (r + d)).toInt = 10000 := by unfold vc; rw [if_neg (by omega)]; decide
  rw [e1, e2] at h1
  omega
theorem psi_bd {n r : Nat} {b0 e0 : Nat → Nat} {s : Nat → Int32} {φ : Int} (hg : gS n r b0 e0) (h : tI n r b0 e0 s φ) : -10880000 ≤ φ ∧ φ ≤ 12238640016 := by
  obtain ⟨hP, hf, hZ, up, par, rk, dp, pr, hT, hsf, rfl⟩ := h
  have hn := hg.1
  have hr := hg.2.1
  have hc := hP.2.2.2.2.2.1
  have hZ0 : 0 ≤ zR n r s := sZ_nn (r + n) (fun v _ => zR_nn (n := n) (b0 := b0) (e0 := e0) hc v)
  have hp : ∀ d, d < n → -80000 ≤ (pr d).toInt ∧ (pr d).toInt ≤ 80000 := fun d hd => by
    have db := Nat.le_trans (td_le hT.1 hT.2.1 (.inl hd)) hn
    have := pr_bd (b0 := b0) (e0 := e0) hn hT hc 8 d db (Nat.le_refl _) (.inl hd)
    omega
  have h1 : sZ (fun d => (pr d).toInt) n ≤ sZ (fun _ => 80000) n := sZ_le n (fun d hd => (hp d hd).2)
  have h2 : sZ (fun _ => -80000) n ≤ sZ (fun d => (pr d).toInt) n := sZ_le n (fun d hd => (hp d hd).1)
  rw [sZ_cst] at h1 h2
  have h3 : ps2 r b0 e0 s pr ≤ r := ct_le r
  unfold psi ps1
  omega
theorem bg_tI {n r : Nat} {b0 e0 : Nat → Nat} {s s' : Nat → Int32} (hg : gS n r b0 e0) (h : bgR n r s s') (hb : ∃ b, 1 ≤ b ∧ b ≤ 24 ∧ s 40 = nI b) (hc : ∀ w, w < r → ∃ c, c ≤ 999 ∧ s (8 + w) = nI c) (hh : ∀ w, w < r → ∃ c, c ≤ 999 ∧ s (24 + w) = nI c) (hd : ∀ d, d < n → -999 ≤ (s d).toInt ∧ (s d).toInt ≤ 999) : ∃ φ, tI n r b0 e0 s' φ := by
  have hn := hg.1
  have hr := hg.2.1
  obtain ⟨hP, hf⟩ := bg_P hg h hb hc hh hd
  have hc' := bg_tc hg h
  obtain ⟨dp, htd⟩ := td_ex hc'
  obtain ⟨pr, hpr⟩ := tpr_ex (r := r) (b0 := b0) (s := s') hc'
  have e0' : (0 : Int32).toInt = 0 := by decide
  have flt : ∀ d, d < n → fl s' (r + d) ≤ 999 ∧ (s d < 0 → 1 ≤ fl s' (r + d)) := fun d hd' => by
    have h4 := (bg_t (b0 := b0) (e0 := e0) hn hr h hd').2.2.2.1
    have h5 := hd d hd'
    unfold fl
    rw [h4]
    by_cases q : s d < 0
    · rw [if_pos q]
      rw [i32_lt_iff, e0'] at q
      have e1 : (0 - s d).toInt = - (s d).toInt := by
        rw [i32_sub (by rw [e0']; omega) (by rw [e0']; omega), e0']
        omega
      have e2 : (0 - s d).toNatClampNeg = (- (s d).toInt).toNat := by
        show (0 - s d).toInt.toNat = _
        rw [e1]
      rw [e2]
      exact ⟨by omega, fun _ => by omega⟩
    · rw [if_neg q]
      have e2 : (s d).toNatClampNeg = (s d).toInt.toNat := rfl
      rw [e2]
      exact ⟨by omega, fun x => absurd x q⟩
  refine ⟨_, hP, fP_mono hf (by omega), ?_, _, _, _, dp, pr, ⟨hc', htd, hpr⟩, fun d hd' => ⟨fun _ x => ?_, fun x => ?_⟩, rfl⟩
  · have h1 : zR n r s' ≤ sZ (fun v => if v < r then 0 else 9990000) (r + n) := by
      refine sZ_le _ (fun v hv => ?_)
      dsimp only
      by_cases q : v < r
      · rw [if_pos q]
        have h5 := (bg_r (b0 := b0) (e0 := e0) hr h q).2.2.2.2.1
        have : fl s' v = 0 := by
          unfold fl
          rw [h5]
          decide
        rw [this]
        omega
      · rw [if_neg q]
        obtain ⟨d, rfl⟩ : ∃ d, v = r + d := ⟨v - r, by omega⟩
        have e2 : (vc r s' (r + d)).toInt = 10000 := by unfold vc; rw [if_neg (by omega)]; decide
        rw [e2]
        have := (flt d (by omega)).1
        omega
    have h2 : ∀ m, sZ (fun v => if v < r then (0 : Int) else 9990000) (r + m) = 9990000 * m := by
      intro m
      induction m with
      | zero =>
        have : sZ (fun v => if v < r then (0 : Int) else 9990000) r = sZ (fun _ => 0) r := sZ_cg r (fun v hv => if_pos hv)
        show sZ _ r = _
        rw [this, sZ_0]
        rfl
      | succ m ih =>
        show sZ _ (r + m) + (if r + m < r then (0 : Int) else 9990000) = _
        rw [ih, if_neg (by omega), Int.natCast_succ]
        omega
    rw [h2] at h1
    omega
  · exact absurd x (by show ¬ r + d < r; omega)
  · refine (flt d hd').2 ?_
    have h1 := (bg_t (b0 := b0) (e0 := e0) hn hr h hd').1
    by_cases q : s d < 0
    · exact q
    · rw [if_neg q] at h1
      exact absurd h1 x
/-- one pivot of a trial, as the reference makes it -/
theorem tI_pv {n r : Nat} {b0 e0 : Nat → Nat} {φ : Int} {σ9 : gj_S} (hS : rS n r b0 e0 σ9) (h : tI n r b0 e0 (σ9.1 198) φ) : (∃ x9, f_X9_pivot σ9 = some (-1, x9) ∧ smP σ9 x9 ∧ x9.1 198 = σ9.1 198) ∨ ∃ w x9 φ', w < r + n ∧ f_X9_pivot σ9 = some (nI w, x9) ∧ smP σ9 x9 ∧ tI n r b0 e0 (x9.1 198) φ' ∧ φ' < φ := by
  obtain ⟨hP, hf, hZ, up, par, rk, dp, pr, hT, hsf, rfl⟩ := h
  have hg := rS_g hS
  obtain ⟨b, p, a, best, q1, q2, q3, q4, q5, q6, q7, q8, q9, q10⟩ := r9_pivot hS hP hT
  cases best with
  | none =>
    obtain ⟨⟨v, x9⟩, e9, rfl, h2, h3⟩ := q9 rfl
    exact .inl ⟨x9, e9, h2, h3⟩
  | some w =>
    obtain ⟨hw, hG⟩ := q7 w rfl
    obtain ⟨i, j, lv, up2, par2, rk2, dp2, pr2, i1, i2, i3, i4, i5, i6, i7, ⟨v, x9⟩, e9, rfl, h2, h3, h4⟩ := q10 w rfl
    dsimp only at h2 h3 h4
    obtain ⟨t1, t2, t3⟩ := tr_step hg hT hP hf (by omega) hsf hw hG i3 i4 h3 h4 i5 i6 i7
    have hst : σ9.1 198 (74 + w) = 1 ∨ σ9.1 198 (74 + w) = 2 := by
      unfold vG at hG
      rcases Bool.or_eq_true_iff.mp hG with q | q
      · exact .inl (eq_of_beq (Bool.and_eq_true_iff.mp q).1)
      · exact .inr (eq_of_beq (Bool.and_eq_true_iff.mp q).1)
    have hP2 := pv_P hS hP q8 h3 h4
    have hf2 := pv_F hg hT hf (by omega) hw hst i3 i4 h3
    exact .inr ⟨w, x9, _, hw, e9, h2, ⟨hP2, fP_Z hP2 hf2 (by omega) (Int.le_trans t2 hZ), Int.le_trans t2 hZ, up2, par2, rk2, dp2, pr2, h4, t1, rfl⟩, t3⟩
/-- the reference's trial ends -/
theorem tI_9 {n r : Nat} {b0 e0 : Nat → Nat} {b4 : Int32} : ∀ (m : Nat) {φ : Int} {σ9 : gj_S}, rS n r b0 e0 σ9 → tI n r b0 e0 (σ9.1 198) φ → φ + 10880000 < m → ∀ fu, m + 1 < fu → ∃ z, gj_lp (fb_X9_tried_l135 b4) fu (1, σ9) = some z ∧ smP σ9 z
  | 0, φ, σ9, hS, h, hm, _, _ => by
    have := (psi_bd (rS_g hS) h).1
    omega
  | m + 1, φ, σ9, hS, h, hm, fu, hfu => by
    obtain ⟨fu', rfl⟩ : ∃ x, fu = x + 1 + 1 := ⟨fu - 2, by omega⟩
    have hn := hS.1
    have hr := hS.2.1
    rcases tI_pv hS h with ⟨x9, e9, s9, -⟩ | ⟨w, x9, φ', hw, e9, s9, h', hlt⟩
    · refine ⟨x9, ?_, s9⟩
      rw [gj_lp_g (a' := (0, x9)) (by unfold fb_X9_tried_l135; dsimp only; rw [if_neg (by decide), e9]; rfl)]
      exact gj_lp_e (by unfold fb_X9_tried_l135; dsimp only; rw [if_pos rfl])
    · obtain ⟨z, ez, sz⟩ := tI_9 (b4 := b4) m (smP_S s9 hS) h' (by omega) (fu' + 1) (by omega)
      refine ⟨z, ?_, smP_tr s9 sz⟩
      rw [gj_lp_g (a' := (1, x9)) (by unfold fb_X9_tried_l135; dsimp only; rw [if_neg (by decide), e9]; dsimp only [Option.bind_some]; rw [if_neg (nI_m1 (by omega))]), ez]
