/-! ===== each pivot brings the potential down ===== -/
theorem pot_abs {n r : Nat} {bg en : Nat → Nat} {c : Nat → Int} {T T2 : Nat → Prop} {up par rk up2 par2 rk2 : Nat → Nat} {P P2 : Nat → Int} {s s' : Nat → Int32} {em : Bool} {w A B i j lv ld : Nat} {g : Int} (hC : tc_r n (r + n) bg en T up par rk) (hC2 : tc_r n (r + n) bg en T2 up2 par2 rk2) (hP : prI n bg c up par P) (hP2 : prI n bg c up2 par2 P2) (hw : w < r + n) (hwT : ¬ T w) (hA : A < n ∨ A = 8) (hB : B < n ∨ B = 8) (ht : tap par A B i j) (hE1 : em = true → bg w = A) (hE2 : em = false → bg w = B) (hAB : A ≠ B) (hN : pvN n r s s' bg up par em w A B i j lv ld) (hld : i < lv → 1 ≤ ld) (hg : 1 ≤ g) (hco : (if em = true then c w else - c w) + P A - P B = - g) (h1 : lv = i → up2 = up ∧ par2 = par) (h2 : lv < i → pvU up par up2 par2 w A B (i - 1 - lv)) (h3 : i < lv → pvU up par up2 par2 w B A (lv - i - 1)) :
    zC (r + n) c s' = zC (r + n) c s - (ld : Int) * g ∧ (lv = i → ∀ d, (d < n ∨ d = 8) → P2 d = P d) ∧ (lv ≠ i → 9 * zC (r + n) c s' - sZ P2 n + g ≤ 9 * zC (r + n) c s - sZ P n) := by
  have hZ := pv_Z hC hP hw hwT hA hB ht hN
  rw [hco, Int.mul_neg] at hZ
  have hn := hC.1
  have ht' : tap par B A j i := ⟨ht.1.symm, tp0_sw ht.2⟩
  have dA : ∀ t, t < i → it par t A < n := fun t q => tap_docks hC hA ht q
  have dB : ∀ t, t < j → it par t B < n := fun t q => tap_docks hC hB ht' q
  have hlv := hN.1
  have hg0 : 0 ≤ (ld : Int) * g := Int.mul_nonneg (Int.natCast_nonneg _) (by omega)
  refine ⟨by omega, fun q d hd => ?_, fun q => ?_⟩
  · obtain ⟨e1, e2⟩ := h1 q
    subst e1 e2
    exact pr_un hC hP hP2 (rk d) d (Nat.le_refl _) hd
  · rcases Nat.lt_or_gt_of_ne q with q | q
    · have hγ : P B + eC bg c w A = P A + g := by
        unfold eC
        cases em with
        | true =>
          rw [if_pos (hE1 rfl)]
          rw [if_pos rfl] at hco
          omega
        | false =>
          rw [if_neg (fun e => hAB (e.symm.trans (hE2 rfl)))]
          rw [if_neg (by decide)] at hco
          omega
      have key := pr_shift hC hC2 hP hP2 (h2 q) (fun t ht => dA t (by omega)) (fun l e => ht.2.1 (i - 1 - lv) (by omega) l e.symm) hγ
      have hs : sZ P n + g ≤ sZ P2 n := by
        refine sZ_le1 (k := A) (fun d hd => ?_) (dA 0 (by omega)) ?_
        · have k1 := key (rk2 d) d (Nat.le_refl _) (.inl hd)
          rcases Classical.em (mv par (it par (i - 1 - lv) A) d) with x | x
          · rw [k1.1 x]
            omega
          · rw [k1.2 x]
            omega
        · have k1 := key (rk2 A) A (Nat.le_refl _) (.inl (dA 0 (by omega)))
          rw [k1.1 ⟨_, rfl⟩]
          omega
      omega
    · have hγ : P A + eC bg c w B = P B + (- g) := by
        unfold eC
        cases em with
        | true =>
          rw [if_neg (fun e => hAB ((hE1 rfl).symm.trans e))]
          rw [if_pos rfl] at hco
          omega
        | false =>
          rw [if_pos (hE2 rfl)]
          rw [if_neg (by decide)] at hco
          omega
      have key := pr_shift hC hC2 hP hP2 (h3 q) (fun t ht => dB t (by omega)) (fun l e => ht'.2.1 (lv - i - 1) (by omega) l e.symm) hγ
      have hs : sZ (fun d => P d + (- g)) n ≤ sZ P2 n := sZ_le n (fun d hd => by
        have k1 := key (rk2 d) d (Nat.le_refl _) (.inl hd)
        rcases Classical.em (mv par (it par (lv - i - 1) B) d) with x | x
        · rw [k1.1 x]
          omega
        · rw [k1.2 x]
          omega)
      rw [sZ_add, sZ_cst, Int.neg_mul] at hs
      have h8 : g * (n : Int) ≤ g * 8 := Int.mul_le_mul_of_nonneg_left (by omega) (by omega)
      have h9 : 1 * g ≤ (ld : Int) * g := Int.mul_le_mul_of_nonneg_right (by have := hld q; omega) (by omega)
      omega
def zR (n r : Nat) (s : Nat → Int32) : Int := zC (r + n) (fun v => (vc r s v).toInt) s
def ps1 (n r : Nat) (s pr : Nat → Int32) : Int := 9 * zR n r s - sZ (fun d => (pr d).toInt) n
def ps2 (r : Nat) (b0 e0 : Nat → Nat) (s pr : Nat → Int32) : Nat := ct (fun v => vG r b0 e0 s pr v && decide (hl s v = 0)) r
def psi (n r : Nat) (b0 e0 : Nat → Nat) (s pr : Nat → Int32) : Int := 17 * ps1 n r s pr + (ps2 r b0 e0 s pr : Int)
theorem vbe_ne {n r : Nat} {b0 e0 : Nat → Nat} {s : Nat → Int32} (hg : gS n r b0 e0) {w : Nat} (hw : w < r + n) : vb r b0 s w ≠ ve r e0 s w := by
  have hn := hg.1
  by_cases q : w < r
  · unfold vb ve
    rw [if_pos q, if_pos q]
    exact (hg.2.2 w q).2.2
  · unfold vb ve
    rw [if_neg q, if_neg q]
    by_cases q2 : s (42 + (w - r)) = 1
    · rw [if_pos q2, if_pos q2]
      omega
    · rw [if_neg q2, if_neg q2]
      omega
theorem tr_step {n r F : Nat} {b0 e0 : Nat → Nat} {s s' : Nat → Int32} {up par rk dp up2 par2 rk2 dp2 : Nat → Nat} {pr pr2 : Nat → Int32} (hg : gS n r b0 e0) (hT : rT n r b0 e0 s up par rk dp pr) (hP : rP n r b0 e0 s) (hf : fP n r F s) (hF : F < 2 ^ 29) (hsf : sfP n r (vb r b0 s) up s) {a w i j lv : Nat} (hw : w < r + n) (hG : vG r b0 e0 s pr w = true) (ht : tap par (vA r b0 e0 s w) (vB r b0 e0 s w) i j)
    (hl0 : lmin (fun k => vr r s 1000000000 w (rgW up par w (vA r b0 e0 s w) (vB r b0 e0 s w) i k) (rgL (vb r b0 s) up par (vE s w) (vA r b0 e0 s w) (vB r b0 e0 s w) i k)) (i + 1 + j) lv) (hR : pvR n r b0 e0 s up par pr pr2 a w i j lv s') (hT2 : rT n r b0 e0 s' up2 par2 rk2 dp2 pr2) (h1 : lv = i → up2 = up ∧ par2 = par) (h2 : lv < i → pvU up par up2 par2 w (vA r b0 e0 s w) (vB r b0 e0 s w) (i - 1 - lv)) (h3 : i < lv → pvU up par up2 par2 w (vB r b0 e0 s w) (vA r b0 e0 s w) (lv - i - 1)) :
    sfP n r (vb r b0 s') up2 s' ∧ zR n r s' ≤ zR n r s ∧ psi n r b0 e0 s' pr2 < psi n r b0 e0 s pr := by
  have hn := hg.1
  have hr := hg.2.1
  have hc := hP.2.2.2.2.2.1
  obtain ⟨σr, hS⟩ := gS_r hg
  -- the good way
  obtain ⟨v0, v1, v2⟩ := vg_bd hg hT hc hw
  have hst : (s (74 + w) = 1 ∧ (vg r b0 e0 s pr w).toInt < 0) ∨ (s (74 + w) = 2 ∧ 0 < (vg r b0 e0 s pr w).toInt) := by
    have hG' := hG
    unfold vG at hG'
    have e0 : (0 : Int32).toInt = 0 := by decide
    rcases Bool.or_eq_true_iff.mp hG' with q | q
    · have q1 := of_decide_eq_true (Bool.and_eq_true_iff.mp q).2
      rw [i32_lt_iff, e0] at q1
      exact .inl ⟨eq_of_beq (Bool.and_eq_true_iff.mp q).1, q1⟩
    · have q1 := of_decide_eq_true (Bool.and_eq_true_iff.mp q).2
      rw [i32_lt_iff, e0] at q1
      exact .inr ⟨eq_of_beq (Bool.and_eq_true_iff.mp q).1, q1⟩
  have hst' : s (74 + w) = 1 ∨ s (74 + w) = 2 := by
    rcases hst with x | x
    · exact .inl x.1
    · exact .inr x.1
  have hwT : ¬ vT s w := by
    unfold vT
    rcases hst' with q | q
    · rw [q]; decide
    · rw [q]; decide
  have hC := hT.1.1
  have hA := vA_pl (s := s) hS hw
  have hB := vB_pl (s := s) hS hw
  obtain ⟨ld, hN⟩ := pv_N hg hT hf hF hw hst' ht hl0 hR
  have hld9 : ld ≤ 999 := by
    obtain ⟨k, hk, hkr⟩ := rg_route hg hC hw hwT ht
    exact Nat.le_trans (hN.2.2.1 k hk) (rN_route hf (by omega) hw hkr _)
  have hD := pv_D hC hwT hA hB ht hN
  have hE1 : vE s w = true → vb r b0 s w = vA r b0 e0 s w := fun q => by
    unfold vE at q
    unfold vA
    rw [if_pos (of_decide_eq_true q)]
  have hE2 : vE s w = false → vb r b0 s w = vB r b0 e0 s w ∧ ve r e0 s w = vA r b0 e0 s w := fun q => by
    unfold vE at q
    have := of_decide_eq_false q
    unfold vA vB
    rw [if_neg this, if_neg this]
    exact ⟨rfl, rfl⟩
  have hE1' : vE s w = true → ve r e0 s w = vB r b0 e0 s w := fun q => by
    unfold vE at q
    unfold vB
    rw [if_pos (of_decide_eq_true q)]
  have hAB : vA r b0 e0 s w ≠ vB r b0 e0 s w := by
    have := vbe_ne (s := s) hg hw
    cases hb : vE s w with
    | true =>
      rw [← hE1 hb, ← hE1' hb]
      exact this
    | false =>
      rw [← (hE2 hb).1, ← (hE2 hb).2]
      exact fun e => this e.symm
  -- its flow
  have hle : ∀ v, v < r → fl s v ≤ hl s v := fun v hv => ((fP_f hf (by omega) (show v < r + n by omega)).2.2.1 hv).2.1
  have hw0 : vE s w = true → fl s w = 0 := fun q => by
    unfold vE at q
    have q1 := of_decide_eq_true q
    by_cases x : w < r
    · obtain ⟨f, h, f1, f2, f3, f4, f5, f6⟩ := hf.1 w x
      unfold fl
      rw [f1, f5 q1]
      decide
    · obtain ⟨d, rfl⟩ : ∃ d, w = r + d := ⟨w - r, by omega⟩
      obtain ⟨f, f1, f2, f3, -⟩ := hf.2 d (by omega)
      unfold fl
      rw [f1, f3 q1]
      decide
  have hwF : vE s w = false → fl s w = hl s w ∧ w < r := fun q => by
    unfold vE at q
    have q1 := of_decide_eq_false q
    have q2 : s (74 + w) = 2 := by
      rcases hst' with x | x
      · exact absurd x q1
      · exact x
    have hwr : w < r := by
      by_cases x : w < r
      · exact x
      · obtain ⟨d, rfl⟩ : ∃ d, w = r + d := ⟨w - r, by omega⟩
        obtain ⟨_, _, _, _, x5, _⟩ := hf.2 d (by omega)
        exact absurd q2 x5
    refine ⟨?_, hwr⟩
    obtain ⟨f, h, g1, g2, g3, g4, g5, g6⟩ := hf.1 w hwr
    unfold fl hl
    rw [g1, g2, g6 q2]
  have ht' : tap par (vB r b0 e0 s w) (vA r b0 e0 s w) j i := ⟨ht.1.symm, tp0_sw ht.2⟩
  have dB : ∀ t, t < j → it par t (vB r b0 e0 s w) < n := fun t q => tap_docks hC hB ht' q
  have hld1 := sf_ld hD dB hsf
  -- the new row tells the same ways
  have hE : rwE s s' := ⟨fun q q1 q2 => hR.1 q (by omega), fun q q1 q2 => hR.2.2.1 q q1 q2⟩
  have eqs : ∀ v, v < r + n → vb r b0 s' v = vb r b0 s v ∧ ve r e0 s' v = ve r e0 s v ∧ vc r s' v = vc r s v := fun v hv => rwE_b hS hE hv
  have hC2 : tc_r n (r + n) (vb r b0 s) (ve r e0 s) (vT s') up2 par2 rk2 := tc_cg hT2.1.1 (fun v hv => ⟨(eqs v hv).1.symm, (eqs v hv).2.1.symm, Iff.rfl⟩)
  have hsf2 := sf_pv hC hwT hA hB ht (fun q => ⟨hE1 q, hw0 q⟩) (fun q => ⟨(hE2 q).1, hwF q⟩) hAB hle hw hD hsf h1 h2 h3
  have hPI := pI_rec hn hT hc
  have hc2 : ∀ v, v < r → ∃ c, c ≤ 999 ∧ s' (8 + v) = nI c := fun v hv => by
    rw [hR.1 (8 + v) (by omega)]
    exact hc v hv
  have hPI2' := pI_rec hn hT2 hc2
  have hPI2 : prI n (vb r b0 s) (fun v => (vc r s v).toInt) up2 par2 (fun p => (pr2 p).toInt) := by
    refine ⟨hPI2'.1, fun d hd => ?_⟩
    rw [hPI2'.2 d hd]
    have hu := (hC2.2.2.1 d hd).1
    unfold eC
    dsimp only
    rw [(eqs _ hu).1, (eqs _ hu).2.2]
  -- the gain
  obtain ⟨g, hg1, hco⟩ : ∃ g : Int, 1 ≤ g ∧ (if vE s w = true then (vc r s w).toInt else - (vc r s w).toInt) + (pr (vA r b0 e0 s w)).toInt - (pr (vB r b0 e0 s w)).toInt = - g := by
    rcases hst with ⟨x1, x2⟩ | ⟨x1, x2⟩
    · have hb : vE s w = true := decide_eq_true x1
      refine ⟨- (vg r b0 e0 s pr w).toInt, by omega, ?_⟩
      rw [if_pos hb, ← hE1 hb, ← hE1' hb]
      omega
    · have hb : vE s w = false := decide_eq_false (by rw [x1]; decide)
      refine ⟨(vg r b0 e0 s pr w).toInt, by omega, ?_⟩
      rw [if_neg (by rw [hb]; decide), ← (hE2 hb).1, ← (hE2 hb).2]
      omega
  obtain ⟨hZ, hS1, hS2⟩ := pot_abs (c := fun v => (vc r s v).toInt) (P := fun p => (pr p).toInt) (P2 := fun p => (pr2 p).toInt) hC hC2 hPI hPI2 hw hwT hA hB ht hE1 (fun q => (hE2 q).1) hAB hN hld1 hg1 hco h1 h2 h3
  have eZ : zR n r s' = zC (r + n) (fun v => (vc r s v).toInt) s' := by
    unfold zR zC
    exact sZ_cg _ (fun v hv => by dsimp only; rw [(eqs v hv).2.2])
  have hg0 : 0 ≤ (ld : Int) * g := Int.mul_nonneg (Int.natCast_nonneg _) (by omega)
  have eZ0 : zR n r s = zC (r + n) (fun v => (vc r s v).toInt) s := rfl
  refine ⟨?_, by omega, ?_⟩
  · intro d hd
    have := hsf2 d hd
    rw [(eqs _ (hC2.2.2.1 d hd).1).1]
    exact this
  · have c16 : ps2 r b0 e0 s' pr2 ≤ r := ct_le r
    unfold psi ps1
    by_cases q : lv = i
    · have hWi : rgW up par w (vA r b0 e0 s w) (vB r b0 e0 s w) i i = w := by unfold rgW; rw [if_neg (by omega), if_pos rfl]
      have hpr := hS1 q
      have eS : sZ (fun d => (pr2 d).toInt) n = sZ (fun d => (pr d).toInt) n := sZ_cg n (fun d hd => hpr d (.inl hd))
      have hwr : w < r := by
        by_cases x : w < r
        · exact x
        · have h5 := hN.2.1
          rw [q, hWi] at h5
          unfold rN at h5
          rw [if_pos rfl, if_neg x] at h5
          omega
      have hlw : ld = hl s w := (hD.2.2.2.2.1 hwr).2.2 q
      by_cases q0 : ld = 0
      · -- a way that holds nothing turns over
        have hlt : ps2 r b0 e0 s' pr2 < ps2 r b0 e0 s pr := by
          have hprE : ∀ d, (d < n ∨ d = 8) → pr2 d = pr d := fun d hd => Int32.toInt_inj.mp (hpr d hd)
          have hgE : ∀ v, v < r → vg r b0 e0 s' pr2 v = vg r b0 e0 s pr v := fun v hv => by
            unfold vg
            rw [(eqs v (by omega)).1, (eqs v (by omega)).2.1, (eqs v (by omega)).2.2, hprE _ (gb_pl hg (show v < r + n by omega)), hprE _ (ge_pl hg (show v < r + n by omega))]
          have hst6 := hR.2.2.2.2.2.1
          rw [q, hWi] at hst6
          have hnw : ¬ vG r b0 e0 s' pr2 w = true := by
            have h6 := hst6 w (by omega)
            rw [if_pos rfl, if_pos rfl] at h6
            unfold vG
            rw [hgE w hwr, h6]
            have z0 : (0 : Int32).toInt = 0 := by decide
            rcases hst with ⟨x1, x2⟩ | ⟨x1, x2⟩
            · rw [if_pos x1, decide_eq_false (show ¬ 0 < vg r b0 e0 s pr w by rw [i32_lt_iff, z0]; omega)]
              simp
            · rw [if_neg (by rw [x1]; decide), decide_eq_false (show ¬ vg r b0 e0 s pr w < 0 by rw [i32_lt_iff, z0]; omega)]
              simp
          refine ct_lt r (fun v hv hv1 => ?_) ⟨w, hwr, ?_, ?_⟩
          · obtain ⟨y1, y2⟩ := Bool.and_eq_true_iff.mp hv1
            have hvw : v ≠ w := fun e => hnw (e ▸ y1)
            have h6 := hst6 v (by omega)
            rw [if_neg hvw, if_neg hvw] at h6
            refine Bool.and_eq_true_iff.mpr ⟨?_, ?_⟩
            · unfold vG at y1 ⊢
              rw [hgE v hv, h6] at y1
              exact y1
            · have := of_decide_eq_true y2
              rw [hN.2.2.2.2.2.2.2 v hv] at this
              exact decide_eq_true this
          · exact Bool.and_eq_true_iff.mpr ⟨hG, decide_eq_true (by omega)⟩
          · intro e
            exact hnw (Bool.and_eq_true_iff.mp e).1
        have : (ld : Int) * g = 0 := by
          rw [q0]
          exact Int.zero_mul _
        omega
      · have h9 : 1 * g ≤ (ld : Int) * g := Int.mul_le_mul_of_nonneg_right (by omega) (by omega)
        omega
    · have := hS2 q
      omega
