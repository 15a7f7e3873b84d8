/-! ===== the wall: what a pivot does, told in numbers for every cost ===== -/
/-- cost of the ring of w, by costs c and their prices -/
def zx_co (r : Nat) (b0 e0 : Nat → Nat) (s : Nat → Int32) (w : Nat) (c P : Nat → Int) : Int := if s (74 + w) = 1 then c w + P (vb r b0 s w) - P (ve r e0 s w) else - (c w + P (vb r b0 s w) - P (ve r e0 s w))
def zx_P (n r : Nat) (b0 e0 : Nat → Nat) (s s' : Nat → Int32) (up par rk up2 par2 rk2 : Nat → Nat) (pr : Nat → Int32) (w : Nat) : Prop :=
  (∀ v, v < r + n → vb r b0 s' v = vb r b0 s v ∧ ve r e0 s' v = ve r e0 s v ∧ vc r s' v = vc r s v) ∧
  (∀ v, v < r → hl s' v = hl s v) ∧ s' 40 = s 40 ∧
  tc_r n (r + n) (vb r b0 s) (ve r e0 s) (vT s) up par rk ∧ tc_r n (r + n) (vb r b0 s) (ve r e0 s) (vT s') up2 par2 rk2 ∧
  w < r + n ∧ ¬ vT s w ∧
  (∀ v, v < r + n → ¬ vT s v → v ≠ w → s' (74 + v) = s (74 + v) ∧ fl s' v = fl s v) ∧
  ((s (74 + w) = 1 ∧ (vg r b0 e0 s pr w).toInt < 0) ∨ (s (74 + w) = 2 ∧ 0 < (vg r b0 e0 s pr w).toInt ∧ w < r)) ∧
  ∃ ld : Nat,
    (∀ (c P P2 : Nat → Int), prI n (vb r b0 s) c up par P → prI n (vb r b0 s) c up2 par2 P2 → zC (r + n) c s' = zC (r + n) c s + (ld : Int) * zx_co r b0 e0 s w c P) ∧
    (((w < r → ld = hl s w) ∧ s' (74 + w) = (if s (74 + w) = 1 then 2 else 1) ∧ ∀ (c P P2 : Nat → Int), prI n (vb r b0 s) c up par P → prI n (vb r b0 s) c up2 par2 P2 → ∀ d, d < n → P2 d = P d) ∨
     ((w < r → hl s w ≠ 0) ∧ ∃ A, A < n ∧ ∀ (c P P2 : Nat → Int), prI n (vb r b0 s) c up par P → prI n (vb r b0 s) c up2 par2 P2 → (∀ d, d < n → P2 d = P d ∨ P2 d = P d - zx_co r b0 e0 s w c P) ∧ P2 A = P A - zx_co r b0 e0 s w c P) ∨
     ((w < r → hl s w ≠ 0) ∧ 1 ≤ ld ∧ ∃ A, (w < r → A < n) ∧ ∀ (c P P2 : Nat → Int), prI n (vb r b0 s) c up par P → prI n (vb r b0 s) c up2 par2 P2 → (∀ d, d < n → P2 d = P d ∨ P2 d = P d + zx_co r b0 e0 s w c P) ∧ (A < n → P2 A = P A)))
theorem zx_pure {n r : Nat} {b0 e0 : Nat → Nat} {s s' : Nat → Int32} {up par rk dp up2 par2 rk2 dp2 : Nat → Nat} {pr pr2 : Nat → Int32} {w : Nat} (hg : gS n r b0 e0) (hO : zx_ok n r b0 e0 (s, up, par, rk, dp, pr)) (h : zx_R n r b0 e0 (s, up, par, rk, dp, pr) (s', up2, par2, rk2, dp2, pr2) w) : zx_P n r b0 e0 s s' up par rk up2 par2 rk2 pr w := by
  obtain ⟨hP, hf, hZ, hT, hsf⟩ := hO
  obtain ⟨b, p, a, i, j, lv, -, -, -, -, -, -, -, hw, hG, ht, hl0, h1, h2, h3, hR, hT2⟩ := h
  have hn := hg.1
  have hr := hg.2.1
  have hc := hP.2.2.2.2.2.1
  obtain ⟨σr, hS⟩ := gS_r hg
  obtain ⟨v0, v1, v2⟩ := vg_bd hg hT hc hw
  have hst : (s (74 + w) = 1 ∧ (vg r b0 e0 s pr w).toInt < 0) ∨ (s (74 + w) = 2 ∧ 0 < (vg r b0 e0 s pr w).toInt) := by
    have hG' := hG
    unfold vG at hG'
    have e0 : (0 : Int32).toInt = 0 := by decide
    rcases Bool.or_eq_true_iff.mp hG' with q | q
    · have q1 := of_decide_eq_true (Bool.and_eq_true_iff.mp q).2
      rw [i32_lt_iff, e0] at q1
      exact .inl ⟨eq_of_beq (Bool.and_eq_true_iff.mp q).1, q1⟩
    · have q1 := of_decide_eq_true (Bool.and_eq_true_iff.mp q).2
      rw [i32_lt_iff, e0] at q1
      exact .inr ⟨eq_of_beq (Bool.and_eq_true_iff.mp q).1, q1⟩
  have hst' : s (74 + w) = 1 ∨ s (74 + w) = 2 := by
    rcases hst with x | x
    · exact .inl x.1
    · exact .inr x.1
  have hwT : ¬ vT s w := by
    unfold vT
    rcases hst' with q | q
    · rw [q]; decide
    · rw [q]; decide
  have hC := hT.1.1
  have hA := vA_pl (s := s) hS hw
  have hB := vB_pl (s := s) hS hw
  obtain ⟨ld, hN⟩ := pv_N hg hT hf (by omega) hw hst' ht hl0 hR
  have hlv := hN.1
  have hD := pv_D hC hwT hA hB ht hN
  have hE1 : vE s w = true → vb r b0 s w = vA r b0 e0 s w ∧ ve r e0 s w = vB r b0 e0 s w ∧ s (74 + w) = 1 := fun q => by
    unfold vE at q
    have q1 := of_decide_eq_true q
    unfold vA vB
    rw [if_pos q1, if_pos q1]
    exact ⟨rfl, rfl, q1⟩
  have hE2 : vE s w = false → vb r b0 s w = vB r b0 e0 s w ∧ ve r e0 s w = vA r b0 e0 s w ∧ s (74 + w) ≠ 1 := fun q => by
    unfold vE at q
    have q1 := of_decide_eq_false q
    unfold vA vB
    rw [if_neg q1, if_neg q1]
    exact ⟨rfl, rfl, q1⟩
  have hAB : vA r b0 e0 s w ≠ vB r b0 e0 s w := by
    have := vbe_ne (s := s) hg hw
    cases hb : vE s w with
    | true =>
      rw [← (hE1 hb).1, ← (hE1 hb).2.1]
      exact this
    | false =>
      rw [← (hE2 hb).1, ← (hE2 hb).2.1]
      exact fun e => this e.symm
  have ht' : tap par (vB r b0 e0 s w) (vA r b0 e0 s w) j i := ⟨ht.1.symm, tp0_sw ht.2⟩
  have dA : ∀ t, t < i → it par t (vA r b0 e0 s w) < n := fun t q => tap_docks hC hA ht q
  have dB : ∀ t, t < j → it par t (vB r b0 e0 s w) < n := fun t q => tap_docks hC hB ht' q
  have hld1 := sf_ld hD dB hsf
  have hE : rwE s s' := ⟨fun q q1 q2 => hR.1 q (by omega), fun q q1 q2 => hR.2.2.1 q q1 q2⟩
  have eqs : ∀ v, v < r + n → vb r b0 s' v = vb r b0 s v ∧ ve r e0 s' v = ve r e0 s v ∧ vc r s' v = vc r s v := fun v hv => rwE_b hS hE hv
  have hC2 : tc_r n (r + n) (vb r b0 s) (ve r e0 s) (vT s') up2 par2 rk2 := tc_cg hT2.1.1 (fun v hv => ⟨(eqs v hv).1.symm, (eqs v hv).2.1.symm, Iff.rfl⟩)
  have hWT : ∀ k, k < i + 1 + j → k ≠ i → vT s (rgW up par w (vA r b0 e0 s w) (vB r b0 e0 s w) i k) := fun k hk hki => rgW_T hC hA hB ht hk hki
  have hWi : rgW up par w (vA r b0 e0 s w) (vB r b0 e0 s w) i i = w := by
    unfold rgW
    rw [if_neg (by omega), if_pos rfl]
  have off : ∀ v, ¬ vT s v → v ≠ w → ∀ k, k < i + 1 + j → v ≠ rgW up par w (vA r b0 e0 s w) (vB r b0 e0 s w) i k := fun v q1 q2 k hk e => by
    by_cases x : k = i
    · rw [x, hWi] at e
      exact q2 e
    · exact q1 (e ▸ hWT k hk x)
  -- the ring's cost
  have hco : ∀ c P : Nat → Int, zx_co r b0 e0 s w c P = (if vE s w = true then c w else - c w) + P (vA r b0 e0 s w) - P (vB r b0 e0 s w) := fun c P => by
    unfold zx_co
    cases hb : vE s w with
    | true =>
      obtain ⟨x1, x2, x3⟩ := hE1 hb
      rw [if_pos x3, if_pos rfl, x1, x2]
    | false =>
      obtain ⟨x1, x2, x3⟩ := hE2 hb
      rw [if_neg x3, if_neg (by decide), x1, x2]
      omega
  refine ⟨eqs, hN.2.2.2.2.2.2.2, hR.1 40 (by omega), hC, hC2, hw, hwT, fun v hv q1 q2 => ⟨?_, hN.2.2.2.2.2.2.1 v hv (off v q1 q2)⟩, ?_, ld, fun c P P2 hP1 hP2 => ?_, ?_⟩
  · have e := hR.2.2.2.2.2.1 v (by omega)
    rw [if_neg q2, if_neg (off v q1 q2 lv hN.1)] at e
    exact e
  · rcases hst with ⟨x1, x2⟩ | ⟨x1, x2⟩
    · exact .inl ⟨x1, x2⟩
    · refine .inr ⟨x1, x2, ?_⟩
      by_cases x : w < r
      · exact x
      · obtain ⟨d, rfl⟩ : ∃ d, w = r + d := ⟨w - r, by omega⟩
        obtain ⟨_, _, _, _, x5, _⟩ := hf.2 d (by omega)
        exact absurd x1 x5
  · rw [hco]
    exact pv_Z hC hP1 hw hwT hA hB ht hN
  · obtain ⟨-, -, -, -, w3, -⟩ := hD
    rcases Nat.lt_trichotomy lv i with q | q | q
    · refine .inr (.inl ⟨fun x => ?_, vA r b0 e0 s w, dA 0 (by omega), fun c P P2 hP1 hP2 => ?_⟩)
      · have := (w3 x).2.1 q
        omega
      · have hγ : P (vB r b0 e0 s w) + eC (vb r b0 s) c w (vA r b0 e0 s w) = P (vA r b0 e0 s w) + (- zx_co r b0 e0 s w c P) := by
          rw [hco]
          unfold eC
          cases hb : vE s w with
          | true =>
            rw [if_pos (hE1 hb).1, if_pos rfl]
            omega
          | false =>
            rw [if_neg (fun e => hAB (e.symm.trans (hE2 hb).1)), if_neg (by decide)]
            omega
        have key := pr_shift hC hC2 hP1 hP2 (h2 q) (fun t ht => dA t (by omega)) (fun l e => ht.2.1 (i - 1 - lv) (by omega) l e.symm) hγ
        refine ⟨fun d hd => ?_, ?_⟩
        · have k1 := key (rk2 d) d (Nat.le_refl _) (.inl hd)
          rcases Classical.em (mv par (it par (i - 1 - lv) (vA r b0 e0 s w)) d) with x | x
          · exact .inr (k1.1 x)
          · exact .inl (k1.2 x)
        · have k1 := key (rk2 (vA r b0 e0 s w)) (vA r b0 e0 s w) (Nat.le_refl _) (.inl (dA 0 (by omega)))
          exact k1.1 ⟨_, rfl⟩
    · refine .inl ⟨fun x => (w3 x).2.2 q, ?_, fun c P P2 hP1 hP2 d hd => ?_⟩
      · have e := hR.2.2.2.2.2.1 w (by omega)
        rw [if_pos rfl, q, hWi, if_pos rfl] at e
        exact e
      obtain ⟨e1, e2⟩ := h1 q
      subst e1 e2
      exact pr_un hC hP1 hP2 (rk d) d (Nat.le_refl _) (.inl hd)
    · have hld := hld1 q
      refine .inr (.inr ⟨fun x => ?_, hld, vA r b0 e0 s w, fun x => ?_, fun c P P2 hP1 hP2 => ?_⟩)
      · have := (w3 x).1
        omega
      · unfold vA vb ve
        rw [if_pos x, if_pos x]
        split
        · exact (hg.2.2 w x).1
        · exact (hg.2.2 w x).2.1
      · have hγ : P (vA r b0 e0 s w) + eC (vb r b0 s) c w (vB r b0 e0 s w) = P (vB r b0 e0 s w) + zx_co r b0 e0 s w c P := by
          rw [hco]
          unfold eC
          cases hb : vE s w with
          | true =>
            rw [if_neg (fun e => hAB ((hE1 hb).1.symm.trans e)), if_pos rfl]
            omega
          | false =>
            rw [if_pos (hE2 hb).1, if_neg (by decide)]
            omega
        have key := pr_shift hC hC2 hP1 hP2 (h3 q) (fun t ht => dB t (by omega)) (fun l e => ht'.2.1 (lv - i - 1) (by omega) l e.symm) hγ
        refine ⟨fun d hd => ?_, fun hd => ?_⟩
        · have k1 := key (rk2 d) d (Nat.le_refl _) (.inl hd)
          rcases Classical.em (mv par (it par (lv - i - 1) (vB r b0 e0 s w)) d) with x | x
          · exact .inr (k1.1 x)
          · exact .inl (k1.2 x)
        · have k1 := key (rk2 (vA r b0 e0 s w)) (vA r b0 e0 s w) (Nat.le_refl _) (.inl hd)
          exact k1.2 (fun ⟨l, hl⟩ => ht'.2.1 (lv - i - 1) (by omega) l hl.symm)
