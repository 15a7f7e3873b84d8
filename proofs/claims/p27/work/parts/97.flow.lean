/-! ===== a pivot keeps flows as they must be ===== -/
theorem nI_addneg {a b : Nat} (h : b ≤ a) : nI a + (0 - nI b) = nI (a - b) := by
  rw [← nI_sub h]
  apply Int32.toBitVec_inj.mp
  simp [BitVec.sub_eq_add_neg]
theorem rgW_T {n m : Nat} {bg en : Nat → Nat} {T : Nat → Prop} {up par rk : Nat → Nat} (h : tc_r n m bg en T up par rk) {w A B i j k : Nat} (hA : A < n ∨ A = 8) (hB : B < n ∨ B = 8) (ht : tap par A B i j) (hk : k < i + 1 + j) (hki : k ≠ i) : T (rgW up par w A B i k) := by
  unfold rgW
  by_cases q : k < i
  · rw [if_pos q]
    exact (h.2.2.1 _ (tap_docks h hA ht (by omega))).2.1
  · rw [if_neg q, if_neg hki]
    exact (h.2.2.1 _ (tap_docks h hB ⟨ht.1.symm, tp0_sw ht.2⟩ (by omega))).2.1
/-- the numbers behind a pivot: the load is at most 999, flows move by it -/
theorem pv_F {n r F : Nat} {b0 e0 : Nat → Nat} {s s' : Nat → Int32} {up par rk dp : Nat → Nat} {pr pr2 : Nat → Int32} (hg : gS n r b0 e0) (hT : rT n r b0 e0 s up par rk dp pr) (hf : fP n r F s) (hF : F < 2 ^ 29) {a w i j lv : Nat} (hw : w < r + n) (hst : s (74 + w) = 1 ∨ s (74 + w) = 2) (ht : tap par (vA r b0 e0 s w) (vB r b0 e0 s w) i j)
    (hl0 : lmin (fun k => vr r s 1000000000 w (rgW up par w (vA r b0 e0 s w) (vB r b0 e0 s w) i k) (rgL (vb r b0 s) up par (vE s w) (vA r b0 e0 s w) (vB r b0 e0 s w) i k)) (i + 1 + j) lv) (hR : pvR n r b0 e0 s up par pr pr2 a w i j lv s') : fP n r (F + 999) s' := by
  have hn := hg.1
  have hr := hg.2.1
  have hwT : ¬ vT s w := by
    unfold vT
    rcases hst with q | q
    · rw [q]; decide
    · rw [q]; decide
  have hC := hT.1.1
  have hA : vA r b0 e0 s w < n ∨ vA r b0 e0 s w = 8 := by
    unfold vA
    split
    · exact gb_pl hg hw
    · exact ge_pl hg hw
  have hB : vB r b0 e0 s w < n ∨ vB r b0 e0 s w = 8 := by
    unfold vB
    split
    · exact ge_pl hg hw
    · exact gb_pl hg hw
  have hWm : ∀ k, k < i + 1 + j → rgW up par w (vA r b0 e0 s w) (vB r b0 e0 s w) i k < r + n := fun k hk => rgW_lt hC hw hA hB ht hk
  have hWi : rgW up par w (vA r b0 e0 s w) (vB r b0 e0 s w) i i = w := by unfold rgW; rw [if_neg (by omega), if_pos rfl]
  have hLi : rgL (vb r b0 s) up par (vE s w) (vA r b0 e0 s w) (vB r b0 e0 s w) i i = vE s w := by unfold rgL; rw [if_neg (by omega), if_pos rfl]
  have hWT : ∀ k, k < i + 1 + j → k ≠ i → s (74 + rgW up par w (vA r b0 e0 s w) (vB r b0 e0 s w) i k) = 0 := fun k hk hki => rgW_T hC hA hB ht hk hki
  have hWj : ∀ k l, k < l → l < i + 1 + j → rgW up par w (vA r b0 e0 s w) (vB r b0 e0 s w) i k ≠ rgW up par w (vA r b0 e0 s w) (vB r b0 e0 s w) i l := fun k l h1 h2 => rgW_inj hC hwT hA hB ht h1 h2
  obtain ⟨m1, m2, -, -, m5, -⟩ := lmin_N hf (by omega) hw hWm (rg_route hg hC hw hwT ht) hl0
  obtain ⟨k1, k2, k3, k4, k5, k6, -⟩ := hR
  have hlv := hl0.1
  generalize rgW up par w (vA r b0 e0 s w) (vB r b0 e0 s w) i = W at *
  generalize rgL (vb r b0 s) up par (vE s w) (vA r b0 e0 s w) (vB r b0 e0 s w) i = L at *
  rw [m2] at k4
  generalize hld : rN r 1000000 s w (W lv) (L lv) = ld at *
  have hone : ∀ k l, k < i + 1 + j → l < i + 1 + j → W k = W l → k = l := fun k l h1 h2 e => by
    rcases Nat.lt_trichotomy k l with q | q | q
    · exact absurd e (hWj k l q h2)
    · exact q
    · exact absurd e.symm (hWj l k q h1)
  -- a flow in the ring
  have inr : ∀ k, k < i + 1 + j → (L k = true → s' (50 + W k) = nI (fl s (W k) + ld)) ∧ (L k = false → ld ≤ fl s (W k) → s' (50 + W k) = nI (fl s (W k) - ld)) := fun k hk => by
    have e := k4 k hk
    have f1 := (fP_f hf (by omega) (hWm k hk)).1
    refine ⟨fun q => ?_, fun q q2 => ?_⟩
    · rw [e, if_pos q, f1, nI_add]
    · rw [e, if_neg (by rw [q]; decide), f1, nI_addneg q2]
  refine ⟨fun v hv => ?_, fun d hd => ?_⟩
  · obtain ⟨g1, g2, g3, -⟩ := fP_f hf (by omega) (show v < r + n by omega)
    obtain ⟨g4, g5, g6⟩ := g3 hv
    have eh : s' (24 + v) = nI (hl s v) := by rw [k1 _ (by omega)]; exact g4
    by_cases q : ∃ k, k < i + 1 + j ∧ v = W k
    · obtain ⟨k, hk, rfl⟩ := q
      by_cases e : k = i
      · subst e
        rw [hWi] at hv g4 g5 g6 eh ⊢
        have hm := m5 k hk
        unfold rN at hm
        rw [hWi, if_pos rfl, if_pos hv] at hm
        have hs' := k6 w (by omega)
        rw [if_pos rfl] at hs'
        rcases hst with q1 | q1
        · -- it was empty
          have hE : L k = true := by rw [hLi]; unfold vE; exact decide_eq_true q1
          have f0 : fl s w = 0 := by
            obtain ⟨f, h, f1, f2, f3, f4, f5, f6⟩ := hf.1 w hv
            unfold fl
            rw [f1, f5 q1]
            decide
          have e1 := (inr k hk).1 hE
          rw [hWi, f0, Nat.zero_add] at e1
          refine ⟨ld, hl s w, e1, eh, hm, g6, fun q2 => ?_, fun q2 => ?_⟩
          · rw [q2] at hs'
            by_cases q3 : W lv = w
            · rw [if_pos q3, if_pos q1] at hs'
              exact absurd hs' (by decide)
            · rw [if_neg q3] at hs'
              exact absurd hs' (by decide)
          · rw [q2] at hs'
            by_cases q3 : W lv = w
            · rw [← hld]
              unfold rN
              rw [q3, if_pos rfl, if_pos hv]
            · rw [if_neg q3] at hs'
              exact absurd hs' (by decide)
        · have hE : L k = false := by rw [hLi]; unfold vE; exact decide_eq_false (by rw [q1]; decide)
          have f0 : fl s w = hl s w := by
            obtain ⟨f, h, f1, f2, f3, f4, f5, f6⟩ := hf.1 w hv
            unfold fl hl
            rw [f1, f2, f6 q1]
          have e1 := (inr k hk).2 hE (by rw [hWi, f0]; exact hm)
          rw [hWi, f0] at e1
          refine ⟨hl s w - ld, hl s w, e1, eh, by omega, g6, fun q2 => ?_, fun q2 => ?_⟩
          · rw [q2] at hs'
            by_cases q3 : W lv = w
            · have : ld = hl s w := by
                rw [← hld]
                unfold rN
                rw [q3, if_pos rfl, if_pos hv]
              omega
            · rw [if_neg q3] at hs'
              exact absurd hs' (by decide)
          · rw [q2] at hs'
            by_cases q3 : W lv = w
            · rw [if_pos q3, if_neg (by rw [q1]; decide)] at hs'
              exact absurd hs' (by decide)
            · rw [if_neg q3] at hs'
              exact absurd hs' (by decide)
      · have hne : W k ≠ w := fun q => e (hone k i hk (by omega) (by rw [q, hWi]))
        have hm := m5 k hk
        unfold rN at hm
        rw [if_neg hne] at hm
        have hs' := k6 (W k) (by omega)
        rw [if_neg hne, hWT k hk e] at hs'
        cases hL : L k with
        | true =>
          rw [hL, if_neg (by decide), if_pos hv] at hm
          refine ⟨fl s (W k) + ld, hl s (W k), (inr k hk).1 hL, eh, by omega, g6, fun q2 => ?_, fun q2 => ?_⟩
          · rw [q2] at hs'
            by_cases q3 : W k = W lv
            · have : k = lv := hone k lv hk hlv q3
              subst this
              rw [if_pos rfl, if_pos hL] at hs'
              exact absurd hs' (by decide)
            · rw [if_neg q3] at hs'
              exact absurd hs' (by decide)
          · rw [q2] at hs'
            by_cases q3 : W k = W lv
            · have : k = lv := hone k lv hk hlv q3
              subst this
              have : ld = hl s (W k) - fl s (W k) := by
                rw [← hld]
                unfold rN
                rw [if_neg hne, hL, if_neg (by decide), if_pos hv]
              omega
            · rw [if_neg q3] at hs'
              exact absurd hs' (by decide)
        | false =>
          rw [hL, if_pos rfl] at hm
          refine ⟨fl s (W k) - ld, hl s (W k), (inr k hk).2 hL hm, eh, by omega, g6, fun q2 => ?_, fun q2 => ?_⟩
          · rw [q2] at hs'
            by_cases q3 : W k = W lv
            · have : k = lv := hone k lv hk hlv q3
              subst this
              have : ld = fl s (W k) := by
                rw [← hld]
                unfold rN
                rw [if_neg hne, hL, if_pos rfl]
              omega
            · rw [if_neg q3] at hs'
              exact absurd hs' (by decide)
          · rw [q2] at hs'
            by_cases q3 : W k = W lv
            · have : k = lv := hone k lv hk hlv q3
              subst this
              rw [if_pos rfl, if_neg (by rw [hL]; decide)] at hs'
              exact absurd hs' (by decide)
            · rw [if_neg q3] at hs'
              exact absurd hs' (by decide)
    · have hno : ∀ k, k < i + 1 + j → v ≠ W k := fun k hk e => q ⟨k, hk, e⟩
      have e1 := k5 v (by omega) hno
      have hs' := k6 v (by omega)
      rw [if_neg (fun e => hno i (by omega) (by rw [hWi]; exact e)), if_neg (hno lv hlv)] at hs'
      obtain ⟨f, h, f1, f2, f3, f4, f5, f6⟩ := hf.1 v hv
      exact ⟨f, h, by rw [e1]; exact f1, by rw [k1 _ (by omega)]; exact f2, f3, f4, fun q2 => f5 (by rw [← hs']; exact q2), fun q2 => f6 (by rw [← hs']; exact q2)⟩
  · obtain ⟨f, f1, f2, f3, f4, f5⟩ := hf.2 d hd
    have h42 : s' (42 + d) = 0 ∨ s' (42 + d) = 1 := by rw [k3 _ (by omega) (by omega)]; exact f5
    have ef : fl s (r + d) = f := by unfold fl; rw [f1, nI_clamp (by omega)]
    by_cases q : ∃ k, k < i + 1 + j ∧ r + d = W k
    · obtain ⟨k, hk, hWk⟩ := q
      by_cases e : k = i
      · subst e
        rw [hWi] at hWk
        have q1 : s (74 + w) = 1 := by
          rcases hst with q1 | q1
          · exact q1
          · exact absurd (by rw [hWk]; exact q1) f4
        have hE : L k = true := by rw [hLi]; unfold vE; exact decide_eq_true q1
        have e1 := (inr k hk).1 hE
        rw [hWi, ← hWk, ef, f3 (by rw [hWk]; exact q1), Nat.zero_add] at e1
        have hs' := k6 w (by omega)
        have q3 : ¬ W lv = w := by
          intro q3
          rw [← hld] at m1
          unfold rN at m1
          rw [q3, if_pos rfl, if_neg (by omega)] at m1
          omega
        rw [if_pos rfl, if_neg q3] at hs'
        exact ⟨ld, e1, by omega, fun q2 => by rw [hWk, hs'] at q2; exact absurd q2 (by decide), by rw [hWk, hs']; decide, h42⟩
      · have hne : W k ≠ w := fun q => e (hone k i hk (by omega) (by rw [q, hWi]))
        have hm := m5 k hk
        unfold rN at hm
        rw [if_neg hne] at hm
        have hs' := k6 (W k) (by have := hWm k hk; omega)
        rw [if_neg hne, hWT k hk e] at hs'
        have hvr : ¬ W k < r := by omega
        cases hL : L k with
        | true =>
          have e1 := (inr k hk).1 hL
          rw [← hWk, ef] at e1
          have q3 : ¬ W k = W lv := by
            intro q3
            have : k = lv := hone k lv hk hlv q3
            subst this
            rw [← hld] at m1
            unfold rN at m1
            rw [if_neg hne, hL, if_neg (by decide), if_neg hvr] at m1
            omega
          rw [if_neg q3] at hs'
          exact ⟨f + ld, e1, by omega, fun q2 => by rw [hWk, hs'] at q2; exact absurd q2 (by decide), by rw [hWk, hs']; decide, h42⟩
        | false =>
          rw [hL, if_pos rfl] at hm
          have e1 := (inr k hk).2 hL hm
          rw [← hWk, ef] at e1
          rw [← hWk, ef] at hm
          refine ⟨f - ld, e1, by omega, fun q2 => ?_, ?_, h42⟩
          · rw [hWk, hs'] at q2
            by_cases q3 : W k = W lv
            · have : k = lv := hone k lv hk hlv q3
              subst this
              have : ld = fl s (W k) := by
                rw [← hld]
                unfold rN
                rw [if_neg hne, hL, if_pos rfl]
              rw [← hWk, ef] at this
              omega
            · rw [if_neg q3] at q2
              exact absurd q2 (by decide)
          · rw [hWk, hs']
            by_cases q3 : W k = W lv
            · have : k = lv := hone k lv hk hlv q3
              subst this
              rw [if_pos rfl, if_neg (by rw [hL]; decide)]
              decide
            · rw [if_neg q3]
              decide
    · have hno : ∀ k, k < i + 1 + j → r + d ≠ W k := fun k hk e => q ⟨k, hk, e⟩
      have e1 := k5 (r + d) (by omega) hno
      have hs' := k6 (r + d) (by omega)
      rw [if_neg (fun e => hno i (by omega) (by rw [hWi]; exact e)), if_neg (hno lv hlv)] at hs'
      exact ⟨f, by rw [e1]; exact f1, by omega, fun q2 => f3 (by rw [← hs']; exact q2), by rw [hs']; exact f4, h42⟩
