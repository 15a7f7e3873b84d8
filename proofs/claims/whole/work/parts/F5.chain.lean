/-! ===== the wall: the first phase ends ===== -/
def zx_tq (n r : Nat) (b0 : Nat → Nat) (x : zx_T) (Q : Nat → Int) : Prop := prI n (vb r b0 x.1) (zx_ci r) x.2.1 x.2.2.1 Q
section
variable {n r : Nat} {b0 e0 : Nat → Nat}
theorem zx_tqe {x : zx_T} (hx : zx_ok n r b0 e0 x) : ∃ Q, zx_tq n r b0 x Q := by
  obtain ⟨s, up, par, rk, dp, pr⟩ := x
  obtain ⟨-, -, -, hT, -⟩ := hx
  exact zx_Qex (zx_ci r) hT
theorem zx_tqu {x : zx_T} {Q Q' : Nat → Int} (hx : zx_ok n r b0 e0 x) (h : zx_tq n r b0 x Q) (h' : zx_tq n r b0 x Q') {d : Nat} (hd : d < n) : Q' d = Q d := by
  obtain ⟨s, up, par, rk, dp, pr⟩ := x
  obtain ⟨-, -, -, hT, -⟩ := hx
  exact pr_un hT.1.1 h h' (rk d) d (Nat.le_refl _) (.inl hd)
theorem zx_potu {x : zx_T} {Q Q' : Nat → Int} (hx : zx_ok n r b0 e0 x) (h : zx_tq n r b0 x Q) (h' : zx_tq n r b0 x Q') : zx_pot n r x.1 Q' = zx_pot n r x.1 Q := by
  unfold zx_pot
  rw [sZ_cg n (fun d hd => zx_tqu hx h h' hd)]
theorem zx_rgu {x : zx_T} {Q Q' : Nat → Int} (hg : gS n r b0 e0) (hx : zx_ok n r b0 e0 x) (h : zx_tq n r b0 x Q) (h' : zx_tq n r b0 x Q') {v : Nat} (hv : zx_rg r b0 e0 x.1 Q' v) : zx_rg r b0 e0 x.1 Q v := by
  obtain ⟨h1, h2, h3⟩ := hv
  obtain ⟨g1, g2, -⟩ := hg.2.2 v h1
  unfold zx_cg at h3
  rw [zx_tqu hx h h' g1, zx_tqu hx h h' g2] at h3
  exact ⟨h1, h2, h3⟩
/-- one pivot -/
theorem zx_sB {x y : zx_T} {w z0 : Nat} {Q Q2 : Nat → Int} (hg : gS n r b0 e0) (hx : zx_ok n r b0 e0 x) (hR : zx_R n r b0 e0 x y w) (hz0 : ∀ v, v < r → v ≠ z0 → hl x.1 v ≠ 0) (hQ : zx_tq n r b0 x Q) (hQ2 : zx_tq n r b0 y Q2) :
    (∀ v, v < r → hl y.1 v = hl x.1 v) ∧ ((zx_rg r b0 e0 x.1 Q w ∧ zx_pot n r y.1 Q2 + 2 ≤ zx_pot n r x.1 Q) ∨
    (zC (r + n) (zx_ci r) y.1 = zC (r + n) (zx_ci r) x.1 ∧ (∀ d, d < n → Q2 d = Q d) ∧ (∀ v, v < r → Q (b0 v) ≠ Q (e0 v) → hl x.1 v ≠ 0 → y.1 (74 + v) = x.1 (74 + v) ∧ fl y.1 v = fl x.1 v) ∧
      ∀ v, zx_rg r b0 e0 x.1 Q v → zx_rg r b0 e0 y.1 Q2 v ∧ zx_W n r b0 e0 y.1 Q2 z0 v + 1 ≤ zx_W n r b0 e0 x.1 Q z0 v)) := by
  obtain ⟨s, up, par, rk, dp, pr⟩ := x
  obtain ⟨s', up2, par2, rk2, dp2, pr2⟩ := y
  have hp := zx_pure hg hx hR
  refine ⟨hp.2.1, zx_stB hg hx hR hz0 hQ ?_⟩
  obtain ⟨eqs, -, -, -, hC2, -⟩ := hp
  exact zx_prc (fun d hd => (eqs _ (hC2.2.2.1 d hd).1).1) hQ2
theorem zx_sM {x y : zx_T} {w z0 : Nat} {Q Q2 : Nat → Int} (hg : gS n r b0 e0) (hx : zx_ok n r b0 e0 x) (hR : zx_R n r b0 e0 x y w) (hz0 : ∀ v, v < r → v ≠ z0 → hl x.1 v ≠ 0) (hQ : zx_tq n r b0 x Q) (hQ2 : zx_tq n r b0 y Q2) : zx_pot n r y.1 Q2 ≤ zx_pot n r x.1 Q := by
  rcases (zx_sB hg hx hR hz0 hQ hQ2).2 with ⟨-, h⟩ | ⟨h1, h2, -⟩
  · omega
  · unfold zx_pot
    rw [h1, sZ_cg n h2]
    exact Int.le_refl _
theorem zx_ch_s {f : Nat → zx_T} {N : Nat} (h : zx_ch n r b0 e0 f (N + 1)) : zx_ch n r b0 e0 (fun i => f (i + 1)) N := ⟨fun i hi => h.1 (i + 1) (by omega), fun i hi => h.2 (i + 1) (by omega)⟩
theorem zx_ch_p {f : Nat → zx_T} {N M : Nat} (h : zx_ch n r b0 e0 f N) (hM : M ≤ N) : zx_ch n r b0 e0 f M := ⟨fun i hi => h.1 i (by omega), fun i hi => h.2 i (by omega)⟩
theorem zx_ch_h {f : Nat → zx_T} {N : Nat} (hg : gS n r b0 e0) (h : zx_ch n r b0 e0 f N) : ∀ i, i ≤ N → ∀ v, v < r → hl (f i).1 v = hl (f 0).1 v
  | 0, _, _, _ => rfl
  | i + 1, hi, v, hv => by
    obtain ⟨⟨w, hR⟩, -⟩ := h.2 i (by omega)
    have hx := h.1 i (by omega)
    rw [← zx_ch_h hg h i (by omega) v hv]
    rcases e1 : f i with ⟨s, up, par, rk, dp, pr⟩
    rcases e2 : f (i + 1) with ⟨s', up2, par2, rk2, dp2, pr2⟩
    rw [e1] at hx hR
    rw [e2] at hR
    exact (zx_pure hg hx hR).2.1 v hv
/-- as long as a way between the classes is good -/
theorem zx_phA {z0 : Nat} (hg : gS n r b0 e0) : ∀ (N : Nat) (f : Nat → zx_T), zx_ch n r b0 e0 f N → (∀ v, v < r → v ≠ z0 → hl (f 0).1 v ≠ 0) → ∀ (Q QN : Nat → Int) (w : Nat), zx_tq n r b0 (f 0) Q → zx_tq n r b0 (f N) QN → zx_rg r b0 e0 (f 0).1 Q w → (∀ i, i ≤ N → ∀ Q', zx_tq n r b0 (f i) Q' → ∃ v, zx_rg r b0 e0 (f i).1 Q' v) → (N : Int) ≤ 12 * (zx_pot n r (f 0).1 Q - zx_pot n r (f N).1 QN) + zx_W n r b0 e0 (f 0).1 Q z0 w
  | 0, f, h, hz0, Q, QN, w, hQ, hQN, hw, hall => by
    rw [zx_potu (h.1 0 (Nat.le_refl _)) hQ hQN]
    omega
  | N + 1, f, h, hz0, Q, QN, w, hQ, hQN, hw, hall => by
    obtain ⟨⟨w0, hR⟩, -⟩ := h.2 0 (by omega)
    have h0 := h.1 0 (by omega)
    have h1 := h.1 1 (by omega)
    obtain ⟨Q1, hQ1⟩ := zx_tqe h1
    obtain ⟨s1, s2⟩ := zx_sB hg h0 hR hz0 hQ hQ1
    have hz1 : ∀ v, v < r → v ≠ z0 → hl (f 1).1 v ≠ 0 := fun v hv hne => by
      rw [s1 v hv]
      exact hz0 v hv hne
    rcases s2 with ⟨-, a1⟩ | ⟨a1, a2, a3, a4⟩
    · obtain ⟨w1, hw1⟩ := hall 1 (by omega) Q1 hQ1
      have ih := zx_phA hg N (fun i => f (i + 1)) (zx_ch_s h) hz1 Q1 QN w1 hQ1 hQN hw1 (fun i hi Q' hQ' => hall (i + 1) (by omega) Q' hQ')
      have hW : zx_W n r b0 e0 (f 1).1 Q1 z0 w1 ≤ 23 := by
        rcases e1 : f 1 with ⟨s', up2, par2, rk2, dp2, pr2⟩
        rw [e1] at h1
        exact zx_W_le hg h1.1 (by rw [e1] at hw1; exact hw1.1)
      have ih' : (N : Int) ≤ 12 * (zx_pot n r (f 1).1 Q1 - zx_pot n r (f (N + 1)).1 QN) + zx_W n r b0 e0 (f 1).1 Q1 z0 w1 := ih
      have a1' : zx_pot n r (f 1).1 Q1 + 2 ≤ zx_pot n r (f 0).1 Q := a1
      omega
    · obtain ⟨b1, b2⟩ := a4 w hw
      have ih := zx_phA hg N (fun i => f (i + 1)) (zx_ch_s h) hz1 Q1 QN w hQ1 hQN b1 (fun i hi Q' hQ' => hall (i + 1) (by omega) Q' hQ')
      have ih' : (N : Int) ≤ 12 * (zx_pot n r (f 1).1 Q1 - zx_pot n r (f (N + 1)).1 QN) + zx_W n r b0 e0 (f 1).1 Q1 z0 w := ih
      have e : zx_pot n r (f 1).1 Q1 = zx_pot n r (f 0).1 Q := by
        unfold zx_pot
        rw [a1, sZ_cg n a2]
      rw [e] at ih'
      have b2' : zx_W n r b0 e0 (f 1).1 Q1 z0 w + 1 ≤ zx_W n r b0 e0 (f 0).1 Q z0 w := b2
      omega
/-- the first phase ends -/
theorem zx_tA {z0 N : Nat} {f : Nat → zx_T} {Q0 QN : Nat → Int} (hg : gS n r b0 e0) (h : zx_ch n r b0 e0 f N) (hz0 : ∀ v, v < r → v ≠ z0 → hl (f 0).1 v ≠ 0) (hQ0 : zx_tq n r b0 (f 0) Q0) (hQN : zx_tq n r b0 (f N) QN) (hN : 12 * (zx_pot n r (f 0).1 Q0 - zx_pot n r (f N).1 QN) + 23 < N) :
    ∃ t Q, t ≤ N ∧ zx_tq n r b0 (f t) Q ∧ (∀ v, ¬ zx_rg r b0 e0 (f t).1 Q v) ∧ (t : Int) ≤ 12 * (zx_pot n r (f 0).1 Q0 - zx_pot n r (f t).1 Q) + 24 := by
  -- some time without
  have hex : ∃ i, i ≤ N ∧ ∃ Q, zx_tq n r b0 (f i) Q ∧ ∀ v, ¬ zx_rg r b0 e0 (f i).1 Q v := by
    by_cases q : ∃ i, i ≤ N ∧ ∃ Q, zx_tq n r b0 (f i) Q ∧ ∀ v, ¬ zx_rg r b0 e0 (f i).1 Q v
    · exact q
    · exfalso
      have hall : ∀ i, i ≤ N → ∀ Q', zx_tq n r b0 (f i) Q' → ∃ v, zx_rg r b0 e0 (f i).1 Q' v := fun i hi Q' hQ' => by
        by_cases q2 : ∃ v, zx_rg r b0 e0 (f i).1 Q' v
        · exact q2
        · exact absurd ⟨i, hi, Q', hQ', fun v hv => q2 ⟨v, hv⟩⟩ q
      obtain ⟨w, hw⟩ := hall 0 (Nat.zero_le _) Q0 hQ0
      have h1 := zx_phA hg N f h hz0 Q0 QN w hQ0 hQN hw hall
      have h0 := h.1 0 (Nat.zero_le _)
      have hW : zx_W n r b0 e0 (f 0).1 Q0 z0 w ≤ 23 := by
        rcases e1 : f 0 with ⟨s', up2, par2, rk2, dp2, pr2⟩
        rw [e1] at h0
        exact zx_W_le hg h0.1 (by rw [e1] at hw; exact hw.1)
      omega
  obtain ⟨i0, hi0⟩ := hex
  obtain ⟨t, ⟨ht, Q, hQ, hno⟩, hmin⟩ := zw_min (P := fun i => i ≤ N ∧ ∃ Q, zx_tq n r b0 (f i) Q ∧ ∀ v, ¬ zx_rg r b0 e0 (f i).1 Q v) i0 hi0
  refine ⟨t, Q, ht, hQ, hno, ?_⟩
  cases t with
  | zero =>
    rw [zx_potu (h.1 0 (Nat.zero_le _)) hQ0 hQ]
    omega
  | succ t =>
    have hall : ∀ i, i ≤ t → ∀ Q', zx_tq n r b0 (f i) Q' → ∃ v, zx_rg r b0 e0 (f i).1 Q' v := fun i hi Q' hQ' => by
      by_cases q2 : ∃ v, zx_rg r b0 e0 (f i).1 Q' v
      · exact q2
      · have := hmin i ⟨by omega, Q', hQ', fun v hv => q2 ⟨v, hv⟩⟩
        omega
    obtain ⟨w, hw⟩ := hall 0 (Nat.zero_le _) Q0 hQ0
    obtain ⟨Qt, hQt⟩ := zx_tqe (h.1 t (by omega))
    have h1 := zx_phA hg t f (zx_ch_p h (by omega)) hz0 Q0 Qt w hQ0 hQt hw hall
    have h0 := h.1 0 (Nat.zero_le _)
    have hW : zx_W n r b0 e0 (f 0).1 Q0 z0 w ≤ 23 := by
      rcases e1 : f 0 with ⟨s', up2, par2, rk2, dp2, pr2⟩
      rw [e1] at h0
      exact zx_W_le hg h0.1 (by rw [e1] at hw; exact hw.1)
    obtain ⟨⟨w1, hR⟩, -⟩ := h.2 t (by omega)
    have h2 := zx_sM (z0 := z0) hg (h.1 t (by omega)) hR (fun v hv hne => by rw [zx_ch_h hg h t (by omega) v hv]; exact hz0 v hv hne) hQt hQ
    omega
/-- behind it the classes stay, and what lies between them -/
theorem zx_phB {z0 N t : Nat} {f : Nat → zx_T} {Q : Nat → Int} (hg : gS n r b0 e0) (h : zx_ch n r b0 e0 f N) (hz0 : ∀ v, v < r → v ≠ z0 → hl (f 0).1 v ≠ 0) (hQ : zx_tq n r b0 (f t) Q) (hno : ∀ v, ¬ zx_rg r b0 e0 (f t).1 Q v) : ∀ k, t + k ≤ N → (∃ Q', zx_tq n r b0 (f (t + k)) Q' ∧ (∀ d, d < n → Q' d = Q d) ∧ ∀ v, ¬ zx_rg r b0 e0 (f (t + k)).1 Q' v) ∧ ∀ v, v < r → Q (b0 v) ≠ Q (e0 v) → hl (f 0).1 v ≠ 0 → (f (t + k)).1 (74 + v) = (f t).1 (74 + v) ∧ fl (f (t + k)).1 v = fl (f t).1 v
  | 0, _ => ⟨⟨Q, hQ, fun _ _ => rfl, hno⟩, fun _ _ _ _ => ⟨rfl, rfl⟩⟩
  | k + 1, hk => by
    obtain ⟨⟨Q', q1, q2, q3⟩, q4⟩ := zx_phB hg h hz0 hQ hno k (by omega)
    obtain ⟨⟨w, hR⟩, -⟩ := h.2 (t + k) (by omega)
    have hx := h.1 (t + k) (by omega)
    have hy := h.1 (t + k + 1) (by omega)
    have hh := zx_ch_h hg h (t + k) (by omega)
    obtain ⟨Q2, hQ2⟩ := zx_tqe hy
    obtain ⟨s1, s2⟩ := zx_sB (z0 := z0) hg hx hR (fun v hv hne => by rw [hh v hv]; exact hz0 v hv hne) q1 hQ2
    rcases s2 with ⟨a1, -⟩ | ⟨a1, a2, a3, a4⟩
    · exact absurd a1 (q3 w)
    · refine ⟨⟨Q2, hQ2, fun d hd => (a2 d hd).trans (q2 d hd), fun v hv => ?_⟩, fun v hv hc hl0 => ?_⟩
      · obtain ⟨v1, v2, v3⟩ := hv
        obtain ⟨g1, g2, -⟩ := hg.2.2 v v1
        have hcr : Q' (b0 v) ≠ Q' (e0 v) := by
          have x1 := a2 _ g1
          have x2 := a2 _ g2
          rcases v3 with ⟨-, x, y⟩ | ⟨-, x, y⟩ <;> omega
        have v2' : hl (f (t + k)).1 v ≠ 0 := by rw [← s1 v v1]; exact v2
        refine q3 v ⟨v1, v2', ?_⟩
        unfold zx_cg at v3 ⊢
        have e74 : (f (t + k + 1)).1 (74 + v) = (f (t + k)).1 (74 + v) := (a3 v v1 hcr v2').1
        have v3' : (f (t + k + 1)).1 (74 + v) = 1 ∧ Q2 (b0 v) = -1 ∧ Q2 (e0 v) = 1 ∨ (f (t + k + 1)).1 (74 + v) = 2 ∧ Q2 (b0 v) = 1 ∧ Q2 (e0 v) = -1 := v3
        rw [e74, a2 _ g1, a2 _ g2] at v3'
        exact v3'
      · obtain ⟨g1, g2, -⟩ := hg.2.2 v hv
        have h1 := a3 v hv (by rw [q2 _ g1, q2 _ g2]; exact hc) (by rw [hh v hv]; exact hl0)
        have h2 := q4 v hv hc hl0
        exact ⟨h1.1.trans h2.1, h1.2.trans h2.2⟩
end
