/-! ===== bounds: prices, gains, flows, rooms ===== -/
theorem vc_bd {n r : Nat} {b0 e0 : Nat → Nat} {s : Nat → Int32} (hc : ∀ w, w < r → ∃ c, c ≤ 999 ∧ s (8 + w) = nI c) (w : Nat) : 0 ≤ (vc r s w).toInt ∧ (vc r s w).toInt ≤ 10000 := by
  unfold vc
  by_cases q : w < r
  · rw [if_pos q]
    obtain ⟨c, c1, c2⟩ := hc w q
    rw [c2, nI_toInt (by omega)]
    omega
  · rw [if_neg q]
    decide
theorem pr_bd {n r : Nat} {b0 e0 : Nat → Nat} {s : Nat → Int32} {up par rk dp : Nat → Nat} {pr : Nat → Int32} (hn : n ≤ 8) (hT : rT n r b0 e0 s up par rk dp pr) (hc : ∀ w, w < r → ∃ c, c ≤ 999 ∧ s (8 + w) = nI c) : ∀ (k p : Nat), dp p ≤ k → k ≤ 8 → (p < n ∨ p = 8) → -(10000 * (dp p : Int)) ≤ (pr p).toInt ∧ (pr p).toInt ≤ 10000 * (dp p : Int)
  | k, p, hk, hk8, hp => by
    rcases hp with hp | rfl
    · have h1 := hT.2.1.2 p hp
      have hpar := (hT.1.1.2.2.1 p hp).2.2.2.1
      cases k with
      | zero => omega
      | succ k =>
        obtain ⟨i1, i2⟩ := pr_bd (b0 := b0) (e0 := e0) hn hT hc k (par p) (by omega) (by omega) hpar
        obtain ⟨j1, j2⟩ := vc_bd (n := n) (b0 := b0) (e0 := e0) hc (up p)
        rw [hT.2.2.2 p hp]
        by_cases q : vb r b0 s (up p) = p
        · rw [if_pos q]
          have e1 : (0 - vc r s (up p)).toInt = - (vc r s (up p)).toInt := by
            rw [i32_sub (by show -2147483648 ≤ 0 - _; omega) (by show 0 - _ < 2147483648; omega)]
            show 0 - _ = _
            omega
          rw [i32_add (by rw [e1]; omega) (by rw [e1]; omega), e1]
          omega
        · rw [if_neg q, i32_add (by omega) (by omega)]
          omega
    · rw [hT.2.2.1, hT.2.1.1]
      decide
  termination_by k => k
theorem vg_bd {n r : Nat} {b0 e0 : Nat → Nat} {s : Nat → Int32} {up par rk dp : Nat → Nat} {pr : Nat → Int32} (hg : gS n r b0 e0) (hT : rT n r b0 e0 s up par rk dp pr) (hc : ∀ w, w < r → ∃ c, c ≤ 999 ∧ s (8 + w) = nI c) {w : Nat} (hw : w < r + n) : (vg r b0 e0 s pr w).toInt = (vc r s w).toInt + (pr (vb r b0 s w)).toInt - (pr (ve r e0 s w)).toInt ∧ -160000 ≤ (vg r b0 e0 s pr w).toInt ∧ (vg r b0 e0 s pr w).toInt ≤ 170000 := by
  have hn := hg.1
  have h1 := vc_bd (n := n) (b0 := b0) (e0 := e0) hc w
  have pb := gb_pl (s := s) hg hw
  have pe := ge_pl (s := s) hg hw
  have db := Nat.le_trans (td_le hT.1 hT.2.1 pb) hn
  have de := Nat.le_trans (td_le hT.1 hT.2.1 pe) hn
  have h2 := pr_bd (b0 := b0) (e0 := e0) hn hT hc 8 _ db (Nat.le_refl _) pb
  have h3 := pr_bd (b0 := b0) (e0 := e0) hn hT hc 8 _ de (Nat.le_refl _) pe
  unfold vg
  have e1 : (vc r s w + pr (vb r b0 s w)).toInt = (vc r s w).toInt + (pr (vb r b0 s w)).toInt := i32_add (by omega) (by omega)
  rw [i32_sub (by rw [e1]; omega) (by rw [e1]; omega), e1]
  omega
theorem zI_bd {g : Int32} (h1 : -160000 ≤ g.toInt) (h2 : g.toInt ≤ 170000) : (zI g).toInt = if 0 ≤ g.toInt then g.toInt else - g.toInt := by
  unfold zI
  by_cases q : 0 ≤ g
  · have q' := q
    rw [i32_le_iff] at q'
    rw [if_pos q, if_pos (by exact q')]
  · have q' := q
    rw [i32_le_iff] at q'
    have e0 : (0 : Int32).toInt = 0 := by decide
    rw [if_neg q, if_neg (by omega), i32_sub (by omega) (by omega), e0]
    omega
/-- a good way's gain has a size above 0 -/
theorem rG_pos {n r : Nat} {b0 e0 : Nat → Nat} {s : Nat → Int32} {up par rk dp : Nat → Nat} {pr : Nat → Int32} (hg : gS n r b0 e0) (hT : rT n r b0 e0 s up par rk dp pr) (hc : ∀ w, w < r → ∃ c, c ≤ 999 ∧ s (8 + w) = nI c) {w : Nat} (hw : w < r + n) (hG : vG r b0 e0 s pr w = true) : 0 < (rG r b0 e0 s pr w).toInt := by
  obtain ⟨h0, h1, h2⟩ := vg_bd hg hT hc hw
  have h3 := zI_bd h1 h2
  unfold rG
  unfold vG at hG
  rw [h3]
  have e0 : (0 : Int32).toInt = 0 := by decide
  rcases Bool.or_eq_true_iff.mp hG with q | q
  · have q1 := of_decide_eq_true (Bool.and_eq_true_iff.mp q).2
    rw [i32_lt_iff] at q1
    rw [if_neg (by omega)]
    omega
  · have q1 := of_decide_eq_true (Bool.and_eq_true_iff.mp q).2
    rw [i32_lt_iff] at q1
    rw [if_pos (by omega)]
    omega
/-- flows: what each way ships is from 0 to what it holds; an empty way ships nothing, a full one what it holds; F: what tenders ship at most -/
def fP (n r F : Nat) (s : Nat → Int32) : Prop := (∀ w, w < r → ∃ f h, s (50 + w) = nI f ∧ s (24 + w) = nI h ∧ f ≤ h ∧ h ≤ 999 ∧ (s (74 + w) = 1 → f = 0) ∧ (s (74 + w) = 2 → f = h)) ∧ ∀ d, d < n → ∃ f, s (50 + (r + d)) = nI f ∧ f ≤ F ∧ (s (74 + (r + d)) = 1 → f = 0) ∧ s (74 + (r + d)) ≠ 2 ∧ (s (42 + d) = 0 ∨ s (42 + d) = 1)
def fl (s : Nat → Int32) (w : Nat) : Nat := (s (50 + w)).toNatClampNeg
def hl (s : Nat → Int32) (w : Nat) : Nat := (s (24 + w)).toNatClampNeg
theorem fP_f {n r F : Nat} {s : Nat → Int32} (h : fP n r F s) (hF : F < 2 ^ 30) {w : Nat} (hw : w < r + n) : s (50 + w) = nI (fl s w) ∧ fl s w < 2 ^ 30 ∧ (w < r → s (24 + w) = nI (hl s w) ∧ fl s w ≤ hl s w ∧ hl s w ≤ 999) ∧ (r ≤ w → fl s w ≤ F) := by
  by_cases q : w < r
  · obtain ⟨f, g, h1, h2, h3, h4, -⟩ := h.1 w q
    have e1 : fl s w = f := by unfold fl; rw [h1, nI_clamp (by omega)]
    have e2 : hl s w = g := by unfold hl; rw [h2, nI_clamp (by omega)]
    rw [e1, e2]
    exact ⟨h1, by omega, fun _ => ⟨h2, h3, h4⟩, fun q2 => by omega⟩
  · obtain ⟨d, rfl⟩ : ∃ d, w = r + d := ⟨w - r, by omega⟩
    obtain ⟨f, h1, h2, -⟩ := h.2 d (by omega)
    have e1 : fl s (r + d) = f := by unfold fl; rw [h1, nI_clamp (by omega)]
    rw [e1]
    exact ⟨h1, by omega, fun q2 => absurd q2 q, fun _ => h2⟩
/-- room as a number; E: of a way that holds as much as one likes -/
def rN (r E : Nat) (s : Nat → Int32) (w v : Nat) (al : Bool) : Nat := if v = w then (if w < r then hl s w else E) else if al = false then fl s v else if v < r then hl s v - fl s v else E
theorem vr_N {n r F E : Nat} {s : Nat → Int32} (h : fP n r F s) (hF : F < 2 ^ 30) {w v : Nat} (hw : w < r + n) (hv : v < r + n) (al : Bool) : vr r s (nI E) w v al = nI (rN r E s w v al) := by
  obtain ⟨v1, v2, v3, v4⟩ := fP_f h hF hv
  obtain ⟨w1, w2, w3, w4⟩ := fP_f h hF hw
  unfold vr rN
  by_cases q : v = w
  · rw [if_pos q, if_pos q]
    by_cases q2 : w < r
    · rw [if_pos q2, if_pos q2]
      exact (w3 q2).1
    · rw [if_neg q2, if_neg q2]
  · rw [if_neg q, if_neg q]
    cases al with
    | false => exact v1
    | true =>
      rw [if_neg (show ¬ (true : Bool) = false by decide), if_neg (show ¬ (true : Bool) = false by decide)]
      by_cases q2 : v < r
      · rw [if_pos q2, if_pos q2, (v3 q2).1, v1, nI_sub (v3 q2).2.1]
      · rw [if_neg q2, if_neg q2]
theorem rN_lt {n r F E : Nat} {s : Nat → Int32} (h : fP n r F s) (hF : F < 2 ^ 30) (hE : E < 2 ^ 30) {w v : Nat} (hw : w < r + n) (hv : v < r + n) (al : Bool) : rN r E s w v al < 2 ^ 30 := by
  obtain ⟨v1, v2, v3, v4⟩ := fP_f h hF hv
  obtain ⟨w1, w2, w3, w4⟩ := fP_f h hF hw
  unfold rN
  by_cases q : v = w
  · rw [if_pos q]
    by_cases q2 : w < r
    · rw [if_pos q2]
      have := (w3 q2).2.2
      omega
    · rw [if_neg q2]
      exact hE
  · rw [if_neg q]
    cases al with
    | false => exact v2
    | true =>
      rw [if_neg (show ¬ (true : Bool) = false by decide)]
      by_cases q2 : v < r
      · rw [if_pos q2]
        have := (v3 q2).2.2
        omega
      · rw [if_neg q2]
        exact hE
theorem vb_t {r : Nat} {b0 : Nat → Nat} {s : Nat → Int32} {f : Nat} : vb r b0 s (r + f) = if s (42 + f) = 1 then f else 8 := by
  unfold vb
  rw [if_neg (by omega), Nat.add_sub_cancel_left]
theorem ve_t {r : Nat} {e0 : Nat → Nat} {s : Nat → Int32} {f : Nat} : ve r e0 s (r + f) = if s (42 + f) = 1 then 8 else f := by
  unfold ve
  rw [if_neg (by omega), Nat.add_sub_cancel_left]
/-- a ring has a route -/
theorem rg_route {n r : Nat} {b0 e0 : Nat → Nat} {s : Nat → Int32} {up par rk : Nat → Nat} (hg : gS n r b0 e0) (hC : tc_r n (r + n) (vb r b0 s) (ve r e0 s) (vT s) up par rk) {w i j : Nat} (hw : w < r + n) (hwT : ¬ vT s w) (ht : tap par (vA r b0 e0 s w) (vB r b0 e0 s w) i j) : ∃ k, k < i + 1 + j ∧ rgW up par w (vA r b0 e0 s w) (vB r b0 e0 s w) i k < r := by
  have hn := hg.1
  by_cases q : w < r
  · refine ⟨i, by omega, ?_⟩
    unfold rgW
    rw [if_neg (by omega), if_pos rfl]
    exact q
  · obtain ⟨d, rfl⟩ : ∃ d, w = r + d := ⟨w - r, by omega⟩
    have hd : d < n := by omega
    -- the way up of d is a route
    have hud : up d < r := by
      obtain ⟨a1, a2, a3, a4, a5⟩ := hC.2.2.1 d hd
      by_cases q2 : up d < r
      · exact q2
      · exfalso
        obtain ⟨f, hf⟩ : ∃ f, up d = r + f := ⟨up d - r, by omega⟩
        have : f = d := by
          rw [hf] at a3
          unfold tj at a3
          rw [vb_t, ve_t] at a3
          by_cases q3 : s (42 + f) = 1
          · simp only [if_pos q3] at a3
            omega
          · simp only [if_neg q3] at a3
            omega
        subst this
        exact hwT (hf ▸ a2)
    have h8 : ∀ k, it par k 8 = 8 := it_8 hC.2.1
    have hAB : (vA r b0 e0 s (r + d) = d ∧ vB r b0 e0 s (r + d) = 8) ∨ (vA r b0 e0 s (r + d) = 8 ∧ vB r b0 e0 s (r + d) = d) := by
      have hb : (vb r b0 s (r + d) = d ∧ ve r e0 s (r + d) = 8) ∨ (vb r b0 s (r + d) = 8 ∧ ve r e0 s (r + d) = d) := by
        rw [vb_t, ve_t]
        by_cases q3 : s (42 + d) = 1
        · simp only [if_pos q3]
          exact .inl ⟨trivial, trivial⟩
        · simp only [if_neg q3]
          exact .inr ⟨trivial, trivial⟩
      unfold vA vB
      by_cases q3 : s (74 + (r + d)) = 1
      · rw [if_pos q3, if_pos q3]
        exact hb
      · rw [if_neg q3, if_neg q3]
        rcases hb with ⟨a, b⟩ | ⟨a, b⟩
        · exact .inr ⟨b, a⟩
        · exact .inl ⟨b, a⟩
    rcases hAB with ⟨eA, eB⟩ | ⟨eA, eB⟩
    · rw [eA, eB] at ht ⊢
      have hi : 0 < i := by
        rcases Nat.eq_zero_or_pos i with e | e
        · exfalso
          have := ht.1
          rw [e, h8] at this
          have h9 : d = 8 := this
          omega
        · exact e
      refine ⟨i - 1, by omega, ?_⟩
      unfold rgW
      rw [if_pos (by omega), show i - 1 - (i - 1) = 0 by omega]
      exact hud
    · rw [eA, eB] at ht ⊢
      have hj : 0 < j := by
        rcases Nat.eq_zero_or_pos j with e | e
        · exfalso
          have := ht.1
          rw [e, h8] at this
          have h9 : (8 : Nat) = d := this
          omega
        · exact e
      refine ⟨i + 1, by omega, ?_⟩
      unfold rgW
      rw [if_neg (by omega), if_neg (by omega), show i + 1 - i - 1 = 0 by omega]
      exact hud
theorem rN_route {n r F E : Nat} {s : Nat → Int32} (h : fP n r F s) (hF : F < 2 ^ 30) {w v : Nat} (hw : w < r + n) (hv : v < r) (al : Bool) : rN r E s w v al ≤ 999 := by
  obtain ⟨v1, v2, v3, v4⟩ := fP_f h hF (show v < r + n by omega)
  have := v3 hv
  unfold rN
  by_cases q : v = w
  · subst q
    rw [if_pos rfl, if_pos hv]
    omega
  · rw [if_neg q]
    cases al with
    | false => simp; omega
    | true => simp [hv]; omega
/-- the least room, as a number: the same for either way to say endless -/
theorem lmin_N {n r F : Nat} {s : Nat → Int32} (h : fP n r F s) (hF : F < 2 ^ 30) {w M lv : Nat} {W : Nat → Nat} {L : Nat → Bool} (hw : w < r + n) (hW : ∀ k, k < M → W k < r + n) (hR : ∃ k, k < M ∧ W k < r) (hl : lmin (fun k => vr r s 1000000000 w (W k) (L k)) M lv) : rN r 1000000 s w (W lv) (L lv) ≤ 999 ∧ vr r s 1000000000 w (W lv) (L lv) = nI (rN r 1000000 s w (W lv) (L lv)) ∧ vr r s 1000000 w (W lv) (L lv) = nI (rN r 1000000 s w (W lv) (L lv)) ∧ lmin (fun k => vr r s 1000000 w (W k) (L k)) M lv ∧ (∀ k, k < M → rN r 1000000 s w (W lv) (L lv) ≤ rN r 1000000 s w (W k) (L k)) ∧ (∀ k, lv < k → k < M → rN r 1000000 s w (W lv) (L lv) < rN r 1000000 s w (W k) (L k)) := by
  have e9 : ∀ k, k < M → vr r s 1000000000 w (W k) (L k) = nI (rN r 1000000000 s w (W k) (L k)) := fun k hk => vr_N (E := 1000000000) h hF hw (hW k hk) (L k)
  have e6 : ∀ k, k < M → vr r s 1000000 w (W k) (L k) = nI (rN r 1000000 s w (W k) (L k)) := fun k hk => vr_N (E := 1000000) h hF hw (hW k hk) (L k)
  have b9 : ∀ k, k < M → rN r 1000000000 s w (W k) (L k) < 2 ^ 30 := fun k hk => rN_lt h hF (by omega) hw (hW k hk) (L k)
  have b6 : ∀ k, k < M → rN r 1000000 s w (W k) (L k) < 2 ^ 30 := fun k hk => rN_lt h hF (by omega) hw (hW k hk) (L k)
  have dif : ∀ k, rN r 1000000000 s w (W k) (L k) = rN r 1000000 s w (W k) (L k) ∨ (rN r 1000000000 s w (W k) (L k) = 1000000000 ∧ rN r 1000000 s w (W k) (L k) = 1000000) := by
    intro k
    unfold rN
    by_cases q : W k = w
    · rw [if_pos q, if_pos q]
      by_cases q2 : w < r
      · rw [if_pos q2, if_pos q2]; exact .inl rfl
      · rw [if_neg q2, if_neg q2]; exact .inr ⟨rfl, rfl⟩
    · rw [if_neg q, if_neg q]
      by_cases q3 : L k = false
      · rw [if_pos q3, if_pos q3]; exact .inl rfl
      · rw [if_neg q3, if_neg q3]
        by_cases q4 : W k < r
        · rw [if_pos q4, if_pos q4]; exact .inl rfl
        · rw [if_neg q4, if_neg q4]; exact .inr ⟨rfl, rfl⟩
  obtain ⟨l1, l2, l3⟩ := hl
  obtain ⟨k0, k1, k2⟩ := hR
  have m9 : rN r 1000000000 s w (W lv) (L lv) ≤ 999 := by
    have h1 := l2 k0 k1
    dsimp only at h1
    rw [e9 lv l1, e9 k0 k1, nI_leI (by have := b9 lv l1; omega) (by have := b9 k0 k1; omega)] at h1
    have := rN_route (E := 1000000000) h hF hw k2 (L k0)
    omega
  have elv : rN r 1000000000 s w (W lv) (L lv) = rN r 1000000 s w (W lv) (L lv) := by
    rcases dif lv with q | q
    · exact q
    · omega
  have min6 : ∀ k, k < M → rN r 1000000 s w (W lv) (L lv) ≤ rN r 1000000 s w (W k) (L k) := fun k hk => by
    have h1 := l2 k hk
    dsimp only at h1
    rw [e9 lv l1, e9 k hk, nI_leI (by have := b9 lv l1; omega) (by have := b9 k hk; omega)] at h1
    have := dif k
    omega
  have str6 : ∀ k, lv < k → k < M → rN r 1000000 s w (W lv) (L lv) < rN r 1000000 s w (W k) (L k) := fun k hk1 hk => by
    have h1 := l3 k hk1 hk
    dsimp only at h1
    rw [e9 lv l1, e9 k hk, nI_ltI (by have := b9 lv l1; omega) (by have := b9 k hk; omega)] at h1
    have := dif k
    omega
  refine ⟨by omega, by rw [e9 lv l1, elv], e6 lv l1, ⟨l1, fun k hk => ?_, fun k hk1 hk => ?_⟩, min6, str6⟩
  · dsimp only
    rw [e6 lv l1, e6 k hk, nI_leI (by have := b6 lv l1; omega) (by have := b6 k hk; omega)]
    exact min6 k hk
  · dsimp only
    rw [e6 lv l1, e6 k hk, nI_ltI (by have := b6 lv l1; omega) (by have := b6 k hk; omega)]
    exact str6 k hk1 hk
