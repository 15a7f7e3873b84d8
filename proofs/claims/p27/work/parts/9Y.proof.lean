/-! ===== proof ===== -/
def itF {α : Type} (g : Nat → α → α) : Nat → α → α
  | 0, c => c
  | n + 1, c => g n (itF g n c)
theorem lp_it {α : Type} {f : α × Int32 → Option (α ⊕ (α × Int32))} {N : Nat} {g : Nat → α → α} {c0 : α} (hN : N < 5000) (hstop : ∀ c, f (c, nI N) = some (.inl c)) (hstep : ∀ k, k < N → ∀ c, f (c, nI k) = some (.inr (g k c, nI (k + 1)))) : gj_lp f 5000 (c0, 0) = some (itF g N c0) := by
  have main : ∀ (d k : Nat), k + d = N → ∀ fu, d < fu → gj_lp f fu (itF g k c0, nI k) = some (itF g N c0) := by
    intro d
    induction d with
    | zero =>
      intro k hk fu hfu
      obtain ⟨fu', rfl⟩ : ∃ x, fu = x + 1 := ⟨fu - 1, by omega⟩
      obtain rfl : k = N := by omega
      rw [gj_lp_e (hstop _)]
    | succ d ih =>
      intro k hk fu hfu
      obtain ⟨fu', rfl⟩ : ∃ x, fu = x + 1 := ⟨fu - 1, by omega⟩
      rw [gj_lp_g (hstep k (by omega) _)]
      exact ih (k + 1) (by omega) fu' (by omega)
  exact main N 0 (by omega) 5000 hN
def sL (v : Nat → Int64) : Nat → Int64
  | 0 => 0
  | n + 1 => sL v n + v n
theorem it_addL {v : Nat → Int64} : ∀ (n : Nat) (c : Int64), itF (fun k x => x + v k) n c = c + sL v n
  | 0, c => by
    show c = c + 0
    apply Int64.toBitVec_inj.mp
    simp
  | n + 1, c => by
    show itF (fun k x => x + v k) n c + v n = c + (sL v n + v n)
    rw [it_addL n c]
    apply Int64.toBitVec_inj.mp
    simp [BitVec.add_assoc]
theorem it_subL {v : Nat → Int64} : ∀ (n : Nat) (c : Int64), itF (fun k x => x - v k) n c = c - sL v n
  | 0, c => by
    show c = c - 0
    apply Int64.toBitVec_inj.mp
    simp
  | n + 1, c => by
    show itF (fun k x => x - v k) n c - v n = c - (sL v n + v n)
    rw [it_subL n c]
    apply Int64.toBitVec_inj.mp
    simp only [Int64.toBitVec_sub, Int64.toBitVec_add]
    rw [BitVec.sub_eq_add_neg, BitVec.sub_eq_add_neg, BitVec.sub_eq_add_neg, BitVec.neg_add, BitVec.sub_eq_add_neg, BitVec.add_assoc]
/-- a route's part of the proof, a dock's -/
def vpr (r : Nat) (b0 e0 : Nat → Nat) (s : Nat → Int32) (pr : Nat → Int32) (w : Nat) : Int64 := if 0 ≤ vg r b0 e0 s pr w then 0 else (vg r b0 e0 s pr w).toInt64 * (s (24 + w)).toInt64
def vpd (s : Nat → Int32) (pr : Nat → Int32) (d : Nat) : Int64 := (s d).toInt64 * (pr d).toInt64
theorem c8_proof {n r y : Nat} {b0 e0 : Nat → Nat} {s : Nat → Int32} {up par rk dp : Nat → Nat} {pr : Nat → Int32} {σ : gj_S} (h : cL n r b0 e0 s up par rk dp pr y σ) : f_X7_sumProof y σ = some (0 + sL (vpr r b0 e0 s pr) r - sL (vpd s pr) n) := by
  have hn := h.1.1
  have hr := h.1.2.1
  unfold f_X7_sumProof
  rw [lp_it (N := r) (g := fun k x => x + vpr r b0 e0 s pr k) (by omega) (fun c => ?_) (fun k hk c => ?_), it_addL]
  · dsimp only [Option.bind_some]
    rw [lp_it (N := n) (g := fun k x => x - vpd s pr k) (by omega) (fun c => ?_) (fun k hk c => ?_), it_subL]
    · rfl
    · unfold fb_X7_sumProof_l47
      dsimp only
      rw [h.2.1.1, if_pos (nI_le (by omega) (by omega))]
    · unfold fb_X7_sumProof_l47
      dsimp only
      rw [h.2.1.1, if_neg (nI_ge hk (by omega)), if_pos (gi (show k < 8 by omega) (by omega)), if_pos (gi (show k < 9 by omega) (by omega)), nI_clamp (by omega), h.2.1.2.2.2.2.1 k hk, cL_P h (.inl hk), nI_1]
      rfl
  · unfold fb_X7_sumProof_l4
    dsimp only
    rw [h.2.1.2.1, if_pos (nI_le (by omega) (by omega))]
  · unfold fb_X7_sumProof_l4
    dsimp only
    rw [h.2.1.2.1, if_neg (nI_ge hk (by omega)), c8_gain h (show k < r + n by omega)]
    dsimp only [Option.bind_some]
    have e5 := (h.2.1.2.2.2.2.2 k (by omega)).2.2.2.1
    rw [if_pos hk] at e5
    rw [if_pos (gi (show k < 24 by omega) (by omega)), nI_clamp (by omega), e5, nI_1]
    unfold vpr
    generalize vg r b0 e0 s pr k = g
    have ez : (0 : Int32).toInt = 0 := by decide
    have z0 : ∀ x : Int64, Int32.toInt64 0 * x = 0 := fun x => by
      apply Int64.toBitVec_inj.mp
      simp
    by_cases q : 0 ≤ g
    · rw [if_pos q]
      by_cases q2 : 0 < g
      · rw [if_pos q2, z0]
      · have : g = 0 := Int32.toInt_inj.mp (by rw [i32_le_iff] at q; rw [i32_lt_iff] at q2; rw [ez]; omega)
        rw [if_neg q2, this, z0]
    · rw [if_neg q, if_neg (fun q2 => q (by rw [i32_lt_iff] at q2; rw [i32_le_iff]; omega))]
theorem r9_proof {n r : Nat} {b0 e0 : Nat → Nat} {up par rk dp : Nat → Nat} {pr : Nat → Int32} {τ : gj_S} (h : rL n r b0 e0 up par rk dp pr τ) : ((gj_lp (fb_X9_proof_l13 τ) 5000 ((0 : Int64), (0 : Int32))).bind fun z2 => ((gj_lp (fb_X9_proof_l51 τ) 5000 (z2, (0 : Int32))).bind fun z3 => some (z3, τ))) = some (0 - sL (vpd (τ.1 198) pr) n + sL (vpr r b0 e0 (τ.1 198) pr) r, τ) := by
  have hn := h.1.1
  have hr := h.1.2.1
  rw [lp_it (N := n) (g := fun k x => x - vpd (τ.1 198) pr k) (by omega) (fun c => ?_) (fun k hk c => ?_), it_subL]
  · dsimp only [Option.bind_some]
    rw [lp_it (N := r) (g := fun k x => x + vpr r b0 e0 (τ.1 198) pr k) (by omega) (fun c => ?_) (fun k hk c => ?_), it_addL]
    · rfl
    · unfold fb_X9_proof_l51
      dsimp only
      rw [if_pos (gj0 (by decide)), if_pos (show τ.1 191 (Int32.toNatClampNeg 0) ≤ nI r by rw [rd0, h.1.2.2.2.1]; exact nI_le (by omega) (by omega))]
    · unfold fb_X9_proof_l51
      dsimp only
      rw [if_pos (gj0 (by decide)), if_neg (show ¬ τ.1 191 (Int32.toNatClampNeg 0) ≤ nI k by rw [rd0, h.1.2.2.2.1]; exact nI_ge hk (by omega)), r9_gain h (show k < r + n by omega)]
      dsimp only [Option.bind_some]
      simp only [show (24 : Int32) = nI 24 from rfl, nI_add, nI_clamp (show 24 + k < 2 ^ 31 by omega)]
      rw [if_pos (gi (show 24 + k < 180 by omega) (by omega)), nI_1]
      unfold vpr
      by_cases q : 0 ≤ vg r b0 e0 (τ.1 198) pr k
      · rw [if_pos q, if_pos q]
      · rw [if_neg q, if_neg q]
  · unfold fb_X9_proof_l13
    dsimp only
    rw [if_pos (gj0 (by decide)), if_pos (show τ.1 190 (Int32.toNatClampNeg 0) ≤ nI n by rw [rd0, h.1.2.2.1]; exact nI_le (by omega) (by omega))]
  · unfold fb_X9_proof_l13
    dsimp only
    have e0k : (0 : Int32) + nI k = nI k := by rw [show (0 : Int32) = nI 0 from rfl, nI_add, Nat.zero_add]
    rw [if_pos (gj0 (by decide)), if_neg (show ¬ τ.1 190 (Int32.toNatClampNeg 0) ≤ nI k by rw [rd0, h.1.2.2.1]; exact nI_ge hk (by omega))]
    simp only [e0k, nI_clamp (show k < 2 ^ 31 by omega), rL_P h (.inl hk)]
    rw [if_pos (gi (show k < 180 by omega) (by omega)), if_pos (gi (show k < 9 by omega) (by omega)), nI_1]
    rfl
