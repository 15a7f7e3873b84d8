/-! ===== text: names given and asked for, numbers ===== -/
theorem lp_find2 {β : Type} {f : Int32 × gj_S → Option ((β ⊕ gj_S) ⊕ (Int32 × gj_S))} {σ : gj_S} {N : Nat} {p : Nat → Bool} {res : β} (hN : N < 5000) (hstop : f (nI N, σ) = some (.inl (.inr σ))) (hstep : ∀ k, k < N → f (nI k, σ) = if p k = true then some (.inl (.inl res)) else some (.inr (nI (k + 1), σ))) : gj_lp f 5000 (0, σ) = some (match fi p N 0 with | some _ => .inl res | none => .inr σ) := by
  have main : ∀ (d k : Nat), k + d = N → ∀ fu, d < fu → gj_lp f fu (nI k, σ) = some (match fi p d k with | some _ => .inl res | none => .inr σ) := by
    intro d
    induction d with
    | zero =>
      intro k hk fu hfu
      obtain ⟨fu', rfl⟩ : ∃ x, fu = x + 1 := ⟨fu - 1, by omega⟩
      obtain rfl : k = N := by omega
      rw [gj_lp_e hstop]
      rfl
    | succ d ih =>
      intro k hk fu hfu
      obtain ⟨fu', rfl⟩ : ∃ x, fu = x + 1 := ⟨fu - 1, by omega⟩
      have h1 := hstep k (by omega)
      unfold fi
      by_cases q : p k = true
      · rw [if_pos q] at h1
        rw [gj_lp_e h1, if_pos q]
      · rw [if_neg q] at h1
        rw [gj_lp_g h1, if_neg q]
        exact ih (k + 1) (by omega) fu' (by omega)
  exact main N 0 (by omega) 5000 hN
def nmF (y : Nat → Int32) (N p : Nat) (A : pA) : Nat := if isN y N p = false then 1 else if fdN y N p A = none ∧ frN y N p A = none then 0 else 2
def nbF (y : Nat → Int32) (N p lo hi : Nat) : Nat := if tk y N p = 1 then (if lo ≤ tn y N p ∧ tn y N p ≤ hi then 0 else 3) else 1
def dkF (y : Nat → Int32) (N p : Nat) (A : pA) (but : Int32) : Nat := if isN y N p = false then 1 else if oI (fdN y N p A) = -1 ∨ oI (fdN y N p A) = but then 4 else 0
def flt8 (σ : gj_S) (F : Nat) : gj_S := gj_sI σ 2 (upd (σ.1 2) 4 (nI F))
theorem isN_0 {y : Nat → Int32} {N p : Nat} (h : isN y N p = true) : tk y N p = 0 := of_decide_eq_true (Bool.and_eq_true_iff.mp h).1
theorem c8_fl {y : Nat → Int32} {N p k : Nat} {σ : gj_S} (h : TK8 y N p σ) : f_X2_fails (nI k) σ = some (0, flt8 σ (8 * tq y N p + k)) := by
  unfold f_X2_fails flt8
  rw [h.2.1, show (8 : Int32) = nI 8 from rfl, nI_mul, nI_add]
theorem c8_nn {y : Nat → Int32} {N p : Nat} {A : pA} {σ : gj_S} (h : TK8 y N p σ) (hP : P8 A σ) (hW : WF A) : f_X2_isNewName σ = some (if nmF y N p A = 0 then (1, σ) else (0, flt8 σ (8 * tq y N p + nmF y N p A))) := by
  have hr := hW.2.1
  unfold f_X2_isNewName
  rw [c8_isName h]
  cases hb : isN y N p with
  | false =>
    have e : nmF y N p A = 1 := by
      unfold nmF
      rw [hb, if_pos rfl]
    dsimp only [Option.bind_some]
    rw [e, if_pos (show bI false = 0 from rfl), if_neg (show ¬ (1 : Nat) = 0 by decide), show (1 : Int32) = nI 1 from rfl, c8_fl h]
    rfl
  | true =>
    have q := isN_0 hb
    dsimp only [Option.bind_some]
    rw [if_neg (show ¬ bI true = 0 by decide), c8_noD h hP.1 (fun d hd => (hP.2.2.2.2.1 d hd).1) hW q]
    dsimp only [Option.bind_some]
    cases hd : fdN y N p A with
    | some k =>
      have hk := (fi_lt _ _ _ hd).2.1
      have hk8 := hW.1
      have e : nmF y N p A = 2 := by
        unfold nmF
        rw [hb, hd, if_neg (by decide), if_neg (show ¬ (some k = none ∧ frN y N p A = none) from fun x => by cases x.1)]
      rw [e, if_neg (show ¬ oI (some k) = -1 from nI_m1 (by omega)), if_neg (show ¬ (2 : Nat) = 0 by decide), show (2 : Int32) = nI 2 from rfl, c8_fl h]
      rfl
    | none =>
      rw [if_pos (show oI none = -1 from rfl)]
      rw [lp_find2 (N := A.1.2) (p := fun k => decide (A.2.2.1 k = tw y N p)) (res := ((0 : Int32), flt8 σ (8 * tq y N p + 2))) (by omega) ?_ (fun k hk => ?_)]
      · dsimp only [Option.bind_some]
        rw [show fi (fun k => decide (A.2.2.1 k = tw y N p)) A.1.2 0 = frN y N p A from rfl]
        cases hr : frN y N p A with
        | none =>
          have e : nmF y N p A = 0 := by
            unfold nmF
            rw [hb, hd, hr, if_neg (by decide), if_pos (show (none : Option Nat) = none ∧ (none : Option Nat) = none from ⟨rfl, rfl⟩)]
          rw [e, if_pos rfl]
          rfl
        | some k =>
          have e : nmF y N p A = 2 := by
            unfold nmF
            rw [hb, hd, hr, if_neg (by decide), if_neg (show ¬ ((none : Option Nat) = none ∧ some k = none) from fun x => by cases x.2)]
          rw [e, if_neg (show ¬ (2 : Nat) = 0 by decide)]
          rfl
      · unfold fb_X2_isNewName_l29
        dsimp only
        rw [hP.2.1, if_pos (nI_le (Nat.le_refl _) (by omega))]
      · unfold fb_X2_isNewName_l29
        dsimp only
        rw [hP.2.1, if_neg (nI_ge hk (by omega)), if_pos (gi (by omega) (by omega)), nI_clamp (by omega), (hP.2.2.2.2.2 k hk).1, h.2.2.2.1 q, nI_1]
        have e := pk8_inj (hW.2.2.2.1 k hk).1 (tw_ok q).1
        by_cases q2 : A.2.2.1 k = tw y N p
        · rw [if_pos ((lg_cmp_eq _ _).mpr (e.mpr q2)), if_pos (decide_eq_true q2), show (2 : Int32) = nI 2 from rfl, c8_fl h]
          rfl
        · rw [if_neg (fun x => q2 (e.mp ((lg_cmp_eq _ _).mp x))), if_neg (fun x => q2 (of_decide_eq_true x))]
theorem tn_lt {y : Nat → Int32} {N p : Nat} (h : tk y N p = 1) : tn y N p < 10000 := by
  have hk : ¬ N ≤ tq y N p ∧ kof (y (tq y N p)) = 1 ∧ te y N p - tq y N p ≤ 4 := by
    unfold tk at h
    by_cases q : N ≤ tq y N p
    · rw [if_pos q] at h
      omega
    · rw [if_neg q] at h
      by_cases q0 : kof (y (tq y N p)) = 0
      · rw [if_pos q0] at h
        split at h <;> omega
      · rw [if_neg q0] at h
        by_cases q1 : kof (y (tq y N p)) = 1
        · rw [if_pos q1] at h
          refine ⟨q, q1, ?_⟩
          by_cases q6 : te y N p - tq y N p ≤ 4
          · exact q6
          · rw [if_neg q6] at h
            omega
        · rw [if_neg q1] at h
          exact absurd h q1
  obtain ⟨k1, k2, k3⟩ := hk
  have ete : te y N p = scan (byK y 1) N (tq y N p) := by
    unfold te
    rw [if_neg k1, k2, if_pos (by omega)]
  have := nvF_lt (y := y) (q := tq y N p) (te y N p - tq y N p) (fun i hi => of_decide_eq_true (scan_P (P := byK y 1) (N := N) (p := tq y N p) (by omega) (by rw [← ete]; omega)))
  have h4 : 10 ^ (te y N p - tq y N p) ≤ 10 ^ 4 := Nat.pow_le_pow_right (by omega) k3
  unfold tn
  omega
theorem c8_nb {y : Nat → Int32} {N p lo hi : Nat} {σ : gj_S} (h : TK8 y N p σ) (hl : lo < 2 ^ 31) (hh : hi < 2 ^ 31) : f_X2_isNumber (nI lo) (nI hi) σ = some (if nbF y N p lo hi = 0 then (1, σ) else (0, flt8 σ (8 * tq y N p + nbF y N p lo hi))) := by
  unfold f_X2_isNumber nbF
  have h0 : σ.1 2 7 = 1 ↔ tk y N p = 1 := TK8_0 h (k := 1) (by omega)
  by_cases q : tk y N p = 1
  · have ht := tn_lt q
    have e1 : (Int64.ofNat (tn y N p)).toInt = tn y N p := Int64.toInt_ofNat_of_lt (by omega)
    have e2 : (nI lo).toInt64.toInt = lo := by rw [Int32.toInt_toInt64, nI_toInt hl]
    have e3 : (nI hi).toInt64.toInt = hi := by rw [Int32.toInt_toInt64, nI_toInt hh]
    rw [if_pos (h0.mpr q), if_pos q, h.2.2.2.2 q]
    have c1 : (lg_cmp (Int64.ofNat (tn y N p)) (nI lo).toInt64 < 0) ↔ tn y N p < lo := by
      rw [lg_cmp_lt, Int64.lt_iff_toInt_lt, e1, e2]
      omega
    have c2 : (lg_cmp (Int64.ofNat (tn y N p)) (nI hi).toInt64 ≤ 0) ↔ tn y N p ≤ hi := by
      rw [show (lg_cmp (Int64.ofNat (tn y N p)) (nI hi).toInt64 ≤ 0) ↔ ¬ (0 < lg_cmp (Int64.ofNat (tn y N p)) (nI hi).toInt64) by rw [i32_le_iff, i32_lt_iff]; omega, lg_cmp_gt, Int64.lt_iff_toInt_lt, e1, e3]
      omega
    by_cases a : tn y N p < lo
    · rw [if_pos (c1.mpr a), if_neg (show ¬ (lo ≤ tn y N p ∧ tn y N p ≤ hi) by omega), show (3 : Int32) = nI 3 from rfl, c8_fl h]
      rfl
    · rw [if_neg (fun x => a (c1.mp x))]
      by_cases b : tn y N p ≤ hi
      · rw [if_pos (c2.mpr b), if_pos (show lo ≤ tn y N p ∧ tn y N p ≤ hi by omega)]
        rfl
      · rw [if_neg (fun x => b (c2.mp x)), if_neg (show ¬ (lo ≤ tn y N p ∧ tn y N p ≤ hi) by omega), show (3 : Int32) = nI 3 from rfl, c8_fl h]
        rfl
  · rw [if_neg (fun x => q (h0.mp x)), if_neg q, show (1 : Int32) = nI 1 from rfl, c8_fl h]
    rfl
theorem c8_fd {y : Nat → Int32} {N p : Nat} {A : pA} {σ : gj_S} (but : Int32) (h : TK8 y N p σ) (h3 : σ.1 3 0 = nI A.1.1) (h13 : ∀ d, d < A.1.1 → σ.2.1 13 d = pk8 (A.2.1 d)) (hW : WF A) : f_X2_findDock but σ = some (if dkF y N p A but = 0 then (oI (fdN y N p A), σ) else (-1, flt8 σ (8 * tq y N p + dkF y N p A but))) := by
  unfold f_X2_findDock
  rw [c8_isName h]
  cases hb : isN y N p with
  | false =>
    have e : dkF y N p A but = 1 := by
      unfold dkF
      rw [hb, if_pos rfl]
    dsimp only [Option.bind_some]
    rw [e, if_pos (show bI false = 0 from rfl)]
    dsimp only [Option.bind_some]
    rw [if_pos rfl, if_pos (show bI false = 0 from rfl), if_neg (show ¬ (1 : Nat) = 0 by decide), show f_X2_fails 1 σ = some (0, flt8 σ (8 * tq y N p + 1)) from c8_fl (k := 1) h]
    rfl
  | true =>
    have q := isN_0 hb
    dsimp only [Option.bind_some]
    rw [if_neg (show ¬ bI true = 0 by decide), c8_noD h h3 h13 hW q]
    dsimp only [Option.bind_some]
    have f4 : f_X2_fails 4 σ = some (0, flt8 σ (8 * tq y N p + 4)) := c8_fl (k := 4) h
    by_cases q1 : oI (fdN y N p A) = -1
    · have e : dkF y N p A but = 4 := by
        unfold dkF
        rw [hb, if_neg (by decide), if_pos (show oI (fdN y N p A) = -1 ∨ oI (fdN y N p A) = but from .inl q1)]
      rw [e, if_pos q1, if_neg (show ¬ bI true = 0 by decide), if_neg (show ¬ (4 : Nat) = 0 by decide), f4]
      rfl
    · rw [if_neg q1]
      by_cases q2 : oI (fdN y N p A) = but
      · have e : dkF y N p A but = 4 := by
          unfold dkF
          rw [hb, if_neg (by decide), if_pos (show oI (fdN y N p A) = -1 ∨ oI (fdN y N p A) = but from .inr q2)]
        rw [e, if_pos q2, if_neg (show ¬ bI true = 0 by decide), if_neg (show ¬ (4 : Nat) = 0 by decide), f4]
        rfl
      · have e : dkF y N p A but = 0 := by
          unfold dkF
          rw [hb, if_neg (by decide), if_neg (show ¬ (oI (fdN y N p A) = -1 ∨ oI (fdN y N p A) = but) from fun x => x.elim q1 q2)]
        rw [e, if_neg q2, if_pos rfl]
/-! the reference's -/
def flt9 (σ : gj_S) (k : Nat) : gj_S := gj_sI (gj_sI σ 188 (upd (σ.1 188) 9 (nI k))) 188 (upd ((gj_sI σ 188 (upd (σ.1 188) 9 (nI k))).1 188) 10 ((gj_sI σ 188 (upd (σ.1 188) 9 (nI k))).1 188 4))
theorem r9_must {k : Nat} {σ : gj_S} (b : Bool) (hf : σ.1 188 9 = 0) (h1 : 1 ≤ k) (h2 : k ≤ 5) : f_X9_must (bI b) (nI k) σ = some (if b = true then (1, σ) else (0, flt9 σ k)) := by
  unfold f_X9_must
  rw [if_pos hf]
  cases b with
  | true =>
    rw [if_neg (show ¬ bI true = 0 by decide)]
    dsimp only [Option.bind_some]
    rw [if_pos hf, if_pos rfl]
  | false =>
    rw [if_pos (show bI false = 0 by decide)]
    have e : (flt9 σ k).1 188 9 = nI k := by
      unfold flt9
      rw [sI_eq, up_ne (by decide), sI_eq, up_eq]
    show ((some (flt9 σ k)).bind fun z1 => if z1.1 188 9 = 0 then some ((1 : Int32), z1) else some ((0 : Int32), z1)) = _
    dsimp only [Option.bind_some]
    rw [e, if_neg (nI_ne0 (by omega) (by omega)), if_neg (by decide)]
theorem r9_mustF {b k : Int32} {σ : gj_S} (hf : ¬ σ.1 188 9 = 0) : f_X9_must b k σ = some (0, σ) := by
  unfold f_X9_must
  rw [if_neg hf]
  dsimp only [Option.bind_some]
  rw [if_neg hf]
theorem r9_isNameF {σ : gj_S} (hf : ¬ σ.1 188 9 = 0) : ∃ b, f_X9_isName σ = some b := by
  unfold f_X9_isName f_X9_isOwn
  rw [r9_isF hf, r9_isF hf, r9_isF hf, r9_isF hf, r9_isF hf, r9_isF hf, r9_isF hf]
  by_cases q : σ.1 188 6 = 1
  · rw [if_pos q]
    exact ⟨_, rfl⟩
  · rw [if_neg q]
    exact ⟨_, rfl⟩
theorem r9_numF {lo hi : Int32} {σ : gj_S} (hf : ¬ σ.1 188 9 = 0) : f_X9_number lo hi σ = some (lo, σ) := by
  unfold f_X9_number
  rw [show (if σ.1 188 6 = 2 then some (1 : Int32) else some (0 : Int32)) = some (if σ.1 188 6 = 2 then 1 else 0) by split <;> rfl]
  dsimp only [Option.bind_some]
  rw [r9_mustF hf]
  dsimp only [Option.bind_some]
  rw [if_pos rfl]
theorem r9_behF {i : Nat} {lo hi : Int32} {σ : gj_S} (hf : ¬ σ.1 188 9 = 0) : f_X9_behind i lo hi σ = some (lo, σ) := by
  unfold f_X9_behind
  rw [r9_isF hf]
  dsimp only [Option.bind_some]
  rw [r9_mustF hf]
  dsimp only [Option.bind_some]
  rw [if_pos rfl, r9_numF hf]
  rfl
theorem r9_rdF {but : Int32} {σ : gj_S} (hf : ¬ σ.1 188 9 = 0) : f_X9_readDock but σ = some (0, σ) := by
  obtain ⟨b, hb⟩ := r9_isNameF hf
  unfold f_X9_readDock
  rw [hb]
  dsimp only [Option.bind_some]
  rw [r9_mustF hf]
  dsimp only [Option.bind_some]
  rw [if_pos rfl]
theorem r9_nnF {at' : Int32} {σ : gj_S} (hf : ¬ σ.1 188 9 = 0) : f_X9_newName at' σ = some σ := by
  obtain ⟨b, hb⟩ := r9_isNameF hf
  unfold f_X9_newName
  rw [hb]
  dsimp only [Option.bind_some]
  rw [r9_mustF hf]
  dsimp only [Option.bind_some]
  rw [if_pos rfl]
theorem wiNat {v lo hi : Nat} (hv : v < 2 ^ 31) (hl : lo < 2 ^ 31) (hh : hi < 2 ^ 31) : f_X9_within (nI v).toInt64 (nI lo).toInt64 (nI hi).toInt64 = some (bI (decide (lo ≤ v ∧ v ≤ hi))) := by
  rw [wiL, nI_toInt hv, nI_toInt hl, nI_toInt hh]
  congr 2
  exact decide_eq_decide.mpr (by omega)
theorem r9_nb {y : Nat → Int32} {N p lo hi : Nat} {σ : gj_S} (hr : rd9 y N σ) (hp : p ≤ N) (h : TK9 y N p σ) (hf : σ.1 188 9 = 0) (hl : lo < 2 ^ 31) (hh : hi < 2 ^ 31) : (nbF y N p lo hi = 0 ∧ TP (f_X9_number (nI lo) (nI hi) σ) (fun x => x.1 = nI (tn y N p) ∧ fT9 σ x.2 ∧ TK9 y N (te y N p) x.2)) ∨ (nbF y N p lo hi ≠ 0 ∧ nbF y N p lo hi ≤ 5 ∧ f_X9_number (nI lo) (nI hi) σ = some (nI lo, flt9 σ (nbF y N p lo hi))) := by
  have h1 := (k9_1 (tk_lt (y := y) (N := N) (p := p))).2.1
  unfold nbF f_X9_number
  rw [h.2.2.1]
  by_cases q : tk y N p = 1
  · have ht := tn_lt q
    rw [if_pos q, if_pos (h1.mpr q)]
    dsimp only [Option.bind_some]
    rw [show (1 : Int32) = bI true from rfl, show bI true = nI 1 from rfl]
    have e1 := r9_must (k := 1) true hf (by omega) (by omega)
    rw [if_pos rfl] at e1
    rw [show f_X9_must (nI 1) (nI 1) σ = some (1, σ) from e1]
    dsimp only [Option.bind_some]
    rw [if_neg (show ¬ (1 : Int32) = 0 by decide), h.2.2.2.2 q, wiNat (by omega) hl hh]
    dsimp only [Option.bind_some]
    rw [show (3 : Int32) = nI 3 from rfl, r9_must (k := 3) _ hf (by omega) (by omega)]
    by_cases a : lo ≤ tn y N p ∧ tn y N p ≤ hi
    · rw [if_pos a, decide_eq_true a, if_pos rfl]
      refine .inl ⟨rfl, ?_⟩
      dsimp only [Option.bind_some]
      refine tp_f (by decide) (tp_bind (r9_tok hr (te_N hp).2 h.1) (fun x hx => tp_some ⟨?_, hx.1, hx.2⟩))
      exact h.2.2.2.2 q
    · rw [if_neg a, decide_eq_false a, if_neg (by decide)]
      refine .inr ⟨by omega, by omega, ?_⟩
      dsimp only [Option.bind_some]
      rw [if_pos rfl]
  · rw [if_neg q, if_neg (fun x => q (h1.mp x))]
    dsimp only [Option.bind_some]
    have e1 := r9_must (k := 1) false hf (by omega) (by omega)
    rw [if_neg (by decide)] at e1
    rw [show f_X9_must (0 : Int32) (1 : Int32) σ = some (0, flt9 σ 1) from e1]
    refine .inr ⟨by omega, by omega, ?_⟩
    dsimp only [Option.bind_some]
    rw [if_pos rfl]
