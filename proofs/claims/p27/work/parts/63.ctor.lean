/-- the numbers behind the fields' own initialisers -/
def bj_s0 : gj_S := (fun k j => if (gj_kd k).1 = 1 then (if j = 2 then 4 else 0) else if (gj_kd k).1 = 2 then (if j = 4 then -1 else if j = 7 then 3 else 0) else if (gj_kd k).1 = 3 then (if j = 1 then 8 else 0) else 0, fun _ _ => 0, 14)
def bj_L (E : bj_E) (k : Nat) : va_E := gj_cell E.2.2.2 (fun k => E.2.1 + k) bj_s0 k
def bj_cut (E : bj_E) (w : Nat → va_E) (o : Nat) : Nat → va_E := fun k => if k < o then w k else bj_L E k
def bj_mid (E : bj_E) (w : Nat → va_E) (o ci : Nat) (fs : List Value) : Nat → va_E := fun k => if k < o then w k else if k = o then .inr (ci, fs) else bj_L E k
def bj_sub (w : Nat → va_E) (m : Nat) (c : va_E) : Nat → va_E := fun k => if k < m then w k else c
theorem bj_mid_o {E : bj_E} {w : Nat → va_E} {o ci : Nat} {fs : List Value} : bj_mid E w o ci fs o = .inr (ci, fs) := by simp [bj_mid]
theorem bj_mid_L {E : bj_E} {w : Nat → va_E} {o ci k : Nat} {fs : List Value} (h : o < k) : bj_mid E w o ci fs k = bj_L E k := by simp [bj_mid, show ¬ k < o by omega, show ¬ k = o by omega]
theorem bj_mid_p {E : bj_E} {w : Nat → va_E} {o ci n : Nat} {fs fs2 : List Value} : ∀ k, k < n → k ≠ o → bj_mid E w o ci fs2 k = bj_mid E w o ci fs k := fun k _ h => by simp [bj_mid, h]
theorem bj_mid_0 {E : bj_E} {w : Nat → va_E} {o ci : Nat} {fs : List Value} : ∀ k, k < o + 1 → k ≠ o → bj_mid E w o ci fs k = w k := fun k h1 h2 => by simp [bj_mid, show k < o by omega]
theorem bj_mid_w {E : bj_E} {w : Nat → va_E} {o ci : Nat} {fs : List Value} (h : w o = .inr (ci, fs)) : ∀ k, k < o + 1 → bj_mid E w o ci fs k = w k := fun k h1 => by
  by_cases e : k = o
  · subst e; rw [bj_mid_o, h]
  · exact bj_mid_0 k h1 e
theorem bj_sub_e {w : Nat → va_E} {m : Nat} {c : va_E} : ∀ k, k < m → bj_sub w m c k = w k := fun k h => by simp [bj_sub, h]
theorem bj_sub_m {w : Nat → va_E} {m : Nat} {c : va_E} : bj_sub w m c m = c := by simp [bj_sub]
theorem bj_cut_sub {E : bj_E} {w : Nat → va_E} {o ci m N : Nat} {fs : List Value} {c : va_E} (h : o < m) : ∀ k, k < N → bj_cut E (bj_sub (bj_mid E w o ci fs) m c) m k = bj_mid E w o ci fs k := fun k _ => by
  by_cases e : k < m
  · simp [bj_cut, bj_sub, e]
  · rw [bj_mid_L (by omega)]; simp [bj_cut, e]
theorem bj_end {E : bj_E} {w : Nat → va_E} {o ci N : Nat} {fs : List Value} (h : .inr (ci, fs) = bj_L E o) : ∀ k, k < N → bj_mid E w o ci fs k = bj_cut E w o k := fun k _ => by
  by_cases e : k < o
  · simp [bj_mid, bj_cut, e]
  · by_cases e2 : k = o
    · subst e2; simp [bj_mid, bj_cut, h]
    · simp [bj_mid, bj_cut, e, e2]
theorem bj_LI {E : bj_E} {k m : Nat} (h : gj_kd k = (10, m)) : bj_L E k = .inl (E.2.2.2 1, m, .inl (fun _ => 0)) := by simp [bj_L, gj_cell, gj_cel, bj_s0, h]
theorem bj_LJ {E : bj_E} {k m : Nat} (h : gj_kd k = (11, m)) : bj_L E k = .inl (E.2.2.2 2, m, .inr (.inl (fun _ => 0))) := by simp [bj_L, gj_cell, gj_cel, bj_s0, h]
theorem bj_LB {E : bj_E} {k m : Nat} (h : gj_kd k = (12, m)) : bj_L E k = .inl (E.2.2.2 0, m, .inl (fun _ => 0)) := by simp [bj_L, gj_cell, gj_cel, bj_s0, h]
theorem bj_LZ {E : bj_E} {k m : Nat} (h : gj_kd k = (13, m)) : bj_L E k = .inl (E.2.2.2 3, m, .inl (fun _ => 0)) := by simp [bj_L, gj_cell, gj_cel, bj_s0, h]
theorem bj_LO {E : bj_E} {k ci : Nat} (h : gj_kd k = (ci, 0)) (hc : ci < 10) : bj_L E k = .inr (ci, gj_fs (fun k => E.2.1 + k) ci k (bj_s0.1 k) (bj_s0.2.1 k) 14) := gj_cO h hc
theorem bj_cg {E : bj_E} {X : gj_X} {nL ce sl : Nat} {Q : State → Prop} {pc : Nat} {lv : List (Nat × gj_V)} {st : List gj_V} {n : Nat} {w w2 : Nat → va_E} (h : ∀ k, k < n → w k = w2 k) (k : bj_H E X nL ce sl Q pc lv st n w2) : bj_H E X nL ce sl Q pc lv st n w := by
  obtain ⟨p, e, R, s, m, args, below, meth, c⟩ := X
  intro H locs ls hW hS hl
  exact k H locs ls (hW.congr h) hS hl
/-- an array of plans, its first k places filled -/
def bj_fill (E : bj_E) (A N k : Nat) : va_E := .inl (E.2.2.2 4, N, .inr (.inr (.inr (.inr (fun j => if j < k then some (E.2.1 + gj_pa A j) else none)))))
def bj_mid2 (E : bj_E) (b : Nat → va_E) (A N k : Nat) : Nat → va_E := fun q => if q = A then bj_fill E A N k else b q
theorem bj_mid2_e {E : bj_E} {b : Nat → va_E} {A N k : Nat} : ∀ q, q < A → bj_mid2 E b A N k q = b q := fun q h => by simp [bj_mid2, show ¬ q = A by omega]
theorem bj_mid2_n {E : bj_E} {b : Nat → va_E} {A N : Nat} : bj_mid2 E b A N 0 A = .inl (E.2.2.2 4, N, .inr (.inr (.inr (.inr (fun _ => none))))) := by simp [bj_mid2, bj_fill]
theorem bj_mid2_A {E : bj_E} {b : Nat → va_E} {A N k : Nat} : bj_mid2 E b A N k A = .inl (E.2.2.2 4, N, .inr (.inr (.inr (.inr (fun j => if j < k then some (E.2.1 + gj_pa A j) else none))))) := by simp [bj_mid2, bj_fill]
theorem bj_mid2_L {E : bj_E} {w : Nat → va_E} {o ci A N k q : Nat} {fs : List Value} (h : o < q ∧ q ≠ A) : bj_mid2 E (bj_mid E w o ci fs) A N k q = bj_L E q := by rw [show bj_mid2 E (bj_mid E w o ci fs) A N k q = bj_mid E w o ci fs q from by simp [bj_mid2, h.2], bj_mid_L h.1]
theorem bj_mid2_o {E : bj_E} {w : Nat → va_E} {o ci A N k : Nat} {fs : List Value} (h : o < A) : bj_mid2 E (bj_mid E w o ci fs) A N k o = .inr (ci, fs) := by simp [bj_mid2, show ¬ o = A by omega, bj_mid_o]
theorem bj_mid2_p {E : bj_E} {b : Nat → va_E} {A N k k2 n : Nat} : ∀ q, q < n → q ≠ A → bj_mid2 E b A N k2 q = bj_mid2 E b A N k q := fun q _ h => by simp [bj_mid2, h]
theorem bj_mid2_q {E : bj_E} {w : Nat → va_E} {o ci A N k n : Nat} {fs fs2 : List Value} : ∀ q, q < n → q ≠ o → bj_mid2 E (bj_mid E w o ci fs2) A N k q = bj_mid2 E (bj_mid E w o ci fs) A N k q := fun q _ h => by simp [bj_mid2, bj_mid, h]
theorem bj_mid2_S {E : bj_E} {b : Nat → va_E} {A N v : Nat} (k : Nat) (hv : gj_pa A k = v) {z : Int32} (hz : z.toNatClampNeg = k) : bj_mid2 E b A N (k + 1) A = .inl (E.2.2.2 4, N, .inr (.inr (.inr (.inr (va_up (fun j => if j < k then some (E.2.1 + gj_pa A j) else none) z.toNatClampNeg (some (E.2.1 + v))))))) := by
  have hf : (fun j => if j < k + 1 then some (E.2.1 + gj_pa A j) else none) = va_up (fun j => if j < k then some (E.2.1 + gj_pa A j) else none) k (some (E.2.1 + v)) := by
    funext j
    by_cases e : j = k
    · subst e; simp [va_up, hv]
    · simp [va_up, e, show (j < k + 1) ↔ (j < k) by omega]
  rw [bj_mid2_A, hf, hz]
theorem bj_cut_sub2 {E : bj_E} {w : Nat → va_E} {o ci m A N k M : Nat} {fs : List Value} {c : va_E} (h : o < m ∧ A < m) : ∀ q, q < M → bj_cut E (bj_sub (bj_mid2 E (bj_mid E w o ci fs) A N k) m c) m q = bj_mid2 E (bj_mid E w o ci fs) A N k q := fun q _ => by
  by_cases e : q < m
  · simp [bj_cut, bj_sub, e]
  · rw [bj_mid2_L (by omega)]; simp [bj_cut, e]
theorem bj_arrq {cA : ClassId} {N : Nat} {f g : Nat → Option Nat} (h : ∀ j, j < N → f j = g j) : vp_cell cA (N, .inr (.inr (.inr (.inr f)))) = vp_cell cA (N, .inr (.inr (.inr (.inr g)))) := by
  rw [vp_cell_q, vp_cell_q]
  unfold arrV
  have : (Array.ofFn (n := N) fun j => va_rf (f j.val)) = Array.ofFn (n := N) fun j => va_rf (g j.val) := congrArg Array.ofFn (funext fun j => by rw [h j.1 j.2])
  rw [this]
theorem bj_full {E : bj_E} {A N : Nat} {H : Heap} (hk : gj_kd A = (14, N)) (h : va_at E.2.2.1 vwCl (E.2.1 + A, bj_fill E A N N) H) : va_at E.2.2.1 vwCl (E.2.1 + A, bj_L E A) H := by
  have e : bj_L E A = .inl (E.2.2.2 4, N, .inr (.inr (.inr (.inr (fun j => some (E.2.1 + gj_pa A j)))))) := gj_cP hk
  rw [e]
  show H[E.2.1 + A]? = some (vp_cell _ _)
  rw [bj_arrq (g := fun j => if j < N then some (E.2.1 + gj_pa A j) else none) (fun j hj => by simp [hj])]
  exact h
theorem bj_cgA {E : bj_E} {X : gj_X} {nL ce sl : Nat} {Q : State → Prop} {pc : Nat} {lv : List (Nat × gj_V)} {st : List gj_V} {n : Nat} {w w2 : Nat → va_E} (h : ∀ k, k < n → ∀ H, va_at E.2.2.1 vwCl (E.2.1 + k, w k) H → va_at E.2.2.1 vwCl (E.2.1 + k, w2 k) H) (k : bj_H E X nL ce sl Q pc lv st n w2) : bj_H E X nL ce sl Q pc lv st n w := by
  obtain ⟨p, e, R, s, m, args, below, meth, c⟩ := X
  intro H locs ls hW hS hl
  exact k H locs ls (fun q hq => h q hq H (hW q hq)) hS hl
theorem bj_mid2_all {E : bj_E} {w : Nat → va_E} {o ci A N n : Nat} {fs : List Value} (hk : gj_kd A = (14, N)) (ho : o < A) : ∀ k, k < n → ∀ H, va_at E.2.2.1 vwCl (E.2.1 + k, bj_mid2 E (bj_mid E w o ci fs) A N N k) H → va_at E.2.2.1 vwCl (E.2.1 + k, bj_mid E w o ci fs k) H := by
  intro k _ H h
  by_cases e : k = A
  · subst e
    rw [bj_mid_L ho]
    exact bj_full hk (by simpa [bj_mid2] using h)
  · simpa [bj_mid2, e] using h
theorem wc_0 : Cond.methodLink RX1 3 objectInit ∈ gj_gw := gj_good (List.mem_of_getElem? (i := 40) (by decide +kernel)) (by decide +kernel)
theorem wc_1 : Cond.fieldLink RX1 9 RX1 "docks" "I" ∈ gj_gw := gj_good (List.mem_of_getElem? (i := 41) (by decide +kernel)) (by decide +kernel)
theorem wc_2 : Cond.fieldLink RX1 15 RX1 "routes" "I" ∈ gj_gw := gj_good (List.mem_of_getElem? (i := 47) (by decide +kernel)) (by decide +kernel)
theorem wc_3 : Cond.fieldLink RX1 18 RX1 "block" "I" ∈ gj_gw := gj_good (List.mem_of_getElem? (i := 53) (by decide +kernel)) (by decide +kernel)
theorem wc_4 : Cond.fieldLink RX1 21 RX1 "pointer" "I" ∈ gj_gw := gj_good (List.mem_of_getElem? (i := 57) (by decide +kernel)) (by decide +kernel)
theorem wc_5 : Cond.fieldLink RX1 24 RX1 "pivots" "I" ∈ gj_gw := gj_good (List.mem_of_getElem? (i := 60) (by decide +kernel)) (by decide +kernel)
theorem wc_6 : Cond.fieldLink RX1 27 RX1 "gifts" "[I" ∈ gj_gw := gj_good (List.mem_of_getElem? (i := 62) (by decide +kernel)) (by decide +kernel)
theorem wc_7 : Cond.fieldLink RX1 31 RX1 "begins" "[I" ∈ gj_gw := gj_good (List.mem_of_getElem? (i := 66) (by decide +kernel)) (by decide +kernel)
theorem wc_8 : Cond.fieldLink RX1 34 RX1 "ends" "[I" ∈ gj_gw := gj_good (List.mem_of_getElem? (i := 73) (by decide +kernel)) (by decide +kernel)
theorem wc_9 : Cond.fieldLink RX1 37 RX1 "costs" "[I" ∈ gj_gw := gj_good (List.mem_of_getElem? (i := 80) (by decide +kernel)) (by decide +kernel)
theorem wc_10 : Cond.fieldLink RX1 40 RX1 "holds" "[I" ∈ gj_gw := gj_good (List.mem_of_getElem? (i := 86) (by decide +kernel)) (by decide +kernel)
theorem wc_11 : Cond.fieldLink RX1 43 RX1 "flows" "[I" ∈ gj_gw := gj_good (List.mem_of_getElem? (i := 91) (by decide +kernel)) (by decide +kernel)
theorem wc_12 : Cond.fieldLink RX1 46 RX1 "states" "[I" ∈ gj_gw := gj_good (List.mem_of_getElem? (i := 95) (by decide +kernel)) (by decide +kernel)
theorem wc_13 : Cond.fieldLink RX1 49 RX1 "log" "[I" ∈ gj_gw := gj_good (List.mem_of_getElem? (i := 100) (by decide +kernel)) (by decide +kernel)
set_option maxHeartbeats 4000000 in
set_option maxRecDepth 100000 in
theorem c_X1_init {E : bj_E} {w : Nat → va_E} {o : Nat} (ho : isP o) (hw : w o = .inr (1, [.int 0, .int 0, .int 0, .int 0, .int 0, .null, .null, .null, .null, .null, .null, .null, .null])) : bj_M E yX1_init cX1_init 1 1 12 8 232 o (o + 1) w (o + 9) (bj_cut E w o) := by
  refine bj_body (by decide +kernel) rfl (by decide) (fun X hO => ?_)
  replace hO : bj_O E X RX1 cX1_init 1 1 12 8 232 (o + 1) := hO
  refine bj_cg (w2 := (bj_mid E w o 1 [.int 0, .int 0, .int 0, .int 0, .int 0, .null, .null, .null, .null, .null, .null, .null, .null])) (fun k hk => (bj_mid_w hw k hk).symm) ?_
  refine bj_aload_n hO 0 dX1_init_0 rfl rfl ?_
  refine bj_obj hO wc_0 dX1_init_1 (by decide) (by decide) rfl ?_
  refine bj_aload_n hO 0 dX1_init_4 rfl rfl ?_
  refine bj_iconst (v := 0) hO dX1_init_5 (by decide) ?_
  refine bj_put (C := RX1) (T := TX1) (N := 13) (j := 0) (ty := .int) (v := gj_i 0) (w2 := (bj_mid E w o 1 [.int 0, .int 0, .int 0, .int 0, .int 0, .null, .null, .null, .null, .null, .null, .null, .null])) hO ly_X1 tyX1_ok nmX1 (by omega) (bj_mid_o) rfl (by decide) rfl rfl wc_1 rfl (by decide +kernel) rfl rfl (Nat.le_of_ble_eq_true rfl) bj_mid_p bj_mid_o dX1_init_6 ?_
  refine bj_aload_n hO 0 dX1_init_9 rfl rfl ?_
  refine bj_iconst (v := 0) hO dX1_init_10 (by decide) ?_
  refine bj_put (C := RX1) (T := TX1) (N := 13) (j := 1) (ty := .int) (v := gj_i 0) (w2 := (bj_mid E w o 1 [.int 0, .int 0, .int 0, .int 0, .int 0, .null, .null, .null, .null, .null, .null, .null, .null])) hO ly_X1 tyX1_ok nmX1 (by omega) (bj_mid_o) rfl (by decide) rfl rfl wc_2 rfl (by decide +kernel) rfl rfl (Nat.le_of_ble_eq_true rfl) bj_mid_p bj_mid_o dX1_init_11 ?_
  refine bj_aload_n hO 0 dX1_init_14 rfl rfl ?_
  refine bj_iconst (v := 4) hO dX1_init_15 (by decide) ?_
  refine bj_put (C := RX1) (T := TX1) (N := 13) (j := 2) (ty := .int) (v := gj_i 4) (w2 := (bj_mid E w o 1 [.int 0, .int 0, .int 4, .int 0, .int 0, .null, .null, .null, .null, .null, .null, .null, .null])) hO ly_X1 tyX1_ok nmX1 (by omega) (bj_mid_o) rfl (by decide) rfl rfl wc_3 rfl (by decide +kernel) rfl rfl (Nat.le_of_ble_eq_true rfl) bj_mid_p bj_mid_o dX1_init_16 ?_
  refine bj_aload_n hO 0 dX1_init_19 rfl rfl ?_
  refine bj_iconst (v := 0) hO dX1_init_20 (by decide) ?_
  refine bj_put (C := RX1) (T := TX1) (N := 13) (j := 3) (ty := .int) (v := gj_i 0) (w2 := (bj_mid E w o 1 [.int 0, .int 0, .int 4, .int 0, .int 0, .null, .null, .null, .null, .null, .null, .null, .null])) hO ly_X1 tyX1_ok nmX1 (by omega) (bj_mid_o) rfl (by decide) rfl rfl wc_4 rfl (by decide +kernel) rfl rfl (Nat.le_of_ble_eq_true rfl) bj_mid_p bj_mid_o dX1_init_21 ?_
  refine bj_aload_n hO 0 dX1_init_24 rfl rfl ?_
  refine bj_iconst (v := 0) hO dX1_init_25 (by decide) ?_
  refine bj_put (C := RX1) (T := TX1) (N := 13) (j := 4) (ty := .int) (v := gj_i 0) (w2 := (bj_mid E w o 1 [.int 0, .int 0, .int 4, .int 0, .int 0, .null, .null, .null, .null, .null, .null, .null, .null])) hO ly_X1 tyX1_ok nmX1 (by omega) (bj_mid_o) rfl (by decide) rfl rfl wc_5 rfl (by decide +kernel) rfl rfl (Nat.le_of_ble_eq_true rfl) bj_mid_p bj_mid_o dX1_init_26 ?_
  refine bj_aload_n hO 0 dX1_init_29 rfl rfl ?_
  refine bj_bipush (v := 8) hO dX1_init_30 (by decide) ?_
  refine bj_newaI (N := 8) (w2 := (bj_mid E w o 1 [.int 0, .int 0, .int 4, .int 0, .int 0, .null, .null, .null, .null, .null, .null, .null, .null])) hO (by decide) (by decide) (by decide) (by decide) (by decide) (by omega) (by omega) (fun _ _ => rfl) ((bj_mid_L (by omega)).trans (bj_LI (kdP_1 ho))) dX1_init_32 ?_
  refine bj_putF (C := RX1) (T := TX1) (N := 13) (j := 5) (ty := (.array .int)) (v := gj_r (o + 1)) (w2 := (bj_mid E w o 1 [.int 0, .int 0, .int 4, .int 0, .int 0, .ref (E.2.1 + (o + 1)), .null, .null, .null, .null, .null, .null, .null])) hO ly_X1 tyX1_ok nmX1 (by omega) (bj_mid_o) rfl (by decide) rfl rfl wc_6 rfl (by decide +kernel) rfl rfl (Nat.le_of_ble_eq_true rfl) bj_mid_p bj_mid_o dX1_init_34 ?_
  refine bj_aload_n hO 0 dX1_init_37 rfl rfl ?_
  refine bj_bipush (v := 24) hO dX1_init_38 (by decide) ?_
  refine bj_newaI (N := 24) (w2 := (bj_mid E w o 1 [.int 0, .int 0, .int 4, .int 0, .int 0, .ref (E.2.1 + (o + 1)), .null, .null, .null, .null, .null, .null, .null])) hO (by decide) (by decide) (by decide) (by decide) (by decide) (by omega) (by omega) (fun _ _ => rfl) ((bj_mid_L (by omega)).trans (bj_LI (kdP_2 ho))) dX1_init_40 ?_
  refine bj_putF (C := RX1) (T := TX1) (N := 13) (j := 6) (ty := (.array .int)) (v := gj_r (o + 2)) (w2 := (bj_mid E w o 1 [.int 0, .int 0, .int 4, .int 0, .int 0, .ref (E.2.1 + (o + 1)), .ref (E.2.1 + (o + 2)), .null, .null, .null, .null, .null, .null])) hO ly_X1 tyX1_ok nmX1 (by omega) (bj_mid_o) rfl (by decide) rfl rfl wc_7 rfl (by decide +kernel) rfl rfl (Nat.le_of_ble_eq_true rfl) bj_mid_p bj_mid_o dX1_init_42 ?_
  refine bj_aload_n hO 0 dX1_init_45 rfl rfl ?_
  refine bj_bipush (v := 24) hO dX1_init_46 (by decide) ?_
  refine bj_newaI (N := 24) (w2 := (bj_mid E w o 1 [.int 0, .int 0, .int 4, .int 0, .int 0, .ref (E.2.1 + (o + 1)), .ref (E.2.1 + (o + 2)), .null, .null, .null, .null, .null, .null])) hO (by decide) (by decide) (by decide) (by decide) (by decide) (by omega) (by omega) (fun _ _ => rfl) ((bj_mid_L (by omega)).trans (bj_LI (kdP_3 ho))) dX1_init_48 ?_
  refine bj_putF (C := RX1) (T := TX1) (N := 13) (j := 7) (ty := (.array .int)) (v := gj_r (o + 3)) (w2 := (bj_mid E w o 1 [.int 0, .int 0, .int 4, .int 0, .int 0, .ref (E.2.1 + (o + 1)), .ref (E.2.1 + (o + 2)), .ref (E.2.1 + (o + 3)), .null, .null, .null, .null, .null])) hO ly_X1 tyX1_ok nmX1 (by omega) (bj_mid_o) rfl (by decide) rfl rfl wc_8 rfl (by decide +kernel) rfl rfl (Nat.le_of_ble_eq_true rfl) bj_mid_p bj_mid_o dX1_init_50 ?_
  refine bj_aload_n hO 0 dX1_init_53 rfl rfl ?_
  refine bj_bipush (v := 24) hO dX1_init_54 (by decide) ?_
  refine bj_newaI (N := 24) (w2 := (bj_mid E w o 1 [.int 0, .int 0, .int 4, .int 0, .int 0, .ref (E.2.1 + (o + 1)), .ref (E.2.1 + (o + 2)), .ref (E.2.1 + (o + 3)), .null, .null, .null, .null, .null])) hO (by decide) (by decide) (by decide) (by decide) (by decide) (by omega) (by omega) (fun _ _ => rfl) ((bj_mid_L (by omega)).trans (bj_LI (kdP_4 ho))) dX1_init_56 ?_
  refine bj_putF (C := RX1) (T := TX1) (N := 13) (j := 8) (ty := (.array .int)) (v := gj_r (o + 4)) (w2 := (bj_mid E w o 1 [.int 0, .int 0, .int 4, .int 0, .int 0, .ref (E.2.1 + (o + 1)), .ref (E.2.1 + (o + 2)), .ref (E.2.1 + (o + 3)), .ref (E.2.1 + (o + 4)), .null, .null, .null, .null])) hO ly_X1 tyX1_ok nmX1 (by omega) (bj_mid_o) rfl (by decide) rfl rfl wc_9 rfl (by decide +kernel) rfl rfl (Nat.le_of_ble_eq_true rfl) bj_mid_p bj_mid_o dX1_init_58 ?_
  refine bj_aload_n hO 0 dX1_init_61 rfl rfl ?_
  refine bj_bipush (v := 24) hO dX1_init_62 (by decide) ?_
  refine bj_newaI (N := 24) (w2 := (bj_mid E w o 1 [.int 0, .int 0, .int 4, .int 0, .int 0, .ref (E.2.1 + (o + 1)), .ref (E.2.1 + (o + 2)), .ref (E.2.1 + (o + 3)), .ref (E.2.1 + (o + 4)), .null, .null, .null, .null])) hO (by decide) (by decide) (by decide) (by decide) (by decide) (by omega) (by omega) (fun _ _ => rfl) ((bj_mid_L (by omega)).trans (bj_LI (kdP_5 ho))) dX1_init_64 ?_
  refine bj_putF (C := RX1) (T := TX1) (N := 13) (j := 9) (ty := (.array .int)) (v := gj_r (o + 5)) (w2 := (bj_mid E w o 1 [.int 0, .int 0, .int 4, .int 0, .int 0, .ref (E.2.1 + (o + 1)), .ref (E.2.1 + (o + 2)), .ref (E.2.1 + (o + 3)), .ref (E.2.1 + (o + 4)), .ref (E.2.1 + (o + 5)), .null, .null, .null])) hO ly_X1 tyX1_ok nmX1 (by omega) (bj_mid_o) rfl (by decide) rfl rfl wc_10 rfl (by decide +kernel) rfl rfl (Nat.le_of_ble_eq_true rfl) bj_mid_p bj_mid_o dX1_init_66 ?_
  refine bj_aload_n hO 0 dX1_init_69 rfl rfl ?_
  refine bj_bipush (v := 24) hO dX1_init_70 (by decide) ?_
  refine bj_newaI (N := 24) (w2 := (bj_mid E w o 1 [.int 0, .int 0, .int 4, .int 0, .int 0, .ref (E.2.1 + (o + 1)), .ref (E.2.1 + (o + 2)), .ref (E.2.1 + (o + 3)), .ref (E.2.1 + (o + 4)), .ref (E.2.1 + (o + 5)), .null, .null, .null])) hO (by decide) (by decide) (by decide) (by decide) (by decide) (by omega) (by omega) (fun _ _ => rfl) ((bj_mid_L (by omega)).trans (bj_LI (kdP_6 ho))) dX1_init_72 ?_
  refine bj_putF (C := RX1) (T := TX1) (N := 13) (j := 10) (ty := (.array .int)) (v := gj_r (o + 6)) (w2 := (bj_mid E w o 1 [.int 0, .int 0, .int 4, .int 0, .int 0, .ref (E.2.1 + (o + 1)), .ref (E.2.1 + (o + 2)), .ref (E.2.1 + (o + 3)), .ref (E.2.1 + (o + 4)), .ref (E.2.1 + (o + 5)), .ref (E.2.1 + (o + 6)), .null, .null])) hO ly_X1 tyX1_ok nmX1 (by omega) (bj_mid_o) rfl (by decide) rfl rfl wc_11 rfl (by decide +kernel) rfl rfl (Nat.le_of_ble_eq_true rfl) bj_mid_p bj_mid_o dX1_init_74 ?_
  refine bj_aload_n hO 0 dX1_init_77 rfl rfl ?_
  refine bj_bipush (v := 24) hO dX1_init_78 (by decide) ?_
  refine bj_newaI (N := 24) (w2 := (bj_mid E w o 1 [.int 0, .int 0, .int 4, .int 0, .int 0, .ref (E.2.1 + (o + 1)), .ref (E.2.1 + (o + 2)), .ref (E.2.1 + (o + 3)), .ref (E.2.1 + (o + 4)), .ref (E.2.1 + (o + 5)), .ref (E.2.1 + (o + 6)), .null, .null])) hO (by decide) (by decide) (by decide) (by decide) (by decide) (by omega) (by omega) (fun _ _ => rfl) ((bj_mid_L (by omega)).trans (bj_LI (kdP_7 ho))) dX1_init_80 ?_
  refine bj_putF (C := RX1) (T := TX1) (N := 13) (j := 11) (ty := (.array .int)) (v := gj_r (o + 7)) (w2 := (bj_mid E w o 1 [.int 0, .int 0, .int 4, .int 0, .int 0, .ref (E.2.1 + (o + 1)), .ref (E.2.1 + (o + 2)), .ref (E.2.1 + (o + 3)), .ref (E.2.1 + (o + 4)), .ref (E.2.1 + (o + 5)), .ref (E.2.1 + (o + 6)), .ref (E.2.1 + (o + 7)), .null])) hO ly_X1 tyX1_ok nmX1 (by omega) (bj_mid_o) rfl (by decide) rfl rfl wc_12 rfl (by decide +kernel) rfl rfl (Nat.le_of_ble_eq_true rfl) bj_mid_p bj_mid_o dX1_init_82 ?_
  refine bj_aload_n hO 0 dX1_init_85 rfl rfl ?_
  refine bj_bipush (v := 80) hO dX1_init_86 (by decide) ?_
  refine bj_newaI (N := 80) (w2 := (bj_mid E w o 1 [.int 0, .int 0, .int 4, .int 0, .int 0, .ref (E.2.1 + (o + 1)), .ref (E.2.1 + (o + 2)), .ref (E.2.1 + (o + 3)), .ref (E.2.1 + (o + 4)), .ref (E.2.1 + (o + 5)), .ref (E.2.1 + (o + 6)), .ref (E.2.1 + (o + 7)), .null])) hO (by decide) (by decide) (by decide) (by decide) (by decide) (by omega) (by omega) (fun _ _ => rfl) ((bj_mid_L (by omega)).trans (bj_LI (kdP_8 ho))) dX1_init_88 ?_
  refine bj_putF (C := RX1) (T := TX1) (N := 13) (j := 12) (ty := (.array .int)) (v := gj_r (o + 8)) (w2 := (bj_mid E w o 1 [.int 0, .int 0, .int 4, .int 0, .int 0, .ref (E.2.1 + (o + 1)), .ref (E.2.1 + (o + 2)), .ref (E.2.1 + (o + 3)), .ref (E.2.1 + (o + 4)), .ref (E.2.1 + (o + 5)), .ref (E.2.1 + (o + 6)), .ref (E.2.1 + (o + 7)), .ref (E.2.1 + (o + 8))])) hO ly_X1 tyX1_ok nmX1 (by omega) (bj_mid_o) rfl (by decide) rfl rfl wc_13 rfl (by decide +kernel) rfl rfl (Nat.le_of_ble_eq_true rfl) bj_mid_p bj_mid_o dX1_init_90 ?_
  exact bj_vret hO rfl rfl rfl (bj_end (by rw [bj_LO (kdP_0 ho) (by decide)]; simp [bj_s0, kdP_0 ho, gj_fs, Nat.add_assoc])) dX1_init_93
theorem wc_14 : Cond.methodLink RX5 3 objectInit ∈ gj_gw := gj_good (List.mem_of_getElem? (i := 180) (by decide +kernel)) (by decide +kernel)
theorem wc_15 : Cond.fieldLink RX5 9 RX5 "waysUp" "[I" ∈ gj_gw := gj_good (List.mem_of_getElem? (i := 181) (by decide +kernel)) (by decide +kernel)
theorem wc_16 : Cond.fieldLink RX5 15 RX5 "parents" "[I" ∈ gj_gw := gj_good (List.mem_of_getElem? (i := 185) (by decide +kernel)) (by decide +kernel)
theorem wc_17 : Cond.fieldLink RX5 18 RX5 "depths" "[I" ∈ gj_gw := gj_good (List.mem_of_getElem? (i := 188) (by decide +kernel)) (by decide +kernel)
theorem wc_18 : Cond.fieldLink RX5 21 RX5 "prices" "[I" ∈ gj_gw := gj_good (List.mem_of_getElem? (i := 191) (by decide +kernel)) (by decide +kernel)
theorem wc_19 : Cond.fieldLink RX5 24 RX5 "formerPrices" "[I" ∈ gj_gw := gj_good (List.mem_of_getElem? (i := 194) (by decide +kernel)) (by decide +kernel)
set_option maxHeartbeats 4000000 in
set_option maxRecDepth 100000 in
theorem c_X5_init {E : bj_E} {w : Nat → va_E} {o : Nat} (ho : isT o) (hw : w o = .inr (5, [.null, .null, .null, .null, .null])) : bj_M E yX5_init cX5_init 1 1 12 5 45 o (o + 1) w (o + 6) (bj_cut E w o) := by
  refine bj_body (by decide +kernel) rfl (by decide) (fun X hO => ?_)
  replace hO : bj_O E X RX5 cX5_init 1 1 12 5 45 (o + 1) := hO
  refine bj_cg (w2 := (bj_mid E w o 5 [.null, .null, .null, .null, .null])) (fun k hk => (bj_mid_w hw k hk).symm) ?_
  refine bj_aload_n hO 0 dX5_init_0 rfl rfl ?_
  refine bj_obj hO wc_14 dX5_init_1 (by decide) (by decide) rfl ?_
  refine bj_aload_n hO 0 dX5_init_4 rfl rfl ?_
  refine bj_bipush (v := 9) hO dX5_init_5 (by decide) ?_
  refine bj_newaI (N := 9) (w2 := (bj_mid E w o 5 [.null, .null, .null, .null, .null])) hO (by decide) (by decide) (by decide) (by decide) (by decide) (by omega) (by omega) (fun _ _ => rfl) ((bj_mid_L (by omega)).trans (bj_LI (kdT_1 ho))) dX5_init_7 ?_
  refine bj_putF (C := RX5) (T := TX5) (N := 5) (j := 0) (ty := (.array .int)) (v := gj_r (o + 1)) (w2 := (bj_mid E w o 5 [.ref (E.2.1 + (o + 1)), .null, .null, .null, .null])) hO ly_X5 tyX5_ok nmX5 (by omega) (bj_mid_o) rfl (by decide) rfl rfl wc_15 rfl (by decide +kernel) rfl rfl (Nat.le_of_ble_eq_true rfl) bj_mid_p bj_mid_o dX5_init_9 ?_
  refine bj_aload_n hO 0 dX5_init_12 rfl rfl ?_
  refine bj_bipush (v := 9) hO dX5_init_13 (by decide) ?_
  refine bj_newaI (N := 9) (w2 := (bj_mid E w o 5 [.ref (E.2.1 + (o + 1)), .null, .null, .null, .null])) hO (by decide) (by decide) (by decide) (by decide) (by decide) (by omega) (by omega) (fun _ _ => rfl) ((bj_mid_L (by omega)).trans (bj_LI (kdT_2 ho))) dX5_init_15 ?_
  refine bj_putF (C := RX5) (T := TX5) (N := 5) (j := 1) (ty := (.array .int)) (v := gj_r (o + 2)) (w2 := (bj_mid E w o 5 [.ref (E.2.1 + (o + 1)), .ref (E.2.1 + (o + 2)), .null, .null, .null])) hO ly_X5 tyX5_ok nmX5 (by omega) (bj_mid_o) rfl (by decide) rfl rfl wc_16 rfl (by decide +kernel) rfl rfl (Nat.le_of_ble_eq_true rfl) bj_mid_p bj_mid_o dX5_init_17 ?_
  refine bj_aload_n hO 0 dX5_init_20 rfl rfl ?_
  refine bj_bipush (v := 9) hO dX5_init_21 (by decide) ?_
  refine bj_newaI (N := 9) (w2 := (bj_mid E w o 5 [.ref (E.2.1 + (o + 1)), .ref (E.2.1 + (o + 2)), .null, .null, .null])) hO (by decide) (by decide) (by decide) (by decide) (by decide) (by omega) (by omega) (fun _ _ => rfl) ((bj_mid_L (by omega)).trans (bj_LI (kdT_3 ho))) dX5_init_23 ?_
  refine bj_putF (C := RX5) (T := TX5) (N := 5) (j := 2) (ty := (.array .int)) (v := gj_r (o + 3)) (w2 := (bj_mid E w o 5 [.ref (E.2.1 + (o + 1)), .ref (E.2.1 + (o + 2)), .ref (E.2.1 + (o + 3)), .null, .null])) hO ly_X5 tyX5_ok nmX5 (by omega) (bj_mid_o) rfl (by decide) rfl rfl wc_17 rfl (by decide +kernel) rfl rfl (Nat.le_of_ble_eq_true rfl) bj_mid_p bj_mid_o dX5_init_25 ?_
  refine bj_aload_n hO 0 dX5_init_28 rfl rfl ?_
  refine bj_bipush (v := 9) hO dX5_init_29 (by decide) ?_
  refine bj_newaI (N := 9) (w2 := (bj_mid E w o 5 [.ref (E.2.1 + (o + 1)), .ref (E.2.1 + (o + 2)), .ref (E.2.1 + (o + 3)), .null, .null])) hO (by decide) (by decide) (by decide) (by decide) (by decide) (by omega) (by omega) (fun _ _ => rfl) ((bj_mid_L (by omega)).trans (bj_LI (kdT_4 ho))) dX5_init_31 ?_
  refine bj_putF (C := RX5) (T := TX5) (N := 5) (j := 3) (ty := (.array .int)) (v := gj_r (o + 4)) (w2 := (bj_mid E w o 5 [.ref (E.2.1 + (o + 1)), .ref (E.2.1 + (o + 2)), .ref (E.2.1 + (o + 3)), .ref (E.2.1 + (o + 4)), .null])) hO ly_X5 tyX5_ok nmX5 (by omega) (bj_mid_o) rfl (by decide) rfl rfl wc_18 rfl (by decide +kernel) rfl rfl (Nat.le_of_ble_eq_true rfl) bj_mid_p bj_mid_o dX5_init_33 ?_
  refine bj_aload_n hO 0 dX5_init_36 rfl rfl ?_
  refine bj_bipush (v := 9) hO dX5_init_37 (by decide) ?_
  refine bj_newaI (N := 9) (w2 := (bj_mid E w o 5 [.ref (E.2.1 + (o + 1)), .ref (E.2.1 + (o + 2)), .ref (E.2.1 + (o + 3)), .ref (E.2.1 + (o + 4)), .null])) hO (by decide) (by decide) (by decide) (by decide) (by decide) (by omega) (by omega) (fun _ _ => rfl) ((bj_mid_L (by omega)).trans (bj_LI (kdT_5 ho))) dX5_init_39 ?_
  refine bj_putF (C := RX5) (T := TX5) (N := 5) (j := 4) (ty := (.array .int)) (v := gj_r (o + 5)) (w2 := (bj_mid E w o 5 [.ref (E.2.1 + (o + 1)), .ref (E.2.1 + (o + 2)), .ref (E.2.1 + (o + 3)), .ref (E.2.1 + (o + 4)), .ref (E.2.1 + (o + 5))])) hO ly_X5 tyX5_ok nmX5 (by omega) (bj_mid_o) rfl (by decide) rfl rfl wc_19 rfl (by decide +kernel) rfl rfl (Nat.le_of_ble_eq_true rfl) bj_mid_p bj_mid_o dX5_init_41 ?_
  exact bj_vret hO rfl rfl rfl (bj_end (by rw [bj_LO (kdT_0 ho) (by decide)]; simp [bj_s0, kdT_0 ho, gj_fs, Nat.add_assoc])) dX5_init_44
theorem wc_20 : Cond.methodLink RX3 3 objectInit ∈ gj_gw := gj_good (List.mem_of_getElem? (i := 211) (by decide +kernel)) (by decide +kernel)
theorem wc_21 : Cond.fieldLink RX3 9 RX3 "size" "I" ∈ gj_gw := gj_good (List.mem_of_getElem? (i := 212) (by decide +kernel)) (by decide +kernel)
theorem wc_22 : Cond.fieldLink RX3 15 RX3 "apex" "I" ∈ gj_gw := gj_good (List.mem_of_getElem? (i := 216) (by decide +kernel)) (by decide +kernel)
theorem wc_23 : Cond.fieldLink RX3 18 RX3 "least" "I" ∈ gj_gw := gj_good (List.mem_of_getElem? (i := 218) (by decide +kernel)) (by decide +kernel)
theorem wc_24 : Cond.fieldLink RX3 21 RX3 "ways" "[I" ∈ gj_gw := gj_good (List.mem_of_getElem? (i := 222) (by decide +kernel)) (by decide +kernel)
theorem wc_25 : Cond.fieldLink RX3 25 RX3 "alongs" "[Z" ∈ gj_gw := gj_good (List.mem_of_getElem? (i := 225) (by decide +kernel)) (by decide +kernel)
theorem wc_26 : Cond.fieldLink RX3 29 RX3 "leavingAt" "I" ∈ gj_gw := gj_good (List.mem_of_getElem? (i := 227) (by decide +kernel)) (by decide +kernel)
set_option maxHeartbeats 4000000 in
set_option maxRecDepth 100000 in
theorem c_X3_init {E : bj_E} {w : Nat → va_E} {o : Nat} (ho : isR o) (hw : w o = .inr (3, [.int 0, .int 0, .int 0, .null, .null, .int 0])) : bj_M E yX3_init cX3_init 1 1 12 2 34 o (o + 1) w (o + 3) (bj_cut E w o) := by
  refine bj_body (by decide +kernel) rfl (by decide) (fun X hO => ?_)
  replace hO : bj_O E X RX3 cX3_init 1 1 12 2 34 (o + 1) := hO
  refine bj_cg (w2 := (bj_mid E w o 3 [.int 0, .int 0, .int 0, .null, .null, .int 0])) (fun k hk => (bj_mid_w hw k hk).symm) ?_
  refine bj_aload_n hO 0 dX3_init_0 rfl rfl ?_
  refine bj_obj hO wc_20 dX3_init_1 (by decide) (by decide) rfl ?_
  refine bj_aload_n hO 0 dX3_init_4 rfl rfl ?_
  refine bj_iconst (v := 0) hO dX3_init_5 (by decide) ?_
  refine bj_put (C := RX3) (T := TX3) (N := 6) (j := 0) (ty := .int) (v := gj_i 0) (w2 := (bj_mid E w o 3 [.int 0, .int 0, .int 0, .null, .null, .int 0])) hO ly_X3 tyX3_ok nmX3 (by omega) (bj_mid_o) rfl (by decide) rfl rfl wc_21 rfl (by decide +kernel) rfl rfl (Nat.le_of_ble_eq_true rfl) bj_mid_p bj_mid_o dX3_init_6 ?_
  refine bj_aload_n hO 0 dX3_init_9 rfl rfl ?_
  refine bj_bipush (v := 8) hO dX3_init_10 (by decide) ?_
  refine bj_put (C := RX3) (T := TX3) (N := 6) (j := 1) (ty := .int) (v := gj_i 8) (w2 := (bj_mid E w o 3 [.int 0, .int 8, .int 0, .null, .null, .int 0])) hO ly_X3 tyX3_ok nmX3 (by omega) (bj_mid_o) rfl (by decide) rfl rfl wc_22 rfl (by decide +kernel) rfl rfl (Nat.le_of_ble_eq_true rfl) bj_mid_p bj_mid_o dX3_init_12 ?_
  refine bj_aload_n hO 0 dX3_init_15 rfl rfl ?_
  refine bj_iconst (v := 0) hO dX3_init_16 (by decide) ?_
  refine bj_put (C := RX3) (T := TX3) (N := 6) (j := 2) (ty := .int) (v := gj_i 0) (w2 := (bj_mid E w o 3 [.int 0, .int 8, .int 0, .null, .null, .int 0])) hO ly_X3 tyX3_ok nmX3 (by omega) (bj_mid_o) rfl (by decide) rfl rfl wc_23 rfl (by decide +kernel) rfl rfl (Nat.le_of_ble_eq_true rfl) bj_mid_p bj_mid_o dX3_init_17 ?_
  refine bj_aload_n hO 0 dX3_init_20 rfl rfl ?_
  refine bj_bipush (v := 17) hO dX3_init_21 (by decide) ?_
  refine bj_newaI (N := 17) (w2 := (bj_mid E w o 3 [.int 0, .int 8, .int 0, .null, .null, .int 0])) hO (by decide) (by decide) (by decide) (by decide) (by decide) (by omega) (by omega) (fun _ _ => rfl) ((bj_mid_L (by omega)).trans (bj_LI (kdR_1 ho))) dX3_init_23 ?_
  refine bj_putF (C := RX3) (T := TX3) (N := 6) (j := 3) (ty := (.array .int)) (v := gj_r (o + 1)) (w2 := (bj_mid E w o 3 [.int 0, .int 8, .int 0, .ref (E.2.1 + (o + 1)), .null, .int 0])) hO ly_X3 tyX3_ok nmX3 (by omega) (bj_mid_o) rfl (by decide) rfl rfl wc_24 rfl (by decide +kernel) rfl rfl (Nat.le_of_ble_eq_true rfl) bj_mid_p bj_mid_o dX3_init_25 ?_
  refine bj_aload_n hO 0 dX3_init_28 rfl rfl ?_
  refine bj_bipush (v := 17) hO dX3_init_29 (by decide) ?_
  refine bj_newaZ (N := 17) (w2 := (bj_mid E w o 3 [.int 0, .int 8, .int 0, .ref (E.2.1 + (o + 1)), .null, .int 0])) hO (by decide) (by decide) (by decide) (by decide) (by decide) (by omega) (by omega) (fun _ _ => rfl) ((bj_mid_L (by omega)).trans (bj_LZ (kdR_2 ho))) dX3_init_31 ?_
  refine bj_putF (C := RX3) (T := TX3) (N := 6) (j := 4) (ty := (.array .boolean)) (v := gj_r (o + 2)) (w2 := (bj_mid E w o 3 [.int 0, .int 8, .int 0, .ref (E.2.1 + (o + 1)), .ref (E.2.1 + (o + 2)), .int 0])) hO ly_X3 tyX3_ok nmX3 (by omega) (bj_mid_o) rfl (by decide) rfl rfl wc_25 rfl (by decide +kernel) rfl rfl (Nat.le_of_ble_eq_true rfl) bj_mid_p bj_mid_o dX3_init_33 ?_
  refine bj_aload_n hO 0 dX3_init_36 rfl rfl ?_
  refine bj_iconst (v := 0) hO dX3_init_37 (by decide) ?_
  refine bj_put (C := RX3) (T := TX3) (N := 6) (j := 5) (ty := .int) (v := gj_i 0) (w2 := (bj_mid E w o 3 [.int 0, .int 8, .int 0, .ref (E.2.1 + (o + 1)), .ref (E.2.1 + (o + 2)), .int 0])) hO ly_X3 tyX3_ok nmX3 (by omega) (bj_mid_o) rfl (by decide) rfl rfl wc_26 rfl (by decide +kernel) rfl rfl (Nat.le_of_ble_eq_true rfl) bj_mid_p bj_mid_o dX3_init_38 ?_
  exact bj_vret hO rfl rfl rfl (bj_end (by rw [bj_LO (kdR_0 ho) (by decide)]; simp [bj_s0, kdR_0 ho, gj_fs, Nat.add_assoc])) dX3_init_41
theorem wc_27 : Cond.methodLink RX7 3 objectInit ∈ gj_gw := gj_good (List.mem_of_getElem? (i := 172) (by decide +kernel)) (by decide +kernel)
theorem wc_28 : Cond.classLink RX7 9 RX1 ∈ gj_gw := gj_good (List.mem_of_getElem? (i := 173) (by decide +kernel)) (by decide +kernel)
theorem wc_29 : Cond.instantiable RX1 13 ∈ gj_gw := gj_good (List.mem_of_getElem? (i := 36) (by decide +kernel)) (by decide +kernel)
theorem wc_30 : Cond.initialized RX1 ∈ gj_gw := gj_good (List.mem_of_getElem? (i := 3) (by decide +kernel)) (by decide +kernel)
theorem wc_31 : Cond.instanceMethod yX1_init ∈ gj_gw := gj_good (List.mem_of_getElem? (i := 38) (by decide +kernel)) (by decide +kernel)
theorem wc_32 : Cond.code yX1_init cX1_init 1 none ∈ gj_gw := gj_good (List.mem_of_getElem? (i := 39) (by decide +kernel)) (by decide +kernel)
theorem wc_33 : Cond.fieldLink RX7 12 RX7 "plan" "LPivotDocks$Plan;" ∈ gj_gw := gj_good (List.mem_of_getElem? (i := 242) (by decide +kernel)) (by decide +kernel)
theorem wc_34 : Cond.classLink RX7 18 RX5 ∈ gj_gw := gj_good (List.mem_of_getElem? (i := 175) (by decide +kernel)) (by decide +kernel)
theorem wc_35 : Cond.instantiable RX5 5 ∈ gj_gw := gj_good (List.mem_of_getElem? (i := 176) (by decide +kernel)) (by decide +kernel)
theorem wc_36 : Cond.initialized RX5 ∈ gj_gw := gj_good (List.mem_of_getElem? (i := 5) (by decide +kernel)) (by decide +kernel)
theorem wc_37 : Cond.instanceMethod yX5_init ∈ gj_gw := gj_good (List.mem_of_getElem? (i := 178) (by decide +kernel)) (by decide +kernel)
theorem wc_38 : Cond.code yX5_init cX5_init 1 none ∈ gj_gw := gj_good (List.mem_of_getElem? (i := 179) (by decide +kernel)) (by decide +kernel)
theorem wc_39 : Cond.fieldLink RX7 21 RX7 "tree" "LPivotDocks$Tree;" ∈ gj_gw := gj_good (List.mem_of_getElem? (i := 244) (by decide +kernel)) (by decide +kernel)
theorem wc_40 : Cond.classLink RX7 25 RX3 ∈ gj_gw := gj_good (List.mem_of_getElem? (i := 206) (by decide +kernel)) (by decide +kernel)
theorem wc_41 : Cond.instantiable RX3 6 ∈ gj_gw := gj_good (List.mem_of_getElem? (i := 207) (by decide +kernel)) (by decide +kernel)
theorem wc_42 : Cond.initialized RX3 ∈ gj_gw := gj_good (List.mem_of_getElem? (i := 6) (by decide +kernel)) (by decide +kernel)
theorem wc_43 : Cond.instanceMethod yX3_init ∈ gj_gw := gj_good (List.mem_of_getElem? (i := 209) (by decide +kernel)) (by decide +kernel)
theorem wc_44 : Cond.code yX3_init cX3_init 1 none ∈ gj_gw := gj_good (List.mem_of_getElem? (i := 210) (by decide +kernel)) (by decide +kernel)
theorem wc_45 : Cond.fieldLink RX7 28 RX7 "closed" "LPivotDocks$Ring;" ∈ gj_gw := gj_good (List.mem_of_getElem? (i := 246) (by decide +kernel)) (by decide +kernel)
theorem wc_46 : Cond.fieldLink RX7 32 RX7 "behindLooked" "I" ∈ gj_gw := gj_good (List.mem_of_getElem? (i := 247) (by decide +kernel)) (by decide +kernel)
set_option maxHeartbeats 4000000 in
set_option maxRecDepth 100000 in
theorem c_X7_init {E : bj_E} {w : Nat → va_E} {o : Nat} (ho : isY o) (hw : w o = .inr (7, [.null, .null, .null, .int 0])) : bj_M E yX7_init cX7_init 1 2 32 18 335 o (o + 1) w (o + 19) (bj_cut E w o) := by
  refine bj_body (by decide +kernel) rfl (by decide) (fun X hO => ?_)
  replace hO : bj_O E X RX7 cX7_init 1 2 32 18 335 (o + 1) := hO
  refine bj_cg (w2 := (bj_mid E w o 7 [.null, .null, .null, .int 0])) (fun k hk => (bj_mid_w hw k hk).symm) ?_
  refine bj_aload_n hO 0 dX7_init_0 rfl rfl ?_
  refine bj_obj hO wc_27 dX7_init_1 (by decide) (by decide) rfl ?_
  refine bj_aload_n hO 0 dX7_init_4 rfl rfl ?_
  refine bj_new (ci := 1) (fs := [.int 0, .int 0, .int 0, .int 0, .int 0, .null, .null, .null, .null, .null, .null, .null, .null]) (w2 := bj_sub (bj_mid E w o 7 [.null, .null, .null, .int 0]) (o + 1) (.inr (1, [.int 0, .int 0, .int 0, .int 0, .int 0, .null, .null, .null, .null, .null, .null, .null, .null]))) hO ly_X1 tyX1_ok wc_28 wc_29 wc_30 rfl (fun j hj => by rcases (show j = 0 ∨ j = 1 ∨ j = 2 ∨ j = 3 ∨ j = 4 ∨ j = 5 ∨ j = 6 ∨ j = 7 ∨ j = 8 ∨ j = 9 ∨ j = 10 ∨ j = 11 ∨ j = 12 by omega) with rfl | rfl | rfl | rfl | rfl | rfl | rfl | rfl | rfl | rfl | rfl | rfl | rfl <;> rfl) (by decide) (by decide) (by omega) (by omega) bj_sub_e bj_sub_m dX7_init_5 ?_
  refine bj_dup hO dX7_init_8 trivial ?_
  refine bj_call hO (o := o + 1) (n2 := o + 10) (c_X1_init (isY_P ho) bj_sub_m) (List.mem_of_getElem? (i := 3) rfl) wc_31 wc_30 wc_32 rfl (by decide +kernel) (by decide) (by decide) (by decide) (by decide) (by omega) (by omega) (Nat.le_of_ble_eq_true rfl) dX7_init_9 ?_
  refine bj_cg (w2 := (bj_mid E w o 7 [.null, .null, .null, .int 0])) (bj_cut_sub (by omega)) ?_
  refine bj_putF (C := RX7) (T := TX7) (N := 4) (j := 0) (ty := (.object "PivotDocks$Plan")) (v := gj_r (o + 1)) (w2 := (bj_mid E w o 7 [.ref (E.2.1 + (o + 1)), .null, .null, .int 0])) hO ly_X7 tyX7_ok nmX7 (by omega) (bj_mid_o) rfl (by decide) rfl rfl wc_33 rfl (by decide +kernel) rfl rfl (Nat.le_of_ble_eq_true rfl) bj_mid_p bj_mid_o dX7_init_12 ?_
  refine bj_aload_n hO 0 dX7_init_15 rfl rfl ?_
  refine bj_new (ci := 5) (fs := [.null, .null, .null, .null, .null]) (w2 := bj_sub (bj_mid E w o 7 [.ref (E.2.1 + (o + 1)), .null, .null, .int 0]) (o + 10) (.inr (5, [.null, .null, .null, .null, .null]))) hO ly_X5 tyX5_ok wc_34 wc_35 wc_36 rfl (fun j hj => by rcases (show j = 0 ∨ j = 1 ∨ j = 2 ∨ j = 3 ∨ j = 4 by omega) with rfl | rfl | rfl | rfl | rfl <;> rfl) (by decide) (by decide) (by omega) (by omega) bj_sub_e bj_sub_m dX7_init_16 ?_
  refine bj_dup hO dX7_init_19 trivial ?_
  refine bj_call hO (o := o + 10) (n2 := o + 16) (c_X5_init (isY_T ho) bj_sub_m) (List.mem_of_getElem? (i := 4) rfl) wc_37 wc_36 wc_38 rfl (by decide +kernel) (by decide) (by decide) (by decide) (by decide) (by omega) (by omega) (Nat.le_of_ble_eq_true rfl) dX7_init_20 ?_
  refine bj_cg (w2 := (bj_mid E w o 7 [.ref (E.2.1 + (o + 1)), .null, .null, .int 0])) (bj_cut_sub (by omega)) ?_
  refine bj_putF (C := RX7) (T := TX7) (N := 4) (j := 1) (ty := (.object "PivotDocks$Tree")) (v := gj_r (o + 10)) (w2 := (bj_mid E w o 7 [.ref (E.2.1 + (o + 1)), .ref (E.2.1 + (o + 10)), .null, .int 0])) hO ly_X7 tyX7_ok nmX7 (by omega) (bj_mid_o) rfl (by decide) rfl rfl wc_39 rfl (by decide +kernel) rfl rfl (Nat.le_of_ble_eq_true rfl) bj_mid_p bj_mid_o dX7_init_23 ?_
  refine bj_aload_n hO 0 dX7_init_26 rfl rfl ?_
  refine bj_new (ci := 3) (fs := [.int 0, .int 0, .int 0, .null, .null, .int 0]) (w2 := bj_sub (bj_mid E w o 7 [.ref (E.2.1 + (o + 1)), .ref (E.2.1 + (o + 10)), .null, .int 0]) (o + 16) (.inr (3, [.int 0, .int 0, .int 0, .null, .null, .int 0]))) hO ly_X3 tyX3_ok wc_40 wc_41 wc_42 rfl (fun j hj => by rcases (show j = 0 ∨ j = 1 ∨ j = 2 ∨ j = 3 ∨ j = 4 ∨ j = 5 by omega) with rfl | rfl | rfl | rfl | rfl | rfl <;> rfl) (by decide) (by decide) (by omega) (by omega) bj_sub_e bj_sub_m dX7_init_27 ?_
  refine bj_dup hO dX7_init_30 trivial ?_
  refine bj_call hO (o := o + 16) (n2 := o + 19) (c_X3_init (isY_R ho) bj_sub_m) (List.mem_of_getElem? (i := 5) rfl) wc_43 wc_42 wc_44 rfl (by decide +kernel) (by decide) (by decide) (by decide) (by decide) (by omega) (by omega) (Nat.le_of_ble_eq_true rfl) dX7_init_31 ?_
  refine bj_cg (w2 := (bj_mid E w o 7 [.ref (E.2.1 + (o + 1)), .ref (E.2.1 + (o + 10)), .null, .int 0])) (bj_cut_sub (by omega)) ?_
  refine bj_putF (C := RX7) (T := TX7) (N := 4) (j := 2) (ty := (.object "PivotDocks$Ring")) (v := gj_r (o + 16)) (w2 := (bj_mid E w o 7 [.ref (E.2.1 + (o + 1)), .ref (E.2.1 + (o + 10)), .ref (E.2.1 + (o + 16)), .int 0])) hO ly_X7 tyX7_ok nmX7 (by omega) (bj_mid_o) rfl (by decide) rfl rfl wc_45 rfl (by decide +kernel) rfl rfl (Nat.le_of_ble_eq_true rfl) bj_mid_p bj_mid_o dX7_init_34 ?_
  refine bj_aload_n hO 0 dX7_init_37 rfl rfl ?_
  refine bj_iconst (v := 0) hO dX7_init_38 (by decide) ?_
  refine bj_put (C := RX7) (T := TX7) (N := 4) (j := 3) (ty := .int) (v := gj_i 0) (w2 := (bj_mid E w o 7 [.ref (E.2.1 + (o + 1)), .ref (E.2.1 + (o + 10)), .ref (E.2.1 + (o + 16)), .int 0])) hO ly_X7 tyX7_ok nmX7 (by omega) (bj_mid_o) rfl (by decide) rfl rfl wc_46 rfl (by decide +kernel) rfl rfl (Nat.le_of_ble_eq_true rfl) bj_mid_p bj_mid_o dX7_init_39 ?_
  exact bj_vret hO rfl rfl rfl (bj_end (by rw [bj_LO (kdY_0 ho) (by decide)]; simp [bj_s0, kdY_0 ho, gj_fs, Nat.add_assoc])) dX7_init_42
theorem wc_47 : Cond.methodLink RX2 3 objectInit ∈ gj_gw := gj_good (List.mem_of_getElem? (i := 34) (by decide +kernel)) (by decide +kernel)
theorem wc_48 : Cond.classLink RX2 9 RX1 ∈ gj_gw := gj_good (List.mem_of_getElem? (i := 35) (by decide +kernel)) (by decide +kernel)
theorem wc_49 : Cond.fieldLink RX2 12 RX2 "plan" "LPivotDocks$Plan;" ∈ gj_gw := gj_good (List.mem_of_getElem? (i := 130) (by decide +kernel)) (by decide +kernel)
theorem wc_50 : Cond.fieldLink RX2 18 RX2 "routeNames" "[J" ∈ gj_gw := gj_good (List.mem_of_getElem? (i := 132) (by decide +kernel)) (by decide +kernel)
theorem wc_51 : Cond.fieldLink RX2 22 RX2 "dockNames" "[J" ∈ gj_gw := gj_good (List.mem_of_getElem? (i := 134) (by decide +kernel)) (by decide +kernel)
theorem wc_52 : Cond.fieldLink RX2 25 RX2 "blockTold" "Z" ∈ gj_gw := gj_good (List.mem_of_getElem? (i := 135) (by decide +kernel)) (by decide +kernel)
theorem wc_53 : Cond.fieldLink RX2 29 RX2 "fault" "I" ∈ gj_gw := gj_good (List.mem_of_getElem? (i := 136) (by decide +kernel)) (by decide +kernel)
theorem wc_54 : Cond.fieldLink RX2 33 RX2 "at" "I" ∈ gj_gw := gj_good (List.mem_of_getElem? (i := 137) (by decide +kernel)) (by decide +kernel)
theorem wc_55 : Cond.fieldLink RX2 36 RX2 "length" "I" ∈ gj_gw := gj_good (List.mem_of_getElem? (i := 138) (by decide +kernel)) (by decide +kernel)
theorem wc_56 : Cond.fieldLink RX2 39 RX2 "kind" "I" ∈ gj_gw := gj_good (List.mem_of_getElem? (i := 139) (by decide +kernel)) (by decide +kernel)
theorem wc_57 : Cond.fieldLink RX2 42 RX2 "tokenAt" "I" ∈ gj_gw := gj_good (List.mem_of_getElem? (i := 140) (by decide +kernel)) (by decide +kernel)
theorem wc_58 : Cond.fieldLink RX2 45 RX2 "value" "J" ∈ gj_gw := gj_good (List.mem_of_getElem? (i := 141) (by decide +kernel)) (by decide +kernel)
theorem wc_59 : Cond.fieldLink RX2 49 RX2 "tape" "[B" ∈ gj_gw := gj_good (List.mem_of_getElem? (i := 142) (by decide +kernel)) (by decide +kernel)
set_option maxHeartbeats 4000000 in
set_option maxRecDepth 100000 in
theorem c_X2_init {E : bj_E} {w : Nat → va_E} (hw : w 2 = .inr (2, [.null, .null, .null, .int 0, .int 0, .int 0, .int 0, .int 0, .int 0, .long 0, .null])) : bj_M E yX2_init cX2_init 1 2 32 12 269 2 3 w 15 (bj_cut E w 2) := by
  refine bj_body (by decide +kernel) rfl (by decide) (fun X hO => ?_)
  replace hO : bj_O E X RX2 cX2_init 1 2 32 12 269 3 := hO
  refine bj_cg (w2 := (bj_mid E w 2 2 [.null, .null, .null, .int 0, .int 0, .int 0, .int 0, .int 0, .int 0, .long 0, .null])) (fun k hk => (bj_mid_w hw k hk).symm) ?_
  refine bj_aload_n hO 0 dX2_init_0 rfl rfl ?_
  refine bj_obj hO wc_47 dX2_init_1 (by decide) (by decide) rfl ?_
  refine bj_aload_n hO 0 dX2_init_4 rfl rfl ?_
  refine bj_new (ci := 1) (fs := [.int 0, .int 0, .int 0, .int 0, .int 0, .null, .null, .null, .null, .null, .null, .null, .null]) (w2 := bj_sub (bj_mid E w 2 2 [.null, .null, .null, .int 0, .int 0, .int 0, .int 0, .int 0, .int 0, .long 0, .null]) 3 (.inr (1, [.int 0, .int 0, .int 0, .int 0, .int 0, .null, .null, .null, .null, .null, .null, .null, .null]))) hO ly_X1 tyX1_ok wc_48 wc_29 wc_30 rfl (fun j hj => by rcases (show j = 0 ∨ j = 1 ∨ j = 2 ∨ j = 3 ∨ j = 4 ∨ j = 5 ∨ j = 6 ∨ j = 7 ∨ j = 8 ∨ j = 9 ∨ j = 10 ∨ j = 11 ∨ j = 12 by omega) with rfl | rfl | rfl | rfl | rfl | rfl | rfl | rfl | rfl | rfl | rfl | rfl | rfl <;> rfl) (by decide) (by decide) (by omega) (by omega) bj_sub_e bj_sub_m dX2_init_5 ?_
  refine bj_dup hO dX2_init_8 trivial ?_
  refine bj_call hO (o := 3) (n2 := 12) (c_X1_init isP_3 bj_sub_m) (List.mem_of_getElem? (i := 1) rfl) wc_31 wc_30 wc_32 rfl (by decide +kernel) (by decide) (by decide) (by decide) (by decide) (by omega) (by omega) (Nat.le_of_ble_eq_true rfl) dX2_init_9 ?_
  refine bj_cg (w2 := (bj_mid E w 2 2 [.null, .null, .null, .int 0, .int 0, .int 0, .int 0, .int 0, .int 0, .long 0, .null])) (bj_cut_sub (by omega)) ?_
  refine bj_putF (C := RX2) (T := TX2) (N := 11) (j := 0) (ty := (.object "PivotDocks$Plan")) (v := gj_r 3) (w2 := (bj_mid E w 2 2 [.ref (E.2.1 + 3), .null, .null, .int 0, .int 0, .int 0, .int 0, .int 0, .int 0, .long 0, .null])) hO ly_X2 tyX2_ok nmX2 (by omega) (bj_mid_o) rfl (by decide) rfl rfl wc_49 rfl (by decide +kernel) rfl rfl (Nat.le_of_ble_eq_true rfl) bj_mid_p bj_mid_o dX2_init_12 ?_
  refine bj_aload_n hO 0 dX2_init_15 rfl rfl ?_
  refine bj_bipush (v := 16) hO dX2_init_16 (by decide) ?_
  refine bj_newaJ (N := 16) (w2 := (bj_mid E w 2 2 [.ref (E.2.1 + 3), .null, .null, .int 0, .int 0, .int 0, .int 0, .int 0, .int 0, .long 0, .null])) hO (by decide) (by decide) (by decide) (by decide) (by decide) (by omega) (by omega) (fun _ _ => rfl) ((bj_mid_L (by omega)).trans (bj_LJ kd_12)) dX2_init_18 ?_
  refine bj_putF (C := RX2) (T := TX2) (N := 11) (j := 1) (ty := (.array .long)) (v := gj_r 12) (w2 := (bj_mid E w 2 2 [.ref (E.2.1 + 3), .ref (E.2.1 + 12), .null, .int 0, .int 0, .int 0, .int 0, .int 0, .int 0, .long 0, .null])) hO ly_X2 tyX2_ok nmX2 (by omega) (bj_mid_o) rfl (by decide) rfl rfl wc_50 rfl (by decide +kernel) rfl rfl (Nat.le_of_ble_eq_true rfl) bj_mid_p bj_mid_o dX2_init_20 ?_
  refine bj_aload_n hO 0 dX2_init_23 rfl rfl ?_
  refine bj_bipush (v := 8) hO dX2_init_24 (by decide) ?_
  refine bj_newaJ (N := 8) (w2 := (bj_mid E w 2 2 [.ref (E.2.1 + 3), .ref (E.2.1 + 12), .null, .int 0, .int 0, .int 0, .int 0, .int 0, .int 0, .long 0, .null])) hO (by decide) (by decide) (by decide) (by decide) (by decide) (by omega) (by omega) (fun _ _ => rfl) ((bj_mid_L (by omega)).trans (bj_LJ kd_13)) dX2_init_26 ?_
  refine bj_putF (C := RX2) (T := TX2) (N := 11) (j := 2) (ty := (.array .long)) (v := gj_r 13) (w2 := (bj_mid E w 2 2 [.ref (E.2.1 + 3), .ref (E.2.1 + 12), .ref (E.2.1 + 13), .int 0, .int 0, .int 0, .int 0, .int 0, .int 0, .long 0, .null])) hO ly_X2 tyX2_ok nmX2 (by omega) (bj_mid_o) rfl (by decide) rfl rfl wc_51 rfl (by decide +kernel) rfl rfl (Nat.le_of_ble_eq_true rfl) bj_mid_p bj_mid_o dX2_init_28 ?_
  refine bj_aload_n hO 0 dX2_init_31 rfl rfl ?_
  refine bj_iconst (v := 0) hO dX2_init_32 (by decide) ?_
  refine bj_put (C := RX2) (T := TX2) (N := 11) (j := 3) (ty := .boolean) (v := gj_i 0) (w2 := (bj_mid E w 2 2 [.ref (E.2.1 + 3), .ref (E.2.1 + 12), .ref (E.2.1 + 13), .int 0, .int 0, .int 0, .int 0, .int 0, .int 0, .long 0, .null])) hO ly_X2 tyX2_ok nmX2 (by omega) (bj_mid_o) rfl (by decide) rfl rfl wc_52 rfl (by decide +kernel) rfl rfl (Nat.le_of_ble_eq_true rfl) bj_mid_p bj_mid_o dX2_init_33 ?_
  refine bj_aload_n hO 0 dX2_init_36 rfl rfl ?_
  refine bj_iconst (v := (-1)) hO dX2_init_37 (by decide) ?_
  refine bj_put (C := RX2) (T := TX2) (N := 11) (j := 4) (ty := .int) (v := gj_i (-1)) (w2 := (bj_mid E w 2 2 [.ref (E.2.1 + 3), .ref (E.2.1 + 12), .ref (E.2.1 + 13), .int 0, .int (-1), .int 0, .int 0, .int 0, .int 0, .long 0, .null])) hO ly_X2 tyX2_ok nmX2 (by omega) (bj_mid_o) rfl (by decide) rfl rfl wc_53 rfl (by decide +kernel) rfl rfl (Nat.le_of_ble_eq_true rfl) bj_mid_p bj_mid_o dX2_init_38 ?_
  refine bj_aload_n hO 0 dX2_init_41 rfl rfl ?_
  refine bj_iconst (v := 0) hO dX2_init_42 (by decide) ?_
  refine bj_put (C := RX2) (T := TX2) (N := 11) (j := 5) (ty := .int) (v := gj_i 0) (w2 := (bj_mid E w 2 2 [.ref (E.2.1 + 3), .ref (E.2.1 + 12), .ref (E.2.1 + 13), .int 0, .int (-1), .int 0, .int 0, .int 0, .int 0, .long 0, .null])) hO ly_X2 tyX2_ok nmX2 (by omega) (bj_mid_o) rfl (by decide) rfl rfl wc_54 rfl (by decide +kernel) rfl rfl (Nat.le_of_ble_eq_true rfl) bj_mid_p bj_mid_o dX2_init_43 ?_
  refine bj_aload_n hO 0 dX2_init_46 rfl rfl ?_
  refine bj_iconst (v := 0) hO dX2_init_47 (by decide) ?_
  refine bj_put (C := RX2) (T := TX2) (N := 11) (j := 6) (ty := .int) (v := gj_i 0) (w2 := (bj_mid E w 2 2 [.ref (E.2.1 + 3), .ref (E.2.1 + 12), .ref (E.2.1 + 13), .int 0, .int (-1), .int 0, .int 0, .int 0, .int 0, .long 0, .null])) hO ly_X2 tyX2_ok nmX2 (by omega) (bj_mid_o) rfl (by decide) rfl rfl wc_55 rfl (by decide +kernel) rfl rfl (Nat.le_of_ble_eq_true rfl) bj_mid_p bj_mid_o dX2_init_48 ?_
  refine bj_aload_n hO 0 dX2_init_51 rfl rfl ?_
  refine bj_iconst (v := 3) hO dX2_init_52 (by decide) ?_
  refine bj_put (C := RX2) (T := TX2) (N := 11) (j := 7) (ty := .int) (v := gj_i 3) (w2 := (bj_mid E w 2 2 [.ref (E.2.1 + 3), .ref (E.2.1 + 12), .ref (E.2.1 + 13), .int 0, .int (-1), .int 0, .int 0, .int 3, .int 0, .long 0, .null])) hO ly_X2 tyX2_ok nmX2 (by omega) (bj_mid_o) rfl (by decide) rfl rfl wc_56 rfl (by decide +kernel) rfl rfl (Nat.le_of_ble_eq_true rfl) bj_mid_p bj_mid_o dX2_init_53 ?_
  refine bj_aload_n hO 0 dX2_init_56 rfl rfl ?_
  refine bj_iconst (v := 0) hO dX2_init_57 (by decide) ?_
  refine bj_put (C := RX2) (T := TX2) (N := 11) (j := 8) (ty := .int) (v := gj_i 0) (w2 := (bj_mid E w 2 2 [.ref (E.2.1 + 3), .ref (E.2.1 + 12), .ref (E.2.1 + 13), .int 0, .int (-1), .int 0, .int 0, .int 3, .int 0, .long 0, .null])) hO ly_X2 tyX2_ok nmX2 (by omega) (bj_mid_o) rfl (by decide) rfl rfl wc_57 rfl (by decide +kernel) rfl rfl (Nat.le_of_ble_eq_true rfl) bj_mid_p bj_mid_o dX2_init_58 ?_
  refine bj_aload_n hO 0 dX2_init_61 rfl rfl ?_
  refine bj_lconst (v := 0) hO dX2_init_62 (by decide) ?_
  refine bj_put (C := RX2) (T := TX2) (N := 11) (j := 9) (ty := .long) (v := gj_l 0) (w2 := (bj_mid E w 2 2 [.ref (E.2.1 + 3), .ref (E.2.1 + 12), .ref (E.2.1 + 13), .int 0, .int (-1), .int 0, .int 0, .int 3, .int 0, .long 0, .null])) hO ly_X2 tyX2_ok nmX2 (by omega) (bj_mid_o) rfl (by decide) rfl rfl wc_58 rfl (by decide +kernel) rfl rfl (Nat.le_of_ble_eq_true rfl) bj_mid_p bj_mid_o dX2_init_63 ?_
  refine bj_aload_n hO 0 dX2_init_66 rfl rfl ?_
  refine bj_iconst (v := 0) hO dX2_init_67 (by decide) ?_
  refine bj_newaB (N := 0) (w2 := (bj_mid E w 2 2 [.ref (E.2.1 + 3), .ref (E.2.1 + 12), .ref (E.2.1 + 13), .int 0, .int (-1), .int 0, .int 0, .int 3, .int 0, .long 0, .null])) hO (by decide) (by decide) (by decide) (by decide) (by decide) (by omega) (by omega) (fun _ _ => rfl) ((bj_mid_L (by omega)).trans (bj_LB kd_14)) dX2_init_68 ?_
  refine bj_put (C := RX2) (T := TX2) (N := 11) (j := 10) (ty := (.array .byte)) (v := gj_r 14) (w2 := (bj_mid E w 2 2 [.ref (E.2.1 + 3), .ref (E.2.1 + 12), .ref (E.2.1 + 13), .int 0, .int (-1), .int 0, .int 0, .int 3, .int 0, .long 0, .ref (E.2.1 + 14)])) hO ly_X2 tyX2_ok nmX2 (by omega) (bj_mid_o) rfl (by decide) rfl rfl wc_59 rfl (by decide +kernel) rfl rfl (Nat.le_of_ble_eq_true rfl) bj_mid_p bj_mid_o dX2_init_70 ?_
  exact bj_vret hO rfl rfl rfl (bj_end (by rw [bj_LO kd_2 (by decide)]; rfl)) dX2_init_73
theorem wc_60 : Cond.methodLink RX6 5 objectInit ∈ gj_gw := gj_good (List.mem_of_getElem? (i := 283) (by decide +kernel)) (by decide +kernel)
theorem wc_61 : Cond.fieldLink RX6 11 RX6 "least" "[I" ∈ gj_gw := gj_good (List.mem_of_getElem? (i := 284) (by decide +kernel)) (by decide +kernel)
set_option maxHeartbeats 4000000 in
set_option maxRecDepth 100000 in
theorem c_X6_init {E : bj_E} {w : Nat → va_E} (hw : w 166 = .inr (6, [.null])) : bj_M E yX6_init cX6_init 1 1 12 1 8 166 167 w 168 (bj_cut E w 166) := by
  refine bj_body (by decide +kernel) rfl (by decide) (fun X hO => ?_)
  replace hO : bj_O E X RX6 cX6_init 1 1 12 1 8 167 := hO
  refine bj_cg (w2 := (bj_mid E w 166 6 [.null])) (fun k hk => (bj_mid_w hw k hk).symm) ?_
  refine bj_aload_n hO 0 dX6_init_0 rfl rfl ?_
  refine bj_obj hO wc_60 dX6_init_1 (by decide) (by decide) rfl ?_
  refine bj_aload_n hO 0 dX6_init_4 rfl rfl ?_
  refine bj_bipush (v := 8) hO dX6_init_5 (by decide) ?_
  refine bj_newaI (N := 8) (w2 := (bj_mid E w 166 6 [.null])) hO (by decide) (by decide) (by decide) (by decide) (by decide) (by omega) (by omega) (fun _ _ => rfl) ((bj_mid_L (by omega)).trans (bj_LI kd_167)) dX6_init_7 ?_
  refine bj_putF (C := RX6) (T := TX6) (N := 1) (j := 0) (ty := (.array .int)) (v := gj_r 167) (w2 := (bj_mid E w 166 6 [.ref (E.2.1 + 167)])) hO ly_X6 tyX6_ok nmX6 (by omega) (bj_mid_o) rfl (by decide) rfl rfl wc_61 rfl (by decide +kernel) rfl rfl (Nat.le_of_ble_eq_true rfl) bj_mid_p bj_mid_o dX6_init_9 ?_
  exact bj_vret hO rfl rfl rfl (bj_end (by rw [bj_LO kd_166 (by decide)]; rfl)) dX6_init_12
theorem wc_62 : Cond.methodLink RX4 3 objectInit ∈ gj_gw := gj_good (List.mem_of_getElem? (i := 293) (by decide +kernel)) (by decide +kernel)
theorem wc_63 : Cond.fieldLink RX4 9 RX4 "bytes" "[B" ∈ gj_gw := gj_good (List.mem_of_getElem? (i := 294) (by decide +kernel)) (by decide +kernel)
theorem wc_64 : Cond.fieldLink RX4 15 RX4 "length" "I" ∈ gj_gw := gj_good (List.mem_of_getElem? (i := 296) (by decide +kernel)) (by decide +kernel)
set_option maxHeartbeats 4000000 in
set_option maxRecDepth 100000 in
theorem c_X4_init {E : bj_E} {w : Nat → va_E} (hw : w 168 = .inr (4, [.null, .int 0])) : bj_M E yX4_init cX4_init 1 1 12 1 192 168 169 w 170 (bj_cut E w 168) := by
  refine bj_body (by decide +kernel) rfl (by decide) (fun X hO => ?_)
  replace hO : bj_O E X RX4 cX4_init 1 1 12 1 192 169 := hO
  refine bj_cg (w2 := (bj_mid E w 168 4 [.null, .int 0])) (fun k hk => (bj_mid_w hw k hk).symm) ?_
  refine bj_aload_n hO 0 dX4_init_0 rfl rfl ?_
  refine bj_obj hO wc_62 dX4_init_1 (by decide) (by decide) rfl ?_
  refine bj_aload_n hO 0 dX4_init_4 rfl rfl ?_
  refine bj_sipush (v := 192) hO dX4_init_5 (by decide) ?_
  refine bj_newaB (N := 192) (w2 := (bj_mid E w 168 4 [.null, .int 0])) hO (by decide) (by decide) (by decide) (by decide) (by decide) (by omega) (by omega) (fun _ _ => rfl) ((bj_mid_L (by omega)).trans (bj_LB kd_169)) dX4_init_8 ?_
  refine bj_putF (C := RX4) (T := TX4) (N := 2) (j := 0) (ty := (.array .byte)) (v := gj_r 169) (w2 := (bj_mid E w 168 4 [.ref (E.2.1 + 169), .int 0])) hO ly_X4 tyX4_ok nmX4 (by omega) (bj_mid_o) rfl (by decide) rfl rfl wc_63 rfl (by decide +kernel) rfl rfl (Nat.le_of_ble_eq_true rfl) bj_mid_p bj_mid_o dX4_init_10 ?_
  refine bj_aload_n hO 0 dX4_init_13 rfl rfl ?_
  refine bj_iconst (v := 0) hO dX4_init_14 (by decide) ?_
  refine bj_put (C := RX4) (T := TX4) (N := 2) (j := 1) (ty := .int) (v := gj_i 0) (w2 := (bj_mid E w 168 4 [.ref (E.2.1 + 169), .int 0])) hO ly_X4 tyX4_ok nmX4 (by omega) (bj_mid_o) rfl (by decide) rfl rfl wc_64 rfl (by decide +kernel) rfl rfl (Nat.le_of_ble_eq_true rfl) bj_mid_p bj_mid_o dX4_init_15 ?_
  exact bj_vret hO rfl rfl rfl (bj_end (by rw [bj_LO kd_168 (by decide)]; rfl)) dX4_init_18
theorem wc_65 : Cond.methodLink RX0 3 objectInit ∈ gj_gw := gj_good (List.mem_of_getElem? (i := 262) (by decide +kernel)) (by decide +kernel)
theorem wc_66 : Cond.classLink RX0 9 "PivotDocks$Plan" ∈ gj_gw := gj_good (List.mem_of_getElem? (i := 263) (by decide +kernel)) (by decide +kernel)
theorem wc_67 : Cond.fieldLink RX0 11 RX0 "plans" "[LPivotDocks$Plan;" ∈ gj_gw := gj_good (List.mem_of_getElem? (i := 266) (by decide +kernel)) (by decide +kernel)
theorem wc_68 : Cond.fieldLink RX0 17 RX0 "next" "I" ∈ gj_gw := gj_good (List.mem_of_getElem? (i := 267) (by decide +kernel)) (by decide +kernel)
theorem wc_69 : Cond.fieldLink RX0 21 RX0 "held" "I" ∈ gj_gw := gj_good (List.mem_of_getElem? (i := 268) (by decide +kernel)) (by decide +kernel)
set_option maxHeartbeats 4000000 in
set_option maxRecDepth 100000 in
theorem c_X0_init {E : bj_E} {w : Nat → va_E} (hw : w 54 = .inr (0, [.null, .int 0, .int 0])) : bj_M E yX0_init cX0_init 2 2 32 109 2952 54 55 w 164 (bj_cut E w 54) := by
  refine bj_body (by decide +kernel) rfl (by decide) (fun X hO => ?_)
  replace hO : bj_O E X RX0 cX0_init 2 2 32 109 2952 55 := hO
  refine bj_cg (w2 := (bj_mid E w 54 0 [.null, .int 0, .int 0])) (fun k hk => (bj_mid_w hw k hk).symm) ?_
  refine bj_aload_n hO 0 dX0_init_0 rfl rfl ?_
  refine bj_obj hO wc_65 dX0_init_1 (by decide) (by decide) rfl ?_
  refine bj_aload_n hO 0 dX0_init_4 rfl rfl ?_
  refine bj_bipush (v := 12) hO dX0_init_5 (by decide) ?_
  refine bj_anew (N := 12) (w2 := (bj_mid2 E (bj_mid E w 54 0 [.null, .int 0, .int 0]) 55 12 0)) hO wc_66 (by decide) (by decide) (by decide) (by decide) (by decide) (by omega) (by omega) bj_mid2_e bj_mid2_n dX0_init_7 ?_
  refine bj_putF (C := RX0) (T := TX0) (N := 3) (j := 0) (ty := (.array (.object "PivotDocks$Plan"))) (v := gj_r 55) (w2 := (bj_mid2 E (bj_mid E w 54 0 [.ref (E.2.1 + 55), .int 0, .int 0]) 55 12 0)) hO ly_X0 tyX0_ok nmX0 (by omega) (bj_mid2_o (by omega)) rfl (by decide) rfl rfl wc_67 rfl (by decide +kernel) rfl rfl (Nat.le_of_ble_eq_true rfl) bj_mid2_q (bj_mid2_o (by omega)) dX0_init_10 ?_
  refine bj_aload_n hO 0 dX0_init_13 rfl rfl ?_
  refine bj_iconst (v := 0) hO dX0_init_14 (by decide) ?_
  refine bj_put (C := RX0) (T := TX0) (N := 3) (j := 1) (ty := .int) (v := gj_i 0) (w2 := (bj_mid2 E (bj_mid E w 54 0 [.ref (E.2.1 + 55), .int 0, .int 0]) 55 12 0)) hO ly_X0 tyX0_ok nmX0 (by omega) (bj_mid2_o (by omega)) rfl (by decide) rfl rfl wc_68 rfl (by decide +kernel) rfl rfl (Nat.le_of_ble_eq_true rfl) bj_mid2_q (bj_mid2_o (by omega)) dX0_init_15 ?_
  refine bj_aload_n hO 0 dX0_init_18 rfl rfl ?_
  refine bj_iconst (v := 0) hO dX0_init_19 (by decide) ?_
  refine bj_put (C := RX0) (T := TX0) (N := 3) (j := 2) (ty := .int) (v := gj_i 0) (w2 := (bj_mid2 E (bj_mid E w 54 0 [.ref (E.2.1 + 55), .int 0, .int 0]) 55 12 0)) hO ly_X0 tyX0_ok nmX0 (by omega) (bj_mid2_o (by omega)) rfl (by decide) rfl rfl wc_69 rfl (by decide +kernel) rfl rfl (Nat.le_of_ble_eq_true rfl) bj_mid2_q (bj_mid2_o (by omega)) dX0_init_20 ?_
  refine bj_iconst (v := 0) hO dX0_init_23 (by decide) ?_
  refine bj_istore_n (lv2 := [(1, gj_i 0), (0, gj_r 54)]) hO dX0_init_24 rfl (by decide) rfl ?_
  refine bj_iload_n hO 0 dX0_init_25 rfl rfl ?_
  refine bj_bipush (v := 12) hO dX0_init_26 (by decide) ?_
  refine bj_ge_f hO 50 dX0_init_28 (by decide) (by decide) ?_
  refine bj_aload_n hO 1 dX0_init_31 rfl rfl ?_
  refine bj_get (C := RX0) (T := TX0) (N := 3) (j := 0) (v := gj_r 55) hO ly_X0 (by omega) (bj_mid2_o (by omega)) rfl (by decide) rfl wc_67 rfl dX0_init_32 ?_
  refine bj_iload_n hO 0 dX0_init_35 rfl rfl ?_
  refine bj_new (ci := 1) (fs := [.int 0, .int 0, .int 0, .int 0, .int 0, .null, .null, .null, .null, .null, .null, .null, .null]) (w2 := bj_sub (bj_mid2 E (bj_mid E w 54 0 [.ref (E.2.1 + 55), .int 0, .int 0]) 55 12 0) 56 (.inr (1, [.int 0, .int 0, .int 0, .int 0, .int 0, .null, .null, .null, .null, .null, .null, .null, .null]))) hO ly_X1 tyX1_ok wc_66 wc_29 wc_30 rfl (fun j hj => by rcases (show j = 0 ∨ j = 1 ∨ j = 2 ∨ j = 3 ∨ j = 4 ∨ j = 5 ∨ j = 6 ∨ j = 7 ∨ j = 8 ∨ j = 9 ∨ j = 10 ∨ j = 11 ∨ j = 12 by omega) with rfl | rfl | rfl | rfl | rfl | rfl | rfl | rfl | rfl | rfl | rfl | rfl | rfl <;> rfl) (by decide) (by decide) (by omega) (by omega) bj_sub_e bj_sub_m dX0_init_36 ?_
  refine bj_dup hO dX0_init_39 trivial ?_
  refine bj_call hO (o := 56) (n2 := 65) (c_X1_init isP_56 bj_sub_m) (List.mem_of_getElem? (i := 6) rfl) wc_31 wc_30 wc_32 rfl (by decide +kernel) (by decide) (by decide) (by decide) (by decide) (by omega) (by omega) (Nat.le_of_ble_eq_true rfl) dX0_init_40 ?_
  refine bj_cg (w2 := (bj_mid2 E (bj_mid E w 54 0 [.ref (E.2.1 + 55), .int 0, .int 0]) 55 12 0)) (bj_cut_sub2 (by omega)) ?_
  refine bj_aast (a := 55) (v := 56) (N := 12) (w2 := (bj_mid2 E (bj_mid E w 54 0 [.ref (E.2.1 + 55), .int 0, .int 0]) 55 12 1)) hO (by omega) bj_mid2_A (by omega) ((bj_mid2_L (by omega)).trans ((bj_LO (kdP_0 isP_56) (by decide)))) (by unfold vp_in; decide) bj_mid2_p (bj_mid2_S 0 rfl rfl) dX0_init_43 ?_
  refine bj_iinc (v := 1) (lv2 := [(1, gj_i 1), (0, gj_r 54)]) hO 0 dX0_init_44 rfl (by decide) (by decide) rfl ?_
  refine bj_goto (tgt := 25) hO dX0_init_47 (by decide) ?_
  refine bj_iload_n hO 0 dX0_init_25 rfl rfl ?_
  refine bj_bipush (v := 12) hO dX0_init_26 (by decide) ?_
  refine bj_ge_f hO 50 dX0_init_28 (by decide) (by decide) ?_
  refine bj_aload_n hO 1 dX0_init_31 rfl rfl ?_
  refine bj_get (C := RX0) (T := TX0) (N := 3) (j := 0) (v := gj_r 55) hO ly_X0 (by omega) (bj_mid2_o (by omega)) rfl (by decide) rfl wc_67 rfl dX0_init_32 ?_
  refine bj_iload_n hO 0 dX0_init_35 rfl rfl ?_
  refine bj_new (ci := 1) (fs := [.int 0, .int 0, .int 0, .int 0, .int 0, .null, .null, .null, .null, .null, .null, .null, .null]) (w2 := bj_sub (bj_mid2 E (bj_mid E w 54 0 [.ref (E.2.1 + 55), .int 0, .int 0]) 55 12 1) 65 (.inr (1, [.int 0, .int 0, .int 0, .int 0, .int 0, .null, .null, .null, .null, .null, .null, .null, .null]))) hO ly_X1 tyX1_ok wc_66 wc_29 wc_30 rfl (fun j hj => by rcases (show j = 0 ∨ j = 1 ∨ j = 2 ∨ j = 3 ∨ j = 4 ∨ j = 5 ∨ j = 6 ∨ j = 7 ∨ j = 8 ∨ j = 9 ∨ j = 10 ∨ j = 11 ∨ j = 12 by omega) with rfl | rfl | rfl | rfl | rfl | rfl | rfl | rfl | rfl | rfl | rfl | rfl | rfl <;> rfl) (by decide) (by decide) (by omega) (by omega) bj_sub_e bj_sub_m dX0_init_36 ?_
  refine bj_dup hO dX0_init_39 trivial ?_
  refine bj_call hO (o := 65) (n2 := 74) (c_X1_init isP_65 bj_sub_m) (List.mem_of_getElem? (i := 6) rfl) wc_31 wc_30 wc_32 rfl (by decide +kernel) (by decide) (by decide) (by decide) (by decide) (by omega) (by omega) (Nat.le_of_ble_eq_true rfl) dX0_init_40 ?_
  refine bj_cg (w2 := (bj_mid2 E (bj_mid E w 54 0 [.ref (E.2.1 + 55), .int 0, .int 0]) 55 12 1)) (bj_cut_sub2 (by omega)) ?_
  refine bj_aast (a := 55) (v := 65) (N := 12) (w2 := (bj_mid2 E (bj_mid E w 54 0 [.ref (E.2.1 + 55), .int 0, .int 0]) 55 12 2)) hO (by omega) bj_mid2_A (by omega) ((bj_mid2_L (by omega)).trans ((bj_LO (kdP_0 isP_65) (by decide)))) (by unfold vp_in; decide) bj_mid2_p (bj_mid2_S 1 rfl rfl) dX0_init_43 ?_
  refine bj_iinc (v := 2) (lv2 := [(1, gj_i 2), (0, gj_r 54)]) hO 0 dX0_init_44 rfl (by decide) (by decide) rfl ?_
  refine bj_goto (tgt := 25) hO dX0_init_47 (by decide) ?_
  refine bj_iload_n hO 0 dX0_init_25 rfl rfl ?_
  refine bj_bipush (v := 12) hO dX0_init_26 (by decide) ?_
  refine bj_ge_f hO 50 dX0_init_28 (by decide) (by decide) ?_
  refine bj_aload_n hO 1 dX0_init_31 rfl rfl ?_
  refine bj_get (C := RX0) (T := TX0) (N := 3) (j := 0) (v := gj_r 55) hO ly_X0 (by omega) (bj_mid2_o (by omega)) rfl (by decide) rfl wc_67 rfl dX0_init_32 ?_
  refine bj_iload_n hO 0 dX0_init_35 rfl rfl ?_
  refine bj_new (ci := 1) (fs := [.int 0, .int 0, .int 0, .int 0, .int 0, .null, .null, .null, .null, .null, .null, .null, .null]) (w2 := bj_sub (bj_mid2 E (bj_mid E w 54 0 [.ref (E.2.1 + 55), .int 0, .int 0]) 55 12 2) 74 (.inr (1, [.int 0, .int 0, .int 0, .int 0, .int 0, .null, .null, .null, .null, .null, .null, .null, .null]))) hO ly_X1 tyX1_ok wc_66 wc_29 wc_30 rfl (fun j hj => by rcases (show j = 0 ∨ j = 1 ∨ j = 2 ∨ j = 3 ∨ j = 4 ∨ j = 5 ∨ j = 6 ∨ j = 7 ∨ j = 8 ∨ j = 9 ∨ j = 10 ∨ j = 11 ∨ j = 12 by omega) with rfl | rfl | rfl | rfl | rfl | rfl | rfl | rfl | rfl | rfl | rfl | rfl | rfl <;> rfl) (by decide) (by decide) (by omega) (by omega) bj_sub_e bj_sub_m dX0_init_36 ?_
  refine bj_dup hO dX0_init_39 trivial ?_
  refine bj_call hO (o := 74) (n2 := 83) (c_X1_init isP_74 bj_sub_m) (List.mem_of_getElem? (i := 6) rfl) wc_31 wc_30 wc_32 rfl (by decide +kernel) (by decide) (by decide) (by decide) (by decide) (by omega) (by omega) (Nat.le_of_ble_eq_true rfl) dX0_init_40 ?_
  refine bj_cg (w2 := (bj_mid2 E (bj_mid E w 54 0 [.ref (E.2.1 + 55), .int 0, .int 0]) 55 12 2)) (bj_cut_sub2 (by omega)) ?_
  refine bj_aast (a := 55) (v := 74) (N := 12) (w2 := (bj_mid2 E (bj_mid E w 54 0 [.ref (E.2.1 + 55), .int 0, .int 0]) 55 12 3)) hO (by omega) bj_mid2_A (by omega) ((bj_mid2_L (by omega)).trans ((bj_LO (kdP_0 isP_74) (by decide)))) (by unfold vp_in; decide) bj_mid2_p (bj_mid2_S 2 rfl rfl) dX0_init_43 ?_
  refine bj_iinc (v := 3) (lv2 := [(1, gj_i 3), (0, gj_r 54)]) hO 0 dX0_init_44 rfl (by decide) (by decide) rfl ?_
  refine bj_goto (tgt := 25) hO dX0_init_47 (by decide) ?_
  refine bj_iload_n hO 0 dX0_init_25 rfl rfl ?_
  refine bj_bipush (v := 12) hO dX0_init_26 (by decide) ?_
  refine bj_ge_f hO 50 dX0_init_28 (by decide) (by decide) ?_
  refine bj_aload_n hO 1 dX0_init_31 rfl rfl ?_
  refine bj_get (C := RX0) (T := TX0) (N := 3) (j := 0) (v := gj_r 55) hO ly_X0 (by omega) (bj_mid2_o (by omega)) rfl (by decide) rfl wc_67 rfl dX0_init_32 ?_
  refine bj_iload_n hO 0 dX0_init_35 rfl rfl ?_
  refine bj_new (ci := 1) (fs := [.int 0, .int 0, .int 0, .int 0, .int 0, .null, .null, .null, .null, .null, .null, .null, .null]) (w2 := bj_sub (bj_mid2 E (bj_mid E w 54 0 [.ref (E.2.1 + 55), .int 0, .int 0]) 55 12 3) 83 (.inr (1, [.int 0, .int 0, .int 0, .int 0, .int 0, .null, .null, .null, .null, .null, .null, .null, .null]))) hO ly_X1 tyX1_ok wc_66 wc_29 wc_30 rfl (fun j hj => by rcases (show j = 0 ∨ j = 1 ∨ j = 2 ∨ j = 3 ∨ j = 4 ∨ j = 5 ∨ j = 6 ∨ j = 7 ∨ j = 8 ∨ j = 9 ∨ j = 10 ∨ j = 11 ∨ j = 12 by omega) with rfl | rfl | rfl | rfl | rfl | rfl | rfl | rfl | rfl | rfl | rfl | rfl | rfl <;> rfl) (by decide) (by decide) (by omega) (by omega) bj_sub_e bj_sub_m dX0_init_36 ?_
  refine bj_dup hO dX0_init_39 trivial ?_
  refine bj_call hO (o := 83) (n2 := 92) (c_X1_init isP_83 bj_sub_m) (List.mem_of_getElem? (i := 6) rfl) wc_31 wc_30 wc_32 rfl (by decide +kernel) (by decide) (by decide) (by decide) (by decide) (by omega) (by omega) (Nat.le_of_ble_eq_true rfl) dX0_init_40 ?_
  refine bj_cg (w2 := (bj_mid2 E (bj_mid E w 54 0 [.ref (E.2.1 + 55), .int 0, .int 0]) 55 12 3)) (bj_cut_sub2 (by omega)) ?_
  refine bj_aast (a := 55) (v := 83) (N := 12) (w2 := (bj_mid2 E (bj_mid E w 54 0 [.ref (E.2.1 + 55), .int 0, .int 0]) 55 12 4)) hO (by omega) bj_mid2_A (by omega) ((bj_mid2_L (by omega)).trans ((bj_LO (kdP_0 isP_83) (by decide)))) (by unfold vp_in; decide) bj_mid2_p (bj_mid2_S 3 rfl rfl) dX0_init_43 ?_
  refine bj_iinc (v := 4) (lv2 := [(1, gj_i 4), (0, gj_r 54)]) hO 0 dX0_init_44 rfl (by decide) (by decide) rfl ?_
  refine bj_goto (tgt := 25) hO dX0_init_47 (by decide) ?_
  refine bj_iload_n hO 0 dX0_init_25 rfl rfl ?_
  refine bj_bipush (v := 12) hO dX0_init_26 (by decide) ?_
  refine bj_ge_f hO 50 dX0_init_28 (by decide) (by decide) ?_
  refine bj_aload_n hO 1 dX0_init_31 rfl rfl ?_
  refine bj_get (C := RX0) (T := TX0) (N := 3) (j := 0) (v := gj_r 55) hO ly_X0 (by omega) (bj_mid2_o (by omega)) rfl (by decide) rfl wc_67 rfl dX0_init_32 ?_
  refine bj_iload_n hO 0 dX0_init_35 rfl rfl ?_
  refine bj_new (ci := 1) (fs := [.int 0, .int 0, .int 0, .int 0, .int 0, .null, .null, .null, .null, .null, .null, .null, .null]) (w2 := bj_sub (bj_mid2 E (bj_mid E w 54 0 [.ref (E.2.1 + 55), .int 0, .int 0]) 55 12 4) 92 (.inr (1, [.int 0, .int 0, .int 0, .int 0, .int 0, .null, .null, .null, .null, .null, .null, .null, .null]))) hO ly_X1 tyX1_ok wc_66 wc_29 wc_30 rfl (fun j hj => by rcases (show j = 0 ∨ j = 1 ∨ j = 2 ∨ j = 3 ∨ j = 4 ∨ j = 5 ∨ j = 6 ∨ j = 7 ∨ j = 8 ∨ j = 9 ∨ j = 10 ∨ j = 11 ∨ j = 12 by omega) with rfl | rfl | rfl | rfl | rfl | rfl | rfl | rfl | rfl | rfl | rfl | rfl | rfl <;> rfl) (by decide) (by decide) (by omega) (by omega) bj_sub_e bj_sub_m dX0_init_36 ?_
  refine bj_dup hO dX0_init_39 trivial ?_
  refine bj_call hO (o := 92) (n2 := 101) (c_X1_init isP_92 bj_sub_m) (List.mem_of_getElem? (i := 6) rfl) wc_31 wc_30 wc_32 rfl (by decide +kernel) (by decide) (by decide) (by decide) (by decide) (by omega) (by omega) (Nat.le_of_ble_eq_true rfl) dX0_init_40 ?_
  refine bj_cg (w2 := (bj_mid2 E (bj_mid E w 54 0 [.ref (E.2.1 + 55), .int 0, .int 0]) 55 12 4)) (bj_cut_sub2 (by omega)) ?_
  refine bj_aast (a := 55) (v := 92) (N := 12) (w2 := (bj_mid2 E (bj_mid E w 54 0 [.ref (E.2.1 + 55), .int 0, .int 0]) 55 12 5)) hO (by omega) bj_mid2_A (by omega) ((bj_mid2_L (by omega)).trans ((bj_LO (kdP_0 isP_92) (by decide)))) (by unfold vp_in; decide) bj_mid2_p (bj_mid2_S 4 rfl rfl) dX0_init_43 ?_
  refine bj_iinc (v := 5) (lv2 := [(1, gj_i 5), (0, gj_r 54)]) hO 0 dX0_init_44 rfl (by decide) (by decide) rfl ?_
  refine bj_goto (tgt := 25) hO dX0_init_47 (by decide) ?_
  refine bj_iload_n hO 0 dX0_init_25 rfl rfl ?_
  refine bj_bipush (v := 12) hO dX0_init_26 (by decide) ?_
  refine bj_ge_f hO 50 dX0_init_28 (by decide) (by decide) ?_
  refine bj_aload_n hO 1 dX0_init_31 rfl rfl ?_
  refine bj_get (C := RX0) (T := TX0) (N := 3) (j := 0) (v := gj_r 55) hO ly_X0 (by omega) (bj_mid2_o (by omega)) rfl (by decide) rfl wc_67 rfl dX0_init_32 ?_
  refine bj_iload_n hO 0 dX0_init_35 rfl rfl ?_
  refine bj_new (ci := 1) (fs := [.int 0, .int 0, .int 0, .int 0, .int 0, .null, .null, .null, .null, .null, .null, .null, .null]) (w2 := bj_sub (bj_mid2 E (bj_mid E w 54 0 [.ref (E.2.1 + 55), .int 0, .int 0]) 55 12 5) 101 (.inr (1, [.int 0, .int 0, .int 0, .int 0, .int 0, .null, .null, .null, .null, .null, .null, .null, .null]))) hO ly_X1 tyX1_ok wc_66 wc_29 wc_30 rfl (fun j hj => by rcases (show j = 0 ∨ j = 1 ∨ j = 2 ∨ j = 3 ∨ j = 4 ∨ j = 5 ∨ j = 6 ∨ j = 7 ∨ j = 8 ∨ j = 9 ∨ j = 10 ∨ j = 11 ∨ j = 12 by omega) with rfl | rfl | rfl | rfl | rfl | rfl | rfl | rfl | rfl | rfl | rfl | rfl | rfl <;> rfl) (by decide) (by decide) (by omega) (by omega) bj_sub_e bj_sub_m dX0_init_36 ?_
  refine bj_dup hO dX0_init_39 trivial ?_
  refine bj_call hO (o := 101) (n2 := 110) (c_X1_init isP_101 bj_sub_m) (List.mem_of_getElem? (i := 6) rfl) wc_31 wc_30 wc_32 rfl (by decide +kernel) (by decide) (by decide) (by decide) (by decide) (by omega) (by omega) (Nat.le_of_ble_eq_true rfl) dX0_init_40 ?_
  refine bj_cg (w2 := (bj_mid2 E (bj_mid E w 54 0 [.ref (E.2.1 + 55), .int 0, .int 0]) 55 12 5)) (bj_cut_sub2 (by omega)) ?_
  refine bj_aast (a := 55) (v := 101) (N := 12) (w2 := (bj_mid2 E (bj_mid E w 54 0 [.ref (E.2.1 + 55), .int 0, .int 0]) 55 12 6)) hO (by omega) bj_mid2_A (by omega) ((bj_mid2_L (by omega)).trans ((bj_LO (kdP_0 isP_101) (by decide)))) (by unfold vp_in; decide) bj_mid2_p (bj_mid2_S 5 rfl rfl) dX0_init_43 ?_
  refine bj_iinc (v := 6) (lv2 := [(1, gj_i 6), (0, gj_r 54)]) hO 0 dX0_init_44 rfl (by decide) (by decide) rfl ?_
  refine bj_goto (tgt := 25) hO dX0_init_47 (by decide) ?_
  refine bj_iload_n hO 0 dX0_init_25 rfl rfl ?_
  refine bj_bipush (v := 12) hO dX0_init_26 (by decide) ?_
  refine bj_ge_f hO 50 dX0_init_28 (by decide) (by decide) ?_
  refine bj_aload_n hO 1 dX0_init_31 rfl rfl ?_
  refine bj_get (C := RX0) (T := TX0) (N := 3) (j := 0) (v := gj_r 55) hO ly_X0 (by omega) (bj_mid2_o (by omega)) rfl (by decide) rfl wc_67 rfl dX0_init_32 ?_
  refine bj_iload_n hO 0 dX0_init_35 rfl rfl ?_
  refine bj_new (ci := 1) (fs := [.int 0, .int 0, .int 0, .int 0, .int 0, .null, .null, .null, .null, .null, .null, .null, .null]) (w2 := bj_sub (bj_mid2 E (bj_mid E w 54 0 [.ref (E.2.1 + 55), .int 0, .int 0]) 55 12 6) 110 (.inr (1, [.int 0, .int 0, .int 0, .int 0, .int 0, .null, .null, .null, .null, .null, .null, .null, .null]))) hO ly_X1 tyX1_ok wc_66 wc_29 wc_30 rfl (fun j hj => by rcases (show j = 0 ∨ j = 1 ∨ j = 2 ∨ j = 3 ∨ j = 4 ∨ j = 5 ∨ j = 6 ∨ j = 7 ∨ j = 8 ∨ j = 9 ∨ j = 10 ∨ j = 11 ∨ j = 12 by omega) with rfl | rfl | rfl | rfl | rfl | rfl | rfl | rfl | rfl | rfl | rfl | rfl | rfl <;> rfl) (by decide) (by decide) (by omega) (by omega) bj_sub_e bj_sub_m dX0_init_36 ?_
  refine bj_dup hO dX0_init_39 trivial ?_
  refine bj_call hO (o := 110) (n2 := 119) (c_X1_init isP_110 bj_sub_m) (List.mem_of_getElem? (i := 6) rfl) wc_31 wc_30 wc_32 rfl (by decide +kernel) (by decide) (by decide) (by decide) (by decide) (by omega) (by omega) (Nat.le_of_ble_eq_true rfl) dX0_init_40 ?_
  refine bj_cg (w2 := (bj_mid2 E (bj_mid E w 54 0 [.ref (E.2.1 + 55), .int 0, .int 0]) 55 12 6)) (bj_cut_sub2 (by omega)) ?_
  refine bj_aast (a := 55) (v := 110) (N := 12) (w2 := (bj_mid2 E (bj_mid E w 54 0 [.ref (E.2.1 + 55), .int 0, .int 0]) 55 12 7)) hO (by omega) bj_mid2_A (by omega) ((bj_mid2_L (by omega)).trans ((bj_LO (kdP_0 isP_110) (by decide)))) (by unfold vp_in; decide) bj_mid2_p (bj_mid2_S 6 rfl rfl) dX0_init_43 ?_
  refine bj_iinc (v := 7) (lv2 := [(1, gj_i 7), (0, gj_r 54)]) hO 0 dX0_init_44 rfl (by decide) (by decide) rfl ?_
  refine bj_goto (tgt := 25) hO dX0_init_47 (by decide) ?_
  refine bj_iload_n hO 0 dX0_init_25 rfl rfl ?_
  refine bj_bipush (v := 12) hO dX0_init_26 (by decide) ?_
  refine bj_ge_f hO 50 dX0_init_28 (by decide) (by decide) ?_
  refine bj_aload_n hO 1 dX0_init_31 rfl rfl ?_
  refine bj_get (C := RX0) (T := TX0) (N := 3) (j := 0) (v := gj_r 55) hO ly_X0 (by omega) (bj_mid2_o (by omega)) rfl (by decide) rfl wc_67 rfl dX0_init_32 ?_
  refine bj_iload_n hO 0 dX0_init_35 rfl rfl ?_
  refine bj_new (ci := 1) (fs := [.int 0, .int 0, .int 0, .int 0, .int 0, .null, .null, .null, .null, .null, .null, .null, .null]) (w2 := bj_sub (bj_mid2 E (bj_mid E w 54 0 [.ref (E.2.1 + 55), .int 0, .int 0]) 55 12 7) 119 (.inr (1, [.int 0, .int 0, .int 0, .int 0, .int 0, .null, .null, .null, .null, .null, .null, .null, .null]))) hO ly_X1 tyX1_ok wc_66 wc_29 wc_30 rfl (fun j hj => by rcases (show j = 0 ∨ j = 1 ∨ j = 2 ∨ j = 3 ∨ j = 4 ∨ j = 5 ∨ j = 6 ∨ j = 7 ∨ j = 8 ∨ j = 9 ∨ j = 10 ∨ j = 11 ∨ j = 12 by omega) with rfl | rfl | rfl | rfl | rfl | rfl | rfl | rfl | rfl | rfl | rfl | rfl | rfl <;> rfl) (by decide) (by decide) (by omega) (by omega) bj_sub_e bj_sub_m dX0_init_36 ?_
  refine bj_dup hO dX0_init_39 trivial ?_
  refine bj_call hO (o := 119) (n2 := 128) (c_X1_init isP_119 bj_sub_m) (List.mem_of_getElem? (i := 6) rfl) wc_31 wc_30 wc_32 rfl (by decide +kernel) (by decide) (by decide) (by decide) (by decide) (by omega) (by omega) (Nat.le_of_ble_eq_true rfl) dX0_init_40 ?_
  refine bj_cg (w2 := (bj_mid2 E (bj_mid E w 54 0 [.ref (E.2.1 + 55), .int 0, .int 0]) 55 12 7)) (bj_cut_sub2 (by omega)) ?_
  refine bj_aast (a := 55) (v := 119) (N := 12) (w2 := (bj_mid2 E (bj_mid E w 54 0 [.ref (E.2.1 + 55), .int 0, .int 0]) 55 12 8)) hO (by omega) bj_mid2_A (by omega) ((bj_mid2_L (by omega)).trans ((bj_LO (kdP_0 isP_119) (by decide)))) (by unfold vp_in; decide) bj_mid2_p (bj_mid2_S 7 rfl rfl) dX0_init_43 ?_
  refine bj_iinc (v := 8) (lv2 := [(1, gj_i 8), (0, gj_r 54)]) hO 0 dX0_init_44 rfl (by decide) (by decide) rfl ?_
  refine bj_goto (tgt := 25) hO dX0_init_47 (by decide) ?_
  refine bj_iload_n hO 0 dX0_init_25 rfl rfl ?_
  refine bj_bipush (v := 12) hO dX0_init_26 (by decide) ?_
  refine bj_ge_f hO 50 dX0_init_28 (by decide) (by decide) ?_
  refine bj_aload_n hO 1 dX0_init_31 rfl rfl ?_
  refine bj_get (C := RX0) (T := TX0) (N := 3) (j := 0) (v := gj_r 55) hO ly_X0 (by omega) (bj_mid2_o (by omega)) rfl (by decide) rfl wc_67 rfl dX0_init_32 ?_
  refine bj_iload_n hO 0 dX0_init_35 rfl rfl ?_
  refine bj_new (ci := 1) (fs := [.int 0, .int 0, .int 0, .int 0, .int 0, .null, .null, .null, .null, .null, .null, .null, .null]) (w2 := bj_sub (bj_mid2 E (bj_mid E w 54 0 [.ref (E.2.1 + 55), .int 0, .int 0]) 55 12 8) 128 (.inr (1, [.int 0, .int 0, .int 0, .int 0, .int 0, .null, .null, .null, .null, .null, .null, .null, .null]))) hO ly_X1 tyX1_ok wc_66 wc_29 wc_30 rfl (fun j hj => by rcases (show j = 0 ∨ j = 1 ∨ j = 2 ∨ j = 3 ∨ j = 4 ∨ j = 5 ∨ j = 6 ∨ j = 7 ∨ j = 8 ∨ j = 9 ∨ j = 10 ∨ j = 11 ∨ j = 12 by omega) with rfl | rfl | rfl | rfl | rfl | rfl | rfl | rfl | rfl | rfl | rfl | rfl | rfl <;> rfl) (by decide) (by decide) (by omega) (by omega) bj_sub_e bj_sub_m dX0_init_36 ?_
  refine bj_dup hO dX0_init_39 trivial ?_
  refine bj_call hO (o := 128) (n2 := 137) (c_X1_init isP_128 bj_sub_m) (List.mem_of_getElem? (i := 6) rfl) wc_31 wc_30 wc_32 rfl (by decide +kernel) (by decide) (by decide) (by decide) (by decide) (by omega) (by omega) (Nat.le_of_ble_eq_true rfl) dX0_init_40 ?_
  refine bj_cg (w2 := (bj_mid2 E (bj_mid E w 54 0 [.ref (E.2.1 + 55), .int 0, .int 0]) 55 12 8)) (bj_cut_sub2 (by omega)) ?_
  refine bj_aast (a := 55) (v := 128) (N := 12) (w2 := (bj_mid2 E (bj_mid E w 54 0 [.ref (E.2.1 + 55), .int 0, .int 0]) 55 12 9)) hO (by omega) bj_mid2_A (by omega) ((bj_mid2_L (by omega)).trans ((bj_LO (kdP_0 isP_128) (by decide)))) (by unfold vp_in; decide) bj_mid2_p (bj_mid2_S 8 rfl rfl) dX0_init_43 ?_
  refine bj_iinc (v := 9) (lv2 := [(1, gj_i 9), (0, gj_r 54)]) hO 0 dX0_init_44 rfl (by decide) (by decide) rfl ?_
  refine bj_goto (tgt := 25) hO dX0_init_47 (by decide) ?_
  refine bj_iload_n hO 0 dX0_init_25 rfl rfl ?_
  refine bj_bipush (v := 12) hO dX0_init_26 (by decide) ?_
  refine bj_ge_f hO 50 dX0_init_28 (by decide) (by decide) ?_
  refine bj_aload_n hO 1 dX0_init_31 rfl rfl ?_
  refine bj_get (C := RX0) (T := TX0) (N := 3) (j := 0) (v := gj_r 55) hO ly_X0 (by omega) (bj_mid2_o (by omega)) rfl (by decide) rfl wc_67 rfl dX0_init_32 ?_
  refine bj_iload_n hO 0 dX0_init_35 rfl rfl ?_
  refine bj_new (ci := 1) (fs := [.int 0, .int 0, .int 0, .int 0, .int 0, .null, .null, .null, .null, .null, .null, .null, .null]) (w2 := bj_sub (bj_mid2 E (bj_mid E w 54 0 [.ref (E.2.1 + 55), .int 0, .int 0]) 55 12 9) 137 (.inr (1, [.int 0, .int 0, .int 0, .int 0, .int 0, .null, .null, .null, .null, .null, .null, .null, .null]))) hO ly_X1 tyX1_ok wc_66 wc_29 wc_30 rfl (fun j hj => by rcases (show j = 0 ∨ j = 1 ∨ j = 2 ∨ j = 3 ∨ j = 4 ∨ j = 5 ∨ j = 6 ∨ j = 7 ∨ j = 8 ∨ j = 9 ∨ j = 10 ∨ j = 11 ∨ j = 12 by omega) with rfl | rfl | rfl | rfl | rfl | rfl | rfl | rfl | rfl | rfl | rfl | rfl | rfl <;> rfl) (by decide) (by decide) (by omega) (by omega) bj_sub_e bj_sub_m dX0_init_36 ?_
  refine bj_dup hO dX0_init_39 trivial ?_
  refine bj_call hO (o := 137) (n2 := 146) (c_X1_init isP_137 bj_sub_m) (List.mem_of_getElem? (i := 6) rfl) wc_31 wc_30 wc_32 rfl (by decide +kernel) (by decide) (by decide) (by decide) (by decide) (by omega) (by omega) (Nat.le_of_ble_eq_true rfl) dX0_init_40 ?_
  refine bj_cg (w2 := (bj_mid2 E (bj_mid E w 54 0 [.ref (E.2.1 + 55), .int 0, .int 0]) 55 12 9)) (bj_cut_sub2 (by omega)) ?_
  refine bj_aast (a := 55) (v := 137) (N := 12) (w2 := (bj_mid2 E (bj_mid E w 54 0 [.ref (E.2.1 + 55), .int 0, .int 0]) 55 12 10)) hO (by omega) bj_mid2_A (by omega) ((bj_mid2_L (by omega)).trans ((bj_LO (kdP_0 isP_137) (by decide)))) (by unfold vp_in; decide) bj_mid2_p (bj_mid2_S 9 rfl rfl) dX0_init_43 ?_
  refine bj_iinc (v := 10) (lv2 := [(1, gj_i 10), (0, gj_r 54)]) hO 0 dX0_init_44 rfl (by decide) (by decide) rfl ?_
  refine bj_goto (tgt := 25) hO dX0_init_47 (by decide) ?_
  refine bj_iload_n hO 0 dX0_init_25 rfl rfl ?_
  refine bj_bipush (v := 12) hO dX0_init_26 (by decide) ?_
  refine bj_ge_f hO 50 dX0_init_28 (by decide) (by decide) ?_
  refine bj_aload_n hO 1 dX0_init_31 rfl rfl ?_
  refine bj_get (C := RX0) (T := TX0) (N := 3) (j := 0) (v := gj_r 55) hO ly_X0 (by omega) (bj_mid2_o (by omega)) rfl (by decide) rfl wc_67 rfl dX0_init_32 ?_
  refine bj_iload_n hO 0 dX0_init_35 rfl rfl ?_
  refine bj_new (ci := 1) (fs := [.int 0, .int 0, .int 0, .int 0, .int 0, .null, .null, .null, .null, .null, .null, .null, .null]) (w2 := bj_sub (bj_mid2 E (bj_mid E w 54 0 [.ref (E.2.1 + 55), .int 0, .int 0]) 55 12 10) 146 (.inr (1, [.int 0, .int 0, .int 0, .int 0, .int 0, .null, .null, .null, .null, .null, .null, .null, .null]))) hO ly_X1 tyX1_ok wc_66 wc_29 wc_30 rfl (fun j hj => by rcases (show j = 0 ∨ j = 1 ∨ j = 2 ∨ j = 3 ∨ j = 4 ∨ j = 5 ∨ j = 6 ∨ j = 7 ∨ j = 8 ∨ j = 9 ∨ j = 10 ∨ j = 11 ∨ j = 12 by omega) with rfl | rfl | rfl | rfl | rfl | rfl | rfl | rfl | rfl | rfl | rfl | rfl | rfl <;> rfl) (by decide) (by decide) (by omega) (by omega) bj_sub_e bj_sub_m dX0_init_36 ?_
  refine bj_dup hO dX0_init_39 trivial ?_
  refine bj_call hO (o := 146) (n2 := 155) (c_X1_init isP_146 bj_sub_m) (List.mem_of_getElem? (i := 6) rfl) wc_31 wc_30 wc_32 rfl (by decide +kernel) (by decide) (by decide) (by decide) (by decide) (by omega) (by omega) (Nat.le_of_ble_eq_true rfl) dX0_init_40 ?_
  refine bj_cg (w2 := (bj_mid2 E (bj_mid E w 54 0 [.ref (E.2.1 + 55), .int 0, .int 0]) 55 12 10)) (bj_cut_sub2 (by omega)) ?_
  refine bj_aast (a := 55) (v := 146) (N := 12) (w2 := (bj_mid2 E (bj_mid E w 54 0 [.ref (E.2.1 + 55), .int 0, .int 0]) 55 12 11)) hO (by omega) bj_mid2_A (by omega) ((bj_mid2_L (by omega)).trans ((bj_LO (kdP_0 isP_146) (by decide)))) (by unfold vp_in; decide) bj_mid2_p (bj_mid2_S 10 rfl rfl) dX0_init_43 ?_
  refine bj_iinc (v := 11) (lv2 := [(1, gj_i 11), (0, gj_r 54)]) hO 0 dX0_init_44 rfl (by decide) (by decide) rfl ?_
  refine bj_goto (tgt := 25) hO dX0_init_47 (by decide) ?_
  refine bj_iload_n hO 0 dX0_init_25 rfl rfl ?_
  refine bj_bipush (v := 12) hO dX0_init_26 (by decide) ?_
  refine bj_ge_f hO 50 dX0_init_28 (by decide) (by decide) ?_
  refine bj_aload_n hO 1 dX0_init_31 rfl rfl ?_
  refine bj_get (C := RX0) (T := TX0) (N := 3) (j := 0) (v := gj_r 55) hO ly_X0 (by omega) (bj_mid2_o (by omega)) rfl (by decide) rfl wc_67 rfl dX0_init_32 ?_
  refine bj_iload_n hO 0 dX0_init_35 rfl rfl ?_
  refine bj_new (ci := 1) (fs := [.int 0, .int 0, .int 0, .int 0, .int 0, .null, .null, .null, .null, .null, .null, .null, .null]) (w2 := bj_sub (bj_mid2 E (bj_mid E w 54 0 [.ref (E.2.1 + 55), .int 0, .int 0]) 55 12 11) 155 (.inr (1, [.int 0, .int 0, .int 0, .int 0, .int 0, .null, .null, .null, .null, .null, .null, .null, .null]))) hO ly_X1 tyX1_ok wc_66 wc_29 wc_30 rfl (fun j hj => by rcases (show j = 0 ∨ j = 1 ∨ j = 2 ∨ j = 3 ∨ j = 4 ∨ j = 5 ∨ j = 6 ∨ j = 7 ∨ j = 8 ∨ j = 9 ∨ j = 10 ∨ j = 11 ∨ j = 12 by omega) with rfl | rfl | rfl | rfl | rfl | rfl | rfl | rfl | rfl | rfl | rfl | rfl | rfl <;> rfl) (by decide) (by decide) (by omega) (by omega) bj_sub_e bj_sub_m dX0_init_36 ?_
  refine bj_dup hO dX0_init_39 trivial ?_
  refine bj_call hO (o := 155) (n2 := 164) (c_X1_init isP_155 bj_sub_m) (List.mem_of_getElem? (i := 6) rfl) wc_31 wc_30 wc_32 rfl (by decide +kernel) (by decide) (by decide) (by decide) (by decide) (by omega) (by omega) (Nat.le_of_ble_eq_true rfl) dX0_init_40 ?_
  refine bj_cg (w2 := (bj_mid2 E (bj_mid E w 54 0 [.ref (E.2.1 + 55), .int 0, .int 0]) 55 12 11)) (bj_cut_sub2 (by omega)) ?_
  refine bj_aast (a := 55) (v := 155) (N := 12) (w2 := (bj_mid2 E (bj_mid E w 54 0 [.ref (E.2.1 + 55), .int 0, .int 0]) 55 12 12)) hO (by omega) bj_mid2_A (by omega) ((bj_mid2_L (by omega)).trans ((bj_LO (kdP_0 isP_155) (by decide)))) (by unfold vp_in; decide) bj_mid2_p (bj_mid2_S 11 rfl rfl) dX0_init_43 ?_
  refine bj_iinc (v := 12) (lv2 := [(1, gj_i 12), (0, gj_r 54)]) hO 0 dX0_init_44 rfl (by decide) (by decide) rfl ?_
  refine bj_goto (tgt := 25) hO dX0_init_47 (by decide) ?_
  refine bj_iload_n hO 0 dX0_init_25 rfl rfl ?_
  refine bj_bipush (v := 12) hO dX0_init_26 (by decide) ?_
  refine bj_ge_t (tgt := 50) hO dX0_init_28 (by decide) (by decide) ?_
  refine bj_cgA (w2 := (bj_mid E w 54 0 [.ref (E.2.1 + 55), .int 0, .int 0])) (bj_mid2_all kd_55 (by decide)) ?_
  exact bj_vret hO rfl rfl rfl (bj_end (by rw [bj_LO kd_54 (by decide)]; rfl)) dX0_init_50
