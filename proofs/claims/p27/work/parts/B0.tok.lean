/-! ===== text: tokens ===== -/
theorem up_eq {f : Nat → Int32} {k : Nat} {x : Int32} : upd f k x k = x := if_pos rfl
theorem up_ne {f : Nat → Int32} {k q : Nat} {x : Int32} (h : q ≠ k) : upd f k x q = f q := if_neg h
theorem sJ_eq {σ : gj_S} {k : Nat} {f : Nat → Int64} : (gj_sJ σ k f).2.1 k = f := if_pos rfl
theorem sJ_ne {σ : gj_S} {k q : Nat} {f : Nat → Int64} (h : q ≠ k) : (gj_sJ σ k f).2.1 q = σ.2.1 q := if_neg h
theorem uL_eq {f : Nat → Int64} {k : Nat} {x : Int64} : vp_updL f k x k = x := if_pos rfl
theorem uL_ne {f : Nat → Int64} {k q : Nat} {x : Int64} (h : q ≠ k) : vp_updL f k x q = f q := if_neg h
/-- on from p while P holds, to N at most -/
def scn (P : Nat → Bool) (N : Nat) : Nat → Nat → Nat
  | 0, p => p
  | f + 1, p => if p < N ∧ P p = true then scn P N f (p + 1) else p
def scan (P : Nat → Bool) (N p : Nat) : Nat := scn P N (N - p) p
theorem scan_s {P : Nat → Bool} {N p : Nat} (h : p < N) (hP : P p = true) : scan P N p = scan P N (p + 1) := by
  unfold scan
  rw [show N - p = (N - (p + 1)) + 1 by omega]
  show (if p < N ∧ P p = true then _ else _) = _
  rw [if_pos ⟨h, hP⟩]
theorem scan_e {P : Nat → Bool} {N p : Nat} (h : ¬ (p < N ∧ P p = true)) : scan P N p = p := by
  unfold scan
  cases N - p with
  | zero => rfl
  | succ f =>
    show (if p < N ∧ P p = true then _ else p) = _
    exact if_neg h
theorem scan_ge {P : Nat → Bool} {N : Nat} : ∀ d p, N - p ≤ d → p ≤ scan P N p ∧ (p ≤ N → scan P N p ≤ N) ∧ ∀ i, p ≤ i → i < scan P N p → P i = true
  | 0, p, hd => by
    rw [scan_e (fun h => by omega)]
    exact ⟨Nat.le_refl _, id, fun i h1 h2 => by omega⟩
  | d + 1, p, hd => by
    by_cases h : p < N ∧ P p = true
    · rw [scan_s h.1 h.2]
      obtain ⟨h1, h2, h3⟩ := scan_ge (P := P) (N := N) d (p + 1) (by omega)
      refine ⟨by omega, fun _ => h2 (by omega), fun i i1 i2 => ?_⟩
      by_cases q : i = p
      · rw [q]
        exact h.2
      · exact h3 i (by omega) i2
    · rw [scan_e h]
      exact ⟨Nat.le_refl _, id, fun i h1 h2 => by omega⟩
theorem scan_p {P : Nat → Bool} {N p : Nat} : p ≤ scan P N p := (scan_ge _ p (Nat.le_refl _)).1
theorem scan_N {P : Nat → Bool} {N p : Nat} (h : p ≤ N) : scan P N p ≤ N := (scan_ge _ p (Nat.le_refl _)).2.1 h
theorem scan_P {P : Nat → Bool} {N p i : Nat} (h1 : p ≤ i) (h2 : i < scan P N p) : P i = true := (scan_ge _ p (Nat.le_refl _)).2.2 i h1 h2
/-- a byte's kind, as the class numbers it -/
def kof (b : Int32) : Nat := if 97 ≤ b.toInt ∧ b.toInt ≤ 122 then 0 else if 48 ≤ b.toInt ∧ b.toInt ≤ 57 then 1 else if b = 59 then 2 else 4
def byS (y : Nat → Int32) (k : Nat) : Bool := decide (y k = 32 ∨ y k = 10)
def byK (y : Nat → Int32) (K k : Nat) : Bool := decide (kof (y k) = K)
theorem c8_kof (b : Int32) : f_X2_kindOf b = some (nI (kof b)) := by
  have e1 : (97 : Int32).toInt = 97 := by decide
  have e2 : (122 : Int32).toInt = 122 := by decide
  have e3 : (48 : Int32).toInt = 48 := by decide
  have e4 : (57 : Int32).toInt = 57 := by decide
  unfold f_X2_kindOf kof
  simp only [i32_lt_iff, e1, e2, e3, e4]
  by_cases q1 : 97 ≤ b.toInt
  · rw [if_neg (show ¬ b.toInt < 97 by omega)]
    by_cases q2 : b.toInt ≤ 122
    · rw [if_neg (show ¬ 122 < b.toInt by omega), if_pos ⟨q1, q2⟩]
      rfl
    · rw [if_pos (show 122 < b.toInt by omega), if_neg (show ¬ b.toInt < 48 by omega), if_pos (show 57 < b.toInt by omega), if_neg (show ¬ (97 ≤ b.toInt ∧ b.toInt ≤ 122) by omega), if_neg (show ¬ (48 ≤ b.toInt ∧ b.toInt ≤ 57) by omega)]
      by_cases q3 : b = 59
      · rw [if_pos q3, if_pos q3]
        rfl
      · rw [if_neg q3, if_neg q3]
        rfl
  · rw [if_pos (show b.toInt < 97 by omega), if_neg (show ¬ (97 ≤ b.toInt ∧ b.toInt ≤ 122) by omega)]
    by_cases q2 : 48 ≤ b.toInt
    · rw [if_neg (show ¬ b.toInt < 48 by omega)]
      by_cases q4 : b.toInt ≤ 57
      · rw [if_neg (show ¬ 57 < b.toInt by omega), if_pos ⟨q2, q4⟩]
        rfl
      · rw [if_pos (show 57 < b.toInt by omega), if_neg (show ¬ (48 ≤ b.toInt ∧ b.toInt ≤ 57) by omega)]
        by_cases q3 : b = 59
        · rw [if_pos q3, if_pos q3]
          rfl
        · rw [if_neg q3, if_neg q3]
          rfl
    · rw [if_pos (show b.toInt < 48 by omega), if_neg (show ¬ (48 ≤ b.toInt ∧ b.toInt ≤ 57) by omega)]
      by_cases q3 : b = 59
      · rw [if_pos q3, if_pos q3]
        rfl
      · rw [if_neg q3, if_neg q3]
        rfl
theorem kof_lt (b : Int32) : kof b < 5 := by
  unfold kof
  split
  · omega
  · split
    · omega
    · split <;> omega
theorem kof_0 {b : Int32} (h : kof b = 0) : 97 ≤ b.toInt ∧ b.toInt ≤ 122 := by
  unfold kof at h
  by_cases q : 97 ≤ b.toInt ∧ b.toInt ≤ 122
  · exact q
  · rw [if_neg q] at h
    split at h
    · omega
    · split at h <;> omega
theorem kof_1 {b : Int32} (h : kof b = 1) : 48 ≤ b.toInt ∧ b.toInt ≤ 57 := by
  unfold kof at h
  by_cases q : 97 ≤ b.toInt ∧ b.toInt ≤ 122
  · rw [if_pos q] at h
    omega
  · rw [if_neg q] at h
    by_cases q2 : 48 ≤ b.toInt ∧ b.toInt ≤ 57
    · exact q2
    · rw [if_neg q2] at h
      split at h <;> omega
/-- letters and digits from q on, l of them -/
def ltr (y : Nat → Int32) (q : Nat) : Nat → List Nat
  | 0 => []
  | l + 1 => ltr y q l ++ [((y (q + l)).toInt - 96).toNat]
def nvF (y : Nat → Int32) (q : Nat) : Nat → Nat
  | 0 => 0
  | l + 1 => nvF y q l * 10 + ((y (q + l)).toInt - 48).toNat
def VV (y : Nat → Int32) (q K l : Nat) : Int64 := if K = 0 then pk8 (ltr y q l) else Int64.ofNat (nvF y q l)
theorem pk8_sn {l : List Nat} {x : Nat} : pk8 (l ++ [x]) = pk8 l <<< 8 ||| Int64.ofNat (96 + x) := by
  unfold pk8
  rw [List.foldl_append]
  rfl
theorem pk5_sn {l : List Nat} {x : Nat} : pk5 (l ++ [x]) = pk5 l <<< 5 ||| Int64.ofNat x := by
  unfold pk5
  rw [List.foldl_append]
  rfl
theorem i64_of {b : Int32} {m : Nat} (h : b.toInt = m) : Int32.toInt64 b = Int64.ofNat m := by
  have h2 := Int32.toInt_lt b
  apply Int64.toInt_inj.mp
  rw [Int32.toInt_toInt64, h]
  exact (Int64.toInt_ofNat_of_lt (by omega)).symm
theorem VV_0 {y : Nat → Int32} {q l : Nat} (h : kof (y (q + l)) = 0) : VV y q 0 (l + 1) = (VV y q 0 l <<< (Int32.toInt64 (8 : Int32) &&& 63)) ||| Int32.toInt64 (y (q + l)) := by
  have h1 := kof_0 h
  unfold VV
  rw [if_pos rfl, if_pos rfl, show Int32.toInt64 (8 : Int32) &&& 63 = 8 by decide]
  show pk8 (ltr y q l ++ [((y (q + l)).toInt - 96).toNat]) = _
  rw [pk8_sn, i64_of (b := y (q + l)) (m := 96 + ((y (q + l)).toInt - 96).toNat) (by omega)]
theorem VV_1 {y : Nat → Int32} {q l : Nat} (h : kof (y (q + l)) = 1) : VV y q 1 (l + 1) = (VV y q 1 l * (10 : Int64) + Int32.toInt64 (y (q + l))) - (48 : Int64) := by
  have h1 := kof_1 h
  unfold VV
  rw [if_neg (by decide), if_neg (by decide)]
  show Int64.ofNat (nvF y q l * 10 + ((y (q + l)).toInt - 48).toNat) = _
  rw [i64_of (b := y (q + l)) (m := 48 + ((y (q + l)).toInt - 48).toNat) (by omega)]
  generalize ((y (q + l)).toInt - 48).toNat = d
  rw [Int64.ofNat_add, Int64.ofNat_add, Int64.ofNat_mul, show Int64.ofNat 10 = 10 from rfl, show Int64.ofNat 48 = 48 from rfl, Int64.add_comm 48, ← Int64.add_assoc, Int64.add_sub_cancel]
/-- what reading needs -/
def rd8 (y : Nat → Int32) (N : Nat) (σ : gj_S) : Prop := N ≤ 600 ∧ σ.1 2 6 = nI N ∧ σ.2.2 = 1 ∧ ∀ i, i < N → σ.1 1 i = y i
def fT8 (σ τ : gj_S) : Prop := (∀ c, c ≠ 2 → τ.1 c = σ.1 c) ∧ (∀ j, j ≠ 5 → j ≠ 7 → j ≠ 8 → τ.1 2 j = σ.1 2 j) ∧ (∀ c, c ≠ 2 → τ.2.1 c = σ.2.1 c) ∧ τ.2.2 = σ.2.2
theorem fT8_rf {σ : gj_S} : fT8 σ σ := ⟨fun _ _ => rfl, fun _ _ _ _ => rfl, fun _ _ => rfl, rfl⟩
theorem fT8_tr {a b c : gj_S} (h1 : fT8 a b) (h2 : fT8 b c) : fT8 a c := ⟨fun k p => (h2.1 k p).trans (h1.1 k p), fun j p q r => (h2.2.1 j p q r).trans (h1.2.1 j p q r), fun k p => (h2.2.2.1 k p).trans (h1.2.2.1 k p), h2.2.2.2.trans h1.2.2.2⟩
theorem fT8_rd {y : Nat → Int32} {N : Nat} {σ τ : gj_S} (h : fT8 σ τ) (hr : rd8 y N σ) : rd8 y N τ := by
  unfold rd8 at hr ⊢
  rw [h.2.1 6 (by decide) (by decide) (by decide), h.2.2.2, h.1 1 (by decide)]
  exact hr
theorem fT8_I {σ τ : gj_S} {j : Nat} {x : Int32} (hj : j = 5 ∨ j = 7 ∨ j = 8) (h : fT8 σ τ) : fT8 σ (gj_sI τ 2 (upd (τ.1 2) j x)) := ⟨fun c hc => by rw [sI_ne hc]; exact h.1 c hc, fun i i1 i2 i3 => by rw [sI_eq, up_ne (by omega)]; exact h.2.1 i i1 i2 i3, h.2.2.1, h.2.2.2⟩
theorem fT8_J {σ τ : gj_S} {x : Int64} (h : fT8 σ τ) : fT8 σ (gj_sJ τ 2 (vp_updL (τ.2.1 2) 9 x)) := ⟨h.1, h.2.1, fun c hc => by rw [sJ_ne hc]; exact h.2.2.1 c hc, h.2.2.2⟩
theorem c8_l0 {y : Nat → Int32} {N p : Nat} {σ : gj_S} (hr : rd8 y N σ) (hp : p ≤ N) (hat : σ.1 2 5 = nI p) : TP (gj_lp fb_X2_readToken_l0 5000 σ) (fun z => fT8 σ z ∧ z.1 2 7 = σ.1 2 7 ∧ z.1 2 8 = σ.1 2 8 ∧ z.1 2 5 = nI (scan (byS y) N p)) := by
  have hN := hr.1
  refine tp_lp (I := fun τ => fT8 σ τ ∧ τ.1 2 7 = σ.1 2 7 ∧ τ.1 2 8 = σ.1 2 8 ∧ ∃ k, k ≤ N ∧ τ.1 2 5 = nI k ∧ scan (byS y) N k = scan (byS y) N p) (fun τ => N - (τ.1 2 5).toNatClampNeg) ?_ 5000 σ ⟨fT8_rf, rfl, rfl, p, hp, hat, rfl⟩ (by omega)
  rintro τ ⟨h1, h2, h3, k, h4, h5, h6⟩
  obtain ⟨-, e6, eT, ey⟩ := fT8_rd h1 hr
  unfold fb_X2_readToken_l0
  by_cases q : k = N
  · subst q
    refine tp_t (by rw [e6, h5]; exact nI_le (Nat.le_refl _) (by omega)) (tp_some ⟨h1, h2, h3, ?_⟩)
    rw [h5, ← h6, scan_e (fun h => by omega)]
  · have hk : k < N := by omega
    have ek : τ.1 1 (Int32.toNatClampNeg (τ.1 2 5)) = y k := by rw [h5, nI_clamp (by omega), ey k hk]
    have gk : gj_in (τ.1 2 5) 600 := by rw [h5]; exact gi (by omega) (by omega)
    have goes : byS y k = true → (fT8 σ (gj_sI τ 2 (upd (τ.1 2) 5 (τ.1 2 5 + 1))) ∧ (gj_sI τ 2 (upd (τ.1 2) 5 (τ.1 2 5 + 1))).1 2 7 = σ.1 2 7 ∧ (gj_sI τ 2 (upd (τ.1 2) 5 (τ.1 2 5 + 1))).1 2 8 = σ.1 2 8 ∧ ∃ k, k ≤ N ∧ (gj_sI τ 2 (upd (τ.1 2) 5 (τ.1 2 5 + 1))).1 2 5 = nI k ∧ scan (byS y) N k = scan (byS y) N p) ∧ N - ((gj_sI τ 2 (upd (τ.1 2) 5 (τ.1 2 5 + 1))).1 2 5).toNatClampNeg < N - (τ.1 2 5).toNatClampNeg := fun hb => by
      refine ⟨⟨fT8_I (.inl rfl) h1, by rw [sI_eq, up_ne (by decide)]; exact h2, by rw [sI_eq, up_ne (by decide)]; exact h3, k + 1, by omega, by rw [sI_eq, up_eq, h5, nI_1], by rw [← h6, scan_s hk hb]⟩, ?_⟩
      rw [sI_eq, up_eq, h5, nI_1, nI_clamp (by omega), nI_clamp (by omega)]
      omega
    refine tp_f (by rw [e6, h5]; exact nI_ge hk (by omega)) (tp_t eT (tp_t gk ?_))
    rw [ek]
    by_cases q1 : y k = 32
    · exact tp_t q1 (tp_some (goes (decide_eq_true (.inl q1))))
    · refine tp_f q1 (tp_t eT (tp_t gk ?_))
      by_cases q2 : y k = 10
      · exact tp_t q2 (tp_some (goes (decide_eq_true (.inr q2))))
      · refine tp_f q2 (tp_some ⟨h1, h2, h3, ?_⟩)
        rw [h5, ← h6, scan_e (fun h => ?_)]
        rcases of_decide_eq_true h.2 with e | e
        · exact q1 e
        · exact q2 e
