/-! ===== text: words, names, numbers ===== -/
def ow (i : Nat) : List Nat := match i with | 0 => [4, 15, 3, 11] | 1 => [7, 9, 22, 5, 19] | 2 => [20, 1, 11, 5, 19] | 3 => [18, 15, 21, 20, 5] | 4 => [3, 15, 19, 20, 19] | 5 => [8, 15, 12, 4, 19] | _ => [2, 12, 15, 3, 11]
theorem ow_ok : ∀ i, i < 7 → okL (ow i)
  | 0, _ => ⟨by decide, by decide⟩
  | 1, _ => ⟨by decide, by decide⟩
  | 2, _ => ⟨by decide, by decide⟩
  | 3, _ => ⟨by decide, by decide⟩
  | 4, _ => ⟨by decide, by decide⟩
  | 5, _ => ⟨by decide, by decide⟩
  | 6, _ => ⟨by decide, by decide⟩
  | n + 7, h => absurd h (by omega)
theorem sp_ow : ∀ i, i < 7 → f_X9_spelled (1000 + i) = some (pk5 (ow i)) := by decide +kernel
def isW (y : Nat → Int32) (N p i : Nat) : Bool := decide (tk y N p = 0 ∧ tw y N p = ow i)
def isO (y : Nat → Int32) (N p : Nat) : Bool := isW y N p 0 || (isW y N p 1 || (isW y N p 2 || (isW y N p 3 || (isW y N p 4 || (isW y N p 5 || isW y N p 6)))))
def isN (y : Nat → Int32) (N p : Nat) : Bool := decide (tk y N p = 0) && !isO y N p
theorem TK8_0 {y : Nat → Int32} {N p : Nat} {σ : gj_S} (h : TK8 y N p σ) {k : Nat} (hk : k < 5) : (σ.1 2 7 = nI k) ↔ tk y N p = k := by
  have := tk_lt (y := y) (N := N) (p := p)
  rw [h.2.2.1]
  exact nI_eq (by omega) (by omega)
theorem c8_isW {y : Nat → Int32} {N p i : Nat} {σ : gj_S} (h : TK8 y N p σ) (hi : i < 7) : f_X2_isWord (pk8 (ow i)) σ = some (bI (isW y N p i)) := by
  unfold f_X2_isWord isW
  have h0 : σ.1 2 7 = 0 ↔ tk y N p = 0 := TK8_0 h (k := 0) (by omega)
  by_cases q : tk y N p = 0
  · rw [if_pos (h0.mpr q), h.2.2.2.1 q]
    have e := pk8_inj (tw_ok q).1 (ow_ok i hi)
    by_cases q2 : tw y N p = ow i
    · rw [if_pos ((lg_cmp_eq _ _).mpr (e.mpr q2)), decide_eq_true ⟨q, q2⟩]
      rfl
    · rw [if_neg (fun x => q2 (e.mp ((lg_cmp_eq _ _).mp x))), decide_eq_false (fun x => q2 x.2)]
      rfl
  · rw [if_neg (fun x => q (h0.mp x)), decide_eq_false (fun x => q x.1)]
    rfl
theorem k9_1 {k : Nat} (h : k < 5) : (k9 k = 1 ↔ k = 0) ∧ (k9 k = 2 ↔ k = 1) ∧ (k9 k = 59 ↔ k = 2) ∧ (k9 k = 0 ↔ k = 3) := by
  have : ∀ k : Nat, k < 5 → (k9 k = 1 ↔ k = 0) ∧ (k9 k = 2 ↔ k = 1) ∧ (k9 k = 59 ↔ k = 2) ∧ (k9 k = 0 ↔ k = 3) := by decide
  exact this k h
theorem r9_is {y : Nat → Int32} {N p i : Nat} {σ : gj_S} (h : TK9 y N p σ) (hf : σ.1 188 9 = 0) (hi : i < 7) : f_X9_is (1000 + i) σ = some (bI (isW y N p i)) := by
  unfold f_X9_is isW
  have h0 := (k9_1 (tk_lt (y := y) (N := N) (p := p))).1
  rw [if_pos hf, h.2.2.1, sp_ow i hi]
  by_cases q : tk y N p = 0
  · rw [if_pos (h0.mpr q), h.2.2.2.1 q]
    dsimp only [Option.bind_some]
    have e := pk5_inj (tw_ok q).1 (ow_ok i hi)
    by_cases q2 : tw y N p = ow i
    · rw [if_pos ((lg_cmp_eq _ _).mpr (e.mpr q2)), decide_eq_true ⟨q, q2⟩]
      rfl
    · rw [if_neg (fun x => q2 (e.mp ((lg_cmp_eq _ _).mp x))), decide_eq_false (fun x => q2 x.2)]
      rfl
  · rw [if_neg (fun x => q (h0.mp x)), decide_eq_false (fun x => q x.1)]
    rfl
/-- with a fault all is still -/
theorem r9_isF {i : Nat} {σ : gj_S} (hf : ¬ σ.1 188 9 = 0) : f_X9_is i σ = some 0 := by
  unfold f_X9_is
  rw [if_neg hf]
theorem r9_isOwn {y : Nat → Int32} {N p : Nat} {σ : gj_S} (h : TK9 y N p σ) (hf : σ.1 188 9 = 0) : f_X9_isOwn σ = some (bI (isO y N p)) := by
  unfold f_X9_isOwn isO
  rw [show (1000 : Nat) = 1000 + 0 from rfl, show (1001 : Nat) = 1000 + 1 from rfl, show (1002 : Nat) = 1000 + 2 from rfl, show (1003 : Nat) = 1000 + 3 from rfl, show (1004 : Nat) = 1000 + 4 from rfl, show (1005 : Nat) = 1000 + 5 from rfl, show (1006 : Nat) = 1000 + 6 from rfl]
  rw [r9_is h hf (i := 0) (by omega), r9_is h hf (i := 1) (by omega), r9_is h hf (i := 2) (by omega), r9_is h hf (i := 3) (by omega), r9_is h hf (i := 4) (by omega), r9_is h hf (i := 5) (by omega), r9_is h hf (i := 6) (by omega)]
  cases isW y N p 0 <;> cases isW y N p 1 <;> cases isW y N p 2 <;> cases isW y N p 3 <;> cases isW y N p 4 <;> cases isW y N p 5 <;> cases isW y N p 6 <;> rfl
theorem r9_isName {y : Nat → Int32} {N p : Nat} {σ : gj_S} (h : TK9 y N p σ) (hf : σ.1 188 9 = 0) : f_X9_isName σ = some (bI (isN y N p)) := by
  unfold f_X9_isName isN
  have h0 := (k9_1 (tk_lt (y := y) (N := N) (p := p))).1
  rw [h.2.2.1, r9_isOwn h hf]
  by_cases q : tk y N p = 0
  · rw [if_pos (h0.mpr q), decide_eq_true q]
    cases isO y N p <;> rfl
  · rw [if_neg (fun x => q (h0.mp x)), decide_eq_false q]
    rfl
theorem c8_isName {y : Nat → Int32} {N p : Nat} {σ : gj_S} (h : TK8 y N p σ) : f_X2_isName σ = some (bI (isN y N p)) := by
  unfold f_X2_isName isN isO
  have h0 : σ.1 2 7 = 0 ↔ tk y N p = 0 := TK8_0 h (k := 0) (by omega)
  have w : ∀ i, i < 7 → ∀ c, c = pk8 (ow i) → tk y N p = 0 → ((lg_cmp (σ.2.1 2 9) c = 0) ↔ isW y N p i = true) := fun i hi c hc q => by
    rw [lg_cmp_eq, h.2.2.2.1 q, hc, pk8_inj (tw_ok q).1 (ow_ok i hi)]
    unfold isW
    rw [decide_eq_true_eq]
    exact ⟨fun x => ⟨q, x⟩, fun x => x.2⟩
  by_cases q : tk y N p = 0
  · rw [if_pos (h0.mpr q), decide_eq_true q]
    have w0 := w 0 (by omega) 1685021547 (by decide) q
    have w1 := w 1 (by omega) 444150998387 (by decide) q
    have w2 := w 2 (by omega) 499850634611 (by decide) q
    have w3 := w 3 (by omega) 491496240229 (by decide) q
    have w4 := w 4 (by omega) 427071599731 (by decide) q
    have w5 := w 5 (by omega) 448545973363 (by decide) q
    have w6 := w 6 (by omega) 422726034283 (by decide) q
    simp only [w0, w1, w2, w3, w4, w5, w6]
    cases isW y N p 0 <;> cases isW y N p 1 <;> cases isW y N p 2 <;> cases isW y N p 3 <;> cases isW y N p 4 <;> cases isW y N p 5 <;> cases isW y N p 6 <;> rfl
  · rw [if_neg (fun x => q (h0.mp x)), decide_eq_false q]
    rfl
/-- what has been read -/
abbrev pA : Type := (Nat × Nat) × (Nat → List Nat) × (Nat → List Nat) × (Nat → Int32) × (Nat → Nat → Int32) × Int32 × Bool
def P8 (A : pA) (σ : gj_S) : Prop := σ.1 3 0 = nI A.1.1 ∧ σ.1 3 1 = nI A.1.2 ∧ σ.1 3 2 = A.2.2.2.2.2.1 ∧ σ.1 2 3 = bI A.2.2.2.2.2.2 ∧ (∀ d, d < A.1.1 → σ.2.1 13 d = pk8 (A.2.1 d) ∧ σ.1 4 d = A.2.2.2.1 d) ∧ ∀ w, w < A.1.2 → σ.2.1 12 w = pk8 (A.2.2.1 w) ∧ ∀ i, i < 4 → σ.1 (5 + i) w = A.2.2.2.2.1 i w
def P9 (A : pA) (σ : gj_S) : Prop := σ.1 190 1 = nI A.1.1 ∧ σ.1 191 1 = nI A.1.2 ∧ σ.1 188 19 = A.2.2.2.2.2.1 ∧ σ.1 188 20 = bI A.2.2.2.2.2.2 ∧ (∀ d, d < A.1.1 → σ.2.1 192 (24 + d) = pk5 (A.2.1 d) ∧ σ.1 193 (8 + d) = A.2.2.2.1 d) ∧ ∀ w, w < A.1.2 → σ.2.1 192 (32 + w) = pk5 (A.2.2.1 w) ∧ ∀ i, i < 4 → σ.1 (194 + i) (16 + w) = A.2.2.2.2.1 i w
def WF (A : pA) : Prop := A.1.1 ≤ 8 ∧ A.1.2 ≤ 16 ∧ (∀ d, d < A.1.1 → okL (A.2.1 d) ∧ 1 ≤ (A.2.1 d).length ∧ -999 ≤ (A.2.2.2.1 d).toInt ∧ (A.2.2.2.1 d).toInt ≤ 999) ∧ (∀ w, w < A.1.2 → okL (A.2.2.1 w) ∧ 1 ≤ (A.2.2.1 w).length ∧ ∃ b e c h, A.2.2.2.2.1 0 w = nI b ∧ A.2.2.2.2.1 1 w = nI e ∧ A.2.2.2.2.1 2 w = nI c ∧ A.2.2.2.2.1 3 w = nI h ∧ b < A.1.1 ∧ e < A.1.1 ∧ b ≠ e ∧ c ≤ 999 ∧ 1 ≤ h ∧ h ≤ 999) ∧ ∃ b, 1 ≤ b ∧ b ≤ 24 ∧ A.2.2.2.2.2.1 = nI b
def fdN (y : Nat → Int32) (N p : Nat) (A : pA) : Option Nat := fi (fun k => decide (A.2.1 k = tw y N p)) A.1.1 0
def frN (y : Nat → Int32) (N p : Nat) (A : pA) : Option Nat := fi (fun k => decide (A.2.2.1 k = tw y N p)) A.1.2 0
def oI (o : Option Nat) : Int32 := match o with | some k => nI k | none => -1
theorem fi_lt {p : Nat → Bool} : ∀ (f k j : Nat), fi p f k = some j → k ≤ j ∧ j < k + f ∧ p j = true
  | 0, _, _, h => by cases h
  | f + 1, k, j, h => by
    unfold fi at h
    by_cases q : p k = true
    · rw [if_pos q] at h
      cases h
      exact ⟨Nat.le_refl _, by omega, q⟩
    · rw [if_neg q] at h
      have := fi_lt f (k + 1) j h
      exact ⟨by omega, by omega, this.2.2⟩
theorem c8_noD {y : Nat → Int32} {N p : Nat} {A : pA} {σ : gj_S} (h : TK8 y N p σ) (h3 : σ.1 3 0 = nI A.1.1) (h13 : ∀ d, d < A.1.1 → σ.2.1 13 d = pk8 (A.2.1 d)) (hW : WF A) (q : tk y N p = 0) : f_X2_numberOfDock σ = some (oI (fdN y N p A)) := by
  have hn := hW.1
  unfold f_X2_numberOfDock
  rw [lp_find (N := A.1.1) (p := fun k => decide (A.2.1 k = tw y N p)) (res := fun k => nI k) (by omega) ?_ (fun k hk => ?_)]
  · unfold fdN
    dsimp only [Option.bind_some]
    cases fi (fun k => decide (A.2.1 k = tw y N p)) A.1.1 0 with
    | none => rfl
    | some k => rfl
  · unfold fb_X2_numberOfDock_l2
    rw [h3, if_pos (nI_le (Nat.le_refl _) (by omega))]
  · unfold fb_X2_numberOfDock_l2
    rw [h3, if_neg (nI_ge hk (by omega)), if_pos (gi (by omega) (by omega)), nI_clamp (by omega), h13 k hk, h.2.2.2.1 q, nI_1]
    have e := pk8_inj (hW.2.2.1 k hk).1 (tw_ok q).1
    by_cases q2 : A.2.1 k = tw y N p
    · rw [if_pos ((lg_cmp_eq _ _).mpr (e.mpr q2)), if_pos (decide_eq_true q2)]
    · rw [if_neg (fun x => q2 (e.mp ((lg_cmp_eq _ _).mp x))), if_neg (fun x => q2 (of_decide_eq_true x))]
theorem r9_fR {y : Nat → Int32} {N p B M : Nat} {nm : Nat → List Nat} {σ : gj_S} (h : TK9 y N p σ) (hB : B + M ≤ 24) (hnm : ∀ k, k < M → σ.2.1 192 (24 + B + k) = pk5 (nm k) ∧ okL (nm k)) (q : tk y N p = 0) : f_X9_findRead (nI B) (nI M) σ = some (oI (fi (fun k => decide (nm k = tw y N p)) M 0)) := by
  unfold f_X9_findRead
  rw [lp_find (N := M) (p := fun k => decide (nm k = tw y N p)) (res := fun k => nI k) (by omega) ?_ (fun k hk => ?_)]
  · dsimp only [Option.bind_some]
    cases fi (fun k => decide (nm k = tw y N p)) M 0 with
    | none => rfl
    | some k => rfl
  · unfold fb_X9_findRead_l2
    rw [if_pos (nI_le (Nat.le_refl _) (by omega))]
  · unfold fb_X9_findRead_l2
    have e1 : (24 : Int32) + nI B + nI k = nI (24 + B + k) := by rw [show (24 : Int32) = nI 24 from rfl, nI_add, nI_add]
    rw [if_neg (nI_ge hk (by omega)), e1, if_pos (gi (by omega) (by omega)), nI_clamp (by omega), (hnm k hk).1, h.2.2.2.1 q, nI_1]
    have e := pk5_inj (hnm k hk).2 (tw_ok q).1
    by_cases q2 : nm k = tw y N p
    · rw [if_pos ((lg_cmp_eq _ _).mpr (e.mpr q2)), if_pos (decide_eq_true q2)]
    · rw [if_neg (fun x => q2 (e.mp ((lg_cmp_eq _ _).mp x))), if_neg (fun x => q2 (of_decide_eq_true x))]
