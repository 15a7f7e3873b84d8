/-! ===== text: a line and its end; all lines ===== -/
def lin0 (y : Nat → Int32) (N : Nat) (A : pA) (p : Nat) : Nat ⊕ (pA × Nat) := if isW y N p 0 = true then linD y N A p (te y N p) (te y N (te y N p)) (te y N (te y N (te y N p))) else if isW y N p 3 = true then linR y N A p (te y N p) (te y N (te y N p)) (te y N (te y N (te y N p))) (te y N (te y N (te y N (te y N p)))) (te y N (te y N (te y N (te y N (te y N p))))) (te y N (te y N (te y N (te y N (te y N (te y N p)))))) (te y N (te y N (te y N (te y N (te y N (te y N (te y N p))))))) else if isW y N p 6 = true then linB y N A p (te y N p) else .inl (8 * tq y N p + 1)
def lin1 (y : Nat → Int32) (N : Nat) (A : pA) (p : Nat) : Nat ⊕ (pA × Nat) := match lin0 y N A p with | .inl F => .inl F | .inr r => if tk y N r.2 = 2 then .inr (r.1, te y N r.2) else .inl (8 * tq y N r.2 + 1)
theorem c8_line {y : Nat → Int32} {N p : Nat} {A : pA} {σ : gj_S} (hr : rd8 y N σ) (hp : p ≤ N) (h : TK8 y N p σ) (hP : P8 A σ) (hW : WF A) : TP (f_X2_readLine σ) (fun x => RS8 y N σ (lin1 y N A p) x) := by
  have w0 := c8_isW (i := 0) h (by omega)
  have w3 := c8_isW (i := 3) h (by omega)
  have w6 := c8_isW (i := 6) h (by omega)
  rw [show pk8 (ow 0) = 1685021547 by decide] at w0
  rw [show pk8 (ow 3) = 491496240229 by decide] at w3
  rw [show pk8 (ow 6) = 422726034283 by decide] at w6
  have fl1 : ∀ {q : Nat} {s : gj_S}, TK8 y N q s → f_X2_fails (1 : Int32) s = some (0, flt8 s (8 * tq y N q + 1)) := fun hq => c8_fl (k := 1) hq
  unfold f_X2_readLine
  refine tp_beq w0 (tp_bind (P := fun x => RS8 y N σ (lin0 y N A p) x) ?_ (fun z2 hz2 => ?_))
  · unfold lin0
    cases hb0 : isW y N p 0 with
    | true =>
      rw [if_pos (show true = true from rfl)]
      exact tp_f (show ¬ bI true = 0 by decide) (tp_bind (c8_dock hr hp h hP hW) (fun x hx => tp_some hx))
    | false =>
      rw [if_neg (show ¬ false = true by decide)]
      refine tp_t rfl (tp_beq w3 ?_)
      cases hb3 : isW y N p 3 with
      | true =>
        rw [if_pos (show true = true from rfl)]
        exact tp_f (show ¬ bI true = 0 by decide) (c8_route hr hp h hP hW rfl rfl rfl rfl)
      | false =>
        rw [if_neg (show ¬ false = true by decide)]
        refine tp_t rfl (tp_beq w6 ?_)
        cases hb6 : isW y N p 6 with
        | true =>
          rw [if_pos (show true = true from rfl)]
          exact tp_f (show ¬ bI true = 0 by decide) (tp_bind (c8_block hr hp h hP) (fun x hx => tp_some hx))
        | false =>
          rw [if_neg (show ¬ false = true by decide)]
          exact tp_t rfl (tp_beq (fl1 h) (tp_some (RS8_f FR8_rf)))
  · unfold lin1
    generalize lin0 y N A p = res at hz2 ⊢
    cases res with
    | inl F => exact tp_t hz2.1 (tp_some ⟨rfl, hz2.2⟩)
    | inr r =>
      obtain ⟨a1, a2, a3, a4, a5, a6⟩ := hz2
      refine tp_f (by rw [a1]; decide) ?_
      unfold f_X2_passStop
      by_cases q : tk y N r.2 = 2
      · dsimp only
        rw [if_pos q]
        refine tp_bind (tp_t ((TK8_0 a4 (k := 2) (by omega)).mpr q) (tp_bind (P := fun x => fT8 z2.2 x ∧ rd8 y N x ∧ te y N r.2 ≤ N ∧ TK8 y N (te y N r.2) x) (c8_nx a2 a3 a4.1) (fun x hx => tp_some (P := fun w : Int32 × gj_S => w.1 = 1 ∧ fT8 z2.2 w.2 ∧ rd8 y N w.2 ∧ te y N r.2 ≤ N ∧ TK8 y N (te y N r.2) w.2) ⟨rfl, hx⟩))) (fun x hx => ?_)
        exact tp_f (by rw [hx.1]; decide) (tp_some ⟨rfl, hx.2.2.1, hx.2.2.2.1, hx.2.2.2.2, P8_T hx.2.1 a5, FR8_tr a6 (FR8_T hx.2.1)⟩)
      · dsimp only
        rw [if_neg q]
        refine tp_bind (tp_f (fun e => q ((TK8_0 a4 (k := 2) (by omega)).mp e)) (tp_beq (fl1 a4) (tp_t (.inl rfl) (tp_some (P := fun w : Int32 × gj_S => w.1 = 0 ∧ w.2 = flt8 z2.2 (8 * tq y N r.2 + 1)) ⟨rfl, rfl⟩)))) (fun x hx => ?_)
        refine tp_t hx.1 (tp_some ?_)
        rw [hx.2]
        exact RS8_f a6
theorem r9_line {y : Nat → Int32} {N p : Nat} {A : pA} {σ : gj_S} (hr : rd9 y N σ) (hp : p ≤ N) (h : TK9 y N p σ) (hf : σ.1 188 9 = 0) (hP : P9 A σ) (hW : WF A) : TP (f_X9_lineHere σ) (fun z => RS9 y N σ (lin1 y N A p) z) := by
  have w0 := r9_is (i := 0) h hf (by omega)
  have w3 := r9_is (i := 3) h hf (by omega)
  have w6 := r9_is (i := 6) h hf (by omega)
  unfold f_X9_lineHere
  refine tp_beq w0 (tp_bind (P := fun x => RS9 y N σ (lin0 y N A p) x) ?_ (fun z2 hz2 => ?_))
  · unfold lin0
    cases hb0 : isW y N p 0 with
    | true =>
      rw [if_pos (show true = true from rfl)]
      exact tp_f (show ¬ bI true = 0 by decide) (tp_bind (r9_dock hr hp h hf hP hW) (fun x hx => tp_some hx))
    | false =>
      rw [if_neg (show ¬ false = true by decide)]
      refine tp_t rfl (tp_beq w3 ?_)
      cases hb3 : isW y N p 3 with
      | true =>
        rw [if_pos (show true = true from rfl)]
        exact tp_f (show ¬ bI true = 0 by decide) (tp_bind (r9_route hr hp h hf hP hW rfl rfl rfl rfl) (fun x hx => tp_some hx))
      | false =>
        rw [if_neg (show ¬ false = true by decide)]
        refine tp_t rfl (tp_beq w6 ?_)
        cases hb6 : isW y N p 6 with
        | true =>
          rw [if_pos (show true = true from rfl)]
          exact tp_f (show ¬ bI true = 0 by decide) (tp_bind (r9_block hr hp h hf hP) (fun x hx => tp_some hx))
        | false =>
          rw [if_neg (show ¬ false = true by decide)]
          exact tp_t rfl (tp_beq (r9_m0 (m := 1) hf rfl rfl (by omega) (by omega)) (tp_some ⟨FL9_F h (by omega) (by omega), FR9_F⟩))
  · unfold lin1
    generalize lin0 y N A p = res at hz2 ⊢
    cases res with
    | inl F =>
      have e9 := FL9_9 hz2.1
      refine tp_bind (P := fun _ => True) (tp_if (fun _ => tp_some trivial) (fun _ => tp_some trivial)) (fun z9 _ => tp_beq (r9_mustF e9) (tp_t rfl (tp_some ⟨hz2.1, hz2.2⟩)))
    | inr r =>
      obtain ⟨a1, a2, a3, a4, a5, a6⟩ := hz2
      have hk := (k9_1 (tk_lt (y := y) (N := N) (p := r.2))).2.2.1
      rw [a3.2.2.1]
      by_cases q : tk y N r.2 = 2
      · dsimp only
        rw [if_pos q]
        refine tp_beq (x := 1) (by rw [if_pos (hk.mpr q)]) (tp_beq (r9_m1 (m := 1) a4 rfl rfl (by omega) (by omega)) (tp_f (show ¬ (1 : Int32) = 0 by decide) (tp_bind (r9_nx a1 a2 a3.1) (fun x hx => tp_some ?_))))
        exact ⟨hx.2.1, hx.2.2.1, hx.2.2.2, by rw [hx.1.2.1 9 (by omega)]; exact a4, P9_T hx.1 a5, FR9_tr a6 (FR9_T hx.1)⟩
      · dsimp only
        rw [if_neg q]
        exact tp_beq (x := 0) (by rw [if_neg (fun e => q (hk.mp e))]) (tp_beq (r9_m0 (m := 1) a4 rfl rfl (by omega) (by omega)) (tp_t rfl (tp_some ⟨FL9_F a3 (by omega) (by omega), FR9_tr a6 FR9_F⟩)))
/-! what is read is well formed, and reading goes on -/
theorem nmF_0 {y : Nat → Int32} {N p : Nat} {A : pA} (h : nmF y N p A = 0) : tk y N p = 0 := by
  unfold nmF at h
  cases hb : isN y N p with
  | true => exact isN_0 hb
  | false =>
    rw [hb, if_pos rfl] at h
    omega
theorem nbF_0 {y : Nat → Int32} {N p lo hi : Nat} (h : nbF y N p lo hi = 0) : lo ≤ tn y N p ∧ tn y N p ≤ hi := by
  unfold nbF at h
  by_cases q : tk y N p = 1
  · rw [if_pos q] at h
    by_cases q2 : lo ≤ tn y N p ∧ tn y N p ≤ hi
    · exact q2
    · rw [if_neg q2] at h
      omega
  · rw [if_neg q] at h
    omega
theorem nbF_le {y : Nat → Int32} {N p lo hi : Nat} : nbF y N p lo hi ≤ 5 := by
  unfold nbF
  split
  · split <;> omega
  · omega
theorem nmF_le {y : Nat → Int32} {N p : Nat} {A : pA} : nmF y N p A ≤ 5 := by
  unfold nmF
  split
  · omega
  · split <;> omega
theorem dkF_le {y : Nat → Int32} {N p : Nat} {A : pA} {but : Int32} : dkF y N p A but ≤ 5 := by
  unfold dkF
  split
  · omega
  · split <;> omega
theorem fdN_k {y : Nat → Int32} {N p : Nat} {A : pA} {but : Int32} (h : dkF y N p A but = 0) : ∃ k, k < A.1.1 ∧ oI (fdN y N p A) = nI k ∧ ¬ nI k = but := by
  have h0 := dkF_0 h
  cases hd : fdN y N p A with
  | none =>
    rw [hd] at h0
    exact absurd rfl h0.1
  | some k =>
    rw [hd] at h0
    have := fi_lt _ _ _ hd
    exact ⟨k, by omega, rfl, h0.2⟩
theorem isW_te {y : Nat → Int32} {N p i : Nat} (h : isW y N p i = true) : p < te y N p := by
  have h0 : tk y N p = 0 := (of_decide_eq_true h).1
  have h1 := (tw_ok h0).2
  by_cases q : p < te y N p
  · exact q
  · exfalso
    have h2 : p ≤ tq y N p := scan_p
    have h3 : te y N p - tq y N p = 0 := by omega
    unfold tw at h1
    rw [h3] at h1
    exact absurd h1 (show ¬ 1 ≤ ([] : List Nat).length by decide)
theorem te_p {y : Nat → Int32} {N p : Nat} (h : p ≤ N) : p ≤ te y N p := Nat.le_trans (show p ≤ tq y N p from scan_p) (te_N h).1
theorem WF_D {A : pA} {nm : List Nat} {g : Int32} (hW : WF A) (hn : A.1.1 < 8) (h1 : okL nm ∧ 1 ≤ nm.length) (hg : -999 ≤ g.toInt ∧ g.toInt ≤ 999) : WF (aD A nm g) := by
  refine ⟨by show A.1.1 + 1 ≤ 8; omega, hW.2.1, fun d hd => ?_, fun w hw => ?_, hW.2.2.2.2⟩
  · show okL (if d = A.1.1 then nm else A.2.1 d) ∧ 1 ≤ (if d = A.1.1 then nm else A.2.1 d).length ∧ -999 ≤ (if d = A.1.1 then g else A.2.2.2.1 d).toInt ∧ (if d = A.1.1 then g else A.2.2.2.1 d).toInt ≤ 999
    have hd' : d < A.1.1 + 1 := hd
    by_cases q : d = A.1.1
    · rw [if_pos q, if_pos q]
      exact ⟨h1.1, h1.2, hg.1, hg.2⟩
    · rw [if_neg q, if_neg q]
      exact hW.2.2.1 d (by omega)
  · obtain ⟨a1, a2, b, e, c, h, b1, b2, b3, b4, b5, b6, b7⟩ := hW.2.2.2.1 w hw
    exact ⟨a1, a2, b, e, c, h, b1, b2, b3, b4, by show b < A.1.1 + 1; omega, by show e < A.1.1 + 1; omega, b7⟩
theorem WF_R {A : pA} {nm : List Nat} {b e c h : Nat} (hW : WF A) (hn : A.1.2 < 16) (h1 : okL nm ∧ 1 ≤ nm.length) (hb : b < A.1.1) (he : e < A.1.1) (hbe : b ≠ e) (hc : c ≤ 999) (hh : 1 ≤ h ∧ h ≤ 999) : WF (aR A nm (nI b) (nI e) (nI c) (nI h)) := by
  refine ⟨hW.1, by show A.1.2 + 1 ≤ 16; omega, hW.2.2.1, fun w hw => ?_, hW.2.2.2.2⟩
  have hw' : w < A.1.2 + 1 := hw
  show okL (if w = A.1.2 then nm else A.2.2.1 w) ∧ 1 ≤ (if w = A.1.2 then nm else A.2.2.1 w).length ∧ ∃ b' e' c' h', (if w = A.1.2 then nI b else A.2.2.2.2.1 0 w) = nI b' ∧ (if w = A.1.2 then nI e else A.2.2.2.2.1 1 w) = nI e' ∧ (if w = A.1.2 then nI c else A.2.2.2.2.1 2 w) = nI c' ∧ (if w = A.1.2 then nI h else A.2.2.2.2.1 3 w) = nI h' ∧ b' < A.1.1 ∧ e' < A.1.1 ∧ b' ≠ e' ∧ c' ≤ 999 ∧ 1 ≤ h' ∧ h' ≤ 999
  by_cases q : w = A.1.2
  · simp only [if_pos q]
    exact ⟨h1.1, h1.2, b, e, c, h, rfl, rfl, rfl, rfl, hb, he, hbe, hc, hh.1, hh.2⟩
  · simp only [if_neg q]
    exact hW.2.2.2.1 w (by omega)
theorem i0_toInt : (0 : Int32).toInt = 0 := by decide
theorem nIn_toInt {a : Nat} (h : a ≤ 999) : (0 - nI a : Int32).toInt = -(a : Int) := by
  rw [Int32.toInt_sub, nI_toInt (by omega), i0_toInt]
  rw [Int.bmod_eq_of_le] <;> omega
theorem lin0_ok {y : Nat → Int32} {N p : Nat} {A : pA} (hW : WF A) (hp : p ≤ N) {res : Nat ⊕ (pA × Nat)} (hl : lin0 y N A p = res) : (∀ F, res = .inl F → F ≤ 8 * N + 5) ∧ ∀ r, res = .inr r → WF r.1 ∧ p < r.2 ∧ r.2 ≤ N := by
  have l0 : tq y N p ≤ N := tq_N hp
  unfold lin0 at hl
  have hp1 := (te_N (y := y) hp).2
  have hp2 := (te_N (y := y) hp1).2
  have hp3 := (te_N (y := y) hp2).2
  have hp4 := (te_N (y := y) hp3).2
  have hp5 := (te_N (y := y) hp4).2
  have hp6 := (te_N (y := y) hp5).2
  have hp7 := (te_N (y := y) hp6).2
  have hp8 := (te_N (y := y) hp7).2
  have m1 := te_p (y := y) hp1
  have m2 := te_p (y := y) hp2
  have m3 := te_p (y := y) hp3
  have m4 := te_p (y := y) hp4
  have m5 := te_p (y := y) hp5
  have m6 := te_p (y := y) hp6
  have m7 := te_p (y := y) hp7
  have isW_p : ∀ i, isW y N p i = true → p < te y N p := fun i h => isW_te h
  generalize te y N p = p1 at *
  generalize te y N p1 = p2 at *
  generalize te y N p2 = p3 at *
  generalize te y N p3 = p4 at *
  generalize te y N p4 = p5 at *
  generalize te y N p5 = p6 at *
  generalize te y N p6 = p7 at *
  have l1 : tq y N p1 ≤ N := tq_N hp1
  have l2 : tq y N p2 ≤ N := tq_N hp2
  have l3 : tq y N p3 ≤ N := tq_N hp3
  have l4 : tq y N p4 ≤ N := tq_N hp4
  have l5 : tq y N p5 ≤ N := tq_N hp5
  have l6 : tq y N p6 ≤ N := tq_N hp6
  have l7 : tq y N p7 ≤ N := tq_N hp7
  have r1 := te_p (y := y) hp1
  have r3 := te_p (y := y) hp3
  have r7 := te_p (y := y) hp7
  have s1 := (te_N (y := y) hp1).2
  have s3 := (te_N (y := y) hp3).2
  have s7 := (te_N (y := y) hp7).2
  have flt : ∀ (F : Nat), F ≤ 8 * N + 5 → res = .inl F → (∀ F, res = .inl F → F ≤ 8 * N + 5) ∧ ∀ r, res = .inr r → WF r.1 ∧ p < r.2 ∧ r.2 ≤ N := fun F h e => by
    subst e
    refine ⟨fun G hG => ?_, fun r hr => by cases hr⟩
    cases hG
    exact h
  have fin : ∀ (B : pA) (q : Nat), WF B → p < q → q ≤ N → res = .inr (B, q) → (∀ F, res = .inl F → F ≤ 8 * N + 5) ∧ ∀ r, res = .inr r → WF r.1 ∧ p < r.2 ∧ r.2 ≤ N := fun B q h1 h2 h3 e => by
    subst e
    refine ⟨fun G hG => (by cases hG), fun r hr => ?_⟩
    cases hr
    exact ⟨h1, h2, h3⟩
  by_cases w0 : isW y N p 0 = true
  · have wp := isW_p 0 w0
    rw [if_pos w0] at hl
    unfold linD at hl
    by_cases hn : 8 ≤ A.1.1
    · rw [if_pos hn] at hl
      exact flt _ (by omega) hl.symm
    · rw [if_neg hn] at hl
      by_cases hnm : nmF y N p1 A = 0
      · rw [if_pos hnm] at hl
        have hnm' := tw_ok (nmF_0 hnm)
        by_cases hgt : isW y N p2 1 = true ∨ isW y N p2 2 = true
        · rw [if_pos hgt] at hl
          by_cases hnb : nbF y N p3 0 999 = 0
          · rw [if_pos hnb] at hl
            refine fin _ _ (WF_D hW (by omega) hnm' ?_) (by omega) (by omega) hl.symm
            have hb := nbF_0 hnb
            split
            · rw [nI_toInt (by omega)]
              omega
            · rw [nIn_toInt hb.2]
              omega
          · rw [if_neg hnb] at hl
            have := nbF_le (y := y) (N := N) (p := p3) (lo := 0) (hi := 999)
            exact flt _ (by omega) hl.symm
        · rw [if_neg hgt] at hl
          exact fin _ _ (WF_D hW (by omega) hnm' (by rw [i0_toInt]; omega)) (by omega) (by omega) hl.symm
      · rw [if_neg hnm] at hl
        have := nmF_le (y := y) (N := N) (p := p1) (A := A)
        exact flt _ (by omega) hl.symm
  · rw [if_neg w0] at hl
    by_cases w3 : isW y N p 3 = true
    · have wp := isW_p 3 w3
      rw [if_pos w3] at hl
      unfold linR at hl
      by_cases hn : 16 ≤ A.1.2
      · rw [if_pos hn] at hl
        exact flt _ (by omega) hl.symm
      · rw [if_neg hn] at hl
        by_cases hnm : nmF y N p1 A = 0
        · rw [if_pos hnm] at hl
          have hnm' := tw_ok (nmF_0 hnm)
          by_cases hd : dkF y N p2 A (-1) = 0
          · rw [if_pos hd] at hl
            by_cases hd2 : dkF y N p3 A (oI (fdN y N p2 A)) = 0
            · rw [if_pos hd2] at hl
              obtain ⟨kb, kb1, kb2, -⟩ := fdN_k hd
              obtain ⟨ke, ke1, ke2, ke3⟩ := fdN_k hd2
              rw [kb2] at hl ke3
              rw [ke2] at hl
              unfold linN at hl
              by_cases w4 : isW y N p4 4 = true
              · rw [if_pos w4] at hl
                by_cases n5 : nbF y N p5 0 999 = 0
                · rw [if_pos n5] at hl
                  by_cases w6 : isW y N p6 5 = true
                  · rw [if_pos w6] at hl
                    by_cases n7 : nbF y N p7 1 999 = 0
                    · rw [if_pos n7] at hl
                      exact fin _ _ (WF_R hW (by omega) hnm' kb1 ke1 (fun e => ke3 (by rw [e])) (nbF_0 n5).2 (nbF_0 n7)) (by omega) (by omega) hl.symm
                    · rw [if_neg n7] at hl
                      have := nbF_le (y := y) (N := N) (p := p7) (lo := 1) (hi := 999)
                      exact flt _ (by omega) hl.symm
                  · rw [if_neg w6] at hl
                    exact flt _ (by omega) hl.symm
                · rw [if_neg n5] at hl
                  have := nbF_le (y := y) (N := N) (p := p5) (lo := 0) (hi := 999)
                  exact flt _ (by omega) hl.symm
              · rw [if_neg w4] at hl
                exact flt _ (by omega) hl.symm
            · rw [if_neg hd2] at hl
              have := dkF_le (y := y) (N := N) (p := p3) (A := A) (but := oI (fdN y N p2 A))
              exact flt _ (by omega) hl.symm
          · rw [if_neg hd] at hl
            have := dkF_le (y := y) (N := N) (p := p2) (A := A) (but := -1)
            exact flt _ (by omega) hl.symm
        · rw [if_neg hnm] at hl
          have := nmF_le (y := y) (N := N) (p := p1) (A := A)
          exact flt _ (by omega) hl.symm
    · rw [if_neg w3] at hl
      by_cases w6 : isW y N p 6 = true
      · have wp := isW_p 6 w6
        rw [if_pos w6] at hl
        unfold linB at hl
        by_cases hb : A.2.2.2.2.2.2 = true
        · rw [if_pos hb] at hl
          exact flt _ (by omega) hl.symm
        · rw [if_neg hb] at hl
          by_cases n1 : nbF y N p1 1 24 = 0
          · rw [if_pos n1] at hl
            exact fin (aB A (nI (tn y N p1))) _ ⟨hW.1, hW.2.1, hW.2.2.1, hW.2.2.2.1, tn y N p1, (nbF_0 n1).1, (nbF_0 n1).2, rfl⟩ (by omega) (by omega) hl.symm
          · rw [if_neg n1] at hl
            have := nbF_le (y := y) (N := N) (p := p1) (lo := 1) (hi := 24)
            exact flt _ (by omega) hl.symm
      · rw [if_neg w6] at hl
        exact flt _ (by omega) hl.symm
theorem lin1_F {y : Nat → Int32} {N p F : Nat} {A : pA} (hW : WF A) (hp : p ≤ N) (hl : lin1 y N A p = .inl F) : F ≤ 8 * N + 5 := by
  unfold lin1 at hl
  cases h0 : lin0 y N A p with
  | inl G =>
    rw [h0] at hl
    cases hl
    exact (lin0_ok hW hp h0).1 _ rfl
  | inr r =>
    rw [h0] at hl
    have h1 := (lin0_ok hW hp h0).2 r rfl
    have l1 : tq y N r.2 ≤ N := tq_N h1.2.2
    dsimp only at hl
    split at hl
    · cases hl
    · cases hl
      omega
theorem lin1_R {y : Nat → Int32} {N p : Nat} {A : pA} {r : pA × Nat} (hW : WF A) (hp : p ≤ N) (hl : lin1 y N A p = .inr r) : WF r.1 ∧ p < r.2 := by
  unfold lin1 at hl
  cases h0 : lin0 y N A p with
  | inl G =>
    rw [h0] at hl
    cases hl
  | inr r' =>
    rw [h0] at hl
    have h1 := (lin0_ok hW hp h0).2 r' rfl
    have m := te_p (y := y) h1.2.2
    dsimp only at hl
    split at hl
    · cases hl
      exact ⟨h1.1, by dsimp only; omega⟩
    · cases hl
/-! all lines -/
def lns (y : Nat → Int32) (N : Nat) : Nat → pA → Nat → Nat ⊕ pA
  | 0, A, _ => .inr A
  | f + 1, A, p => if tk y N p = 3 then .inr A else match lin1 y N A p with | .inl F => .inl F | .inr r => lns y N f r.1 r.2
theorem c8_lines {y : Nat → Int32} {N : Nat} : ∀ (f i p : Nat) (A : pA) (σ : gj_S), N - p < f → i ≤ p → p ≤ N → rd8 y N σ → TK8 y N p σ → P8 A σ → WF A → ∀ fu, f ≤ fu → TP (gj_lp fb_X2_readText_l43 fu (nI i, σ)) (fun x => match lns y N f A p with | .inl F => F ≤ 8 * N + 5 ∧ ∃ z, x = .inl (nI F, z) ∧ FR8 σ z | .inr B => ∃ z, x = .inr z ∧ P8 B z ∧ WF B ∧ FR8 σ z)
  | 0, i, p, A, σ, hm, _, _, _, _, _, _, fu, _ => absurd hm (Nat.not_lt_zero _)
  | f + 1, i, p, A, σ, hm, hi, hp, hr, ht, hP, hW, fu, hfu => by
    obtain ⟨fu', rfl⟩ : ∃ x, fu = x + 1 := ⟨fu - 1, by omega⟩
    have hN := hr.1
    rw [gj_lp_s]
    unfold lns fb_X2_readText_l43
    dsimp only
    rw [hr.2.1]
    by_cases q : tk y N p = 3
    · rw [if_pos q]
      refine tp_beq (x := .inl (.inr σ)) (by rw [if_neg (nI_nlt (a := N) (b := i) (by omega) (by omega)), if_pos (show σ.1 2 7 = 3 from (TK8_0 ht (k := 3) (by omega)).mpr q)]) ?_
      exact tp_some ⟨σ, rfl, hP, hW, FR8_rf⟩
    · rw [if_neg q]
      have hL := c8_line hr hp ht hP hW
      cases hl : lin1 y N A p with
      | inl F =>
        rw [hl] at hL
        refine tp_bind (tp_f (nI_nlt (a := N) (b := i) (by omega) (by omega)) (tp_f (fun e => q ((TK8_0 ht (k := 3) (by omega)).mp e)) (tp_bind hL (fun x hx => tp_t hx.1 (tp_some (P := fun w : ((Int32 × gj_S) ⊕ gj_S) ⊕ (Int32 × gj_S) => ∃ z, w = .inl (.inl (nI F, z)) ∧ FR8 σ z) ⟨x.2, by rw [hx.2.1], hx.2.2⟩))))) (fun x hx => ?_)
        obtain ⟨z, rfl, hz⟩ := hx
        exact tp_some ⟨lin1_F hW hp hl, z, rfl, hz⟩
      | inr r =>
        rw [hl] at hL
        obtain ⟨hW', hpr⟩ := lin1_R hW hp hl
        refine tp_bind (tp_f (nI_nlt (a := N) (b := i) (by omega) (by omega)) (tp_f (fun e => q ((TK8_0 ht (k := 3) (by omega)).mp e)) (tp_bind hL (fun x hx => tp_f (by rw [hx.1]; decide) (tp_some (P := fun w : ((Int32 × gj_S) ⊕ gj_S) ⊕ (Int32 × gj_S) => ∃ z, w = .inr (nI (i + 1), z) ∧ rd8 y N z ∧ r.2 ≤ N ∧ TK8 y N r.2 z ∧ P8 r.1 z ∧ FR8 σ z) ⟨x.2, by rw [nI_1], hx.2⟩))))) (fun x hx => ?_)
        obtain ⟨z, rfl, z1, z2, z3, z4, z5⟩ := hx
        refine tp_mono (c8_lines f (i + 1) r.2 r.1 z (by omega) (by omega) z2 z1 z3 z4 hW' fu' (by omega)) (fun w hw => ?_)
        dsimp only
        cases hs : lns y N f r.1 r.2 with
        | inl F =>
          rw [hs] at hw
          obtain ⟨w0, z', w1, w2⟩ := hw
          exact ⟨w0, z', w1, FR8_tr z5 w2⟩
        | inr B =>
          rw [hs] at hw
          obtain ⟨z', w1, w2, w3, w4⟩ := hw
          exact ⟨z', w1, w2, w3, FR8_tr z5 w4⟩
theorem r9_lines {y : Nat → Int32} {N : Nat} : ∀ (f p : Nat) (A : pA) (σ : gj_S), N - p < f → p ≤ N → rd9 y N σ → TK9 y N p σ → σ.1 188 9 = 0 → P9 A σ → WF A → ∀ fu, f < fu → TP (gj_lp fb_X9_text_l69 fu σ) (fun z => match lns y N f A p with | .inl F => FL9 F z ∧ FR9 σ z | .inr B => z.1 188 9 = 0 ∧ P9 B z ∧ FR9 σ z)
  | 0, p, A, σ, hm, _, _, _, _, _, _, fu, _ => absurd hm (Nat.not_lt_zero _)
  | f + 1, p, A, σ, hm, hp, hr, ht, hf, hP, hW, fu, hfu => by
    obtain ⟨fu', rfl⟩ : ∃ x, fu = x + 1 + 1 := ⟨fu - 2, by omega⟩
    rw [gj_lp_s]
    unfold lns
    have hk := (k9_1 (tk_lt (y := y) (N := N) (p := p))).2.2.2
    by_cases q : tk y N p = 3
    · rw [if_pos q]
      refine tp_beq (x := .inl σ) ?_ ?_
      · unfold fb_X9_text_l69
        rw [if_pos hf, ht.2.2.1, if_pos (hk.mpr q)]
      · exact tp_some ⟨hf, hP, FR9_rf⟩
    · rw [if_neg q]
      have hL := r9_line hr hp ht hf hP hW
      have hq : ¬ σ.1 188 6 = 0 := by
        rw [ht.2.2.1]
        exact fun e => q (hk.mp e)
      cases hl : lin1 y N A p with
      | inl F =>
        rw [hl] at hL
        refine tp_bind (P := fun w => ∃ z, w = .inr z ∧ FL9 F z ∧ FR9 σ z) (by
          unfold fb_X9_text_l69
          exact tp_t hf (tp_f hq (tp_bind hL (fun x hx => tp_some ⟨x, rfl, hx⟩)))) (fun x hx => ?_)
        obtain ⟨z, rfl, z1, z2⟩ := hx
        show TP (gj_lp fb_X9_text_l69 (fu' + 1) z) _
        rw [gj_lp_e (b := z) (by unfold fb_X9_text_l69; rw [if_neg (FL9_9 z1)])]
        exact tp_some ⟨z1, z2⟩
      | inr r =>
        rw [hl] at hL
        obtain ⟨hW', hpr⟩ := lin1_R hW hp hl
        refine tp_bind (P := fun w => ∃ z, w = .inr z ∧ rd9 y N z ∧ r.2 ≤ N ∧ TK9 y N r.2 z ∧ z.1 188 9 = 0 ∧ P9 r.1 z ∧ FR9 σ z) (by
          unfold fb_X9_text_l69
          exact tp_t hf (tp_f hq (tp_bind hL (fun x hx => tp_some ⟨x, rfl, hx⟩)))) (fun x hx => ?_)
        obtain ⟨z, rfl, z1, z2, z3, z4, z5, z6⟩ := hx
        refine tp_mono (r9_lines f r.2 r.1 z (by omega) z2 z1 z3 z4 z5 hW' (fu' + 1) (by omega)) (fun w hw => ?_)
        dsimp only
        cases hs : lns y N f r.1 r.2 with
        | inl F =>
          rw [hs] at hw
          exact ⟨hw.1, FR9_tr z6 hw.2⟩
        | inr B =>
          rw [hs] at hw
          exact ⟨hw.1, hw.2.1, FR9_tr z6 hw.2.2⟩
