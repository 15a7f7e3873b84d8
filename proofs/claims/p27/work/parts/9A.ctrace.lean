/-! ===== the class: what leaves; the ring traced ===== -/
theorem c8_room {n r b : Nat} {b0 e0 : Nat → Nat} {s : Nat → Int32} {σ : gj_S} (hg : gS n r b0 e0) (h : pm n r b0 e0 s b σ) (hh : ∀ w, w < r → ∃ c, c ≤ 999 ∧ s (24 + w) = nI c) {v : Nat} {al : Bool} (hv : v < r + n) : f_X1_roomOf b (nI v) (bI al) σ = some (if al = false then s (50 + v) else if v < r then s (24 + v) - s (50 + v) else 1000000) := by
  have hn := hg.1
  have hr := hg.2.1
  obtain ⟨-, -, -, q4, q5, -⟩ := h.2.2.2.2.2 v hv
  have gv : gj_in (nI v) 24 := gi (by omega) (by omega)
  unfold f_X1_roomOf
  cases al with
  | false =>
    rw [if_pos (show bI false = 0 by decide), if_pos gv, nI_clamp (show v < 2 ^ 31 by omega), q5]
    rfl
  | true =>
    rw [if_neg (show ¬ bI true = 0 by decide), if_pos gv, if_neg (show ¬ (true : Bool) = false by decide)]
    simp only [nI_clamp (show v < 2 ^ 31 by omega), q4, q5, if_pos gv]
    by_cases q : v < r
    · obtain ⟨c, c1, c2⟩ := hh v q
      simp only [if_pos q]
      rw [if_neg]
      rw [c2]
      intro e
      have := (nI_eq (b := 1000000) (by omega) (by omega)).mp e
      omega
    · simp only [if_neg q]
      rfl
theorem c8_l13 {n r q b : Nat} {b0 e0 : Nat → Nat} {s : Nat → Int32} {σ : gj_S} (hg : gS n r b0 e0) (hqb : b + 8 < q) (h : pm n r b0 e0 s b σ) (hh : ∀ w, w < r → ∃ c, c ≤ 999 ∧ s (24 + w) = nI c) {w M : Nat} {W : Nat → Nat} {L : Nat → Bool} (hw : w < r + n) (hM : M ≤ 17) (hm : σ.1 q 0 = nI M) (hR : ∀ k, k < M → W k < r + n ∧ σ.1 (q + 1) k = nI (W k) ∧ σ.1 (q + 2) k = bI (L k)) (h2 : σ.1 q 2 = 1000000) (hc : ∃ c, c < M ∧ vr r s 1000000 w (W c) (L c) ≤ 1000000) :
    TP (gj_lp (fb_X3_findLeaving_l13 q b (nI w)) 5000 (0, σ)) (fun z => smC q q σ z ∧ (∀ j, j ≠ 2 → j ≠ 5 → z.1 q j = σ.1 q j) ∧ ∃ lv, lmin (fun k => vr r s 1000000 w (W k) (L k)) M lv ∧ z.1 q 5 = nI lv ∧ z.1 q 2 = vr r s 1000000 w (W lv) (L lv)) := by
  have hn := hg.1
  have hr := hg.2.1
  refine tp_lp (I := fun a => ∃ k, k ≤ M ∧ a.1 = nI k ∧ smC q q σ a.2 ∧ (∀ j, j ≠ 2 → j ≠ 5 → a.2.1 q j = σ.1 q j) ∧ ((a.2.1 q 2 = 1000000 ∧ ∀ t, t < k → (1000000 : Int32) < vr r s 1000000 w (W t) (L t)) ∨ ∃ lv, lmin (fun k => vr r s 1000000 w (W k) (L k)) k lv ∧ a.2.1 q 5 = nI lv ∧ a.2.1 q 2 = vr r s 1000000 w (W lv) (L lv))) (fun a => M - a.1.toNatClampNeg) ?_ 5000 (0, σ) ⟨0, by omega, rfl, smC_rf, fun _ _ _ => rfl, .inl ⟨h2, fun t ht => absurd ht (Nat.not_lt_zero _)⟩⟩ (by dsimp only; omega)
  rintro ⟨x, τ⟩ ⟨k, h1, h2, h3, h4, h7⟩
  dsimp only at h2 h3 h4 h7
  subst h2
  unfold fb_X3_findLeaving_l13
  dsimp only
  have e0' : τ.1 q 0 = nI M := (h4 0 (by decide) (by decide)).trans hm
  have e1 : τ.1 (q + 1) = σ.1 (q + 1) := h3.1 _ (by omega)
  have e2 : τ.1 (q + 2) = σ.1 (q + 2) := h3.1 _ (by omega)
  have hp' := smC_pm h3 (.inl hqb) h
  by_cases e : k = M
  · subst e
    refine tp_t (by rw [e0']; exact nI_le (by omega) (by omega)) (tp_some ⟨h3, h4, ?_⟩)
    rcases h7 with ⟨q2, q3⟩ | q
    · exfalso
      obtain ⟨c, c1, c2⟩ := hc
      have := q3 c c1
      rw [i32_lt_iff] at this
      rw [i32_le_iff] at c2
      omega
    · exact q
  · obtain ⟨w1, w2, w3⟩ := hR k (by omega)
    have gk : gj_in (nI k) 17 := gi (by omega) (by omega)
    have ck : (nI k).toNatClampNeg = k := nI_clamp (by omega)
    refine tp_f (by rw [e0']; exact nI_ge (by omega) (by omega)) (tp_t gk ?_)
    refine tp_beq (x := vr r s 1000000 w (W k) (L k)) ?_ ?_
    · simp only [ck, e1, e2, w2, w3]
      unfold vr
      by_cases q : W k = w
      · rw [if_pos (by rw [q]), if_pos q, if_pos (gi (by omega) (by omega)), nI_clamp (by omega), q]
        exact congrArg some (hp'.2.2.2.2.2 w hw).2.2.2.1
      · rw [if_neg (fun e => q ((nI_eq (by omega) (by omega)).mp e)), if_neg q, if_pos gk, c8_room hg hp' hh w1]
        rfl
    · have hmeas : M - (nI k + 1).toNatClampNeg < M - (nI k).toNatClampNeg := by
        rw [nI_1, nI_clamp (by omega), nI_clamp (by omega)]
        omega
      refine tp_if (fun hq => ?_) (fun hq => ?_)
      · refine tp_some ⟨⟨k + 1, by omega, nI_1 _, h3, h4, ?_⟩, hmeas⟩
        rcases h7 with ⟨q2, q3⟩ | ⟨lv, l1, l2, l3⟩
        · refine .inl ⟨q2, fun t ht => ?_⟩
          by_cases e2 : t = k
          · subst e2
            rw [q2] at hq
            exact hq
          · exact q3 t (by omega)
        · refine .inr ⟨lv, ⟨by have := l1.1; omega, fun t ht => ?_, fun t t1 t2 => ?_⟩, l2, l3⟩
          · by_cases e2 : t = k
            · subst e2
              dsimp only
              rw [l3, i32_lt_iff] at hq
              rw [i32_le_iff]
              omega
            · exact l1.2.1 t (by omega)
          · by_cases e2 : t = k
            · subst e2
              dsimp only
              rw [l3] at hq
              exact hq
            · exact l1.2.2 t t1 (by omega)
      · refine tp_some ⟨⟨k + 1, by omega, nI_1 _, smC_I (by omega) (by omega) (smC_I (by omega) (by omega) h3), fun j j1 j2 => ?_, .inr ⟨k, ⟨by omega, fun t ht => ?_, fun t t1 t2 => by omega⟩, ?_, ?_⟩⟩, hmeas⟩
        · dsimp only
          rw [sI_eq, sI_eq]
          show (if j = 5 then _ else if j = 2 then _ else τ.1 q j) = _
          rw [if_neg j2, if_neg j1]
          exact h4 j j1 j2
        · by_cases e2 : t = k
          · subst e2
            dsimp only
            rw [i32_le_iff]
            omega
          · dsimp only
            rcases h7 with ⟨q2, q3⟩ | ⟨lv, l1, l2, l3⟩
            · have := q3 t (by omega)
              rw [q2, i32_lt_iff] at hq
              rw [i32_lt_iff] at this
              rw [i32_le_iff]
              omega
            · have := l1.2.1 t (by omega)
              dsimp only at this
              rw [l3, i32_lt_iff] at hq
              rw [i32_le_iff] at this ⊢
              omega
        · dsimp only
          rw [sI_eq]
          rfl
        · dsimp only
          rw [sI_eq, sI_eq]
          rfl
/-- what tracing the ring of w leaves in the cells of the ring -/
def cgZ (r : Nat) (b0 e0 : Nat → Nat) (s : Nat → Int32) (up par : Nat → Nat) (w i j lv q : Nat) (z : gj_S) : Prop :=
  z.1 q 1 = nI (it par i (vA r b0 e0 s w)) ∧ z.1 q 0 = nI (i + 1 + j) ∧
  (∀ k, k < i + 1 + j → z.1 (q + 1) k = nI (rgW up par w (vA r b0 e0 s w) (vB r b0 e0 s w) i k) ∧ z.1 (q + 2) k = bI (rgL (vb r b0 s) up par (vE s w) (vA r b0 e0 s w) (vB r b0 e0 s w) i k)) ∧
  z.1 q 5 = nI lv ∧ z.1 q 2 = vr r s 1000000 w (rgW up par w (vA r b0 e0 s w) (vB r b0 e0 s w) i lv) (rgL (vb r b0 s) up par (vE s w) (vA r b0 e0 s w) (vB r b0 e0 s w) i lv)
theorem gA_pl {n r : Nat} {b0 e0 : Nat → Nat} {s : Nat → Int32} (h : gS n r b0 e0) {w : Nat} (hw : w < r + n) : (vA r b0 e0 s w < n ∨ vA r b0 e0 s w = 8) ∧ (vB r b0 e0 s w < n ∨ vB r b0 e0 s w = 8) := by
  unfold vA vB
  by_cases q : s (74 + w) = 1
  · rw [if_pos q, if_pos q]
    exact ⟨gb_pl h hw, ge_pl h hw⟩
  · rw [if_neg q, if_neg q]
    exact ⟨ge_pl h hw, gb_pl h hw⟩
set_option maxHeartbeats 2000000 in
theorem c8_trace {n r y : Nat} {b0 e0 : Nat → Nat} {s : Nat → Int32} {up par rk dp : Nat → Nat} {pr : Nat → Int32} {σ : gj_S} (h : cL n r b0 e0 s up par rk dp pr y σ) (hh : ∀ w, w < r → ∃ c, c ≤ 999 ∧ s (24 + w) = nI c) {w i j lv : Nat} (hw : w < r + n) (hst : s (74 + w) = 1 ∨ s (74 + w) = 2) (ht : tap par (vA r b0 e0 s w) (vB r b0 e0 s w) i j) (hlv : lmin (fun k => vr r s 1000000 w (rgW up par w (vA r b0 e0 s w) (vB r b0 e0 s w) i k) (rgL (vb r b0 s) up par (vE s w) (vA r b0 e0 s w) (vB r b0 e0 s w) i k)) (i + 1 + j) lv) :
    TP (f_X3_trace (y + 16) (y + 1) (y + 10) (nI w) σ) (fun z => smC (y + 16) (y + 18) σ z ∧ cgZ r b0 e0 s up par w i j lv (y + 16) z) := by
  have hn := h.1.1
  have hr := h.1.2.1
  have hC := h.2.2.1.1.1
  have hD := h.2.2.1.2.1
  obtain ⟨hA, hB⟩ := gA_pl (s := s) h.1 hw
  have ht' : tap par (vB r b0 e0 s w) (vA r b0 e0 s w) j i := ⟨ht.1.symm, tp0_sw ht.2⟩
  have hdA := cL_dp h hA
  have hdB := cL_dp h hB
  have hi' := td_path hC hD i (fun t q => tap_docks hC hA ht q)
  have hj' := td_path hC hD j (fun t q => tap_docks hC hB ht' q)
  have hi : i ≤ 8 := by omega
  have hj : j ≤ 8 := by omega
  obtain ⟨q1, q2, -, -, -, q6⟩ := h.2.1.2.2.2.2.2 w hw
  have gw : gj_in (nI w) 24 := gi (by omega) (by omega)
  have cw : (nI w).toNatClampNeg = w := nI_clamp (by omega)
  have hap := c8_apex h hA hB ht
  unfold f_X3_trace
  refine tp_t gw ?_
  simp only [cw, q1, q2, q6, if_pos gw]
  refine tp_beq (x := bI (vE s w)) (by unfold vE; rcases hst with e | e <;> rw [e] <;> decide) ?_
  refine tp_beq (x := nI (vA r b0 e0 s w)) (by unfold vE vA; rcases hst with e | e <;> rw [e] <;> rfl) ?_
  refine tp_beq (x := nI (vB r b0 e0 s w)) (by unfold vE vB; rcases hst with e | e <;> rw [e] <;> rfl) ?_
  refine tp_beq hap ?_
  have pa := it_pl hC i _ hA
  generalize eA : vA r b0 e0 s w = A at *
  generalize eB : vB r b0 e0 s w = B at *
  refine tp_t (gi (by omega) (by omega)) ?_
  have e1 : (gj_sI σ (y + 16) (upd (σ.1 (y + 16)) 1 (nI (it par i A)))).1 (y + 16) 1 = nI (it par i A) := by rw [sI_eq]; rfl
  have e3 : (gj_sI σ (y + 16) (upd (σ.1 (y + 16)) 1 (nI (it par i A)))).1 (y + 10 + 3) = σ.1 (y + 10 + 3) := sI_ne (by omega)
  rw [e1, e3]
  refine tp_t (gi (by omega) (by omega)) ?_
  have emax : gj_max 0 (σ.1 (y + 10 + 3) (nI A).toNatClampNeg - σ.1 (y + 10 + 3) (nI (it par i A)).toNatClampNeg) = nI i := by
    rw [nI_clamp (by omega), nI_clamp (by omega), cL_D h hA, cL_D h pa, nI_sub (by omega), show dp A - dp (it par i A) = i by omega]
    unfold gj_max
    by_cases q : i = 0
    · subst q
      decide
    · rw [if_pos (by rw [show (0 : Int32) = nI 0 from rfl]; exact nI_lt (by omega) (by omega))]
  rw [emax]
  have s2 : smC (y + 16) (y + 18) σ (gj_sI (gj_sI σ (y + 16) (upd (σ.1 (y + 16)) 1 (nI (it par i A)))) (y + 16) (upd ((gj_sI σ (y + 16) (upd (σ.1 (y + 16)) 1 (nI (it par i A)))).1 (y + 16)) 0 0)) := smC_I (by omega) (by omega) (smC_I (by omega) (by omega) smC_rf)
  have a0 : (gj_sI (gj_sI σ (y + 16) (upd (σ.1 (y + 16)) 1 (nI (it par i A)))) (y + 16) (upd ((gj_sI σ (y + 16) (upd (σ.1 (y + 16)) 1 (nI (it par i A)))).1 (y + 16)) 0 0)).1 (y + 16) 0 = 0 := by rw [sI_eq]; rfl
  have a1 : (gj_sI (gj_sI σ (y + 16) (upd (σ.1 (y + 16)) 1 (nI (it par i A)))) (y + 16) (upd ((gj_sI σ (y + 16) (upd (σ.1 (y + 16)) 1 (nI (it par i A)))).1 (y + 16)) 0 0)).1 (y + 16) 1 = nI (it par i A) := by rw [sI_eq, sI_eq]; rfl
  generalize gj_sI (gj_sI σ (y + 16) (upd (σ.1 (y + 16)) 1 (nI (it par i A)))) (y + 16) (upd ((gj_sI σ (y + 16) (upd (σ.1 (y + 16)) 1 (nI (it par i A)))).1 (y + 16)) 0 0) = σ2 at *
  refine tp_bind (c8_l111 (smC_cL s2 (.inl (by omega)) h) hA ht hi a0) (fun z hz => ?_)
  obtain ⟨z1, z2, z3, z4⟩ := hz
  obtain ⟨x, p1, p2, p3, p4, p5⟩ := c8_put (q := y + 16) (k := i) (v := nI w) (b := vE s w) (σ := z) (by omega)
  refine tp_beq p1 ?_
  have s3 := smC_tr (smC_tr s2 z1) p2
  rw [nI_1]
  refine tp_bind (c8_l191 (smC_cL s3 (.inl (by omega)) h) hB ht hi hj (by rw [p5]; show z.1 (y + 16) 0 + 1 = _; rw [z2, nI_1]) (by rw [p5]; show z.1 (y + 16) 1 = _; rw [z3, a1])) (fun v hv => ?_)
  obtain ⟨v1, v2, v3, v4, v5⟩ := hv
  have s4 := smC_tr s3 v1
  have hrow : ∀ k, k < i + 1 + j → v.1 (y + 17) k = nI (rgW up par w A B i k) ∧ v.1 (y + 18) k = bI (rgL (vb r b0 s) up par (vE s w) A B i k) := fun k hk => by
    unfold rgW rgL
    by_cases q : k < i
    · rw [if_pos q, if_pos q, (v4 k (by omega)).1, (v4 k (by omega)).2]
      rw [show y + 17 = y + 16 + 1 from rfl, show y + 18 = y + 16 + 2 from rfl, p3, p4]
      show (if k = i then _ else z.1 (y + 16 + 1) k) = _ ∧ (if k = i then _ else z.1 (y + 16 + 2) k) = _
      rw [if_neg (by omega), if_neg (by omega)]
      exact z4 k q
    · rw [if_neg q, if_neg q]
      by_cases q2 : k = i
      · subst q2
        rw [if_pos rfl, if_pos rfl, (v4 k (by omega)).1, (v4 k (by omega)).2]
        rw [show y + 17 = y + 16 + 1 from rfl, show y + 18 = y + 16 + 2 from rfl, p3, p4]
        exact ⟨if_pos rfl, if_pos rfl⟩
      · rw [if_neg q2, if_neg q2]
        obtain ⟨t, rfl⟩ : ∃ t, k = i + 1 + t := ⟨k - i - 1, by omega⟩
        rw [show i + 1 + t - i - 1 = t by omega]
        exact v5 t (by omega)
  unfold f_X3_findLeaving
  have s5 : smC (y + 16) (y + 18) σ (gj_sI (gj_sI v (y + 16) (upd (v.1 (y + 16)) 2 1000000)) (y + 16) (upd ((gj_sI v (y + 16) (upd (v.1 (y + 16)) 2 1000000)).1 (y + 16)) 5 0)) := smC_I (by omega) (by omega) (smC_I (by omega) (by omega) s4)
  have g1 : (gj_sI (gj_sI v (y + 16) (upd (v.1 (y + 16)) 2 1000000)) (y + 16) (upd ((gj_sI v (y + 16) (upd (v.1 (y + 16)) 2 1000000)).1 (y + 16)) 5 0)).1 (y + 16 + 1) = v.1 (y + 17) := by rw [sI_ne (by omega), sI_ne (by omega)]
  have g2 : (gj_sI (gj_sI v (y + 16) (upd (v.1 (y + 16)) 2 1000000)) (y + 16) (upd ((gj_sI v (y + 16) (upd (v.1 (y + 16)) 2 1000000)).1 (y + 16)) 5 0)).1 (y + 16 + 2) = v.1 (y + 18) := by rw [sI_ne (by omega), sI_ne (by omega)]
  have g3 : ∀ jj, jj ≠ 2 → jj ≠ 5 → (gj_sI (gj_sI v (y + 16) (upd (v.1 (y + 16)) 2 1000000)) (y + 16) (upd ((gj_sI v (y + 16) (upd (v.1 (y + 16)) 2 1000000)).1 (y + 16)) 5 0)).1 (y + 16) jj = v.1 (y + 16) jj := fun jj j1 j2 => by
    rw [sI_eq, sI_eq]
    show (if jj = 5 then _ else if jj = 2 then _ else v.1 (y + 16) jj) = _
    rw [if_neg j2, if_neg j1]
  have g4 : (gj_sI (gj_sI v (y + 16) (upd (v.1 (y + 16)) 2 1000000)) (y + 16) (upd ((gj_sI v (y + 16) (upd (v.1 (y + 16)) 2 1000000)).1 (y + 16)) 5 0)).1 (y + 16) 2 = 1000000 := by rw [sI_eq, sI_eq]; rfl
  generalize gj_sI (gj_sI v (y + 16) (upd (v.1 (y + 16)) 2 1000000)) (y + 16) (upd ((gj_sI v (y + 16) (upd (v.1 (y + 16)) 2 1000000)).1 (y + 16)) 5 0) = σ5 at *
  have hWi : rgW up par w A B i i = w := by unfold rgW; rw [if_neg (by omega), if_pos rfl]
  have hcl : ∃ c, c < i + 1 + j ∧ vr r s 1000000 w (rgW up par w A B i c) (rgL (vb r b0 s) up par (vE s w) A B i c) ≤ 1000000 := by
    refine ⟨i, by omega, ?_⟩
    rw [hWi]
    unfold vr
    rw [if_pos rfl]
    by_cases q : w < r
    · rw [if_pos q]
      obtain ⟨c, c1, c2⟩ := hh w q
      rw [c2, show (1000000 : Int32) = nI 1000000 from rfl]
      exact nI_le (by omega) (by omega)
    · rw [if_neg q]
      decide
  refine tp_bind (tp_bind (c8_l13 h.1 (by omega) (smC_pm s5 (.inl (by omega)) h.2.1) hh (w := w) (M := i + 1 + j) (W := rgW up par w A B i) (L := rgL (vb r b0 s) up par (vE s w) A B i) hw (by omega) ((g3 0 (by decide) (by decide)).trans v2) (fun k hk => ⟨rgW_lt hC hw hA hB ht hk, by rw [g1, g2]; exact hrow k hk⟩) g4 hcl) (fun u hu => tp_some hu)) (fun u hu => ?_)
  obtain ⟨u1, u2, lv', u3, u4, u5⟩ := hu
  have el := lmin_un u3 hlv
  subst el
  refine tp_some ⟨smC_tr s5 (smC_wd (by omega) (by omega) u1), ?_⟩
  unfold cgZ
  rw [eA, eB]
  refine ⟨?_, ?_, fun k hk => ?_, u4, u5⟩
  · rw [u2 1 (by decide) (by decide), g3 1 (by decide) (by decide)]
    exact v3
  · rw [u2 0 (by decide) (by decide), g3 0 (by decide) (by decide)]
    exact v2
  · rw [u1.1 (y + 16 + 1) (by omega), u1.1 (y + 16 + 2) (by omega), g1, g2]
    exact hrow k hk
