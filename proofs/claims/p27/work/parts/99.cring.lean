/-! ===== the class: the apex, the ring ===== -/
theorem c8_par {n r y : Nat} {b0 e0 : Nat → Nat} {s : Nat → Int32} {up par rk dp : Nat → Nat} {pr : Nat → Int32} {σ : gj_S} (h : cL n r b0 e0 s up par rk dp pr y σ) {d : Nat} (hd : d < n) : σ.1 (y + 10 + 2) d = nI (par d) ∧ σ.1 (y + 10 + 1) d = nI (up d) := ⟨(h.2.2.2.1.2.2.2 d hd).2.1, (h.2.2.2.1.2.2.2 d hd).1⟩
theorem c8_apex {n r y : Nat} {b0 e0 : Nat → Nat} {s : Nat → Int32} {up par rk dp : Nat → Nat} {pr : Nat → Int32} {σ : gj_S} (h : cL n r b0 e0 s up par rk dp pr y σ) {A B i0 j0 : Nat} (hA : A < n ∨ A = 8) (hB : B < n ∨ B = 8) (ht0 : tap par A B i0 j0) : f_X5_findApex (y + 10) (nI A) (nI B) σ = some (nI (it par i0 A)) := by
  have hn := h.1.1
  have hC := h.2.2.1.1.1
  have hD := h.2.2.1.2.1
  have : TP (gj_lp (fb_X5_findApex_l8 (y + 10) σ) 5000 (nI A, nI B, 0)) (fun z => z = nI (it par i0 A)) := by
    refine tp_lp (I := fun a => ∃ i j k, a = (nI (it par i A), nI (it par j B), nI k) ∧ tp0 par A B i j ∧ k + dp (it par i A) + dp (it par j B) ≤ 16) (fun a => 18 - a.2.2.toNatClampNeg) ?_ 5000 _ ⟨0, 0, 0, rfl, tp0_0, by
      have h1 := cL_dp h hA
      have h2 := cL_dp h hB
      show 0 + dp A + dp B ≤ 16
      omega⟩ (by dsimp only; omega)
    rintro x ⟨i, j, k, rfl, h3, h4⟩
    have px := it_pl hC i A hA
    have py := it_pl hC j B hB
    unfold fb_X5_findApex_l8
    dsimp only
    refine tp_f (by rw [show (18 : Int32) = nI 18 from rfl]; exact nI_ge (by omega) (by omega)) ?_
    by_cases e : it par i A = it par j B
    · obtain ⟨e1, e2⟩ := tap_un ⟨e, h3⟩ ht0
      exact tp_t (by rw [e]) (tp_some (by rw [e1]; rfl))
    · have gx : gj_in (nI (it par i A)) 9 := gi (by omega) (by omega)
      have gy : gj_in (nI (it par j B)) 9 := gi (by omega) (by omega)
      have cx : (nI (it par i A)).toNatClampNeg = it par i A := nI_clamp (by omega)
      have cy : (nI (it par j B)).toNatClampNeg = it par j B := nI_clamp (by omega)
      refine tp_f (fun q => e ((nI_eq (by omega) (by omega)).mp q)) (tp_t gx (tp_t gy ?_))
      have hm : 18 - (nI k + 1).toNatClampNeg < 18 - (nI k).toNatClampNeg := by
        rw [nI_1, nI_clamp (by omega), nI_clamp (by omega)]
        omega
      by_cases q : dp (it par i A) ≤ dp (it par j B)
      · obtain ⟨g1, g2⟩ := tp0_r hC hD hA hB h3 e q
        refine tp_t (by rw [cx, cy, cL_D h px, cL_D h py]; exact nI_le q (by omega)) (tp_t gy (tp_some ⟨⟨i, j + 1, k + 1, ?_, g2, ?_⟩, hm⟩))
        · rw [cy, (c8_par h g1).1, it_s, nI_1]
        · rw [it_s]
          have := hD.2 _ g1
          omega
      · obtain ⟨g1, g2⟩ := tp0_l hC hD hA hB h3 e (by omega)
        refine tp_f (by rw [cx, cy, cL_D h px, cL_D h py]; exact nI_ge (by omega) (by omega)) (tp_t gx (tp_some ⟨⟨i + 1, j, k + 1, ?_, g2, ?_⟩, hm⟩))
        · rw [cx, (c8_par h g1).1, it_s, nI_1]
        · rw [it_s]
          have := hD.2 _ g1
          omega
  obtain ⟨z, e, rfl⟩ := this
  unfold f_X5_findApex
  rw [e]
  rfl
/-- one way more in the ring -/
theorem c8_put {q k : Nat} {v : Int32} {b : Bool} {σ : gj_S} (hk : k < 17) : ∃ τ, f_X3_put q (nI k) v (bI b) σ = some τ ∧ smC q (q + 2) σ τ ∧ τ.1 (q + 1) = upd (σ.1 (q + 1)) k v ∧ τ.1 (q + 2) = upd (σ.1 (q + 2)) k (bI b) ∧ τ.1 q = upd (σ.1 q) 0 (σ.1 q 0 + 1) := by
  have gk : gj_in (nI k) 17 := gi hk (by omega)
  unfold f_X3_put
  rw [if_pos gk, if_pos gk, nI_clamp (show k < 2 ^ 31 by omega), nar_b]
  dsimp only [Option.bind_some]
  refine ⟨_, rfl, smC_I (by omega) (by omega) (smC_I (by omega) (by omega) (smC_I (by omega) (by omega) smC_rf)), ?_, ?_, ?_⟩
  · rw [sI_ne (by omega), sI_ne (by omega), sI_eq]
  · rw [sI_ne (by omega), sI_eq, sI_ne (by omega)]
  · rw [sI_eq, sI_ne (by omega), sI_ne (by omega)]
theorem smC_cL {n r y lo hi : Nat} {b0 e0 : Nat → Nat} {s : Nat → Int32} {up par rk dp : Nat → Nat} {pr : Nat → Int32} {σ τ : gj_S} (hs : smC lo hi σ τ) (hb : y + 15 < lo ∨ hi < y + 1) (h : cL n r b0 e0 s up par rk dp pr y σ) : cL n r b0 e0 s up par rk dp pr y τ := by
  obtain ⟨h1, h2, h3, h4, h5, h6⟩ := h
  refine ⟨h1, smC_pm hs (by omega) h2, h3, ?_, h5, h6⟩
  unfold t8 at h4 ⊢
  rw [hs.1 (y + 10 + 1) (by omega), hs.1 (y + 10 + 2) (by omega), hs.1 (y + 10 + 3) (by omega), hs.1 (y + 10 + 4) (by omega)]
  exact h4
theorem dec_bI {p : Prop} [Decidable p] : (if p then some (1 : Int32) else some (0 : Int32)) = some (bI (decide p)) := by
  by_cases q : p
  · simp [bI, q]
  · simp [bI, q]
/-- an end of a dock's way up is the dock just if its beginning isn't -/
theorem tj_end {n m : Nat} {bg en : Nat → Nat} {T : Nat → Prop} {up par rk : Nat → Nat} (h : tc_r n m bg en T up par rk) {d : Nat} (hd : d < n) : decide (en (up d) = d) = !decide (bg (up d) = d) := by
  obtain ⟨a1, a2, a3, a4, a5⟩ := h.2.2.1 d hd
  have hpd : par d ≠ d := by intro e; rw [e] at a5; omega
  rcases a3 with ⟨q1, q2⟩ | ⟨q1, q2⟩
  · have : ¬ en (up d) = d := by rw [q2]; exact hpd
    simp [q1, this]
  · have : ¬ bg (up d) = d := by rw [q2]; exact hpd
    simp [q1, this]
theorem c8_l111 {n r y : Nat} {b0 e0 : Nat → Nat} {s : Nat → Int32} {up par rk dp : Nat → Nat} {pr : Nat → Int32} {σ : gj_S} (h : cL n r b0 e0 s up par rk dp pr y σ) {A B i j : Nat} (hA : A < n ∨ A = 8) (ht : tap par A B i j) (hi : i ≤ 8) (h0 : σ.1 (y + 16) 0 = 0) {b3 b4 b6 b7 : Int32} :
    TP (gj_lp (fb_X3_trace_l111 (y + 16) (y + 1) (y + 10) b3 b4 b6 b7) 5000 (nI A, nI i - 1, σ)) (fun z => smC (y + 16) (y + 18) σ z ∧ z.1 (y + 16) 0 = nI i ∧ z.1 (y + 16) 1 = σ.1 (y + 16) 1 ∧ ∀ k, k < i → z.1 (y + 17) k = nI (up (it par (i - 1 - k) A)) ∧ z.1 (y + 18) k = bI (!decide (vb r b0 s (up (it par (i - 1 - k) A)) = it par (i - 1 - k) A))) := by
  have hn := h.1.1
  have hr := h.1.2.1
  have hC := h.2.2.1.1.1
  refine tp_lp (I := fun a => ∃ t, t ≤ i ∧ a.1 = nI (it par t A) ∧ a.2.1 = nI (i - t) - 1 ∧ smC (y + 16) (y + 18) σ a.2.2 ∧ a.2.2.1 (y + 16) 0 = nI t ∧ a.2.2.1 (y + 16) 1 = σ.1 (y + 16) 1 ∧ ∀ k, i - t ≤ k → k < i → a.2.2.1 (y + 17) k = nI (up (it par (i - 1 - k) A)) ∧ a.2.2.1 (y + 18) k = bI (!decide (vb r b0 s (up (it par (i - 1 - k) A)) = it par (i - 1 - k) A))) (fun a => (a.2.1 + 1).toNatClampNeg) ?_ 5000 _ ⟨0, by omega, rfl, rfl, smC_rf, h0, rfl, fun k h1 h2 => by omega⟩ (by
    dsimp only
    have : nI i - 1 + 1 = nI i := by
      apply Int32.toBitVec_inj.mp
      simp
    rw [this, nI_clamp (by omega)]
    omega)
  rintro ⟨x, ki, τ⟩ ⟨t, h1, h2, h3, h4, h5, h6, h7⟩
  dsimp only at h2 h3 h4 h5 h6 h7
  subst h2
  subst h3
  unfold fb_X3_trace_l111
  dsimp only
  by_cases e : t = i
  · subst e
    refine tp_t (by rw [Nat.sub_self]; decide) (tp_some ⟨h4, h5, h6, fun k hk => h7 k (by omega) hk⟩)
  · obtain ⟨c, hc⟩ : ∃ c, i - t = c + 1 := ⟨i - t - 1, by omega⟩
    rw [hc, nI_pred]
    have hd : it par t A < n := tap_docks hC hA ht (by omega)
    have h' := smC_cL h4 (.inl (by omega)) h
    have gx : gj_in (nI (it par t A)) 9 := gi (by omega) (by omega)
    have cx : (nI (it par t A)).toNatClampNeg = it par t A := nI_clamp (by omega)
    have hu1 : τ.1 (y + 10 + 1) (it par t A) = nI (up (it par t A)) := (c8_par h' hd).2
    have hum := (hC.2.2.1 _ hd).1
    have he3 : τ.1 (y + 1 + 3) (up (it par t A)) = nI (ve r e0 s (up (it par t A))) := (h'.2.1.2.2.2.2.2 _ hum).2.1
    have hpe := ge_pl (s := s) h.1 hum
    refine tp_f (nI_pos (by omega)) (tp_f (show ¬ nI (it par t A) = 8 from fun q => by have := (nI_eq (b := 8) (by omega) (by omega)).mp q; omega) (tp_t gx ?_))
    simp only [cx, hu1, nI_clamp (show up (it par t A) < 2 ^ 31 by omega), he3]
    refine tp_t (gi (by omega) (by omega)) (tp_beq (x := bI (!decide (vb r b0 s (up (it par t A)) = it par t A))) ?_ ?_)
    · rw [← tj_end hC hd]
      have : (nI (ve r e0 s (up (it par t A))) = nI (it par t A)) ↔ (ve r e0 s (up (it par t A)) = it par t A) := nI_eq (by omega) (by omega)
      simp only [this]
      exact dec_bI
    · obtain ⟨τ', p1, p2, p3, p4, p5⟩ := c8_put (q := y + 16) (k := c) (v := nI (up (it par t A))) (b := !decide (vb r b0 s (up (it par t A)) = it par t A)) (σ := τ) (by omega)
      refine tp_beq p1 (tp_t gx ?_)
      have h'' := smC_cL p2 (.inl (by omega)) h'
      refine tp_some ⟨⟨t + 1, by omega, ?_, ?_, smC_tr h4 p2, ?_, ?_, fun k k1 k2 => ?_⟩, ?_⟩
      · dsimp only
        rw [(c8_par h'' hd).1, it_s]
      · dsimp only
        rw [show i - (t + 1) = c by omega]
        apply Int32.toBitVec_inj.mp
        simp [BitVec.sub_eq_add_neg]
      · dsimp only
        rw [p5]
        show τ.1 (y + 16) 0 + 1 = _
        rw [h5, nI_1]
      · dsimp only
        rw [p5]
        exact h6
      · dsimp only
        rw [show y + 17 = y + 16 + 1 from rfl, show y + 18 = y + 16 + 2 from rfl, p3, p4]
        have ei : i - 1 - c = t := by omega
        show (if k = c then _ else τ.1 (y + 16 + 1) k) = _ ∧ (if k = c then _ else τ.1 (y + 16 + 2) k) = _
        by_cases q : k = c
        · subst q
          rw [if_pos rfl, if_pos rfl, ei]
          exact ⟨rfl, rfl⟩
        · rw [if_neg q, if_neg q]
          exact h7 k (by omega) k2
      · dsimp only
        have e1 : nI c + -1 + 1 = nI c := by
          rw [Int32.add_assoc, show (-1 : Int32) + 1 = 0 by decide, Int32.add_zero]
        rw [e1, nI_1, nI_clamp (by omega), nI_clamp (by omega)]
        omega
theorem c8_l191 {n r y : Nat} {b0 e0 : Nat → Nat} {s : Nat → Int32} {up par rk dp : Nat → Nat} {pr : Nat → Int32} {σ : gj_S} (h : cL n r b0 e0 s up par rk dp pr y σ) {A B i j : Nat} (hB : B < n ∨ B = 8) (ht : tap par A B i j) (hi : i ≤ 8) (hj : j ≤ 8) (h0 : σ.1 (y + 16) 0 = nI (i + 1)) (ha : σ.1 (y + 16) 1 = nI (it par i A)) {b3 : Int32} :
    TP (gj_lp (fb_X3_trace_l191 (y + 16) (y + 1) (y + 10) b3) 5000 (nI B, nI (i + 1), σ)) (fun z => smC (y + 16) (y + 18) σ z ∧ z.1 (y + 16) 0 = nI (i + 1 + j) ∧ z.1 (y + 16) 1 = nI (it par i A) ∧ (∀ k, k ≤ i → z.1 (y + 17) k = σ.1 (y + 17) k ∧ z.1 (y + 18) k = σ.1 (y + 18) k) ∧ ∀ t, t < j → z.1 (y + 17) (i + 1 + t) = nI (up (it par t B)) ∧ z.1 (y + 18) (i + 1 + t) = bI (decide (vb r b0 s (up (it par t B)) = it par t B))) := by
  have hn := h.1.1
  have hr := h.1.2.1
  have hC := h.2.2.1.1.1
  have ht' : tap par B A j i := ⟨ht.1.symm, tp0_sw ht.2⟩
  refine tp_lp (I := fun a => ∃ t, t ≤ j ∧ a.1 = nI (it par t B) ∧ a.2.1 = nI (i + 1 + t) ∧ smC (y + 16) (y + 18) σ a.2.2 ∧ a.2.2.1 (y + 16) 0 = nI (i + 1 + t) ∧ a.2.2.1 (y + 16) 1 = nI (it par i A) ∧ (∀ k, k ≤ i → a.2.2.1 (y + 17) k = σ.1 (y + 17) k ∧ a.2.2.1 (y + 18) k = σ.1 (y + 18) k) ∧ ∀ u, u < t → a.2.2.1 (y + 17) (i + 1 + u) = nI (up (it par u B)) ∧ a.2.2.1 (y + 18) (i + 1 + u) = bI (decide (vb r b0 s (up (it par u B)) = it par u B))) (fun a => i + 1 + j - a.2.1.toNatClampNeg) ?_ 5000 _ ⟨0, by omega, rfl, rfl, smC_rf, h0, ha, fun _ _ => ⟨rfl, rfl⟩, fun u hu => absurd hu (Nat.not_lt_zero _)⟩ (by dsimp only; omega)
  rintro ⟨x, ki, τ⟩ ⟨t, h1, h2, h3, h4, h5, h6, h7, h8⟩
  dsimp only at h2 h3 h4 h5 h6 h7 h8
  subst h2
  subst h3
  unfold fb_X3_trace_l191
  dsimp only
  rw [h6]
  by_cases e : t = j
  · subst e
    by_cases q17 : 17 ≤ i + 1 + t
    · exact tp_t (by rw [show (17 : Int32) = nI 17 from rfl]; exact nI_le q17 (by omega)) (tp_some ⟨h4, h5, h6, h7, h8⟩)
    · exact tp_f (by rw [show (17 : Int32) = nI 17 from rfl]; exact nI_ge (by omega) (by omega)) (tp_t (by rw [ht.1]) (tp_some ⟨h4, h5, h6, h7, h8⟩))
  · have hd : it par t B < n := tap_docks hC hB ht' (by omega)
    have hne : it par t B ≠ it par i A := fun q => ht.2.2 t (by omega) i q
    have hpi := it_pl hC j B hB
    rw [← ht.1] at hpi
    have h' := smC_cL h4 (.inl (by omega)) h
    have gx : gj_in (nI (it par t B)) 9 := gi (by omega) (by omega)
    have cx : (nI (it par t B)).toNatClampNeg = it par t B := nI_clamp (by omega)
    have hu1 : τ.1 (y + 10 + 1) (it par t B) = nI (up (it par t B)) := (c8_par h' hd).2
    have hum := (hC.2.2.1 _ hd).1
    have he3 : τ.1 (y + 1 + 2) (up (it par t B)) = nI (vb r b0 s (up (it par t B))) := (h'.2.1.2.2.2.2.2 _ hum).1
    have hpe := gb_pl (s := s) h.1 hum
    refine tp_f (by rw [show (17 : Int32) = nI 17 from rfl]; exact nI_ge (by omega) (by omega)) (tp_f (fun q => hne ((nI_eq (by omega) (by omega)).mp q)) (tp_f (show ¬ nI (it par t B) = 8 from fun q => by have := (nI_eq (b := 8) (by omega) (by omega)).mp q; omega) (tp_t gx ?_)))
    simp only [cx, hu1, nI_clamp (show up (it par t B) < 2 ^ 31 by omega), he3]
    refine tp_t (gi (by omega) (by omega)) (tp_beq (x := bI (decide (vb r b0 s (up (it par t B)) = it par t B))) ?_ ?_)
    · have : (nI (vb r b0 s (up (it par t B))) = nI (it par t B)) ↔ (vb r b0 s (up (it par t B)) = it par t B) := nI_eq (by omega) (by omega)
      simp only [this]
      exact dec_bI
    · obtain ⟨τ', p1, p2, p3, p4, p5⟩ := c8_put (q := y + 16) (k := i + 1 + t) (v := nI (up (it par t B))) (b := decide (vb r b0 s (up (it par t B)) = it par t B)) (σ := τ) (by omega)
      refine tp_beq p1 (tp_t gx ?_)
      have h'' := smC_cL p2 (.inl (by omega)) h'
      refine tp_some ⟨⟨t + 1, by omega, ?_, nI_1 _, smC_tr h4 p2, ?_, ?_, fun k hk => ?_, fun u hu => ?_⟩, ?_⟩
      · dsimp only
        rw [(c8_par h'' hd).1, it_s]
      · dsimp only
        rw [p5]
        show τ.1 (y + 16) 0 + 1 = _
        rw [h5, nI_1]
        rfl
      · dsimp only
        rw [p5]
        exact h6
      · dsimp only
        rw [show y + 17 = y + 16 + 1 from rfl, show y + 18 = y + 16 + 2 from rfl, p3, p4]
        show (if k = i + 1 + t then _ else τ.1 (y + 16 + 1) k) = _ ∧ (if k = i + 1 + t then _ else τ.1 (y + 16 + 2) k) = _
        rw [if_neg (by omega), if_neg (by omega)]
        exact h7 k hk
      · dsimp only
        rw [show y + 17 = y + 16 + 1 from rfl, show y + 18 = y + 16 + 2 from rfl, p3, p4]
        show (if i + 1 + u = i + 1 + t then _ else τ.1 (y + 16 + 1) (i + 1 + u)) = _ ∧ (if i + 1 + u = i + 1 + t then _ else τ.1 (y + 16 + 2) (i + 1 + u)) = _
        by_cases q : u = t
        · subst q
          rw [if_pos rfl, if_pos rfl]
          exact ⟨rfl, rfl⟩
        · rw [if_neg (by omega), if_neg (by omega)]
          exact h8 u (by omega)
      · dsimp only
        rw [nI_1, nI_clamp (by omega), nI_clamp (by omega)]
        omega
