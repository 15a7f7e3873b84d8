/-! ===== spare ===== -/
/-- room of the way up of d for a gift that is more (else less) -/
def vq (r : Nat) (b0 : Nat → Nat) (s : Nat → Int32) (up : Nat → Nat) (more : Bool) (d : Nat) : Int32 := if decide (vb r b0 s (up d) = d) = more then (if up d < r then s (24 + up d) - s (50 + up d) else 1000000) else s (50 + up d)
theorem bI_inj {a b : Bool} : bI a = bI b ↔ a = b := by cases a <;> cases b <;> decide
theorem c8_roomUp {n r y : Nat} {b0 e0 : Nat → Nat} {s : Nat → Int32} {up par rk dp : Nat → Nat} {pr : Nat → Int32} {σ : gj_S} (h : cL n r b0 e0 s up par rk dp pr y σ) (hh : ∀ w, w < r → ∃ c, c ≤ 999 ∧ s (24 + w) = nI c) {d : Nat} (hd : d < n) (more : Bool) : f_X7_roomUp y (nI d) (bI more) σ = some (vq r b0 s up more d) := by
  have hn := h.1.1
  have hr := h.1.2.1
  have hw := (h.2.2.1.1.1.2.2.1 d hd).1
  have hpb := gb_pl (s := s) h.1 hw
  have eu : σ.1 (y + 10 + 1) d = nI (up d) := (c8_par h hd).2
  have eb' : σ.1 (y + 1 + 2) (up d) = nI (vb r b0 s (up d)) := (h.2.1.2.2.2.2.2 _ hw).1
  have e1 : (if nI (vb r b0 s (up d)) = nI d then some (1 : Int32) else some (0 : Int32)) = some (bI (decide (vb r b0 s (up d) = d))) := by
    have : (nI (vb r b0 s (up d)) = nI d) ↔ (vb r b0 s (up d) = d) := nI_eq (by omega) (by omega)
    simp only [this]
    exact dec_bI
  have r1 : f_X1_roomOf (y + 1) (nI (up d)) 1 σ = some (if up d < r then s (24 + up d) - s (50 + up d) else 1000000) := c8_room h.1 h.2.1 hh (al := true) hw
  have r0 : f_X1_roomOf (y + 1) (nI (up d)) 0 σ = some (s (50 + up d)) := c8_room h.1 h.2.1 hh (al := false) hw
  unfold f_X7_roomUp
  rw [if_pos (gi (show d < 9 by omega) (by omega))]
  simp only [nI_clamp (show d < 2 ^ 31 by omega), eu, nI_clamp (show up d < 2 ^ 31 by omega), eb']
  rw [if_pos (gi (show up d < 24 by omega) (by omega)), e1]
  dsimp only [Option.bind_some]
  rw [r1, r0]
  unfold vq
  by_cases q : decide (vb r b0 s (up d) = d) = more
  · rw [if_pos (bI_inj.mpr q), if_pos q]
    rfl
  · rw [if_neg (fun e => q (bI_inj.mp e)), if_neg q]
    rfl
theorem r9_spareOf {n r : Nat} {b0 e0 : Nat → Nat} {up par rk dp : Nat → Nat} {pr : Nat → Int32} {τ : gj_S} (h : rL n r b0 e0 up par rk dp pr τ) {d : Nat} (hd : d < n) (less : Bool) : f_X9_spareOf (nI d) (bI less) τ = some (vq r b0 (τ.1 198) up (!less) d) := by
  have hn := h.1.1
  have hr := h.1.2.1
  have hw := (h.2.1.1.1.2.2.1 d hd).1
  have eu : τ.1 203 d = nI (up d) := (h.2.2.2.2.2 d hd).1
  have g50 : (50 : Int32) + nI (up d) = nI (50 + up d) := by rw [show (50 : Int32) = nI 50 from rfl, nI_add]
  have g24 : (24 : Int32) + nI (up d) = nI (24 + up d) := by rw [show (24 : Int32) = nI 24 from rfl, nI_add]
  have gi5 : gj_in (nI (50 + up d)) 180 := gi (by omega) (by omega)
  have gi2 : gj_in (nI (24 + up d)) 180 := gi (by omega) (by omega)
  have g02 : gj_in (0 : Int32) 2 := gj0 (by decide)
  have er : τ.1 191 0 = nI r := h.1.2.2.2.1
  unfold f_X9_spareOf
  rw [if_pos (gi (show d < 9 by omega) (by omega)), r9_upw h hd]
  simp only [Option.bind_some, nI_clamp (show d < 2 ^ 31 by omega), eu, g50, g24, nI_clamp (show 50 + up d < 2 ^ 31 by omega), nI_clamp (show 24 + up d < 2 ^ 31 by omega), rd0, er, if_pos gi5, if_pos gi2, if_pos g02]
  unfold vq
  have e2 : ((if vb r b0 (τ.1 198) (up d) = d then (1 : Int32) else 0) = bI less) ↔ ¬ (decide (vb r b0 (τ.1 198) (up d) = d) = !less) := by
    by_cases q : vb r b0 (τ.1 198) (up d) = d <;> cases less <;> simp [q, bI]
  by_cases q : decide (vb r b0 (τ.1 198) (up d) = d) = !less
  · rw [if_neg (fun e => e2.mp e q), if_pos q]
    by_cases q2 : up d < r
    · rw [if_neg (nI_ge q2 (by omega)), if_pos q2]
    · rw [if_pos (nI_le (by omega) (by omega)), if_neg q2]
  · rw [if_pos (e2.mpr q), if_neg q]
/-- the least on the way up -/
def lw (par : Nat → Nat) (q : Nat → Int32) : Nat → Nat → Int32 → Int32
  | 0, _, c => c
  | k + 1, x, c => if x = 8 then c else lw par q k (par x) (if q x < c then q x else c)
theorem c8_lw {n r y : Nat} {b0 e0 : Nat → Nat} {s : Nat → Int32} {up par rk dp : Nat → Nat} {pr : Nat → Int32} {σ : gj_S} (h : cL n r b0 e0 s up par rk dp pr y σ) (hh : ∀ w, w < r → ∃ c, c ≤ 999 ∧ s (24 + w) = nI c) (more : Bool) : ∀ (k x i : Nat) (c : Int32), dp x = k → (x < n ∨ x = 8) → i + k ≤ 8 → ∀ fu, k < fu → gj_lp (fb_X7_leastRoomUp_l9 y (bI more) σ) fu (c, nI x, nI i) = some (lw par (vq r b0 s up more) k x c)
  | k, x, i, c, hk, hx, hi, fu, hfu => by
    have hn := h.1.1
    obtain ⟨fu', rfl⟩ : ∃ y, fu = y + 1 := ⟨fu - 1, by omega⟩
    have n9 : ¬ (9 : Int32) ≤ nI i := by rw [show (9 : Int32) = nI 9 from rfl]; exact nI_ge (by omega) (by omega)
    by_cases q2 : x = 8
    · subst q2
      have h8 := h.2.2.1.2.1.1
      obtain rfl : k = 0 := by omega
      rw [gj_lp_e (b := c) (by unfold fb_X7_leastRoomUp_l9; dsimp only; rw [if_neg n9, if_pos (show nI 8 = 8 from rfl)])]
      rfl
    · have hxn : x < n := by omega
      have hdp := h.2.2.1.2.1.2 x hxn
      cases k with
      | zero => omega
      | succ k =>
        rw [gj_lp_g (a' := (if vq r b0 s up more x < c then vq r b0 s up more x else c, nI (par x), nI (i + 1))) (by
          unfold fb_X7_leastRoomUp_l9
          dsimp only
          rw [if_neg n9, if_neg (show ¬ nI x = 8 from fun e => q2 ((nI_eq (b := 8) (by omega) (by omega)).mp e)), c8_roomUp h hh hxn]
          dsimp only [Option.bind_some]
          rw [if_pos (gi (show x < 9 by omega) (by omega)), nI_clamp (by omega), (c8_par h hxn).1, nI_1])]
        rw [c8_lw h hh more k (par x) (i + 1) _ (by omega) (h.2.2.1.1.1.2.2.1 x hxn).2.2.2.1 (by omega) fu' (by omega)]
        show _ = some (if x = 8 then c else lw par (vq r b0 s up more) k (par x) (if vq r b0 s up more x < c then vq r b0 s up more x else c))
        rw [if_neg q2]
  termination_by k => k
theorem r9_lw {n r : Nat} {b0 e0 : Nat → Nat} {up par rk dp : Nat → Nat} {pr : Nat → Int32} {τ : gj_S} (h : rL n r b0 e0 up par rk dp pr τ) (less : Bool) : ∀ (k x : Nat) (c : Int32), dp x = k → (x < n ∨ x = 8) → ∀ fu, k < fu → gj_lp (fb_X9_spare_l26 (bI less) τ) fu (c, nI x) = some (lw par (vq r b0 (τ.1 198) up (!less)) k x c)
  | k, x, c, hk, hx, fu, hfu => by
    have hn := h.1.1
    obtain ⟨fu', rfl⟩ : ∃ y, fu = y + 1 := ⟨fu - 1, by omega⟩
    by_cases q2 : x = 8
    · subst q2
      have h8 := h.2.1.2.1.1
      obtain rfl : k = 0 := by omega
      rw [gj_lp_e (b := c) (by unfold fb_X9_spare_l26; dsimp only; rw [if_pos (show nI 8 = 8 from rfl)])]
      rfl
    · have hxn : x < n := by omega
      have hdp := h.2.1.2.1.2 x hxn
      cases k with
      | zero => omega
      | succ k =>
        rw [gj_lp_g (a' := (if vq r b0 (τ.1 198) up (!less) x < c then vq r b0 (τ.1 198) up (!less) x else c, nI (par x))) (by
          unfold fb_X9_spare_l26
          dsimp only
          rw [if_neg (show ¬ nI x = 8 from fun e => q2 ((nI_eq (b := 8) (by omega) (by omega)).mp e)), r9_spareOf h hxn, r9_above h hxn]
          dsimp only [Option.bind_some]
          by_cases q3 : c ≤ vq r b0 (τ.1 198) up (!less) x
          · rw [if_pos q3, if_neg (by rw [i32_lt_iff]; rw [i32_le_iff] at q3; omega)]
            rfl
          · rw [if_neg q3, if_pos (by rw [i32_lt_iff]; rw [i32_le_iff] at q3; omega)]
            rfl)]
        rw [r9_lw h less k (par x) _ (by omega) (h.2.1.1.1.2.2.1 x hxn).2.2.2.1 fu' (by omega)]
        show _ = some (if x = 8 then c else lw par (vq r b0 (τ.1 198) up (!less)) k (par x) (if vq r b0 (τ.1 198) up (!less) x < c then vq r b0 (τ.1 198) up (!less) x else c))
        rw [if_neg q2]
  termination_by k => k
theorem rc_c {K : Nat} {c : Int32} {F : Int32 → Option Int32} {G : Int32 → Option (Int32 × gj_S)} (h : ∀ b : Bool, ∃ v, F (bI b) = some v ∧ TP (G (bI b)) (fun x => x.1 = v ∧ REL (K + 100) x.2)) : ∃ τ, ((if c = 0 then some (0 : Int32) else some (1 : Int32) : Option Int32).bind fun z1 => ((F z1).bind fun x2 => (if c = 0 then ((G 0).bind fun x3 => (if x2 = x3.1 then some x3.2 else none)) else ((G 1).bind fun x4 => (if x2 = x4.1 then some x4.2 else none))))) = some τ ∧ REL (K + 100) τ := by
  by_cases q : c = 0
  · obtain ⟨v, e, ⟨w, t⟩, e2, rfl, e3⟩ := h false
    refine ⟨t, ?_, e3⟩
    rw [if_pos q]
    dsimp only [Option.bind_some]
    rw [show F 0 = some w from e]
    dsimp only [Option.bind_some]
    rw [if_pos q, show G 0 = some (w, t) from e2]
    exact if_pos rfl
  · obtain ⟨v, e, ⟨w, t⟩, e2, rfl, e3⟩ := h true
    refine ⟨t, ?_, e3⟩
    rw [if_neg q]
    dsimp only [Option.bind_some]
    rw [show F 1 = some w from e]
    dsimp only [Option.bind_some]
    rw [if_neg q, show G 1 = some (w, t) from e2]
    exact if_pos rfl
theorem k_22 {K : Nat} {σ : gj_S} (hR : REL K σ) (c1 c2 c3 c4 c5 : Int32) : ∃ τ, gl_22 c1 c2 c3 c4 c5 σ = some τ ∧ REL (K + 100) τ := by
  obtain ⟨n, r, b0, e0, hS, ⟨hB1, up, par, rk, dp, pr, hT, ht⟩, -⟩ := id hR
  have hn := hS.1
  have hg := rS_g hS
  obtain ⟨P, hPK, hP, hf, hp⟩ := id hB1
  have hL := rel_cL hS hB1 hT ht
  have h0 : smX σ (gj_sI σ 188 (upd (σ.1 188) 0 0)) := smX_t
  have ed := c8_hasDock hg hp.1 c1
  have ed9 := r9_isDock (smX_S h0 hS) c1
  have hh := hP.2.2.2.2.2.2.1
  refine rc_c (F := fun b => f_X8_spare c1 b σ) (G := fun b => f_X9_spare c1 b σ) (fun less => ?_)
  cases hin : inR c1 n with
  | false =>
    rw [hin] at ed ed9
    refine ⟨-1, ?_, ?_⟩
    · unfold f_X8_spare
      rw [ed]
      rfl
    · unfold f_X9_spare
      rw [ed9]
      exact tp_some ⟨rfl, REL_mono (REL_fr hR (frK_X h0)) (by omega)⟩
  | true =>
    rw [hin] at ed ed9
    obtain ⟨d, hd, rfl⟩ := inR_of hin
    have hdp := cL_dp hL (.inl hd)
    refine ⟨lw par (vq r b0 (σ.1 198) up (!less)) (dp d) d 1000000, ?_, ?_⟩
    · have e := c8_lw hL hh (!less) (dp d) d 0 1000000 rfl (.inl hd) (by omega) 5000 (by omega)
      rw [show nI 0 = 0 from rfl] at e
      unfold f_X8_spare
      rw [ed]
      dsimp only [Option.bind_some]
      rw [if_neg (show ¬ bI true = 0 by decide)]
      cases less with
      | true =>
        rw [if_neg (show ¬ bI true = 0 by decide)]
        unfold f_X7_leastRoomUp
        rw [show (0 : Int32) = bI (!true) from rfl] at e ⊢
        rw [e]
        rfl
      | false =>
        rw [if_pos (show bI false = 0 by decide)]
        unfold f_X7_leastRoomUp
        rw [show bI (!false) = 1 from rfl] at e
        rw [e]
        rfl
    · unfold f_X9_spare
      rw [ed9]
      refine tp_beq rfl (tp_f (show ¬ bI true = 0 by decide) ?_)
      refine tp_bind (r9_lay (smX_S h0 hS) (by rw [smX_s h0]; exact hT)) (fun z hz => ?_)
      have ez : z.1 198 = σ.1 198 := by rw [sm9_s hz.1, smX_s h0]
      rw [r9_lw hz.2 less (dp d) d 1000000 rfl (.inl hd) 5000 (by omega), ez]
      exact tp_some ⟨rfl, REL_mono (REL_fr hR (frK_X (smX_tr h0 (smX_9 hz.1)))) (by omega)⟩
