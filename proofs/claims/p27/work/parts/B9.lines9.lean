/-! ===== text: lines, as the reference reads them ===== -/
def RS9 (y : Nat → Int32) (N : Nat) (σ : gj_S) (res : Nat ⊕ (pA × Nat)) (z : gj_S) : Prop := match res with | .inl F => FL9 F z ∧ FR9 σ z | .inr r => rd9 y N z ∧ r.2 ≤ N ∧ TK9 y N r.2 z ∧ z.1 188 9 = 0 ∧ P9 r.1 z ∧ FR9 σ z
theorem FL9_s {F : Nat} {z t : gj_S} (h : FL9 F z) (h1 : t.1 188 9 = z.1 188 9) (h2 : t.1 188 10 = z.1 188 10) : FL9 F t := by
  unfold FL9 at h ⊢
  rw [h1, h2]
  exact h
theorem r9_nx {y : Nat → Int32} {N p : Nat} {σ : gj_S} (hr : rd9 y N σ) (hp : p ≤ N) (h : σ.1 188 5 = nI (te y N p)) : TP (f_X9_goesOn σ) (fun z => fT9 σ z ∧ rd9 y N z ∧ te y N p ≤ N ∧ TK9 y N (te y N p) z) := tp_mono (r9_tok hr (te_N hp).2 h) (fun z hz => ⟨hz.1, fT9_rd hz.1 hr, (te_N hp).2, hz.2⟩)
theorem r9_m1 {b k : Int32} {m : Nat} {σ : gj_S} (hf : σ.1 188 9 = 0) (hb : b = 1) (hk : k = nI m) (h1 : 1 ≤ m) (h2 : m ≤ 5) : f_X9_must b k σ = some (1, σ) := by
  have := r9_must (k := m) true hf h1 h2
  rw [if_pos rfl] at this
  rw [hb, hk]
  exact this
theorem r9_m0 {b k : Int32} {m : Nat} {σ : gj_S} (hf : σ.1 188 9 = 0) (hb : b = 0) (hk : k = nI m) (h1 : 1 ≤ m) (h2 : m ≤ 5) : f_X9_must b k σ = some (0, flt9 σ m) := by
  have := r9_must (k := m) false hf h1 h2
  rw [if_neg (by decide)] at this
  rw [hb, hk]
  exact this
theorem r9_block {y : Nat → Int32} {N p : Nat} {A : pA} {σ : gj_S} (hr : rd9 y N σ) (hp : p ≤ N) (h : TK9 y N p σ) (hf : σ.1 188 9 = 0) (hP : P9 A σ) : TP (f_X9_blockLine σ) (fun z => RS9 y N σ (linB y N A p (te y N p)) z) := by
  unfold f_X9_blockLine linB
  rw [hP.2.2.2.1]
  cases hb : A.2.2.2.2.2.2 with
  | true =>
    rw [if_pos (show true = true from rfl)]
    refine tp_beq (x := 0) (by rw [if_neg (by decide)]) (tp_beq (r9_m0 (m := 2) hf rfl rfl (by omega) (by omega)) (tp_t rfl (tp_some ⟨FL9_F h (by omega) (by omega), FR9_F⟩)))
  | false =>
    rw [if_neg (show ¬ false = true by decide)]
    refine tp_beq (x := 1) (by rw [if_pos (by decide)]) (tp_beq (r9_m1 (m := 2) hf rfl rfl (by omega) (by omega)) (tp_f (show ¬ (1 : Int32) = 0 by decide) ?_))
    dsimp only
    have e3 : (gj_sI σ 188 (upd (σ.1 188) 20 1)).1 188 3 = σ.1 188 3 := by rw [sI_eq, up_ne (by decide)]
    have e5 : (gj_sI σ 188 (upd (σ.1 188) 20 1)).1 188 5 = σ.1 188 5 := by rw [sI_eq, up_ne (by decide)]
    have e9 : (gj_sI σ 188 (upd (σ.1 188) 20 1)).1 188 9 = σ.1 188 9 := by rw [sI_eq, up_ne (by decide)]
    refine tp_bind (r9_nx (rd9_c hr e3 (sI_ne (by decide))) hp (by rw [e5]; exact h.1)) (fun x3 hx3 => ?_)
    obtain ⟨f3, r3, hp1, t3⟩ := hx3
    generalize te y N p = p1 at *
    have fr3 : FR9 σ x3 := FR9_tr (FR9_O (by omega) (by omega)) (FR9_T f3)
    have h39 : x3.1 188 9 = 0 := by rw [f3.2.1 9 (by decide), e9]; exact hf
    rcases r9_nb (lo := 1) (hi := 24) r3 hp1 t3 h39 (by omega) (by omega) with ⟨a, b⟩ | ⟨a, b, c⟩
    · rw [if_pos a]
      refine tp_bind b (fun x4 hx4 => tp_some ?_)
      obtain ⟨v4, f4, t4⟩ := hx4
      have j : ∀ k, k ≠ 19 → (gj_sI x4.2 188 (upd (x4.2.1 188) 19 x4.1)).1 188 k = x4.2.1 188 k := fun k hk => by rw [sI_eq, up_ne hk]
      refine ⟨rd9_c (fT9_rd f4 r3) (j 3 (by decide)) (sI_ne (by decide)), (te_N hp1).2, ?_, by rw [j 9 (by decide), f4.2.1 9 (by decide)]; exact h39, ?_, FR9_tr fr3 (FR9_tr (FR9_T f4) (FR9_O (by omega) (by omega)))⟩
      · unfold TK9 at t4 ⊢
        rw [j 5 (by decide), j 4 (by decide), j 6 (by decide), j 7 (by decide)]
        exact t4
      · have k0 : ∀ c, c ≠ 188 → x4.2.1 c = σ.1 c := fun c hc => by rw [f4.1 c hc, f3.1 c hc, sI_ne hc]
        have kJ : ∀ c, c ≠ 188 → x4.2.2.1 c = σ.2.1 c := fun c hc => by rw [f4.2.2.1 c hc, f3.2.2.1 c hc]; rfl
        refine ⟨by rw [sI_ne (by decide), k0 190 (by decide)]; exact hP.1, by rw [sI_ne (by decide), k0 191 (by decide)]; exact hP.2.1, by rw [sI_eq, up_eq, v4]; rfl, ?_, fun d hd => ?_, fun w hw => ⟨?_, fun i hi => ?_⟩⟩
        · rw [j 20 (by decide), f4.2.1 20 (by decide), f3.2.1 20 (by decide), sI_eq, up_eq]
          rfl
        · rw [sI_ne (by decide), k0 193 (by decide)]
          show x4.2.2.1 192 (24 + d) = _ ∧ _
          rw [kJ 192 (by decide)]
          exact hP.2.2.2.2.1 d hd
        · show x4.2.2.1 192 (32 + w) = _
          rw [kJ 192 (by decide)]
          exact (hP.2.2.2.2.2 w hw).1
        · rw [sI_ne (by omega), k0 (194 + i) (by omega)]
          exact (hP.2.2.2.2.2 w hw).2 i hi
    · rw [if_neg a]
      refine tp_beq c (tp_some ⟨FL9_s (FL9_F t3 (k := nbF y N p1 1 24) (by omega) b) ?_ ?_, FR9_tr fr3 (FR9_tr FR9_F (FR9_O (by omega) (by omega)))⟩)
      · rw [sI_eq, up_ne (by decide)]
      · rw [sI_eq, up_ne (by decide)]
theorem r9_dock {y : Nat → Int32} {N p : Nat} {A : pA} {σ : gj_S} (hr : rd9 y N σ) (hp : p ≤ N) (h : TK9 y N p σ) (hf : σ.1 188 9 = 0) (hP : P9 A σ) (hW : WF A) : TP (f_X9_dockLine σ) (fun z => RS9 y N σ (linD y N A p (te y N p) (te y N (te y N p)) (te y N (te y N (te y N p)))) z) := by
  have hn8 := hW.1
  have g1 : gj_in (1 : Int32) 2 := gi (k := 1) (by omega) (by omega)
  have c1 : (1 : Int32).toNatClampNeg = 1 := by decide
  have e190 : σ.1 190 (Int32.toNatClampNeg 1) = nI A.1.1 := by rw [c1]; exact hP.1
  unfold f_X9_dockLine linD
  refine tp_t g1 ?_
  rw [e190]
  by_cases hn : 8 ≤ A.1.1
  · rw [if_pos hn]
    exact tp_beq (x := 0) (by rw [if_pos (show (8 : Int32) ≤ nI A.1.1 from nI_le (a := 8) hn (by omega))]) (tp_beq (r9_m0 (m := 5) hf rfl rfl (by omega) (by omega)) (tp_t rfl (tp_some ⟨FL9_F h (by omega) (by omega), FR9_F⟩)))
  · rw [if_neg hn]
    refine tp_beq (x := 1) (by rw [if_neg (show ¬ (8 : Int32) ≤ nI A.1.1 from nI_ge (b := 8) (by omega) (by omega))]) (tp_beq (r9_m1 (m := 5) hf rfl rfl (by omega) (by omega)) (tp_f (show ¬ (1 : Int32) = 0 by decide) ?_))
    dsimp only
    refine tp_bind (r9_nx hr hp h.1) (fun x4 hx4 => ?_)
    obtain ⟨f4, r4, hp1, t4⟩ := hx4
    have P4 := P9_T f4 hP
    have h49 : x4.1 188 9 = 0 := by rw [f4.2.1 9 (by decide)]; exact hf
    have e4 : x4.1 190 (Int32.toNatClampNeg 1) = nI A.1.1 := by rw [c1]; exact P4.1
    generalize te y N p = p1 at *
    refine tp_t g1 ?_
    rw [e4]
    rcases r9_nn (at' := A.1.1) r4 hp1 t4 h49 P4 hW (by omega) with ⟨a, b⟩ | ⟨a, b, c⟩
    · rw [if_pos a]
      refine tp_bind b (fun x6 hx6 => ?_)
      obtain ⟨f6, t6⟩ := hx6
      have hp2 := (te_N (y := y) hp1).2
      have fr6 : FR9 σ x6 := FR9_tr (FR9_T f4) (FR9_tr (FR9_J (by omega)) (FR9_T f6))
      have r6 : rd9 y N x6 := fT9_rd f6 (rd9_c r4 rfl rfl)
      have h69 : x6.1 188 9 = 0 := by rw [f6.2.1 9 (by decide)]; exact h49
      have nm6 : x6.2.1 192 (24 + A.1.1) = pk5 (tw y N p1) := by rw [f6.2.2.1 192 (by decide), sJ_eq, uL_eq]
      have P6 : P9 A x6 := by
        refine P9_T f6 ⟨P4.1, P4.2.1, P4.2.2.1, P4.2.2.2.1, fun d hd => ?_, fun w hw => ⟨?_, (P4.2.2.2.2.2 w hw).2⟩⟩
        · rw [sJ_eq, uL_ne (by omega)]
          exact P4.2.2.2.2.1 d hd
        · rw [sJ_eq, uL_ne (by omega)]
          exact (P4.2.2.2.2.2 w hw).1
      generalize te y N p1 = p2 at *
      -- the end of the line, with a gift
      have fin : ∀ (z8 : Int32 × gj_S) (p' : Nat), fT9 x6 z8.2 → p' ≤ N → TK9 y N p' z8.2 → TP (if (z8.2.1 188 9) = 0 then (if gj_in (1 : Int32) 2 then (if gj_in ((8 : Int32) + (z8.2.1 190 (Int32.toNatClampNeg (1 : Int32)))) 16 then (if gj_in (1 : Int32) 2 then (if gj_in (1 : Int32) 2 then ((some (gj_sI (gj_sI z8.2 193 (upd (z8.2.1 193) (Int32.toNatClampNeg ((8 : Int32) + (z8.2.1 190 (Int32.toNatClampNeg (1 : Int32))))) z8.1)) 190 (upd ((gj_sI z8.2 193 (upd (z8.2.1 193) (Int32.toNatClampNeg ((8 : Int32) + (z8.2.1 190 (Int32.toNatClampNeg (1 : Int32))))) z8.1)).1 190) (Int32.toNatClampNeg (1 : Int32)) (((gj_sI z8.2 193 (upd (z8.2.1 193) (Int32.toNatClampNeg ((8 : Int32) + (z8.2.1 190 (Int32.toNatClampNeg (1 : Int32))))) z8.1)).1 190 (Int32.toNatClampNeg (1 : Int32))) + (1 : Int32))))).bind fun s16 => some s16) else none) else none) else none) else none) else some z8.2) (fun z => RS9 y N σ (.inr (aD A (tw y N p1) z8.1, p')) z) := by
        intro z8 p' f8 hp' t8
        have P8' := P9_T f8 P6
        have e8 : z8.2.1 190 1 = nI A.1.1 := P8'.1
        have e88 : (8 : Int32) + nI A.1.1 = nI (8 + A.1.1) := by rw [show (8 : Int32) = nI 8 from rfl, nI_add]
        refine tp_t (by rw [f8.2.1 9 (by decide)]; exact h69) (tp_t g1 ?_)
        simp only [c1, e8, e88, nI_clamp (show 8 + A.1.1 < 2 ^ 31 by omega)]
        refine tp_t (gi (by omega) (by omega)) (tp_t g1 (tp_t g1 (tp_beq rfl (tp_some ?_))))
        obtain ⟨s, hs⟩ : ∃ s, s = gj_sI (gj_sI z8.2 193 (upd (z8.2.1 193) (8 + A.1.1) z8.1)) 190 (upd ((gj_sI z8.2 193 (upd (z8.2.1 193) (8 + A.1.1) z8.1)).1 190) 1 ((gj_sI z8.2 193 (upd (z8.2.1 193) (8 + A.1.1) z8.1)).1 190 1 + 1)) := ⟨_, rfl⟩
        rw [← hs]
        have cI : ∀ c, c ≠ 190 → c ≠ 193 → s.1 c = z8.2.1 c := fun c a b => by rw [hs, sI_ne a, sI_ne b]
        have c193 : s.1 193 = upd (z8.2.1 193) (8 + A.1.1) z8.1 := by rw [hs, sI_ne (by decide), sI_eq]
        have c190 : s.1 190 1 = nI (A.1.1 + 1) := by rw [hs, sI_eq, up_eq, sI_ne (by decide), P8'.1, nI_1]
        have cJ : s.2 = z8.2.2 := by rw [hs]; rfl
        have frs : FR9 z8.2 s := by
          rw [hs]
          exact FR9_tr (FR9_I (.inr (.inl rfl))) (FR9_I (.inl ⟨.inl rfl, rfl⟩))
        clear hs
        refine ⟨rd9_c (fT9_rd f8 r6) (by rw [cI 188 (by decide) (by decide)]) (cI 189 (by decide) (by decide)), hp', TK9_c t8 (cI 188 (by decide) (by decide)) (by rw [cJ]), by rw [cI 188 (by decide) (by decide), f8.2.1 9 (by decide)]; exact h69, ?_, FR9_tr fr6 (FR9_tr (FR9_T f8) frs)⟩
        refine ⟨c190, by rw [cI 191 (by decide) (by decide)]; exact P8'.2.1, by rw [cI 188 (by decide) (by decide)]; exact P8'.2.2.1, by rw [cI 188 (by decide) (by decide)]; exact P8'.2.2.2.1, fun d hd => ?_, fun w hw => ⟨by rw [cJ]; exact (P8'.2.2.2.2.2 w hw).1, fun i hi => by rw [cI (194 + i) (by omega) (by omega)]; exact (P8'.2.2.2.2.2 w hw).2 i hi⟩⟩
        have hd' : d < A.1.1 + 1 := hd
        rw [cJ, c193]
        show _ = pk5 (if d = A.1.1 then _ else _) ∧ (if 8 + d = 8 + A.1.1 then _ else _) = (if d = A.1.1 then _ else _)
        by_cases q : d = A.1.1
        · rw [if_pos q, if_pos (by omega), if_pos q, q]
          refine ⟨?_, rfl⟩
          rw [f8.2.2.1 192 (by decide)]
          exact nm6
        · rw [if_neg q, if_neg (by omega), if_neg q]
          exact P8'.2.2.2.2.1 d (by omega)
      have w1 := r9_is (i := 1) t6 h69 (by omega)
      have w2 := r9_is (i := 2) t6 h69 (by omega)
      have flt : ∀ z (g : Int32), FL9 (8 * tq y N (te y N p2) + nbF y N (te y N p2) 0 999) z → FR9 σ z → TP (if (z.1 188 9) = 0 then (if gj_in (1 : Int32) 2 then (if gj_in ((8 : Int32) + (z.1 190 (Int32.toNatClampNeg (1 : Int32)))) 16 then (if gj_in (1 : Int32) 2 then (if gj_in (1 : Int32) 2 then ((some (gj_sI (gj_sI z 193 (upd (z.1 193) (Int32.toNatClampNeg ((8 : Int32) + (z.1 190 (Int32.toNatClampNeg (1 : Int32))))) g)) 190 (upd ((gj_sI z 193 (upd (z.1 193) (Int32.toNatClampNeg ((8 : Int32) + (z.1 190 (Int32.toNatClampNeg (1 : Int32))))) g)).1 190) (Int32.toNatClampNeg (1 : Int32)) (((gj_sI z 193 (upd (z.1 193) (Int32.toNatClampNeg ((8 : Int32) + (z.1 190 (Int32.toNatClampNeg (1 : Int32))))) g)).1 190 (Int32.toNatClampNeg (1 : Int32))) + (1 : Int32))))).bind fun s16 => some s16) else none) else none) else none) else none) else some z) (fun z => RS9 y N σ (.inl (8 * tq y N (te y N p2) + nbF y N (te y N p2) 0 999)) z) := fun z g h1 h2 => tp_f (FL9_9 h1) (tp_some ⟨h1, h2⟩)
      refine tp_beq w1 ?_
      cases hb1 : isW y N p2 1 with
      | true =>
        rw [if_pos (show true = true ∨ isW y N p2 2 = true from .inl rfl), if_pos (show true = true from rfl)]
        rcases r9_bh (i := 1) (lo := 0) (hi := 999) r6 hp2 t6 h69 (by omega) (by omega) (by omega) with ⟨a1, a2, a3⟩ | ⟨a1, a2, a3, a4⟩ | ⟨a1, a2⟩
        · rw [if_pos a2]
          refine tp_bind (P := fun z8 => z8.1 = nI (tn y N (te y N p2)) ∧ fT9 x6 z8.2 ∧ TK9 y N (te y N (te y N p2)) z8.2) (tp_f (by decide) (tp_bind a3 (fun x hx => tp_some hx))) (fun z8 hz8 => ?_)
          obtain ⟨v8, f8, t8⟩ := hz8
          have := fin z8 _ f8 (te_N (te_N hp2).2).2 t8
          rw [v8] at this
          rw [v8]
          exact this
        · rw [if_neg a2]
          refine tp_bind (P := fun z8 => FL9 (8 * tq y N (te y N p2) + nbF y N (te y N p2) 0 999) z8.2 ∧ FR9 σ z8.2) (tp_f (by decide) (tp_bind a4 (fun x hx => ?_))) (fun z8 hz8 => flt z8.2 z8.1 hz8.1 hz8.2)
          obtain ⟨z, rfl, fz, tz⟩ := hx
          exact tp_some ⟨FL9_F tz (by omega) a3, FR9_tr fr6 (FR9_tr (FR9_T fz) FR9_F)⟩
        · rw [hb1] at a1
          cases a1
      | false =>
        rw [if_neg (show ¬ false = true by decide)]
        cases hb2 : isW y N p2 2 with
        | true =>
          rw [hb2] at w2
          rw [if_pos (show false = true ∨ true = true from .inr rfl)]
          rcases r9_bh (i := 2) (lo := 0) (hi := 999) r6 hp2 t6 h69 (by omega) (by omega) (by omega) with ⟨a1, a2, a3⟩ | ⟨a1, a2, a3, a4⟩ | ⟨a1, a2⟩
          · rw [if_pos a2]
            refine tp_bind (P := fun z8 => z8.1 = 0 - nI (tn y N (te y N p2)) ∧ fT9 x6 z8.2 ∧ TK9 y N (te y N (te y N p2)) z8.2) (tp_t rfl (tp_beq w2 (tp_f (by decide) (tp_bind a3 (fun x hx => tp_some ⟨by rw [hx.1], hx.2⟩))))) (fun z8 hz8 => ?_)
            obtain ⟨v8, f8, t8⟩ := hz8
            have := fin z8 _ f8 (te_N (te_N hp2).2).2 t8
            rw [v8] at this
            rw [v8]
            exact this
          · rw [if_neg a2]
            refine tp_bind (P := fun z8 => FL9 (8 * tq y N (te y N p2) + nbF y N (te y N p2) 0 999) z8.2 ∧ FR9 σ z8.2) (tp_t rfl (tp_beq w2 (tp_f (by decide) (tp_bind a4 (fun x hx => ?_))))) (fun z8 hz8 => flt z8.2 z8.1 hz8.1 hz8.2)
            obtain ⟨z, rfl, fz, tz⟩ := hx
            exact tp_some ⟨FL9_F tz (by omega) a3, FR9_tr fr6 (FR9_tr (FR9_T fz) FR9_F)⟩
          · rw [hb2] at a1
            cases a1
        | false =>
          rw [hb2] at w2
          rw [if_neg (show ¬ (false = true ∨ false = true) by decide)]
          refine tp_beq (x := ((0 : Int32), x6)) ?_ (fin (0, x6) p2 fT9_rf hp2 t6)
          rw [if_pos (by decide), w2]
          rfl
    · rw [if_neg a]
      refine tp_beq c ?_
      have e9 := FL9_9 (FL9_F (k := nmF y N p1 A) t4 (by omega) b)
      refine tp_beq (r9_isF e9) (tp_beq (x := ((0 : Int32), flt9 x4 (nmF y N p1 A))) ?_ (tp_f e9 (tp_some ⟨FL9_F t4 (by omega) b, FR9_tr (FR9_T f4) FR9_F⟩)))
      rw [if_pos rfl, r9_isF e9]
      rfl
