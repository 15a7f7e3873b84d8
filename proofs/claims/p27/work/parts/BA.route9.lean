/-! ===== text: a route's line, as the reference reads it ===== -/
def rt5 (k : Int32) (x15 : Int32 × gj_S) : Option gj_S := (if gj_in k 32 then (if ((gj_sI x15.2 197 (upd (x15.2.1 197) (Int32.toNatClampNeg k) x15.1)).1 188 9) = 0 then (if gj_in (1 : Int32) 2 then (if gj_in (1 : Int32) 2 then ((some (gj_sI (gj_sI x15.2 197 (upd (x15.2.1 197) (Int32.toNatClampNeg k) x15.1)) 191 (upd ((gj_sI x15.2 197 (upd (x15.2.1 197) (Int32.toNatClampNeg k) x15.1)).1 191) (Int32.toNatClampNeg (1 : Int32)) (((gj_sI x15.2 197 (upd (x15.2.1 197) (Int32.toNatClampNeg k) x15.1)).1 191 (Int32.toNatClampNeg (1 : Int32))) + (1 : Int32))))).bind fun s19 => some s19) else none) else none) else some (gj_sI x15.2 197 (upd (x15.2.1 197) (Int32.toNatClampNeg k) x15.1))) else none)
def rt4 (k : Int32) (x13 : Int32 × gj_S) : Option gj_S := (if gj_in k 32 then ((f_X9_behind 1005 (1 : Int32) (999 : Int32) (gj_sI x13.2 196 (upd (x13.2.1 196) (Int32.toNatClampNeg k) x13.1))).bind fun x15 => rt5 k x15) else none)
def rt3 (k : Int32) (x11 : Int32 × gj_S) : Option gj_S := (if gj_in k 32 then ((f_X9_behind 1004 (0 : Int32) (999 : Int32) (gj_sI x11.2 195 (upd (x11.2.1 195) (Int32.toNatClampNeg k) x11.1))).bind fun x13 => rt4 k x13) else none)
def rt2 (k : Int32) (x8 : Int32 × gj_S) : Option gj_S := (if gj_in k 32 then (if gj_in k 32 then ((f_X9_readDock ((gj_sI x8.2 194 (upd (x8.2.1 194) (Int32.toNatClampNeg k) x8.1)).1 194 (Int32.toNatClampNeg k)) (gj_sI x8.2 194 (upd (x8.2.1 194) (Int32.toNatClampNeg k) x8.1))).bind fun x11 => rt3 k x11) else none) else none)
def rt1 (x6 : gj_S) : Option gj_S := (if gj_in (1 : Int32) 2 then ((f_X9_readDock (-1 : Int32) x6).bind fun x8 => rt2 ((16 : Int32) + (x6.1 191 (Int32.toNatClampNeg (1 : Int32)))) x8) else none)
theorem rt_eq (σ : gj_S) : f_X9_routeLine σ = (if gj_in (1 : Int32) 2 then ((if (16 : Int32) ≤ (σ.1 191 (Int32.toNatClampNeg (1 : Int32))) then some (0 : Int32) else some (1 : Int32) : Option Int32).bind fun z2 => ((f_X9_must z2 (5 : Int32) σ).bind fun x3 => (if x3.1 = 0 then some x3.2 else ((f_X9_goesOn x3.2).bind fun x4 => (if gj_in (1 : Int32) 2 then ((f_X9_newName ((8 : Int32) + (x4.1 191 (Int32.toNatClampNeg (1 : Int32)))) x4).bind fun x6 => rt1 x6) else none))))) else none) := rfl
/-- with a fault nothing but the reading place is written -/
def FS9 (x z : gj_S) : Prop := z.1 188 = x.1 188 ∧ FR9 x z
theorem FS9_I {x : gj_S} {c m : Nat} {v : Int32} (hc : 194 ≤ c) (hc2 : c ≤ 197) (hm : 16 ≤ m) : FS9 x (gj_sI x c (upd (x.1 c) m v)) := ⟨sI_ne (by omega), FR9_I (by omega)⟩
theorem FS9_tr {a b c : gj_S} (h1 : FS9 a b) (h2 : FS9 b c) : FS9 a c := ⟨h2.1.trans h1.1, FR9_tr h1.2 h2.2⟩
theorem rt5F {m : Nat} {x : Int32 × gj_S} (h1 : 16 ≤ m) (h2 : m < 32) (hf : ¬ x.2.1 188 9 = 0) : TP (rt5 (nI m) x) (fun z => FS9 x.2 z) := by
  unfold rt5
  simp only [nI_clamp (show m < 2 ^ 31 by omega)]
  have e := FS9_I (x := x.2) (c := 197) (v := x.1) (by omega) (by omega) h1
  exact tp_t (gi h2 (by omega)) (tp_f (by rw [e.1]; exact hf) (tp_some e))
theorem rt4F {m : Nat} {x : Int32 × gj_S} (h1 : 16 ≤ m) (h2 : m < 32) (hf : ¬ x.2.1 188 9 = 0) : TP (rt4 (nI m) x) (fun z => FS9 x.2 z) := by
  unfold rt4
  simp only [nI_clamp (show m < 2 ^ 31 by omega)]
  have e := FS9_I (x := x.2) (c := 196) (v := x.1) (by omega) (by omega) h1
  have hf' : ¬ (gj_sI x.2 196 (upd (x.2.1 196) m x.1)).1 188 9 = 0 := by rw [e.1]; exact hf
  exact tp_t (gi h2 (by omega)) (tp_beq (r9_behF hf') (tp_mono (rt5F h1 h2 (x := ((1 : Int32), _)) hf') (fun z hz => FS9_tr e hz)))
theorem rt3F {m : Nat} {x : Int32 × gj_S} (h1 : 16 ≤ m) (h2 : m < 32) (hf : ¬ x.2.1 188 9 = 0) : TP (rt3 (nI m) x) (fun z => FS9 x.2 z) := by
  unfold rt3
  simp only [nI_clamp (show m < 2 ^ 31 by omega)]
  have e := FS9_I (x := x.2) (c := 195) (v := x.1) (by omega) (by omega) h1
  have hf' : ¬ (gj_sI x.2 195 (upd (x.2.1 195) m x.1)).1 188 9 = 0 := by rw [e.1]; exact hf
  exact tp_t (gi h2 (by omega)) (tp_beq (r9_behF hf') (tp_mono (rt4F h1 h2 (x := ((0 : Int32), _)) hf') (fun z hz => FS9_tr e hz)))
theorem rt2F {m : Nat} {x : Int32 × gj_S} (h1 : 16 ≤ m) (h2 : m < 32) (hf : ¬ x.2.1 188 9 = 0) : TP (rt2 (nI m) x) (fun z => FS9 x.2 z) := by
  unfold rt2
  simp only [nI_clamp (show m < 2 ^ 31 by omega)]
  have e := FS9_I (x := x.2) (c := 194) (v := x.1) (by omega) (by omega) h1
  have hf' : ¬ (gj_sI x.2 194 (upd (x.2.1 194) m x.1)).1 188 9 = 0 := by rw [e.1]; exact hf
  exact tp_t (gi h2 (by omega)) (tp_t (gi h2 (by omega)) (tp_beq (r9_rdF hf') (tp_mono (rt3F h1 h2 (x := ((0 : Int32), _)) hf') (fun z hz => FS9_tr e hz))))
theorem rt1F {r : Nat} {x : gj_S} (hr : x.1 191 1 = nI r) (h2 : r < 16) (hf : ¬ x.1 188 9 = 0) : TP (rt1 x) (fun z => FS9 x z) := by
  unfold rt1
  have c1 : (1 : Int32).toNatClampNeg = 1 := by decide
  refine tp_t (gi (k := 1) (by omega) (by omega)) ?_
  rw [c1, hr, show (16 : Int32) = nI 16 from rfl, nI_add]
  exact (tp_beq (r9_rdF hf) (rt2F (x := ((0 : Int32), x)) (by omega) (by omega) hf))
theorem FS9_L {y : Nat → Int32} {N F : Nat} {σ x z : gj_S} (h : FL9 F x) (hr : FR9 σ x) (hz : FS9 x z) : RS9 y N σ (.inl F) z := ⟨FL9_c h hz.1, FR9_tr hr hz.2⟩
/-- a number of the new route is written -/
theorem P9_I {A : pA} {x : gj_S} {c : Nat} {v : Int32} (hc : 194 ≤ c) (hc2 : c ≤ 197) (hP : P9 A x) : P9 A (gj_sI x c (upd (x.1 c) (16 + A.1.2) v)) := by
  refine ⟨by rw [sI_ne (by omega)]; exact hP.1, by rw [sI_ne (by omega)]; exact hP.2.1, by rw [sI_ne (by omega)]; exact hP.2.2.1, by rw [sI_ne (by omega)]; exact hP.2.2.2.1, fun d hd => ?_, fun w hw => ?_⟩
  · rw [sI_ne (by omega)]
    exact hP.2.2.2.2.1 d hd
  · refine ⟨(hP.2.2.2.2.2 w hw).1, fun i hi => ?_⟩
    rw [← (hP.2.2.2.2.2 w hw).2 i hi]
    by_cases q : 194 + i = c
    · rw [q, sI_eq, up_ne (by omega)]
    · rw [sI_ne q]
/-- as far as read: the name, then what stands at the new route's place -/
def Q9 (y : Nat → Int32) (N p : Nat) (A : pA) (nm : List Nat) (σ x : gj_S) : Prop := rd9 y N x ∧ p ≤ N ∧ TK9 y N p x ∧ x.1 188 9 = 0 ∧ P9 A x ∧ x.2.1 192 (32 + A.1.2) = pk5 nm ∧ FR9 σ x
theorem Q9_I {y : Nat → Int32} {N p : Nat} {A : pA} {nm : List Nat} {σ x : gj_S} {c : Nat} {v : Int32} (hc : 194 ≤ c) (hc2 : c ≤ 197) (h : Q9 y N p A nm σ x) : Q9 y N p A nm σ (gj_sI x c (upd (x.1 c) (16 + A.1.2) v)) := by
  have e := FS9_I (x := x) (c := c) (m := 16 + A.1.2) (v := v) hc hc2 (by omega)
  exact ⟨rd9_c h.1 (by rw [e.1]) (sI_ne (by omega)), h.2.1, TK9_c h.2.2.1 e.1 rfl, by rw [e.1]; exact h.2.2.2.1, P9_I hc hc2 h.2.2.2.2.1, h.2.2.2.2.2.1, FR9_tr h.2.2.2.2.2.2 e.2⟩
theorem Q9_T {y : Nat → Int32} {N p p' : Nat} {A : pA} {nm : List Nat} {σ x z : gj_S} (h : Q9 y N p A nm σ x) (hz : fT9 x z) (hp : p' ≤ N) (ht : TK9 y N p' z) : Q9 y N p' A nm σ z := ⟨fT9_rd hz h.1, hp, ht, by rw [hz.2.1 9 (by omega)]; exact h.2.2.2.1, P9_T hz h.2.2.2.2.1, by rw [hz.2.2.1 192 (by decide)]; exact h.2.2.2.2.2.1, FR9_tr h.2.2.2.2.2.2 (FR9_T hz)⟩
theorem rt5_ok {y : Nat → Int32} {N p : Nat} {A : pA} {nm : List Nat} {σ : gj_S} {x : Int32 × gj_S} {b e c : Int32} (h : Q9 y N p A nm σ x.2) (hr : A.1.2 < 16) (hb : x.2.1 194 (16 + A.1.2) = b) (he : x.2.1 195 (16 + A.1.2) = e) (hc : x.2.1 196 (16 + A.1.2) = c) : TP (rt5 (nI (16 + A.1.2)) x) (fun z => RS9 y N σ (.inr (aR A nm b e c x.1, p)) z) := by
  have g1 : gj_in (1 : Int32) 2 := gi (k := 1) (by omega) (by omega)
  have c1 : (1 : Int32).toNatClampNeg = 1 := by decide
  unfold rt5
  simp only [nI_clamp (show 16 + A.1.2 < 2 ^ 31 by omega), c1]
  have q := Q9_I (c := 197) (v := x.1) (by omega) (by omega) h
  have k194 : (gj_sI x.2 197 (upd (x.2.1 197) (16 + A.1.2) x.1)).1 194 = x.2.1 194 := sI_ne (by decide)
  have k195 : (gj_sI x.2 197 (upd (x.2.1 197) (16 + A.1.2) x.1)).1 195 = x.2.1 195 := sI_ne (by decide)
  have k196 : (gj_sI x.2 197 (upd (x.2.1 197) (16 + A.1.2) x.1)).1 196 = x.2.1 196 := sI_ne (by decide)
  have k197 : (gj_sI x.2 197 (upd (x.2.1 197) (16 + A.1.2) x.1)).1 197 (16 + A.1.2) = x.1 := by rw [sI_eq, up_eq]
  generalize gj_sI x.2 197 (upd (x.2.1 197) (16 + A.1.2) x.1) = t at q k194 k195 k196 k197 ⊢
  refine tp_t (gi (by omega) (by omega)) (tp_t q.2.2.2.1 (tp_t g1 (tp_t g1 (tp_beq rfl (tp_some ?_)))))
  obtain ⟨s, hs⟩ : ∃ s, s = gj_sI t 191 (upd (t.1 191) 1 (t.1 191 1 + 1)) := ⟨_, rfl⟩
  rw [← hs]
  have cI : ∀ c, c ≠ 191 → s.1 c = t.1 c := fun c a => by rw [hs, sI_ne a]
  have c191 : s.1 191 1 = nI (A.1.2 + 1) := by rw [hs, sI_eq, up_eq, q.2.2.2.2.1.2.1, nI_1]
  have cJ : s.2 = t.2 := by rw [hs]; rfl
  have frs : FR9 t s := by
    rw [hs]
    exact FR9_I (.inl ⟨.inr rfl, rfl⟩)
  clear hs
  have hP := q.2.2.2.2.1
  refine ⟨rd9_c q.1 (by rw [cI 188 (by decide)]) (cI 189 (by decide)), q.2.1, TK9_c q.2.2.1 (cI 188 (by decide)) (by rw [cJ]), by rw [cI 188 (by decide)]; exact q.2.2.2.1, ?_, FR9_tr q.2.2.2.2.2.2 frs⟩
  refine ⟨by rw [cI 190 (by decide)]; exact hP.1, c191, by rw [cI 188 (by decide)]; exact hP.2.2.1, by rw [cI 188 (by decide)]; exact hP.2.2.2.1, fun d hd => ?_, fun w hw => ?_⟩
  · rw [cJ, cI 193 (by decide)]
    exact hP.2.2.2.2.1 d hd
  · have hw' : w < A.1.2 + 1 := hw
    by_cases qw : w = A.1.2
    · subst qw
      refine ⟨?_, fun i hi => ?_⟩
      · rw [cJ]
        show _ = pk5 (if A.1.2 = A.1.2 then nm else _)
        rw [if_pos rfl]
        exact q.2.2.2.2.2.1
      · rw [cI (194 + i) (by omega)]
        show _ = (if A.1.2 = A.1.2 then _ else _)
        rw [if_pos rfl]
        have : i = 0 ∨ i = 1 ∨ i = 2 ∨ i = 3 := by omega
        rcases this with rfl | rfl | rfl | rfl
        · rw [k194, hb]; rfl
        · rw [k195, he]; rfl
        · rw [k196, hc]; rfl
        · rw [k197]; rfl
    · obtain ⟨a1, a2⟩ := hP.2.2.2.2.2 w (by omega)
      refine ⟨?_, fun i hi => ?_⟩
      · rw [cJ, a1]
        show _ = pk5 (if w = A.1.2 then nm else _)
        rw [if_neg qw]
      · rw [cI (194 + i) (by omega), a2 i hi]
        show _ = (if w = A.1.2 then _ else _)
        rw [if_neg qw]
theorem rt3_ok {y : Nat → Int32} {N p4 : Nat} {A : pA} {nm : List Nat} {σ : gj_S} {x : Int32 × gj_S} {b : Int32} (h : Q9 y N p4 A nm σ x.2) (hr : A.1.2 < 16) (hb : x.2.1 194 (16 + A.1.2) = b) : TP (rt3 (nI (16 + A.1.2)) x) (fun z => RS9 y N σ (linN y N A nm b x.1 p4 (te y N p4) (te y N (te y N p4)) (te y N (te y N (te y N p4)))) z) := by
  have g32 : gj_in (nI (16 + A.1.2)) 32 := gi (by omega) (by omega)
  unfold rt3 linN
  simp only [nI_clamp (show 16 + A.1.2 < 2 ^ 31 by omega)]
  have q := Q9_I (c := 195) (v := x.1) (by omega) (by omega) h
  have k194 : (gj_sI x.2 195 (upd (x.2.1 195) (16 + A.1.2) x.1)).1 194 (16 + A.1.2) = b := by rw [sI_ne (by decide)]; exact hb
  have k195 : (gj_sI x.2 195 (upd (x.2.1 195) (16 + A.1.2) x.1)).1 195 (16 + A.1.2) = x.1 := by rw [sI_eq, up_eq]
  generalize gj_sI x.2 195 (upd (x.2.1 195) (16 + A.1.2) x.1) = t at q k194 k195 ⊢
  refine tp_t g32 ?_
  have hp4 := q.2.1
  have hp5 := (te_N (y := y) hp4).2
  have hp6 := (te_N (y := y) hp5).2
  have hp7 := (te_N (y := y) hp6).2
  rcases r9_bh (i := 4) (lo := 0) (hi := 999) q.1 q.2.1 q.2.2.1 q.2.2.2.1 (by omega) (by omega) (by omega) with ⟨a1, a2, a3⟩ | ⟨a1, a2, a3, a4⟩ | ⟨a1, a2⟩
  · rw [if_pos a1, if_pos a2]
    refine tp_bind a3 (fun x13 hx13 => ?_)
    obtain ⟨v13, f13, t13⟩ := hx13
    have q13 := Q9_T q f13 hp6 t13
    have j194 : x13.2.1 194 (16 + A.1.2) = b := by rw [f13.1 194 (by decide)]; exact k194
    have j195 : x13.2.1 195 (16 + A.1.2) = x.1 := by rw [f13.1 195 (by decide)]; exact k195
    unfold rt4
    simp only [nI_clamp (show 16 + A.1.2 < 2 ^ 31 by omega)]
    have q14 := Q9_I (c := 196) (v := x13.1) (by omega) (by omega) q13
    have l194 : (gj_sI x13.2 196 (upd (x13.2.1 196) (16 + A.1.2) x13.1)).1 194 (16 + A.1.2) = b := by rw [sI_ne (by decide)]; exact j194
    have l195 : (gj_sI x13.2 196 (upd (x13.2.1 196) (16 + A.1.2) x13.1)).1 195 (16 + A.1.2) = x.1 := by rw [sI_ne (by decide)]; exact j195
    have l196 : (gj_sI x13.2 196 (upd (x13.2.1 196) (16 + A.1.2) x13.1)).1 196 (16 + A.1.2) = nI (tn y N (te y N p4)) := by rw [sI_eq, up_eq, v13]
    generalize gj_sI x13.2 196 (upd (x13.2.1 196) (16 + A.1.2) x13.1) = t' at q14 l194 l195 l196 ⊢
    refine tp_t g32 ?_
    rcases r9_bh (i := 5) (lo := 1) (hi := 999) q14.1 q14.2.1 q14.2.2.1 q14.2.2.2.1 (by omega) (by omega) (by omega) with ⟨b1, b2, b3⟩ | ⟨b1, b2, b3, b4⟩ | ⟨b1, b2⟩
    · rw [if_pos b1, if_pos b2]
      refine tp_bind b3 (fun x15 hx15 => ?_)
      obtain ⟨v15, f15, t15⟩ := hx15
      have q15 := Q9_T q14 f15 (te_N hp7).2 t15
      have := rt5_ok (x := x15) (b := b) (e := x.1) (c := nI (tn y N (te y N p4))) q15 hr (by rw [f15.1 194 (by decide)]; exact l194) (by rw [f15.1 195 (by decide)]; exact l195) (by rw [f15.1 196 (by decide)]; exact l196)
      rw [v15] at this
      exact this
    · rw [if_pos b1, if_neg b2]
      refine tp_bind b4 (fun x15 hx15 => ?_)
      obtain ⟨z, rfl, fz, tz⟩ := hx15
      have e9 := FL9_9 (FL9_F (k := nbF y N (te y N (te y N (te y N p4))) 1 999) tz (by omega) b3)
      exact tp_mono (rt5F (x := (nI 1, flt9 z _)) (by omega) (by omega) e9) (fun w hw => FS9_L (FL9_F tz (by omega) b3) (FR9_tr q14.2.2.2.2.2.2 (FR9_tr (FR9_T fz) FR9_F)) hw)
    · rw [if_neg (show ¬ isW y N (te y N (te y N p4)) 5 = true by rw [b1]; decide)]
      refine tp_beq b2 ?_
      have e9 := FL9_9 (FL9_F (k := 1) q14.2.2.1 (by omega) (by omega))
      exact tp_mono (rt5F (x := (nI 1, flt9 t' 1)) (by omega) (by omega) e9) (fun w hw => FS9_L (FL9_F q14.2.2.1 (by omega) (by omega)) (FR9_tr q14.2.2.2.2.2.2 FR9_F) hw)
  · rw [if_pos a1, if_neg a2]
    refine tp_bind a4 (fun x13 hx13 => ?_)
    obtain ⟨z, rfl, fz, tz⟩ := hx13
    have e9 := FL9_9 (FL9_F (k := nbF y N (te y N p4) 0 999) tz (by omega) a3)
    exact tp_mono (rt4F (x := (nI 0, flt9 z _)) (by omega) (by omega) e9) (fun w hw => FS9_L (FL9_F tz (by omega) a3) (FR9_tr q.2.2.2.2.2.2 (FR9_tr (FR9_T fz) FR9_F)) hw)
  · rw [if_neg (show ¬ isW y N p4 4 = true by rw [a1]; decide)]
    refine tp_beq a2 ?_
    have e9 := FL9_9 (FL9_F (k := 1) q.2.2.1 (by omega) (by omega))
    exact tp_mono (rt4F (x := (nI 0, flt9 t 1)) (by omega) (by omega) e9) (fun w hw => FS9_L (FL9_F q.2.2.1 (by omega) (by omega)) (FR9_tr q.2.2.2.2.2.2 FR9_F) hw)
theorem r9_route {y : Nat → Int32} {N p : Nat} {A : pA} {σ : gj_S} (hr : rd9 y N σ) (hp : p ≤ N) (h : TK9 y N p σ) (hf : σ.1 188 9 = 0) (hP : P9 A σ) (hW : WF A) {p1 p2 p3 p4 : Nat} (q1 : p1 = te y N p) (q2 : p2 = te y N p1) (q3 : p3 = te y N p2) (q4 : p4 = te y N p3) : TP (f_X9_routeLine σ) (fun z => RS9 y N σ (linR y N A p p1 p2 p3 p4 (te y N p4) (te y N (te y N p4)) (te y N (te y N (te y N p4)))) z) := by
  have hr16 := hW.2.1
  have g1 : gj_in (1 : Int32) 2 := gi (k := 1) (by omega) (by omega)
  have c1 : (1 : Int32).toNatClampNeg = 1 := by decide
  rw [rt_eq]
  unfold linR
  simp only [c1]
  refine tp_t g1 ?_
  rw [hP.2.1]
  by_cases hn : 16 ≤ A.1.2
  · rw [if_pos hn]
    exact tp_beq (x := 0) (by rw [if_pos (show (16 : Int32) ≤ nI A.1.2 from nI_le (a := 16) hn (by omega))]) (tp_beq (r9_m0 (m := 5) hf rfl rfl (by omega) (by omega)) (tp_t rfl (tp_some ⟨FL9_F h (by omega) (by omega), FR9_F⟩)))
  · rw [if_neg hn]
    refine tp_beq (x := 1) (by rw [if_neg (show ¬ (16 : Int32) ≤ nI A.1.2 from nI_ge (b := 16) (by omega) (by omega))]) (tp_beq (r9_m1 (m := 5) hf rfl rfl (by omega) (by omega)) (tp_f (show ¬ (1 : Int32) = 0 by decide) ?_))
    dsimp only
    refine tp_bind (r9_nx hr hp h.1) (fun x4 hx4 => ?_)
    rw [← q1] at hx4
    obtain ⟨f4, r4, hp1, t4⟩ := hx4
    have P4 := P9_T f4 hP
    have h49 : x4.1 188 9 = 0 := by rw [f4.2.1 9 (by decide)]; exact hf
    refine tp_t g1 ?_
    rw [P4.2.1, show (8 : Int32) = nI 8 from rfl, nI_add]
    rcases r9_nn (at' := 8 + A.1.2) r4 hp1 t4 h49 P4 hW (by omega) with ⟨a, b⟩ | ⟨a, b, c⟩
    · rw [if_pos a]
      refine tp_bind b (fun x6 hx6 => ?_)
      rw [← q2] at hx6
      obtain ⟨f6, t6⟩ := hx6
      have hp2 : p2 ≤ N := by rw [q2]; exact (te_N hp1).2
      have hp3 : p3 ≤ N := by rw [q3]; exact (te_N hp2).2
      have hp4 : p4 ≤ N := by rw [q4]; exact (te_N hp3).2
      have Q6 : Q9 y N p2 A (tw y N p1) σ x6 := by
        refine ⟨fT9_rd f6 (rd9_c r4 rfl rfl), hp2, t6, by rw [f6.2.1 9 (by decide)]; exact h49, P9_T f6 ⟨P4.1, P4.2.1, P4.2.2.1, P4.2.2.2.1, fun d hd => ?_, fun w hw => ⟨?_, (P4.2.2.2.2.2 w hw).2⟩⟩, ?_, FR9_tr (FR9_T f4) (FR9_tr (FR9_J (by omega)) (FR9_T f6))⟩
        · rw [sJ_eq, uL_ne (by have := hW.1; omega)]
          exact P4.2.2.2.2.1 d hd
        · rw [sJ_eq, uL_ne (by omega)]
          exact (P4.2.2.2.2.2 w hw).1
        · rw [f6.2.2.1 192 (by decide), sJ_eq, show 32 + A.1.2 = 24 + (8 + A.1.2) by omega, uL_eq]
      clear f6 t6
      unfold rt1
      refine tp_t g1 ?_
      rw [c1, Q6.2.2.2.2.1.2.1, show (16 : Int32) = nI 16 from rfl, nI_add]
      have g32 : gj_in (nI (16 + A.1.2)) 32 := gi (by omega) (by omega)
      rcases r9_rD (-1) Q6.1 Q6.2.1 Q6.2.2.1 Q6.2.2.2.1 Q6.2.2.2.2.1 hW with ⟨d1, d2⟩ | ⟨d1, d2, d3⟩
      · rw [if_pos d1]
        refine tp_bind d2 (fun x8 hx8 => ?_)
        rw [← q3] at hx8
        obtain ⟨v8, f8, t8⟩ := hx8
        have Q8 := Q9_T Q6 f8 hp3 t8
        unfold rt2
        simp only [nI_clamp (show 16 + A.1.2 < 2 ^ 31 by omega)]
        have Q8' := Q9_I (c := 194) (v := x8.1) (by omega) (by omega) Q8
        have k194 : (gj_sI x8.2 194 (upd (x8.2.1 194) (16 + A.1.2) x8.1)).1 194 (16 + A.1.2) = oI (fdN y N p2 A) := by rw [sI_eq, up_eq, v8]
        generalize gj_sI x8.2 194 (upd (x8.2.1 194) (16 + A.1.2) x8.1) = t at Q8' k194 ⊢
        refine tp_t g32 (tp_t g32 ?_)
        rw [k194]
        rcases r9_rD (oI (fdN y N p2 A)) Q8'.1 Q8'.2.1 Q8'.2.2.1 Q8'.2.2.2.1 Q8'.2.2.2.2.1 hW with ⟨e1, e2⟩ | ⟨e1, e2, e3⟩
        · rw [if_pos e1]
          refine tp_bind e2 (fun x11 hx11 => ?_)
          rw [← q4] at hx11
          obtain ⟨v11, f11, t11⟩ := hx11
          have := rt3_ok (x := x11) (b := oI (fdN y N p2 A)) (Q9_T Q8' f11 hp4 t11) (by omega) (by rw [f11.1 194 (by decide)]; exact k194)
          rw [v11] at this
          exact this
        · rw [if_neg e1]
          refine tp_beq e3 ?_
          have e9 := FL9_9 (FL9_F (k := dkF y N p3 A (oI (fdN y N p2 A))) Q8'.2.2.1 (by omega) e2)
          exact tp_mono (rt3F (x := ((0 : Int32), flt9 t _)) (by omega) (by omega) e9) (fun w hw => FS9_L (FL9_F Q8'.2.2.1 (by omega) e2) (FR9_tr Q8'.2.2.2.2.2.2 FR9_F) hw)
      · rw [if_neg d1]
        refine tp_beq d3 ?_
        have e9 := FL9_9 (FL9_F (k := dkF y N p2 A (-1)) Q6.2.2.1 (by omega) d2)
        exact tp_mono (rt2F (x := ((0 : Int32), flt9 x6 _)) (by omega) (by omega) e9) (fun w hw => FS9_L (FL9_F Q6.2.2.1 (by omega) d2) (FR9_tr Q6.2.2.2.2.2.2 FR9_F) hw)
    · rw [if_neg a]
      refine tp_beq c ?_
      have e9 := FL9_9 (FL9_F (k := nmF y N p1 A) t4 (by omega) b)
      have e191 : (flt9 x4 (nmF y N p1 A)).1 191 1 = nI A.1.2 := by
        unfold flt9
        rw [sI_ne (by decide), sI_ne (by decide)]
        exact P4.2.1
      exact tp_mono (rt1F e191 (by omega) e9) (fun w hw => FS9_L (FL9_F t4 (by omega) b) (FR9_tr (FR9_T f4) FR9_F) hw)
