/-! ===== text: lines, and how the class reads them ===== -/
def aD (A : pA) (nm : List Nat) (g : Int32) : pA := ((A.1.1 + 1, A.1.2), (fun d => if d = A.1.1 then nm else A.2.1 d), A.2.2.1, (fun d => if d = A.1.1 then g else A.2.2.2.1 d), A.2.2.2.2.1, A.2.2.2.2.2.1, A.2.2.2.2.2.2)
def aR (A : pA) (nm : List Nat) (b e c h : Int32) : pA := ((A.1.1, A.1.2 + 1), A.2.1, (fun w => if w = A.1.2 then nm else A.2.2.1 w), A.2.2.2.1, (fun i w => if w = A.1.2 then (if i = 0 then b else if i = 1 then e else if i = 2 then c else h) else A.2.2.2.2.1 i w), A.2.2.2.2.2.1, A.2.2.2.2.2.2)
def aB (A : pA) (b : Int32) : pA := (A.1, A.2.1, A.2.2.1, A.2.2.2.1, A.2.2.2.2.1, b, true)
def linD (y : Nat → Int32) (N : Nat) (A : pA) (p p1 p2 p3 : Nat) : Nat ⊕ (pA × Nat) := if 8 ≤ A.1.1 then .inl (8 * tq y N p + 5) else if nmF y N p1 A = 0 then (if isW y N p2 1 = true ∨ isW y N p2 2 = true then (if nbF y N p3 0 999 = 0 then .inr (aD A (tw y N p1) (if isW y N p2 1 = true then nI (tn y N p3) else 0 - nI (tn y N p3)), te y N p3) else .inl (8 * tq y N p3 + nbF y N p3 0 999)) else .inr (aD A (tw y N p1) 0, p2)) else .inl (8 * tq y N p1 + nmF y N p1 A)
def linB (y : Nat → Int32) (N : Nat) (A : pA) (p p1 : Nat) : Nat ⊕ (pA × Nat) := if A.2.2.2.2.2.2 = true then .inl (8 * tq y N p + 2) else if nbF y N p1 1 24 = 0 then .inr (aB A (nI (tn y N p1)), te y N p1) else .inl (8 * tq y N p1 + nbF y N p1 1 24)
def linN (y : Nat → Int32) (N : Nat) (A : pA) (nm : List Nat) (b e : Int32) (p4 p5 p6 p7 : Nat) : Nat ⊕ (pA × Nat) := if isW y N p4 4 = true then (if nbF y N p5 0 999 = 0 then (if isW y N p6 5 = true then (if nbF y N p7 1 999 = 0 then .inr (aR A nm b e (nI (tn y N p5)) (nI (tn y N p7)), te y N p7) else .inl (8 * tq y N p7 + nbF y N p7 1 999)) else .inl (8 * tq y N p6 + 1)) else .inl (8 * tq y N p5 + nbF y N p5 0 999)) else .inl (8 * tq y N p4 + 1)
def linR (y : Nat → Int32) (N : Nat) (A : pA) (p p1 p2 p3 p4 p5 p6 p7 : Nat) : Nat ⊕ (pA × Nat) := if 16 ≤ A.1.2 then .inl (8 * tq y N p + 5) else if nmF y N p1 A = 0 then (if dkF y N p2 A (-1) = 0 then (if dkF y N p3 A (oI (fdN y N p2 A)) = 0 then linN y N A (tw y N p1) (oI (fdN y N p2 A)) (oI (fdN y N p3 A)) p4 p5 p6 p7 else .inl (8 * tq y N p3 + dkF y N p3 A (oI (fdN y N p2 A)))) else .inl (8 * tq y N p2 + dkF y N p2 A (-1))) else .inl (8 * tq y N p1 + nmF y N p1 A)
def FR8 (σ τ : gj_S) : Prop := ∀ c, (c < 2 ∨ 13 < c) → τ.1 c = σ.1 c ∧ τ.2.1 c = σ.2.1 c
theorem FR8_rf {σ : gj_S} : FR8 σ σ := fun _ _ => ⟨rfl, rfl⟩
theorem FR8_tr {a b c : gj_S} (h1 : FR8 a b) (h2 : FR8 b c) : FR8 a c := fun k p => ⟨(h2 k p).1.trans (h1 k p).1, (h2 k p).2.trans (h1 k p).2⟩
theorem FR8_T {σ τ : gj_S} (h : fT8 σ τ) : FR8 σ τ := fun c p => ⟨h.1 c (by omega), h.2.2.1 c (by omega)⟩
theorem FR8_I {σ : gj_S} {c : Nat} {f : Nat → Int32} (h : 2 ≤ c ∧ c ≤ 13) : FR8 σ (gj_sI σ c f) := fun k p => ⟨sI_ne (by omega), rfl⟩
theorem FR8_J {σ : gj_S} {c : Nat} {f : Nat → Int64} (h : 2 ≤ c ∧ c ≤ 13) : FR8 σ (gj_sJ σ c f) := fun k p => ⟨rfl, sJ_ne (by omega)⟩
def RS8 (y : Nat → Int32) (N : Nat) (σ : gj_S) (res : Nat ⊕ (pA × Nat)) (x : Int32 × gj_S) : Prop := match res with | .inl F => x.1 = 0 ∧ x.2.1 2 4 = nI F ∧ FR8 σ x.2 | .inr r => x.1 = 1 ∧ rd8 y N x.2 ∧ r.2 ≤ N ∧ TK8 y N r.2 x.2 ∧ P8 r.1 x.2 ∧ FR8 σ x.2
theorem RS8_f {y : Nat → Int32} {N F : Nat} {σ τ : gj_S} (h : FR8 σ τ) : RS8 y N σ (.inl F) (0, flt8 τ F) := ⟨rfl, by unfold flt8; dsimp only; rw [sI_eq, up_eq], FR8_tr h (FR8_I (by omega))⟩
theorem P8_T {A : pA} {σ τ : gj_S} (h : fT8 σ τ) (hP : P8 A σ) : P8 A τ := by
  unfold P8 at hP ⊢
  rw [h.1 3 (by decide), h.2.1 3 (by decide) (by decide) (by decide), h.2.2.1 13 (by decide), h.1 4 (by decide), h.2.2.1 12 (by decide)]
  refine ⟨hP.1, hP.2.1, hP.2.2.1, hP.2.2.2.1, hP.2.2.2.2.1, fun w hw => ⟨(hP.2.2.2.2.2 w hw).1, fun i hi => ?_⟩⟩
  rw [h.1 (5 + i) (by omega)]
  exact (hP.2.2.2.2.2 w hw).2 i hi
theorem TK8_c {y : Nat → Int32} {N p : Nat} {σ τ : gj_S} (h : TK8 y N p σ) (h1 : τ.1 2 = σ.1 2) (h2 : τ.2.1 2 = σ.2.1 2) : TK8 y N p τ := by
  unfold TK8 at h ⊢
  rw [h1, h2]
  exact h
theorem rd8_c {y : Nat → Int32} {N : Nat} {σ τ : gj_S} (h : rd8 y N σ) (h1 : τ.1 2 6 = σ.1 2 6) (h2 : τ.1 1 = σ.1 1) (h3 : τ.2.2 = σ.2.2) : rd8 y N τ := by
  unfold rd8 at h ⊢
  rw [h1, h2, h3]
  exact h
/-- a token more -/
theorem c8_nx {y : Nat → Int32} {N p : Nat} {σ : gj_S} (hr : rd8 y N σ) (hp : p ≤ N) (h : σ.1 2 5 = nI (te y N p)) : TP (f_X2_readToken σ) (fun z => fT8 σ z ∧ rd8 y N z ∧ te y N p ≤ N ∧ TK8 y N (te y N p) z) := tp_mono (c8_tok hr (te_N hp).2 h) (fun z hz => ⟨hz.1, fT8_rd hz.1 hr, (te_N hp).2, hz.2⟩)
theorem i32_m1 (a : Int32) : (-1 : Int32) * a = 0 - a := by
  apply Int32.toBitVec_inj.mp
  rw [Int32.toBitVec_mul, Int32.toBitVec_sub]
  show -1#32 * a.toBitVec = 0#32 - a.toBitVec
  rw [BitVec.neg_mul, BitVec.one_mul, BitVec.zero_sub]
theorem i32_p1 (a : Int32) : (1 : Int32) * a = a := by
  apply Int32.toBitVec_inj.mp
  rw [Int32.toBitVec_mul]
  show 1#32 * a.toBitVec = a.toBitVec
  rw [BitVec.one_mul]
theorem c8_dock {y : Nat → Int32} {N p : Nat} {A : pA} {σ : gj_S} (hr : rd8 y N σ) (hp : p ≤ N) (h : TK8 y N p σ) (hP : P8 A σ) (hW : WF A) : TP (f_X2_readDock σ) (fun x => RS8 y N σ (linD y N A p (te y N p) (te y N (te y N p)) (te y N (te y N (te y N p)))) x) := by
  have hN := hr.1
  unfold f_X2_readDock linD
  rw [hP.1]
  by_cases hn : 8 ≤ A.1.1
  · rw [if_pos hn]
    have hn8 := hW.1
    refine tp_f (nI_nlt (b := 8) hn (by omega)) ?_
    rw [show (5 : Int32) = nI 5 from rfl, c8_fl h]
    exact tp_beq rfl (tp_t (.inl rfl) (tp_some (RS8_f FR8_rf)))
  · rw [if_neg hn]
    refine tp_t (nI_lt (b := 8) (by omega) (by omega)) (tp_bind (c8_nx hr hp h.1) (fun x1 hx1 => ?_))
    obtain ⟨f1, r1, hp1, t1⟩ := hx1
    have P1 := P8_T f1 hP
    generalize te y N p = p1 at *
    refine tp_beq (c8_nn t1 P1 hW) ?_
    by_cases hnm : nmF y N p1 A = 0
    · rw [if_pos hnm, if_pos hnm]
      have e3 : x1.1 3 0 = nI A.1.1 := P1.1
      have gn : gj_in (nI A.1.1) 8 := gi (by omega) (by omega)
      have tk1 : tk y N p1 = 0 := by
        unfold nmF at hnm
        cases hb : isN y N p1 with
        | true => exact isN_0 hb
        | false =>
          rw [hb, if_pos rfl] at hnm
          omega
      have ev : x1.2.1 2 9 = pk8 (tw y N p1) := t1.2.2.2.1 tk1
      refine tp_f (show ¬ (1 : Int32) = 0 by decide) ?_
      dsimp only
      rw [e3, ev]
      refine tp_t gn (tp_t gn (tp_beq rfl ?_))
      simp only [nI_clamp (show A.1.1 < 2 ^ 31 by omega)]
      -- the dock is laid down
      obtain ⟨s, hs⟩ : ∃ s, s = gj_sI (gj_sI (gj_sJ x1 13 (vp_updL (x1.2.1 13) A.1.1 (pk8 (tw y N p1)))) 4 (upd ((gj_sJ x1 13 (vp_updL (x1.2.1 13) A.1.1 (pk8 (tw y N p1)))).1 4) A.1.1 0)) 3 (upd ((gj_sI (gj_sJ x1 13 (vp_updL (x1.2.1 13) A.1.1 (pk8 (tw y N p1)))) 4 (upd ((gj_sJ x1 13 (vp_updL (x1.2.1 13) A.1.1 (pk8 (tw y N p1)))).1 4) A.1.1 0)).1 3) 0 ((gj_sI (gj_sJ x1 13 (vp_updL (x1.2.1 13) A.1.1 (pk8 (tw y N p1)))) 4 (upd ((gj_sJ x1 13 (vp_updL (x1.2.1 13) A.1.1 (pk8 (tw y N p1)))).1 4) A.1.1 0)).1 3 0 + 1)) := ⟨_, rfl⟩
      rw [← hs]
      have c2 : s.1 2 = x1.1 2 := by
        rw [hs, sI_ne (by decide), sI_ne (by decide)]
        rfl
      have cI : ∀ c, c ≠ 3 → c ≠ 4 → s.1 c = x1.1 c := fun c c3 c4 => by
        rw [hs, sI_ne c3, sI_ne c4]
        rfl
      have c4 : s.1 4 = upd (x1.1 4) A.1.1 0 := by
        rw [hs, sI_ne (by decide), sI_eq]
        rfl
      have c3 : s.1 3 = upd (x1.1 3) 0 (nI (A.1.1 + 1)) := by
        rw [hs, sI_eq, sI_ne (show 3 ≠ 4 by decide)]
        show upd (x1.1 3) 0 (x1.1 3 0 + 1) = _
        rw [e3, nI_1]
      have cJ : ∀ c, c ≠ 13 → s.2.1 c = x1.2.1 c := fun c cc => by
        rw [hs]
        exact sJ_ne cc
      have cJ13 : s.2.1 13 = vp_updL (x1.2.1 13) A.1.1 (pk8 (tw y N p1)) := by
        rw [hs]
        exact sJ_eq
      have cT : s.2.2 = x1.2.2 := by
        rw [hs]
        rfl
      clear hs
      have rs : rd8 y N s := rd8_c r1 (by rw [c2]) (cI 1 (by decide) (by decide)) cT
      have ts : s.1 2 5 = nI (te y N p1) := by rw [c2]; exact t1.1
      have Ps : P8 (aD A (tw y N p1) 0) s := by
        refine ⟨by rw [c3, up_eq]; rfl, by rw [c3, up_ne (by decide)]; exact P1.2.1, by rw [c3, up_ne (by decide)]; exact P1.2.2.1, by rw [c2]; exact P1.2.2.2.1, fun d hd => ?_, fun w hw => ?_⟩
        · rw [cJ13, c4]
          show (if d = A.1.1 then _ else _) = pk8 (if d = A.1.1 then _ else _) ∧ (if d = A.1.1 then _ else _) = (if d = A.1.1 then _ else _)
          by_cases q : d = A.1.1
          · rw [if_pos q, if_pos q, if_pos q, if_pos q]
            exact ⟨rfl, rfl⟩
          · rw [if_neg q, if_neg q, if_neg q, if_neg q]
            have hd' : d < A.1.1 + 1 := hd
            exact P1.2.2.2.2.1 d (by omega)
        · obtain ⟨a, b⟩ := P1.2.2.2.2.2 w hw
          refine ⟨by rw [cJ 12 (by decide)]; exact a, fun i hi => by rw [cI (5 + i) (by omega) (by omega)]; exact b i hi⟩
      have frs : FR8 σ s := FR8_tr (FR8_T f1) (fun c hc => ⟨cI c (by omega) (by omega), cJ c (by omega)⟩)
      refine tp_bind (c8_nx rs hp1 ts) (fun x6 hx6 => ?_)
      obtain ⟨f6, r6, hp2, t6⟩ := hx6
      have P6 := P8_T f6 Ps
      have fr6 : FR8 σ x6 := FR8_tr frs (FR8_T f6)
      generalize te y N p1 = p2 at *
      have gift : ∀ z g : Int32, (∀ v : Nat, z * nI v = if z = 1 then nI v else 0 - nI v) → TP ((f_X2_readToken x6).bind fun x10 => ((f_X2_isNumber (0 : Int32) (999 : Int32) x10).bind fun x11 => (if x11.1 = 0 then some ((0 : Int32), x11.2) else (if gj_in (nI A.1.1) 8 then ((f_X2_readToken (gj_sI x11.2 4 (upd (x11.2.1 4) A.1.1 (z * (Int64.toInt32 (x11.2.2.1 2 9)))))).bind fun x13 => some ((1 : Int32), x13)) else none)))) (fun x => RS8 y N σ (if nbF y N (te y N p2) 0 999 = 0 then .inr (aD A (tw y N p1) (if z = 1 then nI (tn y N (te y N p2)) else 0 - nI (tn y N (te y N p2))), te y N (te y N p2)) else .inl (8 * tq y N (te y N p2) + nbF y N (te y N p2) 0 999)) x) := by
        intro z g hz
        refine tp_bind (c8_nx r6 hp2 t6.1) (fun x10 hx10 => ?_)
        obtain ⟨f10, r10, hp3, t10⟩ := hx10
        have P10 := P8_T f10 P6
        generalize te y N p2 = p3 at *
        refine tp_beq (c8_nb (lo := 0) (hi := 999) t10 (by omega) (by omega)) ?_
        by_cases hnb : nbF y N p3 0 999 = 0
        · rw [if_pos hnb, if_pos hnb]
          have tk3 : tk y N p3 = 1 := by
            unfold nbF at hnb
            by_cases q : tk y N p3 = 1
            · exact q
            · rw [if_neg q] at hnb
              omega
          refine tp_f (show ¬ (1 : Int32) = 0 by decide) (tp_t gn ?_)
          dsimp only
          rw [t10.2.2.2.2 tk3, Int64.toInt32_ofNat', show Int32.ofNat (tn y N p3) = nI (tn y N p3) from rfl, hz]
          have e5 : (gj_sI x10 4 (upd (x10.1 4) A.1.1 (if z = 1 then nI (tn y N p3) else 0 - nI (tn y N p3)))).1 2 = x10.1 2 := sI_ne (by decide)
          refine tp_bind (c8_nx (rd8_c r10 (by rw [e5]) (sI_ne (by decide)) rfl) hp3 (by rw [e5]; exact t10.1)) (fun x13 hx13 => ?_)
          obtain ⟨f13, r13, hp4, t13⟩ := hx13
          refine tp_some ⟨rfl, r13, hp4, t13, P8_T f13 ?_, FR8_tr fr6 (FR8_tr (FR8_T f10) (FR8_tr (FR8_I (by omega)) (FR8_T f13)))⟩
          obtain ⟨a1, a2, a3, a4, a5, a6⟩ := P10
          refine ⟨by rw [sI_ne (by decide)]; exact a1, by rw [sI_ne (by decide)]; exact a2, by rw [sI_ne (by decide)]; exact a3, by rw [e5]; exact a4, fun d hd => ?_, fun w hw => ⟨(a6 w hw).1, fun i hi => by rw [sI_ne (by omega)]; exact (a6 w hw).2 i hi⟩⟩
          obtain ⟨b1, b2⟩ := a5 d hd
          refine ⟨b1, ?_⟩
          rw [sI_eq]
          show (if d = A.1.1 then _ else x10.1 4 d) = (if d = A.1.1 then _ else A.2.2.2.1 d)
          by_cases q : d = A.1.1
          · rw [if_pos q, if_pos q]
          · rw [if_neg q, if_neg q, b2]
            exact if_neg q
        · rw [if_neg hnb, if_neg hnb]
          exact tp_t rfl (tp_some (RS8_f (FR8_tr fr6 (FR8_T f10))))
      have w1 := c8_isW (i := 1) t6 (by omega)
      have w2 := c8_isW (i := 2) t6 (by omega)
      rw [show pk8 (ow 1) = 444150998387 by decide] at w1
      rw [show pk8 (ow 2) = 499850634611 by decide] at w2
      refine tp_beq w1 ?_
      cases hb1 : isW y N p2 1 with
      | true =>
        rw [hb1] at w1
        rw [if_pos (show true = true ∨ isW y N p2 2 = true from .inl rfl)]
        refine tp_f (by decide) (tp_beq w1 (tp_beq (x := 1) (by rw [if_neg (by decide)]) ?_))
        have := gift 1 0 (fun v => by rw [if_pos rfl, i32_p1])
        simp only [if_pos] at this ⊢
        exact this
      | false =>
        rw [hb1] at w1
        refine tp_t rfl (tp_beq w2 ?_)
        cases hb2 : isW y N p2 2 with
        | true =>
          rw [if_pos (show false = true ∨ true = true from .inr rfl)]
          refine tp_f (by decide) (tp_beq w1 (tp_beq (x := -1) (by rw [if_pos (by decide)]) ?_))
          have := gift (-1) 0 (fun v => by rw [if_neg (by decide), i32_m1])
          rw [if_neg (show ¬ (-1 : Int32) = 1 by decide)] at this
          rw [if_neg (show ¬ false = true by decide)]
          exact this
        | false =>
          rw [if_neg (show ¬ (false = true ∨ false = true) by decide)]
          exact tp_t rfl (tp_some ⟨rfl, r6, hp2, t6, P6, fr6⟩)
    · rw [if_neg hnm, if_neg hnm]
      exact tp_t rfl (tp_some (RS8_f (FR8_T f1)))
