/-! ===== text: routes and the rest, as the class reads them ===== -/
theorem c8_pw {y : Nat → Int32} {N p i : Nat} {σ : gj_S} (hr : rd8 y N σ) (hp : p ≤ N) (h : TK8 y N p σ) (hi : i < 7) : TP (f_X2_passWord (pk8 (ow i)) σ) (fun x => (isW y N p i = true ∧ x.1 = 1 ∧ fT8 σ x.2 ∧ rd8 y N x.2 ∧ te y N p ≤ N ∧ TK8 y N (te y N p) x.2) ∨ (isW y N p i = false ∧ x = (0, flt8 σ (8 * tq y N p + 1)))) := by
  unfold f_X2_passWord
  refine tp_beq (c8_isW h hi) ?_
  cases hb : isW y N p i with
  | true => exact tp_f (by decide) (tp_bind (c8_nx hr hp h.1) (fun z hz => tp_some (.inl ⟨rfl, rfl, hz⟩)))
  | false =>
    refine tp_t rfl ?_
    rw [show (1 : Int32) = nI 1 from rfl, c8_fl h]
    exact tp_beq rfl (tp_t (.inl rfl) (tp_some (.inr ⟨rfl, rfl⟩)))
def RR (A : pA) (nm : List Nat) (x : gj_S) : Prop := x.1 3 0 = nI A.1.1 ∧ x.1 3 1 = nI (A.1.2 + 1) ∧ x.1 3 2 = A.2.2.2.2.2.1 ∧ x.1 2 3 = bI A.2.2.2.2.2.2 ∧ (∀ d, d < A.1.1 → x.2.1 13 d = pk8 (A.2.1 d) ∧ x.1 4 d = A.2.2.2.1 d) ∧ (∀ w, w < A.1.2 → x.2.1 12 w = pk8 (A.2.2.1 w) ∧ ∀ i, i < 4 → x.1 (5 + i) w = A.2.2.2.2.1 i w) ∧ x.2.1 12 A.1.2 = pk8 nm
theorem RR_T {A : pA} {nm : List Nat} {σ τ : gj_S} (h : fT8 σ τ) (hP : RR A nm σ) : RR A nm τ := by
  unfold RR at hP ⊢
  rw [h.1 3 (by decide), h.2.1 3 (by decide) (by decide) (by decide), h.2.2.1 13 (by decide), h.1 4 (by decide), h.2.2.1 12 (by decide)]
  refine ⟨hP.1, hP.2.1, hP.2.2.1, hP.2.2.2.1, hP.2.2.2.2.1, fun w hw => ⟨(hP.2.2.2.2.2.1 w hw).1, fun i hi => ?_⟩, hP.2.2.2.2.2.2⟩
  rw [h.1 (5 + i) (by omega)]
  exact (hP.2.2.2.2.2.1 w hw).2 i hi
theorem RR_I {A : pA} {nm : List Nat} {σ : gj_S} {c : Nat} {v : Int32} (hc : 5 ≤ c ∧ c ≤ 8) (hP : RR A nm σ) : RR A nm (gj_sI σ c (upd (σ.1 c) A.1.2 v)) := by
  unfold RR at hP ⊢
  rw [sI_ne (show 3 ≠ c by omega), sI_ne (show 2 ≠ c by omega), sI_ne (show 4 ≠ c by omega)]
  refine ⟨hP.1, hP.2.1, hP.2.2.1, hP.2.2.2.1, hP.2.2.2.2.1, fun w hw => ⟨(hP.2.2.2.2.2.1 w hw).1, fun i hi => ?_⟩, hP.2.2.2.2.2.2⟩
  by_cases q : 5 + i = c
  · rw [← q, sI_eq, up_ne (by omega)]
    exact (hP.2.2.2.2.2.1 w hw).2 i hi
  · rw [sI_ne q]
    exact (hP.2.2.2.2.2.1 w hw).2 i hi
theorem c8_nums {y : Nat → Int32} {N p4 : Nat} {A : pA} {nm : List Nat} {b e : Int32} {σ x : gj_S} (hr : rd8 y N x) (hp : p4 ≤ N) (h : TK8 y N p4 x) (hR : RR A nm x) (hb : x.1 5 A.1.2 = b) (he : x.1 6 A.1.2 = e) (hnr : A.1.2 < 16) (hfr : FR8 σ x) : TP (f_X2_readNumbers (nI A.1.2) x) (fun z => RS8 y N σ (linN y N A nm b e p4 (te y N p4) (te y N (te y N p4)) (te y N (te y N (te y N p4)))) z) := by
  have g24 : gj_in (nI A.1.2) 24 := gi (by omega) (by omega)
  unfold f_X2_readNumbers linN
  rw [show (427071599731 : Int64) = pk8 (ow 4) by decide, show (448545973363 : Int64) = pk8 (ow 5) by decide]
  simp only [nI_clamp (show A.1.2 < 2 ^ 31 by omega)]
  refine tp_bind (c8_pw (i := 4) hr hp h (by omega)) (fun x1 hx1 => ?_)
  rcases hx1 with ⟨w4, e1, f1, r1, hp5, t1⟩ | ⟨w4, rfl⟩
  · rw [if_pos w4]
    generalize te y N p4 = p5 at *
    refine tp_f (by rw [e1]; decide) (tp_beq (c8_nb (lo := 0) (hi := 999) t1 (by omega) (by omega)) ?_)
    by_cases hnb : nbF y N p5 0 999 = 0
    · rw [if_pos hnb, if_pos hnb]
      have tk5 : tk y N p5 = 1 := by
        unfold nbF at hnb
        by_cases q : tk y N p5 = 1
        · exact q
        · rw [if_neg q] at hnb
          omega
      refine tp_f (show ¬ (1 : Int32) = 0 by decide) (tp_t g24 ?_)
      dsimp only
      rw [t1.2.2.2.2 tk5, Int64.toInt32_ofNat', show Int32.ofNat (tn y N p5) = nI (tn y N p5) from rfl]
      have R1 := RR_I (c := 7) (v := nI (tn y N p5)) (by omega) (RR_T f1 hR)
      have e72 : (gj_sI x1.2 7 (upd (x1.2.1 7) A.1.2 (nI (tn y N p5)))).1 2 = x1.2.1 2 := sI_ne (by decide)
      have b5 : (gj_sI x1.2 7 (upd (x1.2.1 7) A.1.2 (nI (tn y N p5)))).1 5 A.1.2 = b := by rw [sI_ne (by decide), f1.1 5 (by decide), hb]
      have b6 : (gj_sI x1.2 7 (upd (x1.2.1 7) A.1.2 (nI (tn y N p5)))).1 6 A.1.2 = e := by rw [sI_ne (by decide), f1.1 6 (by decide), he]
      have b7 : (gj_sI x1.2 7 (upd (x1.2.1 7) A.1.2 (nI (tn y N p5)))).1 7 A.1.2 = nI (tn y N p5) := by rw [sI_eq, up_eq]
      have fr2 : FR8 σ (gj_sI x1.2 7 (upd (x1.2.1 7) A.1.2 (nI (tn y N p5)))) := FR8_tr hfr (FR8_tr (FR8_T f1) (FR8_I (by omega)))
      have rr2 : rd8 y N (gj_sI x1.2 7 (upd (x1.2.1 7) A.1.2 (nI (tn y N p5)))) := rd8_c r1 (by rw [e72]) (sI_ne (by decide)) rfl
      have tt2 : (gj_sI x1.2 7 (upd (x1.2.1 7) A.1.2 (nI (tn y N p5)))).1 2 5 = nI (te y N p5) := by rw [e72]; exact t1.1
      generalize gj_sI x1.2 7 (upd (x1.2.1 7) A.1.2 (nI (tn y N p5))) = s2 at R1 b5 b6 b7 fr2 rr2 tt2 ⊢
      refine tp_bind (c8_nx rr2 hp5 tt2) (fun x4 hx4 => ?_)
      obtain ⟨f4, r4, hp6, t4⟩ := hx4
      generalize te y N p5 = p6 at *
      have R4 := RR_T f4 R1
      have fr4 := FR8_tr fr2 (FR8_T f4)
      refine tp_bind (c8_pw (i := 5) r4 hp6 t4 (by omega)) (fun x5 hx5 => ?_)
      rcases hx5 with ⟨w6, e5, f5, r5, hp7, t5⟩ | ⟨w6, rfl⟩
      · rw [if_pos w6]
        generalize te y N p6 = p7 at *
        refine tp_f (by rw [e5]; decide) (tp_beq (c8_nb (lo := 1) (hi := 999) t5 (by omega) (by omega)) ?_)
        by_cases hnb7 : nbF y N p7 1 999 = 0
        · rw [if_pos hnb7, if_pos hnb7]
          have tk7 : tk y N p7 = 1 := by
            unfold nbF at hnb7
            by_cases q : tk y N p7 = 1
            · exact q
            · rw [if_neg q] at hnb7
              omega
          refine tp_f (show ¬ (1 : Int32) = 0 by decide) (tp_t g24 ?_)
          dsimp only
          rw [t5.2.2.2.2 tk7, Int64.toInt32_ofNat', show Int32.ofNat (tn y N p7) = nI (tn y N p7) from rfl]
          have R5 := RR_T f5 R4
          have e82 : (gj_sI x5.2 8 (upd (x5.2.1 8) A.1.2 (nI (tn y N p7)))).1 2 = x5.2.1 2 := sI_ne (by decide)
          refine tp_bind (c8_nx (rd8_c r5 (by rw [e82]) (sI_ne (by decide)) rfl) hp7 (by rw [e82]; exact t5.1)) (fun x8 hx8 => ?_)
          obtain ⟨f8, r8, hp8, t8⟩ := hx8
          refine tp_some ⟨rfl, r8, hp8, t8, P8_T f8 ?_, FR8_tr fr4 (FR8_tr (FR8_T f5) (FR8_tr (FR8_I (by omega)) (FR8_T f8)))⟩
          obtain ⟨a1, a2, a3, a4, a5, a6, a7⟩ := RR_I (c := 8) (v := nI (tn y N p7)) (by omega) R5
          refine ⟨a1, a2, a3, a4, a5, fun w hw => ?_⟩
          by_cases q : w = A.1.2
          · subst q
            refine ⟨?_, fun i hi => ?_⟩
            · rw [a7]
              show _ = pk8 (if A.1.2 = A.1.2 then nm else _)
              rw [if_pos rfl]
            · show _ = (if A.1.2 = A.1.2 then (if i = 0 then b else if i = 1 then e else if i = 2 then nI (tn y N p5) else nI (tn y N p7)) else _)
              rw [if_pos rfl]
              have hc : i = 0 ∨ i = 1 ∨ i = 2 ∨ i = 3 := by omega
              rcases hc with rfl | rfl | rfl | rfl
              · rw [sI_ne (by decide), f5.1 (5 + 0) (by decide), f4.1 (5 + 0) (by decide)]
                exact b5
              · rw [sI_ne (by decide), f5.1 (5 + 1) (by decide), f4.1 (5 + 1) (by decide)]
                exact b6
              · rw [sI_ne (by decide), f5.1 (5 + 2) (by decide), f4.1 (5 + 2) (by decide)]
                exact b7
              · rw [show (5 + 3 : Nat) = 8 from rfl, sI_eq, up_eq]
                rfl
          · have hw' : w < A.1.2 + 1 := hw
            obtain ⟨c1, c2⟩ := a6 w (by omega)
            refine ⟨?_, fun i hi => ?_⟩
            · rw [c1]
              show _ = pk8 (if w = A.1.2 then nm else _)
              rw [if_neg q]
            · rw [c2 i hi]
              show _ = (if w = A.1.2 then _ else _)
              rw [if_neg q]
        · rw [if_neg hnb7, if_neg hnb7]
          exact tp_t rfl (tp_some (RS8_f (FR8_tr fr4 (FR8_T f5))))
      · rw [if_neg (show ¬ isW y N p6 5 = true by rw [w6]; decide)]
        exact tp_t rfl (tp_some (RS8_f fr4))
    · rw [if_neg hnb, if_neg hnb]
      exact tp_t rfl (tp_some (RS8_f (FR8_tr hfr (FR8_T f1))))
  · rw [if_neg (show ¬ isW y N p4 4 = true by rw [w4]; decide)]
    exact tp_t rfl (tp_some (RS8_f hfr))
theorem dkF_0 {y : Nat → Int32} {N p : Nat} {A : pA} {but : Int32} (h : dkF y N p A but = 0) : ¬ oI (fdN y N p A) = -1 ∧ ¬ oI (fdN y N p A) = but := by
  unfold dkF at h
  cases hb : isN y N p with
  | false =>
    rw [hb, if_pos rfl] at h
    omega
  | true =>
    rw [hb, if_neg (by decide)] at h
    by_cases q : oI (fdN y N p A) = -1 ∨ oI (fdN y N p A) = but
    · rw [if_pos q] at h
      omega
    · exact ⟨fun e => q (.inl e), fun e => q (.inr e)⟩
theorem c8_rname {y : Nat → Int32} {N p : Nat} {A : pA} {σ : gj_S} (hr : rd8 y N σ) (hp : p ≤ N) (h : TK8 y N p σ) (hP : P8 A σ) (hW : WF A) {p1 : Nat} (q1 : p1 = te y N p) : TP (f_X2_readRouteName (nI A.1.2) σ) (fun x => (16 ≤ A.1.2 ∧ RS8 y N σ (.inl (8 * tq y N p + 5)) x) ∨ (¬ 16 ≤ A.1.2 ∧ nmF y N p1 A ≠ 0 ∧ RS8 y N σ (.inl (8 * tq y N p1 + nmF y N p1 A)) x) ∨ (¬ 16 ≤ A.1.2 ∧ nmF y N p1 A = 0 ∧ x.1 = 1 ∧ rd8 y N x.2 ∧ p1 ≤ N ∧ x.2.1 2 5 = nI (te y N p1) ∧ RR A (tw y N p1) x.2 ∧ FR8 σ x.2)) := by
  have hN := hr.1
  have hr16 := hW.2.1
  unfold f_X2_readRouteName
  by_cases hn : 16 ≤ A.1.2
  · refine tp_f (nI_nlt (b := 16) hn (by omega)) ?_
    rw [show (5 : Int32) = nI 5 from rfl, c8_fl h]
    exact tp_beq rfl (tp_t (.inl rfl) (tp_some (.inl ⟨hn, RS8_f FR8_rf⟩)))
  · refine tp_t (nI_lt (b := 16) (by omega) (by omega)) (tp_bind (c8_nx hr hp h.1) (fun x1 hx1 => ?_))
    rw [← q1] at hx1
    obtain ⟨f1, r1, hp1, t1⟩ := hx1
    have P1 := P8_T f1 hP
    refine tp_beq (c8_nn t1 P1 hW) ?_
    by_cases hnm : nmF y N p1 A = 0
    · rw [if_pos hnm]
      have e31 : x1.1 3 1 = nI A.1.2 := P1.2.1
      have g16 : gj_in (nI A.1.2) 16 := gi (by omega) (by omega)
      have g24 : gj_in (nI A.1.2) 24 := gi (by omega) (by omega)
      have tk1 : tk y N p1 = 0 := by
        unfold nmF at hnm
        cases hb : isN y N p1 with
        | true => exact isN_0 hb
        | false =>
          rw [hb, if_pos rfl] at hnm
          omega
      have ev : x1.2.1 2 9 = pk8 (tw y N p1) := t1.2.2.2.1 tk1
      refine tp_f (show ¬ (1 : Int32) = 0 by decide) ?_
      dsimp only
      rw [ev]
      refine tp_t g16 (tp_beq rfl ?_)
      simp only [nI_clamp (show A.1.2 < 2 ^ 31 by omega)]
      obtain ⟨s, hs⟩ : ∃ s, s = gj_sI (gj_sJ x1 12 (vp_updL (x1.2.1 12) A.1.2 (pk8 (tw y N p1)))) 3 (upd ((gj_sJ x1 12 (vp_updL (x1.2.1 12) A.1.2 (pk8 (tw y N p1)))).1 3) 1 ((gj_sJ x1 12 (vp_updL (x1.2.1 12) A.1.2 (pk8 (tw y N p1)))).1 3 1 + 1)) := ⟨_, rfl⟩
      rw [← hs]
      have cI : ∀ c, c ≠ 3 → s.1 c = x1.1 c := fun c c3 => by
        rw [hs, sI_ne c3]
        rfl
      have c3 : s.1 3 = upd (x1.1 3) 1 (nI (A.1.2 + 1)) := by
        rw [hs, sI_eq]
        show upd (x1.1 3) 1 (x1.1 3 1 + 1) = _
        rw [e31, nI_1]
      have cJ : ∀ c, c ≠ 12 → s.2.1 c = x1.2.1 c := fun c cc => by
        rw [hs]
        exact sJ_ne cc
      have cJ12 : s.2.1 12 = vp_updL (x1.2.1 12) A.1.2 (pk8 (tw y N p1)) := by
        rw [hs]
        exact sJ_eq
      have cT : s.2.2 = x1.2.2 := by
        rw [hs]
        rfl
      clear hs
      have rs : rd8 y N s := rd8_c r1 (by rw [cI 2 (by decide)]) (cI 1 (by decide)) cT
      have ts : s.1 2 5 = nI (te y N p1) := by rw [cI 2 (by decide)]; exact t1.1
      have Rs : RR A (tw y N p1) s := by
        refine ⟨by rw [c3, up_ne (by decide)]; exact P1.1, by rw [c3, up_eq], by rw [c3, up_ne (by decide)]; exact P1.2.2.1, by rw [cI 2 (by decide)]; exact P1.2.2.2.1, fun d hd => ?_, fun w hw => ?_, by rw [cJ12, uL_eq]⟩
        · rw [cJ 13 (by decide), cI 4 (by decide)]
          exact P1.2.2.2.2.1 d hd
        · obtain ⟨a, b⟩ := P1.2.2.2.2.2 w hw
          refine ⟨by rw [cJ12, uL_ne (by omega)]; exact a, fun i hi => by rw [cI (5 + i) (by omega)]; exact b i hi⟩
      have frs : FR8 σ s := FR8_tr (FR8_T f1) (fun c hc => ⟨cI c (by omega), cJ c (by omega)⟩)
      exact tp_some (.inr (.inr ⟨hn, hnm, rfl, rs, hp1, ts, Rs, frs⟩))
    · rw [if_neg hnm]
      exact tp_t rfl (tp_some (.inr (.inl ⟨hn, hnm, RS8_f (FR8_T f1)⟩)))
def fo_route (σ : gj_S) : Option (Int32 × gj_S) := ((f_X2_readRouteName (σ.1 3 1) σ).bind fun x7 => (if x7.1 = 0 then some ((0 : Int32), x7.2) else ((f_X2_readEnds (σ.1 3 1) x7.2).bind fun x8 => (if x8.1 = 0 then some ((0 : Int32), x8.2) else ((f_X2_readNumbers (σ.1 3 1) x8.2).bind fun x9 => (if x9.1 = 0 then some ((0 : Int32), x9.2) else some ((1 : Int32), x9.2)))))))
theorem c8_route {y : Nat → Int32} {N p : Nat} {A : pA} {σ : gj_S} (hr : rd8 y N σ) (hp : p ≤ N) (h : TK8 y N p σ) (hP : P8 A σ) (hW : WF A) {p1 p2 p3 p4 : Nat} (q1 : p1 = te y N p) (q2 : p2 = te y N p1) (q3 : p3 = te y N p2) (q4 : p4 = te y N p3) : TP (fo_route σ) (fun x => RS8 y N σ (linR y N A p p1 p2 p3 p4 (te y N p4) (te y N (te y N p4)) (te y N (te y N (te y N p4)))) x) := by
  have hN := hr.1
  have hr16 := hW.2.1
  unfold fo_route linR
  rw [hP.2.1]
  refine tp_bind (c8_rname hr hp h hP hW q1) (fun x7 hx7 => ?_)
  rcases hx7 with ⟨hn, e⟩ | ⟨hn, hnm, e⟩ | ⟨hn, hnm, e1, rs, hp1, ts, Rs, frs⟩
  · rw [if_pos hn]
    exact tp_t e.1 (tp_some ⟨rfl, e.2.1, e.2.2⟩)
  · rw [if_neg hn, if_neg hnm]
    exact tp_t e.1 (tp_some ⟨rfl, e.2.1, e.2.2⟩)
  · rw [if_neg hn, if_pos hnm]
    obtain ⟨b7, s⟩ := x7
    dsimp only at e1 rs ts Rs frs ⊢
    subst e1
    refine tp_f (show ¬ (1 : Int32) = 0 by decide) ?_
    have g24 : gj_in (nI A.1.2) 24 := gi (by omega) (by omega)
    -- its ends
    have ends : TP (f_X2_readEnds (nI A.1.2) s) (fun x => (dkF y N p2 A (-1) ≠ 0 ∧ RS8 y N σ (.inl (8 * tq y N p2 + dkF y N p2 A (-1))) x) ∨ (dkF y N p2 A (-1) = 0 ∧ dkF y N p3 A (oI (fdN y N p2 A)) ≠ 0 ∧ RS8 y N σ (.inl (8 * tq y N p3 + dkF y N p3 A (oI (fdN y N p2 A)))) x) ∨ (dkF y N p2 A (-1) = 0 ∧ dkF y N p3 A (oI (fdN y N p2 A)) = 0 ∧ x.1 = 1 ∧ rd8 y N x.2 ∧ p4 ≤ N ∧ TK8 y N p4 x.2 ∧ RR A (tw y N p1) x.2 ∧ x.2.1 5 A.1.2 = oI (fdN y N p2 A) ∧ x.2.1 6 A.1.2 = oI (fdN y N p3 A) ∧ FR8 σ x.2)) := by
      unfold f_X2_readEnds
      simp only [nI_clamp (show A.1.2 < 2 ^ 31 by omega)]
      refine tp_bind (c8_nx rs hp1 ts) (fun y1 hy1 => ?_)
      rw [← q2] at hy1
      obtain ⟨g1, s1, hp2, u1⟩ := hy1
      have R1 := RR_T g1 Rs
      refine tp_beq (c8_fd (-1) u1 R1.1 (fun d hd => (R1.2.2.2.2.1 d hd).1) hW) ?_
      by_cases hd : dkF y N p2 A (-1) = 0
      · rw [if_pos hd]
        refine tp_f (dkF_0 hd).1 (tp_bind (c8_nx s1 hp2 u1.1) (fun y2 hy2 => ?_))
        rw [← q3] at hy2
        obtain ⟨g2, s2, hp3, u2⟩ := hy2
        have R2 := RR_T g2 R1
        refine tp_beq (c8_fd (oI (fdN y N p2 A)) u2 R2.1 (fun d hd => (R2.2.2.2.2.1 d hd).1) hW) ?_
        by_cases hd2 : dkF y N p3 A (oI (fdN y N p2 A)) = 0
        · rw [if_pos hd2]
          refine tp_f (dkF_0 hd2).1 (tp_t g24 (tp_t g24 (tp_beq rfl ?_)))
          dsimp only
          have R3 := RR_I (c := 6) (v := oI (fdN y N p3 A)) (by omega) (RR_I (c := 5) (v := oI (fdN y N p2 A)) (by omega) R2)
          have e62 : (gj_sI (gj_sI y2 5 (upd (y2.1 5) A.1.2 (oI (fdN y N p2 A)))) 6 (upd ((gj_sI y2 5 (upd (y2.1 5) A.1.2 (oI (fdN y N p2 A)))).1 6) A.1.2 (oI (fdN y N p3 A)))).1 2 = y2.1 2 := by rw [sI_ne (by decide), sI_ne (by decide)]
          have e65 : (gj_sI (gj_sI y2 5 (upd (y2.1 5) A.1.2 (oI (fdN y N p2 A)))) 6 (upd ((gj_sI y2 5 (upd (y2.1 5) A.1.2 (oI (fdN y N p2 A)))).1 6) A.1.2 (oI (fdN y N p3 A)))).1 5 A.1.2 = oI (fdN y N p2 A) := by rw [sI_ne (by decide), sI_eq, up_eq]
          have e66 : (gj_sI (gj_sI y2 5 (upd (y2.1 5) A.1.2 (oI (fdN y N p2 A)))) 6 (upd ((gj_sI y2 5 (upd (y2.1 5) A.1.2 (oI (fdN y N p2 A)))).1 6) A.1.2 (oI (fdN y N p3 A)))).1 6 A.1.2 = oI (fdN y N p3 A) := by rw [sI_eq, up_eq]
          have e61 : (gj_sI (gj_sI y2 5 (upd (y2.1 5) A.1.2 (oI (fdN y N p2 A)))) 6 (upd ((gj_sI y2 5 (upd (y2.1 5) A.1.2 (oI (fdN y N p2 A)))).1 6) A.1.2 (oI (fdN y N p3 A)))).1 1 = y2.1 1 := by rw [sI_ne (by decide), sI_ne (by decide)]
          refine tp_bind (c8_nx (rd8_c s2 (by rw [e62]) e61 rfl) hp3 (by rw [e62]; exact u2.1)) (fun y3 hy3 => ?_)
          rw [← q4] at hy3
          obtain ⟨g3, s3, hp4, u3⟩ := hy3
          refine tp_some (.inr (.inr ⟨hd, hd2, rfl, s3, hp4, u3, RR_T g3 R3, ?_, ?_, FR8_tr frs (FR8_tr (FR8_T g1) (FR8_tr (FR8_T g2) (FR8_tr (FR8_I (by omega)) (FR8_tr (FR8_I (by omega)) (FR8_T g3)))))⟩))
          · rw [g3.1 5 (by decide), e65]
          · rw [g3.1 6 (by decide), e66]
        · rw [if_neg hd2]
          exact tp_t rfl (tp_some (.inr (.inl ⟨hd, hd2, RS8_f (FR8_tr frs (FR8_tr (FR8_T g1) (FR8_T g2)))⟩)))
      · rw [if_neg hd]
        exact tp_t rfl (tp_some (.inl ⟨hd, RS8_f (FR8_tr frs (FR8_T g1))⟩))
    refine tp_bind ends (fun x5 hx5 => ?_)
    rcases hx5 with ⟨a1, a2⟩ | ⟨a1, a2, a3⟩ | ⟨a1, a2, a3, a4, a5, a6, a7, a8, a9, a10⟩
    · rw [if_neg a1]
      exact tp_t a2.1 (tp_some ⟨rfl, a2.2.1, a2.2.2⟩)
    · rw [if_pos a1, if_neg a2]
      exact tp_t a3.1 (tp_some ⟨rfl, a3.2.1, a3.2.2⟩)
    · rw [if_pos a1, if_pos a2]
      refine tp_f (by rw [a3]; decide) (tp_bind (c8_nums a4 a5 a6 a7 a8 a9 (by omega) a10) (fun x6 hx6 => ?_))
      generalize linN y N A (tw y N p1) (oI (fdN y N p2 A)) (oI (fdN y N p3 A)) p4 (te y N p4) (te y N (te y N p4)) (te y N (te y N (te y N p4))) = res at hx6 ⊢
      cases res with
      | inl F => exact tp_t hx6.1 (tp_some ⟨rfl, hx6.2⟩)
      | inr r => exact tp_f (by rw [hx6.1]; decide) (tp_some ⟨rfl, hx6.2⟩)
theorem c8_block {y : Nat → Int32} {N p : Nat} {A : pA} {σ : gj_S} (hr : rd8 y N σ) (hp : p ≤ N) (h : TK8 y N p σ) (hP : P8 A σ) : TP (f_X2_readBlock σ) (fun x => RS8 y N σ (linB y N A p (te y N p)) x) := by
  unfold f_X2_readBlock linB
  rw [hP.2.2.2.1]
  cases hb : A.2.2.2.2.2.2 with
  | true =>
    rw [if_pos (show true = true from rfl)]
    refine tp_f (by decide) ?_
    rw [show (2 : Int32) = nI 2 from rfl, c8_fl h]
    exact tp_beq rfl (tp_t (.inl rfl) (tp_some (RS8_f FR8_rf)))
  | false =>
    rw [if_neg (show ¬ false = true by decide)]
    have e26 : (gj_sI σ 2 (upd (σ.1 2) 3 1)).1 2 6 = σ.1 2 6 := by rw [sI_eq, up_ne (by decide)]
    have e25 : (gj_sI σ 2 (upd (σ.1 2) 3 1)).1 2 5 = σ.1 2 5 := by rw [sI_eq, up_ne (by decide)]
    refine tp_t rfl (tp_bind (c8_nx (rd8_c hr e26 (sI_ne (by decide)) rfl) hp (by rw [e25]; exact h.1)) (fun x1 hx1 => ?_))
    obtain ⟨f1, r1, hp1, t1⟩ := hx1
    generalize te y N p = p1 at *
    have fr1 : FR8 σ x1 := FR8_tr (FR8_I (by omega)) (FR8_T f1)
    refine tp_beq (c8_nb (lo := 1) (hi := 24) t1 (by omega) (by omega)) ?_
    by_cases hnb : nbF y N p1 1 24 = 0
    · rw [if_pos hnb, if_pos hnb]
      have tk5 : tk y N p1 = 1 := by
        unfold nbF at hnb
        by_cases q : tk y N p1 = 1
        · exact q
        · rw [if_neg q] at hnb
          omega
      refine tp_f (show ¬ (1 : Int32) = 0 by decide) ?_
      dsimp only
      rw [t1.2.2.2.2 tk5, Int64.toInt32_ofNat', show Int32.ofNat (tn y N p1) = nI (tn y N p1) from rfl]
      have e32 : (gj_sI x1 3 (upd (x1.1 3) 2 (nI (tn y N p1)))).1 2 = x1.1 2 := sI_ne (by decide)
      refine tp_bind (c8_nx (rd8_c r1 (by rw [e32]) (sI_ne (by decide)) rfl) hp1 (by rw [e32]; exact t1.1)) (fun x3 hx3 => ?_)
      obtain ⟨f3, r3, hp2, t3⟩ := hx3
      refine tp_some ⟨rfl, r3, hp2, t3, P8_T f3 ?_, FR8_tr fr1 (FR8_tr (FR8_I (by omega)) (FR8_T f3))⟩
      have k3 : x1.1 3 = σ.1 3 := by rw [f1.1 3 (by decide), sI_ne (by decide)]
      refine ⟨by rw [sI_eq, up_ne (by decide), k3]; exact hP.1, by rw [sI_eq, up_ne (by decide), k3]; exact hP.2.1, by rw [sI_eq, up_eq]; rfl, ?_, fun d hd => ?_, fun w hw => ⟨?_, fun i hi => ?_⟩⟩
      · rw [e32, f1.2.1 3 (by decide) (by decide) (by decide), sI_eq, up_eq]
        rfl
      · rw [sI_ne (by decide), f1.1 4 (by decide), sI_ne (by decide)]
        show x1.2.1 13 d = _ ∧ _
        rw [f1.2.2.1 13 (by decide)]
        exact hP.2.2.2.2.1 d hd
      · show x1.2.1 12 w = _
        rw [f1.2.2.1 12 (by decide)]
        exact (hP.2.2.2.2.2 w hw).1
      · rw [sI_ne (by omega), f1.1 (5 + i) (by omega), sI_ne (by omega)]
        exact (hP.2.2.2.2.2 w hw).2 i hi
    · rw [if_neg hnb, if_neg hnb]
      exact tp_t rfl (tp_some (RS8_f fr1))
