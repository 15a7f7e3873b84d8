/-! ===== the class: one pivot, all of it ===== -/
theorem gS_r {n r : Nat} {b0 e0 : Nat → Nat} (h : gS n r b0 e0) : ∃ σ, rS n r b0 e0 σ := by
  refine ⟨(fun c j => if c = 190 then nI n else if c = 191 then nI r else if c = 194 then nI (b0 j) else nI (e0 j), fun _ _ => 0, 0), h.1, h.2.1, rfl, rfl, fun w hw => ⟨rfl, rfl, h.2.2 w hw⟩⟩
set_option maxHeartbeats 4000000 in
theorem c8_pivot {n r y F P : Nat} {b0 e0 : Nat → Nat} {s : Nat → Int32} {up par rk dp : Nat → Nat} {pr : Nat → Int32} {σ : gj_S} (h : cL n r b0 e0 s up par rk dp pr y σ) (hf : fP n r F s) (hF : F < 2 ^ 29) (hP4 : σ.1 (y + 1) 4 = nI P) (hPb : P < 2 ^ 30) {b p a : Nat} {best : Option Nat} (hb1 : 1 ≤ b) (hb : b ≤ 24) (hs : s 40 = nI b) (hp : s 41 = nI p) (hp2 : p < r + n ∨ (p = 0 ∧ r + n = 0)) (hE : enS b (r + n) (vG r b0 e0 s pr) (rG r b0 e0 s pr) (r + n) 0 p none = (a, best)) (hV : enV (r + n) (vG r b0 e0 s pr) best) :
    (best = none → f_X7_makePivot y σ = some (-1, gj_sI σ y (upd (σ.1 y) 3 (nI a)))) ∧
    (∀ w, best = some w → ∀ i j lv up2 par2 rk2 dp2 pr2 s', tap par (vA r b0 e0 s w) (vB r b0 e0 s w) i j → lmin (fun k => vr r s 1000000000 w (rgW up par w (vA r b0 e0 s w) (vB r b0 e0 s w) i k) (rgL (vb r b0 s) up par (vE s w) (vA r b0 e0 s w) (vB r b0 e0 s w) i k)) (i + 1 + j) lv → pvR n r b0 e0 s up par pr pr2 a w i j lv s' → rT n r b0 e0 s' up2 par2 rk2 dp2 pr2 →
      TP (f_X7_makePivot y σ) (fun x => x.1 = nI w ∧ smC y (y + 18) σ x.2 ∧ cL n r b0 e0 s' up2 par2 rk2 dp2 pr2 y x.2 ∧ x.2.1 (y + 1) 4 = nI (P + 1) ∧ (∀ p, p < 5 → x.2.1 (y + 1 + 8) (5 * (P % 16) + p) = s' (100 + p)) ∧ ∀ k, (∀ p, p < 5 → k ≠ 5 * (P % 16) + p) → x.2.1 (y + 1 + 8) k = σ.1 (y + 1 + 8) k)) := by
  have hn := h.1.1
  have hr := h.1.2.1
  have hent := c8_enter h hb hb1 hs hp hp2 hE
  refine ⟨fun q => ?_, fun w q i j lv up2 par2 rk2 dp2 pr2 s' ht hl0 hR hT' => ?_⟩
  · subst q
    unfold f_X7_makePivot
    rw [hent]
    rfl
  · subst q
    obtain ⟨hw, hG⟩ := hV w rfl
    obtain ⟨hg, hpm, hT, ht8, hcc, hw3⟩ := h
    obtain ⟨σr, hSr⟩ := gS_r hg
    have hst : s (74 + w) = 1 ∨ s (74 + w) = 2 := by
      unfold vG at hG
      rcases Bool.or_eq_true_iff.mp hG with q | q
      · exact .inl (by simpa using (Bool.and_eq_true_iff.mp q).1)
      · exact .inr (by simpa using (Bool.and_eq_true_iff.mp q).1)
    have hwT : ¬ vT s w := by
      unfold vT
      rcases hst with q | q
      · rw [q]; decide
      · rw [q]; decide
    have hC := hT.1.1
    obtain ⟨hA, hB⟩ := gA_pl (s := s) hg hw
    have hhold : ∀ w, w < r → ∃ c, c ≤ 999 ∧ s (24 + w) = nI c := fun v hv => by
      obtain ⟨f, g, -, g2, -, g4, -⟩ := hf.1 v hv
      exact ⟨g, g4, g2⟩
    -- the pointer is set
    have r1 : rwE s (upd s 41 (nI a)) := ⟨fun q h1 h2 => if_neg (by omega), fun q h1 h2 => if_neg (by omega)⟩
    obtain ⟨u1, u2, u3, u4, u5⟩ := up41 (r := r) (b0 := b0) (e0 := e0) (s := s) (x := nI a) hr
    have u6 : ∀ q, q ≠ 41 → upd s 41 (nI a) q = s q := fun q hq => if_neg hq
    have hT1 : rT n r b0 e0 (upd s 41 (nI a)) up par rk dp pr := rT_cg hSr r1 (fun v _ => by unfold vT; rw [u4]) hT
    have s1 : smC y (y + 18) σ (gj_sI (gj_sI σ y (upd (σ.1 y) 3 (nI a))) (y + 1) (upd (σ.1 (y + 1)) 3 (nI a))) := smC_I (by omega) (by omega) (smC_I (by omega) (by omega) smC_rf)
    have c1 : ∀ k, k ≠ y → k ≠ y + 1 → (gj_sI (gj_sI σ y (upd (σ.1 y) 3 (nI a))) (y + 1) (upd (σ.1 (y + 1)) 3 (nI a))).1 k = σ.1 k := fun k k1 k2 => by rw [sI_ne k2, sI_ne k1]
    have c2 : (gj_sI (gj_sI σ y (upd (σ.1 y) 3 (nI a))) (y + 1) (upd (σ.1 (y + 1)) 3 (nI a))).1 (y + 1) = upd (σ.1 (y + 1)) 3 (nI a) := sI_eq
    have hL1 : cL n r b0 e0 (upd s 41 (nI a)) up par rk dp pr y (gj_sI (gj_sI σ y (upd (σ.1 y) 3 (nI a))) (y + 1) (upd (σ.1 (y + 1)) 3 (nI a))) := by
      refine ⟨hg, ?_, hT1, ?_, fun v hv => by rw [u6 _ (by omega)]; exact hcc v hv, fun v hv => by rw [u4]; exact hw3 v hv⟩
      · obtain ⟨m1, m2, m3, m4, m5, m6⟩ := hpm
        unfold pm
        rw [c2, c1 (y + 1 + 1) (by omega) (by omega), c1 (y + 1 + 2) (by omega) (by omega), c1 (y + 1 + 3) (by omega) (by omega), c1 (y + 1 + 4) (by omega) (by omega), c1 (y + 1 + 5) (by omega) (by omega), c1 (y + 1 + 6) (by omega) (by omega), c1 (y + 1 + 7) (by omega) (by omega)]
        refine ⟨m1, m2, by rw [u6 40 (by omega)]; exact m3, rfl, fun d hd => by rw [u6 d (by omega)]; exact m5 d hd, fun v hv => ?_⟩
        obtain ⟨k1, k2, k3, k4, k5, k6⟩ := m6 v hv
        rw [u1, u2, (rwE_b hSr r1 hv).2.2, u4, u5]
        refine ⟨k1, k2, k3, ?_, k5, k6⟩
        rw [k4]
        by_cases q : v < r
        · rw [if_pos q, if_pos q, u6 _ (by omega)]
        · rw [if_neg q, if_neg q]
      · unfold t8 at ht8 ⊢
        rw [c1 (y + 10 + 1) (by omega) (by omega), c1 (y + 10 + 2) (by omega) (by omega), c1 (y + 10 + 3) (by omega) (by omega), c1 (y + 10 + 4) (by omega) (by omega)]
        exact ht8
    have uA : vA r b0 e0 (upd s 41 (nI a)) w = vA r b0 e0 s w := by unfold vA; rw [u1, u2, u4]
    have uB : vB r b0 e0 (upd s 41 (nI a)) w = vB r b0 e0 s w := by unfold vB; rw [u1, u2, u4]
    have uE : vE (upd s 41 (nI a)) w = vE s w := by unfold vE; rw [u4]
    have hWm : ∀ k, k < i + 1 + j → rgW up par w (vA r b0 e0 s w) (vB r b0 e0 s w) i k < r + n := fun k hk => rgW_lt hC hw hA hB ht hk
    have hWj : ∀ k l, k < l → l < i + 1 + j → rgW up par w (vA r b0 e0 s w) (vB r b0 e0 s w) i k ≠ rgW up par w (vA r b0 e0 s w) (vB r b0 e0 s w) i l := fun k l h1 h2 => rgW_inj hC hwT hA hB ht h1 h2
    have hWi : rgW up par w (vA r b0 e0 s w) (vB r b0 e0 s w) i i = w := by unfold rgW; rw [if_neg (by omega), if_pos rfl]
    have hLi : rgL (vb r b0 s) up par (vE s w) (vA r b0 e0 s w) (vB r b0 e0 s w) i i = vE s w := by unfold rgL; rw [if_neg (by omega), if_pos rfl]
    obtain ⟨m1, m2, m3, m4, m5, -⟩ := lmin_N hf (by omega) hw hWm (rg_route hg hC hw hwT ht) hl0
    have hi' := td_path hC hT.2.1 i (fun t q => tap_docks hC hA ht q)
    have hj' := td_path hC hT.2.1 j (fun t q => tap_docks hC hB (i := j) (j := i) ⟨ht.1.symm, tp0_sw ht.2⟩ q)
    have hdA := Nat.le_trans (td_le hT.1 hT.2.1 hA) hn
    have hdB := Nat.le_trans (td_le hT.1 hT.2.1 hB) hn
    obtain ⟨z, e2, z1, z2, z3, z4, z5, z6⟩ := c8_trace hL1 (fun v hv => by rw [u6 _ (by omega)]; exact hhold v hv) (w := w) (i := i) (j := j) (lv := lv) hw (by rw [u4]; exact hst) (by rw [uA, uB]; exact ht) (by simp only [uA, uB, uE, u1, u3]; exact m4)
    simp only [uA, uB, uE, u1, u3] at z2 z4 z6
    have hlv := hl0.1
    unfold f_X7_makePivot
    refine tp_beq hent (tp_f (show ¬ eb (some w) = -1 from nI_m1 (by omega)) ?_)
    rw [show eb (some w) = nI w from rfl]
    have ep : gj_sI (gj_sI σ y (upd (σ.1 y) 3 (nI a))) (y + 1) (upd ((gj_sI σ y (upd (σ.1 y) 3 (nI a))).1 (y + 1)) 3 ((gj_sI σ y (upd (σ.1 y) 3 (nI a))).1 y 3)) = gj_sI (gj_sI σ y (upd (σ.1 y) 3 (nI a))) (y + 1) (upd (σ.1 (y + 1)) 3 (nI a)) := by
      rw [sI_eq, sI_ne (show y + 1 ≠ y by omega)]
      rfl
    dsimp only
    rw [ep]
    refine tp_beq e2 ?_
    have eld : vr r s 1000000 w (rgW up par w (vA r b0 e0 s w) (vB r b0 e0 s w) i lv) (rgL (vb r b0 s) up par (vE s w) (vA r b0 e0 s w) (vB r b0 e0 s w) i lv) = vr r s 1000000000 w (rgW up par w (vA r b0 e0 s w) (vB r b0 e0 s w) i lv) (rgL (vb r b0 s) up par (vE s w) (vA r b0 e0 s w) (vB r b0 e0 s w) i lv) := by rw [m2, m3]
    rw [eld] at z6
    obtain ⟨k1, k2, k3, k4, k5, k6, k7, k8, k9, k10, k11, k12, k13, k14⟩ := hR
    generalize rgW up par w (vA r b0 e0 s w) (vB r b0 e0 s w) i = W at *
    generalize rgL (vb r b0 s) up par (vE s w) (vA r b0 e0 s w) (vB r b0 e0 s w) i = L at *
    generalize vr r s 1000000000 w (W lv) (L lv) = ld at *
    refine tp_bind (c8_move (y := y) (σ := z) (ld := ld) (M := i + 1 + j) (W := W) (L := L) (by omega) z3 z6 (fun k hk => ⟨by have := hWm k hk; omega, z4 k hk⟩) hWj) (fun v hv => ?_)
    obtain ⟨v1, v2, v3⟩ := hv
    refine tp_bind (c8_exch (y := y) (lv := lv) (out := W lv) (w := w) (al := L lv) (σ := v) (by omega) (by omega) (by have := hWm lv hlv; omega) (by rw [v1.1 (y + 16) (by omega)]; exact z5) (by rw [v1.1 (y + 16 + 1) (by omega)]; exact (z4 lv hlv).1) (by rw [v1.1 (y + 16 + 2) (by omega)]; exact (z4 lv hlv).2)) (fun x hx => ?_)
    obtain ⟨x1, x2⟩ := hx
    -- the plan tells the new row
    have s2 : smC y (y + 18) σ z := smC_tr s1 (smC_wd (by omega) (by omega) z1)
    have s3 : smC y (y + 18) σ x := smC_tr (smC_tr s2 (smC_wd (by omega) (by omega) v1)) (smC_wd (by omega) (by omega) x1)
    have cx : ∀ k, k ≠ y → k ≠ y + 1 → k ≠ y + 7 → k ≠ y + 8 → (k < y + 16 ∨ y + 18 < k) → x.1 k = σ.1 k := fun k a1 a2 a3 a4 a5 => by
      rw [x1.1 k (by omega), v1.1 k (by omega), z1.1 k a5, c1 k a1 a2]
    have cx1 : x.1 (y + 1) = upd (σ.1 (y + 1)) 3 (nI a) := by
      rw [x1.1 (y + 1) (by omega), v1.1 (y + 1) (by omega), z1.1 (y + 1) (by omega), c2]
    have cz6 : z.1 (y + 1 + 6) = σ.1 (y + 1 + 6) := by rw [z1.1 (y + 1 + 6) (by omega), c1 (y + 1 + 6) (by omega) (by omega)]
    have cx7 : x.1 (y + 1 + 6) = v.1 (y + 1 + 6) := x1.1 _ (by omega)
    have cv8 : v.1 (y + 1 + 7) = σ.1 (y + 1 + 7) := by rw [v1.1 (y + 1 + 7) (by omega), z1.1 (y + 1 + 7) (by omega), c1 (y + 1 + 7) (by omega) (by omega)]
    have hE' : rwE s s' := ⟨fun q h1 h2 => k1 q (by omega), fun q h1 h2 => k3 q h1 h2⟩
    have hpm' : pm n r b0 e0 s' (y + 1) x := by
      obtain ⟨p1, p2, p3, p4, p5, p6⟩ := hpm
      unfold pm
      rw [cx1, cx (y + 1 + 1) (by omega) (by omega) (by omega) (by omega) (by omega), cx (y + 1 + 2) (by omega) (by omega) (by omega) (by omega) (by omega), cx (y + 1 + 3) (by omega) (by omega) (by omega) (by omega) (by omega), cx (y + 1 + 4) (by omega) (by omega) (by omega) (by omega) (by omega), cx (y + 1 + 5) (by omega) (by omega) (by omega) (by omega) (by omega)]
      refine ⟨p1, p2, by rw [k1 40 (by omega)]; exact p3, by rw [k2]; rfl, fun d hd => by rw [k1 d (by omega)]; exact p5 d hd, fun u hu => ?_⟩
      obtain ⟨q1, q2, q3, q4, q5, q6⟩ := p6 u hu
      rw [(rwE_b hSr hE' hu).1, (rwE_b hSr hE' hu).2.1, (rwE_b hSr hE' hu).2.2]
      refine ⟨q1, q2, q3, ?_, ?_, ?_⟩
      · rw [q4]
        by_cases q : u < r
        · rw [if_pos q, if_pos q, k1 _ (by omega)]
        · rw [if_neg q, if_neg q]
      · rw [cx7]
        by_cases q : ∃ k, k < i + 1 + j ∧ u = W k
        · obtain ⟨k, hk, rfl⟩ := q
          rw [v2 k hk, k4 k hk, cz6, q5]
        · have hno : ∀ k, k < i + 1 + j → u ≠ W k := fun k hk e => q ⟨k, hk, e⟩
          rw [v3 u hno, k5 u (by omega) hno, cz6, q5]
      · rw [x2 u, cv8, k6 u (by omega), q6]
        by_cases q : u = w
        · subst q
          rw [if_pos rfl]
          by_cases e : W lv = u
          · have elv : lv = i := by
              rcases Nat.lt_trichotomy lv i with q | q | q
              · exact absurd (e.trans hWi.symm) (hWj lv i q (by omega))
              · exact q
              · exact absurd (e.trans hWi.symm).symm (hWj i lv q hlv)
            rw [if_pos e.symm, if_pos e, elv, hLi]
            unfold vE
            rcases hst with q | q
            · rw [if_pos q]
              simp [q]
            · rw [if_neg (by rw [q]; decide)]
              simp [q]
          · rw [if_neg (fun e2 => e e2.symm), if_pos rfl, if_neg e]
        · simp only [if_neg q]
    have hprice : ∀ d, d < n → x.1 (y + 10 + 4) d = pr d := fun d hd => by
      rw [cx (y + 10 + 4) (by omega) (by omega) (by omega) (by omega) (by omega)]
      exact (ht8.2.2.2 d hd).2.2.2
    unfold f_X7_regrow
    refine tp_bind (P := fun g => smC (y + 11) (y + 15) x g ∧ t8 n up2 par2 dp2 pr2 (y + 10) g ∧ ∀ j, j < 9 → g.1 (y + 10 + 5) j = x.1 (y + 10 + 4) j) (tp_bind (c8_grow (t := y + 10) (b := y + 1) hg (by omega) hpm' hT') (fun g hg => tp_some hg)) (fun g hgg => ?_)
    obtain ⟨g1, g2, g3⟩ := hgg
    have hpm2 := smC_pm g1 (.inl (by omega)) hpm'
    rw [hpm2.1, c8_moved hn]
    refine tp_beq rfl ?_
    have gq : ∀ k, (k < y + 11 ∨ y + 15 < k) → g.1 k = x.1 k := g1.1
    have xq : ∀ k, k ≠ y + 7 → k ≠ y + 8 → x.1 k = z.1 k := fun k a1 a2 => by rw [x1.1 k (by omega), v1.1 k (by omega)]
    have hct : ct (fun d => decide (g.1 (y + 10 + 4) d ≠ g.1 (y + 10 + 5) d)) n = ct (fun d => decide (pr2 d ≠ pr d)) n := ct_cg n (fun d hd => by rw [(g2.2.2.2 d hd).2.2.2, g3 d (by omega), hprice d hd])
    rw [hct]
    refine tp_bind (c8_log (b := y + 1) (q := y + 16) (P := P) (lv := lv) (out := W lv) (w := nI w) (σ := g) (by omega) hPb (by rw [gq (y + 1) (by omega), cx1]; exact hP4) (by omega) (by rw [gq (y + 16) (by omega), xq (y + 16) (by omega) (by omega)]; exact z5) (by rw [gq (y + 16 + 1) (by omega), xq (y + 16 + 1) (by omega) (by omega)]; exact (z4 lv hlv).1)) (fun o ho => ?_)
    obtain ⟨o1, o2, o3, o4, o5, o6⟩ := ho
    have so : smC y (y + 18) g o := ⟨fun k hk => o1 k (by omega) (by omega), o2⟩
    refine tp_some ⟨rfl, smC_tr s3 (smC_tr (smC_wd (by omega) (by omega) g1) so), ⟨hg, ?_, hT', ?_, fun v hv => by rw [k1 _ (by omega)]; exact hcc v hv, fun v hv => ?_⟩, o4, fun p hp => ?_, fun k hk => ?_⟩
    · obtain ⟨p1, p2, p3, p4, p5, p6⟩ := hpm2
      dsimp only
      unfold pm
      rw [o1 (y + 1 + 1) (by omega) (by omega), o1 (y + 1 + 2) (by omega) (by omega), o1 (y + 1 + 3) (by omega) (by omega), o1 (y + 1 + 4) (by omega) (by omega), o1 (y + 1 + 5) (by omega) (by omega), o1 (y + 1 + 6) (by omega) (by omega), o1 (y + 1 + 7) (by omega) (by omega), o3 0 (by omega), o3 1 (by omega), o3 2 (by omega), o3 3 (by omega)]
      exact ⟨p1, p2, p3, p4, p5, p6⟩
    · dsimp only
      unfold t8 at g2 ⊢
      rw [o1 (y + 10 + 1) (by omega) (by omega), o1 (y + 10 + 2) (by omega) (by omega), o1 (y + 10 + 3) (by omega) (by omega), o1 (y + 10 + 4) (by omega) (by omega)]
      exact g2
    · rw [k6 v (by omega)]
      have := hw3 v hv
      repeat' split
      all_goals first | exact .inl rfl | exact .inr (.inl rfl) | exact .inr (.inr rfl) | exact this
    · dsimp only
      rw [o5 p hp, gq (y + 16) (by omega), xq (y + 16) (by omega) (by omega), z3, z6]
      unfold lv5
      rcases (show p = 0 ∨ p = 1 ∨ p = 2 ∨ p = 3 ∨ p = 4 by omega) with rfl | rfl | rfl | rfl | rfl
      · exact k9.symm
      · exact k10.symm
      · exact k11.symm
      · exact k12.symm
      · exact k13.symm
    · dsimp only
      rw [o6 k hk, gq (y + 1 + 8) (by omega), cx (y + 1 + 8) (by omega) (by omega) (by omega) (by omega) (by omega)]
