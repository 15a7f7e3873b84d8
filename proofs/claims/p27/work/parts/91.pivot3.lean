/-! ===== the reference: one pivot, all of it ===== -/
theorem ct_cg {P Q : Nat → Bool} : ∀ n, (∀ i, i < n → P i = Q i) → ct P n = ct Q n
  | 0, _ => rfl
  | n + 1, h => by
    unfold ct
    rw [ct_cg n (fun i hi => h i (by omega)), h n (by omega)]
theorem up41 {r : Nat} {b0 e0 : Nat → Nat} {s : Nat → Int32} {x : Int32} (hr : r ≤ 16) : vb r b0 (upd s 41 x) = vb r b0 s ∧ ve r e0 (upd s 41 x) = ve r e0 s ∧ (∀ e w v al, vr r (upd s 41 x) e w v al = vr r s e w v al) ∧ (∀ w, upd s 41 x (74 + w) = s (74 + w)) ∧ (∀ w, upd s 41 x (50 + w) = s (50 + w)) := by
  have h1 : ∀ q, q ≠ 41 → upd s 41 x q = s q := fun q hq => if_neg hq
  refine ⟨?_, ?_, fun e w v al => ?_, fun w => h1 _ (by omega), fun w => h1 _ (by omega)⟩
  · funext w
    unfold vb
    rw [h1 _ (by omega)]
  · funext w
    unfold ve
    rw [h1 _ (by omega)]
  · unfold vr
    rw [h1 (50 + v) (by omega)]
    by_cases q : v = w
    · rw [if_pos q, if_pos q]
      by_cases q2 : w < r
      · rw [if_pos q2, if_pos q2, h1 _ (by omega)]
      · rw [if_neg q2, if_neg q2]
    · rw [if_neg q, if_neg q]
      by_cases q3 : v < r
      · rw [if_pos q3, if_pos q3, h1 _ (by omega)]
      · rw [if_neg q3, if_neg q3]
/-- the states of the ways behind the pivot -/
def whR (w out : Nat) (al : Bool) (s s' : Nat → Int32) : Prop := ∀ q, s' q = if q = 74 + w then (if out = w then (if s (74 + w) = 1 then 2 else 1) else 0) else if q = 74 + out then (if al = true then 2 else 1) else s q
theorem whR_T {w out : Nat} {al : Bool} {s s0 s' : Nat → Int32} (h : whR w out al s0 s') (h0 : ∀ v, s0 (74 + v) = s (74 + v)) (hw : ¬ vT s w) (v : Nat) : vT s' v ↔ pvT s w out v := by
  unfold vT pvT at *
  rw [h (74 + v), h0 w, h0 v]
  by_cases q : out = w
  · rw [if_pos q, if_pos q]
    by_cases q1 : v = w
    · rw [if_pos (by omega), q1]
      constructor
      · intro e
        by_cases q2 : s (74 + w) = 1
        · rw [if_pos q2] at e
          exact absurd e (by decide)
        · rw [if_neg q2] at e
          exact absurd e (by decide)
      · intro e
        exact absurd e hw
    · rw [if_neg (by omega), if_neg (by omega)]
      exact Iff.rfl
  · rw [if_neg q, if_neg q]
    by_cases q1 : v = w
    · rw [if_pos (by omega)]
      exact ⟨fun _ => .inl q1, fun _ => rfl⟩
    · rw [if_neg (by omega)]
      by_cases q2 : v = out
      · rw [if_pos (by omega)]
        constructor
        · intro e
          cases al with
          | false => exact absurd e (by decide)
          | true => exact absurd e (by decide)
        · rintro (e | e)
          · exact absurd e q1
          · exact absurd q2 e.2
      · rw [if_neg (by omega)]
        exact ⟨fun e => .inr ⟨e, q2⟩, fun e => by rcases e with e | e; exact absurd e q1; exact e.1⟩
set_option maxHeartbeats 2000000 in
theorem r9_pivot {n r : Nat} {b0 e0 : Nat → Nat} {σ : gj_S} (hS : rS n r b0 e0 σ) (hP : rP n r b0 e0 (σ.1 198)) {up par rk dp : Nat → Nat} {pr : Nat → Int32} (hT : rT n r b0 e0 (σ.1 198) up par rk dp pr) :
    ∃ b p a best, 1 ≤ b ∧ b ≤ 24 ∧ σ.1 198 40 = nI b ∧ σ.1 198 41 = nI p ∧ (p < r + n ∨ (p = 0 ∧ r + n = 0)) ∧ enS b (r + n) (vG r b0 e0 (σ.1 198) pr) (rG r b0 e0 (σ.1 198) pr) (r + n) 0 p none = (a, best) ∧ enV (r + n) (vG r b0 e0 (σ.1 198) pr) best ∧ (a < r + n ∨ (a = 0 ∧ r + n = 0)) ∧
      (best = none → TP (f_X9_pivot σ) (fun x => x.1 = -1 ∧ smP σ x.2 ∧ x.2.1 198 = σ.1 198)) ∧
      (∀ w, best = some w → ∃ i j lv up2 par2 rk2 dp2 pr2, i ≤ 8 ∧ j ≤ 8 ∧ tap par (vA r b0 e0 (σ.1 198) w) (vB r b0 e0 (σ.1 198) w) i j ∧ lmin (fun k => vr r (σ.1 198) 1000000000 w (rgW up par w (vA r b0 e0 (σ.1 198) w) (vB r b0 e0 (σ.1 198) w) i k) (rgL (vb r b0 (σ.1 198)) up par (vE (σ.1 198) w) (vA r b0 e0 (σ.1 198) w) (vB r b0 e0 (σ.1 198) w) i k)) (i + 1 + j) lv ∧
        (lv = i → up2 = up ∧ par2 = par) ∧ (lv < i → pvU up par up2 par2 w (vA r b0 e0 (σ.1 198) w) (vB r b0 e0 (σ.1 198) w) (i - 1 - lv)) ∧ (i < lv → pvU up par up2 par2 w (vB r b0 e0 (σ.1 198) w) (vA r b0 e0 (σ.1 198) w) (lv - i - 1)) ∧
        TP (f_X9_pivot σ) (fun x => x.1 = nI w ∧ smP σ x.2 ∧ pvR n r b0 e0 (σ.1 198) up par pr pr2 a w i j lv (x.2.1 198) ∧ rT n r b0 e0 (x.2.1 198) up2 par2 rk2 dp2 pr2)) := by
  have hn := hS.1
  have hr := hS.2.1
  obtain ⟨-, hw3, ⟨b, hb1, hb2, hb3⟩, ⟨p, hp1, hp2⟩, -, -, hho, -⟩ := hP
  obtain ⟨x1, e1, s1, hL1⟩ := r9_lay hS hT
  have es1 := sm9_s s1
  obtain ⟨a, best, en1, en2, en3, en4⟩ := r9_enter hL1 hb2 hb1 (by rw [es1]; exact hb3) (by rw [es1]; exact hp1) hp2
  rw [es1] at en1 en3
  refine ⟨b, p, a, best, hb1, hb2, hb3, hp1, hp2, en1, en3, en2, fun q => ?_, fun w q => ?_⟩
  · subst q
    unfold f_X9_pivot
    refine tp_beq e1 (tp_beq en4 (tp_t rfl (tp_some ⟨rfl, smP_tr (smP_9 s1) ⟨fun k h1 h2 h3 => ?_, fun j h1 h2 => ?_, rfl⟩, es1⟩)))
    · show (if k = 188 then _ else x1.1 k) = _
      rw [if_neg h1]
    · show (if j = 30 then _ else x1.1 188 j) = _
      rw [if_neg h1]
  · subst q
    obtain ⟨hw, hG⟩ := en3 w rfl
    have hwT : ¬ vT (σ.1 198) w := by
      intro q
      unfold vT at q
      unfold vG at hG
      rw [q] at hG
      simp at hG
    -- the pointer is set
    have s2 : smP σ (gj_sI (gj_sI x1 188 (upd (x1.1 188) 30 (nI a))) 198 (upd (x1.1 198) 41 (nI a))) := smP_tr (smP_9 s1) ⟨fun k h1 h2 h3 => by
      show (if k = 198 then _ else if k = 188 then _ else x1.1 k) = _
      rw [if_neg h2, if_neg h1], fun j h1 h2 => by
      show (if j = 30 then _ else x1.1 188 j) = _
      rw [if_neg h1], rfl⟩
    have r2 : (gj_sI (gj_sI x1 188 (upd (x1.1 188) 30 (nI a))) 198 (upd (x1.1 198) 41 (nI a))).1 198 = upd (σ.1 198) 41 (nI a) := by rw [← es1]; rfl
    have hE2 : rwE (σ.1 198) (upd (σ.1 198) 41 (nI a)) := ⟨fun q h1 h2 => if_neg (by omega), fun q h1 h2 => if_neg (by omega)⟩
    have hT2 : rT n r b0 e0 (upd (σ.1 198) 41 (nI a)) up par rk dp pr := rT_cg hS hE2 (fun v _ => by unfold vT; rw [show upd (σ.1 198) 41 (nI a) (74 + v) = σ.1 198 (74 + v) from if_neg (by omega)]) hT
    have hL2 : rL n r b0 e0 up par rk dp pr (gj_sI (gj_sI x1 188 (upd (x1.1 188) 30 (nI a))) 198 (upd (x1.1 198) 41 (nI a))) := ⟨smP_S s2 hS, by rw [r2]; exact hT2, hL1.2.2⟩
    have p2 : ∀ d, d < n → (gj_sI (gj_sI x1 188 (upd (x1.1 188) 30 (nI a))) 198 (upd (x1.1 198) 41 (nI a))).1 205 d = pr d := fun d hd => (hL1.2.2.2.2.2 d hd).2.2
    obtain ⟨u1, u2, u3, u4, u5⟩ := up41 (r := r) (b0 := b0) (e0 := e0) (s := σ.1 198) (x := nI a) hr
    have uA : vA r b0 e0 (upd (σ.1 198) 41 (nI a)) w = vA r b0 e0 (σ.1 198) w := by unfold vA; rw [u1, u2, u4]
    have uB : vB r b0 e0 (upd (σ.1 198) 41 (nI a)) w = vB r b0 e0 (σ.1 198) w := by unfold vB; rw [u1, u2, u4]
    have uE : vE (upd (σ.1 198) 41 (nI a)) w = vE (σ.1 198) w := by unfold vE; rw [u4]
    obtain ⟨i, j, hi, hj, ht, x4, e4, s4, z1, z2, z3, lv, z4, z5, z6⟩ := r9_ring hL2 hw (fun q => by
      rw [r2, show upd (σ.1 198) 41 (nI a) (24 + w) = σ.1 198 (24 + w) from if_neg (by omega)]
      obtain ⟨c, c1, c2⟩ := hho w q
      rw [c2, show (1000000000 : Int32) = nI 1000000000 from rfl]
      exact nI_le (by omega) (by omega))
    rw [r2] at ht z1 z3 z4 z6
    rw [uA, uB] at ht
    rw [uA] at z1
    simp only [uA, uB, uE, u1, u3] at z3 z4 z6
    have e4s := s4.1 198 (by decide) (by decide) (by decide)
    rw [r2] at e4s
    have e45 : ∀ d, d < n → x4.1 205 d = pr d := fun d hd => by rw [s4.1 205 (by decide) (by decide) (by decide)]; exact p2 d hd
    have s4' := smP_tr s2 (smP_R s4)
    have hlv := z4.1
    have hA := vA_pl (s := σ.1 198) hS hw
    have hB := vB_pl (s := σ.1 198) hS hw
    have hWlt : ∀ k, k < i + 1 + j → rgW up par w (vA r b0 e0 (σ.1 198) w) (vB r b0 e0 (σ.1 198) w) i k < 24 := fun k hk => by
      have := rgW_lt hT.1.1 (w := w) (k := k) hw hA hB ht hk
      omega
    obtain ⟨up2, par2, rk2, dp2, pr2, t1, t2, t3, t4⟩ := pv_tree hS hT hw hwT ht hlv
    refine ⟨i, j, lv, up2, par2, rk2, dp2, pr2, hi, hj, ht, z4, t2, t3, t4, ?_⟩
    unfold f_X9_pivot
    refine tp_beq e1 (tp_beq en4 (tp_f (show ¬ eb (some w) = -1 from nI_m1 (by omega)) (tp_t (by decide) ?_)))
    rw [show eb (some w) = nI w from rfl]
    refine tp_beq e4 ?_
    refine tp_bind (r9_l34 (σ := x4) (M := i + 1 + j) (by omega) z2 z6 (fun k hk => ⟨hWlt k hk, z3 k hk⟩) (fun k l h1 h2 => rgW_inj hT.1.1 hwT hA hB ht h1 h2)) (fun y hy => ?_)
    obtain ⟨y1, y2, y3⟩ := hy
    rw [e4s] at y3
    generalize eW : rgW up par w (vA r b0 e0 (σ.1 198) w) (vB r b0 e0 (σ.1 198) w) i = W at *
    generalize eL : rgL (vb r b0 (σ.1 198)) up par (vE (σ.1 198) w) (vA r b0 e0 (σ.1 198) w) (vB r b0 e0 (σ.1 198) w) i = L at *
    have y36 : y.1 188 36 = nI lv := by rw [y1 188 (by decide)]; exact z5
    have y206 : y.1 206 lv = nI (W lv) := by rw [y1 206 (by decide)]; exact (z3 lv hlv).1
    have y207 : y.1 207 lv = bI (L lv) := by rw [y1 207 (by decide)]; exact (z3 lv hlv).2
    have hout : y.1 206 (y.1 188 36).toNatClampNeg = nI (W lv) := by rw [y36, nI_clamp (by omega)]; exact y206
    refine tp_t (by rw [y36]; exact gi (by omega) (by omega)) ?_
    rw [hout]
    refine tp_bind r9_l98 (fun v hv => ?_)
    obtain ⟨v1, v2, v3⟩ := hv
    have hg : gj_in (nI 74 + nI w) 180 := by rw [nI_add]; exact gi (by omega) (by omega)
    have hWl := hWlt lv hlv
    refine tp_bind (P := fun z => (∀ k, k ≠ 198 → z.1 k = v.1 k) ∧ z.2 = v.2 ∧ whR w (W lv) (L lv) (v.1 198) (z.1 198)) ?_ (fun z8 hz => ?_)
    · simp only [show (74 : Int32) = nI 74 from rfl]
      by_cases q : W lv = w
      · refine tp_t (by rw [q]) (tp_t hg ?_)
        simp only [nI_add, nI_clamp (show 74 + w < 2 ^ 31 by omega)]
        refine tp_if (fun q2 => tp_t (gi (by omega) (by omega)) (tp_some ⟨fun k hk => if_neg hk, rfl, fun q3 => ?_⟩)) (fun q2 => tp_t (gi (by omega) (by omega)) (tp_some ⟨fun k hk => if_neg hk, rfl, fun q3 => ?_⟩))
        · show (if q3 = 74 + w then _ else _) = _
          rw [if_pos q, if_pos q2, q]
          by_cases q4 : q3 = 74 + w
          · rw [if_pos q4, if_pos q4]
          · rw [if_neg q4, if_neg q4, if_neg q4]
        · show (if q3 = 74 + w then _ else _) = _
          rw [if_pos q, if_neg q2, q]
          by_cases q4 : q3 = 74 + w
          · rw [if_pos q4, if_pos q4]
          · rw [if_neg q4, if_neg q4, if_neg q4]
      · refine tp_f (fun e => q ((nI_eq (by omega) (by omega)).mp e)) (tp_t hg ?_)
        simp only [nI_add, nI_clamp (show 74 + w < 2 ^ 31 by omega), nI_clamp (show 74 + W lv < 2 ^ 31 by omega)]
        have c36 : (gj_sI v 198 (upd (v.1 198) (74 + w) 0)).1 188 36 = nI lv := by
          show v.1 188 36 = _
          rw [v1 188 (by decide)]
          exact y36
        have c207 : (gj_sI v 198 (upd (v.1 198) (74 + w) 0)).1 207 (nI lv).toNatClampNeg = bI (L lv) := by
          rw [nI_clamp (by omega)]
          show v.1 207 lv = _
          rw [v1 207 (by decide)]
          exact y207
        rw [c36]
        refine tp_t (gi (by omega) (by omega)) ?_
        rw [c207]
        have fin : ∀ (x : Int32), x = (if L lv = true then 2 else 1) → ((∀ k, k ≠ 198 → (gj_sI (gj_sI v 198 (upd (v.1 198) (74 + w) 0)) 198 (upd ((gj_sI v 198 (upd (v.1 198) (74 + w) 0)).1 198) (74 + W lv) x)).1 k = v.1 k) ∧ (gj_sI (gj_sI v 198 (upd (v.1 198) (74 + w) 0)) 198 (upd ((gj_sI v 198 (upd (v.1 198) (74 + w) 0)).1 198) (74 + W lv) x)).2 = v.2 ∧ whR w (W lv) (L lv) (v.1 198) ((gj_sI (gj_sI v 198 (upd (v.1 198) (74 + w) 0)) 198 (upd ((gj_sI v 198 (upd (v.1 198) (74 + w) 0)).1 198) (74 + W lv) x)).1 198)) := by
          intro x hx
          refine ⟨fun k hk => ?_, rfl, fun q3 => ?_⟩
          · show (if k = 198 then _ else if k = 198 then _ else v.1 k) = _
            rw [if_neg hk, if_neg hk]
          · show (if q3 = 74 + W lv then x else if q3 = 74 + w then 0 else v.1 198 q3) = _
            rw [if_neg q, ← hx]
            by_cases q4 : q3 = 74 + w
            · rw [if_neg (by omega), if_pos q4, if_pos q4]
            · rw [if_neg q4, if_neg q4]
        cases hLv : L lv with
        | false => exact tp_t (by decide) (tp_t (gi (by omega) (by omega)) (tp_beq rfl (tp_some (by have := fin 1 (by rw [hLv]; rfl); rw [hLv] at this; exact this))))
        | true => exact tp_f (by decide) (tp_t (gi (by omega) (by omega)) (tp_beq rfl (tp_some (by have := fin 2 (by rw [hLv]; rfl); rw [hLv] at this; exact this))))
    · obtain ⟨k1, k2, k3⟩ := hz
      have hv198 : v.1 198 = y.1 198 := v1 198 (by decide)
      rw [hv198] at k3
      have hyo : ∀ q, (∀ k, k < i + 1 + j → q ≠ 50 + W k) → q ≠ 41 → y.1 198 q = σ.1 198 q := fun q h1 h2 => by
        rw [y3.2 q h1]
        exact if_neg h2
      have hy74 : ∀ v, y.1 198 (74 + v) = σ.1 198 (74 + v) := fun v => hyo _ (fun k hk e => by have := hWlt k hk; omega) (by omega)
      have hE8 : rwE (σ.1 198) (z8.1 198) := ⟨fun q h1 h2 => by
        rw [k3 q, if_neg (by omega), if_neg (by omega)]
        exact hyo q (fun k hk e => by omega) (by omega), fun q h1 h2 => by
        rw [k3 q, if_neg (by omega), if_neg (by omega)]
        exact hyo q (fun k hk e => by omega) (by omega)⟩
      have hT8 := t1 (z8.1 198) hE8 (fun u hu => whR_T k3 hy74 hwT u)
      have s5 : smP x4 z8 := by
        refine smP_tr (smP_s y1 y2) (smP_tr (b := v) ⟨fun k h1 h2 h3 => v1 k (by omega), fun j h1 h2 => by rw [v1 188 (by decide)], v2⟩ (smP_s k1 k2))
      have s6 := smP_tr s4' s5
      refine tp_bind (r9_lay (smP_S s6 hS) hT8) (fun x18 hx18 => ?_)
      obtain ⟨f1, f2⟩ := hx18
      have g198 := sm9_s f1
      have g188 : x18.1 188 = x4.1 188 := by
        rw [f1.1 188 (by decide) (by decide) (by decide), k1 188 (by decide), v1 188 (by decide), y1 188 (by decide)]
      have g208 : ∀ d, d < n → x18.1 208 d = pr d := fun d hd => by
        rw [f1.1 208 (by decide) (by decide) (by decide), k1 208 (by decide), v3 d (by omega), y1 205 (by decide)]
        exact e45 d hd
      rw [r9_moved hn f2.1.2.2.1]
      refine tp_beq rfl ?_
      rw [g188, z6, z2]
      refine tp_bind r9_logs (fun x20 hx20 => ?_)
      obtain ⟨l1, l2, l3, l4, l5, l6, l7, l8, l9, l10, l11⟩ := hx20
      rw [g198] at l3 l4 l5 l11
      have z8o : ∀ q, q < 98 ∨ q = 98 ∨ (99 ≤ q ∧ q < 180) → (q < 50 ∨ 98 ≤ q) → q ≠ 41 → z8.1 198 q = σ.1 198 q := fun q _ h2 h3 => by
        rw [k3 q, if_neg (by omega), if_neg (by omega)]
        exact hyo q (fun k hk e => by have := hWlt k hk; omega) h3
      have hct : ct (fun d => decide (x18.1 205 d ≠ x18.1 208 d)) n = ct (fun d => decide (pr2 d ≠ pr d)) n := ct_cg n (fun d hd => by rw [(f2.2.2.2.2.2 d hd).2.2, g208 d hd])
      have hE20 : rwE (σ.1 198) (x20.1 198) := ⟨fun q h1 h2 => by rw [l3 q (by omega)]; exact hE8.1 q h1 h2, fun q h1 h2 => by rw [l3 q (by omega)]; exact hE8.2 q h1 h2⟩
      refine tp_some ⟨rfl, smP_tr s6 (smP_tr (smP_9 f1) (smP_s l1 l2)), ?_, t1 _ hE20 (fun u hu => ?_)⟩
      · unfold pvR
        rw [eW, eL]
        refine ⟨fun q hq => ?_, ?_, fun q h1 h2 => ?_, fun k hk => ?_, fun u hu huk => ?_, fun u hu => ?_, ?_, ?_, l6, l7, l8, l9, ?_, fun q h1 h2 => ?_⟩
        · rw [l3 q (by omega)]
          exact z8o q (by omega) (by omega) (by omega)
        · rw [l3 41 (by omega), k3 41, if_neg (by omega), if_neg (by omega), y3.2 41 (fun k hk => by omega)]
          exact if_pos rfl
        · rw [l3 q (by omega)]
          exact z8o q (by omega) (by omega) (by omega)
        · have := hWlt k hk
          rw [l3 _ (by omega), k3, if_neg (by omega), if_neg (by omega), y3.1 k hk, u5]
        · rw [l3 _ (by omega), k3, if_neg (by omega), if_neg (by omega)]
          exact hyo _ (fun k hk e => huk k hk (by omega)) (by omega)
        · rw [l3 _ (by omega), k3, hy74, hy74]
          by_cases q1 : u = w
          · rw [if_pos (by omega), if_pos q1]
          · rw [if_neg (by omega), if_neg q1]
            by_cases q2 : u = W lv
            · rw [if_pos (by omega), if_pos q2]
            · rw [if_neg (by omega), if_neg q2]
        · rw [l4, z8o 98 (by omega) (by omega) (by omega)]
        · rw [l5, z8o 99 (by omega) (by omega) (by omega)]
        · rw [l10, hct]
        · rw [l11 q h1 h2]
          exact z8o _ (by omega) (by omega) (by omega)
      · have : vT (x20.1 198) u ↔ vT (z8.1 198) u := by
          unfold vT
          rw [l3 (74 + u) (by omega)]
        rw [this]
        exact whR_T k3 hy74 hwT u
