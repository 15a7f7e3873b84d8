/-! ===== text: the reference's procedures; what a line does ===== -/
theorem TK9_c {y : Nat → Int32} {N p : Nat} {σ τ : gj_S} (h : TK9 y N p σ) (h1 : τ.1 188 = σ.1 188) (h2 : τ.2.1 188 = σ.2.1 188) : TK9 y N p τ := by
  unfold TK9 at h ⊢
  rw [h1, h2]
  exact h
theorem rd9_c {y : Nat → Int32} {N : Nat} {σ τ : gj_S} (h : rd9 y N σ) (h1 : τ.1 188 3 = σ.1 188 3) (h2 : τ.1 189 = σ.1 189) : rd9 y N τ := by
  unfold rd9 at h ⊢
  rw [h1, h2]
  exact h
theorem r9_nn {y : Nat → Int32} {N p at' : Nat} {A : pA} {σ : gj_S} (hr : rd9 y N σ) (hp : p ≤ N) (h : TK9 y N p σ) (hf : σ.1 188 9 = 0) (hP : P9 A σ) (hW : WF A) (hat : at' < 24) : (nmF y N p A = 0 ∧ TP (f_X9_newName (nI at') σ) (fun z => fT9 (gj_sJ σ 192 (vp_updL (σ.2.1 192) (24 + at') (pk5 (tw y N p)))) z ∧ TK9 y N (te y N p) z)) ∨ (nmF y N p A ≠ 0 ∧ nmF y N p A ≤ 5 ∧ f_X9_newName (nI at') σ = some (flt9 σ (nmF y N p A))) := by
  have hn8 := hW.1
  have hr16 := hW.2.1
  have g1 : gj_in (1 : Int32) 2 := gi (k := 1) (by omega) (by omega)
  have c1 : (1 : Int32).toNatClampNeg = 1 := by decide
  have e190 : σ.1 190 (Int32.toNatClampNeg 1) = nI A.1.1 := by rw [c1]; exact hP.1
  have e191 : σ.1 191 (Int32.toNatClampNeg 1) = nI A.1.2 := by rw [c1]; exact hP.2.1
  unfold f_X9_newName
  rw [r9_isName h hf]
  dsimp only [Option.bind_some]
  cases hb : isN y N p with
  | false =>
    have e : nmF y N p A = 1 := by
      unfold nmF
      rw [hb, if_pos rfl]
    have m := r9_must (k := 1) false hf (by omega) (by omega)
    rw [if_neg (by decide)] at m
    rw [e]
    refine .inr ⟨by omega, by omega, ?_⟩
    rw [show f_X9_must (bI false) 1 σ = some (0, flt9 σ 1) from m]
    dsimp only [Option.bind_some]
    rw [if_pos rfl]
  | true =>
    have q := isN_0 hb
    have m := r9_must (k := 1) true hf (by omega) (by omega)
    rw [if_pos rfl] at m
    rw [show f_X9_must (bI true) 1 σ = some (1, σ) from m]
    dsimp only [Option.bind_some]
    rw [if_neg (show ¬ (1 : Int32) = 0 by decide), if_pos g1, e190, e191]
    have fd := r9_fR (B := 0) (M := A.1.1) (nm := A.2.1) h (by omega) (fun k hk => ⟨(hP.2.2.2.2.1 k hk).1, (hW.2.2.1 k hk).1⟩) q
    have fr := r9_fR (B := 8) (M := A.1.2) (nm := A.2.2.1) h (by omega) (fun k hk => ⟨by rw [show 24 + 8 + k = 32 + k by omega]; exact (hP.2.2.2.2.2 k hk).1, (hW.2.2.2.1 k hk).1⟩) q
    rw [show f_X9_findRead 0 (nI A.1.1) σ = some (oI (fdN y N p A)) from fd, show f_X9_findRead 8 (nI A.1.2) σ = some (oI (frN y N p A)) from fr]
    dsimp only [Option.bind_some]
    have pos : ∀ k, k < 24 → (0 : Int32) ≤ oI (some k) := fun k hk => i32_nn1 (by omega)
    have neg : ¬ (0 : Int32) ≤ oI none := by decide
    have z5 : (if 0 ≤ oI (fdN y N p A) then some (0 : Int32) else (if gj_in (1 : Int32) 2 then (if 0 ≤ oI (frN y N p A) then some (0 : Int32) else some (1 : Int32)) else none)) = some (bI (decide (fdN y N p A = none ∧ frN y N p A = none))) := by
      rw [if_pos g1]
      cases hd : fdN y N p A with
      | some k =>
        have hk := (fi_lt _ _ _ hd).2.1
        rw [if_pos (pos k (by omega)), decide_eq_false (fun x => by cases x.1)]
        rfl
      | none =>
        rw [if_neg neg]
        cases hr : frN y N p A with
        | some k =>
          have hk := (fi_lt _ _ _ hr).2.1
          rw [if_pos (pos k (by omega)), decide_eq_false (fun x => by cases x.2)]
          rfl
        | none =>
          rw [if_neg neg]
          rfl
    rw [z5]
    dsimp only [Option.bind_some]
    rw [show (2 : Int32) = nI 2 from rfl, r9_must (k := 2) _ hf (by omega) (by omega)]
    by_cases a : fdN y N p A = none ∧ frN y N p A = none
    · have e : nmF y N p A = 0 := by
        unfold nmF
        rw [hb, if_neg (by decide), if_pos a]
      rw [e, decide_eq_true a, if_pos rfl]
      refine .inl ⟨rfl, ?_⟩
      dsimp only [Option.bind_some]
      have e24 : (24 : Int32) + nI at' = nI (24 + at') := by rw [show (24 : Int32) = nI 24 from rfl, nI_add]
      refine tp_f (by decide) ?_
      rw [e24]
      refine tp_t (gi (by omega) (by omega)) ?_
      rw [nI_clamp (by omega), h.2.2.2.1 q]
      exact tp_bind (r9_tok (rd9_c hr rfl rfl) (te_N hp).2 h.1) (fun x hx => tp_some hx)
    · have e : nmF y N p A = 2 := by
        unfold nmF
        rw [hb, if_neg (by decide), if_neg a]
      rw [e, decide_eq_false a, if_neg (by decide)]
      refine .inr ⟨by omega, by omega, ?_⟩
      dsimp only [Option.bind_some]
      rw [if_pos rfl]
theorem r9_rD {y : Nat → Int32} {N p : Nat} {A : pA} {σ : gj_S} (but : Int32) (hr : rd9 y N σ) (hp : p ≤ N) (h : TK9 y N p σ) (hf : σ.1 188 9 = 0) (hP : P9 A σ) (hW : WF A) : (dkF y N p A but = 0 ∧ TP (f_X9_readDock but σ) (fun x => x.1 = oI (fdN y N p A) ∧ fT9 σ x.2 ∧ TK9 y N (te y N p) x.2)) ∨ (dkF y N p A but ≠ 0 ∧ dkF y N p A but ≤ 5 ∧ f_X9_readDock but σ = some (0, flt9 σ (dkF y N p A but))) := by
  have hn8 := hW.1
  have g1 : gj_in (1 : Int32) 2 := gi (k := 1) (by omega) (by omega)
  have c1 : (1 : Int32).toNatClampNeg = 1 := by decide
  have e190 : σ.1 190 (Int32.toNatClampNeg 1) = nI A.1.1 := by rw [c1]; exact hP.1
  have e191 : σ.1 191 (Int32.toNatClampNeg 1) = nI A.1.2 := by rw [c1]; exact hP.2.1
  unfold f_X9_readDock
  rw [r9_isName h hf]
  dsimp only [Option.bind_some]
  cases hb : isN y N p with
  | false =>
    have e : dkF y N p A but = 1 := by
      unfold dkF
      rw [hb, if_pos rfl]
    have m := r9_must (k := 1) false hf (by omega) (by omega)
    rw [if_neg (by decide)] at m
    rw [e]
    refine .inr ⟨by omega, by omega, ?_⟩
    rw [show f_X9_must (bI false) 1 σ = some (0, flt9 σ 1) from m]
    dsimp only [Option.bind_some]
    rw [if_pos rfl]
  | true =>
    have q := isN_0 hb
    have m := r9_must (k := 1) true hf (by omega) (by omega)
    rw [if_pos rfl] at m
    rw [show f_X9_must (bI true) 1 σ = some (1, σ) from m]
    dsimp only [Option.bind_some]
    rw [if_neg (show ¬ (1 : Int32) = 0 by decide), if_pos g1, e190]
    have fd := r9_fR (B := 0) (M := A.1.1) (nm := A.2.1) h (by omega) (fun k hk => ⟨(hP.2.2.2.2.1 k hk).1, (hW.2.2.1 k hk).1⟩) q
    rw [show f_X9_findRead 0 (nI A.1.1) σ = some (oI (fdN y N p A)) from fd]
    dsimp only [Option.bind_some]
    have z5 : (if oI (fdN y N p A) < 0 then some (0 : Int32) else (if oI (fdN y N p A) = but then some (0 : Int32) else some (1 : Int32))) = some (bI (decide (¬ (oI (fdN y N p A) = -1 ∨ oI (fdN y N p A) = but)))) := by
      cases hd : fdN y N p A with
      | none =>
        rw [if_pos (show oI none < 0 by decide), decide_eq_false (fun x => x (.inl rfl))]
        rfl
      | some k =>
        have hk := (fi_lt _ _ _ hd).2.1
        have n1 : ¬ oI (some k) = -1 := nI_m1 (by omega)
        rw [if_neg (show ¬ oI (some k) < 0 from nI_nlt (b := 0) (by omega) (by omega))]
        by_cases q2 : oI (some k) = but
        · rw [if_pos q2, decide_eq_false (fun x => x (.inr q2))]
          rfl
        · rw [if_neg q2, decide_eq_true (show ¬ (oI (some k) = -1 ∨ oI (some k) = but) from fun x => x.elim n1 q2)]
          rfl
    rw [z5]
    dsimp only [Option.bind_some]
    rw [show (4 : Int32) = nI 4 from rfl, r9_must (k := 4) _ hf (by omega) (by omega)]
    by_cases a : oI (fdN y N p A) = -1 ∨ oI (fdN y N p A) = but
    · have e : dkF y N p A but = 4 := by
        unfold dkF
        rw [hb, if_neg (by decide), if_pos a]
      have ea : decide (¬ (oI (fdN y N p A) = -1 ∨ oI (fdN y N p A) = but)) = false := decide_eq_false (fun x => x a)
      rw [e, ea, if_neg (by decide)]
      refine .inr ⟨by omega, by omega, ?_⟩
      dsimp only [Option.bind_some]
      rw [if_pos rfl]
    · have e : dkF y N p A but = 0 := by
        unfold dkF
        rw [hb, if_neg (by decide), if_neg a]
      rw [e, decide_eq_true a, if_pos rfl]
      refine .inl ⟨rfl, ?_⟩
      dsimp only [Option.bind_some]
      exact tp_f (by decide) (tp_bind (r9_tok hr (te_N hp).2 h.1) (fun x hx => tp_some ⟨rfl, hx.1, hx.2⟩))
theorem r9_bh {y : Nat → Int32} {N p i lo hi : Nat} {σ : gj_S} (hr : rd9 y N σ) (hp : p ≤ N) (h : TK9 y N p σ) (hf : σ.1 188 9 = 0) (hi7 : i < 7) (hl : lo < 2 ^ 31) (hh : hi < 2 ^ 31) : (isW y N p i = true ∧ nbF y N (te y N p) lo hi = 0 ∧ TP (f_X9_behind (1000 + i) (nI lo) (nI hi) σ) (fun x => x.1 = nI (tn y N (te y N p)) ∧ fT9 σ x.2 ∧ TK9 y N (te y N (te y N p)) x.2)) ∨ (isW y N p i = true ∧ nbF y N (te y N p) lo hi ≠ 0 ∧ nbF y N (te y N p) lo hi ≤ 5 ∧ TP (f_X9_behind (1000 + i) (nI lo) (nI hi) σ) (fun x => ∃ z, x = (nI lo, flt9 z (nbF y N (te y N p) lo hi)) ∧ fT9 σ z ∧ TK9 y N (te y N p) z)) ∨ (isW y N p i = false ∧ f_X9_behind (1000 + i) (nI lo) (nI hi) σ = some (nI lo, flt9 σ 1)) := by
  unfold f_X9_behind
  rw [r9_is h hf hi7]
  dsimp only [Option.bind_some]
  have hp1 := (te_N (y := y) hp).2
  cases hb : isW y N p i with
  | true =>
    have m := r9_must (k := 1) true hf (by omega) (by omega)
    rw [if_pos rfl] at m
    rw [show f_X9_must (bI true) 1 σ = some (1, σ) from m]
    dsimp only [Option.bind_some]
    rw [if_neg (show ¬ (1 : Int32) = 0 by decide)]
    obtain ⟨z, ez, fz, tz⟩ := r9_tok hr hp1 h.1
    rw [ez]
    dsimp only [Option.bind_some]
    rcases r9_nb (lo := lo) (hi := hi) (fT9_rd fz hr) hp1 tz (by rw [fz.2.1 9 (by decide)]; exact hf) hl hh with ⟨a, b⟩ | ⟨a, b, c⟩
    · exact .inl ⟨rfl, a, tp_bind b (fun x hx => tp_some ⟨hx.1, fT9_tr fz hx.2.1, hx.2.2⟩)⟩
    · exact .inr (.inl ⟨rfl, a, b, tp_beq c (tp_some ⟨z, rfl, fz, tz⟩)⟩)
  | false =>
    have m := r9_must (k := 1) false hf (by omega) (by omega)
    rw [if_neg (by decide)] at m
    rw [show f_X9_must (bI false) 1 σ = some (0, flt9 σ 1) from m]
    dsimp only [Option.bind_some]
    refine .inr (.inr ⟨rfl, ?_⟩)
    have e9 : ¬ (flt9 σ 1).1 188 9 = 0 := by
      unfold flt9
      rw [sI_eq, up_ne (by decide), sI_eq, up_eq]
      decide
    rw [if_pos rfl, r9_numF e9]
    rfl
/-! what the reference leaves alone while it reads -/
def FR9 (σ τ : gj_S) : Prop := (∀ c, c ≠ 188 → (c < 190 ∨ c = 192 ∨ 197 < c) → τ.1 c = σ.1 c) ∧ (∀ j, (j < 3 ∨ 20 < j) → τ.1 188 j = σ.1 188 j) ∧ (∀ j, j ≠ 1 → τ.1 190 j = σ.1 190 j ∧ τ.1 191 j = σ.1 191 j) ∧ (∀ w, w < 16 → τ.1 194 w = σ.1 194 w ∧ τ.1 195 w = σ.1 195 w) ∧ (∀ c, c ≠ 188 → c ≠ 192 → τ.2.1 c = σ.2.1 c) ∧ (∀ j, j < 24 → τ.2.1 192 j = σ.2.1 192 j) ∧ τ.2.2 = σ.2.2
theorem FR9_rf {σ : gj_S} : FR9 σ σ := ⟨fun _ _ _ => rfl, fun _ _ => rfl, fun _ _ => ⟨rfl, rfl⟩, fun _ _ => ⟨rfl, rfl⟩, fun _ _ _ => rfl, fun _ _ => rfl, rfl⟩
theorem FR9_tr {a b c : gj_S} (h1 : FR9 a b) (h2 : FR9 b c) : FR9 a c := ⟨fun k p q => (h2.1 k p q).trans (h1.1 k p q), fun j p => (h2.2.1 j p).trans (h1.2.1 j p), fun j p => ⟨(h2.2.2.1 j p).1.trans (h1.2.2.1 j p).1, (h2.2.2.1 j p).2.trans (h1.2.2.1 j p).2⟩, fun w p => ⟨(h2.2.2.2.1 w p).1.trans (h1.2.2.2.1 w p).1, (h2.2.2.2.1 w p).2.trans (h1.2.2.2.1 w p).2⟩, fun k p q => (h2.2.2.2.2.1 k p q).trans (h1.2.2.2.2.1 k p q), fun j p => (h2.2.2.2.2.2.1 j p).trans (h1.2.2.2.2.2.1 j p), h2.2.2.2.2.2.2.trans h1.2.2.2.2.2.2⟩
theorem FR9_T {σ τ : gj_S} (h : fT9 σ τ) : FR9 σ τ := ⟨fun c p _ => h.1 c p, fun j p => h.2.1 j (by omega), fun j _ => ⟨by rw [h.1 190 (by decide)], by rw [h.1 191 (by decide)]⟩, fun w _ => ⟨by rw [h.1 194 (by decide)], by rw [h.1 195 (by decide)]⟩, fun c p _ => h.2.2.1 c p, fun j _ => by rw [h.2.2.1 192 (by decide)], h.2.2.2⟩
theorem FR9_O {σ : gj_S} {j : Nat} {x : Int32} (h1 : 3 ≤ j) (h2 : j ≤ 20) : FR9 σ (gj_sI σ 188 (upd (σ.1 188) j x)) := ⟨fun c p _ => sI_ne p, fun i p => by rw [sI_eq, up_ne (by omega)], fun _ _ => ⟨by rw [sI_ne (by decide)], by rw [sI_ne (by decide)]⟩, fun _ _ => ⟨by rw [sI_ne (by decide)], by rw [sI_ne (by decide)]⟩, fun _ _ _ => rfl, fun _ _ => rfl, rfl⟩
theorem FR9_F {σ : gj_S} {k : Nat} : FR9 σ (flt9 σ k) := FR9_tr (FR9_O (j := 9) (by omega) (by omega)) (FR9_O (by omega) (by omega))
theorem FR9_I {σ : gj_S} {c j : Nat} {x : Int32} (h : ((c = 190 ∨ c = 191) ∧ j = 1) ∨ c = 193 ∨ ((c = 194 ∨ c = 195) ∧ 16 ≤ j) ∨ c = 196 ∨ c = 197) : FR9 σ (gj_sI σ c (upd (σ.1 c) j x)) := by
  have hi : ∀ c' q, (c' ≠ c ∨ q ≠ j) → (gj_sI σ c (upd (σ.1 c) j x)).1 c' q = σ.1 c' q := fun c' q hh => by
    by_cases e : c' = c
    · subst e
      rw [sI_eq, up_ne (by omega)]
    · rw [sI_ne e]
  exact ⟨fun c' p q => sI_ne (by omega), fun i p => hi _ _ (by omega), fun i p => ⟨hi _ _ (by omega), hi _ _ (by omega)⟩, fun w p => ⟨hi _ _ (by omega), hi _ _ (by omega)⟩, fun _ _ _ => rfl, fun _ _ => rfl, rfl⟩
theorem FR9_J {σ : gj_S} {j : Nat} {x : Int64} (h : 24 ≤ j) : FR9 σ (gj_sJ σ 192 (vp_updL (σ.2.1 192) j x)) := ⟨fun _ _ _ => rfl, fun _ _ => rfl, fun _ _ => ⟨rfl, rfl⟩, fun _ _ => ⟨rfl, rfl⟩, fun c _ p => sJ_ne p, fun i p => by rw [sJ_eq, uL_ne (by omega)], rfl⟩
def FL9 (F : Nat) (z : gj_S) : Prop := ∃ k pl, 1 ≤ k ∧ k ≤ 5 ∧ z.1 188 9 = nI k ∧ z.1 188 10 = nI pl ∧ F = 8 * pl + k
theorem FL9_F {y : Nat → Int32} {N p k : Nat} {σ : gj_S} (h : TK9 y N p σ) (h1 : 1 ≤ k) (h2 : k ≤ 5) : FL9 (8 * tq y N p + k) (flt9 σ k) := ⟨k, tq y N p, h1, h2, by
  unfold flt9
  rw [sI_eq, up_ne (by decide), sI_eq, up_eq], by
  unfold flt9
  rw [sI_eq, up_eq, sI_eq, up_ne (by decide), h.2.1], rfl⟩
theorem FL9_9 {F : Nat} {z : gj_S} (h : FL9 F z) : ¬ z.1 188 9 = 0 := by
  obtain ⟨k, pl, h1, h2, h3, -⟩ := h
  rw [h3]
  exact nI_ne0 (by omega) (by omega)
theorem FL9_c {F : Nat} {z t : gj_S} (h : FL9 F z) (h1 : t.1 188 = z.1 188) : FL9 F t := by
  unfold FL9 at h ⊢
  rw [h1]
  exact h
theorem P9_T {A : pA} {σ τ : gj_S} (h : fT9 σ τ) (hP : P9 A σ) : P9 A τ := by
  unfold P9 at hP ⊢
  rw [h.1 190 (by decide), h.1 191 (by decide), h.2.1 19 (by decide), h.2.1 20 (by decide), h.2.2.1 192 (by decide), h.1 193 (by decide)]
  refine ⟨hP.1, hP.2.1, hP.2.2.1, hP.2.2.2.1, hP.2.2.2.2.1, fun w hw => ⟨(hP.2.2.2.2.2 w hw).1, fun i hi => ?_⟩⟩
  rw [h.1 (194 + i) (by omega)]
  exact (hP.2.2.2.2.2 w hw).2 i hi
