/-! ===== the reference: its ways, its tree ===== -/
theorem gi {k n : Nat} (h : k < n) (hk : k < 2 ^ 31) : gj_in (nI k) n := ⟨nI_pos hk, by rw [nI_clamp hk]; exact h⟩
theorem nI_sub {a b : Nat} (h : b ≤ a) : nI a - nI b = nI (a - b) := by
  obtain ⟨c, rfl⟩ : ∃ c, a = b + c := ⟨a - b, by omega⟩
  rw [← nI_add, Nat.add_sub_cancel_left]
  apply Int32.toBitVec_inj.mp
  simp only [Int32.toBitVec_sub, Int32.toBitVec_add]
  rw [BitVec.add_comm]
  exact BitVec.add_sub_cancel _ _
/-- a row of numbers s, r routes: where a way begins, ends; whether it is in the tree; what it costs -/
def vb (r : Nat) (b0 : Nat → Nat) (s : Nat → Int32) (w : Nat) : Nat := if w < r then b0 w else if s (42 + (w - r)) = 1 then w - r else 8
def ve (r : Nat) (e0 : Nat → Nat) (s : Nat → Int32) (w : Nat) : Nat := if w < r then e0 w else if s (42 + (w - r)) = 1 then 8 else w - r
def vT (s : Nat → Int32) (w : Nat) : Prop := s (74 + w) = 0
def vc (r : Nat) (s : Nat → Int32) (w : Nat) : Int32 := if w < r then s (8 + w) else 10000
/-- docks and routes as told -/
def rS (n r : Nat) (b0 e0 : Nat → Nat) (σ : gj_S) : Prop := n ≤ 8 ∧ r ≤ 16 ∧ σ.1 190 0 = nI n ∧ σ.1 191 0 = nI r ∧ ∀ w, w < r → σ.1 194 w = nI (b0 w) ∧ σ.1 195 w = nI (e0 w) ∧ b0 w < n ∧ e0 w < n ∧ b0 w ≠ e0 w
theorem vb_pl {n r : Nat} {b0 e0 : Nat → Nat} {σ : gj_S} {s : Nat → Int32} (h : rS n r b0 e0 σ) {w : Nat} (hw : w < r + n) : vb r b0 s w < n ∨ vb r b0 s w = 8 := by
  unfold vb
  by_cases q : w < r
  · rw [if_pos q]; exact .inl (h.2.2.2.2 w q).2.2.1
  · rw [if_neg q]
    split
    · exact .inl (by omega)
    · exact .inr rfl
theorem ve_pl {n r : Nat} {b0 e0 : Nat → Nat} {σ : gj_S} {s : Nat → Int32} (h : rS n r b0 e0 σ) {w : Nat} (hw : w < r + n) : ve r e0 s w < n ∨ ve r e0 s w = 8 := by
  unfold ve
  by_cases q : w < r
  · rw [if_pos q]; exact .inl (h.2.2.2.2 w q).2.2.2.1
  · rw [if_neg q]
    split
    · exact .inr rfl
    · exact .inl (by omega)
theorem r9_ways {n r : Nat} {b0 e0 : Nat → Nat} {σ : gj_S} (h : rS n r b0 e0 σ) : f_X9_ways σ = some (nI (r + n)) := by
  unfold f_X9_ways
  rw [if_pos (gj0 (by decide)), if_pos (gj0 (by decide)), rd0, h.2.2.1, h.2.2.2.1, nI_add]
theorem r9_bg {n r : Nat} {b0 e0 : Nat → Nat} {σ : gj_S} (h : rS n r b0 e0 σ) {w : Nat} (hw : w < r + n) : f_X9_beginOf (nI w) σ = some (nI (vb r b0 (σ.1 198) w)) := by
  have hn := h.1
  have hr := h.2.1
  unfold f_X9_beginOf vb
  rw [if_pos (gj0 (by decide))]
  simp only [rd0, h.2.2.2.1]
  by_cases q : w < r
  · rw [if_neg (nI_ge q (by omega)), if_pos (gi (by omega) (by omega)), nI_clamp (by omega), if_pos q, (h.2.2.2.2 w q).1]
  · rw [if_pos (nI_le (by omega) (by omega)), if_pos (gj0 (by decide)), nI_sub (by omega), show (42 : Int32) = nI 42 from rfl, nI_add, if_pos (gi (by omega) (by omega)), nI_clamp (by omega), if_neg q]
    split
    · rfl
    · rfl
theorem r9_en {n r : Nat} {b0 e0 : Nat → Nat} {σ : gj_S} (h : rS n r b0 e0 σ) {w : Nat} (hw : w < r + n) : f_X9_endOf (nI w) σ = some (nI (ve r e0 (σ.1 198) w)) := by
  have hn := h.1
  have hr := h.2.1
  unfold f_X9_endOf ve
  rw [if_pos (gj0 (by decide))]
  simp only [rd0, h.2.2.2.1]
  by_cases q : w < r
  · rw [if_neg (nI_ge q (by omega)), if_pos (gi (by omega) (by omega)), nI_clamp (by omega), if_pos q, (h.2.2.2.2 w q).2.1]
  · rw [if_pos (nI_le (by omega) (by omega)), if_pos (gj0 (by decide)), nI_sub (by omega), show (42 : Int32) = nI 42 from rfl, nI_add, if_pos (gi (by omega) (by omega)), nI_clamp (by omega), if_neg q]
    split
    · rfl
    · rfl
theorem r9_co {n r : Nat} {b0 e0 : Nat → Nat} {σ : gj_S} (h : rS n r b0 e0 σ) {w : Nat} (hw : w < r + n) : f_X9_costOf (nI w) σ = some (vc r (σ.1 198) w) := by
  have hn := h.1
  have hr := h.2.1
  unfold f_X9_costOf vc
  rw [if_pos (gj0 (by decide))]
  simp only [rd0, h.2.2.2.1]
  by_cases q : w < r
  · rw [if_neg (nI_ge q (by omega)), show (8 : Int32) = nI 8 from rfl, nI_add, if_pos (gi (by omega) (by omega)), nI_clamp (by omega), if_pos q]
  · rw [if_pos (nI_le (by omega) (by omega)), if_neg q]
theorem r9_ho {n r : Nat} {b0 e0 : Nat → Nat} {σ : gj_S} (h : rS n r b0 e0 σ) {w : Nat} (hw : w < r + n) : f_X9_holdsOf (nI w) σ = some (if w < r then σ.1 198 (24 + w) else 1000000000) := by
  have hn := h.1
  have hr := h.2.1
  unfold f_X9_holdsOf
  rw [if_pos (gj0 (by decide))]
  simp only [rd0, h.2.2.2.1]
  by_cases q : w < r
  · rw [if_neg (nI_ge q (by omega)), show (24 : Int32) = nI 24 from rfl, nI_add, if_pos (gi (by omega) (by omega)), nI_clamp (by omega), if_pos q]
  · rw [if_pos (nI_le (by omega) (by omega)), if_neg q]
/-- only the tree's rows differ -/
def sm9 (σ τ : gj_S) : Prop := (∀ k, k ≠ 203 → k ≠ 204 → k ≠ 205 → τ.1 k = σ.1 k) ∧ τ.2 = σ.2
theorem sm9_rf {σ : gj_S} : sm9 σ σ := ⟨fun _ _ _ _ => rfl, rfl⟩
theorem sm9_I {σ τ : gj_S} {k : Nat} {f : Nat → Int32} (hk : k = 203 ∨ k = 204 ∨ k = 205) (h : sm9 σ τ) : sm9 σ (gj_sI τ k f) := ⟨fun q h1 h2 h3 => by
  show (if q = k then f else τ.1 q) = _
  rw [if_neg (by omega)]
  exact h.1 q h1 h2 h3, h.2⟩
theorem sm9_S {n r : Nat} {b0 e0 : Nat → Nat} {σ τ : gj_S} (h : sm9 σ τ) (hS : rS n r b0 e0 σ) : rS n r b0 e0 τ := by
  obtain ⟨h1, h2, h3, h4, h5⟩ := hS
  unfold rS
  rw [h.1 190 (by decide) (by decide) (by decide), h.1 191 (by decide) (by decide) (by decide), h.1 194 (by decide) (by decide) (by decide), h.1 195 (by decide) (by decide) (by decide)]
  exact ⟨h1, h2, h3, h4, h5⟩
theorem r9_hangs {σ : gj_S} {d p w : Nat} {c : Int32} (hd : d < 9) (hp : p < 9) (hpd : p ≠ d) : ∃ τ, f_X9_hangs (nI d) (nI p) (nI w) c σ = some τ ∧ τ.1 203 = upd (σ.1 203) d (nI w) ∧ τ.1 204 = upd (σ.1 204) d (σ.1 204 p + 1) ∧ τ.1 205 = upd (σ.1 205) d (σ.1 205 p + c) ∧ sm9 σ τ := by
  unfold f_X9_hangs
  rw [if_pos (gi hd (by omega)), if_pos (gi hp (by omega)), if_pos (gi hd (by omega))]
  dsimp only [Option.bind_some]
  rw [if_pos (gi hp (by omega)), if_pos (gi hd (by omega)), nI_clamp (show d < 2 ^ 31 by omega), nI_clamp (show p < 2 ^ 31 by omega)]
  exact ⟨_, rfl, rfl, rfl, rfl, sm9_I (by omega) (sm9_I (by omega) (sm9_I (by omega) sm9_rf))⟩
/-- the prices that a certificate gives -/
def tpr (n r : Nat) (b0 : Nat → Nat) (s : Nat → Int32) (up par : Nat → Nat) (pr : Nat → Int32) : Prop := pr 8 = 0 ∧ ∀ d, d < n → pr d = pr (par d) + (if vb r b0 s (up d) = d then 0 - vc r s (up d) else vc r s (up d))
theorem tpr_ex {n r m : Nat} {b0 : Nat → Nat} {s : Nat → Int32} {bg en : Nat → Nat} {T : Nat → Prop} {up par rk : Nat → Nat} (h : tc_ok n m bg en T up par rk) : ∃ pr, tpr n r b0 s up par pr :=
  tc_rec (0 : Int32) (fun d x => x + (if vb r b0 s (up d) = d then 0 - vc r s (up d) else vc r s (up d))) h
/-- the tree as the reference has laid it -/
def tr9 (n : Nat) (up dp : Nat → Nat) (pr : Nat → Int32) (τ : gj_S) : Prop := τ.1 203 8 = -1 ∧ τ.1 204 8 = 0 ∧ τ.1 205 8 = 0 ∧ ∀ d, d < n → τ.1 203 d = nI (up d) ∧ τ.1 204 d = nI (dp d) ∧ τ.1 205 d = pr d
/-- all that laying the tree needs to know -/
def rT (n r : Nat) (b0 e0 : Nat → Nat) (s : Nat → Int32) (up par rk dp : Nat → Nat) (pr : Nat → Int32) : Prop := tc_ok n (r + n) (vb r b0 s) (ve r e0 s) (vT s) up par rk ∧ td n par dp ∧ tpr n r b0 s up par pr
theorem i32_nn1 {k : Nat} (h : k < 2 ^ 31) : (0 : Int32) ≤ nI k := nI_pos' h
/-- depth is -1, or no less than 0 -/
theorem ht_sg {n : Nat} {up par dp : Nat → Nat} {pr : Nat → Int32} {U D P : Nat → Int32} (h : ht_ok n up par dp pr U D P) (hdp : ∀ p, (p < n ∨ p = 8) → dp p ≤ 8) {p : Nat} (hp : p < n ∨ p = 8) : (0 ≤ D p ↔ D p ≠ -1) ∧ (D p < 0 ↔ D p = -1) := by
  by_cases q : D p = -1
  · rw [q]
    decide
  · have : D p = nI (dp p) ∨ D p = 0 := by
      rcases hp with hp | rfl
      · rcases h.2.2 p hp with a | a
        · exact absurd a q
        · exact .inl a.1
      · exact .inr h.1
    rcases this with e | e
    · rw [e]
      have := hdp p hp
      exact ⟨⟨fun _ => nI_m1 (by omega), fun _ => nI_pos' (by omega)⟩, ⟨fun a => absurd a (nI_pos (by omega)), fun a => absurd a (nI_m1 (by omega))⟩⟩
    · rw [e]
      decide
/-- one way looked at -/
theorem r9_l55 {n r : Nat} {b0 e0 : Nat → Nat} {up par rk dp : Nat → Nat} {pr : Nat → Int32} {σ : gj_S} (hS : rS n r b0 e0 σ) (hT : rT n r b0 e0 (σ.1 198) up par rk dp pr) (hh : ht_ok n up par dp pr (σ.1 203) (σ.1 204) (σ.1 205)) {mo : Int32} {w : Nat} (hw : w < r + n) :
    ∃ mo' τ, fb_X9_laysTree_l55 (mo, nI w, σ) = some (.inr (mo', nI (w + 1), τ)) ∧ sm9 σ τ ∧ ht_ok n up par dp pr (τ.1 203) (τ.1 204) (τ.1 205) ∧ τ.1 203 8 = σ.1 203 8 ∧
      ((mo' = mo ∧ τ = σ ∧ (vT (σ.1 198) w → (σ.1 204 (vb r b0 (σ.1 198) w) = -1 ↔ σ.1 204 (ve r e0 (σ.1 198) w) = -1))) ∨ (mo' = 1 ∧ hu (σ.1 204) n < hu (τ.1 204) n)) := by
  have hn := hS.1
  have hr := hS.2.1
  obtain ⟨hC, hD, hP⟩ := hT
  have hdp : ∀ p, (p < n ∨ p = 8) → dp p ≤ 8 := fun p hp => Nat.le_trans (td_le hC hD hp) hn
  unfold fb_X9_laysTree_l55
  dsimp only
  rw [r9_ways hS]
  dsimp only [Option.bind_some]
  rw [if_neg (nI_ge hw (by omega)), show (74 : Int32) = nI 74 from rfl, nI_add, if_pos (gi (by omega) (by omega)), nI_clamp (by omega), nI_1]
  by_cases hTw : σ.1 198 (74 + w) = 0
  · rw [if_pos hTw, r9_bg hS hw, r9_en hS hw]
    dsimp only [Option.bind_some]
    have hpb := vb_pl (s := σ.1 198) hS hw
    have hpe := ve_pl (s := σ.1 198) hS hw
    have gb : gj_in (nI (vb r b0 (σ.1 198) w)) 9 := gi (by omega) (by omega)
    have ge : gj_in (nI (ve r e0 (σ.1 198) w)) 9 := gi (by omega) (by omega)
    obtain ⟨d, hd, hu0⟩ := hC.1.2.2.2 w hw hTw
    obtain ⟨a1, a2, a3, a4, a5⟩ := hC.1.2.2.1 d hd
    rw [hu0] at a3
    have hpd : par d ≠ d := by intro e; rw [e] at a5; omega
    rw [if_pos gb]
    simp only [nI_clamp (show vb r b0 (σ.1 198) w < 2 ^ 31 by omega), nI_clamp (show ve r e0 (σ.1 198) w < 2 ^ 31 by omega)]
    have sb := ht_sg hh hdp hpb
    have se := ht_sg hh hdp hpe
    have key : ∀ (x : Nat), (σ.1 204 x = -1) ∨ (σ.1 204 x ≠ -1) := fun x => Classical.em _
    by_cases hb : σ.1 204 (vb r b0 (σ.1 198) w) = -1
    · rw [if_neg (fun q => sb.1.mp q hb)]
      dsimp only [Option.bind_some]
      rw [if_pos ge]
      by_cases he : σ.1 204 (ve r e0 (σ.1 198) w) = -1
      · rw [if_neg (fun q => se.1.mp q he)]
        dsimp only [Option.bind_some]
        rw [if_pos rfl]
        exact ⟨_, _, rfl, sm9_rf, hh, rfl, .inl ⟨rfl, rfl, fun _ => ⟨fun _ => he, fun _ => hb⟩⟩⟩
      · rw [if_pos (se.1.mpr he)]
        dsimp only [Option.bind_some]
        rw [if_neg (show ¬ (1 : Int32) = 0 by decide), if_pos (show gj_in (nI (vb r b0 (σ.1 198) w)) 9 from gb), if_pos (sb.2.mpr hb), r9_co hS hw]
        dsimp only [Option.bind_some]
        -- the way begins at d
        have hbd : vb r b0 (σ.1 198) w = d ∧ ve r e0 (σ.1 198) w = par d := by
          rcases a3 with a3 | a3
          · exact a3
          · exfalso
            rcases hh.2.2 d hd with q | ⟨q1, q2, q3, q4⟩
            · rw [a3.1] at he; exact he q
            · rcases q4 with q4 | q4
              · rw [a3.2, q4, hh.1] at hb; exact absurd hb (by decide)
              · rw [a3.2] at hb; exact q4 hb
        obtain ⟨τ, e1, e2, e3, e4, e5⟩ := r9_hangs (σ := σ) (d := vb r b0 (σ.1 198) w) (p := ve r e0 (σ.1 198) w) (w := w) (c := 0 - vc r (σ.1 198) w) (by omega) (by omega) (by rw [hbd.1, hbd.2]; exact hpd)
        rw [e1]
        dsimp only [Option.bind_some]
        have hpl := ht_pl hh hD.1 hP.1 hpe he
        have v2 : σ.1 205 (ve r e0 (σ.1 198) w) + (0 - vc r (σ.1 198) w) = pr d := by
          rw [hpl.2, hP.2 d hd, hu0, if_pos hbd.1, hbd.2]
        have v1 : σ.1 204 (ve r e0 (σ.1 198) w) + 1 = nI (dp d) := by rw [hpl.1, nI_1, hD.2 d hd, hbd.2]
        rw [v1] at e3
        rw [v2] at e4
        rw [hbd.1] at e2 e3 e4 hb
        rw [hbd.2] at he
        refine ⟨_, _, rfl, e5, ?_, ?_, .inr ⟨rfl, ?_⟩⟩
        · rw [e2, e3, e4, ← hu0]
          exact ht_up hn (fun p => by have := hdp p; omega) hh hd (.inr he) hpd
        · rw [e2]
          show (if 8 = d then _ else _) = _
          rw [if_neg (by omega)]
        · rw [e3]
          exact hu_up hd hb (nI_m1 (by have := hdp d (.inl hd); omega))
    · rw [if_pos (sb.1.mpr hb)]
      dsimp only [Option.bind_some]
      rw [if_pos ge]
      by_cases he : σ.1 204 (ve r e0 (σ.1 198) w) = -1
      · rw [if_neg (fun q => se.1.mp q he)]
        dsimp only [Option.bind_some]
        rw [if_neg (show ¬ (0 : Int32) = 1 by decide), if_pos (show gj_in (nI (vb r b0 (σ.1 198) w)) 9 from gb), if_neg (fun q => hb (sb.2.mp q)), r9_co hS hw]
        dsimp only [Option.bind_some]
        have hbd : ve r e0 (σ.1 198) w = d ∧ vb r b0 (σ.1 198) w = par d := by
          rcases a3 with a3 | a3
          · exfalso
            rcases hh.2.2 d hd with q | ⟨q1, q2, q3, q4⟩
            · rw [a3.1] at hb; exact hb q
            · rcases q4 with q4 | q4
              · rw [a3.2, q4, hh.1] at he; exact absurd he (by decide)
              · rw [a3.2] at he; exact q4 he
          · exact a3
        obtain ⟨τ, e1, e2, e3, e4, e5⟩ := r9_hangs (σ := σ) (d := ve r e0 (σ.1 198) w) (p := vb r b0 (σ.1 198) w) (w := w) (c := vc r (σ.1 198) w) (by omega) (by omega) (by rw [hbd.1, hbd.2]; exact hpd)
        rw [e1]
        dsimp only [Option.bind_some]
        have hpl := ht_pl hh hD.1 hP.1 hpb hb
        have hnb : ¬ vb r b0 (σ.1 198) w = d := by rw [hbd.2]; exact hpd
        have v2 : σ.1 205 (vb r b0 (σ.1 198) w) + vc r (σ.1 198) w = pr d := by
          rw [hpl.2, hP.2 d hd, hu0, if_neg hnb, hbd.2]
        have v1 : σ.1 204 (vb r b0 (σ.1 198) w) + 1 = nI (dp d) := by rw [hpl.1, nI_1, hD.2 d hd, hbd.2]
        rw [v1] at e3
        rw [v2] at e4
        rw [hbd.1] at e2 e3 e4 he
        rw [hbd.2] at hb
        refine ⟨_, _, rfl, e5, ?_, ?_, .inr ⟨rfl, ?_⟩⟩
        · rw [e2, e3, e4, ← hu0]
          exact ht_up hn (fun p => by have := hdp p; omega) hh hd (.inr hb) hpd
        · rw [e2]
          show (if 8 = d then _ else _) = _
          rw [if_neg (by omega)]
        · rw [e3]
          exact hu_up hd he (nI_m1 (by have := hdp d (.inl hd); omega))
      · rw [if_pos (se.1.mpr he)]
        dsimp only [Option.bind_some]
        rw [if_pos rfl]
        exact ⟨_, _, rfl, sm9_rf, hh, rfl, .inl ⟨rfl, rfl, fun _ => ⟨fun q => absurd q hb, fun q => absurd q he⟩⟩⟩
  · rw [if_neg hTw]
    exact ⟨_, _, rfl, sm9_rf, hh, rfl, .inl ⟨rfl, rfl, fun q => absurd q hTw⟩⟩
theorem sm9_tr {a b c : gj_S} (h1 : sm9 a b) (h2 : sm9 b c) : sm9 a c := ⟨fun k p q r => (h2.1 k p q r).trans (h1.1 k p q r), h2.2.trans h1.2⟩
theorem sm9_s {a b : gj_S} (h1 : sm9 a b) : b.1 198 = a.1 198 := h1.1 198 (by decide) (by decide) (by decide)
/-- all ways looked at once -/
theorem r9_pass {n r : Nat} {b0 e0 : Nat → Nat} {up par rk dp : Nat → Nat} {pr : Nat → Int32} {σ : gj_S} (hS : rS n r b0 e0 σ) (hT : rT n r b0 e0 (σ.1 198) up par rk dp pr) (hh : ht_ok n up par dp pr (σ.1 203) (σ.1 204) (σ.1 205)) :
    TP (gj_lp fb_X9_laysTree_l55 5000 (0, 0, σ)) (fun z => sm9 σ z.2 ∧ ht_ok n up par dp pr (z.2.1 203) (z.2.1 204) (z.2.1 205) ∧ z.2.1 203 8 = σ.1 203 8 ∧
      ((z.1 = 0 ∧ ∀ d, d < n → z.2.1 204 d ≠ -1) ∨ (z.1 = 1 ∧ hu (σ.1 204) n < hu (z.2.1 204) n))) := by
  have hn := hS.1
  have hr := hS.2.1
  refine tp_lp (I := fun a => ∃ w, a.2.1 = nI w ∧ w ≤ r + n ∧ sm9 σ a.2.2 ∧ ht_ok n up par dp pr (a.2.2.1 203) (a.2.2.1 204) (a.2.2.1 205) ∧ a.2.2.1 203 8 = σ.1 203 8 ∧ ((a.1 = 0 ∧ a.2.2 = σ ∧ ∀ v, v < w → vT (σ.1 198) v → (σ.1 204 (vb r b0 (σ.1 198) v) = -1 ↔ σ.1 204 (ve r e0 (σ.1 198) v) = -1)) ∨ (a.1 = 1 ∧ hu (σ.1 204) n < hu (a.2.2.1 204) n))) (fun a => r + n - a.2.1.toNatClampNeg) ?_ 5000 (0, 0, σ) ⟨0, rfl, by omega, sm9_rf, hh, rfl, .inl ⟨rfl, rfl, fun v hv => absurd hv (Nat.not_lt_zero _)⟩⟩ (by dsimp only; omega)
  rintro ⟨mo, wi, τ⟩ ⟨w, h1, h2, h3, h4, h5, h6⟩
  dsimp only at h1 h2 h3 h4 h5 h6
  subst h1
  have hS' := sm9_S h3 hS
  by_cases e : w = r + n
  · have hx : fb_X9_laysTree_l55 (mo, nI w, τ) = some (.inl (mo, τ)) := by
      unfold fb_X9_laysTree_l55
      dsimp only
      rw [r9_ways hS']
      dsimp only [Option.bind_some]
      rw [if_pos (nI_le (by omega) (by omega))]
    refine tp_eq hx ⟨h3, h4, h5, ?_⟩
    rcases h6 with ⟨q1, q2, q3⟩ | q
    · refine .inl ⟨q1, fun d hd => ?_⟩
      subst q2
      exact ht_full hT.1.1 h4 (fun v hv hTv => q3 v (by omega) hTv) (rk d) d (Nat.le_refl _) hd
    · exact .inr q
  · have hT' : rT n r b0 e0 (τ.1 198) up par rk dp pr := by rw [sm9_s h3]; exact hT
    obtain ⟨mo', τ', e1, e2, e3, e4, e5⟩ := r9_l55 hS' hT' h4 (mo := mo) (w := w) (by omega)
    refine tp_eq e1 ⟨⟨w + 1, rfl, by omega, sm9_tr h3 e2, e3, e4.trans h5, ?_⟩, ?_⟩
    · rcases e5 with ⟨p1, p2, p3⟩ | ⟨p1, p2⟩
      · dsimp only
        rcases h6 with ⟨q1, q2, q3⟩ | ⟨q1, q2⟩
        · subst q2
          refine .inl ⟨p1.trans q1, p2, fun v hv hTv => ?_⟩
          by_cases e6 : v = w
          · subst e6
            exact p3 hTv
          · exact q3 v (by omega) hTv
        · exact .inr ⟨p1.trans q1, by rw [p2]; exact q2⟩
      · refine .inr ⟨p1, ?_⟩
        dsimp only
        rcases h6 with ⟨q1, q2, q3⟩ | ⟨q1, q2⟩
        · subst q2
          exact p2
        · exact Nat.lt_trans q2 p2
    · dsimp only
      first | omega | ((repeat rw [nI_clamp (by omega)]); omega)
theorem r9_l47 {n r : Nat} {b0 e0 : Nat → Nat} {up par rk dp : Nat → Nat} {pr : Nat → Int32} {σ : gj_S} (hS : rS n r b0 e0 σ) (hT : rT n r b0 e0 (σ.1 198) up par rk dp pr) (hh : ht_ok n up par dp pr (σ.1 203) (σ.1 204) (σ.1 205)) :
    TP (gj_lp fb_X9_laysTree_l47 5000 (1, σ)) (fun z => sm9 σ z ∧ ht_ok n up par dp pr (z.1 203) (z.1 204) (z.1 205) ∧ z.1 203 8 = σ.1 203 8 ∧ ∀ d, d < n → z.1 204 d ≠ -1) := by
  have hn := hS.1
  refine tp_lp (I := fun a => sm9 σ a.2 ∧ ht_ok n up par dp pr (a.2.1 203) (a.2.1 204) (a.2.1 205) ∧ a.2.1 203 8 = σ.1 203 8 ∧ (a.1 = 1 ∨ (a.1 = 0 ∧ ∀ d, d < n → a.2.1 204 d ≠ -1))) (fun a => if a.1 = 0 then 0 else n - hu (a.2.1 204) n + 1) ?_ 5000 (1, σ) ⟨sm9_rf, hh, rfl, .inl rfl⟩ (by dsimp only; rw [if_neg (by decide)]; omega)
  rintro ⟨mo, τ⟩ ⟨h1, h2, h3, h4⟩
  dsimp only at h1 h2 h3 h4
  unfold fb_X9_laysTree_l47
  dsimp only
  rcases h4 with rfl | ⟨rfl, h4⟩
  · refine tp_f (by decide) ?_
    refine tp_bind (r9_pass (sm9_S h1 hS) (by rw [sm9_s h1]; exact hT) h2) (fun z hz => ?_)
    obtain ⟨z1, z2, z3, z4⟩ := hz
    refine tp_some ⟨⟨sm9_tr h1 z1, z2, z3.trans h3, ?_⟩, ?_⟩
    · rcases z4 with q | q
      · exact .inr q
      · exact .inl q.1
    · dsimp only
      rcases z4 with q | q
      · rw [if_pos q.1, if_neg (show ¬ (1 : Int32) = 0 by decide)]
        omega
      · rw [if_neg (by rw [q.1]; decide), if_neg (show ¬ (1 : Int32) = 0 by decide)]
        have := hu_le (D := z.2.1 204) (n := n)
        omega
  · exact tp_t rfl (tp_some ⟨h1, h2, h3, h4⟩)
theorem r9_l2 {σ : gj_S} : TP (gj_lp fb_X9_laysTree_l2 5000 (0, σ)) (fun z => sm9 σ z ∧ ∀ j, j < 9 → z.1 204 j = -1) := by
  refine tp_lp (I := fun a => ∃ k, a.1 = nI k ∧ k ≤ 9 ∧ sm9 σ a.2 ∧ ∀ j, j < k → a.2.1 204 j = -1) (fun a => 9 - a.1.toNatClampNeg) ?_ 5000 (0, σ) ⟨0, rfl, by omega, sm9_rf, fun j hj => absurd hj (Nat.not_lt_zero _)⟩ (by dsimp only; omega)
  rintro ⟨i, τ⟩ ⟨k, h1, h2, h3, h4⟩
  dsimp only at h1 h2 h3 h4
  subst h1
  unfold fb_X9_laysTree_l2
  dsimp only
  by_cases e : k = 9
  · subst e
    exact tp_t (by decide) (tp_some ⟨h3, h4⟩)
  · refine tp_f (by rw [show (9 : Int32) = nI 9 from rfl]; exact nI_ge (by omega) (by omega)) (tp_t (gi (by omega) (by omega)) ?_)
    rw [nI_1, nI_clamp (by omega)]
    refine tp_some ⟨⟨k + 1, rfl, by omega, sm9_I (by omega) h3, fun j hj => ?_⟩, ?_⟩
    · show (if (204 : Nat) = 204 then upd (τ.1 204) k (-1) else τ.1 204) j = -1
      rw [if_pos rfl]
      show (if j = k then (-1 : Int32) else τ.1 204 j) = -1
      by_cases q : j = k
      · rw [if_pos q]
      · rw [if_neg q]
        exact h4 j (by omega)
    · dsimp only
      first | omega | ((repeat rw [nI_clamp (by omega)]); omega)
/-- the reference's tree is the certificate's -/
theorem r9_tree {n r : Nat} {b0 e0 : Nat → Nat} {up par rk dp : Nat → Nat} {pr : Nat → Int32} {σ : gj_S} (hS : rS n r b0 e0 σ) (hT : rT n r b0 e0 (σ.1 198) up par rk dp pr) : TP (f_X9_laysTree σ) (fun τ => sm9 σ τ ∧ tr9 n up dp pr τ) := by
  have hn := hS.1
  unfold f_X9_laysTree
  refine tp_bind r9_l2 (fun z hz => ?_)
  obtain ⟨z1, z2⟩ := hz
  simp only [show Int32.toNatClampNeg (8 : Int32) = 8 by decide]
  refine tp_t (by decide) (tp_t (by decide) (tp_beq rfl (tp_t (by decide) ?_)))
  have s3 : sm9 σ (gj_sI (gj_sI (gj_sI z 204 (upd (z.1 204) 8 0)) 205 (upd ((gj_sI z 204 (upd (z.1 204) 8 0)).1 205) 8 0)) 203 (upd ((gj_sI (gj_sI z 204 (upd (z.1 204) 8 0)) 205 (upd ((gj_sI z 204 (upd (z.1 204) 8 0)).1 205) 8 0)).1 203) 8 (-1))) := sm9_I (by omega) (sm9_I (by omega) (sm9_I (by omega) z1))
  refine tp_bind (r9_l47 (n := n) (r := r) (b0 := b0) (e0 := e0) (up := up) (par := par) (rk := rk) (dp := dp) (pr := pr) (sm9_S s3 hS) (by rw [sm9_s s3]; exact hT) ⟨rfl, rfl, fun d hd => .inl ?_⟩) (fun τ ht => ?_)
  · show (if d = 8 then (0 : Int32) else z.1 204 d) = -1
    rw [if_neg (by omega)]
    exact z2 d (by omega)
  · obtain ⟨t1, t2, t3, t4⟩ := ht
    refine tp_some ⟨sm9_tr s3 t1, t3.trans rfl, t2.1, t2.2.1, fun d hd => ?_⟩
    rcases t2.2.2 d hd with q | q
    · exact absurd q (t4 d hd)
    · exact ⟨q.2.1, q.1, q.2.2.1⟩
/-- the tree is laid: what the readers of it need -/
def rL (n r : Nat) (b0 e0 : Nat → Nat) (up par rk dp : Nat → Nat) (pr : Nat → Int32) (τ : gj_S) : Prop := rS n r b0 e0 τ ∧ rT n r b0 e0 (τ.1 198) up par rk dp pr ∧ tr9 n up dp pr τ
theorem r9_lay {n r : Nat} {b0 e0 : Nat → Nat} {up par rk dp : Nat → Nat} {pr : Nat → Int32} {σ : gj_S} (hS : rS n r b0 e0 σ) (hT : rT n r b0 e0 (σ.1 198) up par rk dp pr) : TP (f_X9_laysTree σ) (fun τ => sm9 σ τ ∧ rL n r b0 e0 up par rk dp pr τ) :=
  tp_mono (r9_tree hS hT) (fun τ h => ⟨h.1, sm9_S h.1 hS, by rw [sm9_s h.1]; exact hT, h.2⟩)
theorem rL_dp {n r : Nat} {b0 e0 : Nat → Nat} {up par rk dp : Nat → Nat} {pr : Nat → Int32} {τ : gj_S} (h : rL n r b0 e0 up par rk dp pr τ) {p : Nat} (hp : p < n ∨ p = 8) : dp p ≤ 8 := Nat.le_trans (td_le h.2.1.1 h.2.1.2.1 hp) h.1.1
theorem rL_D {n r : Nat} {b0 e0 : Nat → Nat} {up par rk dp : Nat → Nat} {pr : Nat → Int32} {τ : gj_S} (h : rL n r b0 e0 up par rk dp pr τ) {p : Nat} (hp : p < n ∨ p = 8) : τ.1 204 p = nI (dp p) := by
  rcases hp with hp | rfl
  · exact (h.2.2.2.2.2 p hp).2.1
  · rw [h.2.2.2.1, h.2.1.2.1.1]
    rfl
theorem rL_P {n r : Nat} {b0 e0 : Nat → Nat} {up par rk dp : Nat → Nat} {pr : Nat → Int32} {τ : gj_S} (h : rL n r b0 e0 up par rk dp pr τ) {p : Nat} (hp : p < n ∨ p = 8) : τ.1 205 p = pr p := by
  rcases hp with hp | rfl
  · exact (h.2.2.2.2.2 p hp).2.2
  · rw [h.2.2.2.2.1, h.2.1.2.2.1]
theorem r9_above {n r : Nat} {b0 e0 : Nat → Nat} {up par rk dp : Nat → Nat} {pr : Nat → Int32} {τ : gj_S} (h : rL n r b0 e0 up par rk dp pr τ) {d : Nat} (hd : d < n) : f_X9_aboveOf (nI d) τ = some (nI (par d)) := by
  have hn := h.1.1
  obtain ⟨a1, a2, a3, a4, a5⟩ := h.2.1.1.1.2.2.1 d hd
  have hpd : par d ≠ d := by intro e; rw [e] at a5; omega
  unfold f_X9_aboveOf
  rw [if_pos (gi (by omega) (by omega))]
  simp only [nI_clamp (show d < 2 ^ 31 by omega), (h.2.2.2.2.2 d hd).1, r9_bg h.1 a1, r9_en h.1 a1]
  dsimp only [Option.bind_some]
  rcases a3 with ⟨q1, q2⟩ | ⟨q1, q2⟩
  · rw [q1, q2, if_pos rfl, if_pos (gi (by omega) (by omega))]
  · rw [q2, if_neg (fun e => hpd ((nI_eq (by omega) (by omega)).mp e)), if_pos (gi (by omega) (by omega))]
theorem r9_upw {n r : Nat} {b0 e0 : Nat → Nat} {up par rk dp : Nat → Nat} {pr : Nat → Int32} {τ : gj_S} (h : rL n r b0 e0 up par rk dp pr τ) {d : Nat} (hd : d < n) : f_X9_isUpward (nI d) τ = some (if vb r b0 (τ.1 198) (up d) = d then 1 else 0) := by
  have hn := h.1.1
  obtain ⟨a1, a2, a3, a4, a5⟩ := h.2.1.1.1.2.2.1 d hd
  have hb := vb_pl (s := τ.1 198) h.1 a1
  unfold f_X9_isUpward
  rw [if_pos (gi (by omega) (by omega)), nI_clamp (by omega), (h.2.2.2.2.2 d hd).1, r9_bg h.1 a1]
  dsimp only [Option.bind_some]
  by_cases q : vb r b0 (τ.1 198) (up d) = d
  · rw [if_pos q, if_pos (by rw [q])]
  · rw [if_neg q, if_neg (fun e => q ((nI_eq (by omega) (by omega)).mp e))]
/-- gain, and whether it is good -/
def vg (r : Nat) (b0 e0 : Nat → Nat) (s : Nat → Int32) (pr : Nat → Int32) (w : Nat) : Int32 := vc r s w + pr (vb r b0 s w) - pr (ve r e0 s w)
def vG (r : Nat) (b0 e0 : Nat → Nat) (s : Nat → Int32) (pr : Nat → Int32) (w : Nat) : Bool := (s (74 + w) == 1 && decide (vg r b0 e0 s pr w < 0)) || (s (74 + w) == 2 && decide (0 < vg r b0 e0 s pr w))
theorem r9_gain {n r : Nat} {b0 e0 : Nat → Nat} {up par rk dp : Nat → Nat} {pr : Nat → Int32} {τ : gj_S} (h : rL n r b0 e0 up par rk dp pr τ) {w : Nat} (hw : w < r + n) : f_X9_gainOf (nI w) τ = some (vg r b0 e0 (τ.1 198) pr w) := by
  have hn := h.1.1
  have hb := vb_pl (s := τ.1 198) h.1 hw
  have he := ve_pl (s := τ.1 198) h.1 hw
  unfold f_X9_gainOf vg
  rw [r9_co h.1 hw, r9_bg h.1 hw, r9_en h.1 hw]
  dsimp only [Option.bind_some]
  rw [if_pos (gi (by omega) (by omega)), if_pos (gi (by omega) (by omega)), nI_clamp (by omega), nI_clamp (by omega), rL_P h hb, rL_P h he]
theorem i32_nle {a : Int32} : ¬ a ≤ 0 ↔ 0 < a := by
  rw [i32_le_iff, i32_lt_iff]
  omega
theorem r9_good {n r : Nat} {b0 e0 : Nat → Nat} {up par rk dp : Nat → Nat} {pr : Nat → Int32} {τ : gj_S} (h : rL n r b0 e0 up par rk dp pr τ) {w : Nat} (hw : w < r + n) : f_X9_isGood (nI w) τ = some (if vG r b0 e0 (τ.1 198) pr w = true then 1 else 0) := by
  have hn := h.1.1
  have hr := h.1.2.1
  have hg : gj_in (nI 74 + nI w) 180 := by rw [nI_add]; exact gi (by omega) (by omega)
  unfold f_X9_isGood vG
  simp only [show (74 : Int32) = nI 74 from rfl]
  rw [if_pos hg]
  simp only [if_pos hg]
  rw [nI_add, nI_clamp (by omega), r9_gain h hw]
  dsimp only [Option.bind_some]
  by_cases h1 : τ.1 198 (74 + w) = 1
  · have h2 : ¬ τ.1 198 (74 + w) = 2 := by rw [h1]; decide
    rw [if_pos h1, if_neg h2]
    by_cases q : vg r b0 e0 (τ.1 198) pr w < 0
    · simp [h1, q]
    · simp [h1, q]
  · rw [if_neg h1]
    by_cases h2 : τ.1 198 (74 + w) = 2
    · rw [if_pos h2]
      by_cases q : vg r b0 e0 (τ.1 198) pr w ≤ 0
      · have q2 : ¬ 0 < vg r b0 e0 (τ.1 198) pr w := fun x => i32_nle.mpr x q
        simp [h2, q, q2]
      · have q2 : 0 < vg r b0 e0 (τ.1 198) pr w := i32_nle.mp q
        simp [h2, q, q2]
    · rw [if_neg h2]
      simp [h1, h2]
theorem r9_many {n r : Nat} {b0 e0 : Nat → Nat} {up par rk dp : Nat → Nat} {pr : Nat → Int32} {τ : gj_S} (h : rL n r b0 e0 up par rk dp pr τ) : f_X9_goodMany τ = some (nI (ct (vG r b0 e0 (τ.1 198) pr) (r + n))) := by
  have hn := h.1.1
  have hr := h.1.2.1
  have : TP (gj_lp (fb_X9_goodMany_l4 τ) 5000 (0, 0)) (fun z => z = nI (ct (vG r b0 e0 (τ.1 198) pr) (r + n))) := by
    refine tp_lp (I := fun a => ∃ k, k ≤ r + n ∧ a.2 = nI k ∧ a.1 = nI (ct (vG r b0 e0 (τ.1 198) pr) k)) (fun a => r + n - a.2.toNatClampNeg) ?_ 5000 (0, 0) ⟨0, by omega, rfl, rfl⟩ (by dsimp only; omega)
    rintro ⟨c, i⟩ ⟨k, h1, h2, h3⟩
    dsimp only at h2 h3
    subst h2
    subst h3
    unfold fb_X9_goodMany_l4
    dsimp only
    rw [r9_ways h.1]
    refine tp_beq rfl ?_
    by_cases e : k = r + n
    · subst e
      exact tp_t (nI_le (by omega) (by omega)) (tp_some rfl)
    · refine tp_f (nI_ge (by omega) (by omega)) ?_
      rw [r9_good h (by omega)]
      refine tp_beq rfl ?_
      by_cases q : vG r b0 e0 (τ.1 198) pr k = true
      · rw [if_pos q]
        refine tp_f (by decide) (tp_some ⟨⟨k + 1, by omega, nI_1 _, ?_⟩, ?_⟩)
        · dsimp only [ct]
          rw [if_pos q, nI_1]
        · dsimp only
          first | omega | (rw [nI_1, nI_clamp (by omega), nI_clamp (by omega)]; omega)
      · rw [if_neg q]
        refine tp_t (by decide) (tp_some ⟨⟨k + 1, by omega, nI_1 _, ?_⟩, ?_⟩)
        · dsimp only [ct]
          rw [if_neg q]
          simp
        · dsimp only
          first | omega | (rw [nI_1, nI_clamp (by omega), nI_clamp (by omega)]; omega)
  obtain ⟨x, e, rfl⟩ := this
  unfold f_X9_goodMany
  rw [e]
  rfl
theorem r9_end {n r : Nat} {b0 e0 : Nat → Nat} {up par rk dp : Nat → Nat} {pr : Nat → Int32} {σ : gj_S} (hS : rS n r b0 e0 σ) (hT : rT n r b0 e0 (σ.1 198) up par rk dp pr) : TP (f_X9_isEnd σ) (fun x => x.1 = (if ct (vG r b0 e0 (σ.1 198) pr) (r + n) = 0 then 1 else 0) ∧ sm9 σ x.2 ∧ rL n r b0 e0 up par rk dp pr x.2) := by
  have hn := hS.1
  have hr := hS.2.1
  unfold f_X9_isEnd
  refine tp_bind (r9_lay hS hT) (fun τ ht => ?_)
  rw [r9_many ht.2, sm9_s ht.1]
  refine tp_beq rfl ?_
  have hc := ct_le (P := vG r b0 e0 (σ.1 198) pr) (r + n)
  by_cases q : ct (vG r b0 e0 (σ.1 198) pr) (r + n) = 0
  · rw [q]
    exact tp_t rfl (tp_some ⟨rfl, ht⟩)
  · exact tp_f (nI_ne0 (by omega) (by omega)) (tp_some ⟨by rw [if_neg q], ht⟩)
