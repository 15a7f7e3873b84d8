/-! ===== the relation between class and reference, before each call ===== -/
/-- all routes hold something -/
def hzR (r : Nat) (s : Nat → Int32) : Prop := ∀ w, w < r → s (24 + w) ≠ 0
def rw1 (n r : Nat) (b0 e0 : Nat → Nat) (K : Nat) (s : Nat → Int32) (b : Nat) (σ : gj_S) : Prop := ∃ P, (P ≤ K ∧ hzR r s) ∧ rP n r b0 e0 s ∧ fP n r (999 + 2000 * K) s ∧ pl n r b0 e0 P s b σ
theorem fP_mono {n r F G : Nat} {s : Nat → Int32} (h : fP n r F s) (hFG : F ≤ G) : fP n r G s := ⟨h.1, fun d hd => by
  obtain ⟨f, f1, f2, f3⟩ := h.2 d hd
  exact ⟨f, f1, by omega, f3⟩⟩
theorem fP_cg {n r F : Nat} {b0 e0 : Nat → Nat} {s s' : Nat → Int32} (hg : gS n r b0 e0) (hq : rwQ s s') (h : fP n r F s) : fP n r F s' := by
  have hn := hg.1
  have hr := hg.2.1
  refine ⟨fun w hw => ?_, fun d hd => ?_⟩
  · rw [hq (50 + w) (by omega), hq (24 + w) (by omega), hq (74 + w) (by omega)]
    exact h.1 w hw
  · rw [hq (50 + (r + d)) (by omega), hq (74 + (r + d)) (by omega), hq (42 + d) (by omega)]
    exact h.2 d hd
theorem rw1_mono {n r K K' b : Nat} {b0 e0 : Nat → Nat} {s : Nat → Int32} {σ : gj_S} (h : rw1 n r b0 e0 K s b σ) (hK : K ≤ K') : rw1 n r b0 e0 K' s b σ := by
  obtain ⟨P, h1, h2, h3, h4⟩ := h
  exact ⟨P, ⟨by omega, h1.2⟩, h2, fP_mono h3 (by omega), h4⟩
theorem rw1_fr {n r K b : Nat} {b0 e0 : Nat → Nat} {s : Nat → Int32} {σ τ : gj_S} (h : rw1 n r b0 e0 K s b σ) (hs : ∀ k, b ≤ k → k ≤ b + 8 → τ.1 k = σ.1 k) : rw1 n r b0 e0 K s b τ := by
  obtain ⟨P, h1, h2, h3, h4⟩ := h
  exact ⟨P, h1, h2, h3, pl_fr h4 hs⟩
theorem rw1_rw {n r K b : Nat} {b0 e0 : Nat → Nat} {s s' : Nat → Int32} {σ : gj_S} (hg : gS n r b0 e0) (h : rw1 n r b0 e0 K s b σ) (hq : rwQ s s') : rw1 n r b0 e0 K s' b σ := by
  obtain ⟨P, h1, h2, h3, h4⟩ := h
  obtain ⟨σr, hSr⟩ := gS_r hg
  have hr := hg.2.1
  exact ⟨P, ⟨h1.1, fun w hw => by rw [hq (24 + w) (by omega)]; exact h1.2 w hw⟩, rP_cg hSr hq h2, fP_cg hg hq h3, pl_rw hg hq h4⟩
theorem rw1_cp {n r K a c : Nat} {b0 e0 : Nat → Nat} {s : Nat → Int32} {σ τ : gj_S} (hg : gS n r b0 e0) (h : rw1 n r b0 e0 K s c σ) (hc : cpE a c σ τ) : rw1 n r b0 e0 K s a τ := by
  obtain ⟨P, h1, h2, h3, h4⟩ := h
  exact ⟨P, h1, h2, h3, cp_pl hg hc h4⟩
/-- now -/
def reB (n r : Nat) (b0 e0 : Nat → Nat) (K : Nat) (σ : gj_S) : Prop := rw1 n r b0 e0 K (σ.1 198) 17 σ ∧ ∃ up par rk dp pr, rT n r b0 e0 (σ.1 198) up par rk dp pr ∧ t8 n up par dp pr 26 σ
/-- what can be undone: g acts ago -/
def reC (n r : Nat) (b0 e0 : Nat → Nat) (K : Nat) (σ : gj_S) : Prop := ∃ u nx, u ≤ 12 ∧ nx < 12 ∧ σ.1 188 23 = nI u ∧ σ.1 54 2 = nI u ∧ σ.1 54 1 = nI nx ∧ ∀ g, g < u → rw1 n r b0 e0 K (ur σ (u - 1 - g)) (56 + 9 * ((nx + 11 - g) % 12)) σ
/-- what is kept -/
def reD (n r : Nat) (b0 e0 : Nat → Nat) (K : Nat) (σ : gj_S) : Prop := ∀ k, k < 2 → (σ.1 165 k = 0 ∧ σ.1 201 k = 0) ∨ (σ.1 165 k = 1 ∧ σ.1 201 k = 1 ∧ rw1 n r b0 e0 K (kr σ k) (170 + 9 * k) σ)
/-- the tape -/
def reE (σ : gj_S) : Prop := ∃ t, t ≤ 600 ∧ σ.1 0 1 = nI t ∧ σ.1 188 2 = nI t ∧ ∀ q, q < t → σ.1 1 q = σ.1 189 q ∧ -128 ≤ (σ.1 1 q).toInt ∧ (σ.1 1 q).toInt ≤ 127
/-- letters packed by 8 bits and by 5 bits -/
def pk8 (ls : List Nat) : Int64 := ls.foldl (fun v c => v <<< 8 ||| Int64.ofNat (96 + c)) 0
def pk5 (ls : List Nat) : Int64 := ls.foldl (fun v c => v <<< 5 ||| Int64.ofNat c) 0
def nmR (x y : Int64) : Prop := ∃ ls : List Nat, 1 ≤ ls.length ∧ ls.length ≤ 6 ∧ (∀ c ∈ ls, 1 ≤ c ∧ c ≤ 26) ∧ x = pk8 ls ∧ y = pk5 ls
def reF (r : Nat) (σ : gj_S) : Prop := ∀ w, w < r → nmR (σ.2.1 15 w) (σ.2.1 192 (8 + w))
def REL (K : Nat) (σ : gj_S) : Prop := ∃ n r b0 e0, rS n r b0 e0 σ ∧ reB n r b0 e0 K σ ∧ reC n r b0 e0 K σ ∧ reD n r b0 e0 K σ ∧ reE σ ∧ reF r σ
/-- cells that the relation speaks of -/
def relC (k : Nat) : Prop := k ≤ 1 ∨ (17 ≤ k ∧ k ≤ 30) ∨ (54 ≤ k ∧ k ≤ 165) ∨ (170 ≤ k ∧ k ≤ 187) ∨ (189 ≤ k ∧ k ≤ 191) ∨ k = 194 ∨ k = 195 ∨ (198 ≤ k ∧ k ≤ 201)
def frK (σ τ : gj_S) : Prop := (∀ k, relC k → τ.1 k = σ.1 k) ∧ τ.1 188 2 = σ.1 188 2 ∧ τ.1 188 23 = σ.1 188 23 ∧ τ.2.1 15 = σ.2.1 15 ∧ τ.2.1 192 = σ.2.1 192
theorem frK_rf {σ : gj_S} : frK σ σ := ⟨fun _ _ => rfl, rfl, rfl, rfl, rfl⟩
theorem frK_tr {a b c : gj_S} (h1 : frK a b) (h2 : frK b c) : frK a c := ⟨fun k hk => (h2.1 k hk).trans (h1.1 k hk), h2.2.1.trans h1.2.1, h2.2.2.1.trans h1.2.2.1, h2.2.2.2.1.trans h1.2.2.2.1, h2.2.2.2.2.trans h1.2.2.2.2⟩
theorem frK_X {σ τ : gj_S} (h : smX σ τ) : frK σ τ := ⟨fun k hk => by
  unfold relC at hk
  exact h.1 k (by omega) (by omega), h.2.1 2 (by decide) (by decide) (by decide) (by decide), h.2.1 23 (by decide) (by decide) (by decide) (by decide), by rw [h.2.2], by rw [h.2.2]⟩
theorem frK_C {lo hi : Nat} {σ τ : gj_S} (h : smC lo hi σ τ) (hc : ∀ k, lo ≤ k → k ≤ hi → ¬ relC k ∧ k ≠ 188) : frK σ τ := by
  have e : ∀ k, (relC k ∨ k = 188) → τ.1 k = σ.1 k := fun k hk => h.1 k (by
    by_cases q : lo ≤ k ∧ k ≤ hi
    · have := hc k q.1 q.2
      rcases hk with a | a
      · exact absurd a this.1
      · exact absurd a this.2
    · omega)
  exact ⟨fun k hk => e k (.inl hk), by rw [e 188 (.inr rfl)], by rw [e 188 (.inr rfl)], by rw [h.2], by rw [h.2]⟩
theorem REL_fr {K : Nat} {σ τ : gj_S} (h : REL K σ) (hf : frK σ τ) : REL K τ := by
  obtain ⟨n, r, b0, e0, hS, ⟨hB1, up, par, rk, dp, pr, hB2, hB3⟩, ⟨u, nx, u1, u2, u3, u4, u5, u6⟩, hD, ⟨t, t1, t2, t3, t4⟩, hF⟩ := h
  obtain ⟨f1, f2, f3, f4, f5⟩ := hf
  have rc : ∀ k, ((17 ≤ k ∧ k ≤ 30) ∨ (54 ≤ k ∧ k ≤ 165) ∨ (170 ≤ k ∧ k ≤ 187)) → τ.1 k = σ.1 k := fun k hk => f1 k (by unfold relC; omega)
  have e198 : τ.1 198 = σ.1 198 := f1 198 (by unfold relC; omega)
  refine ⟨n, r, b0, e0, ?_, ⟨?_, up, par, rk, dp, pr, by rw [e198]; exact hB2, ?_⟩, ⟨u, nx, u1, u2, f3.trans u3, by rw [rc 54 (by omega)]; exact u4, by rw [rc 54 (by omega)]; exact u5, fun g hg => ?_⟩, fun k hk => ?_, ⟨t, t1, by rw [f1 0 (by unfold relC; omega)]; exact t2, f2.trans t3, fun q hq => ?_⟩, fun w hw => ?_⟩
  · unfold rS at hS ⊢
    rw [f1 190 (by unfold relC; omega), f1 191 (by unfold relC; omega), f1 194 (by unfold relC; omega), f1 195 (by unfold relC; omega)]
    exact hS
  · rw [e198]
    exact rw1_fr hB1 (fun k h1 h2 => rc k (by omega))
  · unfold t8 at hB3 ⊢
    rw [rc (26 + 1) (by omega), rc (26 + 2) (by omega), rc (26 + 3) (by omega), rc (26 + 4) (by omega)]
    exact hB3
  · have hm : (nx + 11 - g) % 12 < 12 := Nat.mod_lt _ (by omega)
    have : ur τ (u - 1 - g) = ur σ (u - 1 - g) := by
      unfold ur
      rw [f1 199 (by unfold relC; omega)]
    rw [this]
    exact rw1_fr (u6 g hg) (fun k h1 h2 => rc k (by omega))
  · have : kr τ k = kr σ k := by
      unfold kr
      rw [f1 200 (by unfold relC; omega)]
    rw [this, rc 165 (by omega), f1 201 (by unfold relC; omega)]
    rcases hD k hk with a | ⟨a1, a2, a3⟩
    · exact .inl a
    · exact .inr ⟨a1, a2, rw1_fr a3 (fun k h1 h2 => rc k (by omega))⟩
  · rw [f1 1 (by unfold relC; omega), f1 189 (by unfold relC; omega)]
    exact t4 q hq
  · rw [f4, f5]
    exact hF w hw
theorem REL_mono {K K' : Nat} {σ : gj_S} (h : REL K σ) (hK : K ≤ K') : REL K' σ := by
  obtain ⟨n, r, b0, e0, hS, ⟨hB1, hB2⟩, ⟨u, nx, u1, u2, u3, u4, u5, u6⟩, hD, hE, hF⟩ := h
  refine ⟨n, r, b0, e0, hS, ⟨rw1_mono hB1 hK, hB2⟩, ⟨u, nx, u1, u2, u3, u4, u5, fun g hg => rw1_mono (u6 g hg) hK⟩, fun k hk => ?_, hE, hF⟩
  rcases hD k hk with a | ⟨a1, a2, a3⟩
  · exact .inl a
  · exact .inr ⟨a1, a2, rw1_mono a3 hK⟩
/-- out of the relation: the class's yard -/
theorem rel_cL {n r K : Nat} {b0 e0 : Nat → Nat} {σ : gj_S} (hS : rS n r b0 e0 σ) (h : rw1 n r b0 e0 K (σ.1 198) 17 σ) {up par rk dp : Nat → Nat} {pr : Nat → Int32} (hT : rT n r b0 e0 (σ.1 198) up par rk dp pr) (ht : t8 n up par dp pr 26 σ) : cL n r b0 e0 (σ.1 198) up par rk dp pr 16 σ := by
  obtain ⟨P, -, hP, -, hp⟩ := h
  exact ⟨rS_g hS, hp.1, hT, ht, hP.2.2.2.2.2.1, hP.2.1⟩
