/-! THE CLAIM OUT OF ONE WALK OF THE LAW'S BODY. Your part is whole_start (and what it stands on); all else here is the same for every law, but numbers. -/
def R_law : String := "PivotDocksLaw"
def lw_P (b : Addr) (xs : List Int32) (args : Array Value) (s : State) : Prop := args = #[.ref b] ∧ s.IntsAt b xs ∧ xs.length ≤ 3072 ∧ (Jvm.Cond.and given_1 narrow_1).before args s = true
def lw_Q (_ : Array Value) (s : State) (o : Outcome) (t : State) : Prop := o = .returned (some (.int 1)) ∧ Framed s o t [] 601024 7293034
def lw_Z (below : List Frame) (a : Array Value) (s : State) : State → Prop := fun t => ∃ o, t.status = .running ∧ Ended t below o ∧ lw_Q a s o t
/-- the law's own end, with 1 on the stack, nothing written that was there before, its room as the claim has it -/
theorem lw_ret {p : Program} {l : Launch} {e : Env} {s : State} {m : MethodId} {below : List Frame} {meth : Method} {c : Code} {b : Nat} (hx : p.tables.exec = Jvm.exec) (hb : c.code = code) (hr : meth.sig.returnType = ret) (hlocks : meth.locks = false) {pc : Nat} {H : Heap} {ls : Array Slot} (hdg : decode code pc = .ok (.ireturn, 1)) : W p l e room_1 s m #[Value.ref b] below meth c H [] 601024 7293034 (lw_Z below #[Value.ref b] s) (F0 m pc ls [.int 1]) := by
  intro T hT X
  obtain ⟨fs, hret, hrun, hended, hW, hframe⟩ := X.leave (v := some (.int 1)) (hlocks := hlocks) (fun h => by rw [hr] at h; cases h)
  have hmeth' : T.vm.method? m = some meth := X.method'
  refine ⟨T.setFrames fs, ?_, .returned (some (.int 1)), hrun, hended, rfl, ⟨_, rfl⟩, hW, hframe⟩
  jvm_step X.here [X.here.top, hx, hb, hdg, hmeth', hr, ret, narrow_b1]
  (try refine ⟨rfl, ?_⟩); (try refine ⟨rfl, ?_⟩)
  first | (intro acts; rw [hret _ acts rfl rfl rfl]) | rw [hret _ _ rfl rfl rfl]
  exact Steps.refl _
/-- what holds at the law's entry: the machine, the code, the tables' words (any of lw_tbl by 'hts w (by decide +kernel)'), the script of L ints xs at the cell b, what the Statement gives of the start (any of its parts by flat_of_before) -/
def lw_At (p : Program) (s : State) (m : MethodId) (meth : Method) (c : Code) (b L : Nat) (xs : Nat → Int32) : Prop :=
  p.tables.exec = Jvm.exec ∧ c.code = code ∧ meth.sig.returnType = ret ∧ c.maxLocals = 7 ∧ s.vm.findClass R_law = some m.cls ∧ (∀ w ∈ lw_tbl, w.before #[Value.ref b] s = true) ∧ va_X b L xs s s.heap ∧ b < s.heap.size ∧ meth.locks = false ∧ (Jvm.Cond.and given_1 narrow_1).before #[Value.ref b] s = true
/-! ===== the law's loop out of the pure rounds ===== -/
def fl_n (xs : Nat → Int32) : Nat → Nat → gj_S → Option gj_S
  | 0, _, σ => some σ
  | n + 1, j, σ => (fl_law (xs j) (xs (j + 1)) (xs (j + 2)) (xs (j + 3)) (xs (j + 4)) (xs (j + 5)) σ).bind (fl_n xs n (j + 6))
theorem ls_nI {L : Nat} {xs : Nat → Int32} {j q : Nat} {i z : Int32} (hi : i = nI j) (hz : z = nI q) (h : j + q < L) (hL : L ≤ 3072) : ls_at L xs (i + z) (xs (j + q)) := by
  subst hi hz
  rw [nI_add]
  exact ⟨vp_in_nI h (by omega), by rw [nI_clamp (by omega)]⟩
theorem ls_nI0 {L : Nat} {xs : Nat → Int32} {j : Nat} {i : Int32} (hi : i = nI j) (h : j < L) (hL : L ≤ 3072) : ls_at L xs i (xs j) := by
  subst hi
  exact ⟨vp_in_nI h (by omega), by rw [nI_clamp (by omega)]⟩
theorem ls_sub {L : Nat} (hL : L ≤ 3072) : (Int32.ofNat L - 6).toInt = (L : Int) - 6 := by
  have h1 : (Int32.ofNat L).toInt = (L : Int) := nI_toInt (by omega)
  rw [Int32.toInt_sub, h1]
  have h2 : (6 : Int32).toInt = 6 := by decide
  rw [h2]
  exact Int.bmod_eq_of_le (by omega) (by omega)
theorem ls_le {L j : Nat} {i : Int32} (hL : L ≤ 3072) (hi : i = nI j) (h : j + 6 ≤ L) : ¬ Int32.ofNat L - 6 < i := by
  rw [Int32.lt_iff_toInt_lt, ls_sub hL, hi, nI_toInt (by omega)]
  omega
theorem ls_gt {L j : Nat} {i : Int32} (hL : L ≤ 3072) (hi : i = nI j) (hj : j < 2 ^ 31) (h : L < j + 6) : Int32.ofNat L - 6 < i := by
  rw [Int32.lt_iff_toInt_lt, ls_sub hL, hi, nI_toInt hj]
  omega
set_option maxRecDepth 100000 in
theorem ll_loop {E : gj_E} {X : gj_X} {L : Nat} {xs : Nat → Int32} {Q : State → Prop} {τ : gj_S} (hL : L ≤ 3072) (hO : gj_O E X RL cL_law 7 (some .boolean) 15 550) (hX : ls_X E X L xs)
    (hend : ∀ (ce sl : Nat) (lv : List (Nat × gj_V)), ce ≤ 212 + 512 → sl ≤ 10000 + 3072 → gj_H E X 7 ce sl Q 1166 lv [] τ) :
    ∀ (n j : Nat) (i : Int32) (ce sl : Nat) (σ : gj_S), i = nI j → j + 6 * n ≤ L → L < j + 6 * n + 6 → ce + n ≤ 212 + 512 → sl + 6 * n ≤ 10000 + 3072 → gj_rm X (ce + n) (sl + 6 * n) → fl_n xs n j σ = some τ →
      gj_H E X 7 ce sl Q 23 [(0, gj_r 2000), (1, gj_r 0), (2, gj_r 188), (3, gj_r 211), (4, gj_i i)] [] σ := by
  intro n
  induction n with
  | zero =>
    intro j i ce sl σ hi h1 h2 h3 h4 hr hf
    obtain rfl := Option.some.inj hf
    refine gj_iload hO 4 dL_law_23 rfl ?_
    refine gj_aload_n hO 0 dL_law_25 rfl rfl ?_
    refine gj_slen hO hX dL_law_26 ?_
    refine gj_bipush (v := 6) hO dL_law_27 (by decide) ?_
    refine gj_isub hO dL_law_29 ?_
    refine gj_icmp_gt (tgt := 1166) hO dL_law_30 (by decide) (fun h => ?_) (fun h => ?_)
    · exact hend _ _ _ (by omega) (by omega)
    · exact absurd (ls_gt hL hi (by omega) (by omega)) h
  | succ n ih =>
    intro j i ce sl σ hi h1 h2 h3 h4 hr hf
    obtain ⟨σ1, hf1, hf2⟩ := gj_b hf
    have hr1 : gj_rm X (ce + 1 + n) (sl + 6 + 6 * n) := by
      have e1 : ce + 1 + n = ce + (n + 1) := by omega
      have e2 : sl + 6 + 6 * n = sl + 6 * (n + 1) := by omega
      rw [e1, e2]
      exact hr
    have hr0 : gj_rm X (ce + 1) (sl + 6) := by
      obtain ⟨p, e, R, s, m, args, below, meth, c⟩ := X
      exact ⟨Nat.le_trans (Nat.le_add_right _ _) hr1.1, Nat.le_trans (Nat.le_add_right _ _) hr1.2⟩
    refine sl_law (c0 := xs j) (c1 := xs (j + 1)) (c2 := xs (j + 2)) (c3 := xs (j + 3)) (c4 := xs (j + 4)) (c5 := xs (j + 5)) (τ := σ1) hO hX (ls_nI0 hi (by omega) hL) (ls_nI hi (by decide) (by omega) hL) (ls_nI hi (by decide) (by omega) hL) (ls_nI hi (by decide) (by omega) hL) (ls_nI hi (by decide) (by omega) hL) (ls_nI hi (by decide) (by omega) hL) hr0 hf1 (ls_le hL hi (by omega)) ?_
    exact ih (j + 6) (i + 6) (ce + 1) (sl + 6) σ1 (by rw [hi]; exact nI_add j 6) (by omega) (by omega) (by omega) (by omega) hr1 hf2
/-- the law's last two instructions -/
theorem ll_end {E : gj_E} {p : Program} {e : Env} {s : State} {m : MethodId} {below : List Frame} {meth : Method} {c : Code} {b : Nat} {τ : gj_S} {lv : List (Nat × gj_V)} {ce sl : Nat} (hO : gj_O E (p, e, room_1, s, m, #[Value.ref b], below, meth, c) RL cL_law 7 (some .boolean) 15 550)
    (hB : ∀ k, k < E.2.1 5000 → s.heap.size ≤ E.2.1 k) (h1 : ce ≤ 212 + 512) (h2 : sl ≤ 10000 + 3072) : gj_H E (p, e, room_1, s, m, #[Value.ref b], below, meth, c) 7 ce sl (lw_Z below #[Value.ref b] s) 1166 lv [] τ := by
  refine gj_iconst (v := 1) hO dL_law_1166 (by decide) ?_
  obtain ⟨hx, hb, hml, hown, hts, hK, hi, hr, hlk, hfr, hlo⟩ := hO
  intro hcs H locs ls hW hS hl
  refine va_forget (fun q hq => ?_) ?_
  · rcases hS.2.2 q hq with ⟨k, hk, e1⟩ | h
    · rw [e1]; exact hB k hk
    · exact h
  · refine W.widen (k := 601024) (n := 7293034) (by omega) (by omega) ?_
    exact lw_ret hx hb hr hlk dL_law_1167
