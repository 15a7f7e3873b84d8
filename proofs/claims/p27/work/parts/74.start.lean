theorem wl_X8_cl : Cond.classLink RL 8 RX8 ∈ gj_gw := gj_good (List.mem_of_getElem? (i := 21) (by decide +kernel)) (by decide +kernel)
theorem wl_X8_in : Cond.instantiable RX8 11 ∈ gj_gw := gj_good (List.mem_of_getElem? (i := 22) (by decide +kernel)) (by decide +kernel)
theorem wl_X8_it : Cond.initialized RX8 ∈ gj_gw := gj_good (List.mem_of_getElem? (i := 1) (by decide +kernel)) (by decide +kernel)
theorem wl_X8_ml : Cond.methodLink RL 21 yX8_init ∈ gj_gw := gj_good (List.mem_of_getElem? (i := 23) (by decide +kernel)) (by decide +kernel)
theorem wl_X8_im : Cond.instanceMethod yX8_init ∈ gj_gw := gj_good (List.mem_of_getElem? (i := 24) (by decide +kernel)) (by decide +kernel)
theorem wl_X8_co : Cond.code yX8_init cX8_init 2 none ∈ gj_gw := gj_good (List.mem_of_getElem? (i := 25) (by decide +kernel)) (by decide +kernel)
theorem wl_X9_cl : Cond.classLink RL 22 RX9 ∈ gj_gw := gj_good (List.mem_of_getElem? (i := 946) (by decide +kernel)) (by decide +kernel)
theorem wl_X9_in : Cond.instantiable RX9 41 ∈ gj_gw := gj_good (List.mem_of_getElem? (i := 947) (by decide +kernel)) (by decide +kernel)
theorem wl_X9_it : Cond.initialized RX9 ∈ gj_gw := gj_good (List.mem_of_getElem? (i := 10) (by decide +kernel)) (by decide +kernel)
theorem wl_X9_ml : Cond.methodLink RL 24 yX9_init ∈ gj_gw := gj_good (List.mem_of_getElem? (i := 948) (by decide +kernel)) (by decide +kernel)
theorem wl_X9_im : Cond.instanceMethod yX9_init ∈ gj_gw := gj_good (List.mem_of_getElem? (i := 949) (by decide +kernel)) (by decide +kernel)
theorem wl_X9_co : Cond.code yX9_init cX9_init 1 none ∈ gj_gw := gj_good (List.mem_of_getElem? (i := 950) (by decide +kernel)) (by decide +kernel)
theorem bj_atB {D : va_G} {cy : Nat → ClassId} {B : Nat} {ad : Nat → Nat} (hA : bj_ok B ad) {σ : gj_S} (ht : σ.2.2 < 1000) {k : Nat} (hk : k < 212) {H : Heap} (h : va_at D vwCl (ad k, gj_cell cy ad σ k) H) : va_at D vwCl (B + k, gj_cell cy (fun k => B + k) σ k) H := by
  rw [hA k (by omega)] at h
  by_cases e : (gj_kd k).1 = 14
  · have hkd : gj_kd k = (14, (gj_kd k).2) := by rw [← e]
    rw [gj_cP hkd] at h ⊢
    show H[B + k]? = some (vp_cell _ _)
    rw [bj_arrq (g := fun j => some (ad (gj_pa k j))) (fun j hj => by rw [hA _ (bj_pa_lt hkd hk hj)])]
    exact h
  · have : gj_cell cy ad σ k = gj_cell cy (fun k => B + k) σ k := by
      unfold gj_cell gj_cel
      rw [bj_fsA hA hk ht]
      simp [e]
    rw [this] at h
    exact h
theorem st_ok {B b n : Nat} {aK aV aM : Nat → Nat} : bj_ok B (st_ad B b n aK aV aM) := fun q hq => by simp [st_ad, hq]
theorem st_5 {B b n : Nat} {aK aV aM : Nat → Nat} : st_ad B b n aK aV aM 5000 = n := by simp [st_ad]
theorem st_2 {B b n : Nat} {aK aV aM : Nat → Nat} : st_ad B b n aK aV aM 2000 = b := by simp [st_ad]
theorem lb_call {E : bj_E} {Eg : gj_E} {p : Program} {e : Env} {R : Room} {s : State} {m : MethodId} {args : Array Value} {below : List Frame} {meth : Method} {c : Code} {H : Heap} {locs : List Loc} {ce sl : Nat} {Q : State → Prop} {own : String} {cc : ByteArray} {pc nL : Nat} {ls : Array Slot} {rest : List Value} {n : Nat} {w : Nat → va_E} {τ : gj_S}
    (hx : p.tables.exec = Jvm.exec) (hb : c.code = cc) (hml : c.maxLocals = nL) (hown : s.vm.findClass own = some m.cls) (hts : ∀ w ∈ gj_gw, w.before args s = true) (hK : va_K E.2.2.1 vwCl (gj_tys E.2.2.2) s) (hZ : bj_Z s) (hG : gj_Z Eg (fun q => E.2.1 ≤ q) s s.heap)
    {y : MethodName} {yc : ByteArray} {yn idx o yf yl mc2 ms2 : Nat} (hM : bj_M2 E Eg y yc yn yf yl mc2 ms2 o n w τ) (hl1 : Cond.methodLink own idx y ∈ gj_gw) (hl2 : Cond.instanceMethod y ∈ gj_gw) (hl4 : Cond.initialized y.cls ∈ gj_gw) (hl5 : Cond.code y yc yn none ∈ gj_gw) (hy : y.name = "<init>")
    (hd : y.cls ≠ "java/lang/invoke/MethodHandle" ∧ y.cls ≠ "java/lang/invoke/VarHandle" ∧ (parseMethodDescriptor y.desc).map (fun d => d.parameters.length) = some 0) (hf1 : yf + 1 ≤ R.frames) (hf2 : 8 + (yn + 11) + yl ≤ R.locals) (h1 : ce + mc2 ≤ R.cells) (h2 : sl + ms2 ≤ R.slots)
    (hcat : (rest.map fun v => v.category).sum ≤ 8) (hdc : decode cc pc = .ok (.invokespecial idx, 3)) (hz : H.size = E.2.1 + n) (hW : bj_P E n w H) (hS : va_S (fun q => E.2.1 ≤ q) s.heap H locs) (hls : ls.size = nL)
    (k : ∀ (H1 : Heap) (locs1 : List Loc), gj_W Eg τ H1 → va_S (fun q => E.2.1 ≤ q) s.heap H1 locs1 → W p E.1 e R s m args below meth c H1 locs1 (ce + mc2) (sl + ms2) Q (F0 m (pc + 3) ls rest)) : W p E.1 e R s m args below meth c H locs ce sl Q (F0 m pc ls (.ref (E.2.1 + o) :: rest)) := by
  have hGI : GoodIn gj_gw (.code y yc yn none :: gj_gw) := gj_GI (fun w hw => (List.mem_cons.mp hw).elim (fun e => e ▸ hl5) id)
  have hrun := va_runI (As := []) (rest := rest) (b := E.2.1 + o) (g := F0 m pc ls (.ref (E.2.1 + o) :: rest)) (H := H) (locs := locs) (cells := ce) (slots := sl) (below := below) (meth := meth) (e := e) (R := R) ⟨hx, hb, hml, hown, hts⟩ hM (cwI 0 hts hGI rfl rfl rfl (hts _ hl4) (hts _ hl1) (hts _ hl2) hy hd ⟨hf1, hf2⟩) ⟨fun a U g mk q => by
      obtain ⟨q0, q1, q2, q3, q4, q5⟩ := q
      exact ⟨q0, q1, q2, va_K.moved (u := U) (U := U.calling g mk a) (Vm.Alike.refl U.vm) q3, bj_Zsame (U := U.calling g mk a) rfl q4, gj_Zsame (s := U) (U := U.calling g mk a) (H := U.heap) rfl rfl q5⟩, fun U hU hWm => ⟨rfl, by rw [hU]; exact hz, by rw [hU]; exact hW, va_K.moved hWm.alike hK, bj_Zwarm hWm hZ, by rw [hU]; exact gj_Zmove hG hS.2.1 (fun q h => h) hWm⟩⟩ rfl rfl hls rfl (lv_room hcat) hdc ⟨h1, h2⟩
  intro T hT X
  obtain ⟨v, st₀, t, T', L, h0, X', hL, e1, e2, ⟨⟨hv, hb2⟩, hz2, hk⟩, stp⟩ := hrun T hT X
  cases hv
  rw [h0] at hz2 hk
  obtain ⟨t2, a1, b1⟩ := k T'.heap (locs ++ L) (by rw [e1]; exact hb2)
    ⟨Nat.le_trans hS.1 (by rw [e1]; exact hz2), fun q h1 h2 => by rw [e1, hk q (Nat.lt_of_lt_of_le h1 hS.1) h2]; exact hS.2.1 q h1 h2, fun q hq => by
      rcases List.mem_append.mp hq with h | h
      · exact hS.2.2 q h
      · exact hL q h⟩ T' rfl X'
  exact ⟨t2, stp t2 a1, b1⟩
theorem lb_size {E : bj_E} {Eg : gj_E} {τ : gj_S} {H : Heap} {B N ce : Nat} (hA : bj_ok B Eg.2.1) (hN : Eg.2.1 5000 = N) (h0 : 0 < N) (h2 : N ≤ 212) (hW : gj_W Eg τ H) (hz : H.size ≤ B + ce) (hc : ce = N) : H.size = B + N := by
  have h1 := (hW (N - 1) _ (gj_at (by omega))).lt
  have h3 : Eg.2.1 (N - 1) = B + (N - 1) := hA _ (by omega)
  have h4 : Eg.2.1 (N - 1) < H.size := h1
  omega
/-- what the pure side owes -/
def wh_ok (L : Nat) (xs : Nat → Int32) : Prop := ∃ τ8 τ9 τ : gj_S, f_X7_beginAll 16 bj_s0 = some τ8 ∧ (∀ k, 188 ≤ k → τ8.1 k = bj_s0.1 k ∧ τ8.2.1 k = bj_s0.2.1 k) ∧ τ8.2.2 < 1000 ∧ f_X9_begins (gj_sI τ8 198 (upd (τ8.1 198) (Int32.toNatClampNeg 40) 4)) = some τ9 ∧ τ9.2.2 < 1000 ∧ fl_n xs (L / 6) 0 (gj_sJ τ9 211 (fun _ => 0)) = some τ
set_option maxHeartbeats 4000000 in
set_option maxRecDepth 100000 in
theorem wh_start {p : Program} {e : Env} {s : State} {m : MethodId} {below : List Frame} {meth : Method} {c : Code} (l : Launch) (hflags : l.flags = flags0) {b L : Nat} {xs : Nat → Int32} (hL : L ≤ 3072) (C0 : lw_At p s m meth c b L xs) (hp : wh_ok L xs) : W p l e room_1 s m #[Value.ref b] below meth c s.heap [] 0 0 (lw_Z below #[Value.ref b] s) (entryFrame m ([Value.ref b] : List Value).toArray 7) := by
  obtain ⟨D, cy, aK, aV, aM, hK, hZ, hG⟩ := st_env hflags C0
  obtain ⟨hx, hb, hr, hml, hown, hts0, hX, hbl, hlk, hgv⟩ := C0
  obtain ⟨τ8, τ9, τ, hf8, hs8, hT8, hf9, hT9, hfn⟩ := hp
  have hts : ∀ w ∈ gj_gw, w.before #[Value.ref b] s = true := fun w hw => hts0 w (List.mem_filter.mp hw).1
  obtain ⟨B, hB⟩ : ∃ B, B = s.heap.size := ⟨_, rfl⟩
  rw [← hB] at hG
  have k188 : st_ad B b 188 aK aV aM 5000 = 188 := st_5
  have k211 : st_ad B b 211 aK aV aM 5000 = 211 := st_5
  have k212 : st_ad B b 212 aK aV aM 5000 = 212 := st_5
  have o188 : bj_ok B (st_ad B b 188 aK aV aM) := st_ok
  have o211 : bj_ok B (st_ad B b 211 aK aV aM) := st_ok
  have o212 : bj_ok B (st_ad B b 212 aK aV aM) := st_ok
  have hl := lv_entry ([.ref b]) (n := 7) (Nat.le_of_ble_eq_true rfl)
  rw [lg_entry_eq]
  generalize (lg_sl ([.ref b]) ++ List.replicate (7 - (lg_sl ([.ref b])).length) Slot.unset).toArray = ls at hl ⊢
  replace hl : lv_has ls 7 [(0, .ref b)] := hl
  have hS0 : va_S (fun q => B ≤ q) s.heap s.heap [] := va_S.rf
  -- new PivotDocks
  have hKn8 := hK.1 8 _ rfl
  refine W.newcK hx hb hown (hts _ wl_X8_cl) (hts _ wl_X8_in) (hts _ wl_X8_it) rfl dL_law_0 (by decide) (by decide) hKn8.2.1 hB.symm fun H1 kC hkC q1 z1 o1 => ?_
  have hat8 : va_at D vwCl (B, .inr (8, [.null, .int 0, .null, .null, .null, .null, .null, .null, .null, .null, .null])) H1 := ⟨_, rfl, (u_born tyX8 hts ly_X8 hKn8 hkC q1 tyX8_ok).to (fun j hj => by rcases (show j = 0 ∨ j = 1 ∨ j = 2 ∨ j = 3 ∨ j = 4 ∨ j = 5 ∨ j = 6 ∨ j = 7 ∨ j = 8 ∨ j = 9 ∨ j = 10 by omega) with rfl | rfl | rfl | rfl | rfl | rfl | rfl | rfl | rfl | rfl | rfl <;> rfl)⟩
  refine lv_dup hx hb dL_law_3 rfl ?_
  refine lb_call (E := (l, B, D, cy)) (Eg := (l, st_ad B b 188 aK aV aM, D, cy)) (o := 0) (n := 1) (w := fun _ => .inr (8, [.null, .int 0, .null, .null, .null, .null, .null, .null, .null, .null, .null])) hx hb hml hown hts hK hZ (hG 188) (c_X8_init ⟨rfl, rfl, rfl⟩ o188 k188 hf8 rfl) wl_X8_ml wl_X8_im wl_X8_it wl_X8_co rfl (by decide +kernel) (by decide) (by decide) (by decide) (by decide) (Nat.le_of_ble_eq_true rfl) dL_law_4 z1 (fun k hk => ?_) ⟨by rw [z1, hB]; omega, fun q h1 h2 => o1 q (by omega), fun q hq => by cases hq⟩ hl.1 (fun H2 locs2 hW2 hS2 => ?_)
  · obtain rfl : k = 0 := by omega
    exact hat8
  refine bj_sz fun hz9 => ?_
  have hz2 : H2.size = B + 188 := lb_size (E := (l, B, D, cy)) (ce := 188) o188 k188 (by decide) (by decide) hW2 (by rw [hB]; exact hz9) rfl
  refine lv_astore_n (x := B) (lv' := [(1, .ref B), (0, .ref b)]) hx hb dL_law_7 rfl hl (by decide) rfl (fun ls1 hl1 => ?_)
  -- new reference
  have hKn9 := hK.1 9 _ rfl
  refine W.newcK hx hb hown (hts _ wl_X9_cl) (hts _ wl_X9_in) (hts _ wl_X9_it) rfl dL_law_8 (by decide) (by decide) hKn9.2.1 hz2 fun H3 kC9 hkC9 q3 z3 o3 => ?_
  have hat9 : va_at D vwCl (B + 188, .inr (9, [.int 0, .null, .int 0, .int 0, .int 0, .int 0, .int 0, .int 0, .long 0, .int 0, .int 0, .null, .null, .null, .null, .null, .null, .null, .null, .int 0, .int 0, .null, .null, .int 0, .null, .null, .null, .null, .null, .null, .int 0, .null, .null, .int 0, .int 0, .int 0, .int 0, .null, .null, .null, .int 0])) H3 := ⟨_, rfl, (u_born tyX9 hts ly_X9 hKn9 hkC9 q3 tyX9_ok).to (fun j hj => by rcases (show j = 0 ∨ j = 1 ∨ j = 2 ∨ j = 3 ∨ j = 4 ∨ j = 5 ∨ j = 6 ∨ j = 7 ∨ j = 8 ∨ j = 9 ∨ j = 10 ∨ j = 11 ∨ j = 12 ∨ j = 13 ∨ j = 14 ∨ j = 15 ∨ j = 16 ∨ j = 17 ∨ j = 18 ∨ j = 19 ∨ j = 20 ∨ j = 21 ∨ j = 22 ∨ j = 23 ∨ j = 24 ∨ j = 25 ∨ j = 26 ∨ j = 27 ∨ j = 28 ∨ j = 29 ∨ j = 30 ∨ j = 31 ∨ j = 32 ∨ j = 33 ∨ j = 34 ∨ j = 35 ∨ j = 36 ∨ j = 37 ∨ j = 38 ∨ j = 39 ∨ j = 40 by omega) with rfl | rfl | rfl | rfl | rfl | rfl | rfl | rfl | rfl | rfl | rfl | rfl | rfl | rfl | rfl | rfl | rfl | rfl | rfl | rfl | rfl | rfl | rfl | rfl | rfl | rfl | rfl | rfl | rfl | rfl | rfl | rfl | rfl | rfl | rfl | rfl | rfl | rfl | rfl | rfl | rfl <;> rfl)⟩
  refine lv_dup hx hb dL_law_11 rfl ?_
  refine lb_call (E := (l, B, D, cy)) (Eg := (l, st_ad B b 211 aK aV aM, D, cy)) (o := 188) (n := 189) (w := fun k => if k < 188 then gj_cell cy (fun k => B + k) τ8 k else .inr (9, [.int 0, .null, .int 0, .int 0, .int 0, .int 0, .int 0, .int 0, .long 0, .int 0, .int 0, .null, .null, .null, .null, .null, .null, .null, .null, .int 0, .int 0, .null, .null, .int 0, .null, .null, .null, .null, .null, .null, .int 0, .null, .null, .int 0, .int 0, .int 0, .int 0, .null, .null, .null, .int 0])) hx hb hml hown hts hK hZ (hG 211) (c_X9_init (σ := τ8) ⟨rfl, rfl, rfl⟩ o211 k211 (fun k hk H h => ?_) hs8 hT8 hf9 rfl) wl_X9_ml wl_X9_im wl_X9_it wl_X9_co rfl (by decide +kernel) (by decide) (by decide) (by decide) (by decide) (Nat.le_of_ble_eq_true rfl) dL_law_12 (by rw [z3]) (fun k hk => ?_) ⟨by rw [z3]; have := hS2.1; omega, fun q h1 h2 => (o3 q (by omega)).trans (hS2.2.1 q h1 h2), hS2.2.2⟩ hl1.1 (fun H4 locs4 hW4 hS4 => ?_)
  · rw [if_pos hk] at h
    exact bj_atA o211 hT8 (by omega) h
  · by_cases e1 : k < 188
    · show va_at D vwCl (B + k, if k < 188 then _ else _) H3
      rw [if_pos e1]
      have h1 := bj_atB o188 hT8 (by omega) (hW2 k _ (gj_at (by show k < st_ad B b 188 aK aV aM 5000; rw [k188]; exact e1)))
      exact h1.kept (o3 _ (by show B + k < _; omega))
    · obtain rfl : k = 188 := by omega
      exact hat9
  refine bj_sz fun hz9 => ?_
  have hz4 : H4.size = B + 211 := lb_size (E := (l, B, D, cy)) (ce := 211) o211 k211 (by decide) (by decide) hW4 (by rw [hB]; exact hz9) rfl
  refine lv_astore_n (x := B + 188) (lv' := [(2, .ref (B + 188)), (1, .ref B), (0, .ref b)]) hx hb dL_law_15 rfl hl1 (by decide) rfl (fun ls2 hl2 => ?_)
  refine lv_iconst (v := 1) hx hb dL_law_16 (by decide) ?_
  refine va_newaK (atype := .long) hx hb (hts _ wb_aJ) rfl dL_law_17 rfl (by decide) (N := 1) (by decide) (by decide) (by decide) (by decide) hz4 fun H5 cA q5 z5 o5 hAr hNm => ?_
  have hcy : cA = cy 2 := by
    have := (hK.2 2 (cy 2, .long) rfl).2
    exact Option.some.inj (hNm.symm.trans this)
  subst hcy
  have hat11 : va_at D vwCl (B + 211, .inl (cy 2, 1, .inr (.inl (fun _ => 0)))) H5 := q5
  refine lv_astore_n (x := B + 211) (lv' := [(3, .ref (B + 211)), (2, .ref (B + 188)), (1, .ref B), (0, .ref b)]) hx hb dL_law_19 rfl hl2 (by decide) rfl (fun ls3 hl3 => ?_)
  refine lv_iconst (v := 0) hx hb dL_law_20 (by decide) ?_
  refine lv_istore (lv' := [(4, .int 0), (3, .ref (B + 211)), (2, .ref (B + 188)), (1, .ref B), (0, .ref b)]) hx hb dL_law_21 hl3 (by decide) rfl (fun ls4 hl4 => ?_)
  -- the whole world
  have hAq : ∀ q, B ≤ q ↔ gj_A (st_ad B b 212 aK aV aM) (B + 0) q := fun q => bj_Aeq o212 k212 (by decide) (by decide) q
  have hO : gj_O (l, st_ad B b 212 aK aV aM, D, cy) (p, e, room_1, s, m, #[Value.ref b], below, meth, c) RL cL_law 7 (some .boolean) 15 550 :=
    ⟨hx, hb, hml, hown, hts, hK, ⟨⟨bj_injA o212 k212 (by decide), by show 188 ≤ st_ad B b 212 aK aV aM 5000; rw [k212]; decide, fun _ => by show 211 ≤ st_ad B b 212 aK aV aM 5000; rw [k212]; decide, fun _ => by show 212 ≤ st_ad B b 212 aK aV aM 5000; rw [k212]; decide⟩, by rw [← hB]; exact gj_Zmove (hG 212) (fun _ _ _ => rfl) (fun q hq => (hAq q).mpr hq) (State.WarmedH.refl s)⟩, hr, hlk, rfl, rfl⟩
  have hW5 : gj_W (l, st_ad B b 212 aK aV aM, D, cy) (gj_sJ τ9 211 (fun _ => 0)) H5 := by
    intro k q hq
    obtain ⟨hk, rfl⟩ := gj_at_inv hq
    replace hk : k < 212 := by have h9 : k < st_ad B b 212 aK aV aM 5000 := hk; rw [k212] at h9; exact h9
    by_cases e1 : k < 211
    · have h1 := bj_atB o211 hT9 (by omega) (hW4 k _ (gj_at (by show k < st_ad B b 211 aK aV aM 5000; rw [k211]; exact e1)))
      have h2 := bj_atA (ad := st_ad B b 212 aK aV aM) o212 hT9 (by omega) (h1.kept (H1 := H5) (o5 _ (by show B + k < _; omega)))
      have e2 : gj_cell cy (st_ad B b 212 aK aV aM) (gj_sJ τ9 211 (fun _ => 0)) k = gj_cell cy (st_ad B b 212 aK aV aM) τ9 k := by
        simp [gj_cell, gj_sJ, show ¬ k = 211 by omega]
      show va_at D vwCl (_, gj_cell cy (st_ad B b 212 aK aV aM) (gj_sJ τ9 211 (fun _ => 0)) k) H5
      rw [e2]
      exact h2
    · obtain rfl : k = 211 := by omega
      show va_at D vwCl (st_ad B b 212 aK aV aM 211, gj_cell cy (st_ad B b 212 aK aV aM) (gj_sJ τ9 211 (fun _ => 0)) 211) H5
      rw [o212 211 (by decide), gj_cJ kd_211]
      exact hat11
  have hS5 : va_S (gj_A (st_ad B b 212 aK aV aM) s.heap.size) s.heap H5 locs4 := by
    rw [← hB]
    exact ⟨by rw [z5, ← hB]; have := hS4.1; omega, fun q h1 h2 => (o5 q (by have := hS4.1; omega)).trans (hS4.2.1 q h1 (fun h => h2 ((hAq q).mp h))), fun q hq => (hAq _).mp (hS4.2.2 q hq)⟩
  have hXs : ls_X (l, st_ad B b 212 aK aV aM, D, cy) (p, e, room_1, s, m, #[Value.ref b], below, meth, c) L xs := by
    refine ⟨?_, ?_, ?_⟩
    · show va_X (st_ad B b 212 aK aV aM 2000) L xs s s.heap
      rw [st_2]; exact hX
    · show st_ad B b 212 aK aV aM 2000 < s.heap.size
      rw [st_2]; exact hbl
    · show ¬ gj_A (st_ad B b 212 aK aV aM) s.heap.size (st_ad B b 212 aK aV aM 2000)
      rw [st_2, ← hB]
      intro h
      have := (hAq b).mpr h
      omega
  have hloop := ll_loop (Q := lw_Z below #[Value.ref b] s) (τ := τ) hL hO hXs (fun ce sl lv h1 h2 => ll_end hO (fun k hk => by show s.heap.size ≤ st_ad B b 212 aK aV aM k; have h9 : k < st_ad B b 212 aK aV aM 5000 := hk; rw [k212] at h9; rw [o212 k (by omega), ← hB]; omega) h1 h2)
    (L / 6) 0 0 212 (11 + 5226 + 41 + 4010 + 1) (gj_sJ τ9 211 (fun _ => 0)) (by decide) (by omega) (by omega) (by omega) (by omega) ⟨by show 212 + L / 6 ≤ 601024; omega, by show 11 + 5226 + 41 + 4010 + 1 + 6 * (L / 6) ≤ 7293034; omega⟩ hfn
  refine hloop ⟨by decide, by decide⟩ H5 locs4 ls4 hW5 hS5 ?_
  refine lv_sub hl4 [4, 3, 2, 1, 0] ?_
  simp [gj_L, gj_tv, st_2, o212 0 (by decide), o212 188 (by decide), o212 211 (by decide)]
  rfl
