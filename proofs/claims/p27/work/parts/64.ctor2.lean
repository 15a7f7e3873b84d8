theorem wc_70 : Cond.methodLink RX8 1 objectInit ∈ gj_gw := gj_good (List.mem_of_getElem? (i := 26) (by decide +kernel)) (by decide +kernel)
theorem wc_71 : Cond.fieldLink RX8 9 RX8 "tape" "[B" ∈ gj_gw := gj_good (List.mem_of_getElem? (i := 337) (by decide +kernel)) (by decide +kernel)
theorem wc_72 : Cond.fieldLink RX8 13 RX8 "taped" "I" ∈ gj_gw := gj_good (List.mem_of_getElem? (i := 338) (by decide +kernel)) (by decide +kernel)
theorem wc_73 : Cond.classLink RX8 17 RX2 ∈ gj_gw := gj_good (List.mem_of_getElem? (i := 29) (by decide +kernel)) (by decide +kernel)
theorem wc_74 : Cond.instantiable RX2 11 ∈ gj_gw := gj_good (List.mem_of_getElem? (i := 30) (by decide +kernel)) (by decide +kernel)
theorem wc_75 : Cond.initialized RX2 ∈ gj_gw := gj_good (List.mem_of_getElem? (i := 2) (by decide +kernel)) (by decide +kernel)
theorem wc_76 : Cond.instanceMethod yX2_init ∈ gj_gw := gj_good (List.mem_of_getElem? (i := 32) (by decide +kernel)) (by decide +kernel)
theorem wc_77 : Cond.code yX2_init cX2_init 1 none ∈ gj_gw := gj_good (List.mem_of_getElem? (i := 33) (by decide +kernel)) (by decide +kernel)
theorem wc_78 : Cond.fieldLink RX8 20 RX8 "reader" "LPivotDocks$Reader;" ∈ gj_gw := gj_good (List.mem_of_getElem? (i := 339) (by decide +kernel)) (by decide +kernel)
theorem wc_79 : Cond.fieldLink RX8 24 RX8 "routeNames" "[J" ∈ gj_gw := gj_good (List.mem_of_getElem? (i := 340) (by decide +kernel)) (by decide +kernel)
theorem wc_80 : Cond.classLink RX8 28 RX7 ∈ gj_gw := gj_good (List.mem_of_getElem? (i := 167) (by decide +kernel)) (by decide +kernel)
theorem wc_81 : Cond.instantiable RX7 4 ∈ gj_gw := gj_good (List.mem_of_getElem? (i := 168) (by decide +kernel)) (by decide +kernel)
theorem wc_82 : Cond.initialized RX7 ∈ gj_gw := gj_good (List.mem_of_getElem? (i := 4) (by decide +kernel)) (by decide +kernel)
theorem wc_83 : Cond.instanceMethod yX7_init ∈ gj_gw := gj_good (List.mem_of_getElem? (i := 170) (by decide +kernel)) (by decide +kernel)
theorem wc_84 : Cond.code yX7_init cX7_init 1 none ∈ gj_gw := gj_good (List.mem_of_getElem? (i := 171) (by decide +kernel)) (by decide +kernel)
theorem wc_85 : Cond.fieldLink RX8 31 RX8 "yard" "LPivotDocks$Yard;" ∈ gj_gw := gj_good (List.mem_of_getElem? (i := 341) (by decide +kernel)) (by decide +kernel)
theorem wc_86 : Cond.fieldLink RX8 35 RX8 "trial" "LPivotDocks$Yard;" ∈ gj_gw := gj_good (List.mem_of_getElem? (i := 342) (by decide +kernel)) (by decide +kernel)
theorem wc_87 : Cond.classLink RX8 38 RX0 ∈ gj_gw := gj_good (List.mem_of_getElem? (i := 257) (by decide +kernel)) (by decide +kernel)
theorem wc_88 : Cond.instantiable RX0 3 ∈ gj_gw := gj_good (List.mem_of_getElem? (i := 258) (by decide +kernel)) (by decide +kernel)
theorem wc_89 : Cond.initialized RX0 ∈ gj_gw := gj_good (List.mem_of_getElem? (i := 7) (by decide +kernel)) (by decide +kernel)
theorem wc_90 : Cond.instanceMethod yX0_init ∈ gj_gw := gj_good (List.mem_of_getElem? (i := 260) (by decide +kernel)) (by decide +kernel)
theorem wc_91 : Cond.code yX0_init cX0_init 2 none ∈ gj_gw := gj_good (List.mem_of_getElem? (i := 261) (by decide +kernel)) (by decide +kernel)
theorem wc_92 : Cond.methodLink RX8 40 yX0_init ∈ gj_gw := gj_good (List.mem_of_getElem? (i := 259) (by decide +kernel)) (by decide +kernel)
theorem wc_93 : Cond.fieldLink RX8 41 RX8 "past" "LPivotDocks$Past;" ∈ gj_gw := gj_good (List.mem_of_getElem? (i := 343) (by decide +kernel)) (by decide +kernel)
theorem wc_94 : Cond.classLink RX8 45 "PivotDocks$Plan" ∈ gj_gw := gj_good (List.mem_of_getElem? (i := 277) (by decide +kernel)) (by decide +kernel)
theorem wc_95 : Cond.fieldLink RX8 47 RX8 "keeps" "[LPivotDocks$Plan;" ∈ gj_gw := gj_good (List.mem_of_getElem? (i := 344) (by decide +kernel)) (by decide +kernel)
theorem wc_96 : Cond.fieldLink RX8 51 RX8 "laid" "[Z" ∈ gj_gw := gj_good (List.mem_of_getElem? (i := 345) (by decide +kernel)) (by decide +kernel)
theorem wc_97 : Cond.classLink RX8 55 RX6 ∈ gj_gw := gj_good (List.mem_of_getElem? (i := 278) (by decide +kernel)) (by decide +kernel)
theorem wc_98 : Cond.instantiable RX6 1 ∈ gj_gw := gj_good (List.mem_of_getElem? (i := 279) (by decide +kernel)) (by decide +kernel)
theorem wc_99 : Cond.initialized RX6 ∈ gj_gw := gj_good (List.mem_of_getElem? (i := 8) (by decide +kernel)) (by decide +kernel)
theorem wc_100 : Cond.instanceMethod yX6_init ∈ gj_gw := gj_good (List.mem_of_getElem? (i := 281) (by decide +kernel)) (by decide +kernel)
theorem wc_101 : Cond.code yX6_init cX6_init 1 none ∈ gj_gw := gj_good (List.mem_of_getElem? (i := 282) (by decide +kernel)) (by decide +kernel)
theorem wc_102 : Cond.fieldLink RX8 58 RX8 "paths" "LPivotDocks$UnitPaths;" ∈ gj_gw := gj_good (List.mem_of_getElem? (i := 346) (by decide +kernel)) (by decide +kernel)
theorem wc_103 : Cond.classLink RX8 62 RX4 ∈ gj_gw := gj_good (List.mem_of_getElem? (i := 288) (by decide +kernel)) (by decide +kernel)
theorem wc_104 : Cond.instantiable RX4 2 ∈ gj_gw := gj_good (List.mem_of_getElem? (i := 289) (by decide +kernel)) (by decide +kernel)
theorem wc_105 : Cond.initialized RX4 ∈ gj_gw := gj_good (List.mem_of_getElem? (i := 9) (by decide +kernel)) (by decide +kernel)
theorem wc_106 : Cond.instanceMethod yX4_init ∈ gj_gw := gj_good (List.mem_of_getElem? (i := 291) (by decide +kernel)) (by decide +kernel)
theorem wc_107 : Cond.code yX4_init cX4_init 1 none ∈ gj_gw := gj_good (List.mem_of_getElem? (i := 292) (by decide +kernel)) (by decide +kernel)
theorem wc_108 : Cond.fieldLink RX8 65 RX8 "page" "LPivotDocks$Sheet;" ∈ gj_gw := gj_good (List.mem_of_getElem? (i := 347) (by decide +kernel)) (by decide +kernel)
theorem wc_109 : Cond.methodLink RX8 70 yX7_beginAll ∈ gj_gw := gj_good (List.mem_of_getElem? (i := 304) (by decide +kernel)) (by decide +kernel)
/-- from building to the judgement of the whole world -/
def bj_ok (B : Nat) (ad : Nat → Nat) : Prop := ∀ q, q < 1000 → ad q = B + q
theorem bj_fsA {B : Nat} {ad : Nat → Nat} (hA : bj_ok B ad) {ci k t : Nat} {f : Nat → Int32} {g : Nat → Int64} (hk : k < 212) (ht : t < 1000) : gj_fs (fun k => B + k) ci k f g t = gj_fs ad ci k f g t := by
  have h : ∀ c, c < 200 → ad (k + c) = B + (k + c) := fun c hc => hA _ (by omega)
  unfold gj_fs
  split <;> simp [h, hA t ht]
theorem bj_pa_lt {k j N : Nat} (hk : gj_kd k = (14, N)) (h212 : k < 212) (hj : j < N) : gj_pa k j < 1000 := by
  have : ∀ q : Fin 212, (gj_kd q.1).1 = 14 → ∀ j : Fin 13, j.1 < (gj_kd q.1).2 → gj_pa q.1 j.1 < 1000 := by decide +kernel
  have h13 : N ≤ 12 := by
    have : ∀ q : Fin 212, (gj_kd q.1).1 = 14 → (gj_kd q.1).2 ≤ 12 := by decide +kernel
    have := this ⟨k, h212⟩ (by simp [hk])
    simpa [hk] using this
  exact this ⟨k, h212⟩ (by simp [hk]) ⟨j, by omega⟩ (by simpa [hk] using hj)
theorem bj_atA {D : va_G} {cy : Nat → ClassId} {B : Nat} {ad : Nat → Nat} (hA : bj_ok B ad) {σ : gj_S} (ht : σ.2.2 < 1000) {k : Nat} (hk : k < 212) {H : Heap} (h : va_at D vwCl (B + k, gj_cell cy (fun k => B + k) σ k) H) : va_at D vwCl (ad k, gj_cell cy ad σ k) H := by
  rw [hA k (by omega)]
  by_cases e : (gj_kd k).1 = 14
  · have hkd : gj_kd k = (14, (gj_kd k).2) := by rw [← e]
    rw [gj_cP hkd] at h ⊢
    show H[B + k]? = some (vp_cell _ _)
    rw [bj_arrq (g := fun j => some (B + gj_pa k j)) (fun j hj => by rw [hA _ (bj_pa_lt hkd hk hj)])]
    exact h
  · have : gj_cell cy ad σ k = gj_cell cy (fun k => B + k) σ k := by
      unfold gj_cell gj_cel
      rw [bj_fsA hA hk ht]
      simp [e]
    rw [this]
    exact h
theorem bj_Aeq {B n0 N : Nat} {ad : Nat → Nat} (hA : bj_ok B ad) (hN : ad 5000 = N) (h1 : n0 ≤ N) (h2 : N ≤ 212) (q : Nat) : B ≤ q ↔ gj_A ad (B + n0) q := by
  constructor
  · intro h
    by_cases e : q < B + n0
    · exact Or.inl ⟨q - B, by rw [hN]; omega, by rw [hA _ (by omega)]; omega⟩
    · exact Or.inr (by omega)
  · rintro (⟨k, h, rfl⟩ | h)
    · rw [hN] at h
      rw [hA _ (by omega)]
      omega
    · omega
theorem bj_injA {B N : Nat} {ad : Nat → Nat} (hA : bj_ok B ad) (hN : ad 5000 = N) (h2 : N ≤ 212) : gj_inj ad := by
  intro i j hi hj e
  rw [hN] at hi hj
  rw [hA i (by omega), hA j (by omega)] at e
  omega
/-- a constructor that ends in the judgement of the whole world -/
def bj_Q2 (E : bj_E) (Eg : gj_E) (τ : gj_S) : Array Value → State → Outcome → State → Prop := fun _ st oc t => (oc = .returned none ∧ gj_W Eg τ t.heap) ∧ va_F (fun q => E.2.1 ≤ q) st t
def bj_M2 (E : bj_E) (Eg : gj_E) (y : MethodName) (c : ByteArray) (nL fr lo mc ms o n : Nat) (w : Nat → va_E) (τ : gj_S) : Prop :=
  Met E.1 y (.code y c nL none :: gj_gw) { frames := fr, cells := mc, slots := ms, locals := lo } (va_Pc [.ref (E.2.1 + o)] (fun U => U.heap.size = E.2.1 + n ∧ bj_P E n w U.heap ∧ va_K E.2.2.1 vwCl (gj_tys E.2.2.2) U ∧ bj_Z U ∧ gj_Z Eg (fun q => E.2.1 ≤ q) U U.heap)) (bj_Q2 E Eg τ) mc ms (fun q => E.2.1 ≤ q)
def bj_MQ2 (E : bj_E) (Eg : gj_E) (X : gj_X) (mc ms : Nat) (τ : gj_S) : State → Prop :=
  match X with
  | (_, _, _, s, _, args, below, _, _) => MQ below (bj_Q2 E Eg τ) args s mc ms (fun q => E.2.1 ≤ q)
def bj_Zg (E : bj_E) (Eg : gj_E) (X : gj_X) : Prop := match X with | (_, _, _, s, _, _, _, _, _) => gj_Z Eg (fun q => E.2.1 ≤ q) s s.heap
theorem bj_body2 {E : bj_E} {Eg : gj_E} {y : MethodName} {c : ByteArray} {nL fr lo mc ms o n : Nat} {w : Nat → va_E} {τ : gj_S} (hy : plainFor y = true) (hn : y.name = "<init>") (h1 : 1 ≤ nL)
    (h : ∀ X : gj_X, bj_O E X y.cls c nL fr lo mc ms n → bj_Zg E Eg X → bj_H E X nL 0 0 (bj_MQ2 E Eg X mc ms τ) 0 [(0, gj_r o)] [] n w) : bj_M2 E Eg y c nL fr lo mc ms o n w τ := by
  refine gj_ofW (cc := c) (maxL := nL) (ret := none) hy rfl ?_
  intro p e s m args below meth cd s₁ B hml hv
  obtain ⟨rfl, hsz, hW, hK, hZ, hZg⟩ := hv
  have hts := atoms_spec (ws := .code y c nL none :: gj_gw) B.pre
  have hO : bj_O E (p, e, (headSpec (.code y c nL none :: gj_gw) { frames := fr, cells := mc, slots := ms, locals := lo }).room, s, m, ([.ref (E.2.1 + o)] : List Value).toArray, below, meth, cd) y.cls c nL fr lo mc ms n :=
    ⟨B.exec, B.bytes, hml, findClass_of_methodNamed B.named, fun w hw => hts w (List.mem_cons_of_mem _ hw), hK, hZ, B.returns, B.notSynchronized, (name_of_methodNamed B.named B.method).1.trans hn, rfl, rfl, rfl, rfl, hsz⟩
  have hl := lv_entry ([.ref (E.2.1 + o)]) (n := nL) h1
  rw [lg_entry_eq]
  exact h _ hO hZg s.heap [] _ hW va_S.rf hl
theorem bj_toO {E : bj_E} {Eg : gj_E} {X : gj_X} {own : String} {cc : ByteArray} {nL fr lo mc ms n0 N : Nat} (hE : Eg.1 = E.1 ∧ Eg.2.2.1 = E.2.2.1 ∧ Eg.2.2.2 = E.2.2.2) (hA : bj_ok E.2.1 Eg.2.1) (hN : Eg.2.1 5000 = N) (h1 : n0 ≤ N) (h2 : N ≤ 212) (h188 : 188 ≤ N) (h9 : own = RX9 → 211 ≤ N) (hL : own = RL → 212 ≤ N) (hO : bj_O E X own cc nL fr lo mc ms n0) (hZ : bj_Zg E Eg X) : gj_O Eg X own cc nL none fr lo := by
  obtain ⟨p, e, R, s, m, args, below, meth, c⟩ := X
  obtain ⟨hx, hb, hml, hown, hts, hK, hZ0, hr, hlk, hin, hfr, hlo, hmc, hms, hB⟩ := hO
  refine ⟨hx, hb, hml, hown, hts, by rw [hE.2.1, hE.2.2]; exact hK, ⟨⟨bj_injA hA hN h2, by rw [hN]; exact h188, by rw [hN]; exact h9, by rw [hN]; exact hL⟩, ?_⟩, hr, hlk, hfr, hlo⟩
  refine gj_Zmove (A := fun q => E.2.1 ≤ q) hZ (fun _ _ _ => rfl) (fun q hq => ?_) (State.WarmedH.refl s)
  rw [hB] at hq
  exact (bj_Aeq hA hN h1 h2 q).mpr hq
theorem bj_toG {E : bj_E} {Eg : gj_E} {X : gj_X} {own : String} {cc : ByteArray} {nL fr lo mc ms n0 N ce sl : Nat} {Q : State → Prop} {pc : Nat} {lv : List (Nat × gj_V)} {st : List gj_V} {w : Nat → va_E} {σ : gj_S} (hE : Eg.1 = E.1 ∧ Eg.2.2.1 = E.2.2.1 ∧ Eg.2.2.2 = E.2.2.2) (hA : bj_ok E.2.1 Eg.2.1) (hN : Eg.2.1 5000 = N) (h1 : n0 ≤ N) (h2 : N ≤ 212) (hO : bj_O E X own cc nL fr lo mc ms n0) (hc1 : ce ≤ mc) (hc2 : sl ≤ ms)
    (hw : ∀ k, k < N → ∀ H, va_at E.2.2.1 vwCl (E.2.1 + k, w k) H → va_at E.2.2.1 vwCl (Eg.2.1 k, gj_cell E.2.2.2 Eg.2.1 σ k) H) (hlv : gj_L Eg.2.1 lv = gj_L (fun k => E.2.1 + k) lv) (hst : st.map (gj_tv Eg.2.1) = st.map (gj_tv (fun k => E.2.1 + k))) (k : gj_H Eg X nL ce sl Q pc lv st σ) : bj_H E X nL ce sl Q pc lv st N w := by
  obtain ⟨p, e, R, s, m, args, below, meth, c⟩ := X
  obtain ⟨hx, hb, hml, hown, hts, hK, hZ0, hr, hlk, hin, hfr, hlo, hmc, hms, hB⟩ := hO
  intro H locs ls hW hS hl
  have := k ⟨by rw [hmc]; exact hc1, by rw [hms]; exact hc2⟩ H locs ls ?_ ?_ (by rw [hlv]; exact hl)
  · rw [hst, hE.1] at this
    exact this
  · intro i q hq
    obtain ⟨hi, rfl⟩ := gj_at_inv hq
    rw [hN] at hi
    rw [hE.2.1, hE.2.2]
    exact hw i hi H (hW i hi)
  · refine ⟨hS.1, fun q hq hn => hS.2.1 q hq (fun hb2 => hn ?_), fun z hz => ?_⟩
    · rw [hB]; exact (bj_Aeq hA hN h1 h2 q).mp hb2
    · rw [hB]; exact (bj_Aeq hA hN h1 h2 z.base).mp (hS.2.2 z hz)
theorem bj_vret2 {E : bj_E} {Eg : gj_E} {X : gj_X} {own : String} {cc : ByteArray} {nL fr lo mc ms n0 N ce sl : Nat} {pc : Nat} {lv : List (Nat × gj_V)} {σ : gj_S} (hA : bj_ok E.2.1 Eg.2.1) (hN : Eg.2.1 5000 = N) (h1 : n0 ≤ N) (h2 : N ≤ 212) (hO : bj_O E X own cc nL fr lo mc ms n0) (hE : Eg.1 = E.1) (hc1 : ce = mc) (hc2 : sl = ms) (hd : decode cc pc = .ok (.return_, 1)) : gj_H Eg X nL ce sl (bj_MQ2 E Eg X mc ms σ) pc lv [] σ := by
  obtain ⟨p, e, R, s, m, args, below, meth, c⟩ := X
  obtain ⟨hx, hb, hml, hown, hts, hK, hZ0, hr, hlk, hin, hfr, hlo, hmc, hms, hB⟩ := hO
  subst hc1; subst hc2
  intro hcs H locs ls hW hS hl
  have hS2 : va_S (fun q => E.2.1 ≤ q) s.heap H locs := ⟨hS.1, fun q hq hn => hS.2.1 q hq (fun h => hn (by rw [hB] at h; exact (bj_Aeq hA hN h1 h2 q).mpr h)), fun z hz => by have := hS.2.2 z hz; rw [hB] at this; exact (bj_Aeq hA hN h1 h2 z.base).mpr this⟩
  rw [hE]
  exact W.vret hx hb hr (fun t ht hw2 => ⟨⟨rfl, by rw [ht]; exact hW⟩, hS2.F ht⟩) hS2.2.2 hd
/-- a constructor is called, no nest mate's -/
theorem bj_callP {E : bj_E} {X : gj_X} {own : String} {cc : ByteArray} {nL fr lo mc ms n0 ce sl : Nat} {Q : State → Prop} {pc : Nat} {lv : List (Nat × gj_V)} {st : List gj_V} {n : Nat} {w : Nat → va_E} (hO : bj_O E X own cc nL fr lo mc ms n0) {y : MethodName} {yc : ByteArray} {yn idx o yf yl mc2 ms2 n2 : Nat} {w2 : Nat → va_E} (hM : bj_M E y yc yn yf yl mc2 ms2 o n w n2 w2) (hl1 : Cond.methodLink own idx y ∈ gj_gw) (hl2 : Cond.instanceMethod y ∈ gj_gw) (hl4 : Cond.initialized y.cls ∈ gj_gw) (hl5 : Cond.code y yc yn none ∈ gj_gw) (hy : y.name = "<init>")
    (hd : y.cls ≠ "java/lang/invoke/MethodHandle" ∧ y.cls ≠ "java/lang/invoke/VarHandle" ∧ (parseMethodDescriptor y.desc).map (fun d => d.parameters.length) = some 0) (hf1 : yf + 1 ≤ fr) (hf2 : 8 + (yn + 11) + yl ≤ lo) (h1 : ce + mc2 ≤ mc) (h2 : sl + ms2 ≤ ms) (h0n : 0 < n) (hna : n0 + ce = n)
    (hcat : ((st.map (gj_tv (fun k => E.2.1 + k))).map fun v => v.category).sum ≤ 8) (hdc : decode cc pc = .ok (.invokespecial idx, 3)) (k : bj_H E X nL (ce + mc2) (sl + ms2) Q (pc + 3) lv st n2 w2) : bj_H E X nL ce sl Q pc lv (gj_r o :: st) n w := by
  obtain ⟨p, e, R, s, m, args, below, meth, c⟩ := X
  obtain ⟨hx, hb, hml, hown, hts, hK, hZ, hr, hlk, hin, hfr, hlo, hmc, hms, hB⟩ := hO
  intro H locs ls hW hS hl
  refine bj_sz fun hz9 => ?_
  have hz : H.size = E.2.1 + n := bj_size (B := 0) hW h0n hB hna hz9
  have hG : GoodIn gj_gw (.code y yc yn none :: gj_gw) := gj_GI (fun w hw => (List.mem_cons.mp hw).elim (fun e => e ▸ hl5) id)
  have hrun := va_runI (As := []) (rest := st.map (gj_tv (fun k => E.2.1 + k))) (b := E.2.1 + o) (g := F0 m pc ls (.ref (E.2.1 + o) :: st.map (gj_tv (fun k => E.2.1 + k)))) (H := H) (locs := locs) (cells := ce) (slots := sl) (below := below) (meth := meth) (e := e) ⟨hx, hb, hml, hown, hts⟩ hM (cwI 0 hts hG rfl rfl rfl (hts _ hl4) (hts _ hl1) (hts _ hl2) hy hd ⟨by rw [hfr]; exact hf1, by rw [hlo]; exact hf2⟩) ⟨fun a U g mk q => by
      obtain ⟨q0, q1, q2, q3, q4⟩ := q
      exact ⟨q0, q1, q2, va_K.moved (u := U) (U := U.calling g mk a) (Vm.Alike.refl U.vm) q3, bj_Zsame (U := U.calling g mk a) rfl q4⟩, fun U hU hWm => ⟨rfl, by rw [hU]; exact hz, by rw [hU]; exact hW, va_K.moved hWm.alike hK, bj_Zwarm hWm hZ⟩⟩ rfl rfl hl.1 rfl (lv_room hcat) hdc ⟨by rw [hmc]; exact h1, by rw [hms]; exact h2⟩
  intro T hT X
  obtain ⟨v, st₀, t, T', L, h0, X', hL, e1, e2, ⟨⟨hv, hb2⟩, hz2, hk⟩, stp⟩ := hrun T hT X
  cases hv
  rw [h0] at hz2 hk
  obtain ⟨t2, a1, b1⟩ := k T'.heap (locs ++ L) ls (by rw [e1]; exact hb2)
    ⟨Nat.le_trans hS.1 (by rw [e1]; exact hz2), fun q h1 h2 => by rw [e1, hk q (Nat.lt_of_lt_of_le h1 hS.1) h2]; exact hS.2.1 q h1 h2, fun q hq => by
      rcases List.mem_append.mp hq with h | h
      · exact hS.2.2 q h
      · exact hL q h⟩ hl T' rfl X'
  exact ⟨t2, stp t2 a1, b1⟩
set_option maxHeartbeats 4000000 in
set_option maxRecDepth 100000 in
theorem c_X8_init {E : bj_E} {Eg : gj_E} {w : Nat → va_E} {τ : gj_S} (hE : Eg.1 = E.1 ∧ Eg.2.2.1 = E.2.2.1 ∧ Eg.2.2.2 = E.2.2.2) (hA : bj_ok E.2.1 Eg.2.1) (hN : Eg.2.1 5000 = 188) (hf : f_X7_beginAll 16 bj_s0 = some τ) (hw : w 0 = .inr (8, [.null, .int 0, .null, .null, .null, .null, .null, .null, .null, .null, .null])) : bj_M2 E Eg yX8_init cX8_init 2 8 300 187 5226 0 1 w τ := by
  refine bj_body2 (by decide +kernel) rfl (by decide) (fun X hO hZ => ?_)
  replace hO : bj_O E X RX8 cX8_init 2 8 300 187 5226 1 := hO
  have hG : gj_O Eg X RX8 cX8_init 2 none 8 300 := bj_toO hE hA hN (by decide) (by decide) (by decide) (fun e => absurd e (by decide)) (fun e => absurd e (by decide)) hO hZ
  refine bj_cg (w2 := (bj_mid E w 0 8 [.null, .int 0, .null, .null, .null, .null, .null, .null, .null, .null, .null])) (fun k hk => (bj_mid_w hw k hk).symm) ?_
  refine bj_aload_n hO 0 dX8_init_0 rfl rfl ?_
  refine bj_obj hO wc_70 dX8_init_1 (by decide) (by decide) rfl ?_
  refine bj_aload_n hO 0 dX8_init_4 rfl rfl ?_
  refine bj_sipush (v := 600) hO dX8_init_5 (by decide) ?_
  refine bj_newaB (N := 600) (w2 := (bj_mid E w 0 8 [.null, .int 0, .null, .null, .null, .null, .null, .null, .null, .null, .null])) hO (by decide) (by decide) (by decide) (by decide) (by decide) (by omega) (by omega) (fun _ _ => rfl) ((bj_mid_L (by omega)).trans (bj_LB kd_1)) dX8_init_8 ?_
  refine bj_putF (C := RX8) (T := TX8) (N := 11) (j := 0) (ty := (.array .byte)) (v := gj_r 1) (w2 := (bj_mid E w 0 8 [.ref (E.2.1 + 1), .int 0, .null, .null, .null, .null, .null, .null, .null, .null, .null])) hO ly_X8 tyX8_ok nmX8 (by omega) (bj_mid_o) rfl (by decide) rfl rfl wc_71 rfl (by decide +kernel) rfl rfl (Nat.le_of_ble_eq_true rfl) bj_mid_p bj_mid_o dX8_init_10 ?_
  refine bj_aload_n hO 0 dX8_init_13 rfl rfl ?_
  refine bj_iconst (v := 0) hO dX8_init_14 (by decide) ?_
  refine bj_put (C := RX8) (T := TX8) (N := 11) (j := 1) (ty := .int) (v := gj_i 0) (w2 := (bj_mid E w 0 8 [.ref (E.2.1 + 1), .int 0, .null, .null, .null, .null, .null, .null, .null, .null, .null])) hO ly_X8 tyX8_ok nmX8 (by omega) (bj_mid_o) rfl (by decide) rfl rfl wc_72 rfl (by decide +kernel) rfl rfl (Nat.le_of_ble_eq_true rfl) bj_mid_p bj_mid_o dX8_init_15 ?_
  refine bj_aload_n hO 0 dX8_init_18 rfl rfl ?_
  refine bj_new (ci := 2) (fs := [.null, .null, .null, .int 0, .int 0, .int 0, .int 0, .int 0, .int 0, .long 0, .null]) (w2 := bj_sub (bj_mid E w 0 8 [.ref (E.2.1 + 1), .int 0, .null, .null, .null, .null, .null, .null, .null, .null, .null]) 2 (.inr (2, [.null, .null, .null, .int 0, .int 0, .int 0, .int 0, .int 0, .int 0, .long 0, .null]))) hO ly_X2 tyX2_ok wc_73 wc_74 wc_75 rfl (fun j hj => by rcases (show j = 0 ∨ j = 1 ∨ j = 2 ∨ j = 3 ∨ j = 4 ∨ j = 5 ∨ j = 6 ∨ j = 7 ∨ j = 8 ∨ j = 9 ∨ j = 10 by omega) with rfl | rfl | rfl | rfl | rfl | rfl | rfl | rfl | rfl | rfl | rfl <;> rfl) (by decide) (by decide) (by omega) (by omega) bj_sub_e bj_sub_m dX8_init_19 ?_
  refine bj_dup hO dX8_init_22 trivial ?_
  refine bj_call hO (o := 2) (n2 := 15) (c_X2_init bj_sub_m) (List.mem_of_getElem? (i := 0) rfl) wc_76 wc_75 wc_77 rfl (by decide +kernel) (by decide) (by decide) (by decide) (by decide) (by omega) (by omega) (Nat.le_of_ble_eq_true rfl) dX8_init_23 ?_
  refine bj_cg (w2 := (bj_mid E w 0 8 [.ref (E.2.1 + 1), .int 0, .null, .null, .null, .null, .null, .null, .null, .null, .null])) (bj_cut_sub (by omega)) ?_
  refine bj_putF (C := RX8) (T := TX8) (N := 11) (j := 2) (ty := (.object "PivotDocks$Reader")) (v := gj_r 2) (w2 := (bj_mid E w 0 8 [.ref (E.2.1 + 1), .int 0, .ref (E.2.1 + 2), .null, .null, .null, .null, .null, .null, .null, .null])) hO ly_X8 tyX8_ok nmX8 (by omega) (bj_mid_o) rfl (by decide) rfl rfl wc_78 rfl (by decide +kernel) rfl rfl (Nat.le_of_ble_eq_true rfl) bj_mid_p bj_mid_o dX8_init_26 ?_
  refine bj_aload_n hO 0 dX8_init_29 rfl rfl ?_
  refine bj_bipush (v := 16) hO dX8_init_30 (by decide) ?_
  refine bj_newaJ (N := 16) (w2 := (bj_mid E w 0 8 [.ref (E.2.1 + 1), .int 0, .ref (E.2.1 + 2), .null, .null, .null, .null, .null, .null, .null, .null])) hO (by decide) (by decide) (by decide) (by decide) (by decide) (by omega) (by omega) (fun _ _ => rfl) ((bj_mid_L (by omega)).trans (bj_LJ kd_15)) dX8_init_32 ?_
  refine bj_putF (C := RX8) (T := TX8) (N := 11) (j := 3) (ty := (.array .long)) (v := gj_r 15) (w2 := (bj_mid E w 0 8 [.ref (E.2.1 + 1), .int 0, .ref (E.2.1 + 2), .ref (E.2.1 + 15), .null, .null, .null, .null, .null, .null, .null])) hO ly_X8 tyX8_ok nmX8 (by omega) (bj_mid_o) rfl (by decide) rfl rfl wc_79 rfl (by decide +kernel) rfl rfl (Nat.le_of_ble_eq_true rfl) bj_mid_p bj_mid_o dX8_init_34 ?_
  refine bj_aload_n hO 0 dX8_init_37 rfl rfl ?_
  refine bj_new (ci := 7) (fs := [.null, .null, .null, .int 0]) (w2 := bj_sub (bj_mid E w 0 8 [.ref (E.2.1 + 1), .int 0, .ref (E.2.1 + 2), .ref (E.2.1 + 15), .null, .null, .null, .null, .null, .null, .null]) 16 (.inr (7, [.null, .null, .null, .int 0]))) hO ly_X7 tyX7_ok wc_80 wc_81 wc_82 rfl (fun j hj => by rcases (show j = 0 ∨ j = 1 ∨ j = 2 ∨ j = 3 by omega) with rfl | rfl | rfl | rfl <;> rfl) (by decide) (by decide) (by omega) (by omega) bj_sub_e bj_sub_m dX8_init_38 ?_
  refine bj_dup hO dX8_init_41 trivial ?_
  refine bj_call hO (o := 16) (n2 := 35) (c_X7_init isY_16 bj_sub_m) (List.mem_of_getElem? (i := 2) rfl) wc_83 wc_82 wc_84 rfl (by decide +kernel) (by decide) (by decide) (by decide) (by decide) (by omega) (by omega) (Nat.le_of_ble_eq_true rfl) dX8_init_42 ?_
  refine bj_cg (w2 := (bj_mid E w 0 8 [.ref (E.2.1 + 1), .int 0, .ref (E.2.1 + 2), .ref (E.2.1 + 15), .null, .null, .null, .null, .null, .null, .null])) (bj_cut_sub (by omega)) ?_
  refine bj_putF (C := RX8) (T := TX8) (N := 11) (j := 4) (ty := (.object "PivotDocks$Yard")) (v := gj_r 16) (w2 := (bj_mid E w 0 8 [.ref (E.2.1 + 1), .int 0, .ref (E.2.1 + 2), .ref (E.2.1 + 15), .ref (E.2.1 + 16), .null, .null, .null, .null, .null, .null])) hO ly_X8 tyX8_ok nmX8 (by omega) (bj_mid_o) rfl (by decide) rfl rfl wc_85 rfl (by decide +kernel) rfl rfl (Nat.le_of_ble_eq_true rfl) bj_mid_p bj_mid_o dX8_init_45 ?_
  refine bj_aload_n hO 0 dX8_init_48 rfl rfl ?_
  refine bj_new (ci := 7) (fs := [.null, .null, .null, .int 0]) (w2 := bj_sub (bj_mid E w 0 8 [.ref (E.2.1 + 1), .int 0, .ref (E.2.1 + 2), .ref (E.2.1 + 15), .ref (E.2.1 + 16), .null, .null, .null, .null, .null, .null]) 35 (.inr (7, [.null, .null, .null, .int 0]))) hO ly_X7 tyX7_ok wc_80 wc_81 wc_82 rfl (fun j hj => by rcases (show j = 0 ∨ j = 1 ∨ j = 2 ∨ j = 3 by omega) with rfl | rfl | rfl | rfl <;> rfl) (by decide) (by decide) (by omega) (by omega) bj_sub_e bj_sub_m dX8_init_49 ?_
  refine bj_dup hO dX8_init_52 trivial ?_
  refine bj_call hO (o := 35) (n2 := 54) (c_X7_init isY_35 bj_sub_m) (List.mem_of_getElem? (i := 2) rfl) wc_83 wc_82 wc_84 rfl (by decide +kernel) (by decide) (by decide) (by decide) (by decide) (by omega) (by omega) (Nat.le_of_ble_eq_true rfl) dX8_init_53 ?_
  refine bj_cg (w2 := (bj_mid E w 0 8 [.ref (E.2.1 + 1), .int 0, .ref (E.2.1 + 2), .ref (E.2.1 + 15), .ref (E.2.1 + 16), .null, .null, .null, .null, .null, .null])) (bj_cut_sub (by omega)) ?_
  refine bj_putF (C := RX8) (T := TX8) (N := 11) (j := 5) (ty := (.object "PivotDocks$Yard")) (v := gj_r 35) (w2 := (bj_mid E w 0 8 [.ref (E.2.1 + 1), .int 0, .ref (E.2.1 + 2), .ref (E.2.1 + 15), .ref (E.2.1 + 16), .ref (E.2.1 + 35), .null, .null, .null, .null, .null])) hO ly_X8 tyX8_ok nmX8 (by omega) (bj_mid_o) rfl (by decide) rfl rfl wc_86 rfl (by decide +kernel) rfl rfl (Nat.le_of_ble_eq_true rfl) bj_mid_p bj_mid_o dX8_init_56 ?_
  refine bj_aload_n hO 0 dX8_init_59 rfl rfl ?_
  refine bj_new (ci := 0) (fs := [.null, .int 0, .int 0]) (w2 := bj_sub (bj_mid E w 0 8 [.ref (E.2.1 + 1), .int 0, .ref (E.2.1 + 2), .ref (E.2.1 + 15), .ref (E.2.1 + 16), .ref (E.2.1 + 35), .null, .null, .null, .null, .null]) 54 (.inr (0, [.null, .int 0, .int 0]))) hO ly_X0 tyX0_ok wc_87 wc_88 wc_89 rfl (fun j hj => by rcases (show j = 0 ∨ j = 1 ∨ j = 2 by omega) with rfl | rfl | rfl <;> rfl) (by decide) (by decide) (by omega) (by omega) bj_sub_e bj_sub_m dX8_init_60 ?_
  refine bj_dup hO dX8_init_63 trivial ?_
  refine bj_callP hO (o := 54) (n2 := 164) (c_X0_init bj_sub_m) wc_92 wc_90 wc_89 wc_91 rfl (by decide +kernel) (by decide) (by decide) (by decide) (by decide) (by omega) (by omega) (Nat.le_of_ble_eq_true rfl) dX8_init_64 ?_
  refine bj_cg (w2 := (bj_mid E w 0 8 [.ref (E.2.1 + 1), .int 0, .ref (E.2.1 + 2), .ref (E.2.1 + 15), .ref (E.2.1 + 16), .ref (E.2.1 + 35), .null, .null, .null, .null, .null])) (bj_cut_sub (by omega)) ?_
  refine bj_putF (C := RX8) (T := TX8) (N := 11) (j := 6) (ty := (.object "PivotDocks$Past")) (v := gj_r 54) (w2 := (bj_mid E w 0 8 [.ref (E.2.1 + 1), .int 0, .ref (E.2.1 + 2), .ref (E.2.1 + 15), .ref (E.2.1 + 16), .ref (E.2.1 + 35), .ref (E.2.1 + 54), .null, .null, .null, .null])) hO ly_X8 tyX8_ok nmX8 (by omega) (bj_mid_o) rfl (by decide) rfl rfl wc_93 rfl (by decide +kernel) rfl rfl (Nat.le_of_ble_eq_true rfl) bj_mid_p bj_mid_o dX8_init_67 ?_
  refine bj_aload_n hO 0 dX8_init_70 rfl rfl ?_
  refine bj_iconst (v := 2) hO dX8_init_71 (by decide) ?_
  refine bj_anew (N := 2) (w2 := (bj_mid2 E (bj_mid E w 0 8 [.ref (E.2.1 + 1), .int 0, .ref (E.2.1 + 2), .ref (E.2.1 + 15), .ref (E.2.1 + 16), .ref (E.2.1 + 35), .ref (E.2.1 + 54), .null, .null, .null, .null]) 164 2 0)) hO wc_94 (by decide) (by decide) (by decide) (by decide) (by decide) (by omega) (by omega) bj_mid2_e bj_mid2_n dX8_init_72 ?_
  refine bj_putF (C := RX8) (T := TX8) (N := 11) (j := 7) (ty := (.array (.object "PivotDocks$Plan"))) (v := gj_r 164) (w2 := (bj_mid2 E (bj_mid E w 0 8 [.ref (E.2.1 + 1), .int 0, .ref (E.2.1 + 2), .ref (E.2.1 + 15), .ref (E.2.1 + 16), .ref (E.2.1 + 35), .ref (E.2.1 + 54), .ref (E.2.1 + 164), .null, .null, .null]) 164 2 0)) hO ly_X8 tyX8_ok nmX8 (by omega) (bj_mid2_o (by omega)) rfl (by decide) rfl rfl wc_95 rfl (by decide +kernel) rfl rfl (Nat.le_of_ble_eq_true rfl) bj_mid2_q (bj_mid2_o (by omega)) dX8_init_75 ?_
  refine bj_aload_n hO 0 dX8_init_78 rfl rfl ?_
  refine bj_iconst (v := 2) hO dX8_init_79 (by decide) ?_
  refine bj_newaZ (N := 2) (w2 := (bj_mid2 E (bj_mid E w 0 8 [.ref (E.2.1 + 1), .int 0, .ref (E.2.1 + 2), .ref (E.2.1 + 15), .ref (E.2.1 + 16), .ref (E.2.1 + 35), .ref (E.2.1 + 54), .ref (E.2.1 + 164), .null, .null, .null]) 164 2 0)) hO (by decide) (by decide) (by decide) (by decide) (by decide) (by omega) (by omega) (fun _ _ => rfl) ((bj_mid2_L (by omega)).trans (bj_LZ kd_165)) dX8_init_80 ?_
  refine bj_putF (C := RX8) (T := TX8) (N := 11) (j := 8) (ty := (.array .boolean)) (v := gj_r 165) (w2 := (bj_mid2 E (bj_mid E w 0 8 [.ref (E.2.1 + 1), .int 0, .ref (E.2.1 + 2), .ref (E.2.1 + 15), .ref (E.2.1 + 16), .ref (E.2.1 + 35), .ref (E.2.1 + 54), .ref (E.2.1 + 164), .ref (E.2.1 + 165), .null, .null]) 164 2 0)) hO ly_X8 tyX8_ok nmX8 (by omega) (bj_mid2_o (by omega)) rfl (by decide) rfl rfl wc_96 rfl (by decide +kernel) rfl rfl (Nat.le_of_ble_eq_true rfl) bj_mid2_q (bj_mid2_o (by omega)) dX8_init_82 ?_
  refine bj_aload_n hO 0 dX8_init_85 rfl rfl ?_
  refine bj_new (ci := 6) (fs := [.null]) (w2 := bj_sub (bj_mid2 E (bj_mid E w 0 8 [.ref (E.2.1 + 1), .int 0, .ref (E.2.1 + 2), .ref (E.2.1 + 15), .ref (E.2.1 + 16), .ref (E.2.1 + 35), .ref (E.2.1 + 54), .ref (E.2.1 + 164), .ref (E.2.1 + 165), .null, .null]) 164 2 0) 166 (.inr (6, [.null]))) hO ly_X6 tyX6_ok wc_97 wc_98 wc_99 rfl (fun j hj => by rcases (show j = 0 by omega) with rfl <;> rfl) (by decide) (by decide) (by omega) (by omega) bj_sub_e bj_sub_m dX8_init_86 ?_
  refine bj_dup hO dX8_init_89 trivial ?_
  refine bj_call hO (o := 166) (n2 := 168) (c_X6_init bj_sub_m) (List.mem_of_getElem? (i := 7) rfl) wc_100 wc_99 wc_101 rfl (by decide +kernel) (by decide) (by decide) (by decide) (by decide) (by omega) (by omega) (Nat.le_of_ble_eq_true rfl) dX8_init_90 ?_
  refine bj_cg (w2 := (bj_mid2 E (bj_mid E w 0 8 [.ref (E.2.1 + 1), .int 0, .ref (E.2.1 + 2), .ref (E.2.1 + 15), .ref (E.2.1 + 16), .ref (E.2.1 + 35), .ref (E.2.1 + 54), .ref (E.2.1 + 164), .ref (E.2.1 + 165), .null, .null]) 164 2 0)) (bj_cut_sub2 (by omega)) ?_
  refine bj_putF (C := RX8) (T := TX8) (N := 11) (j := 9) (ty := (.object "PivotDocks$UnitPaths")) (v := gj_r 166) (w2 := (bj_mid2 E (bj_mid E w 0 8 [.ref (E.2.1 + 1), .int 0, .ref (E.2.1 + 2), .ref (E.2.1 + 15), .ref (E.2.1 + 16), .ref (E.2.1 + 35), .ref (E.2.1 + 54), .ref (E.2.1 + 164), .ref (E.2.1 + 165), .ref (E.2.1 + 166), .null]) 164 2 0)) hO ly_X8 tyX8_ok nmX8 (by omega) (bj_mid2_o (by omega)) rfl (by decide) rfl rfl wc_102 rfl (by decide +kernel) rfl rfl (Nat.le_of_ble_eq_true rfl) bj_mid2_q (bj_mid2_o (by omega)) dX8_init_93 ?_
  refine bj_aload_n hO 0 dX8_init_96 rfl rfl ?_
  refine bj_new (ci := 4) (fs := [.null, .int 0]) (w2 := bj_sub (bj_mid2 E (bj_mid E w 0 8 [.ref (E.2.1 + 1), .int 0, .ref (E.2.1 + 2), .ref (E.2.1 + 15), .ref (E.2.1 + 16), .ref (E.2.1 + 35), .ref (E.2.1 + 54), .ref (E.2.1 + 164), .ref (E.2.1 + 165), .ref (E.2.1 + 166), .null]) 164 2 0) 168 (.inr (4, [.null, .int 0]))) hO ly_X4 tyX4_ok wc_103 wc_104 wc_105 rfl (fun j hj => by rcases (show j = 0 ∨ j = 1 by omega) with rfl | rfl <;> rfl) (by decide) (by decide) (by omega) (by omega) bj_sub_e bj_sub_m dX8_init_97 ?_
  refine bj_dup hO dX8_init_100 trivial ?_
  refine bj_call hO (o := 168) (n2 := 170) (c_X4_init bj_sub_m) (List.mem_of_getElem? (i := 8) rfl) wc_106 wc_105 wc_107 rfl (by decide +kernel) (by decide) (by decide) (by decide) (by decide) (by omega) (by omega) (Nat.le_of_ble_eq_true rfl) dX8_init_101 ?_
  refine bj_cg (w2 := (bj_mid2 E (bj_mid E w 0 8 [.ref (E.2.1 + 1), .int 0, .ref (E.2.1 + 2), .ref (E.2.1 + 15), .ref (E.2.1 + 16), .ref (E.2.1 + 35), .ref (E.2.1 + 54), .ref (E.2.1 + 164), .ref (E.2.1 + 165), .ref (E.2.1 + 166), .null]) 164 2 0)) (bj_cut_sub2 (by omega)) ?_
  refine bj_putF (C := RX8) (T := TX8) (N := 11) (j := 10) (ty := (.object "PivotDocks$Sheet")) (v := gj_r 168) (w2 := (bj_mid2 E (bj_mid E w 0 8 [.ref (E.2.1 + 1), .int 0, .ref (E.2.1 + 2), .ref (E.2.1 + 15), .ref (E.2.1 + 16), .ref (E.2.1 + 35), .ref (E.2.1 + 54), .ref (E.2.1 + 164), .ref (E.2.1 + 165), .ref (E.2.1 + 166), .ref (E.2.1 + 168)]) 164 2 0)) hO ly_X8 tyX8_ok nmX8 (by omega) (bj_mid2_o (by omega)) rfl (by decide) rfl rfl wc_108 rfl (by decide +kernel) rfl rfl (Nat.le_of_ble_eq_true rfl) bj_mid2_q (bj_mid2_o (by omega)) dX8_init_104 ?_
  refine bj_iconst (v := 0) hO dX8_init_107 (by decide) ?_
  refine bj_istore_n (lv2 := [(1, gj_i 0), (0, gj_r 0)]) hO dX8_init_108 rfl (by decide) rfl ?_
  refine bj_iload_n hO 0 dX8_init_109 rfl rfl ?_
  refine bj_iconst (v := 2) hO dX8_init_110 (by decide) ?_
  refine bj_ge_f hO 133 dX8_init_111 (by decide) (by decide) ?_
  refine bj_aload_n hO 1 dX8_init_114 rfl rfl ?_
  refine bj_get (C := RX8) (T := TX8) (N := 11) (j := 7) (v := gj_r 164) hO ly_X8 (by omega) (bj_mid2_o (by omega)) rfl (by decide) rfl wc_95 rfl dX8_init_115 ?_
  refine bj_iload_n hO 0 dX8_init_118 rfl rfl ?_
  refine bj_new (ci := 1) (fs := [.int 0, .int 0, .int 0, .int 0, .int 0, .null, .null, .null, .null, .null, .null, .null, .null]) (w2 := bj_sub (bj_mid2 E (bj_mid E w 0 8 [.ref (E.2.1 + 1), .int 0, .ref (E.2.1 + 2), .ref (E.2.1 + 15), .ref (E.2.1 + 16), .ref (E.2.1 + 35), .ref (E.2.1 + 54), .ref (E.2.1 + 164), .ref (E.2.1 + 165), .ref (E.2.1 + 166), .ref (E.2.1 + 168)]) 164 2 0) 170 (.inr (1, [.int 0, .int 0, .int 0, .int 0, .int 0, .null, .null, .null, .null, .null, .null, .null, .null]))) hO ly_X1 tyX1_ok wc_94 wc_29 wc_30 rfl (fun j hj => by rcases (show j = 0 ∨ j = 1 ∨ j = 2 ∨ j = 3 ∨ j = 4 ∨ j = 5 ∨ j = 6 ∨ j = 7 ∨ j = 8 ∨ j = 9 ∨ j = 10 ∨ j = 11 ∨ j = 12 by omega) with rfl | rfl | rfl | rfl | rfl | rfl | rfl | rfl | rfl | rfl | rfl | rfl | rfl <;> rfl) (by decide) (by decide) (by omega) (by omega) bj_sub_e bj_sub_m dX8_init_119 ?_
  refine bj_dup hO dX8_init_122 trivial ?_
  refine bj_call hO (o := 170) (n2 := 179) (c_X1_init isP_170 bj_sub_m) (List.mem_of_getElem? (i := 9) rfl) wc_31 wc_30 wc_32 rfl (by decide +kernel) (by decide) (by decide) (by decide) (by decide) (by omega) (by omega) (Nat.le_of_ble_eq_true rfl) dX8_init_123 ?_
  refine bj_cg (w2 := (bj_mid2 E (bj_mid E w 0 8 [.ref (E.2.1 + 1), .int 0, .ref (E.2.1 + 2), .ref (E.2.1 + 15), .ref (E.2.1 + 16), .ref (E.2.1 + 35), .ref (E.2.1 + 54), .ref (E.2.1 + 164), .ref (E.2.1 + 165), .ref (E.2.1 + 166), .ref (E.2.1 + 168)]) 164 2 0)) (bj_cut_sub2 (by omega)) ?_
  refine bj_aast (a := 164) (v := 170) (N := 2) (w2 := (bj_mid2 E (bj_mid E w 0 8 [.ref (E.2.1 + 1), .int 0, .ref (E.2.1 + 2), .ref (E.2.1 + 15), .ref (E.2.1 + 16), .ref (E.2.1 + 35), .ref (E.2.1 + 54), .ref (E.2.1 + 164), .ref (E.2.1 + 165), .ref (E.2.1 + 166), .ref (E.2.1 + 168)]) 164 2 1)) hO (by omega) bj_mid2_A (by omega) ((bj_mid2_L (by omega)).trans ((bj_LO (kdP_0 isP_170) (by decide)))) (by unfold vp_in; decide) bj_mid2_p (bj_mid2_S 0 rfl rfl) dX8_init_126 ?_
  refine bj_iinc (v := 1) (lv2 := [(1, gj_i 1), (0, gj_r 0)]) hO 0 dX8_init_127 rfl (by decide) (by decide) rfl ?_
  refine bj_goto (tgt := 109) hO dX8_init_130 (by decide) ?_
  refine bj_iload_n hO 0 dX8_init_109 rfl rfl ?_
  refine bj_iconst (v := 2) hO dX8_init_110 (by decide) ?_
  refine bj_ge_f hO 133 dX8_init_111 (by decide) (by decide) ?_
  refine bj_aload_n hO 1 dX8_init_114 rfl rfl ?_
  refine bj_get (C := RX8) (T := TX8) (N := 11) (j := 7) (v := gj_r 164) hO ly_X8 (by omega) (bj_mid2_o (by omega)) rfl (by decide) rfl wc_95 rfl dX8_init_115 ?_
  refine bj_iload_n hO 0 dX8_init_118 rfl rfl ?_
  refine bj_new (ci := 1) (fs := [.int 0, .int 0, .int 0, .int 0, .int 0, .null, .null, .null, .null, .null, .null, .null, .null]) (w2 := bj_sub (bj_mid2 E (bj_mid E w 0 8 [.ref (E.2.1 + 1), .int 0, .ref (E.2.1 + 2), .ref (E.2.1 + 15), .ref (E.2.1 + 16), .ref (E.2.1 + 35), .ref (E.2.1 + 54), .ref (E.2.1 + 164), .ref (E.2.1 + 165), .ref (E.2.1 + 166), .ref (E.2.1 + 168)]) 164 2 1) 179 (.inr (1, [.int 0, .int 0, .int 0, .int 0, .int 0, .null, .null, .null, .null, .null, .null, .null, .null]))) hO ly_X1 tyX1_ok wc_94 wc_29 wc_30 rfl (fun j hj => by rcases (show j = 0 ∨ j = 1 ∨ j = 2 ∨ j = 3 ∨ j = 4 ∨ j = 5 ∨ j = 6 ∨ j = 7 ∨ j = 8 ∨ j = 9 ∨ j = 10 ∨ j = 11 ∨ j = 12 by omega) with rfl | rfl | rfl | rfl | rfl | rfl | rfl | rfl | rfl | rfl | rfl | rfl | rfl <;> rfl) (by decide) (by decide) (by omega) (by omega) bj_sub_e bj_sub_m dX8_init_119 ?_
  refine bj_dup hO dX8_init_122 trivial ?_
  refine bj_call hO (o := 179) (n2 := 188) (c_X1_init isP_179 bj_sub_m) (List.mem_of_getElem? (i := 9) rfl) wc_31 wc_30 wc_32 rfl (by decide +kernel) (by decide) (by decide) (by decide) (by decide) (by omega) (by omega) (Nat.le_of_ble_eq_true rfl) dX8_init_123 ?_
  refine bj_cg (w2 := (bj_mid2 E (bj_mid E w 0 8 [.ref (E.2.1 + 1), .int 0, .ref (E.2.1 + 2), .ref (E.2.1 + 15), .ref (E.2.1 + 16), .ref (E.2.1 + 35), .ref (E.2.1 + 54), .ref (E.2.1 + 164), .ref (E.2.1 + 165), .ref (E.2.1 + 166), .ref (E.2.1 + 168)]) 164 2 1)) (bj_cut_sub2 (by omega)) ?_
  refine bj_aast (a := 164) (v := 179) (N := 2) (w2 := (bj_mid2 E (bj_mid E w 0 8 [.ref (E.2.1 + 1), .int 0, .ref (E.2.1 + 2), .ref (E.2.1 + 15), .ref (E.2.1 + 16), .ref (E.2.1 + 35), .ref (E.2.1 + 54), .ref (E.2.1 + 164), .ref (E.2.1 + 165), .ref (E.2.1 + 166), .ref (E.2.1 + 168)]) 164 2 2)) hO (by omega) bj_mid2_A (by omega) ((bj_mid2_L (by omega)).trans ((bj_LO (kdP_0 isP_179) (by decide)))) (by unfold vp_in; decide) bj_mid2_p (bj_mid2_S 1 rfl rfl) dX8_init_126 ?_
  refine bj_iinc (v := 2) (lv2 := [(1, gj_i 2), (0, gj_r 0)]) hO 0 dX8_init_127 rfl (by decide) (by decide) rfl ?_
  refine bj_goto (tgt := 109) hO dX8_init_130 (by decide) ?_
  refine bj_iload_n hO 0 dX8_init_109 rfl rfl ?_
  refine bj_iconst (v := 2) hO dX8_init_110 (by decide) ?_
  refine bj_ge_t (tgt := 133) hO dX8_init_111 (by decide) (by decide) ?_
  refine bj_aload_n hO 1 dX8_init_133 rfl rfl ?_
  refine bj_get (C := RX8) (T := TX8) (N := 11) (j := 4) (v := gj_r 16) hO ly_X8 (by omega) (bj_mid2_o (by omega)) rfl (by decide) rfl wc_85 rfl dX8_init_134 ?_
  refine bj_toG (σ := bj_s0) hE hA hN (by decide) (by decide) hO (by decide) (by decide) (fun k hk H h => ?_) (by simp [gj_L, gj_tv, hA 0 (by decide)]) (by simp [gj_tv, hA 16 (by decide)]) ?_
  · refine bj_atA hA (by decide) (by omega) ?_
    by_cases e : k = 0
    · subst e
      have h2 := bj_mid2_all (E := E) (n := 188) kd_164 (by decide) 0 (by decide) H h
      rw [bj_mid_o] at h2
      have e0 : gj_cell E.2.2.2 (fun k => E.2.1 + k) bj_s0 0 = .inr (8, [.ref (E.2.1 + 1), .int 0, .ref (E.2.1 + 2), .ref (E.2.1 + 15), .ref (E.2.1 + 16), .ref (E.2.1 + 35), .ref (E.2.1 + 54), .ref (E.2.1 + 164), .ref (E.2.1 + 165), .ref (E.2.1 + 166), .ref (E.2.1 + 168)]) := rfl
      rw [e0]
      exact h2
    · have h2 := bj_mid2_all (E := E) (n := 188) kd_164 (by decide) k hk H h
      rw [bj_mid_L (by omega)] at h2
      exact h2
  refine ca_X7_beginAll hG isY_16 hf wc_109 (by decide) (by decide) (Nat.le_of_ble_eq_true rfl) dX8_init_137 ?_
  exact bj_vret2 hA hN (by decide) (by decide) hO hE.1 rfl rfl dX8_init_140
