/-! ===== sheet: the call ===== -/
def pgE (L : List Nat) (i : Nat) : Int32 := nI ((L[i]?).getD 0)
def pg8 (σ : gj_S) (L : List Nat) : Prop := σ.1 168 1 = nI L.length ∧ ∀ i, i < L.length → σ.1 169 i = pgE L i
def pg9 (σ : gj_S) (L : List Nat) : Prop := σ.1 188 40 = nI L.length ∧ ∀ i, i < L.length → σ.1 210 i = pgE L i
theorem pgE_a {L : List Nat} {x i : Nat} {f : Nat → Int32} (h : ∀ i, i < L.length → f i = pgE L i) (hi : i < (L ++ [x]).length) : upd f L.length (nI x) i = pgE (L ++ [x]) i := by
  rw [List.length_append, List.length_singleton] at hi
  show (if i = L.length then nI x else f i) = _
  unfold pgE
  by_cases q : i = L.length
  · rw [if_pos q, List.getElem?_append_right (by omega), q, Nat.sub_self]
    rfl
  · rw [if_neg q, List.getElem?_append_left (by omega)]
    exact h i (by omega)
theorem c8_pb {L : List Nat} {x : Nat} {σ : gj_S} (h : pg8 σ L) (hL : L.length < 192) (hx : x < 128) : TP (f_X4_put (nI x) σ) (fun z => smC 168 169 σ z ∧ pg8 z (L ++ [x])) := by
  have hb : ∀ x : Nat, x < 128 → vp_nar .byte (Int8.toInt32 (Int32.toInt8 (nI x))) = nI x := by decide +kernel
  have g : gj_in (nI L.length) 192 := gi hL (by omega)
  unfold f_X4_put
  rw [h.1, hb x hx]
  refine tp_f (nI_ge (b := 192) hL (by omega)) (tp_t g (tp_some ⟨smC_I (by omega) (by omega) (smC_I (by omega) (by omega) smC_rf), ?_, fun i hi => ?_⟩))
  · rw [sI_eq, sI_ne (show 168 ≠ 169 by decide), List.length_append, List.length_singleton]
    show (if 1 = 1 then σ.1 168 1 + 1 else _) = _
    rw [if_pos rfl, h.1, nI_1]
  · rw [sI_ne (show 169 ≠ 168 by decide), sI_eq, nI_clamp (by omega)]
    exact pgE_a h.2 hi
theorem r9_pb {L : List Nat} {x : Nat} {σ : gj_S} (h : pg9 σ L) (hL : L.length < 240) : TP (f_X9_writes (nI x) σ) (fun z => smX σ z ∧ pg9 z (L ++ [x])) := by
  have g : gj_in (nI L.length) 240 := gi hL (by omega)
  unfold f_X9_writes
  rw [h.1]
  refine tp_t g (tp_some ⟨⟨fun k k1 k2 => ?_, fun j j1 j2 j3 j4 => ?_, rfl⟩, ?_, fun i hi => ?_⟩)
  · rw [sI_ne k1, sI_ne (by omega)]
  · rw [sI_eq, sI_ne (show 188 ≠ 210 by decide)]
    exact if_neg j4
  · rw [sI_eq, sI_ne (show 188 ≠ 210 by decide), List.length_append, List.length_singleton]
    show (if 40 = 40 then σ.1 188 40 + 1 else _) = _
    rw [if_pos rfl, h.1, nI_1]
  · rw [sI_ne (show 210 ≠ 188 by decide), sI_eq, nI_clamp (by omega)]
    exact pgE_a h.2 hi
theorem dgs_len {e N : Nat} : ∀ j, (dgs e N j).length ≤ j
  | 0 => Nat.le_refl _
  | j + 1 => by
    have := dgs_len (e := e) (N := N) j
    unfold dgs
    rw [List.length_append]
    split <;> simp <;> omega
theorem c8_nm {N : Nat} (hN : N < 2 ^ 62) : ∀ (j : Nat) (L : List Nat) (σ : gj_S), j ≤ 6 → pg8 σ L → L.length + j ≤ 192 → (∀ i, i < 6 → N / 2 ^ (8 * i) % 256 < 128) → ∀ fu, j < fu → TP (gj_lp (fb_X4_writeName_l3 (Int64.ofNat N)) fu (nI (8 * j) + (-8), σ)) (fun z => smC 168 169 σ z ∧ pg8 z (L ++ dgs 8 N j))
  | 0, L, σ, hj, h, hL, hb, fu, hfu => by
    obtain ⟨fu', rfl⟩ : ∃ y, fu = y + 1 := ⟨fu - 1, by omega⟩
    rw [gj_lp_e (b := σ) (by unfold fb_X4_writeName_l3; dsimp only; exact if_pos (by decide))]
    refine tp_some ⟨smC_rf, ?_⟩
    show pg8 σ (L ++ [])
    rw [List.append_nil]
    exact h
  | j + 1, L, σ, hj, h, hL, hb, fu, hfu => by
    obtain ⟨fu', rfl⟩ : ∃ y, fu = y + 1 := ⟨fu - 1, by omega⟩
    have e8 : nI (8 * (j + 1)) + (-8) = nI (8 * j) := by
      rw [show (-8 : Int32) = 0 - nI 8 from rfl, nI_addneg (by omega)]
      congr 1
    have hbj := hb j (by omega)
    have eS : fb_X4_writeName_l3 (Int64.ofNat N) (nI (8 * j), σ) = if N / 2 ^ (8 * j) % 256 = 0 then some (.inr (nI (8 * j) + (-8), σ)) else (f_X4_put (nI (N / 2 ^ (8 * j) % 256)) σ).bind fun x => some (.inr (nI (8 * j) + (-8), x)) := by
      unfold fb_X4_writeName_l3
      dsimp only
      rw [if_neg (show ¬ nI (8 * j) < 0 from nI_nlt (b := 0) (by omega) (by omega)), sr_nat hN (by omega), a8_nat]
      by_cases q : N / 2 ^ (8 * j) % 256 = 0
      · rw [if_pos q, if_pos (by rw [q]; rfl)]
      · rw [if_neg q, if_neg (nI_ne0 (by omega) (by omega))]
    rw [e8]
    unfold dgs
    rw [show (2 : Nat) ^ 8 = 256 from rfl]
    by_cases q : N / 2 ^ (8 * j) % 256 = 0
    · rw [if_pos q] at eS
      rw [gj_lp_g eS, if_pos q]
      exact c8_nm hN j L σ (by omega) h (by omega) hb fu' (by omega)
    · rw [if_neg q] at eS
      obtain ⟨x, ex, sx, px⟩ := c8_pb h (by omega) hbj
      rw [ex] at eS
      rw [gj_lp_g eS, if_neg q]
      refine tp_mono (c8_nm hN j (L ++ [N / 2 ^ (8 * j) % 256]) x (by omega) px (by rw [List.length_append, List.length_singleton]; omega) hb fu' (by omega)) (fun z hz => ⟨smC_tr sx hz.1, ?_⟩)
      have := hz.2
      rw [List.append_assoc] at this
      exact this
theorem r9_nm {N : Nat} (hN : N < 2 ^ 62) : ∀ (j : Nat) (L : List Nat) (σ : gj_S), j ≤ 6 → pg9 σ L → L.length + j ≤ 240 → ∀ fu, j < fu → TP (gj_lp (fb_X9_writesName_l3 (Int64.ofNat N)) fu (nI (5 * j) + (-5), σ)) (fun z => smX σ z ∧ pg9 z (L ++ (dgs 5 N j).map (96 + ·)))
  | 0, L, σ, hj, h, hL, fu, hfu => by
    obtain ⟨fu', rfl⟩ : ∃ y, fu = y + 1 := ⟨fu - 1, by omega⟩
    rw [gj_lp_e (b := σ) (by unfold fb_X9_writesName_l3; dsimp only; exact if_pos (by decide))]
    refine tp_some ⟨smX_rf, ?_⟩
    show pg9 σ (L ++ [])
    rw [List.append_nil]
    exact h
  | j + 1, L, σ, hj, h, hL, fu, hfu => by
    obtain ⟨fu', rfl⟩ : ∃ y, fu = y + 1 := ⟨fu - 1, by omega⟩
    have e8 : nI (5 * (j + 1)) + (-5) = nI (5 * j) := by
      rw [show (-5 : Int32) = 0 - nI 5 from rfl, nI_addneg (by omega)]
      congr 1
    have hlt : N / 2 ^ (5 * j) % 32 < 32 := Nat.mod_lt _ (by omega)
    have eS : fb_X9_writesName_l3 (Int64.ofNat N) (nI (5 * j), σ) = if N / 2 ^ (5 * j) % 32 = 0 then some (.inr (nI (5 * j) + (-5), σ)) else (f_X9_writes (nI (96 + N / 2 ^ (5 * j) % 32)) σ).bind fun x => some (.inr (nI (5 * j) + (-5), x)) := by
      unfold fb_X9_writesName_l3
      dsimp only
      rw [if_neg (show ¬ nI (5 * j) < 0 from nI_nlt (b := 0) (by omega) (by omega)), sr_nat hN (by omega), a5_nat]
      by_cases q : N / 2 ^ (5 * j) % 32 = 0
      · rw [if_pos q, if_pos (by rw [q]; decide)]
      · rw [if_neg q, if_neg (show ¬ nI (N / 2 ^ (5 * j) % 32) ≤ 0 from nI_ge (a := 0) (Nat.pos_of_ne_zero q) (Nat.lt_trans hlt (by omega))), show (96 : Int32) = nI 96 from rfl, nI_add]
    rw [e8]
    unfold dgs
    rw [show (2 : Nat) ^ 5 = 32 from rfl]
    by_cases q : N / 2 ^ (5 * j) % 32 = 0
    · rw [if_pos q] at eS
      rw [gj_lp_g eS, if_pos q]
      exact r9_nm hN j L σ (by omega) h (by omega) fu' (by omega)
    · rw [if_neg q] at eS
      obtain ⟨x, ex, sx, px⟩ := r9_pb (x := 96 + N / 2 ^ (5 * j) % 32) h (by omega)
      rw [ex] at eS
      rw [gj_lp_g eS, if_neg q]
      refine tp_mono (r9_nm hN j (L ++ [96 + N / 2 ^ (5 * j) % 32]) x (by omega) px (by rw [List.length_append, List.length_singleton]; omega) fu' (by omega)) (fun z hz => ⟨smX_tr sx hz.1, ?_⟩)
      have := hz.2
      rw [List.append_assoc] at this
      exact this
theorem dgs_mem {e N : Nat} : ∀ j i, i < j → N / 2 ^ (e * i) % 2 ^ e ≠ 0 → N / 2 ^ (e * i) % 2 ^ e ∈ dgs e N j
  | 0, i, hi, _ => absurd hi (Nat.not_lt_zero _)
  | j + 1, i, hi, h => by
    unfold dgs
    by_cases q : i = j
    · subst q
      rw [if_neg h]
      exact List.mem_append_left _ (List.mem_singleton.mpr rfl)
    · exact List.mem_append_right _ (dgs_mem j i (by omega) h)
/-- a number's digits -/
def dec (v : Nat) : List Nat := (if 99 < v then [48 + v / 100] else []) ++ ((if 9 < v then [48 + v / 10 % 10] else []) ++ [48 + v % 10])
theorem dec_len (v : Nat) : (dec v).length ≤ 3 := by
  unfold dec
  rw [List.length_append, List.length_append]
  split <;> split <;> simp
theorem num_sk {v u fu : Nat} {σ : gj_S} (hu : 1 ≤ u) (hu2 : u ≤ 1000) (hv : v ≤ 999) (hd : v / u % 10 = 0) : gj_lp (fb_X4_writeNumber_l6 (nI v)) (fu + 1) (0, nI u, σ) = gj_lp (fb_X4_writeNumber_l6 (nI v)) fu (0, nI (u / 10), σ) := by
  have hle : v / u ≤ v := Nat.div_le_self _ _
  refine gj_lp_g ?_
  unfold fb_X4_writeNumber_l6
  dsimp only
  rw [if_neg (show ¬ nI u < 1 from nI_nlt (b := 1) hu (by omega)), if_pos (nI_ne0 (by omega) (by omega)), if_pos rfl, nI_div (by omega) (by omega), nI_rem (by omega), hd, if_pos (show nI 0 ≤ 0 by decide)]
  dsimp only [Option.bind_some]
  rw [if_pos rfl, show (10 : Int32) = nI 10 from rfl, nI_div (by omega) (by omega)]
theorem num_pt {v u fu : Nat} {b : Int32} {σ x : gj_S} (hu : 1 ≤ u) (hu2 : u ≤ 1000) (hv : v ≤ 999) (hb : b = 1 ∨ (b = 0 ∧ v / u % 10 ≠ 0)) (ex : f_X4_put (nI (48 + v / u % 10)) σ = some x) : gj_lp (fb_X4_writeNumber_l6 (nI v)) (fu + 1) (b, nI u, σ) = gj_lp (fb_X4_writeNumber_l6 (nI v)) fu (1, nI (u / 10), x) := by
  have hle : v / u ≤ v := Nat.div_le_self _ _
  have hlt : v / u % 10 < 10 := Nat.mod_lt _ (by omega)
  refine gj_lp_g ?_
  unfold fb_X4_writeNumber_l6
  dsimp only
  rw [if_neg (show ¬ nI u < 1 from nI_nlt (b := 1) hu (by omega)), if_pos (nI_ne0 (by omega) (by omega)), nI_div (by omega) (by omega), nI_rem (by omega)]
  have e1 : (if b = 0 then (if nI (v / u % 10) ≤ 0 then some (0 : Int32) else some (1 : Int32)) else some (1 : Int32)) = some 1 := by
    rcases hb with rfl | ⟨rfl, hd⟩
    · rfl
    · rw [if_pos rfl, if_neg (show ¬ nI (v / u % 10) ≤ 0 from nI_ge (a := 0) (Nat.pos_of_ne_zero hd) (by omega))]
  rw [e1]
  dsimp only [Option.bind_some]
  rw [if_neg (show ¬ (1 : Int32) = 0 by decide), show (48 : Int32) = nI 48 from rfl, nI_add, ex]
  dsimp only [Option.bind_some]
  rw [show (10 : Int32) = nI 10 from rfl, nI_div (by omega) (by omega)]
theorem num_e {v : Nat} {fu : Nat} {b : Int32} {σ : gj_S} : gj_lp (fb_X4_writeNumber_l6 (nI v)) (fu + 1) (b, nI 0, σ) = some σ := gj_lp_e (by
  unfold fb_X4_writeNumber_l6
  dsimp only
  exact if_pos (by decide))
theorem c8_num {v : Nat} {L : List Nat} {σ : gj_S} (h1 : 1 ≤ v) (hv : v ≤ 999) (h : pg8 σ L) (hL : L.length + 3 ≤ 192) : TP (f_X4_writeNumber (nI v) σ) (fun z => smC 168 169 σ z ∧ pg8 z (L ++ dec v)) := by
  have hm : v % 10 < 10 := Nat.mod_lt _ (by omega)
  have hm2 : v / 10 % 10 < 10 := Nat.mod_lt _ (by omega)
  unfold f_X4_writeNumber dec
  rw [show (5000 : Nat) = 4995 + 1 + 1 + 1 + 1 + 1 from rfl, show (1000 : Int32) = nI 1000 from rfl, num_sk (by omega) (by omega) hv (by omega)]
  rw [show (1000 : Nat) / 10 = 100 from rfl]
  have hd1 : v / 1 % 10 = v % 10 := by rw [Nat.div_one]
  by_cases q : 99 < v
  · rw [if_pos q, if_pos (show 9 < v by omega)]
    have e100 : v / 100 % 10 = v / 100 := by omega
    obtain ⟨x, ex, sx, px⟩ := c8_pb (x := 48 + v / 100 % 10) h (by omega) (by omega)
    rw [num_pt (by omega) (by omega) hv (.inr ⟨rfl, by omega⟩) ex, show (100 : Nat) / 10 = 10 from rfl]
    obtain ⟨y, ey, sy, py⟩ := c8_pb (x := 48 + v / 10 % 10) px (by rw [List.length_append, List.length_singleton]; omega) (by omega)
    rw [num_pt (by omega) (by omega) hv (.inl rfl) ey, show (10 : Nat) / 10 = 1 from rfl]
    obtain ⟨z, ez, sz, pz⟩ := c8_pb (x := 48 + v / 1 % 10) py (by rw [List.length_append, List.length_append, List.length_singleton, List.length_singleton]; omega) (by omega)
    rw [num_pt (by omega) (by omega) hv (.inl rfl) ez, show (1 : Nat) / 10 = 0 from rfl, num_e]
    refine tp_some ⟨smC_tr sx (smC_tr sy sz), ?_⟩
    rw [e100, hd1, List.append_assoc, List.append_assoc] at pz
    exact pz
  · rw [if_neg q, num_sk (by omega) (by omega) hv (by omega), show (100 : Nat) / 10 = 10 from rfl, List.nil_append]
    by_cases q2 : 9 < v
    · rw [if_pos q2]
      obtain ⟨y, ey, sy, py⟩ := c8_pb (x := 48 + v / 10 % 10) h (by omega) (by omega)
      rw [num_pt (by omega) (by omega) hv (.inr ⟨rfl, by omega⟩) ey, show (10 : Nat) / 10 = 1 from rfl]
      obtain ⟨z, ez, sz, pz⟩ := c8_pb (x := 48 + v / 1 % 10) py (by rw [List.length_append, List.length_singleton]; omega) (by omega)
      rw [num_pt (by omega) (by omega) hv (.inl rfl) ez, show (1 : Nat) / 10 = 0 from rfl, num_e]
      refine tp_some ⟨smC_tr sy sz, ?_⟩
      rw [hd1, List.append_assoc] at pz
      exact pz
    · rw [if_neg q2, num_sk (by omega) (by omega) hv (by omega), show (10 : Nat) / 10 = 1 from rfl, List.nil_append]
      obtain ⟨z, ez, sz, pz⟩ := c8_pb (x := 48 + v / 1 % 10) h (by omega) (by omega)
      rw [num_pt (by omega) (by omega) hv (.inr ⟨rfl, by omega⟩) ez, show (1 : Nat) / 10 = 0 from rfl, num_e]
      refine tp_some ⟨sz, ?_⟩
      rw [hd1] at pz
      exact pz
theorem r9_num {v : Nat} {L : List Nat} {σ : gj_S} (hv : v ≤ 999) (h : pg9 σ L) (hL : L.length + 3 ≤ 240) : TP (f_X9_writesNumber (nI v) σ) (fun z => smX σ z ∧ pg9 z (L ++ dec v)) := by
  unfold f_X9_writesNumber dec
  rw [← List.append_assoc, ← List.append_assoc]
  refine tp_bind (P := fun z => smX σ z ∧ pg9 z (L ++ (if 99 < v then [48 + v / 100] else []))) ?_ (fun x hx => ?_)
  · by_cases q : 99 < v
    · rw [if_pos q]
      refine tp_f (nI_ge (a := 99) q (by omega)) ?_
      rw [show (100 : Int32) = nI 100 from rfl, nI_div (by omega) (by omega), show (48 : Int32) = nI 48 from rfl, nI_add]
      exact tp_bind (r9_pb h (by omega)) (fun z hz => tp_some hz)
    · rw [if_neg q, List.append_nil]
      exact tp_t (nI_le (b := 99) (by omega) (by omega)) (tp_some ⟨smX_rf, h⟩)
  · have hx3 : (L ++ (if 99 < v then [48 + v / 100] else [])).length ≤ L.length + 1 := by
      rw [List.length_append]
      split <;> simp
    generalize L ++ (if 99 < v then [48 + v / 100] else []) = L1 at hx hx3 ⊢
    obtain ⟨sx, px⟩ := hx
    refine tp_bind (P := fun z => smX x z ∧ pg9 z (L1 ++ (if 9 < v then [48 + v / 10 % 10] else []))) ?_ (fun y hy => ?_)
    · by_cases q : 9 < v
      · rw [if_pos q]
        refine tp_f (nI_ge (a := 9) q (by omega)) ?_
        rw [show nI v / (10 : Int32) = nI (v / 10) from nI_div (b := 10) (by omega) (by omega), nI_rem (by omega), show (48 : Int32) = nI 48 from rfl, nI_add]
        exact tp_bind (r9_pb px (by omega)) (fun z hz => tp_some hz)
      · rw [if_neg q, List.append_nil]
        exact tp_t (nI_le (b := 9) (by omega) (by omega)) (tp_some ⟨smX_rf, px⟩)
    · have hy3 : (L1 ++ (if 9 < v then [48 + v / 10 % 10] else [])).length ≤ L1.length + 1 := by
        rw [List.length_append]
        split <;> simp
      generalize L1 ++ (if 9 < v then [48 + v / 10 % 10] else []) = L2 at hy hy3 ⊢
      obtain ⟨sy, py⟩ := hy
      rw [nI_rem (by omega), show (48 : Int32) = nI 48 from rfl, nI_add]
      exact tp_bind (r9_pb py (by omega)) (fun z hz => tp_some ⟨smX_tr sx (smX_tr sy hz.1), hz.2⟩)
/-- one route's line -/
def wst (nm : Nat → List Nat) (s : Nat → Int32) (w : Nat) (L : List Nat) : List Nat := if s (50 + w) = 0 then L else (((L ++ (nm w).map (96 + ·)) ++ [32]) ++ dec (fl s w)) ++ [59]
theorem wst_len {nm : Nat → List Nat} {s : Nat → Int32} {r : Nat} (h : ∀ w, w < r → (nm w).length ≤ 6) : ∀ k, k ≤ r → (itF (wst nm s) k []).length ≤ 11 * k
  | 0, _ => Nat.le_refl _
  | k + 1, hk => by
    have ih := wst_len (s := s) h k (by omega)
    have h6 := h k (by omega)
    have hd := dec_len (fl s k)
    show (wst nm s k (itF (wst nm s) k [])).length ≤ _
    generalize itF (wst nm s) k [] = M at ih ⊢
    unfold wst
    split
    · omega
    · simp only [List.length_append, List.length_map, List.length_singleton]
      omega
theorem c8_wN {ls L : List Nat} {σ : gj_S} (hls : ∀ c ∈ ls, 1 ≤ c ∧ c ≤ 26) (hl : ls.length ≤ 6) (h : pg8 σ L) (hL : L.length + 6 ≤ 192) : TP (f_X4_writeName (pk8 ls) σ) (fun z => smC 168 169 σ z ∧ pg8 z (L ++ ls.map (96 + ·))) := by
  have hV := Vn_lt (e := 8) (o := 96) ls (fun c hc => by have := hls c hc; omega)
  have hp : 2 ^ (8 * ls.length) ≤ 2 ^ 48 := Nat.pow_le_pow_right (by omega) (by omega)
  have hdg := dgs_V (e := 8) (o := 96) ls (fun c hc => by have := hls c hc; omega) 6 hl
  unfold f_X4_writeName
  rw [pk8_V ls hls hl, show (40 : Int32) = nI (8 * 6) + (-8) by decide]
  refine tp_bind (c8_nm (N := Vn 8 96 ls) (by omega) 6 L σ (by omega) h hL (fun i hi => ?_) 5000 (by omega)) (fun z hz => ?_)
  · by_cases q : Vn 8 96 ls / 2 ^ (8 * i) % 256 = 0
    · omega
    · have hm := dgs_mem (e := 8) (N := Vn 8 96 ls) 6 i hi q
      rw [hdg] at hm
      obtain ⟨c, hc, e⟩ := List.mem_map.mp hm
      have := hls c hc
      rw [show (2 : Nat) ^ 8 = 256 from rfl] at e
      omega
  · rw [hdg] at hz
    exact tp_some hz
theorem r9_wN {ls L : List Nat} {σ : gj_S} (hls : ∀ c ∈ ls, 1 ≤ c ∧ c ≤ 26) (hl : ls.length ≤ 6) (h : pg9 σ L) (hL : L.length + 6 ≤ 240) : TP (f_X9_writesName (pk5 ls) σ) (fun z => smX σ z ∧ pg9 z (L ++ ls.map (96 + ·))) := by
  have hV := Vn_lt (e := 5) (o := 0) ls (fun c hc => by have := hls c hc; omega)
  have hp : 2 ^ (5 * ls.length) ≤ 2 ^ 30 := Nat.pow_le_pow_right (by omega) (by omega)
  have hdg := dgs_V (e := 5) (o := 0) ls (fun c hc => by have := hls c hc; omega) 6 hl
  unfold f_X9_writesName
  rw [pk5_V ls hls hl, show (25 : Int32) = nI (5 * 6) + (-5) by decide]
  refine tp_bind (r9_nm (N := Vn 5 0 ls) (by omega) 6 L σ (by omega) h hL 5000 (by omega)) (fun z hz => ?_)
  rw [hdg, List.map_map] at hz
  have e : ((fun x => 96 + x) ∘ (fun x => 0 + x)) = (fun x : Nat => 96 + x) := funext fun x => by
    show 96 + (0 + x) = 96 + x
    omega
  rw [e] at hz
  exact tp_some hz
theorem c8_sheet {n r F : Nat} {b0 e0 : Nat → Nat} {s : Nat → Int32} {nm : Nat → List Nat} {σ : gj_S} (hg : gS n r b0 e0) (hp : pm n r b0 e0 s 17 σ) (hf : fP n r F s) (hnm : ∀ w, w < r → (nm w).length ≤ 6 ∧ (∀ c ∈ nm w, 1 ≤ c ∧ c ≤ 26) ∧ σ.2.1 15 w = pk8 (nm w)) : TP (f_X4_write σ) (fun z => smC 168 169 σ z ∧ pg8 z (itF (wst nm s) r [])) := by
  have hn := hg.1
  have hr := hg.2.1
  have hlen := wst_len (s := s) (fun w hw => (hnm w hw).1)
  unfold f_X4_write
  refine tp_bind (tp_lp (I := fun a => ∃ k, k ≤ r ∧ a.1 = nI k ∧ smC 168 169 σ a.2 ∧ pg8 a.2 (itF (wst nm s) k [])) (J := fun z => smC 168 169 σ z ∧ pg8 z (itF (wst nm s) r [])) (fun a => r - a.1.toNatClampNeg) ?_ 5000 (0, gj_sI σ 168 (upd (σ.1 168) 1 0)) ⟨0, by omega, rfl, smC_I (by omega) (by omega) smC_rf, ?_⟩ (by dsimp only; omega)) (fun z hz => tp_some hz)
  · rintro ⟨i, τ⟩ ⟨k, h1, h2, h3, h4⟩
    dsimp only at h2 h3 h4
    subst h2
    have hp4 := smC_pm h3 (.inl (by omega)) hp
    have hl := hlen k h1
    have hm : r - (nI (k + 1)).toNatClampNeg < r - (nI k).toNatClampNeg ∨ k = r := by
      rw [nI_clamp (by omega), nI_clamp (by omega)]
      omega
    unfold fb_X4_write_l7
    dsimp only
    rw [hp4.2.1]
    by_cases e : k = r
    · subst e
      exact tp_t (nI_le (by omega) (by omega)) (tp_some ⟨h3, h4⟩)
    · have hk : k < r := by omega
      have hm' : r - (nI (k + 1)).toNatClampNeg < r - (nI k).toNatClampNeg := by omega
      have g24 : gj_in (nI k) 24 := gi (by omega) (by omega)
      have g16 : gj_in (nI k) 16 := gi (by omega) (by omega)
      have ck : (nI k).toNatClampNeg = k := nI_clamp (by omega)
      obtain ⟨f, h, f1, f2, f3, f4, -⟩ := hf.1 k hk
      have e23 : ∀ τ' : gj_S, smC 168 169 σ τ' → τ'.1 23 k = nI f := fun τ' ht' => by
        have := (hp.2.2.2.2.2 k (by omega)).2.2.2.2.1
        rw [ht'.1 23 (by omega), show σ.1 23 k = s (50 + k) from this, f1]
      have efl : fl s k = f := by
        unfold fl
        rw [f1, nI_clamp (by omega)]
      obtain ⟨l1, l2, l3⟩ := hnm k hk
      refine tp_f (nI_ge (by omega) (by omega)) (tp_f (nI_ge (b := 16) (by omega) (by omega)) (tp_t g24 ?_))
      simp only [ck]
      rw [e23 τ h3]
      by_cases q : f = 0
      · subst q
        refine tp_t (by decide) (tp_some ⟨⟨k + 1, by omega, nI_1 _, h3, ?_⟩, by dsimp only; rw [nI_1]; rw [ck] at hm'; exact hm'⟩)
        have e0 : wst nm s k (itF (wst nm s) k []) = itF (wst nm s) k [] := if_pos f1
        show pg8 τ (wst nm s k (itF (wst nm s) k []))
        rw [e0]
        exact h4
      · refine tp_f (show ¬ nI f ≤ 0 from nI_ge (a := 0) (by omega) (by omega)) (tp_t g16 ?_)
        rw [h3.2, l3]
        refine tp_bind (c8_wN l2 l1 h4 (by omega)) (fun x1 hx1 => ?_)
        refine tp_bind (c8_pb (x := 32) hx1.2 (by rw [List.length_append, List.length_map]; omega) (by omega)) (fun x2 hx2 => ?_)
        have t2 := smC_tr h3 (smC_tr hx1.1 hx2.1)
        refine tp_t g24 ?_
        rw [e23 x2 t2]
        refine tp_bind (c8_num (by omega) (by omega) hx2.2 (by simp only [List.length_append, List.length_map, List.length_singleton]; omega)) (fun x3 hx3 => ?_)
        have hd := dec_len f
        refine tp_bind (c8_pb (x := 59) hx3.2 (by simp only [List.length_append, List.length_map, List.length_singleton]; omega) (by omega)) (fun x4 hx4 => ?_)
        refine tp_some ⟨⟨k + 1, by omega, nI_1 _, smC_tr t2 (smC_tr hx3.1 hx4.1), ?_⟩, by dsimp only; rw [nI_1]; rw [ck] at hm'; exact hm'⟩
        have e0 : wst nm s k (itF (wst nm s) k []) = (((itF (wst nm s) k [] ++ (nm k).map (96 + ·)) ++ [32]) ++ dec f) ++ [59] := by
          rw [← efl]
          exact if_neg (by rw [f1]; exact nI_ne0 (by omega) (by omega))
        show pg8 x4 (wst nm s k (itF (wst nm s) k []))
        rw [e0]
        exact hx4.2
  · refine ⟨?_, fun i hi => absurd hi (Nat.not_lt_zero _)⟩
    dsimp only
    rw [sI_eq]
    rfl
theorem r9_sheet {n r F : Nat} {b0 e0 : Nat → Nat} {s : Nat → Int32} {nm : Nat → List Nat} {σ : gj_S} {b1 : Int32} (hS : rS n r b0 e0 σ) (hs : σ.1 198 = s) (hf : fP n r F s) (hnm : ∀ w, w < r → (nm w).length ≤ 6 ∧ (∀ c ∈ nm w, 1 ≤ c ∧ c ≤ 26) ∧ σ.2.1 192 (8 + w) = pk5 (nm w)) (h0 : σ.1 188 40 = 0) : TP (gj_lp (fb_X9_sheet_l19 b1) 5000 (0, σ)) (fun z => smX σ z ∧ pg9 z (itF (wst nm s) r [])) := by
  have hn := hS.1
  have hr := hS.2.1
  have hlen := wst_len (s := s) (fun w hw => (hnm w hw).1)
  refine tp_lp (I := fun a => ∃ k, k ≤ r ∧ a.1 = nI k ∧ smX σ a.2 ∧ pg9 a.2 (itF (wst nm s) k [])) (fun a => r - a.1.toNatClampNeg) ?_ 5000 (0, σ) ⟨0, by omega, rfl, smX_rf, h0, fun i hi => absurd hi (Nat.not_lt_zero _)⟩ (by dsimp only; omega)
  rintro ⟨i, τ⟩ ⟨k, h1, h2, h3, h4⟩
  dsimp only at h2 h3 h4
  subst h2
  have hS4 := smX_S h3 hS
  have hl := hlen k h1
  have hm : r - (nI (k + 1)).toNatClampNeg < r - (nI k).toNatClampNeg ∨ k = r := by
    rw [nI_clamp (by omega), nI_clamp (by omega)]
    omega
  unfold fb_X9_sheet_l19
  dsimp only
  refine tp_t (gj0 (by decide)) ?_
  rw [rd0, hS4.2.2.2.1]
  by_cases e : k = r
  · subst e
    exact tp_t (nI_le (by omega) (by omega)) (tp_some ⟨h3, h4⟩)
  · have hk : k < r := by omega
    have hm' : r - (nI (k + 1)).toNatClampNeg < r - (nI k).toNatClampNeg := by omega
    have g50 : (50 : Int32) + nI k = nI (50 + k) := by rw [show (50 : Int32) = nI 50 from rfl, nI_add]
    have g8 : (8 : Int32) + nI k = nI (8 + k) := by rw [show (8 : Int32) = nI 8 from rfl, nI_add]
    have i50 : gj_in (nI (50 + k)) 180 := gi (by omega) (by omega)
    have i8 : gj_in (nI (8 + k)) 48 := gi (by omega) (by omega)
    obtain ⟨f, h, f1, f2, f3, f4, -⟩ := hf.1 k hk
    have e198 : ∀ τ' : gj_S, smX σ τ' → τ'.1 198 (50 + k) = nI f := fun τ' ht' => by rw [smX_s ht', hs, f1]
    have efl : fl s k = f := by
      unfold fl
      rw [f1, nI_clamp (by omega)]
    obtain ⟨l1, l2, l3⟩ := hnm k hk
    refine tp_f (nI_ge (by omega) (by omega)) ?_
    simp only [g50, g8, nI_clamp (show 50 + k < 2 ^ 31 by omega), nI_clamp (show 8 + k < 2 ^ 31 by omega)]
    refine tp_t i50 ?_
    rw [e198 τ h3]
    by_cases q : f = 0
    · subst q
      refine tp_t rfl (tp_some ⟨⟨k + 1, by omega, nI_1 _, h3, ?_⟩, by dsimp only; rw [nI_1]; exact hm'⟩)
      have e0 : wst nm s k (itF (wst nm s) k []) = itF (wst nm s) k [] := if_pos f1
      show pg9 τ (wst nm s k (itF (wst nm s) k []))
      rw [e0]
      exact h4
    · refine tp_f (nI_ne0 (by omega) (by omega)) (tp_t i8 ?_)
      rw [h3.2.2, l3]
      refine tp_bind (r9_wN l2 l1 h4 (by omega)) (fun x1 hx1 => ?_)
      refine tp_bind (r9_pb (x := 32) hx1.2 (by rw [List.length_append, List.length_map]; omega)) (fun x2 hx2 => ?_)
      have t2 := smX_tr h3 (smX_tr hx1.1 hx2.1)
      refine tp_t i50 ?_
      rw [e198 x2 t2]
      refine tp_bind (r9_num (by omega) hx2.2 (by simp only [List.length_append, List.length_map, List.length_singleton]; omega)) (fun x3 hx3 => ?_)
      have hd := dec_len f
      refine tp_bind (r9_pb (x := 59) hx3.2 (by simp only [List.length_append, List.length_map, List.length_singleton]; omega)) (fun x4 hx4 => ?_)
      refine tp_some ⟨⟨k + 1, by omega, nI_1 _, smX_tr t2 (smX_tr hx3.1 hx4.1), ?_⟩, by dsimp only; rw [nI_1]; exact hm'⟩
      have e0 : wst nm s k (itF (wst nm s) k []) = (((itF (wst nm s) k [] ++ (nm k).map (96 + ·)) ++ [32]) ++ dec f) ++ [59] := by
        rw [← efl]
        exact if_neg (by rw [f1]; exact nI_ne0 (by omega) (by omega))
      show pg9 x4 (wst nm s k (itF (wst nm s) k []))
      rw [e0]
      exact hx4.2
theorem k_27 {K : Nat} {σ : gj_S} (hR : REL K σ) (c1 c2 c3 c4 c5 : Int32) : ∃ τ, gl_27 c1 c2 c3 c4 c5 σ = some τ ∧ REL (K + 100) τ := by
  obtain ⟨n, r, b0, e0, hS, ⟨hB1, up, par, rk, dp, pr, hT, ht⟩, -, -, -, hF⟩ := id hR
  obtain ⟨P, hPK, hP, hf, hp⟩ := id hB1
  have hn := hS.1
  have hr := hS.2.1
  have hg := rS_g hS
  have em : (-1 : Int32).toInt = -1 := by decide
  by_cases q : -1 ≤ c1
  · obtain ⟨nm, hnm⟩ : ∃ nm : Nat → List Nat, ∀ w, w < r → (nm w).length ≤ 6 ∧ (∀ c ∈ nm w, 1 ≤ c ∧ c ≤ 26) ∧ σ.2.1 15 w = pk8 (nm w) ∧ σ.2.1 192 (8 + w) = pk5 (nm w) := by
      have : ∀ w, ∃ ls : List Nat, w < r → ls.length ≤ 6 ∧ (∀ c ∈ ls, 1 ≤ c ∧ c ≤ 26) ∧ σ.2.1 15 w = pk8 ls ∧ σ.2.1 192 (8 + w) = pk5 ls := fun w => by
        by_cases hw : w < r
        · obtain ⟨ls, -, h2, h3, h4, h5⟩ := hF w hw
          exact ⟨ls, fun _ => ⟨h2, h3, h4, h5⟩⟩
        · exact ⟨[], fun h => absurd h hw⟩
      exact ⟨fun w => (this w).choose, fun w hw => (this w).choose_spec hw⟩
    have hlen := wst_len (s := σ.1 198) (fun w hw => (hnm w hw).1) r (Nat.le_refl _)
    obtain ⟨x8, e8, s8, p8⟩ := c8_sheet hg hp.1 hf (fun w hw => ⟨(hnm w hw).1, (hnm w hw).2.1, (hnm w hw).2.2.1⟩)
    have h18 : smX x8 (gj_sI (gj_sI x8 188 (upd (x8.1 188) 0 0)) 188 (upd ((gj_sI x8 188 (upd (x8.1 188) 0 0)).1 188) 40 0)) := smX_tr smX_t (smX_O (by omega))
    have hS8 : rS n r b0 e0 x8 := smC_S s8 (.inr (by omega)) hS
    have e198 : x8.1 198 = σ.1 198 := s8.1 198 (by omega)
    have h40 : (gj_sI (gj_sI x8 188 (upd (x8.1 188) 0 0)) 188 (upd ((gj_sI x8 188 (upd (x8.1 188) 0 0)).1 188) 40 0)).1 188 40 = 0 := by
      rw [sI_eq]
      rfl
    have ref := r9_sheet (b1 := c1) (nm := nm) (smX_S h18 hS8) (by rw [smX_s h18, e198]) hf (fun w hw => ⟨(hnm w hw).1, (hnm w hw).2.1, by rw [h18.2.2, s8.2]; exact (hnm w hw).2.2.2⟩) h40
    generalize itF (wst nm (σ.1 198)) r [] = M at p8 hlen ref
    have fr8 : frK σ x8 := frK_C s8 (fun k k1 k2 => by unfold relC; omega)
    obtain ⟨z1, ez, sz, pz⟩ := ref
    have frz : frK σ z1 := frK_tr fr8 (frK_X (smX_tr h18 sz))
    by_cases q1 : c1 = -1
    · refine rc_S (v := nI M.length) (s1 := x8) ?_ ?_ hR
      · unfold f_X8_sheet
        rw [if_pos q, e8]
        dsimp only [Option.bind_some]
        rw [if_pos q1, p8.1]
      · unfold f_X9_sheet
        refine tp_t q (tp_beq ez (tp_t q1 (tp_some ⟨pz.1, frz⟩)))
    · have hlo : 0 ≤ c1.toInt := by
        rw [i32_le_iff, em] at q
        have : c1.toInt ≠ -1 := fun e => q1 (Int32.toInt_inj.mp (by rw [e, em]))
        omega
      have hhi := Int32.toInt_lt c1
      obtain ⟨i, hi, rfl⟩ : ∃ d, d < 2 ^ 31 ∧ c1 = nI d := inR_of (decide_eq_true ⟨hlo, by omega⟩)
      by_cases q2 : M.length ≤ i
      · refine rc_S (v := -2) (s1 := x8) ?_ ?_ hR
        · unfold f_X8_sheet
          rw [if_pos q, e8]
          dsimp only [Option.bind_some]
          rw [if_neg q1, p8.1, if_pos (nI_le q2 hi)]
        · unfold f_X9_sheet
          refine tp_t q (tp_beq ez (tp_f q1 (tp_t (by rw [pz.1]; exact nI_le q2 hi) (tp_some ⟨rfl, frz⟩))))
      · refine rc_S (v := pgE M i) (s1 := x8) ?_ ?_ hR
        · unfold f_X8_sheet
          rw [if_pos q, e8]
          dsimp only [Option.bind_some]
          rw [if_neg q1, p8.1, if_neg (nI_ge (by omega) (by omega)), if_pos (gi (by omega) (by omega)), nI_clamp hi, p8.2 i (by omega)]
        · unfold f_X9_sheet
          refine tp_t q (tp_beq ez (tp_f q1 (tp_f (by rw [pz.1]; exact nI_ge (by omega) (by omega)) (tp_t (gi (by omega) (by omega)) (tp_some ⟨?_, frz⟩)))))
          dsimp only
          rw [nI_clamp hi, pz.2 i (by omega)]
  · have h0 : smX σ (gj_sI σ 188 (upd (σ.1 188) 0 0)) := smX_t
    refine rc_S (v := -1) (s1 := σ) ?_ ?_ hR
    · unfold f_X8_sheet
      rw [if_neg q]
    · unfold f_X9_sheet
      exact tp_f q (tp_some ⟨rfl, frK_X h0⟩)
