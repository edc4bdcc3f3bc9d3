def am_ixt : List (List (List Nat)) := [[[47, 48, 49, 50, 51, 0, 0]], [[16, 0, 0, 24, 17, 18, 19, 20, 21, 22, 23, 0, 0, 0, 0, 0], [25, 0, 0, 33, 26, 27, 28, 29, 30, 31, 32, 0, 0, 0, 0, 0], [34, 0, 0, 42, 35, 36, 37, 38, 39, 40, 41, 0, 0, 0, 0, 0]], [[52, 53, 54, 0, 0, 0]], [[4, 5, 6, 7, 8, 0, 0], [9, 10, 11, 12, 13, 0, 0]], [[43, 44, 45, 46]], [[56, 57, 0, 0, 0], [58, 59, 0, 0, 0], [60, 61, 0, 0, 0], [62, 63, 0, 0, 0], [64, 65, 0, 0, 0], [66, 67, 0, 0, 0]], [[1, 2, 3, 0]], [[14, 15, 0, 0, 0]], [[0, 0, 0, 0, 0, 0, 0, 0, 0, 0, 0, 55, 0]], [[68, 69, 70, 71, 72, 0, 0, 0, 73, 74, 75, 76, 77, 0, 0, 78, 79, 0, 80, 0, 0, 0, 0, 0, 0, 81, 0, 0, 0, 82, 83, 84, 85, 86, 87, 0, 0, 0, 0, 0, 88, 89, 90, 91, 92, 0, 93, 94, 0, 0, 0, 95, 96, 97, 98]]]
def am_ix (c o j : Nat) : Nat := ((am_ixt.getD c []).getD o []).getD j 0
def am_tr : List (Nat × Nat × Nat) := [(8, 0, 0), (6, 0, 0), (6, 0, 1), (6, 0, 2), (3, 0, 0), (3, 0, 1), (3, 0, 2), (3, 0, 3), (3, 0, 4), (3, 1, 0), (3, 1, 1), (3, 1, 2), (3, 1, 3), (3, 1, 4), (7, 0, 0), (7, 0, 1), (1, 0, 0), (1, 0, 4), (1, 0, 5), (1, 0, 6), (1, 0, 7), (1, 0, 8), (1, 0, 9), (1, 0, 10), (1, 0, 3), (1, 1, 0), (1, 1, 4), (1, 1, 5), (1, 1, 6), (1, 1, 7), (1, 1, 8), (1, 1, 9), (1, 1, 10), (1, 1, 3), (1, 2, 0), (1, 2, 4), (1, 2, 5), (1, 2, 6), (1, 2, 7), (1, 2, 8), (1, 2, 9), (1, 2, 10), (1, 2, 3), (4, 0, 0), (4, 0, 1), (4, 0, 2), (4, 0, 3), (0, 0, 0), (0, 0, 1), (0, 0, 2), (0, 0, 3), (0, 0, 4), (2, 0, 0), (2, 0, 1), (2, 0, 2), (8, 0, 11), (5, 0, 0), (5, 0, 1), (5, 1, 0), (5, 1, 1), (5, 2, 0), (5, 2, 1), (5, 3, 0), (5, 3, 1), (5, 4, 0), (5, 4, 1), (5, 5, 0), (5, 5, 1), (9, 0, 0), (9, 0, 1), (9, 0, 2), (9, 0, 3), (9, 0, 4), (9, 0, 8), (9, 0, 9), (9, 0, 10), (9, 0, 11), (9, 0, 12), (9, 0, 15), (9, 0, 16), (9, 0, 18), (9, 0, 25), (9, 0, 29), (9, 0, 30), (9, 0, 31), (9, 0, 32), (9, 0, 33), (9, 0, 34), (9, 0, 40), (9, 0, 41), (9, 0, 42), (9, 0, 43), (9, 0, 44), (9, 0, 46), (9, 0, 47), (9, 0, 51), (9, 0, 52), (9, 0, 53), (9, 0, 54)]
def s0F (c _o k : Nat) : Int32 := if c = 7 ∧ k = 3 then (-1) else if c = 5 ∧ k = 2 then (-2) else if c = 5 ∧ k = 3 then (-1) else if c = 9 ∧ k = 18 then (-1) else 0
def s0A (c _o k : Nat) : Nat → Int32 := if c = 1 ∧ k = 8 then f_who else if c = 1 ∧ k = 2 then f_two else if c = 9 ∧ k = 7 then f_two else if c = 9 ∧ k = 14 then f_who else if c = 9 ∧ k = 50 then f_m1 else fun _ => 0
def σ0 : AS := (s0F, s0A, fun _ _ _ _ => 0)
def ct_as (h0 : Nat) (u : Nat → Nat) (h1 : Nat) (v : Nat → Nat) : List Nat := [h0, (u 0), (u 1), (u 2), (u 3), (u 4), (u 5), (u 6), (u 7), (u 8), (u 9), (u 10), (u 11), (u 12), (u 13), (u 14), (u 15), (u 16), (u 17), (u 18), (u 19), (u 20), (u 21), (u 22), (u 23), (u 24), (u 25), (u 26), (u 27), (u 28), (u 29), (u 30), (u 31), (u 32), (u 33), (u 34), (u 35), (u 36), (u 37), (u 38), (u 39), (u 40), (u 41), (u 42), (u 43), (u 44), (u 45), (u 46), (u 47), (u 48), (u 49), (u 50), (u 51), (u 52), (u 53), (u 54), (u 55), (u 56), (u 57), (u 58), (u 59), (u 60), (u 61), (u 62), (u 63), (u 64), (u 65), (u 66), h1, (v 0), (v 1), (v 2), (v 3), (v 4), (v 5), (v 6), (v 7), (v 8), (v 9), (v 10), (v 11), (v 12), (v 13), (v 14), (v 15), (v 16), (v 17), (v 18), (v 19), (v 20), (v 21), (v 22), (v 23), (v 24), (v 25), (v 26), (v 27), (v 28), (v 29)]
def ct_ws (c3 : ct_C) (h0 : Nat) (u : Nat → Nat) (h1 : Nat) (v : Nat → Nat) : va_W := WC_X8 c3 h0 u ++ WC_X9 c3 h1 v
def ct_cx (D : va_G) (c3 : ct_C) (as : List Nat) (t0 t1 : Nat) (A : Nat → Prop) : CX := (D, (fun c o j => if c = 10 then (if j = 1 then t0 else t1) else as.getD (am_ix c o j) 0), A, c3.1, c3.2.1, c3.2.2)
theorem ct_as_eq (c3 : ct_C) (h0 : Nat) (u : Nat → Nat) (h1 : Nat) (v : Nat → Nat) : (ct_ws c3 h0 u h1 v).map (fun q => q.1) = ct_as h0 u h1 v := rfl
abbrev ct_okb (c o j : Nat) : Bool := Nat.blt o (am_cnt c) && (Nat.beq j 0 || (Nat.blt (j - 1) (am_nf c) && am_isA c (j - 1)))
theorem ct_ok_b {c o j : Nat} (h : am_ok c o j) : ct_okb c o j = true := by
  obtain ⟨h1, h2⟩ := h
  have e1 : Nat.blt o (am_cnt c) = true := Nat.ble_eq.mpr h1
  rcases h2 with h2 | ⟨k, h2, h3, h4⟩
  · subst h2; simp [ct_okb, e1]
  · subst h2
    have e3 : Nat.blt k (am_nf c) = true := Nat.ble_eq.mpr h3
    simp [ct_okb, e1, e3, h4]
theorem ct_tr_b : ((List.range 10).all fun c => (List.range 6).all fun o => (List.range 55).all fun j => !ct_okb c o j || decide (am_tr[am_ix c o j]? = some (c, o, j))) = true := by decide +kernel
theorem ct_tr_all (c : Nat) (hc : c < 10) (o : Nat) (ho : o < 6) (j : Nat) (hj : j < 55) (h : ct_okb c o j = true) : am_tr[am_ix c o j]? = some (c, o, j) := by
  have h1 := List.all_eq_true.mp ct_tr_b c (List.mem_range.mpr hc)
  have h2 := List.all_eq_true.mp h1 o (List.mem_range.mpr ho)
  have h3 := List.all_eq_true.mp h2 j (List.mem_range.mpr hj)
  rw [h] at h3
  simpa using h3
theorem ct_lens : ∀ c, c < 10 → am_cnt c ≤ 6 ∧ am_nf c ≤ 54 := by decide +kernel
theorem ct_cnt0 {c : Nat} (h : 10 ≤ c) : am_cnt c = 0 := by
  show ([1, 3, 1, 2, 1, 6, 1, 1, 1, 1] : List Nat).getD c 0 = 0
  rw [List.getD_eq_getElem?_getD, List.getElem?_eq_none h]
  rfl
theorem ct_tr {c o j : Nat} (h : am_ok c o j) : c < 10 ∧ am_tr[am_ix c o j]? = some (c, o, j) := by
  have hc : c < 10 := by
    refine Nat.lt_of_not_le fun q => ?_
    have h1 := h.1
    rw [ct_cnt0 q] at h1
    exact Nat.not_lt_zero _ h1
  have hl := ct_lens c hc
  have ho := h.1
  refine ⟨hc, ct_tr_all c hc o (by omega) j ?_ (ct_ok_b h)⟩
  rcases h.2 with h2 | ⟨k, h2, h3, h4⟩ <;> omega
theorem ct_len : am_tr.length = 99 := by decide +kernel
theorem ct_ix {c o j : Nat} (h : am_ok c o j) : am_ix c o j < 99 := by
  have h1 := (List.getElem?_eq_some_iff.mp (ct_tr h).2).1
  rwa [ct_len] at h1
section CTS
variable {D : va_G} {c3 : ct_C} {h0 h1 t0 t1 : Nat} {u v : Nat → Nat} {A : Nat → Prop} {H : Heap}
theorem ct_cell (i : Nat) (h : i < 99) : ∃ p, (ct_ws c3 h0 u h1 v)[i]? = some p ∧ (ct_as h0 u h1 v).getD i 0 = p.1 := by
  have hl : i < (ct_ws c3 h0 u h1 v).length := h
  refine ⟨_, List.getElem?_eq_getElem hl, ?_⟩
  rw [← ct_as_eq c3, List.getD_eq_getElem?_getD, List.getElem?_map, List.getElem?_eq_getElem hl]
  rfl
theorem ct_AD (hD : va_D A (ct_ws c3 h0 u h1 v)) : AD (ct_cx D c3 (ct_as h0 u h1 v) t0 t1 A) := by
  have hx : ∀ c o j, am_ok c o j → cxa (ct_cx D c3 (ct_as h0 u h1 v) t0 t1 A) c o j = (ct_as h0 u h1 v).getD (am_ix c o j) 0 := by
    intro c o j h
    have hc := (ct_tr h).1
    show (if c = 10 then _ else _) = _
    rw [if_neg (by omega)]
  refine ⟨fun c o j c' o' j' h h' e => ?_, fun c o j h => ?_⟩
  · rw [hx c o j h, hx c' o' j' h'] at e
    obtain ⟨p, hp, ep⟩ := ct_cell (c3 := c3) (h0 := h0) (h1 := h1) (u := u) (v := v) _ (ct_ix h)
    obtain ⟨q, hq, eq⟩ := ct_cell (c3 := c3) (h0 := h0) (h1 := h1) (u := u) (v := v) _ (ct_ix h')
    have hi := hD.1 _ _ p q hp hq (by rw [← ep, ← eq, e])
    have h2 := (ct_tr h).2
    rw [hi, (ct_tr h').2] at h2
    cases h2
    exact ⟨rfl, rfl, rfl⟩
  · show A _
    rw [hx c o j h]
    obtain ⟨p, hp, ep⟩ := ct_cell (c3 := c3) (h0 := h0) (h1 := h1) (u := u) (v := v) _ (ct_ix h)
    rw [ep]
    exact hD.2 _ p hp
def ct_at (cx : CX) (σ : AS) (H : Heap) (t : Nat × Nat × Nat) : Prop := match t.2.2 with
  | 0 => t_OB (cxa cx t.1 t.2.1 0) ((cxD cx).1 t.1) (am_nf t.1) ((cxD cx).2 t.1) H (am_fv cx σ t.1 t.2.1)
  | k + 1 => H[cxa cx t.1 t.2.1 (k + 1)]? = some (am_ac cx σ t.1 t.2.1 k)
theorem arrV_congr {cI : ClassId} {N : Nat} {f g : Nat → Value} (h : (List.range N).map f = (List.range N).map g) : arrV cI N f = arrV cI N g := by
  have h1 := ct_pt h
  unfold arrV
  congr 2
  funext j
  exact h1 j.val j.isLt
set_option maxRecDepth 20000 in
set_option maxHeartbeats 4000000 in
theorem ct_all (hP : va_P D vwCl (ct_ws c3 h0 u h1 v) H) : ∀ t ∈ am_tr, ct_at (ct_cx D c3 (ct_as h0 u h1 v) t0 t1 A) σ0 H t := by
  have e0 : ct_at (ct_cx D c3 (ct_as h0 u h1 v) t0 t1 A) σ0 H (8, 0, 0) := by
    obtain ⟨r, hr, h⟩ := hP 0 _ rfl
    cases hr
    exact h.to (ct_pt rfl)
  have e1 : ct_at (ct_cx D c3 (ct_as h0 u h1 v) t0 t1 A) σ0 H (6, 0, 0) := by
    obtain ⟨r, hr, h⟩ := hP 1 _ rfl
    cases hr
    exact h.to (ct_pt rfl)
  have e2 : ct_at (ct_cx D c3 (ct_as h0 u h1 v) t0 t1 A) σ0 H (6, 0, 1) := hP 2 _ rfl
  have e3 : ct_at (ct_cx D c3 (ct_as h0 u h1 v) t0 t1 A) σ0 H (6, 0, 2) := hP 3 _ rfl
  have e4 : ct_at (ct_cx D c3 (ct_as h0 u h1 v) t0 t1 A) σ0 H (3, 0, 0) := by
    obtain ⟨r, hr, h⟩ := hP 4 _ rfl
    cases hr
    exact h.to (ct_pt rfl)
  have e5 : ct_at (ct_cx D c3 (ct_as h0 u h1 v) t0 t1 A) σ0 H (3, 0, 1) := hP 5 _ rfl
  have e6 : ct_at (ct_cx D c3 (ct_as h0 u h1 v) t0 t1 A) σ0 H (3, 0, 2) := hP 6 _ rfl
  have e7 : ct_at (ct_cx D c3 (ct_as h0 u h1 v) t0 t1 A) σ0 H (3, 0, 3) := hP 7 _ rfl
  have e8 : ct_at (ct_cx D c3 (ct_as h0 u h1 v) t0 t1 A) σ0 H (3, 0, 4) := hP 8 _ rfl
  have e9 : ct_at (ct_cx D c3 (ct_as h0 u h1 v) t0 t1 A) σ0 H (3, 1, 0) := by
    obtain ⟨r, hr, h⟩ := hP 9 _ rfl
    cases hr
    exact h.to (ct_pt rfl)
  have e10 : ct_at (ct_cx D c3 (ct_as h0 u h1 v) t0 t1 A) σ0 H (3, 1, 1) := hP 10 _ rfl
  have e11 : ct_at (ct_cx D c3 (ct_as h0 u h1 v) t0 t1 A) σ0 H (3, 1, 2) := hP 11 _ rfl
  have e12 : ct_at (ct_cx D c3 (ct_as h0 u h1 v) t0 t1 A) σ0 H (3, 1, 3) := hP 12 _ rfl
  have e13 : ct_at (ct_cx D c3 (ct_as h0 u h1 v) t0 t1 A) σ0 H (3, 1, 4) := hP 13 _ rfl
  have e14 : ct_at (ct_cx D c3 (ct_as h0 u h1 v) t0 t1 A) σ0 H (7, 0, 0) := by
    obtain ⟨r, hr, h⟩ := hP 14 _ rfl
    cases hr
    exact h.to (ct_pt rfl)
  have e15 : ct_at (ct_cx D c3 (ct_as h0 u h1 v) t0 t1 A) σ0 H (7, 0, 1) := hP 15 _ rfl
  have e16 : ct_at (ct_cx D c3 (ct_as h0 u h1 v) t0 t1 A) σ0 H (1, 0, 0) := by
    obtain ⟨r, hr, h⟩ := hP 16 _ rfl
    cases hr
    exact h.to (ct_pt rfl)
  have e17 : ct_at (ct_cx D c3 (ct_as h0 u h1 v) t0 t1 A) σ0 H (1, 0, 4) := hP 17 _ rfl
  have e18 : ct_at (ct_cx D c3 (ct_as h0 u h1 v) t0 t1 A) σ0 H (1, 0, 5) := hP 18 _ rfl
  have e19 : ct_at (ct_cx D c3 (ct_as h0 u h1 v) t0 t1 A) σ0 H (1, 0, 6) := hP 19 _ rfl
  have e20 : ct_at (ct_cx D c3 (ct_as h0 u h1 v) t0 t1 A) σ0 H (1, 0, 7) := hP 20 _ rfl
  have e21 : ct_at (ct_cx D c3 (ct_as h0 u h1 v) t0 t1 A) σ0 H (1, 0, 8) := hP 21 _ rfl
  have e22 : ct_at (ct_cx D c3 (ct_as h0 u h1 v) t0 t1 A) σ0 H (1, 0, 9) := hP 22 _ rfl
  have e23 : ct_at (ct_cx D c3 (ct_as h0 u h1 v) t0 t1 A) σ0 H (1, 0, 10) := hP 23 _ rfl
  have e24 : ct_at (ct_cx D c3 (ct_as h0 u h1 v) t0 t1 A) σ0 H (1, 0, 3) := hP 24 _ rfl
  have e25 : ct_at (ct_cx D c3 (ct_as h0 u h1 v) t0 t1 A) σ0 H (1, 1, 0) := by
    obtain ⟨r, hr, h⟩ := hP 25 _ rfl
    cases hr
    exact h.to (ct_pt rfl)
  have e26 : ct_at (ct_cx D c3 (ct_as h0 u h1 v) t0 t1 A) σ0 H (1, 1, 4) := hP 26 _ rfl
  have e27 : ct_at (ct_cx D c3 (ct_as h0 u h1 v) t0 t1 A) σ0 H (1, 1, 5) := hP 27 _ rfl
  have e28 : ct_at (ct_cx D c3 (ct_as h0 u h1 v) t0 t1 A) σ0 H (1, 1, 6) := hP 28 _ rfl
  have e29 : ct_at (ct_cx D c3 (ct_as h0 u h1 v) t0 t1 A) σ0 H (1, 1, 7) := hP 29 _ rfl
  have e30 : ct_at (ct_cx D c3 (ct_as h0 u h1 v) t0 t1 A) σ0 H (1, 1, 8) := hP 30 _ rfl
  have e31 : ct_at (ct_cx D c3 (ct_as h0 u h1 v) t0 t1 A) σ0 H (1, 1, 9) := hP 31 _ rfl
  have e32 : ct_at (ct_cx D c3 (ct_as h0 u h1 v) t0 t1 A) σ0 H (1, 1, 10) := hP 32 _ rfl
  have e33 : ct_at (ct_cx D c3 (ct_as h0 u h1 v) t0 t1 A) σ0 H (1, 1, 3) := hP 33 _ rfl
  have e34 : ct_at (ct_cx D c3 (ct_as h0 u h1 v) t0 t1 A) σ0 H (1, 2, 0) := by
    obtain ⟨r, hr, h⟩ := hP 34 _ rfl
    cases hr
    exact h.to (ct_pt rfl)
  have e35 : ct_at (ct_cx D c3 (ct_as h0 u h1 v) t0 t1 A) σ0 H (1, 2, 4) := hP 35 _ rfl
  have e36 : ct_at (ct_cx D c3 (ct_as h0 u h1 v) t0 t1 A) σ0 H (1, 2, 5) := hP 36 _ rfl
  have e37 : ct_at (ct_cx D c3 (ct_as h0 u h1 v) t0 t1 A) σ0 H (1, 2, 6) := hP 37 _ rfl
  have e38 : ct_at (ct_cx D c3 (ct_as h0 u h1 v) t0 t1 A) σ0 H (1, 2, 7) := hP 38 _ rfl
  have e39 : ct_at (ct_cx D c3 (ct_as h0 u h1 v) t0 t1 A) σ0 H (1, 2, 8) := hP 39 _ rfl
  have e40 : ct_at (ct_cx D c3 (ct_as h0 u h1 v) t0 t1 A) σ0 H (1, 2, 9) := hP 40 _ rfl
  have e41 : ct_at (ct_cx D c3 (ct_as h0 u h1 v) t0 t1 A) σ0 H (1, 2, 10) := hP 41 _ rfl
  have e42 : ct_at (ct_cx D c3 (ct_as h0 u h1 v) t0 t1 A) σ0 H (1, 2, 3) := hP 42 _ rfl
  have e43 : ct_at (ct_cx D c3 (ct_as h0 u h1 v) t0 t1 A) σ0 H (4, 0, 0) := by
    obtain ⟨r, hr, h⟩ := hP 43 _ rfl
    cases hr
    exact h.to (ct_pt rfl)
  have e44 : ct_at (ct_cx D c3 (ct_as h0 u h1 v) t0 t1 A) σ0 H (4, 0, 1) := hP 44 _ rfl
  have e45 : ct_at (ct_cx D c3 (ct_as h0 u h1 v) t0 t1 A) σ0 H (4, 0, 2) := hP 45 _ rfl
  have e46 : ct_at (ct_cx D c3 (ct_as h0 u h1 v) t0 t1 A) σ0 H (4, 0, 3) := hP 46 _ rfl
  have e47 : ct_at (ct_cx D c3 (ct_as h0 u h1 v) t0 t1 A) σ0 H (0, 0, 0) := by
    obtain ⟨r, hr, h⟩ := hP 47 _ rfl
    cases hr
    exact h.to (ct_pt rfl)
  have e48 : ct_at (ct_cx D c3 (ct_as h0 u h1 v) t0 t1 A) σ0 H (0, 0, 1) := hP 48 _ rfl
  have e49 : ct_at (ct_cx D c3 (ct_as h0 u h1 v) t0 t1 A) σ0 H (0, 0, 2) := hP 49 _ rfl
  have e50 : ct_at (ct_cx D c3 (ct_as h0 u h1 v) t0 t1 A) σ0 H (0, 0, 3) := hP 50 _ rfl
  have e51 : ct_at (ct_cx D c3 (ct_as h0 u h1 v) t0 t1 A) σ0 H (0, 0, 4) := hP 51 _ rfl
  have e52 : ct_at (ct_cx D c3 (ct_as h0 u h1 v) t0 t1 A) σ0 H (2, 0, 0) := by
    obtain ⟨r, hr, h⟩ := hP 52 _ rfl
    cases hr
    exact h.to (ct_pt rfl)
  have e53 : ct_at (ct_cx D c3 (ct_as h0 u h1 v) t0 t1 A) σ0 H (2, 0, 1) := hP 53 _ rfl
  have e54 : ct_at (ct_cx D c3 (ct_as h0 u h1 v) t0 t1 A) σ0 H (2, 0, 2) := hP 54 _ rfl
  have e55 : ct_at (ct_cx D c3 (ct_as h0 u h1 v) t0 t1 A) σ0 H (8, 0, 11) := by
    have h : H[(ct_as h0 u h1 v).getD 55 0]? = some (arrV c3.2.2 6 (fun j => va_rf (va_up (va_up (va_up (va_up (va_up (va_up (fun _ => none) (Int32.toNatClampNeg 0) (some (u 55))) (Int32.toNatClampNeg 1) (some (u 57))) (Int32.toNatClampNeg 2) (some (u 59))) (Int32.toNatClampNeg 3) (some (u 61))) (Int32.toNatClampNeg 4) (some (u 63))) (Int32.toNatClampNeg 5) (some (u 65)) j))) := hP 55 _ rfl
    have g : arrV c3.2.2 6 (fun j => va_rf (va_up (va_up (va_up (va_up (va_up (va_up (fun _ => none) (Int32.toNatClampNeg 0) (some (u 55))) (Int32.toNatClampNeg 1) (some (u 57))) (Int32.toNatClampNeg 2) (some (u 59))) (Int32.toNatClampNeg 3) (some (u 61))) (Int32.toNatClampNeg 4) (some (u 63))) (Int32.toNatClampNeg 5) (some (u 65)) j)) = arrV c3.2.2 6 (fun j => .ref (cxa (ct_cx D c3 (ct_as h0 u h1 v) t0 t1 A) 5 j 0)) := arrV_congr rfl
    rw [g] at h
    exact h
  have e56 : ct_at (ct_cx D c3 (ct_as h0 u h1 v) t0 t1 A) σ0 H (5, 0, 0) := by
    obtain ⟨r, hr, h⟩ := hP 56 _ rfl
    cases hr
    exact h.to (ct_pt rfl)
  have e57 : ct_at (ct_cx D c3 (ct_as h0 u h1 v) t0 t1 A) σ0 H (5, 0, 1) := hP 57 _ rfl
  have e58 : ct_at (ct_cx D c3 (ct_as h0 u h1 v) t0 t1 A) σ0 H (5, 1, 0) := by
    obtain ⟨r, hr, h⟩ := hP 58 _ rfl
    cases hr
    exact h.to (ct_pt rfl)
  have e59 : ct_at (ct_cx D c3 (ct_as h0 u h1 v) t0 t1 A) σ0 H (5, 1, 1) := hP 59 _ rfl
  have e60 : ct_at (ct_cx D c3 (ct_as h0 u h1 v) t0 t1 A) σ0 H (5, 2, 0) := by
    obtain ⟨r, hr, h⟩ := hP 60 _ rfl
    cases hr
    exact h.to (ct_pt rfl)
  have e61 : ct_at (ct_cx D c3 (ct_as h0 u h1 v) t0 t1 A) σ0 H (5, 2, 1) := hP 61 _ rfl
  have e62 : ct_at (ct_cx D c3 (ct_as h0 u h1 v) t0 t1 A) σ0 H (5, 3, 0) := by
    obtain ⟨r, hr, h⟩ := hP 62 _ rfl
    cases hr
    exact h.to (ct_pt rfl)
  have e63 : ct_at (ct_cx D c3 (ct_as h0 u h1 v) t0 t1 A) σ0 H (5, 3, 1) := hP 63 _ rfl
  have e64 : ct_at (ct_cx D c3 (ct_as h0 u h1 v) t0 t1 A) σ0 H (5, 4, 0) := by
    obtain ⟨r, hr, h⟩ := hP 64 _ rfl
    cases hr
    exact h.to (ct_pt rfl)
  have e65 : ct_at (ct_cx D c3 (ct_as h0 u h1 v) t0 t1 A) σ0 H (5, 4, 1) := hP 65 _ rfl
  have e66 : ct_at (ct_cx D c3 (ct_as h0 u h1 v) t0 t1 A) σ0 H (5, 5, 0) := by
    obtain ⟨r, hr, h⟩ := hP 66 _ rfl
    cases hr
    exact h.to (ct_pt rfl)
  have e67 : ct_at (ct_cx D c3 (ct_as h0 u h1 v) t0 t1 A) σ0 H (5, 5, 1) := hP 67 _ rfl
  have e68 : ct_at (ct_cx D c3 (ct_as h0 u h1 v) t0 t1 A) σ0 H (9, 0, 0) := by
    obtain ⟨r, hr, h⟩ := hP 68 _ rfl
    cases hr
    exact h.to (ct_pt rfl)
  have e69 : ct_at (ct_cx D c3 (ct_as h0 u h1 v) t0 t1 A) σ0 H (9, 0, 1) := hP 69 _ rfl
  have e70 : ct_at (ct_cx D c3 (ct_as h0 u h1 v) t0 t1 A) σ0 H (9, 0, 2) := hP 70 _ rfl
  have e71 : ct_at (ct_cx D c3 (ct_as h0 u h1 v) t0 t1 A) σ0 H (9, 0, 3) := hP 71 _ rfl
  have e72 : ct_at (ct_cx D c3 (ct_as h0 u h1 v) t0 t1 A) σ0 H (9, 0, 4) := hP 72 _ rfl
  have e73 : ct_at (ct_cx D c3 (ct_as h0 u h1 v) t0 t1 A) σ0 H (9, 0, 8) := hP 73 _ rfl
  have e74 : ct_at (ct_cx D c3 (ct_as h0 u h1 v) t0 t1 A) σ0 H (9, 0, 9) := hP 74 _ rfl
  have e75 : ct_at (ct_cx D c3 (ct_as h0 u h1 v) t0 t1 A) σ0 H (9, 0, 10) := hP 75 _ rfl
  have e76 : ct_at (ct_cx D c3 (ct_as h0 u h1 v) t0 t1 A) σ0 H (9, 0, 11) := hP 76 _ rfl
  have e77 : ct_at (ct_cx D c3 (ct_as h0 u h1 v) t0 t1 A) σ0 H (9, 0, 12) := hP 77 _ rfl
  have e78 : ct_at (ct_cx D c3 (ct_as h0 u h1 v) t0 t1 A) σ0 H (9, 0, 15) := hP 78 _ rfl
  have e79 : ct_at (ct_cx D c3 (ct_as h0 u h1 v) t0 t1 A) σ0 H (9, 0, 16) := hP 79 _ rfl
  have e80 : ct_at (ct_cx D c3 (ct_as h0 u h1 v) t0 t1 A) σ0 H (9, 0, 18) := hP 80 _ rfl
  have e81 : ct_at (ct_cx D c3 (ct_as h0 u h1 v) t0 t1 A) σ0 H (9, 0, 25) := hP 81 _ rfl
  have e82 : ct_at (ct_cx D c3 (ct_as h0 u h1 v) t0 t1 A) σ0 H (9, 0, 29) := hP 82 _ rfl
  have e83 : ct_at (ct_cx D c3 (ct_as h0 u h1 v) t0 t1 A) σ0 H (9, 0, 30) := hP 83 _ rfl
  have e84 : ct_at (ct_cx D c3 (ct_as h0 u h1 v) t0 t1 A) σ0 H (9, 0, 31) := hP 84 _ rfl
  have e85 : ct_at (ct_cx D c3 (ct_as h0 u h1 v) t0 t1 A) σ0 H (9, 0, 32) := hP 85 _ rfl
  have e86 : ct_at (ct_cx D c3 (ct_as h0 u h1 v) t0 t1 A) σ0 H (9, 0, 33) := hP 86 _ rfl
  have e87 : ct_at (ct_cx D c3 (ct_as h0 u h1 v) t0 t1 A) σ0 H (9, 0, 34) := hP 87 _ rfl
  have e88 : ct_at (ct_cx D c3 (ct_as h0 u h1 v) t0 t1 A) σ0 H (9, 0, 40) := hP 88 _ rfl
  have e89 : ct_at (ct_cx D c3 (ct_as h0 u h1 v) t0 t1 A) σ0 H (9, 0, 41) := hP 89 _ rfl
  have e90 : ct_at (ct_cx D c3 (ct_as h0 u h1 v) t0 t1 A) σ0 H (9, 0, 42) := hP 90 _ rfl
  have e91 : ct_at (ct_cx D c3 (ct_as h0 u h1 v) t0 t1 A) σ0 H (9, 0, 43) := hP 91 _ rfl
  have e92 : ct_at (ct_cx D c3 (ct_as h0 u h1 v) t0 t1 A) σ0 H (9, 0, 44) := hP 92 _ rfl
  have e93 : ct_at (ct_cx D c3 (ct_as h0 u h1 v) t0 t1 A) σ0 H (9, 0, 46) := hP 93 _ rfl
  have e94 : ct_at (ct_cx D c3 (ct_as h0 u h1 v) t0 t1 A) σ0 H (9, 0, 47) := hP 94 _ rfl
  have e95 : ct_at (ct_cx D c3 (ct_as h0 u h1 v) t0 t1 A) σ0 H (9, 0, 51) := hP 95 _ rfl
  have e96 : ct_at (ct_cx D c3 (ct_as h0 u h1 v) t0 t1 A) σ0 H (9, 0, 52) := hP 96 _ rfl
  have e97 : ct_at (ct_cx D c3 (ct_as h0 u h1 v) t0 t1 A) σ0 H (9, 0, 53) := hP 97 _ rfl
  have e98 : ct_at (ct_cx D c3 (ct_as h0 u h1 v) t0 t1 A) σ0 H (9, 0, 54) := hP 98 _ rfl
  exact List.forall_mem_cons.mpr ⟨e0, List.forall_mem_cons.mpr ⟨e1, List.forall_mem_cons.mpr ⟨e2, List.forall_mem_cons.mpr ⟨e3, List.forall_mem_cons.mpr ⟨e4, List.forall_mem_cons.mpr ⟨e5, List.forall_mem_cons.mpr ⟨e6, List.forall_mem_cons.mpr ⟨e7, List.forall_mem_cons.mpr ⟨e8, List.forall_mem_cons.mpr ⟨e9, List.forall_mem_cons.mpr ⟨e10, List.forall_mem_cons.mpr ⟨e11, List.forall_mem_cons.mpr ⟨e12, List.forall_mem_cons.mpr ⟨e13, List.forall_mem_cons.mpr ⟨e14, List.forall_mem_cons.mpr ⟨e15, List.forall_mem_cons.mpr ⟨e16, List.forall_mem_cons.mpr ⟨e17, List.forall_mem_cons.mpr ⟨e18, List.forall_mem_cons.mpr ⟨e19, List.forall_mem_cons.mpr ⟨e20, List.forall_mem_cons.mpr ⟨e21, List.forall_mem_cons.mpr ⟨e22, List.forall_mem_cons.mpr ⟨e23, List.forall_mem_cons.mpr ⟨e24, List.forall_mem_cons.mpr ⟨e25, List.forall_mem_cons.mpr ⟨e26, List.forall_mem_cons.mpr ⟨e27, List.forall_mem_cons.mpr ⟨e28, List.forall_mem_cons.mpr ⟨e29, List.forall_mem_cons.mpr ⟨e30, List.forall_mem_cons.mpr ⟨e31, List.forall_mem_cons.mpr ⟨e32, List.forall_mem_cons.mpr ⟨e33, List.forall_mem_cons.mpr ⟨e34, List.forall_mem_cons.mpr ⟨e35, List.forall_mem_cons.mpr ⟨e36, List.forall_mem_cons.mpr ⟨e37, List.forall_mem_cons.mpr ⟨e38, List.forall_mem_cons.mpr ⟨e39, List.forall_mem_cons.mpr ⟨e40, List.forall_mem_cons.mpr ⟨e41, List.forall_mem_cons.mpr ⟨e42, List.forall_mem_cons.mpr ⟨e43, List.forall_mem_cons.mpr ⟨e44, List.forall_mem_cons.mpr ⟨e45, List.forall_mem_cons.mpr ⟨e46, List.forall_mem_cons.mpr ⟨e47, List.forall_mem_cons.mpr ⟨e48, List.forall_mem_cons.mpr ⟨e49, List.forall_mem_cons.mpr ⟨e50, List.forall_mem_cons.mpr ⟨e51, List.forall_mem_cons.mpr ⟨e52, List.forall_mem_cons.mpr ⟨e53, List.forall_mem_cons.mpr ⟨e54, List.forall_mem_cons.mpr ⟨e55, List.forall_mem_cons.mpr ⟨e56, List.forall_mem_cons.mpr ⟨e57, List.forall_mem_cons.mpr ⟨e58, List.forall_mem_cons.mpr ⟨e59, List.forall_mem_cons.mpr ⟨e60, List.forall_mem_cons.mpr ⟨e61, List.forall_mem_cons.mpr ⟨e62, List.forall_mem_cons.mpr ⟨e63, List.forall_mem_cons.mpr ⟨e64, List.forall_mem_cons.mpr ⟨e65, List.forall_mem_cons.mpr ⟨e66, List.forall_mem_cons.mpr ⟨e67, List.forall_mem_cons.mpr ⟨e68, List.forall_mem_cons.mpr ⟨e69, List.forall_mem_cons.mpr ⟨e70, List.forall_mem_cons.mpr ⟨e71, List.forall_mem_cons.mpr ⟨e72, List.forall_mem_cons.mpr ⟨e73, List.forall_mem_cons.mpr ⟨e74, List.forall_mem_cons.mpr ⟨e75, List.forall_mem_cons.mpr ⟨e76, List.forall_mem_cons.mpr ⟨e77, List.forall_mem_cons.mpr ⟨e78, List.forall_mem_cons.mpr ⟨e79, List.forall_mem_cons.mpr ⟨e80, List.forall_mem_cons.mpr ⟨e81, List.forall_mem_cons.mpr ⟨e82, List.forall_mem_cons.mpr ⟨e83, List.forall_mem_cons.mpr ⟨e84, List.forall_mem_cons.mpr ⟨e85, List.forall_mem_cons.mpr ⟨e86, List.forall_mem_cons.mpr ⟨e87, List.forall_mem_cons.mpr ⟨e88, List.forall_mem_cons.mpr ⟨e89, List.forall_mem_cons.mpr ⟨e90, List.forall_mem_cons.mpr ⟨e91, List.forall_mem_cons.mpr ⟨e92, List.forall_mem_cons.mpr ⟨e93, List.forall_mem_cons.mpr ⟨e94, List.forall_mem_cons.mpr ⟨e95, List.forall_mem_cons.mpr ⟨e96, List.forall_mem_cons.mpr ⟨e97, List.forall_mem_cons.mpr ⟨e98, List.forall_mem_nil _⟩⟩⟩⟩⟩⟩⟩⟩⟩⟩⟩⟩⟩⟩⟩⟩⟩⟩⟩⟩⟩⟩⟩⟩⟩⟩⟩⟩⟩⟩⟩⟩⟩⟩⟩⟩⟩⟩⟩⟩⟩⟩⟩⟩⟩⟩⟩⟩⟩⟩⟩⟩⟩⟩⟩⟩⟩⟩⟩⟩⟩⟩⟩⟩⟩⟩⟩⟩⟩⟩⟩⟩⟩⟩⟩⟩⟩⟩⟩⟩⟩⟩⟩⟩⟩⟩⟩⟩⟩⟩⟩⟩⟩⟩⟩⟩⟩⟩⟩
theorem ct_WD (hP : va_P D vwCl (ct_ws c3 h0 u h1 v) H) : WD (ct_cx D c3 (ct_as h0 u h1 v) t0 t1 A) σ0 H := by
  have h := ct_all (t0 := t0) (t1 := t1) (A := A) hP
  refine ⟨fun c o ho => ?_, fun c o k ho hk ha => ?_⟩
  · exact h (c, o, 0) (List.mem_of_getElem? (ct_tr (c := c) (o := o) (j := 0) ⟨ho, Or.inl rfl⟩).2)
  · exact h (c, o, k + 1) (List.mem_of_getElem? (ct_tr (c := c) (o := o) (j := k + 1) ⟨ho, Or.inr ⟨k, rfl, hk, ha⟩⟩).2)
end CTS

theorem f_two_at : ∀ i, i < 7 → f_two i = nI 2 := by decide +kernel
theorem f_who_at : ∀ i, i < 8 → f_who i = nI i := by decide +kernel
theorem f_m1_at : ∀ i, i < 6 → f_m1 i = -1 := by decide +kernel
theorem ct_Inv : Inv σ0 := by
  refine ⟨⟨0, fun _ _ => 0, fun _ _ => 0, 0, 0, fun _ _ => 0, ?_, ?_, ?_⟩, ⟨(fun _ => 2, fun _ => 0, fun _ => 0, fun _ => 0, fun _ => 0, 0, 0), (fun _ _ => 0, fun _ _ => 0, fun _ _ => 0), (false, fun _ => 0, fun _ => 0, fun _ => 0, fun _ => 0, 0, 0), ?_, ?_, ?_⟩, ⟨0, fun _ => 0, ?_, ?_, ?_⟩, ⟨[], 0, fun _ => 0, ?_, ?_, ?_⟩, ⟨(0, fun _ => 0, 0, fun _ => 0), (fun _ => 0, fun _ => 0, fun _ => 0, fun _ _ => 0), ?_, ?_, ?_⟩⟩
  · exact ⟨rfl, fun _ _ _ _ => rfl, fun _ _ _ _ => rfl, rfl, rfl, fun _ h => absurd h (Nat.not_lt_zero _), fun _ h => absurd h (Nat.not_lt_zero _), fun _ h => absurd h (Nat.not_lt_zero _), fun _ h => absurd h (Nat.not_lt_zero _)⟩
  · exact ⟨rfl, fun _ _ _ _ => rfl, fun _ _ _ _ => rfl, rfl, rfl, fun _ h => absurd h (Nat.not_lt_zero _), fun _ h => absurd h (Nat.not_lt_zero _), fun _ h => absurd h (Nat.not_lt_zero _)⟩
  · exact ⟨by omega, fun _ _ _ _ => ⟨Nat.zero_le _, fun _ => Nat.zero_le _, fun _ => rfl⟩, fun _ _ _ _ => ⟨Nat.zero_le _, fun _ => rfl⟩, Nat.zero_le _, Nat.zero_le _, fun _ h => absurd h (Nat.not_lt_zero _)⟩
  · exact ⟨⟨f_two_at, fun _ _ => rfl, fun _ _ => rfl, fun _ _ => rfl, fun _ _ => rfl, rfl, rfl, f_who_at⟩, ⟨fun _ _ h => absurd h (Nat.not_lt_zero _), fun _ _ h => absurd h (Nat.not_lt_zero _), fun _ _ h => absurd h (Nat.not_lt_zero _)⟩, ⟨rfl, fun h => (by cases h)⟩⟩
  · exact ⟨⟨f_two_at, fun _ _ => rfl, fun _ _ => rfl, fun _ _ => rfl, fun _ _ => rfl, rfl, rfl, f_who_at⟩, ⟨fun _ _ h => absurd h (Nat.not_lt_zero _), fun _ _ h => absurd h (Nat.not_lt_zero _), fun _ _ h => absurd h (Nat.not_lt_zero _)⟩, ⟨rfl, fun h => (by cases h)⟩⟩
  · exact ⟨⟨fun _ _ => by show 0 + 0 ≤ 2; omega, fun _ _ => by show 2 ≤ 9; omega, by show 0 ≤ 24; omega⟩, fun h => (by cases h)⟩
  · exact ⟨rfl, fun _ h => absurd h (Nat.not_lt_zero _)⟩
  · exact ⟨rfl, fun _ h => absurd h (Nat.not_lt_zero _)⟩
  · exact ⟨by omega, fun _ h => absurd h (Nat.not_lt_zero _)⟩
  · exact ⟨rfl, fun i x h => by simp [cLines] at h⟩
  · exact ⟨fun _ => rfl, fun h => absurd rfl h⟩
  · exact ⟨by omega, fun _ h => absurd h (Nat.not_lt_zero _), by show 0 ≤ 0 + 1; omega, fun h => absurd rfl h⟩
  · exact ⟨⟨rfl, fun _ h => absurd h (Nat.not_lt_zero _), rfl, fun _ h => absurd h (Nat.not_lt_zero _)⟩, fun d _ => ⟨rfl, fun h => (by cases h), rfl, fun _ h => absurd h (Nat.not_lt_zero _)⟩⟩
  · exact ⟨⟨rfl, fun _ h => absurd h (Nat.not_lt_zero _), rfl, fun _ h => absurd h (Nat.not_lt_zero _)⟩, fun d h6 => ⟨f_m1_at d h6, rfl, fun _ h => absurd h (Nat.not_lt_zero _)⟩⟩
  · exact ⟨⟨by show 0 ≤ 50; omega, fun _ h => absurd h (Nat.not_lt_zero _), by show 0 ≤ 1000000; omega⟩, fun d _ => ⟨by show 0 ≤ 6; omega, fun h => (by cases h), fun _ => rfl, by show 0 ≤ 60; omega⟩⟩
