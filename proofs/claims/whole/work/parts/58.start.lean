/-! ===== the first state ===== -/
def sg0 : St := fun q => if q < 160 then (if q % 8 = 0 then (fun k => if k = 7 then -1 else 0) else if q % 8 = 7 then onI 9 else zf) else if q = 160 then (fun k => if k = 12 then -1 else 0) else if q = 185 then (fun k => if k = 6 then -1 else 0) else if q = 189 then onJ 9 else zf
def cty0 : Cty := (0, -1, fun _ _ => 0, 0, 0, 0)
theorem cty0_ok : COk cty0 := ⟨by decide, fun k h => absurd h (Nat.not_lt_zero k), fun j k h => absurd h (Nat.not_lt_zero j), ⟨0, by decide, rfl⟩, Or.inl ⟨rfl, rfl⟩⟩
theorem gx0 : GX sg0 0 cty0 := ⟨rfl, rfl, rfl, rfl, rfl, fun i k _ _ h => absurd h (Nat.not_lt_zero k), fun p hp => by
  show onI 9 p = -1
  unfold onI
  rw [if_pos hp]⟩
theorem gm0 : GM sg0 189 0 cty0 := ⟨fun k h => absurd h (Nat.not_lt_zero k), rfl, rfl, rfl⟩
theorem rel0 : Rel sg0 := by
  refine ⟨cty0, [], fun _ => cty0, cty0_ok, gx0, gm0, ⟨rfl, fun k h => absurd h (Nat.not_lt_zero k), Or.inl ⟨rfl, rfl⟩⟩, fun D h => absurd h List.not_mem_nil, ⟨by decide, rfl, 0, by decide, rfl, fun i C h => by simp at h⟩, ⟨by decide, rfl, fun i C h => by simp at h⟩, fun i hi => Or.inl ⟨rfl, rfl⟩, ⟨0, by decide, rfl, rfl, fun k h => absurd h (Nat.not_lt_zero k)⟩, rfl, ⟨rfl, ?_⟩, ⟨0, by decide, rfl, rfl, fun k h => absurd h (Nat.not_lt_zero k)⟩, Or.inl rfl, Or.inl rfl⟩
  show ¬ (0 : Int32) < 0
  decide
/-! ===== the list of cells is the world ===== -/
theorem fl_get {ω : Wd} : ∀ (ll : List (Nat → Nat)) (i j : Nat) (g : Nat → Nat), ll[i]? = some g → j < 8 → (ll.flatMap (grp ω))[8 * i + j]? = (grp ω g)[j]? := by
  intro ll
  induction ll with
  | nil => intro i j g h; simp at h
  | cons a ll ih =>
    intro i j g h hj
    have h8 : (grp ω a).length = 8 := rfl
    rw [List.flatMap_cons]
    cases i with
    | zero =>
      obtain rfl : a = g := by simpa using h
      rw [List.getElem?_append_left (by rw [h8]; omega), show 8 * 0 + j = j by omega]
    | succ i =>
      rw [List.getElem?_append_right (by rw [h8]; omega), h8, show 8 * (i + 1) + j - 8 = 8 * i + j by omega]
      exact ih i j g (by simpa using h) hj
theorem fl_len {ω : Wd} : ∀ (ll : List (Nat → Nat)), (ll.flatMap (grp ω)).length = 8 * ll.length := by
  intro ll
  induction ll with
  | nil => rfl
  | cons a ll ih =>
    rw [List.flatMap_cons, List.length_append, ih, List.length_cons, show (grp ω a).length = 8 from rfl]
    omega
def hh (ll : List (Nat → Nat)) (t t2 : Nat → Nat) : Nat → Nat := fun k => if k < 160 then (ll.getD (k / 8) (fun _ => 0)) (k % 8) else if k < 185 then t (k - 160) else t2 (k - 185)
def om (ω : Wd) (ll : List (Nat → Nat)) (t t2 : Nat → Nat) (A : Nat → Prop) (r c p : Nat) : Wd := (wD ω, hh ll t t2, A, wI ω, wZ ω, wG ω, r, c, p)
theorem hh_g {ll : List (Nat → Nat)} {t t2 : Nat → Nat} {i j : Nat} {g : Nat → Nat} (h : ll[i]? = some g) (hi : i < 20) (hj : j < 8) : hh ll t t2 (8 * i + j) = g j := by
  unfold hh
  rw [if_pos (by omega), show (8 * i + j) / 8 = i by omega, show (8 * i + j) % 8 = j by omega, List.getD_eq_getElem?_getD, h]
  rfl
theorem arrV_ext {cA : ClassId} {n : Nat} {f f' : Nat → Value} (h : ∀ j, j < n → f j = f' j) : arrV cA n f = arrV cA n f' := by
  unfold arrV
  congr 2
  funext j
  exact h j.val j.isLt
theorem cell_G {cA : ClassId} {n : Nat} {f f' : Nat → Option Nat} (h : ∀ j, j < n → f j = f' j) : vp_cell cA (n, .inr (.inr (.inr (.inr f)))) = vp_cell cA (n, .inr (.inr (.inr (.inr f')))) := by
  rw [vp_cell_q, vp_cell_q]
  exact arrV_ext (fun j hj => by rw [h j hj])
section COV
variable {ω : Wd} {t t2 : Nat → Nat} {A : Nat → Prop} {r c p : Nat} {na nb ia ib : Nat → Nat} {gl : List (Nat → Nat)}
theorem cov_g (hgl : gl.length = 16) {k : Nat} (hk : k < 160) : ∃ e : va_E, ((na :: nb :: ia :: ib :: gl).flatMap (grp ω))[k]? = some (wh (om ω (na :: nb :: ia :: ib :: gl) t t2 A r c p) k, e) ∧ e = ceJ (om ω (na :: nb :: ia :: ib :: gl) t t2 A r c p) k (sg0 k) := by
  generalize hll : na :: nb :: ia :: ib :: gl = ll
  have hlen : ll.length = 20 := by rw [← hll]; simp [hgl]
  obtain ⟨i, j, hi, hj, rfl⟩ : ∃ i j : Nat, i < 20 ∧ j < 8 ∧ k = 8 * i + j := ⟨k / 8, k % 8, by omega, by omega, by omega⟩
  obtain ⟨g, hg⟩ : ∃ g, ll[i]? = some g := ⟨_, List.getElem?_eq_getElem (by rw [hlen]; exact hi)⟩
  have hw : ∀ j, j < 8 → wh (om ω ll t t2 A r c p) (8 * i + j) = g j := fun j h => hh_g hg hi h
  rw [fl_get ll i j g hg hj, hw j hj]
  have hc : ∀ f, j ≠ 0 → ceJ (om ω ll t t2 A r c p) (8 * i + j) f = .inl (wI ω, 9, .inl f) := fun f h => by
    unfold ceJ
    rw [if_pos hk, if_neg (by omega)]
    rfl
  have hs : j ≠ 0 → j ≠ 7 → sg0 (8 * i + j) = zf := fun h h2 => by
    unfold sg0
    rw [if_pos hk, if_neg (by omega), if_neg (by omega)]
  rcases (show j = 0 ∨ j = 1 ∨ j = 2 ∨ j = 3 ∨ j = 4 ∨ j = 5 ∨ j = 6 ∨ j = 7 by omega) with rfl | rfl | rfl | rfl | rfl | rfl | rfl | rfl
  · refine ⟨_, rfl, ?_⟩
    have h0 : sg0 (8 * i + 0) = fun k => if k = 7 then -1 else 0 := by
      unfold sg0
      rw [if_pos hk, if_pos (by omega)]
    unfold ceJ
    rw [if_pos hk, if_pos (by omega), h0]
    unfold fX3
    rw [show 8 * i + 0 + 1 = 8 * i + 1 by omega, show 8 * i + 0 + 2 = 8 * i + 2 by omega, show 8 * i + 0 + 3 = 8 * i + 3 by omega, show 8 * i + 0 + 4 = 8 * i + 4 by omega, show 8 * i + 0 + 5 = 8 * i + 5 by omega, show 8 * i + 0 + 6 = 8 * i + 6 by omega, show 8 * i + 0 + 7 = 8 * i + 7 by omega, hw 1 (by omega), hw 2 (by omega), hw 3 (by omega), hw 4 (by omega), hw 5 (by omega), hw 6 (by omega), hw 7 (by omega)]
    rfl
  · exact ⟨_, rfl, by rw [hc _ (by decide), hs (by decide) (by decide)]⟩
  · exact ⟨_, rfl, by rw [hc _ (by decide), hs (by decide) (by decide)]⟩
  · exact ⟨_, rfl, by rw [hc _ (by decide), hs (by decide) (by decide)]⟩
  · exact ⟨_, rfl, by rw [hc _ (by decide), hs (by decide) (by decide)]⟩
  · exact ⟨_, rfl, by rw [hc _ (by decide), hs (by decide) (by decide)]⟩
  · exact ⟨_, rfl, by rw [hc _ (by decide), hs (by decide) (by decide)]⟩
  · refine ⟨_, rfl, ?_⟩
    have h7 : sg0 (8 * i + 7) = onI 9 := by
      unfold sg0
      rw [if_pos hk, if_neg (by omega), if_pos (by omega)]
    rw [hc _ (by decide), h7]
set_option maxRecDepth 100000 in
theorem cov_t (hgl : gl.length = 16) {m : Nat} (hm : m < 45) : ∃ e : va_E, (tlX7 ω t (na 0) (nb 0) gl [ia, ib] ++ tlX8 ω t2)[m]? = some (wh (om ω (na :: nb :: ia :: ib :: gl) t t2 A r c p) (160 + m), e) ∧ ∀ H : Heap, va_at (wD ω) cls (wh (om ω (na :: nb :: ia :: ib :: gl) t t2 A r c p) (160 + m), e) H → va_at (wD ω) cls (wh (om ω (na :: nb :: ia :: ib :: gl) t t2 A r c p) (160 + m), ceJ (om ω (na :: nb :: ia :: ib :: gl) t t2 A r c p) (160 + m) (sg0 (160 + m))) H := by
  rcases (show m = 0 ∨ m = 1 ∨ m = 2 ∨ m = 3 ∨ m = 4 ∨ m = 5 ∨ m = 6 ∨ m = 7 ∨ m = 8 ∨ m = 9 ∨ m = 10 ∨ m = 11 ∨ m = 12 ∨ m = 13 ∨ m = 14 ∨ m = 15 ∨ m = 16 ∨ m = 17 ∨ m = 18 ∨ m = 19 ∨ m = 20 ∨ m = 21 ∨ m = 22 ∨ m = 23 ∨ m = 24 ∨ m = 25 ∨ m = 26 ∨ m = 27 ∨ m = 28 ∨ m = 29 ∨ m = 30 ∨ m = 31 ∨ m = 32 ∨ m = 33 ∨ m = 34 ∨ m = 35 ∨ m = 36 ∨ m = 37 ∨ m = 38 ∨ m = 39 ∨ m = 40 ∨ m = 41 ∨ m = 42 ∨ m = 43 ∨ m = 44 by omega) with rfl | rfl | rfl | rfl | rfl | rfl | rfl | rfl | rfl | rfl | rfl | rfl | rfl | rfl | rfl | rfl | rfl | rfl | rfl | rfl | rfl | rfl | rfl | rfl | rfl | rfl | rfl | rfl | rfl | rfl | rfl | rfl | rfl | rfl | rfl | rfl | rfl | rfl | rfl | rfl | rfl | rfl | rfl | rfl | rfl
  · exact ⟨_, rfl, fun H h => h⟩
  · exact ⟨_, rfl, fun H h => h⟩
  · exact ⟨_, rfl, fun H h => h⟩
  · exact ⟨_, rfl, fun H h => h⟩
  · exact ⟨_, rfl, fun H h => h⟩
  · exact ⟨_, rfl, fun H h => h⟩
  · exact ⟨_, rfl, fun H h => h⟩
  · refine ⟨_, rfl, fun H h => ?_⟩
    refine Eq.trans h (congrArg some (cell_G (cA := wG ω) (n := 16) (fun j hj => ?_)))
    have e1 : wh (om ω (na :: nb :: ia :: ib :: gl) t t2 A r c p) (32 + 8 * j) = (gl.getD j (fun _ => 0)) 0 := by
      show hh _ t t2 (32 + 8 * j) = _
      unfold hh
      rw [if_pos (by omega), show (32 + 8 * j) / 8 = j + 4 by omega, show (32 + 8 * j) % 8 = 0 by omega]
      rfl
    rw [e1, List.getD_eq_getElem?_getD, List.getElem?_eq_getElem (by omega)]
    simp only [arF]
    rw [List.getElem?_eq_getElem (by omega)]
    rfl
  · refine ⟨_, rfl, fun H h => ?_⟩
    refine Eq.trans h (congrArg some (cell_G (cA := wG ω) (n := 2) (fun j hj => ?_)))
    rcases (show j = 0 ∨ j = 1 by omega) with rfl | rfl <;> rfl
  · exact ⟨_, rfl, fun H h => h⟩
  · exact ⟨_, rfl, fun H h => h⟩
  · exact ⟨_, rfl, fun H h => h⟩
  · exact ⟨_, rfl, fun H h => h⟩
  · exact ⟨_, rfl, fun H h => h⟩
  · exact ⟨_, rfl, fun H h => h⟩
  · exact ⟨_, rfl, fun H h => h⟩
  · exact ⟨_, rfl, fun H h => h⟩
  · exact ⟨_, rfl, fun H h => h⟩
  · exact ⟨_, rfl, fun H h => h⟩
  · exact ⟨_, rfl, fun H h => h⟩
  · exact ⟨_, rfl, fun H h => h⟩
  · exact ⟨_, rfl, fun H h => h⟩
  · exact ⟨_, rfl, fun H h => h⟩
  · exact ⟨_, rfl, fun H h => h⟩
  · exact ⟨_, rfl, fun H h => h⟩
  · exact ⟨_, rfl, fun H h => h⟩
  · exact ⟨_, rfl, fun H h => h⟩
  · exact ⟨_, rfl, fun H h => h⟩
  · exact ⟨_, rfl, fun H h => h⟩
  · exact ⟨_, rfl, fun H h => h⟩
  · exact ⟨_, rfl, fun H h => h⟩
  · exact ⟨_, rfl, fun H h => h⟩
  · exact ⟨_, rfl, fun H h => h⟩
  · exact ⟨_, rfl, fun H h => h⟩
  · exact ⟨_, rfl, fun H h => h⟩
  · exact ⟨_, rfl, fun H h => h⟩
  · exact ⟨_, rfl, fun H h => h⟩
  · exact ⟨_, rfl, fun H h => h⟩
  · exact ⟨_, rfl, fun H h => h⟩
  · exact ⟨_, rfl, fun H h => h⟩
  · exact ⟨_, rfl, fun H h => h⟩
  · exact ⟨_, rfl, fun H h => h⟩
  · exact ⟨_, rfl, fun H h => h⟩
  · exact ⟨_, rfl, fun H h => h⟩
  · exact ⟨_, rfl, fun H h => h⟩
theorem cov (hgl : gl.length = 16) {k : Nat} (hk : k < 205) : ∃ e : va_E, ((na :: nb :: ia :: ib :: gl).flatMap (grp ω) ++ (tlX7 ω t (na 0) (nb 0) gl [ia, ib] ++ tlX8 ω t2))[k]? = some (wh (om ω (na :: nb :: ia :: ib :: gl) t t2 A r c p) k, e) ∧ ∀ H : Heap, va_at (wD ω) cls (wh (om ω (na :: nb :: ia :: ib :: gl) t t2 A r c p) k, e) H → va_at (wD ω) cls (wh (om ω (na :: nb :: ia :: ib :: gl) t t2 A r c p) k, ceJ (om ω (na :: nb :: ia :: ib :: gl) t t2 A r c p) k (sg0 k)) H := by
  have hl : ((na :: nb :: ia :: ib :: gl).flatMap (grp ω)).length = 160 := by rw [fl_len]; simp [hgl]
  by_cases h : k < 160
  · rw [List.getElem?_append_left (by rw [hl]; exact h)]
    obtain ⟨e, h1, h2⟩ := cov_g (ω := ω) (t := t) (t2 := t2) (A := A) (r := r) (c := c) (p := p) (na := na) (nb := nb) (ia := ia) (ib := ib) hgl h
    exact ⟨e, h1, fun H z => by rw [← h2]; exact z⟩
  · obtain ⟨m, rfl⟩ : ∃ m, k = 160 + m := ⟨k - 160, by omega⟩
    rw [List.getElem?_append_right (by rw [hl]; omega), hl, show 160 + m - 160 = m by omega]
    exact cov_t hgl (by omega)
theorem cov_P (hgl : gl.length = 16) {H : Heap} (hP : va_P (wD ω) cls ((na :: nb :: ia :: ib :: gl).flatMap (grp ω) ++ (tlX7 ω t (na 0) (nb 0) gl [ia, ib] ++ tlX8 ω t2)) H) : va_P (wD (om ω (na :: nb :: ia :: ib :: gl) t t2 A r c p)) cls (wl (om ω (na :: nb :: ia :: ib :: gl) t t2 A r c p) sg0) H := by
  intro k q hq
  obtain ⟨hk, rfl⟩ := wl_inv hq
  obtain ⟨e, h1, h2⟩ := cov (ω := ω) (t := t) (t2 := t2) (A := A) (r := r) (c := c) (p := p) (na := na) (nb := nb) (ia := ia) (ib := ib) hgl hk
  exact h2 H (hP k _ h1)
theorem cov_D (hgl : gl.length = 16) (hD : va_D A ((na :: nb :: ia :: ib :: gl).flatMap (grp ω) ++ (tlX7 ω t (na 0) (nb 0) gl [ia, ib] ++ tlX8 ω t2))) : WD (om ω (na :: nb :: ia :: ib :: gl) t t2 A r c p) := by
  refine ⟨fun i j hi hj e => ?_, fun j hj => ?_⟩
  · obtain ⟨a, h1, -⟩ := cov (ω := ω) (t := t) (t2 := t2) (A := A) (r := r) (c := c) (p := p) (na := na) (nb := nb) (ia := ia) (ib := ib) hgl hi
    obtain ⟨b, h2, -⟩ := cov (ω := ω) (t := t) (t2 := t2) (A := A) (r := r) (c := c) (p := p) (na := na) (nb := nb) (ia := ia) (ib := ib) hgl hj
    exact hD.1 i j _ _ h1 h2 e
  · obtain ⟨a, h1, -⟩ := cov (ω := ω) (t := t) (t2 := t2) (A := A) (r := r) (c := c) (p := p) (na := na) (nb := nb) (ia := ia) (ib := ib) hgl hj
    exact hD.2 j _ h1
end COV
/-! ===== what the statement gives of the start ===== -/
theorem ao_G {args : Array Value} {s : State} (h : ∀ w ∈ lw_tbl, w.before args s = true) : va_AO RX3 s := va_AO.of (h (.arrayOver (.object "SkittleGentry$Gentry")) (List.mem_append_right _ (List.mem_of_getElem? (i := 133) (by decide +kernel))))
theorem kb_of {args : Array Value} {s : State} (h : ∀ w ∈ lw_tbl, w.before args s = true) : ∃ ω : Wd, KB ω s := by
  have htb : ∀ w ∈ tb, w.before args s = true := fun w hw => h w (List.mem_filter.mp hw).1
  obtain ⟨c0, i0, k0⟩ := u_known (C := RX0) (T := TX0) (N := 7) (n := 7) htb uw_X0 (htb _ is_RX0)
  obtain ⟨c1, i1, k1⟩ := u_known (C := RX1) (T := TX1) (N := 3) (n := 3) htb uw_X1 (htb _ is_RX1)
  obtain ⟨c2, i2, k2⟩ := u_known (C := RX2) (T := TX2) (N := 10) (n := 10) htb uw_X2 (htb _ is_RX2)
  obtain ⟨c3, i3, k3⟩ := u_known (C := RX3) (T := TX3) (N := 12) (n := 12) htb uw_X3 (htb _ is_RX3)
  obtain ⟨c4, i4, k4⟩ := u_known (C := RX4) (T := TX4) (N := 3) (n := 3) htb uw_X4 (htb _ is_RX4)
  obtain ⟨c5, i5, k5⟩ := u_known (C := RX5) (T := TX5) (N := 8) (n := 8) htb uw_X5 (htb _ is_RX5)
  obtain ⟨c6, i6, k6⟩ := u_known (C := RX6) (T := TX6) (N := 2) (n := 2) htb uw_X6 (htb _ is_RX6)
  obtain ⟨c7, i7, k7⟩ := u_known (C := RX7) (T := TX7) (N := 13) (n := 13) htb uw_X7 (htb _ is_RX7)
  obtain ⟨c8, i8, k8⟩ := u_known (C := RX8) (T := TX8) (N := 35) (n := 35) htb uw_X8 (htb _ is_RX8)
  obtain ⟨cI, kI, pI, a1, a2, a3⟩ := Cond.arrayClass_spec (htb _ ac_I)
  obtain ⟨cZ, kZ, pZ, b1, b2, b3⟩ := Cond.arrayClass_spec (htb _ ac_Z)
  have hao := ao_G h
  obtain ⟨pG, cG, kG, g1, g2, g3, g4, g5⟩ := Cond.arrayOver_spec (args := #[]) (first := s) (o := none) (idx := []) hao
  refine ⟨((fun k => [c0, c1, c2, c3, c4, c5, c6, c7, c8].getD k c0, fun k => [i0, i1, i2, i3, i4, i5, i6, i7, i8].getD k i0), fun _ => 0, fun _ => True, cI, cZ, cG, 0, 0, 0), ⟨fun k q hq => ?_, fun k q hq => ?_⟩, fun w hw => nw_of hw (h w (List.mem_append_right _ (List.mem_filter.mp hw).1)), hao⟩
  · match k, hq with
    | 0, hq => cases hq; exact k0
    | 1, hq => cases hq; exact k1
    | 2, hq => cases hq; exact k2
    | 3, hq => cases hq; exact k3
    | 4, hq => cases hq; exact k4
    | 5, hq => cases hq; exact k5
    | 6, hq => cases hq; exact k6
    | 7, hq => cases hq; exact k7
    | 8, hq => cases hq; exact k8
    | k + 9, hq => simp [cls] at hq
  · match k, hq with
    | 0, hq => cases hq; exact ⟨fun n z => ⟨fun k h => (by cases h), kI, a2, pI, a3⟩, a1⟩
    | 1, hq => cases hq; exact ⟨fun n z => ⟨fun k h => (by cases h), kZ, b2, pZ, b3⟩, b1⟩
    | 2, hq => cases hq; exact ⟨fun n z => ⟨fun k h => (by cases h), kG, g3, pG, g4⟩, kG, pG, g3, g4, g1, g5⟩
    | k + 3, hq => simp at hq
theorem st_ROW_OF {args : Array Value} {s : State} {A : Nat → Prop} (h : ∀ w ∈ lw_tbl, w.before args s = true) (hg : (Jvm.Cond.and given_1 narrow_1).before args s = true) (hA : ∀ a : Nat, a < s.heap.size → ¬ A a) : ∃ r : Nat, va_Z RX7 "ROW_OF" "[I" (.ref r) A s s.heap ∧ va_T .int r 9 (fun j => .int (tROW j)) A s s.heap := by
  have hs := flat_of_before _ hg
  have htb : ∀ w ∈ tb, w.before args s = true := fun w hw => h w (List.mem_filter.mp hw).1
  have hel : ∀ j : Nat, j < 9 → (Term.elem (.static "SkittleGentry" "ROW_OF" "[I") (.int (Int32.ofNat j))).eval args s none [] s = some (.int (tROW j)) := by
    intro j hj
    rcases (show j = 0 ∨ j = 1 ∨ j = 2 ∨ j = 3 ∨ j = 4 ∨ j = 5 ∨ j = 6 ∨ j = 7 ∨ j = 8 by omega) with rfl | rfl | rfl | rfl | rfl | rfl | rfl | rfl | rfl
    · exact va_eqt (t := .elem (.static "SkittleGentry" "ROW_OF" "[I") (.int 0)) (z := 0) (hs _ (by decide +kernel))
    · exact va_eqt (t := .elem (.static "SkittleGentry" "ROW_OF" "[I") (.int 1)) (z := 1) (hs _ (by decide +kernel))
    · exact va_eqt (t := .elem (.static "SkittleGentry" "ROW_OF" "[I") (.int 2)) (z := 1) (hs _ (by decide +kernel))
    · exact va_eqt (t := .elem (.static "SkittleGentry" "ROW_OF" "[I") (.int 3)) (z := 2) (hs _ (by decide +kernel))
    · exact va_eqt (t := .elem (.static "SkittleGentry" "ROW_OF" "[I") (.int 4)) (z := 2) (hs _ (by decide +kernel))
    · exact va_eqt (t := .elem (.static "SkittleGentry" "ROW_OF" "[I") (.int 5)) (z := 2) (hs _ (by decide +kernel))
    · exact va_eqt (t := .elem (.static "SkittleGentry" "ROW_OF" "[I") (.int 6)) (z := 3) (hs _ (by decide +kernel))
    · exact va_eqt (t := .elem (.static "SkittleGentry" "ROW_OF" "[I") (.int 7)) (z := 3) (hs _ (by decide +kernel))
    · exact va_eqt (t := .elem (.static "SkittleGentry" "ROW_OF" "[I") (.int 8)) (z := 4) (hs _ (by decide +kernel))
  obtain ⟨r, hv, hT⟩ := va_Tof (args := args) (s := s) (tm := .static "SkittleGentry" "ROW_OF" "[I") (ty := .int) (N := 9) (f := fun j => .int (tROW j)) (A := A) (by decide) (hs _ (by decide +kernel)) (va_eqt (z := 9) (hs _ (by decide +kernel))) hel hA
  exact ⟨r, va_Zref (h (.laysStatic "SkittleGentry" "ROW_OF" "[I") (List.mem_append_right _ (List.mem_of_getElem? (i := 470) (by decide +kernel)))) (htb _ in_RX7) hv hA, hT⟩
theorem st_COLUMN_OF {args : Array Value} {s : State} {A : Nat → Prop} (h : ∀ w ∈ lw_tbl, w.before args s = true) (hg : (Jvm.Cond.and given_1 narrow_1).before args s = true) (hA : ∀ a : Nat, a < s.heap.size → ¬ A a) : ∃ r : Nat, va_Z RX7 "COLUMN_OF" "[I" (.ref r) A s s.heap ∧ va_T .int r 9 (fun j => .int (tCOL j)) A s s.heap := by
  have hs := flat_of_before _ hg
  have htb : ∀ w ∈ tb, w.before args s = true := fun w hw => h w (List.mem_filter.mp hw).1
  have hel : ∀ j : Nat, j < 9 → (Term.elem (.static "SkittleGentry" "COLUMN_OF" "[I") (.int (Int32.ofNat j))).eval args s none [] s = some (.int (tCOL j)) := by
    intro j hj
    rcases (show j = 0 ∨ j = 1 ∨ j = 2 ∨ j = 3 ∨ j = 4 ∨ j = 5 ∨ j = 6 ∨ j = 7 ∨ j = 8 by omega) with rfl | rfl | rfl | rfl | rfl | rfl | rfl | rfl | rfl
    · exact va_eqt (t := .elem (.static "SkittleGentry" "COLUMN_OF" "[I") (.int 0)) (z := 2) (hs _ (by decide +kernel))
    · exact va_eqt (t := .elem (.static "SkittleGentry" "COLUMN_OF" "[I") (.int 1)) (z := 1) (hs _ (by decide +kernel))
    · exact va_eqt (t := .elem (.static "SkittleGentry" "COLUMN_OF" "[I") (.int 2)) (z := 3) (hs _ (by decide +kernel))
    · exact va_eqt (t := .elem (.static "SkittleGentry" "COLUMN_OF" "[I") (.int 3)) (z := 0) (hs _ (by decide +kernel))
    · exact va_eqt (t := .elem (.static "SkittleGentry" "COLUMN_OF" "[I") (.int 4)) (z := 2) (hs _ (by decide +kernel))
    · exact va_eqt (t := .elem (.static "SkittleGentry" "COLUMN_OF" "[I") (.int 5)) (z := 4) (hs _ (by decide +kernel))
    · exact va_eqt (t := .elem (.static "SkittleGentry" "COLUMN_OF" "[I") (.int 6)) (z := 1) (hs _ (by decide +kernel))
    · exact va_eqt (t := .elem (.static "SkittleGentry" "COLUMN_OF" "[I") (.int 7)) (z := 3) (hs _ (by decide +kernel))
    · exact va_eqt (t := .elem (.static "SkittleGentry" "COLUMN_OF" "[I") (.int 8)) (z := 2) (hs _ (by decide +kernel))
  obtain ⟨r, hv, hT⟩ := va_Tof (args := args) (s := s) (tm := .static "SkittleGentry" "COLUMN_OF" "[I") (ty := .int) (N := 9) (f := fun j => .int (tCOL j)) (A := A) (by decide) (hs _ (by decide +kernel)) (va_eqt (z := 9) (hs _ (by decide +kernel))) hel hA
  exact ⟨r, va_Zref (h (.laysStatic "SkittleGentry" "COLUMN_OF" "[I") (List.mem_append_right _ (List.mem_of_getElem? (i := 475) (by decide +kernel)))) (htb _ in_RX7) hv hA, hT⟩
theorem st_PLATE_AT {args : Array Value} {s : State} {A : Nat → Prop} (h : ∀ w ∈ lw_tbl, w.before args s = true) (hg : (Jvm.Cond.and given_1 narrow_1).before args s = true) (hA : ∀ a : Nat, a < s.heap.size → ¬ A a) : ∃ r : Nat, va_Z RX7 "PLATE_AT" "[I" (.ref r) A s s.heap ∧ va_T .int r 25 (fun j => .int (tPLA j)) A s s.heap := by
  have hs := flat_of_before _ hg
  have htb : ∀ w ∈ tb, w.before args s = true := fun w hw => h w (List.mem_filter.mp hw).1
  have hel : ∀ j : Nat, j < 25 → (Term.elem (.static "SkittleGentry" "PLATE_AT" "[I") (.int (Int32.ofNat j))).eval args s none [] s = some (.int (tPLA j)) := by
    intro j hj
    rcases (show j = 0 ∨ j = 1 ∨ j = 2 ∨ j = 3 ∨ j = 4 ∨ j = 5 ∨ j = 6 ∨ j = 7 ∨ j = 8 ∨ j = 9 ∨ j = 10 ∨ j = 11 ∨ j = 12 ∨ j = 13 ∨ j = 14 ∨ j = 15 ∨ j = 16 ∨ j = 17 ∨ j = 18 ∨ j = 19 ∨ j = 20 ∨ j = 21 ∨ j = 22 ∨ j = 23 ∨ j = 24 by omega) with rfl | rfl | rfl | rfl | rfl | rfl | rfl | rfl | rfl | rfl | rfl | rfl | rfl | rfl | rfl | rfl | rfl | rfl | rfl | rfl | rfl | rfl | rfl | rfl | rfl
    · exact va_eqt (t := .elem (.static "SkittleGentry" "PLATE_AT" "[I") (.int 0)) (z := -1) (hs _ (by decide +kernel))
    · exact va_eqt (t := .elem (.static "SkittleGentry" "PLATE_AT" "[I") (.int 1)) (z := -1) (hs _ (by decide +kernel))
    · exact va_eqt (t := .elem (.static "SkittleGentry" "PLATE_AT" "[I") (.int 2)) (z := 0) (hs _ (by decide +kernel))
    · exact va_eqt (t := .elem (.static "SkittleGentry" "PLATE_AT" "[I") (.int 3)) (z := -1) (hs _ (by decide +kernel))
    · exact va_eqt (t := .elem (.static "SkittleGentry" "PLATE_AT" "[I") (.int 4)) (z := -1) (hs _ (by decide +kernel))
    · exact va_eqt (t := .elem (.static "SkittleGentry" "PLATE_AT" "[I") (.int 5)) (z := -1) (hs _ (by decide +kernel))
    · exact va_eqt (t := .elem (.static "SkittleGentry" "PLATE_AT" "[I") (.int 6)) (z := 1) (hs _ (by decide +kernel))
    · exact va_eqt (t := .elem (.static "SkittleGentry" "PLATE_AT" "[I") (.int 7)) (z := -1) (hs _ (by decide +kernel))
    · exact va_eqt (t := .elem (.static "SkittleGentry" "PLATE_AT" "[I") (.int 8)) (z := 2) (hs _ (by decide +kernel))
    · exact va_eqt (t := .elem (.static "SkittleGentry" "PLATE_AT" "[I") (.int 9)) (z := -1) (hs _ (by decide +kernel))
    · exact va_eqt (t := .elem (.static "SkittleGentry" "PLATE_AT" "[I") (.int 10)) (z := 3) (hs _ (by decide +kernel))
    · exact va_eqt (t := .elem (.static "SkittleGentry" "PLATE_AT" "[I") (.int 11)) (z := -1) (hs _ (by decide +kernel))
    · exact va_eqt (t := .elem (.static "SkittleGentry" "PLATE_AT" "[I") (.int 12)) (z := 4) (hs _ (by decide +kernel))
    · exact va_eqt (t := .elem (.static "SkittleGentry" "PLATE_AT" "[I") (.int 13)) (z := -1) (hs _ (by decide +kernel))
    · exact va_eqt (t := .elem (.static "SkittleGentry" "PLATE_AT" "[I") (.int 14)) (z := 5) (hs _ (by decide +kernel))
    · exact va_eqt (t := .elem (.static "SkittleGentry" "PLATE_AT" "[I") (.int 15)) (z := -1) (hs _ (by decide +kernel))
    · exact va_eqt (t := .elem (.static "SkittleGentry" "PLATE_AT" "[I") (.int 16)) (z := 6) (hs _ (by decide +kernel))
    · exact va_eqt (t := .elem (.static "SkittleGentry" "PLATE_AT" "[I") (.int 17)) (z := -1) (hs _ (by decide +kernel))
    · exact va_eqt (t := .elem (.static "SkittleGentry" "PLATE_AT" "[I") (.int 18)) (z := 7) (hs _ (by decide +kernel))
    · exact va_eqt (t := .elem (.static "SkittleGentry" "PLATE_AT" "[I") (.int 19)) (z := -1) (hs _ (by decide +kernel))
    · exact va_eqt (t := .elem (.static "SkittleGentry" "PLATE_AT" "[I") (.int 20)) (z := -1) (hs _ (by decide +kernel))
    · exact va_eqt (t := .elem (.static "SkittleGentry" "PLATE_AT" "[I") (.int 21)) (z := -1) (hs _ (by decide +kernel))
    · exact va_eqt (t := .elem (.static "SkittleGentry" "PLATE_AT" "[I") (.int 22)) (z := 8) (hs _ (by decide +kernel))
    · exact va_eqt (t := .elem (.static "SkittleGentry" "PLATE_AT" "[I") (.int 23)) (z := -1) (hs _ (by decide +kernel))
    · exact va_eqt (t := .elem (.static "SkittleGentry" "PLATE_AT" "[I") (.int 24)) (z := -1) (hs _ (by decide +kernel))
  obtain ⟨r, hv, hT⟩ := va_Tof (args := args) (s := s) (tm := .static "SkittleGentry" "PLATE_AT" "[I") (ty := .int) (N := 25) (f := fun j => .int (tPLA j)) (A := A) (by decide) (hs _ (by decide +kernel)) (va_eqt (z := 25) (hs _ (by decide +kernel))) hel hA
  exact ⟨r, va_Zref (h (.laysStatic "SkittleGentry" "PLATE_AT" "[I") (List.mem_append_right _ (List.mem_of_getElem? (i := 398) (by decide +kernel)))) (htb _ in_RX7) hv hA, hT⟩
