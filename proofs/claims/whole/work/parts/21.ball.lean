/-! ===== a ball: who stands, how many rocked, who rocked how often, who was taken by whom ===== -/
abbrev BS : Type := Int32 × Int32 × (Nat → Int32) × (Nat → Int32)
def rkF (s : Int32) (b : BS) : BS := (b.1, b.2.1 + 1, upd b.2.2.1 s.toNatClampNeg (b.2.2.1 s.toNatClampNeg + 1), b.2.2.2)
def dnF (s y : Int32) (b : BS) : BS := (b.1 &&& (((1 : Int32) <<< (s &&& 31)) ^^^ -1), b.2.1, b.2.2.1, upd b.2.2.2 s.toNatClampNeg y)
def stF (T : Int32 → Int32 → Int32 → Int32 → Int32 → BS → BS) (on bear : Nat → Int32) (y row col n : Int32) (b : BS) : BS :=
  if whoF on b.1 row col = -1 then b else if bear (whoF on b.1 row col).toNatClampNeg ≤ n then T (whoF on b.1 row col) y row col n b else rkF (whoF on b.1 row col) b
def tpF (on bear : Nat → Int32) : Nat → Int32 → Int32 → Int32 → Int32 → Int32 → BS → BS
  | 0, _, _, _, _, _, b => b
  | d + 1, s, y, row, col, n, b => if n / 2 < 1 then dnF s y b else if 5 ≤ row + 1 then dnF s y b else
      stF (tpF on bear d) on bear s (row + 1) (col + 1) (n / 2) (stF (tpF on bear d) on bear s (row + 1) (col - 1) (n / 2) (dnF s y b))
/-- one row of the way: what pace is left, and the pins -/
def mtF (on bear : Nat → Int32) (row col n : Int32) (b : BS) : Int32 × BS :=
  if whoF on b.1 row col = -1 then (n, b) else if bear (whoF on b.1 row col).toNatClampNeg ≤ n then (n - bear (whoF on b.1 row col).toNatClampNeg / 2 - 1, tpF on bear 6 (whoF on b.1 row col) (-1) row col n b) else (0, rkF (whoF on b.1 row col) b)
/-- all rows from r on: the pins, and where the ball stays -/
def rwF (on bear : Nat → Int32) (drag line slant : Int32) : Nat → Nat → Int32 → BS → BS × Int32
  | 0, _, _, b => (b, -1)
  | m + 1, r, n, b => if 0 < (mtF on bear (nI r) (line + nI r * (slant - 1)) n b).1 - drag then rwF on bear drag line slant m (r + 1) ((mtF on bear (nI r) (line + nI r * (slant - 1)) n b).1 - drag) (mtF on bear (nI r) (line + nI r * (slant - 1)) n b).2 else ((mtF on bear (nI r) (line + nI r * (slant - 1)) n b).2, nI r)
def blF (on bear : Nat → Int32) (drag line slant pace up : Int32) (ro tk : Nat → Int32) : BS × Int32 := rwF on bear drag line slant 5 0 pace (up, 0, ro, tk)
theorem upd_id (f : Nat → Int32) (k : Nat) : upd f k (f k) = f := by
  funext j; unfold upd; split
  · rename_i h; rw [h]
  · rfl
def pR (σ : St) (b : BS) : St := fun j k => if j = 171 then (if k = 5 then b.1 else if k = 6 then b.2.1 else σ j k) else if j = 175 then b.2.2.1 k else if j = 174 then b.2.2.2 k else σ j k
def gR (σ : St) : BS := (σ 171 5, σ 171 6, σ 175, σ 174)
theorem pR_g (σ : St) : pR σ (gR σ) = σ := by
  funext j k
  unfold pR gR
  by_cases h1 : j = 171
  · subst h1
    by_cases h2 : k = 5
    · subst h2; rfl
    · by_cases h3 : k = 6
      · subst h3; rfl
      · simp [h2, h3]
  · by_cases h2 : j = 175
    · subst h2; rfl
    · by_cases h3 : j = 174
      · subst h3; rfl
      · simp [h1, h2, h3]
theorem gR_p (σ : St) (b : BS) : gR (pR σ b) = b := rfl
theorem pR_p (σ : St) (b b' : BS) : pR (pR σ b) b' = pR σ b' := by
  funext j k
  unfold pR
  by_cases h1 : j = 171 <;> by_cases h2 : j = 175 <;> by_cases h3 : j = 174 <;> by_cases h4 : k = 5 <;> by_cases h5 : k = 6 <;> simp [h1, h2, h3, h4, h5]
theorem pR_1 (σ : St) (b : BS) (v : Int32) : su (pR σ b) 171 5 v = pR σ (v, b.2) := by
  funext j k
  rw [su_ap]
  unfold pR
  by_cases h1 : j = 171 <;> by_cases h2 : j = 175 <;> by_cases h3 : j = 174 <;> by_cases h4 : k = 5 <;> by_cases h5 : k = 6 <;> simp [h1, h2, h3, h4, h5]
theorem pR_2 (σ : St) (b : BS) (v : Int32) : su (pR σ b) 171 6 v = pR σ (b.1, v, b.2.2) := by
  funext j k
  rw [su_ap]
  unfold pR
  by_cases h1 : j = 171 <;> by_cases h2 : j = 175 <;> by_cases h3 : j = 174 <;> by_cases h4 : k = 5 <;> by_cases h5 : k = 6 <;> simp [h1, h2, h3, h4, h5]
theorem pR_3 (σ : St) (b : BS) (i : Nat) (v : Int32) : su (pR σ b) 175 i v = pR σ (b.1, b.2.1, upd b.2.2.1 i v, b.2.2.2) := by
  funext j k
  rw [su_ap]
  unfold pR upd
  by_cases h1 : j = 171 <;> by_cases h2 : j = 175 <;> by_cases h3 : j = 174 <;> by_cases h4 : k = i <;> simp [h1, h2, h3, h4]
theorem pR_4 (σ : St) (b : BS) (i : Nat) (v : Int32) : su (pR σ b) 174 i v = pR σ (b.1, b.2.1, b.2.2.1, upd b.2.2.2 i v) := by
  funext j k
  rw [su_ap]
  unfold pR upd
  by_cases h1 : j = 171 <;> by_cases h2 : j = 175 <;> by_cases h3 : j = 174 <;> by_cases h4 : k = i <;> simp [h1, h2, h3, h4]
theorem pR_o (σ : St) (b : BS) {q : Nat} (h1 : q ≠ 171) (h2 : q ≠ 175) (h3 : q ≠ 174) : pR σ b q = σ q := by
  funext k
  unfold pR
  rw [if_neg h1, if_neg h2, if_neg h3]
theorem pR_f (σ : St) (b : BS) {k : Nat} (h1 : k ≠ 5) (h2 : k ≠ 6) : pR σ b 171 k = σ 171 k := by
  unfold pR
  rw [if_pos rfl, if_neg h1, if_neg h2]
theorem pR_c (σ : St) (b : BS) {q k : Nat} (v : Int32) (h : q ≠ 171 ∨ (k ≠ 5 ∧ k ≠ 6)) (h2 : q ≠ 175) (h3 : q ≠ 174) : su (pR σ b) q k v = pR (su σ q k v) b := by
  funext j i
  rw [su_ap]
  unfold pR
  rw [su_ap]
  by_cases e : j = q
  · subst e
    by_cases e2 : i = k
    · subst e2
      rcases h with h | ⟨h4, h5⟩
      · simp [h, h2, h3]
      · simp [h2, h3, h4, h5]
    · simp [e2]
  · simp [e]
def pM (σ : St) (b : BS) : St := fun j k => if j = 185 then (if k = 26 then b.1 else if k = 27 then b.2.1 else σ j k) else if j = 197 then b.2.2.1 k else if j = 198 then b.2.2.2 k else σ j k
def gM (σ : St) : BS := (σ 185 26, σ 185 27, σ 197, σ 198)
theorem pM_g (σ : St) : pM σ (gM σ) = σ := by
  funext j k
  unfold pM gM
  by_cases h1 : j = 185
  · subst h1
    by_cases h2 : k = 26
    · subst h2; rfl
    · by_cases h3 : k = 27
      · subst h3; rfl
      · simp [h2, h3]
  · by_cases h2 : j = 197
    · subst h2; rfl
    · by_cases h3 : j = 198
      · subst h3; rfl
      · simp [h1, h2, h3]
theorem gM_p (σ : St) (b : BS) : gM (pM σ b) = b := rfl
theorem pM_p (σ : St) (b b' : BS) : pM (pM σ b) b' = pM σ b' := by
  funext j k
  unfold pM
  by_cases h1 : j = 185 <;> by_cases h2 : j = 197 <;> by_cases h3 : j = 198 <;> by_cases h4 : k = 26 <;> by_cases h5 : k = 27 <;> simp [h1, h2, h3, h4, h5]
theorem pM_1 (σ : St) (b : BS) (v : Int32) : su (pM σ b) 185 26 v = pM σ (v, b.2) := by
  funext j k
  rw [su_ap]
  unfold pM
  by_cases h1 : j = 185 <;> by_cases h2 : j = 197 <;> by_cases h3 : j = 198 <;> by_cases h4 : k = 26 <;> by_cases h5 : k = 27 <;> simp [h1, h2, h3, h4, h5]
theorem pM_2 (σ : St) (b : BS) (v : Int32) : su (pM σ b) 185 27 v = pM σ (b.1, v, b.2.2) := by
  funext j k
  rw [su_ap]
  unfold pM
  by_cases h1 : j = 185 <;> by_cases h2 : j = 197 <;> by_cases h3 : j = 198 <;> by_cases h4 : k = 26 <;> by_cases h5 : k = 27 <;> simp [h1, h2, h3, h4, h5]
theorem pM_3 (σ : St) (b : BS) (i : Nat) (v : Int32) : su (pM σ b) 197 i v = pM σ (b.1, b.2.1, upd b.2.2.1 i v, b.2.2.2) := by
  funext j k
  rw [su_ap]
  unfold pM upd
  by_cases h1 : j = 185 <;> by_cases h2 : j = 197 <;> by_cases h3 : j = 198 <;> by_cases h4 : k = i <;> simp [h1, h2, h3, h4]
theorem pM_4 (σ : St) (b : BS) (i : Nat) (v : Int32) : su (pM σ b) 198 i v = pM σ (b.1, b.2.1, b.2.2.1, upd b.2.2.2 i v) := by
  funext j k
  rw [su_ap]
  unfold pM upd
  by_cases h1 : j = 185 <;> by_cases h2 : j = 197 <;> by_cases h3 : j = 198 <;> by_cases h4 : k = i <;> simp [h1, h2, h3, h4]
theorem pM_o (σ : St) (b : BS) {q : Nat} (h1 : q ≠ 185) (h2 : q ≠ 197) (h3 : q ≠ 198) : pM σ b q = σ q := by
  funext k
  unfold pM
  rw [if_neg h1, if_neg h2, if_neg h3]
theorem pM_f (σ : St) (b : BS) {k : Nat} (h1 : k ≠ 26) (h2 : k ≠ 27) : pM σ b 185 k = σ 185 k := by
  unfold pM
  rw [if_pos rfl, if_neg h1, if_neg h2]
theorem pM_c (σ : St) (b : BS) {q k : Nat} (v : Int32) (h : q ≠ 185 ∨ (k ≠ 26 ∧ k ≠ 27)) (h2 : q ≠ 197) (h3 : q ≠ 198) : su (pM σ b) q k v = pM (su σ q k v) b := by
  funext j i
  rw [su_ap]
  unfold pM
  rw [su_ap]
  by_cases e : j = q
  · subst e
    by_cases e2 : i = k
    · subst e2
      rcases h with h | ⟨h4, h5⟩
      · simp [h, h2, h3]
      · simp [h2, h3, h4, h5]
    · simp [e2]
  · simp [e]
/-! ===== the class's ball ===== -/
theorem s_rock {σ : St} {b : BS} {s : Int32} {P : St → Prop} (hs : vp_in s 9) (h : P (pR σ (rkF s b))) : w_X5_rock s (pR σ b) P := by
  refine ⟨hs, hs, bS ?_⟩
  have e : su (su (pR σ b) 171 6 ((pR σ b) 171 6 + 1)) 175 s.toNatClampNeg ((su (pR σ b) 171 6 ((pR σ b) 171 6 + 1)) 175 s.toNatClampNeg + 1) = pR σ (rkF s b) := by
    rw [pR_2, pR_3]; rfl
  rw [e]; exact h
theorem s_strike {σ : St} {T : Int32 → Int32 → Int32 → Int32 → Int32 → St → (St → Prop) → Prop} {F : Int32 → Int32 → Int32 → Int32 → Int32 → BS → BS} {y row col n : Int32} {b : BS} {P : St → Prop} (hT : ∀ (s : Int32) (b : BS) (P : St → Prop), vp_in s 9 → P (pR σ (F s y row col n b)) → T s y row col n (pR σ b) P)
    (h : P (pR σ (stF F (σ 172) (σ 173) y row col n b))) : w_X5_strike T y row col n (pR σ b) P := by
  unfold w_X5_strike
  refine s_who (σ := pR σ b) ?_
  show ((¬ whoF (σ 172) b.1 row col = -1 → _) ∧ (whoF (σ 172) b.1 row col = -1 → _))
  unfold stF at h
  refine ⟨fun c => ?_, fun c => ?_⟩
  · rw [if_neg c] at h
    have hv : vp_in (whoF (σ 172) b.1 row col) 9 := by
      rcases whoF_rng (σ 172) b.1 row col with e | ⟨s, hs, e, -⟩
      · exact absurd e c
      · rw [e]; exact in_nI hs
    refine ⟨hv, fun c2 => ?_, fun c2 => ?_⟩
    · have c2' : σ 173 (whoF (σ 172) b.1 row col).toNatClampNeg ≤ n := c2
      rw [if_pos c2'] at h
      exact hT _ _ _ hv h
    · have c2' : ¬ σ 173 (whoF (σ 172) b.1 row col).toNatClampNeg ≤ n := c2
      rw [if_neg c2'] at h
      exact s_rock hv h
  · rw [if_pos c] at h; exact h
theorem s_topple (σ : St) : ∀ (d r : Nat), r < 5 → 5 ≤ r + d → ∀ (s y col n : Int32) (b : BS) (P : St → Prop), vp_in s 9 → P (pR σ (tpF (σ 172) (σ 173) d s y (nI r) col n b)) → w_X5_topple d s y (nI r) col n (pR σ b) P := by
  intro d
  induction d with
  | zero => intro r h1 h2; omega
  | succ d ih =>
    intro r h1 h2 s y col n b P hs h
    unfold w_X5_topple
    unfold tpF at h
    have e : su (su (pR σ b) 171 5 ((pR σ b) 171 5 &&& (((1 : Int32) <<< (s &&& 31)) ^^^ (-1 : Int32)))) 174 s.toNatClampNeg y = pR σ (dnF s y b) := by
      rw [pR_1, pR_4]; rfl
    refine ⟨hs, bS ?_⟩
    rw [e]
    refine ⟨fun c => ?_, fun c => ⟨fun c2 => ?_, fun c2 => ?_⟩⟩
    · rw [if_pos c] at h; exact h
    · rw [if_neg c, if_pos c2] at h; exact h
    · rw [if_neg c, if_neg c2] at h
      have hr : r + 1 < 5 := by
        rcases Nat.lt_or_ge (r + 1) 5 with q | q
        · exact q
        · rw [nI_1] at c2
          exact absurd (nI_le (a := 5) q (by omega)) c2
      rw [nI_1] at h ⊢
      refine s_strike (F := tpF (σ 172) (σ 173) d) (fun s' b' P' hs' h' => ih (r + 1) hr (by omega) s' s _ _ b' P' hs' h') ?_
      exact s_strike (F := tpF (σ 172) (σ 173) d) (fun s' b' P' hs' h' => ih (r + 1) hr (by omega) s' s _ _ b' P' hs' h') h
theorem s_meet {σ : St} {r : Nat} (hr : r < 5) {col n : Int32} {b : BS} {P : Int32 → St → Prop} (h : P (mtF (σ 172) (σ 173) (nI r) col n b).1 (pR σ (mtF (σ 172) (σ 173) (nI r) col n b).2)) : w_X5_meet (nI r) col n (pR σ b) P := by
  unfold w_X5_meet
  refine s_who (σ := pR σ b) ?_
  show ((¬ whoF (σ 172) b.1 (nI r) col = -1 → _) ∧ (whoF (σ 172) b.1 (nI r) col = -1 → _))
  unfold mtF at h
  refine ⟨fun c => ?_, fun c => ?_⟩
  · rw [if_neg c] at h
    have hv : vp_in (whoF (σ 172) b.1 (nI r) col) 9 := by
      rcases whoF_rng (σ 172) b.1 (nI r) col with e | ⟨s, hs, e, -⟩
      · exact absurd e c
      · rw [e]; exact in_nI hs
    refine ⟨hv, fun c2 => ?_, fun c2 => ?_⟩
    · have c2' : σ 173 (whoF (σ 172) b.1 (nI r) col).toNatClampNeg ≤ n := c2
      rw [if_pos c2'] at h
      exact s_topple σ 6 r hr (by omega) _ _ _ _ _ _ hv ⟨hv, h⟩
    · have c2' : ¬ σ 173 (whoF (σ 172) b.1 (nI r) col).toNatClampNeg ≤ n := c2
      rw [if_neg c2'] at h
      exact s_rock hv h
  · rw [if_pos c] at h; exact h
theorem s_send_loop (σ : St) (line slant pace up : Int32) (P : Int32 → St → Prop) (hst : σ 171 7 = -1) : ∀ (m r : Nat) (n : Int32) (b : BS), r + m = 5 → P (up &&& ((rwF (σ 172) (σ 173) (σ 171 4) line slant m r n b).1.1 ^^^ -1)) (pR (su σ 171 7 (rwF (σ 172) (σ 173) (σ 171 4) line slant m r n b).2) (rwF (σ 172) (σ 173) (σ 171 4) line slant m r n b).1) → w_X5_send_b22 line slant pace up P (m + 2) n (nI r) (pR σ b) := by
  intro m
  induction m with
  | zero =>
    intro r n b hr h
    have e : r = 5 := by omega
    subst e
    unfold w_X5_send_b22
    refine ⟨fun _ => ?_, fun c => absurd (by decide) c⟩
    unfold w_X5_send_b76
    have e2 : su σ 171 7 (-1) = σ := by
      funext j k; rw [su_ap]; split
      · rename_i h1; subst h1; split
        · rename_i h2; subst h2; exact hst.symm
        · rfl
      · rfl
    unfold rwF at h
    rw [e2] at h
    exact h
  | succ m ih =>
    intro r n b hr h
    unfold w_X5_send_b22
    refine ⟨fun c => absurd c (nI_ge (a := r) (b := 5) (by omega) (by decide)), fun _ => ⟨fun c => absurd hst c, fun _ => ?_⟩⟩
    refine s_meet (by omega) ?_
    unfold rwF at h
    refine ⟨fun c => ?_, fun c => ?_⟩
    · have c' : 0 < (mtF (σ 172) (σ 173) (nI r) (line + nI r * (slant - 1)) n b).1 - σ 171 4 := c
      rw [if_pos c'] at h
      unfold w_X5_send_b70
      rw [nI_1]
      exact ih (r + 1) _ _ (by omega) h
    · have c' : ¬ 0 < (mtF (σ 172) (σ 173) (nI r) (line + nI r * (slant - 1)) n b).1 - σ 171 4 := c
      rw [if_neg c'] at h
      unfold w_X5_send_b70
      rw [nI_1, pR_c _ _ _ (Or.inr ⟨by decide, by decide⟩) (by decide) (by decide)]
      unfold w_X5_send_b22
      refine ⟨fun _ => ?_, fun _ => ⟨fun _ => ?_, fun c2 => ?_⟩⟩
      · unfold w_X5_send_b76; exact h
      · unfold w_X5_send_b76; exact h
      · exfalso
        have e3 : pR (su σ 171 7 (nI r)) (mtF (σ 172) (σ 173) (nI r) (line + nI r * (slant - 1)) n b).2 171 7 = nI r := by
          rw [pR_f _ _ (by decide) (by decide), su_s]
        have c3 : nI r = -1 := e3.symm.trans c2
        have c4 : ¬ nI r < 0 := nI_pos (by omega)
        rw [c3] at c4
        exact c4 (by decide)
theorem s_send {σ : St} {line slant pace up : Int32} {P : Int32 → St → Prop} (h : P (up &&& ((blF (σ 172) (σ 173) (σ 171 4) line slant pace up (σ 175) (σ 174)).1.1 ^^^ -1)) (pR (su σ 171 7 (blF (σ 172) (σ 173) (σ 171 4) line slant pace up (σ 175) (σ 174)).2) (blF (σ 172) (σ 173) (σ 171 4) line slant pace up (σ 175) (σ 174)).1)) : w_X5_send line slant pace up σ P := by
  refine ⟨7, ?_⟩
  have e : su (su (su σ 171 5 up) 171 6 (0 : Int32)) 171 7 (-1 : Int32) = pR (su σ 171 7 (-1)) (up, 0, σ 175, σ 174) := by
    funext j k
    unfold pR
    simp only [su_ap]
    by_cases h1 : j = 171 <;> by_cases h2 : j = 175 <;> by_cases h3 : j = 174 <;> by_cases h4 : k = 5 <;> by_cases h5 : k = 6 <;> by_cases h6 : k = 7 <;> simp [h1, h2, h3, h4, h5, h6]
  rw [e]
  have e2 : ∀ v, su (su σ 171 7 (-1)) 171 7 v = su σ 171 7 v := by
    intro v; funext j k; simp only [su_ap]; by_cases h1 : j = 171 <;> by_cases h6 : k = 7 <;> simp [h1, h6]
  have h' := h
  unfold blF at h'
  refine s_send_loop (su σ 171 7 (-1)) line slant pace up P su_s 5 0 pace _ (by omega) ?_
  rw [e2, su_q (σ := σ) (q := 171) (q' := 172) (by decide), su_q (σ := σ) (q := 171) (q' := 173) (by decide), su_k (σ := σ) (q := 171) (k := 7) (k' := 4) (by decide)]
  exact h'

