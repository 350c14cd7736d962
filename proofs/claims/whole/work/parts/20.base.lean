/-! ===== pure rows: states, small numbers ===== -/
theorem su_s {σ : St} {q k : Nat} {v : Int32} : su σ q k v q k = v := by simp [su, sa, upd]
theorem su_k {σ : St} {q k k' : Nat} {v : Int32} (h : k' ≠ k) : su σ q k v q k' = σ q k' := by simp [su, sa, upd, h]
theorem su_q {σ : St} {q k q' : Nat} {v : Int32} (h : q' ≠ q) : su σ q k v q' = σ q' := by simp [su, sa, h]
theorem su_ap {σ : St} {q k q' k' : Nat} {v : Int32} : su σ q k v q' k' = if q' = q then (if k' = k then v else σ q' k') else σ q' k' := by
  by_cases h : q' = q
  · subst h; by_cases h2 : k' = k <;> simp [su, sa, upd, h2]
  · simp [su, sa, h]
theorem rg {x : Int32} {n : Nat} (hn : n < 2 ^ 31) (h1 : ¬ x < 0) (h2 : ¬ nI n ≤ x) : ∃ r : Nat, r < n ∧ x = nI r := by
  rcases pk_ix x hn with h | h | h
  · exact absurd h h1
  · exact absurd h h2
  · exact h
theorem i32nle {a b : Int32} (h : ¬ a ≤ b) : b < a := Int32.not_le.mp h
theorem i32nlt {a b : Int32} (h : ¬ a < b) : b ≤ a := Int32.not_lt.mp h
theorem i32ltn {a b : Int32} (h : a < b) : ¬ b ≤ a := Int32.not_le.mpr h
theorem i32len {a b : Int32} (h : a ≤ b) : ¬ b < a := Int32.not_lt.mpr h
theorem bI {e : Int32} {F : Int32 → Prop} (h : F e) : bindI e F := h
theorem bS {e : St} {F : St → Prop} (h : F e) : bindS e F := h
theorem bL {e : Int64} {F : Int64 → Prop} (h : F e) : bindL e F := h
theorem cl_nI {n : Nat} (h : n < 2 ^ 31) : (nI n).toNatClampNeg = n := nI_clamp h
theorem in_nI {n N : Nat} (h : n < N) (hN : N < 2 ^ 31 := by decide) : vp_in (nI n) N := vp_in_nI h hN
/-- what a boolean answers -/
theorem dec9 {p : Nat} {Q : Nat → Prop} (h : ∀ q : Fin 9, Q q.val) (hp : p < 9) : Q p := h ⟨p, hp⟩
theorem dec5 {p : Nat} {Q : Nat → Prop} (h : ∀ q : Fin 5, Q q.val) (hp : p < 5) : Q p := h ⟨p, hp⟩
/-- the plate in a row and a column, or -1 -/
def plT (row col : Int32) : Int32 := if row < 0 ∨ 5 ≤ row ∨ col < 0 ∨ 5 ≤ col then -1 else tPLA (row * 5 + col).toNatClampNeg
theorem plT_in : ∀ r : Fin 5, ∀ c : Fin 5, vp_in (nI r.val * 5 + nI c.val) 25 ∧ (plT (nI r.val) (nI c.val) = -1 ∨ ∃ p : Fin 9, plT (nI r.val) (nI c.val) = nI p.val ∧ tROW p.val = nI r.val ∧ tCOL p.val = nI c.val) := by
  unfold vp_in; decide +kernel
theorem plT_rng (row col : Int32) : plT row col = -1 ∨ ∃ p : Nat, p < 9 ∧ plT row col = nI p ∧ tROW p = row ∧ tCOL p = col := by
  by_cases h : row < 0 ∨ 5 ≤ row ∨ col < 0 ∨ 5 ≤ col
  · left; unfold plT; rw [if_pos h]
  · have h1 : ¬ row < 0 := fun q => h (Or.inl q)
    have h2 : ¬ nI 5 ≤ row := fun q => h (Or.inr (Or.inl q))
    have h3 : ¬ col < 0 := fun q => h (Or.inr (Or.inr (Or.inl q)))
    have h4 : ¬ nI 5 ≤ col := fun q => h (Or.inr (Or.inr (Or.inr q)))
    obtain ⟨r, hr, rfl⟩ := rg (by decide) h1 h2
    obtain ⟨c, hc, rfl⟩ := rg (by decide) h3 h4
    rcases (plT_in ⟨r, hr⟩ ⟨c, hc⟩).2 with e | ⟨p, e⟩
    · exact Or.inl e
    · exact Or.inr ⟨p.val, p.isLt, e⟩
theorem plT_of : ∀ p : Fin 9, plT (tROW p.val) (tCOL p.val) = nI p.val := by decide +kernel
theorem plT_row : ∀ p : Fin 9, ∃ r : Fin 5, tROW p.val = nI r.val := by decide +kernel
theorem plT_5 (col : Int32) : plT (nI 5) col = -1 := by unfold plT; rw [if_pos (Or.inr (Or.inl (by decide)))]
/-- who stands in a row and a column, or -1 -/
def whoF (on : Nat → Int32) (up row col : Int32) : Int32 :=
  if plT row col < 0 then -1 else
    if on (plT row col).toNatClampNeg < 0 ∨ 9 ≤ on (plT row col).toNatClampNeg ∨ ¬ (up >>> (on (plT row col).toNatClampNeg &&& 31)) &&& 1 = 1 then -1 else on (plT row col).toNatClampNeg
theorem whoF_rng (on : Nat → Int32) (up row col : Int32) : whoF on up row col = -1 ∨ ∃ s : Nat, s < 9 ∧ whoF on up row col = nI s ∧ ∃ p : Nat, p < 9 ∧ tROW p = row ∧ tCOL p = col ∧ on p = nI s := by
  unfold whoF
  split
  · exact Or.inl rfl
  · rename_i h0
    split
    · exact Or.inl rfl
    · rename_i h
      have h1 : ¬ on (plT row col).toNatClampNeg < 0 := fun q => h (Or.inl q)
      have h2 : ¬ nI 9 ≤ on (plT row col).toNatClampNeg := fun q => h (Or.inr (Or.inl q))
      obtain ⟨s, hs, e⟩ := rg (by decide) h1 h2
      rcases plT_rng row col with e2 | ⟨p, hp, e2, e3, e4⟩
      · rw [e2] at h0; exact absurd (by decide) h0
      · refine Or.inr ⟨s, hs, e, p, hp, e3, e4, ?_⟩
        rw [e2, cl_nI (by omega)] at e
        exact e
theorem s_who {σ : St} {row col : Int32} {P : Int32 → St → Prop} (h : P (whoF (σ 172) (σ 171 5) row col) σ) : w_X5_whoStandsAt row col σ P := by
  have key : ∀ (a : row < 0 ∨ 5 ≤ row ∨ col < 0 ∨ 5 ≤ col), P (-1) σ := by
    intro a
    have e : whoF (σ 172) (σ 171 5) row col = -1 := by
      unfold whoF plT
      rw [if_pos a, if_pos (by decide)]
    rw [e] at h; exact h
  refine ⟨fun c => key (Or.inl c), fun c1 => ⟨fun c => key (Or.inr (Or.inl c)), fun c2 => ⟨fun c => key (Or.inr (Or.inr (Or.inl c))), fun c3 => ⟨fun c4 => ?_, fun c => key (Or.inr (Or.inr (Or.inr (i32nlt c))))⟩⟩⟩⟩
  have hn : ¬ (row < 0 ∨ 5 ≤ row ∨ col < 0 ∨ 5 ≤ col) := by
    rintro (q | q | q | q)
    · exact c1 q
    · exact c2 q
    · exact c3 q
    · exact i32ltn c4 q
  have hpl : plT row col = tPLA (row * 5 + col).toNatClampNeg := by unfold plT; rw [if_neg hn]
  obtain ⟨r, hr, hr2⟩ := rg (n := 5) (by decide) c1 c2
  obtain ⟨c, hc, hc2⟩ := rg (n := 5) (by decide) c3 (i32ltn c4)
  refine ⟨?_, bI ?_⟩
  · rw [hr2, hc2]; exact (plT_in ⟨r, hr⟩ ⟨c, hc⟩).1
  · unfold whoF at h
    rw [hpl] at h
    refine ⟨fun q => ?_, fun q => ⟨fun q2 => ⟨?_, fun q3 => ?_, fun q3 => ⟨fun q4 => ?_, fun q4 => ⟨fun q5 => ?_, fun q5 => ?_⟩⟩⟩, fun q2 => ?_⟩⟩
    · rw [if_pos q] at h; exact h
    · rcases plT_rng row col with e | ⟨p, hp, e, -⟩
      · rw [hpl] at e; rw [e] at q; exact absurd (by decide) q
      · rw [hpl] at e; rw [e]; exact in_nI hp
    · rw [if_neg q, if_pos (Or.inl q3)] at h; exact h
    · rw [if_neg q, if_pos (Or.inr (Or.inl q4))] at h; exact h
    · rw [if_neg q, if_pos (Or.inr (Or.inr q5))] at h; exact h
    · rw [if_neg q, if_neg (by rintro (z | z | z); exact q3 z; exact q4 z; exact z q5)] at h; exact h
    · rcases plT_rng row col with e | ⟨p, hp, e, -⟩
      · rw [hpl] at e; rw [e] at q; exact absurd (by decide) q
      · rw [hpl] at e; rw [e] at q2; exact absurd (nI_lt hp (by decide)) q2
